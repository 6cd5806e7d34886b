/-! constructors, made by con.py -/
theorem OO_K_X0_init_175 {S : Nat → Nat → Bool} (oo : OkS 176 S) : OkS 190 (sU (sU (sU (sU (sU (sU (sU (sU (sU (sU (sU (sU (sU (sU S 175 0) 175 1) 175 4) 175 5) 175 6) 175 7) 175 8) 175 9) 175 10) 175 11) 175 12) 175 13) 175 14) 175 15) := ((((((((((((((oo.up.put (a := 175) (j := 0) (by decide) (by decide +kernel)).up.put (a := 175) (j := 1) (by decide) (by decide +kernel)).up.put (a := 175) (j := 4) (by decide) (by decide +kernel)).up.put (a := 175) (j := 5) (by decide) (by decide +kernel)).up.put (a := 175) (j := 6) (by decide) (by decide +kernel)).up.put (a := 175) (j := 7) (by decide) (by decide +kernel)).up.put (a := 175) (j := 8) (by decide) (by decide +kernel)).up.put (a := 175) (j := 9) (by decide) (by decide +kernel)).up.put (a := 175) (j := 10) (by decide) (by decide +kernel)).up.put (a := 175) (j := 11) (by decide) (by decide +kernel)).up.put (a := 175) (j := 12) (by decide) (by decide +kernel)).up.put (a := 175) (j := 13) (by decide) (by decide +kernel)).up.put (a := 175) (j := 14) (by decide) (by decide +kernel)).up.put (a := 175) (j := 15) (by decide) (by decide +kernel))
theorem ZZ_K_X0_init_175 {u : Mm} (zz : ZrC 176 u) : ZrC 190 (mI u 175 3 3) := (zz.up.up.mI (a := 175) (j := 3) (x := 3) (by decide)).up.up.up.up.up.up.up.up.up.up.up.up
set_option maxRecDepth 100000 in
theorem K_X0_init_175 {X : Xc} {d : Nat} {S : Nat → Nat → Bool} {u : Mm} (had : adOk X) (oo : OkS 176 S) (zz : ZrC 176 u) (hz : ∀ j, u.1 175 j = 0) : CK X (d + 1) yX0_init cX0_init 1 [.ref 175] u 176 S 14 220 (mI u 175 3 3) 190 (sU (sU (sU (sU (sU (sU (sU (sU (sU (sU (sU (sU (sU (sU S 175 0) 175 1) 175 4) 175 5) 175 6) 175 7) 175 8) 175 9) 175 10) 175 11) 175 12) 175 13) 175 14) 175 15) := by
  refine CK_of okK_X0_init rfl oo zz ?_
  intro p e s m args below meth c G hA hr hlk hnm
  have zz00 := zz
  refine C_aload_n (n := 0) (i := 0) (v := 175) G (by decide +kernel) rfl rfl ?_
  refine C_obj (i := 3) (a := 175) (r := []) G (by decide +kernel) (by decide +kernel) (by show 1 ≤ d + 1; omega) (by show 0 + 12 ≤ 64 * (d + 1); omega) ?_
  refine C_aload_n (n := 0) (i := 0) (v := 175) G (by decide +kernel) rfl rfl ?_
  refine C_bipush (n := 32) (v := 32) G (by decide +kernel) rfl ?_
  have oo0 := oo; have zz0 := zz
  refine C_newl (x := 0) (N := 32) G (by decide +kernel) (by decide +kernel) (by decide +kernel) (by decide) hA rfl (by decide) (Nat.le_of_ble_eq_true rfl) (Nat.le_of_ble_eq_true rfl) rfl rfl (fun ad0 n0 => ?_)
  have G := G.nx n0; have oo := oo.up; have zz := zz.up
  refine C_putr (i := 9) (x := 0) (y := 0) (ty := (.array .long)) G (by decide +kernel) (by decide +kernel) (by decide) (by decide) (by decide) (by decide) (Or.inr ⟨(by decide), hnm, rfl⟩) (by decide +kernel) rfl rfl (by decide) (by decide +kernel) (by decide) ?_
  have oo := oo.put (a := 175) (j := 0) (by decide) (by decide +kernel)
  refine C_aload_n (n := 0) (i := 0) (v := 175) G (by decide +kernel) rfl rfl ?_
  refine C_iconst (n := 4) (v := 4) G (by decide +kernel) rfl ?_
  have oo0 := oo; have zz0 := zz
  refine C_newi (x := 0) (N := 4) G (by decide +kernel) (by decide +kernel) (by decide +kernel) (by decide) hA rfl (by decide) (Nat.le_of_ble_eq_true rfl) (Nat.le_of_ble_eq_true rfl) rfl rfl (fun ad1 n1 => ?_)
  have G := G.nx n1; have oo := oo.up; have zz := zz.up
  refine C_putr (i := 15) (x := 0) (y := 1) (ty := (.array .int)) G (by decide +kernel) (by decide +kernel) (by decide) (by decide) (by decide) (by decide) (Or.inr ⟨(by decide), hnm, rfl⟩) (by decide +kernel) rfl rfl (by decide) (by decide +kernel) (by decide) ?_
  have oo := oo.put (a := 175) (j := 1) (by decide) (by decide +kernel)
  refine C_aload_n (n := 0) (i := 0) (v := 175) G (by decide +kernel) rfl rfl ?_
  refine C_iconst (n := 0) (v := 0) G (by decide +kernel) rfl ?_
  refine C_put0 (i := 19) (x := 0) (y := 2) (ty := .int) G (by decide +kernel) (by decide +kernel) (by decide) (by decide) (by decide) (by decide) (Or.inl (by decide)) (by decide +kernel) rfl rfl (Or.inl (by decide)) (hz 2) ?_
  refine C_aload_n (n := 0) (i := 0) (v := 175) G (by decide +kernel) rfl rfl ?_
  refine C_iconst (n := 3) (v := 3) G (by decide +kernel) rfl ?_
  refine C_puti (i := 23) (x := 0) (y := 3) (ty := .int) G (by decide +kernel) (by decide +kernel) (by decide) (by decide) (by decide) (by decide) (Or.inl (by decide)) (by decide +kernel) rfl rfl (by decide) ?_
  have zz := zz.mI (a := 175) (j := 3) (x := 3) (by decide)
  refine C_aload_n (n := 0) (i := 0) (v := 175) G (by decide +kernel) rfl rfl ?_
  refine C_bipush (n := 8) (v := 8) G (by decide +kernel) rfl ?_
  have oo0 := oo; have zz0 := zz
  refine C_newi (x := 0) (N := 8) G (by decide +kernel) (by decide +kernel) (by decide +kernel) (by decide) hA rfl (by decide) (Nat.le_of_ble_eq_true rfl) (Nat.le_of_ble_eq_true rfl) rfl rfl (fun ad2 n2 => ?_)
  have G := G.nx n2; have oo := oo.up; have zz := zz.up
  refine C_putr (i := 26) (x := 0) (y := 4) (ty := (.array .int)) G (by decide +kernel) (by decide +kernel) (by decide) (by decide) (by decide) (by decide) (Or.inr ⟨(by decide), hnm, rfl⟩) (by decide +kernel) rfl rfl (by decide) (by decide +kernel) (by decide) ?_
  have oo := oo.put (a := 175) (j := 4) (by decide) (by decide +kernel)
  refine C_aload_n (n := 0) (i := 0) (v := 175) G (by decide +kernel) rfl rfl ?_
  refine C_bipush (n := 8) (v := 8) G (by decide +kernel) rfl ?_
  have oo0 := oo; have zz0 := zz
  refine C_newi (x := 0) (N := 8) G (by decide +kernel) (by decide +kernel) (by decide +kernel) (by decide) hA rfl (by decide) (Nat.le_of_ble_eq_true rfl) (Nat.le_of_ble_eq_true rfl) rfl rfl (fun ad3 n3 => ?_)
  have G := G.nx n3; have oo := oo.up; have zz := zz.up
  refine C_putr (i := 29) (x := 0) (y := 5) (ty := (.array .int)) G (by decide +kernel) (by decide +kernel) (by decide) (by decide) (by decide) (by decide) (Or.inr ⟨(by decide), hnm, rfl⟩) (by decide +kernel) rfl rfl (by decide) (by decide +kernel) (by decide) ?_
  have oo := oo.put (a := 175) (j := 5) (by decide) (by decide +kernel)
  refine C_aload_n (n := 0) (i := 0) (v := 175) G (by decide +kernel) rfl rfl ?_
  refine C_bipush (n := 8) (v := 8) G (by decide +kernel) rfl ?_
  have oo0 := oo; have zz0 := zz
  refine C_newi (x := 0) (N := 8) G (by decide +kernel) (by decide +kernel) (by decide +kernel) (by decide) hA rfl (by decide) (Nat.le_of_ble_eq_true rfl) (Nat.le_of_ble_eq_true rfl) rfl rfl (fun ad4 n4 => ?_)
  have G := G.nx n4; have oo := oo.up; have zz := zz.up
  refine C_putr (i := 32) (x := 0) (y := 6) (ty := (.array .int)) G (by decide +kernel) (by decide +kernel) (by decide) (by decide) (by decide) (by decide) (Or.inr ⟨(by decide), hnm, rfl⟩) (by decide +kernel) rfl rfl (by decide) (by decide +kernel) (by decide) ?_
  have oo := oo.put (a := 175) (j := 6) (by decide) (by decide +kernel)
  refine C_aload_n (n := 0) (i := 0) (v := 175) G (by decide +kernel) rfl rfl ?_
  refine C_bipush (n := 8) (v := 8) G (by decide +kernel) rfl ?_
  have oo0 := oo; have zz0 := zz
  refine C_newi (x := 0) (N := 8) G (by decide +kernel) (by decide +kernel) (by decide +kernel) (by decide) hA rfl (by decide) (Nat.le_of_ble_eq_true rfl) (Nat.le_of_ble_eq_true rfl) rfl rfl (fun ad5 n5 => ?_)
  have G := G.nx n5; have oo := oo.up; have zz := zz.up
  refine C_putr (i := 35) (x := 0) (y := 7) (ty := (.array .int)) G (by decide +kernel) (by decide +kernel) (by decide) (by decide) (by decide) (by decide) (Or.inr ⟨(by decide), hnm, rfl⟩) (by decide +kernel) rfl rfl (by decide) (by decide +kernel) (by decide) ?_
  have oo := oo.put (a := 175) (j := 7) (by decide) (by decide +kernel)
  refine C_aload_n (n := 0) (i := 0) (v := 175) G (by decide +kernel) rfl rfl ?_
  refine C_bipush (n := 8) (v := 8) G (by decide +kernel) rfl ?_
  have oo0 := oo; have zz0 := zz
  refine C_newi (x := 0) (N := 8) G (by decide +kernel) (by decide +kernel) (by decide +kernel) (by decide) hA rfl (by decide) (Nat.le_of_ble_eq_true rfl) (Nat.le_of_ble_eq_true rfl) rfl rfl (fun ad6 n6 => ?_)
  have G := G.nx n6; have oo := oo.up; have zz := zz.up
  refine C_putr (i := 38) (x := 0) (y := 8) (ty := (.array .int)) G (by decide +kernel) (by decide +kernel) (by decide) (by decide) (by decide) (by decide) (Or.inr ⟨(by decide), hnm, rfl⟩) (by decide +kernel) rfl rfl (by decide) (by decide +kernel) (by decide) ?_
  have oo := oo.put (a := 175) (j := 8) (by decide) (by decide +kernel)
  refine C_aload_n (n := 0) (i := 0) (v := 175) G (by decide +kernel) rfl rfl ?_
  refine C_bipush (n := 8) (v := 8) G (by decide +kernel) rfl ?_
  have oo0 := oo; have zz0 := zz
  refine C_newi (x := 0) (N := 8) G (by decide +kernel) (by decide +kernel) (by decide +kernel) (by decide) hA rfl (by decide) (Nat.le_of_ble_eq_true rfl) (Nat.le_of_ble_eq_true rfl) rfl rfl (fun ad7 n7 => ?_)
  have G := G.nx n7; have oo := oo.up; have zz := zz.up
  refine C_putr (i := 41) (x := 0) (y := 9) (ty := (.array .int)) G (by decide +kernel) (by decide +kernel) (by decide) (by decide) (by decide) (by decide) (Or.inr ⟨(by decide), hnm, rfl⟩) (by decide +kernel) rfl rfl (by decide) (by decide +kernel) (by decide) ?_
  have oo := oo.put (a := 175) (j := 9) (by decide) (by decide +kernel)
  refine C_aload_n (n := 0) (i := 0) (v := 175) G (by decide +kernel) rfl rfl ?_
  refine C_bipush (n := 8) (v := 8) G (by decide +kernel) rfl ?_
  have oo0 := oo; have zz0 := zz
  refine C_newi (x := 0) (N := 8) G (by decide +kernel) (by decide +kernel) (by decide +kernel) (by decide) hA rfl (by decide) (Nat.le_of_ble_eq_true rfl) (Nat.le_of_ble_eq_true rfl) rfl rfl (fun ad8 n8 => ?_)
  have G := G.nx n8; have oo := oo.up; have zz := zz.up
  refine C_putr (i := 44) (x := 0) (y := 10) (ty := (.array .int)) G (by decide +kernel) (by decide +kernel) (by decide) (by decide) (by decide) (by decide) (Or.inr ⟨(by decide), hnm, rfl⟩) (by decide +kernel) rfl rfl (by decide) (by decide +kernel) (by decide) ?_
  have oo := oo.put (a := 175) (j := 10) (by decide) (by decide +kernel)
  refine C_aload_n (n := 0) (i := 0) (v := 175) G (by decide +kernel) rfl rfl ?_
  refine C_bipush (n := 40) (v := 40) G (by decide +kernel) rfl ?_
  have oo0 := oo; have zz0 := zz
  refine C_newi (x := 0) (N := 40) G (by decide +kernel) (by decide +kernel) (by decide +kernel) (by decide) hA rfl (by decide) (Nat.le_of_ble_eq_true rfl) (Nat.le_of_ble_eq_true rfl) rfl rfl (fun ad9 n9 => ?_)
  have G := G.nx n9; have oo := oo.up; have zz := zz.up
  refine C_putr (i := 47) (x := 0) (y := 11) (ty := (.array .int)) G (by decide +kernel) (by decide +kernel) (by decide) (by decide) (by decide) (by decide) (Or.inr ⟨(by decide), hnm, rfl⟩) (by decide +kernel) rfl rfl (by decide) (by decide +kernel) (by decide) ?_
  have oo := oo.put (a := 175) (j := 11) (by decide) (by decide +kernel)
  refine C_aload_n (n := 0) (i := 0) (v := 175) G (by decide +kernel) rfl rfl ?_
  refine C_bipush (n := 64) (v := 64) G (by decide +kernel) rfl ?_
  have oo0 := oo; have zz0 := zz
  refine C_newi (x := 0) (N := 64) G (by decide +kernel) (by decide +kernel) (by decide +kernel) (by decide) hA rfl (by decide) (Nat.le_of_ble_eq_true rfl) (Nat.le_of_ble_eq_true rfl) rfl rfl (fun ad10 n10 => ?_)
  have G := G.nx n10; have oo := oo.up; have zz := zz.up
  refine C_putr (i := 50) (x := 0) (y := 12) (ty := (.array .int)) G (by decide +kernel) (by decide +kernel) (by decide) (by decide) (by decide) (by decide) (Or.inr ⟨(by decide), hnm, rfl⟩) (by decide +kernel) rfl rfl (by decide) (by decide +kernel) (by decide) ?_
  have oo := oo.put (a := 175) (j := 12) (by decide) (by decide +kernel)
  refine C_aload_n (n := 0) (i := 0) (v := 175) G (by decide +kernel) rfl rfl ?_
  refine C_bipush (n := 8) (v := 8) G (by decide +kernel) rfl ?_
  have oo0 := oo; have zz0 := zz
  refine C_newi (x := 0) (N := 8) G (by decide +kernel) (by decide +kernel) (by decide +kernel) (by decide) hA rfl (by decide) (Nat.le_of_ble_eq_true rfl) (Nat.le_of_ble_eq_true rfl) rfl rfl (fun ad11 n11 => ?_)
  have G := G.nx n11; have oo := oo.up; have zz := zz.up
  refine C_putr (i := 53) (x := 0) (y := 13) (ty := (.array .int)) G (by decide +kernel) (by decide +kernel) (by decide) (by decide) (by decide) (by decide) (Or.inr ⟨(by decide), hnm, rfl⟩) (by decide +kernel) rfl rfl (by decide) (by decide +kernel) (by decide) ?_
  have oo := oo.put (a := 175) (j := 13) (by decide) (by decide +kernel)
  refine C_aload_n (n := 0) (i := 0) (v := 175) G (by decide +kernel) rfl rfl ?_
  refine C_bipush (n := 8) (v := 8) G (by decide +kernel) rfl ?_
  have oo0 := oo; have zz0 := zz
  refine C_newi (x := 0) (N := 8) G (by decide +kernel) (by decide +kernel) (by decide +kernel) (by decide) hA rfl (by decide) (Nat.le_of_ble_eq_true rfl) (Nat.le_of_ble_eq_true rfl) rfl rfl (fun ad12 n12 => ?_)
  have G := G.nx n12; have oo := oo.up; have zz := zz.up
  refine C_putr (i := 56) (x := 0) (y := 14) (ty := (.array .int)) G (by decide +kernel) (by decide +kernel) (by decide) (by decide) (by decide) (by decide) (Or.inr ⟨(by decide), hnm, rfl⟩) (by decide +kernel) rfl rfl (by decide) (by decide +kernel) (by decide) ?_
  have oo := oo.put (a := 175) (j := 14) (by decide) (by decide +kernel)
  refine C_aload_n (n := 0) (i := 0) (v := 175) G (by decide +kernel) rfl rfl ?_
  refine C_bipush (n := 8) (v := 8) G (by decide +kernel) rfl ?_
  have oo0 := oo; have zz0 := zz
  refine C_newi (x := 0) (N := 8) G (by decide +kernel) (by decide +kernel) (by decide +kernel) (by decide) hA rfl (by decide) (Nat.le_of_ble_eq_true rfl) (Nat.le_of_ble_eq_true rfl) rfl rfl (fun ad13 n13 => ?_)
  have G := G.nx n13; have oo := oo.up; have zz := zz.up
  refine C_putr (i := 59) (x := 0) (y := 15) (ty := (.array .int)) G (by decide +kernel) (by decide +kernel) (by decide) (by decide) (by decide) (by decide) (Or.inr ⟨(by decide), hnm, rfl⟩) (by decide +kernel) rfl rfl (by decide) (by decide +kernel) (by decide) ?_
  have oo := oo.put (a := 175) (j := 15) (by decide) (by decide +kernel)
  exact C_ret (X0 := X) (ad := ad13) G hr hlk (((((((((((((n0.tr n1 (by decide)).tr n2 (by decide)).tr n3 (by decide)).tr n4 (by decide)).tr n5 (by decide)).tr n6 (by decide)).tr n7 (by decide)).tr n8 (by decide)).tr n9 (by decide)).tr n10 (by decide)).tr n11 (by decide)).tr n12 (by decide)).tr n13 (by decide)) (by decide +kernel)
theorem OO_K_X4_init_190 {S : Nat → Nat → Bool} (oo : OkS 191 S) : OkS 199 (sU (sU (sU (sU (sU (sU (sU (sU (sU S 190 5) 190 6) 190 7) 190 8) 190 9) 190 10) 190 11) 190 12) 190 0) := (((((((((oo.up.put (a := 190) (j := 5) (by decide) (by decide +kernel)).up.put (a := 190) (j := 6) (by decide) (by decide +kernel)).up.put (a := 190) (j := 7) (by decide) (by decide +kernel)).up.put (a := 190) (j := 8) (by decide) (by decide +kernel)).up.put (a := 190) (j := 9) (by decide) (by decide +kernel)).up.put (a := 190) (j := 10) (by decide) (by decide +kernel)).up.put (a := 190) (j := 11) (by decide) (by decide +kernel)).up.put (a := 190) (j := 12) (by decide) (by decide +kernel)).put (a := 190) (j := 0) (by decide) (by decide +kernel))
theorem ZZ_K_X4_init_190 {u : Mm} (zz : ZrC 191 u) : ZrC 199 (u) := zz.up.up.up.up.up.up.up.up
set_option maxRecDepth 100000 in
theorem K_X4_init_190 {X : Xc} {d : Nat} {S : Nat → Nat → Bool} {u : Mm} (had : adOk X) (oo : OkS 191 S) (zz : ZrC 191 u) (hz : ∀ j, u.1 190 j = 0) : CK X (d + 1) yX4_init cX4_init 2 [.ref 190, .ref 175] u 191 S 8 96 (u) 199 (sU (sU (sU (sU (sU (sU (sU (sU (sU S 190 5) 190 6) 190 7) 190 8) 190 9) 190 10) 190 11) 190 12) 190 0) := by
  refine CK_of okK_X4_init rfl oo zz ?_
  intro p e s m args below meth c G hA hr hlk hnm
  have zz00 := zz
  refine C_aload_n (n := 0) (i := 0) (v := 190) G (by decide +kernel) rfl rfl ?_
  refine C_obj (i := 3) (a := 190) (r := []) G (by decide +kernel) (by decide +kernel) (by show 1 ≤ d + 1; omega) (by show 0 + 12 ≤ 64 * (d + 1); omega) ?_
  refine C_aload_n (n := 0) (i := 0) (v := 190) G (by decide +kernel) rfl rfl ?_
  refine C_iconst (n := 0) (v := 0) G (by decide +kernel) rfl ?_
  refine C_put0 (i := 9) (x := 4) (y := 1) (ty := .int) G (by decide +kernel) (by decide +kernel) (by decide) (by decide) (by decide) (by decide) (Or.inl (by decide)) (by decide +kernel) rfl rfl (Or.inl (by decide)) (hz 1) ?_
  refine C_aload_n (n := 0) (i := 0) (v := 190) G (by decide +kernel) rfl rfl ?_
  refine C_iconst (n := 0) (v := 0) G (by decide +kernel) rfl ?_
  refine C_put0 (i := 15) (x := 4) (y := 2) (ty := .int) G (by decide +kernel) (by decide +kernel) (by decide) (by decide) (by decide) (by decide) (Or.inl (by decide)) (by decide +kernel) rfl rfl (Or.inl (by decide)) (hz 2) ?_
  refine C_aload_n (n := 0) (i := 0) (v := 190) G (by decide +kernel) rfl rfl ?_
  refine C_iconst (n := 0) (v := 0) G (by decide +kernel) rfl ?_
  refine C_put0 (i := 18) (x := 4) (y := 3) (ty := .int) G (by decide +kernel) (by decide +kernel) (by decide) (by decide) (by decide) (by decide) (Or.inl (by decide)) (by decide +kernel) rfl rfl (Or.inl (by decide)) (hz 3) ?_
  refine C_aload_n (n := 0) (i := 0) (v := 190) G (by decide +kernel) rfl rfl ?_
  refine C_iconst (n := 0) (v := 0) G (by decide +kernel) rfl ?_
  refine C_put0 (i := 21) (x := 4) (y := 4) (ty := .int) G (by decide +kernel) (by decide +kernel) (by decide) (by decide) (by decide) (by decide) (Or.inl (by decide)) (by decide +kernel) rfl rfl (Or.inl (by decide)) (hz 4) ?_
  refine C_aload_n (n := 0) (i := 0) (v := 190) G (by decide +kernel) rfl rfl ?_
  refine C_bipush (n := 8) (v := 8) G (by decide +kernel) rfl ?_
  have oo0 := oo; have zz0 := zz
  refine C_newi (x := 0) (N := 8) G (by decide +kernel) (by decide +kernel) (by decide +kernel) (by decide) hA rfl (by decide) (Nat.le_of_ble_eq_true rfl) (Nat.le_of_ble_eq_true rfl) rfl rfl (fun ad0 n0 => ?_)
  have G := G.nx n0; have oo := oo.up; have zz := zz.up
  refine C_putr (i := 24) (x := 4) (y := 5) (ty := (.array .int)) G (by decide +kernel) (by decide +kernel) (by decide) (by decide) (by decide) (by decide) (Or.inr ⟨(by decide), hnm, rfl⟩) (by decide +kernel) rfl rfl (by decide) (by decide +kernel) (by decide) ?_
  have oo := oo.put (a := 190) (j := 5) (by decide) (by decide +kernel)
  refine C_aload_n (n := 0) (i := 0) (v := 190) G (by decide +kernel) rfl rfl ?_
  refine C_bipush (n := 8) (v := 8) G (by decide +kernel) rfl ?_
  have oo0 := oo; have zz0 := zz
  refine C_newi (x := 0) (N := 8) G (by decide +kernel) (by decide +kernel) (by decide +kernel) (by decide) hA rfl (by decide) (Nat.le_of_ble_eq_true rfl) (Nat.le_of_ble_eq_true rfl) rfl rfl (fun ad1 n1 => ?_)
  have G := G.nx n1; have oo := oo.up; have zz := zz.up
  refine C_putr (i := 28) (x := 4) (y := 6) (ty := (.array .int)) G (by decide +kernel) (by decide +kernel) (by decide) (by decide) (by decide) (by decide) (Or.inr ⟨(by decide), hnm, rfl⟩) (by decide +kernel) rfl rfl (by decide) (by decide +kernel) (by decide) ?_
  have oo := oo.put (a := 190) (j := 6) (by decide) (by decide +kernel)
  refine C_aload_n (n := 0) (i := 0) (v := 190) G (by decide +kernel) rfl rfl ?_
  refine C_bipush (n := 8) (v := 8) G (by decide +kernel) rfl ?_
  have oo0 := oo; have zz0 := zz
  refine C_newi (x := 0) (N := 8) G (by decide +kernel) (by decide +kernel) (by decide +kernel) (by decide) hA rfl (by decide) (Nat.le_of_ble_eq_true rfl) (Nat.le_of_ble_eq_true rfl) rfl rfl (fun ad2 n2 => ?_)
  have G := G.nx n2; have oo := oo.up; have zz := zz.up
  refine C_putr (i := 31) (x := 4) (y := 7) (ty := (.array .int)) G (by decide +kernel) (by decide +kernel) (by decide) (by decide) (by decide) (by decide) (Or.inr ⟨(by decide), hnm, rfl⟩) (by decide +kernel) rfl rfl (by decide) (by decide +kernel) (by decide) ?_
  have oo := oo.put (a := 190) (j := 7) (by decide) (by decide +kernel)
  refine C_aload_n (n := 0) (i := 0) (v := 190) G (by decide +kernel) rfl rfl ?_
  refine C_bipush (n := 8) (v := 8) G (by decide +kernel) rfl ?_
  have oo0 := oo; have zz0 := zz
  refine C_newi (x := 0) (N := 8) G (by decide +kernel) (by decide +kernel) (by decide +kernel) (by decide) hA rfl (by decide) (Nat.le_of_ble_eq_true rfl) (Nat.le_of_ble_eq_true rfl) rfl rfl (fun ad3 n3 => ?_)
  have G := G.nx n3; have oo := oo.up; have zz := zz.up
  refine C_putr (i := 34) (x := 4) (y := 8) (ty := (.array .int)) G (by decide +kernel) (by decide +kernel) (by decide) (by decide) (by decide) (by decide) (Or.inr ⟨(by decide), hnm, rfl⟩) (by decide +kernel) rfl rfl (by decide) (by decide +kernel) (by decide) ?_
  have oo := oo.put (a := 190) (j := 8) (by decide) (by decide +kernel)
  refine C_aload_n (n := 0) (i := 0) (v := 190) G (by decide +kernel) rfl rfl ?_
  refine C_bipush (n := 8) (v := 8) G (by decide +kernel) rfl ?_
  have oo0 := oo; have zz0 := zz
  refine C_newi (x := 0) (N := 8) G (by decide +kernel) (by decide +kernel) (by decide +kernel) (by decide) hA rfl (by decide) (Nat.le_of_ble_eq_true rfl) (Nat.le_of_ble_eq_true rfl) rfl rfl (fun ad4 n4 => ?_)
  have G := G.nx n4; have oo := oo.up; have zz := zz.up
  refine C_putr (i := 37) (x := 4) (y := 9) (ty := (.array .int)) G (by decide +kernel) (by decide +kernel) (by decide) (by decide) (by decide) (by decide) (Or.inr ⟨(by decide), hnm, rfl⟩) (by decide +kernel) rfl rfl (by decide) (by decide +kernel) (by decide) ?_
  have oo := oo.put (a := 190) (j := 9) (by decide) (by decide +kernel)
  refine C_aload_n (n := 0) (i := 0) (v := 190) G (by decide +kernel) rfl rfl ?_
  refine C_bipush (n := 8) (v := 8) G (by decide +kernel) rfl ?_
  have oo0 := oo; have zz0 := zz
  refine C_newi (x := 0) (N := 8) G (by decide +kernel) (by decide +kernel) (by decide +kernel) (by decide) hA rfl (by decide) (Nat.le_of_ble_eq_true rfl) (Nat.le_of_ble_eq_true rfl) rfl rfl (fun ad5 n5 => ?_)
  have G := G.nx n5; have oo := oo.up; have zz := zz.up
  refine C_putr (i := 40) (x := 4) (y := 10) (ty := (.array .int)) G (by decide +kernel) (by decide +kernel) (by decide) (by decide) (by decide) (by decide) (Or.inr ⟨(by decide), hnm, rfl⟩) (by decide +kernel) rfl rfl (by decide) (by decide +kernel) (by decide) ?_
  have oo := oo.put (a := 190) (j := 10) (by decide) (by decide +kernel)
  refine C_aload_n (n := 0) (i := 0) (v := 190) G (by decide +kernel) rfl rfl ?_
  refine C_bipush (n := 8) (v := 8) G (by decide +kernel) rfl ?_
  have oo0 := oo; have zz0 := zz
  refine C_newi (x := 0) (N := 8) G (by decide +kernel) (by decide +kernel) (by decide +kernel) (by decide) hA rfl (by decide) (Nat.le_of_ble_eq_true rfl) (Nat.le_of_ble_eq_true rfl) rfl rfl (fun ad6 n6 => ?_)
  have G := G.nx n6; have oo := oo.up; have zz := zz.up
  refine C_putr (i := 43) (x := 4) (y := 11) (ty := (.array .int)) G (by decide +kernel) (by decide +kernel) (by decide) (by decide) (by decide) (by decide) (Or.inr ⟨(by decide), hnm, rfl⟩) (by decide +kernel) rfl rfl (by decide) (by decide +kernel) (by decide) ?_
  have oo := oo.put (a := 190) (j := 11) (by decide) (by decide +kernel)
  refine C_aload_n (n := 0) (i := 0) (v := 190) G (by decide +kernel) rfl rfl ?_
  refine C_bipush (n := 40) (v := 40) G (by decide +kernel) rfl ?_
  have oo0 := oo; have zz0 := zz
  refine C_newi (x := 0) (N := 40) G (by decide +kernel) (by decide +kernel) (by decide +kernel) (by decide) hA rfl (by decide) (Nat.le_of_ble_eq_true rfl) (Nat.le_of_ble_eq_true rfl) rfl rfl (fun ad7 n7 => ?_)
  have G := G.nx n7; have oo := oo.up; have zz := zz.up
  refine C_putr (i := 46) (x := 4) (y := 12) (ty := (.array .int)) G (by decide +kernel) (by decide +kernel) (by decide) (by decide) (by decide) (by decide) (Or.inr ⟨(by decide), hnm, rfl⟩) (by decide +kernel) rfl rfl (by decide) (by decide +kernel) (by decide) ?_
  have oo := oo.put (a := 190) (j := 12) (by decide) (by decide +kernel)
  refine C_aload_n (n := 0) (i := 0) (v := 190) G (by decide +kernel) rfl rfl ?_
  refine C_iconst (n := 0) (v := 0) G (by decide +kernel) rfl ?_
  refine C_put0 (i := 49) (x := 4) (y := 13) (ty := .int) G (by decide +kernel) (by decide +kernel) (by decide) (by decide) (by decide) (by decide) (Or.inl (by decide)) (by decide +kernel) rfl rfl (Or.inl (by decide)) (hz 13) ?_
  refine C_aload_n (n := 0) (i := 0) (v := 190) G (by decide +kernel) rfl rfl ?_
  refine C_iconst (n := 0) (v := 0) G (by decide +kernel) rfl ?_
  refine C_put0 (i := 52) (x := 4) (y := 14) (ty := .int) G (by decide +kernel) (by decide +kernel) (by decide) (by decide) (by decide) (by decide) (Or.inl (by decide)) (by decide +kernel) rfl rfl (Or.inl (by decide)) (hz 14) ?_
  refine C_aload_n (n := 0) (i := 0) (v := 190) G (by decide +kernel) rfl rfl ?_
  refine C_aload_n (n := 1) (i := 1) (v := 175) G (by decide +kernel) rfl rfl ?_
  refine C_putr (i := 55) (x := 4) (y := 0) (ty := (.object "StatueRent$City")) G (by decide +kernel) (by decide +kernel) (by decide) (by decide) (by decide) (by decide) (Or.inr ⟨(by decide), hnm, rfl⟩) (by decide +kernel) rfl rfl (by decide) (by decide +kernel) (by decide) ?_
  have oo := oo.put (a := 190) (j := 0) (by decide) (by decide +kernel)
  exact C_ret (X0 := X) (ad := ad7) G hr hlk (((((((n0.tr n1 (by decide)).tr n2 (by decide)).tr n3 (by decide)).tr n4 (by decide)).tr n5 (by decide)).tr n6 (by decide)).tr n7 (by decide)) (by decide +kernel)
theorem OO_K_X8_init_199 {S : Nat → Nat → Bool} (oo : OkS 200 S) : OkS 204 (sU (sU (sU (sU S 199 1) 199 2) 199 3) 199 4) := ((((oo.up.put (a := 199) (j := 1) (by decide) (by decide +kernel)).up.put (a := 199) (j := 2) (by decide) (by decide +kernel)).up.put (a := 199) (j := 3) (by decide) (by decide +kernel)).up.put (a := 199) (j := 4) (by decide) (by decide +kernel))
theorem ZZ_K_X8_init_199 {u : Mm} (zz : ZrC 200 u) : ZrC 204 (u) := zz.up.up.up.up
set_option maxRecDepth 100000 in
theorem K_X8_init_199 {X : Xc} {d : Nat} {S : Nat → Nat → Bool} {u : Mm} (had : adOk X) (oo : OkS 200 S) (zz : ZrC 200 u) (hz : ∀ j, u.1 199 j = 0) : CK X (d + 1) yX8_init cX8_init 1 [.ref 199] u 200 S 4 140 (u) 204 (sU (sU (sU (sU S 199 1) 199 2) 199 3) 199 4) := by
  refine CK_of okK_X8_init rfl oo zz ?_
  intro p e s m args below meth c G hA hr hlk hnm
  have zz00 := zz
  refine C_aload_n (n := 0) (i := 0) (v := 199) G (by decide +kernel) rfl rfl ?_
  refine C_obj (i := 3) (a := 199) (r := []) G (by decide +kernel) (by decide +kernel) (by show 1 ≤ d + 1; omega) (by show 0 + 12 ≤ 64 * (d + 1); omega) ?_
  refine C_aload_n (n := 0) (i := 0) (v := 199) G (by decide +kernel) rfl rfl ?_
  refine C_iconst (n := 0) (v := 0) G (by decide +kernel) rfl ?_
  refine C_put0 (i := 9) (x := 8) (y := 0) (ty := .int) G (by decide +kernel) (by decide +kernel) (by decide) (by decide) (by decide) (by decide) (Or.inl (by decide)) (by decide +kernel) rfl rfl (Or.inl (by decide)) (hz 0) ?_
  refine C_aload_n (n := 0) (i := 0) (v := 199) G (by decide +kernel) rfl rfl ?_
  refine C_bipush (n := 40) (v := 40) G (by decide +kernel) rfl ?_
  have oo0 := oo; have zz0 := zz
  refine C_newi (x := 0) (N := 40) G (by decide +kernel) (by decide +kernel) (by decide +kernel) (by decide) hA rfl (by decide) (Nat.le_of_ble_eq_true rfl) (Nat.le_of_ble_eq_true rfl) rfl rfl (fun ad0 n0 => ?_)
  have G := G.nx n0; have oo := oo.up; have zz := zz.up
  refine C_putr (i := 15) (x := 8) (y := 1) (ty := (.array .int)) G (by decide +kernel) (by decide +kernel) (by decide) (by decide) (by decide) (by decide) (Or.inr ⟨(by decide), hnm, rfl⟩) (by decide +kernel) rfl rfl (by decide) (by decide +kernel) (by decide) ?_
  have oo := oo.put (a := 199) (j := 1) (by decide) (by decide +kernel)
  refine C_aload_n (n := 0) (i := 0) (v := 199) G (by decide +kernel) rfl rfl ?_
  refine C_bipush (n := 40) (v := 40) G (by decide +kernel) rfl ?_
  have oo0 := oo; have zz0 := zz
  refine C_newi (x := 0) (N := 40) G (by decide +kernel) (by decide +kernel) (by decide +kernel) (by decide) hA rfl (by decide) (Nat.le_of_ble_eq_true rfl) (Nat.le_of_ble_eq_true rfl) rfl rfl (fun ad1 n1 => ?_)
  have G := G.nx n1; have oo := oo.up; have zz := zz.up
  refine C_putr (i := 19) (x := 8) (y := 2) (ty := (.array .int)) G (by decide +kernel) (by decide +kernel) (by decide) (by decide) (by decide) (by decide) (Or.inr ⟨(by decide), hnm, rfl⟩) (by decide +kernel) rfl rfl (by decide) (by decide +kernel) (by decide) ?_
  have oo := oo.put (a := 199) (j := 2) (by decide) (by decide +kernel)
  refine C_aload_n (n := 0) (i := 0) (v := 199) G (by decide +kernel) rfl rfl ?_
  refine C_bipush (n := 40) (v := 40) G (by decide +kernel) rfl ?_
  have oo0 := oo; have zz0 := zz
  refine C_newi (x := 0) (N := 40) G (by decide +kernel) (by decide +kernel) (by decide +kernel) (by decide) hA rfl (by decide) (Nat.le_of_ble_eq_true rfl) (Nat.le_of_ble_eq_true rfl) rfl rfl (fun ad2 n2 => ?_)
  have G := G.nx n2; have oo := oo.up; have zz := zz.up
  refine C_putr (i := 22) (x := 8) (y := 3) (ty := (.array .int)) G (by decide +kernel) (by decide +kernel) (by decide) (by decide) (by decide) (by decide) (Or.inr ⟨(by decide), hnm, rfl⟩) (by decide +kernel) rfl rfl (by decide) (by decide +kernel) (by decide) ?_
  have oo := oo.put (a := 199) (j := 3) (by decide) (by decide +kernel)
  refine C_aload_n (n := 0) (i := 0) (v := 199) G (by decide +kernel) rfl rfl ?_
  refine C_bipush (n := 20) (v := 20) G (by decide +kernel) rfl ?_
  have oo0 := oo; have zz0 := zz
  refine C_newi (x := 0) (N := 20) G (by decide +kernel) (by decide +kernel) (by decide +kernel) (by decide) hA rfl (by decide) (Nat.le_of_ble_eq_true rfl) (Nat.le_of_ble_eq_true rfl) rfl rfl (fun ad3 n3 => ?_)
  have G := G.nx n3; have oo := oo.up; have zz := zz.up
  refine C_putr (i := 25) (x := 8) (y := 4) (ty := (.array .int)) G (by decide +kernel) (by decide +kernel) (by decide) (by decide) (by decide) (by decide) (Or.inr ⟨(by decide), hnm, rfl⟩) (by decide +kernel) rfl rfl (by decide) (by decide +kernel) (by decide) ?_
  have oo := oo.put (a := 199) (j := 4) (by decide) (by decide +kernel)
  exact C_ret (X0 := X) (ad := ad3) G hr hlk (((n0.tr n1 (by decide)).tr n2 (by decide)).tr n3 (by decide)) (by decide +kernel)
theorem OO_K_X11_init_174 {S : Nat → Nat → Bool} (oo : OkS 175 S) : OkS 204 (sU (sU (sU (sU (sU (sU (sU (sU (sU (sU (sU (sU (sU (sU (sU (sU (sU (sU (sU (sU (sU (sU (sU (sU (sU (sU (sU (sU (sU (sU S 175 0) 175 1) 175 4) 175 5) 175 6) 175 7) 175 8) 175 9) 175 10) 175 11) 175 12) 175 13) 175 14) 175 15) 174 0) 190 5) 190 6) 190 7) 190 8) 190 9) 190 10) 190 11) 190 12) 190 0) 174 1) 199 1) 199 2) 199 3) 199 4) 174 2) := ((OO_K_X8_init_199 ((OO_K_X4_init_190 ((OO_K_X0_init_175 oo.up).put (a := 174) (j := 0) (by decide) (by decide +kernel)).up).put (a := 174) (j := 1) (by decide) (by decide +kernel)).up).put (a := 174) (j := 2) (by decide) (by decide +kernel))
theorem ZZ_K_X11_init_174 {u : Mm} (zz : ZrC 175 u) : ZrC 204 ((mI u 175 3 3)) := (ZZ_K_X8_init_199 (ZZ_K_X4_init_190 (ZZ_K_X0_init_175 zz.up).up).up)
set_option maxRecDepth 100000 in
theorem K_X11_init_174 {X : Xc} {d : Nat} {S : Nat → Nat → Bool} {u : Mm} (had : adOk X) (oo : OkS 175 S) (zz : ZrC 175 u) (hz : ∀ j, u.1 174 j = 0) : CK X (d + 2) yX11_init cX11_init 1 [.ref 174] u 175 S 29 492 ((mI u 175 3 3)) 204 (sU (sU (sU (sU (sU (sU (sU (sU (sU (sU (sU (sU (sU (sU (sU (sU (sU (sU (sU (sU (sU (sU (sU (sU (sU (sU (sU (sU (sU (sU S 175 0) 175 1) 175 4) 175 5) 175 6) 175 7) 175 8) 175 9) 175 10) 175 11) 175 12) 175 13) 175 14) 175 15) 174 0) 190 5) 190 6) 190 7) 190 8) 190 9) 190 10) 190 11) 190 12) 190 0) 174 1) 199 1) 199 2) 199 3) 199 4) 174 2) := by
  refine CK_of okK_X11_init rfl oo zz ?_
  intro p e s m args below meth c G hA hr hlk hnm
  have zz00 := zz
  refine C_aload_n (n := 0) (i := 0) (v := 174) G (by decide +kernel) rfl rfl ?_
  refine C_obj (i := 1) (a := 174) (r := []) G (by decide +kernel) (by decide +kernel) (by show 1 ≤ d + 2; omega) (by show 0 + 12 ≤ 64 * (d + 2); omega) ?_
  refine C_aload_n (n := 0) (i := 0) (v := 174) G (by decide +kernel) rfl rfl ?_
  have hz175 : ∀ j, u.1 175 j = 0 := fun j => congrFun (zz 175 (Nat.le_refl _)).1 j
  have hy175 : ∀ j, u.2 175 j = 0 := fun j => congrFun (zz 175 (Nat.le_refl _)).2 j
  refine C_new (i := 7) (x := 0) G (by decide +kernel) (by decide +kernel) (by decide) (by decide) ⟨(by decide +kernel), (by decide +kernel), (by decide +kernel)⟩ hA (Nat.le_of_ble_eq_true rfl) (Nat.le_of_ble_eq_true rfl) rfl rfl (fun ad0 n0 => ?_)
  have G := G.nx n0; have oo := oo.up; have zz := zz.up
  refine C_dup_r G (by decide +kernel) ?_
  refine C_callN (y := yX0_init) (bytes := cX0_init) (maxL := 1) (i := 9) (d := d + 1) (a := 175) (as := []) (r := [.ref 175, .ref 174]) G okK_X0_init ⟨rfl, (by decide +kernel)⟩ (by decide +kernel) (Nat.le_refl _) (Nat.le_refl _) ⟨Nat.le_of_ble_eq_true rfl, Nat.le_of_ble_eq_true rfl⟩ hA (K_X0_init_175 (d := d) G.ad oo zz hz175) rfl (by decide) (by decide +kernel) rfl rfl OO_K_X0_init_175 ZZ_K_X0_init_175 (fun ad1 n1 => ?_)
  have G := G.nx n1; have oo := OO_K_X0_init_175 oo; have zz := ZZ_K_X0_init_175 zz
  refine C_putr (i := 10) (x := 11) (y := 0) (ty := (.object "StatueRent$City")) G (by decide +kernel) (by decide +kernel) (by decide) (by decide) (by decide) (by decide) (Or.inr ⟨(by decide), hnm, rfl⟩) (by decide +kernel) rfl rfl (by decide) (by decide +kernel) (by decide) ?_
  have oo := oo.put (a := 174) (j := 0) (by decide) (by decide +kernel)
  refine C_aload_n (n := 0) (i := 0) (v := 174) G (by decide +kernel) rfl rfl ?_
  have hz190 : ∀ j, (mI u 175 3 3).1 190 j = 0 := fun j => congrFun (zz 190 (Nat.le_refl _)).1 j
  have hy190 : ∀ j, (mI u 175 3 3).2 190 j = 0 := fun j => congrFun (zz 190 (Nat.le_refl _)).2 j
  refine C_new (i := 16) (x := 4) G (by decide +kernel) (by decide +kernel) (by decide) (by decide) ⟨(by decide +kernel), (by decide +kernel), (by decide +kernel)⟩ hA (Nat.le_of_ble_eq_true rfl) (Nat.le_of_ble_eq_true rfl) rfl rfl (fun ad2 n2 => ?_)
  have G := G.nx n2; have oo := oo.up; have zz := zz.up
  refine C_dup_r G (by decide +kernel) ?_
  refine C_aload_n (n := 0) (i := 0) (v := 174) G (by decide +kernel) rfl rfl ?_
  refine C_getf (i := 10) (x := 11) (y := 0) (v := .ref 175) G (by decide +kernel) (by decide +kernel) (by decide) (by decide) (by decide) rfl ?_
  refine C_call (y := yX4_init) (bytes := cX4_init) (maxL := 2) (i := 18) (d := d + 1) (a := 190) (as := [.ref 175]) (r := [.ref 190, .ref 174]) G okK_X4_init ⟨rfl, (by decide +kernel)⟩ (by decide +kernel) (Nat.le_refl _) (Nat.le_refl _) ⟨Nat.le_of_ble_eq_true rfl, Nat.le_of_ble_eq_true rfl⟩ hA (K_X4_init_190 (d := d) G.ad oo zz hz190) rfl (by decide) (by decide +kernel) rfl rfl OO_K_X4_init_190 ZZ_K_X4_init_190 (fun ad3 n3 => ?_)
  have G := G.nx n3; have oo := OO_K_X4_init_190 oo; have zz := ZZ_K_X4_init_190 zz
  refine C_putr (i := 21) (x := 11) (y := 1) (ty := (.object "StatueRent$Life")) G (by decide +kernel) (by decide +kernel) (by decide) (by decide) (by decide) (by decide) (Or.inr ⟨(by decide), hnm, rfl⟩) (by decide +kernel) rfl rfl (by decide) (by decide +kernel) (by decide) ?_
  have oo := oo.put (a := 174) (j := 1) (by decide) (by decide +kernel)
  refine C_aload_n (n := 0) (i := 0) (v := 174) G (by decide +kernel) rfl rfl ?_
  have hz199 : ∀ j, (mI u 175 3 3).1 199 j = 0 := fun j => congrFun (zz 199 (Nat.le_refl _)).1 j
  have hy199 : ∀ j, (mI u 175 3 3).2 199 j = 0 := fun j => congrFun (zz 199 (Nat.le_refl _)).2 j
  refine C_new (i := 25) (x := 8) G (by decide +kernel) (by decide +kernel) (by decide) (by decide) ⟨(by decide +kernel), (by decide +kernel), (by decide +kernel)⟩ hA (Nat.le_of_ble_eq_true rfl) (Nat.le_of_ble_eq_true rfl) rfl rfl (fun ad4 n4 => ?_)
  have G := G.nx n4; have oo := oo.up; have zz := zz.up
  refine C_dup_r G (by decide +kernel) ?_
  refine C_callN (y := yX8_init) (bytes := cX8_init) (maxL := 1) (i := 27) (d := d + 1) (a := 199) (as := []) (r := [.ref 199, .ref 174]) G okK_X8_init ⟨rfl, (by decide +kernel)⟩ (by decide +kernel) (Nat.le_refl _) (Nat.le_refl _) ⟨Nat.le_of_ble_eq_true rfl, Nat.le_of_ble_eq_true rfl⟩ hA (K_X8_init_199 (d := d) G.ad oo zz hz199) rfl (by decide) (by decide +kernel) rfl rfl OO_K_X8_init_199 ZZ_K_X8_init_199 (fun ad5 n5 => ?_)
  have G := G.nx n5; have oo := OO_K_X8_init_199 oo; have zz := ZZ_K_X8_init_199 zz
  refine C_putr (i := 28) (x := 11) (y := 2) (ty := (.object "StatueRent$Sentence")) G (by decide +kernel) (by decide +kernel) (by decide) (by decide) (by decide) (by decide) (Or.inr ⟨(by decide), hnm, rfl⟩) (by decide +kernel) rfl rfl (by decide) (by decide +kernel) (by decide) ?_
  have oo := oo.put (a := 174) (j := 2) (by decide) (by decide +kernel)
  exact C_ret (X0 := X) (ad := ad5) G hr hlk (((((n0.tr n1 (by decide)).tr n2 (by decide)).tr n3 (by decide)).tr n4 (by decide)).tr n5 (by decide)) (by decide +kernel)
theorem OO_K_X0_init_205 {S : Nat → Nat → Bool} (oo : OkS 206 S) : OkS 220 (sU (sU (sU (sU (sU (sU (sU (sU (sU (sU (sU (sU (sU (sU S 205 0) 205 1) 205 4) 205 5) 205 6) 205 7) 205 8) 205 9) 205 10) 205 11) 205 12) 205 13) 205 14) 205 15) := ((((((((((((((oo.up.put (a := 205) (j := 0) (by decide) (by decide +kernel)).up.put (a := 205) (j := 1) (by decide) (by decide +kernel)).up.put (a := 205) (j := 4) (by decide) (by decide +kernel)).up.put (a := 205) (j := 5) (by decide) (by decide +kernel)).up.put (a := 205) (j := 6) (by decide) (by decide +kernel)).up.put (a := 205) (j := 7) (by decide) (by decide +kernel)).up.put (a := 205) (j := 8) (by decide) (by decide +kernel)).up.put (a := 205) (j := 9) (by decide) (by decide +kernel)).up.put (a := 205) (j := 10) (by decide) (by decide +kernel)).up.put (a := 205) (j := 11) (by decide) (by decide +kernel)).up.put (a := 205) (j := 12) (by decide) (by decide +kernel)).up.put (a := 205) (j := 13) (by decide) (by decide +kernel)).up.put (a := 205) (j := 14) (by decide) (by decide +kernel)).up.put (a := 205) (j := 15) (by decide) (by decide +kernel))
theorem ZZ_K_X0_init_205 {u : Mm} (zz : ZrC 206 u) : ZrC 220 (mI u 205 3 3) := (zz.up.up.mI (a := 205) (j := 3) (x := 3) (by decide)).up.up.up.up.up.up.up.up.up.up.up.up
set_option maxRecDepth 100000 in
theorem K_X0_init_205 {X : Xc} {d : Nat} {S : Nat → Nat → Bool} {u : Mm} (had : adOk X) (oo : OkS 206 S) (zz : ZrC 206 u) (hz : ∀ j, u.1 205 j = 0) : CK X (d + 1) yX0_init cX0_init 1 [.ref 205] u 206 S 14 220 (mI u 205 3 3) 220 (sU (sU (sU (sU (sU (sU (sU (sU (sU (sU (sU (sU (sU (sU S 205 0) 205 1) 205 4) 205 5) 205 6) 205 7) 205 8) 205 9) 205 10) 205 11) 205 12) 205 13) 205 14) 205 15) := by
  refine CK_of okK_X0_init rfl oo zz ?_
  intro p e s m args below meth c G hA hr hlk hnm
  have zz00 := zz
  refine C_aload_n (n := 0) (i := 0) (v := 205) G (by decide +kernel) rfl rfl ?_
  refine C_obj (i := 3) (a := 205) (r := []) G (by decide +kernel) (by decide +kernel) (by show 1 ≤ d + 1; omega) (by show 0 + 12 ≤ 64 * (d + 1); omega) ?_
  refine C_aload_n (n := 0) (i := 0) (v := 205) G (by decide +kernel) rfl rfl ?_
  refine C_bipush (n := 32) (v := 32) G (by decide +kernel) rfl ?_
  have oo0 := oo; have zz0 := zz
  refine C_newl (x := 0) (N := 32) G (by decide +kernel) (by decide +kernel) (by decide +kernel) (by decide) hA rfl (by decide) (Nat.le_of_ble_eq_true rfl) (Nat.le_of_ble_eq_true rfl) rfl rfl (fun ad0 n0 => ?_)
  have G := G.nx n0; have oo := oo.up; have zz := zz.up
  refine C_putr (i := 9) (x := 0) (y := 0) (ty := (.array .long)) G (by decide +kernel) (by decide +kernel) (by decide) (by decide) (by decide) (by decide) (Or.inr ⟨(by decide), hnm, rfl⟩) (by decide +kernel) rfl rfl (by decide) (by decide +kernel) (by decide) ?_
  have oo := oo.put (a := 205) (j := 0) (by decide) (by decide +kernel)
  refine C_aload_n (n := 0) (i := 0) (v := 205) G (by decide +kernel) rfl rfl ?_
  refine C_iconst (n := 4) (v := 4) G (by decide +kernel) rfl ?_
  have oo0 := oo; have zz0 := zz
  refine C_newi (x := 0) (N := 4) G (by decide +kernel) (by decide +kernel) (by decide +kernel) (by decide) hA rfl (by decide) (Nat.le_of_ble_eq_true rfl) (Nat.le_of_ble_eq_true rfl) rfl rfl (fun ad1 n1 => ?_)
  have G := G.nx n1; have oo := oo.up; have zz := zz.up
  refine C_putr (i := 15) (x := 0) (y := 1) (ty := (.array .int)) G (by decide +kernel) (by decide +kernel) (by decide) (by decide) (by decide) (by decide) (Or.inr ⟨(by decide), hnm, rfl⟩) (by decide +kernel) rfl rfl (by decide) (by decide +kernel) (by decide) ?_
  have oo := oo.put (a := 205) (j := 1) (by decide) (by decide +kernel)
  refine C_aload_n (n := 0) (i := 0) (v := 205) G (by decide +kernel) rfl rfl ?_
  refine C_iconst (n := 0) (v := 0) G (by decide +kernel) rfl ?_
  refine C_put0 (i := 19) (x := 0) (y := 2) (ty := .int) G (by decide +kernel) (by decide +kernel) (by decide) (by decide) (by decide) (by decide) (Or.inl (by decide)) (by decide +kernel) rfl rfl (Or.inl (by decide)) (hz 2) ?_
  refine C_aload_n (n := 0) (i := 0) (v := 205) G (by decide +kernel) rfl rfl ?_
  refine C_iconst (n := 3) (v := 3) G (by decide +kernel) rfl ?_
  refine C_puti (i := 23) (x := 0) (y := 3) (ty := .int) G (by decide +kernel) (by decide +kernel) (by decide) (by decide) (by decide) (by decide) (Or.inl (by decide)) (by decide +kernel) rfl rfl (by decide) ?_
  have zz := zz.mI (a := 205) (j := 3) (x := 3) (by decide)
  refine C_aload_n (n := 0) (i := 0) (v := 205) G (by decide +kernel) rfl rfl ?_
  refine C_bipush (n := 8) (v := 8) G (by decide +kernel) rfl ?_
  have oo0 := oo; have zz0 := zz
  refine C_newi (x := 0) (N := 8) G (by decide +kernel) (by decide +kernel) (by decide +kernel) (by decide) hA rfl (by decide) (Nat.le_of_ble_eq_true rfl) (Nat.le_of_ble_eq_true rfl) rfl rfl (fun ad2 n2 => ?_)
  have G := G.nx n2; have oo := oo.up; have zz := zz.up
  refine C_putr (i := 26) (x := 0) (y := 4) (ty := (.array .int)) G (by decide +kernel) (by decide +kernel) (by decide) (by decide) (by decide) (by decide) (Or.inr ⟨(by decide), hnm, rfl⟩) (by decide +kernel) rfl rfl (by decide) (by decide +kernel) (by decide) ?_
  have oo := oo.put (a := 205) (j := 4) (by decide) (by decide +kernel)
  refine C_aload_n (n := 0) (i := 0) (v := 205) G (by decide +kernel) rfl rfl ?_
  refine C_bipush (n := 8) (v := 8) G (by decide +kernel) rfl ?_
  have oo0 := oo; have zz0 := zz
  refine C_newi (x := 0) (N := 8) G (by decide +kernel) (by decide +kernel) (by decide +kernel) (by decide) hA rfl (by decide) (Nat.le_of_ble_eq_true rfl) (Nat.le_of_ble_eq_true rfl) rfl rfl (fun ad3 n3 => ?_)
  have G := G.nx n3; have oo := oo.up; have zz := zz.up
  refine C_putr (i := 29) (x := 0) (y := 5) (ty := (.array .int)) G (by decide +kernel) (by decide +kernel) (by decide) (by decide) (by decide) (by decide) (Or.inr ⟨(by decide), hnm, rfl⟩) (by decide +kernel) rfl rfl (by decide) (by decide +kernel) (by decide) ?_
  have oo := oo.put (a := 205) (j := 5) (by decide) (by decide +kernel)
  refine C_aload_n (n := 0) (i := 0) (v := 205) G (by decide +kernel) rfl rfl ?_
  refine C_bipush (n := 8) (v := 8) G (by decide +kernel) rfl ?_
  have oo0 := oo; have zz0 := zz
  refine C_newi (x := 0) (N := 8) G (by decide +kernel) (by decide +kernel) (by decide +kernel) (by decide) hA rfl (by decide) (Nat.le_of_ble_eq_true rfl) (Nat.le_of_ble_eq_true rfl) rfl rfl (fun ad4 n4 => ?_)
  have G := G.nx n4; have oo := oo.up; have zz := zz.up
  refine C_putr (i := 32) (x := 0) (y := 6) (ty := (.array .int)) G (by decide +kernel) (by decide +kernel) (by decide) (by decide) (by decide) (by decide) (Or.inr ⟨(by decide), hnm, rfl⟩) (by decide +kernel) rfl rfl (by decide) (by decide +kernel) (by decide) ?_
  have oo := oo.put (a := 205) (j := 6) (by decide) (by decide +kernel)
  refine C_aload_n (n := 0) (i := 0) (v := 205) G (by decide +kernel) rfl rfl ?_
  refine C_bipush (n := 8) (v := 8) G (by decide +kernel) rfl ?_
  have oo0 := oo; have zz0 := zz
  refine C_newi (x := 0) (N := 8) G (by decide +kernel) (by decide +kernel) (by decide +kernel) (by decide) hA rfl (by decide) (Nat.le_of_ble_eq_true rfl) (Nat.le_of_ble_eq_true rfl) rfl rfl (fun ad5 n5 => ?_)
  have G := G.nx n5; have oo := oo.up; have zz := zz.up
  refine C_putr (i := 35) (x := 0) (y := 7) (ty := (.array .int)) G (by decide +kernel) (by decide +kernel) (by decide) (by decide) (by decide) (by decide) (Or.inr ⟨(by decide), hnm, rfl⟩) (by decide +kernel) rfl rfl (by decide) (by decide +kernel) (by decide) ?_
  have oo := oo.put (a := 205) (j := 7) (by decide) (by decide +kernel)
  refine C_aload_n (n := 0) (i := 0) (v := 205) G (by decide +kernel) rfl rfl ?_
  refine C_bipush (n := 8) (v := 8) G (by decide +kernel) rfl ?_
  have oo0 := oo; have zz0 := zz
  refine C_newi (x := 0) (N := 8) G (by decide +kernel) (by decide +kernel) (by decide +kernel) (by decide) hA rfl (by decide) (Nat.le_of_ble_eq_true rfl) (Nat.le_of_ble_eq_true rfl) rfl rfl (fun ad6 n6 => ?_)
  have G := G.nx n6; have oo := oo.up; have zz := zz.up
  refine C_putr (i := 38) (x := 0) (y := 8) (ty := (.array .int)) G (by decide +kernel) (by decide +kernel) (by decide) (by decide) (by decide) (by decide) (Or.inr ⟨(by decide), hnm, rfl⟩) (by decide +kernel) rfl rfl (by decide) (by decide +kernel) (by decide) ?_
  have oo := oo.put (a := 205) (j := 8) (by decide) (by decide +kernel)
  refine C_aload_n (n := 0) (i := 0) (v := 205) G (by decide +kernel) rfl rfl ?_
  refine C_bipush (n := 8) (v := 8) G (by decide +kernel) rfl ?_
  have oo0 := oo; have zz0 := zz
  refine C_newi (x := 0) (N := 8) G (by decide +kernel) (by decide +kernel) (by decide +kernel) (by decide) hA rfl (by decide) (Nat.le_of_ble_eq_true rfl) (Nat.le_of_ble_eq_true rfl) rfl rfl (fun ad7 n7 => ?_)
  have G := G.nx n7; have oo := oo.up; have zz := zz.up
  refine C_putr (i := 41) (x := 0) (y := 9) (ty := (.array .int)) G (by decide +kernel) (by decide +kernel) (by decide) (by decide) (by decide) (by decide) (Or.inr ⟨(by decide), hnm, rfl⟩) (by decide +kernel) rfl rfl (by decide) (by decide +kernel) (by decide) ?_
  have oo := oo.put (a := 205) (j := 9) (by decide) (by decide +kernel)
  refine C_aload_n (n := 0) (i := 0) (v := 205) G (by decide +kernel) rfl rfl ?_
  refine C_bipush (n := 8) (v := 8) G (by decide +kernel) rfl ?_
  have oo0 := oo; have zz0 := zz
  refine C_newi (x := 0) (N := 8) G (by decide +kernel) (by decide +kernel) (by decide +kernel) (by decide) hA rfl (by decide) (Nat.le_of_ble_eq_true rfl) (Nat.le_of_ble_eq_true rfl) rfl rfl (fun ad8 n8 => ?_)
  have G := G.nx n8; have oo := oo.up; have zz := zz.up
  refine C_putr (i := 44) (x := 0) (y := 10) (ty := (.array .int)) G (by decide +kernel) (by decide +kernel) (by decide) (by decide) (by decide) (by decide) (Or.inr ⟨(by decide), hnm, rfl⟩) (by decide +kernel) rfl rfl (by decide) (by decide +kernel) (by decide) ?_
  have oo := oo.put (a := 205) (j := 10) (by decide) (by decide +kernel)
  refine C_aload_n (n := 0) (i := 0) (v := 205) G (by decide +kernel) rfl rfl ?_
  refine C_bipush (n := 40) (v := 40) G (by decide +kernel) rfl ?_
  have oo0 := oo; have zz0 := zz
  refine C_newi (x := 0) (N := 40) G (by decide +kernel) (by decide +kernel) (by decide +kernel) (by decide) hA rfl (by decide) (Nat.le_of_ble_eq_true rfl) (Nat.le_of_ble_eq_true rfl) rfl rfl (fun ad9 n9 => ?_)
  have G := G.nx n9; have oo := oo.up; have zz := zz.up
  refine C_putr (i := 47) (x := 0) (y := 11) (ty := (.array .int)) G (by decide +kernel) (by decide +kernel) (by decide) (by decide) (by decide) (by decide) (Or.inr ⟨(by decide), hnm, rfl⟩) (by decide +kernel) rfl rfl (by decide) (by decide +kernel) (by decide) ?_
  have oo := oo.put (a := 205) (j := 11) (by decide) (by decide +kernel)
  refine C_aload_n (n := 0) (i := 0) (v := 205) G (by decide +kernel) rfl rfl ?_
  refine C_bipush (n := 64) (v := 64) G (by decide +kernel) rfl ?_
  have oo0 := oo; have zz0 := zz
  refine C_newi (x := 0) (N := 64) G (by decide +kernel) (by decide +kernel) (by decide +kernel) (by decide) hA rfl (by decide) (Nat.le_of_ble_eq_true rfl) (Nat.le_of_ble_eq_true rfl) rfl rfl (fun ad10 n10 => ?_)
  have G := G.nx n10; have oo := oo.up; have zz := zz.up
  refine C_putr (i := 50) (x := 0) (y := 12) (ty := (.array .int)) G (by decide +kernel) (by decide +kernel) (by decide) (by decide) (by decide) (by decide) (Or.inr ⟨(by decide), hnm, rfl⟩) (by decide +kernel) rfl rfl (by decide) (by decide +kernel) (by decide) ?_
  have oo := oo.put (a := 205) (j := 12) (by decide) (by decide +kernel)
  refine C_aload_n (n := 0) (i := 0) (v := 205) G (by decide +kernel) rfl rfl ?_
  refine C_bipush (n := 8) (v := 8) G (by decide +kernel) rfl ?_
  have oo0 := oo; have zz0 := zz
  refine C_newi (x := 0) (N := 8) G (by decide +kernel) (by decide +kernel) (by decide +kernel) (by decide) hA rfl (by decide) (Nat.le_of_ble_eq_true rfl) (Nat.le_of_ble_eq_true rfl) rfl rfl (fun ad11 n11 => ?_)
  have G := G.nx n11; have oo := oo.up; have zz := zz.up
  refine C_putr (i := 53) (x := 0) (y := 13) (ty := (.array .int)) G (by decide +kernel) (by decide +kernel) (by decide) (by decide) (by decide) (by decide) (Or.inr ⟨(by decide), hnm, rfl⟩) (by decide +kernel) rfl rfl (by decide) (by decide +kernel) (by decide) ?_
  have oo := oo.put (a := 205) (j := 13) (by decide) (by decide +kernel)
  refine C_aload_n (n := 0) (i := 0) (v := 205) G (by decide +kernel) rfl rfl ?_
  refine C_bipush (n := 8) (v := 8) G (by decide +kernel) rfl ?_
  have oo0 := oo; have zz0 := zz
  refine C_newi (x := 0) (N := 8) G (by decide +kernel) (by decide +kernel) (by decide +kernel) (by decide) hA rfl (by decide) (Nat.le_of_ble_eq_true rfl) (Nat.le_of_ble_eq_true rfl) rfl rfl (fun ad12 n12 => ?_)
  have G := G.nx n12; have oo := oo.up; have zz := zz.up
  refine C_putr (i := 56) (x := 0) (y := 14) (ty := (.array .int)) G (by decide +kernel) (by decide +kernel) (by decide) (by decide) (by decide) (by decide) (Or.inr ⟨(by decide), hnm, rfl⟩) (by decide +kernel) rfl rfl (by decide) (by decide +kernel) (by decide) ?_
  have oo := oo.put (a := 205) (j := 14) (by decide) (by decide +kernel)
  refine C_aload_n (n := 0) (i := 0) (v := 205) G (by decide +kernel) rfl rfl ?_
  refine C_bipush (n := 8) (v := 8) G (by decide +kernel) rfl ?_
  have oo0 := oo; have zz0 := zz
  refine C_newi (x := 0) (N := 8) G (by decide +kernel) (by decide +kernel) (by decide +kernel) (by decide) hA rfl (by decide) (Nat.le_of_ble_eq_true rfl) (Nat.le_of_ble_eq_true rfl) rfl rfl (fun ad13 n13 => ?_)
  have G := G.nx n13; have oo := oo.up; have zz := zz.up
  refine C_putr (i := 59) (x := 0) (y := 15) (ty := (.array .int)) G (by decide +kernel) (by decide +kernel) (by decide) (by decide) (by decide) (by decide) (Or.inr ⟨(by decide), hnm, rfl⟩) (by decide +kernel) rfl rfl (by decide) (by decide +kernel) (by decide) ?_
  have oo := oo.put (a := 205) (j := 15) (by decide) (by decide +kernel)
  exact C_ret (X0 := X) (ad := ad13) G hr hlk (((((((((((((n0.tr n1 (by decide)).tr n2 (by decide)).tr n3 (by decide)).tr n4 (by decide)).tr n5 (by decide)).tr n6 (by decide)).tr n7 (by decide)).tr n8 (by decide)).tr n9 (by decide)).tr n10 (by decide)).tr n11 (by decide)).tr n12 (by decide)).tr n13 (by decide)) (by decide +kernel)
theorem OO_K_X4_init_220 {S : Nat → Nat → Bool} (oo : OkS 221 S) : OkS 229 (sU (sU (sU (sU (sU (sU (sU (sU (sU S 220 5) 220 6) 220 7) 220 8) 220 9) 220 10) 220 11) 220 12) 220 0) := (((((((((oo.up.put (a := 220) (j := 5) (by decide) (by decide +kernel)).up.put (a := 220) (j := 6) (by decide) (by decide +kernel)).up.put (a := 220) (j := 7) (by decide) (by decide +kernel)).up.put (a := 220) (j := 8) (by decide) (by decide +kernel)).up.put (a := 220) (j := 9) (by decide) (by decide +kernel)).up.put (a := 220) (j := 10) (by decide) (by decide +kernel)).up.put (a := 220) (j := 11) (by decide) (by decide +kernel)).up.put (a := 220) (j := 12) (by decide) (by decide +kernel)).put (a := 220) (j := 0) (by decide) (by decide +kernel))
theorem ZZ_K_X4_init_220 {u : Mm} (zz : ZrC 221 u) : ZrC 229 (u) := zz.up.up.up.up.up.up.up.up
set_option maxRecDepth 100000 in
theorem K_X4_init_220 {X : Xc} {d : Nat} {S : Nat → Nat → Bool} {u : Mm} (had : adOk X) (oo : OkS 221 S) (zz : ZrC 221 u) (hz : ∀ j, u.1 220 j = 0) : CK X (d + 1) yX4_init cX4_init 2 [.ref 220, .ref 205] u 221 S 8 96 (u) 229 (sU (sU (sU (sU (sU (sU (sU (sU (sU S 220 5) 220 6) 220 7) 220 8) 220 9) 220 10) 220 11) 220 12) 220 0) := by
  refine CK_of okK_X4_init rfl oo zz ?_
  intro p e s m args below meth c G hA hr hlk hnm
  have zz00 := zz
  refine C_aload_n (n := 0) (i := 0) (v := 220) G (by decide +kernel) rfl rfl ?_
  refine C_obj (i := 3) (a := 220) (r := []) G (by decide +kernel) (by decide +kernel) (by show 1 ≤ d + 1; omega) (by show 0 + 12 ≤ 64 * (d + 1); omega) ?_
  refine C_aload_n (n := 0) (i := 0) (v := 220) G (by decide +kernel) rfl rfl ?_
  refine C_iconst (n := 0) (v := 0) G (by decide +kernel) rfl ?_
  refine C_put0 (i := 9) (x := 4) (y := 1) (ty := .int) G (by decide +kernel) (by decide +kernel) (by decide) (by decide) (by decide) (by decide) (Or.inl (by decide)) (by decide +kernel) rfl rfl (Or.inl (by decide)) (hz 1) ?_
  refine C_aload_n (n := 0) (i := 0) (v := 220) G (by decide +kernel) rfl rfl ?_
  refine C_iconst (n := 0) (v := 0) G (by decide +kernel) rfl ?_
  refine C_put0 (i := 15) (x := 4) (y := 2) (ty := .int) G (by decide +kernel) (by decide +kernel) (by decide) (by decide) (by decide) (by decide) (Or.inl (by decide)) (by decide +kernel) rfl rfl (Or.inl (by decide)) (hz 2) ?_
  refine C_aload_n (n := 0) (i := 0) (v := 220) G (by decide +kernel) rfl rfl ?_
  refine C_iconst (n := 0) (v := 0) G (by decide +kernel) rfl ?_
  refine C_put0 (i := 18) (x := 4) (y := 3) (ty := .int) G (by decide +kernel) (by decide +kernel) (by decide) (by decide) (by decide) (by decide) (Or.inl (by decide)) (by decide +kernel) rfl rfl (Or.inl (by decide)) (hz 3) ?_
  refine C_aload_n (n := 0) (i := 0) (v := 220) G (by decide +kernel) rfl rfl ?_
  refine C_iconst (n := 0) (v := 0) G (by decide +kernel) rfl ?_
  refine C_put0 (i := 21) (x := 4) (y := 4) (ty := .int) G (by decide +kernel) (by decide +kernel) (by decide) (by decide) (by decide) (by decide) (Or.inl (by decide)) (by decide +kernel) rfl rfl (Or.inl (by decide)) (hz 4) ?_
  refine C_aload_n (n := 0) (i := 0) (v := 220) G (by decide +kernel) rfl rfl ?_
  refine C_bipush (n := 8) (v := 8) G (by decide +kernel) rfl ?_
  have oo0 := oo; have zz0 := zz
  refine C_newi (x := 0) (N := 8) G (by decide +kernel) (by decide +kernel) (by decide +kernel) (by decide) hA rfl (by decide) (Nat.le_of_ble_eq_true rfl) (Nat.le_of_ble_eq_true rfl) rfl rfl (fun ad0 n0 => ?_)
  have G := G.nx n0; have oo := oo.up; have zz := zz.up
  refine C_putr (i := 24) (x := 4) (y := 5) (ty := (.array .int)) G (by decide +kernel) (by decide +kernel) (by decide) (by decide) (by decide) (by decide) (Or.inr ⟨(by decide), hnm, rfl⟩) (by decide +kernel) rfl rfl (by decide) (by decide +kernel) (by decide) ?_
  have oo := oo.put (a := 220) (j := 5) (by decide) (by decide +kernel)
  refine C_aload_n (n := 0) (i := 0) (v := 220) G (by decide +kernel) rfl rfl ?_
  refine C_bipush (n := 8) (v := 8) G (by decide +kernel) rfl ?_
  have oo0 := oo; have zz0 := zz
  refine C_newi (x := 0) (N := 8) G (by decide +kernel) (by decide +kernel) (by decide +kernel) (by decide) hA rfl (by decide) (Nat.le_of_ble_eq_true rfl) (Nat.le_of_ble_eq_true rfl) rfl rfl (fun ad1 n1 => ?_)
  have G := G.nx n1; have oo := oo.up; have zz := zz.up
  refine C_putr (i := 28) (x := 4) (y := 6) (ty := (.array .int)) G (by decide +kernel) (by decide +kernel) (by decide) (by decide) (by decide) (by decide) (Or.inr ⟨(by decide), hnm, rfl⟩) (by decide +kernel) rfl rfl (by decide) (by decide +kernel) (by decide) ?_
  have oo := oo.put (a := 220) (j := 6) (by decide) (by decide +kernel)
  refine C_aload_n (n := 0) (i := 0) (v := 220) G (by decide +kernel) rfl rfl ?_
  refine C_bipush (n := 8) (v := 8) G (by decide +kernel) rfl ?_
  have oo0 := oo; have zz0 := zz
  refine C_newi (x := 0) (N := 8) G (by decide +kernel) (by decide +kernel) (by decide +kernel) (by decide) hA rfl (by decide) (Nat.le_of_ble_eq_true rfl) (Nat.le_of_ble_eq_true rfl) rfl rfl (fun ad2 n2 => ?_)
  have G := G.nx n2; have oo := oo.up; have zz := zz.up
  refine C_putr (i := 31) (x := 4) (y := 7) (ty := (.array .int)) G (by decide +kernel) (by decide +kernel) (by decide) (by decide) (by decide) (by decide) (Or.inr ⟨(by decide), hnm, rfl⟩) (by decide +kernel) rfl rfl (by decide) (by decide +kernel) (by decide) ?_
  have oo := oo.put (a := 220) (j := 7) (by decide) (by decide +kernel)
  refine C_aload_n (n := 0) (i := 0) (v := 220) G (by decide +kernel) rfl rfl ?_
  refine C_bipush (n := 8) (v := 8) G (by decide +kernel) rfl ?_
  have oo0 := oo; have zz0 := zz
  refine C_newi (x := 0) (N := 8) G (by decide +kernel) (by decide +kernel) (by decide +kernel) (by decide) hA rfl (by decide) (Nat.le_of_ble_eq_true rfl) (Nat.le_of_ble_eq_true rfl) rfl rfl (fun ad3 n3 => ?_)
  have G := G.nx n3; have oo := oo.up; have zz := zz.up
  refine C_putr (i := 34) (x := 4) (y := 8) (ty := (.array .int)) G (by decide +kernel) (by decide +kernel) (by decide) (by decide) (by decide) (by decide) (Or.inr ⟨(by decide), hnm, rfl⟩) (by decide +kernel) rfl rfl (by decide) (by decide +kernel) (by decide) ?_
  have oo := oo.put (a := 220) (j := 8) (by decide) (by decide +kernel)
  refine C_aload_n (n := 0) (i := 0) (v := 220) G (by decide +kernel) rfl rfl ?_
  refine C_bipush (n := 8) (v := 8) G (by decide +kernel) rfl ?_
  have oo0 := oo; have zz0 := zz
  refine C_newi (x := 0) (N := 8) G (by decide +kernel) (by decide +kernel) (by decide +kernel) (by decide) hA rfl (by decide) (Nat.le_of_ble_eq_true rfl) (Nat.le_of_ble_eq_true rfl) rfl rfl (fun ad4 n4 => ?_)
  have G := G.nx n4; have oo := oo.up; have zz := zz.up
  refine C_putr (i := 37) (x := 4) (y := 9) (ty := (.array .int)) G (by decide +kernel) (by decide +kernel) (by decide) (by decide) (by decide) (by decide) (Or.inr ⟨(by decide), hnm, rfl⟩) (by decide +kernel) rfl rfl (by decide) (by decide +kernel) (by decide) ?_
  have oo := oo.put (a := 220) (j := 9) (by decide) (by decide +kernel)
  refine C_aload_n (n := 0) (i := 0) (v := 220) G (by decide +kernel) rfl rfl ?_
  refine C_bipush (n := 8) (v := 8) G (by decide +kernel) rfl ?_
  have oo0 := oo; have zz0 := zz
  refine C_newi (x := 0) (N := 8) G (by decide +kernel) (by decide +kernel) (by decide +kernel) (by decide) hA rfl (by decide) (Nat.le_of_ble_eq_true rfl) (Nat.le_of_ble_eq_true rfl) rfl rfl (fun ad5 n5 => ?_)
  have G := G.nx n5; have oo := oo.up; have zz := zz.up
  refine C_putr (i := 40) (x := 4) (y := 10) (ty := (.array .int)) G (by decide +kernel) (by decide +kernel) (by decide) (by decide) (by decide) (by decide) (Or.inr ⟨(by decide), hnm, rfl⟩) (by decide +kernel) rfl rfl (by decide) (by decide +kernel) (by decide) ?_
  have oo := oo.put (a := 220) (j := 10) (by decide) (by decide +kernel)
  refine C_aload_n (n := 0) (i := 0) (v := 220) G (by decide +kernel) rfl rfl ?_
  refine C_bipush (n := 8) (v := 8) G (by decide +kernel) rfl ?_
  have oo0 := oo; have zz0 := zz
  refine C_newi (x := 0) (N := 8) G (by decide +kernel) (by decide +kernel) (by decide +kernel) (by decide) hA rfl (by decide) (Nat.le_of_ble_eq_true rfl) (Nat.le_of_ble_eq_true rfl) rfl rfl (fun ad6 n6 => ?_)
  have G := G.nx n6; have oo := oo.up; have zz := zz.up
  refine C_putr (i := 43) (x := 4) (y := 11) (ty := (.array .int)) G (by decide +kernel) (by decide +kernel) (by decide) (by decide) (by decide) (by decide) (Or.inr ⟨(by decide), hnm, rfl⟩) (by decide +kernel) rfl rfl (by decide) (by decide +kernel) (by decide) ?_
  have oo := oo.put (a := 220) (j := 11) (by decide) (by decide +kernel)
  refine C_aload_n (n := 0) (i := 0) (v := 220) G (by decide +kernel) rfl rfl ?_
  refine C_bipush (n := 40) (v := 40) G (by decide +kernel) rfl ?_
  have oo0 := oo; have zz0 := zz
  refine C_newi (x := 0) (N := 40) G (by decide +kernel) (by decide +kernel) (by decide +kernel) (by decide) hA rfl (by decide) (Nat.le_of_ble_eq_true rfl) (Nat.le_of_ble_eq_true rfl) rfl rfl (fun ad7 n7 => ?_)
  have G := G.nx n7; have oo := oo.up; have zz := zz.up
  refine C_putr (i := 46) (x := 4) (y := 12) (ty := (.array .int)) G (by decide +kernel) (by decide +kernel) (by decide) (by decide) (by decide) (by decide) (Or.inr ⟨(by decide), hnm, rfl⟩) (by decide +kernel) rfl rfl (by decide) (by decide +kernel) (by decide) ?_
  have oo := oo.put (a := 220) (j := 12) (by decide) (by decide +kernel)
  refine C_aload_n (n := 0) (i := 0) (v := 220) G (by decide +kernel) rfl rfl ?_
  refine C_iconst (n := 0) (v := 0) G (by decide +kernel) rfl ?_
  refine C_put0 (i := 49) (x := 4) (y := 13) (ty := .int) G (by decide +kernel) (by decide +kernel) (by decide) (by decide) (by decide) (by decide) (Or.inl (by decide)) (by decide +kernel) rfl rfl (Or.inl (by decide)) (hz 13) ?_
  refine C_aload_n (n := 0) (i := 0) (v := 220) G (by decide +kernel) rfl rfl ?_
  refine C_iconst (n := 0) (v := 0) G (by decide +kernel) rfl ?_
  refine C_put0 (i := 52) (x := 4) (y := 14) (ty := .int) G (by decide +kernel) (by decide +kernel) (by decide) (by decide) (by decide) (by decide) (Or.inl (by decide)) (by decide +kernel) rfl rfl (Or.inl (by decide)) (hz 14) ?_
  refine C_aload_n (n := 0) (i := 0) (v := 220) G (by decide +kernel) rfl rfl ?_
  refine C_aload_n (n := 1) (i := 1) (v := 205) G (by decide +kernel) rfl rfl ?_
  refine C_putr (i := 55) (x := 4) (y := 0) (ty := (.object "StatueRent$City")) G (by decide +kernel) (by decide +kernel) (by decide) (by decide) (by decide) (by decide) (Or.inr ⟨(by decide), hnm, rfl⟩) (by decide +kernel) rfl rfl (by decide) (by decide +kernel) (by decide) ?_
  have oo := oo.put (a := 220) (j := 0) (by decide) (by decide +kernel)
  exact C_ret (X0 := X) (ad := ad7) G hr hlk (((((((n0.tr n1 (by decide)).tr n2 (by decide)).tr n3 (by decide)).tr n4 (by decide)).tr n5 (by decide)).tr n6 (by decide)).tr n7 (by decide)) (by decide +kernel)
theorem OO_K_X8_init_229 {S : Nat → Nat → Bool} (oo : OkS 230 S) : OkS 234 (sU (sU (sU (sU S 229 1) 229 2) 229 3) 229 4) := ((((oo.up.put (a := 229) (j := 1) (by decide) (by decide +kernel)).up.put (a := 229) (j := 2) (by decide) (by decide +kernel)).up.put (a := 229) (j := 3) (by decide) (by decide +kernel)).up.put (a := 229) (j := 4) (by decide) (by decide +kernel))
theorem ZZ_K_X8_init_229 {u : Mm} (zz : ZrC 230 u) : ZrC 234 (u) := zz.up.up.up.up
set_option maxRecDepth 100000 in
theorem K_X8_init_229 {X : Xc} {d : Nat} {S : Nat → Nat → Bool} {u : Mm} (had : adOk X) (oo : OkS 230 S) (zz : ZrC 230 u) (hz : ∀ j, u.1 229 j = 0) : CK X (d + 1) yX8_init cX8_init 1 [.ref 229] u 230 S 4 140 (u) 234 (sU (sU (sU (sU S 229 1) 229 2) 229 3) 229 4) := by
  refine CK_of okK_X8_init rfl oo zz ?_
  intro p e s m args below meth c G hA hr hlk hnm
  have zz00 := zz
  refine C_aload_n (n := 0) (i := 0) (v := 229) G (by decide +kernel) rfl rfl ?_
  refine C_obj (i := 3) (a := 229) (r := []) G (by decide +kernel) (by decide +kernel) (by show 1 ≤ d + 1; omega) (by show 0 + 12 ≤ 64 * (d + 1); omega) ?_
  refine C_aload_n (n := 0) (i := 0) (v := 229) G (by decide +kernel) rfl rfl ?_
  refine C_iconst (n := 0) (v := 0) G (by decide +kernel) rfl ?_
  refine C_put0 (i := 9) (x := 8) (y := 0) (ty := .int) G (by decide +kernel) (by decide +kernel) (by decide) (by decide) (by decide) (by decide) (Or.inl (by decide)) (by decide +kernel) rfl rfl (Or.inl (by decide)) (hz 0) ?_
  refine C_aload_n (n := 0) (i := 0) (v := 229) G (by decide +kernel) rfl rfl ?_
  refine C_bipush (n := 40) (v := 40) G (by decide +kernel) rfl ?_
  have oo0 := oo; have zz0 := zz
  refine C_newi (x := 0) (N := 40) G (by decide +kernel) (by decide +kernel) (by decide +kernel) (by decide) hA rfl (by decide) (Nat.le_of_ble_eq_true rfl) (Nat.le_of_ble_eq_true rfl) rfl rfl (fun ad0 n0 => ?_)
  have G := G.nx n0; have oo := oo.up; have zz := zz.up
  refine C_putr (i := 15) (x := 8) (y := 1) (ty := (.array .int)) G (by decide +kernel) (by decide +kernel) (by decide) (by decide) (by decide) (by decide) (Or.inr ⟨(by decide), hnm, rfl⟩) (by decide +kernel) rfl rfl (by decide) (by decide +kernel) (by decide) ?_
  have oo := oo.put (a := 229) (j := 1) (by decide) (by decide +kernel)
  refine C_aload_n (n := 0) (i := 0) (v := 229) G (by decide +kernel) rfl rfl ?_
  refine C_bipush (n := 40) (v := 40) G (by decide +kernel) rfl ?_
  have oo0 := oo; have zz0 := zz
  refine C_newi (x := 0) (N := 40) G (by decide +kernel) (by decide +kernel) (by decide +kernel) (by decide) hA rfl (by decide) (Nat.le_of_ble_eq_true rfl) (Nat.le_of_ble_eq_true rfl) rfl rfl (fun ad1 n1 => ?_)
  have G := G.nx n1; have oo := oo.up; have zz := zz.up
  refine C_putr (i := 19) (x := 8) (y := 2) (ty := (.array .int)) G (by decide +kernel) (by decide +kernel) (by decide) (by decide) (by decide) (by decide) (Or.inr ⟨(by decide), hnm, rfl⟩) (by decide +kernel) rfl rfl (by decide) (by decide +kernel) (by decide) ?_
  have oo := oo.put (a := 229) (j := 2) (by decide) (by decide +kernel)
  refine C_aload_n (n := 0) (i := 0) (v := 229) G (by decide +kernel) rfl rfl ?_
  refine C_bipush (n := 40) (v := 40) G (by decide +kernel) rfl ?_
  have oo0 := oo; have zz0 := zz
  refine C_newi (x := 0) (N := 40) G (by decide +kernel) (by decide +kernel) (by decide +kernel) (by decide) hA rfl (by decide) (Nat.le_of_ble_eq_true rfl) (Nat.le_of_ble_eq_true rfl) rfl rfl (fun ad2 n2 => ?_)
  have G := G.nx n2; have oo := oo.up; have zz := zz.up
  refine C_putr (i := 22) (x := 8) (y := 3) (ty := (.array .int)) G (by decide +kernel) (by decide +kernel) (by decide) (by decide) (by decide) (by decide) (Or.inr ⟨(by decide), hnm, rfl⟩) (by decide +kernel) rfl rfl (by decide) (by decide +kernel) (by decide) ?_
  have oo := oo.put (a := 229) (j := 3) (by decide) (by decide +kernel)
  refine C_aload_n (n := 0) (i := 0) (v := 229) G (by decide +kernel) rfl rfl ?_
  refine C_bipush (n := 20) (v := 20) G (by decide +kernel) rfl ?_
  have oo0 := oo; have zz0 := zz
  refine C_newi (x := 0) (N := 20) G (by decide +kernel) (by decide +kernel) (by decide +kernel) (by decide) hA rfl (by decide) (Nat.le_of_ble_eq_true rfl) (Nat.le_of_ble_eq_true rfl) rfl rfl (fun ad3 n3 => ?_)
  have G := G.nx n3; have oo := oo.up; have zz := zz.up
  refine C_putr (i := 25) (x := 8) (y := 4) (ty := (.array .int)) G (by decide +kernel) (by decide +kernel) (by decide) (by decide) (by decide) (by decide) (Or.inr ⟨(by decide), hnm, rfl⟩) (by decide +kernel) rfl rfl (by decide) (by decide +kernel) (by decide) ?_
  have oo := oo.put (a := 229) (j := 4) (by decide) (by decide +kernel)
  exact C_ret (X0 := X) (ad := ad3) G hr hlk (((n0.tr n1 (by decide)).tr n2 (by decide)).tr n3 (by decide)) (by decide +kernel)
theorem OO_K_X11_init_204 {S : Nat → Nat → Bool} (oo : OkS 205 S) : OkS 234 (sU (sU (sU (sU (sU (sU (sU (sU (sU (sU (sU (sU (sU (sU (sU (sU (sU (sU (sU (sU (sU (sU (sU (sU (sU (sU (sU (sU (sU (sU S 205 0) 205 1) 205 4) 205 5) 205 6) 205 7) 205 8) 205 9) 205 10) 205 11) 205 12) 205 13) 205 14) 205 15) 204 0) 220 5) 220 6) 220 7) 220 8) 220 9) 220 10) 220 11) 220 12) 220 0) 204 1) 229 1) 229 2) 229 3) 229 4) 204 2) := ((OO_K_X8_init_229 ((OO_K_X4_init_220 ((OO_K_X0_init_205 oo.up).put (a := 204) (j := 0) (by decide) (by decide +kernel)).up).put (a := 204) (j := 1) (by decide) (by decide +kernel)).up).put (a := 204) (j := 2) (by decide) (by decide +kernel))
theorem ZZ_K_X11_init_204 {u : Mm} (zz : ZrC 205 u) : ZrC 234 ((mI u 205 3 3)) := (ZZ_K_X8_init_229 (ZZ_K_X4_init_220 (ZZ_K_X0_init_205 zz.up).up).up)
set_option maxRecDepth 100000 in
theorem K_X11_init_204 {X : Xc} {d : Nat} {S : Nat → Nat → Bool} {u : Mm} (had : adOk X) (oo : OkS 205 S) (zz : ZrC 205 u) (hz : ∀ j, u.1 204 j = 0) : CK X (d + 2) yX11_init cX11_init 1 [.ref 204] u 205 S 29 492 ((mI u 205 3 3)) 234 (sU (sU (sU (sU (sU (sU (sU (sU (sU (sU (sU (sU (sU (sU (sU (sU (sU (sU (sU (sU (sU (sU (sU (sU (sU (sU (sU (sU (sU (sU S 205 0) 205 1) 205 4) 205 5) 205 6) 205 7) 205 8) 205 9) 205 10) 205 11) 205 12) 205 13) 205 14) 205 15) 204 0) 220 5) 220 6) 220 7) 220 8) 220 9) 220 10) 220 11) 220 12) 220 0) 204 1) 229 1) 229 2) 229 3) 229 4) 204 2) := by
  refine CK_of okK_X11_init rfl oo zz ?_
  intro p e s m args below meth c G hA hr hlk hnm
  have zz00 := zz
  refine C_aload_n (n := 0) (i := 0) (v := 204) G (by decide +kernel) rfl rfl ?_
  refine C_obj (i := 1) (a := 204) (r := []) G (by decide +kernel) (by decide +kernel) (by show 1 ≤ d + 2; omega) (by show 0 + 12 ≤ 64 * (d + 2); omega) ?_
  refine C_aload_n (n := 0) (i := 0) (v := 204) G (by decide +kernel) rfl rfl ?_
  have hz205 : ∀ j, u.1 205 j = 0 := fun j => congrFun (zz 205 (Nat.le_refl _)).1 j
  have hy205 : ∀ j, u.2 205 j = 0 := fun j => congrFun (zz 205 (Nat.le_refl _)).2 j
  refine C_new (i := 7) (x := 0) G (by decide +kernel) (by decide +kernel) (by decide) (by decide) ⟨(by decide +kernel), (by decide +kernel), (by decide +kernel)⟩ hA (Nat.le_of_ble_eq_true rfl) (Nat.le_of_ble_eq_true rfl) rfl rfl (fun ad0 n0 => ?_)
  have G := G.nx n0; have oo := oo.up; have zz := zz.up
  refine C_dup_r G (by decide +kernel) ?_
  refine C_callN (y := yX0_init) (bytes := cX0_init) (maxL := 1) (i := 9) (d := d + 1) (a := 205) (as := []) (r := [.ref 205, .ref 204]) G okK_X0_init ⟨rfl, (by decide +kernel)⟩ (by decide +kernel) (Nat.le_refl _) (Nat.le_refl _) ⟨Nat.le_of_ble_eq_true rfl, Nat.le_of_ble_eq_true rfl⟩ hA (K_X0_init_205 (d := d) G.ad oo zz hz205) rfl (by decide) (by decide +kernel) rfl rfl OO_K_X0_init_205 ZZ_K_X0_init_205 (fun ad1 n1 => ?_)
  have G := G.nx n1; have oo := OO_K_X0_init_205 oo; have zz := ZZ_K_X0_init_205 zz
  refine C_putr (i := 10) (x := 11) (y := 0) (ty := (.object "StatueRent$City")) G (by decide +kernel) (by decide +kernel) (by decide) (by decide) (by decide) (by decide) (Or.inr ⟨(by decide), hnm, rfl⟩) (by decide +kernel) rfl rfl (by decide) (by decide +kernel) (by decide) ?_
  have oo := oo.put (a := 204) (j := 0) (by decide) (by decide +kernel)
  refine C_aload_n (n := 0) (i := 0) (v := 204) G (by decide +kernel) rfl rfl ?_
  have hz220 : ∀ j, (mI u 205 3 3).1 220 j = 0 := fun j => congrFun (zz 220 (Nat.le_refl _)).1 j
  have hy220 : ∀ j, (mI u 205 3 3).2 220 j = 0 := fun j => congrFun (zz 220 (Nat.le_refl _)).2 j
  refine C_new (i := 16) (x := 4) G (by decide +kernel) (by decide +kernel) (by decide) (by decide) ⟨(by decide +kernel), (by decide +kernel), (by decide +kernel)⟩ hA (Nat.le_of_ble_eq_true rfl) (Nat.le_of_ble_eq_true rfl) rfl rfl (fun ad2 n2 => ?_)
  have G := G.nx n2; have oo := oo.up; have zz := zz.up
  refine C_dup_r G (by decide +kernel) ?_
  refine C_aload_n (n := 0) (i := 0) (v := 204) G (by decide +kernel) rfl rfl ?_
  refine C_getf (i := 10) (x := 11) (y := 0) (v := .ref 205) G (by decide +kernel) (by decide +kernel) (by decide) (by decide) (by decide) rfl ?_
  refine C_call (y := yX4_init) (bytes := cX4_init) (maxL := 2) (i := 18) (d := d + 1) (a := 220) (as := [.ref 205]) (r := [.ref 220, .ref 204]) G okK_X4_init ⟨rfl, (by decide +kernel)⟩ (by decide +kernel) (Nat.le_refl _) (Nat.le_refl _) ⟨Nat.le_of_ble_eq_true rfl, Nat.le_of_ble_eq_true rfl⟩ hA (K_X4_init_220 (d := d) G.ad oo zz hz220) rfl (by decide) (by decide +kernel) rfl rfl OO_K_X4_init_220 ZZ_K_X4_init_220 (fun ad3 n3 => ?_)
  have G := G.nx n3; have oo := OO_K_X4_init_220 oo; have zz := ZZ_K_X4_init_220 zz
  refine C_putr (i := 21) (x := 11) (y := 1) (ty := (.object "StatueRent$Life")) G (by decide +kernel) (by decide +kernel) (by decide) (by decide) (by decide) (by decide) (Or.inr ⟨(by decide), hnm, rfl⟩) (by decide +kernel) rfl rfl (by decide) (by decide +kernel) (by decide) ?_
  have oo := oo.put (a := 204) (j := 1) (by decide) (by decide +kernel)
  refine C_aload_n (n := 0) (i := 0) (v := 204) G (by decide +kernel) rfl rfl ?_
  have hz229 : ∀ j, (mI u 205 3 3).1 229 j = 0 := fun j => congrFun (zz 229 (Nat.le_refl _)).1 j
  have hy229 : ∀ j, (mI u 205 3 3).2 229 j = 0 := fun j => congrFun (zz 229 (Nat.le_refl _)).2 j
  refine C_new (i := 25) (x := 8) G (by decide +kernel) (by decide +kernel) (by decide) (by decide) ⟨(by decide +kernel), (by decide +kernel), (by decide +kernel)⟩ hA (Nat.le_of_ble_eq_true rfl) (Nat.le_of_ble_eq_true rfl) rfl rfl (fun ad4 n4 => ?_)
  have G := G.nx n4; have oo := oo.up; have zz := zz.up
  refine C_dup_r G (by decide +kernel) ?_
  refine C_callN (y := yX8_init) (bytes := cX8_init) (maxL := 1) (i := 27) (d := d + 1) (a := 229) (as := []) (r := [.ref 229, .ref 204]) G okK_X8_init ⟨rfl, (by decide +kernel)⟩ (by decide +kernel) (Nat.le_refl _) (Nat.le_refl _) ⟨Nat.le_of_ble_eq_true rfl, Nat.le_of_ble_eq_true rfl⟩ hA (K_X8_init_229 (d := d) G.ad oo zz hz229) rfl (by decide) (by decide +kernel) rfl rfl OO_K_X8_init_229 ZZ_K_X8_init_229 (fun ad5 n5 => ?_)
  have G := G.nx n5; have oo := OO_K_X8_init_229 oo; have zz := ZZ_K_X8_init_229 zz
  refine C_putr (i := 28) (x := 11) (y := 2) (ty := (.object "StatueRent$Sentence")) G (by decide +kernel) (by decide +kernel) (by decide) (by decide) (by decide) (by decide) (Or.inr ⟨(by decide), hnm, rfl⟩) (by decide +kernel) rfl rfl (by decide) (by decide +kernel) (by decide) ?_
  have oo := oo.put (a := 204) (j := 2) (by decide) (by decide +kernel)
  exact C_ret (X0 := X) (ad := ad5) G hr hlk (((((n0.tr n1 (by decide)).tr n2 (by decide)).tr n3 (by decide)).tr n4 (by decide)).tr n5 (by decide)) (by decide +kernel)
