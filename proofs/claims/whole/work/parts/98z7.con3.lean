/-! constructors, made by con.py -/
theorem OO_K_X0_init_120 {S : Nat → Nat → Bool} (oo : OkS 121 S) : OkS 135 (sU (sU (sU (sU (sU (sU (sU (sU (sU (sU (sU (sU (sU (sU S 120 0) 120 1) 120 4) 120 5) 120 6) 120 7) 120 8) 120 9) 120 10) 120 11) 120 12) 120 13) 120 14) 120 15) := ((((((((((((((oo.up.put (a := 120) (j := 0) (by decide) (by decide +kernel)).up.put (a := 120) (j := 1) (by decide) (by decide +kernel)).up.put (a := 120) (j := 4) (by decide) (by decide +kernel)).up.put (a := 120) (j := 5) (by decide) (by decide +kernel)).up.put (a := 120) (j := 6) (by decide) (by decide +kernel)).up.put (a := 120) (j := 7) (by decide) (by decide +kernel)).up.put (a := 120) (j := 8) (by decide) (by decide +kernel)).up.put (a := 120) (j := 9) (by decide) (by decide +kernel)).up.put (a := 120) (j := 10) (by decide) (by decide +kernel)).up.put (a := 120) (j := 11) (by decide) (by decide +kernel)).up.put (a := 120) (j := 12) (by decide) (by decide +kernel)).up.put (a := 120) (j := 13) (by decide) (by decide +kernel)).up.put (a := 120) (j := 14) (by decide) (by decide +kernel)).up.put (a := 120) (j := 15) (by decide) (by decide +kernel))
theorem ZZ_K_X0_init_120 {u : Mm} (zz : ZrC 121 u) : ZrC 135 (mI u 120 3 3) := (zz.up.up.mI (a := 120) (j := 3) (x := 3) (by decide)).up.up.up.up.up.up.up.up.up.up.up.up
set_option maxRecDepth 100000 in
theorem K_X0_init_120 {X : Xc} {d : Nat} {S : Nat → Nat → Bool} {u : Mm} (had : adOk X) (oo : OkS 121 S) (zz : ZrC 121 u) (hz : ∀ j, u.1 120 j = 0) : CK X (d + 1) yX0_init cX0_init 1 [.ref 120] u 121 S 14 220 (mI u 120 3 3) 135 (sU (sU (sU (sU (sU (sU (sU (sU (sU (sU (sU (sU (sU (sU S 120 0) 120 1) 120 4) 120 5) 120 6) 120 7) 120 8) 120 9) 120 10) 120 11) 120 12) 120 13) 120 14) 120 15) := by
  refine CK_of okK_X0_init rfl oo zz ?_
  intro p e s m args below meth c G hA hr hlk hnm
  have zz00 := zz
  refine C_aload_n (n := 0) (i := 0) (v := 120) G (by decide +kernel) rfl rfl ?_
  refine C_obj (i := 3) (a := 120) (r := []) G (by decide +kernel) (by decide +kernel) (by show 1 ≤ d + 1; omega) (by show 0 + 12 ≤ 64 * (d + 1); omega) ?_
  refine C_aload_n (n := 0) (i := 0) (v := 120) G (by decide +kernel) rfl rfl ?_
  refine C_bipush (n := 32) (v := 32) G (by decide +kernel) rfl ?_
  have oo0 := oo; have zz0 := zz
  refine C_newl (x := 0) (N := 32) G (by decide +kernel) (by decide +kernel) (by decide +kernel) (by decide) hA rfl (by decide) (Nat.le_of_ble_eq_true rfl) (Nat.le_of_ble_eq_true rfl) rfl rfl (fun ad0 n0 => ?_)
  have G := G.nx n0; have oo := oo.up; have zz := zz.up
  refine C_putr (i := 9) (x := 0) (y := 0) (ty := (.array .long)) G (by decide +kernel) (by decide +kernel) (by decide) (by decide) (by decide) (by decide) (Or.inr ⟨(by decide), hnm, rfl⟩) (by decide +kernel) rfl rfl (by decide) (by decide +kernel) (by decide) ?_
  have oo := oo.put (a := 120) (j := 0) (by decide) (by decide +kernel)
  refine C_aload_n (n := 0) (i := 0) (v := 120) G (by decide +kernel) rfl rfl ?_
  refine C_iconst (n := 4) (v := 4) G (by decide +kernel) rfl ?_
  have oo0 := oo; have zz0 := zz
  refine C_newi (x := 0) (N := 4) G (by decide +kernel) (by decide +kernel) (by decide +kernel) (by decide) hA rfl (by decide) (Nat.le_of_ble_eq_true rfl) (Nat.le_of_ble_eq_true rfl) rfl rfl (fun ad1 n1 => ?_)
  have G := G.nx n1; have oo := oo.up; have zz := zz.up
  refine C_putr (i := 15) (x := 0) (y := 1) (ty := (.array .int)) G (by decide +kernel) (by decide +kernel) (by decide) (by decide) (by decide) (by decide) (Or.inr ⟨(by decide), hnm, rfl⟩) (by decide +kernel) rfl rfl (by decide) (by decide +kernel) (by decide) ?_
  have oo := oo.put (a := 120) (j := 1) (by decide) (by decide +kernel)
  refine C_aload_n (n := 0) (i := 0) (v := 120) G (by decide +kernel) rfl rfl ?_
  refine C_iconst (n := 0) (v := 0) G (by decide +kernel) rfl ?_
  refine C_put0 (i := 19) (x := 0) (y := 2) (ty := .int) G (by decide +kernel) (by decide +kernel) (by decide) (by decide) (by decide) (by decide) (Or.inl (by decide)) (by decide +kernel) rfl rfl (Or.inl (by decide)) (hz 2) ?_
  refine C_aload_n (n := 0) (i := 0) (v := 120) G (by decide +kernel) rfl rfl ?_
  refine C_iconst (n := 3) (v := 3) G (by decide +kernel) rfl ?_
  refine C_puti (i := 23) (x := 0) (y := 3) (ty := .int) G (by decide +kernel) (by decide +kernel) (by decide) (by decide) (by decide) (by decide) (Or.inl (by decide)) (by decide +kernel) rfl rfl (by decide) ?_
  have zz := zz.mI (a := 120) (j := 3) (x := 3) (by decide)
  refine C_aload_n (n := 0) (i := 0) (v := 120) G (by decide +kernel) rfl rfl ?_
  refine C_bipush (n := 8) (v := 8) G (by decide +kernel) rfl ?_
  have oo0 := oo; have zz0 := zz
  refine C_newi (x := 0) (N := 8) G (by decide +kernel) (by decide +kernel) (by decide +kernel) (by decide) hA rfl (by decide) (Nat.le_of_ble_eq_true rfl) (Nat.le_of_ble_eq_true rfl) rfl rfl (fun ad2 n2 => ?_)
  have G := G.nx n2; have oo := oo.up; have zz := zz.up
  refine C_putr (i := 26) (x := 0) (y := 4) (ty := (.array .int)) G (by decide +kernel) (by decide +kernel) (by decide) (by decide) (by decide) (by decide) (Or.inr ⟨(by decide), hnm, rfl⟩) (by decide +kernel) rfl rfl (by decide) (by decide +kernel) (by decide) ?_
  have oo := oo.put (a := 120) (j := 4) (by decide) (by decide +kernel)
  refine C_aload_n (n := 0) (i := 0) (v := 120) G (by decide +kernel) rfl rfl ?_
  refine C_bipush (n := 8) (v := 8) G (by decide +kernel) rfl ?_
  have oo0 := oo; have zz0 := zz
  refine C_newi (x := 0) (N := 8) G (by decide +kernel) (by decide +kernel) (by decide +kernel) (by decide) hA rfl (by decide) (Nat.le_of_ble_eq_true rfl) (Nat.le_of_ble_eq_true rfl) rfl rfl (fun ad3 n3 => ?_)
  have G := G.nx n3; have oo := oo.up; have zz := zz.up
  refine C_putr (i := 29) (x := 0) (y := 5) (ty := (.array .int)) G (by decide +kernel) (by decide +kernel) (by decide) (by decide) (by decide) (by decide) (Or.inr ⟨(by decide), hnm, rfl⟩) (by decide +kernel) rfl rfl (by decide) (by decide +kernel) (by decide) ?_
  have oo := oo.put (a := 120) (j := 5) (by decide) (by decide +kernel)
  refine C_aload_n (n := 0) (i := 0) (v := 120) G (by decide +kernel) rfl rfl ?_
  refine C_bipush (n := 8) (v := 8) G (by decide +kernel) rfl ?_
  have oo0 := oo; have zz0 := zz
  refine C_newi (x := 0) (N := 8) G (by decide +kernel) (by decide +kernel) (by decide +kernel) (by decide) hA rfl (by decide) (Nat.le_of_ble_eq_true rfl) (Nat.le_of_ble_eq_true rfl) rfl rfl (fun ad4 n4 => ?_)
  have G := G.nx n4; have oo := oo.up; have zz := zz.up
  refine C_putr (i := 32) (x := 0) (y := 6) (ty := (.array .int)) G (by decide +kernel) (by decide +kernel) (by decide) (by decide) (by decide) (by decide) (Or.inr ⟨(by decide), hnm, rfl⟩) (by decide +kernel) rfl rfl (by decide) (by decide +kernel) (by decide) ?_
  have oo := oo.put (a := 120) (j := 6) (by decide) (by decide +kernel)
  refine C_aload_n (n := 0) (i := 0) (v := 120) G (by decide +kernel) rfl rfl ?_
  refine C_bipush (n := 8) (v := 8) G (by decide +kernel) rfl ?_
  have oo0 := oo; have zz0 := zz
  refine C_newi (x := 0) (N := 8) G (by decide +kernel) (by decide +kernel) (by decide +kernel) (by decide) hA rfl (by decide) (Nat.le_of_ble_eq_true rfl) (Nat.le_of_ble_eq_true rfl) rfl rfl (fun ad5 n5 => ?_)
  have G := G.nx n5; have oo := oo.up; have zz := zz.up
  refine C_putr (i := 35) (x := 0) (y := 7) (ty := (.array .int)) G (by decide +kernel) (by decide +kernel) (by decide) (by decide) (by decide) (by decide) (Or.inr ⟨(by decide), hnm, rfl⟩) (by decide +kernel) rfl rfl (by decide) (by decide +kernel) (by decide) ?_
  have oo := oo.put (a := 120) (j := 7) (by decide) (by decide +kernel)
  refine C_aload_n (n := 0) (i := 0) (v := 120) G (by decide +kernel) rfl rfl ?_
  refine C_bipush (n := 8) (v := 8) G (by decide +kernel) rfl ?_
  have oo0 := oo; have zz0 := zz
  refine C_newi (x := 0) (N := 8) G (by decide +kernel) (by decide +kernel) (by decide +kernel) (by decide) hA rfl (by decide) (Nat.le_of_ble_eq_true rfl) (Nat.le_of_ble_eq_true rfl) rfl rfl (fun ad6 n6 => ?_)
  have G := G.nx n6; have oo := oo.up; have zz := zz.up
  refine C_putr (i := 38) (x := 0) (y := 8) (ty := (.array .int)) G (by decide +kernel) (by decide +kernel) (by decide) (by decide) (by decide) (by decide) (Or.inr ⟨(by decide), hnm, rfl⟩) (by decide +kernel) rfl rfl (by decide) (by decide +kernel) (by decide) ?_
  have oo := oo.put (a := 120) (j := 8) (by decide) (by decide +kernel)
  refine C_aload_n (n := 0) (i := 0) (v := 120) G (by decide +kernel) rfl rfl ?_
  refine C_bipush (n := 8) (v := 8) G (by decide +kernel) rfl ?_
  have oo0 := oo; have zz0 := zz
  refine C_newi (x := 0) (N := 8) G (by decide +kernel) (by decide +kernel) (by decide +kernel) (by decide) hA rfl (by decide) (Nat.le_of_ble_eq_true rfl) (Nat.le_of_ble_eq_true rfl) rfl rfl (fun ad7 n7 => ?_)
  have G := G.nx n7; have oo := oo.up; have zz := zz.up
  refine C_putr (i := 41) (x := 0) (y := 9) (ty := (.array .int)) G (by decide +kernel) (by decide +kernel) (by decide) (by decide) (by decide) (by decide) (Or.inr ⟨(by decide), hnm, rfl⟩) (by decide +kernel) rfl rfl (by decide) (by decide +kernel) (by decide) ?_
  have oo := oo.put (a := 120) (j := 9) (by decide) (by decide +kernel)
  refine C_aload_n (n := 0) (i := 0) (v := 120) G (by decide +kernel) rfl rfl ?_
  refine C_bipush (n := 8) (v := 8) G (by decide +kernel) rfl ?_
  have oo0 := oo; have zz0 := zz
  refine C_newi (x := 0) (N := 8) G (by decide +kernel) (by decide +kernel) (by decide +kernel) (by decide) hA rfl (by decide) (Nat.le_of_ble_eq_true rfl) (Nat.le_of_ble_eq_true rfl) rfl rfl (fun ad8 n8 => ?_)
  have G := G.nx n8; have oo := oo.up; have zz := zz.up
  refine C_putr (i := 44) (x := 0) (y := 10) (ty := (.array .int)) G (by decide +kernel) (by decide +kernel) (by decide) (by decide) (by decide) (by decide) (Or.inr ⟨(by decide), hnm, rfl⟩) (by decide +kernel) rfl rfl (by decide) (by decide +kernel) (by decide) ?_
  have oo := oo.put (a := 120) (j := 10) (by decide) (by decide +kernel)
  refine C_aload_n (n := 0) (i := 0) (v := 120) G (by decide +kernel) rfl rfl ?_
  refine C_bipush (n := 40) (v := 40) G (by decide +kernel) rfl ?_
  have oo0 := oo; have zz0 := zz
  refine C_newi (x := 0) (N := 40) G (by decide +kernel) (by decide +kernel) (by decide +kernel) (by decide) hA rfl (by decide) (Nat.le_of_ble_eq_true rfl) (Nat.le_of_ble_eq_true rfl) rfl rfl (fun ad9 n9 => ?_)
  have G := G.nx n9; have oo := oo.up; have zz := zz.up
  refine C_putr (i := 47) (x := 0) (y := 11) (ty := (.array .int)) G (by decide +kernel) (by decide +kernel) (by decide) (by decide) (by decide) (by decide) (Or.inr ⟨(by decide), hnm, rfl⟩) (by decide +kernel) rfl rfl (by decide) (by decide +kernel) (by decide) ?_
  have oo := oo.put (a := 120) (j := 11) (by decide) (by decide +kernel)
  refine C_aload_n (n := 0) (i := 0) (v := 120) G (by decide +kernel) rfl rfl ?_
  refine C_bipush (n := 64) (v := 64) G (by decide +kernel) rfl ?_
  have oo0 := oo; have zz0 := zz
  refine C_newi (x := 0) (N := 64) G (by decide +kernel) (by decide +kernel) (by decide +kernel) (by decide) hA rfl (by decide) (Nat.le_of_ble_eq_true rfl) (Nat.le_of_ble_eq_true rfl) rfl rfl (fun ad10 n10 => ?_)
  have G := G.nx n10; have oo := oo.up; have zz := zz.up
  refine C_putr (i := 50) (x := 0) (y := 12) (ty := (.array .int)) G (by decide +kernel) (by decide +kernel) (by decide) (by decide) (by decide) (by decide) (Or.inr ⟨(by decide), hnm, rfl⟩) (by decide +kernel) rfl rfl (by decide) (by decide +kernel) (by decide) ?_
  have oo := oo.put (a := 120) (j := 12) (by decide) (by decide +kernel)
  refine C_aload_n (n := 0) (i := 0) (v := 120) G (by decide +kernel) rfl rfl ?_
  refine C_bipush (n := 8) (v := 8) G (by decide +kernel) rfl ?_
  have oo0 := oo; have zz0 := zz
  refine C_newi (x := 0) (N := 8) G (by decide +kernel) (by decide +kernel) (by decide +kernel) (by decide) hA rfl (by decide) (Nat.le_of_ble_eq_true rfl) (Nat.le_of_ble_eq_true rfl) rfl rfl (fun ad11 n11 => ?_)
  have G := G.nx n11; have oo := oo.up; have zz := zz.up
  refine C_putr (i := 53) (x := 0) (y := 13) (ty := (.array .int)) G (by decide +kernel) (by decide +kernel) (by decide) (by decide) (by decide) (by decide) (Or.inr ⟨(by decide), hnm, rfl⟩) (by decide +kernel) rfl rfl (by decide) (by decide +kernel) (by decide) ?_
  have oo := oo.put (a := 120) (j := 13) (by decide) (by decide +kernel)
  refine C_aload_n (n := 0) (i := 0) (v := 120) G (by decide +kernel) rfl rfl ?_
  refine C_bipush (n := 8) (v := 8) G (by decide +kernel) rfl ?_
  have oo0 := oo; have zz0 := zz
  refine C_newi (x := 0) (N := 8) G (by decide +kernel) (by decide +kernel) (by decide +kernel) (by decide) hA rfl (by decide) (Nat.le_of_ble_eq_true rfl) (Nat.le_of_ble_eq_true rfl) rfl rfl (fun ad12 n12 => ?_)
  have G := G.nx n12; have oo := oo.up; have zz := zz.up
  refine C_putr (i := 56) (x := 0) (y := 14) (ty := (.array .int)) G (by decide +kernel) (by decide +kernel) (by decide) (by decide) (by decide) (by decide) (Or.inr ⟨(by decide), hnm, rfl⟩) (by decide +kernel) rfl rfl (by decide) (by decide +kernel) (by decide) ?_
  have oo := oo.put (a := 120) (j := 14) (by decide) (by decide +kernel)
  refine C_aload_n (n := 0) (i := 0) (v := 120) G (by decide +kernel) rfl rfl ?_
  refine C_bipush (n := 8) (v := 8) G (by decide +kernel) rfl ?_
  have oo0 := oo; have zz0 := zz
  refine C_newi (x := 0) (N := 8) G (by decide +kernel) (by decide +kernel) (by decide +kernel) (by decide) hA rfl (by decide) (Nat.le_of_ble_eq_true rfl) (Nat.le_of_ble_eq_true rfl) rfl rfl (fun ad13 n13 => ?_)
  have G := G.nx n13; have oo := oo.up; have zz := zz.up
  refine C_putr (i := 59) (x := 0) (y := 15) (ty := (.array .int)) G (by decide +kernel) (by decide +kernel) (by decide) (by decide) (by decide) (by decide) (Or.inr ⟨(by decide), hnm, rfl⟩) (by decide +kernel) rfl rfl (by decide) (by decide +kernel) (by decide) ?_
  have oo := oo.put (a := 120) (j := 15) (by decide) (by decide +kernel)
  exact C_ret (X0 := X) (ad := ad13) G hr hlk (((((((((((((n0.tr n1 (by decide)).tr n2 (by decide)).tr n3 (by decide)).tr n4 (by decide)).tr n5 (by decide)).tr n6 (by decide)).tr n7 (by decide)).tr n8 (by decide)).tr n9 (by decide)).tr n10 (by decide)).tr n11 (by decide)).tr n12 (by decide)).tr n13 (by decide)) (by decide +kernel)
theorem OO_K_X4_init_135 {S : Nat → Nat → Bool} (oo : OkS 136 S) : OkS 144 (sU (sU (sU (sU (sU (sU (sU (sU (sU S 135 5) 135 6) 135 7) 135 8) 135 9) 135 10) 135 11) 135 12) 135 0) := (((((((((oo.up.put (a := 135) (j := 5) (by decide) (by decide +kernel)).up.put (a := 135) (j := 6) (by decide) (by decide +kernel)).up.put (a := 135) (j := 7) (by decide) (by decide +kernel)).up.put (a := 135) (j := 8) (by decide) (by decide +kernel)).up.put (a := 135) (j := 9) (by decide) (by decide +kernel)).up.put (a := 135) (j := 10) (by decide) (by decide +kernel)).up.put (a := 135) (j := 11) (by decide) (by decide +kernel)).up.put (a := 135) (j := 12) (by decide) (by decide +kernel)).put (a := 135) (j := 0) (by decide) (by decide +kernel))
theorem ZZ_K_X4_init_135 {u : Mm} (zz : ZrC 136 u) : ZrC 144 (u) := zz.up.up.up.up.up.up.up.up
set_option maxRecDepth 100000 in
theorem K_X4_init_135 {X : Xc} {d : Nat} {S : Nat → Nat → Bool} {u : Mm} (had : adOk X) (oo : OkS 136 S) (zz : ZrC 136 u) (hz : ∀ j, u.1 135 j = 0) : CK X (d + 1) yX4_init cX4_init 2 [.ref 135, .ref 120] u 136 S 8 96 (u) 144 (sU (sU (sU (sU (sU (sU (sU (sU (sU S 135 5) 135 6) 135 7) 135 8) 135 9) 135 10) 135 11) 135 12) 135 0) := by
  refine CK_of okK_X4_init rfl oo zz ?_
  intro p e s m args below meth c G hA hr hlk hnm
  have zz00 := zz
  refine C_aload_n (n := 0) (i := 0) (v := 135) G (by decide +kernel) rfl rfl ?_
  refine C_obj (i := 3) (a := 135) (r := []) G (by decide +kernel) (by decide +kernel) (by show 1 ≤ d + 1; omega) (by show 0 + 12 ≤ 64 * (d + 1); omega) ?_
  refine C_aload_n (n := 0) (i := 0) (v := 135) G (by decide +kernel) rfl rfl ?_
  refine C_iconst (n := 0) (v := 0) G (by decide +kernel) rfl ?_
  refine C_put0 (i := 9) (x := 4) (y := 1) (ty := .int) G (by decide +kernel) (by decide +kernel) (by decide) (by decide) (by decide) (by decide) (Or.inl (by decide)) (by decide +kernel) rfl rfl (Or.inl (by decide)) (hz 1) ?_
  refine C_aload_n (n := 0) (i := 0) (v := 135) G (by decide +kernel) rfl rfl ?_
  refine C_iconst (n := 0) (v := 0) G (by decide +kernel) rfl ?_
  refine C_put0 (i := 15) (x := 4) (y := 2) (ty := .int) G (by decide +kernel) (by decide +kernel) (by decide) (by decide) (by decide) (by decide) (Or.inl (by decide)) (by decide +kernel) rfl rfl (Or.inl (by decide)) (hz 2) ?_
  refine C_aload_n (n := 0) (i := 0) (v := 135) G (by decide +kernel) rfl rfl ?_
  refine C_iconst (n := 0) (v := 0) G (by decide +kernel) rfl ?_
  refine C_put0 (i := 18) (x := 4) (y := 3) (ty := .int) G (by decide +kernel) (by decide +kernel) (by decide) (by decide) (by decide) (by decide) (Or.inl (by decide)) (by decide +kernel) rfl rfl (Or.inl (by decide)) (hz 3) ?_
  refine C_aload_n (n := 0) (i := 0) (v := 135) G (by decide +kernel) rfl rfl ?_
  refine C_iconst (n := 0) (v := 0) G (by decide +kernel) rfl ?_
  refine C_put0 (i := 21) (x := 4) (y := 4) (ty := .int) G (by decide +kernel) (by decide +kernel) (by decide) (by decide) (by decide) (by decide) (Or.inl (by decide)) (by decide +kernel) rfl rfl (Or.inl (by decide)) (hz 4) ?_
  refine C_aload_n (n := 0) (i := 0) (v := 135) G (by decide +kernel) rfl rfl ?_
  refine C_bipush (n := 8) (v := 8) G (by decide +kernel) rfl ?_
  have oo0 := oo; have zz0 := zz
  refine C_newi (x := 0) (N := 8) G (by decide +kernel) (by decide +kernel) (by decide +kernel) (by decide) hA rfl (by decide) (Nat.le_of_ble_eq_true rfl) (Nat.le_of_ble_eq_true rfl) rfl rfl (fun ad0 n0 => ?_)
  have G := G.nx n0; have oo := oo.up; have zz := zz.up
  refine C_putr (i := 24) (x := 4) (y := 5) (ty := (.array .int)) G (by decide +kernel) (by decide +kernel) (by decide) (by decide) (by decide) (by decide) (Or.inr ⟨(by decide), hnm, rfl⟩) (by decide +kernel) rfl rfl (by decide) (by decide +kernel) (by decide) ?_
  have oo := oo.put (a := 135) (j := 5) (by decide) (by decide +kernel)
  refine C_aload_n (n := 0) (i := 0) (v := 135) G (by decide +kernel) rfl rfl ?_
  refine C_bipush (n := 8) (v := 8) G (by decide +kernel) rfl ?_
  have oo0 := oo; have zz0 := zz
  refine C_newi (x := 0) (N := 8) G (by decide +kernel) (by decide +kernel) (by decide +kernel) (by decide) hA rfl (by decide) (Nat.le_of_ble_eq_true rfl) (Nat.le_of_ble_eq_true rfl) rfl rfl (fun ad1 n1 => ?_)
  have G := G.nx n1; have oo := oo.up; have zz := zz.up
  refine C_putr (i := 28) (x := 4) (y := 6) (ty := (.array .int)) G (by decide +kernel) (by decide +kernel) (by decide) (by decide) (by decide) (by decide) (Or.inr ⟨(by decide), hnm, rfl⟩) (by decide +kernel) rfl rfl (by decide) (by decide +kernel) (by decide) ?_
  have oo := oo.put (a := 135) (j := 6) (by decide) (by decide +kernel)
  refine C_aload_n (n := 0) (i := 0) (v := 135) G (by decide +kernel) rfl rfl ?_
  refine C_bipush (n := 8) (v := 8) G (by decide +kernel) rfl ?_
  have oo0 := oo; have zz0 := zz
  refine C_newi (x := 0) (N := 8) G (by decide +kernel) (by decide +kernel) (by decide +kernel) (by decide) hA rfl (by decide) (Nat.le_of_ble_eq_true rfl) (Nat.le_of_ble_eq_true rfl) rfl rfl (fun ad2 n2 => ?_)
  have G := G.nx n2; have oo := oo.up; have zz := zz.up
  refine C_putr (i := 31) (x := 4) (y := 7) (ty := (.array .int)) G (by decide +kernel) (by decide +kernel) (by decide) (by decide) (by decide) (by decide) (Or.inr ⟨(by decide), hnm, rfl⟩) (by decide +kernel) rfl rfl (by decide) (by decide +kernel) (by decide) ?_
  have oo := oo.put (a := 135) (j := 7) (by decide) (by decide +kernel)
  refine C_aload_n (n := 0) (i := 0) (v := 135) G (by decide +kernel) rfl rfl ?_
  refine C_bipush (n := 8) (v := 8) G (by decide +kernel) rfl ?_
  have oo0 := oo; have zz0 := zz
  refine C_newi (x := 0) (N := 8) G (by decide +kernel) (by decide +kernel) (by decide +kernel) (by decide) hA rfl (by decide) (Nat.le_of_ble_eq_true rfl) (Nat.le_of_ble_eq_true rfl) rfl rfl (fun ad3 n3 => ?_)
  have G := G.nx n3; have oo := oo.up; have zz := zz.up
  refine C_putr (i := 34) (x := 4) (y := 8) (ty := (.array .int)) G (by decide +kernel) (by decide +kernel) (by decide) (by decide) (by decide) (by decide) (Or.inr ⟨(by decide), hnm, rfl⟩) (by decide +kernel) rfl rfl (by decide) (by decide +kernel) (by decide) ?_
  have oo := oo.put (a := 135) (j := 8) (by decide) (by decide +kernel)
  refine C_aload_n (n := 0) (i := 0) (v := 135) G (by decide +kernel) rfl rfl ?_
  refine C_bipush (n := 8) (v := 8) G (by decide +kernel) rfl ?_
  have oo0 := oo; have zz0 := zz
  refine C_newi (x := 0) (N := 8) G (by decide +kernel) (by decide +kernel) (by decide +kernel) (by decide) hA rfl (by decide) (Nat.le_of_ble_eq_true rfl) (Nat.le_of_ble_eq_true rfl) rfl rfl (fun ad4 n4 => ?_)
  have G := G.nx n4; have oo := oo.up; have zz := zz.up
  refine C_putr (i := 37) (x := 4) (y := 9) (ty := (.array .int)) G (by decide +kernel) (by decide +kernel) (by decide) (by decide) (by decide) (by decide) (Or.inr ⟨(by decide), hnm, rfl⟩) (by decide +kernel) rfl rfl (by decide) (by decide +kernel) (by decide) ?_
  have oo := oo.put (a := 135) (j := 9) (by decide) (by decide +kernel)
  refine C_aload_n (n := 0) (i := 0) (v := 135) G (by decide +kernel) rfl rfl ?_
  refine C_bipush (n := 8) (v := 8) G (by decide +kernel) rfl ?_
  have oo0 := oo; have zz0 := zz
  refine C_newi (x := 0) (N := 8) G (by decide +kernel) (by decide +kernel) (by decide +kernel) (by decide) hA rfl (by decide) (Nat.le_of_ble_eq_true rfl) (Nat.le_of_ble_eq_true rfl) rfl rfl (fun ad5 n5 => ?_)
  have G := G.nx n5; have oo := oo.up; have zz := zz.up
  refine C_putr (i := 40) (x := 4) (y := 10) (ty := (.array .int)) G (by decide +kernel) (by decide +kernel) (by decide) (by decide) (by decide) (by decide) (Or.inr ⟨(by decide), hnm, rfl⟩) (by decide +kernel) rfl rfl (by decide) (by decide +kernel) (by decide) ?_
  have oo := oo.put (a := 135) (j := 10) (by decide) (by decide +kernel)
  refine C_aload_n (n := 0) (i := 0) (v := 135) G (by decide +kernel) rfl rfl ?_
  refine C_bipush (n := 8) (v := 8) G (by decide +kernel) rfl ?_
  have oo0 := oo; have zz0 := zz
  refine C_newi (x := 0) (N := 8) G (by decide +kernel) (by decide +kernel) (by decide +kernel) (by decide) hA rfl (by decide) (Nat.le_of_ble_eq_true rfl) (Nat.le_of_ble_eq_true rfl) rfl rfl (fun ad6 n6 => ?_)
  have G := G.nx n6; have oo := oo.up; have zz := zz.up
  refine C_putr (i := 43) (x := 4) (y := 11) (ty := (.array .int)) G (by decide +kernel) (by decide +kernel) (by decide) (by decide) (by decide) (by decide) (Or.inr ⟨(by decide), hnm, rfl⟩) (by decide +kernel) rfl rfl (by decide) (by decide +kernel) (by decide) ?_
  have oo := oo.put (a := 135) (j := 11) (by decide) (by decide +kernel)
  refine C_aload_n (n := 0) (i := 0) (v := 135) G (by decide +kernel) rfl rfl ?_
  refine C_bipush (n := 40) (v := 40) G (by decide +kernel) rfl ?_
  have oo0 := oo; have zz0 := zz
  refine C_newi (x := 0) (N := 40) G (by decide +kernel) (by decide +kernel) (by decide +kernel) (by decide) hA rfl (by decide) (Nat.le_of_ble_eq_true rfl) (Nat.le_of_ble_eq_true rfl) rfl rfl (fun ad7 n7 => ?_)
  have G := G.nx n7; have oo := oo.up; have zz := zz.up
  refine C_putr (i := 46) (x := 4) (y := 12) (ty := (.array .int)) G (by decide +kernel) (by decide +kernel) (by decide) (by decide) (by decide) (by decide) (Or.inr ⟨(by decide), hnm, rfl⟩) (by decide +kernel) rfl rfl (by decide) (by decide +kernel) (by decide) ?_
  have oo := oo.put (a := 135) (j := 12) (by decide) (by decide +kernel)
  refine C_aload_n (n := 0) (i := 0) (v := 135) G (by decide +kernel) rfl rfl ?_
  refine C_iconst (n := 0) (v := 0) G (by decide +kernel) rfl ?_
  refine C_put0 (i := 49) (x := 4) (y := 13) (ty := .int) G (by decide +kernel) (by decide +kernel) (by decide) (by decide) (by decide) (by decide) (Or.inl (by decide)) (by decide +kernel) rfl rfl (Or.inl (by decide)) (hz 13) ?_
  refine C_aload_n (n := 0) (i := 0) (v := 135) G (by decide +kernel) rfl rfl ?_
  refine C_iconst (n := 0) (v := 0) G (by decide +kernel) rfl ?_
  refine C_put0 (i := 52) (x := 4) (y := 14) (ty := .int) G (by decide +kernel) (by decide +kernel) (by decide) (by decide) (by decide) (by decide) (Or.inl (by decide)) (by decide +kernel) rfl rfl (Or.inl (by decide)) (hz 14) ?_
  refine C_aload_n (n := 0) (i := 0) (v := 135) G (by decide +kernel) rfl rfl ?_
  refine C_aload_n (n := 1) (i := 1) (v := 120) G (by decide +kernel) rfl rfl ?_
  refine C_putr (i := 55) (x := 4) (y := 0) (ty := (.object "StatueRent$City")) G (by decide +kernel) (by decide +kernel) (by decide) (by decide) (by decide) (by decide) (Or.inr ⟨(by decide), hnm, rfl⟩) (by decide +kernel) rfl rfl (by decide) (by decide +kernel) (by decide) ?_
  have oo := oo.put (a := 135) (j := 0) (by decide) (by decide +kernel)
  exact C_ret (X0 := X) (ad := ad7) G hr hlk (((((((n0.tr n1 (by decide)).tr n2 (by decide)).tr n3 (by decide)).tr n4 (by decide)).tr n5 (by decide)).tr n6 (by decide)).tr n7 (by decide)) (by decide +kernel)
theorem OO_K_X8_init_144 {S : Nat → Nat → Bool} (oo : OkS 145 S) : OkS 149 (sU (sU (sU (sU S 144 1) 144 2) 144 3) 144 4) := ((((oo.up.put (a := 144) (j := 1) (by decide) (by decide +kernel)).up.put (a := 144) (j := 2) (by decide) (by decide +kernel)).up.put (a := 144) (j := 3) (by decide) (by decide +kernel)).up.put (a := 144) (j := 4) (by decide) (by decide +kernel))
theorem ZZ_K_X8_init_144 {u : Mm} (zz : ZrC 145 u) : ZrC 149 (u) := zz.up.up.up.up
set_option maxRecDepth 100000 in
theorem K_X8_init_144 {X : Xc} {d : Nat} {S : Nat → Nat → Bool} {u : Mm} (had : adOk X) (oo : OkS 145 S) (zz : ZrC 145 u) (hz : ∀ j, u.1 144 j = 0) : CK X (d + 1) yX8_init cX8_init 1 [.ref 144] u 145 S 4 140 (u) 149 (sU (sU (sU (sU S 144 1) 144 2) 144 3) 144 4) := by
  refine CK_of okK_X8_init rfl oo zz ?_
  intro p e s m args below meth c G hA hr hlk hnm
  have zz00 := zz
  refine C_aload_n (n := 0) (i := 0) (v := 144) G (by decide +kernel) rfl rfl ?_
  refine C_obj (i := 3) (a := 144) (r := []) G (by decide +kernel) (by decide +kernel) (by show 1 ≤ d + 1; omega) (by show 0 + 12 ≤ 64 * (d + 1); omega) ?_
  refine C_aload_n (n := 0) (i := 0) (v := 144) G (by decide +kernel) rfl rfl ?_
  refine C_iconst (n := 0) (v := 0) G (by decide +kernel) rfl ?_
  refine C_put0 (i := 9) (x := 8) (y := 0) (ty := .int) G (by decide +kernel) (by decide +kernel) (by decide) (by decide) (by decide) (by decide) (Or.inl (by decide)) (by decide +kernel) rfl rfl (Or.inl (by decide)) (hz 0) ?_
  refine C_aload_n (n := 0) (i := 0) (v := 144) G (by decide +kernel) rfl rfl ?_
  refine C_bipush (n := 40) (v := 40) G (by decide +kernel) rfl ?_
  have oo0 := oo; have zz0 := zz
  refine C_newi (x := 0) (N := 40) G (by decide +kernel) (by decide +kernel) (by decide +kernel) (by decide) hA rfl (by decide) (Nat.le_of_ble_eq_true rfl) (Nat.le_of_ble_eq_true rfl) rfl rfl (fun ad0 n0 => ?_)
  have G := G.nx n0; have oo := oo.up; have zz := zz.up
  refine C_putr (i := 15) (x := 8) (y := 1) (ty := (.array .int)) G (by decide +kernel) (by decide +kernel) (by decide) (by decide) (by decide) (by decide) (Or.inr ⟨(by decide), hnm, rfl⟩) (by decide +kernel) rfl rfl (by decide) (by decide +kernel) (by decide) ?_
  have oo := oo.put (a := 144) (j := 1) (by decide) (by decide +kernel)
  refine C_aload_n (n := 0) (i := 0) (v := 144) G (by decide +kernel) rfl rfl ?_
  refine C_bipush (n := 40) (v := 40) G (by decide +kernel) rfl ?_
  have oo0 := oo; have zz0 := zz
  refine C_newi (x := 0) (N := 40) G (by decide +kernel) (by decide +kernel) (by decide +kernel) (by decide) hA rfl (by decide) (Nat.le_of_ble_eq_true rfl) (Nat.le_of_ble_eq_true rfl) rfl rfl (fun ad1 n1 => ?_)
  have G := G.nx n1; have oo := oo.up; have zz := zz.up
  refine C_putr (i := 19) (x := 8) (y := 2) (ty := (.array .int)) G (by decide +kernel) (by decide +kernel) (by decide) (by decide) (by decide) (by decide) (Or.inr ⟨(by decide), hnm, rfl⟩) (by decide +kernel) rfl rfl (by decide) (by decide +kernel) (by decide) ?_
  have oo := oo.put (a := 144) (j := 2) (by decide) (by decide +kernel)
  refine C_aload_n (n := 0) (i := 0) (v := 144) G (by decide +kernel) rfl rfl ?_
  refine C_bipush (n := 40) (v := 40) G (by decide +kernel) rfl ?_
  have oo0 := oo; have zz0 := zz
  refine C_newi (x := 0) (N := 40) G (by decide +kernel) (by decide +kernel) (by decide +kernel) (by decide) hA rfl (by decide) (Nat.le_of_ble_eq_true rfl) (Nat.le_of_ble_eq_true rfl) rfl rfl (fun ad2 n2 => ?_)
  have G := G.nx n2; have oo := oo.up; have zz := zz.up
  refine C_putr (i := 22) (x := 8) (y := 3) (ty := (.array .int)) G (by decide +kernel) (by decide +kernel) (by decide) (by decide) (by decide) (by decide) (Or.inr ⟨(by decide), hnm, rfl⟩) (by decide +kernel) rfl rfl (by decide) (by decide +kernel) (by decide) ?_
  have oo := oo.put (a := 144) (j := 3) (by decide) (by decide +kernel)
  refine C_aload_n (n := 0) (i := 0) (v := 144) G (by decide +kernel) rfl rfl ?_
  refine C_bipush (n := 20) (v := 20) G (by decide +kernel) rfl ?_
  have oo0 := oo; have zz0 := zz
  refine C_newi (x := 0) (N := 20) G (by decide +kernel) (by decide +kernel) (by decide +kernel) (by decide) hA rfl (by decide) (Nat.le_of_ble_eq_true rfl) (Nat.le_of_ble_eq_true rfl) rfl rfl (fun ad3 n3 => ?_)
  have G := G.nx n3; have oo := oo.up; have zz := zz.up
  refine C_putr (i := 25) (x := 8) (y := 4) (ty := (.array .int)) G (by decide +kernel) (by decide +kernel) (by decide) (by decide) (by decide) (by decide) (Or.inr ⟨(by decide), hnm, rfl⟩) (by decide +kernel) rfl rfl (by decide) (by decide +kernel) (by decide) ?_
  have oo := oo.put (a := 144) (j := 4) (by decide) (by decide +kernel)
  exact C_ret (X0 := X) (ad := ad3) G hr hlk (((n0.tr n1 (by decide)).tr n2 (by decide)).tr n3 (by decide)) (by decide +kernel)
theorem OO_K_X11_init_119 {S : Nat → Nat → Bool} (oo : OkS 120 S) : OkS 149 (sU (sU (sU (sU (sU (sU (sU (sU (sU (sU (sU (sU (sU (sU (sU (sU (sU (sU (sU (sU (sU (sU (sU (sU (sU (sU (sU (sU (sU (sU S 120 0) 120 1) 120 4) 120 5) 120 6) 120 7) 120 8) 120 9) 120 10) 120 11) 120 12) 120 13) 120 14) 120 15) 119 0) 135 5) 135 6) 135 7) 135 8) 135 9) 135 10) 135 11) 135 12) 135 0) 119 1) 144 1) 144 2) 144 3) 144 4) 119 2) := ((OO_K_X8_init_144 ((OO_K_X4_init_135 ((OO_K_X0_init_120 oo.up).put (a := 119) (j := 0) (by decide) (by decide +kernel)).up).put (a := 119) (j := 1) (by decide) (by decide +kernel)).up).put (a := 119) (j := 2) (by decide) (by decide +kernel))
theorem ZZ_K_X11_init_119 {u : Mm} (zz : ZrC 120 u) : ZrC 149 ((mI u 120 3 3)) := (ZZ_K_X8_init_144 (ZZ_K_X4_init_135 (ZZ_K_X0_init_120 zz.up).up).up)
set_option maxRecDepth 100000 in
theorem K_X11_init_119 {X : Xc} {d : Nat} {S : Nat → Nat → Bool} {u : Mm} (had : adOk X) (oo : OkS 120 S) (zz : ZrC 120 u) (hz : ∀ j, u.1 119 j = 0) : CK X (d + 2) yX11_init cX11_init 1 [.ref 119] u 120 S 29 492 ((mI u 120 3 3)) 149 (sU (sU (sU (sU (sU (sU (sU (sU (sU (sU (sU (sU (sU (sU (sU (sU (sU (sU (sU (sU (sU (sU (sU (sU (sU (sU (sU (sU (sU (sU S 120 0) 120 1) 120 4) 120 5) 120 6) 120 7) 120 8) 120 9) 120 10) 120 11) 120 12) 120 13) 120 14) 120 15) 119 0) 135 5) 135 6) 135 7) 135 8) 135 9) 135 10) 135 11) 135 12) 135 0) 119 1) 144 1) 144 2) 144 3) 144 4) 119 2) := by
  refine CK_of okK_X11_init rfl oo zz ?_
  intro p e s m args below meth c G hA hr hlk hnm
  have zz00 := zz
  refine C_aload_n (n := 0) (i := 0) (v := 119) G (by decide +kernel) rfl rfl ?_
  refine C_obj (i := 1) (a := 119) (r := []) G (by decide +kernel) (by decide +kernel) (by show 1 ≤ d + 2; omega) (by show 0 + 12 ≤ 64 * (d + 2); omega) ?_
  refine C_aload_n (n := 0) (i := 0) (v := 119) G (by decide +kernel) rfl rfl ?_
  have hz120 : ∀ j, u.1 120 j = 0 := fun j => congrFun (zz 120 (Nat.le_refl _)).1 j
  have hy120 : ∀ j, u.2 120 j = 0 := fun j => congrFun (zz 120 (Nat.le_refl _)).2 j
  refine C_new (i := 7) (x := 0) G (by decide +kernel) (by decide +kernel) (by decide) (by decide) ⟨(by decide +kernel), (by decide +kernel), (by decide +kernel)⟩ hA (Nat.le_of_ble_eq_true rfl) (Nat.le_of_ble_eq_true rfl) rfl rfl (fun ad0 n0 => ?_)
  have G := G.nx n0; have oo := oo.up; have zz := zz.up
  refine C_dup_r G (by decide +kernel) ?_
  refine C_callN (y := yX0_init) (bytes := cX0_init) (maxL := 1) (i := 9) (d := d + 1) (a := 120) (as := []) (r := [.ref 120, .ref 119]) G okK_X0_init ⟨rfl, (by decide +kernel)⟩ (by decide +kernel) (Nat.le_refl _) (Nat.le_refl _) ⟨Nat.le_of_ble_eq_true rfl, Nat.le_of_ble_eq_true rfl⟩ hA (K_X0_init_120 (d := d) G.ad oo zz hz120) rfl (by decide) (by decide +kernel) rfl rfl OO_K_X0_init_120 ZZ_K_X0_init_120 (fun ad1 n1 => ?_)
  have G := G.nx n1; have oo := OO_K_X0_init_120 oo; have zz := ZZ_K_X0_init_120 zz
  refine C_putr (i := 10) (x := 11) (y := 0) (ty := (.object "StatueRent$City")) G (by decide +kernel) (by decide +kernel) (by decide) (by decide) (by decide) (by decide) (Or.inr ⟨(by decide), hnm, rfl⟩) (by decide +kernel) rfl rfl (by decide) (by decide +kernel) (by decide) ?_
  have oo := oo.put (a := 119) (j := 0) (by decide) (by decide +kernel)
  refine C_aload_n (n := 0) (i := 0) (v := 119) G (by decide +kernel) rfl rfl ?_
  have hz135 : ∀ j, (mI u 120 3 3).1 135 j = 0 := fun j => congrFun (zz 135 (Nat.le_refl _)).1 j
  have hy135 : ∀ j, (mI u 120 3 3).2 135 j = 0 := fun j => congrFun (zz 135 (Nat.le_refl _)).2 j
  refine C_new (i := 16) (x := 4) G (by decide +kernel) (by decide +kernel) (by decide) (by decide) ⟨(by decide +kernel), (by decide +kernel), (by decide +kernel)⟩ hA (Nat.le_of_ble_eq_true rfl) (Nat.le_of_ble_eq_true rfl) rfl rfl (fun ad2 n2 => ?_)
  have G := G.nx n2; have oo := oo.up; have zz := zz.up
  refine C_dup_r G (by decide +kernel) ?_
  refine C_aload_n (n := 0) (i := 0) (v := 119) G (by decide +kernel) rfl rfl ?_
  refine C_getf (i := 10) (x := 11) (y := 0) (v := .ref 120) G (by decide +kernel) (by decide +kernel) (by decide) (by decide) (by decide) rfl ?_
  refine C_call (y := yX4_init) (bytes := cX4_init) (maxL := 2) (i := 18) (d := d + 1) (a := 135) (as := [.ref 120]) (r := [.ref 135, .ref 119]) G okK_X4_init ⟨rfl, (by decide +kernel)⟩ (by decide +kernel) (Nat.le_refl _) (Nat.le_refl _) ⟨Nat.le_of_ble_eq_true rfl, Nat.le_of_ble_eq_true rfl⟩ hA (K_X4_init_135 (d := d) G.ad oo zz hz135) rfl (by decide) (by decide +kernel) rfl rfl OO_K_X4_init_135 ZZ_K_X4_init_135 (fun ad3 n3 => ?_)
  have G := G.nx n3; have oo := OO_K_X4_init_135 oo; have zz := ZZ_K_X4_init_135 zz
  refine C_putr (i := 21) (x := 11) (y := 1) (ty := (.object "StatueRent$Life")) G (by decide +kernel) (by decide +kernel) (by decide) (by decide) (by decide) (by decide) (Or.inr ⟨(by decide), hnm, rfl⟩) (by decide +kernel) rfl rfl (by decide) (by decide +kernel) (by decide) ?_
  have oo := oo.put (a := 119) (j := 1) (by decide) (by decide +kernel)
  refine C_aload_n (n := 0) (i := 0) (v := 119) G (by decide +kernel) rfl rfl ?_
  have hz144 : ∀ j, (mI u 120 3 3).1 144 j = 0 := fun j => congrFun (zz 144 (Nat.le_refl _)).1 j
  have hy144 : ∀ j, (mI u 120 3 3).2 144 j = 0 := fun j => congrFun (zz 144 (Nat.le_refl _)).2 j
  refine C_new (i := 25) (x := 8) G (by decide +kernel) (by decide +kernel) (by decide) (by decide) ⟨(by decide +kernel), (by decide +kernel), (by decide +kernel)⟩ hA (Nat.le_of_ble_eq_true rfl) (Nat.le_of_ble_eq_true rfl) rfl rfl (fun ad4 n4 => ?_)
  have G := G.nx n4; have oo := oo.up; have zz := zz.up
  refine C_dup_r G (by decide +kernel) ?_
  refine C_callN (y := yX8_init) (bytes := cX8_init) (maxL := 1) (i := 27) (d := d + 1) (a := 144) (as := []) (r := [.ref 144, .ref 119]) G okK_X8_init ⟨rfl, (by decide +kernel)⟩ (by decide +kernel) (Nat.le_refl _) (Nat.le_refl _) ⟨Nat.le_of_ble_eq_true rfl, Nat.le_of_ble_eq_true rfl⟩ hA (K_X8_init_144 (d := d) G.ad oo zz hz144) rfl (by decide) (by decide +kernel) rfl rfl OO_K_X8_init_144 ZZ_K_X8_init_144 (fun ad5 n5 => ?_)
  have G := G.nx n5; have oo := OO_K_X8_init_144 oo; have zz := ZZ_K_X8_init_144 zz
  refine C_putr (i := 28) (x := 11) (y := 2) (ty := (.object "StatueRent$Sentence")) G (by decide +kernel) (by decide +kernel) (by decide) (by decide) (by decide) (by decide) (Or.inr ⟨(by decide), hnm, rfl⟩) (by decide +kernel) rfl rfl (by decide) (by decide +kernel) (by decide) ?_
  have oo := oo.put (a := 119) (j := 2) (by decide) (by decide +kernel)
  exact C_ret (X0 := X) (ad := ad5) G hr hlk (((((n0.tr n1 (by decide)).tr n2 (by decide)).tr n3 (by decide)).tr n4 (by decide)).tr n5 (by decide)) (by decide +kernel)
theorem OO_K_X1_init_118 {S : Nat → Nat → Bool} (oo : OkS 119 S) : OkS 149 (sU (sU (sU (sU (sU (sU (sU (sU (sU (sU (sU (sU (sU (sU (sU (sU (sU (sU (sU (sU (sU (sU (sU (sU (sU (sU (sU (sU (sU (sU (sU (sU (sU S 120 0) 120 1) 120 4) 120 5) 120 6) 120 7) 120 8) 120 9) 120 10) 120 11) 120 12) 120 13) 120 14) 120 15) 119 0) 135 5) 135 6) 135 7) 135 8) 135 9) 135 10) 135 11) 135 12) 135 0) 119 1) 144 1) 144 2) 144 3) 144 4) 119 2) 118 1) 118 2) 118 0) := ((((OO_K_X11_init_119 oo.up).put (a := 118) (j := 1) (by decide) (by decide +kernel)).put (a := 118) (j := 2) (by decide) (by decide +kernel)).put (a := 118) (j := 0) (by decide) (by decide +kernel))
theorem ZZ_K_X1_init_118 {u : Mm} (zz : ZrC 119 u) : ZrC 149 ((mI u 120 3 3)) := (ZZ_K_X11_init_119 zz.up)
set_option maxRecDepth 100000 in
theorem K_X1_init_118 {X : Xc} {d : Nat} {S : Nat → Nat → Bool} {u : Mm} (had : adOk X) (oo : OkS 119 S) (zz : ZrC 119 u) (hz : ∀ j, u.1 118 j = 0) : CK X (d + 3) yX1_init cX1_init 2 [.ref 118, .ref 1] u 119 S 30 495 ((mI u 120 3 3)) 149 (sU (sU (sU (sU (sU (sU (sU (sU (sU (sU (sU (sU (sU (sU (sU (sU (sU (sU (sU (sU (sU (sU (sU (sU (sU (sU (sU (sU (sU (sU (sU (sU (sU S 120 0) 120 1) 120 4) 120 5) 120 6) 120 7) 120 8) 120 9) 120 10) 120 11) 120 12) 120 13) 120 14) 120 15) 119 0) 135 5) 135 6) 135 7) 135 8) 135 9) 135 10) 135 11) 135 12) 135 0) 119 1) 144 1) 144 2) 144 3) 144 4) 119 2) 118 1) 118 2) 118 0) := by
  refine CK_of okK_X1_init rfl oo zz ?_
  intro p e s m args below meth c G hA hr hlk hnm
  have zz00 := zz
  refine C_aload_n (n := 0) (i := 0) (v := 118) G (by decide +kernel) rfl rfl ?_
  refine C_obj (i := 3) (a := 118) (r := []) G (by decide +kernel) (by decide +kernel) (by show 1 ≤ d + 3; omega) (by show 0 + 12 ≤ 64 * (d + 3); omega) ?_
  refine C_aload_n (n := 0) (i := 0) (v := 118) G (by decide +kernel) rfl rfl ?_
  have hz119 : ∀ j, u.1 119 j = 0 := fun j => congrFun (zz 119 (Nat.le_refl _)).1 j
  have hy119 : ∀ j, u.2 119 j = 0 := fun j => congrFun (zz 119 (Nat.le_refl _)).2 j
  refine C_new (i := 9) (x := 11) G (by decide +kernel) (by decide +kernel) (by decide) (by decide) ⟨(by decide +kernel), (by decide +kernel), (by decide +kernel)⟩ hA (Nat.le_of_ble_eq_true rfl) (Nat.le_of_ble_eq_true rfl) rfl rfl (fun ad0 n0 => ?_)
  have G := G.nx n0; have oo := oo.up; have zz := zz.up
  refine C_dup_r G (by decide +kernel) ?_
  refine C_callN (y := yX11_init) (bytes := cX11_init) (maxL := 1) (i := 11) (d := d + 2) (a := 119) (as := []) (r := [.ref 119, .ref 118]) G okK_X11_init ⟨rfl, (by decide +kernel)⟩ (by decide +kernel) (Nat.le_refl _) (Nat.le_refl _) ⟨Nat.le_of_ble_eq_true rfl, Nat.le_of_ble_eq_true rfl⟩ hA (K_X11_init_119 (d := d) G.ad oo zz hz119) rfl (by decide) (by decide +kernel) rfl rfl OO_K_X11_init_119 ZZ_K_X11_init_119 (fun ad1 n1 => ?_)
  have G := G.nx n1; have oo := OO_K_X11_init_119 oo; have zz := ZZ_K_X11_init_119 zz
  refine C_putr (i := 12) (x := 1) (y := 1) (ty := (.object "StatueRent$World")) G (by decide +kernel) (by decide +kernel) (by decide) (by decide) (by decide) (by decide) (Or.inr ⟨(by decide), hnm, rfl⟩) (by decide +kernel) rfl rfl (by decide) (by decide +kernel) (by decide) ?_
  have oo := oo.put (a := 118) (j := 1) (by decide) (by decide +kernel)
  refine C_aload_n (n := 0) (i := 0) (v := 118) G (by decide +kernel) rfl rfl ?_
  refine C_aload_n (n := 0) (i := 0) (v := 118) G (by decide +kernel) rfl rfl ?_
  refine C_getf (i := 12) (x := 1) (y := 1) (v := .ref 119) G (by decide +kernel) (by decide +kernel) (by decide) (by decide) (by decide) rfl ?_
  refine C_getf (i := 18) (x := 11) (y := 0) (v := .ref 120) G (by decide +kernel) (by decide +kernel) (by decide) (by decide) (by decide) rfl ?_
  refine C_putr (i := 22) (x := 1) (y := 2) (ty := (.object "StatueRent$City")) G (by decide +kernel) (by decide +kernel) (by decide) (by decide) (by decide) (by decide) (Or.inr ⟨(by decide), hnm, rfl⟩) (by decide +kernel) rfl rfl (by decide) (by decide +kernel) (by decide) ?_
  have oo := oo.put (a := 118) (j := 2) (by decide) (by decide +kernel)
  refine C_aload_n (n := 0) (i := 0) (v := 118) G (by decide +kernel) rfl rfl ?_
  refine C_aload_n (n := 1) (i := 1) (v := 1) G (by decide +kernel) rfl rfl ?_
  refine C_putr (i := 23) (x := 1) (y := 0) (ty := (.object "StatueRent$Tape")) G (by decide +kernel) (by decide +kernel) (by decide) (by decide) (by decide) (by decide) (Or.inr ⟨(by decide), hnm, rfl⟩) (by decide +kernel) rfl rfl (by decide) (by decide +kernel) (by decide) ?_
  have oo := oo.put (a := 118) (j := 0) (by decide) (by decide +kernel)
  exact C_ret (X0 := X) (ad := ad1) G hr hlk (n0.tr n1 (by decide)) (by decide +kernel)
theorem okK_X5_init : okR yX5_init cX5_init 3 none 2 := ⟨by decide +kernel, by decide +kernel, by decide +kernel, by decide +kernel, by decide +kernel, by decide, by decide +kernel⟩
theorem OO_K_X5_init_149 {S : Nat → Nat → Bool} (oo : OkS 150 S) : OkS 154 (sU (sU (sU (sU (sU (sU S 149 3) 149 4) 149 5) 149 6) 149 0) 149 1) := ((((((oo.up.put (a := 149) (j := 3) (by decide) (by decide +kernel)).up.put (a := 149) (j := 4) (by decide) (by decide +kernel)).up.put (a := 149) (j := 5) (by decide) (by decide +kernel)).up.put (a := 149) (j := 6) (by decide) (by decide +kernel)).put (a := 149) (j := 0) (by decide) (by decide +kernel)).put (a := 149) (j := 1) (by decide) (by decide +kernel))
theorem ZZ_K_X5_init_149 {u : Mm} (zz : ZrC 150 u) : ZrC 154 (u) := zz.up.up.up.up
set_option maxRecDepth 100000 in
theorem K_X5_init_149 {X : Xc} {d : Nat} {S : Nat → Nat → Bool} {u : Mm} (had : adOk X) (oo : OkS 150 S) (zz : ZrC 150 u) (hz : ∀ j, u.1 149 j = 0) : CK X (d + 1) yX5_init cX5_init 3 [.ref 149, .ref 1, .ref 5] u 150 S 4 160 (u) 154 (sU (sU (sU (sU (sU (sU S 149 3) 149 4) 149 5) 149 6) 149 0) 149 1) := by
  refine CK_of okK_X5_init rfl oo zz ?_
  intro p e s m args below meth c G hA hr hlk hnm
  have zz00 := zz
  refine C_aload_n (n := 0) (i := 0) (v := 149) G (by decide +kernel) rfl rfl ?_
  refine C_obj (i := 3) (a := 149) (r := []) G (by decide +kernel) (by decide +kernel) (by show 1 ≤ d + 1; omega) (by show 0 + 12 ≤ 64 * (d + 1); omega) ?_
  refine C_aload_n (n := 0) (i := 0) (v := 149) G (by decide +kernel) rfl rfl ?_
  refine C_iconst (n := 0) (v := 0) G (by decide +kernel) rfl ?_
  refine C_put0 (i := 9) (x := 5) (y := 2) (ty := .int) G (by decide +kernel) (by decide +kernel) (by decide) (by decide) (by decide) (by decide) (Or.inl (by decide)) (by decide +kernel) rfl rfl (Or.inl (by decide)) (hz 2) ?_
  refine C_aload_n (n := 0) (i := 0) (v := 149) G (by decide +kernel) rfl rfl ?_
  refine C_bipush (n := 40) (v := 40) G (by decide +kernel) rfl ?_
  have oo0 := oo; have zz0 := zz
  refine C_newi (x := 0) (N := 40) G (by decide +kernel) (by decide +kernel) (by decide +kernel) (by decide) hA rfl (by decide) (Nat.le_of_ble_eq_true rfl) (Nat.le_of_ble_eq_true rfl) rfl rfl (fun ad0 n0 => ?_)
  have G := G.nx n0; have oo := oo.up; have zz := zz.up
  refine C_putr (i := 15) (x := 5) (y := 3) (ty := (.array .int)) G (by decide +kernel) (by decide +kernel) (by decide) (by decide) (by decide) (by decide) (Or.inr ⟨(by decide), hnm, rfl⟩) (by decide +kernel) rfl rfl (by decide) (by decide +kernel) (by decide) ?_
  have oo := oo.put (a := 149) (j := 3) (by decide) (by decide +kernel)
  refine C_aload_n (n := 0) (i := 0) (v := 149) G (by decide +kernel) rfl rfl ?_
  refine C_bipush (n := 40) (v := 40) G (by decide +kernel) rfl ?_
  have oo0 := oo; have zz0 := zz
  refine C_newi (x := 0) (N := 40) G (by decide +kernel) (by decide +kernel) (by decide +kernel) (by decide) hA rfl (by decide) (Nat.le_of_ble_eq_true rfl) (Nat.le_of_ble_eq_true rfl) rfl rfl (fun ad1 n1 => ?_)
  have G := G.nx n1; have oo := oo.up; have zz := zz.up
  refine C_putr (i := 19) (x := 5) (y := 4) (ty := (.array .int)) G (by decide +kernel) (by decide +kernel) (by decide) (by decide) (by decide) (by decide) (Or.inr ⟨(by decide), hnm, rfl⟩) (by decide +kernel) rfl rfl (by decide) (by decide +kernel) (by decide) ?_
  have oo := oo.put (a := 149) (j := 4) (by decide) (by decide +kernel)
  refine C_aload_n (n := 0) (i := 0) (v := 149) G (by decide +kernel) rfl rfl ?_
  refine C_bipush (n := 40) (v := 40) G (by decide +kernel) rfl ?_
  have oo0 := oo; have zz0 := zz
  refine C_newi (x := 0) (N := 40) G (by decide +kernel) (by decide +kernel) (by decide +kernel) (by decide) hA rfl (by decide) (Nat.le_of_ble_eq_true rfl) (Nat.le_of_ble_eq_true rfl) rfl rfl (fun ad2 n2 => ?_)
  have G := G.nx n2; have oo := oo.up; have zz := zz.up
  refine C_putr (i := 22) (x := 5) (y := 5) (ty := (.array .int)) G (by decide +kernel) (by decide +kernel) (by decide) (by decide) (by decide) (by decide) (Or.inr ⟨(by decide), hnm, rfl⟩) (by decide +kernel) rfl rfl (by decide) (by decide +kernel) (by decide) ?_
  have oo := oo.put (a := 149) (j := 5) (by decide) (by decide +kernel)
  refine C_aload_n (n := 0) (i := 0) (v := 149) G (by decide +kernel) rfl rfl ?_
  refine C_bipush (n := 40) (v := 40) G (by decide +kernel) rfl ?_
  have oo0 := oo; have zz0 := zz
  refine C_newi (x := 0) (N := 40) G (by decide +kernel) (by decide +kernel) (by decide +kernel) (by decide) hA rfl (by decide) (Nat.le_of_ble_eq_true rfl) (Nat.le_of_ble_eq_true rfl) rfl rfl (fun ad3 n3 => ?_)
  have G := G.nx n3; have oo := oo.up; have zz := zz.up
  refine C_putr (i := 25) (x := 5) (y := 6) (ty := (.array .int)) G (by decide +kernel) (by decide +kernel) (by decide) (by decide) (by decide) (by decide) (Or.inr ⟨(by decide), hnm, rfl⟩) (by decide +kernel) rfl rfl (by decide) (by decide +kernel) (by decide) ?_
  have oo := oo.put (a := 149) (j := 6) (by decide) (by decide +kernel)
  refine C_aload_n (n := 0) (i := 0) (v := 149) G (by decide +kernel) rfl rfl ?_
  refine C_iconst (n := 0) (v := 0) G (by decide +kernel) rfl ?_
  refine C_put0 (i := 28) (x := 5) (y := 7) (ty := .boolean) G (by decide +kernel) (by decide +kernel) (by decide) (by decide) (by decide) (by decide) (Or.inl (by decide)) (by decide +kernel) rfl rfl (Or.inr (by decide)) (hz 7) ?_
  refine C_aload_n (n := 0) (i := 0) (v := 149) G (by decide +kernel) rfl rfl ?_
  refine C_iconst (n := 0) (v := 0) G (by decide +kernel) rfl ?_
  refine C_put0 (i := 32) (x := 5) (y := 8) (ty := .int) G (by decide +kernel) (by decide +kernel) (by decide) (by decide) (by decide) (by decide) (Or.inl (by decide)) (by decide +kernel) rfl rfl (Or.inl (by decide)) (hz 8) ?_
  refine C_aload_n (n := 0) (i := 0) (v := 149) G (by decide +kernel) rfl rfl ?_
  refine C_iconst (n := 0) (v := 0) G (by decide +kernel) rfl ?_
  refine C_put0 (i := 35) (x := 5) (y := 9) (ty := .int) G (by decide +kernel) (by decide +kernel) (by decide) (by decide) (by decide) (by decide) (Or.inl (by decide)) (by decide +kernel) rfl rfl (Or.inl (by decide)) (hz 9) ?_
  refine C_aload_n (n := 0) (i := 0) (v := 149) G (by decide +kernel) rfl rfl ?_
  refine C_iconst (n := 0) (v := 0) G (by decide +kernel) rfl ?_
  refine C_put0 (i := 38) (x := 5) (y := 10) (ty := .int) G (by decide +kernel) (by decide +kernel) (by decide) (by decide) (by decide) (by decide) (Or.inl (by decide)) (by decide +kernel) rfl rfl (Or.inl (by decide)) (hz 10) ?_
  refine C_aload_n (n := 0) (i := 0) (v := 149) G (by decide +kernel) rfl rfl ?_
  refine C_iconst (n := 0) (v := 0) G (by decide +kernel) rfl ?_
  refine C_put0 (i := 41) (x := 5) (y := 11) (ty := .int) G (by decide +kernel) (by decide +kernel) (by decide) (by decide) (by decide) (by decide) (Or.inl (by decide)) (by decide +kernel) rfl rfl (Or.inl (by decide)) (hz 11) ?_
  refine C_aload_n (n := 0) (i := 0) (v := 149) G (by decide +kernel) rfl rfl ?_
  refine C_aload_n (n := 1) (i := 1) (v := 1) G (by decide +kernel) rfl rfl ?_
  refine C_putr (i := 44) (x := 5) (y := 0) (ty := (.object "StatueRent$Tape")) G (by decide +kernel) (by decide +kernel) (by decide) (by decide) (by decide) (by decide) (Or.inr ⟨(by decide), hnm, rfl⟩) (by decide +kernel) rfl rfl (by decide) (by decide +kernel) (by decide) ?_
  have oo := oo.put (a := 149) (j := 0) (by decide) (by decide +kernel)
  refine C_aload_n (n := 0) (i := 0) (v := 149) G (by decide +kernel) rfl rfl ?_
  refine C_aload_n (n := 2) (i := 2) (v := 5) G (by decide +kernel) rfl rfl ?_
  refine C_putr (i := 48) (x := 5) (y := 1) (ty := (.object "StatueRent$City")) G (by decide +kernel) (by decide +kernel) (by decide) (by decide) (by decide) (by decide) (Or.inr ⟨(by decide), hnm, rfl⟩) (by decide +kernel) rfl rfl (by decide) (by decide +kernel) (by decide) ?_
  have oo := oo.put (a := 149) (j := 1) (by decide) (by decide +kernel)
  exact C_ret (X0 := X) (ad := ad3) G hr hlk (((n0.tr n1 (by decide)).tr n2 (by decide)).tr n3 (by decide)) (by decide +kernel)
theorem okK_X9_init : okR yX9_init cX9_init 3 none 2 := ⟨by decide +kernel, by decide +kernel, by decide +kernel, by decide +kernel, by decide +kernel, by decide, by decide +kernel⟩
theorem OO_K_X8_init_155 {S : Nat → Nat → Bool} (oo : OkS 156 S) : OkS 160 (sU (sU (sU (sU S 155 1) 155 2) 155 3) 155 4) := ((((oo.up.put (a := 155) (j := 1) (by decide) (by decide +kernel)).up.put (a := 155) (j := 2) (by decide) (by decide +kernel)).up.put (a := 155) (j := 3) (by decide) (by decide +kernel)).up.put (a := 155) (j := 4) (by decide) (by decide +kernel))
theorem ZZ_K_X8_init_155 {u : Mm} (zz : ZrC 156 u) : ZrC 160 (u) := zz.up.up.up.up
set_option maxRecDepth 100000 in
theorem K_X8_init_155 {X : Xc} {d : Nat} {S : Nat → Nat → Bool} {u : Mm} (had : adOk X) (oo : OkS 156 S) (zz : ZrC 156 u) (hz : ∀ j, u.1 155 j = 0) : CK X (d + 1) yX8_init cX8_init 1 [.ref 155] u 156 S 4 140 (u) 160 (sU (sU (sU (sU S 155 1) 155 2) 155 3) 155 4) := by
  refine CK_of okK_X8_init rfl oo zz ?_
  intro p e s m args below meth c G hA hr hlk hnm
  have zz00 := zz
  refine C_aload_n (n := 0) (i := 0) (v := 155) G (by decide +kernel) rfl rfl ?_
  refine C_obj (i := 3) (a := 155) (r := []) G (by decide +kernel) (by decide +kernel) (by show 1 ≤ d + 1; omega) (by show 0 + 12 ≤ 64 * (d + 1); omega) ?_
  refine C_aload_n (n := 0) (i := 0) (v := 155) G (by decide +kernel) rfl rfl ?_
  refine C_iconst (n := 0) (v := 0) G (by decide +kernel) rfl ?_
  refine C_put0 (i := 9) (x := 8) (y := 0) (ty := .int) G (by decide +kernel) (by decide +kernel) (by decide) (by decide) (by decide) (by decide) (Or.inl (by decide)) (by decide +kernel) rfl rfl (Or.inl (by decide)) (hz 0) ?_
  refine C_aload_n (n := 0) (i := 0) (v := 155) G (by decide +kernel) rfl rfl ?_
  refine C_bipush (n := 40) (v := 40) G (by decide +kernel) rfl ?_
  have oo0 := oo; have zz0 := zz
  refine C_newi (x := 0) (N := 40) G (by decide +kernel) (by decide +kernel) (by decide +kernel) (by decide) hA rfl (by decide) (Nat.le_of_ble_eq_true rfl) (Nat.le_of_ble_eq_true rfl) rfl rfl (fun ad0 n0 => ?_)
  have G := G.nx n0; have oo := oo.up; have zz := zz.up
  refine C_putr (i := 15) (x := 8) (y := 1) (ty := (.array .int)) G (by decide +kernel) (by decide +kernel) (by decide) (by decide) (by decide) (by decide) (Or.inr ⟨(by decide), hnm, rfl⟩) (by decide +kernel) rfl rfl (by decide) (by decide +kernel) (by decide) ?_
  have oo := oo.put (a := 155) (j := 1) (by decide) (by decide +kernel)
  refine C_aload_n (n := 0) (i := 0) (v := 155) G (by decide +kernel) rfl rfl ?_
  refine C_bipush (n := 40) (v := 40) G (by decide +kernel) rfl ?_
  have oo0 := oo; have zz0 := zz
  refine C_newi (x := 0) (N := 40) G (by decide +kernel) (by decide +kernel) (by decide +kernel) (by decide) hA rfl (by decide) (Nat.le_of_ble_eq_true rfl) (Nat.le_of_ble_eq_true rfl) rfl rfl (fun ad1 n1 => ?_)
  have G := G.nx n1; have oo := oo.up; have zz := zz.up
  refine C_putr (i := 19) (x := 8) (y := 2) (ty := (.array .int)) G (by decide +kernel) (by decide +kernel) (by decide) (by decide) (by decide) (by decide) (Or.inr ⟨(by decide), hnm, rfl⟩) (by decide +kernel) rfl rfl (by decide) (by decide +kernel) (by decide) ?_
  have oo := oo.put (a := 155) (j := 2) (by decide) (by decide +kernel)
  refine C_aload_n (n := 0) (i := 0) (v := 155) G (by decide +kernel) rfl rfl ?_
  refine C_bipush (n := 40) (v := 40) G (by decide +kernel) rfl ?_
  have oo0 := oo; have zz0 := zz
  refine C_newi (x := 0) (N := 40) G (by decide +kernel) (by decide +kernel) (by decide +kernel) (by decide) hA rfl (by decide) (Nat.le_of_ble_eq_true rfl) (Nat.le_of_ble_eq_true rfl) rfl rfl (fun ad2 n2 => ?_)
  have G := G.nx n2; have oo := oo.up; have zz := zz.up
  refine C_putr (i := 22) (x := 8) (y := 3) (ty := (.array .int)) G (by decide +kernel) (by decide +kernel) (by decide) (by decide) (by decide) (by decide) (Or.inr ⟨(by decide), hnm, rfl⟩) (by decide +kernel) rfl rfl (by decide) (by decide +kernel) (by decide) ?_
  have oo := oo.put (a := 155) (j := 3) (by decide) (by decide +kernel)
  refine C_aload_n (n := 0) (i := 0) (v := 155) G (by decide +kernel) rfl rfl ?_
  refine C_bipush (n := 20) (v := 20) G (by decide +kernel) rfl ?_
  have oo0 := oo; have zz0 := zz
  refine C_newi (x := 0) (N := 20) G (by decide +kernel) (by decide +kernel) (by decide +kernel) (by decide) hA rfl (by decide) (Nat.le_of_ble_eq_true rfl) (Nat.le_of_ble_eq_true rfl) rfl rfl (fun ad3 n3 => ?_)
  have G := G.nx n3; have oo := oo.up; have zz := zz.up
  refine C_putr (i := 25) (x := 8) (y := 4) (ty := (.array .int)) G (by decide +kernel) (by decide +kernel) (by decide) (by decide) (by decide) (by decide) (Or.inr ⟨(by decide), hnm, rfl⟩) (by decide +kernel) rfl rfl (by decide) (by decide +kernel) (by decide) ?_
  have oo := oo.put (a := 155) (j := 4) (by decide) (by decide +kernel)
  exact C_ret (X0 := X) (ad := ad3) G hr hlk (((n0.tr n1 (by decide)).tr n2 (by decide)).tr n3 (by decide)) (by decide +kernel)
theorem OO_K_X9_init_154 {S : Nat → Nat → Bool} (oo : OkS 155 S) : OkS 160 (sU (sU (sU (sU (sU (sU (sU S 155 1) 155 2) 155 3) 155 4) 154 2) 154 0) 154 1) := ((((OO_K_X8_init_155 oo.up).put (a := 154) (j := 2) (by decide) (by decide +kernel)).put (a := 154) (j := 0) (by decide) (by decide +kernel)).put (a := 154) (j := 1) (by decide) (by decide +kernel))
theorem ZZ_K_X9_init_154 {u : Mm} (zz : ZrC 155 u) : ZrC 160 (u) := (ZZ_K_X8_init_155 zz.up)
set_option maxRecDepth 100000 in
theorem K_X9_init_154 {X : Xc} {d : Nat} {S : Nat → Nat → Bool} {u : Mm} (had : adOk X) (oo : OkS 155 S) (zz : ZrC 155 u) (hz : ∀ j, u.1 154 j = 0) : CK X (d + 2) yX9_init cX9_init 3 [.ref 154, .ref 1, .ref 5] u 155 S 5 145 (u) 160 (sU (sU (sU (sU (sU (sU (sU S 155 1) 155 2) 155 3) 155 4) 154 2) 154 0) 154 1) := by
  refine CK_of okK_X9_init rfl oo zz ?_
  intro p e s m args below meth c G hA hr hlk hnm
  have zz00 := zz
  refine C_aload_n (n := 0) (i := 0) (v := 154) G (by decide +kernel) rfl rfl ?_
  refine C_obj (i := 3) (a := 154) (r := []) G (by decide +kernel) (by decide +kernel) (by show 1 ≤ d + 2; omega) (by show 0 + 12 ≤ 64 * (d + 2); omega) ?_
  refine C_aload_n (n := 0) (i := 0) (v := 154) G (by decide +kernel) rfl rfl ?_
  have hz155 : ∀ j, u.1 155 j = 0 := fun j => congrFun (zz 155 (Nat.le_refl _)).1 j
  have hy155 : ∀ j, u.2 155 j = 0 := fun j => congrFun (zz 155 (Nat.le_refl _)).2 j
  refine C_new (i := 9) (x := 8) G (by decide +kernel) (by decide +kernel) (by decide) (by decide) ⟨(by decide +kernel), (by decide +kernel), (by decide +kernel)⟩ hA (Nat.le_of_ble_eq_true rfl) (Nat.le_of_ble_eq_true rfl) rfl rfl (fun ad0 n0 => ?_)
  have G := G.nx n0; have oo := oo.up; have zz := zz.up
  refine C_dup_r G (by decide +kernel) ?_
  refine C_callN (y := yX8_init) (bytes := cX8_init) (maxL := 1) (i := 11) (d := d + 1) (a := 155) (as := []) (r := [.ref 155, .ref 154]) G okK_X8_init ⟨rfl, (by decide +kernel)⟩ (by decide +kernel) (Nat.le_refl _) (Nat.le_refl _) ⟨Nat.le_of_ble_eq_true rfl, Nat.le_of_ble_eq_true rfl⟩ hA (K_X8_init_155 (d := d) G.ad oo zz hz155) rfl (by decide) (by decide +kernel) rfl rfl OO_K_X8_init_155 ZZ_K_X8_init_155 (fun ad1 n1 => ?_)
  have G := G.nx n1; have oo := OO_K_X8_init_155 oo; have zz := ZZ_K_X8_init_155 zz
  refine C_putr (i := 12) (x := 9) (y := 2) (ty := (.object "StatueRent$Sentence")) G (by decide +kernel) (by decide +kernel) (by decide) (by decide) (by decide) (by decide) (Or.inr ⟨(by decide), hnm, rfl⟩) (by decide +kernel) rfl rfl (by decide) (by decide +kernel) (by decide) ?_
  have oo := oo.put (a := 154) (j := 2) (by decide) (by decide +kernel)
  refine C_aload_n (n := 0) (i := 0) (v := 154) G (by decide +kernel) rfl rfl ?_
  refine C_iconst (n := 0) (v := 0) G (by decide +kernel) rfl ?_
  refine C_put0 (i := 18) (x := 9) (y := 3) (ty := .int) G (by decide +kernel) (by decide +kernel) (by decide) (by decide) (by decide) (by decide) (Or.inl (by decide)) (by decide +kernel) rfl rfl (Or.inl (by decide)) (hz 3) ?_
  refine C_aload_n (n := 0) (i := 0) (v := 154) G (by decide +kernel) rfl rfl ?_
  refine C_aload_n (n := 1) (i := 1) (v := 1) G (by decide +kernel) rfl rfl ?_
  refine C_putr (i := 22) (x := 9) (y := 0) (ty := (.object "StatueRent$Tape")) G (by decide +kernel) (by decide +kernel) (by decide) (by decide) (by decide) (by decide) (Or.inr ⟨(by decide), hnm, rfl⟩) (by decide +kernel) rfl rfl (by decide) (by decide +kernel) (by decide) ?_
  have oo := oo.put (a := 154) (j := 0) (by decide) (by decide +kernel)
  refine C_aload_n (n := 0) (i := 0) (v := 154) G (by decide +kernel) rfl rfl ?_
  refine C_aload_n (n := 2) (i := 2) (v := 5) G (by decide +kernel) rfl rfl ?_
  refine C_putr (i := 26) (x := 9) (y := 1) (ty := (.object "StatueRent$City")) G (by decide +kernel) (by decide +kernel) (by decide) (by decide) (by decide) (by decide) (Or.inr ⟨(by decide), hnm, rfl⟩) (by decide +kernel) rfl rfl (by decide) (by decide +kernel) (by decide) ?_
  have oo := oo.put (a := 154) (j := 1) (by decide) (by decide +kernel)
  exact C_ret (X0 := X) (ad := ad1) G hr hlk (n0.tr n1 (by decide)) (by decide +kernel)
theorem okK_X7_init : okR yX7_init cX7_init 3 none 2 := ⟨by decide +kernel, by decide +kernel, by decide +kernel, by decide +kernel, by decide +kernel, by decide, by decide +kernel⟩
theorem OO_K_X7_init_160 {S : Nat → Nat → Bool} (oo : OkS 161 S) : OkS 165 (sU (sU (sU (sU (sU (sU S 160 2) 160 3) 160 4) 160 5) 160 0) 160 1) := ((((((oo.up.put (a := 160) (j := 2) (by decide) (by decide +kernel)).up.put (a := 160) (j := 3) (by decide) (by decide +kernel)).up.put (a := 160) (j := 4) (by decide) (by decide +kernel)).up.put (a := 160) (j := 5) (by decide) (by decide +kernel)).put (a := 160) (j := 0) (by decide) (by decide +kernel)).put (a := 160) (j := 1) (by decide) (by decide +kernel))
theorem ZZ_K_X7_init_160 {u : Mm} (zz : ZrC 161 u) : ZrC 165 (mI (mI (mI (mI u 160 6 (-1)) 160 7 (-1)) 160 8 (-1)) 160 9 (-1)) := ((((zz.up.up.up.up.mI (a := 160) (j := 6) (x := (-1)) (by decide)).mI (a := 160) (j := 7) (x := (-1)) (by decide)).mI (a := 160) (j := 8) (x := (-1)) (by decide)).mI (a := 160) (j := 9) (x := (-1)) (by decide))
set_option maxRecDepth 100000 in
theorem K_X7_init_160 {X : Xc} {d : Nat} {S : Nat → Nat → Bool} {u : Mm} (had : adOk X) (oo : OkS 161 S) (zz : ZrC 161 u) (hz : ∀ j, u.1 160 j = 0) : CK X (d + 1) yX7_init cX7_init 3 [.ref 160, .ref 5, .ref 20] u 161 S 4 336 (mI (mI (mI (mI u 160 6 (-1)) 160 7 (-1)) 160 8 (-1)) 160 9 (-1)) 165 (sU (sU (sU (sU (sU (sU S 160 2) 160 3) 160 4) 160 5) 160 0) 160 1) := by
  refine CK_of okK_X7_init rfl oo zz ?_
  intro p e s m args below meth c G hA hr hlk hnm
  have zz00 := zz
  refine C_aload_n (n := 0) (i := 0) (v := 160) G (by decide +kernel) rfl rfl ?_
  refine C_obj (i := 5) (a := 160) (r := []) G (by decide +kernel) (by decide +kernel) (by show 1 ≤ d + 1; omega) (by show 0 + 12 ≤ 64 * (d + 1); omega) ?_
  refine C_aload_n (n := 0) (i := 0) (v := 160) G (by decide +kernel) rfl rfl ?_
  refine C_bipush (n := 8) (v := 8) G (by decide +kernel) rfl ?_
  have oo0 := oo; have zz0 := zz
  refine C_newi (x := 0) (N := 8) G (by decide +kernel) (by decide +kernel) (by decide +kernel) (by decide) hA rfl (by decide) (Nat.le_of_ble_eq_true rfl) (Nat.le_of_ble_eq_true rfl) rfl rfl (fun ad0 n0 => ?_)
  have G := G.nx n0; have oo := oo.up; have zz := zz.up
  refine C_putr (i := 11) (x := 7) (y := 2) (ty := (.array .int)) G (by decide +kernel) (by decide +kernel) (by decide) (by decide) (by decide) (by decide) (Or.inr ⟨(by decide), hnm, rfl⟩) (by decide +kernel) rfl rfl (by decide) (by decide +kernel) (by decide) ?_
  have oo := oo.put (a := 160) (j := 2) (by decide) (by decide +kernel)
  refine C_aload_n (n := 0) (i := 0) (v := 160) G (by decide +kernel) rfl rfl ?_
  refine C_bipush (n := 8) (v := 8) G (by decide +kernel) rfl ?_
  have oo0 := oo; have zz0 := zz
  refine C_newi (x := 0) (N := 8) G (by decide +kernel) (by decide +kernel) (by decide +kernel) (by decide) hA rfl (by decide) (Nat.le_of_ble_eq_true rfl) (Nat.le_of_ble_eq_true rfl) rfl rfl (fun ad1 n1 => ?_)
  have G := G.nx n1; have oo := oo.up; have zz := zz.up
  refine C_putr (i := 15) (x := 7) (y := 3) (ty := (.array .int)) G (by decide +kernel) (by decide +kernel) (by decide) (by decide) (by decide) (by decide) (Or.inr ⟨(by decide), hnm, rfl⟩) (by decide +kernel) rfl rfl (by decide) (by decide +kernel) (by decide) ?_
  have oo := oo.put (a := 160) (j := 3) (by decide) (by decide +kernel)
  refine C_aload_n (n := 0) (i := 0) (v := 160) G (by decide +kernel) rfl rfl ?_
  refine C_bipush (n := 64) (v := 64) G (by decide +kernel) rfl ?_
  have oo0 := oo; have zz0 := zz
  refine C_newi (x := 0) (N := 64) G (by decide +kernel) (by decide +kernel) (by decide +kernel) (by decide) hA rfl (by decide) (Nat.le_of_ble_eq_true rfl) (Nat.le_of_ble_eq_true rfl) rfl rfl (fun ad2 n2 => ?_)
  have G := G.nx n2; have oo := oo.up; have zz := zz.up
  refine C_putr (i := 18) (x := 7) (y := 4) (ty := (.array .int)) G (by decide +kernel) (by decide +kernel) (by decide) (by decide) (by decide) (by decide) (Or.inr ⟨(by decide), hnm, rfl⟩) (by decide +kernel) rfl rfl (by decide) (by decide +kernel) (by decide) ?_
  have oo := oo.put (a := 160) (j := 4) (by decide) (by decide +kernel)
  refine C_aload_n (n := 0) (i := 0) (v := 160) G (by decide +kernel) rfl rfl ?_
  refine C_sipush (n := 256) (v := 256) G (by decide +kernel) rfl ?_
  have oo0 := oo; have zz0 := zz
  refine C_newi (x := 0) (N := 256) G (by decide +kernel) (by decide +kernel) (by decide +kernel) (by decide) hA rfl (by decide) (Nat.le_of_ble_eq_true rfl) (Nat.le_of_ble_eq_true rfl) rfl rfl (fun ad3 n3 => ?_)
  have G := G.nx n3; have oo := oo.up; have zz := zz.up
  refine C_putr (i := 21) (x := 7) (y := 5) (ty := (.array .int)) G (by decide +kernel) (by decide +kernel) (by decide) (by decide) (by decide) (by decide) (Or.inr ⟨(by decide), hnm, rfl⟩) (by decide +kernel) rfl rfl (by decide) (by decide +kernel) (by decide) ?_
  have oo := oo.put (a := 160) (j := 5) (by decide) (by decide +kernel)
  refine C_aload_n (n := 0) (i := 0) (v := 160) G (by decide +kernel) rfl rfl ?_
  refine C_iconst (n := -1) (v := -1) G (by decide +kernel) rfl ?_
  refine C_puti (i := 24) (x := 7) (y := 6) (ty := .int) G (by decide +kernel) (by decide +kernel) (by decide) (by decide) (by decide) (by decide) (Or.inl (by decide)) (by decide +kernel) rfl rfl (by decide) ?_
  have zz := zz.mI (a := 160) (j := 6) (x := (-1)) (by decide)
  refine C_aload_n (n := 0) (i := 0) (v := 160) G (by decide +kernel) rfl rfl ?_
  refine C_iconst (n := -1) (v := -1) G (by decide +kernel) rfl ?_
  refine C_puti (i := 28) (x := 7) (y := 7) (ty := .int) G (by decide +kernel) (by decide +kernel) (by decide) (by decide) (by decide) (by decide) (Or.inl (by decide)) (by decide +kernel) rfl rfl (by decide) ?_
  have zz := zz.mI (a := 160) (j := 7) (x := (-1)) (by decide)
  refine C_aload_n (n := 0) (i := 0) (v := 160) G (by decide +kernel) rfl rfl ?_
  refine C_iconst (n := -1) (v := -1) G (by decide +kernel) rfl ?_
  refine C_puti (i := 31) (x := 7) (y := 8) (ty := .int) G (by decide +kernel) (by decide +kernel) (by decide) (by decide) (by decide) (by decide) (Or.inl (by decide)) (by decide +kernel) rfl rfl (by decide) ?_
  have zz := zz.mI (a := 160) (j := 8) (x := (-1)) (by decide)
  refine C_aload_n (n := 0) (i := 0) (v := 160) G (by decide +kernel) rfl rfl ?_
  refine C_iconst (n := -1) (v := -1) G (by decide +kernel) rfl ?_
  refine C_puti (i := 34) (x := 7) (y := 9) (ty := .int) G (by decide +kernel) (by decide +kernel) (by decide) (by decide) (by decide) (by decide) (Or.inl (by decide)) (by decide +kernel) rfl rfl (by decide) ?_
  have zz := zz.mI (a := 160) (j := 9) (x := (-1)) (by decide)
  refine C_aload_n (n := 0) (i := 0) (v := 160) G (by decide +kernel) rfl rfl ?_
  refine C_aload_n (n := 1) (i := 1) (v := 5) G (by decide +kernel) rfl rfl ?_
  refine C_putr (i := 37) (x := 7) (y := 0) (ty := (.object "StatueRent$City")) G (by decide +kernel) (by decide +kernel) (by decide) (by decide) (by decide) (by decide) (Or.inr ⟨(by decide), hnm, rfl⟩) (by decide +kernel) rfl rfl (by decide) (by decide +kernel) (by decide) ?_
  have oo := oo.put (a := 160) (j := 0) (by decide) (by decide +kernel)
  refine C_aload_n (n := 0) (i := 0) (v := 160) G (by decide +kernel) rfl rfl ?_
  refine C_aload_n (n := 2) (i := 2) (v := 20) G (by decide +kernel) rfl rfl ?_
  refine C_putr (i := 41) (x := 7) (y := 1) (ty := (.object "StatueRent$Life")) G (by decide +kernel) (by decide +kernel) (by decide) (by decide) (by decide) (by decide) (Or.inr ⟨(by decide), hnm, rfl⟩) (by decide +kernel) rfl rfl (by decide) (by decide +kernel) (by decide) ?_
  have oo := oo.put (a := 160) (j := 1) (by decide) (by decide +kernel)
  exact C_ret (X0 := X) (ad := ad3) G hr hlk (((n0.tr n1 (by decide)).tr n2 (by decide)).tr n3 (by decide)) (by decide +kernel)
theorem okK_X3_init : okR yX3_init cX3_init 3 none 2 := ⟨by decide +kernel, by decide +kernel, by decide +kernel, by decide +kernel, by decide +kernel, by decide, by decide +kernel⟩
theorem OO_K_X3_init_165 {S : Nat → Nat → Bool} (oo : OkS 166 S) : OkS 171 (sU (sU (sU (sU (sU (sU (sU S 165 2) 165 4) 165 5) 165 9) 165 11) 165 0) 165 1) := (((((((oo.up.put (a := 165) (j := 2) (by decide) (by decide +kernel)).up.put (a := 165) (j := 4) (by decide) (by decide +kernel)).up.put (a := 165) (j := 5) (by decide) (by decide +kernel)).up.put (a := 165) (j := 9) (by decide) (by decide +kernel)).up.put (a := 165) (j := 11) (by decide) (by decide +kernel)).put (a := 165) (j := 0) (by decide) (by decide +kernel)).put (a := 165) (j := 1) (by decide) (by decide +kernel))
theorem ZZ_K_X3_init_165 {u : Mm} (zz : ZrC 166 u) : ZrC 171 (u) := zz.up.up.up.up.up
set_option maxRecDepth 100000 in
theorem K_X3_init_165 {X : Xc} {d : Nat} {S : Nat → Nat → Bool} {u : Mm} (had : adOk X) (oo : OkS 166 S) (zz : ZrC 166 u) (hz : ∀ j, u.1 165 j = 0) : CK X (d + 1) yX3_init cX3_init 3 [.ref 165, .ref 5, .ref 20] u 166 S 5 40 (u) 171 (sU (sU (sU (sU (sU (sU (sU S 165 2) 165 4) 165 5) 165 9) 165 11) 165 0) 165 1) := by
  refine CK_of okK_X3_init rfl oo zz ?_
  intro p e s m args below meth c G hA hr hlk hnm
  have zz00 := zz
  refine C_aload_n (n := 0) (i := 0) (v := 165) G (by decide +kernel) rfl rfl ?_
  refine C_obj (i := 3) (a := 165) (r := []) G (by decide +kernel) (by decide +kernel) (by show 1 ≤ d + 1; omega) (by show 0 + 12 ≤ 64 * (d + 1); omega) ?_
  refine C_aload_n (n := 0) (i := 0) (v := 165) G (by decide +kernel) rfl rfl ?_
  refine C_bipush (n := 8) (v := 8) G (by decide +kernel) rfl ?_
  have oo0 := oo; have zz0 := zz
  refine C_newi (x := 0) (N := 8) G (by decide +kernel) (by decide +kernel) (by decide +kernel) (by decide) hA rfl (by decide) (Nat.le_of_ble_eq_true rfl) (Nat.le_of_ble_eq_true rfl) rfl rfl (fun ad0 n0 => ?_)
  have G := G.nx n0; have oo := oo.up; have zz := zz.up
  refine C_putr (i := 9) (x := 3) (y := 2) (ty := (.array .int)) G (by decide +kernel) (by decide +kernel) (by decide) (by decide) (by decide) (by decide) (Or.inr ⟨(by decide), hnm, rfl⟩) (by decide +kernel) rfl rfl (by decide) (by decide +kernel) (by decide) ?_
  have oo := oo.put (a := 165) (j := 2) (by decide) (by decide +kernel)
  refine C_aload_n (n := 0) (i := 0) (v := 165) G (by decide +kernel) rfl rfl ?_
  refine C_iconst (n := 0) (v := 0) G (by decide +kernel) rfl ?_
  refine C_put0 (i := 15) (x := 3) (y := 3) (ty := .int) G (by decide +kernel) (by decide +kernel) (by decide) (by decide) (by decide) (by decide) (Or.inl (by decide)) (by decide +kernel) rfl rfl (Or.inl (by decide)) (hz 3) ?_
  refine C_aload_n (n := 0) (i := 0) (v := 165) G (by decide +kernel) rfl rfl ?_
  refine C_bipush (n := 8) (v := 8) G (by decide +kernel) rfl ?_
  have oo0 := oo; have zz0 := zz
  refine C_newi (x := 0) (N := 8) G (by decide +kernel) (by decide +kernel) (by decide +kernel) (by decide) hA rfl (by decide) (Nat.le_of_ble_eq_true rfl) (Nat.le_of_ble_eq_true rfl) rfl rfl (fun ad1 n1 => ?_)
  have G := G.nx n1; have oo := oo.up; have zz := zz.up
  refine C_putr (i := 19) (x := 3) (y := 4) (ty := (.array .int)) G (by decide +kernel) (by decide +kernel) (by decide) (by decide) (by decide) (by decide) (Or.inr ⟨(by decide), hnm, rfl⟩) (by decide +kernel) rfl rfl (by decide) (by decide +kernel) (by decide) ?_
  have oo := oo.put (a := 165) (j := 4) (by decide) (by decide +kernel)
  refine C_aload_n (n := 0) (i := 0) (v := 165) G (by decide +kernel) rfl rfl ?_
  refine C_bipush (n := 8) (v := 8) G (by decide +kernel) rfl ?_
  have oo0 := oo; have zz0 := zz
  refine C_newi (x := 0) (N := 8) G (by decide +kernel) (by decide +kernel) (by decide +kernel) (by decide) hA rfl (by decide) (Nat.le_of_ble_eq_true rfl) (Nat.le_of_ble_eq_true rfl) rfl rfl (fun ad2 n2 => ?_)
  have G := G.nx n2; have oo := oo.up; have zz := zz.up
  refine C_putr (i := 22) (x := 3) (y := 5) (ty := (.array .int)) G (by decide +kernel) (by decide +kernel) (by decide) (by decide) (by decide) (by decide) (Or.inr ⟨(by decide), hnm, rfl⟩) (by decide +kernel) rfl rfl (by decide) (by decide +kernel) (by decide) ?_
  have oo := oo.put (a := 165) (j := 5) (by decide) (by decide +kernel)
  refine C_aload_n (n := 0) (i := 0) (v := 165) G (by decide +kernel) rfl rfl ?_
  refine C_iconst (n := 0) (v := 0) G (by decide +kernel) rfl ?_
  refine C_put0 (i := 25) (x := 3) (y := 6) (ty := .int) G (by decide +kernel) (by decide +kernel) (by decide) (by decide) (by decide) (by decide) (Or.inl (by decide)) (by decide +kernel) rfl rfl (Or.inl (by decide)) (hz 6) ?_
  refine C_aload_n (n := 0) (i := 0) (v := 165) G (by decide +kernel) rfl rfl ?_
  refine C_iconst (n := 0) (v := 0) G (by decide +kernel) rfl ?_
  refine C_put0 (i := 28) (x := 3) (y := 7) (ty := .int) G (by decide +kernel) (by decide +kernel) (by decide) (by decide) (by decide) (by decide) (Or.inl (by decide)) (by decide +kernel) rfl rfl (Or.inl (by decide)) (hz 7) ?_
  refine C_aload_n (n := 0) (i := 0) (v := 165) G (by decide +kernel) rfl rfl ?_
  refine C_iconst (n := 0) (v := 0) G (by decide +kernel) rfl ?_
  refine C_put0 (i := 31) (x := 3) (y := 8) (ty := .int) G (by decide +kernel) (by decide +kernel) (by decide) (by decide) (by decide) (by decide) (Or.inl (by decide)) (by decide +kernel) rfl rfl (Or.inl (by decide)) (hz 8) ?_
  refine C_aload_n (n := 0) (i := 0) (v := 165) G (by decide +kernel) rfl rfl ?_
  refine C_bipush (n := 8) (v := 8) G (by decide +kernel) rfl ?_
  have oo0 := oo; have zz0 := zz
  refine C_newi (x := 0) (N := 8) G (by decide +kernel) (by decide +kernel) (by decide +kernel) (by decide) hA rfl (by decide) (Nat.le_of_ble_eq_true rfl) (Nat.le_of_ble_eq_true rfl) rfl rfl (fun ad3 n3 => ?_)
  have G := G.nx n3; have oo := oo.up; have zz := zz.up
  refine C_putr (i := 34) (x := 3) (y := 9) (ty := (.array .int)) G (by decide +kernel) (by decide +kernel) (by decide) (by decide) (by decide) (by decide) (Or.inr ⟨(by decide), hnm, rfl⟩) (by decide +kernel) rfl rfl (by decide) (by decide +kernel) (by decide) ?_
  have oo := oo.put (a := 165) (j := 9) (by decide) (by decide +kernel)
  refine C_aload_n (n := 0) (i := 0) (v := 165) G (by decide +kernel) rfl rfl ?_
  refine C_iconst (n := 0) (v := 0) G (by decide +kernel) rfl ?_
  refine C_put0 (i := 37) (x := 3) (y := 10) (ty := .int) G (by decide +kernel) (by decide +kernel) (by decide) (by decide) (by decide) (by decide) (Or.inl (by decide)) (by decide +kernel) rfl rfl (Or.inl (by decide)) (hz 10) ?_
  refine C_aload_n (n := 0) (i := 0) (v := 165) G (by decide +kernel) rfl rfl ?_
  refine C_bipush (n := 8) (v := 8) G (by decide +kernel) rfl ?_
  have oo0 := oo; have zz0 := zz
  refine C_newi (x := 0) (N := 8) G (by decide +kernel) (by decide +kernel) (by decide +kernel) (by decide) hA rfl (by decide) (Nat.le_of_ble_eq_true rfl) (Nat.le_of_ble_eq_true rfl) rfl rfl (fun ad4 n4 => ?_)
  have G := G.nx n4; have oo := oo.up; have zz := zz.up
  refine C_putr (i := 40) (x := 3) (y := 11) (ty := (.array .int)) G (by decide +kernel) (by decide +kernel) (by decide) (by decide) (by decide) (by decide) (Or.inr ⟨(by decide), hnm, rfl⟩) (by decide +kernel) rfl rfl (by decide) (by decide +kernel) (by decide) ?_
  have oo := oo.put (a := 165) (j := 11) (by decide) (by decide +kernel)
  refine C_aload_n (n := 0) (i := 0) (v := 165) G (by decide +kernel) rfl rfl ?_
  refine C_iconst (n := 0) (v := 0) G (by decide +kernel) rfl ?_
  refine C_put0 (i := 43) (x := 3) (y := 12) (ty := .int) G (by decide +kernel) (by decide +kernel) (by decide) (by decide) (by decide) (by decide) (Or.inl (by decide)) (by decide +kernel) rfl rfl (Or.inl (by decide)) (hz 12) ?_
  refine C_aload_n (n := 0) (i := 0) (v := 165) G (by decide +kernel) rfl rfl ?_
  refine C_aload_n (n := 1) (i := 1) (v := 5) G (by decide +kernel) rfl rfl ?_
  refine C_putr (i := 46) (x := 3) (y := 0) (ty := (.object "StatueRent$City")) G (by decide +kernel) (by decide +kernel) (by decide) (by decide) (by decide) (by decide) (Or.inr ⟨(by decide), hnm, rfl⟩) (by decide +kernel) rfl rfl (by decide) (by decide +kernel) (by decide) ?_
  have oo := oo.put (a := 165) (j := 0) (by decide) (by decide +kernel)
  refine C_aload_n (n := 0) (i := 0) (v := 165) G (by decide +kernel) rfl rfl ?_
  refine C_aload_n (n := 2) (i := 2) (v := 20) G (by decide +kernel) rfl rfl ?_
  refine C_putr (i := 50) (x := 3) (y := 1) (ty := (.object "StatueRent$Life")) G (by decide +kernel) (by decide +kernel) (by decide) (by decide) (by decide) (by decide) (Or.inr ⟨(by decide), hnm, rfl⟩) (by decide +kernel) rfl rfl (by decide) (by decide +kernel) (by decide) ?_
  have oo := oo.put (a := 165) (j := 1) (by decide) (by decide +kernel)
  exact C_ret (X0 := X) (ad := ad4) G hr hlk ((((n0.tr n1 (by decide)).tr n2 (by decide)).tr n3 (by decide)).tr n4 (by decide)) (by decide +kernel)
theorem okK_X2_init : okR yX2_init cX2_init 4 none 3 := ⟨by decide +kernel, by decide +kernel, by decide +kernel, by decide +kernel, by decide +kernel, by decide, by decide +kernel⟩
theorem OO_K_X2_init_171 {S : Nat → Nat → Bool} (oo : OkS 172 S) : OkS 173 (sU (sU (sU (sU S 171 6) 171 0) 171 1) 171 2) := ((((oo.up.put (a := 171) (j := 6) (by decide) (by decide +kernel)).put (a := 171) (j := 0) (by decide) (by decide +kernel)).put (a := 171) (j := 1) (by decide) (by decide +kernel)).put (a := 171) (j := 2) (by decide) (by decide +kernel))
theorem ZZ_K_X2_init_171 {u : Mm} (zz : ZrC 172 u) : ZrC 173 (mI (mI (mI u 171 3 (-1)) 171 4 (-1)) 171 5 (-1)) := (((zz.mI (a := 171) (j := 3) (x := (-1)) (by decide)).mI (a := 171) (j := 4) (x := (-1)) (by decide)).mI (a := 171) (j := 5) (x := (-1)) (by decide)).up
set_option maxRecDepth 100000 in
theorem K_X2_init_171 {X : Xc} {d : Nat} {S : Nat → Nat → Bool} {u : Mm} (had : adOk X) (oo : OkS 172 S) (zz : ZrC 172 u) (hz : ∀ j, u.1 171 j = 0) : CK X (d + 1) yX2_init cX2_init 4 [.ref 171, .ref 1, .ref 5, .ref 20] u 172 S 1 5 (mI (mI (mI u 171 3 (-1)) 171 4 (-1)) 171 5 (-1)) 173 (sU (sU (sU (sU S 171 6) 171 0) 171 1) 171 2) := by
  refine CK_of okK_X2_init rfl oo zz ?_
  intro p e s m args below meth c G hA hr hlk hnm
  have zz00 := zz
  refine C_aload_n (n := 0) (i := 0) (v := 171) G (by decide +kernel) rfl rfl ?_
  refine C_obj (i := 3) (a := 171) (r := []) G (by decide +kernel) (by decide +kernel) (by show 1 ≤ d + 1; omega) (by show 0 + 12 ≤ 64 * (d + 1); omega) ?_
  refine C_aload_n (n := 0) (i := 0) (v := 171) G (by decide +kernel) rfl rfl ?_
  refine C_iconst (n := -1) (v := -1) G (by decide +kernel) rfl ?_
  refine C_puti (i := 9) (x := 2) (y := 3) (ty := .int) G (by decide +kernel) (by decide +kernel) (by decide) (by decide) (by decide) (by decide) (Or.inl (by decide)) (by decide +kernel) rfl rfl (by decide) ?_
  have zz := zz.mI (a := 171) (j := 3) (x := (-1)) (by decide)
  refine C_aload_n (n := 0) (i := 0) (v := 171) G (by decide +kernel) rfl rfl ?_
  refine C_iconst (n := -1) (v := -1) G (by decide +kernel) rfl ?_
  refine C_puti (i := 15) (x := 2) (y := 4) (ty := .int) G (by decide +kernel) (by decide +kernel) (by decide) (by decide) (by decide) (by decide) (Or.inl (by decide)) (by decide +kernel) rfl rfl (by decide) ?_
  have zz := zz.mI (a := 171) (j := 4) (x := (-1)) (by decide)
  refine C_aload_n (n := 0) (i := 0) (v := 171) G (by decide +kernel) rfl rfl ?_
  refine C_iconst (n := -1) (v := -1) G (by decide +kernel) rfl ?_
  refine C_puti (i := 18) (x := 2) (y := 5) (ty := .int) G (by decide +kernel) (by decide +kernel) (by decide) (by decide) (by decide) (by decide) (Or.inl (by decide)) (by decide +kernel) rfl rfl (by decide) ?_
  have zz := zz.mI (a := 171) (j := 5) (x := (-1)) (by decide)
  refine C_aload_n (n := 0) (i := 0) (v := 171) G (by decide +kernel) rfl rfl ?_
  refine C_iconst (n := 5) (v := 5) G (by decide +kernel) rfl ?_
  have oo0 := oo; have zz0 := zz
  refine C_newi (x := 0) (N := 5) G (by decide +kernel) (by decide +kernel) (by decide +kernel) (by decide) hA rfl (by decide) (Nat.le_of_ble_eq_true rfl) (Nat.le_of_ble_eq_true rfl) rfl rfl (fun ad0 n0 => ?_)
  have G := G.nx n0; have oo := oo.up; have zz := zz.up
  refine C_putr (i := 21) (x := 2) (y := 6) (ty := (.array .int)) G (by decide +kernel) (by decide +kernel) (by decide) (by decide) (by decide) (by decide) (Or.inr ⟨(by decide), hnm, rfl⟩) (by decide +kernel) rfl rfl (by decide) (by decide +kernel) (by decide) ?_
  have oo := oo.put (a := 171) (j := 6) (by decide) (by decide +kernel)
  refine C_aload_n (n := 0) (i := 0) (v := 171) G (by decide +kernel) rfl rfl ?_
  refine C_aload_n (n := 1) (i := 1) (v := 1) G (by decide +kernel) rfl rfl ?_
  refine C_putr (i := 25) (x := 2) (y := 0) (ty := (.object "StatueRent$Tape")) G (by decide +kernel) (by decide +kernel) (by decide) (by decide) (by decide) (by decide) (Or.inr ⟨(by decide), hnm, rfl⟩) (by decide +kernel) rfl rfl (by decide) (by decide +kernel) (by decide) ?_
  have oo := oo.put (a := 171) (j := 0) (by decide) (by decide +kernel)
  refine C_aload_n (n := 0) (i := 0) (v := 171) G (by decide +kernel) rfl rfl ?_
  refine C_aload_n (n := 2) (i := 2) (v := 5) G (by decide +kernel) rfl rfl ?_
  refine C_putr (i := 29) (x := 2) (y := 1) (ty := (.object "StatueRent$City")) G (by decide +kernel) (by decide +kernel) (by decide) (by decide) (by decide) (by decide) (Or.inr ⟨(by decide), hnm, rfl⟩) (by decide +kernel) rfl rfl (by decide) (by decide +kernel) (by decide) ?_
  have oo := oo.put (a := 171) (j := 1) (by decide) (by decide +kernel)
  refine C_aload_n (n := 0) (i := 0) (v := 171) G (by decide +kernel) rfl rfl ?_
  refine C_aload_n (n := 3) (i := 3) (v := 20) G (by decide +kernel) rfl rfl ?_
  refine C_putr (i := 33) (x := 2) (y := 2) (ty := (.object "StatueRent$Life")) G (by decide +kernel) (by decide +kernel) (by decide) (by decide) (by decide) (by decide) (Or.inr ⟨(by decide), hnm, rfl⟩) (by decide +kernel) rfl rfl (by decide) (by decide +kernel) (by decide) ?_
  have oo := oo.put (a := 171) (j := 2) (by decide) (by decide +kernel)
  exact C_ret (X0 := X) (ad := ad0) G hr hlk n0 (by decide +kernel)
