/-! constructors, made by con.py -/
theorem OO_K_X4_init_35 {S : Nat → Nat → Bool} (oo : OkS 36 S) : OkS 44 (sU (sU (sU (sU (sU (sU (sU (sU (sU S 35 5) 35 6) 35 7) 35 8) 35 9) 35 10) 35 11) 35 12) 35 0) := (((((((((oo.up.put (a := 35) (j := 5) (by decide) (by decide +kernel)).up.put (a := 35) (j := 6) (by decide) (by decide +kernel)).up.put (a := 35) (j := 7) (by decide) (by decide +kernel)).up.put (a := 35) (j := 8) (by decide) (by decide +kernel)).up.put (a := 35) (j := 9) (by decide) (by decide +kernel)).up.put (a := 35) (j := 10) (by decide) (by decide +kernel)).up.put (a := 35) (j := 11) (by decide) (by decide +kernel)).up.put (a := 35) (j := 12) (by decide) (by decide +kernel)).put (a := 35) (j := 0) (by decide) (by decide +kernel))
theorem ZZ_K_X4_init_35 {u : Mm} (zz : ZrC 36 u) : ZrC 44 (u) := zz.up.up.up.up.up.up.up.up
set_option maxRecDepth 100000 in
theorem K_X4_init_35 {X : Xc} {d : Nat} {S : Nat → Nat → Bool} {u : Mm} (had : adOk X) (oo : OkS 36 S) (zz : ZrC 36 u) (hz : ∀ j, u.1 35 j = 0) : CK X (d + 1) yX4_init cX4_init 2 [.ref 35, .ref 5] u 36 S 8 96 (u) 44 (sU (sU (sU (sU (sU (sU (sU (sU (sU S 35 5) 35 6) 35 7) 35 8) 35 9) 35 10) 35 11) 35 12) 35 0) := by
  refine CK_of okK_X4_init rfl oo zz ?_
  intro p e s m args below meth c G hA hr hlk hnm
  have zz00 := zz
  refine C_aload_n (n := 0) (i := 0) (v := 35) G (by decide +kernel) rfl rfl ?_
  refine C_obj (i := 3) (a := 35) (r := []) G (by decide +kernel) (by decide +kernel) (by show 1 ≤ d + 1; omega) (by show 0 + 12 ≤ 64 * (d + 1); omega) ?_
  refine C_aload_n (n := 0) (i := 0) (v := 35) G (by decide +kernel) rfl rfl ?_
  refine C_iconst (n := 0) (v := 0) G (by decide +kernel) rfl ?_
  refine C_put0 (i := 9) (x := 4) (y := 1) (ty := .int) G (by decide +kernel) (by decide +kernel) (by decide) (by decide) (by decide) (by decide) (Or.inl (by decide)) (by decide +kernel) rfl rfl (Or.inl (by decide)) (hz 1) ?_
  refine C_aload_n (n := 0) (i := 0) (v := 35) G (by decide +kernel) rfl rfl ?_
  refine C_iconst (n := 0) (v := 0) G (by decide +kernel) rfl ?_
  refine C_put0 (i := 15) (x := 4) (y := 2) (ty := .int) G (by decide +kernel) (by decide +kernel) (by decide) (by decide) (by decide) (by decide) (Or.inl (by decide)) (by decide +kernel) rfl rfl (Or.inl (by decide)) (hz 2) ?_
  refine C_aload_n (n := 0) (i := 0) (v := 35) G (by decide +kernel) rfl rfl ?_
  refine C_iconst (n := 0) (v := 0) G (by decide +kernel) rfl ?_
  refine C_put0 (i := 18) (x := 4) (y := 3) (ty := .int) G (by decide +kernel) (by decide +kernel) (by decide) (by decide) (by decide) (by decide) (Or.inl (by decide)) (by decide +kernel) rfl rfl (Or.inl (by decide)) (hz 3) ?_
  refine C_aload_n (n := 0) (i := 0) (v := 35) G (by decide +kernel) rfl rfl ?_
  refine C_iconst (n := 0) (v := 0) G (by decide +kernel) rfl ?_
  refine C_put0 (i := 21) (x := 4) (y := 4) (ty := .int) G (by decide +kernel) (by decide +kernel) (by decide) (by decide) (by decide) (by decide) (Or.inl (by decide)) (by decide +kernel) rfl rfl (Or.inl (by decide)) (hz 4) ?_
  refine C_aload_n (n := 0) (i := 0) (v := 35) G (by decide +kernel) rfl rfl ?_
  refine C_bipush (n := 8) (v := 8) G (by decide +kernel) rfl ?_
  have oo0 := oo; have zz0 := zz
  refine C_newi (x := 0) (N := 8) G (by decide +kernel) (by decide +kernel) (by decide +kernel) (by decide) hA rfl (by decide) (Nat.le_of_ble_eq_true rfl) (Nat.le_of_ble_eq_true rfl) rfl rfl (fun ad0 n0 => ?_)
  have G := G.nx n0; have oo := oo.up; have zz := zz.up
  refine C_putr (i := 24) (x := 4) (y := 5) (ty := (.array .int)) G (by decide +kernel) (by decide +kernel) (by decide) (by decide) (by decide) (by decide) (Or.inr ⟨(by decide), hnm, rfl⟩) (by decide +kernel) rfl rfl (by decide) (by decide +kernel) (by decide) ?_
  have oo := oo.put (a := 35) (j := 5) (by decide) (by decide +kernel)
  refine C_aload_n (n := 0) (i := 0) (v := 35) G (by decide +kernel) rfl rfl ?_
  refine C_bipush (n := 8) (v := 8) G (by decide +kernel) rfl ?_
  have oo0 := oo; have zz0 := zz
  refine C_newi (x := 0) (N := 8) G (by decide +kernel) (by decide +kernel) (by decide +kernel) (by decide) hA rfl (by decide) (Nat.le_of_ble_eq_true rfl) (Nat.le_of_ble_eq_true rfl) rfl rfl (fun ad1 n1 => ?_)
  have G := G.nx n1; have oo := oo.up; have zz := zz.up
  refine C_putr (i := 28) (x := 4) (y := 6) (ty := (.array .int)) G (by decide +kernel) (by decide +kernel) (by decide) (by decide) (by decide) (by decide) (Or.inr ⟨(by decide), hnm, rfl⟩) (by decide +kernel) rfl rfl (by decide) (by decide +kernel) (by decide) ?_
  have oo := oo.put (a := 35) (j := 6) (by decide) (by decide +kernel)
  refine C_aload_n (n := 0) (i := 0) (v := 35) G (by decide +kernel) rfl rfl ?_
  refine C_bipush (n := 8) (v := 8) G (by decide +kernel) rfl ?_
  have oo0 := oo; have zz0 := zz
  refine C_newi (x := 0) (N := 8) G (by decide +kernel) (by decide +kernel) (by decide +kernel) (by decide) hA rfl (by decide) (Nat.le_of_ble_eq_true rfl) (Nat.le_of_ble_eq_true rfl) rfl rfl (fun ad2 n2 => ?_)
  have G := G.nx n2; have oo := oo.up; have zz := zz.up
  refine C_putr (i := 31) (x := 4) (y := 7) (ty := (.array .int)) G (by decide +kernel) (by decide +kernel) (by decide) (by decide) (by decide) (by decide) (Or.inr ⟨(by decide), hnm, rfl⟩) (by decide +kernel) rfl rfl (by decide) (by decide +kernel) (by decide) ?_
  have oo := oo.put (a := 35) (j := 7) (by decide) (by decide +kernel)
  refine C_aload_n (n := 0) (i := 0) (v := 35) G (by decide +kernel) rfl rfl ?_
  refine C_bipush (n := 8) (v := 8) G (by decide +kernel) rfl ?_
  have oo0 := oo; have zz0 := zz
  refine C_newi (x := 0) (N := 8) G (by decide +kernel) (by decide +kernel) (by decide +kernel) (by decide) hA rfl (by decide) (Nat.le_of_ble_eq_true rfl) (Nat.le_of_ble_eq_true rfl) rfl rfl (fun ad3 n3 => ?_)
  have G := G.nx n3; have oo := oo.up; have zz := zz.up
  refine C_putr (i := 34) (x := 4) (y := 8) (ty := (.array .int)) G (by decide +kernel) (by decide +kernel) (by decide) (by decide) (by decide) (by decide) (Or.inr ⟨(by decide), hnm, rfl⟩) (by decide +kernel) rfl rfl (by decide) (by decide +kernel) (by decide) ?_
  have oo := oo.put (a := 35) (j := 8) (by decide) (by decide +kernel)
  refine C_aload_n (n := 0) (i := 0) (v := 35) G (by decide +kernel) rfl rfl ?_
  refine C_bipush (n := 8) (v := 8) G (by decide +kernel) rfl ?_
  have oo0 := oo; have zz0 := zz
  refine C_newi (x := 0) (N := 8) G (by decide +kernel) (by decide +kernel) (by decide +kernel) (by decide) hA rfl (by decide) (Nat.le_of_ble_eq_true rfl) (Nat.le_of_ble_eq_true rfl) rfl rfl (fun ad4 n4 => ?_)
  have G := G.nx n4; have oo := oo.up; have zz := zz.up
  refine C_putr (i := 37) (x := 4) (y := 9) (ty := (.array .int)) G (by decide +kernel) (by decide +kernel) (by decide) (by decide) (by decide) (by decide) (Or.inr ⟨(by decide), hnm, rfl⟩) (by decide +kernel) rfl rfl (by decide) (by decide +kernel) (by decide) ?_
  have oo := oo.put (a := 35) (j := 9) (by decide) (by decide +kernel)
  refine C_aload_n (n := 0) (i := 0) (v := 35) G (by decide +kernel) rfl rfl ?_
  refine C_bipush (n := 8) (v := 8) G (by decide +kernel) rfl ?_
  have oo0 := oo; have zz0 := zz
  refine C_newi (x := 0) (N := 8) G (by decide +kernel) (by decide +kernel) (by decide +kernel) (by decide) hA rfl (by decide) (Nat.le_of_ble_eq_true rfl) (Nat.le_of_ble_eq_true rfl) rfl rfl (fun ad5 n5 => ?_)
  have G := G.nx n5; have oo := oo.up; have zz := zz.up
  refine C_putr (i := 40) (x := 4) (y := 10) (ty := (.array .int)) G (by decide +kernel) (by decide +kernel) (by decide) (by decide) (by decide) (by decide) (Or.inr ⟨(by decide), hnm, rfl⟩) (by decide +kernel) rfl rfl (by decide) (by decide +kernel) (by decide) ?_
  have oo := oo.put (a := 35) (j := 10) (by decide) (by decide +kernel)
  refine C_aload_n (n := 0) (i := 0) (v := 35) G (by decide +kernel) rfl rfl ?_
  refine C_bipush (n := 8) (v := 8) G (by decide +kernel) rfl ?_
  have oo0 := oo; have zz0 := zz
  refine C_newi (x := 0) (N := 8) G (by decide +kernel) (by decide +kernel) (by decide +kernel) (by decide) hA rfl (by decide) (Nat.le_of_ble_eq_true rfl) (Nat.le_of_ble_eq_true rfl) rfl rfl (fun ad6 n6 => ?_)
  have G := G.nx n6; have oo := oo.up; have zz := zz.up
  refine C_putr (i := 43) (x := 4) (y := 11) (ty := (.array .int)) G (by decide +kernel) (by decide +kernel) (by decide) (by decide) (by decide) (by decide) (Or.inr ⟨(by decide), hnm, rfl⟩) (by decide +kernel) rfl rfl (by decide) (by decide +kernel) (by decide) ?_
  have oo := oo.put (a := 35) (j := 11) (by decide) (by decide +kernel)
  refine C_aload_n (n := 0) (i := 0) (v := 35) G (by decide +kernel) rfl rfl ?_
  refine C_bipush (n := 40) (v := 40) G (by decide +kernel) rfl ?_
  have oo0 := oo; have zz0 := zz
  refine C_newi (x := 0) (N := 40) G (by decide +kernel) (by decide +kernel) (by decide +kernel) (by decide) hA rfl (by decide) (Nat.le_of_ble_eq_true rfl) (Nat.le_of_ble_eq_true rfl) rfl rfl (fun ad7 n7 => ?_)
  have G := G.nx n7; have oo := oo.up; have zz := zz.up
  refine C_putr (i := 46) (x := 4) (y := 12) (ty := (.array .int)) G (by decide +kernel) (by decide +kernel) (by decide) (by decide) (by decide) (by decide) (Or.inr ⟨(by decide), hnm, rfl⟩) (by decide +kernel) rfl rfl (by decide) (by decide +kernel) (by decide) ?_
  have oo := oo.put (a := 35) (j := 12) (by decide) (by decide +kernel)
  refine C_aload_n (n := 0) (i := 0) (v := 35) G (by decide +kernel) rfl rfl ?_
  refine C_iconst (n := 0) (v := 0) G (by decide +kernel) rfl ?_
  refine C_put0 (i := 49) (x := 4) (y := 13) (ty := .int) G (by decide +kernel) (by decide +kernel) (by decide) (by decide) (by decide) (by decide) (Or.inl (by decide)) (by decide +kernel) rfl rfl (Or.inl (by decide)) (hz 13) ?_
  refine C_aload_n (n := 0) (i := 0) (v := 35) G (by decide +kernel) rfl rfl ?_
  refine C_iconst (n := 0) (v := 0) G (by decide +kernel) rfl ?_
  refine C_put0 (i := 52) (x := 4) (y := 14) (ty := .int) G (by decide +kernel) (by decide +kernel) (by decide) (by decide) (by decide) (by decide) (Or.inl (by decide)) (by decide +kernel) rfl rfl (Or.inl (by decide)) (hz 14) ?_
  refine C_aload_n (n := 0) (i := 0) (v := 35) G (by decide +kernel) rfl rfl ?_
  refine C_aload_n (n := 1) (i := 1) (v := 5) G (by decide +kernel) rfl rfl ?_
  refine C_putr (i := 55) (x := 4) (y := 0) (ty := (.object "StatueRent$City")) G (by decide +kernel) (by decide +kernel) (by decide) (by decide) (by decide) (by decide) (Or.inr ⟨(by decide), hnm, rfl⟩) (by decide +kernel) rfl rfl (by decide) (by decide +kernel) (by decide) ?_
  have oo := oo.put (a := 35) (j := 0) (by decide) (by decide +kernel)
  exact C_ret (X0 := X) (ad := ad7) G hr hlk (((((((n0.tr n1 (by decide)).tr n2 (by decide)).tr n3 (by decide)).tr n4 (by decide)).tr n5 (by decide)).tr n6 (by decide)).tr n7 (by decide)) (by decide +kernel)
theorem okK_X6_init : okR yX6_init cX6_init 3 none 1 := ⟨by decide +kernel, by decide +kernel, by decide +kernel, by decide +kernel, by decide +kernel, by decide, by decide +kernel⟩
theorem OO_K_X4_init_46 {S : Nat → Nat → Bool} (oo : OkS 47 S) : OkS 55 (sU (sU (sU (sU (sU (sU (sU (sU (sU S 46 5) 46 6) 46 7) 46 8) 46 9) 46 10) 46 11) 46 12) 46 0) := (((((((((oo.up.put (a := 46) (j := 5) (by decide) (by decide +kernel)).up.put (a := 46) (j := 6) (by decide) (by decide +kernel)).up.put (a := 46) (j := 7) (by decide) (by decide +kernel)).up.put (a := 46) (j := 8) (by decide) (by decide +kernel)).up.put (a := 46) (j := 9) (by decide) (by decide +kernel)).up.put (a := 46) (j := 10) (by decide) (by decide +kernel)).up.put (a := 46) (j := 11) (by decide) (by decide +kernel)).up.put (a := 46) (j := 12) (by decide) (by decide +kernel)).put (a := 46) (j := 0) (by decide) (by decide +kernel))
theorem ZZ_K_X4_init_46 {u : Mm} (zz : ZrC 47 u) : ZrC 55 (u) := zz.up.up.up.up.up.up.up.up
set_option maxRecDepth 100000 in
theorem K_X4_init_46 {X : Xc} {d : Nat} {S : Nat → Nat → Bool} {u : Mm} (had : adOk X) (oo : OkS 47 S) (zz : ZrC 47 u) (hz : ∀ j, u.1 46 j = 0) : CK X (d + 1) yX4_init cX4_init 2 [.ref 46, .ref 5] u 47 S 8 96 (u) 55 (sU (sU (sU (sU (sU (sU (sU (sU (sU S 46 5) 46 6) 46 7) 46 8) 46 9) 46 10) 46 11) 46 12) 46 0) := by
  refine CK_of okK_X4_init rfl oo zz ?_
  intro p e s m args below meth c G hA hr hlk hnm
  have zz00 := zz
  refine C_aload_n (n := 0) (i := 0) (v := 46) G (by decide +kernel) rfl rfl ?_
  refine C_obj (i := 3) (a := 46) (r := []) G (by decide +kernel) (by decide +kernel) (by show 1 ≤ d + 1; omega) (by show 0 + 12 ≤ 64 * (d + 1); omega) ?_
  refine C_aload_n (n := 0) (i := 0) (v := 46) G (by decide +kernel) rfl rfl ?_
  refine C_iconst (n := 0) (v := 0) G (by decide +kernel) rfl ?_
  refine C_put0 (i := 9) (x := 4) (y := 1) (ty := .int) G (by decide +kernel) (by decide +kernel) (by decide) (by decide) (by decide) (by decide) (Or.inl (by decide)) (by decide +kernel) rfl rfl (Or.inl (by decide)) (hz 1) ?_
  refine C_aload_n (n := 0) (i := 0) (v := 46) G (by decide +kernel) rfl rfl ?_
  refine C_iconst (n := 0) (v := 0) G (by decide +kernel) rfl ?_
  refine C_put0 (i := 15) (x := 4) (y := 2) (ty := .int) G (by decide +kernel) (by decide +kernel) (by decide) (by decide) (by decide) (by decide) (Or.inl (by decide)) (by decide +kernel) rfl rfl (Or.inl (by decide)) (hz 2) ?_
  refine C_aload_n (n := 0) (i := 0) (v := 46) G (by decide +kernel) rfl rfl ?_
  refine C_iconst (n := 0) (v := 0) G (by decide +kernel) rfl ?_
  refine C_put0 (i := 18) (x := 4) (y := 3) (ty := .int) G (by decide +kernel) (by decide +kernel) (by decide) (by decide) (by decide) (by decide) (Or.inl (by decide)) (by decide +kernel) rfl rfl (Or.inl (by decide)) (hz 3) ?_
  refine C_aload_n (n := 0) (i := 0) (v := 46) G (by decide +kernel) rfl rfl ?_
  refine C_iconst (n := 0) (v := 0) G (by decide +kernel) rfl ?_
  refine C_put0 (i := 21) (x := 4) (y := 4) (ty := .int) G (by decide +kernel) (by decide +kernel) (by decide) (by decide) (by decide) (by decide) (Or.inl (by decide)) (by decide +kernel) rfl rfl (Or.inl (by decide)) (hz 4) ?_
  refine C_aload_n (n := 0) (i := 0) (v := 46) G (by decide +kernel) rfl rfl ?_
  refine C_bipush (n := 8) (v := 8) G (by decide +kernel) rfl ?_
  have oo0 := oo; have zz0 := zz
  refine C_newi (x := 0) (N := 8) G (by decide +kernel) (by decide +kernel) (by decide +kernel) (by decide) hA rfl (by decide) (Nat.le_of_ble_eq_true rfl) (Nat.le_of_ble_eq_true rfl) rfl rfl (fun ad0 n0 => ?_)
  have G := G.nx n0; have oo := oo.up; have zz := zz.up
  refine C_putr (i := 24) (x := 4) (y := 5) (ty := (.array .int)) G (by decide +kernel) (by decide +kernel) (by decide) (by decide) (by decide) (by decide) (Or.inr ⟨(by decide), hnm, rfl⟩) (by decide +kernel) rfl rfl (by decide) (by decide +kernel) (by decide) ?_
  have oo := oo.put (a := 46) (j := 5) (by decide) (by decide +kernel)
  refine C_aload_n (n := 0) (i := 0) (v := 46) G (by decide +kernel) rfl rfl ?_
  refine C_bipush (n := 8) (v := 8) G (by decide +kernel) rfl ?_
  have oo0 := oo; have zz0 := zz
  refine C_newi (x := 0) (N := 8) G (by decide +kernel) (by decide +kernel) (by decide +kernel) (by decide) hA rfl (by decide) (Nat.le_of_ble_eq_true rfl) (Nat.le_of_ble_eq_true rfl) rfl rfl (fun ad1 n1 => ?_)
  have G := G.nx n1; have oo := oo.up; have zz := zz.up
  refine C_putr (i := 28) (x := 4) (y := 6) (ty := (.array .int)) G (by decide +kernel) (by decide +kernel) (by decide) (by decide) (by decide) (by decide) (Or.inr ⟨(by decide), hnm, rfl⟩) (by decide +kernel) rfl rfl (by decide) (by decide +kernel) (by decide) ?_
  have oo := oo.put (a := 46) (j := 6) (by decide) (by decide +kernel)
  refine C_aload_n (n := 0) (i := 0) (v := 46) G (by decide +kernel) rfl rfl ?_
  refine C_bipush (n := 8) (v := 8) G (by decide +kernel) rfl ?_
  have oo0 := oo; have zz0 := zz
  refine C_newi (x := 0) (N := 8) G (by decide +kernel) (by decide +kernel) (by decide +kernel) (by decide) hA rfl (by decide) (Nat.le_of_ble_eq_true rfl) (Nat.le_of_ble_eq_true rfl) rfl rfl (fun ad2 n2 => ?_)
  have G := G.nx n2; have oo := oo.up; have zz := zz.up
  refine C_putr (i := 31) (x := 4) (y := 7) (ty := (.array .int)) G (by decide +kernel) (by decide +kernel) (by decide) (by decide) (by decide) (by decide) (Or.inr ⟨(by decide), hnm, rfl⟩) (by decide +kernel) rfl rfl (by decide) (by decide +kernel) (by decide) ?_
  have oo := oo.put (a := 46) (j := 7) (by decide) (by decide +kernel)
  refine C_aload_n (n := 0) (i := 0) (v := 46) G (by decide +kernel) rfl rfl ?_
  refine C_bipush (n := 8) (v := 8) G (by decide +kernel) rfl ?_
  have oo0 := oo; have zz0 := zz
  refine C_newi (x := 0) (N := 8) G (by decide +kernel) (by decide +kernel) (by decide +kernel) (by decide) hA rfl (by decide) (Nat.le_of_ble_eq_true rfl) (Nat.le_of_ble_eq_true rfl) rfl rfl (fun ad3 n3 => ?_)
  have G := G.nx n3; have oo := oo.up; have zz := zz.up
  refine C_putr (i := 34) (x := 4) (y := 8) (ty := (.array .int)) G (by decide +kernel) (by decide +kernel) (by decide) (by decide) (by decide) (by decide) (Or.inr ⟨(by decide), hnm, rfl⟩) (by decide +kernel) rfl rfl (by decide) (by decide +kernel) (by decide) ?_
  have oo := oo.put (a := 46) (j := 8) (by decide) (by decide +kernel)
  refine C_aload_n (n := 0) (i := 0) (v := 46) G (by decide +kernel) rfl rfl ?_
  refine C_bipush (n := 8) (v := 8) G (by decide +kernel) rfl ?_
  have oo0 := oo; have zz0 := zz
  refine C_newi (x := 0) (N := 8) G (by decide +kernel) (by decide +kernel) (by decide +kernel) (by decide) hA rfl (by decide) (Nat.le_of_ble_eq_true rfl) (Nat.le_of_ble_eq_true rfl) rfl rfl (fun ad4 n4 => ?_)
  have G := G.nx n4; have oo := oo.up; have zz := zz.up
  refine C_putr (i := 37) (x := 4) (y := 9) (ty := (.array .int)) G (by decide +kernel) (by decide +kernel) (by decide) (by decide) (by decide) (by decide) (Or.inr ⟨(by decide), hnm, rfl⟩) (by decide +kernel) rfl rfl (by decide) (by decide +kernel) (by decide) ?_
  have oo := oo.put (a := 46) (j := 9) (by decide) (by decide +kernel)
  refine C_aload_n (n := 0) (i := 0) (v := 46) G (by decide +kernel) rfl rfl ?_
  refine C_bipush (n := 8) (v := 8) G (by decide +kernel) rfl ?_
  have oo0 := oo; have zz0 := zz
  refine C_newi (x := 0) (N := 8) G (by decide +kernel) (by decide +kernel) (by decide +kernel) (by decide) hA rfl (by decide) (Nat.le_of_ble_eq_true rfl) (Nat.le_of_ble_eq_true rfl) rfl rfl (fun ad5 n5 => ?_)
  have G := G.nx n5; have oo := oo.up; have zz := zz.up
  refine C_putr (i := 40) (x := 4) (y := 10) (ty := (.array .int)) G (by decide +kernel) (by decide +kernel) (by decide) (by decide) (by decide) (by decide) (Or.inr ⟨(by decide), hnm, rfl⟩) (by decide +kernel) rfl rfl (by decide) (by decide +kernel) (by decide) ?_
  have oo := oo.put (a := 46) (j := 10) (by decide) (by decide +kernel)
  refine C_aload_n (n := 0) (i := 0) (v := 46) G (by decide +kernel) rfl rfl ?_
  refine C_bipush (n := 8) (v := 8) G (by decide +kernel) rfl ?_
  have oo0 := oo; have zz0 := zz
  refine C_newi (x := 0) (N := 8) G (by decide +kernel) (by decide +kernel) (by decide +kernel) (by decide) hA rfl (by decide) (Nat.le_of_ble_eq_true rfl) (Nat.le_of_ble_eq_true rfl) rfl rfl (fun ad6 n6 => ?_)
  have G := G.nx n6; have oo := oo.up; have zz := zz.up
  refine C_putr (i := 43) (x := 4) (y := 11) (ty := (.array .int)) G (by decide +kernel) (by decide +kernel) (by decide) (by decide) (by decide) (by decide) (Or.inr ⟨(by decide), hnm, rfl⟩) (by decide +kernel) rfl rfl (by decide) (by decide +kernel) (by decide) ?_
  have oo := oo.put (a := 46) (j := 11) (by decide) (by decide +kernel)
  refine C_aload_n (n := 0) (i := 0) (v := 46) G (by decide +kernel) rfl rfl ?_
  refine C_bipush (n := 40) (v := 40) G (by decide +kernel) rfl ?_
  have oo0 := oo; have zz0 := zz
  refine C_newi (x := 0) (N := 40) G (by decide +kernel) (by decide +kernel) (by decide +kernel) (by decide) hA rfl (by decide) (Nat.le_of_ble_eq_true rfl) (Nat.le_of_ble_eq_true rfl) rfl rfl (fun ad7 n7 => ?_)
  have G := G.nx n7; have oo := oo.up; have zz := zz.up
  refine C_putr (i := 46) (x := 4) (y := 12) (ty := (.array .int)) G (by decide +kernel) (by decide +kernel) (by decide) (by decide) (by decide) (by decide) (Or.inr ⟨(by decide), hnm, rfl⟩) (by decide +kernel) rfl rfl (by decide) (by decide +kernel) (by decide) ?_
  have oo := oo.put (a := 46) (j := 12) (by decide) (by decide +kernel)
  refine C_aload_n (n := 0) (i := 0) (v := 46) G (by decide +kernel) rfl rfl ?_
  refine C_iconst (n := 0) (v := 0) G (by decide +kernel) rfl ?_
  refine C_put0 (i := 49) (x := 4) (y := 13) (ty := .int) G (by decide +kernel) (by decide +kernel) (by decide) (by decide) (by decide) (by decide) (Or.inl (by decide)) (by decide +kernel) rfl rfl (Or.inl (by decide)) (hz 13) ?_
  refine C_aload_n (n := 0) (i := 0) (v := 46) G (by decide +kernel) rfl rfl ?_
  refine C_iconst (n := 0) (v := 0) G (by decide +kernel) rfl ?_
  refine C_put0 (i := 52) (x := 4) (y := 14) (ty := .int) G (by decide +kernel) (by decide +kernel) (by decide) (by decide) (by decide) (by decide) (Or.inl (by decide)) (by decide +kernel) rfl rfl (Or.inl (by decide)) (hz 14) ?_
  refine C_aload_n (n := 0) (i := 0) (v := 46) G (by decide +kernel) rfl rfl ?_
  refine C_aload_n (n := 1) (i := 1) (v := 5) G (by decide +kernel) rfl rfl ?_
  refine C_putr (i := 55) (x := 4) (y := 0) (ty := (.object "StatueRent$City")) G (by decide +kernel) (by decide +kernel) (by decide) (by decide) (by decide) (by decide) (Or.inr ⟨(by decide), hnm, rfl⟩) (by decide +kernel) rfl rfl (by decide) (by decide +kernel) (by decide) ?_
  have oo := oo.put (a := 46) (j := 0) (by decide) (by decide +kernel)
  exact C_ret (X0 := X) (ad := ad7) G hr hlk (((((((n0.tr n1 (by decide)).tr n2 (by decide)).tr n3 (by decide)).tr n4 (by decide)).tr n5 (by decide)).tr n6 (by decide)).tr n7 (by decide)) (by decide +kernel)
theorem OO_K_X4_init_55 {S : Nat → Nat → Bool} (oo : OkS 56 S) : OkS 64 (sU (sU (sU (sU (sU (sU (sU (sU (sU S 55 5) 55 6) 55 7) 55 8) 55 9) 55 10) 55 11) 55 12) 55 0) := (((((((((oo.up.put (a := 55) (j := 5) (by decide) (by decide +kernel)).up.put (a := 55) (j := 6) (by decide) (by decide +kernel)).up.put (a := 55) (j := 7) (by decide) (by decide +kernel)).up.put (a := 55) (j := 8) (by decide) (by decide +kernel)).up.put (a := 55) (j := 9) (by decide) (by decide +kernel)).up.put (a := 55) (j := 10) (by decide) (by decide +kernel)).up.put (a := 55) (j := 11) (by decide) (by decide +kernel)).up.put (a := 55) (j := 12) (by decide) (by decide +kernel)).put (a := 55) (j := 0) (by decide) (by decide +kernel))
theorem ZZ_K_X4_init_55 {u : Mm} (zz : ZrC 56 u) : ZrC 64 (u) := zz.up.up.up.up.up.up.up.up
set_option maxRecDepth 100000 in
theorem K_X4_init_55 {X : Xc} {d : Nat} {S : Nat → Nat → Bool} {u : Mm} (had : adOk X) (oo : OkS 56 S) (zz : ZrC 56 u) (hz : ∀ j, u.1 55 j = 0) : CK X (d + 1) yX4_init cX4_init 2 [.ref 55, .ref 5] u 56 S 8 96 (u) 64 (sU (sU (sU (sU (sU (sU (sU (sU (sU S 55 5) 55 6) 55 7) 55 8) 55 9) 55 10) 55 11) 55 12) 55 0) := by
  refine CK_of okK_X4_init rfl oo zz ?_
  intro p e s m args below meth c G hA hr hlk hnm
  have zz00 := zz
  refine C_aload_n (n := 0) (i := 0) (v := 55) G (by decide +kernel) rfl rfl ?_
  refine C_obj (i := 3) (a := 55) (r := []) G (by decide +kernel) (by decide +kernel) (by show 1 ≤ d + 1; omega) (by show 0 + 12 ≤ 64 * (d + 1); omega) ?_
  refine C_aload_n (n := 0) (i := 0) (v := 55) G (by decide +kernel) rfl rfl ?_
  refine C_iconst (n := 0) (v := 0) G (by decide +kernel) rfl ?_
  refine C_put0 (i := 9) (x := 4) (y := 1) (ty := .int) G (by decide +kernel) (by decide +kernel) (by decide) (by decide) (by decide) (by decide) (Or.inl (by decide)) (by decide +kernel) rfl rfl (Or.inl (by decide)) (hz 1) ?_
  refine C_aload_n (n := 0) (i := 0) (v := 55) G (by decide +kernel) rfl rfl ?_
  refine C_iconst (n := 0) (v := 0) G (by decide +kernel) rfl ?_
  refine C_put0 (i := 15) (x := 4) (y := 2) (ty := .int) G (by decide +kernel) (by decide +kernel) (by decide) (by decide) (by decide) (by decide) (Or.inl (by decide)) (by decide +kernel) rfl rfl (Or.inl (by decide)) (hz 2) ?_
  refine C_aload_n (n := 0) (i := 0) (v := 55) G (by decide +kernel) rfl rfl ?_
  refine C_iconst (n := 0) (v := 0) G (by decide +kernel) rfl ?_
  refine C_put0 (i := 18) (x := 4) (y := 3) (ty := .int) G (by decide +kernel) (by decide +kernel) (by decide) (by decide) (by decide) (by decide) (Or.inl (by decide)) (by decide +kernel) rfl rfl (Or.inl (by decide)) (hz 3) ?_
  refine C_aload_n (n := 0) (i := 0) (v := 55) G (by decide +kernel) rfl rfl ?_
  refine C_iconst (n := 0) (v := 0) G (by decide +kernel) rfl ?_
  refine C_put0 (i := 21) (x := 4) (y := 4) (ty := .int) G (by decide +kernel) (by decide +kernel) (by decide) (by decide) (by decide) (by decide) (Or.inl (by decide)) (by decide +kernel) rfl rfl (Or.inl (by decide)) (hz 4) ?_
  refine C_aload_n (n := 0) (i := 0) (v := 55) G (by decide +kernel) rfl rfl ?_
  refine C_bipush (n := 8) (v := 8) G (by decide +kernel) rfl ?_
  have oo0 := oo; have zz0 := zz
  refine C_newi (x := 0) (N := 8) G (by decide +kernel) (by decide +kernel) (by decide +kernel) (by decide) hA rfl (by decide) (Nat.le_of_ble_eq_true rfl) (Nat.le_of_ble_eq_true rfl) rfl rfl (fun ad0 n0 => ?_)
  have G := G.nx n0; have oo := oo.up; have zz := zz.up
  refine C_putr (i := 24) (x := 4) (y := 5) (ty := (.array .int)) G (by decide +kernel) (by decide +kernel) (by decide) (by decide) (by decide) (by decide) (Or.inr ⟨(by decide), hnm, rfl⟩) (by decide +kernel) rfl rfl (by decide) (by decide +kernel) (by decide) ?_
  have oo := oo.put (a := 55) (j := 5) (by decide) (by decide +kernel)
  refine C_aload_n (n := 0) (i := 0) (v := 55) G (by decide +kernel) rfl rfl ?_
  refine C_bipush (n := 8) (v := 8) G (by decide +kernel) rfl ?_
  have oo0 := oo; have zz0 := zz
  refine C_newi (x := 0) (N := 8) G (by decide +kernel) (by decide +kernel) (by decide +kernel) (by decide) hA rfl (by decide) (Nat.le_of_ble_eq_true rfl) (Nat.le_of_ble_eq_true rfl) rfl rfl (fun ad1 n1 => ?_)
  have G := G.nx n1; have oo := oo.up; have zz := zz.up
  refine C_putr (i := 28) (x := 4) (y := 6) (ty := (.array .int)) G (by decide +kernel) (by decide +kernel) (by decide) (by decide) (by decide) (by decide) (Or.inr ⟨(by decide), hnm, rfl⟩) (by decide +kernel) rfl rfl (by decide) (by decide +kernel) (by decide) ?_
  have oo := oo.put (a := 55) (j := 6) (by decide) (by decide +kernel)
  refine C_aload_n (n := 0) (i := 0) (v := 55) G (by decide +kernel) rfl rfl ?_
  refine C_bipush (n := 8) (v := 8) G (by decide +kernel) rfl ?_
  have oo0 := oo; have zz0 := zz
  refine C_newi (x := 0) (N := 8) G (by decide +kernel) (by decide +kernel) (by decide +kernel) (by decide) hA rfl (by decide) (Nat.le_of_ble_eq_true rfl) (Nat.le_of_ble_eq_true rfl) rfl rfl (fun ad2 n2 => ?_)
  have G := G.nx n2; have oo := oo.up; have zz := zz.up
  refine C_putr (i := 31) (x := 4) (y := 7) (ty := (.array .int)) G (by decide +kernel) (by decide +kernel) (by decide) (by decide) (by decide) (by decide) (Or.inr ⟨(by decide), hnm, rfl⟩) (by decide +kernel) rfl rfl (by decide) (by decide +kernel) (by decide) ?_
  have oo := oo.put (a := 55) (j := 7) (by decide) (by decide +kernel)
  refine C_aload_n (n := 0) (i := 0) (v := 55) G (by decide +kernel) rfl rfl ?_
  refine C_bipush (n := 8) (v := 8) G (by decide +kernel) rfl ?_
  have oo0 := oo; have zz0 := zz
  refine C_newi (x := 0) (N := 8) G (by decide +kernel) (by decide +kernel) (by decide +kernel) (by decide) hA rfl (by decide) (Nat.le_of_ble_eq_true rfl) (Nat.le_of_ble_eq_true rfl) rfl rfl (fun ad3 n3 => ?_)
  have G := G.nx n3; have oo := oo.up; have zz := zz.up
  refine C_putr (i := 34) (x := 4) (y := 8) (ty := (.array .int)) G (by decide +kernel) (by decide +kernel) (by decide) (by decide) (by decide) (by decide) (Or.inr ⟨(by decide), hnm, rfl⟩) (by decide +kernel) rfl rfl (by decide) (by decide +kernel) (by decide) ?_
  have oo := oo.put (a := 55) (j := 8) (by decide) (by decide +kernel)
  refine C_aload_n (n := 0) (i := 0) (v := 55) G (by decide +kernel) rfl rfl ?_
  refine C_bipush (n := 8) (v := 8) G (by decide +kernel) rfl ?_
  have oo0 := oo; have zz0 := zz
  refine C_newi (x := 0) (N := 8) G (by decide +kernel) (by decide +kernel) (by decide +kernel) (by decide) hA rfl (by decide) (Nat.le_of_ble_eq_true rfl) (Nat.le_of_ble_eq_true rfl) rfl rfl (fun ad4 n4 => ?_)
  have G := G.nx n4; have oo := oo.up; have zz := zz.up
  refine C_putr (i := 37) (x := 4) (y := 9) (ty := (.array .int)) G (by decide +kernel) (by decide +kernel) (by decide) (by decide) (by decide) (by decide) (Or.inr ⟨(by decide), hnm, rfl⟩) (by decide +kernel) rfl rfl (by decide) (by decide +kernel) (by decide) ?_
  have oo := oo.put (a := 55) (j := 9) (by decide) (by decide +kernel)
  refine C_aload_n (n := 0) (i := 0) (v := 55) G (by decide +kernel) rfl rfl ?_
  refine C_bipush (n := 8) (v := 8) G (by decide +kernel) rfl ?_
  have oo0 := oo; have zz0 := zz
  refine C_newi (x := 0) (N := 8) G (by decide +kernel) (by decide +kernel) (by decide +kernel) (by decide) hA rfl (by decide) (Nat.le_of_ble_eq_true rfl) (Nat.le_of_ble_eq_true rfl) rfl rfl (fun ad5 n5 => ?_)
  have G := G.nx n5; have oo := oo.up; have zz := zz.up
  refine C_putr (i := 40) (x := 4) (y := 10) (ty := (.array .int)) G (by decide +kernel) (by decide +kernel) (by decide) (by decide) (by decide) (by decide) (Or.inr ⟨(by decide), hnm, rfl⟩) (by decide +kernel) rfl rfl (by decide) (by decide +kernel) (by decide) ?_
  have oo := oo.put (a := 55) (j := 10) (by decide) (by decide +kernel)
  refine C_aload_n (n := 0) (i := 0) (v := 55) G (by decide +kernel) rfl rfl ?_
  refine C_bipush (n := 8) (v := 8) G (by decide +kernel) rfl ?_
  have oo0 := oo; have zz0 := zz
  refine C_newi (x := 0) (N := 8) G (by decide +kernel) (by decide +kernel) (by decide +kernel) (by decide) hA rfl (by decide) (Nat.le_of_ble_eq_true rfl) (Nat.le_of_ble_eq_true rfl) rfl rfl (fun ad6 n6 => ?_)
  have G := G.nx n6; have oo := oo.up; have zz := zz.up
  refine C_putr (i := 43) (x := 4) (y := 11) (ty := (.array .int)) G (by decide +kernel) (by decide +kernel) (by decide) (by decide) (by decide) (by decide) (Or.inr ⟨(by decide), hnm, rfl⟩) (by decide +kernel) rfl rfl (by decide) (by decide +kernel) (by decide) ?_
  have oo := oo.put (a := 55) (j := 11) (by decide) (by decide +kernel)
  refine C_aload_n (n := 0) (i := 0) (v := 55) G (by decide +kernel) rfl rfl ?_
  refine C_bipush (n := 40) (v := 40) G (by decide +kernel) rfl ?_
  have oo0 := oo; have zz0 := zz
  refine C_newi (x := 0) (N := 40) G (by decide +kernel) (by decide +kernel) (by decide +kernel) (by decide) hA rfl (by decide) (Nat.le_of_ble_eq_true rfl) (Nat.le_of_ble_eq_true rfl) rfl rfl (fun ad7 n7 => ?_)
  have G := G.nx n7; have oo := oo.up; have zz := zz.up
  refine C_putr (i := 46) (x := 4) (y := 12) (ty := (.array .int)) G (by decide +kernel) (by decide +kernel) (by decide) (by decide) (by decide) (by decide) (Or.inr ⟨(by decide), hnm, rfl⟩) (by decide +kernel) rfl rfl (by decide) (by decide +kernel) (by decide) ?_
  have oo := oo.put (a := 55) (j := 12) (by decide) (by decide +kernel)
  refine C_aload_n (n := 0) (i := 0) (v := 55) G (by decide +kernel) rfl rfl ?_
  refine C_iconst (n := 0) (v := 0) G (by decide +kernel) rfl ?_
  refine C_put0 (i := 49) (x := 4) (y := 13) (ty := .int) G (by decide +kernel) (by decide +kernel) (by decide) (by decide) (by decide) (by decide) (Or.inl (by decide)) (by decide +kernel) rfl rfl (Or.inl (by decide)) (hz 13) ?_
  refine C_aload_n (n := 0) (i := 0) (v := 55) G (by decide +kernel) rfl rfl ?_
  refine C_iconst (n := 0) (v := 0) G (by decide +kernel) rfl ?_
  refine C_put0 (i := 52) (x := 4) (y := 14) (ty := .int) G (by decide +kernel) (by decide +kernel) (by decide) (by decide) (by decide) (by decide) (Or.inl (by decide)) (by decide +kernel) rfl rfl (Or.inl (by decide)) (hz 14) ?_
  refine C_aload_n (n := 0) (i := 0) (v := 55) G (by decide +kernel) rfl rfl ?_
  refine C_aload_n (n := 1) (i := 1) (v := 5) G (by decide +kernel) rfl rfl ?_
  refine C_putr (i := 55) (x := 4) (y := 0) (ty := (.object "StatueRent$City")) G (by decide +kernel) (by decide +kernel) (by decide) (by decide) (by decide) (by decide) (Or.inr ⟨(by decide), hnm, rfl⟩) (by decide +kernel) rfl rfl (by decide) (by decide +kernel) (by decide) ?_
  have oo := oo.put (a := 55) (j := 0) (by decide) (by decide +kernel)
  exact C_ret (X0 := X) (ad := ad7) G hr hlk (((((((n0.tr n1 (by decide)).tr n2 (by decide)).tr n3 (by decide)).tr n4 (by decide)).tr n5 (by decide)).tr n6 (by decide)).tr n7 (by decide)) (by decide +kernel)
theorem OO_K_X4_init_64 {S : Nat → Nat → Bool} (oo : OkS 65 S) : OkS 73 (sU (sU (sU (sU (sU (sU (sU (sU (sU S 64 5) 64 6) 64 7) 64 8) 64 9) 64 10) 64 11) 64 12) 64 0) := (((((((((oo.up.put (a := 64) (j := 5) (by decide) (by decide +kernel)).up.put (a := 64) (j := 6) (by decide) (by decide +kernel)).up.put (a := 64) (j := 7) (by decide) (by decide +kernel)).up.put (a := 64) (j := 8) (by decide) (by decide +kernel)).up.put (a := 64) (j := 9) (by decide) (by decide +kernel)).up.put (a := 64) (j := 10) (by decide) (by decide +kernel)).up.put (a := 64) (j := 11) (by decide) (by decide +kernel)).up.put (a := 64) (j := 12) (by decide) (by decide +kernel)).put (a := 64) (j := 0) (by decide) (by decide +kernel))
theorem ZZ_K_X4_init_64 {u : Mm} (zz : ZrC 65 u) : ZrC 73 (u) := zz.up.up.up.up.up.up.up.up
set_option maxRecDepth 100000 in
theorem K_X4_init_64 {X : Xc} {d : Nat} {S : Nat → Nat → Bool} {u : Mm} (had : adOk X) (oo : OkS 65 S) (zz : ZrC 65 u) (hz : ∀ j, u.1 64 j = 0) : CK X (d + 1) yX4_init cX4_init 2 [.ref 64, .ref 5] u 65 S 8 96 (u) 73 (sU (sU (sU (sU (sU (sU (sU (sU (sU S 64 5) 64 6) 64 7) 64 8) 64 9) 64 10) 64 11) 64 12) 64 0) := by
  refine CK_of okK_X4_init rfl oo zz ?_
  intro p e s m args below meth c G hA hr hlk hnm
  have zz00 := zz
  refine C_aload_n (n := 0) (i := 0) (v := 64) G (by decide +kernel) rfl rfl ?_
  refine C_obj (i := 3) (a := 64) (r := []) G (by decide +kernel) (by decide +kernel) (by show 1 ≤ d + 1; omega) (by show 0 + 12 ≤ 64 * (d + 1); omega) ?_
  refine C_aload_n (n := 0) (i := 0) (v := 64) G (by decide +kernel) rfl rfl ?_
  refine C_iconst (n := 0) (v := 0) G (by decide +kernel) rfl ?_
  refine C_put0 (i := 9) (x := 4) (y := 1) (ty := .int) G (by decide +kernel) (by decide +kernel) (by decide) (by decide) (by decide) (by decide) (Or.inl (by decide)) (by decide +kernel) rfl rfl (Or.inl (by decide)) (hz 1) ?_
  refine C_aload_n (n := 0) (i := 0) (v := 64) G (by decide +kernel) rfl rfl ?_
  refine C_iconst (n := 0) (v := 0) G (by decide +kernel) rfl ?_
  refine C_put0 (i := 15) (x := 4) (y := 2) (ty := .int) G (by decide +kernel) (by decide +kernel) (by decide) (by decide) (by decide) (by decide) (Or.inl (by decide)) (by decide +kernel) rfl rfl (Or.inl (by decide)) (hz 2) ?_
  refine C_aload_n (n := 0) (i := 0) (v := 64) G (by decide +kernel) rfl rfl ?_
  refine C_iconst (n := 0) (v := 0) G (by decide +kernel) rfl ?_
  refine C_put0 (i := 18) (x := 4) (y := 3) (ty := .int) G (by decide +kernel) (by decide +kernel) (by decide) (by decide) (by decide) (by decide) (Or.inl (by decide)) (by decide +kernel) rfl rfl (Or.inl (by decide)) (hz 3) ?_
  refine C_aload_n (n := 0) (i := 0) (v := 64) G (by decide +kernel) rfl rfl ?_
  refine C_iconst (n := 0) (v := 0) G (by decide +kernel) rfl ?_
  refine C_put0 (i := 21) (x := 4) (y := 4) (ty := .int) G (by decide +kernel) (by decide +kernel) (by decide) (by decide) (by decide) (by decide) (Or.inl (by decide)) (by decide +kernel) rfl rfl (Or.inl (by decide)) (hz 4) ?_
  refine C_aload_n (n := 0) (i := 0) (v := 64) G (by decide +kernel) rfl rfl ?_
  refine C_bipush (n := 8) (v := 8) G (by decide +kernel) rfl ?_
  have oo0 := oo; have zz0 := zz
  refine C_newi (x := 0) (N := 8) G (by decide +kernel) (by decide +kernel) (by decide +kernel) (by decide) hA rfl (by decide) (Nat.le_of_ble_eq_true rfl) (Nat.le_of_ble_eq_true rfl) rfl rfl (fun ad0 n0 => ?_)
  have G := G.nx n0; have oo := oo.up; have zz := zz.up
  refine C_putr (i := 24) (x := 4) (y := 5) (ty := (.array .int)) G (by decide +kernel) (by decide +kernel) (by decide) (by decide) (by decide) (by decide) (Or.inr ⟨(by decide), hnm, rfl⟩) (by decide +kernel) rfl rfl (by decide) (by decide +kernel) (by decide) ?_
  have oo := oo.put (a := 64) (j := 5) (by decide) (by decide +kernel)
  refine C_aload_n (n := 0) (i := 0) (v := 64) G (by decide +kernel) rfl rfl ?_
  refine C_bipush (n := 8) (v := 8) G (by decide +kernel) rfl ?_
  have oo0 := oo; have zz0 := zz
  refine C_newi (x := 0) (N := 8) G (by decide +kernel) (by decide +kernel) (by decide +kernel) (by decide) hA rfl (by decide) (Nat.le_of_ble_eq_true rfl) (Nat.le_of_ble_eq_true rfl) rfl rfl (fun ad1 n1 => ?_)
  have G := G.nx n1; have oo := oo.up; have zz := zz.up
  refine C_putr (i := 28) (x := 4) (y := 6) (ty := (.array .int)) G (by decide +kernel) (by decide +kernel) (by decide) (by decide) (by decide) (by decide) (Or.inr ⟨(by decide), hnm, rfl⟩) (by decide +kernel) rfl rfl (by decide) (by decide +kernel) (by decide) ?_
  have oo := oo.put (a := 64) (j := 6) (by decide) (by decide +kernel)
  refine C_aload_n (n := 0) (i := 0) (v := 64) G (by decide +kernel) rfl rfl ?_
  refine C_bipush (n := 8) (v := 8) G (by decide +kernel) rfl ?_
  have oo0 := oo; have zz0 := zz
  refine C_newi (x := 0) (N := 8) G (by decide +kernel) (by decide +kernel) (by decide +kernel) (by decide) hA rfl (by decide) (Nat.le_of_ble_eq_true rfl) (Nat.le_of_ble_eq_true rfl) rfl rfl (fun ad2 n2 => ?_)
  have G := G.nx n2; have oo := oo.up; have zz := zz.up
  refine C_putr (i := 31) (x := 4) (y := 7) (ty := (.array .int)) G (by decide +kernel) (by decide +kernel) (by decide) (by decide) (by decide) (by decide) (Or.inr ⟨(by decide), hnm, rfl⟩) (by decide +kernel) rfl rfl (by decide) (by decide +kernel) (by decide) ?_
  have oo := oo.put (a := 64) (j := 7) (by decide) (by decide +kernel)
  refine C_aload_n (n := 0) (i := 0) (v := 64) G (by decide +kernel) rfl rfl ?_
  refine C_bipush (n := 8) (v := 8) G (by decide +kernel) rfl ?_
  have oo0 := oo; have zz0 := zz
  refine C_newi (x := 0) (N := 8) G (by decide +kernel) (by decide +kernel) (by decide +kernel) (by decide) hA rfl (by decide) (Nat.le_of_ble_eq_true rfl) (Nat.le_of_ble_eq_true rfl) rfl rfl (fun ad3 n3 => ?_)
  have G := G.nx n3; have oo := oo.up; have zz := zz.up
  refine C_putr (i := 34) (x := 4) (y := 8) (ty := (.array .int)) G (by decide +kernel) (by decide +kernel) (by decide) (by decide) (by decide) (by decide) (Or.inr ⟨(by decide), hnm, rfl⟩) (by decide +kernel) rfl rfl (by decide) (by decide +kernel) (by decide) ?_
  have oo := oo.put (a := 64) (j := 8) (by decide) (by decide +kernel)
  refine C_aload_n (n := 0) (i := 0) (v := 64) G (by decide +kernel) rfl rfl ?_
  refine C_bipush (n := 8) (v := 8) G (by decide +kernel) rfl ?_
  have oo0 := oo; have zz0 := zz
  refine C_newi (x := 0) (N := 8) G (by decide +kernel) (by decide +kernel) (by decide +kernel) (by decide) hA rfl (by decide) (Nat.le_of_ble_eq_true rfl) (Nat.le_of_ble_eq_true rfl) rfl rfl (fun ad4 n4 => ?_)
  have G := G.nx n4; have oo := oo.up; have zz := zz.up
  refine C_putr (i := 37) (x := 4) (y := 9) (ty := (.array .int)) G (by decide +kernel) (by decide +kernel) (by decide) (by decide) (by decide) (by decide) (Or.inr ⟨(by decide), hnm, rfl⟩) (by decide +kernel) rfl rfl (by decide) (by decide +kernel) (by decide) ?_
  have oo := oo.put (a := 64) (j := 9) (by decide) (by decide +kernel)
  refine C_aload_n (n := 0) (i := 0) (v := 64) G (by decide +kernel) rfl rfl ?_
  refine C_bipush (n := 8) (v := 8) G (by decide +kernel) rfl ?_
  have oo0 := oo; have zz0 := zz
  refine C_newi (x := 0) (N := 8) G (by decide +kernel) (by decide +kernel) (by decide +kernel) (by decide) hA rfl (by decide) (Nat.le_of_ble_eq_true rfl) (Nat.le_of_ble_eq_true rfl) rfl rfl (fun ad5 n5 => ?_)
  have G := G.nx n5; have oo := oo.up; have zz := zz.up
  refine C_putr (i := 40) (x := 4) (y := 10) (ty := (.array .int)) G (by decide +kernel) (by decide +kernel) (by decide) (by decide) (by decide) (by decide) (Or.inr ⟨(by decide), hnm, rfl⟩) (by decide +kernel) rfl rfl (by decide) (by decide +kernel) (by decide) ?_
  have oo := oo.put (a := 64) (j := 10) (by decide) (by decide +kernel)
  refine C_aload_n (n := 0) (i := 0) (v := 64) G (by decide +kernel) rfl rfl ?_
  refine C_bipush (n := 8) (v := 8) G (by decide +kernel) rfl ?_
  have oo0 := oo; have zz0 := zz
  refine C_newi (x := 0) (N := 8) G (by decide +kernel) (by decide +kernel) (by decide +kernel) (by decide) hA rfl (by decide) (Nat.le_of_ble_eq_true rfl) (Nat.le_of_ble_eq_true rfl) rfl rfl (fun ad6 n6 => ?_)
  have G := G.nx n6; have oo := oo.up; have zz := zz.up
  refine C_putr (i := 43) (x := 4) (y := 11) (ty := (.array .int)) G (by decide +kernel) (by decide +kernel) (by decide) (by decide) (by decide) (by decide) (Or.inr ⟨(by decide), hnm, rfl⟩) (by decide +kernel) rfl rfl (by decide) (by decide +kernel) (by decide) ?_
  have oo := oo.put (a := 64) (j := 11) (by decide) (by decide +kernel)
  refine C_aload_n (n := 0) (i := 0) (v := 64) G (by decide +kernel) rfl rfl ?_
  refine C_bipush (n := 40) (v := 40) G (by decide +kernel) rfl ?_
  have oo0 := oo; have zz0 := zz
  refine C_newi (x := 0) (N := 40) G (by decide +kernel) (by decide +kernel) (by decide +kernel) (by decide) hA rfl (by decide) (Nat.le_of_ble_eq_true rfl) (Nat.le_of_ble_eq_true rfl) rfl rfl (fun ad7 n7 => ?_)
  have G := G.nx n7; have oo := oo.up; have zz := zz.up
  refine C_putr (i := 46) (x := 4) (y := 12) (ty := (.array .int)) G (by decide +kernel) (by decide +kernel) (by decide) (by decide) (by decide) (by decide) (Or.inr ⟨(by decide), hnm, rfl⟩) (by decide +kernel) rfl rfl (by decide) (by decide +kernel) (by decide) ?_
  have oo := oo.put (a := 64) (j := 12) (by decide) (by decide +kernel)
  refine C_aload_n (n := 0) (i := 0) (v := 64) G (by decide +kernel) rfl rfl ?_
  refine C_iconst (n := 0) (v := 0) G (by decide +kernel) rfl ?_
  refine C_put0 (i := 49) (x := 4) (y := 13) (ty := .int) G (by decide +kernel) (by decide +kernel) (by decide) (by decide) (by decide) (by decide) (Or.inl (by decide)) (by decide +kernel) rfl rfl (Or.inl (by decide)) (hz 13) ?_
  refine C_aload_n (n := 0) (i := 0) (v := 64) G (by decide +kernel) rfl rfl ?_
  refine C_iconst (n := 0) (v := 0) G (by decide +kernel) rfl ?_
  refine C_put0 (i := 52) (x := 4) (y := 14) (ty := .int) G (by decide +kernel) (by decide +kernel) (by decide) (by decide) (by decide) (by decide) (Or.inl (by decide)) (by decide +kernel) rfl rfl (Or.inl (by decide)) (hz 14) ?_
  refine C_aload_n (n := 0) (i := 0) (v := 64) G (by decide +kernel) rfl rfl ?_
  refine C_aload_n (n := 1) (i := 1) (v := 5) G (by decide +kernel) rfl rfl ?_
  refine C_putr (i := 55) (x := 4) (y := 0) (ty := (.object "StatueRent$City")) G (by decide +kernel) (by decide +kernel) (by decide) (by decide) (by decide) (by decide) (Or.inr ⟨(by decide), hnm, rfl⟩) (by decide +kernel) rfl rfl (by decide) (by decide +kernel) (by decide) ?_
  have oo := oo.put (a := 64) (j := 0) (by decide) (by decide +kernel)
  exact C_ret (X0 := X) (ad := ad7) G hr hlk (((((((n0.tr n1 (by decide)).tr n2 (by decide)).tr n3 (by decide)).tr n4 (by decide)).tr n5 (by decide)).tr n6 (by decide)).tr n7 (by decide)) (by decide +kernel)
theorem OO_K_X4_init_73 {S : Nat → Nat → Bool} (oo : OkS 74 S) : OkS 82 (sU (sU (sU (sU (sU (sU (sU (sU (sU S 73 5) 73 6) 73 7) 73 8) 73 9) 73 10) 73 11) 73 12) 73 0) := (((((((((oo.up.put (a := 73) (j := 5) (by decide) (by decide +kernel)).up.put (a := 73) (j := 6) (by decide) (by decide +kernel)).up.put (a := 73) (j := 7) (by decide) (by decide +kernel)).up.put (a := 73) (j := 8) (by decide) (by decide +kernel)).up.put (a := 73) (j := 9) (by decide) (by decide +kernel)).up.put (a := 73) (j := 10) (by decide) (by decide +kernel)).up.put (a := 73) (j := 11) (by decide) (by decide +kernel)).up.put (a := 73) (j := 12) (by decide) (by decide +kernel)).put (a := 73) (j := 0) (by decide) (by decide +kernel))
theorem ZZ_K_X4_init_73 {u : Mm} (zz : ZrC 74 u) : ZrC 82 (u) := zz.up.up.up.up.up.up.up.up
set_option maxRecDepth 100000 in
theorem K_X4_init_73 {X : Xc} {d : Nat} {S : Nat → Nat → Bool} {u : Mm} (had : adOk X) (oo : OkS 74 S) (zz : ZrC 74 u) (hz : ∀ j, u.1 73 j = 0) : CK X (d + 1) yX4_init cX4_init 2 [.ref 73, .ref 5] u 74 S 8 96 (u) 82 (sU (sU (sU (sU (sU (sU (sU (sU (sU S 73 5) 73 6) 73 7) 73 8) 73 9) 73 10) 73 11) 73 12) 73 0) := by
  refine CK_of okK_X4_init rfl oo zz ?_
  intro p e s m args below meth c G hA hr hlk hnm
  have zz00 := zz
  refine C_aload_n (n := 0) (i := 0) (v := 73) G (by decide +kernel) rfl rfl ?_
  refine C_obj (i := 3) (a := 73) (r := []) G (by decide +kernel) (by decide +kernel) (by show 1 ≤ d + 1; omega) (by show 0 + 12 ≤ 64 * (d + 1); omega) ?_
  refine C_aload_n (n := 0) (i := 0) (v := 73) G (by decide +kernel) rfl rfl ?_
  refine C_iconst (n := 0) (v := 0) G (by decide +kernel) rfl ?_
  refine C_put0 (i := 9) (x := 4) (y := 1) (ty := .int) G (by decide +kernel) (by decide +kernel) (by decide) (by decide) (by decide) (by decide) (Or.inl (by decide)) (by decide +kernel) rfl rfl (Or.inl (by decide)) (hz 1) ?_
  refine C_aload_n (n := 0) (i := 0) (v := 73) G (by decide +kernel) rfl rfl ?_
  refine C_iconst (n := 0) (v := 0) G (by decide +kernel) rfl ?_
  refine C_put0 (i := 15) (x := 4) (y := 2) (ty := .int) G (by decide +kernel) (by decide +kernel) (by decide) (by decide) (by decide) (by decide) (Or.inl (by decide)) (by decide +kernel) rfl rfl (Or.inl (by decide)) (hz 2) ?_
  refine C_aload_n (n := 0) (i := 0) (v := 73) G (by decide +kernel) rfl rfl ?_
  refine C_iconst (n := 0) (v := 0) G (by decide +kernel) rfl ?_
  refine C_put0 (i := 18) (x := 4) (y := 3) (ty := .int) G (by decide +kernel) (by decide +kernel) (by decide) (by decide) (by decide) (by decide) (Or.inl (by decide)) (by decide +kernel) rfl rfl (Or.inl (by decide)) (hz 3) ?_
  refine C_aload_n (n := 0) (i := 0) (v := 73) G (by decide +kernel) rfl rfl ?_
  refine C_iconst (n := 0) (v := 0) G (by decide +kernel) rfl ?_
  refine C_put0 (i := 21) (x := 4) (y := 4) (ty := .int) G (by decide +kernel) (by decide +kernel) (by decide) (by decide) (by decide) (by decide) (Or.inl (by decide)) (by decide +kernel) rfl rfl (Or.inl (by decide)) (hz 4) ?_
  refine C_aload_n (n := 0) (i := 0) (v := 73) G (by decide +kernel) rfl rfl ?_
  refine C_bipush (n := 8) (v := 8) G (by decide +kernel) rfl ?_
  have oo0 := oo; have zz0 := zz
  refine C_newi (x := 0) (N := 8) G (by decide +kernel) (by decide +kernel) (by decide +kernel) (by decide) hA rfl (by decide) (Nat.le_of_ble_eq_true rfl) (Nat.le_of_ble_eq_true rfl) rfl rfl (fun ad0 n0 => ?_)
  have G := G.nx n0; have oo := oo.up; have zz := zz.up
  refine C_putr (i := 24) (x := 4) (y := 5) (ty := (.array .int)) G (by decide +kernel) (by decide +kernel) (by decide) (by decide) (by decide) (by decide) (Or.inr ⟨(by decide), hnm, rfl⟩) (by decide +kernel) rfl rfl (by decide) (by decide +kernel) (by decide) ?_
  have oo := oo.put (a := 73) (j := 5) (by decide) (by decide +kernel)
  refine C_aload_n (n := 0) (i := 0) (v := 73) G (by decide +kernel) rfl rfl ?_
  refine C_bipush (n := 8) (v := 8) G (by decide +kernel) rfl ?_
  have oo0 := oo; have zz0 := zz
  refine C_newi (x := 0) (N := 8) G (by decide +kernel) (by decide +kernel) (by decide +kernel) (by decide) hA rfl (by decide) (Nat.le_of_ble_eq_true rfl) (Nat.le_of_ble_eq_true rfl) rfl rfl (fun ad1 n1 => ?_)
  have G := G.nx n1; have oo := oo.up; have zz := zz.up
  refine C_putr (i := 28) (x := 4) (y := 6) (ty := (.array .int)) G (by decide +kernel) (by decide +kernel) (by decide) (by decide) (by decide) (by decide) (Or.inr ⟨(by decide), hnm, rfl⟩) (by decide +kernel) rfl rfl (by decide) (by decide +kernel) (by decide) ?_
  have oo := oo.put (a := 73) (j := 6) (by decide) (by decide +kernel)
  refine C_aload_n (n := 0) (i := 0) (v := 73) G (by decide +kernel) rfl rfl ?_
  refine C_bipush (n := 8) (v := 8) G (by decide +kernel) rfl ?_
  have oo0 := oo; have zz0 := zz
  refine C_newi (x := 0) (N := 8) G (by decide +kernel) (by decide +kernel) (by decide +kernel) (by decide) hA rfl (by decide) (Nat.le_of_ble_eq_true rfl) (Nat.le_of_ble_eq_true rfl) rfl rfl (fun ad2 n2 => ?_)
  have G := G.nx n2; have oo := oo.up; have zz := zz.up
  refine C_putr (i := 31) (x := 4) (y := 7) (ty := (.array .int)) G (by decide +kernel) (by decide +kernel) (by decide) (by decide) (by decide) (by decide) (Or.inr ⟨(by decide), hnm, rfl⟩) (by decide +kernel) rfl rfl (by decide) (by decide +kernel) (by decide) ?_
  have oo := oo.put (a := 73) (j := 7) (by decide) (by decide +kernel)
  refine C_aload_n (n := 0) (i := 0) (v := 73) G (by decide +kernel) rfl rfl ?_
  refine C_bipush (n := 8) (v := 8) G (by decide +kernel) rfl ?_
  have oo0 := oo; have zz0 := zz
  refine C_newi (x := 0) (N := 8) G (by decide +kernel) (by decide +kernel) (by decide +kernel) (by decide) hA rfl (by decide) (Nat.le_of_ble_eq_true rfl) (Nat.le_of_ble_eq_true rfl) rfl rfl (fun ad3 n3 => ?_)
  have G := G.nx n3; have oo := oo.up; have zz := zz.up
  refine C_putr (i := 34) (x := 4) (y := 8) (ty := (.array .int)) G (by decide +kernel) (by decide +kernel) (by decide) (by decide) (by decide) (by decide) (Or.inr ⟨(by decide), hnm, rfl⟩) (by decide +kernel) rfl rfl (by decide) (by decide +kernel) (by decide) ?_
  have oo := oo.put (a := 73) (j := 8) (by decide) (by decide +kernel)
  refine C_aload_n (n := 0) (i := 0) (v := 73) G (by decide +kernel) rfl rfl ?_
  refine C_bipush (n := 8) (v := 8) G (by decide +kernel) rfl ?_
  have oo0 := oo; have zz0 := zz
  refine C_newi (x := 0) (N := 8) G (by decide +kernel) (by decide +kernel) (by decide +kernel) (by decide) hA rfl (by decide) (Nat.le_of_ble_eq_true rfl) (Nat.le_of_ble_eq_true rfl) rfl rfl (fun ad4 n4 => ?_)
  have G := G.nx n4; have oo := oo.up; have zz := zz.up
  refine C_putr (i := 37) (x := 4) (y := 9) (ty := (.array .int)) G (by decide +kernel) (by decide +kernel) (by decide) (by decide) (by decide) (by decide) (Or.inr ⟨(by decide), hnm, rfl⟩) (by decide +kernel) rfl rfl (by decide) (by decide +kernel) (by decide) ?_
  have oo := oo.put (a := 73) (j := 9) (by decide) (by decide +kernel)
  refine C_aload_n (n := 0) (i := 0) (v := 73) G (by decide +kernel) rfl rfl ?_
  refine C_bipush (n := 8) (v := 8) G (by decide +kernel) rfl ?_
  have oo0 := oo; have zz0 := zz
  refine C_newi (x := 0) (N := 8) G (by decide +kernel) (by decide +kernel) (by decide +kernel) (by decide) hA rfl (by decide) (Nat.le_of_ble_eq_true rfl) (Nat.le_of_ble_eq_true rfl) rfl rfl (fun ad5 n5 => ?_)
  have G := G.nx n5; have oo := oo.up; have zz := zz.up
  refine C_putr (i := 40) (x := 4) (y := 10) (ty := (.array .int)) G (by decide +kernel) (by decide +kernel) (by decide) (by decide) (by decide) (by decide) (Or.inr ⟨(by decide), hnm, rfl⟩) (by decide +kernel) rfl rfl (by decide) (by decide +kernel) (by decide) ?_
  have oo := oo.put (a := 73) (j := 10) (by decide) (by decide +kernel)
  refine C_aload_n (n := 0) (i := 0) (v := 73) G (by decide +kernel) rfl rfl ?_
  refine C_bipush (n := 8) (v := 8) G (by decide +kernel) rfl ?_
  have oo0 := oo; have zz0 := zz
  refine C_newi (x := 0) (N := 8) G (by decide +kernel) (by decide +kernel) (by decide +kernel) (by decide) hA rfl (by decide) (Nat.le_of_ble_eq_true rfl) (Nat.le_of_ble_eq_true rfl) rfl rfl (fun ad6 n6 => ?_)
  have G := G.nx n6; have oo := oo.up; have zz := zz.up
  refine C_putr (i := 43) (x := 4) (y := 11) (ty := (.array .int)) G (by decide +kernel) (by decide +kernel) (by decide) (by decide) (by decide) (by decide) (Or.inr ⟨(by decide), hnm, rfl⟩) (by decide +kernel) rfl rfl (by decide) (by decide +kernel) (by decide) ?_
  have oo := oo.put (a := 73) (j := 11) (by decide) (by decide +kernel)
  refine C_aload_n (n := 0) (i := 0) (v := 73) G (by decide +kernel) rfl rfl ?_
  refine C_bipush (n := 40) (v := 40) G (by decide +kernel) rfl ?_
  have oo0 := oo; have zz0 := zz
  refine C_newi (x := 0) (N := 40) G (by decide +kernel) (by decide +kernel) (by decide +kernel) (by decide) hA rfl (by decide) (Nat.le_of_ble_eq_true rfl) (Nat.le_of_ble_eq_true rfl) rfl rfl (fun ad7 n7 => ?_)
  have G := G.nx n7; have oo := oo.up; have zz := zz.up
  refine C_putr (i := 46) (x := 4) (y := 12) (ty := (.array .int)) G (by decide +kernel) (by decide +kernel) (by decide) (by decide) (by decide) (by decide) (Or.inr ⟨(by decide), hnm, rfl⟩) (by decide +kernel) rfl rfl (by decide) (by decide +kernel) (by decide) ?_
  have oo := oo.put (a := 73) (j := 12) (by decide) (by decide +kernel)
  refine C_aload_n (n := 0) (i := 0) (v := 73) G (by decide +kernel) rfl rfl ?_
  refine C_iconst (n := 0) (v := 0) G (by decide +kernel) rfl ?_
  refine C_put0 (i := 49) (x := 4) (y := 13) (ty := .int) G (by decide +kernel) (by decide +kernel) (by decide) (by decide) (by decide) (by decide) (Or.inl (by decide)) (by decide +kernel) rfl rfl (Or.inl (by decide)) (hz 13) ?_
  refine C_aload_n (n := 0) (i := 0) (v := 73) G (by decide +kernel) rfl rfl ?_
  refine C_iconst (n := 0) (v := 0) G (by decide +kernel) rfl ?_
  refine C_put0 (i := 52) (x := 4) (y := 14) (ty := .int) G (by decide +kernel) (by decide +kernel) (by decide) (by decide) (by decide) (by decide) (Or.inl (by decide)) (by decide +kernel) rfl rfl (Or.inl (by decide)) (hz 14) ?_
  refine C_aload_n (n := 0) (i := 0) (v := 73) G (by decide +kernel) rfl rfl ?_
  refine C_aload_n (n := 1) (i := 1) (v := 5) G (by decide +kernel) rfl rfl ?_
  refine C_putr (i := 55) (x := 4) (y := 0) (ty := (.object "StatueRent$City")) G (by decide +kernel) (by decide +kernel) (by decide) (by decide) (by decide) (by decide) (Or.inr ⟨(by decide), hnm, rfl⟩) (by decide +kernel) rfl rfl (by decide) (by decide +kernel) (by decide) ?_
  have oo := oo.put (a := 73) (j := 0) (by decide) (by decide +kernel)
  exact C_ret (X0 := X) (ad := ad7) G hr hlk (((((((n0.tr n1 (by decide)).tr n2 (by decide)).tr n3 (by decide)).tr n4 (by decide)).tr n5 (by decide)).tr n6 (by decide)).tr n7 (by decide)) (by decide +kernel)
theorem OO_K_X4_init_82 {S : Nat → Nat → Bool} (oo : OkS 83 S) : OkS 91 (sU (sU (sU (sU (sU (sU (sU (sU (sU S 82 5) 82 6) 82 7) 82 8) 82 9) 82 10) 82 11) 82 12) 82 0) := (((((((((oo.up.put (a := 82) (j := 5) (by decide) (by decide +kernel)).up.put (a := 82) (j := 6) (by decide) (by decide +kernel)).up.put (a := 82) (j := 7) (by decide) (by decide +kernel)).up.put (a := 82) (j := 8) (by decide) (by decide +kernel)).up.put (a := 82) (j := 9) (by decide) (by decide +kernel)).up.put (a := 82) (j := 10) (by decide) (by decide +kernel)).up.put (a := 82) (j := 11) (by decide) (by decide +kernel)).up.put (a := 82) (j := 12) (by decide) (by decide +kernel)).put (a := 82) (j := 0) (by decide) (by decide +kernel))
theorem ZZ_K_X4_init_82 {u : Mm} (zz : ZrC 83 u) : ZrC 91 (u) := zz.up.up.up.up.up.up.up.up
set_option maxRecDepth 100000 in
theorem K_X4_init_82 {X : Xc} {d : Nat} {S : Nat → Nat → Bool} {u : Mm} (had : adOk X) (oo : OkS 83 S) (zz : ZrC 83 u) (hz : ∀ j, u.1 82 j = 0) : CK X (d + 1) yX4_init cX4_init 2 [.ref 82, .ref 5] u 83 S 8 96 (u) 91 (sU (sU (sU (sU (sU (sU (sU (sU (sU S 82 5) 82 6) 82 7) 82 8) 82 9) 82 10) 82 11) 82 12) 82 0) := by
  refine CK_of okK_X4_init rfl oo zz ?_
  intro p e s m args below meth c G hA hr hlk hnm
  have zz00 := zz
  refine C_aload_n (n := 0) (i := 0) (v := 82) G (by decide +kernel) rfl rfl ?_
  refine C_obj (i := 3) (a := 82) (r := []) G (by decide +kernel) (by decide +kernel) (by show 1 ≤ d + 1; omega) (by show 0 + 12 ≤ 64 * (d + 1); omega) ?_
  refine C_aload_n (n := 0) (i := 0) (v := 82) G (by decide +kernel) rfl rfl ?_
  refine C_iconst (n := 0) (v := 0) G (by decide +kernel) rfl ?_
  refine C_put0 (i := 9) (x := 4) (y := 1) (ty := .int) G (by decide +kernel) (by decide +kernel) (by decide) (by decide) (by decide) (by decide) (Or.inl (by decide)) (by decide +kernel) rfl rfl (Or.inl (by decide)) (hz 1) ?_
  refine C_aload_n (n := 0) (i := 0) (v := 82) G (by decide +kernel) rfl rfl ?_
  refine C_iconst (n := 0) (v := 0) G (by decide +kernel) rfl ?_
  refine C_put0 (i := 15) (x := 4) (y := 2) (ty := .int) G (by decide +kernel) (by decide +kernel) (by decide) (by decide) (by decide) (by decide) (Or.inl (by decide)) (by decide +kernel) rfl rfl (Or.inl (by decide)) (hz 2) ?_
  refine C_aload_n (n := 0) (i := 0) (v := 82) G (by decide +kernel) rfl rfl ?_
  refine C_iconst (n := 0) (v := 0) G (by decide +kernel) rfl ?_
  refine C_put0 (i := 18) (x := 4) (y := 3) (ty := .int) G (by decide +kernel) (by decide +kernel) (by decide) (by decide) (by decide) (by decide) (Or.inl (by decide)) (by decide +kernel) rfl rfl (Or.inl (by decide)) (hz 3) ?_
  refine C_aload_n (n := 0) (i := 0) (v := 82) G (by decide +kernel) rfl rfl ?_
  refine C_iconst (n := 0) (v := 0) G (by decide +kernel) rfl ?_
  refine C_put0 (i := 21) (x := 4) (y := 4) (ty := .int) G (by decide +kernel) (by decide +kernel) (by decide) (by decide) (by decide) (by decide) (Or.inl (by decide)) (by decide +kernel) rfl rfl (Or.inl (by decide)) (hz 4) ?_
  refine C_aload_n (n := 0) (i := 0) (v := 82) G (by decide +kernel) rfl rfl ?_
  refine C_bipush (n := 8) (v := 8) G (by decide +kernel) rfl ?_
  have oo0 := oo; have zz0 := zz
  refine C_newi (x := 0) (N := 8) G (by decide +kernel) (by decide +kernel) (by decide +kernel) (by decide) hA rfl (by decide) (Nat.le_of_ble_eq_true rfl) (Nat.le_of_ble_eq_true rfl) rfl rfl (fun ad0 n0 => ?_)
  have G := G.nx n0; have oo := oo.up; have zz := zz.up
  refine C_putr (i := 24) (x := 4) (y := 5) (ty := (.array .int)) G (by decide +kernel) (by decide +kernel) (by decide) (by decide) (by decide) (by decide) (Or.inr ⟨(by decide), hnm, rfl⟩) (by decide +kernel) rfl rfl (by decide) (by decide +kernel) (by decide) ?_
  have oo := oo.put (a := 82) (j := 5) (by decide) (by decide +kernel)
  refine C_aload_n (n := 0) (i := 0) (v := 82) G (by decide +kernel) rfl rfl ?_
  refine C_bipush (n := 8) (v := 8) G (by decide +kernel) rfl ?_
  have oo0 := oo; have zz0 := zz
  refine C_newi (x := 0) (N := 8) G (by decide +kernel) (by decide +kernel) (by decide +kernel) (by decide) hA rfl (by decide) (Nat.le_of_ble_eq_true rfl) (Nat.le_of_ble_eq_true rfl) rfl rfl (fun ad1 n1 => ?_)
  have G := G.nx n1; have oo := oo.up; have zz := zz.up
  refine C_putr (i := 28) (x := 4) (y := 6) (ty := (.array .int)) G (by decide +kernel) (by decide +kernel) (by decide) (by decide) (by decide) (by decide) (Or.inr ⟨(by decide), hnm, rfl⟩) (by decide +kernel) rfl rfl (by decide) (by decide +kernel) (by decide) ?_
  have oo := oo.put (a := 82) (j := 6) (by decide) (by decide +kernel)
  refine C_aload_n (n := 0) (i := 0) (v := 82) G (by decide +kernel) rfl rfl ?_
  refine C_bipush (n := 8) (v := 8) G (by decide +kernel) rfl ?_
  have oo0 := oo; have zz0 := zz
  refine C_newi (x := 0) (N := 8) G (by decide +kernel) (by decide +kernel) (by decide +kernel) (by decide) hA rfl (by decide) (Nat.le_of_ble_eq_true rfl) (Nat.le_of_ble_eq_true rfl) rfl rfl (fun ad2 n2 => ?_)
  have G := G.nx n2; have oo := oo.up; have zz := zz.up
  refine C_putr (i := 31) (x := 4) (y := 7) (ty := (.array .int)) G (by decide +kernel) (by decide +kernel) (by decide) (by decide) (by decide) (by decide) (Or.inr ⟨(by decide), hnm, rfl⟩) (by decide +kernel) rfl rfl (by decide) (by decide +kernel) (by decide) ?_
  have oo := oo.put (a := 82) (j := 7) (by decide) (by decide +kernel)
  refine C_aload_n (n := 0) (i := 0) (v := 82) G (by decide +kernel) rfl rfl ?_
  refine C_bipush (n := 8) (v := 8) G (by decide +kernel) rfl ?_
  have oo0 := oo; have zz0 := zz
  refine C_newi (x := 0) (N := 8) G (by decide +kernel) (by decide +kernel) (by decide +kernel) (by decide) hA rfl (by decide) (Nat.le_of_ble_eq_true rfl) (Nat.le_of_ble_eq_true rfl) rfl rfl (fun ad3 n3 => ?_)
  have G := G.nx n3; have oo := oo.up; have zz := zz.up
  refine C_putr (i := 34) (x := 4) (y := 8) (ty := (.array .int)) G (by decide +kernel) (by decide +kernel) (by decide) (by decide) (by decide) (by decide) (Or.inr ⟨(by decide), hnm, rfl⟩) (by decide +kernel) rfl rfl (by decide) (by decide +kernel) (by decide) ?_
  have oo := oo.put (a := 82) (j := 8) (by decide) (by decide +kernel)
  refine C_aload_n (n := 0) (i := 0) (v := 82) G (by decide +kernel) rfl rfl ?_
  refine C_bipush (n := 8) (v := 8) G (by decide +kernel) rfl ?_
  have oo0 := oo; have zz0 := zz
  refine C_newi (x := 0) (N := 8) G (by decide +kernel) (by decide +kernel) (by decide +kernel) (by decide) hA rfl (by decide) (Nat.le_of_ble_eq_true rfl) (Nat.le_of_ble_eq_true rfl) rfl rfl (fun ad4 n4 => ?_)
  have G := G.nx n4; have oo := oo.up; have zz := zz.up
  refine C_putr (i := 37) (x := 4) (y := 9) (ty := (.array .int)) G (by decide +kernel) (by decide +kernel) (by decide) (by decide) (by decide) (by decide) (Or.inr ⟨(by decide), hnm, rfl⟩) (by decide +kernel) rfl rfl (by decide) (by decide +kernel) (by decide) ?_
  have oo := oo.put (a := 82) (j := 9) (by decide) (by decide +kernel)
  refine C_aload_n (n := 0) (i := 0) (v := 82) G (by decide +kernel) rfl rfl ?_
  refine C_bipush (n := 8) (v := 8) G (by decide +kernel) rfl ?_
  have oo0 := oo; have zz0 := zz
  refine C_newi (x := 0) (N := 8) G (by decide +kernel) (by decide +kernel) (by decide +kernel) (by decide) hA rfl (by decide) (Nat.le_of_ble_eq_true rfl) (Nat.le_of_ble_eq_true rfl) rfl rfl (fun ad5 n5 => ?_)
  have G := G.nx n5; have oo := oo.up; have zz := zz.up
  refine C_putr (i := 40) (x := 4) (y := 10) (ty := (.array .int)) G (by decide +kernel) (by decide +kernel) (by decide) (by decide) (by decide) (by decide) (Or.inr ⟨(by decide), hnm, rfl⟩) (by decide +kernel) rfl rfl (by decide) (by decide +kernel) (by decide) ?_
  have oo := oo.put (a := 82) (j := 10) (by decide) (by decide +kernel)
  refine C_aload_n (n := 0) (i := 0) (v := 82) G (by decide +kernel) rfl rfl ?_
  refine C_bipush (n := 8) (v := 8) G (by decide +kernel) rfl ?_
  have oo0 := oo; have zz0 := zz
  refine C_newi (x := 0) (N := 8) G (by decide +kernel) (by decide +kernel) (by decide +kernel) (by decide) hA rfl (by decide) (Nat.le_of_ble_eq_true rfl) (Nat.le_of_ble_eq_true rfl) rfl rfl (fun ad6 n6 => ?_)
  have G := G.nx n6; have oo := oo.up; have zz := zz.up
  refine C_putr (i := 43) (x := 4) (y := 11) (ty := (.array .int)) G (by decide +kernel) (by decide +kernel) (by decide) (by decide) (by decide) (by decide) (Or.inr ⟨(by decide), hnm, rfl⟩) (by decide +kernel) rfl rfl (by decide) (by decide +kernel) (by decide) ?_
  have oo := oo.put (a := 82) (j := 11) (by decide) (by decide +kernel)
  refine C_aload_n (n := 0) (i := 0) (v := 82) G (by decide +kernel) rfl rfl ?_
  refine C_bipush (n := 40) (v := 40) G (by decide +kernel) rfl ?_
  have oo0 := oo; have zz0 := zz
  refine C_newi (x := 0) (N := 40) G (by decide +kernel) (by decide +kernel) (by decide +kernel) (by decide) hA rfl (by decide) (Nat.le_of_ble_eq_true rfl) (Nat.le_of_ble_eq_true rfl) rfl rfl (fun ad7 n7 => ?_)
  have G := G.nx n7; have oo := oo.up; have zz := zz.up
  refine C_putr (i := 46) (x := 4) (y := 12) (ty := (.array .int)) G (by decide +kernel) (by decide +kernel) (by decide) (by decide) (by decide) (by decide) (Or.inr ⟨(by decide), hnm, rfl⟩) (by decide +kernel) rfl rfl (by decide) (by decide +kernel) (by decide) ?_
  have oo := oo.put (a := 82) (j := 12) (by decide) (by decide +kernel)
  refine C_aload_n (n := 0) (i := 0) (v := 82) G (by decide +kernel) rfl rfl ?_
  refine C_iconst (n := 0) (v := 0) G (by decide +kernel) rfl ?_
  refine C_put0 (i := 49) (x := 4) (y := 13) (ty := .int) G (by decide +kernel) (by decide +kernel) (by decide) (by decide) (by decide) (by decide) (Or.inl (by decide)) (by decide +kernel) rfl rfl (Or.inl (by decide)) (hz 13) ?_
  refine C_aload_n (n := 0) (i := 0) (v := 82) G (by decide +kernel) rfl rfl ?_
  refine C_iconst (n := 0) (v := 0) G (by decide +kernel) rfl ?_
  refine C_put0 (i := 52) (x := 4) (y := 14) (ty := .int) G (by decide +kernel) (by decide +kernel) (by decide) (by decide) (by decide) (by decide) (Or.inl (by decide)) (by decide +kernel) rfl rfl (Or.inl (by decide)) (hz 14) ?_
  refine C_aload_n (n := 0) (i := 0) (v := 82) G (by decide +kernel) rfl rfl ?_
  refine C_aload_n (n := 1) (i := 1) (v := 5) G (by decide +kernel) rfl rfl ?_
  refine C_putr (i := 55) (x := 4) (y := 0) (ty := (.object "StatueRent$City")) G (by decide +kernel) (by decide +kernel) (by decide) (by decide) (by decide) (by decide) (Or.inr ⟨(by decide), hnm, rfl⟩) (by decide +kernel) rfl rfl (by decide) (by decide +kernel) (by decide) ?_
  have oo := oo.put (a := 82) (j := 0) (by decide) (by decide +kernel)
  exact C_ret (X0 := X) (ad := ad7) G hr hlk (((((((n0.tr n1 (by decide)).tr n2 (by decide)).tr n3 (by decide)).tr n4 (by decide)).tr n5 (by decide)).tr n6 (by decide)).tr n7 (by decide)) (by decide +kernel)
theorem OO_K_X4_init_91 {S : Nat → Nat → Bool} (oo : OkS 92 S) : OkS 100 (sU (sU (sU (sU (sU (sU (sU (sU (sU S 91 5) 91 6) 91 7) 91 8) 91 9) 91 10) 91 11) 91 12) 91 0) := (((((((((oo.up.put (a := 91) (j := 5) (by decide) (by decide +kernel)).up.put (a := 91) (j := 6) (by decide) (by decide +kernel)).up.put (a := 91) (j := 7) (by decide) (by decide +kernel)).up.put (a := 91) (j := 8) (by decide) (by decide +kernel)).up.put (a := 91) (j := 9) (by decide) (by decide +kernel)).up.put (a := 91) (j := 10) (by decide) (by decide +kernel)).up.put (a := 91) (j := 11) (by decide) (by decide +kernel)).up.put (a := 91) (j := 12) (by decide) (by decide +kernel)).put (a := 91) (j := 0) (by decide) (by decide +kernel))
theorem ZZ_K_X4_init_91 {u : Mm} (zz : ZrC 92 u) : ZrC 100 (u) := zz.up.up.up.up.up.up.up.up
set_option maxRecDepth 100000 in
theorem K_X4_init_91 {X : Xc} {d : Nat} {S : Nat → Nat → Bool} {u : Mm} (had : adOk X) (oo : OkS 92 S) (zz : ZrC 92 u) (hz : ∀ j, u.1 91 j = 0) : CK X (d + 1) yX4_init cX4_init 2 [.ref 91, .ref 5] u 92 S 8 96 (u) 100 (sU (sU (sU (sU (sU (sU (sU (sU (sU S 91 5) 91 6) 91 7) 91 8) 91 9) 91 10) 91 11) 91 12) 91 0) := by
  refine CK_of okK_X4_init rfl oo zz ?_
  intro p e s m args below meth c G hA hr hlk hnm
  have zz00 := zz
  refine C_aload_n (n := 0) (i := 0) (v := 91) G (by decide +kernel) rfl rfl ?_
  refine C_obj (i := 3) (a := 91) (r := []) G (by decide +kernel) (by decide +kernel) (by show 1 ≤ d + 1; omega) (by show 0 + 12 ≤ 64 * (d + 1); omega) ?_
  refine C_aload_n (n := 0) (i := 0) (v := 91) G (by decide +kernel) rfl rfl ?_
  refine C_iconst (n := 0) (v := 0) G (by decide +kernel) rfl ?_
  refine C_put0 (i := 9) (x := 4) (y := 1) (ty := .int) G (by decide +kernel) (by decide +kernel) (by decide) (by decide) (by decide) (by decide) (Or.inl (by decide)) (by decide +kernel) rfl rfl (Or.inl (by decide)) (hz 1) ?_
  refine C_aload_n (n := 0) (i := 0) (v := 91) G (by decide +kernel) rfl rfl ?_
  refine C_iconst (n := 0) (v := 0) G (by decide +kernel) rfl ?_
  refine C_put0 (i := 15) (x := 4) (y := 2) (ty := .int) G (by decide +kernel) (by decide +kernel) (by decide) (by decide) (by decide) (by decide) (Or.inl (by decide)) (by decide +kernel) rfl rfl (Or.inl (by decide)) (hz 2) ?_
  refine C_aload_n (n := 0) (i := 0) (v := 91) G (by decide +kernel) rfl rfl ?_
  refine C_iconst (n := 0) (v := 0) G (by decide +kernel) rfl ?_
  refine C_put0 (i := 18) (x := 4) (y := 3) (ty := .int) G (by decide +kernel) (by decide +kernel) (by decide) (by decide) (by decide) (by decide) (Or.inl (by decide)) (by decide +kernel) rfl rfl (Or.inl (by decide)) (hz 3) ?_
  refine C_aload_n (n := 0) (i := 0) (v := 91) G (by decide +kernel) rfl rfl ?_
  refine C_iconst (n := 0) (v := 0) G (by decide +kernel) rfl ?_
  refine C_put0 (i := 21) (x := 4) (y := 4) (ty := .int) G (by decide +kernel) (by decide +kernel) (by decide) (by decide) (by decide) (by decide) (Or.inl (by decide)) (by decide +kernel) rfl rfl (Or.inl (by decide)) (hz 4) ?_
  refine C_aload_n (n := 0) (i := 0) (v := 91) G (by decide +kernel) rfl rfl ?_
  refine C_bipush (n := 8) (v := 8) G (by decide +kernel) rfl ?_
  have oo0 := oo; have zz0 := zz
  refine C_newi (x := 0) (N := 8) G (by decide +kernel) (by decide +kernel) (by decide +kernel) (by decide) hA rfl (by decide) (Nat.le_of_ble_eq_true rfl) (Nat.le_of_ble_eq_true rfl) rfl rfl (fun ad0 n0 => ?_)
  have G := G.nx n0; have oo := oo.up; have zz := zz.up
  refine C_putr (i := 24) (x := 4) (y := 5) (ty := (.array .int)) G (by decide +kernel) (by decide +kernel) (by decide) (by decide) (by decide) (by decide) (Or.inr ⟨(by decide), hnm, rfl⟩) (by decide +kernel) rfl rfl (by decide) (by decide +kernel) (by decide) ?_
  have oo := oo.put (a := 91) (j := 5) (by decide) (by decide +kernel)
  refine C_aload_n (n := 0) (i := 0) (v := 91) G (by decide +kernel) rfl rfl ?_
  refine C_bipush (n := 8) (v := 8) G (by decide +kernel) rfl ?_
  have oo0 := oo; have zz0 := zz
  refine C_newi (x := 0) (N := 8) G (by decide +kernel) (by decide +kernel) (by decide +kernel) (by decide) hA rfl (by decide) (Nat.le_of_ble_eq_true rfl) (Nat.le_of_ble_eq_true rfl) rfl rfl (fun ad1 n1 => ?_)
  have G := G.nx n1; have oo := oo.up; have zz := zz.up
  refine C_putr (i := 28) (x := 4) (y := 6) (ty := (.array .int)) G (by decide +kernel) (by decide +kernel) (by decide) (by decide) (by decide) (by decide) (Or.inr ⟨(by decide), hnm, rfl⟩) (by decide +kernel) rfl rfl (by decide) (by decide +kernel) (by decide) ?_
  have oo := oo.put (a := 91) (j := 6) (by decide) (by decide +kernel)
  refine C_aload_n (n := 0) (i := 0) (v := 91) G (by decide +kernel) rfl rfl ?_
  refine C_bipush (n := 8) (v := 8) G (by decide +kernel) rfl ?_
  have oo0 := oo; have zz0 := zz
  refine C_newi (x := 0) (N := 8) G (by decide +kernel) (by decide +kernel) (by decide +kernel) (by decide) hA rfl (by decide) (Nat.le_of_ble_eq_true rfl) (Nat.le_of_ble_eq_true rfl) rfl rfl (fun ad2 n2 => ?_)
  have G := G.nx n2; have oo := oo.up; have zz := zz.up
  refine C_putr (i := 31) (x := 4) (y := 7) (ty := (.array .int)) G (by decide +kernel) (by decide +kernel) (by decide) (by decide) (by decide) (by decide) (Or.inr ⟨(by decide), hnm, rfl⟩) (by decide +kernel) rfl rfl (by decide) (by decide +kernel) (by decide) ?_
  have oo := oo.put (a := 91) (j := 7) (by decide) (by decide +kernel)
  refine C_aload_n (n := 0) (i := 0) (v := 91) G (by decide +kernel) rfl rfl ?_
  refine C_bipush (n := 8) (v := 8) G (by decide +kernel) rfl ?_
  have oo0 := oo; have zz0 := zz
  refine C_newi (x := 0) (N := 8) G (by decide +kernel) (by decide +kernel) (by decide +kernel) (by decide) hA rfl (by decide) (Nat.le_of_ble_eq_true rfl) (Nat.le_of_ble_eq_true rfl) rfl rfl (fun ad3 n3 => ?_)
  have G := G.nx n3; have oo := oo.up; have zz := zz.up
  refine C_putr (i := 34) (x := 4) (y := 8) (ty := (.array .int)) G (by decide +kernel) (by decide +kernel) (by decide) (by decide) (by decide) (by decide) (Or.inr ⟨(by decide), hnm, rfl⟩) (by decide +kernel) rfl rfl (by decide) (by decide +kernel) (by decide) ?_
  have oo := oo.put (a := 91) (j := 8) (by decide) (by decide +kernel)
  refine C_aload_n (n := 0) (i := 0) (v := 91) G (by decide +kernel) rfl rfl ?_
  refine C_bipush (n := 8) (v := 8) G (by decide +kernel) rfl ?_
  have oo0 := oo; have zz0 := zz
  refine C_newi (x := 0) (N := 8) G (by decide +kernel) (by decide +kernel) (by decide +kernel) (by decide) hA rfl (by decide) (Nat.le_of_ble_eq_true rfl) (Nat.le_of_ble_eq_true rfl) rfl rfl (fun ad4 n4 => ?_)
  have G := G.nx n4; have oo := oo.up; have zz := zz.up
  refine C_putr (i := 37) (x := 4) (y := 9) (ty := (.array .int)) G (by decide +kernel) (by decide +kernel) (by decide) (by decide) (by decide) (by decide) (Or.inr ⟨(by decide), hnm, rfl⟩) (by decide +kernel) rfl rfl (by decide) (by decide +kernel) (by decide) ?_
  have oo := oo.put (a := 91) (j := 9) (by decide) (by decide +kernel)
  refine C_aload_n (n := 0) (i := 0) (v := 91) G (by decide +kernel) rfl rfl ?_
  refine C_bipush (n := 8) (v := 8) G (by decide +kernel) rfl ?_
  have oo0 := oo; have zz0 := zz
  refine C_newi (x := 0) (N := 8) G (by decide +kernel) (by decide +kernel) (by decide +kernel) (by decide) hA rfl (by decide) (Nat.le_of_ble_eq_true rfl) (Nat.le_of_ble_eq_true rfl) rfl rfl (fun ad5 n5 => ?_)
  have G := G.nx n5; have oo := oo.up; have zz := zz.up
  refine C_putr (i := 40) (x := 4) (y := 10) (ty := (.array .int)) G (by decide +kernel) (by decide +kernel) (by decide) (by decide) (by decide) (by decide) (Or.inr ⟨(by decide), hnm, rfl⟩) (by decide +kernel) rfl rfl (by decide) (by decide +kernel) (by decide) ?_
  have oo := oo.put (a := 91) (j := 10) (by decide) (by decide +kernel)
  refine C_aload_n (n := 0) (i := 0) (v := 91) G (by decide +kernel) rfl rfl ?_
  refine C_bipush (n := 8) (v := 8) G (by decide +kernel) rfl ?_
  have oo0 := oo; have zz0 := zz
  refine C_newi (x := 0) (N := 8) G (by decide +kernel) (by decide +kernel) (by decide +kernel) (by decide) hA rfl (by decide) (Nat.le_of_ble_eq_true rfl) (Nat.le_of_ble_eq_true rfl) rfl rfl (fun ad6 n6 => ?_)
  have G := G.nx n6; have oo := oo.up; have zz := zz.up
  refine C_putr (i := 43) (x := 4) (y := 11) (ty := (.array .int)) G (by decide +kernel) (by decide +kernel) (by decide) (by decide) (by decide) (by decide) (Or.inr ⟨(by decide), hnm, rfl⟩) (by decide +kernel) rfl rfl (by decide) (by decide +kernel) (by decide) ?_
  have oo := oo.put (a := 91) (j := 11) (by decide) (by decide +kernel)
  refine C_aload_n (n := 0) (i := 0) (v := 91) G (by decide +kernel) rfl rfl ?_
  refine C_bipush (n := 40) (v := 40) G (by decide +kernel) rfl ?_
  have oo0 := oo; have zz0 := zz
  refine C_newi (x := 0) (N := 40) G (by decide +kernel) (by decide +kernel) (by decide +kernel) (by decide) hA rfl (by decide) (Nat.le_of_ble_eq_true rfl) (Nat.le_of_ble_eq_true rfl) rfl rfl (fun ad7 n7 => ?_)
  have G := G.nx n7; have oo := oo.up; have zz := zz.up
  refine C_putr (i := 46) (x := 4) (y := 12) (ty := (.array .int)) G (by decide +kernel) (by decide +kernel) (by decide) (by decide) (by decide) (by decide) (Or.inr ⟨(by decide), hnm, rfl⟩) (by decide +kernel) rfl rfl (by decide) (by decide +kernel) (by decide) ?_
  have oo := oo.put (a := 91) (j := 12) (by decide) (by decide +kernel)
  refine C_aload_n (n := 0) (i := 0) (v := 91) G (by decide +kernel) rfl rfl ?_
  refine C_iconst (n := 0) (v := 0) G (by decide +kernel) rfl ?_
  refine C_put0 (i := 49) (x := 4) (y := 13) (ty := .int) G (by decide +kernel) (by decide +kernel) (by decide) (by decide) (by decide) (by decide) (Or.inl (by decide)) (by decide +kernel) rfl rfl (Or.inl (by decide)) (hz 13) ?_
  refine C_aload_n (n := 0) (i := 0) (v := 91) G (by decide +kernel) rfl rfl ?_
  refine C_iconst (n := 0) (v := 0) G (by decide +kernel) rfl ?_
  refine C_put0 (i := 52) (x := 4) (y := 14) (ty := .int) G (by decide +kernel) (by decide +kernel) (by decide) (by decide) (by decide) (by decide) (Or.inl (by decide)) (by decide +kernel) rfl rfl (Or.inl (by decide)) (hz 14) ?_
  refine C_aload_n (n := 0) (i := 0) (v := 91) G (by decide +kernel) rfl rfl ?_
  refine C_aload_n (n := 1) (i := 1) (v := 5) G (by decide +kernel) rfl rfl ?_
  refine C_putr (i := 55) (x := 4) (y := 0) (ty := (.object "StatueRent$City")) G (by decide +kernel) (by decide +kernel) (by decide) (by decide) (by decide) (by decide) (Or.inr ⟨(by decide), hnm, rfl⟩) (by decide +kernel) rfl rfl (by decide) (by decide +kernel) (by decide) ?_
  have oo := oo.put (a := 91) (j := 0) (by decide) (by decide +kernel)
  exact C_ret (X0 := X) (ad := ad7) G hr hlk (((((((n0.tr n1 (by decide)).tr n2 (by decide)).tr n3 (by decide)).tr n4 (by decide)).tr n5 (by decide)).tr n6 (by decide)).tr n7 (by decide)) (by decide +kernel)
theorem OO_K_X4_init_100 {S : Nat → Nat → Bool} (oo : OkS 101 S) : OkS 109 (sU (sU (sU (sU (sU (sU (sU (sU (sU S 100 5) 100 6) 100 7) 100 8) 100 9) 100 10) 100 11) 100 12) 100 0) := (((((((((oo.up.put (a := 100) (j := 5) (by decide) (by decide +kernel)).up.put (a := 100) (j := 6) (by decide) (by decide +kernel)).up.put (a := 100) (j := 7) (by decide) (by decide +kernel)).up.put (a := 100) (j := 8) (by decide) (by decide +kernel)).up.put (a := 100) (j := 9) (by decide) (by decide +kernel)).up.put (a := 100) (j := 10) (by decide) (by decide +kernel)).up.put (a := 100) (j := 11) (by decide) (by decide +kernel)).up.put (a := 100) (j := 12) (by decide) (by decide +kernel)).put (a := 100) (j := 0) (by decide) (by decide +kernel))
theorem ZZ_K_X4_init_100 {u : Mm} (zz : ZrC 101 u) : ZrC 109 (u) := zz.up.up.up.up.up.up.up.up
set_option maxRecDepth 100000 in
theorem K_X4_init_100 {X : Xc} {d : Nat} {S : Nat → Nat → Bool} {u : Mm} (had : adOk X) (oo : OkS 101 S) (zz : ZrC 101 u) (hz : ∀ j, u.1 100 j = 0) : CK X (d + 1) yX4_init cX4_init 2 [.ref 100, .ref 5] u 101 S 8 96 (u) 109 (sU (sU (sU (sU (sU (sU (sU (sU (sU S 100 5) 100 6) 100 7) 100 8) 100 9) 100 10) 100 11) 100 12) 100 0) := by
  refine CK_of okK_X4_init rfl oo zz ?_
  intro p e s m args below meth c G hA hr hlk hnm
  have zz00 := zz
  refine C_aload_n (n := 0) (i := 0) (v := 100) G (by decide +kernel) rfl rfl ?_
  refine C_obj (i := 3) (a := 100) (r := []) G (by decide +kernel) (by decide +kernel) (by show 1 ≤ d + 1; omega) (by show 0 + 12 ≤ 64 * (d + 1); omega) ?_
  refine C_aload_n (n := 0) (i := 0) (v := 100) G (by decide +kernel) rfl rfl ?_
  refine C_iconst (n := 0) (v := 0) G (by decide +kernel) rfl ?_
  refine C_put0 (i := 9) (x := 4) (y := 1) (ty := .int) G (by decide +kernel) (by decide +kernel) (by decide) (by decide) (by decide) (by decide) (Or.inl (by decide)) (by decide +kernel) rfl rfl (Or.inl (by decide)) (hz 1) ?_
  refine C_aload_n (n := 0) (i := 0) (v := 100) G (by decide +kernel) rfl rfl ?_
  refine C_iconst (n := 0) (v := 0) G (by decide +kernel) rfl ?_
  refine C_put0 (i := 15) (x := 4) (y := 2) (ty := .int) G (by decide +kernel) (by decide +kernel) (by decide) (by decide) (by decide) (by decide) (Or.inl (by decide)) (by decide +kernel) rfl rfl (Or.inl (by decide)) (hz 2) ?_
  refine C_aload_n (n := 0) (i := 0) (v := 100) G (by decide +kernel) rfl rfl ?_
  refine C_iconst (n := 0) (v := 0) G (by decide +kernel) rfl ?_
  refine C_put0 (i := 18) (x := 4) (y := 3) (ty := .int) G (by decide +kernel) (by decide +kernel) (by decide) (by decide) (by decide) (by decide) (Or.inl (by decide)) (by decide +kernel) rfl rfl (Or.inl (by decide)) (hz 3) ?_
  refine C_aload_n (n := 0) (i := 0) (v := 100) G (by decide +kernel) rfl rfl ?_
  refine C_iconst (n := 0) (v := 0) G (by decide +kernel) rfl ?_
  refine C_put0 (i := 21) (x := 4) (y := 4) (ty := .int) G (by decide +kernel) (by decide +kernel) (by decide) (by decide) (by decide) (by decide) (Or.inl (by decide)) (by decide +kernel) rfl rfl (Or.inl (by decide)) (hz 4) ?_
  refine C_aload_n (n := 0) (i := 0) (v := 100) G (by decide +kernel) rfl rfl ?_
  refine C_bipush (n := 8) (v := 8) G (by decide +kernel) rfl ?_
  have oo0 := oo; have zz0 := zz
  refine C_newi (x := 0) (N := 8) G (by decide +kernel) (by decide +kernel) (by decide +kernel) (by decide) hA rfl (by decide) (Nat.le_of_ble_eq_true rfl) (Nat.le_of_ble_eq_true rfl) rfl rfl (fun ad0 n0 => ?_)
  have G := G.nx n0; have oo := oo.up; have zz := zz.up
  refine C_putr (i := 24) (x := 4) (y := 5) (ty := (.array .int)) G (by decide +kernel) (by decide +kernel) (by decide) (by decide) (by decide) (by decide) (Or.inr ⟨(by decide), hnm, rfl⟩) (by decide +kernel) rfl rfl (by decide) (by decide +kernel) (by decide) ?_
  have oo := oo.put (a := 100) (j := 5) (by decide) (by decide +kernel)
  refine C_aload_n (n := 0) (i := 0) (v := 100) G (by decide +kernel) rfl rfl ?_
  refine C_bipush (n := 8) (v := 8) G (by decide +kernel) rfl ?_
  have oo0 := oo; have zz0 := zz
  refine C_newi (x := 0) (N := 8) G (by decide +kernel) (by decide +kernel) (by decide +kernel) (by decide) hA rfl (by decide) (Nat.le_of_ble_eq_true rfl) (Nat.le_of_ble_eq_true rfl) rfl rfl (fun ad1 n1 => ?_)
  have G := G.nx n1; have oo := oo.up; have zz := zz.up
  refine C_putr (i := 28) (x := 4) (y := 6) (ty := (.array .int)) G (by decide +kernel) (by decide +kernel) (by decide) (by decide) (by decide) (by decide) (Or.inr ⟨(by decide), hnm, rfl⟩) (by decide +kernel) rfl rfl (by decide) (by decide +kernel) (by decide) ?_
  have oo := oo.put (a := 100) (j := 6) (by decide) (by decide +kernel)
  refine C_aload_n (n := 0) (i := 0) (v := 100) G (by decide +kernel) rfl rfl ?_
  refine C_bipush (n := 8) (v := 8) G (by decide +kernel) rfl ?_
  have oo0 := oo; have zz0 := zz
  refine C_newi (x := 0) (N := 8) G (by decide +kernel) (by decide +kernel) (by decide +kernel) (by decide) hA rfl (by decide) (Nat.le_of_ble_eq_true rfl) (Nat.le_of_ble_eq_true rfl) rfl rfl (fun ad2 n2 => ?_)
  have G := G.nx n2; have oo := oo.up; have zz := zz.up
  refine C_putr (i := 31) (x := 4) (y := 7) (ty := (.array .int)) G (by decide +kernel) (by decide +kernel) (by decide) (by decide) (by decide) (by decide) (Or.inr ⟨(by decide), hnm, rfl⟩) (by decide +kernel) rfl rfl (by decide) (by decide +kernel) (by decide) ?_
  have oo := oo.put (a := 100) (j := 7) (by decide) (by decide +kernel)
  refine C_aload_n (n := 0) (i := 0) (v := 100) G (by decide +kernel) rfl rfl ?_
  refine C_bipush (n := 8) (v := 8) G (by decide +kernel) rfl ?_
  have oo0 := oo; have zz0 := zz
  refine C_newi (x := 0) (N := 8) G (by decide +kernel) (by decide +kernel) (by decide +kernel) (by decide) hA rfl (by decide) (Nat.le_of_ble_eq_true rfl) (Nat.le_of_ble_eq_true rfl) rfl rfl (fun ad3 n3 => ?_)
  have G := G.nx n3; have oo := oo.up; have zz := zz.up
  refine C_putr (i := 34) (x := 4) (y := 8) (ty := (.array .int)) G (by decide +kernel) (by decide +kernel) (by decide) (by decide) (by decide) (by decide) (Or.inr ⟨(by decide), hnm, rfl⟩) (by decide +kernel) rfl rfl (by decide) (by decide +kernel) (by decide) ?_
  have oo := oo.put (a := 100) (j := 8) (by decide) (by decide +kernel)
  refine C_aload_n (n := 0) (i := 0) (v := 100) G (by decide +kernel) rfl rfl ?_
  refine C_bipush (n := 8) (v := 8) G (by decide +kernel) rfl ?_
  have oo0 := oo; have zz0 := zz
  refine C_newi (x := 0) (N := 8) G (by decide +kernel) (by decide +kernel) (by decide +kernel) (by decide) hA rfl (by decide) (Nat.le_of_ble_eq_true rfl) (Nat.le_of_ble_eq_true rfl) rfl rfl (fun ad4 n4 => ?_)
  have G := G.nx n4; have oo := oo.up; have zz := zz.up
  refine C_putr (i := 37) (x := 4) (y := 9) (ty := (.array .int)) G (by decide +kernel) (by decide +kernel) (by decide) (by decide) (by decide) (by decide) (Or.inr ⟨(by decide), hnm, rfl⟩) (by decide +kernel) rfl rfl (by decide) (by decide +kernel) (by decide) ?_
  have oo := oo.put (a := 100) (j := 9) (by decide) (by decide +kernel)
  refine C_aload_n (n := 0) (i := 0) (v := 100) G (by decide +kernel) rfl rfl ?_
  refine C_bipush (n := 8) (v := 8) G (by decide +kernel) rfl ?_
  have oo0 := oo; have zz0 := zz
  refine C_newi (x := 0) (N := 8) G (by decide +kernel) (by decide +kernel) (by decide +kernel) (by decide) hA rfl (by decide) (Nat.le_of_ble_eq_true rfl) (Nat.le_of_ble_eq_true rfl) rfl rfl (fun ad5 n5 => ?_)
  have G := G.nx n5; have oo := oo.up; have zz := zz.up
  refine C_putr (i := 40) (x := 4) (y := 10) (ty := (.array .int)) G (by decide +kernel) (by decide +kernel) (by decide) (by decide) (by decide) (by decide) (Or.inr ⟨(by decide), hnm, rfl⟩) (by decide +kernel) rfl rfl (by decide) (by decide +kernel) (by decide) ?_
  have oo := oo.put (a := 100) (j := 10) (by decide) (by decide +kernel)
  refine C_aload_n (n := 0) (i := 0) (v := 100) G (by decide +kernel) rfl rfl ?_
  refine C_bipush (n := 8) (v := 8) G (by decide +kernel) rfl ?_
  have oo0 := oo; have zz0 := zz
  refine C_newi (x := 0) (N := 8) G (by decide +kernel) (by decide +kernel) (by decide +kernel) (by decide) hA rfl (by decide) (Nat.le_of_ble_eq_true rfl) (Nat.le_of_ble_eq_true rfl) rfl rfl (fun ad6 n6 => ?_)
  have G := G.nx n6; have oo := oo.up; have zz := zz.up
  refine C_putr (i := 43) (x := 4) (y := 11) (ty := (.array .int)) G (by decide +kernel) (by decide +kernel) (by decide) (by decide) (by decide) (by decide) (Or.inr ⟨(by decide), hnm, rfl⟩) (by decide +kernel) rfl rfl (by decide) (by decide +kernel) (by decide) ?_
  have oo := oo.put (a := 100) (j := 11) (by decide) (by decide +kernel)
  refine C_aload_n (n := 0) (i := 0) (v := 100) G (by decide +kernel) rfl rfl ?_
  refine C_bipush (n := 40) (v := 40) G (by decide +kernel) rfl ?_
  have oo0 := oo; have zz0 := zz
  refine C_newi (x := 0) (N := 40) G (by decide +kernel) (by decide +kernel) (by decide +kernel) (by decide) hA rfl (by decide) (Nat.le_of_ble_eq_true rfl) (Nat.le_of_ble_eq_true rfl) rfl rfl (fun ad7 n7 => ?_)
  have G := G.nx n7; have oo := oo.up; have zz := zz.up
  refine C_putr (i := 46) (x := 4) (y := 12) (ty := (.array .int)) G (by decide +kernel) (by decide +kernel) (by decide) (by decide) (by decide) (by decide) (Or.inr ⟨(by decide), hnm, rfl⟩) (by decide +kernel) rfl rfl (by decide) (by decide +kernel) (by decide) ?_
  have oo := oo.put (a := 100) (j := 12) (by decide) (by decide +kernel)
  refine C_aload_n (n := 0) (i := 0) (v := 100) G (by decide +kernel) rfl rfl ?_
  refine C_iconst (n := 0) (v := 0) G (by decide +kernel) rfl ?_
  refine C_put0 (i := 49) (x := 4) (y := 13) (ty := .int) G (by decide +kernel) (by decide +kernel) (by decide) (by decide) (by decide) (by decide) (Or.inl (by decide)) (by decide +kernel) rfl rfl (Or.inl (by decide)) (hz 13) ?_
  refine C_aload_n (n := 0) (i := 0) (v := 100) G (by decide +kernel) rfl rfl ?_
  refine C_iconst (n := 0) (v := 0) G (by decide +kernel) rfl ?_
  refine C_put0 (i := 52) (x := 4) (y := 14) (ty := .int) G (by decide +kernel) (by decide +kernel) (by decide) (by decide) (by decide) (by decide) (Or.inl (by decide)) (by decide +kernel) rfl rfl (Or.inl (by decide)) (hz 14) ?_
  refine C_aload_n (n := 0) (i := 0) (v := 100) G (by decide +kernel) rfl rfl ?_
  refine C_aload_n (n := 1) (i := 1) (v := 5) G (by decide +kernel) rfl rfl ?_
  refine C_putr (i := 55) (x := 4) (y := 0) (ty := (.object "StatueRent$City")) G (by decide +kernel) (by decide +kernel) (by decide) (by decide) (by decide) (by decide) (Or.inr ⟨(by decide), hnm, rfl⟩) (by decide +kernel) rfl rfl (by decide) (by decide +kernel) (by decide) ?_
  have oo := oo.put (a := 100) (j := 0) (by decide) (by decide +kernel)
  exact C_ret (X0 := X) (ad := ad7) G hr hlk (((((((n0.tr n1 (by decide)).tr n2 (by decide)).tr n3 (by decide)).tr n4 (by decide)).tr n5 (by decide)).tr n6 (by decide)).tr n7 (by decide)) (by decide +kernel)
theorem OO_K_X4_init_109 {S : Nat → Nat → Bool} (oo : OkS 110 S) : OkS 118 (sU (sU (sU (sU (sU (sU (sU (sU (sU S 109 5) 109 6) 109 7) 109 8) 109 9) 109 10) 109 11) 109 12) 109 0) := (((((((((oo.up.put (a := 109) (j := 5) (by decide) (by decide +kernel)).up.put (a := 109) (j := 6) (by decide) (by decide +kernel)).up.put (a := 109) (j := 7) (by decide) (by decide +kernel)).up.put (a := 109) (j := 8) (by decide) (by decide +kernel)).up.put (a := 109) (j := 9) (by decide) (by decide +kernel)).up.put (a := 109) (j := 10) (by decide) (by decide +kernel)).up.put (a := 109) (j := 11) (by decide) (by decide +kernel)).up.put (a := 109) (j := 12) (by decide) (by decide +kernel)).put (a := 109) (j := 0) (by decide) (by decide +kernel))
theorem ZZ_K_X4_init_109 {u : Mm} (zz : ZrC 110 u) : ZrC 118 (u) := zz.up.up.up.up.up.up.up.up
set_option maxRecDepth 100000 in
theorem K_X4_init_109 {X : Xc} {d : Nat} {S : Nat → Nat → Bool} {u : Mm} (had : adOk X) (oo : OkS 110 S) (zz : ZrC 110 u) (hz : ∀ j, u.1 109 j = 0) : CK X (d + 1) yX4_init cX4_init 2 [.ref 109, .ref 5] u 110 S 8 96 (u) 118 (sU (sU (sU (sU (sU (sU (sU (sU (sU S 109 5) 109 6) 109 7) 109 8) 109 9) 109 10) 109 11) 109 12) 109 0) := by
  refine CK_of okK_X4_init rfl oo zz ?_
  intro p e s m args below meth c G hA hr hlk hnm
  have zz00 := zz
  refine C_aload_n (n := 0) (i := 0) (v := 109) G (by decide +kernel) rfl rfl ?_
  refine C_obj (i := 3) (a := 109) (r := []) G (by decide +kernel) (by decide +kernel) (by show 1 ≤ d + 1; omega) (by show 0 + 12 ≤ 64 * (d + 1); omega) ?_
  refine C_aload_n (n := 0) (i := 0) (v := 109) G (by decide +kernel) rfl rfl ?_
  refine C_iconst (n := 0) (v := 0) G (by decide +kernel) rfl ?_
  refine C_put0 (i := 9) (x := 4) (y := 1) (ty := .int) G (by decide +kernel) (by decide +kernel) (by decide) (by decide) (by decide) (by decide) (Or.inl (by decide)) (by decide +kernel) rfl rfl (Or.inl (by decide)) (hz 1) ?_
  refine C_aload_n (n := 0) (i := 0) (v := 109) G (by decide +kernel) rfl rfl ?_
  refine C_iconst (n := 0) (v := 0) G (by decide +kernel) rfl ?_
  refine C_put0 (i := 15) (x := 4) (y := 2) (ty := .int) G (by decide +kernel) (by decide +kernel) (by decide) (by decide) (by decide) (by decide) (Or.inl (by decide)) (by decide +kernel) rfl rfl (Or.inl (by decide)) (hz 2) ?_
  refine C_aload_n (n := 0) (i := 0) (v := 109) G (by decide +kernel) rfl rfl ?_
  refine C_iconst (n := 0) (v := 0) G (by decide +kernel) rfl ?_
  refine C_put0 (i := 18) (x := 4) (y := 3) (ty := .int) G (by decide +kernel) (by decide +kernel) (by decide) (by decide) (by decide) (by decide) (Or.inl (by decide)) (by decide +kernel) rfl rfl (Or.inl (by decide)) (hz 3) ?_
  refine C_aload_n (n := 0) (i := 0) (v := 109) G (by decide +kernel) rfl rfl ?_
  refine C_iconst (n := 0) (v := 0) G (by decide +kernel) rfl ?_
  refine C_put0 (i := 21) (x := 4) (y := 4) (ty := .int) G (by decide +kernel) (by decide +kernel) (by decide) (by decide) (by decide) (by decide) (Or.inl (by decide)) (by decide +kernel) rfl rfl (Or.inl (by decide)) (hz 4) ?_
  refine C_aload_n (n := 0) (i := 0) (v := 109) G (by decide +kernel) rfl rfl ?_
  refine C_bipush (n := 8) (v := 8) G (by decide +kernel) rfl ?_
  have oo0 := oo; have zz0 := zz
  refine C_newi (x := 0) (N := 8) G (by decide +kernel) (by decide +kernel) (by decide +kernel) (by decide) hA rfl (by decide) (Nat.le_of_ble_eq_true rfl) (Nat.le_of_ble_eq_true rfl) rfl rfl (fun ad0 n0 => ?_)
  have G := G.nx n0; have oo := oo.up; have zz := zz.up
  refine C_putr (i := 24) (x := 4) (y := 5) (ty := (.array .int)) G (by decide +kernel) (by decide +kernel) (by decide) (by decide) (by decide) (by decide) (Or.inr ⟨(by decide), hnm, rfl⟩) (by decide +kernel) rfl rfl (by decide) (by decide +kernel) (by decide) ?_
  have oo := oo.put (a := 109) (j := 5) (by decide) (by decide +kernel)
  refine C_aload_n (n := 0) (i := 0) (v := 109) G (by decide +kernel) rfl rfl ?_
  refine C_bipush (n := 8) (v := 8) G (by decide +kernel) rfl ?_
  have oo0 := oo; have zz0 := zz
  refine C_newi (x := 0) (N := 8) G (by decide +kernel) (by decide +kernel) (by decide +kernel) (by decide) hA rfl (by decide) (Nat.le_of_ble_eq_true rfl) (Nat.le_of_ble_eq_true rfl) rfl rfl (fun ad1 n1 => ?_)
  have G := G.nx n1; have oo := oo.up; have zz := zz.up
  refine C_putr (i := 28) (x := 4) (y := 6) (ty := (.array .int)) G (by decide +kernel) (by decide +kernel) (by decide) (by decide) (by decide) (by decide) (Or.inr ⟨(by decide), hnm, rfl⟩) (by decide +kernel) rfl rfl (by decide) (by decide +kernel) (by decide) ?_
  have oo := oo.put (a := 109) (j := 6) (by decide) (by decide +kernel)
  refine C_aload_n (n := 0) (i := 0) (v := 109) G (by decide +kernel) rfl rfl ?_
  refine C_bipush (n := 8) (v := 8) G (by decide +kernel) rfl ?_
  have oo0 := oo; have zz0 := zz
  refine C_newi (x := 0) (N := 8) G (by decide +kernel) (by decide +kernel) (by decide +kernel) (by decide) hA rfl (by decide) (Nat.le_of_ble_eq_true rfl) (Nat.le_of_ble_eq_true rfl) rfl rfl (fun ad2 n2 => ?_)
  have G := G.nx n2; have oo := oo.up; have zz := zz.up
  refine C_putr (i := 31) (x := 4) (y := 7) (ty := (.array .int)) G (by decide +kernel) (by decide +kernel) (by decide) (by decide) (by decide) (by decide) (Or.inr ⟨(by decide), hnm, rfl⟩) (by decide +kernel) rfl rfl (by decide) (by decide +kernel) (by decide) ?_
  have oo := oo.put (a := 109) (j := 7) (by decide) (by decide +kernel)
  refine C_aload_n (n := 0) (i := 0) (v := 109) G (by decide +kernel) rfl rfl ?_
  refine C_bipush (n := 8) (v := 8) G (by decide +kernel) rfl ?_
  have oo0 := oo; have zz0 := zz
  refine C_newi (x := 0) (N := 8) G (by decide +kernel) (by decide +kernel) (by decide +kernel) (by decide) hA rfl (by decide) (Nat.le_of_ble_eq_true rfl) (Nat.le_of_ble_eq_true rfl) rfl rfl (fun ad3 n3 => ?_)
  have G := G.nx n3; have oo := oo.up; have zz := zz.up
  refine C_putr (i := 34) (x := 4) (y := 8) (ty := (.array .int)) G (by decide +kernel) (by decide +kernel) (by decide) (by decide) (by decide) (by decide) (Or.inr ⟨(by decide), hnm, rfl⟩) (by decide +kernel) rfl rfl (by decide) (by decide +kernel) (by decide) ?_
  have oo := oo.put (a := 109) (j := 8) (by decide) (by decide +kernel)
  refine C_aload_n (n := 0) (i := 0) (v := 109) G (by decide +kernel) rfl rfl ?_
  refine C_bipush (n := 8) (v := 8) G (by decide +kernel) rfl ?_
  have oo0 := oo; have zz0 := zz
  refine C_newi (x := 0) (N := 8) G (by decide +kernel) (by decide +kernel) (by decide +kernel) (by decide) hA rfl (by decide) (Nat.le_of_ble_eq_true rfl) (Nat.le_of_ble_eq_true rfl) rfl rfl (fun ad4 n4 => ?_)
  have G := G.nx n4; have oo := oo.up; have zz := zz.up
  refine C_putr (i := 37) (x := 4) (y := 9) (ty := (.array .int)) G (by decide +kernel) (by decide +kernel) (by decide) (by decide) (by decide) (by decide) (Or.inr ⟨(by decide), hnm, rfl⟩) (by decide +kernel) rfl rfl (by decide) (by decide +kernel) (by decide) ?_
  have oo := oo.put (a := 109) (j := 9) (by decide) (by decide +kernel)
  refine C_aload_n (n := 0) (i := 0) (v := 109) G (by decide +kernel) rfl rfl ?_
  refine C_bipush (n := 8) (v := 8) G (by decide +kernel) rfl ?_
  have oo0 := oo; have zz0 := zz
  refine C_newi (x := 0) (N := 8) G (by decide +kernel) (by decide +kernel) (by decide +kernel) (by decide) hA rfl (by decide) (Nat.le_of_ble_eq_true rfl) (Nat.le_of_ble_eq_true rfl) rfl rfl (fun ad5 n5 => ?_)
  have G := G.nx n5; have oo := oo.up; have zz := zz.up
  refine C_putr (i := 40) (x := 4) (y := 10) (ty := (.array .int)) G (by decide +kernel) (by decide +kernel) (by decide) (by decide) (by decide) (by decide) (Or.inr ⟨(by decide), hnm, rfl⟩) (by decide +kernel) rfl rfl (by decide) (by decide +kernel) (by decide) ?_
  have oo := oo.put (a := 109) (j := 10) (by decide) (by decide +kernel)
  refine C_aload_n (n := 0) (i := 0) (v := 109) G (by decide +kernel) rfl rfl ?_
  refine C_bipush (n := 8) (v := 8) G (by decide +kernel) rfl ?_
  have oo0 := oo; have zz0 := zz
  refine C_newi (x := 0) (N := 8) G (by decide +kernel) (by decide +kernel) (by decide +kernel) (by decide) hA rfl (by decide) (Nat.le_of_ble_eq_true rfl) (Nat.le_of_ble_eq_true rfl) rfl rfl (fun ad6 n6 => ?_)
  have G := G.nx n6; have oo := oo.up; have zz := zz.up
  refine C_putr (i := 43) (x := 4) (y := 11) (ty := (.array .int)) G (by decide +kernel) (by decide +kernel) (by decide) (by decide) (by decide) (by decide) (Or.inr ⟨(by decide), hnm, rfl⟩) (by decide +kernel) rfl rfl (by decide) (by decide +kernel) (by decide) ?_
  have oo := oo.put (a := 109) (j := 11) (by decide) (by decide +kernel)
  refine C_aload_n (n := 0) (i := 0) (v := 109) G (by decide +kernel) rfl rfl ?_
  refine C_bipush (n := 40) (v := 40) G (by decide +kernel) rfl ?_
  have oo0 := oo; have zz0 := zz
  refine C_newi (x := 0) (N := 40) G (by decide +kernel) (by decide +kernel) (by decide +kernel) (by decide) hA rfl (by decide) (Nat.le_of_ble_eq_true rfl) (Nat.le_of_ble_eq_true rfl) rfl rfl (fun ad7 n7 => ?_)
  have G := G.nx n7; have oo := oo.up; have zz := zz.up
  refine C_putr (i := 46) (x := 4) (y := 12) (ty := (.array .int)) G (by decide +kernel) (by decide +kernel) (by decide) (by decide) (by decide) (by decide) (Or.inr ⟨(by decide), hnm, rfl⟩) (by decide +kernel) rfl rfl (by decide) (by decide +kernel) (by decide) ?_
  have oo := oo.put (a := 109) (j := 12) (by decide) (by decide +kernel)
  refine C_aload_n (n := 0) (i := 0) (v := 109) G (by decide +kernel) rfl rfl ?_
  refine C_iconst (n := 0) (v := 0) G (by decide +kernel) rfl ?_
  refine C_put0 (i := 49) (x := 4) (y := 13) (ty := .int) G (by decide +kernel) (by decide +kernel) (by decide) (by decide) (by decide) (by decide) (Or.inl (by decide)) (by decide +kernel) rfl rfl (Or.inl (by decide)) (hz 13) ?_
  refine C_aload_n (n := 0) (i := 0) (v := 109) G (by decide +kernel) rfl rfl ?_
  refine C_iconst (n := 0) (v := 0) G (by decide +kernel) rfl ?_
  refine C_put0 (i := 52) (x := 4) (y := 14) (ty := .int) G (by decide +kernel) (by decide +kernel) (by decide) (by decide) (by decide) (by decide) (Or.inl (by decide)) (by decide +kernel) rfl rfl (Or.inl (by decide)) (hz 14) ?_
  refine C_aload_n (n := 0) (i := 0) (v := 109) G (by decide +kernel) rfl rfl ?_
  refine C_aload_n (n := 1) (i := 1) (v := 5) G (by decide +kernel) rfl rfl ?_
  refine C_putr (i := 55) (x := 4) (y := 0) (ty := (.object "StatueRent$City")) G (by decide +kernel) (by decide +kernel) (by decide) (by decide) (by decide) (by decide) (Or.inr ⟨(by decide), hnm, rfl⟩) (by decide +kernel) rfl rfl (by decide) (by decide +kernel) (by decide) ?_
  have oo := oo.put (a := 109) (j := 0) (by decide) (by decide +kernel)
  exact C_ret (X0 := X) (ad := ad7) G hr hlk (((((((n0.tr n1 (by decide)).tr n2 (by decide)).tr n3 (by decide)).tr n4 (by decide)).tr n5 (by decide)).tr n6 (by decide)).tr n7 (by decide)) (by decide +kernel)
theorem OO_K_X6_init_44 {S : Nat → Nat → Bool} (oo : OkS 45 S) : OkS 118 (sU (sU (sU (sU (sU (sU (sU (sU (sU (sU (sU (sU (sU (sU (sU (sU (sU (sU (sU (sU (sU (sU (sU (sU (sU (sU (sU (sU (sU (sU (sU (sU (sU (sU (sU (sU (sU (sU (sU (sU (sU (sU (sU (sU (sU (sU (sU (sU (sU (sU (sU (sU (sU (sU (sU (sU (sU (sU (sU (sU (sU (sU (sU (sU (sU (sU (sU (sU (sU (sU (sU (sU (sU (sU (sU (sU (sU (sU (sU (sU (sU (sU S 44 1) 44 0) 46 5) 46 6) 46 7) 46 8) 46 9) 46 10) 46 11) 46 12) 46 0) 45 0) 55 5) 55 6) 55 7) 55 8) 55 9) 55 10) 55 11) 55 12) 55 0) 45 1) 64 5) 64 6) 64 7) 64 8) 64 9) 64 10) 64 11) 64 12) 64 0) 45 2) 73 5) 73 6) 73 7) 73 8) 73 9) 73 10) 73 11) 73 12) 73 0) 45 3) 82 5) 82 6) 82 7) 82 8) 82 9) 82 10) 82 11) 82 12) 82 0) 45 4) 91 5) 91 6) 91 7) 91 8) 91 9) 91 10) 91 11) 91 12) 91 0) 45 5) 100 5) 100 6) 100 7) 100 8) 100 9) 100 10) 100 11) 100 12) 100 0) 45 6) 109 5) 109 6) 109 7) 109 8) 109 9) 109 10) 109 11) 109 12) 109 0) 45 7) := ((OO_K_X4_init_109 ((OO_K_X4_init_100 ((OO_K_X4_init_91 ((OO_K_X4_init_82 ((OO_K_X4_init_73 ((OO_K_X4_init_64 ((OO_K_X4_init_55 ((OO_K_X4_init_46 ((oo.up.put (a := 44) (j := 1) (by decide) (by decide +kernel)).put (a := 44) (j := 0) (by decide) (by decide +kernel)).up).put (a := 45) (j := 0) (by decide) (by decide +kernel)).up).put (a := 45) (j := 1) (by decide) (by decide +kernel)).up).put (a := 45) (j := 2) (by decide) (by decide +kernel)).up).put (a := 45) (j := 3) (by decide) (by decide +kernel)).up).put (a := 45) (j := 4) (by decide) (by decide +kernel)).up).put (a := 45) (j := 5) (by decide) (by decide +kernel)).up).put (a := 45) (j := 6) (by decide) (by decide +kernel)).up).put (a := 45) (j := 7) (by decide) (by decide +kernel))
theorem ZZ_K_X6_init_44 {u : Mm} (zz : ZrC 45 u) : ZrC 118 (u) := (ZZ_K_X4_init_109 (ZZ_K_X4_init_100 (ZZ_K_X4_init_91 (ZZ_K_X4_init_82 (ZZ_K_X4_init_73 (ZZ_K_X4_init_64 (ZZ_K_X4_init_55 (ZZ_K_X4_init_46 zz.up.up).up).up).up).up).up).up).up)
set_option maxRecDepth 100000 in
theorem K_X6_init_44 {X : Xc} {d : Nat} {S : Nat → Nat → Bool} {u : Mm} (had : adOk X) (oo : OkS 45 S) (zz : ZrC 45 u) (hz : ∀ j, u.1 44 j = 0) (hs_20_0 : S 20 0 = true) : CK X (d + 2) yX6_init cX6_init 3 [.ref 44, .ref 20] u 45 S 73 896 (u) 118 (sU (sU (sU (sU (sU (sU (sU (sU (sU (sU (sU (sU (sU (sU (sU (sU (sU (sU (sU (sU (sU (sU (sU (sU (sU (sU (sU (sU (sU (sU (sU (sU (sU (sU (sU (sU (sU (sU (sU (sU (sU (sU (sU (sU (sU (sU (sU (sU (sU (sU (sU (sU (sU (sU (sU (sU (sU (sU (sU (sU (sU (sU (sU (sU (sU (sU (sU (sU (sU (sU (sU (sU (sU (sU (sU (sU (sU (sU (sU (sU (sU (sU S 44 1) 44 0) 46 5) 46 6) 46 7) 46 8) 46 9) 46 10) 46 11) 46 12) 46 0) 45 0) 55 5) 55 6) 55 7) 55 8) 55 9) 55 10) 55 11) 55 12) 55 0) 45 1) 64 5) 64 6) 64 7) 64 8) 64 9) 64 10) 64 11) 64 12) 64 0) 45 2) 73 5) 73 6) 73 7) 73 8) 73 9) 73 10) 73 11) 73 12) 73 0) 45 3) 82 5) 82 6) 82 7) 82 8) 82 9) 82 10) 82 11) 82 12) 82 0) 45 4) 91 5) 91 6) 91 7) 91 8) 91 9) 91 10) 91 11) 91 12) 91 0) 45 5) 100 5) 100 6) 100 7) 100 8) 100 9) 100 10) 100 11) 100 12) 100 0) 45 6) 109 5) 109 6) 109 7) 109 8) 109 9) 109 10) 109 11) 109 12) 109 0) 45 7) := by
  refine CK_of okK_X6_init rfl oo zz ?_
  intro p e s m args below meth c G hA hr hlk hnm
  have zz00 := zz
  refine C_aload_n (n := 0) (i := 0) (v := 44) G (by decide +kernel) rfl rfl ?_
  refine C_obj (i := 3) (a := 44) (r := []) G (by decide +kernel) (by decide +kernel) (by show 1 ≤ d + 2; omega) (by show 0 + 12 ≤ 64 * (d + 2); omega) ?_
  refine C_aload_n (n := 0) (i := 0) (v := 44) G (by decide +kernel) rfl rfl ?_
  refine C_bipush (n := 8) (v := 8) G (by decide +kernel) rfl ?_
  refine C_anewL (i := 9) (N := 8) G (by decide +kernel) (by decide +kernel) (by decide +kernel) (by decide) hA rfl (by decide) (Nat.le_of_ble_eq_true rfl) (Nat.le_of_ble_eq_true rfl) rfl rfl (fun ad0 n0 => ?_)
  have G := G.nx n0; have oo := oo.up; have zz := zz.up
  refine C_putr (i := 11) (x := 6) (y := 1) (ty := (.array (.object "StatueRent$Life"))) G (by decide +kernel) (by decide +kernel) (by decide) (by decide) (by decide) (by decide) (Or.inr ⟨(by decide), hnm, rfl⟩) (by decide +kernel) rfl rfl (by decide) (by decide +kernel) (by decide) ?_
  have oo := oo.put (a := 44) (j := 1) (by decide) (by decide +kernel)
  refine C_aload_n (n := 0) (i := 0) (v := 44) G (by decide +kernel) rfl rfl ?_
  refine C_iconst (n := 0) (v := 0) G (by decide +kernel) rfl ?_
  refine C_put0 (i := 17) (x := 6) (y := 2) (ty := .int) G (by decide +kernel) (by decide +kernel) (by decide) (by decide) (by decide) (by decide) (Or.inl (by decide)) (by decide +kernel) rfl rfl (Or.inl (by decide)) (hz 2) ?_
  refine C_aload_n (n := 0) (i := 0) (v := 44) G (by decide +kernel) rfl rfl ?_
  refine C_iconst (n := 0) (v := 0) G (by decide +kernel) rfl ?_
  refine C_put0 (i := 21) (x := 6) (y := 3) (ty := .int) G (by decide +kernel) (by decide +kernel) (by decide) (by decide) (by decide) (by decide) (Or.inl (by decide)) (by decide +kernel) rfl rfl (Or.inl (by decide)) (hz 3) ?_
  refine C_aload_n (n := 0) (i := 0) (v := 44) G (by decide +kernel) rfl rfl ?_
  refine C_aload_n (n := 1) (i := 1) (v := 20) G (by decide +kernel) rfl rfl ?_
  refine C_putr (i := 24) (x := 6) (y := 0) (ty := (.object "StatueRent$Life")) G (by decide +kernel) (by decide +kernel) (by decide) (by decide) (by decide) (by decide) (Or.inr ⟨(by decide), hnm, rfl⟩) (by decide +kernel) rfl rfl (by decide) (by decide +kernel) (by decide) ?_
  have oo := oo.put (a := 44) (j := 0) (by decide) (by decide +kernel)
  refine C_iconst (n := 0) (v := 0) G (by decide +kernel) rfl ?_
  refine C_istore_n (n := 2) (i := 2) (v := 0) G (by decide +kernel) rfl (by decide) rfl ?_
  refine C_iload_n (n := 2) (i := 2) (v := 0) G (by decide +kernel) rfl rfl ?_
  refine C_bipush (n := 8) (v := 8) G (by decide +kernel) rfl ?_
  refine C_ic_ge (off := 26) (x := 59) G (by decide +kernel) (by decide) ⟨fun z => absurd z (by decide), fun _ => ?_⟩
  refine C_aload_n (n := 0) (i := 0) (v := 44) G (by decide +kernel) rfl rfl ?_
  refine C_getf (i := 11) (x := 6) (y := 1) (v := .ref 45) G (by decide +kernel) (by decide +kernel) (by decide) (by decide) (by decide) rfl ?_
  refine C_iload_n (n := 2) (i := 2) (v := 0) G (by decide +kernel) rfl rfl ?_
  have hz46 : ∀ j, u.1 46 j = 0 := fun j => congrFun (zz 46 (Nat.le_refl _)).1 j
  have hy46 : ∀ j, u.2 46 j = 0 := fun j => congrFun (zz 46 (Nat.le_refl _)).2 j
  refine C_new (i := 9) (x := 4) G (by decide +kernel) (by decide +kernel) (by decide) (by decide) ⟨(by decide +kernel), (by decide +kernel), (by decide +kernel)⟩ hA (Nat.le_of_ble_eq_true rfl) (Nat.le_of_ble_eq_true rfl) rfl rfl (fun ad1 n1 => ?_)
  have G := G.nx n1; have oo := oo.up; have zz := zz.up
  refine C_dup_r G (by decide +kernel) ?_
  refine C_aload_n (n := 1) (i := 1) (v := 20) G (by decide +kernel) rfl rfl ?_
  refine C_getfN (v := .ref 5) G (by decide +kernel) (by decide) (by decide) (by show (if (sU (sU S 44 1) 44 0) 20 0 = true then Value.ref _ else Value.null) = _; rw [if_pos (show (sU (sU S 44 1) 44 0) 20 0 = true from hs_20_0)]; rfl) ?_
  refine C_call (y := yX4_init) (bytes := cX4_init) (maxL := 2) (i := 32) (d := d + 1) (a := 46) (as := [.ref 5]) (r := [.ref 46, .int 0, .ref 45]) G okK_X4_init ⟨rfl, (by decide +kernel)⟩ (by decide +kernel) (Nat.le_refl _) (Nat.le_refl _) ⟨Nat.le_of_ble_eq_true rfl, Nat.le_of_ble_eq_true rfl⟩ hA (K_X4_init_46 (d := d) G.ad oo zz hz46) rfl (by decide) (by decide +kernel) rfl rfl OO_K_X4_init_46 ZZ_K_X4_init_46 (fun ad2 n2 => ?_)
  have G := G.nx n2; have oo := OO_K_X4_init_46 oo; have zz := ZZ_K_X4_init_46 zz
  refine C_aastj (a := 45) (b := 46) (t := 1) (n := 8) (x := 4) (j := 0) G rfl (by decide +kernel) (by decide) (by decide) (by decide) (by decide +kernel) (by decide) (Or.inr ⟨rfl, rfl⟩) (vpd rfl) (by decide +kernel) ?_
  have oo := oo.put (a := 45) (j := 0) (by decide) (by decide +kernel)
  refine C_iinc (i := 2) (n := 1) (x := 0) (k := 1) G (by decide +kernel) rfl rfl (by decide) rfl ?_
  refine C_goto (off := -26) (x := 30) G (by decide +kernel) (by decide) ?_
  refine C_iload_n (n := 2) (i := 2) (v := 1) G (by decide +kernel) rfl rfl ?_
  refine C_bipush (n := 8) (v := 8) G (by decide +kernel) rfl ?_
  refine C_ic_ge (off := 26) (x := 59) G (by decide +kernel) (by decide) ⟨fun z => absurd z (by decide), fun _ => ?_⟩
  refine C_aload_n (n := 0) (i := 0) (v := 44) G (by decide +kernel) rfl rfl ?_
  refine C_getf (i := 11) (x := 6) (y := 1) (v := .ref 45) G (by decide +kernel) (by decide +kernel) (by decide) (by decide) (by decide) rfl ?_
  refine C_iload_n (n := 2) (i := 2) (v := 1) G (by decide +kernel) rfl rfl ?_
  have hz55 : ∀ j, u.1 55 j = 0 := fun j => congrFun (zz 55 (Nat.le_refl _)).1 j
  have hy55 : ∀ j, u.2 55 j = 0 := fun j => congrFun (zz 55 (Nat.le_refl _)).2 j
  refine C_new (i := 9) (x := 4) G (by decide +kernel) (by decide +kernel) (by decide) (by decide) ⟨(by decide +kernel), (by decide +kernel), (by decide +kernel)⟩ hA (Nat.le_of_ble_eq_true rfl) (Nat.le_of_ble_eq_true rfl) rfl rfl (fun ad3 n3 => ?_)
  have G := G.nx n3; have oo := oo.up; have zz := zz.up
  refine C_dup_r G (by decide +kernel) ?_
  refine C_aload_n (n := 1) (i := 1) (v := 20) G (by decide +kernel) rfl rfl ?_
  refine C_getfN (v := .ref 5) G (by decide +kernel) (by decide) (by decide) (by show (if (sU (sU (sU (sU (sU (sU (sU (sU (sU (sU (sU (sU S 44 1) 44 0) 46 5) 46 6) 46 7) 46 8) 46 9) 46 10) 46 11) 46 12) 46 0) 45 0) 20 0 = true then Value.ref _ else Value.null) = _; rw [if_pos (show (sU (sU (sU (sU (sU (sU (sU (sU (sU (sU (sU (sU S 44 1) 44 0) 46 5) 46 6) 46 7) 46 8) 46 9) 46 10) 46 11) 46 12) 46 0) 45 0) 20 0 = true from hs_20_0)]; rfl) ?_
  refine C_call (y := yX4_init) (bytes := cX4_init) (maxL := 2) (i := 32) (d := d + 1) (a := 55) (as := [.ref 5]) (r := [.ref 55, .int 1, .ref 45]) G okK_X4_init ⟨rfl, (by decide +kernel)⟩ (by decide +kernel) (Nat.le_refl _) (Nat.le_refl _) ⟨Nat.le_of_ble_eq_true rfl, Nat.le_of_ble_eq_true rfl⟩ hA (K_X4_init_55 (d := d) G.ad oo zz hz55) rfl (by decide) (by decide +kernel) rfl rfl OO_K_X4_init_55 ZZ_K_X4_init_55 (fun ad4 n4 => ?_)
  have G := G.nx n4; have oo := OO_K_X4_init_55 oo; have zz := ZZ_K_X4_init_55 zz
  refine C_aastj (a := 45) (b := 55) (t := 1) (n := 8) (x := 4) (j := 1) G rfl (by decide +kernel) (by decide) (by decide) (by decide) (by decide +kernel) (by decide) (Or.inr ⟨rfl, rfl⟩) (vpd rfl) (by decide +kernel) ?_
  have oo := oo.put (a := 45) (j := 1) (by decide) (by decide +kernel)
  refine C_iinc (i := 2) (n := 1) (x := 1) (k := 1) G (by decide +kernel) rfl rfl (by decide) rfl ?_
  refine C_goto (off := -26) (x := 30) G (by decide +kernel) (by decide) ?_
  refine C_iload_n (n := 2) (i := 2) (v := 2) G (by decide +kernel) rfl rfl ?_
  refine C_bipush (n := 8) (v := 8) G (by decide +kernel) rfl ?_
  refine C_ic_ge (off := 26) (x := 59) G (by decide +kernel) (by decide) ⟨fun z => absurd z (by decide), fun _ => ?_⟩
  refine C_aload_n (n := 0) (i := 0) (v := 44) G (by decide +kernel) rfl rfl ?_
  refine C_getf (i := 11) (x := 6) (y := 1) (v := .ref 45) G (by decide +kernel) (by decide +kernel) (by decide) (by decide) (by decide) rfl ?_
  refine C_iload_n (n := 2) (i := 2) (v := 2) G (by decide +kernel) rfl rfl ?_
  have hz64 : ∀ j, u.1 64 j = 0 := fun j => congrFun (zz 64 (Nat.le_refl _)).1 j
  have hy64 : ∀ j, u.2 64 j = 0 := fun j => congrFun (zz 64 (Nat.le_refl _)).2 j
  refine C_new (i := 9) (x := 4) G (by decide +kernel) (by decide +kernel) (by decide) (by decide) ⟨(by decide +kernel), (by decide +kernel), (by decide +kernel)⟩ hA (Nat.le_of_ble_eq_true rfl) (Nat.le_of_ble_eq_true rfl) rfl rfl (fun ad5 n5 => ?_)
  have G := G.nx n5; have oo := oo.up; have zz := zz.up
  refine C_dup_r G (by decide +kernel) ?_
  refine C_aload_n (n := 1) (i := 1) (v := 20) G (by decide +kernel) rfl rfl ?_
  refine C_getfN (v := .ref 5) G (by decide +kernel) (by decide) (by decide) (by show (if (sU (sU (sU (sU (sU (sU (sU (sU (sU (sU (sU (sU (sU (sU (sU (sU (sU (sU (sU (sU (sU (sU S 44 1) 44 0) 46 5) 46 6) 46 7) 46 8) 46 9) 46 10) 46 11) 46 12) 46 0) 45 0) 55 5) 55 6) 55 7) 55 8) 55 9) 55 10) 55 11) 55 12) 55 0) 45 1) 20 0 = true then Value.ref _ else Value.null) = _; rw [if_pos (show (sU (sU (sU (sU (sU (sU (sU (sU (sU (sU (sU (sU (sU (sU (sU (sU (sU (sU (sU (sU (sU (sU S 44 1) 44 0) 46 5) 46 6) 46 7) 46 8) 46 9) 46 10) 46 11) 46 12) 46 0) 45 0) 55 5) 55 6) 55 7) 55 8) 55 9) 55 10) 55 11) 55 12) 55 0) 45 1) 20 0 = true from hs_20_0)]; rfl) ?_
  refine C_call (y := yX4_init) (bytes := cX4_init) (maxL := 2) (i := 32) (d := d + 1) (a := 64) (as := [.ref 5]) (r := [.ref 64, .int 2, .ref 45]) G okK_X4_init ⟨rfl, (by decide +kernel)⟩ (by decide +kernel) (Nat.le_refl _) (Nat.le_refl _) ⟨Nat.le_of_ble_eq_true rfl, Nat.le_of_ble_eq_true rfl⟩ hA (K_X4_init_64 (d := d) G.ad oo zz hz64) rfl (by decide) (by decide +kernel) rfl rfl OO_K_X4_init_64 ZZ_K_X4_init_64 (fun ad6 n6 => ?_)
  have G := G.nx n6; have oo := OO_K_X4_init_64 oo; have zz := ZZ_K_X4_init_64 zz
  refine C_aastj (a := 45) (b := 64) (t := 1) (n := 8) (x := 4) (j := 2) G rfl (by decide +kernel) (by decide) (by decide) (by decide) (by decide +kernel) (by decide) (Or.inr ⟨rfl, rfl⟩) (vpd rfl) (by decide +kernel) ?_
  have oo := oo.put (a := 45) (j := 2) (by decide) (by decide +kernel)
  refine C_iinc (i := 2) (n := 1) (x := 2) (k := 1) G (by decide +kernel) rfl rfl (by decide) rfl ?_
  refine C_goto (off := -26) (x := 30) G (by decide +kernel) (by decide) ?_
  refine C_iload_n (n := 2) (i := 2) (v := 3) G (by decide +kernel) rfl rfl ?_
  refine C_bipush (n := 8) (v := 8) G (by decide +kernel) rfl ?_
  refine C_ic_ge (off := 26) (x := 59) G (by decide +kernel) (by decide) ⟨fun z => absurd z (by decide), fun _ => ?_⟩
  refine C_aload_n (n := 0) (i := 0) (v := 44) G (by decide +kernel) rfl rfl ?_
  refine C_getf (i := 11) (x := 6) (y := 1) (v := .ref 45) G (by decide +kernel) (by decide +kernel) (by decide) (by decide) (by decide) rfl ?_
  refine C_iload_n (n := 2) (i := 2) (v := 3) G (by decide +kernel) rfl rfl ?_
  have hz73 : ∀ j, u.1 73 j = 0 := fun j => congrFun (zz 73 (Nat.le_refl _)).1 j
  have hy73 : ∀ j, u.2 73 j = 0 := fun j => congrFun (zz 73 (Nat.le_refl _)).2 j
  refine C_new (i := 9) (x := 4) G (by decide +kernel) (by decide +kernel) (by decide) (by decide) ⟨(by decide +kernel), (by decide +kernel), (by decide +kernel)⟩ hA (Nat.le_of_ble_eq_true rfl) (Nat.le_of_ble_eq_true rfl) rfl rfl (fun ad7 n7 => ?_)
  have G := G.nx n7; have oo := oo.up; have zz := zz.up
  refine C_dup_r G (by decide +kernel) ?_
  refine C_aload_n (n := 1) (i := 1) (v := 20) G (by decide +kernel) rfl rfl ?_
  refine C_getfN (v := .ref 5) G (by decide +kernel) (by decide) (by decide) (by show (if (sU (sU (sU (sU (sU (sU (sU (sU (sU (sU (sU (sU (sU (sU (sU (sU (sU (sU (sU (sU (sU (sU (sU (sU (sU (sU (sU (sU (sU (sU (sU (sU S 44 1) 44 0) 46 5) 46 6) 46 7) 46 8) 46 9) 46 10) 46 11) 46 12) 46 0) 45 0) 55 5) 55 6) 55 7) 55 8) 55 9) 55 10) 55 11) 55 12) 55 0) 45 1) 64 5) 64 6) 64 7) 64 8) 64 9) 64 10) 64 11) 64 12) 64 0) 45 2) 20 0 = true then Value.ref _ else Value.null) = _; rw [if_pos (show (sU (sU (sU (sU (sU (sU (sU (sU (sU (sU (sU (sU (sU (sU (sU (sU (sU (sU (sU (sU (sU (sU (sU (sU (sU (sU (sU (sU (sU (sU (sU (sU S 44 1) 44 0) 46 5) 46 6) 46 7) 46 8) 46 9) 46 10) 46 11) 46 12) 46 0) 45 0) 55 5) 55 6) 55 7) 55 8) 55 9) 55 10) 55 11) 55 12) 55 0) 45 1) 64 5) 64 6) 64 7) 64 8) 64 9) 64 10) 64 11) 64 12) 64 0) 45 2) 20 0 = true from hs_20_0)]; rfl) ?_
  refine C_call (y := yX4_init) (bytes := cX4_init) (maxL := 2) (i := 32) (d := d + 1) (a := 73) (as := [.ref 5]) (r := [.ref 73, .int 3, .ref 45]) G okK_X4_init ⟨rfl, (by decide +kernel)⟩ (by decide +kernel) (Nat.le_refl _) (Nat.le_refl _) ⟨Nat.le_of_ble_eq_true rfl, Nat.le_of_ble_eq_true rfl⟩ hA (K_X4_init_73 (d := d) G.ad oo zz hz73) rfl (by decide) (by decide +kernel) rfl rfl OO_K_X4_init_73 ZZ_K_X4_init_73 (fun ad8 n8 => ?_)
  have G := G.nx n8; have oo := OO_K_X4_init_73 oo; have zz := ZZ_K_X4_init_73 zz
  refine C_aastj (a := 45) (b := 73) (t := 1) (n := 8) (x := 4) (j := 3) G rfl (by decide +kernel) (by decide) (by decide) (by decide) (by decide +kernel) (by decide) (Or.inr ⟨rfl, rfl⟩) (vpd rfl) (by decide +kernel) ?_
  have oo := oo.put (a := 45) (j := 3) (by decide) (by decide +kernel)
  refine C_iinc (i := 2) (n := 1) (x := 3) (k := 1) G (by decide +kernel) rfl rfl (by decide) rfl ?_
  refine C_goto (off := -26) (x := 30) G (by decide +kernel) (by decide) ?_
  refine C_iload_n (n := 2) (i := 2) (v := 4) G (by decide +kernel) rfl rfl ?_
  refine C_bipush (n := 8) (v := 8) G (by decide +kernel) rfl ?_
  refine C_ic_ge (off := 26) (x := 59) G (by decide +kernel) (by decide) ⟨fun z => absurd z (by decide), fun _ => ?_⟩
  refine C_aload_n (n := 0) (i := 0) (v := 44) G (by decide +kernel) rfl rfl ?_
  refine C_getf (i := 11) (x := 6) (y := 1) (v := .ref 45) G (by decide +kernel) (by decide +kernel) (by decide) (by decide) (by decide) rfl ?_
  refine C_iload_n (n := 2) (i := 2) (v := 4) G (by decide +kernel) rfl rfl ?_
  have hz82 : ∀ j, u.1 82 j = 0 := fun j => congrFun (zz 82 (Nat.le_refl _)).1 j
  have hy82 : ∀ j, u.2 82 j = 0 := fun j => congrFun (zz 82 (Nat.le_refl _)).2 j
  refine C_new (i := 9) (x := 4) G (by decide +kernel) (by decide +kernel) (by decide) (by decide) ⟨(by decide +kernel), (by decide +kernel), (by decide +kernel)⟩ hA (Nat.le_of_ble_eq_true rfl) (Nat.le_of_ble_eq_true rfl) rfl rfl (fun ad9 n9 => ?_)
  have G := G.nx n9; have oo := oo.up; have zz := zz.up
  refine C_dup_r G (by decide +kernel) ?_
  refine C_aload_n (n := 1) (i := 1) (v := 20) G (by decide +kernel) rfl rfl ?_
  refine C_getfN (v := .ref 5) G (by decide +kernel) (by decide) (by decide) (by show (if (sU (sU (sU (sU (sU (sU (sU (sU (sU (sU (sU (sU (sU (sU (sU (sU (sU (sU (sU (sU (sU (sU (sU (sU (sU (sU (sU (sU (sU (sU (sU (sU (sU (sU (sU (sU (sU (sU (sU (sU (sU (sU S 44 1) 44 0) 46 5) 46 6) 46 7) 46 8) 46 9) 46 10) 46 11) 46 12) 46 0) 45 0) 55 5) 55 6) 55 7) 55 8) 55 9) 55 10) 55 11) 55 12) 55 0) 45 1) 64 5) 64 6) 64 7) 64 8) 64 9) 64 10) 64 11) 64 12) 64 0) 45 2) 73 5) 73 6) 73 7) 73 8) 73 9) 73 10) 73 11) 73 12) 73 0) 45 3) 20 0 = true then Value.ref _ else Value.null) = _; rw [if_pos (show (sU (sU (sU (sU (sU (sU (sU (sU (sU (sU (sU (sU (sU (sU (sU (sU (sU (sU (sU (sU (sU (sU (sU (sU (sU (sU (sU (sU (sU (sU (sU (sU (sU (sU (sU (sU (sU (sU (sU (sU (sU (sU S 44 1) 44 0) 46 5) 46 6) 46 7) 46 8) 46 9) 46 10) 46 11) 46 12) 46 0) 45 0) 55 5) 55 6) 55 7) 55 8) 55 9) 55 10) 55 11) 55 12) 55 0) 45 1) 64 5) 64 6) 64 7) 64 8) 64 9) 64 10) 64 11) 64 12) 64 0) 45 2) 73 5) 73 6) 73 7) 73 8) 73 9) 73 10) 73 11) 73 12) 73 0) 45 3) 20 0 = true from hs_20_0)]; rfl) ?_
  refine C_call (y := yX4_init) (bytes := cX4_init) (maxL := 2) (i := 32) (d := d + 1) (a := 82) (as := [.ref 5]) (r := [.ref 82, .int 4, .ref 45]) G okK_X4_init ⟨rfl, (by decide +kernel)⟩ (by decide +kernel) (Nat.le_refl _) (Nat.le_refl _) ⟨Nat.le_of_ble_eq_true rfl, Nat.le_of_ble_eq_true rfl⟩ hA (K_X4_init_82 (d := d) G.ad oo zz hz82) rfl (by decide) (by decide +kernel) rfl rfl OO_K_X4_init_82 ZZ_K_X4_init_82 (fun ad10 n10 => ?_)
  have G := G.nx n10; have oo := OO_K_X4_init_82 oo; have zz := ZZ_K_X4_init_82 zz
  refine C_aastj (a := 45) (b := 82) (t := 1) (n := 8) (x := 4) (j := 4) G rfl (by decide +kernel) (by decide) (by decide) (by decide) (by decide +kernel) (by decide) (Or.inr ⟨rfl, rfl⟩) (vpd rfl) (by decide +kernel) ?_
  have oo := oo.put (a := 45) (j := 4) (by decide) (by decide +kernel)
  refine C_iinc (i := 2) (n := 1) (x := 4) (k := 1) G (by decide +kernel) rfl rfl (by decide) rfl ?_
  refine C_goto (off := -26) (x := 30) G (by decide +kernel) (by decide) ?_
  refine C_iload_n (n := 2) (i := 2) (v := 5) G (by decide +kernel) rfl rfl ?_
  refine C_bipush (n := 8) (v := 8) G (by decide +kernel) rfl ?_
  refine C_ic_ge (off := 26) (x := 59) G (by decide +kernel) (by decide) ⟨fun z => absurd z (by decide), fun _ => ?_⟩
  refine C_aload_n (n := 0) (i := 0) (v := 44) G (by decide +kernel) rfl rfl ?_
  refine C_getf (i := 11) (x := 6) (y := 1) (v := .ref 45) G (by decide +kernel) (by decide +kernel) (by decide) (by decide) (by decide) rfl ?_
  refine C_iload_n (n := 2) (i := 2) (v := 5) G (by decide +kernel) rfl rfl ?_
  have hz91 : ∀ j, u.1 91 j = 0 := fun j => congrFun (zz 91 (Nat.le_refl _)).1 j
  have hy91 : ∀ j, u.2 91 j = 0 := fun j => congrFun (zz 91 (Nat.le_refl _)).2 j
  refine C_new (i := 9) (x := 4) G (by decide +kernel) (by decide +kernel) (by decide) (by decide) ⟨(by decide +kernel), (by decide +kernel), (by decide +kernel)⟩ hA (Nat.le_of_ble_eq_true rfl) (Nat.le_of_ble_eq_true rfl) rfl rfl (fun ad11 n11 => ?_)
  have G := G.nx n11; have oo := oo.up; have zz := zz.up
  refine C_dup_r G (by decide +kernel) ?_
  refine C_aload_n (n := 1) (i := 1) (v := 20) G (by decide +kernel) rfl rfl ?_
  refine C_getfN (v := .ref 5) G (by decide +kernel) (by decide) (by decide) (by show (if (sU (sU (sU (sU (sU (sU (sU (sU (sU (sU (sU (sU (sU (sU (sU (sU (sU (sU (sU (sU (sU (sU (sU (sU (sU (sU (sU (sU (sU (sU (sU (sU (sU (sU (sU (sU (sU (sU (sU (sU (sU (sU (sU (sU (sU (sU (sU (sU (sU (sU (sU (sU S 44 1) 44 0) 46 5) 46 6) 46 7) 46 8) 46 9) 46 10) 46 11) 46 12) 46 0) 45 0) 55 5) 55 6) 55 7) 55 8) 55 9) 55 10) 55 11) 55 12) 55 0) 45 1) 64 5) 64 6) 64 7) 64 8) 64 9) 64 10) 64 11) 64 12) 64 0) 45 2) 73 5) 73 6) 73 7) 73 8) 73 9) 73 10) 73 11) 73 12) 73 0) 45 3) 82 5) 82 6) 82 7) 82 8) 82 9) 82 10) 82 11) 82 12) 82 0) 45 4) 20 0 = true then Value.ref _ else Value.null) = _; rw [if_pos (show (sU (sU (sU (sU (sU (sU (sU (sU (sU (sU (sU (sU (sU (sU (sU (sU (sU (sU (sU (sU (sU (sU (sU (sU (sU (sU (sU (sU (sU (sU (sU (sU (sU (sU (sU (sU (sU (sU (sU (sU (sU (sU (sU (sU (sU (sU (sU (sU (sU (sU (sU (sU S 44 1) 44 0) 46 5) 46 6) 46 7) 46 8) 46 9) 46 10) 46 11) 46 12) 46 0) 45 0) 55 5) 55 6) 55 7) 55 8) 55 9) 55 10) 55 11) 55 12) 55 0) 45 1) 64 5) 64 6) 64 7) 64 8) 64 9) 64 10) 64 11) 64 12) 64 0) 45 2) 73 5) 73 6) 73 7) 73 8) 73 9) 73 10) 73 11) 73 12) 73 0) 45 3) 82 5) 82 6) 82 7) 82 8) 82 9) 82 10) 82 11) 82 12) 82 0) 45 4) 20 0 = true from hs_20_0)]; rfl) ?_
  refine C_call (y := yX4_init) (bytes := cX4_init) (maxL := 2) (i := 32) (d := d + 1) (a := 91) (as := [.ref 5]) (r := [.ref 91, .int 5, .ref 45]) G okK_X4_init ⟨rfl, (by decide +kernel)⟩ (by decide +kernel) (Nat.le_refl _) (Nat.le_refl _) ⟨Nat.le_of_ble_eq_true rfl, Nat.le_of_ble_eq_true rfl⟩ hA (K_X4_init_91 (d := d) G.ad oo zz hz91) rfl (by decide) (by decide +kernel) rfl rfl OO_K_X4_init_91 ZZ_K_X4_init_91 (fun ad12 n12 => ?_)
  have G := G.nx n12; have oo := OO_K_X4_init_91 oo; have zz := ZZ_K_X4_init_91 zz
  refine C_aastj (a := 45) (b := 91) (t := 1) (n := 8) (x := 4) (j := 5) G rfl (by decide +kernel) (by decide) (by decide) (by decide) (by decide +kernel) (by decide) (Or.inr ⟨rfl, rfl⟩) (vpd rfl) (by decide +kernel) ?_
  have oo := oo.put (a := 45) (j := 5) (by decide) (by decide +kernel)
  refine C_iinc (i := 2) (n := 1) (x := 5) (k := 1) G (by decide +kernel) rfl rfl (by decide) rfl ?_
  refine C_goto (off := -26) (x := 30) G (by decide +kernel) (by decide) ?_
  refine C_iload_n (n := 2) (i := 2) (v := 6) G (by decide +kernel) rfl rfl ?_
  refine C_bipush (n := 8) (v := 8) G (by decide +kernel) rfl ?_
  refine C_ic_ge (off := 26) (x := 59) G (by decide +kernel) (by decide) ⟨fun z => absurd z (by decide), fun _ => ?_⟩
  refine C_aload_n (n := 0) (i := 0) (v := 44) G (by decide +kernel) rfl rfl ?_
  refine C_getf (i := 11) (x := 6) (y := 1) (v := .ref 45) G (by decide +kernel) (by decide +kernel) (by decide) (by decide) (by decide) rfl ?_
  refine C_iload_n (n := 2) (i := 2) (v := 6) G (by decide +kernel) rfl rfl ?_
  have hz100 : ∀ j, u.1 100 j = 0 := fun j => congrFun (zz 100 (Nat.le_refl _)).1 j
  have hy100 : ∀ j, u.2 100 j = 0 := fun j => congrFun (zz 100 (Nat.le_refl _)).2 j
  refine C_new (i := 9) (x := 4) G (by decide +kernel) (by decide +kernel) (by decide) (by decide) ⟨(by decide +kernel), (by decide +kernel), (by decide +kernel)⟩ hA (Nat.le_of_ble_eq_true rfl) (Nat.le_of_ble_eq_true rfl) rfl rfl (fun ad13 n13 => ?_)
  have G := G.nx n13; have oo := oo.up; have zz := zz.up
  refine C_dup_r G (by decide +kernel) ?_
  refine C_aload_n (n := 1) (i := 1) (v := 20) G (by decide +kernel) rfl rfl ?_
  refine C_getfN (v := .ref 5) G (by decide +kernel) (by decide) (by decide) (by show (if (sU (sU (sU (sU (sU (sU (sU (sU (sU (sU (sU (sU (sU (sU (sU (sU (sU (sU (sU (sU (sU (sU (sU (sU (sU (sU (sU (sU (sU (sU (sU (sU (sU (sU (sU (sU (sU (sU (sU (sU (sU (sU (sU (sU (sU (sU (sU (sU (sU (sU (sU (sU (sU (sU (sU (sU (sU (sU (sU (sU (sU (sU S 44 1) 44 0) 46 5) 46 6) 46 7) 46 8) 46 9) 46 10) 46 11) 46 12) 46 0) 45 0) 55 5) 55 6) 55 7) 55 8) 55 9) 55 10) 55 11) 55 12) 55 0) 45 1) 64 5) 64 6) 64 7) 64 8) 64 9) 64 10) 64 11) 64 12) 64 0) 45 2) 73 5) 73 6) 73 7) 73 8) 73 9) 73 10) 73 11) 73 12) 73 0) 45 3) 82 5) 82 6) 82 7) 82 8) 82 9) 82 10) 82 11) 82 12) 82 0) 45 4) 91 5) 91 6) 91 7) 91 8) 91 9) 91 10) 91 11) 91 12) 91 0) 45 5) 20 0 = true then Value.ref _ else Value.null) = _; rw [if_pos (show (sU (sU (sU (sU (sU (sU (sU (sU (sU (sU (sU (sU (sU (sU (sU (sU (sU (sU (sU (sU (sU (sU (sU (sU (sU (sU (sU (sU (sU (sU (sU (sU (sU (sU (sU (sU (sU (sU (sU (sU (sU (sU (sU (sU (sU (sU (sU (sU (sU (sU (sU (sU (sU (sU (sU (sU (sU (sU (sU (sU (sU (sU S 44 1) 44 0) 46 5) 46 6) 46 7) 46 8) 46 9) 46 10) 46 11) 46 12) 46 0) 45 0) 55 5) 55 6) 55 7) 55 8) 55 9) 55 10) 55 11) 55 12) 55 0) 45 1) 64 5) 64 6) 64 7) 64 8) 64 9) 64 10) 64 11) 64 12) 64 0) 45 2) 73 5) 73 6) 73 7) 73 8) 73 9) 73 10) 73 11) 73 12) 73 0) 45 3) 82 5) 82 6) 82 7) 82 8) 82 9) 82 10) 82 11) 82 12) 82 0) 45 4) 91 5) 91 6) 91 7) 91 8) 91 9) 91 10) 91 11) 91 12) 91 0) 45 5) 20 0 = true from hs_20_0)]; rfl) ?_
  refine C_call (y := yX4_init) (bytes := cX4_init) (maxL := 2) (i := 32) (d := d + 1) (a := 100) (as := [.ref 5]) (r := [.ref 100, .int 6, .ref 45]) G okK_X4_init ⟨rfl, (by decide +kernel)⟩ (by decide +kernel) (Nat.le_refl _) (Nat.le_refl _) ⟨Nat.le_of_ble_eq_true rfl, Nat.le_of_ble_eq_true rfl⟩ hA (K_X4_init_100 (d := d) G.ad oo zz hz100) rfl (by decide) (by decide +kernel) rfl rfl OO_K_X4_init_100 ZZ_K_X4_init_100 (fun ad14 n14 => ?_)
  have G := G.nx n14; have oo := OO_K_X4_init_100 oo; have zz := ZZ_K_X4_init_100 zz
  refine C_aastj (a := 45) (b := 100) (t := 1) (n := 8) (x := 4) (j := 6) G rfl (by decide +kernel) (by decide) (by decide) (by decide) (by decide +kernel) (by decide) (Or.inr ⟨rfl, rfl⟩) (vpd rfl) (by decide +kernel) ?_
  have oo := oo.put (a := 45) (j := 6) (by decide) (by decide +kernel)
  refine C_iinc (i := 2) (n := 1) (x := 6) (k := 1) G (by decide +kernel) rfl rfl (by decide) rfl ?_
  refine C_goto (off := -26) (x := 30) G (by decide +kernel) (by decide) ?_
  refine C_iload_n (n := 2) (i := 2) (v := 7) G (by decide +kernel) rfl rfl ?_
  refine C_bipush (n := 8) (v := 8) G (by decide +kernel) rfl ?_
  refine C_ic_ge (off := 26) (x := 59) G (by decide +kernel) (by decide) ⟨fun z => absurd z (by decide), fun _ => ?_⟩
  refine C_aload_n (n := 0) (i := 0) (v := 44) G (by decide +kernel) rfl rfl ?_
  refine C_getf (i := 11) (x := 6) (y := 1) (v := .ref 45) G (by decide +kernel) (by decide +kernel) (by decide) (by decide) (by decide) rfl ?_
  refine C_iload_n (n := 2) (i := 2) (v := 7) G (by decide +kernel) rfl rfl ?_
  have hz109 : ∀ j, u.1 109 j = 0 := fun j => congrFun (zz 109 (Nat.le_refl _)).1 j
  have hy109 : ∀ j, u.2 109 j = 0 := fun j => congrFun (zz 109 (Nat.le_refl _)).2 j
  refine C_new (i := 9) (x := 4) G (by decide +kernel) (by decide +kernel) (by decide) (by decide) ⟨(by decide +kernel), (by decide +kernel), (by decide +kernel)⟩ hA (Nat.le_of_ble_eq_true rfl) (Nat.le_of_ble_eq_true rfl) rfl rfl (fun ad15 n15 => ?_)
  have G := G.nx n15; have oo := oo.up; have zz := zz.up
  refine C_dup_r G (by decide +kernel) ?_
  refine C_aload_n (n := 1) (i := 1) (v := 20) G (by decide +kernel) rfl rfl ?_
  refine C_getfN (v := .ref 5) G (by decide +kernel) (by decide) (by decide) (by show (if (sU (sU (sU (sU (sU (sU (sU (sU (sU (sU (sU (sU (sU (sU (sU (sU (sU (sU (sU (sU (sU (sU (sU (sU (sU (sU (sU (sU (sU (sU (sU (sU (sU (sU (sU (sU (sU (sU (sU (sU (sU (sU (sU (sU (sU (sU (sU (sU (sU (sU (sU (sU (sU (sU (sU (sU (sU (sU (sU (sU (sU (sU (sU (sU (sU (sU (sU (sU (sU (sU (sU (sU S 44 1) 44 0) 46 5) 46 6) 46 7) 46 8) 46 9) 46 10) 46 11) 46 12) 46 0) 45 0) 55 5) 55 6) 55 7) 55 8) 55 9) 55 10) 55 11) 55 12) 55 0) 45 1) 64 5) 64 6) 64 7) 64 8) 64 9) 64 10) 64 11) 64 12) 64 0) 45 2) 73 5) 73 6) 73 7) 73 8) 73 9) 73 10) 73 11) 73 12) 73 0) 45 3) 82 5) 82 6) 82 7) 82 8) 82 9) 82 10) 82 11) 82 12) 82 0) 45 4) 91 5) 91 6) 91 7) 91 8) 91 9) 91 10) 91 11) 91 12) 91 0) 45 5) 100 5) 100 6) 100 7) 100 8) 100 9) 100 10) 100 11) 100 12) 100 0) 45 6) 20 0 = true then Value.ref _ else Value.null) = _; rw [if_pos (show (sU (sU (sU (sU (sU (sU (sU (sU (sU (sU (sU (sU (sU (sU (sU (sU (sU (sU (sU (sU (sU (sU (sU (sU (sU (sU (sU (sU (sU (sU (sU (sU (sU (sU (sU (sU (sU (sU (sU (sU (sU (sU (sU (sU (sU (sU (sU (sU (sU (sU (sU (sU (sU (sU (sU (sU (sU (sU (sU (sU (sU (sU (sU (sU (sU (sU (sU (sU (sU (sU (sU (sU S 44 1) 44 0) 46 5) 46 6) 46 7) 46 8) 46 9) 46 10) 46 11) 46 12) 46 0) 45 0) 55 5) 55 6) 55 7) 55 8) 55 9) 55 10) 55 11) 55 12) 55 0) 45 1) 64 5) 64 6) 64 7) 64 8) 64 9) 64 10) 64 11) 64 12) 64 0) 45 2) 73 5) 73 6) 73 7) 73 8) 73 9) 73 10) 73 11) 73 12) 73 0) 45 3) 82 5) 82 6) 82 7) 82 8) 82 9) 82 10) 82 11) 82 12) 82 0) 45 4) 91 5) 91 6) 91 7) 91 8) 91 9) 91 10) 91 11) 91 12) 91 0) 45 5) 100 5) 100 6) 100 7) 100 8) 100 9) 100 10) 100 11) 100 12) 100 0) 45 6) 20 0 = true from hs_20_0)]; rfl) ?_
  refine C_call (y := yX4_init) (bytes := cX4_init) (maxL := 2) (i := 32) (d := d + 1) (a := 109) (as := [.ref 5]) (r := [.ref 109, .int 7, .ref 45]) G okK_X4_init ⟨rfl, (by decide +kernel)⟩ (by decide +kernel) (Nat.le_refl _) (Nat.le_refl _) ⟨Nat.le_of_ble_eq_true rfl, Nat.le_of_ble_eq_true rfl⟩ hA (K_X4_init_109 (d := d) G.ad oo zz hz109) rfl (by decide) (by decide +kernel) rfl rfl OO_K_X4_init_109 ZZ_K_X4_init_109 (fun ad16 n16 => ?_)
  have G := G.nx n16; have oo := OO_K_X4_init_109 oo; have zz := ZZ_K_X4_init_109 zz
  refine C_aastj (a := 45) (b := 109) (t := 1) (n := 8) (x := 4) (j := 7) G rfl (by decide +kernel) (by decide) (by decide) (by decide) (by decide +kernel) (by decide) (Or.inr ⟨rfl, rfl⟩) (vpd rfl) (by decide +kernel) ?_
  have oo := oo.put (a := 45) (j := 7) (by decide) (by decide +kernel)
  refine C_iinc (i := 2) (n := 1) (x := 7) (k := 1) G (by decide +kernel) rfl rfl (by decide) rfl ?_
  refine C_goto (off := -26) (x := 30) G (by decide +kernel) (by decide) ?_
  refine C_iload_n (n := 2) (i := 2) (v := 8) G (by decide +kernel) rfl rfl ?_
  refine C_bipush (n := 8) (v := 8) G (by decide +kernel) rfl ?_
  refine C_ic_ge (off := 26) (x := 59) G (by decide +kernel) (by decide) ⟨fun _ => ?_, fun z => absurd (by decide) z⟩
  exact C_ret (X0 := X) (ad := ad16) G hr hlk ((((((((((((((((n0.tr n1 (by decide)).tr n2 (by decide)).tr n3 (by decide)).tr n4 (by decide)).tr n5 (by decide)).tr n6 (by decide)).tr n7 (by decide)).tr n8 (by decide)).tr n9 (by decide)).tr n10 (by decide)).tr n11 (by decide)).tr n12 (by decide)).tr n13 (by decide)).tr n14 (by decide)).tr n15 (by decide)).tr n16 (by decide)) (by decide +kernel)
theorem okK_X1_init : okR yX1_init cX1_init 2 none 1 := ⟨by decide +kernel, by decide +kernel, by decide +kernel, by decide +kernel, by decide +kernel, by decide, by decide +kernel⟩
