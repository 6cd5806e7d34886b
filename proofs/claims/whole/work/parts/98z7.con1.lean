/-! constructors, made by con.py -/
theorem okK_X12_init : okR yX12_init cX12_init 2 none 0 := ⟨by decide +kernel, by decide +kernel, by decide +kernel, by decide +kernel, by decide +kernel, by decide, by decide +kernel⟩
theorem okK_X10_init : okR yX10_init cX10_init 4 none 0 := ⟨by decide +kernel, by decide +kernel, by decide +kernel, by decide +kernel, by decide +kernel, by decide, by decide +kernel⟩
theorem OO_K_X10_init_1 {S : Nat → Nat → Bool} (oo : OkS 2 S) : OkS 4 (sU (sU S 1 0) 1 9) := ((oo.up.put (a := 1) (j := 0) (by decide) (by decide +kernel)).up.put (a := 1) (j := 9) (by decide) (by decide +kernel))
theorem ZZ_K_X10_init_1 {u : Mm} (zz : ZrC 2 u) : ZrC 4 (mW u (rwL (wrds.map e5))) := (zz.up.up.mW (f := rwL (wrds.map e5)) (by decide))
set_option maxRecDepth 100000 in
theorem K_X10_init_1 {X : Xc} {d : Nat} {S : Nat → Nat → Bool} {u : Mm} (had : adOk X) (oo : OkS 2 S) (zz : ZrC 2 u) (hz : ∀ j, u.1 1 j = 0) (hy : ∀ j, u.2 1 j = 0) : CK X (d + 4) yX10_init cX10_init 4 [.ref 1] u 2 S 2 964 (mW u (rwL (wrds.map e5))) 4 (sU (sU S 1 0) 1 9) := by
  refine CK_of okK_X10_init rfl oo zz ?_
  intro p e s m args below meth c G hA hr hlk hnm
  have zz00 := zz
  refine C_aload_n (n := 0) (i := 0) (v := 1) G (by decide +kernel) rfl rfl ?_
  refine C_obj (i := 5) (a := 1) (r := []) G (by decide +kernel) (by decide +kernel) (by show 1 ≤ d + 4; omega) (by show 0 + 12 ≤ 64 * (d + 4); omega) ?_
  refine C_aload_n (n := 0) (i := 0) (v := 1) G (by decide +kernel) rfl rfl ?_
  refine C_sipush (n := 940) (v := 940) G (by decide +kernel) rfl ?_
  have oo0 := oo; have zz0 := zz
  refine C_newi (x := 0) (N := 940) G (by decide +kernel) (by decide +kernel) (by decide +kernel) (by decide) hA rfl (by decide) (Nat.le_of_ble_eq_true rfl) (Nat.le_of_ble_eq_true rfl) rfl rfl (fun ad0 n0 => ?_)
  have G := G.nx n0; have oo := oo.up; have zz := zz.up
  refine C_putr (i := 11) (x := 10) (y := 0) (ty := (.array .int)) G (by decide +kernel) (by decide +kernel) (by decide) (by decide) (by decide) (by decide) (Or.inr ⟨(by decide), hnm, rfl⟩) (by decide +kernel) rfl rfl (by decide) (by decide +kernel) (by decide) ?_
  have oo := oo.put (a := 1) (j := 0) (by decide) (by decide +kernel)
  refine C_aload_n (n := 0) (i := 0) (v := 1) G (by decide +kernel) rfl rfl ?_
  refine C_iconst (n := 0) (v := 0) G (by decide +kernel) rfl ?_
  refine C_put0 (i := 15) (x := 10) (y := 1) (ty := .int) G (by decide +kernel) (by decide +kernel) (by decide) (by decide) (by decide) (by decide) (Or.inl (by decide)) (by decide +kernel) rfl rfl (Or.inl (by decide)) (hz 1) ?_
  refine C_aload_n (n := 0) (i := 0) (v := 1) G (by decide +kernel) rfl rfl ?_
  refine C_iconst (n := 0) (v := 0) G (by decide +kernel) rfl ?_
  refine C_put0 (i := 19) (x := 10) (y := 2) (ty := .int) G (by decide +kernel) (by decide +kernel) (by decide) (by decide) (by decide) (by decide) (Or.inl (by decide)) (by decide +kernel) rfl rfl (Or.inl (by decide)) (hz 2) ?_
  refine C_aload_n (n := 0) (i := 0) (v := 1) G (by decide +kernel) rfl rfl ?_
  refine C_iconst (n := 0) (v := 0) G (by decide +kernel) rfl ?_
  refine C_put0 (i := 22) (x := 10) (y := 3) (ty := .int) G (by decide +kernel) (by decide +kernel) (by decide) (by decide) (by decide) (by decide) (Or.inl (by decide)) (by decide +kernel) rfl rfl (Or.inl (by decide)) (hz 3) ?_
  refine C_aload_n (n := 0) (i := 0) (v := 1) G (by decide +kernel) rfl rfl ?_
  refine C_iconst (n := 0) (v := 0) G (by decide +kernel) rfl ?_
  refine C_put0 (i := 25) (x := 10) (y := 4) (ty := .int) G (by decide +kernel) (by decide +kernel) (by decide) (by decide) (by decide) (by decide) (Or.inl (by decide)) (by decide +kernel) rfl rfl (Or.inl (by decide)) (hz 4) ?_
  refine C_aload_n (n := 0) (i := 0) (v := 1) G (by decide +kernel) rfl rfl ?_
  refine C_iconst (n := 0) (v := 0) G (by decide +kernel) rfl ?_
  refine C_put0 (i := 28) (x := 10) (y := 5) (ty := .int) G (by decide +kernel) (by decide +kernel) (by decide) (by decide) (by decide) (by decide) (Or.inl (by decide)) (by decide +kernel) rfl rfl (Or.inl (by decide)) (hz 5) ?_
  refine C_aload_n (n := 0) (i := 0) (v := 1) G (by decide +kernel) rfl rfl ?_
  refine C_lconst (n := 0) (v := 0) G (by decide +kernel) rfl ?_
  refine C_lput0 (i := 31) (x := 10) (y := 6) G (by decide +kernel) (by decide +kernel) (by decide) (by decide) (by decide) (by decide) (Or.inl (by decide)) (by decide +kernel) (by decide) (hy 6) ?_
  refine C_aload_n (n := 0) (i := 0) (v := 1) G (by decide +kernel) rfl rfl ?_
  refine C_iconst (n := 0) (v := 0) G (by decide +kernel) rfl ?_
  refine C_put0 (i := 35) (x := 10) (y := 7) (ty := .int) G (by decide +kernel) (by decide +kernel) (by decide) (by decide) (by decide) (by decide) (Or.inl (by decide)) (by decide +kernel) rfl rfl (Or.inl (by decide)) (hz 7) ?_
  refine C_aload_n (n := 0) (i := 0) (v := 1) G (by decide +kernel) rfl rfl ?_
  refine C_iconst (n := 0) (v := 0) G (by decide +kernel) rfl ?_
  refine C_put0 (i := 38) (x := 10) (y := 8) (ty := .int) G (by decide +kernel) (by decide +kernel) (by decide) (by decide) (by decide) (by decide) (Or.inl (by decide)) (by decide +kernel) rfl rfl (Or.inl (by decide)) (hz 8) ?_
  refine C_aload_n (n := 0) (i := 0) (v := 1) G (by decide +kernel) rfl rfl ?_
  refine C_bipush (n := 24) (v := 24) G (by decide +kernel) rfl ?_
  have oo0 := oo; have zz0 := zz
  refine C_newl (x := 0) (N := 24) G (by decide +kernel) (by decide +kernel) (by decide +kernel) (by decide) hA rfl (by decide) (Nat.le_of_ble_eq_true rfl) (Nat.le_of_ble_eq_true rfl) rfl rfl (fun ad1 n1 => ?_)
  have G := G.nx n1; have oo := oo.up; have zz := zz.up
  refine C_putr (i := 41) (x := 10) (y := 9) (ty := (.array .long)) G (by decide +kernel) (by decide +kernel) (by decide) (by decide) (by decide) (by decide) (Or.inr ⟨(by decide), hnm, rfl⟩) (by decide +kernel) rfl rfl (by decide) (by decide +kernel) (by decide) ?_
  have oo := oo.put (a := 1) (j := 9) (by decide) (by decide +kernel)
  refine C_iconst (n := 0) (v := 0) G (by decide +kernel) rfl ?_
  refine C_istore_n (n := 1) (i := 1) (v := 0) G (by decide +kernel) rfl (by decide) rfl ?_
  refine C_iconst (n := 0) (v := 0) G (by decide +kernel) rfl ?_
  refine C_istore_n (n := 2) (i := 2) (v := 0) G (by decide +kernel) rfl (by decide) rfl ?_
  refine tape_start (d := d) G (Nat.le_refl _) (Nat.le_refl _) ⟨Nat.le_refl _, Nat.le_refl _⟩ (by decide) (by decide) rfl (zz0 3 (Nat.le_refl _)).2 (fun lvx => ?_)
  have zz := zz.mW (f := rwL (wrds.map e5)) (by decide)
  exact C_ret (X0 := X) (ad := ad1) G hr hlk (n0.tr n1 (by decide)) (by decide +kernel)
theorem okK_X11_init : okR yX11_init cX11_init 1 none 0 := ⟨by decide +kernel, by decide +kernel, by decide +kernel, by decide +kernel, by decide +kernel, by decide, by decide +kernel⟩
theorem okK_X0_init : okR yX0_init cX0_init 1 none 0 := ⟨by decide +kernel, by decide +kernel, by decide +kernel, by decide +kernel, by decide +kernel, by decide, by decide +kernel⟩
theorem OO_K_X0_init_5 {S : Nat → Nat → Bool} (oo : OkS 6 S) : OkS 20 (sU (sU (sU (sU (sU (sU (sU (sU (sU (sU (sU (sU (sU (sU S 5 0) 5 1) 5 4) 5 5) 5 6) 5 7) 5 8) 5 9) 5 10) 5 11) 5 12) 5 13) 5 14) 5 15) := ((((((((((((((oo.up.put (a := 5) (j := 0) (by decide) (by decide +kernel)).up.put (a := 5) (j := 1) (by decide) (by decide +kernel)).up.put (a := 5) (j := 4) (by decide) (by decide +kernel)).up.put (a := 5) (j := 5) (by decide) (by decide +kernel)).up.put (a := 5) (j := 6) (by decide) (by decide +kernel)).up.put (a := 5) (j := 7) (by decide) (by decide +kernel)).up.put (a := 5) (j := 8) (by decide) (by decide +kernel)).up.put (a := 5) (j := 9) (by decide) (by decide +kernel)).up.put (a := 5) (j := 10) (by decide) (by decide +kernel)).up.put (a := 5) (j := 11) (by decide) (by decide +kernel)).up.put (a := 5) (j := 12) (by decide) (by decide +kernel)).up.put (a := 5) (j := 13) (by decide) (by decide +kernel)).up.put (a := 5) (j := 14) (by decide) (by decide +kernel)).up.put (a := 5) (j := 15) (by decide) (by decide +kernel))
theorem ZZ_K_X0_init_5 {u : Mm} (zz : ZrC 6 u) : ZrC 20 (mI u 5 3 3) := (zz.up.up.mI (a := 5) (j := 3) (x := 3) (by decide)).up.up.up.up.up.up.up.up.up.up.up.up
set_option maxRecDepth 100000 in
theorem K_X0_init_5 {X : Xc} {d : Nat} {S : Nat → Nat → Bool} {u : Mm} (had : adOk X) (oo : OkS 6 S) (zz : ZrC 6 u) (hz : ∀ j, u.1 5 j = 0) : CK X (d + 1) yX0_init cX0_init 1 [.ref 5] u 6 S 14 220 (mI u 5 3 3) 20 (sU (sU (sU (sU (sU (sU (sU (sU (sU (sU (sU (sU (sU (sU S 5 0) 5 1) 5 4) 5 5) 5 6) 5 7) 5 8) 5 9) 5 10) 5 11) 5 12) 5 13) 5 14) 5 15) := by
  refine CK_of okK_X0_init rfl oo zz ?_
  intro p e s m args below meth c G hA hr hlk hnm
  have zz00 := zz
  refine C_aload_n (n := 0) (i := 0) (v := 5) G (by decide +kernel) rfl rfl ?_
  refine C_obj (i := 3) (a := 5) (r := []) G (by decide +kernel) (by decide +kernel) (by show 1 ≤ d + 1; omega) (by show 0 + 12 ≤ 64 * (d + 1); omega) ?_
  refine C_aload_n (n := 0) (i := 0) (v := 5) G (by decide +kernel) rfl rfl ?_
  refine C_bipush (n := 32) (v := 32) G (by decide +kernel) rfl ?_
  have oo0 := oo; have zz0 := zz
  refine C_newl (x := 0) (N := 32) G (by decide +kernel) (by decide +kernel) (by decide +kernel) (by decide) hA rfl (by decide) (Nat.le_of_ble_eq_true rfl) (Nat.le_of_ble_eq_true rfl) rfl rfl (fun ad0 n0 => ?_)
  have G := G.nx n0; have oo := oo.up; have zz := zz.up
  refine C_putr (i := 9) (x := 0) (y := 0) (ty := (.array .long)) G (by decide +kernel) (by decide +kernel) (by decide) (by decide) (by decide) (by decide) (Or.inr ⟨(by decide), hnm, rfl⟩) (by decide +kernel) rfl rfl (by decide) (by decide +kernel) (by decide) ?_
  have oo := oo.put (a := 5) (j := 0) (by decide) (by decide +kernel)
  refine C_aload_n (n := 0) (i := 0) (v := 5) G (by decide +kernel) rfl rfl ?_
  refine C_iconst (n := 4) (v := 4) G (by decide +kernel) rfl ?_
  have oo0 := oo; have zz0 := zz
  refine C_newi (x := 0) (N := 4) G (by decide +kernel) (by decide +kernel) (by decide +kernel) (by decide) hA rfl (by decide) (Nat.le_of_ble_eq_true rfl) (Nat.le_of_ble_eq_true rfl) rfl rfl (fun ad1 n1 => ?_)
  have G := G.nx n1; have oo := oo.up; have zz := zz.up
  refine C_putr (i := 15) (x := 0) (y := 1) (ty := (.array .int)) G (by decide +kernel) (by decide +kernel) (by decide) (by decide) (by decide) (by decide) (Or.inr ⟨(by decide), hnm, rfl⟩) (by decide +kernel) rfl rfl (by decide) (by decide +kernel) (by decide) ?_
  have oo := oo.put (a := 5) (j := 1) (by decide) (by decide +kernel)
  refine C_aload_n (n := 0) (i := 0) (v := 5) G (by decide +kernel) rfl rfl ?_
  refine C_iconst (n := 0) (v := 0) G (by decide +kernel) rfl ?_
  refine C_put0 (i := 19) (x := 0) (y := 2) (ty := .int) G (by decide +kernel) (by decide +kernel) (by decide) (by decide) (by decide) (by decide) (Or.inl (by decide)) (by decide +kernel) rfl rfl (Or.inl (by decide)) (hz 2) ?_
  refine C_aload_n (n := 0) (i := 0) (v := 5) G (by decide +kernel) rfl rfl ?_
  refine C_iconst (n := 3) (v := 3) G (by decide +kernel) rfl ?_
  refine C_puti (i := 23) (x := 0) (y := 3) (ty := .int) G (by decide +kernel) (by decide +kernel) (by decide) (by decide) (by decide) (by decide) (Or.inl (by decide)) (by decide +kernel) rfl rfl (by decide) ?_
  have zz := zz.mI (a := 5) (j := 3) (x := 3) (by decide)
  refine C_aload_n (n := 0) (i := 0) (v := 5) G (by decide +kernel) rfl rfl ?_
  refine C_bipush (n := 8) (v := 8) G (by decide +kernel) rfl ?_
  have oo0 := oo; have zz0 := zz
  refine C_newi (x := 0) (N := 8) G (by decide +kernel) (by decide +kernel) (by decide +kernel) (by decide) hA rfl (by decide) (Nat.le_of_ble_eq_true rfl) (Nat.le_of_ble_eq_true rfl) rfl rfl (fun ad2 n2 => ?_)
  have G := G.nx n2; have oo := oo.up; have zz := zz.up
  refine C_putr (i := 26) (x := 0) (y := 4) (ty := (.array .int)) G (by decide +kernel) (by decide +kernel) (by decide) (by decide) (by decide) (by decide) (Or.inr ⟨(by decide), hnm, rfl⟩) (by decide +kernel) rfl rfl (by decide) (by decide +kernel) (by decide) ?_
  have oo := oo.put (a := 5) (j := 4) (by decide) (by decide +kernel)
  refine C_aload_n (n := 0) (i := 0) (v := 5) G (by decide +kernel) rfl rfl ?_
  refine C_bipush (n := 8) (v := 8) G (by decide +kernel) rfl ?_
  have oo0 := oo; have zz0 := zz
  refine C_newi (x := 0) (N := 8) G (by decide +kernel) (by decide +kernel) (by decide +kernel) (by decide) hA rfl (by decide) (Nat.le_of_ble_eq_true rfl) (Nat.le_of_ble_eq_true rfl) rfl rfl (fun ad3 n3 => ?_)
  have G := G.nx n3; have oo := oo.up; have zz := zz.up
  refine C_putr (i := 29) (x := 0) (y := 5) (ty := (.array .int)) G (by decide +kernel) (by decide +kernel) (by decide) (by decide) (by decide) (by decide) (Or.inr ⟨(by decide), hnm, rfl⟩) (by decide +kernel) rfl rfl (by decide) (by decide +kernel) (by decide) ?_
  have oo := oo.put (a := 5) (j := 5) (by decide) (by decide +kernel)
  refine C_aload_n (n := 0) (i := 0) (v := 5) G (by decide +kernel) rfl rfl ?_
  refine C_bipush (n := 8) (v := 8) G (by decide +kernel) rfl ?_
  have oo0 := oo; have zz0 := zz
  refine C_newi (x := 0) (N := 8) G (by decide +kernel) (by decide +kernel) (by decide +kernel) (by decide) hA rfl (by decide) (Nat.le_of_ble_eq_true rfl) (Nat.le_of_ble_eq_true rfl) rfl rfl (fun ad4 n4 => ?_)
  have G := G.nx n4; have oo := oo.up; have zz := zz.up
  refine C_putr (i := 32) (x := 0) (y := 6) (ty := (.array .int)) G (by decide +kernel) (by decide +kernel) (by decide) (by decide) (by decide) (by decide) (Or.inr ⟨(by decide), hnm, rfl⟩) (by decide +kernel) rfl rfl (by decide) (by decide +kernel) (by decide) ?_
  have oo := oo.put (a := 5) (j := 6) (by decide) (by decide +kernel)
  refine C_aload_n (n := 0) (i := 0) (v := 5) G (by decide +kernel) rfl rfl ?_
  refine C_bipush (n := 8) (v := 8) G (by decide +kernel) rfl ?_
  have oo0 := oo; have zz0 := zz
  refine C_newi (x := 0) (N := 8) G (by decide +kernel) (by decide +kernel) (by decide +kernel) (by decide) hA rfl (by decide) (Nat.le_of_ble_eq_true rfl) (Nat.le_of_ble_eq_true rfl) rfl rfl (fun ad5 n5 => ?_)
  have G := G.nx n5; have oo := oo.up; have zz := zz.up
  refine C_putr (i := 35) (x := 0) (y := 7) (ty := (.array .int)) G (by decide +kernel) (by decide +kernel) (by decide) (by decide) (by decide) (by decide) (Or.inr ⟨(by decide), hnm, rfl⟩) (by decide +kernel) rfl rfl (by decide) (by decide +kernel) (by decide) ?_
  have oo := oo.put (a := 5) (j := 7) (by decide) (by decide +kernel)
  refine C_aload_n (n := 0) (i := 0) (v := 5) G (by decide +kernel) rfl rfl ?_
  refine C_bipush (n := 8) (v := 8) G (by decide +kernel) rfl ?_
  have oo0 := oo; have zz0 := zz
  refine C_newi (x := 0) (N := 8) G (by decide +kernel) (by decide +kernel) (by decide +kernel) (by decide) hA rfl (by decide) (Nat.le_of_ble_eq_true rfl) (Nat.le_of_ble_eq_true rfl) rfl rfl (fun ad6 n6 => ?_)
  have G := G.nx n6; have oo := oo.up; have zz := zz.up
  refine C_putr (i := 38) (x := 0) (y := 8) (ty := (.array .int)) G (by decide +kernel) (by decide +kernel) (by decide) (by decide) (by decide) (by decide) (Or.inr ⟨(by decide), hnm, rfl⟩) (by decide +kernel) rfl rfl (by decide) (by decide +kernel) (by decide) ?_
  have oo := oo.put (a := 5) (j := 8) (by decide) (by decide +kernel)
  refine C_aload_n (n := 0) (i := 0) (v := 5) G (by decide +kernel) rfl rfl ?_
  refine C_bipush (n := 8) (v := 8) G (by decide +kernel) rfl ?_
  have oo0 := oo; have zz0 := zz
  refine C_newi (x := 0) (N := 8) G (by decide +kernel) (by decide +kernel) (by decide +kernel) (by decide) hA rfl (by decide) (Nat.le_of_ble_eq_true rfl) (Nat.le_of_ble_eq_true rfl) rfl rfl (fun ad7 n7 => ?_)
  have G := G.nx n7; have oo := oo.up; have zz := zz.up
  refine C_putr (i := 41) (x := 0) (y := 9) (ty := (.array .int)) G (by decide +kernel) (by decide +kernel) (by decide) (by decide) (by decide) (by decide) (Or.inr ⟨(by decide), hnm, rfl⟩) (by decide +kernel) rfl rfl (by decide) (by decide +kernel) (by decide) ?_
  have oo := oo.put (a := 5) (j := 9) (by decide) (by decide +kernel)
  refine C_aload_n (n := 0) (i := 0) (v := 5) G (by decide +kernel) rfl rfl ?_
  refine C_bipush (n := 8) (v := 8) G (by decide +kernel) rfl ?_
  have oo0 := oo; have zz0 := zz
  refine C_newi (x := 0) (N := 8) G (by decide +kernel) (by decide +kernel) (by decide +kernel) (by decide) hA rfl (by decide) (Nat.le_of_ble_eq_true rfl) (Nat.le_of_ble_eq_true rfl) rfl rfl (fun ad8 n8 => ?_)
  have G := G.nx n8; have oo := oo.up; have zz := zz.up
  refine C_putr (i := 44) (x := 0) (y := 10) (ty := (.array .int)) G (by decide +kernel) (by decide +kernel) (by decide) (by decide) (by decide) (by decide) (Or.inr ⟨(by decide), hnm, rfl⟩) (by decide +kernel) rfl rfl (by decide) (by decide +kernel) (by decide) ?_
  have oo := oo.put (a := 5) (j := 10) (by decide) (by decide +kernel)
  refine C_aload_n (n := 0) (i := 0) (v := 5) G (by decide +kernel) rfl rfl ?_
  refine C_bipush (n := 40) (v := 40) G (by decide +kernel) rfl ?_
  have oo0 := oo; have zz0 := zz
  refine C_newi (x := 0) (N := 40) G (by decide +kernel) (by decide +kernel) (by decide +kernel) (by decide) hA rfl (by decide) (Nat.le_of_ble_eq_true rfl) (Nat.le_of_ble_eq_true rfl) rfl rfl (fun ad9 n9 => ?_)
  have G := G.nx n9; have oo := oo.up; have zz := zz.up
  refine C_putr (i := 47) (x := 0) (y := 11) (ty := (.array .int)) G (by decide +kernel) (by decide +kernel) (by decide) (by decide) (by decide) (by decide) (Or.inr ⟨(by decide), hnm, rfl⟩) (by decide +kernel) rfl rfl (by decide) (by decide +kernel) (by decide) ?_
  have oo := oo.put (a := 5) (j := 11) (by decide) (by decide +kernel)
  refine C_aload_n (n := 0) (i := 0) (v := 5) G (by decide +kernel) rfl rfl ?_
  refine C_bipush (n := 64) (v := 64) G (by decide +kernel) rfl ?_
  have oo0 := oo; have zz0 := zz
  refine C_newi (x := 0) (N := 64) G (by decide +kernel) (by decide +kernel) (by decide +kernel) (by decide) hA rfl (by decide) (Nat.le_of_ble_eq_true rfl) (Nat.le_of_ble_eq_true rfl) rfl rfl (fun ad10 n10 => ?_)
  have G := G.nx n10; have oo := oo.up; have zz := zz.up
  refine C_putr (i := 50) (x := 0) (y := 12) (ty := (.array .int)) G (by decide +kernel) (by decide +kernel) (by decide) (by decide) (by decide) (by decide) (Or.inr ⟨(by decide), hnm, rfl⟩) (by decide +kernel) rfl rfl (by decide) (by decide +kernel) (by decide) ?_
  have oo := oo.put (a := 5) (j := 12) (by decide) (by decide +kernel)
  refine C_aload_n (n := 0) (i := 0) (v := 5) G (by decide +kernel) rfl rfl ?_
  refine C_bipush (n := 8) (v := 8) G (by decide +kernel) rfl ?_
  have oo0 := oo; have zz0 := zz
  refine C_newi (x := 0) (N := 8) G (by decide +kernel) (by decide +kernel) (by decide +kernel) (by decide) hA rfl (by decide) (Nat.le_of_ble_eq_true rfl) (Nat.le_of_ble_eq_true rfl) rfl rfl (fun ad11 n11 => ?_)
  have G := G.nx n11; have oo := oo.up; have zz := zz.up
  refine C_putr (i := 53) (x := 0) (y := 13) (ty := (.array .int)) G (by decide +kernel) (by decide +kernel) (by decide) (by decide) (by decide) (by decide) (Or.inr ⟨(by decide), hnm, rfl⟩) (by decide +kernel) rfl rfl (by decide) (by decide +kernel) (by decide) ?_
  have oo := oo.put (a := 5) (j := 13) (by decide) (by decide +kernel)
  refine C_aload_n (n := 0) (i := 0) (v := 5) G (by decide +kernel) rfl rfl ?_
  refine C_bipush (n := 8) (v := 8) G (by decide +kernel) rfl ?_
  have oo0 := oo; have zz0 := zz
  refine C_newi (x := 0) (N := 8) G (by decide +kernel) (by decide +kernel) (by decide +kernel) (by decide) hA rfl (by decide) (Nat.le_of_ble_eq_true rfl) (Nat.le_of_ble_eq_true rfl) rfl rfl (fun ad12 n12 => ?_)
  have G := G.nx n12; have oo := oo.up; have zz := zz.up
  refine C_putr (i := 56) (x := 0) (y := 14) (ty := (.array .int)) G (by decide +kernel) (by decide +kernel) (by decide) (by decide) (by decide) (by decide) (Or.inr ⟨(by decide), hnm, rfl⟩) (by decide +kernel) rfl rfl (by decide) (by decide +kernel) (by decide) ?_
  have oo := oo.put (a := 5) (j := 14) (by decide) (by decide +kernel)
  refine C_aload_n (n := 0) (i := 0) (v := 5) G (by decide +kernel) rfl rfl ?_
  refine C_bipush (n := 8) (v := 8) G (by decide +kernel) rfl ?_
  have oo0 := oo; have zz0 := zz
  refine C_newi (x := 0) (N := 8) G (by decide +kernel) (by decide +kernel) (by decide +kernel) (by decide) hA rfl (by decide) (Nat.le_of_ble_eq_true rfl) (Nat.le_of_ble_eq_true rfl) rfl rfl (fun ad13 n13 => ?_)
  have G := G.nx n13; have oo := oo.up; have zz := zz.up
  refine C_putr (i := 59) (x := 0) (y := 15) (ty := (.array .int)) G (by decide +kernel) (by decide +kernel) (by decide) (by decide) (by decide) (by decide) (Or.inr ⟨(by decide), hnm, rfl⟩) (by decide +kernel) rfl rfl (by decide) (by decide +kernel) (by decide) ?_
  have oo := oo.put (a := 5) (j := 15) (by decide) (by decide +kernel)
  exact C_ret (X0 := X) (ad := ad13) G hr hlk (((((((((((((n0.tr n1 (by decide)).tr n2 (by decide)).tr n3 (by decide)).tr n4 (by decide)).tr n5 (by decide)).tr n6 (by decide)).tr n7 (by decide)).tr n8 (by decide)).tr n9 (by decide)).tr n10 (by decide)).tr n11 (by decide)).tr n12 (by decide)).tr n13 (by decide)) (by decide +kernel)
theorem okK_X4_init : okR yX4_init cX4_init 2 none 1 := ⟨by decide +kernel, by decide +kernel, by decide +kernel, by decide +kernel, by decide +kernel, by decide, by decide +kernel⟩
theorem OO_K_X4_init_20 {S : Nat → Nat → Bool} (oo : OkS 21 S) : OkS 29 (sU (sU (sU (sU (sU (sU (sU (sU (sU S 20 5) 20 6) 20 7) 20 8) 20 9) 20 10) 20 11) 20 12) 20 0) := (((((((((oo.up.put (a := 20) (j := 5) (by decide) (by decide +kernel)).up.put (a := 20) (j := 6) (by decide) (by decide +kernel)).up.put (a := 20) (j := 7) (by decide) (by decide +kernel)).up.put (a := 20) (j := 8) (by decide) (by decide +kernel)).up.put (a := 20) (j := 9) (by decide) (by decide +kernel)).up.put (a := 20) (j := 10) (by decide) (by decide +kernel)).up.put (a := 20) (j := 11) (by decide) (by decide +kernel)).up.put (a := 20) (j := 12) (by decide) (by decide +kernel)).put (a := 20) (j := 0) (by decide) (by decide +kernel))
theorem ZZ_K_X4_init_20 {u : Mm} (zz : ZrC 21 u) : ZrC 29 (u) := zz.up.up.up.up.up.up.up.up
set_option maxRecDepth 100000 in
theorem K_X4_init_20 {X : Xc} {d : Nat} {S : Nat → Nat → Bool} {u : Mm} (had : adOk X) (oo : OkS 21 S) (zz : ZrC 21 u) (hz : ∀ j, u.1 20 j = 0) : CK X (d + 1) yX4_init cX4_init 2 [.ref 20, .ref 5] u 21 S 8 96 (u) 29 (sU (sU (sU (sU (sU (sU (sU (sU (sU S 20 5) 20 6) 20 7) 20 8) 20 9) 20 10) 20 11) 20 12) 20 0) := by
  refine CK_of okK_X4_init rfl oo zz ?_
  intro p e s m args below meth c G hA hr hlk hnm
  have zz00 := zz
  refine C_aload_n (n := 0) (i := 0) (v := 20) G (by decide +kernel) rfl rfl ?_
  refine C_obj (i := 3) (a := 20) (r := []) G (by decide +kernel) (by decide +kernel) (by show 1 ≤ d + 1; omega) (by show 0 + 12 ≤ 64 * (d + 1); omega) ?_
  refine C_aload_n (n := 0) (i := 0) (v := 20) G (by decide +kernel) rfl rfl ?_
  refine C_iconst (n := 0) (v := 0) G (by decide +kernel) rfl ?_
  refine C_put0 (i := 9) (x := 4) (y := 1) (ty := .int) G (by decide +kernel) (by decide +kernel) (by decide) (by decide) (by decide) (by decide) (Or.inl (by decide)) (by decide +kernel) rfl rfl (Or.inl (by decide)) (hz 1) ?_
  refine C_aload_n (n := 0) (i := 0) (v := 20) G (by decide +kernel) rfl rfl ?_
  refine C_iconst (n := 0) (v := 0) G (by decide +kernel) rfl ?_
  refine C_put0 (i := 15) (x := 4) (y := 2) (ty := .int) G (by decide +kernel) (by decide +kernel) (by decide) (by decide) (by decide) (by decide) (Or.inl (by decide)) (by decide +kernel) rfl rfl (Or.inl (by decide)) (hz 2) ?_
  refine C_aload_n (n := 0) (i := 0) (v := 20) G (by decide +kernel) rfl rfl ?_
  refine C_iconst (n := 0) (v := 0) G (by decide +kernel) rfl ?_
  refine C_put0 (i := 18) (x := 4) (y := 3) (ty := .int) G (by decide +kernel) (by decide +kernel) (by decide) (by decide) (by decide) (by decide) (Or.inl (by decide)) (by decide +kernel) rfl rfl (Or.inl (by decide)) (hz 3) ?_
  refine C_aload_n (n := 0) (i := 0) (v := 20) G (by decide +kernel) rfl rfl ?_
  refine C_iconst (n := 0) (v := 0) G (by decide +kernel) rfl ?_
  refine C_put0 (i := 21) (x := 4) (y := 4) (ty := .int) G (by decide +kernel) (by decide +kernel) (by decide) (by decide) (by decide) (by decide) (Or.inl (by decide)) (by decide +kernel) rfl rfl (Or.inl (by decide)) (hz 4) ?_
  refine C_aload_n (n := 0) (i := 0) (v := 20) G (by decide +kernel) rfl rfl ?_
  refine C_bipush (n := 8) (v := 8) G (by decide +kernel) rfl ?_
  have oo0 := oo; have zz0 := zz
  refine C_newi (x := 0) (N := 8) G (by decide +kernel) (by decide +kernel) (by decide +kernel) (by decide) hA rfl (by decide) (Nat.le_of_ble_eq_true rfl) (Nat.le_of_ble_eq_true rfl) rfl rfl (fun ad0 n0 => ?_)
  have G := G.nx n0; have oo := oo.up; have zz := zz.up
  refine C_putr (i := 24) (x := 4) (y := 5) (ty := (.array .int)) G (by decide +kernel) (by decide +kernel) (by decide) (by decide) (by decide) (by decide) (Or.inr ⟨(by decide), hnm, rfl⟩) (by decide +kernel) rfl rfl (by decide) (by decide +kernel) (by decide) ?_
  have oo := oo.put (a := 20) (j := 5) (by decide) (by decide +kernel)
  refine C_aload_n (n := 0) (i := 0) (v := 20) G (by decide +kernel) rfl rfl ?_
  refine C_bipush (n := 8) (v := 8) G (by decide +kernel) rfl ?_
  have oo0 := oo; have zz0 := zz
  refine C_newi (x := 0) (N := 8) G (by decide +kernel) (by decide +kernel) (by decide +kernel) (by decide) hA rfl (by decide) (Nat.le_of_ble_eq_true rfl) (Nat.le_of_ble_eq_true rfl) rfl rfl (fun ad1 n1 => ?_)
  have G := G.nx n1; have oo := oo.up; have zz := zz.up
  refine C_putr (i := 28) (x := 4) (y := 6) (ty := (.array .int)) G (by decide +kernel) (by decide +kernel) (by decide) (by decide) (by decide) (by decide) (Or.inr ⟨(by decide), hnm, rfl⟩) (by decide +kernel) rfl rfl (by decide) (by decide +kernel) (by decide) ?_
  have oo := oo.put (a := 20) (j := 6) (by decide) (by decide +kernel)
  refine C_aload_n (n := 0) (i := 0) (v := 20) G (by decide +kernel) rfl rfl ?_
  refine C_bipush (n := 8) (v := 8) G (by decide +kernel) rfl ?_
  have oo0 := oo; have zz0 := zz
  refine C_newi (x := 0) (N := 8) G (by decide +kernel) (by decide +kernel) (by decide +kernel) (by decide) hA rfl (by decide) (Nat.le_of_ble_eq_true rfl) (Nat.le_of_ble_eq_true rfl) rfl rfl (fun ad2 n2 => ?_)
  have G := G.nx n2; have oo := oo.up; have zz := zz.up
  refine C_putr (i := 31) (x := 4) (y := 7) (ty := (.array .int)) G (by decide +kernel) (by decide +kernel) (by decide) (by decide) (by decide) (by decide) (Or.inr ⟨(by decide), hnm, rfl⟩) (by decide +kernel) rfl rfl (by decide) (by decide +kernel) (by decide) ?_
  have oo := oo.put (a := 20) (j := 7) (by decide) (by decide +kernel)
  refine C_aload_n (n := 0) (i := 0) (v := 20) G (by decide +kernel) rfl rfl ?_
  refine C_bipush (n := 8) (v := 8) G (by decide +kernel) rfl ?_
  have oo0 := oo; have zz0 := zz
  refine C_newi (x := 0) (N := 8) G (by decide +kernel) (by decide +kernel) (by decide +kernel) (by decide) hA rfl (by decide) (Nat.le_of_ble_eq_true rfl) (Nat.le_of_ble_eq_true rfl) rfl rfl (fun ad3 n3 => ?_)
  have G := G.nx n3; have oo := oo.up; have zz := zz.up
  refine C_putr (i := 34) (x := 4) (y := 8) (ty := (.array .int)) G (by decide +kernel) (by decide +kernel) (by decide) (by decide) (by decide) (by decide) (Or.inr ⟨(by decide), hnm, rfl⟩) (by decide +kernel) rfl rfl (by decide) (by decide +kernel) (by decide) ?_
  have oo := oo.put (a := 20) (j := 8) (by decide) (by decide +kernel)
  refine C_aload_n (n := 0) (i := 0) (v := 20) G (by decide +kernel) rfl rfl ?_
  refine C_bipush (n := 8) (v := 8) G (by decide +kernel) rfl ?_
  have oo0 := oo; have zz0 := zz
  refine C_newi (x := 0) (N := 8) G (by decide +kernel) (by decide +kernel) (by decide +kernel) (by decide) hA rfl (by decide) (Nat.le_of_ble_eq_true rfl) (Nat.le_of_ble_eq_true rfl) rfl rfl (fun ad4 n4 => ?_)
  have G := G.nx n4; have oo := oo.up; have zz := zz.up
  refine C_putr (i := 37) (x := 4) (y := 9) (ty := (.array .int)) G (by decide +kernel) (by decide +kernel) (by decide) (by decide) (by decide) (by decide) (Or.inr ⟨(by decide), hnm, rfl⟩) (by decide +kernel) rfl rfl (by decide) (by decide +kernel) (by decide) ?_
  have oo := oo.put (a := 20) (j := 9) (by decide) (by decide +kernel)
  refine C_aload_n (n := 0) (i := 0) (v := 20) G (by decide +kernel) rfl rfl ?_
  refine C_bipush (n := 8) (v := 8) G (by decide +kernel) rfl ?_
  have oo0 := oo; have zz0 := zz
  refine C_newi (x := 0) (N := 8) G (by decide +kernel) (by decide +kernel) (by decide +kernel) (by decide) hA rfl (by decide) (Nat.le_of_ble_eq_true rfl) (Nat.le_of_ble_eq_true rfl) rfl rfl (fun ad5 n5 => ?_)
  have G := G.nx n5; have oo := oo.up; have zz := zz.up
  refine C_putr (i := 40) (x := 4) (y := 10) (ty := (.array .int)) G (by decide +kernel) (by decide +kernel) (by decide) (by decide) (by decide) (by decide) (Or.inr ⟨(by decide), hnm, rfl⟩) (by decide +kernel) rfl rfl (by decide) (by decide +kernel) (by decide) ?_
  have oo := oo.put (a := 20) (j := 10) (by decide) (by decide +kernel)
  refine C_aload_n (n := 0) (i := 0) (v := 20) G (by decide +kernel) rfl rfl ?_
  refine C_bipush (n := 8) (v := 8) G (by decide +kernel) rfl ?_
  have oo0 := oo; have zz0 := zz
  refine C_newi (x := 0) (N := 8) G (by decide +kernel) (by decide +kernel) (by decide +kernel) (by decide) hA rfl (by decide) (Nat.le_of_ble_eq_true rfl) (Nat.le_of_ble_eq_true rfl) rfl rfl (fun ad6 n6 => ?_)
  have G := G.nx n6; have oo := oo.up; have zz := zz.up
  refine C_putr (i := 43) (x := 4) (y := 11) (ty := (.array .int)) G (by decide +kernel) (by decide +kernel) (by decide) (by decide) (by decide) (by decide) (Or.inr ⟨(by decide), hnm, rfl⟩) (by decide +kernel) rfl rfl (by decide) (by decide +kernel) (by decide) ?_
  have oo := oo.put (a := 20) (j := 11) (by decide) (by decide +kernel)
  refine C_aload_n (n := 0) (i := 0) (v := 20) G (by decide +kernel) rfl rfl ?_
  refine C_bipush (n := 40) (v := 40) G (by decide +kernel) rfl ?_
  have oo0 := oo; have zz0 := zz
  refine C_newi (x := 0) (N := 40) G (by decide +kernel) (by decide +kernel) (by decide +kernel) (by decide) hA rfl (by decide) (Nat.le_of_ble_eq_true rfl) (Nat.le_of_ble_eq_true rfl) rfl rfl (fun ad7 n7 => ?_)
  have G := G.nx n7; have oo := oo.up; have zz := zz.up
  refine C_putr (i := 46) (x := 4) (y := 12) (ty := (.array .int)) G (by decide +kernel) (by decide +kernel) (by decide) (by decide) (by decide) (by decide) (Or.inr ⟨(by decide), hnm, rfl⟩) (by decide +kernel) rfl rfl (by decide) (by decide +kernel) (by decide) ?_
  have oo := oo.put (a := 20) (j := 12) (by decide) (by decide +kernel)
  refine C_aload_n (n := 0) (i := 0) (v := 20) G (by decide +kernel) rfl rfl ?_
  refine C_iconst (n := 0) (v := 0) G (by decide +kernel) rfl ?_
  refine C_put0 (i := 49) (x := 4) (y := 13) (ty := .int) G (by decide +kernel) (by decide +kernel) (by decide) (by decide) (by decide) (by decide) (Or.inl (by decide)) (by decide +kernel) rfl rfl (Or.inl (by decide)) (hz 13) ?_
  refine C_aload_n (n := 0) (i := 0) (v := 20) G (by decide +kernel) rfl rfl ?_
  refine C_iconst (n := 0) (v := 0) G (by decide +kernel) rfl ?_
  refine C_put0 (i := 52) (x := 4) (y := 14) (ty := .int) G (by decide +kernel) (by decide +kernel) (by decide) (by decide) (by decide) (by decide) (Or.inl (by decide)) (by decide +kernel) rfl rfl (Or.inl (by decide)) (hz 14) ?_
  refine C_aload_n (n := 0) (i := 0) (v := 20) G (by decide +kernel) rfl rfl ?_
  refine C_aload_n (n := 1) (i := 1) (v := 5) G (by decide +kernel) rfl rfl ?_
  refine C_putr (i := 55) (x := 4) (y := 0) (ty := (.object "StatueRent$City")) G (by decide +kernel) (by decide +kernel) (by decide) (by decide) (by decide) (by decide) (Or.inr ⟨(by decide), hnm, rfl⟩) (by decide +kernel) rfl rfl (by decide) (by decide +kernel) (by decide) ?_
  have oo := oo.put (a := 20) (j := 0) (by decide) (by decide +kernel)
  exact C_ret (X0 := X) (ad := ad7) G hr hlk (((((((n0.tr n1 (by decide)).tr n2 (by decide)).tr n3 (by decide)).tr n4 (by decide)).tr n5 (by decide)).tr n6 (by decide)).tr n7 (by decide)) (by decide +kernel)
theorem okK_X8_init : okR yX8_init cX8_init 1 none 0 := ⟨by decide +kernel, by decide +kernel, by decide +kernel, by decide +kernel, by decide +kernel, by decide, by decide +kernel⟩
theorem OO_K_X8_init_29 {S : Nat → Nat → Bool} (oo : OkS 30 S) : OkS 34 (sU (sU (sU (sU S 29 1) 29 2) 29 3) 29 4) := ((((oo.up.put (a := 29) (j := 1) (by decide) (by decide +kernel)).up.put (a := 29) (j := 2) (by decide) (by decide +kernel)).up.put (a := 29) (j := 3) (by decide) (by decide +kernel)).up.put (a := 29) (j := 4) (by decide) (by decide +kernel))
theorem ZZ_K_X8_init_29 {u : Mm} (zz : ZrC 30 u) : ZrC 34 (u) := zz.up.up.up.up
set_option maxRecDepth 100000 in
theorem K_X8_init_29 {X : Xc} {d : Nat} {S : Nat → Nat → Bool} {u : Mm} (had : adOk X) (oo : OkS 30 S) (zz : ZrC 30 u) (hz : ∀ j, u.1 29 j = 0) : CK X (d + 1) yX8_init cX8_init 1 [.ref 29] u 30 S 4 140 (u) 34 (sU (sU (sU (sU S 29 1) 29 2) 29 3) 29 4) := by
  refine CK_of okK_X8_init rfl oo zz ?_
  intro p e s m args below meth c G hA hr hlk hnm
  have zz00 := zz
  refine C_aload_n (n := 0) (i := 0) (v := 29) G (by decide +kernel) rfl rfl ?_
  refine C_obj (i := 3) (a := 29) (r := []) G (by decide +kernel) (by decide +kernel) (by show 1 ≤ d + 1; omega) (by show 0 + 12 ≤ 64 * (d + 1); omega) ?_
  refine C_aload_n (n := 0) (i := 0) (v := 29) G (by decide +kernel) rfl rfl ?_
  refine C_iconst (n := 0) (v := 0) G (by decide +kernel) rfl ?_
  refine C_put0 (i := 9) (x := 8) (y := 0) (ty := .int) G (by decide +kernel) (by decide +kernel) (by decide) (by decide) (by decide) (by decide) (Or.inl (by decide)) (by decide +kernel) rfl rfl (Or.inl (by decide)) (hz 0) ?_
  refine C_aload_n (n := 0) (i := 0) (v := 29) G (by decide +kernel) rfl rfl ?_
  refine C_bipush (n := 40) (v := 40) G (by decide +kernel) rfl ?_
  have oo0 := oo; have zz0 := zz
  refine C_newi (x := 0) (N := 40) G (by decide +kernel) (by decide +kernel) (by decide +kernel) (by decide) hA rfl (by decide) (Nat.le_of_ble_eq_true rfl) (Nat.le_of_ble_eq_true rfl) rfl rfl (fun ad0 n0 => ?_)
  have G := G.nx n0; have oo := oo.up; have zz := zz.up
  refine C_putr (i := 15) (x := 8) (y := 1) (ty := (.array .int)) G (by decide +kernel) (by decide +kernel) (by decide) (by decide) (by decide) (by decide) (Or.inr ⟨(by decide), hnm, rfl⟩) (by decide +kernel) rfl rfl (by decide) (by decide +kernel) (by decide) ?_
  have oo := oo.put (a := 29) (j := 1) (by decide) (by decide +kernel)
  refine C_aload_n (n := 0) (i := 0) (v := 29) G (by decide +kernel) rfl rfl ?_
  refine C_bipush (n := 40) (v := 40) G (by decide +kernel) rfl ?_
  have oo0 := oo; have zz0 := zz
  refine C_newi (x := 0) (N := 40) G (by decide +kernel) (by decide +kernel) (by decide +kernel) (by decide) hA rfl (by decide) (Nat.le_of_ble_eq_true rfl) (Nat.le_of_ble_eq_true rfl) rfl rfl (fun ad1 n1 => ?_)
  have G := G.nx n1; have oo := oo.up; have zz := zz.up
  refine C_putr (i := 19) (x := 8) (y := 2) (ty := (.array .int)) G (by decide +kernel) (by decide +kernel) (by decide) (by decide) (by decide) (by decide) (Or.inr ⟨(by decide), hnm, rfl⟩) (by decide +kernel) rfl rfl (by decide) (by decide +kernel) (by decide) ?_
  have oo := oo.put (a := 29) (j := 2) (by decide) (by decide +kernel)
  refine C_aload_n (n := 0) (i := 0) (v := 29) G (by decide +kernel) rfl rfl ?_
  refine C_bipush (n := 40) (v := 40) G (by decide +kernel) rfl ?_
  have oo0 := oo; have zz0 := zz
  refine C_newi (x := 0) (N := 40) G (by decide +kernel) (by decide +kernel) (by decide +kernel) (by decide) hA rfl (by decide) (Nat.le_of_ble_eq_true rfl) (Nat.le_of_ble_eq_true rfl) rfl rfl (fun ad2 n2 => ?_)
  have G := G.nx n2; have oo := oo.up; have zz := zz.up
  refine C_putr (i := 22) (x := 8) (y := 3) (ty := (.array .int)) G (by decide +kernel) (by decide +kernel) (by decide) (by decide) (by decide) (by decide) (Or.inr ⟨(by decide), hnm, rfl⟩) (by decide +kernel) rfl rfl (by decide) (by decide +kernel) (by decide) ?_
  have oo := oo.put (a := 29) (j := 3) (by decide) (by decide +kernel)
  refine C_aload_n (n := 0) (i := 0) (v := 29) G (by decide +kernel) rfl rfl ?_
  refine C_bipush (n := 20) (v := 20) G (by decide +kernel) rfl ?_
  have oo0 := oo; have zz0 := zz
  refine C_newi (x := 0) (N := 20) G (by decide +kernel) (by decide +kernel) (by decide +kernel) (by decide) hA rfl (by decide) (Nat.le_of_ble_eq_true rfl) (Nat.le_of_ble_eq_true rfl) rfl rfl (fun ad3 n3 => ?_)
  have G := G.nx n3; have oo := oo.up; have zz := zz.up
  refine C_putr (i := 25) (x := 8) (y := 4) (ty := (.array .int)) G (by decide +kernel) (by decide +kernel) (by decide) (by decide) (by decide) (by decide) (Or.inr ⟨(by decide), hnm, rfl⟩) (by decide +kernel) rfl rfl (by decide) (by decide +kernel) (by decide) ?_
  have oo := oo.put (a := 29) (j := 4) (by decide) (by decide +kernel)
  exact C_ret (X0 := X) (ad := ad3) G hr hlk (((n0.tr n1 (by decide)).tr n2 (by decide)).tr n3 (by decide)) (by decide +kernel)
theorem OO_K_X11_init_4 {S : Nat → Nat → Bool} (oo : OkS 5 S) : OkS 34 (sU (sU (sU (sU (sU (sU (sU (sU (sU (sU (sU (sU (sU (sU (sU (sU (sU (sU (sU (sU (sU (sU (sU (sU (sU (sU (sU (sU (sU (sU S 5 0) 5 1) 5 4) 5 5) 5 6) 5 7) 5 8) 5 9) 5 10) 5 11) 5 12) 5 13) 5 14) 5 15) 4 0) 20 5) 20 6) 20 7) 20 8) 20 9) 20 10) 20 11) 20 12) 20 0) 4 1) 29 1) 29 2) 29 3) 29 4) 4 2) := ((OO_K_X8_init_29 ((OO_K_X4_init_20 ((OO_K_X0_init_5 oo.up).put (a := 4) (j := 0) (by decide) (by decide +kernel)).up).put (a := 4) (j := 1) (by decide) (by decide +kernel)).up).put (a := 4) (j := 2) (by decide) (by decide +kernel))
theorem ZZ_K_X11_init_4 {u : Mm} (zz : ZrC 5 u) : ZrC 34 ((mI u 5 3 3)) := (ZZ_K_X8_init_29 (ZZ_K_X4_init_20 (ZZ_K_X0_init_5 zz.up).up).up)
set_option maxRecDepth 100000 in
theorem K_X11_init_4 {X : Xc} {d : Nat} {S : Nat → Nat → Bool} {u : Mm} (had : adOk X) (oo : OkS 5 S) (zz : ZrC 5 u) (hz : ∀ j, u.1 4 j = 0) : CK X (d + 2) yX11_init cX11_init 1 [.ref 4] u 5 S 29 492 ((mI u 5 3 3)) 34 (sU (sU (sU (sU (sU (sU (sU (sU (sU (sU (sU (sU (sU (sU (sU (sU (sU (sU (sU (sU (sU (sU (sU (sU (sU (sU (sU (sU (sU (sU S 5 0) 5 1) 5 4) 5 5) 5 6) 5 7) 5 8) 5 9) 5 10) 5 11) 5 12) 5 13) 5 14) 5 15) 4 0) 20 5) 20 6) 20 7) 20 8) 20 9) 20 10) 20 11) 20 12) 20 0) 4 1) 29 1) 29 2) 29 3) 29 4) 4 2) := by
  refine CK_of okK_X11_init rfl oo zz ?_
  intro p e s m args below meth c G hA hr hlk hnm
  have zz00 := zz
  refine C_aload_n (n := 0) (i := 0) (v := 4) G (by decide +kernel) rfl rfl ?_
  refine C_obj (i := 1) (a := 4) (r := []) G (by decide +kernel) (by decide +kernel) (by show 1 ≤ d + 2; omega) (by show 0 + 12 ≤ 64 * (d + 2); omega) ?_
  refine C_aload_n (n := 0) (i := 0) (v := 4) G (by decide +kernel) rfl rfl ?_
  have hz5 : ∀ j, u.1 5 j = 0 := fun j => congrFun (zz 5 (Nat.le_refl _)).1 j
  have hy5 : ∀ j, u.2 5 j = 0 := fun j => congrFun (zz 5 (Nat.le_refl _)).2 j
  refine C_new (i := 7) (x := 0) G (by decide +kernel) (by decide +kernel) (by decide) (by decide) ⟨(by decide +kernel), (by decide +kernel), (by decide +kernel)⟩ hA (Nat.le_of_ble_eq_true rfl) (Nat.le_of_ble_eq_true rfl) rfl rfl (fun ad0 n0 => ?_)
  have G := G.nx n0; have oo := oo.up; have zz := zz.up
  refine C_dup_r G (by decide +kernel) ?_
  refine C_callN (y := yX0_init) (bytes := cX0_init) (maxL := 1) (i := 9) (d := d + 1) (a := 5) (as := []) (r := [.ref 5, .ref 4]) G okK_X0_init ⟨rfl, (by decide +kernel)⟩ (by decide +kernel) (Nat.le_refl _) (Nat.le_refl _) ⟨Nat.le_of_ble_eq_true rfl, Nat.le_of_ble_eq_true rfl⟩ hA (K_X0_init_5 (d := d) G.ad oo zz hz5) rfl (by decide) (by decide +kernel) rfl rfl OO_K_X0_init_5 ZZ_K_X0_init_5 (fun ad1 n1 => ?_)
  have G := G.nx n1; have oo := OO_K_X0_init_5 oo; have zz := ZZ_K_X0_init_5 zz
  refine C_putr (i := 10) (x := 11) (y := 0) (ty := (.object "StatueRent$City")) G (by decide +kernel) (by decide +kernel) (by decide) (by decide) (by decide) (by decide) (Or.inr ⟨(by decide), hnm, rfl⟩) (by decide +kernel) rfl rfl (by decide) (by decide +kernel) (by decide) ?_
  have oo := oo.put (a := 4) (j := 0) (by decide) (by decide +kernel)
  refine C_aload_n (n := 0) (i := 0) (v := 4) G (by decide +kernel) rfl rfl ?_
  have hz20 : ∀ j, (mI u 5 3 3).1 20 j = 0 := fun j => congrFun (zz 20 (Nat.le_refl _)).1 j
  have hy20 : ∀ j, (mI u 5 3 3).2 20 j = 0 := fun j => congrFun (zz 20 (Nat.le_refl _)).2 j
  refine C_new (i := 16) (x := 4) G (by decide +kernel) (by decide +kernel) (by decide) (by decide) ⟨(by decide +kernel), (by decide +kernel), (by decide +kernel)⟩ hA (Nat.le_of_ble_eq_true rfl) (Nat.le_of_ble_eq_true rfl) rfl rfl (fun ad2 n2 => ?_)
  have G := G.nx n2; have oo := oo.up; have zz := zz.up
  refine C_dup_r G (by decide +kernel) ?_
  refine C_aload_n (n := 0) (i := 0) (v := 4) G (by decide +kernel) rfl rfl ?_
  refine C_getf (i := 10) (x := 11) (y := 0) (v := .ref 5) G (by decide +kernel) (by decide +kernel) (by decide) (by decide) (by decide) rfl ?_
  refine C_call (y := yX4_init) (bytes := cX4_init) (maxL := 2) (i := 18) (d := d + 1) (a := 20) (as := [.ref 5]) (r := [.ref 20, .ref 4]) G okK_X4_init ⟨rfl, (by decide +kernel)⟩ (by decide +kernel) (Nat.le_refl _) (Nat.le_refl _) ⟨Nat.le_of_ble_eq_true rfl, Nat.le_of_ble_eq_true rfl⟩ hA (K_X4_init_20 (d := d) G.ad oo zz hz20) rfl (by decide) (by decide +kernel) rfl rfl OO_K_X4_init_20 ZZ_K_X4_init_20 (fun ad3 n3 => ?_)
  have G := G.nx n3; have oo := OO_K_X4_init_20 oo; have zz := ZZ_K_X4_init_20 zz
  refine C_putr (i := 21) (x := 11) (y := 1) (ty := (.object "StatueRent$Life")) G (by decide +kernel) (by decide +kernel) (by decide) (by decide) (by decide) (by decide) (Or.inr ⟨(by decide), hnm, rfl⟩) (by decide +kernel) rfl rfl (by decide) (by decide +kernel) (by decide) ?_
  have oo := oo.put (a := 4) (j := 1) (by decide) (by decide +kernel)
  refine C_aload_n (n := 0) (i := 0) (v := 4) G (by decide +kernel) rfl rfl ?_
  have hz29 : ∀ j, (mI u 5 3 3).1 29 j = 0 := fun j => congrFun (zz 29 (Nat.le_refl _)).1 j
  have hy29 : ∀ j, (mI u 5 3 3).2 29 j = 0 := fun j => congrFun (zz 29 (Nat.le_refl _)).2 j
  refine C_new (i := 25) (x := 8) G (by decide +kernel) (by decide +kernel) (by decide) (by decide) ⟨(by decide +kernel), (by decide +kernel), (by decide +kernel)⟩ hA (Nat.le_of_ble_eq_true rfl) (Nat.le_of_ble_eq_true rfl) rfl rfl (fun ad4 n4 => ?_)
  have G := G.nx n4; have oo := oo.up; have zz := zz.up
  refine C_dup_r G (by decide +kernel) ?_
  refine C_callN (y := yX8_init) (bytes := cX8_init) (maxL := 1) (i := 27) (d := d + 1) (a := 29) (as := []) (r := [.ref 29, .ref 4]) G okK_X8_init ⟨rfl, (by decide +kernel)⟩ (by decide +kernel) (Nat.le_refl _) (Nat.le_refl _) ⟨Nat.le_of_ble_eq_true rfl, Nat.le_of_ble_eq_true rfl⟩ hA (K_X8_init_29 (d := d) G.ad oo zz hz29) rfl (by decide) (by decide +kernel) rfl rfl OO_K_X8_init_29 ZZ_K_X8_init_29 (fun ad5 n5 => ?_)
  have G := G.nx n5; have oo := OO_K_X8_init_29 oo; have zz := ZZ_K_X8_init_29 zz
  refine C_putr (i := 28) (x := 11) (y := 2) (ty := (.object "StatueRent$Sentence")) G (by decide +kernel) (by decide +kernel) (by decide) (by decide) (by decide) (by decide) (Or.inr ⟨(by decide), hnm, rfl⟩) (by decide +kernel) rfl rfl (by decide) (by decide +kernel) (by decide) ?_
  have oo := oo.put (a := 4) (j := 2) (by decide) (by decide +kernel)
  exact C_ret (X0 := X) (ad := ad5) G hr hlk (((((n0.tr n1 (by decide)).tr n2 (by decide)).tr n3 (by decide)).tr n4 (by decide)).tr n5 (by decide)) (by decide +kernel)
