/-! constructors, made by con.py -/
set_option maxRecDepth 100000 in
theorem OO_K_X13_init_234 {S : Nat → Nat → Bool} (oo : OkS 235 S) : OkS 261 (sU (sU (sU (sU (sU (sU (sU (sU (sU (sU (sU (sU (sU (sU (sU (sU (sU (sU (sU (sU (sU (sU (sU (sU (sU (sU S 234 1) 234 14) 234 15) 234 16) 234 17) 234 18) 234 19) 234 20) 234 21) 234 22) 234 23) 234 26) 234 29) 234 30) 234 31) 234 32) 234 33) 234 34) 234 35) 234 36) 234 40) 234 49) 234 50) 234 52) 234 53) 234 56) := ((((((((((((((((((((((((((oo.up.put (a := 234) (j := 1) (by decide) (by decide +kernel)).up.put (a := 234) (j := 14) (by decide) (by decide +kernel)).up.put (a := 234) (j := 15) (by decide) (by decide +kernel)).up.put (a := 234) (j := 16) (by decide) (by decide +kernel)).up.put (a := 234) (j := 17) (by decide) (by decide +kernel)).up.put (a := 234) (j := 18) (by decide) (by decide +kernel)).up.put (a := 234) (j := 19) (by decide) (by decide +kernel)).up.put (a := 234) (j := 20) (by decide) (by decide +kernel)).up.put (a := 234) (j := 21) (by decide) (by decide +kernel)).up.put (a := 234) (j := 22) (by decide) (by decide +kernel)).up.put (a := 234) (j := 23) (by decide) (by decide +kernel)).up.put (a := 234) (j := 26) (by decide) (by decide +kernel)).up.put (a := 234) (j := 29) (by decide) (by decide +kernel)).up.put (a := 234) (j := 30) (by decide) (by decide +kernel)).up.put (a := 234) (j := 31) (by decide) (by decide +kernel)).up.put (a := 234) (j := 32) (by decide) (by decide +kernel)).up.put (a := 234) (j := 33) (by decide) (by decide +kernel)).up.put (a := 234) (j := 34) (by decide) (by decide +kernel)).up.put (a := 234) (j := 35) (by decide) (by decide +kernel)).up.put (a := 234) (j := 36) (by decide) (by decide +kernel)).up.put (a := 234) (j := 40) (by decide) (by decide +kernel)).up.put (a := 234) (j := 49) (by decide) (by decide +kernel)).up.put (a := 234) (j := 50) (by decide) (by decide +kernel)).up.put (a := 234) (j := 52) (by decide) (by decide +kernel)).up.put (a := 234) (j := 53) (by decide) (by decide +kernel)).up.put (a := 234) (j := 56) (by decide) (by decide +kernel))
set_option maxRecDepth 100000 in
theorem ZZ_K_X13_init_234 {u : Mm} (zz : ZrC 235 u) : ZrC 261 (uQ (mI (mI (mI (mI (mI (mI u 234 42 (-1)) 234 45 (-1)) 234 46 (-1)) 234 47 (-1)) 234 48 (-1)) 236 5 3) 8) := (((((((zz.up.up.up.up.up.up.up.up.up.up.up.up.up.up.up.up.up.up.up.up.up.mI (a := 234) (j := 42) (x := (-1)) (by decide)).mI (a := 234) (j := 45) (x := (-1)) (by decide)).mI (a := 234) (j := 46) (x := (-1)) (by decide)).mI (a := 234) (j := 47) (x := (-1)) (by decide)).mI (a := 234) (j := 48) (x := (-1)) (by decide)).up.up.up.up.up.mI (a := 236) (j := 5) (x := 3) (by decide)).uQ (n := 8) (by decide))
set_option maxRecDepth 100000 in
theorem K_X13_init_234 {X : Xc} {d : Nat} {S : Nat → Nat → Bool} {u : Mm} (had : adOk X) (oo : OkS 235 S) (zz : ZrC 235 u) (hz : ∀ j, u.1 234 j = 0) : CK X (d + 1) yX13_init cX13_init 1 [.ref 234] u 235 S 26 6652 (uQ (mI (mI (mI (mI (mI (mI u 234 42 (-1)) 234 45 (-1)) 234 46 (-1)) 234 47 (-1)) 234 48 (-1)) 236 5 3) 8) 261 (sU (sU (sU (sU (sU (sU (sU (sU (sU (sU (sU (sU (sU (sU (sU (sU (sU (sU (sU (sU (sU (sU (sU (sU (sU (sU S 234 1) 234 14) 234 15) 234 16) 234 17) 234 18) 234 19) 234 20) 234 21) 234 22) 234 23) 234 26) 234 29) 234 30) 234 31) 234 32) 234 33) 234 34) 234 35) 234 36) 234 40) 234 49) 234 50) 234 52) 234 53) 234 56) := by
  refine CK_of okK_X13_init rfl oo zz ?_
  intro p e s m args below meth c G hA hr hlk hnm
  have zz00 := zz
  refine C_aload_n (n := 0) (i := 0) (v := 234) G (by decide +kernel) rfl rfl ?_
  refine C_obj (i := 93) (a := 234) (r := []) G (by decide +kernel) (by decide +kernel) (by show 1 ≤ d + 1; omega) (by show 0 + 12 ≤ 64 * (d + 1); omega) ?_
  refine C_aload_n (n := 0) (i := 0) (v := 234) G (by decide +kernel) rfl rfl ?_
  refine C_sipush (n := 940) (v := 940) G (by decide +kernel) rfl ?_
  have oo0 := oo; have zz0 := zz
  refine C_newi (x := 0) (N := 940) G (by decide +kernel) (by decide +kernel) (by decide +kernel) (by decide) hA rfl (by decide) (Nat.le_of_ble_eq_true rfl) (Nat.le_of_ble_eq_true rfl) rfl rfl (fun ad0 n0 => ?_)
  have G := G.nx n0; have oo := oo.up; have zz := zz.up
  refine C_putr (i := 7) (x := 13) (y := 1) (ty := (.array .int)) G (by decide +kernel) (by decide +kernel) (by decide) (by decide) (by decide) (by decide) (Or.inr ⟨(by decide), hnm, rfl⟩) (by decide +kernel) rfl rfl (by decide) (by decide +kernel) (by decide) ?_
  have oo := oo.put (a := 234) (j := 1) (by decide) (by decide +kernel)
  refine C_aload_n (n := 0) (i := 0) (v := 234) G (by decide +kernel) rfl rfl ?_
  refine C_sipush (n := 532) (v := 532) G (by decide +kernel) rfl ?_
  have oo0 := oo; have zz0 := zz
  refine C_newi (x := 0) (N := 532) G (by decide +kernel) (by decide +kernel) (by decide +kernel) (by decide) hA rfl (by decide) (Nat.le_of_ble_eq_true rfl) (Nat.le_of_ble_eq_true rfl) rfl rfl (fun ad1 n1 => ?_)
  have G := G.nx n1; have oo := oo.up; have zz := zz.up
  refine C_putr (i := 98) (x := 13) (y := 14) (ty := (.array .int)) G (by decide +kernel) (by decide +kernel) (by decide) (by decide) (by decide) (by decide) (Or.inr ⟨(by decide), hnm, rfl⟩) (by decide +kernel) rfl rfl (by decide) (by decide +kernel) (by decide) ?_
  have oo := oo.put (a := 234) (j := 14) (by decide) (by decide +kernel)
  refine C_aload_n (n := 0) (i := 0) (v := 234) G (by decide +kernel) rfl rfl ?_
  refine C_sipush (n := 198) (v := 198) G (by decide +kernel) rfl ?_
  have oo0 := oo; have zz0 := zz
  refine C_newi (x := 0) (N := 198) G (by decide +kernel) (by decide +kernel) (by decide +kernel) (by decide) hA rfl (by decide) (Nat.le_of_ble_eq_true rfl) (Nat.le_of_ble_eq_true rfl) rfl rfl (fun ad2 n2 => ?_)
  have G := G.nx n2; have oo := oo.up; have zz := zz.up
  refine C_putr (i := 101) (x := 13) (y := 15) (ty := (.array .int)) G (by decide +kernel) (by decide +kernel) (by decide) (by decide) (by decide) (by decide) (Or.inr ⟨(by decide), hnm, rfl⟩) (by decide +kernel) rfl rfl (by decide) (by decide +kernel) (by decide) ?_
  have oo := oo.put (a := 234) (j := 15) (by decide) (by decide +kernel)
  refine C_aload_n (n := 0) (i := 0) (v := 234) G (by decide +kernel) rfl rfl ?_
  refine C_sipush (n := 1064) (v := 1064) G (by decide +kernel) rfl ?_
  have oo0 := oo; have zz0 := zz
  refine C_newi (x := 0) (N := 1064) G (by decide +kernel) (by decide +kernel) (by decide +kernel) (by decide) hA rfl (by decide) (Nat.le_of_ble_eq_true rfl) (Nat.le_of_ble_eq_true rfl) rfl rfl (fun ad3 n3 => ?_)
  have G := G.nx n3; have oo := oo.up; have zz := zz.up
  refine C_putr (i := 104) (x := 13) (y := 16) (ty := (.array .int)) G (by decide +kernel) (by decide +kernel) (by decide) (by decide) (by decide) (by decide) (Or.inr ⟨(by decide), hnm, rfl⟩) (by decide +kernel) rfl rfl (by decide) (by decide +kernel) (by decide) ?_
  have oo := oo.put (a := 234) (j := 16) (by decide) (by decide +kernel)
  refine C_aload_n (n := 0) (i := 0) (v := 234) G (by decide +kernel) rfl rfl ?_
  refine C_sipush (n := 736) (v := 736) G (by decide +kernel) rfl ?_
  have oo0 := oo; have zz0 := zz
  refine C_newi (x := 0) (N := 736) G (by decide +kernel) (by decide +kernel) (by decide +kernel) (by decide) hA rfl (by decide) (Nat.le_of_ble_eq_true rfl) (Nat.le_of_ble_eq_true rfl) rfl rfl (fun ad4 n4 => ?_)
  have G := G.nx n4; have oo := oo.up; have zz := zz.up
  refine C_putr (i := 107) (x := 13) (y := 17) (ty := (.array .int)) G (by decide +kernel) (by decide +kernel) (by decide) (by decide) (by decide) (by decide) (Or.inr ⟨(by decide), hnm, rfl⟩) (by decide +kernel) rfl rfl (by decide) (by decide +kernel) (by decide) ?_
  have oo := oo.put (a := 234) (j := 17) (by decide) (by decide +kernel)
  refine C_aload_n (n := 0) (i := 0) (v := 234) G (by decide +kernel) rfl rfl ?_
  refine C_bipush (n := 92) (v := 92) G (by decide +kernel) rfl ?_
  have oo0 := oo; have zz0 := zz
  refine C_newi (x := 0) (N := 92) G (by decide +kernel) (by decide +kernel) (by decide +kernel) (by decide) hA rfl (by decide) (Nat.le_of_ble_eq_true rfl) (Nat.le_of_ble_eq_true rfl) rfl rfl (fun ad5 n5 => ?_)
  have G := G.nx n5; have oo := oo.up; have zz := zz.up
  refine C_putr (i := 110) (x := 13) (y := 18) (ty := (.array .int)) G (by decide +kernel) (by decide +kernel) (by decide) (by decide) (by decide) (by decide) (Or.inr ⟨(by decide), hnm, rfl⟩) (by decide +kernel) rfl rfl (by decide) (by decide +kernel) (by decide) ?_
  have oo := oo.put (a := 234) (j := 18) (by decide) (by decide +kernel)
  refine C_aload_n (n := 0) (i := 0) (v := 234) G (by decide +kernel) rfl rfl ?_
  refine C_bipush (n := 29) (v := 29) G (by decide +kernel) rfl ?_
  have oo0 := oo; have zz0 := zz
  refine C_newl (x := 0) (N := 29) G (by decide +kernel) (by decide +kernel) (by decide +kernel) (by decide) hA rfl (by decide) (Nat.le_of_ble_eq_true rfl) (Nat.le_of_ble_eq_true rfl) rfl rfl (fun ad6 n6 => ?_)
  have G := G.nx n6; have oo := oo.up; have zz := zz.up
  refine C_putr (i := 113) (x := 13) (y := 19) (ty := (.array .long)) G (by decide +kernel) (by decide +kernel) (by decide) (by decide) (by decide) (by decide) (Or.inr ⟨(by decide), hnm, rfl⟩) (by decide +kernel) rfl rfl (by decide) (by decide +kernel) (by decide) ?_
  have oo := oo.put (a := 234) (j := 19) (by decide) (by decide +kernel)
  refine C_aload_n (n := 0) (i := 0) (v := 234) G (by decide +kernel) rfl rfl ?_
  refine C_bipush (n := 29) (v := 29) G (by decide +kernel) rfl ?_
  have oo0 := oo; have zz0 := zz
  refine C_newl (x := 0) (N := 29) G (by decide +kernel) (by decide +kernel) (by decide +kernel) (by decide) hA rfl (by decide) (Nat.le_of_ble_eq_true rfl) (Nat.le_of_ble_eq_true rfl) rfl rfl (fun ad7 n7 => ?_)
  have G := G.nx n7; have oo := oo.up; have zz := zz.up
  refine C_putr (i := 117) (x := 13) (y := 20) (ty := (.array .long)) G (by decide +kernel) (by decide +kernel) (by decide) (by decide) (by decide) (by decide) (Or.inr ⟨(by decide), hnm, rfl⟩) (by decide +kernel) rfl rfl (by decide) (by decide +kernel) (by decide) ?_
  have oo := oo.put (a := 234) (j := 20) (by decide) (by decide +kernel)
  refine C_aload_n (n := 0) (i := 0) (v := 234) G (by decide +kernel) rfl rfl ?_
  refine C_bipush (n := 58) (v := 58) G (by decide +kernel) rfl ?_
  have oo0 := oo; have zz0 := zz
  refine C_newl (x := 0) (N := 58) G (by decide +kernel) (by decide +kernel) (by decide +kernel) (by decide) hA rfl (by decide) (Nat.le_of_ble_eq_true rfl) (Nat.le_of_ble_eq_true rfl) rfl rfl (fun ad8 n8 => ?_)
  have G := G.nx n8; have oo := oo.up; have zz := zz.up
  refine C_putr (i := 120) (x := 13) (y := 21) (ty := (.array .long)) G (by decide +kernel) (by decide +kernel) (by decide) (by decide) (by decide) (by decide) (Or.inr ⟨(by decide), hnm, rfl⟩) (by decide +kernel) rfl rfl (by decide) (by decide +kernel) (by decide) ?_
  have oo := oo.put (a := 234) (j := 21) (by decide) (by decide +kernel)
  refine C_aload_n (n := 0) (i := 0) (v := 234) G (by decide +kernel) rfl rfl ?_
  refine C_iconst (n := 2) (v := 2) G (by decide +kernel) rfl ?_
  have oo0 := oo; have zz0 := zz
  refine C_newz (x := 0) (N := 2) G (by decide +kernel) (by decide +kernel) (by decide +kernel) (by decide) hA rfl (by decide) (Nat.le_of_ble_eq_true rfl) (Nat.le_of_ble_eq_true rfl) rfl rfl (fun ad9 n9 => ?_)
  have G := G.nx n9; have oo := oo.up; have zz := zz.up
  refine C_putr (i := 123) (x := 13) (y := 22) (ty := (.array .boolean)) G (by decide +kernel) (by decide +kernel) (by decide) (by decide) (by decide) (by decide) (Or.inr ⟨(by decide), hnm, rfl⟩) (by decide +kernel) rfl rfl (by decide) (by decide +kernel) (by decide) ?_
  have oo := oo.put (a := 234) (j := 22) (by decide) (by decide +kernel)
  refine C_aload_n (n := 0) (i := 0) (v := 234) G (by decide +kernel) rfl rfl ?_
  refine C_bipush (n := 40) (v := 40) G (by decide +kernel) rfl ?_
  have oo0 := oo; have zz0 := zz
  refine C_newz (x := 0) (N := 40) G (by decide +kernel) (by decide +kernel) (by decide +kernel) (by decide) hA rfl (by decide) (Nat.le_of_ble_eq_true rfl) (Nat.le_of_ble_eq_true rfl) rfl rfl (fun ad10 n10 => ?_)
  have G := G.nx n10; have oo := oo.up; have zz := zz.up
  refine C_putr (i := 127) (x := 13) (y := 23) (ty := (.array .boolean)) G (by decide +kernel) (by decide +kernel) (by decide) (by decide) (by decide) (by decide) (Or.inr ⟨(by decide), hnm, rfl⟩) (by decide +kernel) rfl rfl (by decide) (by decide +kernel) (by decide) ?_
  have oo := oo.put (a := 234) (j := 23) (by decide) (by decide +kernel)
  refine C_aload_n (n := 0) (i := 0) (v := 234) G (by decide +kernel) rfl rfl ?_
  refine C_bipush (n := 8) (v := 8) G (by decide +kernel) rfl ?_
  have oo0 := oo; have zz0 := zz
  refine C_newi (x := 0) (N := 8) G (by decide +kernel) (by decide +kernel) (by decide +kernel) (by decide) hA rfl (by decide) (Nat.le_of_ble_eq_true rfl) (Nat.le_of_ble_eq_true rfl) rfl rfl (fun ad11 n11 => ?_)
  have G := G.nx n11; have oo := oo.up; have zz := zz.up
  refine C_putr (i := 130) (x := 13) (y := 26) (ty := (.array .int)) G (by decide +kernel) (by decide +kernel) (by decide) (by decide) (by decide) (by decide) (Or.inr ⟨(by decide), hnm, rfl⟩) (by decide +kernel) rfl rfl (by decide) (by decide +kernel) (by decide) ?_
  have oo := oo.put (a := 234) (j := 26) (by decide) (by decide +kernel)
  refine C_aload_n (n := 0) (i := 0) (v := 234) G (by decide +kernel) rfl rfl ?_
  refine C_bipush (n := 8) (v := 8) G (by decide +kernel) rfl ?_
  have oo0 := oo; have zz0 := zz
  refine C_newi (x := 0) (N := 8) G (by decide +kernel) (by decide +kernel) (by decide +kernel) (by decide) hA rfl (by decide) (Nat.le_of_ble_eq_true rfl) (Nat.le_of_ble_eq_true rfl) rfl rfl (fun ad12 n12 => ?_)
  have G := G.nx n12; have oo := oo.up; have zz := zz.up
  refine C_putr (i := 133) (x := 13) (y := 29) (ty := (.array .int)) G (by decide +kernel) (by decide +kernel) (by decide) (by decide) (by decide) (by decide) (Or.inr ⟨(by decide), hnm, rfl⟩) (by decide +kernel) rfl rfl (by decide) (by decide +kernel) (by decide) ?_
  have oo := oo.put (a := 234) (j := 29) (by decide) (by decide +kernel)
  refine C_aload_n (n := 0) (i := 0) (v := 234) G (by decide +kernel) rfl rfl ?_
  refine C_sipush (n := 2304) (v := 2304) G (by decide +kernel) rfl ?_
  have oo0 := oo; have zz0 := zz
  refine C_newi (x := 0) (N := 2304) G (by decide +kernel) (by decide +kernel) (by decide +kernel) (by decide) hA rfl (by decide) (Nat.le_of_ble_eq_true rfl) (Nat.le_of_ble_eq_true rfl) rfl rfl (fun ad13 n13 => ?_)
  have G := G.nx n13; have oo := oo.up; have zz := zz.up
  refine C_putr (i := 136) (x := 13) (y := 30) (ty := (.array .int)) G (by decide +kernel) (by decide +kernel) (by decide) (by decide) (by decide) (by decide) (Or.inr ⟨(by decide), hnm, rfl⟩) (by decide +kernel) rfl rfl (by decide) (by decide +kernel) (by decide) ?_
  have oo := oo.put (a := 234) (j := 30) (by decide) (by decide +kernel)
  refine C_aload_n (n := 0) (i := 0) (v := 234) G (by decide +kernel) rfl rfl ?_
  refine C_bipush (n := 64) (v := 64) G (by decide +kernel) rfl ?_
  have oo0 := oo; have zz0 := zz
  refine C_newi (x := 0) (N := 64) G (by decide +kernel) (by decide +kernel) (by decide +kernel) (by decide) hA rfl (by decide) (Nat.le_of_ble_eq_true rfl) (Nat.le_of_ble_eq_true rfl) rfl rfl (fun ad14 n14 => ?_)
  have G := G.nx n14; have oo := oo.up; have zz := zz.up
  refine C_putr (i := 139) (x := 13) (y := 31) (ty := (.array .int)) G (by decide +kernel) (by decide +kernel) (by decide) (by decide) (by decide) (by decide) (Or.inr ⟨(by decide), hnm, rfl⟩) (by decide +kernel) rfl rfl (by decide) (by decide +kernel) (by decide) ?_
  have oo := oo.put (a := 234) (j := 31) (by decide) (by decide +kernel)
  refine C_aload_n (n := 0) (i := 0) (v := 234) G (by decide +kernel) rfl rfl ?_
  refine C_bipush (n := 8) (v := 8) G (by decide +kernel) rfl ?_
  have oo0 := oo; have zz0 := zz
  refine C_newi (x := 0) (N := 8) G (by decide +kernel) (by decide +kernel) (by decide +kernel) (by decide) hA rfl (by decide) (Nat.le_of_ble_eq_true rfl) (Nat.le_of_ble_eq_true rfl) rfl rfl (fun ad15 n15 => ?_)
  have G := G.nx n15; have oo := oo.up; have zz := zz.up
  refine C_putr (i := 142) (x := 13) (y := 32) (ty := (.array .int)) G (by decide +kernel) (by decide +kernel) (by decide) (by decide) (by decide) (by decide) (Or.inr ⟨(by decide), hnm, rfl⟩) (by decide +kernel) rfl rfl (by decide) (by decide +kernel) (by decide) ?_
  have oo := oo.put (a := 234) (j := 32) (by decide) (by decide +kernel)
  refine C_aload_n (n := 0) (i := 0) (v := 234) G (by decide +kernel) rfl rfl ?_
  refine C_bipush (n := 8) (v := 8) G (by decide +kernel) rfl ?_
  have oo0 := oo; have zz0 := zz
  refine C_newi (x := 0) (N := 8) G (by decide +kernel) (by decide +kernel) (by decide +kernel) (by decide) hA rfl (by decide) (Nat.le_of_ble_eq_true rfl) (Nat.le_of_ble_eq_true rfl) rfl rfl (fun ad16 n16 => ?_)
  have G := G.nx n16; have oo := oo.up; have zz := zz.up
  refine C_putr (i := 145) (x := 13) (y := 33) (ty := (.array .int)) G (by decide +kernel) (by decide +kernel) (by decide) (by decide) (by decide) (by decide) (Or.inr ⟨(by decide), hnm, rfl⟩) (by decide +kernel) rfl rfl (by decide) (by decide +kernel) (by decide) ?_
  have oo := oo.put (a := 234) (j := 33) (by decide) (by decide +kernel)
  refine C_aload_n (n := 0) (i := 0) (v := 234) G (by decide +kernel) rfl rfl ?_
  refine C_bipush (n := 8) (v := 8) G (by decide +kernel) rfl ?_
  have oo0 := oo; have zz0 := zz
  refine C_newi (x := 0) (N := 8) G (by decide +kernel) (by decide +kernel) (by decide +kernel) (by decide) hA rfl (by decide) (Nat.le_of_ble_eq_true rfl) (Nat.le_of_ble_eq_true rfl) rfl rfl (fun ad17 n17 => ?_)
  have G := G.nx n17; have oo := oo.up; have zz := zz.up
  refine C_putr (i := 148) (x := 13) (y := 34) (ty := (.array .int)) G (by decide +kernel) (by decide +kernel) (by decide) (by decide) (by decide) (by decide) (Or.inr ⟨(by decide), hnm, rfl⟩) (by decide +kernel) rfl rfl (by decide) (by decide +kernel) (by decide) ?_
  have oo := oo.put (a := 234) (j := 34) (by decide) (by decide +kernel)
  refine C_aload_n (n := 0) (i := 0) (v := 234) G (by decide +kernel) rfl rfl ?_
  refine C_bipush (n := 8) (v := 8) G (by decide +kernel) rfl ?_
  have oo0 := oo; have zz0 := zz
  refine C_newi (x := 0) (N := 8) G (by decide +kernel) (by decide +kernel) (by decide +kernel) (by decide) hA rfl (by decide) (Nat.le_of_ble_eq_true rfl) (Nat.le_of_ble_eq_true rfl) rfl rfl (fun ad18 n18 => ?_)
  have G := G.nx n18; have oo := oo.up; have zz := zz.up
  refine C_putr (i := 151) (x := 13) (y := 35) (ty := (.array .int)) G (by decide +kernel) (by decide +kernel) (by decide) (by decide) (by decide) (by decide) (Or.inr ⟨(by decide), hnm, rfl⟩) (by decide +kernel) rfl rfl (by decide) (by decide +kernel) (by decide) ?_
  have oo := oo.put (a := 234) (j := 35) (by decide) (by decide +kernel)
  refine C_aload_n (n := 0) (i := 0) (v := 234) G (by decide +kernel) rfl rfl ?_
  refine C_bipush (n := 8) (v := 8) G (by decide +kernel) rfl ?_
  have oo0 := oo; have zz0 := zz
  refine C_newi (x := 0) (N := 8) G (by decide +kernel) (by decide +kernel) (by decide +kernel) (by decide) hA rfl (by decide) (Nat.le_of_ble_eq_true rfl) (Nat.le_of_ble_eq_true rfl) rfl rfl (fun ad19 n19 => ?_)
  have G := G.nx n19; have oo := oo.up; have zz := zz.up
  refine C_putr (i := 154) (x := 13) (y := 36) (ty := (.array .int)) G (by decide +kernel) (by decide +kernel) (by decide) (by decide) (by decide) (by decide) (Or.inr ⟨(by decide), hnm, rfl⟩) (by decide +kernel) rfl rfl (by decide) (by decide +kernel) (by decide) ?_
  have oo := oo.put (a := 234) (j := 36) (by decide) (by decide +kernel)
  refine C_aload_n (n := 0) (i := 0) (v := 234) G (by decide +kernel) rfl rfl ?_
  refine C_bipush (n := 8) (v := 8) G (by decide +kernel) rfl ?_
  have oo0 := oo; have zz0 := zz
  refine C_newi (x := 0) (N := 8) G (by decide +kernel) (by decide +kernel) (by decide +kernel) (by decide) hA rfl (by decide) (Nat.le_of_ble_eq_true rfl) (Nat.le_of_ble_eq_true rfl) rfl rfl (fun ad20 n20 => ?_)
  have G := G.nx n20; have oo := oo.up; have zz := zz.up
  refine C_putr (i := 157) (x := 13) (y := 40) (ty := (.array .int)) G (by decide +kernel) (by decide +kernel) (by decide) (by decide) (by decide) (by decide) (Or.inr ⟨(by decide), hnm, rfl⟩) (by decide +kernel) rfl rfl (by decide) (by decide +kernel) (by decide) ?_
  have oo := oo.put (a := 234) (j := 40) (by decide) (by decide +kernel)
  refine C_aload_n (n := 0) (i := 0) (v := 234) G (by decide +kernel) rfl rfl ?_
  refine C_iconst (n := -1) (v := -1) G (by decide +kernel) rfl ?_
  refine C_puti (i := 160) (x := 13) (y := 42) (ty := .int) G (by decide +kernel) (by decide +kernel) (by decide) (by decide) (by decide) (by decide) (Or.inl (by decide)) (by decide +kernel) rfl rfl (by decide) ?_
  have zz := zz.mI (a := 234) (j := 42) (x := (-1)) (by decide)
  refine C_aload_n (n := 0) (i := 0) (v := 234) G (by decide +kernel) rfl rfl ?_
  refine C_iconst (n := -1) (v := -1) G (by decide +kernel) rfl ?_
  refine C_puti (i := 163) (x := 13) (y := 45) (ty := .int) G (by decide +kernel) (by decide +kernel) (by decide) (by decide) (by decide) (by decide) (Or.inl (by decide)) (by decide +kernel) rfl rfl (by decide) ?_
  have zz := zz.mI (a := 234) (j := 45) (x := (-1)) (by decide)
  refine C_aload_n (n := 0) (i := 0) (v := 234) G (by decide +kernel) rfl rfl ?_
  refine C_iconst (n := -1) (v := -1) G (by decide +kernel) rfl ?_
  refine C_puti (i := 166) (x := 13) (y := 46) (ty := .int) G (by decide +kernel) (by decide +kernel) (by decide) (by decide) (by decide) (by decide) (Or.inl (by decide)) (by decide +kernel) rfl rfl (by decide) ?_
  have zz := zz.mI (a := 234) (j := 46) (x := (-1)) (by decide)
  refine C_aload_n (n := 0) (i := 0) (v := 234) G (by decide +kernel) rfl rfl ?_
  refine C_iconst (n := -1) (v := -1) G (by decide +kernel) rfl ?_
  refine C_puti (i := 169) (x := 13) (y := 47) (ty := .int) G (by decide +kernel) (by decide +kernel) (by decide) (by decide) (by decide) (by decide) (Or.inl (by decide)) (by decide +kernel) rfl rfl (by decide) ?_
  have zz := zz.mI (a := 234) (j := 47) (x := (-1)) (by decide)
  refine C_aload_n (n := 0) (i := 0) (v := 234) G (by decide +kernel) rfl rfl ?_
  refine C_iconst (n := -1) (v := -1) G (by decide +kernel) rfl ?_
  refine C_puti (i := 172) (x := 13) (y := 48) (ty := .int) G (by decide +kernel) (by decide +kernel) (by decide) (by decide) (by decide) (by decide) (Or.inl (by decide)) (by decide +kernel) rfl rfl (by decide) ?_
  have zz := zz.mI (a := 234) (j := 48) (x := (-1)) (by decide)
  refine C_aload_n (n := 0) (i := 0) (v := 234) G (by decide +kernel) rfl rfl ?_
  refine C_bipush (n := 32) (v := 32) G (by decide +kernel) rfl ?_
  have oo0 := oo; have zz0 := zz
  refine C_newz (x := 0) (N := 32) G (by decide +kernel) (by decide +kernel) (by decide +kernel) (by decide) hA rfl (by decide) (Nat.le_of_ble_eq_true rfl) (Nat.le_of_ble_eq_true rfl) rfl rfl (fun ad21 n21 => ?_)
  have G := G.nx n21; have oo := oo.up; have zz := zz.up
  refine C_putr (i := 175) (x := 13) (y := 49) (ty := (.array .boolean)) G (by decide +kernel) (by decide +kernel) (by decide) (by decide) (by decide) (by decide) (Or.inr ⟨(by decide), hnm, rfl⟩) (by decide +kernel) rfl rfl (by decide) (by decide +kernel) (by decide) ?_
  have oo := oo.put (a := 234) (j := 49) (by decide) (by decide +kernel)
  refine C_aload_n (n := 0) (i := 0) (v := 234) G (by decide +kernel) rfl rfl ?_
  refine C_bipush (n := 64) (v := 64) G (by decide +kernel) rfl ?_
  have oo0 := oo; have zz0 := zz
  refine C_newi (x := 0) (N := 64) G (by decide +kernel) (by decide +kernel) (by decide +kernel) (by decide) hA rfl (by decide) (Nat.le_of_ble_eq_true rfl) (Nat.le_of_ble_eq_true rfl) rfl rfl (fun ad22 n22 => ?_)
  have G := G.nx n22; have oo := oo.up; have zz := zz.up
  refine C_putr (i := 178) (x := 13) (y := 50) (ty := (.array .int)) G (by decide +kernel) (by decide +kernel) (by decide) (by decide) (by decide) (by decide) (Or.inr ⟨(by decide), hnm, rfl⟩) (by decide +kernel) rfl rfl (by decide) (by decide +kernel) (by decide) ?_
  have oo := oo.put (a := 234) (j := 50) (by decide) (by decide +kernel)
  refine C_aload_n (n := 0) (i := 0) (v := 234) G (by decide +kernel) rfl rfl ?_
  refine C_sipush (n := 160) (v := 160) G (by decide +kernel) rfl ?_
  have oo0 := oo; have zz0 := zz
  refine C_newi (x := 0) (N := 160) G (by decide +kernel) (by decide +kernel) (by decide +kernel) (by decide) hA rfl (by decide) (Nat.le_of_ble_eq_true rfl) (Nat.le_of_ble_eq_true rfl) rfl rfl (fun ad23 n23 => ?_)
  have G := G.nx n23; have oo := oo.up; have zz := zz.up
  refine C_putr (i := 181) (x := 13) (y := 52) (ty := (.array .int)) G (by decide +kernel) (by decide +kernel) (by decide) (by decide) (by decide) (by decide) (Or.inr ⟨(by decide), hnm, rfl⟩) (by decide +kernel) rfl rfl (by decide) (by decide +kernel) (by decide) ?_
  have oo := oo.put (a := 234) (j := 52) (by decide) (by decide +kernel)
  refine C_aload_n (n := 0) (i := 0) (v := 234) G (by decide +kernel) rfl rfl ?_
  refine C_iconst (n := 4) (v := 4) G (by decide +kernel) rfl ?_
  have oo0 := oo; have zz0 := zz
  refine C_newi (x := 0) (N := 4) G (by decide +kernel) (by decide +kernel) (by decide +kernel) (by decide) hA rfl (by decide) (Nat.le_of_ble_eq_true rfl) (Nat.le_of_ble_eq_true rfl) rfl rfl (fun ad24 n24 => ?_)
  have G := G.nx n24; have oo := oo.up; have zz := zz.up
  refine C_putr (i := 184) (x := 13) (y := 53) (ty := (.array .int)) G (by decide +kernel) (by decide +kernel) (by decide) (by decide) (by decide) (by decide) (Or.inr ⟨(by decide), hnm, rfl⟩) (by decide +kernel) rfl rfl (by decide) (by decide +kernel) (by decide) ?_
  have oo := oo.put (a := 234) (j := 53) (by decide) (by decide +kernel)
  refine C_aload_n (n := 0) (i := 0) (v := 234) G (by decide +kernel) rfl rfl ?_
  refine C_sipush (n := 240) (v := 240) G (by decide +kernel) rfl ?_
  have oo0 := oo; have zz0 := zz
  refine C_newi (x := 0) (N := 240) G (by decide +kernel) (by decide +kernel) (by decide +kernel) (by decide) hA rfl (by decide) (Nat.le_of_ble_eq_true rfl) (Nat.le_of_ble_eq_true rfl) rfl rfl (fun ad25 n25 => ?_)
  have G := G.nx n25; have oo := oo.up; have zz := zz.up
  refine C_putr (i := 187) (x := 13) (y := 56) (ty := (.array .int)) G (by decide +kernel) (by decide +kernel) (by decide) (by decide) (by decide) (by decide) (Or.inr ⟨(by decide), hnm, rfl⟩) (by decide +kernel) rfl rfl (by decide) (by decide +kernel) (by decide) ?_
  have oo := oo.put (a := 234) (j := 56) (by decide) (by decide +kernel)
  refine C_aload_n (n := 0) (i := 0) (v := 234) G (by decide +kernel) rfl rfl ?_
  refine C_getf (i := 98) (x := 13) (y := 14) (v := .ref 236) G (by decide +kernel) (by decide +kernel) (by decide) (by decide) (by decide) rfl ?_
  refine C_iconst (n := 5) (v := 5) G (by decide +kernel) rfl ?_
  refine C_iconst (n := 3) (v := 3) G (by decide +kernel) rfl ?_
  refine C_iastj (a := 236) (x := 0) (n := 532) (j := 5) G rfl (by decide +kernel) (by decide) (by decide) (by decide +kernel) (vpd rfl) ?_
  have zz := zz.mI (a := 236) (j := 5) (x := 3) (by decide)
  refine C_aload_n (n := 0) (i := 0) (v := 234) G (by decide +kernel) rfl rfl ?_
  have h6 : ∀ j, (mI (mI (mI (mI (mI (mI u 234 42 (-1)) 234 45 (-1)) 234 46 (-1)) 234 47 (-1)) 234 48 (-1)) 236 5 3).1 236 j = if j = 5 then 3 else 0 := fun j => by
    show (if 236 = 236 ∧ j = 5 then (3 : Int32) else u.1 236 j) = _
    rw [(zz00 236 (by decide)).1]; by_cases e5 : j = 5 <;> simp [e5]
  refine C_callV (y := yX13_startSo) (bytes := cX13_startSo) (maxL := 2) (i := 190) (d := d + 0) (a := 234) (x := 13) (as := []) (r := []) G okK_startSo ⟨(by decide +kernel), (by decide +kernel)⟩ rfl (by decide) (by decide) (by decide +kernel) (Nat.le_refl _) (Nat.le_refl _) ⟨Nat.le_of_ble_eq_true rfl, Nat.le_of_ble_eq_true rfl⟩ hA (K_startSo G.ad oo zz rfl h6) rfl (by decide) (by decide +kernel) rfl rfl id (fun z => z.uQ (by decide)) (fun ad26 n26 => ?_)
  have G := G.nx n26; have zz := zz.uQ (n := 8) (by decide)
  exact C_ret (X0 := X) (ad := ad26) G hr hlk ((((((((((((((((((((((((((n0.tr n1 (by decide)).tr n2 (by decide)).tr n3 (by decide)).tr n4 (by decide)).tr n5 (by decide)).tr n6 (by decide)).tr n7 (by decide)).tr n8 (by decide)).tr n9 (by decide)).tr n10 (by decide)).tr n11 (by decide)).tr n12 (by decide)).tr n13 (by decide)).tr n14 (by decide)).tr n15 (by decide)).tr n16 (by decide)).tr n17 (by decide)).tr n18 (by decide)).tr n19 (by decide)).tr n20 (by decide)).tr n21 (by decide)).tr n22 (by decide)).tr n23 (by decide)).tr n24 (by decide)).tr n25 (by decide)).tr n26 (by decide)) (by decide +kernel)
