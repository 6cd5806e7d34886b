/-! constructors, made by con.py -/
set_option maxRecDepth 100000 in
theorem OO_K_X12_init_0 {S : Nat → Nat → Bool} (oo : OkS 1 S) : OkS 234 (sU (sU (sU (sU (sU (sU (sU (sU (sU (sU (sU (sU (sU (sU (sU (sU (sU (sU (sU (sU (sU (sU (sU (sU (sU (sU (sU (sU (sU (sU (sU (sU (sU (sU (sU (sU (sU (sU (sU (sU (sU (sU (sU (sU (sU (sU (sU (sU (sU (sU (sU (sU (sU (sU (sU (sU (sU (sU (sU (sU (sU (sU (sU (sU (sU (sU (sU (sU (sU (sU (sU (sU (sU (sU (sU (sU (sU (sU (sU (sU (sU (sU (sU (sU (sU (sU (sU (sU (sU (sU (sU (sU (sU (sU (sU (sU (sU (sU (sU (sU (sU (sU (sU (sU (sU (sU (sU (sU (sU (sU (sU (sU (sU (sU (sU (sU (sU (sU (sU (sU (sU (sU (sU (sU (sU (sU (sU (sU (sU (sU (sU (sU (sU (sU (sU (sU (sU (sU (sU (sU (sU (sU (sU (sU (sU (sU (sU (sU (sU (sU (sU (sU (sU (sU (sU (sU (sU (sU (sU (sU (sU (sU (sU (sU (sU (sU (sU (sU (sU (sU (sU (sU (sU (sU (sU (sU (sU (sU (sU (sU (sU (sU (sU (sU (sU (sU (sU (sU (sU (sU (sU (sU (sU (sU (sU (sU (sU (sU (sU (sU (sU (sU (sU (sU (sU (sU (sU (sU (sU (sU (sU (sU (sU (sU (sU (sU (sU (sU (sU (sU (sU (sU (sU (sU (sU (sU (sU (sU (sU (sU (sU (sU (sU (sU (sU (sU (sU (sU (sU (sU (sU (sU (sU (sU (sU (sU (sU (sU (sU (sU (sU (sU (sU (sU (sU (sU (sU (sU (sU (sU (sU (sU S 1 0) 1 9) 0 0) 5 0) 5 1) 5 4) 5 5) 5 6) 5 7) 5 8) 5 9) 5 10) 5 11) 5 12) 5 13) 5 14) 5 15) 4 0) 20 5) 20 6) 20 7) 20 8) 20 9) 20 10) 20 11) 20 12) 20 0) 4 1) 29 1) 29 2) 29 3) 29 4) 4 2) 0 1) 0 2) 0 3) 0 4) 35 5) 35 6) 35 7) 35 8) 35 9) 35 10) 35 11) 35 12) 35 0) 0 6) 44 1) 44 0) 46 5) 46 6) 46 7) 46 8) 46 9) 46 10) 46 11) 46 12) 46 0) 45 0) 55 5) 55 6) 55 7) 55 8) 55 9) 55 10) 55 11) 55 12) 55 0) 45 1) 64 5) 64 6) 64 7) 64 8) 64 9) 64 10) 64 11) 64 12) 64 0) 45 2) 73 5) 73 6) 73 7) 73 8) 73 9) 73 10) 73 11) 73 12) 73 0) 45 3) 82 5) 82 6) 82 7) 82 8) 82 9) 82 10) 82 11) 82 12) 82 0) 45 4) 91 5) 91 6) 91 7) 91 8) 91 9) 91 10) 91 11) 91 12) 91 0) 45 5) 100 5) 100 6) 100 7) 100 8) 100 9) 100 10) 100 11) 100 12) 100 0) 45 6) 109 5) 109 6) 109 7) 109 8) 109 9) 109 10) 109 11) 109 12) 109 0) 45 7) 0 7) 120 0) 120 1) 120 4) 120 5) 120 6) 120 7) 120 8) 120 9) 120 10) 120 11) 120 12) 120 13) 120 14) 120 15) 119 0) 135 5) 135 6) 135 7) 135 8) 135 9) 135 10) 135 11) 135 12) 135 0) 119 1) 144 1) 144 2) 144 3) 144 4) 119 2) 118 1) 118 2) 118 0) 0 8) 149 3) 149 4) 149 5) 149 6) 149 0) 149 1) 0 9) 155 1) 155 2) 155 3) 155 4) 154 2) 154 0) 154 1) 0 10) 160 2) 160 3) 160 4) 160 5) 160 0) 160 1) 0 11) 165 2) 165 4) 165 5) 165 9) 165 11) 165 0) 165 1) 0 12) 171 6) 171 0) 171 1) 171 2) 0 13) 0 14) 175 0) 175 1) 175 4) 175 5) 175 6) 175 7) 175 8) 175 9) 175 10) 175 11) 175 12) 175 13) 175 14) 175 15) 174 0) 190 5) 190 6) 190 7) 190 8) 190 9) 190 10) 190 11) 190 12) 190 0) 174 1) 199 1) 199 2) 199 3) 199 4) 174 2) 34 0) 205 0) 205 1) 205 4) 205 5) 205 6) 205 7) 205 8) 205 9) 205 10) 205 11) 205 12) 205 13) 205 14) 205 15) 204 0) 220 5) 220 6) 220 7) 220 8) 220 9) 220 10) 220 11) 220 12) 220 0) 204 1) 229 1) 229 2) 229 3) 229 4) 204 2) 34 1) := ((OO_K_X11_init_204 ((OO_K_X11_init_174 (((OO_K_X2_init_171 ((OO_K_X3_init_165 ((OO_K_X7_init_160 ((OO_K_X9_init_154 ((OO_K_X5_init_149 ((OO_K_X1_init_118 ((OO_K_X6_init_44 ((OO_K_X4_init_35 (((((OO_K_X11_init_4 ((OO_K_X10_init_1 oo.up).put (a := 0) (j := 0) (by decide) (by decide +kernel)).up).put (a := 0) (j := 1) (by decide) (by decide +kernel)).put (a := 0) (j := 2) (by decide) (by decide +kernel)).put (a := 0) (j := 3) (by decide) (by decide +kernel)).up.put (a := 0) (j := 4) (by decide) (by decide +kernel)).up).put (a := 0) (j := 6) (by decide) (by decide +kernel)).up).put (a := 0) (j := 7) (by decide) (by decide +kernel)).up).put (a := 0) (j := 8) (by decide) (by decide +kernel)).up).put (a := 0) (j := 9) (by decide) (by decide +kernel)).up).put (a := 0) (j := 10) (by decide) (by decide +kernel)).up).put (a := 0) (j := 11) (by decide) (by decide +kernel)).up).put (a := 0) (j := 12) (by decide) (by decide +kernel)).up).put (a := 0) (j := 13) (by decide) (by decide +kernel)).up.put (a := 0) (j := 14) (by decide) (by decide +kernel)).up).put (a := 34) (j := 0) (by decide) (by decide +kernel)).up).put (a := 34) (j := 1) (by decide) (by decide +kernel))
set_option maxRecDepth 100000 in
theorem ZZ_K_X12_init_0 {u : Mm} (zz : ZrC 1 u) : ZrC 234 ((mI (mI (mI (mI (mI (mI (mI (mI (mI (mI (mI (mW u (rwL (wrds.map e5))) 5 3 3) 120 3 3) 160 6 (-1)) 160 7 (-1)) 160 8 (-1)) 160 9 (-1)) 171 3 (-1)) 171 4 (-1)) 171 5 (-1)) 175 3 3) 205 3 3)) := (ZZ_K_X11_init_204 (ZZ_K_X11_init_174 (ZZ_K_X2_init_171 (ZZ_K_X3_init_165 (ZZ_K_X7_init_160 (ZZ_K_X9_init_154 (ZZ_K_X5_init_149 (ZZ_K_X1_init_118 (ZZ_K_X6_init_44 (ZZ_K_X4_init_35 (ZZ_K_X11_init_4 (ZZ_K_X10_init_1 zz.up).up).up.up).up).up).up).up).up).up).up).up.up).up)
set_option maxRecDepth 100000 in
theorem K_X12_init_0 {X : Xc} {d : Nat} {S : Nat → Nat → Bool} {u : Mm} (had : adOk X) (oo : OkS 1 S) (zz : ZrC 1 u) (hz : ∀ j, u.1 0 j = 0) : CK X (d + 5) yX12_init cX12_init 2 [.ref 0] u 1 S 233 4734 ((mI (mI (mI (mI (mI (mI (mI (mI (mI (mI (mI (mW u (rwL (wrds.map e5))) 5 3 3) 120 3 3) 160 6 (-1)) 160 7 (-1)) 160 8 (-1)) 160 9 (-1)) 171 3 (-1)) 171 4 (-1)) 171 5 (-1)) 175 3 3) 205 3 3)) 234 (sU (sU (sU (sU (sU (sU (sU (sU (sU (sU (sU (sU (sU (sU (sU (sU (sU (sU (sU (sU (sU (sU (sU (sU (sU (sU (sU (sU (sU (sU (sU (sU (sU (sU (sU (sU (sU (sU (sU (sU (sU (sU (sU (sU (sU (sU (sU (sU (sU (sU (sU (sU (sU (sU (sU (sU (sU (sU (sU (sU (sU (sU (sU (sU (sU (sU (sU (sU (sU (sU (sU (sU (sU (sU (sU (sU (sU (sU (sU (sU (sU (sU (sU (sU (sU (sU (sU (sU (sU (sU (sU (sU (sU (sU (sU (sU (sU (sU (sU (sU (sU (sU (sU (sU (sU (sU (sU (sU (sU (sU (sU (sU (sU (sU (sU (sU (sU (sU (sU (sU (sU (sU (sU (sU (sU (sU (sU (sU (sU (sU (sU (sU (sU (sU (sU (sU (sU (sU (sU (sU (sU (sU (sU (sU (sU (sU (sU (sU (sU (sU (sU (sU (sU (sU (sU (sU (sU (sU (sU (sU (sU (sU (sU (sU (sU (sU (sU (sU (sU (sU (sU (sU (sU (sU (sU (sU (sU (sU (sU (sU (sU (sU (sU (sU (sU (sU (sU (sU (sU (sU (sU (sU (sU (sU (sU (sU (sU (sU (sU (sU (sU (sU (sU (sU (sU (sU (sU (sU (sU (sU (sU (sU (sU (sU (sU (sU (sU (sU (sU (sU (sU (sU (sU (sU (sU (sU (sU (sU (sU (sU (sU (sU (sU (sU (sU (sU (sU (sU (sU (sU (sU (sU (sU (sU (sU (sU (sU (sU (sU (sU (sU (sU (sU (sU (sU (sU (sU (sU (sU (sU (sU (sU S 1 0) 1 9) 0 0) 5 0) 5 1) 5 4) 5 5) 5 6) 5 7) 5 8) 5 9) 5 10) 5 11) 5 12) 5 13) 5 14) 5 15) 4 0) 20 5) 20 6) 20 7) 20 8) 20 9) 20 10) 20 11) 20 12) 20 0) 4 1) 29 1) 29 2) 29 3) 29 4) 4 2) 0 1) 0 2) 0 3) 0 4) 35 5) 35 6) 35 7) 35 8) 35 9) 35 10) 35 11) 35 12) 35 0) 0 6) 44 1) 44 0) 46 5) 46 6) 46 7) 46 8) 46 9) 46 10) 46 11) 46 12) 46 0) 45 0) 55 5) 55 6) 55 7) 55 8) 55 9) 55 10) 55 11) 55 12) 55 0) 45 1) 64 5) 64 6) 64 7) 64 8) 64 9) 64 10) 64 11) 64 12) 64 0) 45 2) 73 5) 73 6) 73 7) 73 8) 73 9) 73 10) 73 11) 73 12) 73 0) 45 3) 82 5) 82 6) 82 7) 82 8) 82 9) 82 10) 82 11) 82 12) 82 0) 45 4) 91 5) 91 6) 91 7) 91 8) 91 9) 91 10) 91 11) 91 12) 91 0) 45 5) 100 5) 100 6) 100 7) 100 8) 100 9) 100 10) 100 11) 100 12) 100 0) 45 6) 109 5) 109 6) 109 7) 109 8) 109 9) 109 10) 109 11) 109 12) 109 0) 45 7) 0 7) 120 0) 120 1) 120 4) 120 5) 120 6) 120 7) 120 8) 120 9) 120 10) 120 11) 120 12) 120 13) 120 14) 120 15) 119 0) 135 5) 135 6) 135 7) 135 8) 135 9) 135 10) 135 11) 135 12) 135 0) 119 1) 144 1) 144 2) 144 3) 144 4) 119 2) 118 1) 118 2) 118 0) 0 8) 149 3) 149 4) 149 5) 149 6) 149 0) 149 1) 0 9) 155 1) 155 2) 155 3) 155 4) 154 2) 154 0) 154 1) 0 10) 160 2) 160 3) 160 4) 160 5) 160 0) 160 1) 0 11) 165 2) 165 4) 165 5) 165 9) 165 11) 165 0) 165 1) 0 12) 171 6) 171 0) 171 1) 171 2) 0 13) 0 14) 175 0) 175 1) 175 4) 175 5) 175 6) 175 7) 175 8) 175 9) 175 10) 175 11) 175 12) 175 13) 175 14) 175 15) 174 0) 190 5) 190 6) 190 7) 190 8) 190 9) 190 10) 190 11) 190 12) 190 0) 174 1) 199 1) 199 2) 199 3) 199 4) 174 2) 34 0) 205 0) 205 1) 205 4) 205 5) 205 6) 205 7) 205 8) 205 9) 205 10) 205 11) 205 12) 205 13) 205 14) 205 15) 204 0) 220 5) 220 6) 220 7) 220 8) 220 9) 220 10) 220 11) 220 12) 220 0) 204 1) 229 1) 229 2) 229 3) 229 4) 204 2) 34 1) := by
  refine CK_of okK_X12_init rfl oo zz ?_
  intro p e s m args below meth c G hA hr hlk hnm
  have zz00 := zz
  refine C_aload_n (n := 0) (i := 0) (v := 0) G (by decide +kernel) rfl rfl ?_
  refine C_obj (i := 1) (a := 0) (r := []) G (by decide +kernel) (by decide +kernel) (by show 1 ≤ d + 5; omega) (by show 0 + 12 ≤ 64 * (d + 5); omega) ?_
  refine C_aload_n (n := 0) (i := 0) (v := 0) G (by decide +kernel) rfl rfl ?_
  have hz1 : ∀ j, u.1 1 j = 0 := fun j => congrFun (zz 1 (Nat.le_refl _)).1 j
  have hy1 : ∀ j, u.2 1 j = 0 := fun j => congrFun (zz 1 (Nat.le_refl _)).2 j
  refine C_new (i := 7) (x := 10) G (by decide +kernel) (by decide +kernel) (by decide) (by decide) ⟨(by decide +kernel), (by decide +kernel), (by decide +kernel)⟩ hA (Nat.le_of_ble_eq_true rfl) (Nat.le_of_ble_eq_true rfl) rfl rfl (fun ad0 n0 => ?_)
  have G := G.nx n0; have oo := oo.up; have zz := zz.up
  refine C_dup_r G (by decide +kernel) ?_
  refine C_call (y := yX10_init) (bytes := cX10_init) (maxL := 4) (i := 9) (d := d + 4) (a := 1) (as := []) (r := [.ref 1, .ref 0]) G okK_X10_init ⟨rfl, (by decide +kernel)⟩ (by decide +kernel) (Nat.le_refl _) (Nat.le_refl _) ⟨Nat.le_of_ble_eq_true rfl, Nat.le_of_ble_eq_true rfl⟩ hA (K_X10_init_1 (d := d) G.ad oo zz hz1 hy1) rfl (by decide) (by decide +kernel) rfl rfl OO_K_X10_init_1 ZZ_K_X10_init_1 (fun ad1 n1 => ?_)
  have G := G.nx n1; have oo := OO_K_X10_init_1 oo; have zz := ZZ_K_X10_init_1 zz
  refine C_putr (i := 10) (x := 12) (y := 0) (ty := (.object "StatueRent$Tape")) G (by decide +kernel) (by decide +kernel) (by decide) (by decide) (by decide) (by decide) (Or.inr ⟨(by decide), hnm, rfl⟩) (by decide +kernel) rfl rfl (by decide) (by decide +kernel) (by decide) ?_
  have oo := oo.put (a := 0) (j := 0) (by decide) (by decide +kernel)
  refine C_aload_n (n := 0) (i := 0) (v := 0) G (by decide +kernel) rfl rfl ?_
  have hz4 : ∀ j, (mW u (rwL (wrds.map e5))).1 4 j = 0 := fun j => congrFun (zz 4 (Nat.le_refl _)).1 j
  have hy4 : ∀ j, (mW u (rwL (wrds.map e5))).2 4 j = 0 := fun j => congrFun (zz 4 (Nat.le_refl _)).2 j
  refine C_new (i := 16) (x := 11) G (by decide +kernel) (by decide +kernel) (by decide) (by decide) ⟨(by decide +kernel), (by decide +kernel), (by decide +kernel)⟩ hA (Nat.le_of_ble_eq_true rfl) (Nat.le_of_ble_eq_true rfl) rfl rfl (fun ad2 n2 => ?_)
  have G := G.nx n2; have oo := oo.up; have zz := zz.up
  refine C_dup_r G (by decide +kernel) ?_
  refine C_callN (y := yX11_init) (bytes := cX11_init) (maxL := 1) (i := 18) (d := d + 4) (a := 4) (as := []) (r := [.ref 4, .ref 0]) G okK_X11_init ⟨rfl, (by decide +kernel)⟩ (by decide +kernel) (Nat.le_refl _) (Nat.le_refl _) ⟨Nat.le_of_ble_eq_true rfl, Nat.le_of_ble_eq_true rfl⟩ hA (K_X11_init_4 (d := d + 2) G.ad oo zz hz4) rfl (by decide) (by decide +kernel) rfl rfl OO_K_X11_init_4 ZZ_K_X11_init_4 (fun ad3 n3 => ?_)
  have G := G.nx n3; have oo := OO_K_X11_init_4 oo; have zz := ZZ_K_X11_init_4 zz
  refine C_putr (i := 19) (x := 12) (y := 1) (ty := (.object "StatueRent$World")) G (by decide +kernel) (by decide +kernel) (by decide) (by decide) (by decide) (by decide) (Or.inr ⟨(by decide), hnm, rfl⟩) (by decide +kernel) rfl rfl (by decide) (by decide +kernel) (by decide) ?_
  have oo := oo.put (a := 0) (j := 1) (by decide) (by decide +kernel)
  refine C_aload_n (n := 0) (i := 0) (v := 0) G (by decide +kernel) rfl rfl ?_
  refine C_aload_n (n := 0) (i := 0) (v := 0) G (by decide +kernel) rfl rfl ?_
  refine C_getf (i := 19) (x := 12) (y := 1) (v := .ref 4) G (by decide +kernel) (by decide +kernel) (by decide) (by decide) (by decide) rfl ?_
  refine C_getf (i := 23) (x := 11) (y := 0) (v := .ref 5) G (by decide +kernel) (by decide +kernel) (by decide) (by decide) (by decide) rfl ?_
  refine C_putr (i := 27) (x := 12) (y := 2) (ty := (.object "StatueRent$City")) G (by decide +kernel) (by decide +kernel) (by decide) (by decide) (by decide) (by decide) (Or.inr ⟨(by decide), hnm, rfl⟩) (by decide +kernel) rfl rfl (by decide) (by decide +kernel) (by decide) ?_
  have oo := oo.put (a := 0) (j := 2) (by decide) (by decide +kernel)
  refine C_aload_n (n := 0) (i := 0) (v := 0) G (by decide +kernel) rfl rfl ?_
  refine C_aload_n (n := 0) (i := 0) (v := 0) G (by decide +kernel) rfl rfl ?_
  refine C_getf (i := 19) (x := 12) (y := 1) (v := .ref 4) G (by decide +kernel) (by decide +kernel) (by decide) (by decide) (by decide) rfl ?_
  refine C_getf (i := 28) (x := 11) (y := 1) (v := .ref 20) G (by decide +kernel) (by decide +kernel) (by decide) (by decide) (by decide) rfl ?_
  refine C_putr (i := 32) (x := 12) (y := 3) (ty := (.object "StatueRent$Life")) G (by decide +kernel) (by decide +kernel) (by decide) (by decide) (by decide) (by decide) (Or.inr ⟨(by decide), hnm, rfl⟩) (by decide +kernel) rfl rfl (by decide) (by decide +kernel) (by decide) ?_
  have oo := oo.put (a := 0) (j := 3) (by decide) (by decide +kernel)
  refine C_aload_n (n := 0) (i := 0) (v := 0) G (by decide +kernel) rfl rfl ?_
  refine C_iconst (n := 2) (v := 2) G (by decide +kernel) rfl ?_
  refine C_anewW (i := 16) (N := 2) G (by decide +kernel) (by decide +kernel) (by decide +kernel) (by decide) hA rfl (by decide) (Nat.le_of_ble_eq_true rfl) (Nat.le_of_ble_eq_true rfl) rfl rfl (fun ad4 n4 => ?_)
  have G := G.nx n4; have oo := oo.up; have zz := zz.up
  refine C_putr (i := 33) (x := 12) (y := 4) (ty := (.array (.object "StatueRent$World"))) G (by decide +kernel) (by decide +kernel) (by decide) (by decide) (by decide) (by decide) (Or.inr ⟨(by decide), hnm, rfl⟩) (by decide +kernel) rfl rfl (by decide) (by decide +kernel) (by decide) ?_
  have oo := oo.put (a := 0) (j := 4) (by decide) (by decide +kernel)
  refine C_aload_n (n := 0) (i := 0) (v := 0) G (by decide +kernel) rfl rfl ?_
  refine C_iconst (n := 0) (v := 0) G (by decide +kernel) rfl ?_
  refine C_put0 (i := 37) (x := 12) (y := 5) (ty := .int) G (by decide +kernel) (by decide +kernel) (by decide) (by decide) (by decide) (by decide) (Or.inl (by decide)) (by decide +kernel) rfl rfl (Or.inl (by decide)) (hz 5) ?_
  refine C_aload_n (n := 0) (i := 0) (v := 0) G (by decide +kernel) rfl rfl ?_
  have hz35 : ∀ j, (mI (mW u (rwL (wrds.map e5))) 5 3 3).1 35 j = 0 := fun j => congrFun (zz 35 (Nat.le_refl _)).1 j
  have hy35 : ∀ j, (mI (mW u (rwL (wrds.map e5))) 5 3 3).2 35 j = 0 := fun j => congrFun (zz 35 (Nat.le_refl _)).2 j
  refine C_new (i := 41) (x := 4) G (by decide +kernel) (by decide +kernel) (by decide) (by decide) ⟨(by decide +kernel), (by decide +kernel), (by decide +kernel)⟩ hA (Nat.le_of_ble_eq_true rfl) (Nat.le_of_ble_eq_true rfl) rfl rfl (fun ad5 n5 => ?_)
  have G := G.nx n5; have oo := oo.up; have zz := zz.up
  refine C_dup_r G (by decide +kernel) ?_
  refine C_aload_n (n := 0) (i := 0) (v := 0) G (by decide +kernel) rfl rfl ?_
  refine C_getf (i := 27) (x := 12) (y := 2) (v := .ref 5) G (by decide +kernel) (by decide +kernel) (by decide) (by decide) (by decide) rfl ?_
  refine C_call (y := yX4_init) (bytes := cX4_init) (maxL := 2) (i := 43) (d := d + 4) (a := 35) (as := [.ref 5]) (r := [.ref 35, .ref 0]) G okK_X4_init ⟨rfl, (by decide +kernel)⟩ (by decide +kernel) (Nat.le_refl _) (Nat.le_refl _) ⟨Nat.le_of_ble_eq_true rfl, Nat.le_of_ble_eq_true rfl⟩ hA (K_X4_init_35 (d := d + 3) G.ad oo zz hz35) rfl (by decide) (by decide +kernel) rfl rfl OO_K_X4_init_35 ZZ_K_X4_init_35 (fun ad6 n6 => ?_)
  have G := G.nx n6; have oo := OO_K_X4_init_35 oo; have zz := ZZ_K_X4_init_35 zz
  refine C_putr (i := 46) (x := 12) (y := 6) (ty := (.object "StatueRent$Life")) G (by decide +kernel) (by decide +kernel) (by decide) (by decide) (by decide) (by decide) (Or.inr ⟨(by decide), hnm, rfl⟩) (by decide +kernel) rfl rfl (by decide) (by decide +kernel) (by decide) ?_
  have oo := oo.put (a := 0) (j := 6) (by decide) (by decide +kernel)
  refine C_aload_n (n := 0) (i := 0) (v := 0) G (by decide +kernel) rfl rfl ?_
  have hz44 : ∀ j, (mI (mW u (rwL (wrds.map e5))) 5 3 3).1 44 j = 0 := fun j => congrFun (zz 44 (Nat.le_refl _)).1 j
  have hy44 : ∀ j, (mI (mW u (rwL (wrds.map e5))) 5 3 3).2 44 j = 0 := fun j => congrFun (zz 44 (Nat.le_refl _)).2 j
  refine C_new (i := 49) (x := 6) G (by decide +kernel) (by decide +kernel) (by decide) (by decide) ⟨(by decide +kernel), (by decide +kernel), (by decide +kernel)⟩ hA (Nat.le_of_ble_eq_true rfl) (Nat.le_of_ble_eq_true rfl) rfl rfl (fun ad7 n7 => ?_)
  have G := G.nx n7; have oo := oo.up; have zz := zz.up
  refine C_dup_r G (by decide +kernel) ?_
  refine C_aload_n (n := 0) (i := 0) (v := 0) G (by decide +kernel) rfl rfl ?_
  refine C_getf (i := 32) (x := 12) (y := 3) (v := .ref 20) G (by decide +kernel) (by decide +kernel) (by decide) (by decide) (by decide) rfl ?_
  refine C_call (y := yX6_init) (bytes := cX6_init) (maxL := 3) (i := 51) (d := d + 4) (a := 44) (as := [.ref 20]) (r := [.ref 44, .ref 0]) G okK_X6_init ⟨rfl, (by decide +kernel)⟩ (by decide +kernel) (Nat.le_refl _) (Nat.le_refl _) ⟨Nat.le_of_ble_eq_true rfl, Nat.le_of_ble_eq_true rfl⟩ hA (K_X6_init_44 (d := d + 2) G.ad oo zz hz44 rfl) rfl (by decide) (by decide +kernel) rfl rfl OO_K_X6_init_44 ZZ_K_X6_init_44 (fun ad8 n8 => ?_)
  have G := G.nx n8; have oo := OO_K_X6_init_44 oo; have zz := ZZ_K_X6_init_44 zz
  refine C_putr (i := 54) (x := 12) (y := 7) (ty := (.object "StatueRent$Past")) G (by decide +kernel) (by decide +kernel) (by decide) (by decide) (by decide) (by decide) (Or.inr ⟨(by decide), hnm, rfl⟩) (by decide +kernel) rfl rfl (by decide) (by decide +kernel) (by decide) ?_
  have oo := oo.put (a := 0) (j := 7) (by decide) (by decide +kernel)
  refine C_aload_n (n := 0) (i := 0) (v := 0) G (by decide +kernel) rfl rfl ?_
  have hz118 : ∀ j, (mI (mW u (rwL (wrds.map e5))) 5 3 3).1 118 j = 0 := fun j => congrFun (zz 118 (Nat.le_refl _)).1 j
  have hy118 : ∀ j, (mI (mW u (rwL (wrds.map e5))) 5 3 3).2 118 j = 0 := fun j => congrFun (zz 118 (Nat.le_refl _)).2 j
  refine C_new (i := 58) (x := 1) G (by decide +kernel) (by decide +kernel) (by decide) (by decide) ⟨(by decide +kernel), (by decide +kernel), (by decide +kernel)⟩ hA (Nat.le_of_ble_eq_true rfl) (Nat.le_of_ble_eq_true rfl) rfl rfl (fun ad9 n9 => ?_)
  have G := G.nx n9; have oo := oo.up; have zz := zz.up
  refine C_dup_r G (by decide +kernel) ?_
  refine C_aload_n (n := 0) (i := 0) (v := 0) G (by decide +kernel) rfl rfl ?_
  refine C_getf (i := 10) (x := 12) (y := 0) (v := .ref 1) G (by decide +kernel) (by decide +kernel) (by decide) (by decide) (by decide) rfl ?_
  refine C_call (y := yX1_init) (bytes := cX1_init) (maxL := 2) (i := 60) (d := d + 4) (a := 118) (as := [.ref 1]) (r := [.ref 118, .ref 0]) G okK_X1_init ⟨rfl, (by decide +kernel)⟩ (by decide +kernel) (Nat.le_refl _) (Nat.le_refl _) ⟨Nat.le_of_ble_eq_true rfl, Nat.le_of_ble_eq_true rfl⟩ hA (K_X1_init_118 (d := d + 1) G.ad oo zz hz118) rfl (by decide) (by decide +kernel) rfl rfl OO_K_X1_init_118 ZZ_K_X1_init_118 (fun ad10 n10 => ?_)
  have G := G.nx n10; have oo := OO_K_X1_init_118 oo; have zz := ZZ_K_X1_init_118 zz
  refine C_putr (i := 63) (x := 12) (y := 8) (ty := (.object "StatueRent$CityReader")) G (by decide +kernel) (by decide +kernel) (by decide) (by decide) (by decide) (by decide) (Or.inr ⟨(by decide), hnm, rfl⟩) (by decide +kernel) rfl rfl (by decide) (by decide +kernel) (by decide) ?_
  have oo := oo.put (a := 0) (j := 8) (by decide) (by decide +kernel)
  refine C_aload_n (n := 0) (i := 0) (v := 0) G (by decide +kernel) rfl rfl ?_
  have hz149 : ∀ j, (mI (mI (mW u (rwL (wrds.map e5))) 5 3 3) 120 3 3).1 149 j = 0 := fun j => congrFun (zz 149 (Nat.le_refl _)).1 j
  have hy149 : ∀ j, (mI (mI (mW u (rwL (wrds.map e5))) 5 3 3) 120 3 3).2 149 j = 0 := fun j => congrFun (zz 149 (Nat.le_refl _)).2 j
  refine C_new (i := 67) (x := 5) G (by decide +kernel) (by decide +kernel) (by decide) (by decide) ⟨(by decide +kernel), (by decide +kernel), (by decide +kernel)⟩ hA (Nat.le_of_ble_eq_true rfl) (Nat.le_of_ble_eq_true rfl) rfl rfl (fun ad11 n11 => ?_)
  have G := G.nx n11; have oo := oo.up; have zz := zz.up
  refine C_dup_r G (by decide +kernel) ?_
  refine C_aload_n (n := 0) (i := 0) (v := 0) G (by decide +kernel) rfl rfl ?_
  refine C_getf (i := 10) (x := 12) (y := 0) (v := .ref 1) G (by decide +kernel) (by decide +kernel) (by decide) (by decide) (by decide) rfl ?_
  refine C_aload_n (n := 0) (i := 0) (v := 0) G (by decide +kernel) rfl rfl ?_
  refine C_getf (i := 27) (x := 12) (y := 2) (v := .ref 5) G (by decide +kernel) (by decide +kernel) (by decide) (by decide) (by decide) rfl ?_
  refine C_call (y := yX5_init) (bytes := cX5_init) (maxL := 3) (i := 69) (d := d + 4) (a := 149) (as := [.ref 1, .ref 5]) (r := [.ref 149, .ref 0]) G okK_X5_init ⟨rfl, (by decide +kernel)⟩ (by decide +kernel) (Nat.le_refl _) (Nat.le_refl _) ⟨Nat.le_of_ble_eq_true rfl, Nat.le_of_ble_eq_true rfl⟩ hA (K_X5_init_149 (d := d + 3) G.ad oo zz hz149) rfl (by decide) (by decide +kernel) rfl rfl OO_K_X5_init_149 ZZ_K_X5_init_149 (fun ad12 n12 => ?_)
  have G := G.nx n12; have oo := OO_K_X5_init_149 oo; have zz := ZZ_K_X5_init_149 zz
  refine C_putr (i := 72) (x := 12) (y := 9) (ty := (.object "StatueRent$LogReader")) G (by decide +kernel) (by decide +kernel) (by decide) (by decide) (by decide) (by decide) (Or.inr ⟨(by decide), hnm, rfl⟩) (by decide +kernel) rfl rfl (by decide) (by decide +kernel) (by decide) ?_
  have oo := oo.put (a := 0) (j := 9) (by decide) (by decide +kernel)
  refine C_aload_n (n := 0) (i := 0) (v := 0) G (by decide +kernel) rfl rfl ?_
  have hz154 : ∀ j, (mI (mI (mW u (rwL (wrds.map e5))) 5 3 3) 120 3 3).1 154 j = 0 := fun j => congrFun (zz 154 (Nat.le_refl _)).1 j
  have hy154 : ∀ j, (mI (mI (mW u (rwL (wrds.map e5))) 5 3 3) 120 3 3).2 154 j = 0 := fun j => congrFun (zz 154 (Nat.le_refl _)).2 j
  refine C_new (i := 76) (x := 9) G (by decide +kernel) (by decide +kernel) (by decide) (by decide) ⟨(by decide +kernel), (by decide +kernel), (by decide +kernel)⟩ hA (Nat.le_of_ble_eq_true rfl) (Nat.le_of_ble_eq_true rfl) rfl rfl (fun ad13 n13 => ?_)
  have G := G.nx n13; have oo := oo.up; have zz := zz.up
  refine C_dup_r G (by decide +kernel) ?_
  refine C_aload_n (n := 0) (i := 0) (v := 0) G (by decide +kernel) rfl rfl ?_
  refine C_getf (i := 10) (x := 12) (y := 0) (v := .ref 1) G (by decide +kernel) (by decide +kernel) (by decide) (by decide) (by decide) rfl ?_
  refine C_aload_n (n := 0) (i := 0) (v := 0) G (by decide +kernel) rfl rfl ?_
  refine C_getf (i := 27) (x := 12) (y := 2) (v := .ref 5) G (by decide +kernel) (by decide +kernel) (by decide) (by decide) (by decide) rfl ?_
  refine C_call (y := yX9_init) (bytes := cX9_init) (maxL := 3) (i := 78) (d := d + 4) (a := 154) (as := [.ref 1, .ref 5]) (r := [.ref 154, .ref 0]) G okK_X9_init ⟨rfl, (by decide +kernel)⟩ (by decide +kernel) (Nat.le_refl _) (Nat.le_refl _) ⟨Nat.le_of_ble_eq_true rfl, Nat.le_of_ble_eq_true rfl⟩ hA (K_X9_init_154 (d := d + 2) G.ad oo zz hz154) rfl (by decide) (by decide +kernel) rfl rfl OO_K_X9_init_154 ZZ_K_X9_init_154 (fun ad14 n14 => ?_)
  have G := G.nx n14; have oo := OO_K_X9_init_154 oo; have zz := ZZ_K_X9_init_154 zz
  refine C_putr (i := 79) (x := 12) (y := 10) (ty := (.object "StatueRent$SentenceReader")) G (by decide +kernel) (by decide +kernel) (by decide) (by decide) (by decide) (by decide) (Or.inr ⟨(by decide), hnm, rfl⟩) (by decide +kernel) rfl rfl (by decide) (by decide +kernel) (by decide) ?_
  have oo := oo.put (a := 0) (j := 10) (by decide) (by decide +kernel)
  refine C_aload_n (n := 0) (i := 0) (v := 0) G (by decide +kernel) rfl rfl ?_
  have hz160 : ∀ j, (mI (mI (mW u (rwL (wrds.map e5))) 5 3 3) 120 3 3).1 160 j = 0 := fun j => congrFun (zz 160 (Nat.le_refl _)).1 j
  have hy160 : ∀ j, (mI (mI (mW u (rwL (wrds.map e5))) 5 3 3) 120 3 3).2 160 j = 0 := fun j => congrFun (zz 160 (Nat.le_refl _)).2 j
  refine C_new (i := 83) (x := 7) G (by decide +kernel) (by decide +kernel) (by decide) (by decide) ⟨(by decide +kernel), (by decide +kernel), (by decide +kernel)⟩ hA (Nat.le_of_ble_eq_true rfl) (Nat.le_of_ble_eq_true rfl) rfl rfl (fun ad15 n15 => ?_)
  have G := G.nx n15; have oo := oo.up; have zz := zz.up
  refine C_dup_r G (by decide +kernel) ?_
  refine C_aload_n (n := 0) (i := 0) (v := 0) G (by decide +kernel) rfl rfl ?_
  refine C_getf (i := 27) (x := 12) (y := 2) (v := .ref 5) G (by decide +kernel) (by decide +kernel) (by decide) (by decide) (by decide) rfl ?_
  refine C_aload_n (n := 0) (i := 0) (v := 0) G (by decide +kernel) rfl rfl ?_
  refine C_getf (i := 32) (x := 12) (y := 3) (v := .ref 20) G (by decide +kernel) (by decide +kernel) (by decide) (by decide) (by decide) rfl ?_
  refine C_call (y := yX7_init) (bytes := cX7_init) (maxL := 3) (i := 85) (d := d + 4) (a := 160) (as := [.ref 5, .ref 20]) (r := [.ref 160, .ref 0]) G okK_X7_init ⟨rfl, (by decide +kernel)⟩ (by decide +kernel) (Nat.le_refl _) (Nat.le_refl _) ⟨Nat.le_of_ble_eq_true rfl, Nat.le_of_ble_eq_true rfl⟩ hA (K_X7_init_160 (d := d + 3) G.ad oo zz hz160) rfl (by decide) (by decide +kernel) rfl rfl OO_K_X7_init_160 ZZ_K_X7_init_160 (fun ad16 n16 => ?_)
  have G := G.nx n16; have oo := OO_K_X7_init_160 oo; have zz := ZZ_K_X7_init_160 zz
  refine C_putr (i := 88) (x := 12) (y := 11) (ty := (.object "StatueRent$Reckoning")) G (by decide +kernel) (by decide +kernel) (by decide) (by decide) (by decide) (by decide) (Or.inr ⟨(by decide), hnm, rfl⟩) (by decide +kernel) rfl rfl (by decide) (by decide +kernel) (by decide) ?_
  have oo := oo.put (a := 0) (j := 11) (by decide) (by decide +kernel)
  refine C_aload_n (n := 0) (i := 0) (v := 0) G (by decide +kernel) rfl rfl ?_
  have hz165 : ∀ j, (mI (mI (mI (mI (mI (mI (mW u (rwL (wrds.map e5))) 5 3 3) 120 3 3) 160 6 (-1)) 160 7 (-1)) 160 8 (-1)) 160 9 (-1)).1 165 j = 0 := fun j => congrFun (zz 165 (Nat.le_refl _)).1 j
  have hy165 : ∀ j, (mI (mI (mI (mI (mI (mI (mW u (rwL (wrds.map e5))) 5 3 3) 120 3 3) 160 6 (-1)) 160 7 (-1)) 160 8 (-1)) 160 9 (-1)).2 165 j = 0 := fun j => congrFun (zz 165 (Nat.le_refl _)).2 j
  refine C_new (i := 92) (x := 3) G (by decide +kernel) (by decide +kernel) (by decide) (by decide) ⟨(by decide +kernel), (by decide +kernel), (by decide +kernel)⟩ hA (Nat.le_of_ble_eq_true rfl) (Nat.le_of_ble_eq_true rfl) rfl rfl (fun ad17 n17 => ?_)
  have G := G.nx n17; have oo := oo.up; have zz := zz.up
  refine C_dup_r G (by decide +kernel) ?_
  refine C_aload_n (n := 0) (i := 0) (v := 0) G (by decide +kernel) rfl rfl ?_
  refine C_getf (i := 27) (x := 12) (y := 2) (v := .ref 5) G (by decide +kernel) (by decide +kernel) (by decide) (by decide) (by decide) rfl ?_
  refine C_aload_n (n := 0) (i := 0) (v := 0) G (by decide +kernel) rfl rfl ?_
  refine C_getf (i := 32) (x := 12) (y := 3) (v := .ref 20) G (by decide +kernel) (by decide +kernel) (by decide) (by decide) (by decide) rfl ?_
  refine C_call (y := yX3_init) (bytes := cX3_init) (maxL := 3) (i := 94) (d := d + 4) (a := 165) (as := [.ref 5, .ref 20]) (r := [.ref 165, .ref 0]) G okK_X3_init ⟨rfl, (by decide +kernel)⟩ (by decide +kernel) (Nat.le_refl _) (Nat.le_refl _) ⟨Nat.le_of_ble_eq_true rfl, Nat.le_of_ble_eq_true rfl⟩ hA (K_X3_init_165 (d := d + 3) G.ad oo zz hz165) rfl (by decide) (by decide +kernel) rfl rfl OO_K_X3_init_165 ZZ_K_X3_init_165 (fun ad18 n18 => ?_)
  have G := G.nx n18; have oo := OO_K_X3_init_165 oo; have zz := ZZ_K_X3_init_165 zz
  refine C_putr (i := 95) (x := 12) (y := 12) (ty := (.object "StatueRent$Guide")) G (by decide +kernel) (by decide +kernel) (by decide) (by decide) (by decide) (by decide) (Or.inr ⟨(by decide), hnm, rfl⟩) (by decide +kernel) rfl rfl (by decide) (by decide +kernel) (by decide) ?_
  have oo := oo.put (a := 0) (j := 12) (by decide) (by decide +kernel)
  refine C_aload_n (n := 0) (i := 0) (v := 0) G (by decide +kernel) rfl rfl ?_
  have hz171 : ∀ j, (mI (mI (mI (mI (mI (mI (mW u (rwL (wrds.map e5))) 5 3 3) 120 3 3) 160 6 (-1)) 160 7 (-1)) 160 8 (-1)) 160 9 (-1)).1 171 j = 0 := fun j => congrFun (zz 171 (Nat.le_refl _)).1 j
  have hy171 : ∀ j, (mI (mI (mI (mI (mI (mI (mW u (rwL (wrds.map e5))) 5 3 3) 120 3 3) 160 6 (-1)) 160 7 (-1)) 160 8 (-1)) 160 9 (-1)).2 171 j = 0 := fun j => congrFun (zz 171 (Nat.le_refl _)).2 j
  refine C_new (i := 99) (x := 2) G (by decide +kernel) (by decide +kernel) (by decide) (by decide) ⟨(by decide +kernel), (by decide +kernel), (by decide +kernel)⟩ hA (Nat.le_of_ble_eq_true rfl) (Nat.le_of_ble_eq_true rfl) rfl rfl (fun ad19 n19 => ?_)
  have G := G.nx n19; have oo := oo.up; have zz := zz.up
  refine C_dup_r G (by decide +kernel) ?_
  refine C_aload_n (n := 0) (i := 0) (v := 0) G (by decide +kernel) rfl rfl ?_
  refine C_getf (i := 10) (x := 12) (y := 0) (v := .ref 1) G (by decide +kernel) (by decide +kernel) (by decide) (by decide) (by decide) rfl ?_
  refine C_aload_n (n := 0) (i := 0) (v := 0) G (by decide +kernel) rfl rfl ?_
  refine C_getf (i := 27) (x := 12) (y := 2) (v := .ref 5) G (by decide +kernel) (by decide +kernel) (by decide) (by decide) (by decide) rfl ?_
  refine C_aload_n (n := 0) (i := 0) (v := 0) G (by decide +kernel) rfl rfl ?_
  refine C_getf (i := 32) (x := 12) (y := 3) (v := .ref 20) G (by decide +kernel) (by decide +kernel) (by decide) (by decide) (by decide) rfl ?_
  refine C_call (y := yX2_init) (bytes := cX2_init) (maxL := 4) (i := 101) (d := d + 4) (a := 171) (as := [.ref 1, .ref 5, .ref 20]) (r := [.ref 171, .ref 0]) G okK_X2_init ⟨rfl, (by decide +kernel)⟩ (by decide +kernel) (Nat.le_refl _) (Nat.le_refl _) ⟨Nat.le_of_ble_eq_true rfl, Nat.le_of_ble_eq_true rfl⟩ hA (K_X2_init_171 (d := d + 3) G.ad oo zz hz171) rfl (by decide) (by decide +kernel) rfl rfl OO_K_X2_init_171 ZZ_K_X2_init_171 (fun ad20 n20 => ?_)
  have G := G.nx n20; have oo := OO_K_X2_init_171 oo; have zz := ZZ_K_X2_init_171 zz
  refine C_putr (i := 104) (x := 12) (y := 13) (ty := (.object "StatueRent$Guesses")) G (by decide +kernel) (by decide +kernel) (by decide) (by decide) (by decide) (by decide) (Or.inr ⟨(by decide), hnm, rfl⟩) (by decide +kernel) rfl rfl (by decide) (by decide +kernel) (by decide) ?_
  have oo := oo.put (a := 0) (j := 13) (by decide) (by decide +kernel)
  refine C_aload_n (n := 0) (i := 0) (v := 0) G (by decide +kernel) rfl rfl ?_
  refine C_bipush (n := 32) (v := 32) G (by decide +kernel) rfl ?_
  have oo0 := oo; have zz0 := zz
  refine C_newi (x := 0) (N := 32) G (by decide +kernel) (by decide +kernel) (by decide +kernel) (by decide) hA rfl (by decide) (Nat.le_of_ble_eq_true rfl) (Nat.le_of_ble_eq_true rfl) rfl rfl (fun ad21 n21 => ?_)
  have G := G.nx n21; have oo := oo.up; have zz := zz.up
  refine C_putr (i := 108) (x := 12) (y := 14) (ty := (.array .int)) G (by decide +kernel) (by decide +kernel) (by decide) (by decide) (by decide) (by decide) (Or.inr ⟨(by decide), hnm, rfl⟩) (by decide +kernel) rfl rfl (by decide) (by decide +kernel) (by decide) ?_
  have oo := oo.put (a := 0) (j := 14) (by decide) (by decide +kernel)
  refine C_aload_n (n := 0) (i := 0) (v := 0) G (by decide +kernel) rfl rfl ?_
  refine C_iconst (n := 0) (v := 0) G (by decide +kernel) rfl ?_
  refine C_put0 (i := 112) (x := 12) (y := 15) (ty := .int) G (by decide +kernel) (by decide +kernel) (by decide) (by decide) (by decide) (by decide) (Or.inl (by decide)) (by decide +kernel) rfl rfl (Or.inl (by decide)) (hz 15) ?_
  refine C_iconst (n := 0) (v := 0) G (by decide +kernel) rfl ?_
  refine C_istore_n (n := 1) (i := 1) (v := 0) G (by decide +kernel) rfl (by decide) rfl ?_
  refine C_iload_n (n := 1) (i := 1) (v := 0) G (by decide +kernel) rfl rfl ?_
  refine C_iconst (n := 2) (v := 2) G (by decide +kernel) rfl ?_
  refine C_ic_ge (off := 22) (x := 244) G (by decide +kernel) (by decide) ⟨fun z => absurd z (by decide), fun _ => ?_⟩
  refine C_aload_n (n := 0) (i := 0) (v := 0) G (by decide +kernel) rfl rfl ?_
  refine C_getf (i := 33) (x := 12) (y := 4) (v := .ref 34) G (by decide +kernel) (by decide +kernel) (by decide) (by decide) (by decide) rfl ?_
  refine C_iload_n (n := 1) (i := 1) (v := 0) G (by decide +kernel) rfl rfl ?_
  have hz174 : ∀ j, (mI (mI (mI (mI (mI (mI (mI (mI (mI (mW u (rwL (wrds.map e5))) 5 3 3) 120 3 3) 160 6 (-1)) 160 7 (-1)) 160 8 (-1)) 160 9 (-1)) 171 3 (-1)) 171 4 (-1)) 171 5 (-1)).1 174 j = 0 := fun j => congrFun (zz 174 (Nat.le_refl _)).1 j
  have hy174 : ∀ j, (mI (mI (mI (mI (mI (mI (mI (mI (mI (mW u (rwL (wrds.map e5))) 5 3 3) 120 3 3) 160 6 (-1)) 160 7 (-1)) 160 8 (-1)) 160 9 (-1)) 171 3 (-1)) 171 4 (-1)) 171 5 (-1)).2 174 j = 0 := fun j => congrFun (zz 174 (Nat.le_refl _)).2 j
  refine C_new (i := 16) (x := 11) G (by decide +kernel) (by decide +kernel) (by decide) (by decide) ⟨(by decide +kernel), (by decide +kernel), (by decide +kernel)⟩ hA (Nat.le_of_ble_eq_true rfl) (Nat.le_of_ble_eq_true rfl) rfl rfl (fun ad22 n22 => ?_)
  have G := G.nx n22; have oo := oo.up; have zz := zz.up
  refine C_dup_r G (by decide +kernel) ?_
  refine C_callN (y := yX11_init) (bytes := cX11_init) (maxL := 1) (i := 18) (d := d + 4) (a := 174) (as := []) (r := [.ref 174, .int 0, .ref 34]) G okK_X11_init ⟨rfl, (by decide +kernel)⟩ (by decide +kernel) (Nat.le_refl _) (Nat.le_refl _) ⟨Nat.le_of_ble_eq_true rfl, Nat.le_of_ble_eq_true rfl⟩ hA (K_X11_init_174 (d := d + 2) G.ad oo zz hz174) rfl (by decide) (by decide +kernel) rfl rfl OO_K_X11_init_174 ZZ_K_X11_init_174 (fun ad23 n23 => ?_)
  have G := G.nx n23; have oo := OO_K_X11_init_174 oo; have zz := ZZ_K_X11_init_174 zz
  refine C_aastj (a := 34) (b := 174) (t := 0) (n := 2) (x := 11) (j := 0) G rfl (by decide +kernel) (by decide) (by decide) (by decide) (by decide +kernel) (by decide) (Or.inl ⟨rfl, rfl⟩) (vpd rfl) (by decide +kernel) ?_
  have oo := oo.put (a := 34) (j := 0) (by decide) (by decide +kernel)
  refine C_iinc (i := 1) (n := 1) (x := 0) (k := 1) G (by decide +kernel) rfl rfl (by decide) rfl ?_
  refine C_goto (off := -21) (x := 220) G (by decide +kernel) (by decide) ?_
  refine C_iload_n (n := 1) (i := 1) (v := 1) G (by decide +kernel) rfl rfl ?_
  refine C_iconst (n := 2) (v := 2) G (by decide +kernel) rfl ?_
  refine C_ic_ge (off := 22) (x := 244) G (by decide +kernel) (by decide) ⟨fun z => absurd z (by decide), fun _ => ?_⟩
  refine C_aload_n (n := 0) (i := 0) (v := 0) G (by decide +kernel) rfl rfl ?_
  refine C_getf (i := 33) (x := 12) (y := 4) (v := .ref 34) G (by decide +kernel) (by decide +kernel) (by decide) (by decide) (by decide) rfl ?_
  refine C_iload_n (n := 1) (i := 1) (v := 1) G (by decide +kernel) rfl rfl ?_
  have hz204 : ∀ j, (mI (mI (mI (mI (mI (mI (mI (mI (mI (mI (mW u (rwL (wrds.map e5))) 5 3 3) 120 3 3) 160 6 (-1)) 160 7 (-1)) 160 8 (-1)) 160 9 (-1)) 171 3 (-1)) 171 4 (-1)) 171 5 (-1)) 175 3 3).1 204 j = 0 := fun j => congrFun (zz 204 (Nat.le_refl _)).1 j
  have hy204 : ∀ j, (mI (mI (mI (mI (mI (mI (mI (mI (mI (mI (mW u (rwL (wrds.map e5))) 5 3 3) 120 3 3) 160 6 (-1)) 160 7 (-1)) 160 8 (-1)) 160 9 (-1)) 171 3 (-1)) 171 4 (-1)) 171 5 (-1)) 175 3 3).2 204 j = 0 := fun j => congrFun (zz 204 (Nat.le_refl _)).2 j
  refine C_new (i := 16) (x := 11) G (by decide +kernel) (by decide +kernel) (by decide) (by decide) ⟨(by decide +kernel), (by decide +kernel), (by decide +kernel)⟩ hA (Nat.le_of_ble_eq_true rfl) (Nat.le_of_ble_eq_true rfl) rfl rfl (fun ad24 n24 => ?_)
  have G := G.nx n24; have oo := oo.up; have zz := zz.up
  refine C_dup_r G (by decide +kernel) ?_
  refine C_callN (y := yX11_init) (bytes := cX11_init) (maxL := 1) (i := 18) (d := d + 4) (a := 204) (as := []) (r := [.ref 204, .int 1, .ref 34]) G okK_X11_init ⟨rfl, (by decide +kernel)⟩ (by decide +kernel) (Nat.le_refl _) (Nat.le_refl _) ⟨Nat.le_of_ble_eq_true rfl, Nat.le_of_ble_eq_true rfl⟩ hA (K_X11_init_204 (d := d + 2) G.ad oo zz hz204) rfl (by decide) (by decide +kernel) rfl rfl OO_K_X11_init_204 ZZ_K_X11_init_204 (fun ad25 n25 => ?_)
  have G := G.nx n25; have oo := OO_K_X11_init_204 oo; have zz := ZZ_K_X11_init_204 zz
  refine C_aastj (a := 34) (b := 204) (t := 0) (n := 2) (x := 11) (j := 1) G rfl (by decide +kernel) (by decide) (by decide) (by decide) (by decide +kernel) (by decide) (Or.inl ⟨rfl, rfl⟩) (vpd rfl) (by decide +kernel) ?_
  have oo := oo.put (a := 34) (j := 1) (by decide) (by decide +kernel)
  refine C_iinc (i := 1) (n := 1) (x := 1) (k := 1) G (by decide +kernel) rfl rfl (by decide) rfl ?_
  refine C_goto (off := -21) (x := 220) G (by decide +kernel) (by decide) ?_
  refine C_iload_n (n := 1) (i := 1) (v := 2) G (by decide +kernel) rfl rfl ?_
  refine C_iconst (n := 2) (v := 2) G (by decide +kernel) rfl ?_
  refine C_ic_ge (off := 22) (x := 244) G (by decide +kernel) (by decide) ⟨fun _ => ?_, fun z => absurd (by decide) z⟩
  exact C_ret (X0 := X) (ad := ad25) G hr hlk (((((((((((((((((((((((((n0.tr n1 (by decide)).tr n2 (by decide)).tr n3 (by decide)).tr n4 (by decide)).tr n5 (by decide)).tr n6 (by decide)).tr n7 (by decide)).tr n8 (by decide)).tr n9 (by decide)).tr n10 (by decide)).tr n11 (by decide)).tr n12 (by decide)).tr n13 (by decide)).tr n14 (by decide)).tr n15 (by decide)).tr n16 (by decide)).tr n17 (by decide)).tr n18 (by decide)).tr n19 (by decide)).tr n20 (by decide)).tr n21 (by decide)).tr n22 (by decide)).tr n23 (by decide)).tr n24 (by decide)).tr n25 (by decide)) (by decide +kernel)
theorem okK_X13_init : okR yX13_init cX13_init 1 none 0 := ⟨by decide +kernel, by decide +kernel, by decide +kernel, by decide +kernel, by decide +kernel, by decide, by decide +kernel⟩
