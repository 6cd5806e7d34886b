/-! the law up to its loop: both objects and the row are made -/
theorem law_start {X : Xc} {p : Program} {e : Env} {s : State} {m : MethodId} {args : Array Value} {below : List Frame} {meth : Method} {c : Code} {L : Nat} {xs : Nat → Int32} {Z : State → Prop} (G : Gx X p s m args c RL cL_law 7 (some (L, xs))) (hA : xB X ≤ s.heap.size) (hX : (xL X).stackTraces = false) (hL : L ≤ 3072)
    (hE : ∀ ad i cells slots u, cells ≤ room_1.cells → slots ≤ room_1.slots → Rl u → Vx (xw X ad) p e room_1 s m args below meth c 7 cells slots Z 1743 (lvL i) [] u) : Vc X 0 sZ0 p e room_1 s m args below meth c 7 0 0 Z 0 (lvE [.ref 1001] 7) [] mZ0 := by
  have oo := mZ_ok
  have zz := mZ_zr
  have hz0 : ∀ j, mZ0.1 0 j = 0 := fun _ => rfl
  refine C_new (i := 8) (x := 12) G (by decide +kernel) (by decide +kernel) (by decide) (by decide) ⟨by decide +kernel, by decide +kernel, by decide +kernel⟩ hA (by decide +kernel) (by decide +kernel) rfl rfl (fun ad0 n0 => ?_)
  have G := G.nx n0; have oo := oo.up; have zz := zz.up
  refine C_dup_r G (by decide +kernel) ?_
  refine C_call (y := yX12_init) (bytes := cX12_init) (maxL := 2) (i := 29) (d := 0 + 5) (a := 0) (as := []) (r := [.ref 0]) G okK_X12_init ⟨rfl, by decide +kernel⟩ (by decide +kernel) (by decide) (by decide) ⟨by decide +kernel, by decide +kernel⟩ hA (K_X12_init_0 (d := 0) G.ad oo zz hz0) rfl (by decide) (by decide +kernel) rfl rfl OO_K_X12_init_0 ZZ_K_X12_init_0 (fun ad1 n1 => ?_)
  have G := G.nx n1; have oo := OO_K_X12_init_0 oo; have zz := ZZ_K_X12_init_0 zz
  refine C_astore_n (n := 1) (i := 1) (v := 0) G (by decide +kernel) rfl (by decide) rfl ?_
  have hz1 := fun j => congrFun (zz 234 (Nat.le_refl _)).1 j
  refine C_new (i := 30) (x := 13) G (by decide +kernel) (by decide +kernel) (by decide) (by decide) ⟨by decide +kernel, by decide +kernel, by decide +kernel⟩ hA (by decide +kernel) (by decide +kernel) rfl rfl (fun ad2 n2 => ?_)
  have G := G.nx n2; have oo := oo.up; have zz := zz.up
  refine C_dup_r G (by decide +kernel) ?_
  refine C_call (y := yX13_init) (bytes := cX13_init) (maxL := 1) (i := 32) (d := 0 + 1) (a := 234) (as := []) (r := [.ref 234]) G okK_X13_init ⟨rfl, by decide +kernel⟩ (by decide +kernel) (by decide) (by decide) ⟨by decide +kernel, by decide +kernel⟩ hA (K_X13_init_234 (d := 0) G.ad oo zz hz1) rfl (by decide) (by decide +kernel) rfl rfl OO_K_X13_init_234 ZZ_K_X13_init_234 (fun ad3 n3 => ?_)
  have G := G.nx n3; have oo := OO_K_X13_init_234 oo; have zz := ZZ_K_X13_init_234 zz
  refine C_astore_n (n := 2) (i := 2) (v := 234) G (by decide +kernel) rfl (by decide) rfl ?_
  refine C_iconst (n := 1) (v := 1) G (by decide +kernel) rfl ?_
  refine C_newl (x := 0) (N := 1) G (by decide +kernel) (by decide +kernel) (by decide +kernel) (by decide) hA rfl (by decide) (by decide +kernel) (by decide +kernel) rfl rfl (fun ad4 n4 => ?_)
  have G := G.nx n4
  refine C_astore_n (n := 3) (i := 3) (v := 261) G (by decide +kernel) rfl (by decide) rfl ?_
  refine C_iconst (n := 0) (v := 0) G (by decide +kernel) rfl ?_
  refine C_istore (i := 4) (v := 0) G (by decide +kernel) (by decide) rfl ?_
  exact Vc_of_Vx sF_full (L_loop (X := xw X ad4) G hX (by decide) (by decide) hL (fun i cells slots u h1 h2 h3 => hE ad4 i cells slots u h1 h2 h3) 513 0 _ _ uF rfl (by decide +kernel) (by decide +kernel) uF_rl)
