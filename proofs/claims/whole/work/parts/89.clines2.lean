section CL2
variable {X : Xc} {d : Nat} {u : Mm} {f : Nat → Nat} {n m : Nat} {ρ : RDS} {D : DR}
theorem rNum_inr {ρ' : RDS} {a b v : Nat} (h : rNum f n m ρ a b = .inr (v, ρ')) : ρ' = nxt f n m ρ ∧ a ≤ v ∧ v ≤ b := by
  unfold rNum at h; split at h <;> (try split at h) <;> cases h; rename_i q; exact ⟨rfl, q⟩
theorem rNamed_inr {nl : Nat → List Nat} {base cnt j : Nat} {ρ' : RDS} (h : rNamed f n m nl base cnt ρ = .inr (j, ρ')) : ρ' = nxt f n m ρ := by
  unfold rNamed at h; split at h <;> cases h; rfl
theorem rNew_inr {ρ' : RDS} (h : rNew f n m D ρ = .inr ρ') : ρ' = nxt f n m ρ := by
  unfold rNew at h; split at h <;> (try split at h) <;> cases h; rfl
theorem rFst_inr {b : Bool} {ρ' : RDS} (h : rFst f n m b ρ = .inr ρ') : ρ' = nxt f n m ρ := by
  unfold rFst at h; split at h <;> cases h; rfl
theorem kSt {K : Mm → Prop} (hd : 6 ≤ d) (hE : En u f n m) (hc : DrC u D) (ho : DOk D) (hr : RdC u f n m ρ) (hk : tkOk ρ n) (h2 : ρ.2.1 = 2) (h0 : ∀ e, lnSt f n m D ρ = .inl e → ∀ V, FrG u V → FtC V e → K V) (h1 : ∀ D' ρ', lnSt f n m D ρ = .inr (D', ρ') → DOk D' → tkOk ρ' n → Adv ρ ρ' → ∀ V, FrD u V → RdC V f n m ρ' → DrC V D' → K V) : CV X d 21 [.ref 118] u K := by
  obtain ⟨d, rfl, hd1⟩ := dpos hd
  obtain ⟨⟨a1, a2, a3, a4, a5, a6, a7, a8, -⟩, -⟩ := id ho
  obtain ⟨m0, m1, m2, m3⟩ := hc.nm ho
  refine CV_of mk_X1_readStatue.2.2 rfl (B_CR_readStatue_0 ?_)
  unfold lnSt at h0 h1
  /- what is left to be done behind a fault -/
  have fl4 : ∀ (V : Mm) (e : FT) (w2 : Int64) (w3 w4 : Int32), Fr1 u V → FtC V e → K V → CV X d 104 [.ref 1] V (fun u5 => CI X d 116 [.ref 1, .int (0 : Int32), .int (999 : Int32)] u5 (fun w6 u6 => CI X d 116 [.ref 1, .int (0 : Int32), .int (99 : Int32)] u6 (fun w7 u7 => ((u7.1 1 2) = 0 → CI X d 5 [.ref 120, .int (2 : Int32), .long w2] u7 (fun w8 u8 => vp_in w8 8 ∧ CV X d 41 [.ref 135, .int w8, .int w3, .int w4, .int w6] (mI u8 125 w8.toNatClampNeg w7) (fun u9 => K u9))) ∧ (¬ (u7.1 1 2) = 0 → K u7)))) :=
    fun V e w2 w3 w4 v1 v2 hK => f_step (by omega) v2 (f_takeNum (by omega) v2 fun _ => f_takeNum (by omega) v2 fun _ => ⟨fun z => absurd z v2.ne, fun _ => hK⟩)
  have fl3 : ∀ (V : Mm) (e : FT) (w2 : Int64) (w3 : Int32), Fr1 u V → FtC V e → K V → CI X d 118 [.ref 1, .ref 120, .int (0 : Int32)] V (fun w4 u4 => (w4 = (-1 : Int32) → CV X d 104 [.ref 1] u4 (fun u5 => CI X d 116 [.ref 1, .int (0 : Int32), .int (999 : Int32)] u5 (fun w6 u6 => CI X d 116 [.ref 1, .int (0 : Int32), .int (99 : Int32)] u6 (fun w7 u7 => ((u7.1 1 2) = 0 → CI X d 5 [.ref 120, .int (2 : Int32), .long w2] u7 (fun w8 u8 => vp_in w8 8 ∧ CV X d 41 [.ref 135, .int w8, .int w3, .int w4, .int w6] (mI u8 125 w8.toNatClampNeg w7) (fun u9 => K u9))) ∧ (¬ (u7.1 1 2) = 0 → K u7))))) ∧ (¬ w4 = (-1 : Int32) → vp_in w4 8 ∧ ((u4.1 138 w4.toNatClampNeg) = (-1 : Int32) → CV X d 104 [.ref 1] u4 (fun u10 => CI X d 116 [.ref 1, .int (0 : Int32), .int (999 : Int32)] u10 (fun w11 u11 => CI X d 116 [.ref 1, .int (0 : Int32), .int (99 : Int32)] u11 (fun w12 u12 => ((u12.1 1 2) = 0 → CI X d 5 [.ref 120, .int (2 : Int32), .long w2] u12 (fun w13 u13 => vp_in w13 8 ∧ CV X d 41 [.ref 135, .int w13, .int w3, .int w4, .int w11] (mI u13 125 w13.toNatClampNeg w12) (fun u14 => K u14))) ∧ (¬ (u12.1 1 2) = 0 → K u12))))) ∧ (¬ (u4.1 138 w4.toNatClampNeg) = (-1 : Int32) → CV X d 111 [.ref 1, .int (3 : Int32)] u4 (fun u15 => CV X d 104 [.ref 1] u15 (fun u16 => CI X d 116 [.ref 1, .int (0 : Int32), .int (999 : Int32)] u16 (fun w17 u17 => CI X d 116 [.ref 1, .int (0 : Int32), .int (99 : Int32)] u17 (fun w18 u18 => ((u18.1 1 2) = 0 → CI X d 5 [.ref 120, .int (2 : Int32), .long w2] u18 (fun w19 u19 => vp_in w19 8 ∧ CV X d 41 [.ref 135, .int w19, .int w3, .int w4, .int w17] (mI u19 125 w19.toNatClampNeg w18) (fun u20 => K u20))) ∧ (¬ (u18.1 1 2) = 0 → K u18)))))))) := by
    intro V e w2 w3 v1 v2 hK
    have mV := ((v1.dr hc).nm ho).1
    refine f_look120 (s := 0) (cnt := nQ D.1) (by omega) (by omega) mV.1 mV.2.1 v2 ⟨fun _ => fl4 V e w2 w3 _ v1 v2 hK, fun z => absurd rfl z⟩ (fun j hj => ⟨fun z => absurd z (nI_m1 (by omega)), fun _ => ⟨vp_in_nI (by omega) (by decide), fun _ => fl4 V e w2 w3 _ v1 v2 hK, fun _ => f_blame (by omega) v2 (fl4 V e w2 w3 _ v1 v2 hK)⟩⟩)
  refine c_begin1 (s := 2) (cnt := nA D.1) (M := 8) hd1 hE (by omega) (hc.1.2.2.1.trans a5) rfl a6 (by omega) hr h2 (fun e he V v1 v2 => ?_) (fun ρ1 he hlt V v1 v2 => ?_)
  · rw [he] at h0
    have mV := ((v1.dr hc).nm ho).2.1
    exact f_takeNew (by omega) (v1.dr hc) ho v2 fun x => f_named120 (s := 1) (cnt := nK D.1) (by omega) (by omega) mV.1 mV.2.1 v2 (fl3 V e _ _ v1 v2 (h0 e rfl V v1.g v2)) (fun j hj => fl3 V e _ _ v1 v2 (h0 e rfl V v1.g v2))
  · rw [he] at h0 h1
    dsimp only [bd] at h0 h1
    have hρ1 := rFst_inr he
    obtain ⟨k1, ad1⟩ := nxt_ok (f := f) (n := n) (m := m) (ρ := ρ) hE.1 hE.2.1 hk
    rw [← hρ1] at k1 ad1
    refine c_takeNew hd1 (hE.fr v1) (v1.dr hc) ho v2 k1 (fun e he x V2 w1 w2 => ?_) (fun ρ2 he hl V2 w1 w2 => ?_)
    · rw [he] at h0
      have v12 := v1.tr w1
      have mV := ((v12.dr hc).nm ho).2.1
      exact f_named120 (s := 1) (cnt := nK D.1) (by omega) (by omega) mV.1 mV.2.1 w2 (fl3 V2 e _ _ v12 w2 (h0 e rfl V2 v12.g w2)) (fun j hj => fl3 V2 e _ _ v12 w2 (h0 e rfl V2 v12.g w2))
    · rw [he] at h0 h1
      dsimp only [bd] at h0 h1
      have hρ2 := rNew_inr he
      obtain ⟨k2, ad2⟩ := nxt_ok (f := f) (n := n) (m := m) (ρ := ρ1) hE.1 hE.2.1 k1
      rw [← hρ2] at k2 ad2
      have v12 := v1.tr w1
      refine c_named120 (s := 1) hd1 hE.1 hE.2.1 (hE.fr v12).2.2.1 (hE.fr v12).2.2.2 (by omega) ((v12.dr hc).nm ho).2.1 w2 k2 (fun e he V3 x1 x2 => ?_) (fun kd ρ3 hkd he V3 x1 x2 => ?_)
      · rw [he] at h0
        exact fl3 V3 e _ _ (v12.tr x1) x2 (h0 e rfl V3 (v12.tr x1).g x2)
      · rw [he] at h0 h1
        dsimp only [bd] at h0 h1
        have hρ3 := rNamed_inr he
        obtain ⟨k3, ad3⟩ := nxt_ok (f := f) (n := n) (m := m) (ρ := ρ2) hE.1 hE.2.1 k2
        rw [← hρ3] at k3 ad3
        have v123 := v12.tr x1
        refine c_look120 (s := 0) (by omega) (by omega) ((v123.dr hc).nm ho).1 x2 k3 (fun e he V4 y1 y2 => ?_) (fun q hq he => ?_)
        · rw [he] at h0
          exact ⟨fun _ => fl4 V4 e _ _ _ (v123.tr y1) y2 (h0 e rfl V4 (v123.tr y1).g y2), fun z => absurd rfl z⟩
        · rw [he] at h0 h1
          dsimp only [bd] at h0 h1
          have hs3 : V3.1 138 q = stF D q := ((v123.dr hc).2.2.1 q (by omega)).2
          rw [nI_clamp (by omega), hs3]
          refine ⟨fun z => absurd z (nI_m1 (by omega)), fun _ => ⟨vp_in_nI (by omega) (by decide), fun hst => ?_, fun hst => ?_⟩⟩
          · rw [if_pos hst] at h0 h1
            obtain ⟨k4, ad4⟩ := nxt_ok (f := f) (n := n) (m := m) (ρ := ρ3) hE.1 hE.2.1 k3
            refine c_step (by omega) hE.1 hE.2.1 (hE.fr v123).2.2.1 (hE.fr v123).2.2.2 x2 (by rw [rLook_k he]; omega) fun V4 y1 y2 => ?_
            have v4 := v123.tr y1
            refine c_takeNum (a := 0) (b := 999) hd1 hE.1 hE.2.1 (hE.fr v4).2.2.1 (hE.fr v4).2.2.2 y2 k4 (by omega) (by omega) (fun e he w V5 z1 z2 => ?_) (fun pv ρ5 he V5 z1 z2 => ?_)
            · rw [he] at h0
              exact f_takeNum (by omega) z2 fun w => ⟨fun z => absurd z z2.ne, fun _ => h0 e rfl V5 (v4.tr z1).g z2⟩
            · rw [he] at h0 h1
              dsimp only [bd] at h0 h1
              obtain ⟨hρ5, -, -⟩ := rNum_inr he
              obtain ⟨k5, ad5⟩ := nxt_ok (f := f) (n := n) (m := m) (ρ := nxt f n m ρ3) hE.1 hE.2.1 k4
              rw [← hρ5] at k5 ad5
              have v5 := v4.tr z1
              refine c_takeNum (a := 0) (b := 99) hd1 hE.1 hE.2.1 (hE.fr v5).2.2.1 (hE.fr v5).2.2.2 z2 k5 (by omega) (by omega) (fun e he w V6 t1 t2 => ?_) (fun bv ρ6 he V6 t1 t2 => ?_)
              · rw [he] at h0
                exact ⟨fun z => absurd z t2.ne, fun _ => h0 e rfl V6 (v5.tr t1).g t2⟩
              · rw [he] at h1
                dsimp only [bd] at h1
                obtain ⟨hρ6, -, hbv⟩ := rNum_inr he
                obtain ⟨k6, ad6⟩ := nxt_ok (f := f) (n := n) (m := m) (ρ := ρ5) hE.1 hE.2.1 k5
                rw [← hρ6] at k6 ad6
                have v6 := v5.tr t1
                have hc3 := v6.dr hc
                refine ⟨fun _ => c_add (s := 2) (by omega) (by omega) hlt (hc3.1.2.2.1.trans a5) ?_, fun z => absurd t2.2.1 z⟩
                rw [nI_clamp (by omega)]
                refine ⟨vp_in_nI hlt (by decide), ?_⟩
                obtain ⟨d, rfl, hd2⟩ := dpos hd1
                refine CV_of mk_X4_settle.2.2 rfl (B_L135_settle_0 ?_)
                rw [nI_clamp (show nA D.1 < 2 ^ 31 by omega), nI_clamp (show q < 2 ^ 31 by omega)]
                refine ⟨vp_in_nI hlt (by decide), vp_in_nI hlt (by decide), vp_in_nI (by omega) (by decide), vp_in_nI hlt (by decide), vp_in_nI hlt (by decide), vp_in_nI hlt (by decide), ?_⟩
                refine h1 _ _ rfl (dSt_ok ho hlt hl hkd hq hbv hst) k6 (ad1.tr (ad2.tr (ad3.tr (ad4.tr (ad5.tr ad6))))) _ ((((((((v6.d.mJ).mI (by omega)).mI (by omega)).mI (by omega)).mI (by omega)).mI (by omega)).mI (by omega)).mI (by omega) |>.mI (by omega)) (t2.cg ?_ ?_) ?_
                · simp (disch := omega) only [mI_r, mJ_1]
                · simp (disch := omega) only [mI_2, mJ_r]
                · obtain ⟨n1, n2, n3, n4⟩ := dSt_n (D := D) (l := ρ1.2.2.2.1) (k := kd) (q := q) (v := pv) (b := bv) hlt
                  obtain ⟨⟨c1, c2, c3, c4, c5, c6⟩, s, ns, k, a, w, li, z⟩ := hc3
                  have hfree := stF_free (q := q) (by omega) hst
                  have hst' : ∀ q', q' < 8 → stF (dSt D ρ1.2.2.2.1 kd q pv bv) q' = if q' = q then nI (nA D.1) else stF D q' := by
                    intro q' hq'
                    unfold stF
                    rw [n3, fstI]
                    have ec : fstI (fun a => decide ((dSt D ρ1.2.2.2.1 kd q pv bv).1 (30 + a) = nI q')) (nA D.1) = fstI (fun a => decide (D.1 (30 + a) = nI q')) (nA D.1) := fstI_congr fun a ha => by
                      unfold dSt; dsimp only; simp (disch := omega) only [pk_un]
                    have el : (dSt D ρ1.2.2.2.1 kd q pv bv).1 (30 + nA D.1) = nI q := by unfold dSt; dsimp only; simp (disch := omega) only [pk_un, pk_us]
                    rw [ec, el]
                    by_cases e : q' = q
                    · subst e
                      have : fstI (fun a => decide (D.1 (30 + a) = nI q')) (nA D.1) = -1 := hst
                      rw [this, if_pos rfl, if_pos rfl]; simp
                    · rw [if_neg e]
                      have hne : decide (nI q = nI q') = false := decide_eq_false (fun z => e ((nI_eq (by omega) (by omega)).mp z).symm)
                      rw [hne]
                      split
                      · rename_i h; simp [h]
                      · rfl
                  unfold DrC
                  rw [n1, n2, n3, n4]
                  refine ⟨?_, fun q' hq' => ?_, fun q' hq' => ?_, fun k' hk' => ?_, fun a' ha' => ?_, fun w' hw' => ?_, ?_, ?_⟩
                  · unfold dSt; dsimp only
                    simp (disch := omega) only [mI_n, mI_s, mI_r, mJ_1, pk_un, pk_us]
                    exact ⟨c1, c2, trivial, c4, c5, c6⟩
                  · unfold dSt; dsimp only
                    simp (disch := omega) only [mI_r, mJ_1, mI_2, mJ_n, pk_un, uLn]
                    exact s q' hq'
                  · rw [hst' q' hq']
                    unfold dSt; dsimp only
                    by_cases e : q' = q
                    · subst e
                      simp (disch := omega) only [mI_r, mI_s, mJ_1, pk_un, if_true]
                      exact ⟨(ns q' hq').1, trivial⟩
                    · simp (disch := omega) only [mI_r, mI_n, mJ_1, pk_un, e, if_false]
                      exact ns q' hq'
                  · unfold dSt; dsimp only
                    simp (disch := omega) only [mI_2, mJ_n, uLn]
                    exact k k' hk'
                  · unfold dSt; dsimp only
                    by_cases e : a' = nA D.1
                    · subst e
                      simp (disch := omega) only [mI_r, mI_s, mJ_1, mI_2, pk_un, pk_us, uLs]
                      rw [show 8 * 2 + nA D.1 = 16 + nA D.1 by omega, mJ_s]
                      exact ⟨trivial, trivial, trivial, trivial, trivial, trivial, rfl⟩
                    · simp (disch := omega) only [mI_r, mI_n, mJ_1, mI_2, mJ_n, pk_un, uLn]
                      exact a a' (by omega)
                  · unfold dSt; dsimp only
                    simp (disch := omega) only [mI_r, mJ_1, mI_2, mJ_n, pk_un, uLn]
                    exact w w' hw'
                  · unfold dSt; dsimp only
                    simp (disch := omega) only [mI_r, mJ_1, pk_un]
                    exact li
                  · simp (disch := omega) only [mI_r, mJ_1]
                    exact z
          · rw [if_neg hst] at h0
            exact c_blame (by omega) x2.2.1 (fl4 _ (3, ρ3.1) _ _ _ v123.mI (FtC.of (k := 3) x2 (by omega) (by omega)) (h0 _ rfl _ v123.mI.g (FtC.of (k := 3) x2 (by omega) (by omega))))
theorem kWa {K : Mm → Prop} (hd : 6 ≤ d) (hE : En u f n m) (hc : DrC u D) (ho : DOk D) (hr : RdC u f n m ρ) (hk : tkOk ρ n) (h2 : ρ.2.1 = 2) (h0 : ∀ e, lnWa f n m D ρ = .inl e → ∀ V, FrG u V → FtC V e → K V) (h1 : ∀ D' ρ', lnWa f n m D ρ = .inr (D', ρ') → DOk D' → tkOk ρ' n → Adv ρ ρ' → ∀ V, FrD u V → RdC V f n m ρ' → DrC V D' → K V) : CV X d 22 [.ref 118] u K := by
  obtain ⟨d, rfl, hd1⟩ := dpos hd
  obtain ⟨⟨a1, a2, a3, a4, a5, a6, a7, a8, -⟩, -⟩ := id ho
  refine CV_of mk_X1_readWalker.2.2 rfl (B_CR_readWalker_0 ?_)
  unfold lnWa at h0 h1
  have mm : ∀ V, Fr1 u V → NmC V 120 0 0 (nQ D.1) D.2.1 := fun V v1 => ((v1.dr hc).nm ho).1
  refine c_begin1 (s := 3) (cnt := nW' D.1) (M := 8) hd1 hE (by omega) (hc.1.2.2.2.1.trans a7) rfl a8 (by omega) hr h2 (fun e he V v1 v2 => ?_) (fun ρ1 he hlt V v1 v2 => ?_)
  · rw [he] at h0
    have r1 : ∀ w3 : Int32, ∀ w4 : Int32, K V := fun _ _ => h0 e rfl V v1.g v2
    exact f_takeNew (by omega) (v1.dr hc) ho v2 fun x => f_named120 (s := 0) (cnt := nQ D.1) (by omega) (by omega) (mm V v1).1 (mm V v1).2.1 v2 (f_named120 (s := 0) (cnt := nQ D.1) (by omega) (by omega) (mm V v1).1 (mm V v1).2.1 v2 (f_takeNum (by omega) v2 fun _ => f_takeNum (by omega) v2 fun _ => ⟨fun z => absurd z v2.ne, fun _ => h0 e rfl V v1.g v2⟩) (fun _ _ => f_takeNum (by omega) v2 fun _ => f_takeNum (by omega) v2 fun _ => ⟨fun z => absurd z v2.ne, fun _ => h0 e rfl V v1.g v2⟩)) (fun _ _ => f_named120 (s := 0) (cnt := nQ D.1) (by omega) (by omega) (mm V v1).1 (mm V v1).2.1 v2 (f_takeNum (by omega) v2 fun _ => f_takeNum (by omega) v2 fun _ => ⟨fun z => absurd z v2.ne, fun _ => h0 e rfl V v1.g v2⟩) (fun _ _ => f_takeNum (by omega) v2 fun _ => f_takeNum (by omega) v2 fun _ => ⟨fun z => absurd z v2.ne, fun _ => h0 e rfl V v1.g v2⟩))
  · rw [he] at h0 h1
    dsimp only [bd] at h0 h1
    have hρ1 := rFst_inr he
    obtain ⟨k1, ad1⟩ := nxt_ok (f := f) (n := n) (m := m) (ρ := ρ) hE.1 hE.2.1 hk
    rw [← hρ1] at k1 ad1
    refine c_takeNew hd1 (hE.fr v1) (v1.dr hc) ho v2 k1 (fun e he x V2 w1 w2 => ?_) (fun ρ2 he hl V2 w1 w2 => ?_)
    · rw [he] at h0
      have v12 := v1.tr w1
      exact f_named120 (s := 0) (cnt := nQ D.1) (by omega) (by omega) (mm V2 v12).1 (mm V2 v12).2.1 w2 (f_named120 (s := 0) (cnt := nQ D.1) (by omega) (by omega) (mm V2 v12).1 (mm V2 v12).2.1 w2 (f_takeNum (by omega) w2 fun _ => f_takeNum (by omega) w2 fun _ => ⟨fun z => absurd z w2.ne, fun _ => h0 e rfl V2 v12.g w2⟩) (fun _ _ => f_takeNum (by omega) w2 fun _ => f_takeNum (by omega) w2 fun _ => ⟨fun z => absurd z w2.ne, fun _ => h0 e rfl V2 v12.g w2⟩)) (fun _ _ => f_named120 (s := 0) (cnt := nQ D.1) (by omega) (by omega) (mm V2 v12).1 (mm V2 v12).2.1 w2 (f_takeNum (by omega) w2 fun _ => f_takeNum (by omega) w2 fun _ => ⟨fun z => absurd z w2.ne, fun _ => h0 e rfl V2 v12.g w2⟩) (fun _ _ => f_takeNum (by omega) w2 fun _ => f_takeNum (by omega) w2 fun _ => ⟨fun z => absurd z w2.ne, fun _ => h0 e rfl V2 v12.g w2⟩))
    · rw [he] at h0 h1
      dsimp only [bd] at h0 h1
      have hρ2 := rNew_inr he
      obtain ⟨k2, ad2⟩ := nxt_ok (f := f) (n := n) (m := m) (ρ := ρ1) hE.1 hE.2.1 k1
      rw [← hρ2] at k2 ad2
      have v12 := v1.tr w1
      refine c_named120 (s := 0) hd1 hE.1 hE.2.1 (hE.fr v12).2.2.1 (hE.fr v12).2.2.2 (by omega) (mm V2 v12) w2 k2 (fun e he V3 x1 x2 => ?_) (fun fa ρ3 hfa he V3 x1 x2 => ?_)
      · rw [he] at h0
        have v3 := v12.tr x1
        exact f_named120 (s := 0) (cnt := nQ D.1) (by omega) (by omega) (mm V3 v3).1 (mm V3 v3).2.1 x2 (f_takeNum (by omega) x2 fun _ => f_takeNum (by omega) x2 fun _ => ⟨fun z => absurd z x2.ne, fun _ => h0 e rfl V3 v3.g x2⟩) (fun _ _ => f_takeNum (by omega) x2 fun _ => f_takeNum (by omega) x2 fun _ => ⟨fun z => absurd z x2.ne, fun _ => h0 e rfl V3 v3.g x2⟩)
      · rw [he] at h0 h1
        dsimp only [bd] at h0 h1
        have hρ3 := rNamed_inr he
        obtain ⟨k3, ad3⟩ := nxt_ok (f := f) (n := n) (m := m) (ρ := ρ2) hE.1 hE.2.1 k2
        rw [← hρ3] at k3 ad3
        have v3 := v12.tr x1
        refine c_named120 (s := 0) hd1 hE.1 hE.2.1 (hE.fr v3).2.2.1 (hE.fr v3).2.2.2 (by omega) (mm V3 v3) x2 k3 (fun e he V4 y1 y2 => ?_) (fun ta ρ4 hta he V4 y1 y2 => ?_)
        · rw [he] at h0
          exact f_takeNum (by omega) y2 fun _ => f_takeNum (by omega) y2 fun _ => ⟨fun z => absurd z y2.ne, fun _ => h0 e rfl V4 (v3.tr y1).g y2⟩
        · rw [he] at h0 h1
          dsimp only [bd] at h0 h1
          have hρ4 := rNamed_inr he
          obtain ⟨k4, ad4⟩ := nxt_ok (f := f) (n := n) (m := m) (ρ := ρ3) hE.1 hE.2.1 k3
          rw [← hρ4] at k4 ad4
          have v4 := v3.tr y1
          refine c_takeNum (a := 1) (b := 7) hd1 hE.1 hE.2.1 (hE.fr v4).2.2.1 (hE.fr v4).2.2.2 y2 k4 (by omega) (by omega) (fun e he w V5 z1 z2 => ?_) (fun ev ρ5 he V5 z1 z2 => ?_)
          · rw [he] at h0
            exact f_takeNum (by omega) z2 fun w => ⟨fun z => absurd z z2.ne, fun _ => h0 e rfl V5 (v4.tr z1).g z2⟩
          · rw [he] at h0 h1
            dsimp only [bd] at h0 h1
            obtain ⟨hρ5, he1, he7⟩ := rNum_inr he
            obtain ⟨k5, ad5⟩ := nxt_ok (f := f) (n := n) (m := m) (ρ := ρ4) hE.1 hE.2.1 k4
            rw [← hρ5] at k5 ad5
            have v5 := v4.tr z1
            refine c_takeNum (a := 0) (b := 9) hd1 hE.1 hE.2.1 (hE.fr v5).2.2.1 (hE.fr v5).2.2.2 z2 k5 (by omega) (by omega) (fun e he w V6 t1 t2 => ?_) (fun wv ρ6 he V6 t1 t2 => ?_)
            · rw [he] at h0
              exact ⟨fun z => absurd z t2.ne, fun _ => h0 e rfl V6 (v5.tr t1).g t2⟩
            · rw [he] at h1
              dsimp only [bd] at h1
              obtain ⟨hρ6, -, hwv⟩ := rNum_inr he
              obtain ⟨k6, ad6⟩ := nxt_ok (f := f) (n := n) (m := m) (ρ := ρ5) hE.1 hE.2.1 k5
              rw [← hρ6] at k6 ad6
              have v6 := v5.tr t1
              have hc3 := v6.dr hc
              refine ⟨fun _ => c_add (s := 3) (by omega) (by omega) hlt (hc3.1.2.2.2.1.trans a7) ?_, fun z => absurd t2.2.1 z⟩
              rw [nI_clamp (by omega)]
              refine ⟨vp_in_nI hlt (by decide), vp_in_nI hlt (by decide), vp_in_nI hlt (by decide), vp_in_nI hlt (by decide), ?_⟩
              refine h1 _ _ rfl (dWa_ok ho hlt hl hfa hta he1 he7 hwv) k6 (ad1.tr (ad2.tr (ad3.tr (ad4.tr (ad5.tr ad6))))) _ ((((((v6.d.mJ).mI (by omega)).mI (by omega)).mI (by omega)).mI (by omega)).mI (by omega)) (t2.cg ?_ ?_) ?_
              · simp (disch := omega) only [mI_r, mJ_1]
              · simp (disch := omega) only [mI_2, mJ_r]
              · obtain ⟨n1, n2, n3, n4⟩ := dWa_n (D := D) (l := ρ1.2.2.2.1) (a := fa) (b := ta) (e := ev) (v := wv) hlt
                obtain ⟨⟨c1, c2, c3, c4, c5, c6⟩, s, ns, k, a, w, li, z⟩ := hc3
                have nm' : (dWa D ρ1.2.2.2.1 fa ta ev wv).2.1 = uL D.2.1 (21 + nW' D.1) ρ1.2.2.2.1 := rfl
                have hh : (dWa D ρ1.2.2.2.1 fa ta ev wv).2.2 = D.2.2 := rfl
                have at' : ∀ i, i < 54 → i ≠ 4 → (dWa D ρ1.2.2.2.1 fa ta ev wv).1 i = D.1 i := fun i hi h4 => by rw [dWa_at (by omega) h4]; simp (disch := omega) only [pk_un]
                have st' : ∀ q, stF (dWa D ρ1.2.2.2.1 fa ta ev wv) q = stF D q := fun q => by
                  unfold stF
                  rw [n3]
                  exact fstI_congr fun a ha => by rw [at' _ (by omega) (by omega)]
                unfold DrC
                rw [n1, n2, n3, n4, nm', hh, at' 0 (by omega) (by omega), at' 1 (by omega) (by omega), at' 2 (by omega) (by omega), at' 3 (by omega) (by omega), at' 5 (by omega) (by omega)]
                simp (disch := omega) only [mI_n, mI_s, mI_r, mJ_1, mI_2]
                refine ⟨⟨c1, c2, c3, by unfold dWa; dsimp only; rw [pk_us], c5, c6⟩, fun q' hq' => ?_, fun q' hq' => ?_, fun k' hk' => ?_, fun a' ha' => ?_, fun w' hw' => ?_, fun i hi => ?_, z⟩
                · rw [at' _ (by omega) (by omega), uLn (by omega), mJ_n (by omega)]; exact s q' hq'
                · rw [at' _ (by omega) (by omega), st']; exact ns q' hq'
                · rw [uLn (by omega), mJ_n (by omega)]; exact k k' hk'
                · rw [at' _ (by omega) (by omega), at' _ (by omega) (by omega), at' _ (by omega) (by omega), at' _ (by omega) (by omega), uLn (by omega), mJ_n (by omega)]; exact a a' ha'
                · rw [dWa_at (by omega) (by omega), dWa_at (by omega) (by omega), dWa_at (by omega) (by omega), dWa_at (by omega) (by omega)]
                  by_cases e : w' = nW' D.1
                  · subst e
                    simp (disch := omega) only [mI_s, pk_un, pk_us, uLs]
                    rw [show 8 * 3 + nW' D.1 = 24 + nW' D.1 by omega, mJ_s]
                    exact ⟨trivial, trivial, trivial, trivial, rfl⟩
                  · simp (disch := omega) only [mI_n, mI_r, mJ_1, mJ_n, pk_un, uLn]
                    exact w w' (by omega)
                · rw [li i hi]
                  cases hb : D.2.2.1 i with
                  | false => rfl
                  | true =>
                    have := ho.2.2.2.2.2.2.2.1 i hi hb
                    rw [dWa_at (by omega) (by omega)]
                    simp (disch := omega) only [pk_un]
end CL2
