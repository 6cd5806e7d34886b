section PDays2
variable {X : Xc} {d : Nat} {u : Mm} {g : Nat → Int32}
theorem p_undo (hd : 4 ≤ d) (h : Rl u) : PairI X d 140 252 [] u := by
  intro K hK
  obtain ⟨hg, hc, hok, hr, hz1, hz2⟩ := h.2.2.2.1
  obtain ⟨n, t, hn, ht, p2, p3, p24, p4⟩ := h.2.2.2.2.1
  have hA := hg.1.2.2.2.2.2.1
  have hQ := hg.1.2.1
  have hW := hg.1.2.2.2.2.2.2.2
  obtain ⟨d, rfl, hd1⟩ := dpos hd
  refine CI_of mk_X12_undo.2.2 rfl (B_S_undo_0 ?_)
  cases n with
  | zero =>
    obtain ⟨d, rfl, hd2⟩ := dpos hd1
    refine CI_of mk_X6_takeBack.2.2 rfl (B_P_takeBack_0 ⟨fun q => absurd p2 q, fun _ => ?_⟩)
    refine CI_of mk_X13_undo.2.2 rfl (B_M_undo_0 ⟨fun q => absurd p24 q, fun _ => hK _ _ h.th⟩)
  | succ n =>
    refine c_tb hd1 ht p3 p2 (by omega) fun l' hl' => ?_
    have hs := (p4 n (by omega))
    have ex : (t + 8 - (n + 1) + n) % 8 = (t + 7) % 8 := by omega
    rw [ex] at hs
    have ql : LifeP (u.1 236) (fun k => u.1 239 (92 * n + k - 198)) l' := hl'.P hA hQ hW hs.2
    refine CI_of mk_X13_undo.2.2 rfl (B_M_undo_0 ⟨fun _ => ?_, fun q => ?_⟩)
    · generalize hU : lm (mI (mI u 44 3 (nI ((t + 7) % 8))) 44 2 (nI n)) 20 l' = U
      have e24 : (mI U 234 0 0).1 234 24 = nI (n + 1) := by
        rw [← hU]
        simp (disch := omega) only [mI_n, lm_o]
        exact p24
      rw [e24, nI_pred]
      have f24 : (mI (mI U 234 0 0) 234 24 (nI n)).1 234 24 = nI n := mI_s
      have f239 : (mI (mI U 234 0 0) 234 24 (nI n)).1 239 = u.1 239 := by
        rw [← hU]
        simp (disch := omega) only [mI_r, lm_o]
      have f236 : (mI (mI U 234 0 0) 234 24 (nI n)).1 236 = u.1 236 := by
        rw [← hU]
        simp (disch := omega) only [mI_r, lm_o]
      have key : ∀ j v, j ≤ 92 → v.1 239 = u.1 239 → v.1 234 24 = nI n → (j < 92 → VI X d 252 (fun w2 u2 => K (nI n) w2 u2) 26 [some (.ref 234), some (.int (nI (j + 1)))] [] (mI v 236 (198 + j) (u.1 239 (92 * n + j)))) → (j = 92 → K (nI n) (nI n) v) → VI X d 252 (fun w2 u2 => K (nI n) w2 u2) 26 [some (.ref 234), some (.int (nI j))] [] v := by
        intro j v hj e e2 h1 h2
        refine B_M_undo_26 ?_
        simp (disch := omega) only [la1, la2, lt1, lt2, nI_add, pk_mul, nI_clamp, vpn, nI_leI, nI_ltI, nI_eq, ll1, ll2, ll3, ll4, le1, le2, true_and, and_true, not_true_eq_false, not_false_eq_true, forall_const, false_implies, implies_true, if_true, if_false, ite_true, ite_false, and_self, false_and, and_false, e, e2]
        exact ⟨fun q => h2 (by omega), fun q => ⟨by omega, by omega, h1 (by omega)⟩⟩
      have hfin : K (nI n) (nI n) (mR (mI (mI U 234 0 0) 234 24 (nI n)) 236 (rst (fun k => u.1 239 (92 * n + k)) ((mI (mI U 234 0 0) 234 24 (nI n)).1 236))) := by
        rw [f236]
        have hsame : ∀ k, 198 ≤ k → k < 290 → rst (fun k => u.1 239 (92 * n + k)) (u.1 236) k = u.1 239 (92 * n + k - 198) := by
          intro k k1 k2
          rw [rst, if_pos ⟨k1, k2⟩]
          exact congrArg (u.1 239) (by omega)
        have ho : Out (u.1 236) (rst (fun k => u.1 239 (92 * n + k)) (u.1 236)) := fun k hk => if_neg (by omega)
        have hok' : LifeOk (u.1 236) (rst (fun k => u.1 239 (92 * n + k)) (u.1 236)) := hs.1.scongr hA hW hsame
        have hcell : ∀ b, ¬ (20 ≤ b ∧ b ≤ 28) → b ≠ 44 → b ≠ 234 → b ≠ 236 → (mR (mI (mI U 234 0 0) 234 24 (nI n)) 236 (rst (fun k => u.1 239 (92 * n + k)) (u.1 236))).1 b = u.1 b := by
          intro b b1 b2 b3 b4
          rw [← hU]
          simp (disch := omega) only [mR_n, mI_r, lm_o]
        have hf : Fra u (mR (mI (mI U 234 0 0) 234 24 (nI n)) 236 (rst (fun k => u.1 239 (92 * n + k)) (u.1 236))) 0 := by
          refine ⟨by rw [← hU]; rfl, fun b q1 q2 q3 q4 q5 q6 q7 q8 => hcell b q1 (by omega) q4 q5, fun k k1 k2 k3 k4 => ?_⟩
          rw [← hU]
          simp (disch := omega) only [mR_n, mI_n, lm_o]
        refine hK _ _ (Rl_act h (hf.T (by omega)) (hf.K (by omega)) (hf.I (by omega)) hf.1 (fun k a b => hcell _ (by omega) (by omega) (by omega) (by omega)) (by rw [hcell 5 (by omega) (by omega) (by omega) (by omega)]) (by rw [hcell 5 (by omega) (by omega) (by omega) (by omega)]) (by rw [hcell 29 (by omega) (by omega) (by omega) (by omega)]) (fun k a b => hcell _ (by omega) (by omega) (by omega) (by omega)) mR_s ho hok' ?_ ?_)
        · refine LifeR.scongr hA hW ?_ hsame
          have e1 : ∀ c, c ≤ 8 → (mR (mI (mI U 234 0 0) 234 24 (nI n)) 236 (rst (fun k => u.1 239 (92 * n + k)) (u.1 236))).1 (20 + c) = l' c := by
            intro c hc
            rw [← hU]
            simp (disch := omega) only [mR_n, mI_r, lm_in, Nat.add_sub_cancel_left]
          have e0 := e1 0 (by omega)
          unfold LifeR
          rw [show 20 = 20 + 0 from rfl, e0, e1 1 (by omega), e1 2 (by omega), e1 3 (by omega), e1 4 (by omega), e1 5 (by omega), e1 6 (by omega), e1 7 (by omega), e1 8 (by omega)]
          exact ql
        · refine ⟨n, (t + 7) % 8, by omega, Nat.mod_lt _ (by omega), ?_, ?_, ?_, fun i hi => ?_⟩
          · rw [← hU]
            simp (disch := omega) only [mR_n, mI_r, lm_o, mI_s]
          · rw [← hU]
            simp (disch := omega) only [mR_n, mI_r, lm_o, mI_s, mI_n]
          · simp (disch := omega) only [mR_n, mI_s]
          · obtain ⟨x1, x2⟩ := p4 i (by omega)
            rw [mR_s, hcell 239 (by omega) (by omega) (by omega) (by omega)]
            refine ⟨x1.gcongr ho.eA ho.eQ ho.eK ho.eW, LifeR.gcongr ?_ ho.eA ho.eQ ho.eW⟩
            rw [show ((t + 7) % 8 + 8 - n + i) % 8 = (t + 8 - (n + 1) + i) % 8 by omega]
            have hb : (t + 8 - (n + 1) + i) % 8 < 8 := Nat.mod_lt _ (by omega)
            exact x2.congr (fun j _ _ => by rw [hcell _ (by omega) (by omega) (by omega) (by omega)]) (fun k _ hk => hcell _ (by omega) (by omega) (by omega) (by omega))
      refine l_mback (k0 := 0) (u := mI (mI U 234 0 0) 234 24 (nI n)) (f := fun k => u.1 239 (92 * n + k)) (W := fun j v => if j = 93 then K (nI n) (nI n) v else (v.1 239 = u.1 239 → v.1 234 24 = nI n → VI X d 252 (fun w2 u2 => K (nI n) w2 u2) 26 [some (.ref 234), some (.int (nI j))] [] v)) ?_ (by rw [if_pos rfl]; exact hfin) f239 f24
      intro j v hj h1 h2
      rw [if_neg (by omega)]
      intro e e2
      refine key j v hj e e2 (fun q => ?_) (fun q => ?_)
      · have := h1 q
        rw [if_neg (by omega)] at this
        exact this (by rw [mI_r (by omega)]; exact e) (by rw [mI_n (by omega)]; exact e2)
      · have := h2 q
        rwa [if_pos rfl] at this
    · have e24 : (mI (lm (mI (mI u 44 3 (nI ((t + 7) % 8))) 44 2 (nI n)) 20 l') 234 0 0).1 234 24 = nI (n + 1) := by
        simp (disch := omega) only [mI_n, lm_o]
        exact p24
      rw [e24] at q
      exact absurd q (nI_ne0 (by omega) (by omega))
theorem p_days {p1 p2 : Int32} (hd : 6 ≤ d) (h : Rl u) : PairI X d 138 260 [.int p1, .int p2] u := by
  intro K hK
  obtain ⟨hg, hc, hok, hr, -⟩ := h.2.2.2.1
  obtain ⟨n, t, hn, ht, pp2, pp3, p24, p4⟩ := h.2.2.2.2.1
  have hA := hg.1.2.2.2.2.2.1
  have hQ := hg.1.2.1
  have hW := hg.1.2.2.2.2.2.2.2
  have hst := Stt.rf hok
  obtain ⟨day, hday, e198⟩ := hok.1
  obtain ⟨d, rfl, hd1⟩ := dpos hd
  have mbad : p1 < 1 ∨ 60 < p1 → CI X (d + 1) 260 [.ref 234, .int p1, .int p2] u (fun w2 u2 => K (-1) w2 u2) := by
    intro hb
    refine CI_of mk_X13_days.2.2 rfl (B_M_days_0 (c_misIn (by omega) (fun z1 z2 => ?_) (fun _ => ⟨fun z => absurd rfl z, fun _ => hK _ _ h.th⟩)))
    exact (hb.elim z1 z2).elim
  refine CI_of mk_X12_days.2.2 rfl (B_S_days_0 ⟨fun q => mbad (Or.inl q), fun q => ⟨fun q2 => ?_, fun q2 => mbad (Or.inr (Int32.not_le.mp q2))⟩⟩)
  have q0 : ¬ p1 < 0 := by
    intro z
    rw [Int32.lt_iff_toInt_lt] at q z
    have : (1 : Int32).toInt = 1 := rfl
    have : (0 : Int32).toInt = 0 := rfl
    omega
  obtain ⟨m, hm, rfl⟩ := nI_of2 (n := 60) rfl q0 q2
  have hm1 : 1 ≤ m := by
    have := mt (nI_ltI (a := m) (b := 1) (by omega) (by omega)).mpr q
    omega
  obtain ⟨hmn1, hmn2⟩ := mnD_le (n := m) hday
  have mgood : ∀ (K' : Int32 → Mm → Prop) (U : Mm), U.1 236 = u.1 236 → K' 1 U → CI X d 187 [.int (nI m), .int 1, .int 60] U K' := by
    intro K' U _ hk
    refine c_misIn (by omega) (fun _ _ => hk) (fun z => ?_)
    rcases z with z | z
    · exact absurd z q
    · exact absurd q2 (Int32.not_le.mpr z)
  have e35 : u = lm u 35 (fun c => u.1 (35 + c)) := (lm_eta u 35).symm
  suffices hz : CV X d 42 [.ref 35, .ref 20] (lm u 35 (fun c => u.1 (35 + c))) (fun u1 => CI X d 51 [.ref 20, .int (nI m), .int p2] u1 (fun w2 u2 => (w2 ≤ 0 → CI X (d + 1) 260 [.ref 234, .int (nI m), .int p2] u2 (fun w2' u2' => K w2 w2' u2')) ∧ (¬ w2 ≤ 0 → CV X d 70 [.ref 44, .ref 35] u2 (fun u3 => CI X (d + 1) 260 [.ref 234, .int (nI m), .int p2] u3 (fun w2' u2' => K w2 w2' u2'))))) by rwa [← e35] at hz
  refine c_lcopy35_20 (by omega) fun l35 hs35 => ?_
  have q35 : LifeP (u.1 236) (u.1 236) l35 := hs35.P hA hQ hW hr
  have e20 : lm u 35 l35 = lm (lm u 35 l35) 20 (fun c => u.1 (20 + c)) := by
    refine (lm_eta _ 20).symm.trans ?_
    refine mm_ext (fun b k => ?_) rfl
    simp only [lm_at]
    by_cases e : 20 ≤ b ∧ b ≤ 28
    · rw [if_pos e, if_pos e, if_neg (by omega)]
    · rw [if_neg e, if_neg e]
  rw [e20]
  have hc35 : CityR (lm u 35 l35) 5 (u.1 236) (u.2 241) := hc.congr (by rw [lm_o (by omega)]) (by rw [lm_o (by omega)]) (fun k a b => lm_o (by omega)) rfl
  refine c_live20 (D := (u.1 236, u.1 247, p2, u.1 234 28)) hd1 hg hc35 hst rfl e198 hday hm hr fun l20 hl20 => ?_
  refine ⟨fun z => ?_, fun z => ?_⟩
  · have hm0 : mnD m day = 0 := by
      have := (nI_leI (a := mnD m day) (b := 0) (by omega) (by omega)).mp z
      omega
    have h400 : day = 400 := by
      unfold mnD at hm0
      split at hm0 <;> omega
    rw [hm0] at hl20 ⊢
    have hR := (Rl_life (Rl_spare (l := l35) h) (l := l20) (by rw [lm_o (by omega)]; exact hl20)).th (x := 0)
    have e236 : (mI (lm (lm u 35 l35) 20 l20) 234 0 0).1 236 = u.1 236 := by simp (disch := omega) only [mI_r, lm_o]
    refine CI_of mk_X13_days.2.2 rfl (B_M_days_0 (mgood _ _ e236 ⟨fun _ => ⟨fun y => ?_, fun _ => hK _ _ hR⟩, fun y => absurd y (by decide)⟩))
    rw [e236, e198, h400] at y
    exact absurd rfl y
  · refine c_keep (by omega) ht (by rw [lm_o (by omega), lm_o (by omega)]; exact pp3) (by rw [lm_o (by omega), lm_o (by omega)]; exact pp2) hn fun lt hlt => ?_
    have qlt : LifeP (u.1 236) (u.1 236) lt := by
      refine hlt.P hA hQ hW (s := u.1 236) (g := u.1 236) ?_
      have e1 : ∀ c, c ≤ 8 → (lm (lm u 35 l35) 20 l20).1 (35 + c) = l35 c := fun c hc => by
        rw [lm_o (by omega), lm_in (by omega) (by omega), show 35 + c - 35 = c by omega]
      have e0 : (lm (lm u 35 l35) 20 l20).1 35 = l35 0 := e1 0 (by omega)
      unfold LifeR
      rw [e0, e1 1 (by omega), e1 2 (by omega), e1 3 (by omega), e1 4 (by omega), e1 5 (by omega), e1 6 (by omega), e1 7 (by omega), e1 8 (by omega)]
      exact q35
    have h400 : day ≠ 400 := by
      intro y
      subst y
      apply z
      exact (nI_leI (b := 0) (by omega) (by omega)).mpr (by omega)
    refine CI_of mk_X13_days.2.2 rfl (B_M_days_0 ?_)
    have e236 : (mI (mI (mI (lm (lm (lm u 35 l35) 20 l20) (46 + 9 * t) lt) 44 3 (nI ((t + 1) % 8))) 44 2 (nI (mn8 n))) 234 0 0).1 236 = u.1 236 := by
      simp (disch := omega) only [mI_r, lm_o]
    have e239 : (mI (mI (mI (lm (lm (lm u 35 l35) 20 l20) (46 + 9 * t) lt) 44 3 (nI ((t + 1) % 8))) 44 2 (nI (mn8 n))) 234 0 0).1 239 = u.1 239 := by
      simp (disch := omega) only [mI_r, lm_o]
    have e24 : (mI (mI (mI (lm (lm (lm u 35 l35) 20 l20) (46 + 9 * t) lt) 44 3 (nI ((t + 1) % 8))) 44 2 (nI (mn8 n))) 234 0 0).1 234 24 = nI n := by
      simp (disch := omega) only [mI_n, lm_o]
      exact p24
    refine mgood _ _ e236 ⟨fun _ => ⟨fun _ => ?_, fun y => ?_⟩, fun y => absurd y (by decide)⟩
    · refine c_msnap (by omega) e24 hn ?_
      rw [e239, e236]
      generalize hU : mI (mI (mI (lm (lm (lm u 35 l35) 20 l20) (46 + 9 * t) lt) 44 3 (nI ((t + 1) % 8))) 44 2 (nI (mn8 n))) 234 0 0 = U at e236
      generalize hV : mI (mI (mR U 239 (snF (u.1 239) (u.1 236) n)) 234 24 (nI (mn8 n))) 234 27 p2 = V
      have v236 : V.1 236 = u.1 236 := by
        rw [← hV]
        simp (disch := omega) only [mI_r, mR_n, e236]
      have eV : V = mD V (u.1 236, V.1 247, p2, V.1 234 28) := by
        have := (md_eta V).symm
        rw [v236, show V.1 234 27 = p2 by rw [← hV]; exact mI_s] at this
        exact this
      rw [eV]
      refine c_mpass (by omega) hg hst e198 hday hm (hK _ _ ?_)
      have hind := daysF_ind (g := u.1 236) (D := (u.1 236, V.1 247, p2, V.1 234 28)) (E := (u.1 236, u.1 247, p2, u.1 234 28)) rfl rfl (mnD m day)
      have hDo := daysF_Out (D := (u.1 236, V.1 247, p2, V.1 234 28)) hg hst e198 (mnD m day) hmn1
      have hDk := (daysF_ok (D := (u.1 236, V.1 247, p2, V.1 234 28)) hg hst e198 (mnD m day) hmn1).1.2
      rw [← hind.1] at hl20
      generalize daysF (u.1 236) (u.1 236, V.1 247, p2, V.1 234 28) (mnD m day) = E at hl20 hDo hDk ⊢
      obtain ⟨es, et, esd, esn⟩ := E
      dsimp only at hl20 hDo hDk ⊢
      refine fin_act (s := es) (l20 := l20) (lt := lt) h hn ht p4 ⟨by rw [← hV, ← hU]; rfl, fun b q1 q2 q3 q4 q5 q6 q7 q8 => ?_, fun k k1 k2 k3 k4 => ?_⟩ (fun c hc => ?_) (fun c hc => ?_) ?_ ?_ ?_ rfl ?_ hDo hDk hl20 qlt
      · rw [md_o q5 q8 q4, ← hV, ← hU]
        simp (disch := omega) only [mR_n, mI_r, lm_o]
      · rw [md_at, if_neg (by omega), if_neg (by omega), if_neg (by omega), if_neg (by omega), ← hV, ← hU]
        simp (disch := omega) only [mR_n, mI_n, lm_o]
      · rw [md_o (by omega) (by omega) (by omega), ← hV, ← hU]
        simp (disch := omega) only [mR_n, mI_r, lm_o, lm_in, Nat.add_sub_cancel_left]
      · rw [md_o (by omega) (by omega) (by omega), ← hV, ← hU]
        simp (disch := omega) only [mR_n, mI_r, lm_o, lm_in, Nat.add_sub_cancel_left]
      · rw [md_o (by omega) (by omega) (by omega), ← hV, ← hU]
        simp (disch := omega) only [mR_n, mI_n, mI_s]
      · rw [md_o (by omega) (by omega) (by omega), ← hV, ← hU]
        simp (disch := omega) only [mR_n, mI_n, mI_s]
      · rw [md_at, if_neg (by omega), if_neg (by omega), if_neg (by omega), if_neg (by omega), ← hV]
        simp (disch := omega) only [mI_n, mI_s]
      · rw [md_o (by omega) (by omega) (by omega), ← hV]
        simp (disch := omega) only [mI_r, mR_s]
    · rw [e236, e198] at y
      exact absurd ((nI_eq (a := day) (b := 400) (by omega) (by omega)).mp y) h400
end PDays2
