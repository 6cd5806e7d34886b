section CDay2
variable {X : Xc} {d : Nat} {u : Mm} {g s t : Nat → Int32} {nm : Nat → Int64} {l T : Nat → Nat → Int32} {D : DS} {sn : Int32}
theorem cdraw20 {K : Int32 → Mm → Prop} (hd : 1 ≤ d) (hK : K (dr12 (drw (l 0 13))) (lm u 20 (upd2 l 0 13 (drw (l 0 13))))) : CI X d 57 [.ref 20] (lm u 20 l) K := by
  obtain ⟨d, rfl, hd1⟩ := dpos hd
  refine CI_of mk_X4_drawOfTwelve.2.2 rfl (B_L20_drawOfTwelve_0 ?_)
  simp (disch := omega) only [la1, la2, lt1, lt2, nI_add, pk_mul, nI_clamp, vpn, nI_leI, nI_ltI, nI_eq, ll1, ll2, ll3, ll4, le1, le2, true_and, and_true, not_true_eq_false, not_false_eq_true, forall_const, false_implies, implies_true, if_true, if_false, ite_true, ite_false, and_self, false_and, and_false, lm_in, lm_o, lm_w, Nat.reduceSub, u2r, u2s, u2n, u2u, b01, b10]
  exact hK
theorem c_walk20 {K : Int32 → Mm → Prop} {w : Nat} (hd : 3 ≤ d) (hg : HeadOk g) (hc : CityR u 5 g nm) (hw : w < nW' g) (hs : Stt g D.1) (ht : D.2.1 w = 0) (hT : ∀ k, k < 5 → T w k = D.1 (250 + 5 * w + k)) (hl : LifeQ g D.1 l T) (hsd : l 0 13 = D.2.2.1) (hsn : l 0 14 = D.2.2.2) (hK : ∀ l', LifeQ g (wlk g w D (nLen g w)).1 l' T → l' 0 13 = (wlk g w D (nLen g w)).2.2.1 → l' 0 14 = (wlk g w D (nLen g w)).2.2.2 → K ((wlk g w D (nLen g w)).2.1 w) (lm u 20 l')) : CI X d 56 [.ref 20, .int (nI w)] (lm u 20 l) K := by
  obtain ⟨d, rfl, hd1⟩ := dpos hd
  obtain ⟨-, -, -, -, hA, hKK, hW, hQ⟩ := hdA hg hs
  obtain ⟨-, -, -, -, gk, gl, gl', gw⟩ := hg.2.2 w hw
  obtain ⟨-, -, -, cw, cn, ck, cy, -, -⟩ := hc.2.2.2.2 w hw
  refine CI_of mk_X4_walk.2.2 rfl (B_L20_walk_0 ?_)
  suffices hz : VI X d 56 K 4 [some (.ref 20), some (.int (nI w)), some (.int ((wlk g w D 0).2.1 w)), some (.int (nI 0)), none] [] (lm u 20 l) by
    rw [show (wlk g w D 0).2.1 w = 0 from ht] at hz
    exact hz
  refine lupR (n := nLen g w) (W := fun j (z : Nat → Nat → Int32) => VI X d 56 K 4 [some (.ref 20), some (.int (nI w)), some (.int ((wlk g w D j).2.1 w)), some (.int (nI j)), none] [] (lm u 20 z))
    (I := fun j z => LifeQ g (wlk g w D j).1 z T ∧ z 0 13 = (wlk g w D j).2.2.1 ∧ z 0 14 = (wlk g w D j).2.2.2) ?_ l ⟨hl, hsd, hsn⟩
  rintro j l1 hj ⟨i1, i2, i3⟩ ih
  refine B_L20_walk_4 ?_
  have h := wlk_ok (w := w) hA hW hw hs j
  have hkp : ∀ k, k < 5 → T w k = (wlk g w D j).1 (250 + 5 * w + k) := fun k hk => (hT k hk).trans (wlk_kp hA (by omega) (by omega) j).symm
  generalize hE : wlk g w D j = E at h hkp i1 i2 i3 ⊢
  obtain ⟨s, t, sd, sn⟩ := E
  dsimp only at h hkp i1 i2 i3 ⊢
  have en : u.1 17 w = nI (nLen g w) := cn.trans gl
  simp (disch := omega) only [la1, la2, lt1, lt2, nI_add, pk_mul, nI_clamp, vpn, nI_leI, nI_ltI, nI_eq, ll1, ll2, ll3, ll4, le1, le2, true_and, and_true, not_true_eq_false, not_false_eq_true, forall_const, false_implies, implies_true, if_true, if_false, ite_true, ite_false, and_self, false_and, and_false, lm_in, lm_o, lm_w, Nat.reduceSub, u2r, u2s, u2n, u2u, b01, b10, en]
  refine ⟨by omega, fun q => ?_, fun q => ⟨by omega, ?_⟩⟩
  · rw [show j = nLen g w by omega] at hE
    rw [hE] at hK
    exact hK l1 i1 i2 i3
  · have ih := ih (by omega)
    obtain ⟨q', hq', e1⟩ := gw j (by omega)
    have ey : u.1 16 (8 * w + j) = nI q' := (cy j (by omega)).trans e1
    have es : s (134 + 8 * w + j) = nI q' := (h.1 _ (by omega) (by omega)).trans e1
    have e3 := i1.2.2.1 q' hq'
    simp (disch := omega) only [la1, la2, lt1, lt2, nI_add, pk_mul, nI_clamp, vpn, nI_leI, nI_ltI, nI_eq, ll1, ll2, ll3, ll4, le1, le2, true_and, and_true, not_true_eq_false, not_false_eq_true, forall_const, false_implies, implies_true, if_true, if_false, ite_true, ite_false, and_self, false_and, and_false, ey, e3]
    refine ⟨by omega, ?_⟩
    rw [wlk, hE, wstep] at ih
    dsimp only at ih
    simp only [es] at ih
    rcases stAt_cases (g := g) (s := s) (q := q') hA with ⟨e, -⟩ | ⟨a, ha, e, -⟩
    · simp only [e, if_true] at ih
      rw [e]
      exact ⟨fun _ => ih l1 ⟨i1, i2, i3⟩, fun z => absurd rfl z⟩
    · obtain ⟨⟨k, hk, ek⟩, -⟩ := h.2.2.2.2.1 a ha
      obtain ⟨b1, b2, b3, b4, b5⟩ := i1.2.1 a ha
      simp only [e, if_neg (nI_m1 (show a < 1000000 by omega))] at ih
      simp (disch := omega) only [la1, la2, lt1, lt2, nI_add, pk_mul, nI_clamp, vpn, nI_leI, nI_ltI, nI_eq, ll1, ll2, ll3, ll4, le1, le2, true_and, and_true, not_true_eq_false, not_false_eq_true, forall_const, false_implies, implies_true, if_true, if_false, ite_true, ite_false, and_self, false_and, and_false, ek] at ih
      rw [e]
      refine ⟨fun z => absurd z (nI_m1 (by omega)), fun _ => ?_⟩
      refine cdraw20 (by omega) ?_
      simp (disch := omega) only [la1, la2, lt1, lt2, nI_add, pk_mul, nI_clamp, vpn, nI_leI, nI_ltI, nI_eq, ll1, ll2, ll3, ll4, le1, le2, true_and, and_true, not_true_eq_false, not_false_eq_true, forall_const, false_implies, implies_true, if_true, if_false, ite_true, ite_false, and_self, false_and, and_false, lm_in, lm_o, lm_w, Nat.reduceSub, u2r, u2s, u2n, u2u, b01, b10, b1, ek, i2]
      refine ⟨by omega, cch20 (by omega) (by omega) (by omega) ?_⟩
      have ec : u.1 15 (5 * w + k) >>> ((lm u 20 (upd2 l1 0 13 (drw sd))).1 28 (5 * w + k) &&& 31) = chc s w k := by
        simp (disch := omega) only [la1, la2, lt1, lt2, nI_add, pk_mul, nI_clamp, vpn, nI_leI, nI_ltI, nI_eq, ll1, ll2, ll3, ll4, le1, le2, true_and, and_true, not_true_eq_false, not_false_eq_true, forall_const, false_implies, implies_true, if_true, if_false, ite_true, ite_false, and_self, false_and, and_false, lm_in, lm_o, lm_w, Nat.reduceSub, u2r, u2s, u2n, u2u, b01, b10]
        rw [(i1.2.2.2 w hw).2 k (by omega), hkp k (by omega), ck k (by omega), chc, h.1 (86 + 5 * w + k) (by omega) (by omega)]
      rw [show (lm u 20 (upd2 l1 0 13 (drw sd))).1 15 (5 * w + k) = u.1 15 (5 * w + k) by rw [lm_o (by omega)], ec]
      refine ⟨fun z => ?_, fun z => ?_⟩
      · rw [if_neg (Int32.not_lt.mpr z)] at ih
        exact ih _ ⟨LQ_ev i1 (Or.inl rfl), u2s, by simp (disch := omega) only [u2r, u2s, u2n, pk_un, pk_us]; exact i3⟩
      · rw [if_pos (Int32.not_le.mp z)] at ih
        refine c_look20 (by omega) (by omega) (by omega) ?_
        simp (disch := omega) only [la1, la2, lt1, lt2, nI_add, pk_mul, nI_clamp, vpn, nI_leI, nI_ltI, nI_eq, ll1, ll2, ll3, ll4, le1, le2, true_and, and_true, not_true_eq_false, not_false_eq_true, forall_const, false_implies, implies_true, if_true, if_false, ite_true, ite_false, and_self, false_and, and_false, lm_in, lm_o, lm_w, Nat.reduceSub, u2r, u2s, u2n, u2u, b01, b10, b1, ek]
        refine ⟨by omega, ?_⟩
        dsimp only at ih
        rw [pk_us] at ih
        refine ih _ ⟨?_, ?_, ?_⟩
        · have ew : ∀ b, wth (fun i => u.1 14 (i - 78)) w b = wth s w b := by
            intro b
            unfold wth
            dsimp only
            rw [show 78 + w - 78 = w by omega, cw, h.1 (78 + w) (by omega) (by omega)]
          rw [ew, i1.1.2.2.1, b3, b5, (i1.2.2.2 w hw).1]
          exact LQ_look hA hW hw ha (LQ_ev i1 (Or.inl rfl))
        · simp (disch := omega) only [u2r, u2s, u2n, pk_un, pk_us]
        · simp (disch := omega) only [u2r, u2s, u2n, pk_un, pk_us]
          rw [i3]
theorem cdraw35 {K : Int32 → Mm → Prop} (hd : 1 ≤ d) (hK : K (dr12 (drw (l 0 13))) (lm u 35 (upd2 l 0 13 (drw (l 0 13))))) : CI X d 57 [.ref 35] (lm u 35 l) K := by
  obtain ⟨d, rfl, hd1⟩ := dpos hd
  refine CI_of mk_X4_drawOfTwelve.2.2 rfl (B_L35_drawOfTwelve_0 ?_)
  simp (disch := omega) only [la1, la2, lt1, lt2, nI_add, pk_mul, nI_clamp, vpn, nI_leI, nI_ltI, nI_eq, ll1, ll2, ll3, ll4, le1, le2, true_and, and_true, not_true_eq_false, not_false_eq_true, forall_const, false_implies, implies_true, if_true, if_false, ite_true, ite_false, and_self, false_and, and_false, lm_in, lm_o, lm_w, Nat.reduceSub, u2r, u2s, u2n, u2u, b01, b10]
  exact hK
theorem c_walk35 {K : Int32 → Mm → Prop} {w : Nat} (hd : 3 ≤ d) (hg : HeadOk g) (hc : CityR u 5 g nm) (hw : w < nW' g) (hs : Stt g D.1) (ht : D.2.1 w = 0) (hT : ∀ k, k < 5 → T w k = D.1 (250 + 5 * w + k)) (hl : LifeQ g D.1 l T) (hsd : l 0 13 = D.2.2.1) (hsn : l 0 14 = D.2.2.2) (hK : ∀ l', LifeQ g (wlk g w D (nLen g w)).1 l' T → l' 0 13 = (wlk g w D (nLen g w)).2.2.1 → l' 0 14 = (wlk g w D (nLen g w)).2.2.2 → K ((wlk g w D (nLen g w)).2.1 w) (lm u 35 l')) : CI X d 56 [.ref 35, .int (nI w)] (lm u 35 l) K := by
  obtain ⟨d, rfl, hd1⟩ := dpos hd
  obtain ⟨-, -, -, -, hA, hKK, hW, hQ⟩ := hdA hg hs
  obtain ⟨-, -, -, -, gk, gl, gl', gw⟩ := hg.2.2 w hw
  obtain ⟨-, -, -, cw, cn, ck, cy, -, -⟩ := hc.2.2.2.2 w hw
  refine CI_of mk_X4_walk.2.2 rfl (B_L35_walk_0 ?_)
  suffices hz : VI X d 56 K 4 [some (.ref 35), some (.int (nI w)), some (.int ((wlk g w D 0).2.1 w)), some (.int (nI 0)), none] [] (lm u 35 l) by
    rw [show (wlk g w D 0).2.1 w = 0 from ht] at hz
    exact hz
  refine lupR (n := nLen g w) (W := fun j (z : Nat → Nat → Int32) => VI X d 56 K 4 [some (.ref 35), some (.int (nI w)), some (.int ((wlk g w D j).2.1 w)), some (.int (nI j)), none] [] (lm u 35 z))
    (I := fun j z => LifeQ g (wlk g w D j).1 z T ∧ z 0 13 = (wlk g w D j).2.2.1 ∧ z 0 14 = (wlk g w D j).2.2.2) ?_ l ⟨hl, hsd, hsn⟩
  rintro j l1 hj ⟨i1, i2, i3⟩ ih
  refine B_L35_walk_4 ?_
  have h := wlk_ok (w := w) hA hW hw hs j
  have hkp : ∀ k, k < 5 → T w k = (wlk g w D j).1 (250 + 5 * w + k) := fun k hk => (hT k hk).trans (wlk_kp hA (by omega) (by omega) j).symm
  generalize hE : wlk g w D j = E at h hkp i1 i2 i3 ⊢
  obtain ⟨s, t, sd, sn⟩ := E
  dsimp only at h hkp i1 i2 i3 ⊢
  have en : u.1 17 w = nI (nLen g w) := cn.trans gl
  simp (disch := omega) only [la1, la2, lt1, lt2, nI_add, pk_mul, nI_clamp, vpn, nI_leI, nI_ltI, nI_eq, ll1, ll2, ll3, ll4, le1, le2, true_and, and_true, not_true_eq_false, not_false_eq_true, forall_const, false_implies, implies_true, if_true, if_false, ite_true, ite_false, and_self, false_and, and_false, lm_in, lm_o, lm_w, Nat.reduceSub, u2r, u2s, u2n, u2u, b01, b10, en]
  refine ⟨by omega, fun q => ?_, fun q => ⟨by omega, ?_⟩⟩
  · rw [show j = nLen g w by omega] at hE
    rw [hE] at hK
    exact hK l1 i1 i2 i3
  · have ih := ih (by omega)
    obtain ⟨q', hq', e1⟩ := gw j (by omega)
    have ey : u.1 16 (8 * w + j) = nI q' := (cy j (by omega)).trans e1
    have es : s (134 + 8 * w + j) = nI q' := (h.1 _ (by omega) (by omega)).trans e1
    have e3 := i1.2.2.1 q' hq'
    simp (disch := omega) only [la1, la2, lt1, lt2, nI_add, pk_mul, nI_clamp, vpn, nI_leI, nI_ltI, nI_eq, ll1, ll2, ll3, ll4, le1, le2, true_and, and_true, not_true_eq_false, not_false_eq_true, forall_const, false_implies, implies_true, if_true, if_false, ite_true, ite_false, and_self, false_and, and_false, ey, e3]
    refine ⟨by omega, ?_⟩
    rw [wlk, hE, wstep] at ih
    dsimp only at ih
    simp only [es] at ih
    rcases stAt_cases (g := g) (s := s) (q := q') hA with ⟨e, -⟩ | ⟨a, ha, e, -⟩
    · simp only [e, if_true] at ih
      rw [e]
      exact ⟨fun _ => ih l1 ⟨i1, i2, i3⟩, fun z => absurd rfl z⟩
    · obtain ⟨⟨k, hk, ek⟩, -⟩ := h.2.2.2.2.1 a ha
      obtain ⟨b1, b2, b3, b4, b5⟩ := i1.2.1 a ha
      simp only [e, if_neg (nI_m1 (show a < 1000000 by omega))] at ih
      simp (disch := omega) only [la1, la2, lt1, lt2, nI_add, pk_mul, nI_clamp, vpn, nI_leI, nI_ltI, nI_eq, ll1, ll2, ll3, ll4, le1, le2, true_and, and_true, not_true_eq_false, not_false_eq_true, forall_const, false_implies, implies_true, if_true, if_false, ite_true, ite_false, and_self, false_and, and_false, ek] at ih
      rw [e]
      refine ⟨fun z => absurd z (nI_m1 (by omega)), fun _ => ?_⟩
      refine cdraw35 (by omega) ?_
      simp (disch := omega) only [la1, la2, lt1, lt2, nI_add, pk_mul, nI_clamp, vpn, nI_leI, nI_ltI, nI_eq, ll1, ll2, ll3, ll4, le1, le2, true_and, and_true, not_true_eq_false, not_false_eq_true, forall_const, false_implies, implies_true, if_true, if_false, ite_true, ite_false, and_self, false_and, and_false, lm_in, lm_o, lm_w, Nat.reduceSub, u2r, u2s, u2n, u2u, b01, b10, b1, ek, i2]
      refine ⟨by omega, cch35 (by omega) (by omega) (by omega) ?_⟩
      have ec : u.1 15 (5 * w + k) >>> ((lm u 35 (upd2 l1 0 13 (drw sd))).1 43 (5 * w + k) &&& 31) = chc s w k := by
        simp (disch := omega) only [la1, la2, lt1, lt2, nI_add, pk_mul, nI_clamp, vpn, nI_leI, nI_ltI, nI_eq, ll1, ll2, ll3, ll4, le1, le2, true_and, and_true, not_true_eq_false, not_false_eq_true, forall_const, false_implies, implies_true, if_true, if_false, ite_true, ite_false, and_self, false_and, and_false, lm_in, lm_o, lm_w, Nat.reduceSub, u2r, u2s, u2n, u2u, b01, b10]
        rw [(i1.2.2.2 w hw).2 k (by omega), hkp k (by omega), ck k (by omega), chc, h.1 (86 + 5 * w + k) (by omega) (by omega)]
      rw [show (lm u 35 (upd2 l1 0 13 (drw sd))).1 15 (5 * w + k) = u.1 15 (5 * w + k) by rw [lm_o (by omega)], ec]
      refine ⟨fun z => ?_, fun z => ?_⟩
      · rw [if_neg (Int32.not_lt.mpr z)] at ih
        exact ih _ ⟨LQ_ev i1 (Or.inl rfl), u2s, by simp (disch := omega) only [u2r, u2s, u2n, pk_un, pk_us]; exact i3⟩
      · rw [if_pos (Int32.not_le.mp z)] at ih
        refine c_look35 (by omega) (by omega) (by omega) ?_
        simp (disch := omega) only [la1, la2, lt1, lt2, nI_add, pk_mul, nI_clamp, vpn, nI_leI, nI_ltI, nI_eq, ll1, ll2, ll3, ll4, le1, le2, true_and, and_true, not_true_eq_false, not_false_eq_true, forall_const, false_implies, implies_true, if_true, if_false, ite_true, ite_false, and_self, false_and, and_false, lm_in, lm_o, lm_w, Nat.reduceSub, u2r, u2s, u2n, u2u, b01, b10, b1, ek]
        refine ⟨by omega, ?_⟩
        dsimp only at ih
        rw [pk_us] at ih
        refine ih _ ⟨?_, ?_, ?_⟩
        · have ew : ∀ b, wth (fun i => u.1 14 (i - 78)) w b = wth s w b := by
            intro b
            unfold wth
            dsimp only
            rw [show 78 + w - 78 = w by omega, cw, h.1 (78 + w) (by omega) (by omega)]
          rw [ew, i1.1.2.2.1, b3, b5, (i1.2.2.2 w hw).1]
          exact LQ_look hA hW hw ha (LQ_ev i1 (Or.inl rfl))
        · simp (disch := omega) only [u2r, u2s, u2n, pk_un, pk_us]
        · simp (disch := omega) only [u2r, u2s, u2n, pk_un, pk_us]
          rw [i3]
end CDay2
