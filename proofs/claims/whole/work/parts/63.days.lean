/-! days: pairs -/
section DInd
variable {g : Nat → Int32} {D E : DS}
theorem wstep_ind {w i : Nat} (h1 : D.1 = E.1) (h2 : D.2.2 = E.2.2) (h3 : D.2.1 w = E.2.1 w) : (wstep g w i D).1 = (wstep g w i E).1 ∧ (wstep g w i D).2.2 = (wstep g w i E).2.2 ∧ (wstep g w i D).2.1 w = (wstep g w i E).2.1 w := by
  obtain ⟨s, t, sd, sn⟩ := D
  obtain ⟨s', t', sd', sn'⟩ := E
  dsimp only at h1 h2 h3
  subst h1
  obtain ⟨rfl, rfl⟩ := Prod.mk.inj h2
  unfold wstep
  dsimp only
  split
  · exact ⟨rfl, rfl, h3⟩
  · split
    · refine ⟨rfl, rfl, ?_⟩
      dsimp only
      rw [pk_us, pk_us, h3]
    · exact ⟨rfl, rfl, h3⟩
theorem wlk_ind {w : Nat} (h1 : D.1 = E.1) (h2 : D.2.2 = E.2.2) (h3 : D.2.1 w = E.2.1 w) : ∀ i, (wlk g w D i).1 = (wlk g w E i).1 ∧ (wlk g w D i).2.2 = (wlk g w E i).2.2 ∧ (wlk g w D i).2.1 w = (wlk g w E i).2.1 w
  | 0 => ⟨h1, h2, h3⟩
  | i + 1 => by
    obtain ⟨a, b, c⟩ := wlk_ind h1 h2 h3 i
    exact wstep_ind a b c
theorem day1_ind {w : Nat} (h1 : D.1 = E.1) (h2 : D.2.2 = E.2.2) (h3 : ∀ v, v < w → D.2.1 v = E.2.1 v) : (day1 g w D).1 = (day1 g w E).1 ∧ (day1 g w D).2.2 = (day1 g w E).2.2 ∧ ∀ v, v < w + 1 → (day1 g w D).2.1 v = (day1 g w E).2.1 v := by
  have hn : ∀ v, v < w → (day1 g w D).2.1 v = (day1 g w E).2.1 v := fun v hv => by rw [day1_t (by omega), day1_t (by omega)]; exact h3 v hv
  have hw : (day1 g w D).1 = (day1 g w E).1 ∧ (day1 g w D).2.2 = (day1 g w E).2.2 ∧ (day1 g w D).2.1 w = (day1 g w E).2.1 w := by
    unfold day1
    rw [← h1]
    split
    · exact wlk_ind (D := (D.1, upd D.2.1 w 0, D.2.2.1, D.2.2.2)) (E := (D.1, upd E.2.1 w 0, E.2.2.1, E.2.2.2)) rfl h2 (by dsimp only; rw [pk_us, pk_us]) _
    · exact ⟨rfl, h2, by dsimp only; rw [pk_us, pk_us]⟩
  refine ⟨hw.1, hw.2.1, fun v hv => ?_⟩
  by_cases e : v = w
  · subst e; exact hw.2.2
  · exact hn v (by omega)
theorem dayW_ind (h1 : D.1 = E.1) (h2 : D.2.2 = E.2.2) : ∀ w, (dayW g D w).1 = (dayW g E w).1 ∧ (dayW g D w).2.2 = (dayW g E w).2.2 ∧ ∀ v, v < w → (dayW g D w).2.1 v = (dayW g E w).2.1 v
  | 0 => ⟨h1, h2, fun v hv => absurd hv (by omega)⟩
  | w + 1 => by
    obtain ⟨a, b, c⟩ := dayW_ind h1 h2 w
    exact day1_ind a b c
theorem tireK_ind {s t t' : Nat → Int32} {w : Nat} (h : t w = t' w) : ∀ k, tireK s t w k = tireK s t' w k
  | 0 => rfl
  | k + 1 => by rw [tireK, tireK, tireK_ind h k, h]
theorem tireF_ind {s t t' : Nat → Int32} : ∀ w, (∀ v, v < w → t v = t' v) → tireF g s t w = tireF g s t' w
  | 0, _ => rfl
  | w + 1, h => by rw [tireF, tireF, tireF_ind w (fun v hv => h v (by omega)), tireK_ind (h w (by omega))]
theorem dayF_ind (h1 : D.1 = E.1) (h2 : D.2.2.1 = E.2.2.1) : (dayF g D).1 = (dayF g E).1 ∧ (dayF g D).2.2.1 = (dayF g E).2.2.1 := by
  obtain ⟨a, b, c⟩ := dayW_ind (g := g) (D := (dawnF D.1 (nA g), D.2.1, D.2.2.1, 0)) (E := (dawnF E.1 (nA g), E.2.1, E.2.2.1, 0)) (by rw [h1]) (by rw [h2]) (nW' g)
  have e : dayE g (dayW g (dawnF D.1 (nA g), D.2.1, D.2.2.1, 0) (nW' g)) = dayE g (dayW g (dawnF E.1 (nA g), E.2.1, E.2.2.1, 0) (nW' g)) := by
    unfold dayE
    rw [a, b]
    exact tireF_ind _ c
  unfold dayF
  dsimp only
  rw [e, b]
  exact ⟨rfl, rfl⟩
theorem daysF_ind (h1 : D.1 = E.1) (h2 : D.2.2.1 = E.2.2.1) : ∀ m, (daysF g D m).1 = (daysF g E m).1 ∧ (daysF g D m).2.2.1 = (daysF g E m).2.2.1
  | 0 => ⟨h1, h2⟩
  | m + 1 => by
    obtain ⟨a, b⟩ := daysF_ind h1 h2 m
    exact dayF_ind a b
theorem tireF_hi {s t : Nat → Int32} {k : Nat} (hK : nK g ≤ 5) (hk : 290 ≤ k) : ∀ w, w ≤ 8 → tireF g s t w k = s k
  | 0, _ => rfl
  | w + 1, hw => by rw [tireF, tireK_at _ hK, if_neg (by omega)]; exact tireF_hi hK hk w (by omega)
theorem dayF_hi {k : Nat} (hg : HeadOk g) (h : Stt g D.1) (hk : 290 ≤ k) : (dayF g D).1 k = D.1 k := by
  obtain ⟨-, -, -, -, hA, hK, hW, hQ⟩ := hdA hg h
  unfold dayF
  dsimp only
  rw [pk_un (by omega)]
  unfold dayE
  rw [tireF_hi hK hk _ hW, eveF_kp (by omega) _ hA, dayW_kp hA (by omega) _ hW]
  exact dawnF_kp (by omega) _ hA
theorem daysF_hi (hg : HeadOk g) (h : Stt g D.1) {t k : Nat} (e : D.1 198 = nI t) (hk : 290 ≤ k) : ∀ m, t + m ≤ 400 → (daysF g D m).1 k = D.1 k
  | 0, _ => rfl
  | m + 1, hm => (dayF_hi hg (daysF_ok hg h e m (by omega)).1 hk).trans (daysF_hi hg h e hk m (by omega))
theorem daysF_Out (hg : HeadOk g) (h : Stt g D.1) {t : Nat} (e : D.1 198 = nI t) (m : Nat) (hm : t + m ≤ 400) : Out D.1 (daysF g D m).1 := fun k hk => by
  rcases hk with hk | hk
  · exact daysF_lo hg h e hk m hm
  · exact daysF_hi hg h e hk m hm
end DInd
section Live
variable {X : Xc} {d : Nat} {u : Mm} {g : Nat → Int32} {nm : Nat → Int64} {l : Nat → Nat → Int32} {D : DS}
theorem c_live20 {K : Int32 → Mm → Prop} {n t : Nat} (hd : 5 ≤ d) (hg : HeadOk g) (hc : CityR u 5 g nm) (hs : Stt g D.1) (h5 : D.1 5 = g 5) (e : D.1 198 = nI t) (ht : t ≤ 400) (hn : n ≤ 60) (hl : LifeP g D.1 l) (hK : ∀ l', LifeP g (daysF g D (mnD n t)).1 l' → K (nI (mnD n t)) (lm u 20 l')) : CI X d 51 [.ref 20, .int (nI n), .int D.2.2.1] (lm u 20 l) K := by
  obtain ⟨d, rfl, hd1⟩ := dpos hd
  obtain ⟨hm1, hm2⟩ := mnD_le (n := n) ht
  refine CI_of mk_X4_live.2.2 rfl (B_L20_live_0 ?_)
  simp (disch := omega) only [la1, la2, lt1, lt2, nI_add, pk_mul, nI_clamp, vpn, nI_leI, nI_ltI, nI_eq, ll1, ll2, ll3, ll4, le1, le2, true_and, and_true, not_true_eq_false, not_false_eq_true, forall_const, false_implies, implies_true, if_true, if_false, ite_true, ite_false, and_self, false_and, and_false, lm_in, lm_o, lm_w, Nat.reduceSub, u2r, u2s, u2n, u2u, b01, b10, hl.1.1, e]
  rw [mnD_I hn ht]
  refine lupR (n := mnD n t) (W := fun j (z : Nat → Nat → Int32) => VI X d 51 K 21 [some (.ref 20), some (.int (nI n)), some (.int D.2.2.1), some (.int (nI (mnD n t))), some (.int (nI j))] [] (lm u 20 z))
    (I := fun j z => LifeP g (daysF g D j).1 z ∧ z 0 13 = (daysF g D j).2.2.1) ?_ _ ⟨LQ_ev hl (Or.inl rfl), u2s⟩
  rintro j l1 hj ⟨i1, i2⟩ ih
  refine B_L20_live_21 ?_
  have e5 : u.1 5 3 = (daysF g D j).1 5 := hc.1.2.2.2.2.2.trans (h5.symm.trans (daysF_lo hg hs e (by omega) j (by omega)).symm)
  simp (disch := omega) only [la1, la2, lt1, lt2, nI_add, pk_mul, nI_clamp, vpn, nI_leI, nI_ltI, nI_eq, ll1, ll2, ll3, ll4, le1, le2, true_and, and_true, not_true_eq_false, not_false_eq_true, forall_const, false_implies, implies_true, if_true, if_false, ite_true, ite_false, and_self, false_and, and_false, lm_in, lm_o, lm_w, Nat.reduceSub, u2r, u2s, u2n, u2u, b01, b10, e5]
  refine ⟨fun q => ?_, fun q => ?_⟩
  · rw [show j = mnD n t by omega] at i1; exact hK l1 i1
  · exact c_day20 hd1 hg hc (daysF_ok hg hs e j (by omega)).1 i1 i2 fun l2 z1 z2 => ih (by omega) l2 ⟨z1, z2⟩
theorem c_live35 {K : Int32 → Mm → Prop} {n t : Nat} (hd : 5 ≤ d) (hg : HeadOk g) (hc : CityR u 5 g nm) (hs : Stt g D.1) (h5 : D.1 5 = g 5) (e : D.1 198 = nI t) (ht : t ≤ 400) (hn : n ≤ 60) (hl : LifeP g D.1 l) (hK : ∀ l', LifeP g (daysF g D (mnD n t)).1 l' → K (nI (mnD n t)) (lm u 35 l')) : CI X d 51 [.ref 35, .int (nI n), .int D.2.2.1] (lm u 35 l) K := by
  obtain ⟨d, rfl, hd1⟩ := dpos hd
  obtain ⟨hm1, hm2⟩ := mnD_le (n := n) ht
  refine CI_of mk_X4_live.2.2 rfl (B_L35_live_0 ?_)
  simp (disch := omega) only [la1, la2, lt1, lt2, nI_add, pk_mul, nI_clamp, vpn, nI_leI, nI_ltI, nI_eq, ll1, ll2, ll3, ll4, le1, le2, true_and, and_true, not_true_eq_false, not_false_eq_true, forall_const, false_implies, implies_true, if_true, if_false, ite_true, ite_false, and_self, false_and, and_false, lm_in, lm_o, lm_w, Nat.reduceSub, u2r, u2s, u2n, u2u, b01, b10, hl.1.1, e]
  rw [mnD_I hn ht]
  refine lupR (n := mnD n t) (W := fun j (z : Nat → Nat → Int32) => VI X d 51 K 21 [some (.ref 35), some (.int (nI n)), some (.int D.2.2.1), some (.int (nI (mnD n t))), some (.int (nI j))] [] (lm u 35 z))
    (I := fun j z => LifeP g (daysF g D j).1 z ∧ z 0 13 = (daysF g D j).2.2.1) ?_ _ ⟨LQ_ev hl (Or.inl rfl), u2s⟩
  rintro j l1 hj ⟨i1, i2⟩ ih
  refine B_L35_live_21 ?_
  have e5 : u.1 5 3 = (daysF g D j).1 5 := hc.1.2.2.2.2.2.trans (h5.symm.trans (daysF_lo hg hs e (by omega) j (by omega)).symm)
  simp (disch := omega) only [la1, la2, lt1, lt2, nI_add, pk_mul, nI_clamp, vpn, nI_leI, nI_ltI, nI_eq, ll1, ll2, ll3, ll4, le1, le2, true_and, and_true, not_true_eq_false, not_false_eq_true, forall_const, false_implies, implies_true, if_true, if_false, ite_true, ite_false, and_self, false_and, and_false, lm_in, lm_o, lm_w, Nat.reduceSub, u2r, u2s, u2n, u2u, b01, b10, e5]
  refine ⟨fun q => ?_, fun q => ?_⟩
  · rw [show j = mnD n t by omega] at i1; exact hK l1 i1
  · exact c_day35 hd1 hg hc (daysF_ok hg hs e j (by omega)).1 i1 i2 fun l2 z1 z2 => ih (by omega) l2 ⟨z1, z2⟩
theorem c_till35 {K : Int32 → Mm → Prop} {n t : Nat} {set : Int32} (hd : 5 ≤ d) (hg : HeadOk g) (hc : CityR u 5 g nm) (hs : Stt g D.1) (e : D.1 198 = nI t) (ht : t ≤ 400) (hn : n ≤ 60) (hl : LifeP g D.1 l) (h1 : (∀ i, i < mnD n t → gn g D i &&& set = 0) → ∀ l', K (-1) (lm u 35 l')) (h2 : ∀ i, i < mnD n t → (∀ j, j < i → gn g D j &&& set = 0) → gn g D i &&& set ≠ 0 → ∀ l', K (nI (t + i)) (lm u 35 l')) : CI X d 52 [.ref 35, .int (nI n), .int D.2.2.1, .int (D.1 5), .int set] (lm u 35 l) K := by
  obtain ⟨d, rfl, hd1⟩ := dpos hd
  obtain ⟨hm1, hm2⟩ := mnD_le (n := n) ht
  refine CI_of mk_X4_liveTillEviction.2.2 rfl (B_L35_liveTillEviction_0 ?_)
  simp (disch := omega) only [la1, la2, lt1, lt2, nI_add, pk_mul, nI_clamp, vpn, nI_leI, nI_ltI, nI_eq, ll1, ll2, ll3, ll4, le1, le2, true_and, and_true, not_true_eq_false, not_false_eq_true, forall_const, false_implies, implies_true, if_true, if_false, ite_true, ite_false, and_self, false_and, and_false, lm_in, lm_o, lm_w, Nat.reduceSub, u2r, u2s, u2n, u2u, b01, b10, hl.1.1, e]
  rw [mnD_I hn ht]
  refine lupR (n := mnD n t) (W := fun j (z : Nat → Nat → Int32) => VI X d 52 K 22 [some (.ref 35), some (.int (nI n)), some (.int D.2.2.1), some (.int (D.1 5)), some (.int set), some (.int (nI (mnD n t))), some (.int (nI j))] [] (lm u 35 z))
    (I := fun j z => LifeP g (daysF g D j).1 z ∧ z 0 13 = (daysF g D j).2.2.1 ∧ ∀ i, i < j → gn g D i &&& set = 0) ?_ _ ⟨LQ_ev hl (Or.inl rfl), u2s, fun i hi => absurd hi (by omega)⟩
  rintro j l1 hj ⟨i1, i2, i3⟩ ih
  refine B_L35_liveTillEviction_22 ?_
  have e5 : D.1 5 = (daysF g D j).1 5 := (daysF_lo hg hs e (by omega) j (by omega)).symm
  simp (disch := omega) only [la1, la2, lt1, lt2, nI_add, pk_mul, nI_clamp, vpn, nI_leI, nI_ltI, nI_eq, ll1, ll2, ll3, ll4, le1, le2, true_and, and_true, not_true_eq_false, not_false_eq_true, forall_const, false_implies, implies_true, if_true, if_false, ite_true, ite_false, and_self, false_and, and_false]
  refine ⟨fun q => ?_, fun q => ?_⟩
  · rw [show j = mnD n t by omega] at i3; exact h1 i3 l1
  · have ih := ih (by omega)
    rw [e5] at ih ⊢
    refine c_day35 hd1 hg hc (daysF_ok hg hs e j (by omega)).1 i1 i2 fun l2 z1 z2 => ⟨fun y => ih l2 ⟨z1, z2, fun i hi => ?_⟩, fun y => ?_⟩
    · by_cases ei : i = j
      · subst ei; exact y
      · exact i3 i (by omega)
    · have ed := (daysF_ok hg hs e (j + 1) (by omega)).2
      have e1 : (lm u 35 l2).1 35 1 = nI (t + j + 1) := by
        rw [lm_in (by omega) (by omega)]
        exact z1.1.1.trans ed
      rw [e1, nI_pred]
      exact h2 j (by omega) i3 y l2
end Live
