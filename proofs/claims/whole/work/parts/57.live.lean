def daysF (g : Nat → Int32) (D : DS) : Nat → DS
  | 0 => D
  | m + 1 => dayF g (daysF g D m)
def gn (g : Nat → Int32) (D : DS) (i : Nat) : Int32 := (daysF g D (i + 1)).1 201 ^^^ (daysF g D i).1 201
theorem gone_xor {x y z : Int32} (h : x = y ||| z) (hd : ∀ i, i < 32 → tb z i = true → tb y i = false) : z = x ^^^ y := by
  refine tb_ext fun i hi => ?_
  rw [h]
  have e : tb ((y ||| z) ^^^ y) i = ((tb y i || tb z i) ^^ tb y i) := by simp [tb]
  rw [e]
  have := hd i hi
  revert this
  cases tb y i <;> cases tb z i <;> simp
theorem LQ_fin {g s s' : Nat → Int32} {l T : Nat → Nat → Int32} (hA : nA g ≤ 8) (hW : nW' g ≤ 8) (h : LifeQ g s l T) (h1 : ∀ k, k < 250 → k ≠ 198 → s' k = s k) : LifeQ g s' (upd2 l 0 1 (s' 198)) T := by
  obtain ⟨⟨a1, a2, a3, a4⟩, b, c, d⟩ := h
  refine ⟨⟨?_, ?_, ?_, ?_⟩, fun a ha => ?_, fun q' hq' => ?_, fun w hw => ⟨?_, fun k hk => ?_⟩⟩
  · simp (disch := omega) only [u2r, u2s, u2n, pk_un, pk_us]
  · simp (disch := omega) only [u2r, u2s, u2n, pk_un, pk_us]; rw [h1 _ (by omega) (by omega)]; exact a2
  · simp (disch := omega) only [u2r, u2s, u2n, pk_un, pk_us]; rw [h1 _ (by omega) (by omega)]; exact a3
  · simp (disch := omega) only [u2r, u2s, u2n, pk_un, pk_us]; rw [h1 _ (by omega) (by omega)]; exact a4
  · simp (disch := omega) only [u2r, u2s, u2n, pk_un, pk_us]; rw [h1 _ (by omega) (by omega), h1 _ (by omega) (by omega), h1 _ (by omega) (by omega), h1 _ (by omega) (by omega), h1 _ (by omega) (by omega)]; exact b a ha
  · rw [stAt_congr (s' := s') (s := s) (fun a ha => h1 _ (by omega) (by omega))]
    simp (disch := omega) only [u2r, u2s, u2n, pk_un, pk_us]; exact c q' hq'
  · simp (disch := omega) only [u2r, u2s, u2n, pk_un, pk_us]; rw [h1 _ (by omega) (by omega)]; exact (d w hw).1
  · simp (disch := omega) only [u2r, u2s, u2n, pk_un, pk_us]; exact (d w hw).2 k hk
section CDay4
variable {X : Xc} {d : Nat} {u : Mm} {g s t : Nat → Int32} {nm : Nat → Int64} {l T : Nat → Nat → Int32} {D : DS} {sn : Int32}
theorem daysF_ok (hg : HeadOk g) (h : Stt g D.1) {t : Nat} (e : D.1 198 = nI t) : ∀ m, t + m ≤ 400 → Stt g (daysF g D m).1 ∧ (daysF g D m).1 198 = nI (t + m)
  | 0, _ => ⟨h, e⟩
  | m + 1, hm => by
    obtain ⟨h1, e1⟩ := daysF_ok hg h e m (by omega)
    exact ⟨dayF_ok hg h1 (t + m) (by omega) e1, by rw [daysF, dayF_198 hg h1, e1]; exact nI_1 _⟩
theorem daysF_lo (hg : HeadOk g) (h : Stt g D.1) {t k : Nat} (e : D.1 198 = nI t) (hk : k < 198) : ∀ m, t + m ≤ 400 → (daysF g D m).1 k = D.1 k
  | 0, _ => rfl
  | m + 1, hm => (dayF_lo hg (daysF_ok hg h e m (by omega)).1 hk).trans (daysF_lo hg h e hk m (by omega))
/-- how many days go by -/
def mnD (n t : Nat) : Nat := if 400 - t < n then 400 - t else n
theorem mnD_I {n t : Nat} (hn : n ≤ 60) (ht : t ≤ 400) : (if (400 : Int32) - nI t < nI n then (400 : Int32) - nI t else nI n) = nI (mnD n t) := by
  rw [show (400 : Int32) - nI t = nI (400 - t) from pk_sub (a := 400) ht]
  simp (disch := omega) only [la1, la2, lt1, lt2, nI_add, pk_mul, nI_clamp, vpn, nI_leI, nI_ltI, nI_eq, ll1, ll2, ll3, ll4, le1, le2, true_and, and_true, not_true_eq_false, not_false_eq_true, forall_const, false_implies, implies_true, if_true, if_false, ite_true, ite_false, and_self, false_and, and_false]
  unfold mnD
  split <;> rfl
theorem mnD_le {n t : Nat} (ht : t ≤ 400) : t + mnD n t ≤ 400 ∧ mnD n t ≤ n := by
  unfold mnD
  split <;> omega
theorem c_mpass {K : Int32 → Mm → Prop} {n t : Nat} (hd : 5 ≤ d) (hg : HeadOk g) (hs : Stt g D.1) (e : D.1 198 = nI t) (ht : t ≤ 400) (hn : n ≤ 60) (hK : K (nI (mnD n t)) (mD u (daysF g D (mnD n t)))) : CI X d 259 [.ref 234, .int (nI n)] (mD u D) K := by
  obtain ⟨d, rfl, hd1⟩ := dpos hd
  refine CI_of mk_X13_passDays.2.2 rfl (B_M_passDays_0 (c_mleast (by omega) ?_))
  obtain ⟨hm1, hm2⟩ := mnD_le (n := n) ht
  rw [show (mD u D).1 236 198 = nI t from e, mnD_I hn ht]
  refine lup (n := mnD n t) (W := fun j => VI X d 259 K 19 [some (.ref 234), some (.int (nI n)), some (.int (nI (mnD n t))), some (.int (nI j))] [] (mD u (daysF g D j))) ?_
  intro j hj ih
  refine B_M_passDays_19 ?_
  simp (disch := omega) only [la1, la2, lt1, lt2, nI_add, pk_mul, nI_clamp, vpn, nI_leI, nI_ltI, nI_eq, ll1, ll2, ll3, ll4, le1, le2, true_and, and_true, not_true_eq_false, not_false_eq_true, forall_const, false_implies, implies_true, if_true, if_false, ite_true, ite_false, and_self, false_and, and_false]
  refine ⟨fun q => ?_, fun q => ?_⟩
  · rw [show j = mnD n t by omega]; exact hK
  · exact c_moneDay hd1 hg (daysF_ok hg hs e j (by omega)).1 (ih (by omega))
theorem c_goes20 {K : Int32 → Mm → Prop} {w : Nat} (hd : 1 ≤ d) (hg : HeadOk g) (hc : CityR u 5 g nm) (hs : Stt g s) (hw : w < nW' g) (hl : l 0 1 = s 198) (h1 : goes s w = true → K 1 (lm u 20 l)) (h0 : goes s w = false → K 0 (lm u 20 l)) : CI X d 54 [.ref 20, .int (nI w)] (lm u 20 l) K := by
  obtain ⟨d, rfl, hd1⟩ := dpos hd
  obtain ⟨-, -, -, -, hA, hKK, hW, hQ⟩ := hdA hg hs
  obtain ⟨-, -, ⟨ev, he1, he7, ee⟩, -⟩ := hg.2.2 w hw
  have ec : u.1 13 w = nI ev := (hc.2.2.2.2 w hw).2.2.1.trans ee
  have es : s (70 + w) = nI ev := (hs.1 _ (by omega) (by omega)).trans ee
  unfold goes at h1 h0
  rw [es, ← hl] at h1 h0
  refine CI_of mk_X4_goesOn.2.2 rfl (B_L20_goesOn_0 ?_)
  simp (disch := omega) only [la1, la2, lt1, lt2, nI_add, pk_mul, nI_clamp, vpn, nI_leI, nI_ltI, nI_eq, ll1, ll2, ll3, ll4, le1, le2, true_and, and_true, not_true_eq_false, not_false_eq_true, forall_const, false_implies, implies_true, if_true, if_false, ite_true, ite_false, and_self, false_and, and_false, lm_in, lm_o, lm_w, Nat.reduceSub, u2r, u2s, u2n, u2u, b01, b10, ec]
  exact ⟨by omega, fun q => absurd q (by omega), fun q => ⟨by omega, fun z => h0 (decide_eq_false z), fun z => h1 (decide_eq_true z)⟩⟩
theorem c_day20 {K : Int32 → Mm → Prop} (hd : 4 ≤ d) (hg : HeadOk g) (hc : CityR u 5 g nm) (hs : Stt g D.1) (hl : LifeP g D.1 l) (hsd : l 0 13 = D.2.2.1) (hK : ∀ l', LifeP g (dayF g D).1 l' → l' 0 13 = (dayF g D).2.2.1 → K ((dayF g D).1 201 ^^^ D.1 201) (lm u 20 l')) : CI X d 53 [.ref 20, .int (D.1 5)] (lm u 20 l) K := by
  obtain ⟨d, rfl, hd1⟩ := dpos hd
  obtain ⟨-, -, -, -, hA, hKK, hW, hQ⟩ := hdA hg hs
  obtain ⟨cq, ck, ca, cw⟩ := cityN hg hc
  rw [dayF_201 hg hs] at hK
  refine CI_of mk_X4_liveDay.2.2 rfl (B_L20_liveDay_0 (c_evict20 hd1 hg hc hs hl fun l1 gone q1 q2 q3 q4 => ?_))
  rw [← gone_xor q3 q4] at hK
  clear q3 q4
  have hs1 := dawnF_ok hA hs (nA g) (Nat.le_refl _)
  simp (disch := omega) only [la1, la2, lt1, lt2, nI_add, pk_mul, nI_clamp, vpn, nI_leI, nI_ltI, nI_eq, ll1, ll2, ll3, ll4, le1, le2, true_and, and_true, not_true_eq_false, not_false_eq_true, forall_const, false_implies, implies_true, if_true, if_false, ite_true, ite_false, and_self, false_and, and_false, lm_in, lm_o, lm_w, Nat.reduceSub, u2r, u2s, u2n, u2u, b01, b10]
  have hT0 : ∀ w k, dawnF D.1 (nA g) (250 + 5 * w + k) = D.1 (250 + 5 * w + k) := fun w k => dawnF_kp (by omega) _ hA
  unfold dayF at hK
  generalize hD0 : (dawnF D.1 (nA g), D.2.1, D.2.2.1, (0 : Int32)) = D0 at hK
  have e1 : dawnF D.1 (nA g) = D0.1 := by rw [← hD0]
  have e2 : l1 0 13 = D0.2.2.1 := by rw [← hD0]; exact q2.trans hsd
  have e3 : (0 : Int32) = D0.2.2.2 := by rw [← hD0]
  rw [e1] at q1 hs1 hT0
  have hTok : ∀ w k, w < nW' g → k < 5 → ∃ r, r ≤ 3 ∧ D.1 (250 + 5 * w + k) = nI r := fun w k hw hk => hs.2.2.2.2.2.2 w hw k hk
  refine lupR (n := nW' g) (W := fun j (z : Nat → Nat → Int32) => VI X d 53 K 13 [some (.ref 20), some (.int (D.1 5)), some (.int gone), some (.int (nI j))] [] (lm u 20 z))
    (I := fun j z => LifeQ g (dayW g D0 j).1 z (fun v k => if v < j ∧ k < nK g then tval (D.1 (250 + 5 * v + k)) (tb ((dayW g D0 j).2.1 v) k) else D.1 (250 + 5 * v + k)) ∧ z 0 13 = (dayW g D0 j).2.2.1 ∧ z 0 14 = (dayW g D0 j).2.2.2) ?_ _ ?_
  · rintro j l2 hj ⟨i1, i2, i3⟩ ih
    have h := dayW_ok hA hW hs1 j hj
    have hkp : ∀ k, k < 5 → (dayW g D0 j).1 (250 + 5 * j + k) = D.1 (250 + 5 * j + k) := fun k hk => (dayW_kp hA (by omega) j (by omega)).trans (hT0 j k)
    refine B_L20_liveDay_13 ?_
    simp (disch := omega) only [la1, la2, lt1, lt2, nI_add, pk_mul, nI_clamp, vpn, nI_leI, nI_ltI, nI_eq, ll1, ll2, ll3, ll4, le1, le2, true_and, and_true, not_true_eq_false, not_false_eq_true, forall_const, false_implies, implies_true, if_true, if_false, ite_true, ite_false, and_self, false_and, and_false, lm_in, lm_o, lm_w, Nat.reduceSub, u2r, u2s, u2n, u2u, b01, b10, cw]
    refine ⟨fun q => ?_, fun q => ?_⟩
    · have ej : j = nW' g := by omega
      rw [ej] at i1 i2 i3 h
      clear ih hkp hs1 e1 e2 e3 hD0
      have hT1 : ∀ v k, (dayW g D0 (nW' g)).1 (250 + 5 * v + k) = D.1 (250 + 5 * v + k) := fun v k => (dayW_kp hA (by omega) _ hW).trans (hT0 v k)
      generalize dayW g D0 (nW' g) = E at i1 i2 i3 h hK hT1
      obtain ⟨s, t, sd, sn⟩ := E
      dsimp only at i1 i2 i3 h hK hT1
      refine lupR (n := nA g) (W := fun j (z : Nat → Nat → Int32) => VI X d 53 K 56 [some (.ref 20), some (.int (D.1 5)), some (.int gone), some (.int (nI j))] [] (lm u 20 z))
        (I := fun j z => LifeQ g (eveF s sn j) z (fun v k => if v < nW' g ∧ k < nK g then tval (D.1 (250 + 5 * v + k)) (tb (t v) k) else D.1 (250 + 5 * v + k)) ∧ z 0 13 = sd ∧ z 0 14 = sn) ?_ l2 ⟨i1, i2, i3⟩
      rintro a l3 ha ⟨k1, k2, k3⟩ ih
      have h2 := eveF_ok (sn := sn) hA hW h a ha
      refine B_L20_liveDay_56 (cst20 (by omega) ?_)
      simp (disch := omega) only [la1, la2, lt1, lt2, nI_add, pk_mul, nI_clamp, vpn, nI_leI, nI_ltI, nI_eq, ll1, ll2, ll3, ll4, le1, le2, true_and, and_true, not_true_eq_false, not_false_eq_true, forall_const, false_implies, implies_true, if_true, if_false, ite_true, ite_false, and_self, false_and, and_false, lm_in, lm_o, lm_w, Nat.reduceSub, u2r, u2s, u2n, u2u, b01, b10, ca]
      refine ⟨fun q => ?_, fun q => ?_⟩
      · have ea : a = nA g := by omega
        subst ea
        have hT2 : ∀ v k, eveF s sn (nA g) (250 + 5 * v + k) = D.1 (250 + 5 * v + k) := fun v k => (eveF_kp (by omega) _ hA).trans (hT1 v k)
        have e198 : l3 0 1 = dayE g (s, t, sd, sn) 198 := by
          rw [k1.1.1]
          exact (tireF_o hKK (by omega) _).symm
        rw [e198]
        refine hK _ ?_ (by simp (disch := omega) only [u2r, u2s, u2n, pk_un, pk_us]; exact k2)
        have := LQ_fin (s' := upd (dayE g (s, t, sd, sn)) 198 (dayE g (s, t, sd, sn) 198 + 1)) hA hW k1 (fun k hk h8 => by rw [pk_un h8]; exact tireF_o hKK hk _)
        rw [pk_us] at this
        refine LQ_T this fun v hv k hk => ?_
        rw [pk_un (by omega)]
        show tireF g (eveF s sn (nA g)) t (nW' g) (250 + 5 * v + k) = _
        rw [tireF_at hKK hk, hT2]
      · have ih := ih (by omega)
        rw [k1.1.2.2.2]
        refine c_bit (by omega) (by omega) (fun y => ?_) (fun y => ?_)
        · refine ⟨fun _ => ih l3 ⟨?_, k2, k3⟩, fun z => absurd z (by decide)⟩
          rw [eveF, eve1, if_pos y]
          exact k1
        · refine ⟨fun z => absurd rfl z, fun _ => c_close20 (by omega) hg hc h2 (by omega) y k1 fun l4 z1 z2 z3 => ih l4 ⟨?_, z2.trans k2, z3.trans k3⟩⟩
          rw [k3] at z1
          exact z1
    · have ih := ih (by omega)
      have hjW : j < nW' g := by omega
      rw [dayW] at ih
      have ht : ∀ v, v ≠ j → (day1 g j (dayW g D0 j)).2.1 v = (dayW g D0 j).2.1 v := fun v hv => day1_t hv
      generalize dayW g D0 j = E at i1 i2 i3 h hkp ih ht
      obtain ⟨s, t, sd, sn⟩ := E
      dsimp only at i1 i2 i3 h hkp ht
      have fin : ∀ (s2 : Nat → Int32) (ks : Int32) (l3 : Nat → Nat → Int32), (day1 g j (s, t, sd, sn)).1 = s2 → (day1 g j (s, t, sd, sn)).2.1 j = ks → LifeQ g s2 l3 (tstep (fun v k => if v < j ∧ k < nK g then tval (D.1 (250 + 5 * v + k)) (tb (t v) k) else D.1 (250 + 5 * v + k)) j ks (nK g)) → LifeQ g (day1 g j (s, t, sd, sn)).1 l3 (fun v k => if v < j + 1 ∧ k < nK g then tval (D.1 (250 + 5 * v + k)) (tb ((day1 g j (s, t, sd, sn)).2.1 v) k) else D.1 (250 + 5 * v + k)) := by
        intro s2 ks l3 x1 x2 x3
        rw [x1]
        refine LQ_T x3 fun v hv k hk => ?_
        unfold tstep
        dsimp only
        by_cases ev : v = j
        · subst ev
          rw [x2]
          by_cases ek : k < nK g
          · rw [if_pos ⟨by omega, ek⟩, if_pos ⟨rfl, ek⟩, if_neg (by omega)]
          · rw [if_neg (by omega), if_neg (by omega), if_neg (by omega)]
        · rw [ht v ev, if_neg (show ¬ (v = j ∧ k < nK g) by omega)]
          by_cases ek : v < j ∧ k < nK g
          · rw [if_pos ek, if_pos (by omega)]
          · rw [if_neg ek, if_neg (by omega)]
      have hTj : ∀ k, k < 5 → ∃ r, r ≤ 3 ∧ (if j < j ∧ k < nK g then tval (D.1 (250 + 5 * j + k)) (tb (t j) k) else D.1 (250 + 5 * j + k)) = nI r := by
        intro k hk
        rw [if_neg (by omega)]
        exact hTok j k hjW hk
      refine c_goes20 (by omega) hg hc h hjW i1.1.1 (fun y => ?_) (fun y => ?_)
      · refine ⟨fun z => absurd z (by decide), fun _ => ?_⟩
        have ed : day1 g j (s, t, sd, sn) = wlk g j (s, upd t j 0, sd, sn) (nLen g j) := by
          unfold day1
          rw [if_pos y]
        refine c_walk20 (D := (s, upd t j 0, sd, sn)) hd1 hg hc hjW h pk_us (fun k hk => by rw [if_neg (by omega)]; exact (hkp k hk).symm) i1 i2 i3 fun l3 z1 z2 z3 => ?_
        refine c_tire20 (by omega) hg hc hjW hTj z1 fun l4 y1 y2 => ih l4 ⟨fin _ _ l4 (by rw [ed]) (by rw [ed]) y1, ?_, ?_⟩
        · rw [ed, y2]; exact z2
        · rw [ed, y2]; exact z3
      · refine ⟨fun _ => ?_, fun z => absurd rfl z⟩
        have ed : day1 g j (s, t, sd, sn) = (s, upd t j 0, sd, sn) := by
          unfold day1
          rw [if_neg (by rw [y]; decide)]
        refine c_tire20 (by omega) hg hc hjW hTj i1 fun l4 y1 y2 => ih l4 ⟨fin _ _ l4 (by rw [ed]) (by rw [ed]; exact pk_us) y1, ?_, ?_⟩
        · rw [ed, y2]; exact i2
        · rw [ed, y2]; exact i3
  · refine ⟨LQ_T (LQ_ev q1 (Or.inr rfl)) fun v hv k hk => ?_, by simp (disch := omega) only [u2r, u2s, u2n, pk_un, pk_us]; exact e2, by simp (disch := omega) only [u2r, u2s, u2n, pk_un, pk_us]; exact e3⟩
    rw [if_neg (by omega)]
theorem c_goes35 {K : Int32 → Mm → Prop} {w : Nat} (hd : 1 ≤ d) (hg : HeadOk g) (hc : CityR u 5 g nm) (hs : Stt g s) (hw : w < nW' g) (hl : l 0 1 = s 198) (h1 : goes s w = true → K 1 (lm u 35 l)) (h0 : goes s w = false → K 0 (lm u 35 l)) : CI X d 54 [.ref 35, .int (nI w)] (lm u 35 l) K := by
  obtain ⟨d, rfl, hd1⟩ := dpos hd
  obtain ⟨-, -, -, -, hA, hKK, hW, hQ⟩ := hdA hg hs
  obtain ⟨-, -, ⟨ev, he1, he7, ee⟩, -⟩ := hg.2.2 w hw
  have ec : u.1 13 w = nI ev := (hc.2.2.2.2 w hw).2.2.1.trans ee
  have es : s (70 + w) = nI ev := (hs.1 _ (by omega) (by omega)).trans ee
  unfold goes at h1 h0
  rw [es, ← hl] at h1 h0
  refine CI_of mk_X4_goesOn.2.2 rfl (B_L35_goesOn_0 ?_)
  simp (disch := omega) only [la1, la2, lt1, lt2, nI_add, pk_mul, nI_clamp, vpn, nI_leI, nI_ltI, nI_eq, ll1, ll2, ll3, ll4, le1, le2, true_and, and_true, not_true_eq_false, not_false_eq_true, forall_const, false_implies, implies_true, if_true, if_false, ite_true, ite_false, and_self, false_and, and_false, lm_in, lm_o, lm_w, Nat.reduceSub, u2r, u2s, u2n, u2u, b01, b10, ec]
  exact ⟨by omega, fun q => absurd q (by omega), fun q => ⟨by omega, fun z => h0 (decide_eq_false z), fun z => h1 (decide_eq_true z)⟩⟩
theorem c_day35 {K : Int32 → Mm → Prop} (hd : 4 ≤ d) (hg : HeadOk g) (hc : CityR u 5 g nm) (hs : Stt g D.1) (hl : LifeP g D.1 l) (hsd : l 0 13 = D.2.2.1) (hK : ∀ l', LifeP g (dayF g D).1 l' → l' 0 13 = (dayF g D).2.2.1 → K ((dayF g D).1 201 ^^^ D.1 201) (lm u 35 l')) : CI X d 53 [.ref 35, .int (D.1 5)] (lm u 35 l) K := by
  obtain ⟨d, rfl, hd1⟩ := dpos hd
  obtain ⟨-, -, -, -, hA, hKK, hW, hQ⟩ := hdA hg hs
  obtain ⟨cq, ck, ca, cw⟩ := cityN hg hc
  rw [dayF_201 hg hs] at hK
  refine CI_of mk_X4_liveDay.2.2 rfl (B_L35_liveDay_0 (c_evict35 hd1 hg hc hs hl fun l1 gone q1 q2 q3 q4 => ?_))
  rw [← gone_xor q3 q4] at hK
  clear q3 q4
  have hs1 := dawnF_ok hA hs (nA g) (Nat.le_refl _)
  simp (disch := omega) only [la1, la2, lt1, lt2, nI_add, pk_mul, nI_clamp, vpn, nI_leI, nI_ltI, nI_eq, ll1, ll2, ll3, ll4, le1, le2, true_and, and_true, not_true_eq_false, not_false_eq_true, forall_const, false_implies, implies_true, if_true, if_false, ite_true, ite_false, and_self, false_and, and_false, lm_in, lm_o, lm_w, Nat.reduceSub, u2r, u2s, u2n, u2u, b01, b10]
  have hT0 : ∀ w k, dawnF D.1 (nA g) (250 + 5 * w + k) = D.1 (250 + 5 * w + k) := fun w k => dawnF_kp (by omega) _ hA
  unfold dayF at hK
  generalize hD0 : (dawnF D.1 (nA g), D.2.1, D.2.2.1, (0 : Int32)) = D0 at hK
  have e1 : dawnF D.1 (nA g) = D0.1 := by rw [← hD0]
  have e2 : l1 0 13 = D0.2.2.1 := by rw [← hD0]; exact q2.trans hsd
  have e3 : (0 : Int32) = D0.2.2.2 := by rw [← hD0]
  rw [e1] at q1 hs1 hT0
  have hTok : ∀ w k, w < nW' g → k < 5 → ∃ r, r ≤ 3 ∧ D.1 (250 + 5 * w + k) = nI r := fun w k hw hk => hs.2.2.2.2.2.2 w hw k hk
  refine lupR (n := nW' g) (W := fun j (z : Nat → Nat → Int32) => VI X d 53 K 13 [some (.ref 35), some (.int (D.1 5)), some (.int gone), some (.int (nI j))] [] (lm u 35 z))
    (I := fun j z => LifeQ g (dayW g D0 j).1 z (fun v k => if v < j ∧ k < nK g then tval (D.1 (250 + 5 * v + k)) (tb ((dayW g D0 j).2.1 v) k) else D.1 (250 + 5 * v + k)) ∧ z 0 13 = (dayW g D0 j).2.2.1 ∧ z 0 14 = (dayW g D0 j).2.2.2) ?_ _ ?_
  · rintro j l2 hj ⟨i1, i2, i3⟩ ih
    have h := dayW_ok hA hW hs1 j hj
    have hkp : ∀ k, k < 5 → (dayW g D0 j).1 (250 + 5 * j + k) = D.1 (250 + 5 * j + k) := fun k hk => (dayW_kp hA (by omega) j (by omega)).trans (hT0 j k)
    refine B_L35_liveDay_13 ?_
    simp (disch := omega) only [la1, la2, lt1, lt2, nI_add, pk_mul, nI_clamp, vpn, nI_leI, nI_ltI, nI_eq, ll1, ll2, ll3, ll4, le1, le2, true_and, and_true, not_true_eq_false, not_false_eq_true, forall_const, false_implies, implies_true, if_true, if_false, ite_true, ite_false, and_self, false_and, and_false, lm_in, lm_o, lm_w, Nat.reduceSub, u2r, u2s, u2n, u2u, b01, b10, cw]
    refine ⟨fun q => ?_, fun q => ?_⟩
    · have ej : j = nW' g := by omega
      rw [ej] at i1 i2 i3 h
      clear ih hkp hs1 e1 e2 e3 hD0
      have hT1 : ∀ v k, (dayW g D0 (nW' g)).1 (250 + 5 * v + k) = D.1 (250 + 5 * v + k) := fun v k => (dayW_kp hA (by omega) _ hW).trans (hT0 v k)
      generalize dayW g D0 (nW' g) = E at i1 i2 i3 h hK hT1
      obtain ⟨s, t, sd, sn⟩ := E
      dsimp only at i1 i2 i3 h hK hT1
      refine lupR (n := nA g) (W := fun j (z : Nat → Nat → Int32) => VI X d 53 K 56 [some (.ref 35), some (.int (D.1 5)), some (.int gone), some (.int (nI j))] [] (lm u 35 z))
        (I := fun j z => LifeQ g (eveF s sn j) z (fun v k => if v < nW' g ∧ k < nK g then tval (D.1 (250 + 5 * v + k)) (tb (t v) k) else D.1 (250 + 5 * v + k)) ∧ z 0 13 = sd ∧ z 0 14 = sn) ?_ l2 ⟨i1, i2, i3⟩
      rintro a l3 ha ⟨k1, k2, k3⟩ ih
      have h2 := eveF_ok (sn := sn) hA hW h a ha
      refine B_L35_liveDay_56 (cst35 (by omega) ?_)
      simp (disch := omega) only [la1, la2, lt1, lt2, nI_add, pk_mul, nI_clamp, vpn, nI_leI, nI_ltI, nI_eq, ll1, ll2, ll3, ll4, le1, le2, true_and, and_true, not_true_eq_false, not_false_eq_true, forall_const, false_implies, implies_true, if_true, if_false, ite_true, ite_false, and_self, false_and, and_false, lm_in, lm_o, lm_w, Nat.reduceSub, u2r, u2s, u2n, u2u, b01, b10, ca]
      refine ⟨fun q => ?_, fun q => ?_⟩
      · have ea : a = nA g := by omega
        subst ea
        have hT2 : ∀ v k, eveF s sn (nA g) (250 + 5 * v + k) = D.1 (250 + 5 * v + k) := fun v k => (eveF_kp (by omega) _ hA).trans (hT1 v k)
        have e198 : l3 0 1 = dayE g (s, t, sd, sn) 198 := by
          rw [k1.1.1]
          exact (tireF_o hKK (by omega) _).symm
        rw [e198]
        refine hK _ ?_ (by simp (disch := omega) only [u2r, u2s, u2n, pk_un, pk_us]; exact k2)
        have := LQ_fin (s' := upd (dayE g (s, t, sd, sn)) 198 (dayE g (s, t, sd, sn) 198 + 1)) hA hW k1 (fun k hk h8 => by rw [pk_un h8]; exact tireF_o hKK hk _)
        rw [pk_us] at this
        refine LQ_T this fun v hv k hk => ?_
        rw [pk_un (by omega)]
        show tireF g (eveF s sn (nA g)) t (nW' g) (250 + 5 * v + k) = _
        rw [tireF_at hKK hk, hT2]
      · have ih := ih (by omega)
        rw [k1.1.2.2.2]
        refine c_bit (by omega) (by omega) (fun y => ?_) (fun y => ?_)
        · refine ⟨fun _ => ih l3 ⟨?_, k2, k3⟩, fun z => absurd z (by decide)⟩
          rw [eveF, eve1, if_pos y]
          exact k1
        · refine ⟨fun z => absurd rfl z, fun _ => c_close35 (by omega) hg hc h2 (by omega) y k1 fun l4 z1 z2 z3 => ih l4 ⟨?_, z2.trans k2, z3.trans k3⟩⟩
          rw [k3] at z1
          exact z1
    · have ih := ih (by omega)
      have hjW : j < nW' g := by omega
      rw [dayW] at ih
      have ht : ∀ v, v ≠ j → (day1 g j (dayW g D0 j)).2.1 v = (dayW g D0 j).2.1 v := fun v hv => day1_t hv
      generalize dayW g D0 j = E at i1 i2 i3 h hkp ih ht
      obtain ⟨s, t, sd, sn⟩ := E
      dsimp only at i1 i2 i3 h hkp ht
      have fin : ∀ (s2 : Nat → Int32) (ks : Int32) (l3 : Nat → Nat → Int32), (day1 g j (s, t, sd, sn)).1 = s2 → (day1 g j (s, t, sd, sn)).2.1 j = ks → LifeQ g s2 l3 (tstep (fun v k => if v < j ∧ k < nK g then tval (D.1 (250 + 5 * v + k)) (tb (t v) k) else D.1 (250 + 5 * v + k)) j ks (nK g)) → LifeQ g (day1 g j (s, t, sd, sn)).1 l3 (fun v k => if v < j + 1 ∧ k < nK g then tval (D.1 (250 + 5 * v + k)) (tb ((day1 g j (s, t, sd, sn)).2.1 v) k) else D.1 (250 + 5 * v + k)) := by
        intro s2 ks l3 x1 x2 x3
        rw [x1]
        refine LQ_T x3 fun v hv k hk => ?_
        unfold tstep
        dsimp only
        by_cases ev : v = j
        · subst ev
          rw [x2]
          by_cases ek : k < nK g
          · rw [if_pos ⟨by omega, ek⟩, if_pos ⟨rfl, ek⟩, if_neg (by omega)]
          · rw [if_neg (by omega), if_neg (by omega), if_neg (by omega)]
        · rw [ht v ev, if_neg (show ¬ (v = j ∧ k < nK g) by omega)]
          by_cases ek : v < j ∧ k < nK g
          · rw [if_pos ek, if_pos (by omega)]
          · rw [if_neg ek, if_neg (by omega)]
      have hTj : ∀ k, k < 5 → ∃ r, r ≤ 3 ∧ (if j < j ∧ k < nK g then tval (D.1 (250 + 5 * j + k)) (tb (t j) k) else D.1 (250 + 5 * j + k)) = nI r := by
        intro k hk
        rw [if_neg (by omega)]
        exact hTok j k hjW hk
      refine c_goes35 (by omega) hg hc h hjW i1.1.1 (fun y => ?_) (fun y => ?_)
      · refine ⟨fun z => absurd z (by decide), fun _ => ?_⟩
        have ed : day1 g j (s, t, sd, sn) = wlk g j (s, upd t j 0, sd, sn) (nLen g j) := by
          unfold day1
          rw [if_pos y]
        refine c_walk35 (D := (s, upd t j 0, sd, sn)) hd1 hg hc hjW h pk_us (fun k hk => by rw [if_neg (by omega)]; exact (hkp k hk).symm) i1 i2 i3 fun l3 z1 z2 z3 => ?_
        refine c_tire35 (by omega) hg hc hjW hTj z1 fun l4 y1 y2 => ih l4 ⟨fin _ _ l4 (by rw [ed]) (by rw [ed]) y1, ?_, ?_⟩
        · rw [ed, y2]; exact z2
        · rw [ed, y2]; exact z3
      · refine ⟨fun _ => ?_, fun z => absurd rfl z⟩
        have ed : day1 g j (s, t, sd, sn) = (s, upd t j 0, sd, sn) := by
          unfold day1
          rw [if_neg (by rw [y]; decide)]
        refine c_tire35 (by omega) hg hc hjW hTj i1 fun l4 y1 y2 => ih l4 ⟨fin _ _ l4 (by rw [ed]) (by rw [ed]; exact pk_us) y1, ?_, ?_⟩
        · rw [ed, y2]; exact i2
        · rw [ed, y2]; exact i3
  · refine ⟨LQ_T (LQ_ev q1 (Or.inr rfl)) fun v hv k hk => ?_, by simp (disch := omega) only [u2r, u2s, u2n, pk_un, pk_us]; exact e2, by simp (disch := omega) only [u2r, u2s, u2n, pk_un, pk_us]; exact e3⟩
    rw [if_neg (by omega)]
end CDay4
