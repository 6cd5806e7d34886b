section CDay3
variable {X : Xc} {d : Nat} {u : Mm} {g s t : Nat → Int32} {nm : Nat → Int64} {l T : Nat → Nat → Int32} {D : DS} {sn : Int32}
def tstep (T : Nat → Nat → Int32) (w : Nat) (ks : Int32) (n : Nat) : Nat → Nat → Int32 := fun v k => if v = w ∧ k < n then tval (T v k) (tb ks k) else T v k
theorem LQ_tire {w j : Nat} {ks : Int32} (hW : nW' g ≤ 8) (hw : w < nW' g) (hj : j < 5) (h : LifeQ g s l (tstep T w ks j)) : LifeQ g s (upd2 l 8 (5 * w + j) (tval (T w j) (tb ks j))) (tstep T w ks (j + 1)) := by
  obtain ⟨⟨a1, a2, a3, a4⟩, b, c, d⟩ := h
  refine ⟨⟨?_, ?_, ?_, ?_⟩, fun a ha => ?_, fun q' hq' => ?_, fun v hv => ⟨?_, fun k hk => ?_⟩⟩
  · simp (disch := omega) only [u2r, u2s, u2n, pk_un, pk_us]; exact a1
  · simp (disch := omega) only [u2r, u2s, u2n, pk_un, pk_us]; exact a2
  · simp (disch := omega) only [u2r, u2s, u2n, pk_un, pk_us]; exact a3
  · simp (disch := omega) only [u2r, u2s, u2n, pk_un, pk_us]; exact a4
  · simp (disch := omega) only [u2r, u2s, u2n, pk_un, pk_us]; exact b a ha
  · simp (disch := omega) only [u2r, u2s, u2n, pk_un, pk_us]; exact c q' hq'
  · simp (disch := omega) only [u2r, u2s, u2n, pk_un, pk_us]; exact (d v hv).1
  · have := (d v hv).2 k hk
    unfold tstep at this ⊢
    by_cases e : v = w ∧ k = j
    · obtain ⟨rfl, rfl⟩ := e
      rw [u2s, if_pos ⟨rfl, by omega⟩]
    · simp (disch := omega) only [u2r, u2s, u2n, pk_un, pk_us]
      rw [this]
      by_cases e2 : v = w ∧ k < j
      · rw [if_pos e2, if_pos (by omega)]
      · rw [if_neg e2, if_neg (by omega)]
theorem LQ_T {T' : Nat → Nat → Int32} (h : LifeQ g s l T) (hT : ∀ w, w < nW' g → ∀ k, k < 5 → T' w k = T w k) : LifeQ g s l T' := ⟨h.1, h.2.1, h.2.2.1, fun w hw => ⟨(h.2.2.2 w hw).1, fun k hk => ((h.2.2.2 w hw).2 k hk).trans (hT w hw k hk).symm⟩⟩
theorem c_tire20 {K : Mm → Prop} {w : Nat} {ks : Int32} (hd : 2 ≤ d) (hg : HeadOk g) (hc : CityR u 5 g nm) (hw : w < nW' g) (hT : ∀ k, k < 5 → ∃ r, r ≤ 3 ∧ T w k = nI r) (hl : LifeQ g s l T) (hK : ∀ l', LifeQ g s l' (tstep T w ks (nK g)) → l' 0 = l 0 → K (lm u 20 l')) : CV X d 59 [.ref 20, .int (nI w), .int ks] (lm u 20 l) K := by
  obtain ⟨d, rfl, hd1⟩ := dpos hd
  have hKK := hg.1.2.2.2.1
  have hW := hg.1.2.2.2.2.2.2.2
  have hn := (cityN hg hc).2.1
  refine CV_of mk_X4_tire.2.2 rfl (B_L20_tire_0 ?_)
  refine lupR (n := nK g) (W := fun j (z : Nat → Nat → Int32) => VV X d 59 K 2 [some (.ref 20), some (.int (nI w)), some (.int ks), some (.int (nI j)), none] [] (lm u 20 z))
    (I := fun j z => LifeQ g s z (tstep T w ks j) ∧ z 0 = l 0) ?_ l ⟨LQ_T hl (fun v hv k hk => if_neg (by omega)), rfl⟩
  rintro j l1 hj ⟨i1, i2⟩ ih
  refine B_L20_tire_2 ?_
  simp (disch := omega) only [la1, la2, lt1, lt2, nI_add, pk_mul, nI_clamp, vpn, nI_leI, nI_ltI, nI_eq, ll1, ll2, ll3, ll4, le1, le2, true_and, and_true, not_true_eq_false, not_false_eq_true, forall_const, false_implies, implies_true, if_true, if_false, ite_true, ite_false, and_self, false_and, and_false, lm_in, lm_o, lm_w, Nat.reduceSub, u2r, u2s, u2n, u2u, b01, b10, hn]
  refine ⟨fun q => ?_, fun q => ?_⟩
  · rw [show j = nK g by omega] at i1
    exact hK l1 i1 i2
  · have ih := ih (by omega)
    obtain ⟨r, hr, er⟩ := hT j (by omega)
    have e8 : l1 8 (5 * w + j) = nI r := by
      rw [(i1.2.2.2 w hw).2 j (by omega), tstep, if_neg (by omega), er]
    have step := LQ_tire hW hw (show j < 5 by omega) i1
    have s0 : ∀ x, upd2 l1 8 (5 * w + j) x 0 = l 0 := fun x => by rw [u2r (by omega)]; exact i2
    rw [er] at step
    refine c_bit (by omega) (by omega) (fun y => ?_) (fun y => ?_)
    · simp (disch := omega) only [la1, la2, lt1, lt2, nI_add, pk_mul, nI_clamp, vpn, nI_leI, nI_ltI, nI_eq, ll1, ll2, ll3, ll4, le1, le2, true_and, and_true, not_true_eq_false, not_false_eq_true, forall_const, false_implies, implies_true, if_true, if_false, ite_true, ite_false, and_self, false_and, and_false, lm_in, lm_o, lm_w, Nat.reduceSub, u2r, u2s, u2n, u2u, b01, b10, e8]
      refine ⟨by omega, by omega, ih _ ⟨?_, s0 _⟩⟩
      rw [y, tval, if_pos rfl] at step
      simp (disch := omega) only [la1, la2, lt1, lt2, nI_add, pk_mul, nI_clamp, vpn, nI_leI, nI_ltI, nI_eq, ll1, ll2, ll3, ll4, le1, le2, true_and, and_true, not_true_eq_false, not_false_eq_true, forall_const, false_implies, implies_true, if_true, if_false, ite_true, ite_false, and_self, false_and, and_false] at step
      exact step
    · simp (disch := omega) only [la1, la2, lt1, lt2, nI_add, pk_mul, nI_clamp, vpn, nI_leI, nI_ltI, nI_eq, ll1, ll2, ll3, ll4, le1, le2, true_and, and_true, not_true_eq_false, not_false_eq_true, forall_const, false_implies, implies_true, if_true, if_false, ite_true, ite_false, and_self, false_and, and_false, lm_in, lm_o, lm_w, Nat.reduceSub, u2r, u2s, u2n, u2u, b01, b10, e8]
      refine ⟨by omega, by omega, ih _ ⟨?_, s0 _⟩⟩
      rw [y, ← tval_c r hr] at step
      exact step
theorem c_close20 {K : Mm → Prop} {a : Nat} (hd : 2 ≤ d) (hg : HeadOk g) (hc : CityR u 5 g nm) (hs : Stt g s) (ha : a < nA g) (he : tb (s 201) a = false) (hl : LifeQ g s l T) (hK : ∀ l', LifeQ g (eve1 s (l 0 14) a) l' T → l' 0 13 = l 0 13 → l' 0 14 = l 0 14 → K (lm u 20 l')) : CV X d 60 [.ref 20, .int (nI a)] (lm u 20 l) K := by
  obtain ⟨d, rfl, hd1⟩ := dpos hd
  obtain ⟨-, -, -, -, hA, hKK, hW, hQ⟩ := hdA hg hs
  refine CV_of mk_X4_closeEvening.2.2 rfl (B_L20_closeEvening_0 ?_)
  obtain ⟨b1, b2, b3, b4, b5⟩ := hl.2.1 a ha
  obtain ⟨-, p⟩ := hs.2.2.2.2.1 a ha
  rcases p with ⟨z, -⟩ | ⟨-, q', hq', e⟩
  · exact absurd (he.symm.trans z) (by decide)
  · have hr : u.1 8 q' = s (6 + q') := (hc.2.1 q' hq').1.trans (hs.1 _ (by omega) (by omega)).symm
    simp (disch := omega) only [la1, la2, lt1, lt2, nI_add, pk_mul, nI_clamp, vpn, nI_leI, nI_ltI, nI_eq, ll1, ll2, ll3, ll4, le1, le2, true_and, and_true, not_true_eq_false, not_false_eq_true, forall_const, false_implies, implies_true, if_true, if_false, ite_true, ite_false, and_self, false_and, and_false, lm_in, lm_o, lm_w, Nat.reduceSub, u2r, u2s, u2n, u2u, b01, b10, b2, e]
    refine ⟨by omega, fun _ => ?_, fun z => absurd z (nI_m1 (by omega))⟩
    simp (disch := omega) only [la1, la2, lt1, lt2, nI_add, pk_mul, nI_clamp, vpn, nI_leI, nI_ltI, nI_eq, ll1, ll2, ll3, ll4, le1, le2, true_and, and_true, not_true_eq_false, not_false_eq_true, forall_const, false_implies, implies_true, if_true, if_false, ite_true, ite_false, and_self, false_and, and_false, lm_in, lm_o, lm_w, Nat.reduceSub, u2r, u2s, u2n, u2u, b01, b10, b4, b3, hr]
    refine ⟨by omega, by omega, by omega, by omega, by omega, by omega, by omega, by omega, by omega, ?_⟩
    rw [eve1, he, if_neg (show ¬ (false = true) by decide), eve0, pays, e, nI_clamp (by omega)] at hK
    rw [hl.1.2.1]
    refine c_bit (by omega) (by omega) (fun y => ?_) (fun y => ?_)
    · rw [y, if_pos rfl] at hK
      simp (disch := omega) only [la1, la2, lt1, lt2, nI_add, pk_mul, nI_clamp, vpn, nI_leI, nI_ltI, nI_eq, ll1, ll2, ll3, ll4, le1, le2, true_and, and_true, not_true_eq_false, not_false_eq_true, forall_const, false_implies, implies_true, if_true, if_false, ite_true, ite_false, and_self, false_and, and_false, lm_in, lm_o, lm_w, Nat.reduceSub, u2r, u2s, u2n, u2u, b01, b10]
      exact hK _ (LQ_eve0 hA hW ha hl) (by simp (disch := omega) only [u2r, u2s, u2n, pk_un, pk_us]) (by simp (disch := omega) only [u2r, u2s, u2n, pk_un, pk_us])
    · rw [y, if_neg (show ¬ (false = true) by decide)] at hK
      simp (disch := omega) only [la1, la2, lt1, lt2, nI_add, pk_mul, nI_clamp, vpn, nI_leI, nI_ltI, nI_eq, ll1, ll2, ll3, ll4, le1, le2, true_and, and_true, not_true_eq_false, not_false_eq_true, forall_const, false_implies, implies_true, if_true, if_false, ite_true, ite_false, and_self, false_and, and_false, lm_in, lm_o, lm_w, Nat.reduceSub, u2r, u2s, u2n, u2u, b01, b10]
      rw [hl.1.2.2.1]
      simp (disch := omega) only [pk_un] at hK
      exact hK _ (LQ_eve hA hW ha hl) (by simp (disch := omega) only [u2r, u2s, u2n, pk_un, pk_us]) (by simp (disch := omega) only [u2r, u2s, u2n, pk_un, pk_us])
theorem c_tire35 {K : Mm → Prop} {w : Nat} {ks : Int32} (hd : 2 ≤ d) (hg : HeadOk g) (hc : CityR u 5 g nm) (hw : w < nW' g) (hT : ∀ k, k < 5 → ∃ r, r ≤ 3 ∧ T w k = nI r) (hl : LifeQ g s l T) (hK : ∀ l', LifeQ g s l' (tstep T w ks (nK g)) → l' 0 = l 0 → K (lm u 35 l')) : CV X d 59 [.ref 35, .int (nI w), .int ks] (lm u 35 l) K := by
  obtain ⟨d, rfl, hd1⟩ := dpos hd
  have hKK := hg.1.2.2.2.1
  have hW := hg.1.2.2.2.2.2.2.2
  have hn := (cityN hg hc).2.1
  refine CV_of mk_X4_tire.2.2 rfl (B_L35_tire_0 ?_)
  refine lupR (n := nK g) (W := fun j (z : Nat → Nat → Int32) => VV X d 59 K 2 [some (.ref 35), some (.int (nI w)), some (.int ks), some (.int (nI j)), none] [] (lm u 35 z))
    (I := fun j z => LifeQ g s z (tstep T w ks j) ∧ z 0 = l 0) ?_ l ⟨LQ_T hl (fun v hv k hk => if_neg (by omega)), rfl⟩
  rintro j l1 hj ⟨i1, i2⟩ ih
  refine B_L35_tire_2 ?_
  simp (disch := omega) only [la1, la2, lt1, lt2, nI_add, pk_mul, nI_clamp, vpn, nI_leI, nI_ltI, nI_eq, ll1, ll2, ll3, ll4, le1, le2, true_and, and_true, not_true_eq_false, not_false_eq_true, forall_const, false_implies, implies_true, if_true, if_false, ite_true, ite_false, and_self, false_and, and_false, lm_in, lm_o, lm_w, Nat.reduceSub, u2r, u2s, u2n, u2u, b01, b10, hn]
  refine ⟨fun q => ?_, fun q => ?_⟩
  · rw [show j = nK g by omega] at i1
    exact hK l1 i1 i2
  · have ih := ih (by omega)
    obtain ⟨r, hr, er⟩ := hT j (by omega)
    have e8 : l1 8 (5 * w + j) = nI r := by
      rw [(i1.2.2.2 w hw).2 j (by omega), tstep, if_neg (by omega), er]
    have step := LQ_tire hW hw (show j < 5 by omega) i1
    have s0 : ∀ x, upd2 l1 8 (5 * w + j) x 0 = l 0 := fun x => by rw [u2r (by omega)]; exact i2
    rw [er] at step
    refine c_bit (by omega) (by omega) (fun y => ?_) (fun y => ?_)
    · simp (disch := omega) only [la1, la2, lt1, lt2, nI_add, pk_mul, nI_clamp, vpn, nI_leI, nI_ltI, nI_eq, ll1, ll2, ll3, ll4, le1, le2, true_and, and_true, not_true_eq_false, not_false_eq_true, forall_const, false_implies, implies_true, if_true, if_false, ite_true, ite_false, and_self, false_and, and_false, lm_in, lm_o, lm_w, Nat.reduceSub, u2r, u2s, u2n, u2u, b01, b10, e8]
      refine ⟨by omega, by omega, ih _ ⟨?_, s0 _⟩⟩
      rw [y, tval, if_pos rfl] at step
      simp (disch := omega) only [la1, la2, lt1, lt2, nI_add, pk_mul, nI_clamp, vpn, nI_leI, nI_ltI, nI_eq, ll1, ll2, ll3, ll4, le1, le2, true_and, and_true, not_true_eq_false, not_false_eq_true, forall_const, false_implies, implies_true, if_true, if_false, ite_true, ite_false, and_self, false_and, and_false] at step
      exact step
    · simp (disch := omega) only [la1, la2, lt1, lt2, nI_add, pk_mul, nI_clamp, vpn, nI_leI, nI_ltI, nI_eq, ll1, ll2, ll3, ll4, le1, le2, true_and, and_true, not_true_eq_false, not_false_eq_true, forall_const, false_implies, implies_true, if_true, if_false, ite_true, ite_false, and_self, false_and, and_false, lm_in, lm_o, lm_w, Nat.reduceSub, u2r, u2s, u2n, u2u, b01, b10, e8]
      refine ⟨by omega, by omega, ih _ ⟨?_, s0 _⟩⟩
      rw [y, ← tval_c r hr] at step
      exact step
theorem c_close35 {K : Mm → Prop} {a : Nat} (hd : 2 ≤ d) (hg : HeadOk g) (hc : CityR u 5 g nm) (hs : Stt g s) (ha : a < nA g) (he : tb (s 201) a = false) (hl : LifeQ g s l T) (hK : ∀ l', LifeQ g (eve1 s (l 0 14) a) l' T → l' 0 13 = l 0 13 → l' 0 14 = l 0 14 → K (lm u 35 l')) : CV X d 60 [.ref 35, .int (nI a)] (lm u 35 l) K := by
  obtain ⟨d, rfl, hd1⟩ := dpos hd
  obtain ⟨-, -, -, -, hA, hKK, hW, hQ⟩ := hdA hg hs
  refine CV_of mk_X4_closeEvening.2.2 rfl (B_L35_closeEvening_0 ?_)
  obtain ⟨b1, b2, b3, b4, b5⟩ := hl.2.1 a ha
  obtain ⟨-, p⟩ := hs.2.2.2.2.1 a ha
  rcases p with ⟨z, -⟩ | ⟨-, q', hq', e⟩
  · exact absurd (he.symm.trans z) (by decide)
  · have hr : u.1 8 q' = s (6 + q') := (hc.2.1 q' hq').1.trans (hs.1 _ (by omega) (by omega)).symm
    simp (disch := omega) only [la1, la2, lt1, lt2, nI_add, pk_mul, nI_clamp, vpn, nI_leI, nI_ltI, nI_eq, ll1, ll2, ll3, ll4, le1, le2, true_and, and_true, not_true_eq_false, not_false_eq_true, forall_const, false_implies, implies_true, if_true, if_false, ite_true, ite_false, and_self, false_and, and_false, lm_in, lm_o, lm_w, Nat.reduceSub, u2r, u2s, u2n, u2u, b01, b10, b2, e]
    refine ⟨by omega, fun _ => ?_, fun z => absurd z (nI_m1 (by omega))⟩
    simp (disch := omega) only [la1, la2, lt1, lt2, nI_add, pk_mul, nI_clamp, vpn, nI_leI, nI_ltI, nI_eq, ll1, ll2, ll3, ll4, le1, le2, true_and, and_true, not_true_eq_false, not_false_eq_true, forall_const, false_implies, implies_true, if_true, if_false, ite_true, ite_false, and_self, false_and, and_false, lm_in, lm_o, lm_w, Nat.reduceSub, u2r, u2s, u2n, u2u, b01, b10, b4, b3, hr]
    refine ⟨by omega, by omega, by omega, by omega, by omega, by omega, by omega, by omega, by omega, ?_⟩
    rw [eve1, he, if_neg (show ¬ (false = true) by decide), eve0, pays, e, nI_clamp (by omega)] at hK
    rw [hl.1.2.1]
    refine c_bit (by omega) (by omega) (fun y => ?_) (fun y => ?_)
    · rw [y, if_pos rfl] at hK
      simp (disch := omega) only [la1, la2, lt1, lt2, nI_add, pk_mul, nI_clamp, vpn, nI_leI, nI_ltI, nI_eq, ll1, ll2, ll3, ll4, le1, le2, true_and, and_true, not_true_eq_false, not_false_eq_true, forall_const, false_implies, implies_true, if_true, if_false, ite_true, ite_false, and_self, false_and, and_false, lm_in, lm_o, lm_w, Nat.reduceSub, u2r, u2s, u2n, u2u, b01, b10]
      exact hK _ (LQ_eve0 hA hW ha hl) (by simp (disch := omega) only [u2r, u2s, u2n, pk_un, pk_us]) (by simp (disch := omega) only [u2r, u2s, u2n, pk_un, pk_us])
    · rw [y, if_neg (show ¬ (false = true) by decide)] at hK
      simp (disch := omega) only [la1, la2, lt1, lt2, nI_add, pk_mul, nI_clamp, vpn, nI_leI, nI_ltI, nI_eq, ll1, ll2, ll3, ll4, le1, le2, true_and, and_true, not_true_eq_false, not_false_eq_true, forall_const, false_implies, implies_true, if_true, if_false, ite_true, ite_false, and_self, false_and, and_false, lm_in, lm_o, lm_w, Nat.reduceSub, u2r, u2s, u2n, u2u, b01, b10]
      rw [hl.1.2.2.1]
      simp (disch := omega) only [pk_un] at hK
      exact hK _ (LQ_eve hA hW ha hl) (by simp (disch := omega) only [u2r, u2s, u2n, pk_un, pk_us]) (by simp (disch := omega) only [u2r, u2s, u2n, pk_un, pk_us])
end CDay3
