section Pairs4
variable {X : Xc} {d : Nat} {u : Mm}
theorem p_likes {p1 p2 p3 : Int32} (hd : 3 ≤ d) (h : Rl u) : PairI X d 132 237 [.int p1, .int p2, .int p3] u := by
  intro K hK
  obtain ⟨d, rfl, hd1⟩ := dpos hd
  have hk : ∀ w, K w w (mI u 234 0 0) := fun w => hK w _ h.th
  obtain ⟨ho, hc, hlo, hl, -, -⟩ := h.2.2.2.1
  obtain ⟨⟨q1, q2, k1, k2, a1, a2, w1, w2⟩, hoq, how⟩ := ho
  obtain ⟨⟨c0, c1, c2, c3, -, -⟩, cq, -, -, cw⟩ := hc
  have m : ∀ w, (∀ j k, j < nW' (u.1 236) → k < nK (u.1 236) → p1 = nI j → p2 = nI k → (p3 = 0 → w = u.1 236 (86 + 5 * j + k)) ∧ (p3 = 1 → w = u.1 236 (250 + 5 * j + k)) ∧ (p3 = 2 → w = u.1 236 (86 + 5 * j + k) >>> (u.1 236 (250 + 5 * j + k) &&& 31)) ∧ ((p3 < 0 ∨ 2 < p3) → w = -1)) → ((p1 < 0 ∨ nI (nW' (u.1 236)) ≤ p1) ∨ (p2 < 0 ∨ nI (nK (u.1 236)) ≤ p2) → w = -1) → CI X (d + 1) 237 [.ref 234, .int p1, .int p2, .int p3] u (fun w2 u2 => K w w2 u2) := by
    intro w b1 b2
    refine CI_of mk_X13_likes.2.2 rfl (B_M_likes_0 (c_misWalker hd1 ((mT u 0 4 (by decide)).trans w1) (by omega) (fun j hj r => ?_) (fun r => ⟨fun _ => by rw [← b2 (Or.inl r)]; exact hk w, fun z => absurd rfl z⟩)))
    subst r
    refine ⟨fun z => absurd z (by decide), fun _ => c_misKind hd1 ((mT u 0 2 (by decide)).trans k1) (by omega) (fun k hk2 r => ?_) (fun r => ⟨fun _ => by rw [← b2 (Or.inr r)]; exact hk w, fun z => absurd rfl z⟩)⟩
    subst r
    obtain ⟨b3, b4, b5, b6⟩ := b1 j k hj hk2 rfl rfl
    have e1 : (86 : Int32) + (5 : Int32) * nI j + nI k = nI (86 + 5 * j + k) := by
      rw [show (5 : Int32) * nI j = nI (5 * j) from pk_mul 5 j, show (86 : Int32) + nI (5 * j) = nI (86 + 5 * j) from nI_add 86 _, nI_add]
    have e2 : (250 : Int32) + (5 : Int32) * nI j + nI k = nI (250 + 5 * j + k) := by
      rw [show (5 : Int32) * nI j = nI (5 * j) from pk_mul 5 j, show (250 : Int32) + nI (5 * j) = nI (250 + 5 * j) from nI_add 250 _, nI_add]
    refine ⟨fun z => absurd z (by decide), fun _ => c_misIn (by omega) (fun r1 r2 => ⟨fun _ => ⟨fun r3 => ⟨fun r4 => ?_, fun r4 => ?_⟩, fun r3 => ?_⟩, fun z => absurd z (by decide)⟩) (fun r => ⟨fun z => absurd rfl z, fun _ => by rw [← b6 r]; exact hk w⟩)⟩
    · have r5 : p3 = 2 := by
        obtain ⟨i, hi, rfl⟩ := nI_of2 (M := 2) (n := 2) rfl r1 (Int32.not_lt.mp r2)
        rcases (show i = 0 ∨ i = 1 ∨ i = 2 by omega) with rfl | rfl | rfl
        · exact absurd rfl r3
        · exact absurd rfl r4
        · rfl
      refine c_mchance (by omega) (by omega) (by omega) ?_
      rw [mT u 0 _ (by decide), mT u 0 _ (by decide), ← b5 r5]
      exact hk w
    · rw [e2, nI_clamp (by omega), mT u 0 _ (by decide), ← b4 r4]
      exact ⟨vp_in_nI (by omega) (by decide), hk w⟩
    · rw [e1, nI_clamp (by omega), mT u 0 _ (by decide), ← b3 r3]
      exact ⟨vp_in_nI (by omega) (by decide), hk w⟩
  have t0 : (0 : Int32).toInt = 0 := rfl
  have t1 : (1 : Int32).toInt = 1 := rfl
  have t2 : (2 : Int32).toInt = 2 := rfl
  refine CI_of mk_X12_likes.2.2 rfl (B_S_likes_0 (c_has5 (s := 3) (by omega) rfl (by omega) (c3.trans w1) (by omega) (fun j hj r => ?_) (fun r => ⟨fun _ => m _ (fun j k hj _ e _ => by subst e; exact absurd r (fun z => z.elim (nI_pos (by omega)) (nI_ge hj (by omega)))) (fun _ => rfl), fun z => absurd rfl z⟩)))
  subst r
  refine ⟨fun z => absurd z (by decide), fun _ => c_has5 (s := 1) (by omega) rfl (by omega) (c1.trans k1) (by omega) (fun k hk2 r => ?_) (fun r => ⟨fun z => absurd rfl z, fun _ => m _ (fun i k hi hk e e2 => by subst e2; exact absurd r (fun z => z.elim (nI_pos (by omega)) (nI_ge hk (by omega)))) (fun _ => rfl)⟩)⟩
  subst r
  have hout1 : ¬ (nI j < 0 ∨ nI (nW' (u.1 236)) ≤ nI j) := fun z => z.elim (nI_pos (by omega)) (nI_ge hj (by omega))
  have hout2 : ¬ (nI k < 0 ∨ nI (nK (u.1 236)) ≤ nI k) := fun z => z.elim (nI_pos (by omega)) (nI_ge hk2 (by omega))
  have fin : ∀ w, ((p3 = 0 → w = u.1 236 (86 + 5 * j + k)) ∧ (p3 = 1 → w = u.1 236 (250 + 5 * j + k)) ∧ (p3 = 2 → w = u.1 236 (86 + 5 * j + k) >>> (u.1 236 (250 + 5 * j + k) &&& 31)) ∧ ((p3 < 0 ∨ 2 < p3) → w = -1)) → CI X (d + 1) 237 [.ref 234, .int (nI j), .int (nI k), .int p3] u (fun w2 u2 => K w w2 u2) := fun w hw => m w (fun i l hi hl' e e2 => by
    rw [← (nI_eq (by omega) (by omega)).mp e, ← (nI_eq (by omega) (by omega)).mp e2]; exact hw) (fun z => absurd z (fun y => y.elim hout1 hout2))
  have ei : nI j * (5 : Int32) + nI k = nI (5 * j + k) := by
    rw [show nI j * (5 : Int32) = nI (j * 5) from pk_mul j 5, nI_add, Nat.mul_comm]
  have eL := (cw j hj).2.2.2.2.2.1 k (by omega)
  have eT := (hl.2.2.2 j hj).2 k (by omega)
  refine ⟨fun _ => ⟨⟨fun r => ?_, fun r => ?_, fun r => ?_⟩, fun r => ?_⟩, fun z => absurd z (by decide)⟩
  · subst r
    rw [ei, nI_clamp (by omega)]
    exact ⟨vp_in_nI (by omega) (by decide), fin _ ⟨fun _ => eL, fun z => absurd z (by decide), fun z => absurd z (by decide), fun z => absurd z (by decide)⟩⟩
  · subst r
    rw [ei, nI_clamp (by omega)]
    exact ⟨vp_in_nI (by omega) (by decide), fin _ ⟨fun z => absurd z (by decide), fun _ => eT, fun z => absurd z (by decide), fun z => absurd z (by decide)⟩⟩
  · subst r
    refine c_chance20 (by omega) (by omega) (by omega) (fin _ ⟨fun z => absurd z (by decide), fun z => absurd z (by decide), fun _ => ?_, fun z => absurd z (by decide)⟩)
    rw [show u.1 15 (5 * j + k) = _ from eL, show u.1 28 (5 * j + k) = _ from eT]
  · exact fin _ ⟨fun z => by subst z; rw [t0] at r; omega, fun z => by subst z; rw [t1] at r; omega, fun z => by subst z; rw [t2] at r; omega, fun _ => rfl⟩
theorem p_now {p : Int32} (hd : 3 ≤ d) (h : Rl u) : PairI X d 133 239 [.int p] u := by
  intro K hK
  obtain ⟨d, rfl, hd1⟩ := dpos hd
  have hk : ∀ w, K w w (mI u 234 0 0) := fun w => hK w _ h.th
  obtain ⟨ho, hc, hlo, hl, -, -⟩ := h.2.2.2.1
  obtain ⟨⟨q1, q2, k1, k2, a1, a2, w1, w2⟩, hoq, how⟩ := ho
  obtain ⟨⟨c0, c1, c2, c3, -, -⟩, cq, -, -, cw⟩ := hc
  obtain ⟨⟨l1, l2, l3, l4⟩, la, -, -⟩ := hl
  have t0 : (0 : Int32).toInt = 0 := rfl
  have t1 : (1 : Int32).toInt = 1 := rfl
  have t2 : (2 : Int32).toInt = 2 := rfl
  have t3 : (3 : Int32).toInt = 3 := rfl
  have t4 : (4 : Int32).toInt = 4 := rfl
  have t5 : (5 : Int32).toInt = 5 := rfl
  have t6 : (6 : Int32).toInt = 6 := rfl
  have m : ∀ w, (p = 0 → w = u.1 236 198) → (p = 1 → w = u.1 236 201) → (p = 2 → w = sm (fun a => u.1 236 (218 + a)) (nA (u.1 236))) → (p = 3 → w = sm (fun a => u.1 236 (226 + a)) (nA (u.1 236))) → (p = 4 → w = u.1 236 199) → (p = 5 → w = sm (fun a => u.1 236 (234 + a)) (nA (u.1 236))) → (p = 6 → w = u.1 236 200) → ((p.toInt < 0 ∨ 6 < p.toInt) → w = -1) → CI X (d + 1) 239 [.ref 234, .int p] u (fun w2 u2 => K w w2 u2) := by
    intro w b0 b1 b2 b3 b4 b5 b6 b7
    refine CI_of mk_X13_now.2.2 rfl (B_M_now_0 ?_)
    refine ⟨⟨fun q => b0 q ▸ hk w, fun q => b1 q ▸ hk w, fun q => ?_, fun q => ?_, fun q => b4 q ▸ hk w, fun q => ?_, fun q => b6 q ▸ hk w⟩, fun q => b7 q ▸ hk w⟩
    · exact c_msum (r := 218) (by omega) rfl a1 a2 (by omega) (b2 q ▸ hk w)
    · exact c_msum (r := 226) (by omega) rfl a1 a2 (by omega) (b3 q ▸ hk w)
    · exact c_msum (r := 234) (by omega) rfl a1 a2 (by omega) (b5 q ▸ hk w)
  refine CI_of mk_X12_now.2.2 rfl (B_S_now_0 ⟨⟨fun q => ?_, fun q => ?_, fun q => ?_, fun q => ?_, fun q => ?_, fun q => ?_, fun q => ?_⟩, fun q => ?_⟩)
  all_goals first | subst q | skip
  · exact m _ (fun _ => l1) (fun r => absurd r (by decide)) (fun r => absurd r (by decide)) (fun r => absurd r (by decide)) (fun r => absurd r (by decide)) (fun r => absurd r (by decide)) (fun r => absurd r (by decide)) (fun r => by rw [t0] at r; omega)
  · exact m _ (fun r => absurd r (by decide)) (fun _ => l4) (fun r => absurd r (by decide)) (fun r => absurd r (by decide)) (fun r => absurd r (by decide)) (fun r => absurd r (by decide)) (fun r => absurd r (by decide)) (fun r => by rw [t1] at r; omega)
  · exact c_allOf24 hd1 (c2.trans a1) a2 (m _ (fun r => absurd r (by decide)) (fun r => absurd r (by decide)) (fun _ => sm_congr fun a ha => (la a ha).2.2.1) (fun r => absurd r (by decide)) (fun r => absurd r (by decide)) (fun r => absurd r (by decide)) (fun r => absurd r (by decide)) (fun r => by rw [t2] at r; omega))
  · exact c_allOf25 hd1 (c2.trans a1) a2 (m _ (fun r => absurd r (by decide)) (fun r => absurd r (by decide)) (fun r => absurd r (by decide)) (fun _ => sm_congr fun a ha => (la a ha).2.2.2.1) (fun r => absurd r (by decide)) (fun r => absurd r (by decide)) (fun r => absurd r (by decide)) (fun r => by rw [t3] at r; omega))
  · exact m _ (fun r => absurd r (by decide)) (fun r => absurd r (by decide)) (fun r => absurd r (by decide)) (fun r => absurd r (by decide)) (fun _ => l2) (fun r => absurd r (by decide)) (fun r => absurd r (by decide)) (fun r => by rw [t4] at r; omega)
  · exact c_allOf26 hd1 (c2.trans a1) a2 (m _ (fun r => absurd r (by decide)) (fun r => absurd r (by decide)) (fun r => absurd r (by decide)) (fun r => absurd r (by decide)) (fun r => absurd r (by decide)) (fun _ => sm_congr fun a ha => (la a ha).2.2.2.2) (fun r => absurd r (by decide)) (fun r => by rw [t5] at r; omega))
  · exact m _ (fun r => absurd r (by decide)) (fun r => absurd r (by decide)) (fun r => absurd r (by decide)) (fun r => absurd r (by decide)) (fun r => absurd r (by decide)) (fun r => absurd r (by decide)) (fun _ => l3) (fun r => by rw [t6] at r; omega)
  · refine m _ (fun r => ?_) (fun r => ?_) (fun r => ?_) (fun r => ?_) (fun r => ?_) (fun r => ?_) (fun r => ?_) (fun _ => rfl) <;> (subst r; simp only [t0, t1, t2, t3, t4, t5, t6] at q; omega)
end Pairs4
/-! feed -/
def byt (p s : Int32) : Int32 := (p.toUInt32 >>> (s.toUInt32 &&& Int32.toUInt32 31)).toInt32 &&& 255
def wr4 (f : Nat → Int32) (n : Nat) (p : Int32) : Nat → Int32 := upd (upd (upd (upd f n (byt p 24)) (n + 1) (byt p 16)) (n + 2) (byt p 8)) (n + 3) (byt p 0)
section Feed
variable {X : Xc} {d : Nat} {u : Mm} {K : Mm → Prop}
theorem c_put {p : Int32} {n : Nat} (hd : 1 ≤ d) (e : u.1 1 1 = nI n) (hn : n + 4 ≤ 940) (h : ∀ v : Mm, v.1 1 1 = nI (n + 4) → v.1 2 = wr4 (u.1 2) n p → (∀ a j, a ≠ 2 → ¬ (a = 1 ∧ j = 1) → v.1 a j = u.1 a j) → v.2 = u.2 → K v) : CV X d 102 [.ref 1, .int p] u K := by
  obtain ⟨d, rfl, hd1⟩ := dpos hd
  have step : ∀ (v : Mm) (s : Int32) (k : Nat), v.1 1 1 = nI k → k < 940 → ¬ s < 0 → VV X d 102 K 3 [some (.ref 1), some (.int p), some (.int (s + (-8)))] [] (mI (mI v 2 k (byt p s)) 1 1 (nI (k + 1))) → VV X d 102 K 3 [some (.ref 1), some (.int p), some (.int s)] [] v := by
    intro v s k e1 hk hs hv
    refine B_T_put_3 ⟨fun q => absurd q hs, fun _ => ⟨fun q => ?_, fun _ => ?_⟩⟩
    · rw [e1] at q
      exact absurd q (nI_ge (a := k) (b := 940) hk (by omega))
    · have e2 : (mI v 2 k (byt p s)).1 1 1 = nI k := e1
      rw [e1, nI_clamp (by omega)]
      refine ⟨vp_in_nI hk (by decide), ?_⟩
      change VV X d 102 K 3 _ [] (mI (mI v 2 k (byt p s)) 1 1 ((mI v 2 k (byt p s)).1 1 1 + 1))
      rw [e2, nI_1]
      exact hv
  refine CV_of mk_X10_put.2.2 rfl (B_T_put_0 (step u 24 n e (by omega) (by decide) ?_))
  refine step _ (24 + (-8)) (n + 1) rfl (by omega) (by decide) (step _ (24 + (-8) + (-8)) (n + 2) rfl (by omega) (by decide) (step _ (24 + (-8) + (-8) + (-8)) (n + 3) rfl (by omega) (by decide) ?_))
  refine B_T_put_3 ⟨fun _ => h _ rfl ?_ ?_ rfl, fun q => absurd (by decide) q⟩
  · funext i
    simp only [wr4, upd, mI_at]
    by_cases e0 : i = n + 3
    · simp [e0, show (24 + (-8) + (-8) + (-8) : Int32) = 0 by decide]
    · by_cases e1 : i = n + 2
      · simp [e1, show (24 + (-8) + (-8) : Int32) = 8 by decide]
      · by_cases e2 : i = n + 1
        · simp [e2, show (24 + (-8) : Int32) = 16 by decide]
        · by_cases e3 : i = n
          · simp [e3]
          · simp [e0, e1, e2, e3]
  · intro a j ha hj
    simp only [mI_at]
    simp [ha, hj]
theorem c_come {p : Int32} {n : Nat} (hd : 1 ≤ d) (e : u.1 234 2 = nI n) (hn : n + 4 ≤ 940) (h : ∀ v : Mm, v.1 234 2 = nI (n + 4) → v.1 235 = wr4 (u.1 235) n p → (∀ a j, a ≠ 235 → ¬ (a = 234 ∧ j = 2) → v.1 a j = u.1 a j) → v.2 = u.2 → K v) : CV X d 183 [.ref 234, .int p] u K := by
  obtain ⟨d, rfl, hd1⟩ := dpos hd
  have step : ∀ (v : Mm) (s : Int32) (k : Nat), v.1 234 2 = nI k → k < 940 → ¬ s < 0 → VV X d 183 K 3 [some (.ref 234), some (.int p), some (.int (s + (-8)))] [] (mI (mI v 235 k (byt p s)) 234 2 (nI (k + 1))) → VV X d 183 K 3 [some (.ref 234), some (.int p), some (.int s)] [] v := by
    intro v s k e1 hk hs hv
    refine B_M_come_3 ⟨fun q => absurd q hs, fun _ => ?_⟩
    have e2 : (mI v 235 k (byt p s)).1 234 2 = nI k := e1
    rw [e1, nI_clamp (by omega)]
    refine ⟨vp_in_nI hk (by decide), ?_⟩
    change VV X d 183 K 3 _ [] (mI (mI v 235 k (byt p s)) 234 2 ((mI v 235 k (byt p s)).1 234 2 + 1))
    rw [e2, nI_1]
    exact hv
  refine CV_of mk_X13_come.2.2 rfl (B_M_come_0 (step u 24 n e (by omega) (by decide) ?_))
  refine step _ (24 + (-8)) (n + 1) rfl (by omega) (by decide) (step _ (24 + (-8) + (-8)) (n + 2) rfl (by omega) (by decide) (step _ (24 + (-8) + (-8) + (-8)) (n + 3) rfl (by omega) (by decide) ?_))
  refine B_M_come_3 ⟨fun _ => h _ rfl ?_ ?_ rfl, fun q => absurd (by decide) q⟩
  · funext i
    simp only [wr4, upd, mI_at]
    by_cases e0 : i = n + 3
    · simp [e0, show (24 + (-8) + (-8) + (-8) : Int32) = 0 by decide]
    · by_cases e1 : i = n + 2
      · simp [e1, show (24 + (-8) + (-8) : Int32) = 8 by decide]
      · by_cases e2 : i = n + 1
        · simp [e2, show (24 + (-8) : Int32) = 16 by decide]
        · by_cases e3 : i = n
          · simp [e3]
          · simp [e0, e1, e2, e3]
  · intro a j ha hj
    simp only [mI_at]
    simp [ha, hj]
end Feed
