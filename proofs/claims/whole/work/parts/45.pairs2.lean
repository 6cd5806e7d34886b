section Pairs3
variable {X : Xc} {d : Nat} {u : Mm}
theorem mT (u : Mm) (x : Int32) {a : Nat} (j : Nat) (h : a ≠ 234) : (mI u 234 0 x).1 a j = u.1 a j := by rw [mI_at, if_neg (fun q => h q.1)]
theorem mTf (u : Mm) (x : Int32) {a : Nat} (h : a ≠ 234) : (mI u 234 0 x).1 a = u.1 a := funext fun j => mT u x j h
theorem p_square {p1 p2 : Int32} (hd : 3 ≤ d) (h : Rl u) : PairI X d 128 233 [.int p1, .int p2] u := by
  intro K hK
  obtain ⟨d, rfl, hd1⟩ := dpos hd
  have hk : ∀ w, K w w (mI u 234 0 0) := fun w => hK w _ h.th
  obtain ⟨ho, hc, hlo, hl, -, -⟩ := h.2.2.2.1
  obtain ⟨⟨q1, q2, -, -, a1, a2, w1, w2⟩, hoq, how⟩ := ho
  obtain ⟨⟨c0, c1, c2, c3, -, -⟩, cq, -, -, cw⟩ := hc
  have m : ∀ w, (p1 < 0 ∨ nI (nQ (u.1 236)) ≤ p1 → w = -1) → (∀ j, j < nQ (u.1 236) → p1 = nI j → (p2 = 0 → w = u.1 236 (6 + j)) ∧ (p2 = 1 → w = stAt (u.1 236) (u.1 236) (nI j)) ∧ (p2 = 2 → w = u.1 236 (14 + j)) ∧ (p2 = 3 → w = bset (fun w => cm (u.1 236) w (nI j)) (nW' (u.1 236))) ∧ ((p2.toInt < 0 ∨ 3 < p2.toInt) → w = -1)) → CI X (d + 1) 233 [.ref 234, .int p1, .int p2] u (fun w2 u2 => K w w2 u2) := by
    intro w b1 b2
    refine CI_of mk_X13_square.2.2 rfl (B_M_square_0 (c_misSquare hd1 ((mT u 0 0 (by decide)).trans q1) (by omega) (fun j hj r => ?_) (fun r => ?_)))
    · subst r
      obtain ⟨d0, d1, d2, d3, d4⟩ := b2 j hj rfl
      refine ⟨fun _ => ⟨⟨fun r => ?_, fun r => ?_, fun r => ?_, fun r => ?_⟩, fun r => ?_⟩, fun z => absurd z (by decide)⟩
      · rw [show (6 : Int32) + nI j = nI (6 + j) from nI_add 6 j, nI_clamp (by omega), mT u 0 _ (by decide), ← d0 r]
        exact ⟨vp_in_nI (by omega) (by decide), hk w⟩
      · refine c_mstandsAt (by omega) ((mT u 0 3 (by decide)).trans a1) a2 ?_
        rw [mTf u 0 (by decide)]
        have := d1 r
        unfold stAt at this
        rw [← this]
        exact hk w
      · rw [show (14 : Int32) + nI j = nI (14 + j) from nI_add 14 j, nI_clamp (by omega), mT u 0 _ (by decide), ← d2 r]
        exact ⟨vp_in_nI (by omega) (by decide), hk w⟩
      · refine l_msquare (by omega) ((mT u 0 4 (by decide)).trans w1) w2 ?_ ?_ _ 0 (Nat.zero_add _)
        · intro i hi
          rw [mTf u 0 (by decide)]
          exact ⟨(how i hi).2.2.2.2.2.1, (how i hi).2.2.2.2.2.2.1⟩
        · rw [mTf u 0 (by decide), ← d3 r]
          exact hk w
      · rw [← d4 r]
        exact hk w
    · exact ⟨fun z => absurd rfl z, fun _ => by rw [← b1 r]; exact hk w⟩
  have t0 : (0 : Int32).toInt = 0 := rfl
  have t1 : (1 : Int32).toInt = 1 := rfl
  have t2 : (2 : Int32).toInt = 2 := rfl
  have t3 : (3 : Int32).toInt = 3 := rfl
  refine CI_of mk_X12_square.2.2 rfl (B_S_square_0 (c_has5 (s := 0) (by omega) rfl (by omega) (c0.trans q1) (by omega) (fun j hj r => ?_) (fun r => ?_)))
  · subst r
    have hout : ¬ (nI j < 0 ∨ nI (nQ (u.1 236)) ≤ nI j) := fun z => z.elim (nI_pos (by omega)) (nI_ge hj (by omega))
    have fin : ∀ w, ((p2 = 0 → w = u.1 236 (6 + j)) ∧ (p2 = 1 → w = stAt (u.1 236) (u.1 236) (nI j)) ∧ (p2 = 2 → w = u.1 236 (14 + j)) ∧ (p2 = 3 → w = bset (fun w => cm (u.1 236) w (nI j)) (nW' (u.1 236))) ∧ ((p2.toInt < 0 ∨ 3 < p2.toInt) → w = -1)) → CI X (d + 1) 233 [.ref 234, .int (nI j), .int p2] u (fun w2 u2 => K w w2 u2) := fun w hw => m w (fun z => absurd z hout) (fun i hi e => by rw [← (nI_eq (by omega) (by omega)).mp e]; exact hw)
    refine ⟨fun _ => ⟨⟨fun r => ?_, fun r => ?_, fun r => ?_, fun r => ?_⟩, fun r => ?_⟩, fun z => absurd z (by decide)⟩
    · subst r
      rw [nI_clamp (by omega)]
      exact ⟨vp_in_nI (by omega) (by decide), fin _ ⟨fun _ => (cq j hj).1, fun z => absurd z (by decide), fun z => absurd z (by decide), fun z => absurd z (by decide), fun z => by rw [t0] at z; omega⟩⟩
    · subst r
      rw [nI_clamp (by omega)]
      exact ⟨vp_in_nI (by omega) (by decide), fin _ ⟨fun z => absurd z (by decide), fun _ => hl.2.2.1 j hj, fun z => absurd z (by decide), fun z => absurd z (by decide), fun z => by rw [t1] at z; omega⟩⟩
    · subst r
      rw [nI_clamp (by omega)]
      exact ⟨vp_in_nI (by omega) (by decide), fin _ ⟨fun z => absurd z (by decide), fun z => absurd z (by decide), fun _ => (cq j hj).2.1, fun z => absurd z (by decide), fun z => by rw [t2] at z; omega⟩⟩
    · subst r
      refine c_walkersThrough (by omega) (by omega) (c3.trans w1) w2 (fin _ ⟨fun z => absurd z (by decide), fun z => absurd z (by decide), fun z => absurd z (by decide), fun _ => ?_, fun z => by rw [t3] at z; omega⟩)
      exact bset_congr fun w hw => (cw w hw).2.2.2.2.2.2.2.1 j (by omega)
    · exact fin _ ⟨fun z => by subst z; rw [t0] at r; omega, fun z => by subst z; rw [t1] at r; omega, fun z => by subst z; rw [t2] at r; omega, fun z => by subst z; rw [t3] at r; omega, fun _ => rfl⟩
  · exact ⟨fun z => absurd rfl z, fun _ => m _ (fun _ => rfl) (fun j hj e => by subst e; exact absurd r (fun z => z.elim (nI_pos (by omega)) (nI_ge hj (by omega))))⟩
theorem p_way {p1 p2 : Int32} (hd : 3 ≤ d) (h : Rl u) : PairI X d 131 236 [.int p1, .int p2] u := by
  intro K hK
  obtain ⟨d, rfl, hd1⟩ := dpos hd
  have hk : ∀ w, K w w (mI u 234 0 0) := fun w => hK w _ h.th
  obtain ⟨ho, hc, hlo, hl, -, -⟩ := h.2.2.2.1
  obtain ⟨⟨q1, q2, -, -, a1, a2, w1, w2⟩, hoq, how⟩ := ho
  obtain ⟨⟨c0, c1, c2, c3, -, -⟩, cq, -, -, cw⟩ := hc
  have m : ∀ w, (∀ j, j < nW' (u.1 236) → p1 = nI j → ∀ i, i < nLen (u.1 236) j → p2 = nI i → w = u.1 236 (134 + 8 * j + i)) → ((p1 < 0 ∨ nI (nW' (u.1 236)) ≤ p1) ∨ (∃ j, j < nW' (u.1 236) ∧ p1 = nI j ∧ (p2 < 0 ∨ nI (nLen (u.1 236) j) ≤ p2)) → w = -1) → CI X (d + 1) 236 [.ref 234, .int p1, .int p2] u (fun w2 u2 => K w w2 u2) := by
    intro w b1 b2
    refine CI_of mk_X13_way.2.2 rfl (B_M_way_0 (c_misWalker hd1 ((mT u 0 4 (by decide)).trans w1) (by omega) (fun j hj r => ?_) (fun r => ?_)))
    · subst r
      refine ⟨fun z => absurd z (by decide), fun _ => ?_⟩
      have hL := how j hj
      rw [show (126 : Int32) + nI j = nI (126 + j) from nI_add 126 j, nI_clamp (by omega), mT u 0 _ (by decide), hL.2.2.2.2.2.1]
      refine ⟨vp_in_nI (by omega) (by decide), c_misCnt (by omega) (by have := hL.2.2.2.2.2.2.1; omega) (fun i hi r => ?_) (fun r => ?_)⟩
      · subst r
        have hn := hL.2.2.2.2.2.2.1
        have ei : (134 : Int32) + (8 : Int32) * nI j + nI i = nI (134 + 8 * j + i) := by
          rw [show (8 : Int32) * nI j = nI (8 * j) from pk_mul 8 j, show (134 : Int32) + nI (8 * j) = nI (134 + 8 * j) from nI_add 134 _, nI_add]
        refine ⟨fun z => absurd z (by decide), fun _ => ?_⟩
        rw [ei, nI_clamp (by omega), mT u 0 _ (by decide), ← b1 j hj rfl i hi rfl]
        exact ⟨vp_in_nI (by omega) (by decide), hk w⟩
      · exact ⟨fun _ => by rw [← b2 (Or.inr ⟨j, hj, rfl, r⟩)]; exact hk w, fun z => absurd rfl z⟩
    · exact ⟨fun _ => by rw [← b2 (Or.inl r)]; exact hk w, fun z => absurd rfl z⟩
  refine CI_of mk_X12_way.2.2 rfl (B_S_way_0 (c_has5 (s := 3) (by omega) rfl (by omega) (c3.trans w1) (by omega) (fun j hj r => ?_) (fun r => ?_)))
  · subst r
    have hL := how j hj
    have hn := hL.2.2.2.2.2.2.1
    have hout : ¬ (nI j < 0 ∨ nI (nW' (u.1 236)) ≤ nI j) := fun z => z.elim (nI_pos (by omega)) (nI_ge hj (by omega))
    refine ⟨fun z => absurd z (by decide), fun _ => ⟨fun r => ?_, fun r => ?_⟩⟩
    · exact m _ (fun i hi e k hk2 e2 => by subst e2; exact absurd r (nI_pos (by have := (how i hi).2.2.2.2.2.2.1; omega))) (fun _ => rfl)
    · rw [nI_clamp (by omega), (cw j hj).2.2.2.2.1, hL.2.2.2.2.2.1]
      refine ⟨vp_in_nI (by omega) (by decide), fun r2 => ?_, fun r2 => ?_⟩
      · obtain ⟨i, hi, rfl⟩ := nI_two r r2 (by omega)
        have ei : nI j * (8 : Int32) + nI i = nI (8 * j + i) := by
          rw [show nI j * (8 : Int32) = nI (j * 8) from pk_mul j 8, nI_add, Nat.mul_comm]
        rw [ei, nI_clamp (by omega)]
        refine ⟨vp_in_nI (by omega) (by decide), m _ (fun j2 hj2 e k hk2 e2 => ?_) (fun z => ?_)⟩
        · rw [← (nI_eq (by omega) (by omega)).mp e, ← (nI_eq (by omega) (by have := (how j2 hj2).2.2.2.2.2.2.1; omega)).mp e2]
          exact (cw j hj).2.2.2.2.2.2.1 i hi
        · rcases z with z | ⟨j2, hj2, e, z⟩
          · exact absurd z hout
          · have := (nI_eq (by omega) (by omega)).mp e
            subst this
            exact absurd z (fun y => y.elim r (nI_ge hi (by omega)))
      · refine m _ (fun j2 hj2 e k hk2 e2 => ?_) (fun _ => rfl)
        have := (nI_eq (by omega) (by omega)).mp e
        subst this
        subst e2
        exact absurd (nI_lt hk2 (by omega)) r2
  · exact ⟨fun _ => m _ (fun j hj e => by subst e; exact absurd r (fun z => z.elim (nI_pos (by omega)) (nI_ge hj (by omega)))) (fun _ => rfl), fun z => absurd rfl z⟩
end Pairs3
