/-! what is so stays in its bounds -/
/-- a row with the head of g, in its bounds -/
def Stt (g s : Nat → Int32) : Prop := (∀ k, k < 198 → k ≠ 5 → s k = g k) ∧ LifeOk g s
theorem hd_upd {g s : Nat → Int32} {i : Nat} {x : Int32} (h : ∀ k, k < 198 → k ≠ 5 → s k = g k) (hi : 198 ≤ i) : ∀ k, k < 198 → k ≠ 5 → upd s i x k = g k := by
  intro k h1 h2
  simp (disch := omega) only [pk_un, pk_us]
  exact h k h1 h2
section LOk
variable {g s : Nat → Int32} {x : Int32}
theorem LOk_free {i : Nat} (hA : nA g ≤ 8) (hW : nW' g ≤ 8) (hi : i = 199 ∨ 218 ≤ i ∧ i < 250) (h : LifeOk g s) : LifeOk g (upd s i x) := by
  obtain ⟨h2, h3, h4, h5, h6, h7⟩ := h
  refine ⟨?_, ?_, ?_, ?_, ?_, ?_⟩
  · simp (disch := omega) only [pk_un, pk_us]; exact h2
  · simp (disch := omega) only [pk_un, pk_us]; exact h3
  · simp (disch := omega) only [pk_un, pk_us]; exact h4
  · intro a ha; simp (disch := omega) only [pk_un, pk_us]; exact h5 a ha
  · intro a b ha hb; simp (disch := omega) only [pk_un, pk_us]; exact h6 a b ha hb
  · intro w hw k hk; simp (disch := omega) only [pk_un, pk_us]; exact h7 w hw k hk
theorem LOk_day {t : Nat} (hA : nA g ≤ 8) (ht : t ≤ 400) (h : LifeOk g s) : LifeOk g (upd s 198 (nI t)) := by
  obtain ⟨h2, h3, h4, h5, h6, h7⟩ := h
  refine ⟨⟨t, ht, pk_us⟩, ?_, ?_, ?_, ?_, ?_⟩
  · simp (disch := omega) only [pk_un, pk_us]; exact h3
  · simp (disch := omega) only [pk_un, pk_us]; exact h4
  · intro a ha; simp (disch := omega) only [pk_un, pk_us]; exact h5 a ha
  · intro a b ha hb; simp (disch := omega) only [pk_un, pk_us]; exact h6 a b ha hb
  · intro w hw k hk; simp (disch := omega) only [pk_un, pk_us]; exact h7 w hw k hk
theorem LOk_stain (hA : nA g ≤ 8) (hx : ∀ i, i < 32 → tb x i = true → i < nA g) (h : LifeOk g s) : LifeOk g (upd s 200 x) := by
  obtain ⟨h2, h3, h4, h5, h6, h7⟩ := h
  refine ⟨?_, ?_, ?_, ?_, ?_, ?_⟩
  · simp (disch := omega) only [pk_un, pk_us]; exact h2
  · rw [pk_us]; exact hx
  · simp (disch := omega) only [pk_un, pk_us]; exact h4
  · intro a ha; simp (disch := omega) only [pk_un, pk_us]; exact h5 a ha
  · intro a b ha hb; simp (disch := omega) only [pk_un, pk_us]; exact h6 a b ha hb
  · intro w hw k hk; simp (disch := omega) only [pk_un, pk_us]; exact h7 w hw k hk
theorem LOk_kind {j k : Nat} (hA : nA g ≤ 8) (hj : j < nA g) (hk : k < nK g) (h : LifeOk g s) : LifeOk g (upd s (202 + j) (nI k)) := by
  obtain ⟨h2, h3, h4, h5, h6, h7⟩ := h
  refine ⟨?_, ?_, ?_, ?_, ?_, ?_⟩
  · simp (disch := omega) only [pk_un, pk_us]; exact h2
  · simp (disch := omega) only [pk_un, pk_us]; exact h3
  · simp (disch := omega) only [pk_un, pk_us]; exact h4
  · intro a ha
    obtain ⟨q1, q2⟩ := h5 a ha
    refine ⟨?_, by simp (disch := omega) only [pk_un, pk_us]; exact q2⟩
    by_cases e : a = j
    · subst e; exact ⟨k, hk, pk_us⟩
    · simp (disch := omega) only [pk_un, pk_us]; exact q1
  · intro a b ha hb; simp (disch := omega) only [pk_un, pk_us]; exact h6 a b ha hb
  · intro w hw k hk; simp (disch := omega) only [pk_un, pk_us]; exact h7 w hw k hk
theorem LOk_tired {w k t : Nat} (hA : nA g ≤ 8) (ht : t ≤ 3) (h : LifeOk g s) : LifeOk g (upd s (250 + 5 * w + k) (nI t)) := by
  obtain ⟨h2, h3, h4, h5, h6, h7⟩ := h
  refine ⟨?_, ?_, ?_, ?_, ?_, ?_⟩
  · simp (disch := omega) only [pk_un, pk_us]; exact h2
  · simp (disch := omega) only [pk_un, pk_us]; exact h3
  · simp (disch := omega) only [pk_un, pk_us]; exact h4
  · intro a ha; simp (disch := omega) only [pk_un, pk_us]; exact h5 a ha
  · intro a b ha hb; simp (disch := omega) only [pk_un, pk_us]; exact h6 a b ha hb
  · intro w' hw k' hk
    by_cases e : 250 + 5 * w' + k' = 250 + 5 * w + k
    · rw [e]; exact ⟨t, ht, pk_us⟩
    · simp (disch := omega) only [pk_un, pk_us]; exact h7 w' hw k' hk
theorem LOk_evict {j : Nat} (hA : nA g ≤ 8) (hj : j < nA g) (h : LifeOk g s) : LifeOk g (upd (upd s 201 (s 201 ||| ((1 : Int32) <<< (nI j &&& 31)))) (210 + j) (-1)) := by
  obtain ⟨h2, h3, h4, h5, h6, h7⟩ := h
  have hb : ∀ i, i < 32 → tb (s 201 ||| ((1 : Int32) <<< (nI j &&& 31))) i = (tb (s 201) i || decide (i = j)) := fun i hi => tb_set (by omega) hi
  refine ⟨?_, ?_, ?_, ?_, ?_, ?_⟩
  · simp (disch := omega) only [pk_un, pk_us]; exact h2
  · simp (disch := omega) only [pk_un, pk_us]; exact h3
  · simp (disch := omega) only [pk_un, pk_us]
    intro i hi
    rw [hb i hi, Bool.or_eq_true, decide_eq_true_eq]
    rintro (q | q)
    · exact h4 i hi q
    · omega
  · intro a ha
    obtain ⟨q1, q2⟩ := h5 a ha
    refine ⟨by simp (disch := omega) only [pk_un, pk_us]; exact q1, ?_⟩
    rw [pk_un (show 201 ≠ 210 + j by omega), pk_us, hb a (by omega)]
    by_cases e : a = j
    · subst e; exact Or.inl ⟨by simp, pk_us⟩
    · simp (disch := omega) only [pk_un, pk_us]
      rw [decide_eq_false e, Bool.or_false]
      exact q2
  · intro a b ha hb hab
    by_cases e : a = j
    · subst e; intro _; exact pk_us
    · by_cases e2 : b = j
      · subst e2
        simp (disch := omega) only [pk_un, pk_us]; exact fun q => q
      · simp (disch := omega) only [pk_un, pk_us]; exact h6 a b ha hb hab
  · intro w hw k hk; simp (disch := omega) only [pk_un, pk_us]; exact h7 w hw k hk
theorem LOk_move {j q : Nat} (hA : nA g ≤ 8) (hj : j < nA g) (hq : q < nQ g) (he : tb (s 201) j = false) (hf : ∀ a, a < nA g → s (210 + a) ≠ nI q) (h : LifeOk g s) : LifeOk g (upd s (210 + j) (nI q)) := by
  obtain ⟨h2, h3, h4, h5, h6, h7⟩ := h
  refine ⟨?_, ?_, ?_, ?_, ?_, ?_⟩
  · simp (disch := omega) only [pk_un, pk_us]; exact h2
  · simp (disch := omega) only [pk_un, pk_us]; exact h3
  · simp (disch := omega) only [pk_un, pk_us]; exact h4
  · intro a ha
    obtain ⟨q1, q2⟩ := h5 a ha
    refine ⟨by simp (disch := omega) only [pk_un, pk_us]; exact q1, ?_⟩
    rw [pk_un (show 201 ≠ 210 + j by omega)]
    by_cases e : a = j
    · subst e; exact Or.inr ⟨he, q, hq, pk_us⟩
    · simp (disch := omega) only [pk_un, pk_us]; exact q2
  · intro a b ha hb hab
    by_cases e : a = j
    · subst e; simp (disch := omega) only [pk_un, pk_us]; exact fun z => absurd z.symm (hf b hb)
    · by_cases e2 : b = j
      · subst e2; simp (disch := omega) only [pk_un, pk_us]; exact fun z => absurd z (hf a ha)
      · simp (disch := omega) only [pk_un, pk_us]; exact h6 a b ha hb hab
  · intro w hw k hk; simp (disch := omega) only [pk_un, pk_us]; exact h7 w hw k hk
/-- who stands where, told from both sides -/
theorem stAt_congr {s' : Nat → Int32} {q : Int32} (h : ∀ a, a < nA g → s' (210 + a) = s (210 + a)) : stAt g s' q = stAt g s q := fstI_congr fun a ha => by rw [h a ha]
theorem stAt_some {a q : Nat} (hA : nA g ≤ 8) (h : LifeOk g s) (ha : a < nA g) (hq : q < nQ g) (hQ : nQ g ≤ 8) (e : s (210 + a) = nI q) : stAt g s (nI q) = nI a := by
  refine fstI_some (by simpa using e) (fun k hk => ?_) ha (by omega)
  refine decide_eq_false fun z => ?_
  have := h.2.2.2.2.1 k a (by omega) ha (by omega) (z.trans e.symm)
  rw [z] at this
  exact nI_m1 (by omega) this
theorem stAt_cases {q : Nat} (hA : nA g ≤ 8) : (stAt g s (nI q) = -1 ∧ ∀ a, a < nA g → s (210 + a) ≠ nI q) ∨ ∃ a, a < nA g ∧ stAt g s (nI q) = nI a ∧ s (210 + a) = nI q := by
  rcases fstI_cases (fun a => decide (s (210 + a) = nI q)) (n := nA g) (by omega) with ⟨h1, h2⟩ | ⟨j, h1, h2, h3, h4⟩
  · exact Or.inl ⟨h1, fun a ha => by simpa using h2 a ha⟩
  · exact Or.inr ⟨j, h1, h2, by simpa using h3⟩
theorem stAt_none {q : Nat} (hA : nA g ≤ 8) (h : ∀ a, a < nA g → s (210 + a) ≠ nI q) : stAt g s (nI q) = -1 := fstI_none fun a ha => by simpa using h a ha
theorem stAt_leave {j q q' : Nat} (hA : nA g ≤ 8) (hQ : nQ g ≤ 8) (h : LifeOk g s) (hj : j < nA g) (hq : q < nQ g) (hq' : q' < nQ g) (e : s (210 + j) = nI q) : stAt g (upd s (210 + j) (-1)) (nI q') = if q' = q then -1 else stAt g s (nI q') := by
  by_cases e2 : q' = q
  · subst e2
    rw [if_pos rfl]
    refine stAt_none hA fun a ha => ?_
    by_cases e3 : a = j
    · subst e3; rw [pk_us]; exact fun z => nI_m1 (by omega) z.symm
    · simp (disch := omega) only [pk_un, pk_us]
      intro z
      have := h.2.2.2.2.1 a j ha hj e3 (z.trans e.symm)
      rw [z] at this
      exact nI_m1 (by omega) this
  · rw [if_neg e2]
    refine fstI_congr fun a ha => ?_
    by_cases e3 : a = j
    · subst e3
      rw [pk_us, e, decide_eq_false (fun z => nI_m1 (by omega) z.symm), decide_eq_false (fun z => e2 ((nI_eq (by omega) (by omega)).mp z).symm)]
    · simp (disch := omega) only [pk_un, pk_us]
theorem stAt_go {j q q0 q' : Nat} (hA : nA g ≤ 8) (hQ : nQ g ≤ 8) (h : LifeOk g s) (hj : j < nA g) (hq : q < nQ g) (hq' : q' < nQ g) (hq0 : q0 < nQ g) (e : s (210 + j) = nI q0) (hf : ∀ a, a < nA g → s (210 + a) ≠ nI q) : stAt g (upd s (210 + j) (nI q)) (nI q') = if q' = q then nI j else if q' = q0 then -1 else stAt g s (nI q') := by
  by_cases e2 : q' = q
  · subst e2
    rw [if_pos rfl]
    refine fstI_some (by simpa using pk_us) (fun k hk => ?_) hj (by omega)
    simp (disch := omega) only [pk_un, pk_us]
    exact decide_eq_false (hf k (by omega))
  · rw [if_neg e2]
    by_cases e4 : q' = q0
    · subst e4
      rw [if_pos rfl]
      refine stAt_none hA fun a ha => ?_
      by_cases e3 : a = j
      · subst e3; rw [pk_us]; exact fun z => e2 ((nI_eq (by omega) (by omega)).mp z).symm
      · simp (disch := omega) only [pk_un, pk_us]
        intro z
        have := h.2.2.2.2.1 a j ha hj e3 (z.trans e.symm)
        rw [z] at this
        exact nI_m1 (by omega) this
    · rw [if_neg e4]
      refine fstI_congr fun a ha => ?_
      by_cases e3 : a = j
      · subst e3
        rw [pk_us, e, decide_eq_false (fun z => e2 ((nI_eq (by omega) (by omega)).mp z).symm), decide_eq_false (fun z => e4 ((nI_eq (by omega) (by omega)).mp z).symm)]
      · simp (disch := omega) only [pk_un, pk_us]
end LOk
