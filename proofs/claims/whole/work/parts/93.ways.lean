/-! how far squares are, and the way -/
theorem fO_least {p : Nat → Bool} : ∀ {n j : Nat}, fO p n = some j → ∀ i, i < j → p i = false
  | 0, j, h, _, _ => by cases h
  | n + 1, j, h, i, hi => by
    rw [fO] at h
    cases ho : fO p n with
    | none =>
      rw [ho] at h
      dsimp only at h
      split at h
      · cases h
        exact fO_none.mp ho i hi
      · cases h
    | some j' =>
      rw [ho] at h
      cases h
      exact fO_least ho i hi
section Ways
variable (g : Nat → Int32) (t : Nat)
def rch : Nat → Nat → Bool
  | 0, q => q == t
  | k + 1, q => rch k q || (List.range (nQ g)).any (fun p => tb (g (14 + q)) p && rch k p)
def dst (q : Nat) : Nat := match fO (fun k => rch g t k q) 8 with
  | none => 999
  | some k => k
end Ways
section WaysT
variable {g : Nat → Int32} {t : Nat}
/-- paths go both ways, between squares that are there -/
def Sym (g : Nat → Int32) : Prop := nQ g ≤ 8 ∧ ∀ p q, p < 8 → q < 32 → tb (g (14 + p)) q = true → p < nQ g ∧ q < nQ g ∧ tb (g (14 + q)) p = true
theorem rch_s {k q : Nat} : rch g t (k + 1) q = true ↔ rch g t k q = true ∨ ∃ p, p < nQ g ∧ tb (g (14 + q)) p = true ∧ rch g t k p = true := by
  rw [rch, Bool.or_eq_true, List.any_eq_true]
  constructor
  · rintro (h | ⟨p, h1, h2⟩)
    · exact Or.inl h
    · rw [Bool.and_eq_true] at h2
      exact Or.inr ⟨p, List.mem_range.mp h1, h2.1, h2.2⟩
  · rintro (h | ⟨p, h1, h2, h3⟩)
    · exact Or.inl h
    · exact Or.inr ⟨p, List.mem_range.mpr h1, by rw [h2, h3]; rfl⟩
theorem rch_mono {q : Nat} : ∀ {j k : Nat}, j ≤ k → rch g t j q = true → rch g t k q = true
  | j, 0, h, hr => by rw [show j = 0 by omega] at hr; exact hr
  | j, k + 1, h, hr => by
    by_cases e : j = k + 1
    · rw [← e]; exact hr
    · exact rch_s.mpr (Or.inl (rch_mono (show j ≤ k by omega) hr))
theorem rch_0 {q : Nat} : rch g t 0 q = true ↔ q = t := by rw [rch]; simp
def dis (g : Nat → Int32) (t q k : Nat) : Prop := rch g t k q = true ∧ ∀ j, j < k → rch g t j q = false
theorem dis_down {q k : Nat} (h : dis g t q (k + 1)) : ∃ p, p < nQ g ∧ tb (g (14 + q)) p = true ∧ dis g t p k := by
  rcases rch_s.mp h.1 with h1 | ⟨p, h1, h2, h3⟩
  · rw [h.2 k (by omega)] at h1; cases h1
  · refine ⟨p, h1, h2, h3, fun j hj => Bool.eq_false_iff.mpr fun hz => ?_⟩
    have := h.2 (j + 1) (by omega)
    rw [rch_s.mpr (Or.inr ⟨p, h1, h2, hz⟩)] at this
    cases this
theorem dis_chain {q : Nat} (hq : q < nQ g) : ∀ k, dis g t q k → ∀ i, i ≤ k → ∃ x, x < nQ g ∧ dis g t x i := by
  intro k
  induction k generalizing q with
  | zero => intro h i hi; rw [show i = 0 by omega]; exact ⟨q, hq, h⟩
  | succ k ih =>
    intro h i hi
    by_cases e : i = k + 1
    · rw [e]; exact ⟨q, hq, h⟩
    · obtain ⟨p, h1, h2, h3⟩ := dis_down h
      exact ih h1 h3 i (by omega)
theorem dis_lt {q k : Nat} (hQ : nQ g ≤ 8) (hq : q < nQ g) (h : dis g t q k) : k < 8 := by
  have hc := dis_chain hq k h
  have := pigeon (nQ g) (k + 1) (fun i => if hi : i ≤ k then (hc i hi).choose else 0) (fun i hi => by
    rw [dif_pos (show i ≤ k by omega)]
    exact (hc i (by omega)).choose_spec.1) (fun i j hi hj e => by
    rw [dif_pos (show i ≤ k by omega), dif_pos (show j ≤ k by omega)] at e
    have hi' := (hc i (by omega)).choose_spec.2
    have hj' := (hc j (by omega)).choose_spec.2
    rw [e] at hi'
    by_cases e1 : i < j
    · have := hj'.2 i e1; rw [hi'.1] at this; cases this
    · by_cases e2 : j < i
      · have := hi'.2 j e2; rw [hj'.1] at this; cases this
      · omega)
  omega
theorem dst_cases (g : Nat → Int32) (t q : Nat) : (dst g t q = 999 ∧ ∀ k, k < 8 → rch g t k q = false) ∨ (dst g t q < 8 ∧ dis g t q (dst g t q)) := by
  unfold dst
  cases h : fO (fun k => rch g t k q) 8 with
  | none => exact Or.inl ⟨rfl, fun k hk => fO_none.mp h k hk⟩
  | some j =>
    have h1 := (fO_eq (p := fun k => rch g t k q) (n := 8) (by omega)).2 j h
    exact Or.inr ⟨h1.1, h1.2, fun i hi => fO_least h i hi⟩
theorem dst_of {q k : Nat} (hk : k < 8) (h : dis g t q k) : dst g t q = k := by
  rcases dst_cases g t q with ⟨-, e⟩ | ⟨h1, h2⟩
  · have := h.1
    rw [e k hk] at this; cases this
  · by_cases e1 : dst g t q < k
    · have := h.2 _ e1; rw [h2.1] at this; cases this
    · by_cases e2 : k < dst g t q
      · have := h2.2 _ e2; rw [h.1] at this; cases this
      · omega
theorem dst_0 {q : Nat} : dst g t q = 0 ↔ q = t := by
  constructor
  · intro h
    rcases dst_cases g t q with ⟨e, -⟩ | ⟨h1, h2⟩
    · omega
    · rw [h] at h2; exact rch_0.mp h2.1
  · intro h
    exact dst_of (by omega) ⟨rch_0.mpr h, fun j hj => absurd hj (by omega)⟩
theorem dst_s (hs : Sym g) {p k : Nat} (hp : p < 8) (hk : k + 1 < 8) : dst g t p = k + 1 ↔ (¬ dst g t p ≤ k) ∧ ∃ q, q < nQ g ∧ dst g t q = k ∧ tb (g (14 + q)) p = true := by
  constructor
  · intro h
    rcases dst_cases g t p with ⟨e, -⟩ | ⟨h1, h2⟩
    · omega
    · rw [h] at h2
      obtain ⟨q, q1, q2, q3⟩ := dis_down h2
      exact ⟨by omega, q, q1, dst_of (by omega) q3, (hs.2 p q hp (by have := hs.1; omega) q2).2.2⟩
  · rintro ⟨h1, q, q1, q2, q3⟩
    have hQ := hs.1
    have q3' := (hs.2 q p (by omega) (by omega) q3).2.2
    have hr : rch g t k q = true := by
      rcases dst_cases g t q with ⟨e, -⟩ | ⟨-, h2⟩
      · omega
      · rw [q2] at h2; exact h2.1
    refine dst_of hk ⟨rch_s.mpr (Or.inr ⟨q, q1, q3', hr⟩), fun j hj => Bool.eq_false_iff.mpr fun hz => h1 ?_⟩
    rcases dst_cases g t p with ⟨-, e⟩ | ⟨h3, h4⟩
    · rw [e j (by omega)] at hz; cases hz
    · apply Nat.le_of_not_lt
      intro hlt
      have := h4.2 j (by omega)
      rw [hz] at this; cases this
theorem dst_out (hs : Sym g) (ht : t < nQ g) {q : Nat} (hq : q < 8) (h : nQ g ≤ q) : dst g t q = 999 := by
  rcases dst_cases g t q with ⟨e, -⟩ | ⟨h1, h2⟩
  · exact e
  · exfalso
    cases hd : dst g t q with
    | zero => have := dst_0.mp hd; omega
    | succ k =>
      rw [hd] at h2
      obtain ⟨p, p1, p2, p3⟩ := dis_down h2
      have := (hs.2 q p hq (by have := hs.1; omega) p2).1
      omega
/-- the next square on the way to where it is k -/
def nxQ (g : Nat → Int32) (t k q : Nat) : Option Nat := fO (fun p => tb (g (14 + q)) p && decide (dst g t p = k)) 8
def wyF (g : Nat → Int32) (t : Nat) : Nat → Nat → List Nat
  | 0, q => [q]
  | k + 1, q => match nxQ g t k q with
    | none => [q]
    | some p => q :: wyF g t k p
def wyL (g : Nat → Int32) (s t : Nat) : List Nat := if dst g t s = 999 then [] else wyF g t (dst g t s) s
theorem nxQ_some (hs : Sym g) {k q : Nat} (hq : q < nQ g) (hk : k + 1 < 8) (h : dst g t q = k + 1) : ∃ p, nxQ g t k q = some p ∧ p < nQ g ∧ dst g t p = k ∧ tb (g (14 + q)) p = true := by
  have hQ := hs.1
  rcases dst_cases g t q with ⟨e, -⟩ | ⟨h1, h2⟩
  · omega
  · rw [h] at h2
    obtain ⟨p, p1, p2, p3⟩ := dis_down h2
    unfold nxQ
    cases ho : fO (fun p => tb (g (14 + q)) p && decide (dst g t p = k)) 8 with
    | none =>
      have := fO_none.mp ho p (by omega)
      rw [p2, decide_eq_true (dst_of (by omega) p3)] at this
      cases this
    | some j =>
      obtain ⟨j1, j2⟩ := (fO_eq (p := fun p => tb (g (14 + q)) p && decide (dst g t p = k)) (n := 8) (by omega)).2 j ho
      rw [Bool.and_eq_true] at j2
      exact ⟨j, rfl, (hs.2 q j (by omega) (by omega) j2.1).2.1, of_decide_eq_true j2.2, j2.1⟩
theorem wyF_ok (hs : Sym g) : ∀ k q, k < 8 → q < nQ g → dst g t q = k → (wyF g t k q).length = k + 1 ∧ ∀ x ∈ wyF g t k q, x < nQ g
  | 0, q, _, hq, _ => ⟨rfl, fun x hx => by rw [wyF, List.mem_singleton] at hx; omega⟩
  | k + 1, q, hk, hq, h => by
    obtain ⟨p, p1, p2, p3, -⟩ := nxQ_some hs hq hk h
    obtain ⟨i1, i2⟩ := wyF_ok hs k p (by omega) p2 p3
    rw [wyF, p1]
    dsimp only
    refine ⟨by rw [List.length_cons, i1], fun x hx => ?_⟩
    rcases List.mem_cons.mp hx with e | hx
    · omega
    · exact i2 x hx
theorem wyL_ok (hs : Sym g) {s : Nat} (hq : s < nQ g) : (wyL g s t).length ≤ 8 ∧ ∀ x ∈ wyL g s t, x < nQ g := by
  unfold wyL
  split
  · exact ⟨by simp, fun x hx => by cases hx⟩
  · rename_i h
    rcases dst_cases g t s with ⟨e, -⟩ | ⟨h1, h2⟩
    · exact absurd e h
    · obtain ⟨i1, i2⟩ := wyF_ok hs (dst g t s) s h1 hq rfl
      exact ⟨by omega, i2⟩
end WaysT
