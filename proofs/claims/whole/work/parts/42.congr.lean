/-! what the relation doesn't look at -/
theorem CityR.congr {u v : Mm} {C : Nat} {g : Nat → Int32} {nm : Nat → Int64} (h : CityR u C g nm) (f2 : v.1 C 2 = u.1 C 2) (f3 : v.1 C 3 = u.1 C 3) (ha : ∀ k, 2 ≤ k → k ≤ 13 → v.1 (C + k) = u.1 (C + k)) (hl : v.2 (C + 1) = u.2 (C + 1)) : CityR v C g nm := by
  unfold CityR
  rw [f2, f3, hl, ha 2 (by omega) (by omega), ha 3 (by omega) (by omega), ha 4 (by omega) (by omega), ha 5 (by omega) (by omega), ha 6 (by omega) (by omega), ha 7 (by omega) (by omega), ha 8 (by omega) (by omega), ha 9 (by omega) (by omega), ha 10 (by omega) (by omega), ha 11 (by omega) (by omega), ha 12 (by omega) (by omega), ha 13 (by omega) (by omega)]
  exact h
theorem LifeR.congr {u v : Mm} {L : Nat} {g s : Nat → Int32} (h : LifeR u L g s) (f : ∀ j, 1 ≤ j → j ≤ 4 → v.1 L j = u.1 L j) (ha : ∀ k, 1 ≤ k → k ≤ 8 → v.1 (L + k) = u.1 (L + k)) : LifeR v L g s := by
  unfold LifeR
  rw [f 1 (by omega) (by omega), f 2 (by omega) (by omega), f 3 (by omega) (by omega), f 4 (by omega) (by omega), ha 1 (by omega) (by omega), ha 2 (by omega) (by omega), ha 3 (by omega) (by omega), ha 4 (by omega) (by omega), ha 5 (by omega) (by omega), ha 6 (by omega) (by omega), ha 7 (by omega) (by omega), ha 8 (by omega) (by omega)]
  exact h
theorem SentR.congr {u v : Mm} {Z : Nat} {s : Nat → Int32} (h : SentR u Z s) (f : v.1 Z 0 = u.1 Z 0) (ha : ∀ k, 1 ≤ k → k ≤ 3 → v.1 (Z + k) = u.1 (Z + k)) : SentR v Z s := by
  unfold SentR
  rw [f, ha 1 (by omega) (by omega), ha 2 (by omega) (by omega), ha 3 (by omega) (by omega)]
  exact h
/-- places of ints that the relation doesn't look at -/
def irr (a j : Nat) : Bool := match a with
  | 0 => !(j == 5 || j == 15)
  | 1 => !(j == 1 || j == 2)
  | 5 => !(j == 2 || j == 3)
  | 20 => !(j == 1 || j == 2 || j == 3 || j == 4)
  | 29 => !(j == 0)
  | 44 => !(j == 2 || j == 3)
  | 149 => !(j == 7 || j == 8 || j == 9 || j == 10 || j == 11)
  | 160 => !(j == 6 || j == 7 || j == 8 || j == 9)
  | 165 => !(j == 10 || j == 12)
  | 171 => !(j == 3 || j == 4 || j == 5)
  | 234 => !(j == 2 || j == 10 || j == 24 || j == 39 || j == 41 || j == 42 || j == 43 || j == 44 || j == 45 || j == 46 || j == 47 || j == 48 || j == 51 || j == 55)
  | a => (a == 19) || (a == 33) || (35 ≤ a && a ≤ 43) || (118 ≤ a && a ≤ 148) || (150 ≤ a && a ≤ 159) || (161 ≤ a && a ≤ 168) || (a == 172) || (a == 237) || (a == 240) || (a == 242) || (245 ≤ a && a ≤ 253) || (a == 256) || (a == 258) || (260 ≤ a)
/-- cells of longs that the relation doesn't look at -/
def irrL (a : Nat) : Bool := !(a == 3 || a == 6 || a == 176 || a == 206 || a == 241 || a == 243)
theorem Rl.congr {u v : Mm} (h : Rl u) (h1 : ∀ a j, irr a j = false → v.1 a j = u.1 a j) (h2 : ∀ a, irrL a = false → v.2 a = u.2 a) : Rl v := by
  have e : ∀ a, (∀ j, irr a j = false) → v.1 a = u.1 a := fun a ha => funext fun j => h1 a j (ha j)
  have hW : ∀ (C L Z : Nat) (g : Nat → Int32) (nm : Nat → Int64), (∀ k, 2 ≤ k → k ≤ 13 → v.1 (C + k) = u.1 (C + k)) → v.1 C 2 = u.1 C 2 → v.1 C 3 = u.1 C 3 → v.2 (C + 1) = u.2 (C + 1) → (∀ j, 1 ≤ j → j ≤ 4 → v.1 L j = u.1 L j) → (∀ k, 1 ≤ k → k ≤ 8 → v.1 (L + k) = u.1 (L + k)) → v.1 Z 0 = u.1 Z 0 → (∀ k, 1 ≤ k → k ≤ 3 → v.1 (Z + k) = u.1 (Z + k)) → WorldR u C L Z g nm → WorldR v C L Z g nm := by
    intro C L Z g nm a1 a2 a3 a4 a5 a6 a7 a8 ⟨b1, b2, b3, b4, b5, b6⟩
    exact ⟨b1, b2.congr a2 a3 a1 a4, b3, b4.congr a5 a6, b5, b6.congr a7 a8⟩
  obtain ⟨t, w, k, wo, p, im⟩ := h
  refine ⟨?_, ?_, ?_, ?_, ?_, ?_⟩
  · unfold TapeR
    rw [h1 1 1 rfl, h1 234 2 rfl, e 2 (fun _ => rfl), e 235 (fun _ => rfl), h1 1 2 rfl, h1 234 10 rfl]
    exact t
  · unfold WordsR
    rw [h2 3 rfl]
    exact w
  · unfold KeptR
    rw [h1 234 42 rfl, h1 234 43 rfl, h1 234 44 rfl, h1 234 45 rfl, h1 234 46 rfl, h1 234 47 rfl, h1 234 48 rfl, h1 160 6 rfl, h1 160 7 rfl, h1 160 8 rfl, h1 160 9 rfl, h1 171 3 rfl, h1 171 4 rfl, h1 171 5 rfl, h1 165 10 rfl, h1 165 12 rfl, h1 234 41 rfl, h1 234 39 rfl, h1 0 15 rfl, h1 234 51 rfl, h1 149 7 rfl, h1 149 8 rfl, h1 149 9 rfl, h1 149 10 rfl, h1 149 11 rfl, h1 234 55 rfl, e 169 (fun _ => rfl), e 255 (fun _ => rfl), e 170 (fun _ => rfl), e 254 (fun _ => rfl), e 173 (fun _ => rfl), e 257 (fun _ => rfl), e 259 (fun _ => rfl)]
    exact k
  · rw [e 236 (fun _ => rfl), h2 241 rfl]
    refine hW 5 20 29 _ _ ?_ (h1 5 2 rfl) (h1 5 3 rfl) (h2 6 rfl) ?_ ?_ (h1 29 0 rfl) ?_ wo
    · intro k a b
      exact e (5 + k) (by rcases (show k = 2 ∨ k = 3 ∨ k = 4 ∨ k = 5 ∨ k = 6 ∨ k = 7 ∨ k = 8 ∨ k = 9 ∨ k = 10 ∨ k = 11 ∨ k = 12 ∨ k = 13 by omega) with rfl | rfl | rfl | rfl | rfl | rfl | rfl | rfl | rfl | rfl | rfl | rfl <;> exact fun _ => rfl)
    · intro j a b
      rcases (show j = 1 ∨ j = 2 ∨ j = 3 ∨ j = 4 by omega) with rfl | rfl | rfl | rfl <;> exact h1 20 _ rfl
    · intro k a b
      exact e (20 + k) (by rcases (show k = 1 ∨ k = 2 ∨ k = 3 ∨ k = 4 ∨ k = 5 ∨ k = 6 ∨ k = 7 ∨ k = 8 by omega) with rfl | rfl | rfl | rfl | rfl | rfl | rfl | rfl <;> exact fun _ => rfl)
    · intro k a b
      exact e (29 + k) (by rcases (show k = 1 ∨ k = 2 ∨ k = 3 by omega) with rfl | rfl | rfl <;> exact fun _ => rfl)
  · obtain ⟨n, t, hn, ht, p1, p2, p3, p4⟩ := p
    refine ⟨n, t, hn, ht, by rw [h1 44 2 rfl]; exact p1, by rw [h1 44 3 rfl]; exact p2, by rw [h1 234 24 rfl]; exact p3, fun i hi => ?_⟩
    rw [e 236 (fun _ => rfl), e 239 (fun _ => rfl)]
    refine ⟨(p4 i hi).1, (p4 i hi).2.congr ?_ ?_⟩
    · intro j a b
      have hx : (t + 8 - n + i) % 8 < 8 := Nat.mod_lt _ (by omega)
      generalize (t + 8 - n + i) % 8 = x at hx ⊢
      rcases (show x = 0 ∨ x = 1 ∨ x = 2 ∨ x = 3 ∨ x = 4 ∨ x = 5 ∨ x = 6 ∨ x = 7 by omega) with rfl | rfl | rfl | rfl | rfl | rfl | rfl | rfl <;> exact h1 _ j rfl
    · intro k a b
      have hx : (t + 8 - n + i) % 8 < 8 := Nat.mod_lt _ (by omega)
      generalize (t + 8 - n + i) % 8 = x at hx ⊢
      rcases (show k = 1 ∨ k = 2 ∨ k = 3 ∨ k = 4 ∨ k = 5 ∨ k = 6 ∨ k = 7 ∨ k = 8 by omega) with rfl | rfl | rfl | rfl | rfl | rfl | rfl | rfl <;> (rcases (show x = 0 ∨ x = 1 ∨ x = 2 ∨ x = 3 ∨ x = 4 ∨ x = 5 ∨ x = 6 ∨ x = 7 by omega) with rfl | rfl | rfl | rfl | rfl | rfl | rfl | rfl <;> exact e _ (fun _ => rfl))
  · intro k hk
    rw [h1 0 5 rfl, e 244 (fun _ => rfl), e 238 (fun _ => rfl), h2 243 rfl]
    rcases im k hk with q | ⟨q1, q2, q3⟩
    · exact Or.inl q
    · refine Or.inr ⟨q1, q2, hW _ _ _ _ _ ?_ ?_ ?_ ?_ ?_ ?_ ?_ ?_ q3⟩
      · intro j a b
        rcases (show k = 0 ∨ k = 1 by omega) with rfl | rfl <;> exact e _ (by rcases (show j = 2 ∨ j = 3 ∨ j = 4 ∨ j = 5 ∨ j = 6 ∨ j = 7 ∨ j = 8 ∨ j = 9 ∨ j = 10 ∨ j = 11 ∨ j = 12 ∨ j = 13 by omega) with rfl | rfl | rfl | rfl | rfl | rfl | rfl | rfl | rfl | rfl | rfl | rfl <;> exact fun _ => rfl)
      · rcases (show k = 0 ∨ k = 1 by omega) with rfl | rfl <;> exact h1 _ _ rfl
      · rcases (show k = 0 ∨ k = 1 by omega) with rfl | rfl <;> exact h1 _ _ rfl
      · rcases (show k = 0 ∨ k = 1 by omega) with rfl | rfl <;> exact h2 _ rfl
      · intro j a b
        rcases (show k = 0 ∨ k = 1 by omega) with rfl | rfl <;> exact h1 _ _ rfl
      · intro j a b
        rcases (show k = 0 ∨ k = 1 by omega) with rfl | rfl <;> exact e _ (by rcases (show j = 1 ∨ j = 2 ∨ j = 3 ∨ j = 4 ∨ j = 5 ∨ j = 6 ∨ j = 7 ∨ j = 8 by omega) with rfl | rfl | rfl | rfl | rfl | rfl | rfl | rfl <;> exact fun _ => rfl)
      · rcases (show k = 0 ∨ k = 1 by omega) with rfl | rfl <;> exact h1 _ _ rfl
      · intro j a b
        rcases (show k = 0 ∨ k = 1 by omega) with rfl | rfl <;> exact e _ (by rcases (show j = 1 ∨ j = 2 ∨ j = 3 by omega) with rfl | rfl | rfl <;> exact fun _ => rfl)
theorem mI_at (u : Mm) (a j : Nat) (x : Int32) (b k : Nat) : (mI u a j x).1 b k = if b = a ∧ k = j then x else u.1 b k := rfl
theorem Rl.irr {u : Mm} {a j : Nat} {x : Int32} (h : Rl u) (hi : irr a j = true) : Rl (mI u a j x) := by
  refine h.congr (fun b k hb => ?_) (fun _ _ => rfl)
  rw [mI_at, if_neg]
  rintro ⟨rfl, rfl⟩
  rw [hi] at hb
  cases hb
theorem Rl.th {u : Mm} {x : Int32} (h : Rl u) : Rl (mI u 234 0 x) := h.irr rfl
