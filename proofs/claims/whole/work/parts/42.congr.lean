/-! what the relation doesn't look at -/
theorem CityR.congr {u v : Mm} {C : Nat} {g : Nat → Int32} {nm : Nat → Int64} (h : CityR u C g nm) (f2 : v.1 C 2 = u.1 C 2) (f3 : v.1 C 3 = u.1 C 3) (ha : ∀ k, 2 ≤ k → k ≤ 13 → v.1 (C + k) = u.1 (C + k)) (hl : v.2 (C + 1) = u.2 (C + 1)) : CityR v C g nm := by
  unfold CityR
  rw [f2, f3, hl, ha 2 (by omega) (by omega), ha 3 (by omega) (by omega), ha 4 (by omega) (by omega), ha 5 (by omega) (by omega), ha 6 (by omega) (by omega), ha 7 (by omega) (by omega), ha 8 (by omega) (by omega), ha 9 (by omega) (by omega), ha 10 (by omega) (by omega), ha 11 (by omega) (by omega), ha 12 (by omega) (by omega), ha 13 (by omega) (by omega)]
  exact h
theorem LifeR.congr {u v : Mm} {L : Nat} {g s : Nat → Int32} (h : LifeR u L g s) (f : ∀ j, 1 ≤ j → j ≤ 4 → v.1 L j = u.1 L j) (ha : ∀ k, 1 ≤ k → k ≤ 8 → v.1 (L + k) = u.1 (L + k)) : LifeR v L g s := by
  unfold LifeR
  rw [f 1 (by omega) (by omega), f 2 (by omega) (by omega), f 3 (by omega) (by omega), f 4 (by omega) (by omega), ha 1 (by omega) (by omega), ha 2 (by omega) (by omega), ha 3 (by omega) (by omega), ha 4 (by omega) (by omega), ha 5 (by omega) (by omega), ha 6 (by omega) (by omega), ha 7 (by omega) (by omega), ha 8 (by omega) (by omega)]
  exact h
theorem SentR.congr {u v : Mm} {Z : Nat} {s : Nat → Int32} (h : SentR u Z s) (f : v.1 Z 0 = u.1 Z 0) (ha : ∀ k, 1 ≤ k → k ≤ 3 → v.1 (Z + k) = u.1 (Z + k)) : SentR v Z s := by
  unfold SentR
  rw [f, ha 1 (by omega) (by omega), ha 2 (by omega) (by omega), ha 3 (by omega) (by omega)]
  exact h
/-- which places of ints each part looks at -/
def relT (a j : Nat) : Bool := match a with
  | 1 => j == 1 || j == 2
  | 2 => true
  | 234 => j == 2 || j == 10
  | 235 => true
  | _ => false
def relK (a j : Nat) : Bool := match a with
  | 0 => j == 15
  | 149 => j == 7 || j == 8 || j == 9 || j == 10 || j == 11
  | 160 => j == 6 || j == 7 || j == 8 || j == 9
  | 165 => j == 10 || j == 12
  | 169 => true
  | 170 => true
  | 171 => j == 3 || j == 4 || j == 5
  | 173 => true
  | 234 => j == 39 || j == 41 || j == 42 || j == 43 || j == 44 || j == 45 || j == 46 || j == 47 || j == 48 || j == 51 || j == 55
  | 254 => true
  | 255 => true
  | 257 => true
  | 259 => true
  | _ => false
def relW (a j : Nat) : Bool := match a with
  | 5 => j == 2 || j == 3
  | 20 => j == 1 || j == 2 || j == 3 || j == 4
  | 29 => j == 0
  | 236 => true
  | a => (7 ≤ a && a ≤ 18) || (21 ≤ a && a ≤ 28) || (30 ≤ a && a ≤ 32)
def relP (a j : Nat) : Bool := match a with
  | 44 => j == 2 || j == 3
  | 234 => j == 24
  | 236 => true
  | 239 => true
  | a => (46 ≤ a && a ≤ 117)
def relI (a j : Nat) : Bool := match a with
  | 0 => j == 5
  | 238 => true
  | 244 => true
  | a => (174 ≤ a && a ≤ 233)
/-- the memories agree where rel says so -/
def AG (rel : Nat → Nat → Bool) (u v : Mm) : Prop := ∀ a j, rel a j = true → v.1 a j = u.1 a j
theorem AG.rf {rel : Nat → Nat → Bool} {u : Mm} : AG rel u u := fun _ _ _ => rfl
theorem mI_at (u : Mm) (a j : Nat) (x : Int32) (b k : Nat) : (mI u a j x).1 b k = if b = a ∧ k = j then x else u.1 b k := rfl
theorem AG.mI {rel : Nat → Nat → Bool} {u v : Mm} (h : AG rel u v) {a j : Nat} {x : Int32} (hr : rel a j = false) : AG rel u (mI v a j x) := by
  intro b k hb
  rw [mI_at, if_neg]
  · exact h b k hb
  · rintro ⟨rfl, rfl⟩
    rw [hr] at hb
    cases hb
theorem AG.mJ {rel : Nat → Nat → Bool} {u v : Mm} (h : AG rel u v) {a j : Nat} {x : Int64} : AG rel u (mJ v a j x) := h
theorem AG.tr {rel : Nat → Nat → Bool} {u v w : Mm} (h : AG rel u v) (h2 : AG rel v w) : AG rel u w := fun a j hr => (h2 a j hr).trans (h a j hr)
theorem AG.fn {rel : Nat → Nat → Bool} {u v : Mm} (h : AG rel u v) (a : Nat) (hr : ∀ j, rel a j = true) : v.1 a = u.1 a := funext fun j => h a j (hr j)
theorem TapeR.congr {u v : Mm} (h : TapeR u) (h1 : AG relT u v) : TapeR v := by
  unfold TapeR
  rw [h1 1 1 rfl, h1 234 2 rfl, h1.fn 2 (fun _ => rfl), h1.fn 235 (fun _ => rfl), h1 1 2 rfl, h1 234 10 rfl]
  exact h
theorem WordsR.congr {u v : Mm} (h : WordsR u) (h2 : v.2 3 = u.2 3) : WordsR v := by
  unfold WordsR
  rw [h2]
  exact h
theorem KeptR.congr {u v : Mm} (h : KeptR u) (h1 : AG relK u v) : KeptR v := by
  unfold KeptR
  rw [h1 234 42 rfl, h1 234 43 rfl, h1 234 44 rfl, h1 234 45 rfl, h1 234 46 rfl, h1 234 47 rfl, h1 234 48 rfl, h1 160 6 rfl, h1 160 7 rfl, h1 160 8 rfl, h1 160 9 rfl, h1 171 3 rfl, h1 171 4 rfl, h1 171 5 rfl, h1 165 10 rfl, h1 165 12 rfl, h1 234 41 rfl, h1 234 39 rfl, h1 0 15 rfl, h1 234 51 rfl, h1 149 7 rfl, h1 149 8 rfl, h1 149 9 rfl, h1 149 10 rfl, h1 149 11 rfl, h1 234 55 rfl, h1.fn 169 (fun _ => rfl), h1.fn 255 (fun _ => rfl), h1.fn 170 (fun _ => rfl), h1.fn 254 (fun _ => rfl), h1.fn 173 (fun _ => rfl), h1.fn 257 (fun _ => rfl), h1.fn 259 (fun _ => rfl)]
  exact h
theorem WorldR.congr {u v : Mm} {C L Z : Nat} {g : Nat → Int32} {nm : Nat → Int64} (h : WorldR u C L Z g nm) (a1 : ∀ k, 2 ≤ k → k ≤ 13 → v.1 (C + k) = u.1 (C + k)) (a2 : v.1 C 2 = u.1 C 2) (a3 : v.1 C 3 = u.1 C 3) (a4 : v.2 (C + 1) = u.2 (C + 1)) (a5 : ∀ j, 1 ≤ j → j ≤ 4 → v.1 L j = u.1 L j) (a6 : ∀ k, 1 ≤ k → k ≤ 8 → v.1 (L + k) = u.1 (L + k)) (a7 : v.1 Z 0 = u.1 Z 0) (a8 : ∀ k, 1 ≤ k → k ≤ 3 → v.1 (Z + k) = u.1 (Z + k)) : WorldR v C L Z g nm := by
  obtain ⟨b1, b2, b3, b4, b5, b6⟩ := h
  exact ⟨b1, b2.congr a2 a3 a1 a4, b3, b4.congr a5 a6, b5, b6.congr a7 a8⟩
abbrev World5 (u : Mm) : Prop := WorldR u 5 20 29 (u.1 236) (u.2 241)
theorem w5cells {u v : Mm} (h1 : AG relW u v) : (∀ k, 2 ≤ k → k ≤ 13 → v.1 (5 + k) = u.1 (5 + k)) ∧ (∀ j, 1 ≤ j → j ≤ 4 → v.1 20 j = u.1 20 j) ∧ (∀ k, 1 ≤ k → k ≤ 8 → v.1 (20 + k) = u.1 (20 + k)) ∧ ∀ k, 1 ≤ k → k ≤ 3 → v.1 (29 + k) = u.1 (29 + k) := by
  refine ⟨fun k a b => ?_, fun j a b => ?_, fun k a b => ?_, fun k a b => ?_⟩
  · exact h1.fn (5 + k) (by rcases (show k = 2 ∨ k = 3 ∨ k = 4 ∨ k = 5 ∨ k = 6 ∨ k = 7 ∨ k = 8 ∨ k = 9 ∨ k = 10 ∨ k = 11 ∨ k = 12 ∨ k = 13 by omega) with rfl | rfl | rfl | rfl | rfl | rfl | rfl | rfl | rfl | rfl | rfl | rfl <;> exact fun _ => rfl)
  · rcases (show j = 1 ∨ j = 2 ∨ j = 3 ∨ j = 4 by omega) with rfl | rfl | rfl | rfl <;> exact h1 20 _ rfl
  · exact h1.fn (20 + k) (by rcases (show k = 1 ∨ k = 2 ∨ k = 3 ∨ k = 4 ∨ k = 5 ∨ k = 6 ∨ k = 7 ∨ k = 8 by omega) with rfl | rfl | rfl | rfl | rfl | rfl | rfl | rfl <;> exact fun _ => rfl)
  · exact h1.fn (29 + k) (by rcases (show k = 1 ∨ k = 2 ∨ k = 3 by omega) with rfl | rfl | rfl <;> exact fun _ => rfl)
theorem World5.congr {u v : Mm} (h : World5 u) (h1 : AG relW u v) (h6 : v.2 6 = u.2 6) (h241 : v.2 241 = u.2 241) : World5 v := by
  show WorldR v 5 20 29 (v.1 236) (v.2 241)
  rw [h1.fn 236 (fun _ => rfl), h241]
  obtain ⟨c1, c2, c3, c4⟩ := w5cells h1
  exact WorldR.congr h c1 (h1 5 2 rfl) (h1 5 3 rfl) h6 c2 c3 (h1 29 0 rfl) c4
theorem pcell {x : Nat} (hx : x < 8) : (∀ j, relP (46 + 9 * x) j = true) ∧ ∀ k, 1 ≤ k → k ≤ 8 → ∀ j, relP (46 + 9 * x + k) j = true := by
  refine ⟨?_, fun k a b => ?_⟩
  · rcases (show x = 0 ∨ x = 1 ∨ x = 2 ∨ x = 3 ∨ x = 4 ∨ x = 5 ∨ x = 6 ∨ x = 7 by omega) with rfl | rfl | rfl | rfl | rfl | rfl | rfl | rfl <;> exact fun _ => rfl
  · rcases (show k = 1 ∨ k = 2 ∨ k = 3 ∨ k = 4 ∨ k = 5 ∨ k = 6 ∨ k = 7 ∨ k = 8 by omega) with rfl | rfl | rfl | rfl | rfl | rfl | rfl | rfl <;> (rcases (show x = 0 ∨ x = 1 ∨ x = 2 ∨ x = 3 ∨ x = 4 ∨ x = 5 ∨ x = 6 ∨ x = 7 by omega) with rfl | rfl | rfl | rfl | rfl | rfl | rfl | rfl <;> exact fun _ => rfl)
theorem PastR.congr {u v : Mm} (h : PastR u) (h1 : AG relP u v) : PastR v := by
  obtain ⟨n, t, hn, ht, p1, p2, p3, p4⟩ := h
  refine ⟨n, t, hn, ht, by rw [h1 44 2 rfl]; exact p1, by rw [h1 44 3 rfl]; exact p2, by rw [h1 234 24 rfl]; exact p3, fun i hi => ?_⟩
  rw [h1.fn 236 (fun _ => rfl), h1.fn 239 (fun _ => rfl)]
  have hx : (t + 8 - n + i) % 8 < 8 := Nat.mod_lt _ (by omega)
  obtain ⟨c1, c2⟩ := pcell hx
  exact ⟨(p4 i hi).1, (p4 i hi).2.congr (fun j _ _ => h1 _ j (c1 j)) (fun k a b => h1.fn _ (c2 k a b))⟩
theorem ImagesR.congr {u v : Mm} (h : ImagesR u) (h1 : AG relI u v) (l1 : v.2 176 = u.2 176) (l2 : v.2 206 = u.2 206) (l3 : v.2 243 = u.2 243) : ImagesR v := by
  intro k hk
  rw [h1 0 5 rfl, h1.fn 244 (fun _ => rfl), h1.fn 238 (fun _ => rfl), l3]
  rcases h k hk with q | ⟨q1, q2, q3⟩
  · exact Or.inl q
  · refine Or.inr ⟨q1, q2, q3.congr ?_ ?_ ?_ ?_ ?_ ?_ ?_ ?_⟩
    · intro j a b
      rcases (show k = 0 ∨ k = 1 by omega) with rfl | rfl <;> exact h1.fn _ (by rcases (show j = 2 ∨ j = 3 ∨ j = 4 ∨ j = 5 ∨ j = 6 ∨ j = 7 ∨ j = 8 ∨ j = 9 ∨ j = 10 ∨ j = 11 ∨ j = 12 ∨ j = 13 by omega) with rfl | rfl | rfl | rfl | rfl | rfl | rfl | rfl | rfl | rfl | rfl | rfl <;> exact fun _ => rfl)
    · rcases (show k = 0 ∨ k = 1 by omega) with rfl | rfl <;> exact h1 _ _ rfl
    · rcases (show k = 0 ∨ k = 1 by omega) with rfl | rfl <;> exact h1 _ _ rfl
    · rcases (show k = 0 ∨ k = 1 by omega) with rfl | rfl
      · exact l1
      · exact l2
    · intro j a b
      rcases (show k = 0 ∨ k = 1 by omega) with rfl | rfl <;> exact h1 _ _ rfl
    · intro j a b
      rcases (show k = 0 ∨ k = 1 by omega) with rfl | rfl <;> exact h1.fn _ (by rcases (show j = 1 ∨ j = 2 ∨ j = 3 ∨ j = 4 ∨ j = 5 ∨ j = 6 ∨ j = 7 ∨ j = 8 by omega) with rfl | rfl | rfl | rfl | rfl | rfl | rfl | rfl <;> exact fun _ => rfl)
    · rcases (show k = 0 ∨ k = 1 by omega) with rfl | rfl <;> exact h1 _ _ rfl
    · intro j a b
      rcases (show k = 0 ∨ k = 1 by omega) with rfl | rfl <;> exact h1.fn _ (by rcases (show j = 1 ∨ j = 2 ∨ j = 3 by omega) with rfl | rfl | rfl <;> exact fun _ => rfl)
/-- what any part looks at -/
def relA (a j : Nat) : Bool := relT a j || relK a j || relW a j || relP a j || relI a j
theorem AG.sub {rel rel2 : Nat → Nat → Bool} {u v : Mm} (h : AG rel u v) (hs : ∀ a j, rel2 a j = true → rel a j = true) : AG rel2 u v := fun a j hr => h a j (hs a j hr)
theorem Rl.congr {u v : Mm} (h : Rl u) (h1 : AG relA u v) (h2 : v.2 = u.2) : Rl v := by
  obtain ⟨t, w, k, wo, p, im⟩ := h
  refine ⟨t.congr (h1.sub fun a j q => ?_), w.congr (by rw [h2]), k.congr (h1.sub fun a j q => ?_), World5.congr wo (h1.sub fun a j q => ?_) (by rw [h2]) (by rw [h2]), p.congr (h1.sub fun a j q => ?_), im.congr (h1.sub fun a j q => ?_) (by rw [h2]) (by rw [h2]) (by rw [h2])⟩ <;> simp [relA, q]
theorem Rl.th {u : Mm} {x : Int32} (h : Rl u) : Rl (mI u 234 0 x) := h.congr (AG.rf.mI rfl) rfl
/-- all parts but the tape's are as they were -/
theorem Rl.tape {u v : Mm} (h : Rl u) (ht : TapeR v) (k : AG relK u v) (w : AG relW u v) (p : AG relP u v) (i : AG relI u v) (h2 : v.2 = u.2) : Rl v :=
  ⟨ht, h.2.1.congr (by rw [h2]), h.2.2.1.congr k, World5.congr h.2.2.2.1 w (by rw [h2]) (by rw [h2]), h.2.2.2.2.1.congr p, h.2.2.2.2.2.congr i (by rw [h2]) (by rw [h2]) (by rw [h2])⟩
theorem Rl.kept {u v : Mm} (h : Rl u) (t : AG relT u v) (hk : KeptR v) (w : AG relW u v) (p : AG relP u v) (i : AG relI u v) (h2 : v.2 = u.2) : Rl v :=
  ⟨h.1.congr t, h.2.1.congr (by rw [h2]), hk, World5.congr h.2.2.2.1 w (by rw [h2]) (by rw [h2]), h.2.2.2.2.1.congr p, h.2.2.2.2.2.congr i (by rw [h2]) (by rw [h2]) (by rw [h2])⟩
