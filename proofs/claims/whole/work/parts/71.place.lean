/-! placing -/
theorem toInt_add' {x y : Int32} (h1 : -1000000000 ≤ x.toInt) (h2 : x.toInt ≤ 1000000000) (h3 : -1000000000 ≤ y.toInt) (h4 : y.toInt ≤ 1000000000) : (x + y).toInt = x.toInt + y.toInt := by
  rw [Int32.toInt_add]
  apply Int.bmod_eq_of_le <;> omega
theorem or_bit : ∀ t, t < 256 → ∀ q, q < 8 → nI t ||| ((1 : Int32) <<< (nI q &&& 31)) = nI (t ||| 2 ^ q) ∧ t ||| 2 ^ q < 256 ∧ (t.testBit q = false → popN (t ||| 2 ^ q) = popN t + 1 ∧ t < t ||| 2 ^ q) := by decide +kernel
theorem tb_bit : ∀ t, t < 256 → ∀ q, q < 8 → tb (nI t) q = t.testBit q := by decide +kernel
theorem or_lt : ∀ n, n ≤ 8 → ∀ t, t < 256 → t < 2 ^ n → ∀ q, q < n → t ||| 2 ^ q < 2 ^ n := by decide +kernel
theorem free_q : ∀ n, n ≤ 8 → ∀ t, t < 256 → t < 2 ^ n → popN t < n → ∃ q, q < n ∧ t.testBit q = false := by decide +kernel
theorem pop_n : ∀ n, n ≤ 8 → ∀ t, t < 256 → t < 2 ^ n → popN t ≤ n := by decide +kernel
/-- the greatest, and where it is first -/
def mxF (t : Nat) (F : Nat → Int32) : Nat → Int32
  | 0 => -100000000
  | q + 1 => if t.testBit q then mxF t F q else if F q ≤ mxF t F q then mxF t F q else F q
def bqF (t : Nat) (F : Nat → Int32) : Nat → Option Nat
  | 0 => none
  | q + 1 => if t.testBit q then bqF t F q else match bqF t F q with
    | none => some q
    | some f => if F q ≤ F f then some f else some q
theorem bqF_none {t : Nat} {F : Nat → Int32} : ∀ {n : Nat}, bqF t F n = none → ∀ q, q < n → t.testBit q = true
  | 0, _, q, hq => absurd hq (by omega)
  | n + 1, h, q, hq => by
    rw [bqF] at h
    by_cases e : t.testBit n = true
    · rw [if_pos e] at h
      by_cases eq : q = n
      · subst eq; exact e
      · exact bqF_none h q (by omega)
    · rw [if_neg e] at h
      split at h
      · cases h
      · split at h <;> cases h
theorem bqF_some {t : Nat} {F : Nat → Int32} : ∀ {n f : Nat}, bqF t F n = some f → f < n ∧ t.testBit f = false ∧ (∀ q, q < n → t.testBit q = false → F q ≤ F f) ∧ ∀ q, q < f → t.testBit q = false → F q < F f
  | 0, f, h => by cases h
  | n + 1, f, h => by
    rw [bqF] at h
    by_cases e : t.testBit n = true
    · rw [if_pos e] at h
      obtain ⟨a, b, c, d⟩ := bqF_some h
      refine ⟨by omega, b, fun q hq hb => ?_, d⟩
      by_cases eq : q = n
      · subst eq; rw [e] at hb; cases hb
      · exact c q (by omega) hb
    · rw [if_neg e] at h
      have e' := Bool.eq_false_iff.mpr e
      split at h
      · rename_i hn
        cases h
        refine ⟨by omega, e', fun q hq hb => ?_, fun q hq hb => ?_⟩
        · by_cases eq : q = n
          · subst eq; exact Int32.le_refl _
          · rw [bqF_none hn q (by omega)] at hb; cases hb
        · rw [bqF_none hn q (by omega)] at hb; cases hb
      · rename_i f' hn
        obtain ⟨a, b, c, d⟩ := bqF_some hn
        split at h
        · rename_i hle
          cases h
          refine ⟨by omega, b, fun q hq hb => ?_, d⟩
          by_cases eq : q = n
          · subst eq; exact hle
          · exact c q (by omega) hb
        · rename_i hle
          cases h
          have hlt : F f' < F n := Int32.not_le.mp hle
          refine ⟨by omega, e', fun q hq hb => ?_, fun q hq hb => ?_⟩
          · by_cases eq : q = n
            · subst eq; exact Int32.le_refl _
            · exact Int32.le_of_lt (Int32.lt_of_le_of_lt (c q (by omega) hb) hlt)
          · exact Int32.lt_of_le_of_lt (c q hq hb) hlt
theorem mxF_eq {t : Nat} {F : Nat → Int32} : ∀ {n : Nat}, (∀ q, q < n → t.testBit q = false → -100000000 < F q) → mxF t F n = match bqF t F n with
    | none => -100000000
    | some f => F f
  | 0, _ => rfl
  | n + 1, h => by
    have ih := mxF_eq (t := t) (F := F) (n := n) (fun q hq => h q (by omega))
    rw [mxF, bqF]
    by_cases e : t.testBit n = true
    · rw [if_pos e, if_pos e]; exact ih
    · have e' := Bool.eq_false_iff.mpr e
      rw [if_neg e, if_neg e, ih]
      cases hb : bqF t F n with
      | none =>
        dsimp only
        rw [if_neg (Int32.not_le.mpr (h n (by omega) e'))]
      | some f =>
        dsimp only
        split <;> rfl
section Plc
variable {g : Nat → Int32}
def gnI (g : Nat → Int32) (a q : Nat) : Int32 := ylF g q (g (202 + a)).toNatClampNeg (tb (g 200) a) 0 (nW' g) - 5040 * g (6 + q)
theorem gnI_bd (hg : HeadOk g) (hok : LifeOk g g) {a q : Nat} (ha : a < nA g) (hq : q < nQ g) : -500000 ≤ (gnI g a q).toInt ∧ (gnI g a q).toInt ≤ 500000 := by
  have hKK := hg.1.2.2.2.1
  have hW := hg.1.2.2.2.2.2.2.2
  obtain ⟨⟨k, hk, ek⟩, -⟩ := hok.2.2.2.1 a ha
  obtain ⟨y, hy, ey⟩ := ylF_nat hg (q := q) (k := k) (st := tb (g 200) a) (wo := 0) (by omega) (nW' g) (Nat.le_refl _)
  obtain ⟨⟨r, hr, er⟩, -⟩ := hg.2.1 q hq
  unfold gnI
  rw [ek, nI_clamp (by omega), ey, er, show (5040 : Int32) * nI r = nI (5040 * r) from pk_mul 5040 r, pk_sub_toInt (by omega) (by omega)]
  omega
/-- how many ahead of one are not evicted -/
def cntE (g : Nat → Int32) : Nat → Nat
  | 0 => 0
  | a + 1 => if tb (g 201) a then cntE g a else cntE g a + 1
theorem cntE_le {a b : Nat} (h : a ≤ b) : cntE g a ≤ cntE g b := by
  induction b with
  | zero => rw [show a = 0 by omega]; exact Nat.le_refl _
  | succ b ih =>
    by_cases e : a = b + 1
    · rw [e]; exact Nat.le_refl _
    · have := ih (by omega)
      rw [cntE]
      split <;> omega
theorem cntE_lt {a : Nat} : cntE g a ≤ a := by
  induction a with
  | zero => exact Nat.le_refl _
  | succ b ih =>
    rw [cntE]
    split <;> omega
/-- as many as stand, so many squares at least -/
theorem pigeon : ∀ (m n : Nat) (f : Nat → Nat), (∀ i, i < n → f i < m) → (∀ i j, i < n → j < n → f i = f j → i = j) → n ≤ m
  | 0, n, f, h, _ => by
    by_cases e : n = 0
    · omega
    · have := h 0 (by omega); omega
  | m + 1, n, f, h, hi => by
    by_cases e : n = 0
    · omega
    · have := pigeon m (n - 1) (fun i => if f i = m then f (n - 1) else f i) (fun i hin => ?_) (fun i j hin hjn he => ?_)
      · omega
      · have h1 := h i (by omega)
        have h2 := h (n - 1) (by omega)
        split
        · rename_i q
          by_cases e2 : f (n - 1) = m
          · have := hi i (n - 1) (by omega) (by omega) (by omega); omega
          · omega
        · omega
      · split at he
        · split at he
          · exact hi i j (by omega) (by omega) (by omega)
          · have := hi (n - 1) j (by omega) (by omega) (by omega); omega
        · split at he
          · have := hi i (n - 1) (by omega) (by omega) (by omega); omega
          · exact hi i j (by omega) (by omega) he
theorem cntE_inv {n i : Nat} : i < cntE g n → ∃ a, a < n ∧ tb (g 201) a = false ∧ cntE g a = i := by
  induction n with
  | zero => intro h; cases h
  | succ n ih =>
    intro h
    rw [cntE] at h
    by_cases e : tb (g 201) n = true
    · rw [if_pos e] at h
      obtain ⟨a, h1, h2, h3⟩ := ih h
      exact ⟨a, by omega, h2, h3⟩
    · rw [if_neg e] at h
      by_cases e2 : i < cntE g n
      · obtain ⟨a, h1, h2, h3⟩ := ih e2
        exact ⟨a, by omega, h2, h3⟩
      · exact ⟨n, by omega, Bool.eq_false_iff.mpr e, by omega⟩
theorem cntE_Q (hok : LifeOk g g) (hQ : nQ g ≤ 8) : cntE g (nA g) ≤ nQ g := by
  have hch : ∀ i, ∃ a, i < cntE g (nA g) → a < nA g ∧ tb (g 201) a = false ∧ cntE g a = i := by
    intro i
    by_cases h : i < cntE g (nA g)
    · obtain ⟨a, ha⟩ := cntE_inv h
      exact ⟨a, fun _ => ha⟩
    · exact ⟨0, fun h2 => absurd h2 h⟩
  refine pigeon (nQ g) (cntE g (nA g)) (fun i => (g (210 + (hch i).choose)).toNatClampNeg) (fun i hi => ?_) (fun i j hi hj he => ?_)
  · obtain ⟨h1, h2, h3⟩ := (hch i).choose_spec hi
    obtain ⟨-, p⟩ := hok.2.2.2.1 _ h1
    rcases p with ⟨z, -⟩ | ⟨-, q, hq, e⟩
    · exact absurd (h2.symm.trans z) (by decide)
    · rw [e, nI_clamp (by omega)]
      exact hq
  · obtain ⟨h1, h2, h3⟩ := (hch i).choose_spec hi
    obtain ⟨k1, k2, k3⟩ := (hch j).choose_spec hj
    obtain ⟨-, p⟩ := hok.2.2.2.1 _ h1
    obtain ⟨-, p'⟩ := hok.2.2.2.1 _ k1
    rcases p with ⟨z, -⟩ | ⟨-, q, hq, e⟩
    · exact absurd (h2.symm.trans z) (by decide)
    · rcases p' with ⟨z, -⟩ | ⟨-, q', hq', e'⟩
      · exact absurd (k2.symm.trans z) (by decide)
      · rw [e, e', nI_clamp (by omega), nI_clamp (by omega)] at he
        by_cases ee : (hch i).choose = (hch j).choose
        · rw [← h3, ← k3, ee]
        · have := hok.2.2.2.2.1 _ _ h1 k1 ee (by rw [e, e', he])
          rw [e] at this
          exact absurd this (nI_m1 (by omega))
/-- what k statues from the last on bring, with the squares of s taken -/
def brF (g : Nat → Int32) : Nat → Nat → Int32
  | 0, _ => 0
  | k + 1, s => if tb (g 201) (nA g - (k + 1)) then brF g k s else mxF s (fun q => gnI g (nA g - (k + 1)) q + brF g k (s ||| 2 ^ q)) (nQ g)
theorem br_key (hg : HeadOk g) (hok : LifeOk g g) : ∀ k, k ≤ nA g → ∀ s, s < 2 ^ nQ g → popN s = cntE g (nA g - k) → (-(500000 * (k : Int)) ≤ (brF g k s).toInt ∧ (brF g k s).toInt ≤ 500000 * (k : Int)) ∧ ∀ k', k = k' + 1 → tb (g 201) (nA g - k) = false → ∃ f, bqF s (fun q => gnI g (nA g - k) q + brF g k' (s ||| 2 ^ q)) (nQ g) = some f ∧ brF g k s = gnI g (nA g - k) f + brF g k' (s ||| 2 ^ f)
  | 0, _, s, _, _ => ⟨⟨by rw [brF]; decide, by rw [brF]; decide⟩, fun k' h => by omega⟩
  | k + 1, hk, s, hs, hp => by
    have hA := hg.1.2.2.2.2.2.1
    have hQ := hg.1.2.1
    have hpw := pow_le hQ
    have hcq := cntE_Q hok hQ
    have ec : nA g - k = nA g - (k + 1) + 1 := by omega
    by_cases ev : tb (g 201) (nA g - (k + 1)) = true
    · have e : brF g (k + 1) s = brF g k s := by rw [brF, if_pos ev]
      have hp2 : popN s = cntE g (nA g - k) := by rw [ec, cntE, if_pos ev]; exact hp
      obtain ⟨⟨b1, b2⟩, -⟩ := br_key hg hok k (by omega) s hs hp2
      rw [e]
      refine ⟨⟨by omega, by omega⟩, fun k' _ h2 => ?_⟩
      rw [ev] at h2; cases h2
    · have ev' := Bool.eq_false_iff.mpr ev
      have hc1 : cntE g (nA g - k) = cntE g (nA g - (k + 1)) + 1 := by rw [ec, cntE, if_neg ev]
      have hlt : popN s < nQ g := by
        have := cntE_le (g := g) (show nA g - k ≤ nA g by omega)
        omega
      have hF : ∀ q, q < nQ g → s.testBit q = false → -(500000 * ((k : Int) + 1)) ≤ (gnI g (nA g - (k + 1)) q + brF g k (s ||| 2 ^ q)).toInt ∧ (gnI g (nA g - (k + 1)) q + brF g k (s ||| 2 ^ q)).toInt ≤ 500000 * ((k : Int) + 1) := by
        intro q hq hb
        obtain ⟨g1, g2⟩ := gnI_bd hg hok (show nA g - (k + 1) < nA g by omega) hq
        obtain ⟨-, o2, o3⟩ := or_bit s (by omega) q (by omega)
        obtain ⟨⟨b1, b2⟩, -⟩ := br_key hg hok k (by omega) (s ||| 2 ^ q) (or_lt _ hQ s (by omega) hs q hq) (by rw [(o3 hb).1]; omega)
        rw [toInt_add' (by omega) (by omega) (by omega) (by omega)]
        omega
      have hm := mxF_eq (t := s) (F := fun q => gnI g (nA g - (k + 1)) q + brF g k (s ||| 2 ^ q)) (n := nQ g) (fun q hq hb => by
        rw [Int32.lt_iff_toInt_lt]
        have := (hF q hq hb).1
        have e : (-100000000 : Int32).toInt = -100000000 := by decide
        omega)
      obtain ⟨q0, hq0, hb0⟩ := free_q _ hQ s (by omega) hs hlt
      cases hb : bqF s (fun q => gnI g (nA g - (k + 1)) q + brF g k (s ||| 2 ^ q)) (nQ g) with
      | none =>
        have := bqF_none hb q0 hq0
        rw [hb0] at this; cases this
      | some f =>
        rw [hb] at hm
        dsimp only at hm
        have e : brF g (k + 1) s = gnI g (nA g - (k + 1)) f + brF g k (s ||| 2 ^ f) := by rw [brF, if_neg ev]; exact hm
        obtain ⟨hf1, hf2, -⟩ := bqF_some hb
        obtain ⟨x1, x2⟩ := hF f hf1 hf2
        rw [e]
        refine ⟨⟨by omega, by omega⟩, fun k' hk' _ => ?_⟩
        have : k' = k := by omega
        subst this
        exact ⟨f, hb, rfl⟩
/-- only those that are not evicted count -/
theorem brF_ev {k k' : Nat} (h : k' ≤ k) (hk : k ≤ nA g) (hc : cntE g (nA g - k) = cntE g (nA g - k')) (s : Nat) : brF g k s = brF g k' s := by
  induction k with
  | zero => rw [show k' = 0 by omega]
  | succ k ih =>
    by_cases e : k' = k + 1
    · rw [e]
    · have ec : nA g - k = nA g - (k + 1) + 1 := by omega
      have m1 := cntE_le (g := g) (show nA g - (k + 1) ≤ nA g - k by omega)
      have m2 := cntE_le (g := g) (show nA g - k ≤ nA g - k' by omega)
      have hv : tb (g 201) (nA g - (k + 1)) = true := by
        cases hv : tb (g 201) (nA g - (k + 1))
        · rw [ec, cntE, hv, if_neg (by decide)] at m2
          omega
        · rfl
      rw [brF, if_pos hv]
      exact ih (by omega) (by omega) (by omega)
/-- where each comes -/
def qvF (g : Nat → Int32) (t a : Nat) : Int32 := fstI (fun q => !t.testBit q && decide (gnI g a q + brF g (nA g - a - 1) (t ||| 2 ^ q) = brF g (nA g - a) t)) (nQ g)
def tkF (g : Nat → Int32) : Nat → Nat
  | 0 => 0
  | a + 1 => if tb (g 201) a then tkF g a else tkF g a ||| 2 ^ (qvF g (tkF g a) a).toNatClampNeg
theorem qv_key (hg : HeadOk g) (hok : LifeOk g g) {t a : Nat} (ha : a < nA g) (hv : tb (g 201) a = false) (ht : t < 2 ^ nQ g) (hp : popN t = cntE g a) : ∃ f, f < nQ g ∧ t.testBit f = false ∧ qvF g t a = nI f ∧ bqF t (fun q => gnI g a q + brF g (nA g - a - 1) (t ||| 2 ^ q)) (nQ g) = some f ∧ brF g (nA g - a) t = gnI g a f + brF g (nA g - a - 1) (t ||| 2 ^ f) := by
  have hQ := hg.1.2.1
  have ea : nA g - (nA g - a) = a := by omega
  obtain ⟨-, h2⟩ := br_key hg hok (nA g - a) (by omega) t ht (by rw [ea]; exact hp)
  obtain ⟨f, h3, h4⟩ := h2 (nA g - a - 1) (by omega) (by rw [ea]; exact hv)
  rw [ea] at h3 h4
  obtain ⟨f1, f2, f3, f4⟩ := bqF_some h3
  refine ⟨f, f1, f2, ?_, h3, h4⟩
  refine fstI_some ?_ (fun q hq => ?_) f1 (by omega)
  · rw [f2, h4]; simp
  · cases hb : t.testBit q
    · have := f4 q hq hb
      rw [h4, decide_eq_false]
      · rfl
      · intro e
        rw [e] at this
        exact absurd this Int32.lt_irrefl
    · rfl
theorem tk_ok (hg : HeadOk g) (hok : LifeOk g g) : ∀ a, a ≤ nA g → tkF g a < 2 ^ nQ g ∧ popN (tkF g a) = cntE g a
  | 0, _ => ⟨Nat.two_pow_pos _, by rw [tkF, cntE]; exact pop_0⟩
  | a + 1, ha => by
    obtain ⟨h1, h2⟩ := tk_ok hg hok a (by omega)
    have hQ := hg.1.2.1
    have hpw := pow_le hQ
    rw [tkF, cntE]
    split
    · exact ⟨h1, h2⟩
    · rename_i hv
      obtain ⟨f, f1, f2, f3, -⟩ := qv_key hg hok (show a < nA g by omega) (Bool.eq_false_iff.mpr hv) h1 h2
      rw [f3, nI_clamp (by omega)]
      obtain ⟨-, -, o3⟩ := or_bit (tkF g a) (by omega) f (by omega)
      exact ⟨or_lt _ hQ _ (by omega) h1 f f1, by rw [(o3 f2).1, h2]⟩
end Plc
