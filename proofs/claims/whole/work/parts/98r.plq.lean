/-! the plaque's text -/
def PlS (u0 u : Mm) (l : List Int32) : Prop := u.2 = u0.2 ∧ (∀ b j, b ≠ 173 → ¬ (b = 0 ∧ j = 15) → u.1 b j = u0.1 b j) ∧ u.1 0 15 = nI l.length ∧ ∀ i, i < l.length → u.1 173 i = l.getD i 0
def PlM (u0 u : Mm) (l : List Int32) : Prop := u.2 = u0.2 ∧ (∀ b j, b ≠ 257 → ¬ (b = 234 ∧ j = 51) → u.1 b j = u0.1 b j) ∧ u.1 234 51 = nI l.length ∧ ∀ i, i < l.length → u.1 257 i = l.getD i 0
theorem getD_app {l : List Int32} {x : Int32} {i : Nat} (h : i < (l ++ [x]).length) : (l ++ [x]).getD i 0 = if i = l.length then x else l.getD i 0 := by
  by_cases e : i = l.length
  · subst e; simp
  · have : i < l.length := by simp at h; omega
    rw [if_neg e, List.getD_eq_getElem?_getD, List.getElem?_append_left this, ← List.getD_eq_getElem?_getD]
section
variable {X : Xc} {d : Nat} {u u0 : Mm} {K : Mm → Prop} {l : List Int32}
theorem PlS.put {x : Int32} (h : PlS u0 u l) : PlS u0 (mI (mI u 173 l.length x) 0 15 (nI l.length + 1)) (l ++ [x]) := by
  obtain ⟨h1, h2, h3, h4⟩ := h
  refine ⟨h1, fun b j q1 q2 => ?_, ?_, fun i hi => ?_⟩
  · rw [mI_at, if_neg q2, mI_at, if_neg (fun z => q1 z.1)]
    exact h2 b j q1 q2
  · rw [mI_at, if_pos ⟨rfl, rfl⟩, List.length_append]
    exact nI_1 _
  · rw [mI_at, if_neg (by omega), mI_at, getD_app hi]
    by_cases e : i = l.length
    · rw [if_pos ⟨rfl, e⟩, if_pos e]
    · rw [if_neg (fun z => e z.2), if_neg e]
      exact h4 i (by simp at hi; omega)
theorem PlM.put {x : Int32} (h : PlM u0 u l) : PlM u0 (mI (mI u 257 l.length x) 234 51 (nI l.length + 1)) (l ++ [x]) := by
  obtain ⟨h1, h2, h3, h4⟩ := h
  refine ⟨h1, fun b j q1 q2 => ?_, ?_, fun i hi => ?_⟩
  · rw [mI_at, if_neg q2, mI_at, if_neg (fun z => q1 z.1)]
    exact h2 b j q1 q2
  · rw [mI_at, if_pos ⟨rfl, rfl⟩, List.length_append]
    exact nI_1 _
  · rw [mI_at, if_neg (by omega), mI_at, getD_app hi]
    by_cases e : i = l.length
    · rw [if_pos ⟨rfl, e⟩, if_pos e]
    · rw [if_neg (fun z => e z.2), if_neg e]
      exact h4 i (by simp at hi; omega)
theorem c_eb {x : Int32} (hd : 1 ≤ d) (h : PlS u0 u l) (hl : l.length < 32) (hK : ∀ u', PlS u0 u' (l ++ [x]) → K u') : CV X d 163 [.ref 0, .int x] u K := by
  obtain ⟨d, rfl, -⟩ := dpos hd
  refine CV_of mk_X12_engraveByte.2.2 rfl (B_S_engraveByte_0 ?_)
  have e : (mI u 173 (u.1 0 15).toNatClampNeg x).1 0 15 = nI l.length := by rw [mI_at, if_neg (by omega)]; exact h.2.2.1
  rw [e, h.2.2.1, nI_clamp (by omega)]
  exact ⟨fun z => absurd z (nI_ge (b := 32) hl (by omega)), fun _ => ⟨vp_in_nI hl (by decide), hK _ h.put⟩⟩
theorem c_mw {x : Int32} (hd : 1 ≤ d) (h : PlM u0 u l) (hl : l.length < 64) (hK : ∀ u', PlM u0 u' (l ++ [x]) → K u') : CV X d 296 [.ref 234, .int x] u K := by
  obtain ⟨d, rfl, -⟩ := dpos hd
  refine CV_of mk_X13_write.2.2 rfl (B_M_write_0 ?_)
  have e : (mI u 257 (u.1 234 51).toNatClampNeg x).1 234 51 = nI l.length := by rw [mI_at, if_neg (by omega)]; exact h.2.2.1
  rw [e, h.2.2.1, nI_clamp (by omega)]
  exact ⟨vp_in_nI hl (by decide), hK _ h.put⟩
end
/-- bytes of a name's letters -/
def bts (ls : List Nat) : List Int32 := ls.map (fun x => nI (96 + x))
theorem bts_app (a b : List Nat) : bts (a ++ b) = bts a ++ bts b := List.map_append
theorem bts_len (a : List Nat) : (bts a).length = a.length := List.length_map _
theorem e5_snoc (l : List Nat) (x : Nat) : e5 (l ++ [x]) = 32 * e5 l + x := by simp [e5, List.foldl_append]
theorem e27_snoc (l : List Nat) (x : Nat) : e27 (l ++ [x]) = 27 * e27 l + x := by simp [e27, List.foldl_append]
theorem snoc_of : ∀ {l : List Nat}, 0 < l.length → ∃ i x, l = i ++ [x] := by
  intro l h
  exact ⟨l.dropLast, l.getLast (by intro z; rw [z] at h; cases h), (List.dropLast_concat_getLast _).symm⟩
theorem p5_lt : ∀ (n : Nat) (l : List Nat), l.length = n → (∀ x ∈ l, 1 ≤ x ∧ x ≤ 26) → e5 l < 32 ^ n
  | 0, l, hl, _ => by
    rw [List.length_eq_zero_iff.mp hl]; decide
  | n + 1, l, hl, hx => by
    obtain ⟨i, x, rfl⟩ := snoc_of (l := l) (by omega)
    have hi : i.length = n := by simp at hl; exact hl
    have ih := p5_lt n i hi (fun y hy => hx y (List.mem_append_left _ hy))
    have := (hx x (by simp)).2
    rw [e5_snoc, Nat.pow_succ]
    omega
theorem p27_lt : ∀ (n : Nat) (l : List Nat), l.length = n → (∀ x ∈ l, 1 ≤ x ∧ x ≤ 26) → e27 l < 27 ^ n
  | 0, l, hl, _ => by
    rw [List.length_eq_zero_iff.mp hl]; decide
  | n + 1, l, hl, hx => by
    obtain ⟨i, x, rfl⟩ := snoc_of (l := l) (by omega)
    have hi : i.length = n := by simp at hl; exact hl
    have ih := p27_lt n i hi (fun y hy => hx y (List.mem_append_left _ hy))
    have := (hx x (by simp)).2
    rw [e27_snoc, Nat.pow_succ]
    omega
theorem e5_div : ∀ (k : Nat) (a b : List Nat), b.length = k → (∀ x ∈ b, 1 ≤ x ∧ x ≤ 26) → e5 (a ++ b) / 32 ^ k = e5 a
  | 0, a, b, hb, _ => by
    rw [List.length_eq_zero_iff.mp hb]; simp
  | k + 1, a, b, hb, hx => by
    obtain ⟨i, x, rfl⟩ := snoc_of (l := b) (by omega)
    have hi : i.length = k := by simp at hb; exact hb
    have ih := e5_div k a i hi (fun y hy => hx y (List.mem_append_left _ hy))
    have := (hx x (by simp)).2
    rw [← List.append_assoc, e5_snoc, Nat.pow_succ, Nat.mul_comm (32 ^ k), ← Nat.div_div_eq_div_mul, show (32 * e5 (a ++ i) + x) / 32 = e5 (a ++ i) by omega]
    exact ih
/-- the letter at a shift -/
theorem sh5 {v : Nat} (hv : v < 2 ^ 35) : ∀ k, k ≤ 6 → (((lN v).toUInt64 >>> ((nI (5 * k)).toInt64.toUInt64 &&& Int64.toUInt64 63)).toInt64).toInt32 &&& (31 : Int32) = nI (v / 32 ^ k % 32) := by
  intro k hk
  have e : (nI (5 * k)).toInt64.toUInt64 &&& Int64.toUInt64 63 = UInt64.ofNat (5 * k) := by
    rcases (show k = 0 ∨ k = 1 ∨ k = 2 ∨ k = 3 ∨ k = 4 ∨ k = 5 ∨ k = 6 by omega) with rfl | rfl | rfl | rfl | rfl | rfl | rfl <;> decide
  rw [e, pk_and _ 5 (by decide)]
  congr 1
  have h1 : ((((lN v).toUInt64 >>> UInt64.ofNat (5 * k)).toInt64).toInt32).toBitVec.toNat = v / 32 ^ k % 2 ^ 32 := by
    show (((lN v).toUInt64 >>> UInt64.ofNat (5 * k)).toBitVec.signExtend 32).toNat = _
    rw [BitVec.signExtend_eq_setWidth_of_le _ (by decide), BitVec.toNat_setWidth]
    show ((lN v).toUInt64 >>> UInt64.ofNat (5 * k)).toNat % _ = _
    rw [UInt64.toNat_shiftRight]
    have h2 : (lN v).toUInt64.toNat = v := by
      show v % 2 ^ 64 = v
      exact Nat.mod_eq_of_lt (by omega)
    have h3 : (UInt64.ofNat (5 * k)).toNat % 64 = 5 * k := by
      rw [UInt64.toNat_ofNat', Nat.mod_eq_of_lt (a := 5 * k) (by omega)]
      omega
    rw [h2, h3, Nat.shiftRight_eq_div_pow, Nat.pow_mul]
  rw [h1, Nat.mod_mod_of_dvd _ (by decide)]
theorem lN_int {n : Nat} (h : n < 2 ^ 62) : (lN n).toInt = (n : Int) := lg_ofNat_toInt (by omega)
theorem lN_div {a b : Nat} (ha : a < 2 ^ 62) (hb : 0 < b ∧ b < 2 ^ 31) : lN a / lN b = lN (a / b) := by
  apply Int64.toInt_inj.mp
  rw [Int64.toInt_div, lN_int ha, lN_int (by omega), lN_int (Nat.lt_of_le_of_lt (Nat.div_le_self _ _) ha), ← Int.ofNat_tdiv]
  have h1 : a / b ≤ a := Nat.div_le_self _ _
  generalize a / b = q at h1
  exact Int.bmod_eq_of_le (by omega) (by omega)
theorem lN_rem {a b : Nat} (ha : a < 2 ^ 62) (hb : 0 < b ∧ b < 2 ^ 31) : lN a - lN a / lN b * lN b = lN (a % b) := by
  rw [lN_div ha hb, lN_mul, lN_sub (Nat.div_mul_le_self a b)]
  congr 1
  have := Nat.div_add_mod a b
  rw [Nat.mul_comm] at this
  omega
theorem lg_lt {a b : Nat} (h : a < b) (ha : a < 2 ^ 62) (hb : b < 2 ^ 62) : lg_cmp (lN a) (lN b) < 0 := by
  have h1 : ¬ lN a > lN b := fun z => by
    have := Int64.lt_iff_toInt_lt.mp z
    rw [lN_int ha, lN_int hb] at this
    omega
  have h2 : ¬ lN a = lN b := fun z => by
    have := congrArg Int64.toInt z
    rw [lN_int ha, lN_int hb] at this
    omega
  unfold lg_cmp
  rw [if_neg h1, if_neg h2]
  decide
theorem lg_nlt {a b : Nat} (h : b ≤ a) (ha : a < 2 ^ 62) (hb : b < 2 ^ 62) : ¬ lg_cmp (lN a) (lN b) < 0 := by
  unfold lg_cmp
  by_cases e : a = b
  · subst e
    rw [if_neg (fun z => by have := Int64.lt_iff_toInt_lt.mp z; omega), if_pos rfl]
    decide
  · rw [if_pos (Int64.lt_iff_toInt_lt.mpr (by rw [lN_int ha, lN_int hb]; omega))]
    decide
section
variable {X : Xc} {d : Nat} {u u0 : Mm} {K : Mm → Prop} {l : List Int32}
theorem l_ename {ls : List Nat} (hd : 1 ≤ d) (hn : ls.length ≤ 7) (hx : ∀ x ∈ ls, 1 ≤ x ∧ x ≤ 26) (hl : l.length + 7 ≤ 32) (hK : ∀ u', PlS u0 u' (l ++ bts ls) → K u') : ∀ k u, k ≤ 6 → PlS u0 u (l ++ bts (ls.take (ls.length - (k + 1)))) → VV X d 165 K 3 [some (.ref 0), some (.long (lN (e5 ls))), none, some (.int (nI (5 * k))), none] [] u := by
  have hv : e5 ls < 2 ^ 35 := Nat.lt_of_lt_of_le (p5_lt _ ls rfl hx) (by
    have := Nat.pow_le_pow_right (n := 32) (by decide) hn
    exact Nat.le_trans this (by decide))
  have step : ∀ k u, k ≤ 6 → PlS u0 u (l ++ bts (ls.take (ls.length - k))) → (∀ k', k = k' + 1 → VV X d 165 K 3 [some (.ref 0), some (.long (lN (e5 ls))), none, some (.int (nI (5 * k'))), none] [] u) → VV X d 165 K 3 [some (.ref 0), some (.long (lN (e5 ls))), none, some (.int (nI (5 * k) + (-5 : Int32))), none] [] u := by
    intro k u hk hp hnx
    cases k with
    | zero =>
      refine B_S_engraveName_3 ⟨fun _ => hK u ?_, fun z => absurd (show nI (5 * 0) + (-5 : Int32) < 0 by decide) z⟩
      rw [Nat.sub_zero, List.take_length] at hp
      exact hp
    | succ k' =>
      have := hnx k' rfl
      rw [show nI (5 * (k' + 1)) + (-5 : Int32) = nI (5 * k') from ?_]
      · exact this
      · rcases (show k' = 0 ∨ k' = 1 ∨ k' = 2 ∨ k' = 3 ∨ k' = 4 ∨ k' = 5 by omega) with rfl | rfl | rfl | rfl | rfl | rfl <;> decide
  have body : ∀ k u, k ≤ 6 → PlS u0 u (l ++ bts (ls.take (ls.length - (k + 1)))) → (∀ u', PlS u0 u' (l ++ bts (ls.take (ls.length - k))) → VV X d 165 K 3 [some (.ref 0), some (.long (lN (e5 ls))), none, some (.int (nI (5 * k) + (-5 : Int32))), none] [] u') → VV X d 165 K 3 [some (.ref 0), some (.long (lN (e5 ls))), none, some (.int (nI (5 * k))), none] [] u := by
    intro k u hk hp hnx
    refine B_S_engraveName_3 ?_
    rw [sh5 hv k hk]
    refine ⟨fun z => absurd z (nI_pos (by omega)), fun _ => ?_⟩
    by_cases hkn : k < ls.length
    · have hlt : ls.length - (k + 1) < ls.length := by omega
      have e1 : ls = ls.take (ls.length - (k + 1)) ++ [ls[ls.length - (k + 1)]] ++ ls.drop (ls.length - k) := by
        rw [List.append_assoc, List.singleton_append, show ls.length - k = ls.length - (k + 1) + 1 by omega, List.getElem_cons_drop, List.take_append_drop]
      have e2 : ls.take (ls.length - k) = ls.take (ls.length - (k + 1)) ++ [ls[ls.length - (k + 1)]] := by
        rw [show ls.length - k = ls.length - (k + 1) + 1 by omega, List.take_succ_eq_append_getElem hlt]
      have hm := hx _ (List.getElem_mem hlt)
      have e3 : e5 ls / 32 ^ k % 32 = ls[ls.length - (k + 1)] := by
        have := e5_div k (ls.take (ls.length - (k + 1)) ++ [ls[ls.length - (k + 1)]]) (ls.drop (ls.length - k)) (by rw [List.length_drop]; omega) (fun x h => hx x (List.mem_of_mem_drop h))
        rw [← e1, e5_snoc] at this
        rw [this]
        omega
      rw [e3]
      refine ⟨fun z => absurd z (nI_nle (by omega) (by omega)), fun _ => ?_⟩
      rw [show ((97 : Int32) + nI ls[ls.length - (k + 1)]) - 1 = nI (96 + ls[ls.length - (k + 1)]) by
        rw [show (97 : Int32) + nI ls[ls.length - (k + 1)] = nI (96 + ls[ls.length - (k + 1)] + 1) by rw [show (97 : Int32) = nI 97 from rfl, nI_add]; congr 1; omega, nI_pred]]
      refine c_eb hd hp (by rw [List.length_append, bts_len, List.length_take]; omega) (fun u' hu' => hnx u' ?_)
      rw [e2, bts_app, ← List.append_assoc]
      exact hu'
    · have e3 : e5 ls / 32 ^ k % 32 = 0 := by
        rw [Nat.div_eq_of_lt (Nat.lt_of_lt_of_le (p5_lt _ ls rfl hx) (Nat.pow_le_pow_right (by decide) (by omega)))]
      rw [e3]
      refine ⟨fun _ => hnx u ?_, fun z => absurd (by decide) z⟩
      rw [show ls.length - k = ls.length - (k + 1) by omega]
      exact hp
  intro k
  induction k with
  | zero => exact fun u hk hp => body 0 u hk hp (fun u' hu' => step 0 u' hk hu' (fun k' h => by omega))
  | succ k ih => exact fun u hk hp => body (k + 1) u hk hp (fun u' hu' => step (k + 1) u' hk hu' (fun k' h => by
      have : k' = k := by omega
      subst this
      exact ih u' (by omega) hu'))
theorem c_ename {ls : List Nat} (hd : 2 ≤ d) (h : PlS u0 u l) (hn : ls.length ≤ 7) (hx : ∀ x ∈ ls, 1 ≤ x ∧ x ≤ 26) (hl : l.length + 7 ≤ 32) (hK : ∀ u', PlS u0 u' (l ++ bts ls) → K u') : CV X d 165 [.ref 0, .long (lN (e5 ls))] u K := by
  obtain ⟨d, rfl, hd1⟩ := dpos hd
  refine CV_of mk_X12_engraveName.2.2 rfl (B_S_engraveName_0 (l_ename hd1 hn hx hl hK 6 u (by omega) ?_))
  rw [show ls.length - (6 + 1) = 0 by omega, List.take_zero]
  show PlS u0 u (l ++ [])
  rw [List.append_nil]
  exact h
theorem c_mword : ∀ (n : Nat) {d : Nat} {u : Mm} {K : Mm → Prop} {ls : List Nat}, n + 2 ≤ d → ls.length = n + 1 → n ≤ 6 → PlM u0 u l → (∀ x ∈ ls, 1 ≤ x ∧ x ≤ 26) → l.length + 7 ≤ 64 → (∀ u', PlM u0 u' (l ++ bts ls) → K u') → CV X d 297 [.ref 234, .long (lN (e27 ls))] u K := by
  intro n
  induction n with
  | zero =>
    intro d u K ls hd hn h6 h hx hl hK
    obtain ⟨d, rfl, hd1⟩ := dpos hd
    obtain ⟨x, rfl⟩ := List.length_eq_one_iff.mp hn
    have hm := hx x (by simp)
    refine CV_of mk_X13_writeWord.2.2 rfl (B_M_writeWord_0 ⟨fun _ => ?_, fun z => absurd ?_ z⟩)
    · rw [show e27 [x] = x by simp [e27], lN_rem (by omega) (by decide), lN_i, Nat.mod_eq_of_lt (by omega), show (96 : Int32) + nI x = nI (96 + x) from nI_add 96 x]
      exact c_mw (by omega) h (by omega) hK
    · rw [show e27 [x] = x by simp [e27]]
      exact lg_lt (by omega) (by omega) (by omega)
  | succ n ih =>
    intro d u K ls hd hn h6 h hx hl hK
    obtain ⟨d, rfl, hd1⟩ := dpos hd
    obtain ⟨i, x, rfl⟩ := snoc_of (l := ls) (by omega)
    have hi : i.length = n + 1 := by simp at hn; exact hn
    have hm := hx x (by simp)
    have hb : e27 i < 27 ^ (n + 1) := p27_lt _ i hi (fun y hy => hx y (List.mem_append_left _ hy))
    have h1 : 1 ≤ e27 i := by
      obtain ⟨j, y, rfl⟩ := snoc_of (l := i) (by omega)
      have := (hx y (by simp)).1
      rw [e27_snoc]; omega
    have hb7 : e27 i < 27 ^ 6 := Nat.lt_of_lt_of_le hb (Nat.pow_le_pow_right (by decide) (by omega))
    refine CV_of mk_X13_writeWord.2.2 rfl (B_M_writeWord_0 ⟨fun z => absurd z ?_, fun _ => ?_⟩)
    · rw [e27_snoc]
      exact lg_nlt (by omega) (by omega) (by omega)
    · rw [e27_snoc, lN_rem (by omega) (by decide), lN_div (by omega) (by decide), lN_i, show (27 * e27 i + x) / 27 = e27 i by omega, show (27 * e27 i + x) % 27 = x by omega, show (96 : Int32) + nI x = nI (96 + x) from nI_add 96 x]
      refine ih (K := fun u2 => CV X d 296 [.ref 234, .int (nI (96 + x))] u2 (fun u3 => K u3)) (by omega) hi (by omega) h (fun y hy => hx y (List.mem_append_left _ hy)) hl (fun u' hu' => ?_)
      refine c_mw (by omega) hu' (by rw [List.length_append, bts_len]; omega) (fun u2 hu2 => hK u2 ?_)
      rw [bts_app, ← List.append_assoc]
      exact hu2
end
/-- the digits of a number -/
def dgs : Nat → Nat → List Nat
  | 0, n => [n % 10]
  | f + 1, n => if n < 10 then [n] else dgs f (n / 10) ++ [n % 10]
def dbt (l : List Nat) : List Int32 := l.map (fun x => nI (48 + x))
theorem dbt_app (a b : List Nat) : dbt (a ++ b) = dbt a ++ dbt b := List.map_append
theorem dbt_len (a : List Nat) : (dbt a).length = a.length := List.length_map _
theorem dgs_len : ∀ f n, (dgs f n).length ≤ f + 1
  | 0, n => Nat.le_refl _
  | f + 1, n => by
    rw [dgs]
    split
    · simp
    · have := dgs_len f (n / 10)
      rw [List.length_append]
      simp; omega
theorem dgs_f : ∀ f n, n < 10 ^ (f + 1) → dgs (f + 1) n = dgs f n
  | 0, n, h => by
    show (if n < 10 then [n] else dgs 0 (n / 10) ++ [n % 10]) = [n % 10]
    have h : n < 10 := by simpa using h
    rw [if_pos h, Nat.mod_eq_of_lt h]
  | f + 1, n, h => by
    rw [dgs]
    conv => rhs; rw [dgs]
    rw [dgs_f f (n / 10) (by rw [Nat.div_lt_iff_lt_mul (by decide), ← Nat.pow_succ]; exact h)]
theorem dgs_up : ∀ f e n, n < 10 ^ (f + 1) → dgs (f + e) n = dgs f n
  | f, 0, n, h => rfl
  | f, e + 1, n, h => by
    rw [show f + (e + 1) = f + e + 1 by omega, dgs_f (f + e) n (Nat.lt_of_lt_of_le h (Nat.pow_le_pow_right (by decide) (by omega)))]
    exact dgs_up f e n h
section
variable {X : Xc} {u0 : Mm} {l : List Int32}
theorem c_mnum : ∀ (f : Nat) {d n : Nat} {u : Mm} {K : Mm → Prop}, f + 2 ≤ d → n < 10 ^ (f + 1) → n < 2 ^ 31 → PlM u0 u l → l.length + f + 1 ≤ 63 → (∀ u', PlM u0 u' (l ++ dbt (dgs f n)) → K u') → CV X d 298 [.ref 234, .int (nI n)] u K := by
  intro f
  induction f with
  | zero =>
    intro d n u K hd hn h31 h hl hK
    obtain ⟨d, rfl, hd1⟩ := dpos hd
    refine CV_of mk_X13_writeNumber.2.2 rfl (B_M_writeNumber_0 ⟨fun _ => ?_, fun z => absurd ((nI_leI (b := 9) (by omega) (by omega)).mpr (by simp at hn; omega)) z⟩)
    rw [show (10 : Int32) = nI 10 from rfl, pk_rem h31 (by decide) (by decide), show (48 : Int32) + nI (n % 10) = nI (48 + n % 10) from nI_add 48 _]
    exact c_mw (by omega) h (by omega) hK
  | succ f ih =>
    intro d n u K hd hn h31 h hl hK
    obtain ⟨d, rfl, hd1⟩ := dpos hd
    refine CV_of mk_X13_writeNumber.2.2 rfl (B_M_writeNumber_0 ?_)
    rw [show (10 : Int32) = nI 10 from rfl, pk_rem h31 (by decide) (by decide), pk_div h31 (by decide) (by decide), show (48 : Int32) + nI (n % 10) = nI (48 + n % 10) from nI_add 48 _]
    refine ⟨fun z => ?_, fun z => ?_⟩
    · have z : n ≤ 9 := (nI_leI (b := 9) h31 (by omega)).mp z
      refine c_mw (by omega) h (by omega) (fun u' hu' => hK u' ?_)
      rw [dgs, if_pos (by omega)]
      rw [Nat.mod_eq_of_lt (by omega)] at hu'
      exact hu'
    · have z : ¬ n ≤ 9 := fun y => z ((nI_leI (b := 9) h31 (by omega)).mpr y)
      refine ih (K := fun u2 => CV X d 296 [.ref 234, .int (nI (48 + n % 10))] u2 (fun u3 => K u3)) (by omega) (by rw [Nat.div_lt_iff_lt_mul (by decide), ← Nat.pow_succ]; exact hn) (by omega) h (by omega) (fun u' hu' => ?_)
      have := dgs_len f (n / 10)
      refine c_mw (by omega) hu' (by rw [List.length_append, dbt_len]; omega) (fun u2 hu2 => hK u2 ?_)
      rw [dgs, if_neg (by omega), dbt_app, ← List.append_assoc]
      exact hu2
/-- what stands when the places above 10^k are written -/
def dpre (n k : Nat) : List Nat := if n / 10 ^ k = 0 then [] else dgs 9 (n / 10 ^ k)
theorem dpre_w {n k : Nat} (hn : n < 10 ^ 10) (h : n / 10 ^ k ≠ 0) : dgs 9 (n / 10 ^ k) = dpre n (k + 1) ++ [n / 10 ^ k % 10] := by
  have e : n / 10 ^ (k + 1) = n / 10 ^ k / 10 := by rw [Nat.pow_succ, Nat.div_div_eq_div_mul]
  have hb : n / 10 ^ k < 10 ^ 10 := Nat.lt_of_le_of_lt (Nat.div_le_self _ _) hn
  unfold dpre
  rw [e]
  generalize n / 10 ^ k = q at *
  by_cases h1 : q < 10
  · rw [if_pos (by omega), dgs, if_pos h1, Nat.mod_eq_of_lt h1]; rfl
  · rw [if_neg (by omega), dgs, if_neg h1]
    have : dgs 9 (q / 10) = dgs 8 (q / 10) := dgs_f 8 _ (by omega)
    rw [this]
theorem l_enum {d n : Nat} {K : Mm → Prop} (hd : 1 ≤ d) (hn : n < 2 ^ 31) (h0 : n ≠ 0) (hl : l.length + 10 ≤ 32) (hK : ∀ u', PlS u0 u' (l ++ dbt (dgs 9 n)) → K u') : ∀ k u, k ≤ 9 → PlS u0 u (l ++ dbt (dpre n (k + 1))) → VV X d 166 K 6 [some (.ref 0), some (.int (nI n)), some (.int (if n / 10 ^ (k + 1) = 0 then 0 else 1)), some (.int (nI (10 ^ k))), none] [] u := by
  have hn10 : n < 10 ^ 10 := Nat.lt_trans hn (by decide)
  have hlen : ∀ k, (l ++ dbt (dpre n (k + 1))).length < 32 := by
    intro k
    rw [List.length_append, dbt_len]
    unfold dpre
    have hq : n / 10 ^ (k + 1) ≤ n / 10 := by
      rw [Nat.pow_succ, Nat.mul_comm, ← Nat.div_div_eq_div_mul]
      exact Nat.div_le_self _ _
    generalize n / 10 ^ (k + 1) = q at hq
    split
    · simp; omega
    · have := dgs_f 8 q (by omega)
      have h2 := dgs_len 8 q
      rw [this]; omega
  have body : ∀ k u, k ≤ 9 → PlS u0 u (l ++ dbt (dpre n (k + 1))) → (∀ u', PlS u0 u' (l ++ dbt (dpre n k)) → VV X d 166 K 6 [some (.ref 0), some (.int (nI n)), some (.int (if n / 10 ^ k = 0 then 0 else 1)), some (.int (nI (10 ^ k) / (10 : Int32))), none] [] u') → VV X d 166 K 6 [some (.ref 0), some (.int (nI n)), some (.int (if n / 10 ^ (k + 1) = 0 then 0 else 1)), some (.int (nI (10 ^ k))), none] [] u := by
    intro k u hk hp hnx
    have ht : 0 < 10 ^ k ∧ 10 ^ k < 2 ^ 31 := ⟨Nat.pow_pos (by decide), Nat.lt_of_le_of_lt (Nat.pow_le_pow_right (by decide) hk) (by decide)⟩
    have e : n / 10 ^ (k + 1) = n / 10 ^ k / 10 := by rw [Nat.pow_succ, Nat.div_div_eq_div_mul]
    have hq : n / 10 ^ k < 2 ^ 31 := Nat.lt_of_le_of_lt (Nat.div_le_self _ _) hn
    have wr : n / 10 ^ k ≠ 0 → CV X d 163 [.ref 0, .int (nI (48 + n / 10 ^ k % 10))] u (fun u1 => VV X d 166 K 6 [some (.ref 0), some (.int (nI n)), some (.int (1 : Int32)), some (.int (nI (10 ^ k) / (10 : Int32))), none] [] u1) := by
      intro hne
      refine c_eb hd hp (hlen k) (fun u' hu' => ?_)
      have := hnx u' (by
        show PlS u0 u' (l ++ dbt (if n / 10 ^ k = 0 then [] else dgs 9 (n / 10 ^ k)))
        rw [if_neg hne, dpre_w hn10 hne, dbt_app, ← List.append_assoc]
        exact hu')
      rw [if_neg hne] at this
      exact this
    refine B_S_engraveNumber_6 ?_
    have e10 : (10 : Int32) = nI 10 := rfl
    rw [pk_div hn ht.1 ht.2]
    rw [show nI (n / 10 ^ k) - nI (n / 10 ^ k) / (10 : Int32) * (10 : Int32) = nI (n / 10 ^ k % 10) from pk_rem hq (by decide) (by decide)]
    rw [show (48 : Int32) + nI (n / 10 ^ k % 10) = nI (48 + n / 10 ^ k % 10) from nI_add 48 _]
    refine ⟨fun z => absurd z (nI_nle ht.1 ht.2), fun _ => ⟨fun z => absurd ((nI_eq (b := 0) ht.2 (by decide)).mp z) (by omega), ?_⟩⟩
    by_cases hz : n / 10 ^ (k + 1) = 0
    · rw [if_pos hz]
      refine ⟨fun z => absurd rfl z, fun _ => ⟨fun z => ⟨fun y => absurd y (by decide), fun _ => wr ?_⟩, fun z => ?_⟩⟩
      · have : 0 < n / 10 ^ k % 10 := (nI_ltI (a := 0) (by omega) (by omega)).mp z
        intro y
        rw [y] at this
        exact absurd this (by decide)
      · have z : ¬ 0 < n / 10 ^ k % 10 := fun y => z ((nI_ltI (a := 0) (by omega) (by omega)).mpr y)
        have hq0 : n / 10 ^ k = 0 := by
          rw [e] at hz
          generalize n / 10 ^ k = q at *
          omega
        have hk0 : k ≠ 0 := fun y => by
          subst y
          rw [Nat.pow_zero, Nat.div_one] at hq0
          exact h0 hq0
        have h1 : 10 ≤ 10 ^ k := by
          have := Nat.pow_le_pow_right (n := 10) (by decide) (show 1 ≤ k by omega)
          simpa using this
        refine ⟨fun _ => ⟨fun _ => ?_, fun y => absurd rfl y⟩, fun y => absurd ((nI_eq (b := 1) ht.2 (by decide)).mp y) (by omega)⟩
        have := hnx u (by
          show PlS u0 u (l ++ dbt (if n / 10 ^ k = 0 then [] else dgs 9 (n / 10 ^ k)))
          rw [if_pos hq0]
          unfold dpre at hp
          rw [if_pos hz] at hp
          exact hp)
        rw [if_pos hq0] at this
        exact this
    · rw [if_neg hz]
      refine ⟨fun _ => ⟨fun y => absurd y (by decide), fun _ => wr ?_⟩, fun z => absurd z (by decide)⟩
      intro y
      rw [e, y] at hz
      exact hz rfl
  intro k
  induction k with
  | zero =>
    refine fun u hk hp => body 0 u hk hp (fun u' hu' => ?_)
    refine B_S_engraveNumber_6 ⟨fun _ => hK u' ?_, fun z => absurd (show nI (10 ^ 0) / (10 : Int32) ≤ 0 by decide) z⟩
    unfold dpre at hu'
    rw [Nat.pow_zero, Nat.div_one, if_neg h0] at hu'
    exact hu'
  | succ k ih =>
    refine fun u hk hp => body (k + 1) u hk hp (fun u' hu' => ?_)
    rw [show nI (10 ^ (k + 1)) / (10 : Int32) = nI (10 ^ k) from ?_]
    · exact ih u' (by omega) hu'
    · rw [show (10 : Int32) = nI 10 from rfl, pk_div (Nat.lt_of_le_of_lt (Nat.pow_le_pow_right (by decide) hk) (by decide)) (by decide) (by decide), Nat.pow_succ, Nat.mul_div_cancel _ (by decide)]
theorem c_enum {d n : Nat} {u : Mm} {K : Mm → Prop} (hd : 2 ≤ d) (h : PlS u0 u l) (hn : n < 2 ^ 31) (h0 : n ≠ 0) (hl : l.length + 10 ≤ 32) (hK : ∀ u', PlS u0 u' (l ++ dbt (dgs 9 n)) → K u') : CV X d 166 [.ref 0, .int (nI n)] u K := by
  obtain ⟨d, rfl, hd1⟩ := dpos hd
  refine CV_of mk_X12_engraveNumber.2.2 rfl (B_S_engraveNumber_0 ?_)
  have e : n / 10 ^ (9 + 1) = 0 := Nat.div_eq_of_lt (Nat.lt_trans hn (by decide))
  have := l_enum (u0 := u0) (K := K) (X := X) hd1 hn h0 hl hK 9 u (by omega) (by
    unfold dpre
    rw [if_pos e]
    show PlS u0 u (l ++ [])
    rw [List.append_nil]
    exact h)
  rw [if_pos e] at this
  exact this
end
