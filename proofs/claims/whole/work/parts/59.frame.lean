/-! rows laid anew; what looks at which part of the model's row -/
def mR (u : Mm) (a : Nat) (f : Nat → Int32) : Mm := (fun b k => if b = a then f k else u.1 b k, u.2)
theorem mR_at (u : Mm) (a : Nat) (f : Nat → Int32) (b k : Nat) : (mR u a f).1 b k = if b = a then f k else u.1 b k := rfl
section MR
variable {u : Mm} {a b j : Nat} {f h : Nat → Int32} {x : Int32}
theorem mR_s : (mR u a f).1 a = f := funext fun k => if_pos rfl
theorem mR_n (q : b ≠ a) : (mR u a f).1 b = u.1 b := funext fun k => if_neg q
theorem mR_2 : (mR u a f).2 = u.2 := rfl
theorem mR_w : mI (mR u a f) a j x = mR u a (upd f j x) := by
  refine mm_ext (fun b k => ?_) rfl
  simp only [mI_at, mR_at, upd]
  grind
theorem mR_o (q : b ≠ a) : mI (mR u a f) b j x = mR (mI u b j x) a f := by
  refine mm_ext (fun b k => ?_) rfl
  simp only [mI_at, mR_at]
  grind
theorem mR_mR : mR (mR u a f) a h = mR u a h := by
  refine mm_ext (fun b k => ?_) rfl
  simp only [mR_at]
  grind
theorem mR_eta : mR u a (u.1 a) = u := by
  refine mm_ext (fun b k => ?_) rfl
  simp only [mR_at]
  grind
theorem md_mR {s t : Nat → Int32} {sd sn : Int32} : mR (md u s t sd sn) 236 h = md u h t sd sn := by
  refine mm_ext (fun b k => ?_) rfl
  simp only [mR_at, md_at]
  grind
end MR
section GC
variable {u : Mm} {L C Z : Nat} {g g' s s' : Nat → Int32} {nm : Nat → Int64}
/-- the same but for what is so -/
def Out (g s : Nat → Int32) : Prop := ∀ k, k < 198 ∨ 290 ≤ k → s k = g k
theorem Out.rf : Out g g := fun _ _ => rfl
theorem Out.eA (h : Out g s) : nA s = nA g := by unfold nA; rw [h 3 (by omega)]
theorem Out.eQ (h : Out g s) : nQ s = nQ g := by unfold nQ; rw [h 0 (by omega)]
theorem Out.eK (h : Out g s) : nK s = nK g := by unfold nK; rw [h 2 (by omega)]
theorem Out.eW (h : Out g s) : nW' s = nW' g := by unfold nW'; rw [h 4 (by omega)]
theorem HeadOk.congr (hg : HeadOk g) (h : Out g s) : HeadOk s := by
  have b := hg
  obtain ⟨⟨a1, a2, a3, a4, a5, a6, a7, a8⟩, b1, b2⟩ := hg
  unfold HeadOk
  rw [h.eA, h.eQ, h.eK, h.eW, h 0 (by omega), h 2 (by omega), h 3 (by omega), h 4 (by omega)]
  refine ⟨⟨a1, a2, a3, a4, a5, a6, a7, a8⟩, fun q hq => ?_, fun w hw => ?_⟩
  · rw [h (6 + q) (by omega), h (14 + q) (by omega)]; exact b1 q hq
  · have hl : nLen s w = nLen g w := by unfold nLen; rw [h (126 + w) (by omega)]
    obtain ⟨c1, c2, c3, c4, c5, c6, c7, c8⟩ := b2 w hw
    rw [hl, h (54 + w) (by omega), h (62 + w) (by omega), h (70 + w) (by omega), h (78 + w) (by omega), h (126 + w) (by omega)]
    refine ⟨c1, c2, c3, c4, fun k hk => ?_, c6, c7, fun i hi => ?_⟩
    · rw [h (86 + 5 * w + k) (by omega)]; exact c5 k hk
    · rw [h (134 + 8 * w + i) (by omega)]; exact c8 i hi
theorem cm_congr {w : Nat} {q : Int32} (hg : HeadOk g) (h : Out g s) (hw : w < nW' g) : cm s w q = cm g w q := by
  have hl : nLen s w = nLen g w := by unfold nLen; rw [h (126 + w) (by have := hg.1.2.2.2.2.2.2.2; omega)]
  have h8 := (hg.2.2 w hw).2.2.2.2.2.2.1
  have h9 := hg.1.2.2.2.2.2.2.2
  unfold cm
  rw [hl]
  rw [Bool.eq_iff_iff, List.any_eq_true, List.any_eq_true]
  constructor
  · rintro ⟨i, hi, e⟩
    have := List.mem_range.mp hi
    rw [h (134 + 8 * w + i) (by omega)] at e
    exact ⟨i, hi, e⟩
  · rintro ⟨i, hi, e⟩
    have := List.mem_range.mp hi
    rw [← h (134 + 8 * w + i) (by omega)] at e
    exact ⟨i, hi, e⟩
theorem CityR.gcongr (hg : HeadOk g) (hc : CityR u C g nm) (h : Out g s) : CityR u C s nm := by
  have b := hg
  obtain ⟨⟨a1, a2, a3, a4, a5, a6, a7, a8⟩, b1, b2⟩ := hg
  obtain ⟨⟨e1, e2, e3, e4, e5, e6⟩, c1, c2, c3, c4⟩ := hc
  unfold CityR
  rw [h.eA, h.eQ, h.eK, h.eW, h 0 (by omega), h 2 (by omega), h 3 (by omega), h 4 (by omega), h 1 (by omega), h 5 (by omega)]
  refine ⟨⟨e1, e2, e3, e4, e5, e6⟩, fun q hq => ?_, c2, fun a ha => ?_, fun w hw => ?_⟩
  · rw [h (6 + q) (by omega), h (14 + q) (by omega)]; exact c1 q hq
  · rw [h (46 + a) (by omega)]; exact c3 a ha
  · have hl : nLen s w = nLen g w := by unfold nLen; rw [h (126 + w) (by omega)]
    have h8 := (b2 w hw).2.2.2.2.2.2.1
    obtain ⟨d1, d2, d3, d4, d5, d6, d7, d8, d9⟩ := c4 w hw
    rw [hl, h (54 + w) (by omega), h (62 + w) (by omega), h (70 + w) (by omega), h (78 + w) (by omega), h (126 + w) (by omega)]
    refine ⟨d1, d2, d3, d4, d5, fun k hk => ?_, fun i hi => ?_, fun q hq => ?_, d9⟩
    · rw [h (86 + 5 * w + k) (by omega)]; exact d6 k hk
    · rw [h (134 + 8 * w + i) (by omega)]; exact d7 i hi
    · rw [cm_congr b h hw]; exact d8 q hq
theorem stAt_g {q : Int32} (h : nA g' = nA g) : stAt g' s q = stAt g s q := by unfold stAt; rw [h]
theorem LifeOk.gcongr (h : LifeOk g s) (hA : nA g' = nA g) (hQ : nQ g' = nQ g) (hK : nK g' = nK g) (hW : nW' g' = nW' g) : LifeOk g' s := by
  unfold LifeOk
  rw [hA, hQ, hK, hW]
  exact h
theorem LifeQ.gcongr {l T : Nat → Nat → Int32} (h : LifeQ g s l T) (hA : nA g' = nA g) (hQ : nQ g' = nQ g) (hW : nW' g' = nW' g) : LifeQ g' s l T := by
  unfold LifeQ
  rw [hA, hQ, hW]
  refine ⟨h.1, h.2.1, fun q hq => ?_, h.2.2.2⟩
  rw [stAt_g hA]
  exact h.2.2.1 q hq
theorem LifeR.gcongr (h : LifeR u L g s) (hA : nA g' = nA g) (hQ : nQ g' = nQ g) (hW : nW' g' = nW' g) : LifeR u L g' s := LifeQ.gcongr (l := fun c => u.1 (L + c)) h hA hQ hW
theorem LifeOk.scongr (hA : nA g ≤ 8) (hW : nW' g ≤ 8) (h : LifeOk g s) (e : ∀ k, 198 ≤ k → k < 290 → s' k = s k) : LifeOk g s' := by
  obtain ⟨h2, h3, h4, h5, h6, h7⟩ := h
  unfold LifeOk
  rw [e 198 (by omega) (by omega), e 200 (by omega) (by omega), e 201 (by omega) (by omega)]
  refine ⟨h2, h3, h4, fun a ha => ?_, fun a b ha hb => ?_, fun w hw k hk => ?_⟩
  · rw [e _ (by omega) (by omega), e _ (by omega) (by omega)]; exact h5 a ha
  · rw [e _ (by omega) (by omega), e _ (by omega) (by omega)]; exact h6 a b ha hb
  · rw [e _ (by omega) (by omega)]; exact h7 w hw k hk
theorem LifeR.scongr (hA : nA g ≤ 8) (hW : nW' g ≤ 8) (h : LifeR u L g s) (e : ∀ k, 198 ≤ k → k < 290 → s' k = s k) : LifeR u L g s' := by
  obtain ⟨h2, h3, h4, h5⟩ := h
  unfold LifeR
  rw [e 198 (by omega) (by omega), e 199 (by omega) (by omega), e 200 (by omega) (by omega), e 201 (by omega) (by omega)]
  refine ⟨h2, fun a ha => ?_, fun q hq => ?_, fun w hw => ⟨?_, fun k hk => ?_⟩⟩
  · rw [e _ (by omega) (by omega), e _ (by omega) (by omega), e _ (by omega) (by omega), e _ (by omega) (by omega), e _ (by omega) (by omega)]; exact h3 a ha
  · rw [stAt_congr (s' := s') (s := s) (fun a ha => e _ (by omega) (by omega))]; exact h4 q hq
  · rw [e _ (by omega) (by omega)]; exact (h5 w hw).1
  · rw [e _ (by omega) (by omega)]; exact (h5 w hw).2 k hk
theorem sEnc_congr (h : ∀ k, 290 ≤ k → s' k = s k) : ∀ n k, sEnc s' n k = sEnc s n k
  | 0, _ => rfl
  | n + 1, k => by
    unfold sEnc
    rw [h _ (by omega), h _ (by omega), h _ (by omega), h _ (by omega), sEnc_congr h n, sEnc_congr h n]
theorem SentOk.congr (hs : SentOk s) (h : ∀ k, 290 ≤ k → s' k = s k) : SentOk s' := by
  unfold SentOk
  rw [h 290 (by omega), h 291 (by omega)]
  rcases hs with q | ⟨q, t, ht, e, r⟩
  · exact Or.inl q
  · refine Or.inr ⟨q, t, ht, e, fun k hk => ?_⟩
    rw [h _ (by omega), h _ (by omega), h _ (by omega), h _ (by omega)]
    exact r k hk
theorem SentR.gcongr (hs : SentR u Z s) (h : ∀ k, 290 ≤ k → s' k = s k) : SentR u Z s' := by
  unfold SentR
  rw [h 290 (by omega), h 291 (by omega), sEnc_congr h]
  exact hs
end GC
/-- an act: the model's row is s now, the life at 20 is it, the rest is as it was -/
theorem Rl_act {u v : Mm} {s : Nat → Int32} (h : Rl u) (t : AG relT u v) (k : AG relK u v) (im : AG relI u v) (h2 : v.2 = u.2) (cy : ∀ k, 2 ≤ k → k ≤ 13 → v.1 (5 + k) = u.1 (5 + k)) (c2 : v.1 5 2 = u.1 5 2) (c3 : v.1 5 3 = u.1 5 3) (z0 : v.1 29 0 = u.1 29 0) (zz : ∀ k, 1 ≤ k → k ≤ 3 → v.1 (29 + k) = u.1 (29 + k)) (e : v.1 236 = s) (ho : Out (u.1 236) s) (hl : LifeOk (u.1 236) s) (hr : LifeR v 20 (u.1 236) s) (hp : PastR v) : Rl v := by
  obtain ⟨rt, rw', rk, ⟨w1, w2, w3, w4, w5, w6⟩, rp, ri⟩ := h
  refine ⟨rt.congr t, rw'.congr (by rw [h2]), rk.congr k, ?_, hp, ri.congr im (by rw [h2]) (by rw [h2]) (by rw [h2])⟩
  rw [e, h2]
  exact ⟨w1.congr ho, (w2.gcongr w1 ho).congr c2 c3 cy (by rw [h2]), hl.gcongr ho.eA ho.eQ ho.eK ho.eW, hr.gcongr ho.eA ho.eQ ho.eW, w5.congr (fun k hk => ho k (Or.inr hk)), (w6.gcongr (fun k hk => ho k (Or.inr hk))).congr z0 zz⟩
