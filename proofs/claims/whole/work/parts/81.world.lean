/-! worlds copied: image, restore -/
section WC
variable {u v : Mm} {L C Z S D : Nat} {g g' s s' : Nat → Int32} {nm nm' : Nat → Int64}
/-- the same city -/
def Hd (g s : Nat → Int32) : Prop := ∀ k, k < 198 → s k = g k
theorem Hd.eA (h : Hd g s) : nA s = nA g := by unfold nA; rw [h 3 (by omega)]
theorem Hd.eQ (h : Hd g s) : nQ s = nQ g := by unfold nQ; rw [h 0 (by omega)]
theorem Hd.eK (h : Hd g s) : nK s = nK g := by unfold nK; rw [h 2 (by omega)]
theorem Hd.eW (h : Hd g s) : nW' s = nW' g := by unfold nW'; rw [h 4 (by omega)]
theorem HeadOk.congr_h (hg : HeadOk g) (h : Hd g s) : HeadOk s := by
  have b := hg
  obtain ⟨⟨a1, a2, a3, a4, a5, a6, a7, a8⟩, b1, b2⟩ := hg
  unfold HeadOk
  rw [h.eA, h.eQ, h.eK, h.eW, h 0 (by omega), h 2 (by omega), h 3 (by omega), h 4 (by omega)]
  refine ⟨⟨a1, a2, a3, a4, a5, a6, a7, a8⟩, fun q hq => ?_, fun w hw => ?_⟩
  · rw [h (6 + q) (by omega), h (14 + q) (by omega)]; exact b1 q hq
  · have hl : nLen s w = nLen g w := by unfold nLen; rw [h (126 + w) (by omega)]
    obtain ⟨c1, c2, c3, c4, c5, c6, c7, c8⟩ := b2 w hw
    rw [hl, h (54 + w) (by omega), h (62 + w) (by omega), h (70 + w) (by omega), h (78 + w) (by omega), h (126 + w) (by omega)]
    refine ⟨c1, c2, c3, c4, fun k hk => ?_, c6, c7, fun i hi => ?_⟩
    · rw [h (86 + 5 * w + k) (by omega)]; exact c5 k hk
    · rw [h (134 + 8 * w + i) (by omega)]; exact c8 i hi
theorem cm_congr_h {w : Nat} {q : Int32} (hg : HeadOk g) (h : Hd g s) (hw : w < nW' g) : cm s w q = cm g w q := by
  have hl : nLen s w = nLen g w := by unfold nLen; rw [h (126 + w) (by have := hg.1.2.2.2.2.2.2.2; omega)]
  have h8 := (hg.2.2 w hw).2.2.2.2.2.2.1
  have h9 := hg.1.2.2.2.2.2.2.2
  unfold cm
  rw [hl]
  rw [Bool.eq_iff_iff, List.any_eq_true, List.any_eq_true]
  constructor
  · rintro ⟨i, hi, e⟩
    have := List.mem_range.mp hi
    rw [h (134 + 8 * w + i) (by omega)] at e
    exact ⟨i, hi, e⟩
  · rintro ⟨i, hi, e⟩
    have := List.mem_range.mp hi
    rw [← h (134 + 8 * w + i) (by omega)] at e
    exact ⟨i, hi, e⟩
theorem CityR.gcongr_h (hg : HeadOk g) (hc : CityR u C g nm) (h : Hd g s) : CityR u C s nm := by
  have b := hg
  obtain ⟨⟨a1, a2, a3, a4, a5, a6, a7, a8⟩, b1, b2⟩ := hg
  obtain ⟨⟨e1, e2, e3, e4, e5, e6⟩, c1, c2, c3, c4⟩ := hc
  unfold CityR
  rw [h.eA, h.eQ, h.eK, h.eW, h 0 (by omega), h 2 (by omega), h 3 (by omega), h 4 (by omega), h 1 (by omega), h 5 (by omega)]
  refine ⟨⟨e1, e2, e3, e4, e5, e6⟩, fun q hq => ?_, c2, fun a ha => ?_, fun w hw => ?_⟩
  · rw [h (6 + q) (by omega), h (14 + q) (by omega)]; exact c1 q hq
  · rw [h (46 + a) (by omega)]; exact c3 a ha
  · have hl : nLen s w = nLen g w := by unfold nLen; rw [h (126 + w) (by omega)]
    have h8 := (b2 w hw).2.2.2.2.2.2.1
    obtain ⟨d1, d2, d3, d4, d5, d6, d7, d8, d9⟩ := c4 w hw
    rw [hl, h (54 + w) (by omega), h (62 + w) (by omega), h (70 + w) (by omega), h (78 + w) (by omega), h (126 + w) (by omega)]
    refine ⟨d1, d2, d3, d4, d5, fun k hk => ?_, fun i hi => ?_, fun q hq => ?_, d9⟩
    · rw [h (86 + 5 * w + k) (by omega)]; exact d6 k hk
    · rw [h (134 + 8 * w + i) (by omega)]; exact d7 i hi
    · rw [cm_congr_h b h hw]; exact d8 q hq
theorem CityR.ncongr (hg : HeadOk g) (hc : CityR u C g nm) (h : ∀ i, i < 29 → nm' i = nm i) : CityR u C g nm' := by
  obtain ⟨⟨a1, a2, a3, a4, a5, a6, a7, a8⟩, b1, b2⟩ := hg
  obtain ⟨e, c1, c2, c3, c4⟩ := hc
  refine ⟨e, fun q hq => ?_, fun k hk => ?_, fun a ha => ?_, fun w hw => ?_⟩
  · rw [h q (by omega)]; exact c1 q hq
  · rw [h (8 + k) (by omega)]; exact c2 k hk
  · rw [h (13 + a) (by omega)]; exact c3 a ha
  · rw [h (21 + w) (by omega)]; exact c4 w hw
theorem sEnc_b {t : Nat} (ht : t < 40) (hn : ∀ k, k ≤ t → (s (292 + 4 * k) = 1 ∧ ∃ x, x < k ∧ s (293 + 4 * k) = nI x) ∨ ((s (292 + 4 * k) = 2 ∨ s (292 + 4 * k) = 3) ∧ (∃ x, x < k ∧ s (293 + 4 * k) = nI x) ∧ ∃ y, y < k ∧ s (294 + 4 * k) = nI y) ∨ ∃ w, 65 ≤ w ∧ w ≤ 73 ∧ s (292 + 4 * k) = nI w ∧ (70 ≤ w → s (295 + 4 * k) = 60 ∨ s (295 + 4 * k) = 61 ∨ s (295 + 4 * k) = 62)) (h : ∀ k, 290 ≤ k → k < 532 → s' k = s k) : ∀ n x, x ≤ t → sEnc s' n (nI x) = sEnc s n (nI x)
  | 0, _, _ => rfl
  | n + 1, x, hx => by
    unfold sEnc
    rw [nI_clamp (show x < 2 ^ 31 by omega), h _ (by omega) (by omega), h _ (by omega) (by omega), h _ (by omega) (by omega), h _ (by omega) (by omega)]
    rcases hn x hx with ⟨e, y, hy, ey⟩ | ⟨e, ⟨y, hy, ey⟩, ⟨z, hz, ez⟩⟩ | ⟨w, w1, w2, e, -⟩
    · rw [if_pos e, if_pos e, ey, sEnc_b ht hn h n y (by omega)]
    · have e1 : ¬ s (292 + 4 * x) = 1 := by
        rcases e with e | e <;> rw [e] <;> decide
      rw [if_neg e1, if_neg e1, ey, ez, sEnc_b ht hn h n y (by omega), sEnc_b ht hn h n z (by omega)]
    · have e1 : ∀ m, m < 60 → ¬ s (292 + 4 * x) = nI m := fun m hm q => by
        rw [e] at q
        have := (nI_eq (by omega) (by omega)).mp q
        omega
      have f1 : ¬ s (292 + 4 * x) = 1 := e1 1 (by omega)
      have f2 : ¬ s (292 + 4 * x) = 2 := e1 2 (by omega)
      have f3 : ¬ s (292 + 4 * x) = 3 := e1 3 (by omega)
      rw [if_neg f1, if_neg f1, if_neg f2, if_neg f2, if_neg f3, if_neg f3]
theorem SentOk.congr_b (hs : SentOk s) (h : ∀ k, 290 ≤ k → k < 532 → s' k = s k) : SentOk s' := by
  unfold SentOk
  rw [h 290 (by omega) (by omega), h 291 (by omega) (by omega)]
  rcases hs with q | ⟨q, t, ht, e, r⟩
  · exact Or.inl q
  · refine Or.inr ⟨q, t, ht, e, fun k hk => ?_⟩
    rw [h _ (by omega) (by omega), h _ (by omega) (by omega), h _ (by omega) (by omega), h _ (by omega) (by omega)]
    exact r k hk
theorem SentR.gcongr_b (ho : SentOk s) (hs : SentR u Z s) (h : ∀ k, 290 ≤ k → k < 532 → s' k = s k) : SentR u Z s' := by
  unfold SentR
  rw [h 290 (by omega) (by omega), h 291 (by omega) (by omega)]
  rcases ho with q | ⟨q, t, ht, e, r⟩
  · rcases hs with hs | hs
    · exact Or.inl hs
    · rw [q] at hs; exact absurd hs.1 (by decide)
  · rw [e, sEnc_b ht r h 60 t (Nat.le_refl _), ← e]
    exact hs
theorem WorldR.g532 (hw : WorldR u C L Z g nm) (h : ∀ i, i < 532 → g' i = g i) (hn : ∀ i, i < 29 → nm' i = nm i) : WorldR u C L Z g' nm' := by
  obtain ⟨w1, w2, w3, w4, w5, w6⟩ := hw
  have hd : Hd g g' := fun k hk => h k (by omega)
  have hA : nA g' ≤ 8 := by rw [hd.eA]; exact w1.1.2.2.2.2.2.1
  have hW : nW' g' ≤ 8 := by rw [hd.eW]; exact w1.1.2.2.2.2.2.2.2
  have w1' := w1.congr_h hd
  exact ⟨w1', (w2.gcongr_h w1 hd).ncongr w1' hn, (w3.gcongr hd.eA hd.eQ hd.eK hd.eW).scongr hA hW (fun k _ _ => h k (by omega)), (w4.gcongr hd.eA hd.eQ hd.eW).scongr hA hW (fun k _ _ => h k (by omega)), w5.congr_b (fun k _ _ => h k (by omega)), w6.gcongr_b w5 (fun k _ _ => h k (by omega))⟩
def cln (k : Nat) : Nat := if k = 2 then 4 else if k = 10 then 40 else if k = 11 then 64 else 8
theorem cln8 {k j : Nat} (h2 : k ≠ 2) (hj : j < 8) : j < cln k := by
  unfold cln
  rw [if_neg h2]
  split
  · omega
  · split <;> omega
/-- the city at D is that at S now -/
def CC (u v : Mm) (S D : Nat) : Prop := (∀ b, b < D ∨ D + 13 < b → v.1 b = u.1 b) ∧ (∀ b, b ≠ D + 1 → v.2 b = u.2 b) ∧ v.1 D 2 = u.1 S 2 ∧ v.1 D 3 = u.1 S 3 ∧ (∀ k, 2 ≤ k → k ≤ 13 → ∀ j, j < cln k → v.1 (D + k) j = u.1 (S + k) j) ∧ ∀ j, j < 32 → v.2 (D + 1) j = u.2 (S + 1) j
def ZC (u v : Mm) (S D : Nat) : Prop := (∀ b, b < D ∨ D + 3 < b → v.1 b = u.1 b) ∧ v.2 = u.2 ∧ v.1 D 0 = u.1 S 0 ∧ ∀ k, 1 ≤ k → k ≤ 3 → ∀ j, j < 40 → v.1 (D + k) j = u.1 (S + k) j
/-- the world at D is that at S now -/
def CW (u v : Mm) (S D : Nat) : Prop := (∀ b, b < D ∨ D + 27 < b → v.1 b = u.1 b) ∧ (∀ b, b ≠ D + 1 → v.2 b = u.2 b) ∧ (v.1 D 2 = u.1 S 2 ∧ v.1 D 3 = u.1 S 3 ∧ (∀ k, 2 ≤ k → k ≤ 13 → ∀ j, j < cln k → v.1 (D + k) j = u.1 (S + k) j) ∧ ∀ j, j < 32 → v.2 (D + 1) j = u.2 (S + 1) j) ∧ ((∀ j, 1 ≤ j → j ≤ 4 → v.1 (D + 15) j = u.1 (S + 15) j) ∧ ∀ k, 1 ≤ k → k ≤ 8 → ∀ j, j < (if k = 8 then 40 else 8) → v.1 (D + 15 + k) j = u.1 (S + 15 + k) j) ∧ v.1 (D + 24) 0 = u.1 (S + 24) 0 ∧ ∀ k, 1 ≤ k → k ≤ 3 → ∀ j, j < 40 → v.1 (D + 24 + k) j = u.1 (S + 24 + k) j
theorem WorldR.cw (hw : WorldR u S (S + 15) (S + 24) g nm) (h : CW u v S D) : WorldR v D (D + 15) (D + 24) g nm := by
  obtain ⟨w1, w2, w3, w4, w5, w6⟩ := hw
  obtain ⟨-, -, ⟨f2, f3, hr, hn⟩, ⟨hl0, hl⟩, hz0, hz⟩ := h
  have r8 : ∀ k j, 2 ≤ k → k ≤ 13 → k ≠ 2 → j < 8 → v.1 (D + k) j = u.1 (S + k) j := fun k j a b c e => hr k a b j (cln8 c e)
  refine ⟨w1, ?_, w3, ?_, w5, ?_⟩
  · obtain ⟨⟨a1, a2, a3, a4, a5, a6, a7, a8⟩, b1, b2⟩ := w1
    obtain ⟨⟨e1, e2, e3, e4, e5, e6⟩, c1, c2, c3, c4⟩ := w2
    refine ⟨⟨?_, ?_, ?_, ?_, f2.trans e5, f3.trans e6⟩, fun q hq => ?_, fun k hk => ?_, fun a ha => ?_, fun w hw => ?_⟩
    · exact (hr 2 (by omega) (by omega) 0 (by decide)).trans e1
    · exact (hr 2 (by omega) (by omega) 1 (by decide)).trans e2
    · exact (hr 2 (by omega) (by omega) 2 (by decide)).trans e3
    · exact (hr 2 (by omega) (by omega) 3 (by decide)).trans e4
    · rw [r8 3 q (by omega) (by omega) (by omega) (by omega), r8 4 q (by omega) (by omega) (by omega) (by omega), hn q (by omega)]; exact c1 q hq
    · rw [hn (8 + k) (by omega)]; exact c2 k hk
    · rw [r8 5 a (by omega) (by omega) (by omega) (by omega), hn (16 + a) (by omega)]; exact c3 a ha
    · obtain ⟨d1, d2, d3, d4, d5, d6, d7, d8, d9⟩ := c4 w hw
      have h8 := (b2 w hw).2.2.2.2.2.2.1
      rw [r8 6 w (by omega) (by omega) (by omega) (by omega), r8 7 w (by omega) (by omega) (by omega) (by omega), r8 8 w (by omega) (by omega) (by omega) (by omega), r8 9 w (by omega) (by omega) (by omega) (by omega), r8 12 w (by omega) (by omega) (by omega) (by omega), r8 13 w (by omega) (by omega) (by omega) (by omega), hn (24 + w) (by omega)]
      refine ⟨d1, d2, d3, d4, d5, fun k hk => ?_, fun i hi => ?_, d8, d9⟩
      · rw [hr 10 (by omega) (by omega) (5 * w + k) (by show 5 * w + k < 40; omega)]; exact d6 k hk
      · rw [hr 11 (by omega) (by omega) (8 * w + i) (by show 8 * w + i < 64; omega)]; exact d7 i hi
  · have hA := w1.1.2.2.2.2.2.1
    have hQ := w1.1.2.1
    have hW := w1.1.2.2.2.2.2.2.2
    obtain ⟨⟨e1, e2, e3, e4⟩, c1, c2, c3⟩ := w4
    have l8 : ∀ k j, 1 ≤ k → k ≤ 7 → j < 8 → v.1 (D + 15 + k) j = u.1 (S + 15 + k) j := fun k j a b c => hl k a (by omega) j (by rw [if_neg (by omega)]; exact c)
    refine ⟨⟨?_, ?_, ?_, ?_⟩, fun a ha => ?_, fun q hq => ?_, fun w hw => ⟨?_, fun k hk => ?_⟩⟩
    · rw [hl0 1 (by omega) (by omega)]; exact e1
    · rw [hl0 2 (by omega) (by omega)]; exact e2
    · rw [hl0 4 (by omega) (by omega)]; exact e3
    · rw [hl0 3 (by omega) (by omega)]; exact e4
    · rw [l8 1 a (by omega) (by omega) (by omega), l8 2 a (by omega) (by omega) (by omega), l8 4 a (by omega) (by omega) (by omega), l8 5 a (by omega) (by omega) (by omega), l8 6 a (by omega) (by omega) (by omega)]; exact c1 a ha
    · rw [l8 3 q (by omega) (by omega) (by omega)]; exact c2 q hq
    · rw [l8 7 w (by omega) (by omega) (by omega)]; exact (c3 w hw).1
    · rw [hl 8 (by omega) (by omega) (5 * w + k) (by rw [if_pos rfl]; omega)]; exact (c3 w hw).2 k hk
  · rcases w6 with ⟨q, e⟩ | ⟨q, l1, l2, e, f⟩
    · exact Or.inl ⟨q, hz0.trans e⟩
    · refine Or.inr ⟨q, l1, l2, hz0.trans e, fun i hi => ?_⟩
      rw [hz 1 (by omega) (by omega) i (by omega), hz 2 (by omega) (by omega) i (by omega), hz 3 (by omega) (by omega) i (by omega)]
      exact f i hi
end WC
theorem mCJ_1 {u : Mm} {s a b c n : Nat} : (mCJ u s a b c n).1 = u.1 := rfl
theorem cpy_ltJ {f h : Nat → Int64} {n k : Nat} (hk : k < n) : va_cpy f h 0 0 n k = f k := by
  rw [pk_cpy_in (by omega) (by omega)]
  congr 1
  omega
section WCopy
variable {X : Xc} {d : Nat} {u : Mm} {K : Mm → Prop}
theorem c_ccopy5_120 (hd : 2 ≤ d) (hK : ∀ v, CC u v 120 5 → K v) : CV X d 3 [.ref 5, .ref 120] u K := by
  obtain ⟨d, rfl, hd1⟩ := dpos hd
  refine CV_of mk_X0_copyFrom.2.2 rfl (B_C5_copyFrom120_0 ?_)
  refine c_copy (n := 4) hd1 ⟨rfl, _, rfl⟩ ⟨rfl, _, rfl⟩ (by omega) ?_
  refine c_copy (n := 8) hd1 ⟨rfl, _, rfl⟩ ⟨rfl, _, rfl⟩ (by omega) ?_
  refine c_copy (n := 8) hd1 ⟨rfl, _, rfl⟩ ⟨rfl, _, rfl⟩ (by omega) ?_
  refine c_copy (n := 8) hd1 ⟨rfl, _, rfl⟩ ⟨rfl, _, rfl⟩ (by omega) ?_
  refine c_copy (n := 8) hd1 ⟨rfl, _, rfl⟩ ⟨rfl, _, rfl⟩ (by omega) ?_
  refine c_copy (n := 8) hd1 ⟨rfl, _, rfl⟩ ⟨rfl, _, rfl⟩ (by omega) ?_
  refine c_copy (n := 8) hd1 ⟨rfl, _, rfl⟩ ⟨rfl, _, rfl⟩ (by omega) ?_
  refine c_copy (n := 8) hd1 ⟨rfl, _, rfl⟩ ⟨rfl, _, rfl⟩ (by omega) ?_
  refine c_copy (n := 40) hd1 ⟨rfl, _, rfl⟩ ⟨rfl, _, rfl⟩ (by omega) ?_
  refine c_copy (n := 64) hd1 ⟨rfl, _, rfl⟩ ⟨rfl, _, rfl⟩ (by omega) ?_
  refine c_copy (n := 8) hd1 ⟨rfl, _, rfl⟩ ⟨rfl, _, rfl⟩ (by omega) ?_
  refine c_copy (n := 8) hd1 ⟨rfl, _, rfl⟩ ⟨rfl, _, rfl⟩ (by omega) ?_
  refine hK _ ⟨fun b hb => ?_, fun b hb => funext fun j => if_neg hb, ?_, ?_, fun k h1 h2 j hj => ?_, fun j hj => ?_⟩
  · simp (disch := omega) only [mC_o, mI_r, mCJ_1]
  · simp (disch := omega) only [mC_o, mI_n, mI_s, mCJ_1]
  · simp (disch := omega) only [mC_o, mI_n, mI_s, mI_r, mCJ_1]
  · rcases (show k = 2 ∨ k = 3 ∨ k = 4 ∨ k = 5 ∨ k = 6 ∨ k = 7 ∨ k = 8 ∨ k = 9 ∨ k = 10 ∨ k = 11 ∨ k = 12 ∨ k = 13 by omega) with rfl | rfl | rfl | rfl | rfl | rfl | rfl | rfl | rfl | rfl | rfl | rfl <;> (simp [cln] at hj; simp (disch := omega) only [Nat.reduceAdd, mC_o, mC_s, mI_r, mCJ_1])
  · show (if 6 = 6 then va_cpy (u.2 121) (u.2 6) 0 0 32 j else u.2 6 j) = _
    rw [if_pos rfl]
    exact cpy_ltJ hj
theorem c_ccopy5_175 (hd : 2 ≤ d) (hK : ∀ v, CC u v 175 5 → K v) : CV X d 3 [.ref 5, .ref 175] u K := by
  obtain ⟨d, rfl, hd1⟩ := dpos hd
  refine CV_of mk_X0_copyFrom.2.2 rfl (B_C5_copyFrom175_0 ?_)
  refine c_copy (n := 4) hd1 ⟨rfl, _, rfl⟩ ⟨rfl, _, rfl⟩ (by omega) ?_
  refine c_copy (n := 8) hd1 ⟨rfl, _, rfl⟩ ⟨rfl, _, rfl⟩ (by omega) ?_
  refine c_copy (n := 8) hd1 ⟨rfl, _, rfl⟩ ⟨rfl, _, rfl⟩ (by omega) ?_
  refine c_copy (n := 8) hd1 ⟨rfl, _, rfl⟩ ⟨rfl, _, rfl⟩ (by omega) ?_
  refine c_copy (n := 8) hd1 ⟨rfl, _, rfl⟩ ⟨rfl, _, rfl⟩ (by omega) ?_
  refine c_copy (n := 8) hd1 ⟨rfl, _, rfl⟩ ⟨rfl, _, rfl⟩ (by omega) ?_
  refine c_copy (n := 8) hd1 ⟨rfl, _, rfl⟩ ⟨rfl, _, rfl⟩ (by omega) ?_
  refine c_copy (n := 8) hd1 ⟨rfl, _, rfl⟩ ⟨rfl, _, rfl⟩ (by omega) ?_
  refine c_copy (n := 40) hd1 ⟨rfl, _, rfl⟩ ⟨rfl, _, rfl⟩ (by omega) ?_
  refine c_copy (n := 64) hd1 ⟨rfl, _, rfl⟩ ⟨rfl, _, rfl⟩ (by omega) ?_
  refine c_copy (n := 8) hd1 ⟨rfl, _, rfl⟩ ⟨rfl, _, rfl⟩ (by omega) ?_
  refine c_copy (n := 8) hd1 ⟨rfl, _, rfl⟩ ⟨rfl, _, rfl⟩ (by omega) ?_
  refine hK _ ⟨fun b hb => ?_, fun b hb => funext fun j => if_neg hb, ?_, ?_, fun k h1 h2 j hj => ?_, fun j hj => ?_⟩
  · simp (disch := omega) only [mC_o, mI_r, mCJ_1]
  · simp (disch := omega) only [mC_o, mI_n, mI_s, mCJ_1]
  · simp (disch := omega) only [mC_o, mI_n, mI_s, mI_r, mCJ_1]
  · rcases (show k = 2 ∨ k = 3 ∨ k = 4 ∨ k = 5 ∨ k = 6 ∨ k = 7 ∨ k = 8 ∨ k = 9 ∨ k = 10 ∨ k = 11 ∨ k = 12 ∨ k = 13 by omega) with rfl | rfl | rfl | rfl | rfl | rfl | rfl | rfl | rfl | rfl | rfl | rfl <;> (simp [cln] at hj; simp (disch := omega) only [Nat.reduceAdd, mC_o, mC_s, mI_r, mCJ_1])
  · show (if 6 = 6 then va_cpy (u.2 176) (u.2 6) 0 0 32 j else u.2 6 j) = _
    rw [if_pos rfl]
    exact cpy_ltJ hj
theorem c_ccopy5_205 (hd : 2 ≤ d) (hK : ∀ v, CC u v 205 5 → K v) : CV X d 3 [.ref 5, .ref 205] u K := by
  obtain ⟨d, rfl, hd1⟩ := dpos hd
  refine CV_of mk_X0_copyFrom.2.2 rfl (B_C5_copyFrom205_0 ?_)
  refine c_copy (n := 4) hd1 ⟨rfl, _, rfl⟩ ⟨rfl, _, rfl⟩ (by omega) ?_
  refine c_copy (n := 8) hd1 ⟨rfl, _, rfl⟩ ⟨rfl, _, rfl⟩ (by omega) ?_
  refine c_copy (n := 8) hd1 ⟨rfl, _, rfl⟩ ⟨rfl, _, rfl⟩ (by omega) ?_
  refine c_copy (n := 8) hd1 ⟨rfl, _, rfl⟩ ⟨rfl, _, rfl⟩ (by omega) ?_
  refine c_copy (n := 8) hd1 ⟨rfl, _, rfl⟩ ⟨rfl, _, rfl⟩ (by omega) ?_
  refine c_copy (n := 8) hd1 ⟨rfl, _, rfl⟩ ⟨rfl, _, rfl⟩ (by omega) ?_
  refine c_copy (n := 8) hd1 ⟨rfl, _, rfl⟩ ⟨rfl, _, rfl⟩ (by omega) ?_
  refine c_copy (n := 8) hd1 ⟨rfl, _, rfl⟩ ⟨rfl, _, rfl⟩ (by omega) ?_
  refine c_copy (n := 40) hd1 ⟨rfl, _, rfl⟩ ⟨rfl, _, rfl⟩ (by omega) ?_
  refine c_copy (n := 64) hd1 ⟨rfl, _, rfl⟩ ⟨rfl, _, rfl⟩ (by omega) ?_
  refine c_copy (n := 8) hd1 ⟨rfl, _, rfl⟩ ⟨rfl, _, rfl⟩ (by omega) ?_
  refine c_copy (n := 8) hd1 ⟨rfl, _, rfl⟩ ⟨rfl, _, rfl⟩ (by omega) ?_
  refine hK _ ⟨fun b hb => ?_, fun b hb => funext fun j => if_neg hb, ?_, ?_, fun k h1 h2 j hj => ?_, fun j hj => ?_⟩
  · simp (disch := omega) only [mC_o, mI_r, mCJ_1]
  · simp (disch := omega) only [mC_o, mI_n, mI_s, mCJ_1]
  · simp (disch := omega) only [mC_o, mI_n, mI_s, mI_r, mCJ_1]
  · rcases (show k = 2 ∨ k = 3 ∨ k = 4 ∨ k = 5 ∨ k = 6 ∨ k = 7 ∨ k = 8 ∨ k = 9 ∨ k = 10 ∨ k = 11 ∨ k = 12 ∨ k = 13 by omega) with rfl | rfl | rfl | rfl | rfl | rfl | rfl | rfl | rfl | rfl | rfl | rfl <;> (simp [cln] at hj; simp (disch := omega) only [Nat.reduceAdd, mC_o, mC_s, mI_r, mCJ_1])
  · show (if 6 = 6 then va_cpy (u.2 206) (u.2 6) 0 0 32 j else u.2 6 j) = _
    rw [if_pos rfl]
    exact cpy_ltJ hj
theorem c_ccopy175_5 (hd : 2 ≤ d) (hK : ∀ v, CC u v 5 175 → K v) : CV X d 3 [.ref 175, .ref 5] u K := by
  obtain ⟨d, rfl, hd1⟩ := dpos hd
  refine CV_of mk_X0_copyFrom.2.2 rfl (B_C175_copyFrom5_0 ?_)
  refine c_copy (n := 4) hd1 ⟨rfl, _, rfl⟩ ⟨rfl, _, rfl⟩ (by omega) ?_
  refine c_copy (n := 8) hd1 ⟨rfl, _, rfl⟩ ⟨rfl, _, rfl⟩ (by omega) ?_
  refine c_copy (n := 8) hd1 ⟨rfl, _, rfl⟩ ⟨rfl, _, rfl⟩ (by omega) ?_
  refine c_copy (n := 8) hd1 ⟨rfl, _, rfl⟩ ⟨rfl, _, rfl⟩ (by omega) ?_
  refine c_copy (n := 8) hd1 ⟨rfl, _, rfl⟩ ⟨rfl, _, rfl⟩ (by omega) ?_
  refine c_copy (n := 8) hd1 ⟨rfl, _, rfl⟩ ⟨rfl, _, rfl⟩ (by omega) ?_
  refine c_copy (n := 8) hd1 ⟨rfl, _, rfl⟩ ⟨rfl, _, rfl⟩ (by omega) ?_
  refine c_copy (n := 8) hd1 ⟨rfl, _, rfl⟩ ⟨rfl, _, rfl⟩ (by omega) ?_
  refine c_copy (n := 40) hd1 ⟨rfl, _, rfl⟩ ⟨rfl, _, rfl⟩ (by omega) ?_
  refine c_copy (n := 64) hd1 ⟨rfl, _, rfl⟩ ⟨rfl, _, rfl⟩ (by omega) ?_
  refine c_copy (n := 8) hd1 ⟨rfl, _, rfl⟩ ⟨rfl, _, rfl⟩ (by omega) ?_
  refine c_copy (n := 8) hd1 ⟨rfl, _, rfl⟩ ⟨rfl, _, rfl⟩ (by omega) ?_
  refine hK _ ⟨fun b hb => ?_, fun b hb => funext fun j => if_neg hb, ?_, ?_, fun k h1 h2 j hj => ?_, fun j hj => ?_⟩
  · simp (disch := omega) only [mC_o, mI_r, mCJ_1]
  · simp (disch := omega) only [mC_o, mI_n, mI_s, mCJ_1]
  · simp (disch := omega) only [mC_o, mI_n, mI_s, mI_r, mCJ_1]
  · rcases (show k = 2 ∨ k = 3 ∨ k = 4 ∨ k = 5 ∨ k = 6 ∨ k = 7 ∨ k = 8 ∨ k = 9 ∨ k = 10 ∨ k = 11 ∨ k = 12 ∨ k = 13 by omega) with rfl | rfl | rfl | rfl | rfl | rfl | rfl | rfl | rfl | rfl | rfl | rfl <;> (simp [cln] at hj; simp (disch := omega) only [Nat.reduceAdd, mC_o, mC_s, mI_r, mCJ_1])
  · show (if 176 = 176 then va_cpy (u.2 6) (u.2 176) 0 0 32 j else u.2 176 j) = _
    rw [if_pos rfl]
    exact cpy_ltJ hj
theorem c_ccopy205_5 (hd : 2 ≤ d) (hK : ∀ v, CC u v 5 205 → K v) : CV X d 3 [.ref 205, .ref 5] u K := by
  obtain ⟨d, rfl, hd1⟩ := dpos hd
  refine CV_of mk_X0_copyFrom.2.2 rfl (B_C205_copyFrom5_0 ?_)
  refine c_copy (n := 4) hd1 ⟨rfl, _, rfl⟩ ⟨rfl, _, rfl⟩ (by omega) ?_
  refine c_copy (n := 8) hd1 ⟨rfl, _, rfl⟩ ⟨rfl, _, rfl⟩ (by omega) ?_
  refine c_copy (n := 8) hd1 ⟨rfl, _, rfl⟩ ⟨rfl, _, rfl⟩ (by omega) ?_
  refine c_copy (n := 8) hd1 ⟨rfl, _, rfl⟩ ⟨rfl, _, rfl⟩ (by omega) ?_
  refine c_copy (n := 8) hd1 ⟨rfl, _, rfl⟩ ⟨rfl, _, rfl⟩ (by omega) ?_
  refine c_copy (n := 8) hd1 ⟨rfl, _, rfl⟩ ⟨rfl, _, rfl⟩ (by omega) ?_
  refine c_copy (n := 8) hd1 ⟨rfl, _, rfl⟩ ⟨rfl, _, rfl⟩ (by omega) ?_
  refine c_copy (n := 8) hd1 ⟨rfl, _, rfl⟩ ⟨rfl, _, rfl⟩ (by omega) ?_
  refine c_copy (n := 40) hd1 ⟨rfl, _, rfl⟩ ⟨rfl, _, rfl⟩ (by omega) ?_
  refine c_copy (n := 64) hd1 ⟨rfl, _, rfl⟩ ⟨rfl, _, rfl⟩ (by omega) ?_
  refine c_copy (n := 8) hd1 ⟨rfl, _, rfl⟩ ⟨rfl, _, rfl⟩ (by omega) ?_
  refine c_copy (n := 8) hd1 ⟨rfl, _, rfl⟩ ⟨rfl, _, rfl⟩ (by omega) ?_
  refine hK _ ⟨fun b hb => ?_, fun b hb => funext fun j => if_neg hb, ?_, ?_, fun k h1 h2 j hj => ?_, fun j hj => ?_⟩
  · simp (disch := omega) only [mC_o, mI_r, mCJ_1]
  · simp (disch := omega) only [mC_o, mI_n, mI_s, mCJ_1]
  · simp (disch := omega) only [mC_o, mI_n, mI_s, mI_r, mCJ_1]
  · rcases (show k = 2 ∨ k = 3 ∨ k = 4 ∨ k = 5 ∨ k = 6 ∨ k = 7 ∨ k = 8 ∨ k = 9 ∨ k = 10 ∨ k = 11 ∨ k = 12 ∨ k = 13 by omega) with rfl | rfl | rfl | rfl | rfl | rfl | rfl | rfl | rfl | rfl | rfl | rfl <;> (simp [cln] at hj; simp (disch := omega) only [Nat.reduceAdd, mC_o, mC_s, mI_r, mCJ_1])
  · show (if 206 = 206 then va_cpy (u.2 6) (u.2 206) 0 0 32 j else u.2 206 j) = _
    rw [if_pos rfl]
    exact cpy_ltJ hj
theorem c_zcopy29_144 (hd : 2 ≤ d) (hK : ∀ v, ZC u v 144 29 → K v) : CV X d 87 [.ref 29, .ref 144] u K := by
  obtain ⟨d, rfl, hd1⟩ := dpos hd
  refine CV_of mk_X8_copyFrom.2.2 rfl (B_Z29_copyFrom144_0 ?_)
  refine c_copy (n := 40) hd1 ⟨rfl, _, rfl⟩ ⟨rfl, _, rfl⟩ (by omega) ?_
  refine c_copy (n := 40) hd1 ⟨rfl, _, rfl⟩ ⟨rfl, _, rfl⟩ (by omega) ?_
  refine c_copy (n := 40) hd1 ⟨rfl, _, rfl⟩ ⟨rfl, _, rfl⟩ (by omega) ?_
  refine hK _ ⟨fun b hb => ?_, rfl, ?_, fun k h1 h2 j hj => ?_⟩
  · simp (disch := omega) only [mC_o, mI_r]
  · simp (disch := omega) only [mC_o, mI_s]
  · rcases (show k = 1 ∨ k = 2 ∨ k = 3 by omega) with rfl | rfl | rfl <;> simp (disch := omega) only [Nat.reduceAdd, mC_o, mC_s, mI_r]
theorem c_zcopy29_155 (hd : 2 ≤ d) (hK : ∀ v, ZC u v 155 29 → K v) : CV X d 87 [.ref 29, .ref 155] u K := by
  obtain ⟨d, rfl, hd1⟩ := dpos hd
  refine CV_of mk_X8_copyFrom.2.2 rfl (B_Z29_copyFrom155_0 ?_)
  refine c_copy (n := 40) hd1 ⟨rfl, _, rfl⟩ ⟨rfl, _, rfl⟩ (by omega) ?_
  refine c_copy (n := 40) hd1 ⟨rfl, _, rfl⟩ ⟨rfl, _, rfl⟩ (by omega) ?_
  refine c_copy (n := 40) hd1 ⟨rfl, _, rfl⟩ ⟨rfl, _, rfl⟩ (by omega) ?_
  refine hK _ ⟨fun b hb => ?_, rfl, ?_, fun k h1 h2 j hj => ?_⟩
  · simp (disch := omega) only [mC_o, mI_r]
  · simp (disch := omega) only [mC_o, mI_s]
  · rcases (show k = 1 ∨ k = 2 ∨ k = 3 by omega) with rfl | rfl | rfl <;> simp (disch := omega) only [Nat.reduceAdd, mC_o, mC_s, mI_r]
theorem c_zcopy199_29 (hd : 2 ≤ d) (hK : ∀ v, ZC u v 29 199 → K v) : CV X d 87 [.ref 199, .ref 29] u K := by
  obtain ⟨d, rfl, hd1⟩ := dpos hd
  refine CV_of mk_X8_copyFrom.2.2 rfl (B_Z199_copyFrom29_0 ?_)
  refine c_copy (n := 40) hd1 ⟨rfl, _, rfl⟩ ⟨rfl, _, rfl⟩ (by omega) ?_
  refine c_copy (n := 40) hd1 ⟨rfl, _, rfl⟩ ⟨rfl, _, rfl⟩ (by omega) ?_
  refine c_copy (n := 40) hd1 ⟨rfl, _, rfl⟩ ⟨rfl, _, rfl⟩ (by omega) ?_
  refine hK _ ⟨fun b hb => ?_, rfl, ?_, fun k h1 h2 j hj => ?_⟩
  · simp (disch := omega) only [mC_o, mI_r]
  · simp (disch := omega) only [mC_o, mI_s]
  · rcases (show k = 1 ∨ k = 2 ∨ k = 3 by omega) with rfl | rfl | rfl <;> simp (disch := omega) only [Nat.reduceAdd, mC_o, mC_s, mI_r]
theorem c_zcopy229_29 (hd : 2 ≤ d) (hK : ∀ v, ZC u v 29 229 → K v) : CV X d 87 [.ref 229, .ref 29] u K := by
  obtain ⟨d, rfl, hd1⟩ := dpos hd
  refine CV_of mk_X8_copyFrom.2.2 rfl (B_Z229_copyFrom29_0 ?_)
  refine c_copy (n := 40) hd1 ⟨rfl, _, rfl⟩ ⟨rfl, _, rfl⟩ (by omega) ?_
  refine c_copy (n := 40) hd1 ⟨rfl, _, rfl⟩ ⟨rfl, _, rfl⟩ (by omega) ?_
  refine c_copy (n := 40) hd1 ⟨rfl, _, rfl⟩ ⟨rfl, _, rfl⟩ (by omega) ?_
  refine hK _ ⟨fun b hb => ?_, rfl, ?_, fun k h1 h2 j hj => ?_⟩
  · simp (disch := omega) only [mC_o, mI_r]
  · simp (disch := omega) only [mC_o, mI_s]
  · rcases (show k = 1 ∨ k = 2 ∨ k = 3 by omega) with rfl | rfl | rfl <;> simp (disch := omega) only [Nat.reduceAdd, mC_o, mC_s, mI_r]
theorem c_zcopy29_199 (hd : 2 ≤ d) (hK : ∀ v, ZC u v 199 29 → K v) : CV X d 87 [.ref 29, .ref 199] u K := by
  obtain ⟨d, rfl, hd1⟩ := dpos hd
  refine CV_of mk_X8_copyFrom.2.2 rfl (B_Z29_copyFrom199_0 ?_)
  refine c_copy (n := 40) hd1 ⟨rfl, _, rfl⟩ ⟨rfl, _, rfl⟩ (by omega) ?_
  refine c_copy (n := 40) hd1 ⟨rfl, _, rfl⟩ ⟨rfl, _, rfl⟩ (by omega) ?_
  refine c_copy (n := 40) hd1 ⟨rfl, _, rfl⟩ ⟨rfl, _, rfl⟩ (by omega) ?_
  refine hK _ ⟨fun b hb => ?_, rfl, ?_, fun k h1 h2 j hj => ?_⟩
  · simp (disch := omega) only [mC_o, mI_r]
  · simp (disch := omega) only [mC_o, mI_s]
  · rcases (show k = 1 ∨ k = 2 ∨ k = 3 by omega) with rfl | rfl | rfl <;> simp (disch := omega) only [Nat.reduceAdd, mC_o, mC_s, mI_r]
theorem c_zcopy29_229 (hd : 2 ≤ d) (hK : ∀ v, ZC u v 229 29 → K v) : CV X d 87 [.ref 29, .ref 229] u K := by
  obtain ⟨d, rfl, hd1⟩ := dpos hd
  refine CV_of mk_X8_copyFrom.2.2 rfl (B_Z29_copyFrom229_0 ?_)
  refine c_copy (n := 40) hd1 ⟨rfl, _, rfl⟩ ⟨rfl, _, rfl⟩ (by omega) ?_
  refine c_copy (n := 40) hd1 ⟨rfl, _, rfl⟩ ⟨rfl, _, rfl⟩ (by omega) ?_
  refine c_copy (n := 40) hd1 ⟨rfl, _, rfl⟩ ⟨rfl, _, rfl⟩ (by omega) ?_
  refine hK _ ⟨fun b hb => ?_, rfl, ?_, fun k h1 h2 j hj => ?_⟩
  · simp (disch := omega) only [mC_o, mI_r]
  · simp (disch := omega) only [mC_o, mI_s]
  · rcases (show k = 1 ∨ k = 2 ∨ k = 3 by omega) with rfl | rfl | rfl <;> simp (disch := omega) only [Nat.reduceAdd, mC_o, mC_s, mI_r]
theorem c_wcopy5_120 (hd : 3 ≤ d) (hK : ∀ v, CW u v 120 5 → K v) : CV X d 122 [.ref 4, .ref 119] u K := by
  obtain ⟨d, rfl, hd1⟩ := dpos hd
  refine CV_of mk_X11_copyFrom.2.2 rfl (B_W4_copyFrom119_0 (c_ccopy5_120 hd1 fun v1 c => ?_))
  suffices hz : CV X d 42 [.ref 20, .ref 135] (lm v1 20 (fun c => v1.1 (20 + c))) (fun u2 => CV X d 87 [.ref 29, .ref 144] u2 (fun u3 => K u3)) by rwa [lm_eta] at hz
  refine c_lcopy20_135 hd1 fun l' hl => ?_
  refine c_zcopy29_144 hd1 fun v3 z => hK v3 ?_
  obtain ⟨c1, c2, c3, c4, c5, c6⟩ := c
  obtain ⟨⟨l1, l2, l3, l4⟩, l5⟩ := hl
  obtain ⟨z1, z2, z3, z4⟩ := z
  refine ⟨fun b hb => ?_, fun b hb => ?_, ⟨?_, ?_, fun k h1 h2 j hj => ?_, fun j hj => ?_⟩, ⟨fun j h1 h2 => ?_, fun k h1 h2 j hj => ?_⟩, ?_, fun k h1 h2 j hj => ?_⟩
  · rw [z1 b (by omega), lm_o (by omega), c1 b (by omega)]
  · rw [z2]; exact c2 b hb
  · rw [z1 _ (by omega), lm_o (by omega)]; exact c3
  · rw [z1 _ (by omega), lm_o (by omega)]; exact c4
  · rw [z1 _ (by omega), lm_o (by omega)]; exact c5 k h1 h2 j hj
  · rw [z2]; exact c6 j hj
  · rw [z1 _ (by omega), lm_in (by omega) (by omega), show 5 + 15 - 20 = 0 by omega]
    have e0 : v1.1 135 = u.1 135 := c1 _ (by omega)
    rw [e0] at l1 l2 l3 l4
    rcases (show j = 1 ∨ j = 2 ∨ j = 3 ∨ j = 4 by omega) with rfl | rfl | rfl | rfl
    · exact l1
    · exact l2
    · exact l3
    · exact l4
  · rw [z1 _ (by omega), lm_in (by omega) (by omega), show 5 + 15 + k - 20 = k by omega, l5 k h1 h2 j hj, c1 _ (by omega)]
  · rw [z3, lm_o (by omega), c1 _ (by omega)]
  · rw [z4 k h1 h2 j hj, lm_o (by omega), c1 _ (by omega)]
theorem c_wcopy5_175 (hd : 3 ≤ d) (hK : ∀ v, CW u v 175 5 → K v) : CV X d 122 [.ref 4, .ref 174] u K := by
  obtain ⟨d, rfl, hd1⟩ := dpos hd
  refine CV_of mk_X11_copyFrom.2.2 rfl (B_W4_copyFrom174_0 (c_ccopy5_175 hd1 fun v1 c => ?_))
  suffices hz : CV X d 42 [.ref 20, .ref 190] (lm v1 20 (fun c => v1.1 (20 + c))) (fun u2 => CV X d 87 [.ref 29, .ref 199] u2 (fun u3 => K u3)) by rwa [lm_eta] at hz
  refine c_lcopy20_190 hd1 fun l' hl => ?_
  refine c_zcopy29_199 hd1 fun v3 z => hK v3 ?_
  obtain ⟨c1, c2, c3, c4, c5, c6⟩ := c
  obtain ⟨⟨l1, l2, l3, l4⟩, l5⟩ := hl
  obtain ⟨z1, z2, z3, z4⟩ := z
  refine ⟨fun b hb => ?_, fun b hb => ?_, ⟨?_, ?_, fun k h1 h2 j hj => ?_, fun j hj => ?_⟩, ⟨fun j h1 h2 => ?_, fun k h1 h2 j hj => ?_⟩, ?_, fun k h1 h2 j hj => ?_⟩
  · rw [z1 b (by omega), lm_o (by omega), c1 b (by omega)]
  · rw [z2]; exact c2 b hb
  · rw [z1 _ (by omega), lm_o (by omega)]; exact c3
  · rw [z1 _ (by omega), lm_o (by omega)]; exact c4
  · rw [z1 _ (by omega), lm_o (by omega)]; exact c5 k h1 h2 j hj
  · rw [z2]; exact c6 j hj
  · rw [z1 _ (by omega), lm_in (by omega) (by omega), show 5 + 15 - 20 = 0 by omega]
    have e0 : v1.1 190 = u.1 190 := c1 _ (by omega)
    rw [e0] at l1 l2 l3 l4
    rcases (show j = 1 ∨ j = 2 ∨ j = 3 ∨ j = 4 by omega) with rfl | rfl | rfl | rfl
    · exact l1
    · exact l2
    · exact l3
    · exact l4
  · rw [z1 _ (by omega), lm_in (by omega) (by omega), show 5 + 15 + k - 20 = k by omega, l5 k h1 h2 j hj, c1 _ (by omega)]
  · rw [z3, lm_o (by omega), c1 _ (by omega)]
  · rw [z4 k h1 h2 j hj, lm_o (by omega), c1 _ (by omega)]
theorem c_wcopy5_205 (hd : 3 ≤ d) (hK : ∀ v, CW u v 205 5 → K v) : CV X d 122 [.ref 4, .ref 204] u K := by
  obtain ⟨d, rfl, hd1⟩ := dpos hd
  refine CV_of mk_X11_copyFrom.2.2 rfl (B_W4_copyFrom204_0 (c_ccopy5_205 hd1 fun v1 c => ?_))
  suffices hz : CV X d 42 [.ref 20, .ref 220] (lm v1 20 (fun c => v1.1 (20 + c))) (fun u2 => CV X d 87 [.ref 29, .ref 229] u2 (fun u3 => K u3)) by rwa [lm_eta] at hz
  refine c_lcopy20_220 hd1 fun l' hl => ?_
  refine c_zcopy29_229 hd1 fun v3 z => hK v3 ?_
  obtain ⟨c1, c2, c3, c4, c5, c6⟩ := c
  obtain ⟨⟨l1, l2, l3, l4⟩, l5⟩ := hl
  obtain ⟨z1, z2, z3, z4⟩ := z
  refine ⟨fun b hb => ?_, fun b hb => ?_, ⟨?_, ?_, fun k h1 h2 j hj => ?_, fun j hj => ?_⟩, ⟨fun j h1 h2 => ?_, fun k h1 h2 j hj => ?_⟩, ?_, fun k h1 h2 j hj => ?_⟩
  · rw [z1 b (by omega), lm_o (by omega), c1 b (by omega)]
  · rw [z2]; exact c2 b hb
  · rw [z1 _ (by omega), lm_o (by omega)]; exact c3
  · rw [z1 _ (by omega), lm_o (by omega)]; exact c4
  · rw [z1 _ (by omega), lm_o (by omega)]; exact c5 k h1 h2 j hj
  · rw [z2]; exact c6 j hj
  · rw [z1 _ (by omega), lm_in (by omega) (by omega), show 5 + 15 - 20 = 0 by omega]
    have e0 : v1.1 220 = u.1 220 := c1 _ (by omega)
    rw [e0] at l1 l2 l3 l4
    rcases (show j = 1 ∨ j = 2 ∨ j = 3 ∨ j = 4 by omega) with rfl | rfl | rfl | rfl
    · exact l1
    · exact l2
    · exact l3
    · exact l4
  · rw [z1 _ (by omega), lm_in (by omega) (by omega), show 5 + 15 + k - 20 = k by omega, l5 k h1 h2 j hj, c1 _ (by omega)]
  · rw [z3, lm_o (by omega), c1 _ (by omega)]
  · rw [z4 k h1 h2 j hj, lm_o (by omega), c1 _ (by omega)]
theorem c_wcopy175_5 (hd : 3 ≤ d) (hK : ∀ v, CW u v 5 175 → K v) : CV X d 122 [.ref 174, .ref 4] u K := by
  obtain ⟨d, rfl, hd1⟩ := dpos hd
  refine CV_of mk_X11_copyFrom.2.2 rfl (B_W174_copyFrom4_0 (c_ccopy175_5 hd1 fun v1 c => ?_))
  suffices hz : CV X d 42 [.ref 190, .ref 20] (lm v1 190 (fun c => v1.1 (190 + c))) (fun u2 => CV X d 87 [.ref 199, .ref 29] u2 (fun u3 => K u3)) by rwa [lm_eta] at hz
  refine c_lcopy190_20 hd1 fun l' hl => ?_
  refine c_zcopy199_29 hd1 fun v3 z => hK v3 ?_
  obtain ⟨c1, c2, c3, c4, c5, c6⟩ := c
  obtain ⟨⟨l1, l2, l3, l4⟩, l5⟩ := hl
  obtain ⟨z1, z2, z3, z4⟩ := z
  refine ⟨fun b hb => ?_, fun b hb => ?_, ⟨?_, ?_, fun k h1 h2 j hj => ?_, fun j hj => ?_⟩, ⟨fun j h1 h2 => ?_, fun k h1 h2 j hj => ?_⟩, ?_, fun k h1 h2 j hj => ?_⟩
  · rw [z1 b (by omega), lm_o (by omega), c1 b (by omega)]
  · rw [z2]; exact c2 b hb
  · rw [z1 _ (by omega), lm_o (by omega)]; exact c3
  · rw [z1 _ (by omega), lm_o (by omega)]; exact c4
  · rw [z1 _ (by omega), lm_o (by omega)]; exact c5 k h1 h2 j hj
  · rw [z2]; exact c6 j hj
  · rw [z1 _ (by omega), lm_in (by omega) (by omega), show 175 + 15 - 190 = 0 by omega]
    have e0 : v1.1 20 = u.1 20 := c1 _ (by omega)
    rw [e0] at l1 l2 l3 l4
    rcases (show j = 1 ∨ j = 2 ∨ j = 3 ∨ j = 4 by omega) with rfl | rfl | rfl | rfl
    · exact l1
    · exact l2
    · exact l3
    · exact l4
  · rw [z1 _ (by omega), lm_in (by omega) (by omega), show 175 + 15 + k - 190 = k by omega, l5 k h1 h2 j hj, c1 _ (by omega)]
  · rw [z3, lm_o (by omega), c1 _ (by omega)]
  · rw [z4 k h1 h2 j hj, lm_o (by omega), c1 _ (by omega)]
theorem c_wcopy205_5 (hd : 3 ≤ d) (hK : ∀ v, CW u v 5 205 → K v) : CV X d 122 [.ref 204, .ref 4] u K := by
  obtain ⟨d, rfl, hd1⟩ := dpos hd
  refine CV_of mk_X11_copyFrom.2.2 rfl (B_W204_copyFrom4_0 (c_ccopy205_5 hd1 fun v1 c => ?_))
  suffices hz : CV X d 42 [.ref 220, .ref 20] (lm v1 220 (fun c => v1.1 (220 + c))) (fun u2 => CV X d 87 [.ref 229, .ref 29] u2 (fun u3 => K u3)) by rwa [lm_eta] at hz
  refine c_lcopy220_20 hd1 fun l' hl => ?_
  refine c_zcopy229_29 hd1 fun v3 z => hK v3 ?_
  obtain ⟨c1, c2, c3, c4, c5, c6⟩ := c
  obtain ⟨⟨l1, l2, l3, l4⟩, l5⟩ := hl
  obtain ⟨z1, z2, z3, z4⟩ := z
  refine ⟨fun b hb => ?_, fun b hb => ?_, ⟨?_, ?_, fun k h1 h2 j hj => ?_, fun j hj => ?_⟩, ⟨fun j h1 h2 => ?_, fun k h1 h2 j hj => ?_⟩, ?_, fun k h1 h2 j hj => ?_⟩
  · rw [z1 b (by omega), lm_o (by omega), c1 b (by omega)]
  · rw [z2]; exact c2 b hb
  · rw [z1 _ (by omega), lm_o (by omega)]; exact c3
  · rw [z1 _ (by omega), lm_o (by omega)]; exact c4
  · rw [z1 _ (by omega), lm_o (by omega)]; exact c5 k h1 h2 j hj
  · rw [z2]; exact c6 j hj
  · rw [z1 _ (by omega), lm_in (by omega) (by omega), show 205 + 15 - 220 = 0 by omega]
    have e0 : v1.1 20 = u.1 20 := c1 _ (by omega)
    rw [e0] at l1 l2 l3 l4
    rcases (show j = 1 ∨ j = 2 ∨ j = 3 ∨ j = 4 by omega) with rfl | rfl | rfl | rfl
    · exact l1
    · exact l2
    · exact l3
    · exact l4
  · rw [z1 _ (by omega), lm_in (by omega) (by omega), show 205 + 15 + k - 220 = k by omega, l5 k h1 h2 j hj, c1 _ (by omega)]
  · rw [z3, lm_o (by omega), c1 _ (by omega)]
  · rw [z4 k h1 h2 j hj, lm_o (by omega), c1 _ (by omega)]
end WCopy
section PImage
variable {X : Xc} {d : Nat} {u : Mm}
theorem m_image {K : Int32 → Mm → Prop} {k : Nat} (hd : 2 ≤ d) (hk : k < 2) (hK : ∀ V : Mm, (∀ b, b ≠ 234 → b ≠ 238 → b ≠ 244 → V.1 b = u.1 b) → (∀ j, j ≠ 0 → V.1 234 j = u.1 234 j) → (∀ b, b ≠ 243 → V.2 b = u.2 b) → (∀ i, V.1 238 i = if 532 * k ≤ i ∧ i < 532 * k + 532 then u.1 236 (i - 532 * k) else u.1 238 i) → (∀ i, V.2 243 i = if 29 * k ≤ i ∧ i < 29 * k + 29 then u.2 241 (i - 29 * k) else u.2 243 i) → (∀ j, V.1 244 j = if j = k then 1 else u.1 244 j) → K 1 V) : CI X d 319 [.ref 234, .int (nI k)] u K := by
  obtain ⟨d, rfl, hd1⟩ := dpos hd
  refine CI_of mk_X13_image.2.2 rfl (B_M_image_0 (c_misIn hd1 (fun _ _ => ⟨fun _ => ?_, fun z => absurd z (by decide)⟩) (fun x => ?_)))
  · refine lupR (n := 532) (W := fun i (V1 : Mm) => VI X d 319 K 18 [some (.ref 234), some (.int (nI k)), some (.int (nI i))] [] V1)
      (I := fun i V1 => (∀ b, b ≠ 238 → V1.1 b = (mI u 234 0 0).1 b) ∧ V1.2 = u.2 ∧ ∀ j, V1.1 238 j = if 532 * k ≤ j ∧ j < 532 * k + i then u.1 236 (j - 532 * k) else u.1 238 j) ?_ _ ⟨fun _ _ => rfl, rfl, fun j => by rw [if_neg (by omega), mI_r (by omega)]⟩
    rintro i V1 hi ⟨i1, i2, i3⟩ ih
    refine B_M_image_18 ?_
    simp (disch := omega) only [la1, la2, lt1, lt2, nI_add, pk_mul, nI_clamp, vpn, nI_leI, nI_ltI, nI_eq, ll1, ll2, ll3, ll4, le1, le2, true_and, and_true, not_true_eq_false, not_false_eq_true, forall_const, false_implies, implies_true, if_true, if_false, ite_true, ite_false, and_self, false_and, and_false]
    refine ⟨fun x => ?_, fun x => ⟨by omega, by omega, ih (by omega) _ ⟨fun b hb => by rw [mI_r hb]; exact i1 b hb, i2, fun j => ?_⟩⟩⟩
    · have ei : i = 532 := by omega
      subst ei
      refine lupR (n := 29) (W := fun i (V2 : Mm) => VI X d 319 K 51 [some (.ref 234), some (.int (nI k)), some (.int (nI i))] [] V2)
        (I := fun i V2 => V2.1 = V1.1 ∧ (∀ b, b ≠ 243 → V2.2 b = u.2 b) ∧ ∀ j, V2.2 243 j = if 29 * k ≤ j ∧ j < 29 * k + i then u.2 241 (j - 29 * k) else u.2 243 j) ?_ _ ⟨rfl, fun _ _ => by rw [i2], fun j => by rw [if_neg (by omega), i2]⟩
      rintro i V2 hi ⟨j1, j2, j3⟩ ih
      refine B_M_image_51 ?_
      simp (disch := omega) only [la1, la2, lt1, lt2, nI_add, pk_mul, nI_clamp, vpn, nI_leI, nI_ltI, nI_eq, ll1, ll2, ll3, ll4, le1, le2, true_and, and_true, not_true_eq_false, not_false_eq_true, forall_const, false_implies, implies_true, if_true, if_false, ite_true, ite_false, and_self, false_and, and_false]
      refine ⟨fun x => ⟨by omega, ?_⟩, fun x => ⟨by omega, by omega, ih (by omega) _ ⟨j1, fun b hb => ?_, fun j => ?_⟩⟩⟩
      · have ei : i = 29 := by omega
        subst ei
        refine hK _ (fun b b1 b2 b3 => by rw [mI_r b3, j1, i1 b b2, mI_r b1]) (fun j hj => by rw [mI_r (by omega), j1, i1 234 (by omega), mI_n (by omega)]) j2 (fun i => by rw [mI_r (by omega), j1]; exact i3 i) j3 (fun j => ?_)
        rw [mI_at, j1, i1 244 (by omega), mI_r (by omega)]
        by_cases e : j = k
        · rw [if_pos ⟨rfl, e⟩, if_pos e]; rfl
        · rw [if_neg (fun q => e q.2), if_neg e]
      · exact funext fun j => by
          show (if b = 243 ∧ j = _ then _ else V2.2 b j) = _
          rw [if_neg (fun q => hb q.1), j2 b hb]
      · show (if 243 = 243 ∧ j = 29 * k + i then V2.2 241 i else V2.2 243 j) = _
        by_cases e : j = 29 * k + i
        · rw [if_pos ⟨rfl, e⟩, if_pos (by omega), j2 241 (by omega), show j - 29 * k = i by omega]
        · rw [if_neg (fun q => e q.2), j3 j]
          by_cases e2 : 29 * k ≤ j ∧ j < 29 * k + i
          · rw [if_pos e2, if_pos (by omega)]
          · rw [if_neg e2, if_neg (by omega)]
    · rw [mI_at]
      by_cases e : j = 532 * k + i
      · rw [if_pos ⟨rfl, e⟩, if_pos (by omega), i1 236 (by omega), mI_r (by omega), show j - 532 * k = i by omega]
      · rw [if_neg (fun q => e q.2), i3 j]
        by_cases e2 : 532 * k ≤ j ∧ j < 532 * k + i
        · rw [if_pos e2, if_pos (by omega)]
        · rw [if_neg e2, if_neg (by omega)]
  · rcases x with x | x
    · exact absurd x (nI_pos (by omega))
    · exact absurd ((nI_ltI (a := 1) (b := k) (by omega) (by omega)).mp x) (by omega)
theorem m_restore {K : Int32 → Mm → Prop} {k : Nat} (hd : 2 ≤ d) (hk : k < 2) (h0 : u.1 244 k = 0 → K 0 (mI u 234 0 0)) (hK : u.1 244 k ≠ 0 → ∀ V : Mm, (∀ b, b ≠ 234 → b ≠ 236 → V.1 b = u.1 b) → (∀ j, j ≠ 0 → j ≠ 24 → V.1 234 j = u.1 234 j) → V.1 234 24 = 0 → (∀ b, b ≠ 241 → V.2 b = u.2 b) → (∀ i, i < 532 → V.1 236 i = u.1 238 (532 * k + i)) → (∀ i, i < 29 → V.2 241 i = u.2 243 (29 * k + i)) → K 1 V) : CI X d 320 [.ref 234, .int (nI k)] u K := by
  obtain ⟨d, rfl, hd1⟩ := dpos hd
  refine CI_of mk_X13_restore.2.2 rfl (B_M_restore_0 (c_misIn hd1 (fun _ _ => ⟨fun z => absurd z (by decide), fun _ => ?_⟩) (fun x => ?_)))
  · rw [nI_clamp (by omega), mI_r (by omega)]
    refine ⟨vp_in_nI (by omega) (by decide), fun y => ?_, fun y => h0 y⟩
    refine lupR (n := 532) (W := fun i (V1 : Mm) => VI X d 320 K 27 [some (.ref 234), some (.int (nI k)), some (.int (nI i))] [] V1)
      (I := fun i V1 => (∀ b, b ≠ 236 → V1.1 b = (mI u 234 0 0).1 b) ∧ V1.2 = u.2 ∧ ∀ j, j < i → V1.1 236 j = u.1 238 (532 * k + j)) ?_ _ ⟨fun _ _ => rfl, rfl, fun j hj => absurd hj (by omega)⟩
    rintro i V1 hi ⟨i1, i2, i3⟩ ih
    refine B_M_restore_27 ?_
    simp (disch := omega) only [la1, la2, lt1, lt2, nI_add, pk_mul, nI_clamp, vpn, nI_leI, nI_ltI, nI_eq, ll1, ll2, ll3, ll4, le1, le2, true_and, and_true, not_true_eq_false, not_false_eq_true, forall_const, false_implies, implies_true, if_true, if_false, ite_true, ite_false, and_self, false_and, and_false]
    refine ⟨fun x => ?_, fun x => ⟨by omega, by omega, ih (by omega) _ ⟨fun b hb => by rw [mI_r hb]; exact i1 b hb, i2, fun j hj => ?_⟩⟩⟩
    · have ei : i = 532 := by omega
      subst ei
      refine lupR (n := 29) (W := fun i (V2 : Mm) => VI X d 320 K 60 [some (.ref 234), some (.int (nI k)), some (.int (nI i))] [] V2)
        (I := fun i V2 => V2.1 = V1.1 ∧ (∀ b, b ≠ 241 → V2.2 b = u.2 b) ∧ ∀ j, j < i → V2.2 241 j = u.2 243 (29 * k + j)) ?_ _ ⟨rfl, fun _ _ => by rw [i2], fun j hj => absurd hj (by omega)⟩
      rintro i V2 hi ⟨j1, j2, j3⟩ ih
      refine B_M_restore_60 ?_
      simp (disch := omega) only [la1, la2, lt1, lt2, nI_add, pk_mul, nI_clamp, vpn, nI_leI, nI_ltI, nI_eq, ll1, ll2, ll3, ll4, le1, le2, true_and, and_true, not_true_eq_false, not_false_eq_true, forall_const, false_implies, implies_true, if_true, if_false, ite_true, ite_false, and_self, false_and, and_false]
      refine ⟨fun x => ?_, fun x => ⟨by omega, by omega, ih (by omega) _ ⟨j1, fun b hb => ?_, fun j hj => ?_⟩⟩⟩
      · refine hK y _ (fun b b1 b2 => by rw [mI_r b1, j1, i1 b b2, mI_r b1]) (fun j h1 h2 => by rw [mI_n (by omega), j1, i1 234 (by omega), mI_n (by omega)]) mI_s j2 (fun j hj => by rw [mI_r (by omega), j1]; exact i3 j (by omega)) (fun j hj => j3 j (by omega))
      · exact funext fun j => by
          show (if b = 241 ∧ j = _ then _ else V2.2 b j) = _
          rw [if_neg (fun q => hb q.1), j2 b hb]
      · show (if 241 = 241 ∧ j = i then V2.2 243 (29 * k + i) else V2.2 241 j) = _
        by_cases e : j = i
        · rw [if_pos ⟨rfl, e⟩, j2 243 (by omega), e]
        · rw [if_neg (fun q => e q.2), j3 j (by omega)]
    · by_cases e : j = i
      · subst e; rw [mI_s, i1 238 (by omega), mI_r (by omega)]
      · rw [mI_n (by omega)]; exact i3 j (by omega)
  · rcases x with x | x
    · exact absurd x (nI_pos (by omega))
    · exact absurd ((nI_ltI (a := 1) (b := k) (by omega) (by omega)).mp x) (by omega)
/-- what one image is -/
theorem ImagesR.one {v : Mm} (h : ImagesR u) {k : Nat} (hk : k < 2) (e5 : tb (v.1 0 5) k = tb (u.1 0 5) k) (e4 : v.1 244 k = u.1 244 k) (ec : ∀ b, 175 + 30 * k ≤ b → b ≤ 202 + 30 * k → v.1 b = u.1 b) (e2 : v.2 (176 + 30 * k) = u.2 (176 + 30 * k)) (e8 : ∀ i, i < 532 → v.1 238 (532 * k + i) = u.1 238 (532 * k + i)) (e3 : ∀ i, i < 29 → v.2 243 (29 * k + i) = u.2 243 (29 * k + i)) : (tb (v.1 0 5) k = false ∧ v.1 244 k = 0) ∨ (tb (v.1 0 5) k = true ∧ v.1 244 k = 1 ∧ WorldR v (175 + 30 * k) (190 + 30 * k) (199 + 30 * k) (fun i => v.1 238 (532 * k + i)) (fun i => v.2 243 (29 * k + i))) := by
  rw [e5, e4]
  rcases h k hk with q | ⟨q1, q2, q3⟩
  · exact Or.inl q
  · refine Or.inr ⟨q1, q2, (q3.congr (fun j a b => ec _ (by omega) (by omega)) ?_ ?_ ?_ (fun j a b => ?_) (fun j a b => ec _ (by omega) (by omega)) ?_ (fun j a b => ec _ (by omega) (by omega))).g532 e8 e3⟩
    · rw [ec _ (by omega) (by omega)]
    · rw [ec _ (by omega) (by omega)]
    · rw [show 175 + 30 * k + 1 = 176 + 30 * k by omega]; exact e2
    · rw [ec _ (by omega) (by omega)]
    · rw [ec _ (by omega) (by omega)]
theorem p_image {p1 : Int32} (hd : 4 ≤ d) (h : Rl u) : PairI X d 172 319 [.int p1] u := by
  intro K hK
  obtain ⟨d, rfl, hd1⟩ := dpos hd
  have fin : ∀ (k : Nat) (v : Mm), k < 2 → CW u v 5 (175 + 30 * k) → CI X (d + 1) 319 [.ref 234, .int (nI k)] (mI v 0 5 (v.1 0 5 ||| ((1 : Int32) <<< (nI k &&& 31)))) (fun w2 u2 => K 1 w2 u2) := by
    intro k v hk c
    have cw := WorldR.cw h.2.2.2.1 c
    refine m_image (by omega) hk fun V v1 v2 v3 v4 v5 v6 => hK _ _ ?_
    have c1 := c.1
    have c2 := c.2.1
    have vo : ∀ b, b ≠ 0 → b ≠ 234 → b ≠ 238 → b ≠ 244 → (b < 175 + 30 * k ∨ 202 + 30 * k < b) → V.1 b = u.1 b := fun b b0 b1 b2 b3 b4 => by rw [v1 b b1 b2 b3, mI_r b0, c1 b (by omega)]
    have v0 : ∀ j, j ≠ 5 → V.1 0 j = u.1 0 j := fun j hj => by rw [v1 0 (by omega) (by omega) (by omega), mI_n (by omega), c1 0 (by omega)]
    have v05 : V.1 0 5 = u.1 0 5 ||| ((1 : Int32) <<< (nI k &&& 31)) := by rw [v1 0 (by omega) (by omega) (by omega), mI_s, c1 0 (by omega)]
    have v4' : ∀ j, j ≠ 0 → V.1 234 j = u.1 234 j := fun j hj => by rw [v2 j hj, mI_r (by omega), c1 234 (by omega)]
    have vl : ∀ b, b ≠ 243 → b ≠ 176 + 30 * k → V.2 b = u.2 b := fun b b1 b2 => by rw [v3 b b1]; exact c2 b (by omega)
    have ag : ∀ rel : Nat → Nat → Bool, rel 0 5 = false → rel 234 0 = false → (∀ b j, b = 238 ∨ b = 244 ∨ (175 + 30 * k ≤ b ∧ b ≤ 202 + 30 * k) → rel b j = false) → AG rel u V := by
      intro rel r1 r2 r3 a j ha
      by_cases e1 : a = 0
      · subst e1
        exact v0 j (by rintro rfl; rw [r1] at ha; cases ha)
      · by_cases e2 : a = 234
        · subst e2
          exact v4' j (by rintro rfl; rw [r2] at ha; cases ha)
        · have hn : ¬ (a = 238 ∨ a = 244 ∨ (175 + 30 * k ≤ a ∧ a ≤ 202 + 30 * k)) := fun q => by rw [r3 a j q] at ha; cases ha
          exact congrFun (vo a e1 e2 (by omega) (by omega) (by omega)) j
    have big : ∀ b, (b = 238 ∨ b = 244 ∨ (175 + 30 * k ≤ b ∧ b ≤ 202 + 30 * k)) → ∃ c, c < 60 ∧ (b = 175 + c ∨ b = 238 ∨ b = 244) := fun b hb => by
      rcases hb with rfl | rfl | hb
      · exact ⟨0, by omega, by omega⟩
      · exact ⟨0, by omega, by omega⟩
      · exact ⟨b - 175, by omega, by omega⟩
    refine ⟨h.1.congr (ag _ rfl rfl fun b j hb => ?_), h.2.1.congr (vl 3 (by omega) (by omega)), h.2.2.1.congr (ag _ rfl rfl fun b j hb => ?_), World5.congr h.2.2.2.1 (ag _ rfl rfl fun b j hb => ?_) (vl 6 (by omega) (by omega)) (vl 241 (by omega) (by omega)), h.2.2.2.2.1.congr (ag _ rfl rfl fun b j hb => ?_), fun i hi => ?_⟩
    · have h1 : b ≠ 1 ∧ b ≠ 2 ∧ b ≠ 234 ∧ b ≠ 235 := by omega
      unfold relT; split <;> simp_all
    · have h1 : b ≠ 0 ∧ b ≠ 149 ∧ b ≠ 160 ∧ b ≠ 165 ∧ b ≠ 169 ∧ b ≠ 170 ∧ b ≠ 171 ∧ b ≠ 173 ∧ b ≠ 234 ∧ b ≠ 254 ∧ b ≠ 255 ∧ b ≠ 257 ∧ b ≠ 259 := by omega
      unfold relK; split <;> simp_all
    · have h1 : b ≠ 5 ∧ b ≠ 20 ∧ b ≠ 29 ∧ b ≠ 236 ∧ 18 < b ∧ 28 < b ∧ 32 < b := by omega
      unfold relW; split
      · omega
      · omega
      · omega
      · omega
      · simp; omega
    · have h1 : b ≠ 44 ∧ b ≠ 234 ∧ b ≠ 236 ∧ b ≠ 239 ∧ 117 < b := by omega
      unfold relP; split
      · omega
      · omega
      · omega
      · omega
      · simp; omega
    · by_cases e : i = k
      · subst e
        refine Or.inr ⟨by rw [v05, tb_set (by omega) (by omega)]; simp, by rw [v6]; simp, ?_⟩
        have q := cw.congr (v := V) (fun j a b => ?_) ?_ ?_ ?_ (fun j a b => ?_) (fun j a b => ?_) ?_ (fun j a b => ?_)
        · refine WorldR.g532 (g := u.1 236) (nm := u.2 241) ?_ (fun j hj => ?_) (fun j hj => ?_)
          · rw [show 175 + 30 * i + 15 = 190 + 30 * i by omega, show 175 + 30 * i + 24 = 199 + 30 * i by omega] at q
            exact q
          · show V.1 238 (532 * i + j) = _
            rw [v4, if_pos (by omega), mI_r (by omega), c1 236 (by omega)]
            exact congrArg (u.1 236) (by omega)
          · show V.2 243 (29 * i + j) = _
            rw [v5, if_pos (by omega)]
            show v.2 241 _ = _
            rw [c2 241 (by omega)]
            exact congrArg (u.2 241) (by omega)
        · rw [v1 _ (by omega) (by omega) (by omega), mI_r (by omega)]
        · rw [v1 _ (by omega) (by omega) (by omega), mI_r (by omega)]
        · rw [v1 _ (by omega) (by omega) (by omega), mI_r (by omega)]
        · rw [v3 _ (by omega)]; rfl
        · rw [v1 _ (by omega) (by omega) (by omega), mI_r (by omega)]
        · rw [v1 _ (by omega) (by omega) (by omega), mI_r (by omega)]
        · rw [v1 _ (by omega) (by omega) (by omega), mI_r (by omega)]
        · rw [v1 _ (by omega) (by omega) (by omega), mI_r (by omega)]
      · refine ImagesR.one h.2.2.2.2.2 hi ?_ ?_ (fun b b1 b2 => vo b (by omega) (by omega) (by omega) (by omega) (by omega)) (vl _ (by omega) (by omega)) (fun j hj => ?_) (fun j hj => ?_)
        · rw [v05, tb_set (by omega) (by omega)]; simp [e]
        · rw [v6, if_neg e, mI_r (by omega), c1 244 (by omega)]
        · rw [v4, if_neg (by omega), mI_r (by omega), c1 238 (by omega)]
        · rw [v5, if_neg (by omega)]
          show v.2 243 _ = _
          rw [c2 243 (by omega)]
  have out : (p1 < 0 ∨ nI 2 ≤ p1) → CI X (d + 1) 319 [.ref 234, .int p1] u (fun w2 u2 => K 0 w2 u2) := by
    intro hb
    refine CI_of mk_X13_image.2.2 rfl (B_M_image_0 (c_misIn (by omega) (fun y1 y2 => ?_) (fun _ => ⟨fun z => absurd rfl z, fun _ => hK _ _ h.th⟩)))
    rcases hb with hb | hb
    · exact absurd hb y1
    · exact absurd (Int32.lt_of_lt_of_le (by decide : (1 : Int32) < nI 2) hb) y2
  refine CI_of mk_X12_image.2.2 rfl (B_S_image_0 ⟨fun q => out (Or.inl q), fun q => ⟨fun q2 => ?_, fun q2 => out (Or.inr (Int32.not_lt.mp q2))⟩⟩)
  obtain ⟨k, hk, rfl⟩ := nI_two (n := 2) q q2 (by omega)
  rw [nI_clamp (by omega)]
  refine ⟨vp_in_nI (by omega) (by decide), ?_⟩
  rcases (show k = 0 ∨ k = 1 by omega) with rfl | rfl
  · change CV X d 122 [.ref 174, .ref 4] u _
    exact c_wcopy175_5 hd1 fun v c => fin 0 v (by omega) c
  · change CV X d 122 [.ref 204, .ref 4] u _
    exact c_wcopy205_5 hd1 fun v c => fin 1 v (by omega) c
theorem p_restore {p1 : Int32} (hd : 4 ≤ d) (h : Rl u) : PairI X d 173 320 [.int p1] u := by
  intro K hK
  obtain ⟨d, rfl, hd1⟩ := dpos hd
  have out : (p1 < 0 ∨ nI 2 ≤ p1) → CI X (d + 1) 320 [.ref 234, .int p1] u (fun w2 u2 => K 0 w2 u2) := by
    intro hb
    refine CI_of mk_X13_restore.2.2 rfl (B_M_restore_0 (c_misIn (by omega) (fun y1 y2 => ?_) (fun _ => ⟨fun _ => hK _ _ h.th, fun z => absurd rfl z⟩)))
    rcases hb with hb | hb
    · exact absurd hb y1
    · exact absurd (Int32.lt_of_lt_of_le (by decide : (1 : Int32) < nI 2) hb) y2
  refine CI_of mk_X12_restore.2.2 rfl (B_S_restore_0 ⟨fun q => out (Or.inl q), fun q => ⟨fun q2 => out (Or.inr q2), fun q2 => ?_⟩⟩)
  obtain ⟨k, hk, rfl⟩ := nI_two' (n := 2) q q2 (by omega)
  rw [nI_clamp (by omega)]
  have hi := h.2.2.2.2.2 k hk
  refine c_bit (by omega) (by omega) (fun y => ⟨fun _ => ⟨vp_in_nI (by omega) (by decide), ?_⟩, fun z => absurd z (by decide)⟩) (fun y => ⟨fun z => absurd rfl z, fun _ => ?_⟩)
  · have hi := hi.resolve_left (fun q => by rw [q.1] at y; cases y)
    have fin : ∀ (v : Mm), CW u v (175 + 30 * k) 5 → CV X d 69 [.ref 44] v (fun u3 => CI X (d + 1) 320 [.ref 234, .int (nI k)] u3 (fun w2 u2 => K 1 w2 u2)) := by
      intro v c
      obtain ⟨d, rfl, hd2⟩ := dpos hd1
      refine CV_of mk_X6_forget.2.2 rfl (B_P_forget_0 ?_)
      have hw := hi.2.2
      rw [show 190 + 30 * k = 175 + 30 * k + 15 by omega, show 199 + 30 * k = 175 + 30 * k + 24 by omega] at hw
      have cw := WorldR.cw hw c
      have c1 := c.1
      have c2 := c.2.1
      refine m_restore (by omega) hk (fun z => ?_) (fun _ V v1 v2 v3 v4 v5 v6 => hK _ _ ?_)
      · rw [mI_r (by omega), c1 244 (by omega), hi.2.1] at z
        cases z
      · have vo : ∀ b, b ≠ 44 → b ≠ 234 → b ≠ 236 → (b < 5 ∨ 32 < b) → V.1 b = u.1 b := fun b b0 b1 b2 b4 => by rw [v1 b b1 b2, mI_r b0, c1 b (by omega)]
        have v4' : ∀ j, j ≠ 0 → j ≠ 24 → V.1 234 j = u.1 234 j := fun j h1 h2 => by rw [v2 j h1 h2, mI_r (by omega), c1 234 (by omega)]
        have vl : ∀ b, b ≠ 241 → b ≠ 6 → V.2 b = u.2 b := fun b b1 b2 => by rw [v4 b b1]; exact c2 b b2
        have ag : ∀ rel : Nat → Nat → Bool, (∀ j, rel 44 j = false) → (∀ j, rel 236 j = false) → rel 234 0 = false → rel 234 24 = false → (∀ b j, 5 ≤ b → b ≤ 32 → rel b j = false) → AG rel u V := by
          intro rel r1 r2 r3 r4 r5 a j ha
          by_cases e2 : a = 234
          · subst e2
            exact v4' j (by rintro rfl; rw [r3] at ha; cases ha) (by rintro rfl; rw [r4] at ha; cases ha)
          · have hn1 : a ≠ 44 := by rintro rfl; rw [r1] at ha; cases ha
            have hn2 : a ≠ 236 := by rintro rfl; rw [r2] at ha; cases ha
            have hn3 : ¬ (5 ≤ a ∧ a ≤ 32) := fun q => by rw [r5 a j q.1 q.2] at ha; cases ha
            exact congrFun (vo a hn1 e2 hn2 (by omega)) j
        refine ⟨h.1.congr (ag _ (fun _ => rfl) (fun _ => rfl) rfl rfl fun b j b1 b2 => ?_), h.2.1.congr (vl 3 (by omega) (by omega)), h.2.2.1.congr (ag _ (fun _ => rfl) (fun _ => rfl) rfl rfl fun b j b1 b2 => ?_), ?_, ?_, h.2.2.2.2.2.congr (ag _ (fun _ => rfl) (fun _ => rfl) rfl rfl fun b j b1 b2 => ?_) (vl _ (by omega) (by omega)) (vl _ (by omega) (by omega)) (vl _ (by omega) (by omega))⟩
        · unfold relT; split
          · omega
          · omega
          · omega
          · omega
          · rfl
        · unfold relK; split <;> first | omega | rfl
        · have q := cw.congr (v := V) (fun j a b => ?_) ?_ ?_ ?_ (fun j a b => ?_) (fun j a b => ?_) ?_ (fun j a b => ?_)
          · exact WorldR.g532 q (fun j hj => by rw [v5 j hj, mI_r (by omega), c1 238 (by omega)]) (fun j hj => by rw [v6 j hj]; show v.2 243 _ = _; rw [c2 243 (by omega)])
          · rw [v1 _ (by omega) (by omega), mI_r (by omega)]
          · rw [v1 _ (by omega) (by omega), mI_r (by omega)]
          · rw [v1 _ (by omega) (by omega), mI_r (by omega)]
          · rw [v4 _ (by omega)]; rfl
          · rw [v1 _ (by omega) (by omega), mI_r (by omega)]
          · rw [v1 _ (by omega) (by omega), mI_r (by omega)]
          · rw [v1 _ (by omega) (by omega), mI_r (by omega)]
          · rw [v1 _ (by omega) (by omega), mI_r (by omega)]
        · obtain ⟨n, t, hn, ht, p1, p2, p3, p4⟩ := h.2.2.2.2.1
          refine ⟨0, t, by omega, ht, ?_, ?_, v3, fun i hi => absurd hi (by omega)⟩
          · rw [v1 44 (by omega) (by omega), mI_s]; rfl
          · rw [v1 44 (by omega) (by omega), mI_n (by omega), c1 44 (by omega)]; exact p2
        · unfold relI; split
          · omega
          · omega
          · omega
          · simp; omega
    rcases (show k = 0 ∨ k = 1 by omega) with rfl | rfl
    · change CV X d 122 [.ref 4, .ref 174] u _
      exact c_wcopy5_175 hd1 fun v c => fin v c
    · change CV X d 122 [.ref 4, .ref 204] u _
      exact c_wcopy5_205 hd1 fun v c => fin v c
  · have hi := hi.resolve_right (fun q => by rw [q.1] at y; cases y)
    exact m_restore (by omega) hk (fun _ => hK _ _ h.th) (fun z => absurd hi.2 z)
end PImage
