/-! the system's day -/
def LifeQ (g s : Nat → Int32) (l : Nat → Nat → Int32) (T : Nat → Nat → Int32) : Prop :=
  (l 0 1 = s 198 ∧ l 0 2 = s 199 ∧ l 0 4 = s 200 ∧ l 0 3 = s 201) ∧
  (∀ a, a < nA g → l 1 a = s (202 + a) ∧ l 2 a = s (210 + a) ∧ l 4 a = s (218 + a) ∧ l 5 a = s (226 + a) ∧ l 6 a = s (234 + a)) ∧
  (∀ q, q < nQ g → l 3 q = stAt g s (nI q)) ∧
  (∀ w, w < nW' g → l 7 w = s (242 + w) ∧ ∀ k, k < 5 → l 8 (5 * w + k) = T w k)
abbrev LifeP (g s : Nat → Int32) (l : Nat → Nat → Int32) : Prop := LifeQ g s l (fun w k => s (250 + 5 * w + k))
theorem LifeR_P {u : Mm} {L : Nat} {g s : Nat → Int32} : LifeR u L g s ↔ LifeP g s (fun c => u.1 (L + c)) := Iff.rfl
section Steps
variable {g s : Nat → Int32} {l T : Nat → Nat → Int32}
theorem LQ_evict {j q : Nat} {x : Int32} (hA : nA g ≤ 8) (hQ : nQ g ≤ 8) (hW : nW' g ≤ 8) (ho : LifeOk g s) (hj : j < nA g) (hq : q < nQ g) (e : s (210 + j) = nI q) (h : LifeQ g s (upd2 l 0 3 (s 201)) T) : LifeQ g (upd (upd s 201 x) (210 + j) (-1)) (upd2 (upd2 (upd2 l 3 q (-1)) 2 j (-1)) 0 3 x) T := by
  obtain ⟨⟨a1, a2, a3, a4⟩, b, c, d⟩ := h
  simp (disch := omega) only [u2r, u2s, u2n, pk_un, pk_us] at a1
  simp (disch := omega) only [u2r, u2s, u2n, pk_un, pk_us] at a2
  simp (disch := omega) only [u2r, u2s, u2n, pk_un, pk_us] at a3
  refine ⟨⟨?_, ?_, ?_, ?_⟩, fun a ha => ?_, fun q' hq' => ?_, fun w hw => ?_⟩
  · simp (disch := omega) only [u2r, u2s, u2n, pk_un, pk_us]; exact a1
  · simp (disch := omega) only [u2r, u2s, u2n, pk_un, pk_us]; exact a2
  · simp (disch := omega) only [u2r, u2s, u2n, pk_un, pk_us]; exact a3
  · simp (disch := omega) only [u2r, u2s, u2n, pk_un, pk_us]
  · obtain ⟨b1, b2, b3, b4, b5⟩ := b a ha
    simp (disch := omega) only [u2r, u2s, u2n, pk_un, pk_us] at b1
    simp (disch := omega) only [u2r, u2s, u2n, pk_un, pk_us] at b2
    simp (disch := omega) only [u2r, u2s, u2n, pk_un, pk_us] at b3
    simp (disch := omega) only [u2r, u2s, u2n, pk_un, pk_us] at b4
    simp (disch := omega) only [u2r, u2s, u2n, pk_un, pk_us] at b5
    refine ⟨?_, ?_, ?_, ?_, ?_⟩
    · simp (disch := omega) only [u2r, u2s, u2n, pk_un, pk_us]; exact b1
    · by_cases e2 : a = j
      · subst e2; simp (disch := omega) only [u2r, u2s, u2n, pk_un, pk_us]
      · simp (disch := omega) only [u2r, u2s, u2n, pk_un, pk_us]; exact b2
    · simp (disch := omega) only [u2r, u2s, u2n, pk_un, pk_us]; exact b3
    · simp (disch := omega) only [u2r, u2s, u2n, pk_un, pk_us]; exact b4
    · simp (disch := omega) only [u2r, u2s, u2n, pk_un, pk_us]; exact b5
  · have := c q' hq'
    simp (disch := omega) only [u2r, u2s, u2n, pk_un, pk_us] at this
    have hs : stAt g (upd (upd s 201 x) (210 + j) (-1)) (nI q') = stAt g (upd s (210 + j) (-1)) (nI q') := stAt_congr fun a ha => by
      by_cases e2 : a = j
      · subst e2; rw [pk_us, pk_us]
      · simp (disch := omega) only [pk_un, pk_us]
    rw [hs, stAt_leave hA hQ ho hj hq hq' e]
    by_cases e2 : q' = q
    · subst e2; simp (disch := omega) only [u2r, u2s, u2n, pk_un, pk_us]; rfl
    · rw [if_neg e2]; simp (disch := omega) only [u2r, u2s, u2n, pk_un, pk_us]; exact this
  · obtain ⟨d1, d2⟩ := d w hw
    simp (disch := omega) only [u2r, u2s, u2n, pk_un, pk_us] at d1
    refine ⟨by simp (disch := omega) only [u2r, u2s, u2n, pk_un, pk_us]; exact d1, fun k hk => ?_⟩
    have := d2 k hk
    simp (disch := omega) only [u2r, u2s, u2n, pk_un, pk_us] at this
    simp (disch := omega) only [u2r, u2s, u2n, pk_un, pk_us]
    exact this
theorem LQ_look {w a : Nat} (hA : nA g ≤ 8) (hW : nW' g ≤ 8) (hw : w < nW' g) (ha : a < nA g) {x y z m : Int32} (h : LifeQ g s l T) : LifeQ g (upd (upd (upd s (218 + a) x) (234 + a) y) (242 + w) z) (upd2 (upd2 (upd2 (upd2 l 4 a x) 6 a y) 7 w z) 0 14 m) T := by
  obtain ⟨⟨a1, a2, a3, a4⟩, b, c, d⟩ := h
  refine ⟨⟨?_, ?_, ?_, ?_⟩, fun i hi => ?_, fun q' hq' => ?_, fun v hv => ?_⟩
  · simp (disch := omega) only [u2r, u2s, u2n, pk_un, pk_us]; exact a1
  · simp (disch := omega) only [u2r, u2s, u2n, pk_un, pk_us]; exact a2
  · simp (disch := omega) only [u2r, u2s, u2n, pk_un, pk_us]; exact a3
  · simp (disch := omega) only [u2r, u2s, u2n, pk_un, pk_us]; exact a4
  · obtain ⟨b1, b2, b3, b4, b5⟩ := b i hi
    refine ⟨by simp (disch := omega) only [u2r, u2s, u2n, pk_un, pk_us]; exact b1, by simp (disch := omega) only [u2r, u2s, u2n, pk_un, pk_us]; exact b2, ?_, by simp (disch := omega) only [u2r, u2s, u2n, pk_un, pk_us]; exact b4, ?_⟩
    · by_cases e2 : i = a
      · subst e2; simp (disch := omega) only [u2r, u2s, u2n, pk_un, pk_us]
      · simp (disch := omega) only [u2r, u2s, u2n, pk_un, pk_us]; exact b3
    · by_cases e2 : i = a
      · subst e2; simp (disch := omega) only [u2r, u2s, u2n, pk_un, pk_us]
      · simp (disch := omega) only [u2r, u2s, u2n, pk_un, pk_us]; exact b5
  · have hs : stAt g (upd (upd (upd s (218 + a) x) (234 + a) y) (242 + w) z) (nI q') = stAt g s (nI q') := stAt_congr fun i hi => by simp (disch := omega) only [pk_un, pk_us]
    rw [hs]
    simp (disch := omega) only [u2r, u2s, u2n, pk_un, pk_us]
    exact c q' hq'
  · obtain ⟨d1, d2⟩ := d v hv
    refine ⟨?_, fun k hk => ?_⟩
    · by_cases e2 : v = w
      · subst e2; simp (disch := omega) only [u2r, u2s, u2n, pk_un, pk_us]
      · simp (disch := omega) only [u2r, u2s, u2n, pk_un, pk_us]; exact d1
    · simp (disch := omega) only [u2r, u2s, u2n, pk_un, pk_us]; exact d2 k hk
theorem LQ_eve {a : Nat} {x y z st : Int32} (hA : nA g ≤ 8) (hW : nW' g ≤ 8) (ha : a < nA g) (h : LifeQ g s l T) : LifeQ g (upd (upd (upd (upd s (226 + a) x) (218 + a) y) 199 z) 200 st) (upd2 (upd2 (upd2 (upd2 l 5 a x) 4 a y) 0 2 z) 0 4 st) T := by
  obtain ⟨⟨a1, a2, a3, a4⟩, b, c, d⟩ := h
  refine ⟨⟨?_, ?_, ?_, ?_⟩, fun i hi => ?_, fun q' hq' => ?_, fun v hv => ?_⟩
  · simp (disch := omega) only [u2r, u2s, u2n, pk_un, pk_us]; exact a1
  · simp (disch := omega) only [u2r, u2s, u2n, pk_un, pk_us]
  · simp (disch := omega) only [u2r, u2s, u2n, pk_un, pk_us]
  · simp (disch := omega) only [u2r, u2s, u2n, pk_un, pk_us]; exact a4
  · obtain ⟨b1, b2, b3, b4, b5⟩ := b i hi
    refine ⟨by simp (disch := omega) only [u2r, u2s, u2n, pk_un, pk_us]; exact b1, by simp (disch := omega) only [u2r, u2s, u2n, pk_un, pk_us]; exact b2, ?_, ?_, by simp (disch := omega) only [u2r, u2s, u2n, pk_un, pk_us]; exact b5⟩
    · by_cases e2 : i = a
      · subst e2; simp (disch := omega) only [u2r, u2s, u2n, pk_un, pk_us]
      · simp (disch := omega) only [u2r, u2s, u2n, pk_un, pk_us]; exact b3
    · by_cases e2 : i = a
      · subst e2; simp (disch := omega) only [u2r, u2s, u2n, pk_un, pk_us]
      · simp (disch := omega) only [u2r, u2s, u2n, pk_un, pk_us]; exact b4
  · have hs : stAt g (upd (upd (upd (upd s (226 + a) x) (218 + a) y) 199 z) 200 st) (nI q') = stAt g s (nI q') := stAt_congr fun i hi => by simp (disch := omega) only [pk_un, pk_us]
    rw [hs]
    simp (disch := omega) only [u2r, u2s, u2n, pk_un, pk_us]
    exact c q' hq'
  · obtain ⟨d1, d2⟩ := d v hv
    refine ⟨by simp (disch := omega) only [u2r, u2s, u2n, pk_un, pk_us]; exact d1, fun k hk => ?_⟩
    simp (disch := omega) only [u2r, u2s, u2n, pk_un, pk_us]; exact d2 k hk
theorem LQ_eve0 {a : Nat} {x y z : Int32} (hA : nA g ≤ 8) (hW : nW' g ≤ 8) (ha : a < nA g) (h : LifeQ g s l T) : LifeQ g (upd (upd (upd s (226 + a) x) (218 + a) y) 199 z) (upd2 (upd2 (upd2 l 5 a x) 4 a y) 0 2 z) T := by
  obtain ⟨⟨a1, a2, a3, a4⟩, b, c, d⟩ := h
  refine ⟨⟨?_, ?_, ?_, ?_⟩, fun i hi => ?_, fun q' hq' => ?_, fun v hv => ?_⟩
  · simp (disch := omega) only [u2r, u2s, u2n, pk_un, pk_us]; exact a1
  · simp (disch := omega) only [u2r, u2s, u2n, pk_un, pk_us]
  · simp (disch := omega) only [u2r, u2s, u2n, pk_un, pk_us]; exact a3
  · simp (disch := omega) only [u2r, u2s, u2n, pk_un, pk_us]; exact a4
  · obtain ⟨b1, b2, b3, b4, b5⟩ := b i hi
    refine ⟨by simp (disch := omega) only [u2r, u2s, u2n, pk_un, pk_us]; exact b1, by simp (disch := omega) only [u2r, u2s, u2n, pk_un, pk_us]; exact b2, ?_, ?_, by simp (disch := omega) only [u2r, u2s, u2n, pk_un, pk_us]; exact b5⟩
    · by_cases e2 : i = a
      · subst e2; simp (disch := omega) only [u2r, u2s, u2n, pk_un, pk_us]
      · simp (disch := omega) only [u2r, u2s, u2n, pk_un, pk_us]; exact b3
    · by_cases e2 : i = a
      · subst e2; simp (disch := omega) only [u2r, u2s, u2n, pk_un, pk_us]
      · simp (disch := omega) only [u2r, u2s, u2n, pk_un, pk_us]; exact b4
  · have hs : stAt g (upd (upd (upd s (226 + a) x) (218 + a) y) 199 z) (nI q') = stAt g s (nI q') := stAt_congr fun i hi => by simp (disch := omega) only [pk_un, pk_us]
    rw [hs]
    simp (disch := omega) only [u2r, u2s, u2n, pk_un, pk_us]
    exact c q' hq'
  · obtain ⟨d1, d2⟩ := d v hv
    refine ⟨by simp (disch := omega) only [u2r, u2s, u2n, pk_un, pk_us]; exact d1, fun k hk => ?_⟩
    simp (disch := omega) only [u2r, u2s, u2n, pk_un, pk_us]; exact d2 k hk
end Steps
