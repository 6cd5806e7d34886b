/-! the acts -/
def whyM (g s : Nat → Int32) (a q : Nat) : Int32 := if tb (s 201) a = true then 1 else if s (210 + a) = nI q then 2 else if stAt g s (nI q) = -1 then 0 else 3
def actM (s : Nat → Int32) (a q : Nat) : Nat → Int32 := upd s (210 + a) (nI q)
def whyC (s : Nat → Int32) (a : Nat) : Int32 := if tb (s 201) a = true then 1 else if tb (s 200) a = false then 2 else if 5 ≤ s (218 + a) then 0 else 3
def actC (s : Nat → Int32) (a : Nat) : Nat → Int32 := upd (upd s 200 (s 200 &&& (((1 : Int32) <<< (nI a &&& 31)) ^^^ (-1)))) (218 + a) (s (218 + a) - 5)
def whyS (s : Nat → Int32) (a k : Nat) : Int32 := if tb (s 201) a = true then 1 else if s (202 + a) = nI k then 2 else if 10 ≤ s (218 + a) then 0 else 3
def actS (s : Nat → Int32) (a k : Nat) : Nat → Int32 := upd (upd s (202 + a) (nI k)) (218 + a) (s (218 + a) - 10)
def whyL (s : Nat → Int32) (a b : Nat) (n : Int32) : Int32 := if tb (s 201) a = true ∨ tb (s 201) b = true then 1 else if n ≤ s (218 + a) then (if n ≤ s (226 + b) then 0 else 3) else 2
def actL (s : Nat → Int32) (a b : Nat) (n : Int32) : Nat → Int32 := upd (upd s (218 + a) (s (218 + a) - n)) (226 + b) (s (226 + b) - n)
section ActOk
variable {g s : Nat → Int32} {l T : Nat → Nat → Int32}
theorem actM_ok {a q : Nat} (hg : HeadOk g) (h : Stt g s) (ha : a < nA g) (hq : q < nQ g) (hw : whyM g s a q = 0) : Stt g (actM s a q) := by
  obtain ⟨-, -, -, -, hA, hKK, hW, hQ⟩ := hdA hg h
  unfold whyM at hw
  split at hw
  · exact absurd hw (by decide)
  · rename_i q1
    split at hw
    · exact absurd hw (by decide)
    · split at hw
      · rename_i q3
        refine ⟨hd_upd h.1 (by omega), LOk_move hA ha hq (Bool.eq_false_iff.mpr q1) ?_ h.2⟩
        rcases stAt_cases (g := g) (s := s) (q := q) hA with ⟨-, z⟩ | ⟨b, hb, e, -⟩
        · exact z
        · rw [e] at q3; exact absurd q3 (nI_m1 (by omega))
      · exact absurd hw (by decide)
theorem actC_ok {a : Nat} (hg : HeadOk g) (h : Stt g s) (ha : a < nA g) : Stt g (actC s a) := by
  obtain ⟨-, -, -, -, hA, hKK, hW, hQ⟩ := hdA hg h
  refine ⟨hd_upd (hd_upd h.1 (by omega)) (by omega), LOk_free hA hW (by omega) (LOk_stain hA (fun i hi q => ?_) h.2)⟩
  rw [tb_and, Bool.and_eq_true] at q
  exact h.2.2.1 i hi q.1
theorem actS_ok {a k : Nat} (hg : HeadOk g) (h : Stt g s) (ha : a < nA g) (hk : k < nK g) : Stt g (actS s a k) := by
  obtain ⟨-, -, -, -, hA, hKK, hW, hQ⟩ := hdA hg h
  exact ⟨hd_upd (hd_upd h.1 (by omega)) (by omega), LOk_free hA hW (by omega) (LOk_kind hA ha hk h.2)⟩
theorem actL_ok {a b : Nat} {n : Int32} (hg : HeadOk g) (h : Stt g s) (ha : a < nA g) (hb : b < nA g) : Stt g (actL s a b n) := by
  obtain ⟨-, -, -, -, hA, hKK, hW, hQ⟩ := hdA hg h
  exact ⟨hd_upd (hd_upd h.1 (by omega)) (by omega), LOk_free hA hW (by omega) (LOk_free hA hW (by omega) h.2)⟩
theorem LQ_move {a q q0 : Nat} (hA : nA g ≤ 8) (hQ : nQ g ≤ 8) (hW : nW' g ≤ 8) (ho : LifeOk g s) (ha : a < nA g) (hq : q < nQ g) (hq0 : q0 < nQ g) (e : s (210 + a) = nI q0) (hf : ∀ b, b < nA g → s (210 + b) ≠ nI q) (h : LifeQ g s l T) : LifeQ g (upd s (210 + a) (nI q)) (upd2 (upd2 (upd2 l 3 q0 (-1)) 3 q (nI a)) 2 a (nI q)) T := by
  obtain ⟨⟨a1, a2, a3, a4⟩, b, c, d⟩ := h
  refine ⟨⟨?_, ?_, ?_, ?_⟩, fun i hi => ?_, fun q' hq' => ?_, fun w hw => ⟨?_, fun k hk => ?_⟩⟩
  · simp (disch := omega) only [u2r, u2s, u2n, pk_un, pk_us]; exact a1
  · simp (disch := omega) only [u2r, u2s, u2n, pk_un, pk_us]; exact a2
  · simp (disch := omega) only [u2r, u2s, u2n, pk_un, pk_us]; exact a3
  · simp (disch := omega) only [u2r, u2s, u2n, pk_un, pk_us]; exact a4
  · obtain ⟨b1, b2, b3, b4, b5⟩ := b i hi
    refine ⟨?_, ?_, ?_, ?_, ?_⟩
    · simp (disch := omega) only [u2r, u2s, u2n, pk_un, pk_us]; exact b1
    · by_cases e2 : i = a
      · subst e2; simp (disch := omega) only [u2r, u2s, u2n, pk_un, pk_us]
      · simp (disch := omega) only [u2r, u2s, u2n, pk_un, pk_us]; exact b2
    · simp (disch := omega) only [u2r, u2s, u2n, pk_un, pk_us]; exact b3
    · simp (disch := omega) only [u2r, u2s, u2n, pk_un, pk_us]; exact b4
    · simp (disch := omega) only [u2r, u2s, u2n, pk_un, pk_us]; exact b5
  · rw [stAt_go hA hQ ho ha hq hq' hq0 e hf]
    by_cases e2 : q' = q
    · subst e2; rw [if_pos rfl]; simp (disch := omega) only [u2r, u2s, u2n, pk_un, pk_us]
    · rw [if_neg e2]
      by_cases e3 : q' = q0
      · subst e3; rw [if_pos rfl]; simp (disch := omega) only [u2r, u2s, u2n, pk_un, pk_us]
      · rw [if_neg e3]; simp (disch := omega) only [u2r, u2s, u2n, pk_un, pk_us]; exact c q' hq'
  · simp (disch := omega) only [u2r, u2s, u2n, pk_un, pk_us]; exact (d w hw).1
  · simp (disch := omega) only [u2r, u2s, u2n, pk_un, pk_us]; exact (d w hw).2 k hk
theorem LQ_clean {a : Nat} {x y : Int32} (hA : nA g ≤ 8) (hW : nW' g ≤ 8) (ha : a < nA g) (h : LifeQ g s l T) : LifeQ g (upd (upd s 200 x) (218 + a) y) (upd2 (upd2 l 4 a y) 0 4 x) T := by
  obtain ⟨⟨a1, a2, a3, a4⟩, b, c, d⟩ := h
  refine ⟨⟨?_, ?_, ?_, ?_⟩, fun i hi => ?_, fun q' hq' => ?_, fun w hw => ⟨?_, fun k hk => ?_⟩⟩
  · simp (disch := omega) only [u2r, u2s, u2n, pk_un, pk_us]; exact a1
  · simp (disch := omega) only [u2r, u2s, u2n, pk_un, pk_us]; exact a2
  · simp (disch := omega) only [u2r, u2s, u2n, pk_un, pk_us]
  · simp (disch := omega) only [u2r, u2s, u2n, pk_un, pk_us]; exact a4
  · obtain ⟨b1, b2, b3, b4, b5⟩ := b i hi
    refine ⟨?_, ?_, ?_, ?_, ?_⟩
    · simp (disch := omega) only [u2r, u2s, u2n, pk_un, pk_us]; exact b1
    · simp (disch := omega) only [u2r, u2s, u2n, pk_un, pk_us]; exact b2
    · by_cases e2 : i = a
      · subst e2; simp (disch := omega) only [u2r, u2s, u2n, pk_un, pk_us]
      · simp (disch := omega) only [u2r, u2s, u2n, pk_un, pk_us]; exact b3
    · simp (disch := omega) only [u2r, u2s, u2n, pk_un, pk_us]; exact b4
    · simp (disch := omega) only [u2r, u2s, u2n, pk_un, pk_us]; exact b5
  · rw [stAt_congr (s := s) (fun i hi => by simp (disch := omega) only [pk_un, pk_us])]
    simp (disch := omega) only [u2r, u2s, u2n, pk_un, pk_us]; exact c q' hq'
  · simp (disch := omega) only [u2r, u2s, u2n, pk_un, pk_us]; exact (d w hw).1
  · simp (disch := omega) only [u2r, u2s, u2n, pk_un, pk_us]; exact (d w hw).2 k hk
theorem LQ_show {a : Nat} {x y : Int32} (hA : nA g ≤ 8) (hW : nW' g ≤ 8) (ha : a < nA g) (h : LifeQ g s l T) : LifeQ g (upd (upd s (202 + a) x) (218 + a) y) (upd2 (upd2 l 4 a y) 1 a x) T := by
  obtain ⟨⟨a1, a2, a3, a4⟩, b, c, d⟩ := h
  refine ⟨⟨?_, ?_, ?_, ?_⟩, fun i hi => ?_, fun q' hq' => ?_, fun w hw => ⟨?_, fun k hk => ?_⟩⟩
  · simp (disch := omega) only [u2r, u2s, u2n, pk_un, pk_us]; exact a1
  · simp (disch := omega) only [u2r, u2s, u2n, pk_un, pk_us]; exact a2
  · simp (disch := omega) only [u2r, u2s, u2n, pk_un, pk_us]; exact a3
  · simp (disch := omega) only [u2r, u2s, u2n, pk_un, pk_us]; exact a4
  · obtain ⟨b1, b2, b3, b4, b5⟩ := b i hi
    refine ⟨?_, ?_, ?_, ?_, ?_⟩
    · by_cases e2 : i = a
      · subst e2; simp (disch := omega) only [u2r, u2s, u2n, pk_un, pk_us]
      · simp (disch := omega) only [u2r, u2s, u2n, pk_un, pk_us]; exact b1
    · simp (disch := omega) only [u2r, u2s, u2n, pk_un, pk_us]; exact b2
    · by_cases e2 : i = a
      · subst e2; simp (disch := omega) only [u2r, u2s, u2n, pk_un, pk_us]
      · simp (disch := omega) only [u2r, u2s, u2n, pk_un, pk_us]; exact b3
    · simp (disch := omega) only [u2r, u2s, u2n, pk_un, pk_us]; exact b4
    · simp (disch := omega) only [u2r, u2s, u2n, pk_un, pk_us]; exact b5
  · rw [stAt_congr (s := s) (fun i hi => by simp (disch := omega) only [pk_un, pk_us])]
    simp (disch := omega) only [u2r, u2s, u2n, pk_un, pk_us]; exact c q' hq'
  · simp (disch := omega) only [u2r, u2s, u2n, pk_un, pk_us]; exact (d w hw).1
  · simp (disch := omega) only [u2r, u2s, u2n, pk_un, pk_us]; exact (d w hw).2 k hk
theorem LQ_lend {a e : Nat} {x y : Int32} (hA : nA g ≤ 8) (hW : nW' g ≤ 8) (ha : a < nA g) (he : e < nA g) (h : LifeQ g s l T) : LifeQ g (upd (upd s (218 + a) x) (226 + e) y) (upd2 (upd2 l 4 a x) 5 e y) T := by
  obtain ⟨⟨a1, a2, a3, a4⟩, b, c, d⟩ := h
  refine ⟨⟨?_, ?_, ?_, ?_⟩, fun i hi => ?_, fun q' hq' => ?_, fun w hw => ⟨?_, fun k hk => ?_⟩⟩
  · simp (disch := omega) only [u2r, u2s, u2n, pk_un, pk_us]; exact a1
  · simp (disch := omega) only [u2r, u2s, u2n, pk_un, pk_us]; exact a2
  · simp (disch := omega) only [u2r, u2s, u2n, pk_un, pk_us]; exact a3
  · simp (disch := omega) only [u2r, u2s, u2n, pk_un, pk_us]; exact a4
  · obtain ⟨b1, b2, b3, b4, b5⟩ := b i hi
    refine ⟨?_, ?_, ?_, ?_, ?_⟩
    · simp (disch := omega) only [u2r, u2s, u2n, pk_un, pk_us]; exact b1
    · simp (disch := omega) only [u2r, u2s, u2n, pk_un, pk_us]; exact b2
    · by_cases e2 : i = a
      · subst e2; simp (disch := omega) only [u2r, u2s, u2n, pk_un, pk_us]
      · simp (disch := omega) only [u2r, u2s, u2n, pk_un, pk_us]; exact b3
    · by_cases e2 : i = e
      · subst e2; simp (disch := omega) only [u2r, u2s, u2n, pk_un, pk_us]
      · simp (disch := omega) only [u2r, u2s, u2n, pk_un, pk_us]; exact b4
    · simp (disch := omega) only [u2r, u2s, u2n, pk_un, pk_us]; exact b5
  · rw [stAt_congr (s := s) (fun i hi => by simp (disch := omega) only [pk_un, pk_us])]
    simp (disch := omega) only [u2r, u2s, u2n, pk_un, pk_us]; exact c q' hq'
  · simp (disch := omega) only [u2r, u2s, u2n, pk_un, pk_us]; exact (d w hw).1
  · simp (disch := omega) only [u2r, u2s, u2n, pk_un, pk_us]; exact (d w hw).2 k hk
end ActOk
section CAct
variable {X : Xc} {d : Nat} {u : Mm} {g s : Nat → Int32} {l : Nat → Nat → Int32} {K : Int32 → Mm → Prop}
theorem c_tryM20 {a q : Nat} (hd : 1 ≤ d) (hg : HeadOk g) (hs : Stt g s) (hl : LifeP g s l) (ha : a < nA g) (hq : q < nQ g) (h1 : whyM g s a q ≠ 0 → K (whyM g s a q) (lm u 20 l)) (h0 : whyM g s a q = 0 → ∀ l', LifeP g (actM s a q) l' → K 0 (lm u 20 l')) : CI X d 47 [.ref 20, .int (nI a), .int (nI q)] (lm u 20 l) K := by
  obtain ⟨d, rfl, hd1⟩ := dpos hd
  obtain ⟨-, -, -, -, hA, hKK, hW, hQ⟩ := hdA hg hs
  obtain ⟨-, b2, -⟩ := hl.2.1 a ha
  have c3 := hl.2.2.1 q hq
  refine CI_of mk_X4_tryMove.2.2 rfl (B_L20_tryMove_0 ?_)
  simp (disch := omega) only [la1, la2, lt1, lt2, nI_add, pk_mul, nI_clamp, vpn, nI_leI, nI_ltI, nI_eq, ll1, ll2, ll3, ll4, le1, le2, true_and, and_true, not_true_eq_false, not_false_eq_true, forall_const, false_implies, implies_true, if_true, if_false, ite_true, ite_false, and_self, false_and, and_false, lm_in, lm_o, lm_w, Nat.reduceSub, u2r, u2s, u2n, u2u, b01, b10, b2, c3]
  refine ⟨by omega, ?_⟩
  obtain ⟨-, p⟩ := hs.2.2.2.2.1 a ha
  rcases p with ⟨z, e⟩ | ⟨z, q0, hq0, e⟩
  · rw [e]
    rw [whyM, if_pos z] at h1
    exact ⟨fun y => absurd rfl y, fun _ => h1 (by decide)⟩
  · unfold whyM at h1 h0
    rw [z, if_neg (by decide), e] at h1 h0
    rw [e]
    refine ⟨fun _ => ⟨fun y => ?_, fun y => ?_⟩, fun y => absurd y (nI_m1 (by omega))⟩
    · rw [if_neg y] at h1 h0
      refine ⟨by omega, fun x => ?_, fun x => ?_⟩
      · rw [if_pos x] at h0
        simp (disch := omega) only [la1, la2, lt1, lt2, nI_add, pk_mul, nI_clamp, vpn, nI_leI, nI_ltI, nI_eq, ll1, ll2, ll3, ll4, le1, le2, true_and, and_true, not_true_eq_false, not_false_eq_true, forall_const, false_implies, implies_true, if_true, if_false, ite_true, ite_false, and_self, false_and, and_false, lm_in, lm_o, lm_w, Nat.reduceSub, u2r, u2s, u2n, u2u, b01, b10]
        refine ⟨by omega, by omega, by omega, h0 rfl _ ?_⟩
        have hf : ∀ b, b < nA g → s (210 + b) ≠ nI q := by
          rcases stAt_cases (g := g) (s := s) (q := q) hA with ⟨-, w⟩ | ⟨b, hb, e1, -⟩
          · exact w
          · rw [e1] at x; exact absurd x (nI_m1 (by omega))
        refine LQ_T (LQ_move hA hQ hW hs.2 ha hq hq0 e hf hl) fun v hv k hk => ?_
        unfold actM
        simp (disch := omega) only [pk_un, pk_us]
      · rw [if_neg x] at h1
        exact h1 (by decide)
    · rw [if_pos y] at h1
      exact h1 (by decide)
theorem c_tryC20 {a : Nat} (hd : 2 ≤ d) (hg : HeadOk g) (hs : Stt g s) (hl : LifeP g s l) (ha : a < nA g) (h1 : whyC s a ≠ 0 → K (whyC s a) (lm u 20 l)) (h0 : whyC s a = 0 → ∀ l', LifeP g (actC s a) l' → K 0 (lm u 20 l')) : CI X d 48 [.ref 20, .int (nI a)] (lm u 20 l) K := by
  obtain ⟨d, rfl, hd1⟩ := dpos hd
  obtain ⟨-, -, -, -, hA, hKK, hW, hQ⟩ := hdA hg hs
  obtain ⟨-, -, b3, -⟩ := hl.2.1 a ha
  obtain ⟨-, -, e4, e3⟩ := hl.1
  unfold whyC at h1 h0
  refine CI_of mk_X4_tryClean.2.2 rfl (B_L20_tryClean_0 ?_)
  simp (disch := omega) only [la1, la2, lt1, lt2, nI_add, pk_mul, nI_clamp, vpn, nI_leI, nI_ltI, nI_eq, ll1, ll2, ll3, ll4, le1, le2, true_and, and_true, not_true_eq_false, not_false_eq_true, forall_const, false_implies, implies_true, if_true, if_false, ite_true, ite_false, and_self, false_and, and_false, lm_in, lm_o, lm_w, Nat.reduceSub, u2r, u2s, u2n, u2u, b01, b10, b3, e3, e4]
  refine c_bit hd1 (by omega) (fun y => ?_) (fun y => ?_)
  · rw [if_pos y] at h1
    exact ⟨fun z => absurd z (by decide), fun _ => h1 (by decide)⟩
  · rw [y, if_neg (show ¬ (false = true) by decide)] at h1 h0
    simp (disch := omega) only [la1, la2, lt1, lt2, nI_add, pk_mul, nI_clamp, vpn, nI_leI, nI_ltI, nI_eq, ll1, ll2, ll3, ll4, le1, le2, true_and, and_true, not_true_eq_false, not_false_eq_true, forall_const, false_implies, implies_true, if_true, if_false, ite_true, ite_false, and_self, false_and, and_false, lm_in, lm_o, lm_w, Nat.reduceSub, u2r, u2s, u2n, u2u, b01, b10, b3, e3, e4]
    refine c_bit hd1 (by omega) (fun y2 => ?_) (fun y2 => ?_)
    · rw [y2, if_neg (show ¬ (true = false) by decide)] at h1 h0
      simp (disch := omega) only [la1, la2, lt1, lt2, nI_add, pk_mul, nI_clamp, vpn, nI_leI, nI_ltI, nI_eq, ll1, ll2, ll3, ll4, le1, le2, true_and, and_true, not_true_eq_false, not_false_eq_true, forall_const, false_implies, implies_true, if_true, if_false, ite_true, ite_false, and_self, false_and, and_false, lm_in, lm_o, lm_w, Nat.reduceSub, u2r, u2s, u2n, u2u, b01, b10, b3, e3, e4]
      refine ⟨by omega, fun x => ?_, fun x => ?_⟩
      · rw [if_pos x] at h0
        refine ⟨by omega, by omega, h0 rfl _ ?_⟩
        refine LQ_T (LQ_clean hA hW ha hl) fun v hv k hk => ?_
        unfold actC
        simp (disch := omega) only [pk_un, pk_us]
      · rw [if_neg x] at h1
        exact h1 (by decide)
    · rw [if_pos y2] at h1
      exact ⟨fun z => absurd rfl z, fun _ => h1 (by decide)⟩
theorem c_tryS20 {a k : Nat} (hd : 2 ≤ d) (hg : HeadOk g) (hs : Stt g s) (hl : LifeP g s l) (ha : a < nA g) (hk : k < nK g) (h1 : whyS s a k ≠ 0 → K (whyS s a k) (lm u 20 l)) (h0 : whyS s a k = 0 → ∀ l', LifeP g (actS s a k) l' → K 0 (lm u 20 l')) : CI X d 49 [.ref 20, .int (nI a), .int (nI k)] (lm u 20 l) K := by
  obtain ⟨d, rfl, hd1⟩ := dpos hd
  obtain ⟨-, -, -, -, hA, hKK, hW, hQ⟩ := hdA hg hs
  obtain ⟨b1, -, b3, -⟩ := hl.2.1 a ha
  obtain ⟨-, -, e4, e3⟩ := hl.1
  unfold whyS at h1 h0
  refine CI_of mk_X4_tryShow.2.2 rfl (B_L20_tryShow_0 ?_)
  simp (disch := omega) only [la1, la2, lt1, lt2, nI_add, pk_mul, nI_clamp, vpn, nI_leI, nI_ltI, nI_eq, ll1, ll2, ll3, ll4, le1, le2, true_and, and_true, not_true_eq_false, not_false_eq_true, forall_const, false_implies, implies_true, if_true, if_false, ite_true, ite_false, and_self, false_and, and_false, lm_in, lm_o, lm_w, Nat.reduceSub, u2r, u2s, u2n, u2u, b01, b10, e3]
  refine c_bit hd1 (by omega) (fun y => ?_) (fun y => ?_)
  · rw [if_pos y] at h1
    exact ⟨fun z => absurd z (by decide), fun _ => h1 (by decide)⟩
  · rw [y, if_neg (show ¬ (false = true) by decide)] at h1 h0
    simp (disch := omega) only [la1, la2, lt1, lt2, nI_add, pk_mul, nI_clamp, vpn, nI_leI, nI_ltI, nI_eq, ll1, ll2, ll3, ll4, le1, le2, true_and, and_true, not_true_eq_false, not_false_eq_true, forall_const, false_implies, implies_true, if_true, if_false, ite_true, ite_false, and_self, false_and, and_false, lm_in, lm_o, lm_w, Nat.reduceSub, u2r, u2s, u2n, u2u, b01, b10, b3, b1]
    refine ⟨by omega, fun x => ⟨by omega, fun z => ?_, fun z => ?_⟩, fun x => ?_⟩
    · rw [if_neg x, if_pos z] at h0
      refine ⟨by omega, by omega, by omega, h0 rfl _ ?_⟩
      refine LQ_T (LQ_show hA hW ha hl) fun v hv k hk => ?_
      unfold actS
      simp (disch := omega) only [pk_un, pk_us]
    · rw [if_neg x, if_neg z] at h1
      exact h1 (by decide)
    · rw [if_pos x] at h1
      exact h1 (by decide)
theorem c_tryL20 {a b : Nat} {n : Int32} (hd : 2 ≤ d) (hg : HeadOk g) (hs : Stt g s) (hl : LifeP g s l) (ha : a < nA g) (hb : b < nA g) (h1 : whyL s a b n ≠ 0 → K (whyL s a b n) (lm u 20 l)) (h0 : whyL s a b n = 0 → ∀ l', LifeP g (actL s a b n) l' → K 0 (lm u 20 l')) : CI X d 50 [.ref 20, .int (nI a), .int (nI b), .int n] (lm u 20 l) K := by
  obtain ⟨d, rfl, hd1⟩ := dpos hd
  obtain ⟨-, -, -, -, hA, hKK, hW, hQ⟩ := hdA hg hs
  obtain ⟨-, -, b3, -⟩ := hl.2.1 a ha
  obtain ⟨-, -, -, b4, -⟩ := hl.2.1 b hb
  obtain ⟨-, -, e4, e3⟩ := hl.1
  unfold whyL at h1 h0
  refine CI_of mk_X4_tryLend.2.2 rfl (B_L20_tryLend_0 ?_)
  simp (disch := omega) only [la1, la2, lt1, lt2, nI_add, pk_mul, nI_clamp, vpn, nI_leI, nI_ltI, nI_eq, ll1, ll2, ll3, ll4, le1, le2, true_and, and_true, not_true_eq_false, not_false_eq_true, forall_const, false_implies, implies_true, if_true, if_false, ite_true, ite_false, and_self, false_and, and_false, lm_in, lm_o, lm_w, Nat.reduceSub, u2r, u2s, u2n, u2u, b01, b10, e3]
  refine c_bit hd1 (by omega) (fun y => ?_) (fun y => ?_)
  · rw [if_pos (Or.inl y)] at h1
    exact ⟨fun _ => h1 (by decide), fun z => absurd z (by decide)⟩
  · simp (disch := omega) only [la1, la2, lt1, lt2, nI_add, pk_mul, nI_clamp, vpn, nI_leI, nI_ltI, nI_eq, ll1, ll2, ll3, ll4, le1, le2, true_and, and_true, not_true_eq_false, not_false_eq_true, forall_const, false_implies, implies_true, if_true, if_false, ite_true, ite_false, and_self, false_and, and_false, lm_in, lm_o, lm_w, Nat.reduceSub, u2r, u2s, u2n, u2u, b01, b10, e3]
    refine c_bit hd1 (by omega) (fun y2 => ?_) (fun y2 => ?_)
    · rw [if_pos (Or.inr y2)] at h1
      exact ⟨fun z => absurd z (by decide), fun _ => h1 (by decide)⟩
    · have hn : ¬ (tb (s 201) a = true ∨ tb (s 201) b = true) := by rw [y, y2]; decide
      rw [if_neg hn] at h1 h0
      simp (disch := omega) only [la1, la2, lt1, lt2, nI_add, pk_mul, nI_clamp, vpn, nI_leI, nI_ltI, nI_eq, ll1, ll2, ll3, ll4, le1, le2, true_and, and_true, not_true_eq_false, not_false_eq_true, forall_const, false_implies, implies_true, if_true, if_false, ite_true, ite_false, and_self, false_and, and_false, lm_in, lm_o, lm_w, Nat.reduceSub, u2r, u2s, u2n, u2u, b01, b10, b3, b4]
      refine ⟨by omega, fun x => ⟨by omega, fun z => ?_, fun z => ?_⟩, fun x => ?_⟩
      · rw [if_pos x, if_pos z] at h0
        refine ⟨by omega, by omega, by omega, by omega, h0 rfl _ ?_⟩
        refine LQ_T (LQ_lend hA hW ha hb hl) fun v hv k hk => ?_
        unfold actL
        simp (disch := omega) only [pk_un, pk_us]
      · rw [if_pos x, if_neg z] at h1
        exact h1 (by decide)
      · rw [if_neg x] at h1
        exact h1 (by decide)
theorem c_tryM35 {a q : Nat} (hd : 1 ≤ d) (hg : HeadOk g) (hs : Stt g s) (hl : LifeP g s l) (ha : a < nA g) (hq : q < nQ g) (h1 : whyM g s a q ≠ 0 → K (whyM g s a q) (lm u 35 l)) (h0 : whyM g s a q = 0 → ∀ l', LifeP g (actM s a q) l' → K 0 (lm u 35 l')) : CI X d 47 [.ref 35, .int (nI a), .int (nI q)] (lm u 35 l) K := by
  obtain ⟨d, rfl, hd1⟩ := dpos hd
  obtain ⟨-, -, -, -, hA, hKK, hW, hQ⟩ := hdA hg hs
  obtain ⟨-, b2, -⟩ := hl.2.1 a ha
  have c3 := hl.2.2.1 q hq
  refine CI_of mk_X4_tryMove.2.2 rfl (B_L35_tryMove_0 ?_)
  simp (disch := omega) only [la1, la2, lt1, lt2, nI_add, pk_mul, nI_clamp, vpn, nI_leI, nI_ltI, nI_eq, ll1, ll2, ll3, ll4, le1, le2, true_and, and_true, not_true_eq_false, not_false_eq_true, forall_const, false_implies, implies_true, if_true, if_false, ite_true, ite_false, and_self, false_and, and_false, lm_in, lm_o, lm_w, Nat.reduceSub, u2r, u2s, u2n, u2u, b01, b10, b2, c3]
  refine ⟨by omega, ?_⟩
  obtain ⟨-, p⟩ := hs.2.2.2.2.1 a ha
  rcases p with ⟨z, e⟩ | ⟨z, q0, hq0, e⟩
  · rw [e]
    rw [whyM, if_pos z] at h1
    exact ⟨fun y => absurd rfl y, fun _ => h1 (by decide)⟩
  · unfold whyM at h1 h0
    rw [z, if_neg (by decide), e] at h1 h0
    rw [e]
    refine ⟨fun _ => ⟨fun y => ?_, fun y => ?_⟩, fun y => absurd y (nI_m1 (by omega))⟩
    · rw [if_neg y] at h1 h0
      refine ⟨by omega, fun x => ?_, fun x => ?_⟩
      · rw [if_pos x] at h0
        simp (disch := omega) only [la1, la2, lt1, lt2, nI_add, pk_mul, nI_clamp, vpn, nI_leI, nI_ltI, nI_eq, ll1, ll2, ll3, ll4, le1, le2, true_and, and_true, not_true_eq_false, not_false_eq_true, forall_const, false_implies, implies_true, if_true, if_false, ite_true, ite_false, and_self, false_and, and_false, lm_in, lm_o, lm_w, Nat.reduceSub, u2r, u2s, u2n, u2u, b01, b10]
        refine ⟨by omega, by omega, by omega, h0 rfl _ ?_⟩
        have hf : ∀ b, b < nA g → s (210 + b) ≠ nI q := by
          rcases stAt_cases (g := g) (s := s) (q := q) hA with ⟨-, w⟩ | ⟨b, hb, e1, -⟩
          · exact w
          · rw [e1] at x; exact absurd x (nI_m1 (by omega))
        refine LQ_T (LQ_move hA hQ hW hs.2 ha hq hq0 e hf hl) fun v hv k hk => ?_
        unfold actM
        simp (disch := omega) only [pk_un, pk_us]
      · rw [if_neg x] at h1
        exact h1 (by decide)
    · rw [if_pos y] at h1
      exact h1 (by decide)
theorem c_tryC35 {a : Nat} (hd : 2 ≤ d) (hg : HeadOk g) (hs : Stt g s) (hl : LifeP g s l) (ha : a < nA g) (h1 : whyC s a ≠ 0 → K (whyC s a) (lm u 35 l)) (h0 : whyC s a = 0 → ∀ l', LifeP g (actC s a) l' → K 0 (lm u 35 l')) : CI X d 48 [.ref 35, .int (nI a)] (lm u 35 l) K := by
  obtain ⟨d, rfl, hd1⟩ := dpos hd
  obtain ⟨-, -, -, -, hA, hKK, hW, hQ⟩ := hdA hg hs
  obtain ⟨-, -, b3, -⟩ := hl.2.1 a ha
  obtain ⟨-, -, e4, e3⟩ := hl.1
  unfold whyC at h1 h0
  refine CI_of mk_X4_tryClean.2.2 rfl (B_L35_tryClean_0 ?_)
  simp (disch := omega) only [la1, la2, lt1, lt2, nI_add, pk_mul, nI_clamp, vpn, nI_leI, nI_ltI, nI_eq, ll1, ll2, ll3, ll4, le1, le2, true_and, and_true, not_true_eq_false, not_false_eq_true, forall_const, false_implies, implies_true, if_true, if_false, ite_true, ite_false, and_self, false_and, and_false, lm_in, lm_o, lm_w, Nat.reduceSub, u2r, u2s, u2n, u2u, b01, b10, b3, e3, e4]
  refine c_bit hd1 (by omega) (fun y => ?_) (fun y => ?_)
  · rw [if_pos y] at h1
    exact ⟨fun z => absurd z (by decide), fun _ => h1 (by decide)⟩
  · rw [y, if_neg (show ¬ (false = true) by decide)] at h1 h0
    simp (disch := omega) only [la1, la2, lt1, lt2, nI_add, pk_mul, nI_clamp, vpn, nI_leI, nI_ltI, nI_eq, ll1, ll2, ll3, ll4, le1, le2, true_and, and_true, not_true_eq_false, not_false_eq_true, forall_const, false_implies, implies_true, if_true, if_false, ite_true, ite_false, and_self, false_and, and_false, lm_in, lm_o, lm_w, Nat.reduceSub, u2r, u2s, u2n, u2u, b01, b10, b3, e3, e4]
    refine c_bit hd1 (by omega) (fun y2 => ?_) (fun y2 => ?_)
    · rw [y2, if_neg (show ¬ (true = false) by decide)] at h1 h0
      simp (disch := omega) only [la1, la2, lt1, lt2, nI_add, pk_mul, nI_clamp, vpn, nI_leI, nI_ltI, nI_eq, ll1, ll2, ll3, ll4, le1, le2, true_and, and_true, not_true_eq_false, not_false_eq_true, forall_const, false_implies, implies_true, if_true, if_false, ite_true, ite_false, and_self, false_and, and_false, lm_in, lm_o, lm_w, Nat.reduceSub, u2r, u2s, u2n, u2u, b01, b10, b3, e3, e4]
      refine ⟨by omega, fun x => ?_, fun x => ?_⟩
      · rw [if_pos x] at h0
        refine ⟨by omega, by omega, h0 rfl _ ?_⟩
        refine LQ_T (LQ_clean hA hW ha hl) fun v hv k hk => ?_
        unfold actC
        simp (disch := omega) only [pk_un, pk_us]
      · rw [if_neg x] at h1
        exact h1 (by decide)
    · rw [if_pos y2] at h1
      exact ⟨fun z => absurd rfl z, fun _ => h1 (by decide)⟩
theorem c_tryS35 {a k : Nat} (hd : 2 ≤ d) (hg : HeadOk g) (hs : Stt g s) (hl : LifeP g s l) (ha : a < nA g) (hk : k < nK g) (h1 : whyS s a k ≠ 0 → K (whyS s a k) (lm u 35 l)) (h0 : whyS s a k = 0 → ∀ l', LifeP g (actS s a k) l' → K 0 (lm u 35 l')) : CI X d 49 [.ref 35, .int (nI a), .int (nI k)] (lm u 35 l) K := by
  obtain ⟨d, rfl, hd1⟩ := dpos hd
  obtain ⟨-, -, -, -, hA, hKK, hW, hQ⟩ := hdA hg hs
  obtain ⟨b1, -, b3, -⟩ := hl.2.1 a ha
  obtain ⟨-, -, e4, e3⟩ := hl.1
  unfold whyS at h1 h0
  refine CI_of mk_X4_tryShow.2.2 rfl (B_L35_tryShow_0 ?_)
  simp (disch := omega) only [la1, la2, lt1, lt2, nI_add, pk_mul, nI_clamp, vpn, nI_leI, nI_ltI, nI_eq, ll1, ll2, ll3, ll4, le1, le2, true_and, and_true, not_true_eq_false, not_false_eq_true, forall_const, false_implies, implies_true, if_true, if_false, ite_true, ite_false, and_self, false_and, and_false, lm_in, lm_o, lm_w, Nat.reduceSub, u2r, u2s, u2n, u2u, b01, b10, e3]
  refine c_bit hd1 (by omega) (fun y => ?_) (fun y => ?_)
  · rw [if_pos y] at h1
    exact ⟨fun z => absurd z (by decide), fun _ => h1 (by decide)⟩
  · rw [y, if_neg (show ¬ (false = true) by decide)] at h1 h0
    simp (disch := omega) only [la1, la2, lt1, lt2, nI_add, pk_mul, nI_clamp, vpn, nI_leI, nI_ltI, nI_eq, ll1, ll2, ll3, ll4, le1, le2, true_and, and_true, not_true_eq_false, not_false_eq_true, forall_const, false_implies, implies_true, if_true, if_false, ite_true, ite_false, and_self, false_and, and_false, lm_in, lm_o, lm_w, Nat.reduceSub, u2r, u2s, u2n, u2u, b01, b10, b3, b1]
    refine ⟨by omega, fun x => ⟨by omega, fun z => ?_, fun z => ?_⟩, fun x => ?_⟩
    · rw [if_neg x, if_pos z] at h0
      refine ⟨by omega, by omega, by omega, h0 rfl _ ?_⟩
      refine LQ_T (LQ_show hA hW ha hl) fun v hv k hk => ?_
      unfold actS
      simp (disch := omega) only [pk_un, pk_us]
    · rw [if_neg x, if_neg z] at h1
      exact h1 (by decide)
    · rw [if_pos x] at h1
      exact h1 (by decide)
theorem c_tryL35 {a b : Nat} {n : Int32} (hd : 2 ≤ d) (hg : HeadOk g) (hs : Stt g s) (hl : LifeP g s l) (ha : a < nA g) (hb : b < nA g) (h1 : whyL s a b n ≠ 0 → K (whyL s a b n) (lm u 35 l)) (h0 : whyL s a b n = 0 → ∀ l', LifeP g (actL s a b n) l' → K 0 (lm u 35 l')) : CI X d 50 [.ref 35, .int (nI a), .int (nI b), .int n] (lm u 35 l) K := by
  obtain ⟨d, rfl, hd1⟩ := dpos hd
  obtain ⟨-, -, -, -, hA, hKK, hW, hQ⟩ := hdA hg hs
  obtain ⟨-, -, b3, -⟩ := hl.2.1 a ha
  obtain ⟨-, -, -, b4, -⟩ := hl.2.1 b hb
  obtain ⟨-, -, e4, e3⟩ := hl.1
  unfold whyL at h1 h0
  refine CI_of mk_X4_tryLend.2.2 rfl (B_L35_tryLend_0 ?_)
  simp (disch := omega) only [la1, la2, lt1, lt2, nI_add, pk_mul, nI_clamp, vpn, nI_leI, nI_ltI, nI_eq, ll1, ll2, ll3, ll4, le1, le2, true_and, and_true, not_true_eq_false, not_false_eq_true, forall_const, false_implies, implies_true, if_true, if_false, ite_true, ite_false, and_self, false_and, and_false, lm_in, lm_o, lm_w, Nat.reduceSub, u2r, u2s, u2n, u2u, b01, b10, e3]
  refine c_bit hd1 (by omega) (fun y => ?_) (fun y => ?_)
  · rw [if_pos (Or.inl y)] at h1
    exact ⟨fun _ => h1 (by decide), fun z => absurd z (by decide)⟩
  · simp (disch := omega) only [la1, la2, lt1, lt2, nI_add, pk_mul, nI_clamp, vpn, nI_leI, nI_ltI, nI_eq, ll1, ll2, ll3, ll4, le1, le2, true_and, and_true, not_true_eq_false, not_false_eq_true, forall_const, false_implies, implies_true, if_true, if_false, ite_true, ite_false, and_self, false_and, and_false, lm_in, lm_o, lm_w, Nat.reduceSub, u2r, u2s, u2n, u2u, b01, b10, e3]
    refine c_bit hd1 (by omega) (fun y2 => ?_) (fun y2 => ?_)
    · rw [if_pos (Or.inr y2)] at h1
      exact ⟨fun z => absurd z (by decide), fun _ => h1 (by decide)⟩
    · have hn : ¬ (tb (s 201) a = true ∨ tb (s 201) b = true) := by rw [y, y2]; decide
      rw [if_neg hn] at h1 h0
      simp (disch := omega) only [la1, la2, lt1, lt2, nI_add, pk_mul, nI_clamp, vpn, nI_leI, nI_ltI, nI_eq, ll1, ll2, ll3, ll4, le1, le2, true_and, and_true, not_true_eq_false, not_false_eq_true, forall_const, false_implies, implies_true, if_true, if_false, ite_true, ite_false, and_self, false_and, and_false, lm_in, lm_o, lm_w, Nat.reduceSub, u2r, u2s, u2n, u2u, b01, b10, b3, b4]
      refine ⟨by omega, fun x => ⟨by omega, fun z => ?_, fun z => ?_⟩, fun x => ?_⟩
      · rw [if_pos x, if_pos z] at h0
        refine ⟨by omega, by omega, by omega, by omega, h0 rfl _ ?_⟩
        refine LQ_T (LQ_lend hA hW ha hb hl) fun v hv k hk => ?_
        unfold actL
        simp (disch := omega) only [pk_un, pk_us]
      · rw [if_pos x, if_neg z] at h1
        exact h1 (by decide)
      · rw [if_neg x] at h1
        exact h1 (by decide)
end CAct
section MAct
variable {X : Xc} {d : Nat} {u : Mm} {g : Nat → Int32}
theorem c_mwhyM {K : Int32 → Mm → Prop} {a q : Nat} (hd : 3 ≤ d) (hg : HeadOk g) (hs : Stt g (u.1 236)) (ha : a < nA g) (hK : K (whyM g (u.1 236) a q) u) : CI X d 241 [.ref 234, .int (nI a), .int (nI q)] u K := by
  obtain ⟨d, rfl, hd1⟩ := dpos hd
  obtain ⟨h3, -, -, -, hA, hKK, hW, hQ⟩ := hdA hg hs
  unfold whyM at hK
  refine CI_of mk_X13_whyMove.2.2 rfl (B_M_whyMove_0 (c_misEvicted hd1 (by omega) (fun y => ?_) (fun y => ?_)))
  · rw [if_pos y] at hK
    exact ⟨fun z => absurd z (by decide), fun _ => hK⟩
  · rw [y, if_neg (show ¬ (false = true) by decide)] at hK
    simp (disch := omega) only [la1, la2, lt1, lt2, nI_add, pk_mul, nI_clamp, vpn, nI_leI, nI_ltI, nI_eq, ll1, ll2, ll3, ll4, le1, le2, true_and, and_true, not_true_eq_false, not_false_eq_true, forall_const, false_implies, implies_true, if_true, if_false, ite_true, ite_false, and_self, false_and, and_false, b01, b10]
    refine ⟨by omega, fun x => ?_, fun x => ?_⟩
    · rw [if_neg x] at hK
      refine c_mstandsAt (n := nA g) (by omega) h3 hA ?_
      change (stAt g (u.1 236) (nI q) = -1 → _) ∧ (¬ stAt g (u.1 236) (nI q) = -1 → _)
      exact ⟨fun z => by rwa [if_pos z] at hK, fun z => by rwa [if_neg z] at hK⟩
    · rwa [if_pos x] at hK
theorem c_mwhyC {K : Int32 → Mm → Prop} {a : Nat} (hd : 3 ≤ d) (ha : a < 8) (hK : K (whyC (u.1 236) a) u) : CI X d 242 [.ref 234, .int (nI a)] u K := by
  obtain ⟨d, rfl, hd1⟩ := dpos hd
  unfold whyC at hK
  refine CI_of mk_X13_whyClean.2.2 rfl (B_M_whyClean_0 (c_misEvicted hd1 (by omega) (fun y => ?_) (fun y => ?_)))
  · rw [if_pos y] at hK
    exact ⟨fun z => absurd z (by decide), fun _ => hK⟩
  · rw [y, if_neg (show ¬ (false = true) by decide)] at hK
    refine ⟨fun _ => c_mhas (by omega) (by omega) (fun y2 => ?_) (fun y2 => ?_), fun z => absurd rfl z⟩
    · rw [y2, if_neg (show ¬ (true = false) by decide)] at hK
      simp (disch := omega) only [la1, la2, lt1, lt2, nI_add, pk_mul, nI_clamp, vpn, nI_leI, nI_ltI, nI_eq, ll1, ll2, ll3, ll4, le1, le2, true_and, and_true, not_true_eq_false, not_false_eq_true, forall_const, false_implies, implies_true, if_true, if_false, ite_true, ite_false, and_self, false_and, and_false, b01, b10]
      exact ⟨by omega, fun z => by rwa [if_pos z] at hK, fun z => by rwa [if_neg z] at hK⟩
    · rw [if_pos y2] at hK
      exact ⟨fun z => absurd rfl z, fun _ => hK⟩
theorem c_mwhyS {K : Int32 → Mm → Prop} {a k : Nat} (hd : 3 ≤ d) (ha : a < 8) (hK : K (whyS (u.1 236) a k) u) : CI X d 244 [.ref 234, .int (nI a), .int (nI k)] u K := by
  obtain ⟨d, rfl, hd1⟩ := dpos hd
  unfold whyS at hK
  refine CI_of mk_X13_whyShow.2.2 rfl (B_M_whyShow_0 (c_misEvicted hd1 (by omega) (fun y => ?_) (fun y => ?_)))
  · rw [if_pos y] at hK
    exact ⟨fun z => absurd z (by decide), fun _ => hK⟩
  · rw [y, if_neg (show ¬ (false = true) by decide)] at hK
    simp (disch := omega) only [la1, la2, lt1, lt2, nI_add, pk_mul, nI_clamp, vpn, nI_leI, nI_ltI, nI_eq, ll1, ll2, ll3, ll4, le1, le2, true_and, and_true, not_true_eq_false, not_false_eq_true, forall_const, false_implies, implies_true, if_true, if_false, ite_true, ite_false, and_self, false_and, and_false, b01, b10]
    refine ⟨by omega, fun x => ⟨by omega, fun z => ?_, fun z => ?_⟩, fun x => ?_⟩
    · rwa [if_neg x, if_pos z] at hK
    · rwa [if_neg x, if_neg z] at hK
    · rwa [if_pos x] at hK
theorem c_mwhyL {K : Int32 → Mm → Prop} {a b : Nat} {n : Int32} (hd : 3 ≤ d) (ha : a < 8) (hb : b < 8) (hK : K (whyL (u.1 236) a b n) u) : CI X d 246 [.ref 234, .int (nI a), .int (nI b), .int n] u K := by
  obtain ⟨d, rfl, hd1⟩ := dpos hd
  unfold whyL at hK
  refine CI_of mk_X13_whyLend.2.2 rfl (B_M_whyLend_0 (c_misEvicted hd1 (by omega) (fun y => ?_) (fun y => ?_)))
  · rw [if_pos (Or.inl y)] at hK
    exact ⟨fun _ => hK, fun z => absurd z (by decide)⟩
  · refine ⟨fun z => absurd rfl z, fun _ => c_misEvicted hd1 (by omega) (fun y2 => ?_) (fun y2 => ?_)⟩
    · rw [if_pos (Or.inr y2)] at hK
      exact ⟨fun z => absurd z (by decide), fun _ => hK⟩
    · have hn : ¬ (tb (u.1 236 201) a = true ∨ tb (u.1 236 201) b = true) := by rw [y, y2]; decide
      rw [if_neg hn] at hK
      simp (disch := omega) only [la1, la2, lt1, lt2, nI_add, pk_mul, nI_clamp, vpn, nI_leI, nI_ltI, nI_eq, ll1, ll2, ll3, ll4, le1, le2, true_and, and_true, not_true_eq_false, not_false_eq_true, forall_const, false_implies, implies_true, if_true, if_false, ite_true, ite_false, and_self, false_and, and_false, b01, b10]
      refine ⟨by omega, fun x => ⟨by omega, fun z => ?_, fun z => ?_⟩, fun x => ?_⟩
      · rwa [if_pos x, if_pos z] at hK
      · rwa [if_pos x, if_neg z] at hK
      · rwa [if_neg x] at hK
theorem mI_mR {a j : Nat} {x : Int32} : mI u a j x = mR u a (upd (u.1 a) j x) := by
  refine mm_ext (fun b k => ?_) rfl
  simp only [mI_at, mR_at, upd_at]
  grind
theorem c_mdoC {K : Mm → Prop} {a : Nat} (hd : 1 ≤ d) (ha : a < 8) (hK : K (mR u 236 (actC (u.1 236) a))) : CV X d 243 [.ref 234, .int (nI a)] u K := by
  obtain ⟨d, rfl, hd1⟩ := dpos hd
  refine CV_of mk_X13_doClean.2.2 rfl (B_M_doClean_0 ?_)
  simp (disch := omega) only [la1, la2, lt1, lt2, nI_add, pk_mul, nI_clamp, vpn, nI_leI, nI_ltI, nI_eq, ll1, ll2, ll3, ll4, le1, le2, true_and, and_true, not_true_eq_false, not_false_eq_true, forall_const, false_implies, implies_true, if_true, if_false, ite_true, ite_false, and_self, false_and, and_false, mI_mR, mR_mR, mR_s, pk_un]
  exact ⟨by omega, by omega, hK⟩
theorem c_mdoS {K : Mm → Prop} {a k : Nat} (hd : 1 ≤ d) (ha : a < 8) (hK : K (mR u 236 (actS (u.1 236) a k))) : CV X d 245 [.ref 234, .int (nI a), .int (nI k)] u K := by
  obtain ⟨d, rfl, hd1⟩ := dpos hd
  refine CV_of mk_X13_doShow.2.2 rfl (B_M_doShow_0 ?_)
  simp (disch := omega) only [la1, la2, lt1, lt2, nI_add, pk_mul, nI_clamp, vpn, nI_leI, nI_ltI, nI_eq, ll1, ll2, ll3, ll4, le1, le2, true_and, and_true, not_true_eq_false, not_false_eq_true, forall_const, false_implies, implies_true, if_true, if_false, ite_true, ite_false, and_self, false_and, and_false, mI_mR, mR_mR, mR_s, pk_un]
  exact ⟨by omega, by omega, by omega, hK⟩
theorem c_mdoL {K : Mm → Prop} {a b : Nat} {n : Int32} (hd : 1 ≤ d) (ha : a < 8) (hb : b < 8) (hK : K (mR u 236 (actL (u.1 236) a b n))) : CV X d 247 [.ref 234, .int (nI a), .int (nI b), .int n] u K := by
  obtain ⟨d, rfl, hd1⟩ := dpos hd
  refine CV_of mk_X13_doLend.2.2 rfl (B_M_doLend_0 ?_)
  simp (disch := omega) only [la1, la2, lt1, lt2, nI_add, pk_mul, nI_clamp, vpn, nI_leI, nI_ltI, nI_eq, ll1, ll2, ll3, ll4, le1, le2, true_and, and_true, not_true_eq_false, not_false_eq_true, forall_const, false_implies, implies_true, if_true, if_false, ite_true, ite_false, and_self, false_and, and_false, mI_mR, mR_mR, mR_s, pk_un]
  exact ⟨by omega, by omega, by omega, by omega, hK⟩
end MAct
