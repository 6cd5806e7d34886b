/-! the ways: the system -/
section CWays
variable {X : Xc} {d : Nat} {u : Mm} {g : Nat → Int32} {t : Nat}
theorem c_nth0 {K : Int32 → Mm → Prop} {x : Int32} (hd : 2 ≤ d) (hK : K (match fO (tb x) 8 with | none => -1 | some j => nI j) u) : CI X d 176 [.int x, .int 0] u K := by
  obtain ⟨d, rfl, hd1⟩ := dpos hd
  have hK : K (fstI (tb x) 8) u := by rw [(fO_eq (by omega)).1]; exact hK
  refine CI_of mk_X12_nth.2.2 rfl (B_S_nth_0 ?_)
  suffices hz : (∀ i, i < 0 → tb x i = false) → VI X d 176 K 4 [some (.int x), some (.int 0), some (.int 0), some (.int (nI 0))] [] u from hz (fun i h => absurd h (by omega))
  refine lup (n := 8) (W := fun j => (∀ i, i < j → tb x i = false) → VI X d 176 K 4 [some (.int x), some (.int 0), some (.int 0), some (.int (nI j))] [] u) ?_
  intro j hj ih hp
  refine B_S_nth_4 ?_
  rw [nI_1]
  refine ⟨fun z => ?_, fun z => ?_⟩
  · have z : 8 ≤ j := (ll2 (n := 8) (by omega) (by decide)).mp z
    rw [fstI_none (fun k hk => hp k (by omega))] at hK
    exact hK
  · have z : ¬ 8 ≤ j := mt (ll2 (n := 8) (m := j) (by omega) (by decide)).mpr z
    refine c_bit hd1 (by omega) (fun y => ⟨fun z => absurd z (by decide), fun _ => ⟨fun z => absurd rfl z, fun _ => ?_⟩⟩) (fun y => ⟨fun _ => ih (by omega) fun i hi => ?_, fun z => absurd rfl z⟩)
    · rw [fstI_some y hp (by omega) (by omega)] at hK
      exact hK
    · by_cases e : i = j
      · subst e; exact y
      · exact hp i (by omega)
theorem c_besides {K : Int32 → Mm → Prop} {L : Int32} (hd : 2 ≤ d) (e0 : u.1 122 0 = nI (nQ g)) (hQ : nQ g ≤ 8) (e4 : ∀ q, q < 8 → u.1 124 q = g (14 + q)) (hK : ∀ w, (∀ p, p < 32 → (tb w p = true ↔ ∃ q, q < nQ g ∧ tb L q = true ∧ tb (g (14 + q)) p = true)) → K w u) : CI X d 13 [.ref 120, .int L] u K := by
  obtain ⟨d, rfl, hd1⟩ := dpos hd
  refine CI_of mk_X0_besides.2.2 rfl (B_C120_besides_0 ?_)
  suffices hz : ∀ k j (w : Int32), j + k = nQ g → (∀ p, p < 32 → (tb w p = true ↔ ∃ q, q < j ∧ tb L q = true ∧ tb (g (14 + q)) p = true)) → VI X d 13 K 4 [some (.ref 120), some (.int L), some (.int w), some (.int (nI j))] [] u from hz (nQ g) 0 0 (by omega) (fun p hp => by
    rw [tb_0]
    exact ⟨fun h => (by cases h), fun ⟨q, h, _⟩ => absurd h (by omega)⟩)
  intro k
  induction k with
  | zero =>
    intro j w hj hw
    refine B_C120_besides_4 ?_
    rw [e0]
    exact ⟨fun _ => hK w (by rw [← show j = nQ g by omega]; exact hw), fun z => absurd (nI_le (by omega) (by omega)) z⟩
  | succ k ih =>
    intro j w hj hw
    refine B_C120_besides_4 ?_
    rw [e0, nI_1]
    refine ⟨fun z => absurd z (nI_ge (by omega) (by omega)), fun _ => c_bit hd1 (by omega) (fun y => ⟨fun z => absurd z (by decide), fun _ => ?_⟩) (fun y => ⟨fun _ => ih (j + 1) w (by omega) fun p hp => ?_, fun z => absurd rfl z⟩)⟩
    · rw [nI_clamp (by omega), e4 j (by omega)]
      refine ⟨vp_in_nI (by omega) (by decide), ih (j + 1) _ (by omega) fun p hp => ?_⟩
      rw [tb_or, Bool.or_eq_true, hw p hp]
      constructor
      · rintro (⟨q, h1, h2, h3⟩ | h)
        · exact ⟨q, by omega, h2, h3⟩
        · exact ⟨j, by omega, y, h⟩
      · rintro ⟨q, h1, h2, h3⟩
        by_cases e : q = j
        · subst e; exact Or.inr h3
        · exact Or.inl ⟨q, by omega, h2, h3⟩
    · rw [hw p hp]
      constructor
      · rintro ⟨q, h1, h2, h3⟩
        exact ⟨q, by omega, h2, h3⟩
      · rintro ⟨q, h1, h2, h3⟩
        by_cases e : q = j
        · subst e; rw [y] at h2; cases h2
        · exact ⟨q, by omega, h2, h3⟩
/-- layer by layer -/
theorem c_layers {K : Int32 → Mm → Prop} {s : Nat} (hd : 3 ≤ d) (hs : Sym g) (ht : t < nQ g) (hst : s < nQ g) (e0 : u.1 122 0 = nI (nQ g)) (e4 : ∀ q, q < 8 → u.1 124 q = g (14 + q)) (hK : ∀ V : Mm, (∀ b, b ≠ 134 → V.1 b = u.1 b) → V.2 = u.2 → (dst g t s < 8 → ∀ k, k ≤ dst g t s → ∀ p, p < 8 → tb (V.1 134 k) p = decide (dst g t p = k)) → K (if dst g t s = 999 then -1 else nI (dst g t s)) V) : CI X d 12 [.ref 120, .int (nI s), .int (nI t)] u K := by
  obtain ⟨d, rfl, hd1⟩ := dpos hd
  have hQ := hs.1
  refine CI_of mk_X0_layersUpTo.2.2 rfl (B_C120_layersUpTo_0 ?_)
  suffices hz : ∀ k j (V : Mm) (r : Int32), j + k = 8 → ¬ dst g t s < j → (∀ b, b ≠ 134 → V.1 b = u.1 b) → V.2 = u.2 → (j < 8 → ∀ i, i ≤ j → ∀ p, p < 8 → tb (V.1 134 i) p = decide (dst g t p = i)) → (j < 8 → ∀ i, i < 32 → 8 ≤ i → tb (V.1 134 j) i = false) → (∀ p, p < 8 → tb r p = decide (dst g t p ≤ j)) → VI X d 12 K 14 [some (.ref 120), some (.int (nI s)), some (.int (nI t)), some (.int r), some (.int (nI j))] [] V by
    refine hz 8 0 _ _ (by omega) (by omega) (fun b hb => mI_r hb) rfl (fun _ i hi p hp => ?_) (fun _ i hi h8 => ?_) (fun p hp => ?_)
    · rw [show i = 0 by omega, mI_s, tb_one t (by omega) p (by omega)]
      exact decide_eq_decide.mpr dst_0.symm
    · rw [mI_s, tb_one t (by omega) i hi]
      exact decide_eq_false (by omega)
    · rw [tb_one t (by omega) p (by omega)]
      refine decide_eq_decide.mpr ?_
      rw [← dst_0 (g := g)]
      omega
  intro k
  induction k with
  | zero =>
    intro j V r hj hlt v1 v2 v3 v5 v4
    refine B_C120_layersUpTo_14 ⟨fun _ => ?_, fun z => absurd (nI_le (a := 8) (b := j) (by omega) (by omega)) z⟩
    have h999 : dst g t s = 999 := by
      rcases dst_cases g t s with ⟨e, -⟩ | ⟨h1, -⟩
      · exact e
      · omega
    have := hK V v1 v2 (fun h => absurd h (by omega))
    rw [if_pos h999] at this
    exact this
  | succ k ih =>
    intro j V r hj hlt v1 v2 v3 v5 v4
    have hj8 : j < 8 := by omega
    have v3 := v3 hj8
    have v5 := v5 hj8
    refine B_C120_layersUpTo_14 ⟨fun z => absurd z (nI_ge (a := j) (b := 8) hj8 (by omega)), fun _ => ?_⟩
    rw [nI_clamp (by omega), nI_1]
    refine ⟨vp_in_nI hj8 (by decide), c_bit (by omega) (by omega) (fun y => ⟨fun z => absurd z (by decide), fun _ => ?_⟩) (fun y => ⟨fun _ => ⟨fun z => ?_, fun z => ⟨vp_in_nI hj8 (by decide), ?_⟩⟩, fun z => absurd rfl z⟩)⟩
    · rw [v3 j (Nat.le_refl _) s (by omega)] at y
      have y := of_decide_eq_true y
      have := hK V v1 v2 (fun _ k hk p hp => v3 k (by omega) p hp)
      rw [if_neg (by omega), y] at this
      exact this
    · have z : 8 ≤ j + 1 := (ll2 (n := 8) (m := j + 1) (by omega) (by decide)).mp z
      rw [v3 j (Nat.le_refl _) s (by omega)] at y
      have y := of_decide_eq_false y
      refine ih (j + 1) V r (by omega) (by omega) v1 v2 (fun h => absurd h (by omega)) (fun h => absurd h (by omega)) fun p hp => ?_
      rw [v4 p hp]
      refine decide_eq_decide.mpr ?_
      rcases dst_cases g t p with ⟨e, -⟩ | ⟨h1, -⟩
      · omega
      · omega
    · have z : ¬ 8 ≤ j + 1 := mt (ll2 (n := 8) (m := j + 1) (by omega) (by decide)).mpr z
      rw [v3 j (Nat.le_refl _) s (by omega)] at y
      have y := of_decide_eq_false y
      refine c_besides (g := g) (by omega) (by rw [v1 122 (by omega)]; exact e0) hQ (fun q hq => by rw [v1 124 (by omega)]; exact e4 q hq) fun w hw => ?_
      rw [nI_clamp (show j + 1 < 2 ^ 31 by omega), mI_s]
      refine ⟨vp_in_nI (by omega) (by decide), vp_in_nI (by omega) (by decide), ?_⟩
      have key : ∀ p, p < 8 → tb (w &&& (r ^^^ (-1))) p = decide (dst g t p = j + 1) := by
        intro p hp
        rw [tb_and, tb_xm1 r (by omega), v4 p hp, Bool.eq_iff_iff, Bool.and_eq_true, hw p (by omega), decide_eq_true_eq, dst_s hs hp (by omega)]
        constructor
        · rintro ⟨⟨q, h1, h2, h3⟩, h4⟩
          rw [v3 j (Nat.le_refl _) q (by omega)] at h2
          refine ⟨by simpa using h4, q, h1, of_decide_eq_true h2, h3⟩
        · rintro ⟨h4, q, h1, h2, h3⟩
          refine ⟨⟨q, h1, ?_, h3⟩, by simpa using h4⟩
          rw [v3 j (Nat.le_refl _) q (by omega)]
          exact decide_eq_true h2
      have key8 : ∀ i, i < 32 → 8 ≤ i → tb (w &&& (r ^^^ (-1))) i = false := by
        intro i hi h8
        rw [tb_and]
        have : tb w i = false := Bool.eq_false_iff.mpr fun h => by
          obtain ⟨q, h1, h2, h3⟩ := (hw i hi).mp h
          have := (hs.2 q i (by omega) hi h3).2.1
          omega
        rw [this]; rfl
      refine ih (j + 1) _ _ (by omega) (by omega) (fun b hb => by rw [mI_r hb]; exact v1 b hb) v2 (fun _ i hi p hp => ?_) (fun _ i hi h8 => by rw [mI_s]; exact key8 i hi h8) (fun p hp => ?_)
      · by_cases e : i = j + 1
        · subst e; rw [mI_s]; exact key p hp
        · rw [mI_n (by omega)]; exact v3 i (by omega) p hp
      · rw [tb_or, v4 p hp, key p hp, Bool.eq_iff_iff, Bool.or_eq_true, decide_eq_true_eq, decide_eq_true_eq, decide_eq_true_eq]
        omega
/-- what stands of a way so far: l, at walker w -/
def WyC (u V : Mm) (w : Nat) (l : List Nat) : Prop := (∀ b, b ≠ 131 → b ≠ 132 → b ≠ 133 → b ≠ 134 → V.1 b = u.1 b) ∧ V.2 = u.2 ∧ (∀ i, i < 8 * w ∨ 8 * w + 8 ≤ i → V.1 131 i = u.1 131 i) ∧ (∀ i, i ≠ w → V.1 132 i = u.1 132 i ∧ V.1 133 i = u.1 133 i) ∧ V.1 132 w = nI l.length ∧ (∀ i, i < l.length → V.1 131 (8 * w + i) = nI (l.getD i 0)) ∧ ∀ q, q < 8 → (tb (V.1 133 w) q = true ↔ q ∈ l)
theorem c_extend {K : Mm → Prop} {V : Mm} {w q : Nat} {l : List Nat} (hd : 1 ≤ d) (hw : w < 8) (hq : q < 8) (hl : l.length < 8) (h : WyC u V w l) (hK : ∀ V', WyC u V' w (l ++ [q]) → V'.1 134 = V.1 134 → K V') : CV X d 11 [.ref 120, .int (nI w), .int (nI q)] V K := by
  obtain ⟨d, rfl, -⟩ := dpos hd
  obtain ⟨h1, h2, h3, h4, h5, h6, h7⟩ := h
  refine CV_of mk_X0_extendWay.2.2 rfl (B_C120_extendWay_0 ?_)
  rw [nI_clamp (show w < 2 ^ 31 by omega), h5, lt2, nI_add, nI_clamp (show 8 * w + l.length < 2 ^ 31 by omega)]
  refine ⟨vp_in_nI hw (by decide), fun z => absurd z (nI_ge (a := l.length) (b := 8) hl (by omega)), fun _ => ⟨vp_in_nI hw (by decide), vp_in_nI (by omega) (by decide), vp_in_nI hw (by decide), vp_in_nI hw (by decide), vp_in_nI hw (by decide), vp_in_nI hw (by decide), ?_⟩⟩
  rw [mI_r (a := 131) (b := 132) (by omega), h5, nI_1, mI_r (a := 132) (b := 133) (by omega), mI_r (a := 131) (b := 133) (by omega)]
  have hlen : (l ++ [q]).length = l.length + 1 := by rw [List.length_append, List.length_singleton]
  refine hK _ ⟨fun b b1 b2 b3 b4 => ?_, h2, fun i hi => ?_, fun i hi => ⟨?_, ?_⟩, ?_, fun i hi => ?_, fun p hp => ?_⟩ ?_
  · rw [mI_r b3, mI_r b2, mI_r b1]; exact h1 b b1 b2 b3 b4
  · rw [mI_r (by omega), mI_r (by omega), mI_n (by omega)]; exact h3 i hi
  · rw [mI_r (by omega), mI_n (by omega), mI_r (by omega)]; exact (h4 i hi).1
  · rw [mI_n (by omega), mI_r (by omega), mI_r (by omega)]; exact (h4 i hi).2
  · rw [mI_r (by omega), mI_s, hlen]
  · rw [mI_r (by omega), mI_r (by omega)]
    rw [hlen] at hi
    by_cases e : i = l.length
    · subst e; rw [mI_s, getD_app2]
    · rw [mI_n (by omega), getD_app1 (by omega)]; exact h6 i (by omega)
  · rw [mI_s, tb_set (by omega) (by omega), Bool.or_eq_true, h7 p hp, decide_eq_true_eq, List.mem_append, List.mem_singleton]
  · rw [mI_r (by omega), mI_r (by omega), mI_r (by omega)]
theorem c_findWay {K : Mm → Prop} {w s : Nat} (hd : 4 ≤ d) (hs : Sym g) (hw : w < 8) (ht : t < nQ g) (hst : s < nQ g) (e0 : u.1 122 0 = nI (nQ g)) (e4 : ∀ q, q < 8 → u.1 124 q = g (14 + q)) (e6 : u.1 126 w = nI s) (e7 : u.1 127 w = nI t) (hK : ∀ V', WyC u V' w (wyL g s t) → K V') : CV X d 10 [.ref 120, .int (nI w)] u K := by
  obtain ⟨d, rfl, hd1⟩ := dpos hd
  have hQ := hs.1
  refine CV_of mk_X0_findWay.2.2 rfl (B_C120_findWay_0 ?_)
  rw [nI_clamp (show w < 2 ^ 31 by omega)]
  have w0 : WyC u (mI (mI u 132 w 0) 133 w 0) w [] := by
    refine ⟨fun b b1 b2 b3 b4 => by rw [mI_r b3, mI_r b2], rfl, fun i hi => by rw [mI_r (by omega), mI_r (by omega)], fun i hi => ⟨by rw [mI_r (by omega), mI_n (by omega)], by rw [mI_n (by omega), mI_r (by omega)]⟩, by rw [mI_r (by omega), mI_s]; rfl, fun i hi => absurd hi (by simp), fun q hq => ?_⟩
    rw [mI_s, tb_0]; simp
  rw [show (mI (mI u 132 w 0) 133 w 0).1 126 w = nI s by rw [mI_r (by omega), mI_r (by omega)]; exact e6, show (mI (mI u 132 w 0) 133 w 0).1 127 w = nI t by rw [mI_r (by omega), mI_r (by omega)]; exact e7]
  refine ⟨vp_in_nI hw (by decide), vp_in_nI hw (by decide), vp_in_nI hw (by decide), vp_in_nI hw (by decide), ?_⟩
  refine c_layers (g := g) (by omega) hs ht hst (by rw [mI_r (by omega), mI_r (by omega)]; exact e0) (fun q hq => by rw [mI_r (by omega), mI_r (by omega)]; exact e4 q hq) fun V v1 v2 v3 => ?_
  have wV : WyC u V w [] := by
    obtain ⟨h1, h2, h3, h4, h5, h6, h7⟩ := w0
    refine ⟨fun b b1 b2 b3 b4 => by rw [v1 b b4]; exact h1 b b1 b2 b3 b4, by rw [v2]; exact h2, fun i hi => by rw [v1 131 (by omega)]; exact h3 i hi, fun i hi => by rw [v1 132 (by omega), v1 133 (by omega)]; exact h4 i hi, by rw [v1 132 (by omega)]; exact h5, fun i hi => absurd hi (by simp), fun q hq => by rw [v1 133 (by omega)]; exact h7 q hq⟩
  have e6V : V.1 126 w = nI s := by rw [wV.1 126 (by omega) (by omega) (by omega) (by omega)]; exact e6
  unfold wyL at hK
  rcases dst_cases g t s with ⟨h9, -⟩ | ⟨h8, -⟩
  · rw [if_pos h9] at hK ⊢
    exact ⟨fun z => absurd rfl z, fun _ => hK V wV⟩
  · rw [if_neg (by omega)] at hK ⊢
    have v3 := v3 h8
    refine ⟨fun _ => ⟨vp_in_nI hw (by decide), ?_⟩, fun z => absurd z (nI_m1 (by omega))⟩
    rw [e6V]
    refine c_extend (by omega) hw (by omega) (by simp) wV fun V2 x1 x2 => ?_
    rw [List.nil_append] at x1
    /- from a square at k steps -/
    suffices hz : ∀ k q (pre : List Nat) (V : Mm) (vv : Int32), k ≤ dst g t s → q < nQ g → dst g t q = k → pre.length + k < 8 → pre ++ wyF g t k q = wyF g t (dst g t s) s → WyC u V w (pre ++ [q]) → (∀ j, j ≤ dst g t s → ∀ p, p < 8 → tb (V.1 134 j) p = decide (dst g t p = j)) → VV X d 10 K 55 [some (.ref 120), some (.int (nI w)), some (.int vv), some (.int (nI q)), some (.int (nI k - 1)), none] [] V from hz (dst g t s) s [] V2 _ (Nat.le_refl _) hst rfl (by simp; omega) rfl x1 (fun j hj p hp => by rw [x2]; exact v3 j hj p hp)
    intro k
    induction k with
    | zero =>
      intro q pre V vv hk hq hdq hl heq hW hL
      refine B_C120_findWay_55 ⟨fun _ => hK V ?_, fun z => absurd (by decide) z⟩
      rw [← heq]
      exact hW
    | succ k ih =>
      intro q pre V vv hk hq hdq hl heq hW hL
      obtain ⟨p, p1, p2, p3, p4⟩ := nxQ_some hs hq (by omega) hdq
      have ek : nI (k + 1) - 1 = nI k := nI_pred k
      refine B_C120_findWay_55 ?_
      rw [ek, nI_clamp (show q < 2 ^ 31 by omega), nI_clamp (show k < 2 ^ 31 by omega)]
      refine ⟨fun z => absurd z (nI_pos (by omega)), fun _ => ⟨vp_in_nI (by omega) (by decide), vp_in_nI (by omega) (by decide), c_nth0 (by omega) ?_⟩⟩
      have en : fO (tb (V.1 124 q &&& V.1 134 k)) 8 = some p := by
        rw [← p1]
        unfold nxQ
        have ec : ∀ n, n ≤ 8 → fO (tb (V.1 124 q &&& V.1 134 k)) n = fO (fun p => tb (g (14 + q)) p && decide (dst g t p = k)) n := by
          intro n
          induction n with
          | zero => exact fun _ => rfl
          | succ n ihn =>
            intro hn
            rw [fO, fO, ihn (by omega), tb_and, hL k (by omega) n (by omega), hW.1 124 (by omega) (by omega) (by omega) (by omega), e4 q (by omega)]
        exact ec 8 (Nat.le_refl _)
      rw [en]
      refine ⟨fun _ => ?_, fun z => absurd z (nI_m1 (by omega))⟩
      have hlen : (pre ++ [q]).length = pre.length + 1 := by rw [List.length_append, List.length_singleton]
      refine c_extend (by omega) hw (by omega) (by omega) hW fun V3 y1 y2 => ?_
      have := ih p (pre ++ [q]) V3 vv (by omega) p2 p3 (by omega) (by rw [← heq, wyF, p1, List.append_assoc]; rfl) y1 (fun j hj p hp => by rw [y2]; exact hL j hj p hp)
      rw [show nI k + (-1 : Int32) = nI k - 1 by simp [Int32.sub_eq_add_neg]]
      exact this
end CWays
