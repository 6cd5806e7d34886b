/-! the system reads a city whole -/
section CCity
variable {X : Xc} {d : Nat} {u : Mm} {D : DR}
def CmpR (V V' : Mm) (D : DR) : Prop := (∀ b, b ≠ 120 → b ≠ 130 → b ≠ 131 → b ≠ 132 → b ≠ 133 → b ≠ 134 → V'.1 b = V.1 b) ∧ V'.2 = V.2 ∧ (∀ j, j ≠ 3 → V'.1 120 j = V.1 120 j) ∧ V'.1 120 3 = (if V.1 120 3 = -1 then 3 else V.1 120 3) ∧ (∀ i, i < 40 → V'.1 130 i = if V.1 130 i = -1 then 6 else V.1 130 i) ∧ ∀ w, w < nW' D.1 → V'.1 132 w = nI (wl D w).length ∧ (∀ i, i < (wl D w).length → V'.1 131 (8 * w + i) = nI ((wl D w).getD i 0)) ∧ ∀ q, q < 8 → (tb (V'.1 133 w) q = true ↔ q ∈ wl D w)
theorem c_complete {K : Mm → Prop} (hd : 5 ≤ d) (ho : DOk D) (hf : DrF u D) (hK : ∀ V', CmpR u V' D → K V') : CV X d 2 [.ref 120] u K := by
  obtain ⟨d, rfl, hd1⟩ := dpos hd
  obtain ⟨f0, f3, f4, f6⟩ := hf
  have hW8 := ho.1.2.2.2.2.2.2.2.1
  have hQ := ho.1.2.1
  refine CV_of mk_X0_complete.2.2 rfl (B_C120_complete_0 ?_)
  suffices hz : ∀ V1 : Mm, (∀ b, b ≠ 120 → V1.1 b = u.1 b) → V1.2 = u.2 → (∀ j, j ≠ 3 → V1.1 120 j = u.1 120 j) → V1.1 120 3 = (if u.1 120 3 = -1 then 3 else u.1 120 3) → VV X d 2 K 15 [some (.ref 120), some (.int (nI 0))] [] V1 by
    refine ⟨fun z => hz u (fun _ _ => rfl) rfl (fun _ _ => rfl) (by rw [if_neg z]), fun z => hz _ (fun b hb => mI_r hb) rfl (fun j hj => mI_n (by omega)) (by rw [mI_s, if_pos z])⟩
  intro V1 a1 a2 a3 a4
  refine lupR (n := 40) (W := fun i (V : Mm) => VV X d 2 K 15 [some (.ref 120), some (.int (nI i))] [] V)
    (I := fun i V => (∀ b, b ≠ 130 → V.1 b = V1.1 b) ∧ V.2 = V1.2 ∧ (∀ j, i ≤ j → V.1 130 j = V1.1 130 j) ∧ ∀ j, j < i → V.1 130 j = if V1.1 130 j = -1 then 6 else V1.1 130 j) ?_ V1 ⟨fun _ _ => rfl, rfl, fun _ _ => rfl, fun j hj => absurd hj (by omega)⟩
  rintro i V hi ⟨b1, b2, b3, b4⟩ ih
  refine B_C120_complete_15 ?_
  rw [nI_1, nI_clamp (show i < 2 ^ 31 by omega)]
  refine ⟨fun z => ?_, fun z => ?_⟩
  · have z : 40 ≤ i := (nI_leI (by omega) (by omega)).mp z
    refine lupR (n := nW' D.1) (W := fun w (V : Mm) => VV X d 2 K 50 [some (.ref 120), some (.int (nI w))] [] V)
      (I := fun w V' => (∀ b, b ≠ 131 → b ≠ 132 → b ≠ 133 → b ≠ 134 → V'.1 b = V.1 b) ∧ V'.2 = V.2 ∧ ∀ w', w' < w → V'.1 132 w' = nI (wl D w').length ∧ (∀ i, i < (wl D w').length → V'.1 131 (8 * w' + i) = nI ((wl D w').getD i 0)) ∧ ∀ q, q < 8 → (tb (V'.1 133 w') q = true ↔ q ∈ wl D w')) ?_ V ⟨fun _ _ _ _ _ => rfl, rfl, fun w' hw => absurd hw (by omega)⟩
    rintro w V' hw ⟨c1, c2, c3⟩ ih2
    have o : ∀ b, b ≠ 120 → b ≠ 130 → b ≠ 131 → b ≠ 132 → b ≠ 133 → b ≠ 134 → V'.1 b = u.1 b := fun b x1 x2 x3 x4 x5 x6 => by rw [c1 b x3 x4 x5 x6, b1 b x2, a1 b x1]
    refine B_C120_complete_50 ?_
    rw [nI_1, show V'.1 122 3 = nI (nW' D.1) by rw [o 122 (by omega) (by omega) (by omega) (by omega) (by omega) (by omega), f3]; exact ho.1.2.2.2.2.2.2.1]
    refine ⟨fun y => ?_, fun y => ?_⟩
    · have y := (nI_leI (by omega) (by omega)).mp y
      refine hK V' ⟨o, by rw [c2, b2, a2], fun j hj => by rw [c1 120 (by omega) (by omega) (by omega) (by omega), b1 120 (by omega)]; exact a3 j hj, by rw [c1 120 (by omega) (by omega) (by omega) (by omega), b1 120 (by omega)]; exact a4, fun j hj => ?_, fun w' hw' => c3 w' (by omega)⟩
      rw [c1 130 (by omega) (by omega) (by omega) (by omega), b4 j (by omega), a1 130 (by omega)]
    · have y := mt (nI_leI (a := nW' D.1) (b := w) (by omega) (by omega)).mpr y
      have hw' : w < nW' D.1 := by omega
      obtain ⟨s, t, s1, t1, s2, t2, e, e8, -⟩ := wl_ok ho hw'
      refine c_findWay (g := D.1) (s := s) (t := t) (by omega) ho.sym (by omega) t1 s1 ?_ (fun q hq => ?_) ?_ ?_ fun V'' x => ?_
      · rw [o 122 (by omega) (by omega) (by omega) (by omega) (by omega) (by omega), f0]; exact ho.1.1
      · rw [o 124 (by omega) (by omega) (by omega) (by omega) (by omega) (by omega)]; exact f4 q hq
      · rw [o 126 (by omega) (by omega) (by omega) (by omega) (by omega) (by omega), (f6 w hw').1]; exact s2
      · rw [o 127 (by omega) (by omega) (by omega) (by omega) (by omega) (by omega), (f6 w hw').2]; exact t2
      · rw [← e] at x
        obtain ⟨x1, x2, x3, x4, x5, x6, x7⟩ := x
        refine ih2 hw' V'' ⟨fun b y1 y2 y3 y4 => by rw [x1 b y1 y2 y3 y4]; exact c1 b y1 y2 y3 y4, by rw [x2, c2], fun w' hw2 => ?_⟩
        by_cases ew : w' = w
        · subst ew; exact ⟨x5, x6, x7⟩
        · obtain ⟨d1, d2, d3⟩ := c3 w' (by omega)
          obtain ⟨-, -, -, -, -, -, -, l8, -⟩ := wl_ok ho (show w' < nW' D.1 by omega)
          refine ⟨by rw [(x4 w' ew).1]; exact d1, fun i hi => ?_, fun q hq => by rw [(x4 w' ew).2]; exact d3 q hq⟩
          rw [x3 _ (by omega)]; exact d2 i hi
  · have z : ¬ 40 ≤ i := fun q => z (nI_le (a := 40) (b := i) q (by omega))
    have ih := ih (by omega)
    rw [b3 i (Nat.le_refl _)]
    refine ⟨vp_in_nI (by omega) (by decide), fun y => ih V ⟨b1, b2, fun j hj => b3 j (by omega), fun j hj => ?_⟩, fun y => ⟨vp_in_nI (by omega) (by decide), ih _ ⟨fun b hb => by rw [mI_r hb]; exact b1 b hb, b2, fun j hj => by rw [mI_n (by omega)]; exact b3 j (by omega), fun j hj => ?_⟩⟩⟩
    · by_cases e : j = i
      · subst e; rw [b3 j (Nat.le_refl _), if_neg y]
      · exact b4 j (by omega)
    · by_cases e : j = i
      · subst e; rw [mI_s, if_pos y]
      · rw [mI_n (by omega)]; exact b4 j (by omega)
theorem DrC_0 {K : Mm → Prop} (hd : 3 ≤ d) (hK : ∀ V, FrD u V → V.1 1 = u.1 1 → V.2 = u.2 → DrC V D0 → K V) : CV X d 121 [.ref 119] u K := by
  obtain ⟨d, rfl, hd1⟩ := dpos hd
  refine CV_of mk_X11_clear.2.2 rfl (B_W119_clear_0 ?_)
  obtain ⟨d, rfl, hd2⟩ := dpos hd1
  refine CV_of mk_X0_clear.2.2 rfl (B_C120_clear_0 ?_)
  refine c_fill (n := 4) hd2 ⟨rfl, _, rfl⟩ (by omega) ?_
  refine c_fill (n := 8) hd2 ⟨rfl, _, rfl⟩ (by omega) ?_
  refine c_fill (n := 40) hd2 ⟨rfl, _, rfl⟩ (by omega) ?_
  refine CV_of mk_X4_clear.2.2 rfl (B_L135_clear_0 ?_)
  refine c_fill (n := 8) hd2 ⟨rfl, _, rfl⟩ (by omega) ?_
  refine c_fill (n := 8) hd2 ⟨rfl, _, rfl⟩ (by omega) ?_
  refine c_fill (n := 40) hd2 ⟨rfl, _, rfl⟩ (by omega) ?_
  refine hK _ ⟨fun b b1 b2 => ?_, fun b b1 b2 => rfl⟩ ?_ rfl ?_
  · funext k
    have h : ∀ a, 120 ≤ a → a ≤ 148 → ¬ b = a := fun a x1 x2 => by omega
    simp only [mF_at, mI_at, h 122 (by omega) (by omega), h 120 (by omega) (by omega), h 124 (by omega) (by omega), h 130 (by omega) (by omega), h 135 (by omega) (by omega), h 138 (by omega) (by omega), h 142 (by omega) (by omega), h 143 (by omega) (by omega), h 144 (by omega) (by omega), false_and, if_false]
  · funext k
    simp [mF_at, mI_at]
  · obtain ⟨n1, n2, n3, n4⟩ := D0_n
    unfold DrC
    rw [n1, n2, n3, n4]
    refine ⟨⟨?_, ?_, ?_, ?_, ?_, ?_⟩, fun q hq => absurd hq (by omega), fun q hq => ⟨?_, ?_⟩, fun q hq => absurd hq (by omega), fun q hq => absurd hq (by omega), fun q hq => absurd hq (by omega), fun i hi => ?_, ?_, ?_, ?_, ?_, fun w hw => ?_, fun i hi => ?_, ?_⟩
    all_goals try (simp [mF_at, mI_at, D0]; done)
    · have e : D0.1 (14 + q) = 0 := if_neg (by omega)
      rw [e]
      simp [mF_at, mI_at, hq]
    · unfold stF
      rw [n3]
      simp [mF_at, mI_at, hq, fstI]
    · simp [mF_at, mI_at, hi, D0]
    · simp [mF_at, mI_at, hw]
    · simp [mF_at, mI_at, hi]
/-- a draft that is complete -/
def DrE (V : Mm) (D : DR) : Prop := ∃ V0, DrC V0 D ∧ CmpR V0 V D
theorem c_readCity {K : Int32 → Mm → Prop} {f : Nat → Nat} {n : Nat} (hd : 9 ≤ d) (hn : n ≤ 940) (hb : TBy u f) (hw : WordsR u) (e1 : u.1 1 1 = nI n)
    (h0 : ∀ e, rdAll f n = .inl e → ∀ w V, FrD u V → FtC V e → K w V) (h1 : ∀ k D, rdAll f n = .inr (k, D) → DOk D → ∀ V, FrD u V → V.1 1 2 = 0 → DrE V D → K (nI k) V) : CI X d 15 [.ref 118] u K := by
  obtain ⟨d, rfl, hd1⟩ := dpos hd
  refine CI_of mk_X1_readCity.2.2 rfl (B_CR_readCity_0 ?_)
  refine DrC_0 (by omega) fun V v1 v2 v3 v4 => ?_
  have hE : En u f n 900 := ⟨hn, by omega, hb, hw⟩
  have hEV : En V f n 900 := FrD.en hE v1
  refine c_begin (f := f) (n := n) (m := 900) (by omega) hn (by omega) hEV.2.2.1 hEV.2.2.2 (by rw [v2]; exact e1) fun V2 w1 w2 => ?_
  obtain ⟨k0, a0⟩ := tk0 (f := f) (n := n) (m := 900) hn (by omega)
  refine kLines (u := u) (by omega) rfl 500 0 D0 (tokF f n 900 (sk f n 0)) V2 (by omega) (by omega) (fun q1 q2 => by have := a0 q1 q2; omega) hE (v1.tr w1.d) (w1.dr v4) D0_ok w2 k0 (fun e he D'' o'' w V' x1 x2 x3 => ?_) (fun k' D' he o' V' x1 x2 x3 => ?_)
  · refine c_complete (by omega) o'' x2 fun V3 y => ?_
    obtain ⟨y1, y2, -⟩ := y
    refine h0 e he w V3 ⟨fun b b1 b2 => by rw [y1 b (by omega) (by omega) (by omega) (by omega) (by omega) (by omega)]; exact x1.1 b b1 b2, fun b b1 b2 => by rw [y2]; exact x1.2 b b1 b2⟩ (x3.cg (y1 1 (by omega) (by omega) (by omega) (by omega) (by omega) (by omega)))
  · refine c_complete (by omega) o' (x3.f Fr1.rf.g) fun V3 y => ?_
    have y' := y
    obtain ⟨y1, y2, -⟩ := y'
    refine h1 k' D' he o' V3 ⟨fun b b1 b2 => by rw [y1 b (by omega) (by omega) (by omega) (by omega) (by omega) (by omega)]; exact x1.1 b b1 b2, fun b b1 b2 => by rw [y2]; exact x1.2 b b1 b2⟩ (by rw [y1 1 (by omega) (by omega) (by omega) (by omega) (by omega) (by omega)]; exact x2) ⟨V', x3, y⟩
/-- the model's row of a city that has begun -/
def stS (g : Nat → Int32) (i : Nat) : Int32 := if 202 ≤ i ∧ i < 210 then g (i - 180) else if 210 ≤ i ∧ i < 218 then (if i - 210 < nA g then g (i - 180) else -1) else if 218 ≤ i ∧ i < 226 then g (i - 180) else 0
def CityG (D : DR) (g : Nat → Int32) (nm : Nat → Int64) : Prop := (∀ i, i < 126 → g i = D.1 i) ∧ (∀ w, w < nW' D.1 → g (126 + w) = nI (wl D w).length ∧ ∀ i, i < (wl D w).length → g (134 + 8 * w + i) = nI ((wl D w).getD i 0)) ∧ ((∀ i, i < nQ D.1 → nm i = lN (e27 (D.2.1 i))) ∧ (∀ k, k < nK D.1 → nm (8 + k) = lN (e27 (D.2.1 (8 + k)))) ∧ (∀ a, a < nA D.1 → nm (13 + a) = lN (e27 (D.2.1 (13 + a)))) ∧ ∀ w, w < nW' D.1 → nm (21 + w) = lN (e27 (D.2.1 (21 + w)))) ∧ ∀ i, 198 ≤ i → i < 532 → g i = stS g i
theorem CityG.world {V : Mm} {g : Nat → Int32} {nm : Nat → Int64} (ho : DOk D) (hc : DrE V D) (hg : CityG D g nm) : WorldR V 120 135 144 g nm := by
  obtain ⟨V0, ⟨⟨c1, c2, c3, c4, c5, c6⟩, s, ns, kk, aa, ww, li, z1, z2, z3, z4, z5, z6, z7⟩, ⟨y1, y2, y3, y4, y5, y6⟩⟩ := hc
  obtain ⟨g1, g2, ⟨m1, m2, m3, m4⟩, g4⟩ := hg
  have ho' := ho
  obtain ⟨⟨a1, a2, a3, a4, a5, a6, a7, a8, a9, a10, a11⟩, b, c, dd, e, e2, gg, h1, h2⟩ := ho'
  have nq : nQ g = nQ D.1 := by unfold nQ; rw [g1 0 (by omega)]
  have nk : nK g = nK D.1 := by unfold nK; rw [g1 2 (by omega)]
  have na : nA g = nA D.1 := by unfold nA; rw [g1 3 (by omega)]
  have nw : nW' g = nW' D.1 := by unfold nW'; rw [g1 4 (by omega)]
  have nl : ∀ w, w < nW' D.1 → nLen g w = (wl D w).length := fun w hw => by
    obtain ⟨-, -, -, -, -, -, -, l8, -⟩ := wl_ok ho hw
    unfold nLen
    rw [(g2 w hw).1, nI_clamp (by omega)]
  have o : ∀ b, b ≠ 120 → b ≠ 130 → b ≠ 131 → b ≠ 132 → b ≠ 133 → b ≠ 134 → V.1 b = V0.1 b := y1
  have s2 : ∀ a, a < 8 → g (202 + a) = g (22 + a) := fun a ha => by rw [g4 _ (by omega) (by omega)]; unfold stS; rw [if_pos (by omega), show 202 + a - 180 = 22 + a by omega]
  have s3 : ∀ a, a < nA D.1 → g (210 + a) = g (30 + a) := fun a ha => by rw [g4 _ (by omega) (by omega)]; unfold stS; rw [if_neg (by omega), if_pos (by omega), if_pos (by rw [na]; omega), show 210 + a - 180 = 30 + a by omega]
  have s4 : ∀ a, a < 8 → g (218 + a) = g (38 + a) := fun a ha => by rw [g4 _ (by omega) (by omega)]; unfold stS; rw [if_neg (by omega), if_neg (by omega), if_pos (by omega), show 218 + a - 180 = 38 + a by omega]
  have s0 : ∀ i, 198 ≤ i → i < 532 → (i < 202 ∨ 226 ≤ i) → g i = 0 := fun i i1 i2 i3 => by rw [g4 i i1 i2]; unfold stS; rw [if_neg (by omega), if_neg (by omega), if_neg (by omega)]
  have hcm : ∀ w q, w < nW' D.1 → q < 8 → (cm g w (nI q) = true ↔ q ∈ wl D w) := by
    intro w q hw hq
    obtain ⟨-, -, -, -, -, -, -, l8, lx⟩ := wl_ok ho hw
    unfold cm
    rw [nl w hw, List.any_eq_true, mem_getD]
    constructor
    · rintro ⟨i, i1, i2⟩
      have i1 := List.mem_range.mp i1
      have i2 := of_decide_eq_true i2
      rw [(g2 w hw).2 i i1] at i2
      refine ⟨i, i1, (nI_eq ?_ (by omega)).mp i2⟩
      have := lx _ (mem_getD.mpr ⟨i, i1, rfl⟩)
      omega
    · rintro ⟨i, i1, i2⟩
      exact ⟨i, List.mem_range.mpr i1, decide_eq_true (by rw [(g2 w hw).2 i i1, i2])⟩
  refine ⟨⟨⟨?_, ?_, ?_, ?_, ?_, ?_, ?_, ?_⟩, ?_, ?_⟩, ⟨⟨?_, ?_, ?_, ?_, ?_, ?_⟩, ?_, ?_, ?_, ?_⟩, ⟨⟨0, by omega, ?_⟩, ?_, ?_, ?_, ?_, ?_⟩, ⟨⟨?_, ?_, ?_, ?_⟩, ?_, ?_, ?_⟩, Or.inl (s0 290 (by omega) (by omega) (by omega)), Or.inl ⟨s0 290 (by omega) (by omega) (by omega), by rw [o 144 (by omega) (by omega) (by omega) (by omega) (by omega) (by omega)]; exact z7⟩⟩
  · rw [nq, g1 0 (by omega)]; exact a1
  · rw [nq]; exact a2
  · rw [nk, g1 2 (by omega)]; exact a3
  · rw [nk]; exact a4
  · rw [na, g1 3 (by omega)]; exact a5
  · rw [na]; exact a6
  · rw [nw, g1 4 (by omega)]; exact a7
  · rw [nw]; exact a8
  · intro q hq
    rw [nq] at hq ⊢
    rw [g1 _ (by omega), g1 _ (by omega)]
    exact ⟨(b q hq).1, fun i hi ht => (c q i (by omega) hi ht).2.1⟩
  · intro w hw
    rw [nw] at hw
    rw [nq, nl w hw, g1 _ (by omega), g1 _ (by omega), g1 _ (by omega), g1 _ (by omega), (g2 w hw).1]
    obtain ⟨x1, x2, x3, x4, x5, x6⟩ := gg w hw
    obtain ⟨-, -, -, -, -, -, -, l8, lx⟩ := wl_ok ho hw
    refine ⟨x1, x2, x3, x4, fun k hk => by rw [g1 _ (by omega)]; exact x5 k hk, rfl, l8, fun i hi => ⟨_, lx _ (mem_getD.mpr ⟨i, hi, rfl⟩), (g2 w hw).2 i hi⟩⟩
  · rw [o 122 (by omega) (by omega) (by omega) (by omega) (by omega) (by omega), g1 0 (by omega)]; exact c1
  · rw [o 122 (by omega) (by omega) (by omega) (by omega) (by omega) (by omega), g1 2 (by omega)]; exact c2
  · rw [o 122 (by omega) (by omega) (by omega) (by omega) (by omega) (by omega), g1 3 (by omega)]; exact c3
  · rw [o 122 (by omega) (by omega) (by omega) (by omega) (by omega) (by omega), g1 4 (by omega)]; exact c4
  · rw [y3 2 (by omega), g1 1 (by omega)]; exact c5
  · rw [y4, g1 5 (by omega), c6]
    cases hD : D.2.2.2 with
    | false => rw [if_neg (show ¬ (false = true) by decide), if_pos rfl]; exact (a11 hD).symm
    | true =>
      rw [if_pos rfl]
      obtain ⟨v, v1, v2, v3⟩ := a10
      rw [if_neg (by rw [v3]; exact nI_m1 (by omega))]
  · intro q hq
    rw [nq] at hq
    rw [o 123 (by omega) (by omega) (by omega) (by omega) (by omega) (by omega), o 124 (by omega) (by omega) (by omega) (by omega) (by omega) (by omega), g1 _ (by omega), g1 _ (by omega), y2]
    exact ⟨(s q hq).1, (ns q (by omega)).1, D.2.1 q, (b q hq).2.1, (b q hq).2.2.1, (b q hq).2.2.2, (s q hq).2, m1 q hq⟩
  · intro k hk
    rw [nk] at hk
    rw [y2]
    exact ⟨D.2.1 (8 + k), (dd k hk).1, (dd k hk).2.1, (dd k hk).2.2, kk k hk, m2 k hk⟩
  · intro a ha
    rw [na] at ha
    rw [o 125 (by omega) (by omega) (by omega) (by omega) (by omega) (by omega), g1 _ (by omega), y2]
    obtain ⟨x1, x2, x3, x4⟩ := e a ha
    exact ⟨(aa a ha).1, ⟨D.2.1 (13 + a), x4.1, x4.2.1, x4.2.2, (aa a ha).2.2.2.2.2.2, m3 a ha⟩, x3⟩
  · intro w hw
    rw [nw] at hw
    obtain ⟨w1, w2, w3, w4, w5⟩ := ww w hw
    obtain ⟨x1, x2, x3, x4, x5, x6⟩ := gg w hw
    obtain ⟨u1, u2, u3⟩ := y6 w hw
    rw [o 126 (by omega) (by omega) (by omega) (by omega) (by omega) (by omega), o 127 (by omega) (by omega) (by omega) (by omega) (by omega) (by omega), o 128 (by omega) (by omega) (by omega) (by omega) (by omega) (by omega), o 129 (by omega) (by omega) (by omega) (by omega) (by omega) (by omega), g1 _ (by omega), g1 _ (by omega), g1 _ (by omega), g1 _ (by omega), (g2 w hw).1, nl w hw, y2]
    refine ⟨w1, w2, w3, w4, u1, fun k hk => ?_, fun i hi => by rw [(g2 w hw).2 i hi]; exact u2 i hi, fun q hq => ?_, D.2.1 (21 + w), x6.1, x6.2.1, x6.2.2, w5, m4 w hw⟩
    · show V.1 130 (5 * w + k) = _
      rw [y5 _ (by omega), li _ (by omega), g1 _ (by omega)]
      obtain ⟨v, v1, v2⟩ := x5 k hk
      cases hD : D.2.2.1 (5 * w + k) with
      | false => rw [if_neg (show ¬ (false = true) by decide), if_pos rfl, show 86 + 5 * w + k = 86 + (5 * w + k) by omega, h2 _ (by omega) hD]
      | true => rw [if_pos rfl, ← show 86 + 5 * w + k = 86 + (5 * w + k) by omega, if_neg (by rw [v2]; exact nI_m1 (by omega))]
    · show tb (V.1 133 w) q = _
      rw [Bool.eq_iff_iff, u3 q hq, hcm w q hw hq]
  · exact s0 198 (by omega) (by omega) (by omega)
  · intro i hi ht
    rw [s0 200 (by omega) (by omega) (by omega), tb_0] at ht; cases ht
  · intro i hi ht
    rw [s0 201 (by omega) (by omega) (by omega), tb_0] at ht; cases ht
  · intro a ha
    rw [na] at ha
    rw [nk, nq, s2 a (by omega), s3 a ha, g1 (22 + a) (by omega), g1 (30 + a) (by omega), s0 201 (by omega) (by omega) (by omega), tb_0]
    exact ⟨(e a ha).1, Or.inr ⟨rfl, (e a ha).2.1⟩⟩
  · intro a b' ha hb hab he
    rw [na] at ha hb
    rw [s3 a ha, s3 b' hb, g1 _ (by omega), g1 _ (by omega)] at he
    exact absurd he (e2 a b' ha hb hab)
  · intro w hw k hk
    rw [nw] at hw
    exact ⟨0, by omega, s0 _ (by omega) (by omega) (by omega)⟩
  · rw [o 135 (by omega) (by omega) (by omega) (by omega) (by omega) (by omega), s0 198 (by omega) (by omega) (by omega)]; exact z1
  · rw [o 135 (by omega) (by omega) (by omega) (by omega) (by omega) (by omega), s0 199 (by omega) (by omega) (by omega)]; exact z2
  · rw [o 135 (by omega) (by omega) (by omega) (by omega) (by omega) (by omega), s0 200 (by omega) (by omega) (by omega)]; exact z4
  · rw [o 135 (by omega) (by omega) (by omega) (by omega) (by omega) (by omega), s0 201 (by omega) (by omega) (by omega)]; exact z3
  · intro a ha
    rw [na] at ha
    rw [o 136 (by omega) (by omega) (by omega) (by omega) (by omega) (by omega), o 137 (by omega) (by omega) (by omega) (by omega) (by omega) (by omega), o 139 (by omega) (by omega) (by omega) (by omega) (by omega) (by omega), o 140 (by omega) (by omega) (by omega) (by omega) (by omega) (by omega), o 141 (by omega) (by omega) (by omega) (by omega) (by omega) (by omega), s2 a (by omega), s3 a ha, s4 a (by omega), g1 _ (by omega), g1 _ (by omega), g1 _ (by omega), s0 (226 + a) (by omega) (by omega) (by omega), s0 (234 + a) (by omega) (by omega) (by omega)]
    exact ⟨(aa a ha).2.1, (aa a ha).2.2.1, (aa a ha).2.2.2.1, (aa a ha).2.2.2.2.1, (aa a ha).2.2.2.2.2.1⟩
  · intro q hq
    rw [nq] at hq
    rw [o 138 (by omega) (by omega) (by omega) (by omega) (by omega) (by omega), (ns q (by omega)).2]
    unfold stF stAt
    rw [na]
    exact fstI_congr fun a ha => by rw [s3 a ha, g1 _ (by omega)]
  · intro w hw
    rw [nw] at hw
    rw [o 142 (by omega) (by omega) (by omega) (by omega) (by omega) (by omega), o 143 (by omega) (by omega) (by omega) (by omega) (by omega) (by omega), s0 (242 + w) (by omega) (by omega) (by omega)]
    exact ⟨z5 w (by omega), fun k hk => by rw [s0 _ (by omega) (by omega) (by omega)]; exact z6 _ (by omega)⟩
end CCity
