section RouteM
variable {X : Xc} {u : Mm} {g : Nat → Int32} {bv : Nat → Nat}
/-- what stands while the model seeks -/
def SkM (u : Mm) (g : Nat → Int32) (bv : Nat → Nat) (V : Mm) : Prop := (∀ b, b ≠ 234 → b ≠ 251 → b ≠ 252 → V.1 b = u.1 b) ∧ V.2 = u.2 ∧ (∀ k, k ≠ 37 → k ≠ 38 → V.1 234 k = u.1 234 k) ∧ u.1 236 = g ∧ ∀ a, a < nA g → u.1 253 a = nI (bv a)
theorem SkM.g6 {V : Mm} (hs : SkM u g bv V) : V.1 236 = g := by rw [hs.1 236 (by omega) (by omega) (by omega)]; exact hs.2.2.2.1
theorem SkM.w1 {V : Mm} {j : Nat} {x : Int32} (hs : SkM u g bv V) : SkM u g bv (mI V 251 j x) := ⟨fun b b1 b2 b3 => by rw [mI_r b2]; exact hs.1 b b1 b2 b3, hs.2.1, fun k k1 k2 => by rw [mI_r (by omega)]; exact hs.2.2.1 k k1 k2, hs.2.2.2⟩
theorem SkM.w2 {V : Mm} {j : Nat} {x : Int32} (hs : SkM u g bv V) : SkM u g bv (mI V 252 j x) := ⟨fun b b1 b2 b3 => by rw [mI_r b3]; exact hs.1 b b1 b2 b3, hs.2.1, fun k k1 k2 => by rw [mI_r (by omega)]; exact hs.2.2.1 k k1 k2, hs.2.2.2⟩
theorem SkM.w3 {V : Mm} {x : Int32} (hs : SkM u g bv V) : SkM u g bv (mI V 234 37 x) := ⟨fun b b1 b2 b3 => by rw [mI_r b1]; exact hs.1 b b1 b2 b3, hs.2.1, fun k k1 k2 => by rw [mI_n (by omega)]; exact hs.2.2.1 k k1 k2, hs.2.2.2⟩
theorem SkM.w4 {V : Mm} {x : Int32} (hs : SkM u g bv V) : SkM u g bv (mI V 234 38 x) := ⟨fun b b1 b2 b3 => by rw [mI_r b1]; exact hs.1 b b1 b2 b3, hs.2.1, fun k k1 k2 => by rw [mI_n (by omega)]; exact hs.2.2.1 k k1 k2, hs.2.2.2⟩
theorem c_bribeAt {d : Nat} {K : Int32 → Mm → Prop} {q : Nat} {V : Mm} (hd : 2 ≤ d) (hg : HeadOk g) (hs : SkM u g bv V) (hK : K (nI (brQ g bv q)) V) : CI X d 270 [.ref 234, .int (nI q)] V K := by
  obtain ⟨d, rfl, hd1⟩ := dpos hd
  have hA := hg.1.2.2.2.2.2.1
  have e6 := hs.g6
  refine CI_of mk_X13_bribeAt.2.2 rfl (B_M_bribeAt_0 (c_mstandsAt (n := nA g) hd1 (by rw [e6]; exact hg.1.2.2.2.2.1) hA ?_))
  rw [e6]
  change (¬ stAt g g (nI q) = -1 → _) ∧ (stAt g g (nI q) = -1 → _)
  rcases stAt_cases (g := g) (s := g) (q := q) hA with ⟨e, -⟩ | ⟨a, ha, e, -⟩
  · have eb : brQ g bv q = 0 := by unfold brQ; rw [if_pos e]
    rw [eb] at hK
    exact ⟨fun x => absurd e x, fun _ => hK⟩
  · have eb : brQ g bv q = bv a := by unfold brQ; rw [e, if_neg (nI_m1 (by omega)), nI_clamp (by omega)]
    rw [eb] at hK
    refine ⟨fun _ => ?_, fun x => absurd (e.symm.trans x) (nI_m1 (by omega))⟩
    have e' : fstI (fun a => decide (g (210 + a) = nI q)) (nA g) = nI a := e
    rw [e', nI_clamp (by omega), hs.1 253 (by omega) (by omega) (by omega), hs.2.2.2.2 a ha]
    exact ⟨vp_in_nI (by omega) (by decide), hK⟩
theorem m_visit {d M : Nat} {K : Mm → Prop} {tr : List Nat} {t w : Nat} {V : Mm} {R : RS} (ht : trOk tr t w) (hR : rsOk R) (hs : SkM u g bv V) (hr : rmR V R) (hp : ∀ i, i < tr.length → V.1 251 i = nI (tr.getD i 0))
    (rest : ∀ V1, SkM u g bv V1 → rmR V1 (visF tr t w R) → (∀ i, i < tr.length → V1.1 251 i = nI (tr.getD i 0)) → (¬ nI tr.length = nI M → vp_in (nI tr.length - 1) 8 ∧ VV X d 271 K 83 [some (.ref 234), some (.int (nI tr.length)), some (.int (nI t)), some (.int (nI w)), some (.int (nI M)), some (.int (V1.1 251 (nI tr.length - 1).toNatClampNeg)), some (.int 0)] [] V1) ∧ (nI tr.length = nI M → K V1)) :
    VV X d 271 K 0 [some (.ref 234), some (.int (nI tr.length)), some (.int (nI t)), some (.int (nI w)), some (.int (nI M)), none, none] [] V := by
  have hw := ht.2.1
  have hl := ht.2.2.1
  have copy : visF tr t w R = some (w, tr, t) → VV X d 271 K 37 [some (.ref 234), some (.int (nI tr.length)), some (.int (nI t)), some (.int (nI w)), some (.int (nI M)), some (.int (0)), none] [] (mI (mI V 234 38 (nI w)) 234 37 (nI tr.length)) := by
    intro ev
    refine lupR (n := tr.length) (W := fun i (V1 : Mm) => VV X d 271 K 37 [some (.ref 234), some (.int (nI tr.length)), some (.int (nI t)), some (.int (nI w)), some (.int (nI M)), some (.int (nI i)), none] [] V1)
      (I := fun i V1 => SkM u g bv V1 ∧ V1.1 234 37 = nI tr.length ∧ V1.1 234 38 = nI w ∧ (∀ k, k < tr.length → V1.1 251 k = nI (tr.getD k 0)) ∧ ∀ k, k < i → V1.1 252 k = nI (tr.getD k 0)) ?_ _ ⟨hs.w4.w3, mI_s, by rw [mI_n (by omega), mI_s], fun k hk => by rw [mI_r (by omega), mI_r (by omega)]; exact hp k hk, fun k hk => absurd hk (by omega)⟩
    rintro i V1 hi ⟨i1, i2, i3, i4, i5⟩ ih
    refine B_M_goFrom_37 ?_
    rw [nI_clamp (show i < 2 ^ 31 by omega)]
    refine ⟨fun z => ?_, fun z => ?_⟩
    · have z := (nI_leI (by omega) (by omega)).mp z
      exact rest V1 i1 (by rw [ev]; exact ⟨i2, i3, fun k hk => i5 k (by dsimp only at hk; omega)⟩) i4
    · have z := mt (nI_leI (a := tr.length) (b := i) (by omega) (by omega)).mpr z
      refine ⟨vp_in_nI (by omega) (by decide), vp_in_nI (by omega) (by decide), ?_⟩
      rw [nI_1]
      refine ih (by omega) _ ⟨i1.w2, by rw [mI_r (by omega)]; exact i2, by rw [mI_r (by omega)]; exact i3, fun k hk => by rw [mI_r (by omega)]; exact i4 k hk, fun k hk => ?_⟩
      by_cases e : k = i
      · subst e; rw [mI_s]; exact i4 k (by omega)
      · rw [mI_n (by omega)]; exact i5 k (by omega)
  refine B_M_goFrom_0 ?_
  cases hR' : R with
  | none =>
    rw [hR'] at hr
    obtain ⟨r6, r7⟩ := hr
    rw [r7]
    refine ⟨fun _ => copy (by rw [hR']; rfl), fun x => absurd ?_ x⟩
    rw [Int32.lt_iff_toInt_lt, nI_toInt (by omega)]
    have : (-1 : Int32).toInt = -1 := rfl
    omega
  | some z =>
    have hz := hR z hR'
    have hz1 := hz.2.1
    have hz2 := hz.2.2.1
    have hr0 := hr
    rw [hR'] at hr
    obtain ⟨r6, r7, r8⟩ := hr
    have stay : ¬ (z.1 < w ∨ w = z.1 ∧ tr.length < z.2.1.length) → rmR V (visF tr t w R) := by
      intro hn
      have : visF tr t w R = R := by rw [hR']; unfold visF; dsimp only; rw [if_neg hn]
      rw [this]; exact hr0
    have go : (z.1 < w ∨ w = z.1 ∧ tr.length < z.2.1.length) → visF tr t w R = some (w, tr, t) := by
      intro hn
      rw [hR']; unfold visF; dsimp only; rw [if_pos hn]
    rw [r6, r7]
    refine ⟨fun x => copy (go (Or.inl ((nI_ltI (by omega) (by omega)).mp x))), fun x => ⟨fun x2 => ?_, fun x2 => ⟨fun x3 => ?_, fun x3 => ?_⟩⟩⟩
    · have x := mt (nI_ltI (a := z.1) (b := w) (by omega) (by omega)).mpr x
      have x2 := mt (nI_eq (a := w) (b := z.1) (by omega) (by omega)).mpr x2
      exact rest V hs (stay (by omega)) hp
    · have x := mt (nI_ltI (a := z.1) (b := w) (by omega) (by omega)).mpr x
      have x3 := (nI_leI (by omega) (by omega)).mp x3
      exact rest V hs (stay (by omega)) hp
    · have x2 := (nI_eq (by omega) (by omega)).mp x2
      have x3 := mt (nI_leI (a := z.2.1.length) (b := tr.length) (by omega) (by omega)).mpr x3
      exact copy (go (Or.inr ⟨x2, by omega⟩))
theorem rsOk_fo {f q : Nat} {tr : List Nat} {t w : Nat} {R : RS} (hA : nA g ≤ 8) (hQ : nQ g ≤ 8) (hb : ∀ a, a < nA g → bv a ≤ 200) (h : trOk tr t w) (hl : tr.length + (f + 1) ≤ 8) (hR : rsOk R) : ∀ n, n ≤ nQ g → rsOk (foF (fun p R => if tb (g (14 + q)) p = true ∧ t.testBit p = false then bodF g bv f p (tr ++ [p]) (t ||| 2 ^ p) (w + brQ g bv p) R else R) (visF tr t w R) n) := by
  intro n hn
  induction n with
  | zero => exact rsOk_vis h hR
  | succ n ih =>
    rw [foF]
    have ih := ih (by omega)
    split
    · refine rsOk_bod hA hQ hb f n _ _ _ _ (trOk_add h (by omega) (brQ_le hA hb) (by omega)) ?_ ih
      rw [List.length_append, List.length_singleton]
      omega
    · exact ih
theorem c_goFrom (hg : HeadOk g) (hb : ∀ a, a < nA g → bv a ≤ 200) : ∀ f d q tr t w V R (K : Mm → Prop), f + 3 ≤ d → q < nQ g → 1 ≤ tr.length → tr.getD (tr.length - 1) 0 = q → tr.length + f ≤ 8 → trOk tr t w → rsOk R → SkM u g bv V → rmR V R → (∀ i, i < tr.length → V.1 251 i = nI (tr.getD i 0)) →
    (∀ V', SkM u g bv V' → rmR V' (bodF g bv f q tr t w R) → (∀ i, i < tr.length → V'.1 251 i = nI (tr.getD i 0)) → K V') → CV X d 271 [.ref 234, .int (nI tr.length), .int (nI t), .int (nI w), .int (nI (tr.length + f))] V K := by
  have hA := hg.1.2.2.2.2.2.1
  have hQ := hg.1.2.1
  intro f
  induction f with
  | zero =>
    intro d q tr t w V R K hd hq h1 hl hf ht hR hs hr hp hK
    obtain ⟨d, rfl, hd1⟩ := dpos hd
    refine CV_of mk_X13_goFrom.2.2 rfl (m_visit ht hR hs hr hp fun V1 x1 x2 x3 => ⟨fun z => absurd rfl z, fun _ => hK V1 x1 x2 x3⟩)
  | succ f ih =>
    intro d q tr t w V R K hd hq h1 hl hf ht hR hs hr hp hK
    obtain ⟨d, rfl, hd1⟩ := dpos hd
    refine CV_of mk_X13_goFrom.2.2 rfl (m_visit ht hR hs hr hp fun V1 x1 x2 x3 => ?_)
    have en : nI tr.length - 1 = nI (tr.length - 1) := pk_sub (b := 1) h1
    rw [en, nI_clamp (by omega), x3 _ (by omega), hl]
    refine ⟨fun _ => ⟨vp_in_nI (by omega) (by decide), ?_⟩, fun z => absurd ((nI_eq (by omega) (by omega)).mp z) (by omega)⟩
    refine lupR (n := nQ g) (W := fun p (V2 : Mm) => VV X d 271 K 83 [some (.ref 234), some (.int (nI tr.length)), some (.int (nI t)), some (.int (nI w)), some (.int (nI (tr.length + (f + 1)))), some (.int (nI q)), some (.int (nI p))] [] V2)
      (I := fun p V2 => SkM u g bv V2 ∧ rmR V2 (foF (fun p R => if tb (g (14 + q)) p = true ∧ t.testBit p = false then bodF g bv f p (tr ++ [p]) (t ||| 2 ^ p) (w + brQ g bv p) R else R) (visF tr t w R) p) ∧ ∀ i, i < tr.length → V2.1 251 i = nI (tr.getD i 0)) ?_ V1 ⟨x1, x2, x3⟩
    rintro p V2 hpl ⟨i1, i2, i3⟩ ih2
    have e6 := i1.g6
    have hq8 : q < 8 := by omega
    refine B_M_goFrom_83 ?_
    rw [e6, hg.1.1, show (14 : Int32) + nI q = nI (14 + q) from nI_add 14 q, nI_clamp (show 14 + q < 2 ^ 31 by omega), nI_clamp (show tr.length < 2 ^ 31 by omega)]
    refine ⟨fun z => ?_, fun z => ?_⟩
    · have z := (nI_leI (by omega) (by omega)).mp z
      rw [show p = nQ g by omega] at i2
      exact hK V2 i1 i2 i3
    · have z := mt (nI_leI (a := nQ g) (b := p) (by omega) (by omega)).mpr z
      have ih2 := ih2 (by omega)
      rw [nI_1]
      refine c_mhas (by omega) (by omega) (fun y => ⟨fun _ => ih2 V2 ⟨i1, ?_, i3⟩, fun z => absurd z (by decide)⟩) (fun y => ⟨fun z => absurd rfl z, fun _ => ⟨vp_in_nI (by omega) (by decide), ?_⟩⟩)
      · rw [tb_bit _ ht.1 p (by omega)] at y
        rw [foF, if_neg (by rw [y]; simp)]
        exact i2
      · rw [tb_bit _ ht.1 p (by omega)] at y
        rw [e6]
        refine c_mhas (by omega) (by omega) (fun y2 => ⟨fun _ => ⟨vp_in_nI (by omega) (by decide), ?_⟩, fun z => absurd z (by decide)⟩) (fun y2 => ⟨fun z => absurd rfl z, fun _ => ih2 V2 ⟨i1, ?_, i3⟩⟩)
        · obtain ⟨o1, o2, o3⟩ := or_bit t ht.1 p (by omega)
          have hlen : (tr ++ [p]).length = tr.length + 1 := by rw [List.length_append, List.length_singleton]
          have ht' := trOk_add ht (show p < 8 by omega) (brQ_le (g := g) (bv := bv) (q := p) hA hb) (by omega)
          refine c_bribeAt (by omega) hg i1.w1 ?_
          rw [nI_1, o1, nI_add, ← hlen, show tr.length + (f + 1) = (tr ++ [p]).length + f by rw [hlen]; omega]
          refine ih d p (tr ++ [p]) _ _ _ (foF (fun p R => if tb (g (14 + q)) p = true ∧ t.testBit p = false then bodF g bv f p (tr ++ [p]) (t ||| 2 ^ p) (w + brQ g bv p) R else R) (visF tr t w R) p) _ (by omega) (by omega) (by omega) (by rw [hlen]; exact getD_app2) (by omega) ht' (rsOk_fo hA hQ hb ht (by omega) hR p (by omega)) i1.w1 ?_ (fun i hi => ?_) fun V3 y1 y2' y3 => ?_
          · unfold rmR at i2 ⊢
            split at i2
            · exact ⟨by rw [mI_r (by omega)]; exact i2.1, by rw [mI_r (by omega)]; exact i2.2⟩
            · exact ⟨by rw [mI_r (by omega)]; exact i2.1, by rw [mI_r (by omega)]; exact i2.2.1, fun i hi => by rw [mI_r (by omega)]; exact i2.2.2 i hi⟩
          · rw [hlen] at hi
            by_cases e : i = tr.length
            · subst e; rw [mI_s, getD_app2]
            · rw [mI_n (by omega), getD_app1 (by omega)]; exact i3 i (by omega)
          · rw [show (tr ++ [p]).length + f = tr.length + (f + 1) by rw [hlen]; omega]
            refine ih2 V3 ⟨y1, ?_, fun i hi => by rw [y3 i (by omega), getD_app1 hi]⟩
            rw [foF, if_pos ⟨y2, y⟩]
            exact y2'
        · rw [foF, if_neg (by rw [y2]; simp)]
          exact i2
/-- the best route -/
def rtF (g : Nat → Int32) (bv : Nat → Nat) (n q : Nat) : RS := bodF g bv (n - 1) q [q] (2 ^ q) (brQ g bv q) none
theorem trOk1 {q : Nat} (hq : q < 8) (hA : nA g ≤ 8) (hb : ∀ a, a < nA g → bv a ≤ 200) : trOk [q] (2 ^ q) (brQ g bv q) := by
  have h0 : trOk [] 0 0 := ⟨by omega, by omega, by simp, fun q hq => by simp⟩
  have := trOk_add h0 hq (brQ_le (g := g) (bv := bv) (q := q) hA hb) (by simp)
  simpa using this
theorem rtOk {n q : Nat} (hg : HeadOk g) (hb : ∀ a, a < nA g → bv a ≤ 200) (hq : q < nQ g) (hn : n ≤ 8) (h1 : 1 ≤ n) : ∃ z, rtF g bv n q = some z ∧ trOk z.2.1 z.2.2 z.1 := by
  have hA := hg.1.2.2.2.2.2.1
  have hQ := hg.1.2.1
  have h := rsOk_bod hA hQ hb (n - 1) q [q] (2 ^ q) (brQ g bv q) none (trOk1 (by omega) hA hb) (by simp; omega) (fun z hz => by cases hz)
  have h2 := bodF_some (g := g) (bv := bv) (n - 1) q [q] (2 ^ q) (brQ g bv q) none
  unfold rtF
  cases e : bodF g bv (n - 1) q [q] (2 ^ q) (brQ g bv q) none with
  | none => exact absurd e h2
  | some z => exact ⟨z, rfl, h z e⟩
theorem c_mlayR {d n q : Nat} {K : Mm → Prop} (hd : 13 ≤ d) (hg : HeadOk g) (hb : ∀ a, a < nA g → bv a ≤ 200) (hq : q < nQ g) (hn : n ≤ 8) (h1 : 1 ≤ n) (e6 : u.1 236 = g) (e3 : ∀ a, a < nA g → u.1 253 a = nI (bv a)) (hK : ∀ V', SkM u g bv V' → rmR V' (rtF g bv n q) → K V') : CV X d 272 [.ref 234, .int (nI q), .int (nI n)] u K := by
  obtain ⟨d, rfl, hd1⟩ := dpos hd
  have hA := hg.1.2.2.2.2.2.1
  have hQ := hg.1.2.1
  have hs : SkM u g bv u := ⟨fun _ _ _ _ => rfl, rfl, fun _ _ _ => rfl, e6, e3⟩
  refine CV_of mk_X13_layRoute.2.2 rfl (B_M_layRoute_0 (c_bribeAt (by omega) hg hs.w4.w3.w1 ?_))
  rw [(set_pow q (by omega)).1]
  have hl : ([q] : List Nat).length = 1 := rfl
  have en : n = ([q] : List Nat).length + (n - 1) := by rw [hl]; omega
  suffices hz : CV X d 271 [.ref 234, .int (nI ([q] : List Nat).length), .int (nI (2 ^ q)), .int (nI (brQ g bv q)), .int (nI (([q] : List Nat).length + (n - 1)))] (mI (mI (mI u 234 38 (-1)) 234 37 0) 251 0 (nI q)) (fun u2 => K u2) by
    rw [← en] at hz
    exact hz
  refine c_goFrom hg hb (n - 1) d q [q] _ _ _ none _ (by omega) hq (by rw [hl]; omega) rfl (by rw [hl]; omega) (trOk1 (by omega) hA hb) (fun z hz => by cases hz) hs.w4.w3.w1 ?_ (fun i hi => ?_) fun V' x1 x2 _ => hK V' x1 x2
  · refine ⟨?_, ?_⟩
    · rw [mI_r (by omega), mI_s]
    · rw [mI_r (by omega), mI_n (by omega), mI_s]
  · rw [hl] at hi
    rw [show i = 0 by omega, mI_s]
    rfl
end RouteM
section RouteS
variable {X : Xc} {u : Mm} {g : Nat → Int32} {nm : Nat → Int64} {bv : Nat → Nat}
theorem c_seek {d n q : Nat} {K : Mm → Prop} (hd : 12 ≤ d) (h : Wd u g nm) (hb : ∀ a, a < nA g → bv a ≤ 200) (hq : q < nQ g) (hn : n ≤ 8) (h1 : 1 ≤ n) (e3 : ∀ a, a < nA g → u.1 166 a = nI (bv a)) (hK : ∀ V', (∀ b, b ≠ 165 → b ≠ 167 → b ≠ 168 → V'.1 b = u.1 b) → V'.2 = u.2 → (∀ k, k ≠ 3 → k ≠ 6 → k ≠ 7 → k ≠ 8 → V'.1 165 k = u.1 165 k) → rcR V' (rtF g bv n q) → K V') : CV X d 35 [.ref 165, .int (nI q), .int (nI n)] u K := by
  obtain ⟨d, rfl, hd1⟩ := dpos hd
  refine CV_of mk_X3_seek.2.2 rfl (B_GD_seek_0 ?_)
  have hw : Wd (mI u 165 3 (nI n)) g nm := h.mI (by omega)
  have hs : SkC (mI u 165 3 (nI n)) g bv n (mI (mI (mI u 165 3 (nI n)) 165 6 0) 165 7 (-1)) := ⟨fun b b1 b2 b3 => by rw [mI_r b1, mI_r b1], rfl, fun k k1 k2 k3 => by rw [mI_n (by omega), mI_n (by omega)], mI_s, fun a ha => by rw [mI_r (by omega)]; exact e3 a ha⟩
  refine c_goOn (most := n) hw hb hn n d q [] 0 0 _ none _ (by omega) hq (by simp) ⟨by omega, by omega, by simp, fun q hq => by simp⟩ (fun z hz => by cases hz) hs ⟨by rw [mI_n (by omega), mI_s], mI_s⟩ (fun i hi => absurd hi (by simp)) fun V' x1 x2 _ => ?_
  refine hK V' (fun b b1 b2 b3 => by rw [x1.1 b b1 b2 b3, mI_r b1]) x1.2.1 (fun k k1 k2 k3 k4 => by rw [x1.2.2.1 k k2 k3 k4, mI_n (by omega)]) ?_
  obtain ⟨f, rfl⟩ : ∃ f, n = f + 1 := ⟨n - 1, by omega⟩
  unfold goF at x2
  unfold rtF
  simpa using x2
/-- the bribes as they are told -/
def btF (g : Nat → Int32) (a : Nat) : Nat := (g (46 + a)).toNatClampNeg
theorem bt_le (hc : CityR u 5 g nm) {a : Nat} (ha : a < nA g) : btF g a ≤ 99 ∧ g (46 + a) = nI (btF g a) ∧ u.1 10 a = nI (btF g a) := by
  obtain ⟨e, -, v, hv, ev⟩ := hc.2.2.2.1 a ha
  unfold btF
  have e2 : u.1 10 a = g (46 + a) := e
  rw [e2, ev, nI_clamp (by omega)]
  exact ⟨hv, rfl, rfl⟩
theorem c_mbribes {d : Nat} {K : Mm → Prop} (hd : 1 ≤ d) (hK : ∀ V : Mm, (∀ b, b ≠ 253 → V.1 b = u.1 b) → V.2 = u.2 → (∀ a, a < 8 → V.1 253 a = u.1 236 (46 + a)) → K V) : CV X d 273 [.ref 234] u K := by
  obtain ⟨d, rfl, hd1⟩ := dpos hd
  refine CV_of mk_X13_bribesAsTold.2.2 rfl (B_M_bribesAsTold_0 ?_)
  refine lupR (n := 8) (W := fun i (V1 : Mm) => VV X d 273 K 2 [some (.ref 234), some (.int (nI i))] [] V1)
    (I := fun i V1 => (∀ b, b ≠ 253 → V1.1 b = u.1 b) ∧ V1.2 = u.2 ∧ ∀ a, a < i → V1.1 253 a = u.1 236 (46 + a)) ?_ u ⟨fun _ _ => rfl, rfl, fun a ha => absurd ha (by omega)⟩
  rintro i V1 hi ⟨i1, i2, i3⟩ ih
  refine B_M_bribesAsTold_2 ?_
  simp (disch := omega) only [la1, la2, lt1, lt2, nI_add, pk_mul, nI_clamp, vpn, nI_leI, nI_ltI, nI_eq, ll1, ll2, ll3, ll4, le1, le2, true_and, and_true, not_true_eq_false, not_false_eq_true, forall_const, false_implies, implies_true, if_true, if_false, ite_true, ite_false, and_self, false_and, and_false]
  refine ⟨fun z => hK V1 i1 i2 fun a ha => i3 a (by omega), fun z => ⟨by omega, by omega, ih (by omega) _ ⟨fun b hb => by rw [mI_r hb]; exact i1 b hb, i2, fun a ha => ?_⟩⟩⟩
  by_cases e : a = i
  · subst e; rw [mI_s, i1 236 (by omega)]
  · rw [mI_n (by omega)]; exact i3 a (by omega)
/-- a call that both refuse -/
theorem p_route {d : Nat} {p1 p2 : Int32} (hd : 15 ≤ d) (h : Rl u) : PairI X d 146 274 [.int p1, .int p2] u := by
  intro K hK
  have hw := h.Wd
  obtain ⟨hg, hc, hok, hr⟩ := h.Wd
  have m0 := hg.1.1
  have hQ := hg.1.2.1
  have hA := hg.1.2.2.2.2.2.1
  obtain ⟨cq, ck, ca, cw⟩ := cityN hg hc
  obtain ⟨d, rfl, hd1⟩ := dpos hd
  have hk : ∀ w, K w w (mI u 234 0 0) := fun w => hK w _ h.th
  have refuse : ((p1 < 0 ∨ nI (nQ (u.1 236)) ≤ p1) ∨ p2 < 1 ∨ 8 < p2) → CI X (d + 1) 274 [.ref 234, .int p1, .int p2] u (fun w2 u2 => K (-1) w2 u2) := by
    intro hb
    refine CI_of mk_X13_route.2.2 rfl (B_M_route_0 (c_misSquare (n := nQ (u.1 236)) (by omega) ((mT u 0 0 (by decide)).trans m0) (by omega) (fun q hq e => ⟨fun z => absurd z (by decide), fun _ => c_misIn (by omega) (fun y1 y2 => ?_) (fun _ => ⟨fun z => absurd rfl z, fun _ => hk _⟩)⟩) (fun _ => ⟨fun _ => hk _, fun z => absurd rfl z⟩)))
    rcases hb with hb | hb | hb
    · subst e; exact (no2 hq (by omega) hb).elim
    · exact absurd hb y1
    · exact absurd hb y2
  refine CI_of mk_X12_route.2.2 rfl (B_S_route_0 (c_has5 (s := 0) (n := nQ (u.1 236)) (by omega) rfl (by omega) cq (by omega) (fun q hq e => ⟨fun z => absurd z (by decide), fun _ => ⟨fun y => refuse (Or.inr (Or.inl y)), fun y => ⟨fun y2 => ?_, fun y2 => refuse (Or.inr (Or.inr (Int32.not_le.mp y2)))⟩⟩⟩) (fun q => ⟨fun _ => refuse (Or.inl q), fun z => absurd rfl z⟩)))
  subst e
  obtain ⟨n, hn, rfl⟩ := nI_of2 (M := 8) (n := 8) rfl (fun z => y (Int32.lt_trans z (by decide))) y2
  have h1 : 1 ≤ n := by
    have := mt (nI_ltI (a := n) (b := 1) (by omega) (by omega)).mpr y
    omega
  have hb : ∀ a, a < nA (u.1 236) → btF (u.1 236) a ≤ 200 := fun a ha => Nat.le_trans (bt_le hc ha).1 (by omega)
  obtain ⟨z, ez, hz⟩ := rtOk (n := n) hg hb hq hn h1
  obtain ⟨d, rfl, hd2⟩ := dpos hd1
  refine CI_of mk_X3_tellRoute.2.2 rfl (B_GD_tellRoute_0 (c_copy (n := 8) (by omega) ⟨rfl, _, rfl⟩ ⟨rfl, _, rfl⟩ (by omega) ?_))
  refine c_seek (bv := btF (u.1 236)) (by omega) (hw.cg (fun b b1 b2 => mC_o (by omega)) rfl) hb hq hn h1 (fun a ha => by rw [mC_s (by omega)]; exact (bt_le hc ha).2.2) fun V v1 v2 v3 v4 => ?_
  refine c_copy (n := 8) (by omega) ⟨rfl, _, rfl⟩ ⟨rfl, _, rfl⟩ (by omega) ?_
  rw [ez] at v4
  obtain ⟨r6, r7, r8, r9⟩ := v4
  have c5 : (mC V 168 0 169 0 8).1 165 = V.1 165 := mC_o (by omega)
  rw [mI_n (by omega), c5, r6, r7]
  have hz2 := hz.2.2.1
  /- the system's end -/
  have so : ∀ b, b ≠ 165 → b ≠ 166 → b ≠ 167 → b ≠ 168 → b ≠ 169 → (mI (mC V 168 0 169 0 8) 165 10 (nI z.2.1.length)).1 b = u.1 b := fun b b1 b2 b3 b4 b5 => by rw [mI_r b1, mC_o b5, v1 b b1 b3 b4, mC_o b2]
  have s5 : ∀ k, k ≠ 3 → k ≠ 6 → k ≠ 7 → k ≠ 8 → k ≠ 10 → (mI (mC V 168 0 169 0 8) 165 10 (nI z.2.1.length)).1 165 k = u.1 165 k := fun k k1 k2 k3 k4 k5 => by rw [mI_n (by omega), c5, v3 k k1 k2 k3 k4, mC_o (by omega)]
  have s5' : (mI (mC V 168 0 169 0 8) 165 10 (nI z.2.1.length)).1 165 10 = nI z.2.1.length := mI_s
  have s9 : ∀ k, k < z.2.1.length → (mI (mC V 168 0 169 0 8) 165 10 (nI z.2.1.length)).1 169 k = nI (z.2.1.getD k 0) := fun k hk => by rw [mI_r (by omega), mC_s (by omega)]; exact r9 k hk
  have sl : (mI (mC V 168 0 169 0 8) 165 10 (nI z.2.1.length)).2 = u.2 := v2
  generalize mI (mC V 168 0 169 0 8) 165 10 (nI z.2.1.length) = S at so s5 s5' s9 sl
  have e236 := so 236 (by omega) (by omega) (by omega) (by omega) (by omega)
  refine CI_of mk_X13_route.2.2 rfl (B_M_route_0 (c_misSquare (n := nQ (u.1 236)) (by omega) ((mT S 0 0 (by decide)).trans (by rw [e236]; exact m0)) (by omega) (fun q' hq' e => ⟨fun z => absurd z (by decide), fun _ => c_misIn (by omega) (fun _ _ => ⟨fun _ => ?_, fun z => absurd z (by decide)⟩) (fun x => ?_)⟩) (fun x => (no2 hq (by omega) x).elim)))
  · refine c_mbribes (by omega) fun M1 a1 a2 a3 => ?_
    have m236 : M1.1 236 = u.1 236 := by rw [a1 236 (by omega), mI_r (by omega), e236]
    refine c_mlayR (bv := btF (u.1 236)) (by omega) hg hb hq hn h1 m236 (fun a ha => by rw [a3 a (by omega), mI_r (by omega), e236]; exact (bt_le hc ha).2.1) fun M2 b1 b2 => ?_
    rw [ez] at b2
    obtain ⟨t7, t8, t9⟩ := b2
    rw [t7]
    have ho : ∀ b, b ≠ 234 → b ≠ 251 → b ≠ 252 → b ≠ 253 → M2.1 b = S.1 b := fun b x1 x2 x3 x4 => by rw [b1.1 b x1 x2 x3, a1 b x4, mI_r x1]
    have h4 : ∀ k, k ≠ 0 → k ≠ 37 → k ≠ 38 → M2.1 234 k = u.1 234 k := fun k x0 x1 x2 => by rw [b1.2.2.1 k x1 x2, a1 234 (by omega), mI_n (by omega), so 234 (by omega) (by omega) (by omega) (by omega) (by omega)]
    have hl2 : M2.2 = u.2 := (b1.2.1.trans a2).trans sl
    refine lupR (n := 8) (W := fun i (V1 : Mm) => VI X (d + 1) 274 (fun w2 u2 => K (nI z.1) w2 u2) 45 [some (.ref 234), some (.int (nI q)), some (.int (nI n)), some (.int (nI i))] [] V1)
      (I := fun i V1 => (∀ b, b ≠ 255 → V1.1 b = (mI M2 234 41 (nI z.2.1.length)).1 b) ∧ V1.2 = u.2 ∧ ∀ k, k < i → V1.1 255 k = M2.1 252 k) ?_ _ ⟨fun _ _ => rfl, hl2, fun k hk => absurd hk (by omega)⟩
    rintro i V1 hi ⟨i1, i2, i3⟩ ih
    refine B_M_route_45 ?_
    simp (disch := omega) only [la1, la2, lt1, lt2, nI_add, pk_mul, nI_clamp, vpn, nI_leI, nI_ltI, nI_eq, ll1, ll2, ll3, ll4, le1, le2, true_and, and_true, not_true_eq_false, not_false_eq_true, forall_const, false_implies, implies_true, if_true, if_false, ite_true, ite_false, and_self, false_and, and_false]
    refine ⟨fun x => ?_, fun x => ⟨by omega, by omega, ih (by omega) _ ⟨fun b hb => by rw [mI_r hb]; exact i1 b hb, i2, fun k hk => ?_⟩⟩⟩
    · rw [i1 234 (by omega), mI_n (by omega), t8]
      have f4 : ∀ k, k ≠ 0 → k ≠ 37 → k ≠ 38 → k ≠ 41 → V1.1 234 k = u.1 234 k := fun k x0 x1 x2 x3 => by rw [i1 234 (by omega), mI_n (by omega)]; exact h4 k x0 x1 x2
      have fo : ∀ b, b ≠ 165 → b ≠ 166 → b ≠ 167 → b ≠ 168 → b ≠ 169 → b ≠ 234 → b ≠ 251 → b ≠ 252 → b ≠ 253 → b ≠ 255 → V1.1 b = u.1 b := fun b x1 x2 x3 x4 x5 x6 x7 x8 x9 x10 => by rw [i1 b x10, mI_r x6, ho b x6 x7 x8 x9, so b x1 x2 x3 x4 x5]
      have f5 : ∀ k, k ≠ 3 → k ≠ 6 → k ≠ 7 → k ≠ 8 → k ≠ 10 → V1.1 165 k = u.1 165 k := fun k x1 x2 x3 x4 x5 => by rw [i1 165 (by omega), mI_r (by omega), ho 165 (by omega) (by omega) (by omega) (by omega)]; exact s5 k x1 x2 x3 x4 x5
      have ag : ∀ rel : Nat → Nat → Bool, (∀ b j, b = 166 ∨ b = 167 ∨ b = 168 ∨ b = 169 ∨ b = 251 ∨ b = 252 ∨ b = 253 ∨ b = 255 → rel b j = false) → (∀ j, j = 3 ∨ j = 6 ∨ j = 7 ∨ j = 8 ∨ j = 10 → rel 165 j = false) → (∀ j, j = 0 ∨ j = 37 ∨ j = 38 ∨ j = 41 → rel 234 j = false) → AG rel u V1 := by
        intro rel r1 r2 r3 a j ha
        by_cases e1 : a = 165
        · subst e1
          exact f5 j (by rintro rfl; rw [r2 _ (by omega)] at ha; cases ha) (by rintro rfl; rw [r2 _ (by omega)] at ha; cases ha) (by rintro rfl; rw [r2 _ (by omega)] at ha; cases ha) (by rintro rfl; rw [r2 _ (by omega)] at ha; cases ha) (by rintro rfl; rw [r2 _ (by omega)] at ha; cases ha)
        · by_cases e2 : a = 234
          · subst e2
            exact f4 j (by rintro rfl; rw [r3 _ (by omega)] at ha; cases ha) (by rintro rfl; rw [r3 _ (by omega)] at ha; cases ha) (by rintro rfl; rw [r3 _ (by omega)] at ha; cases ha) (by rintro rfl; rw [r3 _ (by omega)] at ha; cases ha)
          · have hn : ∀ b, (b = 166 ∨ b = 167 ∨ b = 168 ∨ b = 169 ∨ b = 251 ∨ b = 252 ∨ b = 253 ∨ b = 255) → a ≠ b := by
              rintro b hb rfl
              rw [r1 _ j hb] at ha; cases ha
            exact congrFun (fo a e1 (hn _ (by omega)) (hn _ (by omega)) (hn _ (by omega)) (hn _ (by omega)) e2 (hn _ (by omega)) (hn _ (by omega)) (hn _ (by omega)) (hn _ (by omega))) j
      refine hK _ _ (h.kept (ag _ ?_ ?_ ?_) ?_ (ag _ ?_ ?_ ?_) (ag _ ?_ ?_ ?_) (ag _ ?_ ?_ ?_) i2)
      any_goals (rintro b j (rfl | rfl | rfl | rfl | rfl | rfl | rfl | rfl) <;> rfl)
      any_goals (rintro j (rfl | rfl | rfl | rfl | rfl) <;> rfl)
      obtain ⟨k1, k2, k3, k4, k5, k6, k7, k8, k9⟩ := h.2.2.1
      have d165 : V1.1 165 10 = nI z.2.1.length := by rw [i1 165 (by omega), mI_r (by omega), ho 165 (by omega) (by omega) (by omega) (by omega)]; exact s5'
      have d234 : V1.1 234 41 = nI z.2.1.length := by rw [i1 234 (by omega), mI_s]
      have d169 : ∀ k, k < z.2.1.length → V1.1 169 k = V1.1 255 k := fun k hk => by rw [i1 169 (by omega), mI_r (by omega), ho 169 (by omega) (by omega) (by omega) (by omega), s9 k hk, i3 k (by omega), t9 k hk]
      unfold KeptR
      rw [f4 42 (by omega) (by omega) (by omega) (by omega), f4 43 (by omega) (by omega) (by omega) (by omega), f4 44 (by omega) (by omega) (by omega) (by omega), f4 45 (by omega) (by omega) (by omega) (by omega), f4 46 (by omega) (by omega) (by omega) (by omega), f4 47 (by omega) (by omega) (by omega) (by omega), f4 48 (by omega) (by omega) (by omega) (by omega), f4 39 (by omega) (by omega) (by omega) (by omega), f4 51 (by omega) (by omega) (by omega) (by omega), f4 55 (by omega) (by omega) (by omega) (by omega), f5 12 (by omega) (by omega) (by omega) (by omega) (by omega)]
      simp (disch := omega) only [fo]
      exact ⟨k1, k2, k3, k4, k5, ⟨_, hz2, d165, d234, fun k hk => (d169 k hk)⟩, k7, k8, k9⟩
    · by_cases e : k = i
      · subst e; rw [mI_s, i1 252 (by omega), mI_r (by omega)]
      · rw [mI_n (by omega)]; exact i3 k (by omega)
  · rcases x with x | x
    · exact absurd ((nI_ltI (a := n) (b := 1) (by omega) (by omega)).mp x) (by omega)
    · exact absurd ((nI_ltI (a := 8) (b := n) (by omega) (by omega)).mp x) (by omega)
end RouteS
