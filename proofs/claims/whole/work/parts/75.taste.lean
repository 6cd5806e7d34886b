/-! taste -/
section TastePure
variable {g b : Nat → Int32}
def kdF (g b : Nat → Int32) (i : Nat) : Nat := (g (202 + (b (2 * i)).toNatClampNeg)).toNatClampNeg
def fitF (g b : Nat → Int32) (N j : Nat) : Bool := (List.range N).all (fun i => tb (nI j) (kdF g b i) == decide (b (2 * i + 1) = 1))
theorem fitF_iff {N j : Nat} : fitF g b N j = true ↔ ∀ i, i < N → tb (nI j) (kdF g b i) = decide (b (2 * i + 1) = 1) := by
  unfold fitF
  rw [List.all_eq_true]
  exact ⟨fun h i hi => by simpa using h i (List.mem_range.mpr hi), fun h i hi => by simpa using h i (List.mem_range.mp hi)⟩
/-- the tape holds pairs -/
def prs (g b : Nat → Int32) (N : Nat) : Prop := ∀ i, i < N → (∃ a, a < nA g ∧ b (2 * i) = nI a) ∧ b (2 * i + 1) ≤ 1
def okF (g b : Nat → Int32) (x : Int32) : Nat → Int32
  | 0 => 0
  | i + 1 => if b (2 * i + 1) = x then okF g b x i ||| ((1 : Int32) <<< (nI (kdF g b i) &&& 31)) else okF g b x i
theorem tb_okF {x : Int32} : ∀ {n : Nat}, (∀ i, i < n → kdF g b i < 5) → ∀ k, k < 32 → (tb (okF g b x n) k = true ↔ ∃ i, i < n ∧ b (2 * i + 1) = x ∧ kdF g b i = k)
  | 0, _, k, _ => by
    rw [okF, tb_0]
    exact ⟨fun h => (by cases h), fun ⟨i, hi, _⟩ => absurd hi (by omega)⟩
  | n + 1, h, k, hk => by
    have ih := tb_okF (x := x) (n := n) (fun i hi => h i (by omega)) k hk
    have h5 := h n (by omega)
    rw [okF]
    split
    · rename_i e
      rw [tb_set (by omega) hk, Bool.or_eq_true, decide_eq_true_eq, ih]
      constructor
      · rintro (⟨i, h1, h2, h3⟩ | h1)
        · exact ⟨i, by omega, h2, h3⟩
        · exact ⟨n, by omega, e, h1.symm⟩
      · rintro ⟨i, h1, h2, h3⟩
        by_cases ei : i = n
        · subst ei; exact Or.inr h3.symm
        · exact Or.inl ⟨i, by omega, h2, h3⟩
    · rename_i e
      rw [ih]
      constructor
      · rintro ⟨i, h1, h2, h3⟩
        exact ⟨i, by omega, h2, h3⟩
      · rintro ⟨i, h1, h2, h3⟩
        by_cases ei : i = n
        · subst ei; exact absurd h2 e
        · exact ⟨i, by omega, h2, h3⟩
theorem and_self' {x y : Int32} : x &&& y = y ↔ ∀ i, i < 32 → tb y i = true → tb x i = true := by
  constructor
  · intro h i hi hy
    have := congrArg (fun z => tb z i) h
    simp only [tb_and, hy, Bool.and_true] at this
    exact this
  · intro h
    refine tb_ext fun i hi => ?_
    rw [tb_and]
    cases hy : tb y i
    · simp
    · rw [h i hi hy]; rfl
theorem le1_cases {x : Nat} (h : nI x ≤ 1) (hx : x < 256) : x = 0 ∨ x = 1 := by
  have := (nI_leI (a := x) (b := 1) (by omega) (by omega)).mp h
  omega
theorem fit_or {N j : Nat} (hb : ∀ i, i < 940 → ∃ x, x < 256 ∧ b i = nI x) (hN : N ≤ 20) (hp : prs g b N) (hk : ∀ i, i < N → kdF g b i < 5) : (nI j &&& okF g b 1 N = okF g b 1 N ∧ nI j &&& okF g b 0 N = 0) ↔ fitF g b N j = true := by
  rw [and_self', and_0, fitF_iff]
  constructor
  · rintro ⟨h1, h2⟩ i hi
    obtain ⟨x, hx, ex⟩ := hb (2 * i + 1) (by omega)
    have hk5 := hk i hi
    have hle := (hp i hi).2
    rw [ex] at hle
    rcases le1_cases hle hx with e | e
    · subst e
      rw [ex, decide_eq_false (by decide)]
      cases hy : tb (nI j) (kdF g b i)
      · rfl
      · have := h2 _ (by omega) hy
        have h3 := (tb_okF (x := 0) hk (kdF g b i) (by omega)).mpr ⟨i, hi, ex, rfl⟩
        rw [h3] at this; cases this
    · subst e
      rw [ex, decide_eq_true (by decide)]
      exact h1 _ (by omega) ((tb_okF (x := 1) hk (kdF g b i) (by omega)).mpr ⟨i, hi, ex, rfl⟩)
  · intro h
    constructor
    · intro k hk' hy
      obtain ⟨i, hi, e1, rfl⟩ := (tb_okF hk k hk').mp hy
      rw [h i hi, e1]; decide
    · intro k hk' hy
      cases hz : tb (okF g b 0 N) k
      · rfl
      · obtain ⟨i, hi, e1, rfl⟩ := (tb_okF hk k hk').mp hz
        rw [h i hi, e1] at hy
        exact absurd hy (by decide)
/-- who tells most -/
def wiF (g b : Nat → Int32) (N n a : Nat) : Nat := cnP (fun s => fitF g b N s && tb (nI s) (g (202 + a)).toNatClampNeg) n
def apF (g b : Nat → Int32) (N n a : Nat) : Int32 := if 0 ≤ (2 : Int32) * nI (wiF g b N n a) - nI (cnP (fitF g b N) n) then (2 : Int32) * nI (wiF g b N n a) - nI (cnP (fitF g b N) n) else 0 - ((2 : Int32) * nI (wiF g b N n a) - nI (cnP (fitF g b N) n))
def tlF (g : Nat → Int32) (ap : Nat → Int32) : Nat → Option Nat
  | 0 => none
  | a + 1 => if tb (g 201) a then tlF g ap a else match tlF g ap a with
    | none => some a
    | some t => if ap t ≤ ap a then some t else some a
def tlV (o : Option Nat) : Int32 := match o with
  | none => -1
  | some t => nI t
theorem tlF_lt {ap : Nat → Int32} : ∀ {n t : Nat}, tlF g ap n = some t → t < n
  | 0, t, h => by cases h
  | n + 1, t, h => by
    rw [tlF] at h
    split at h
    · have := tlF_lt h; omega
    · split at h
      · cases h; omega
      · rename_i t' e
        have := tlF_lt e
        split at h
        · cases h; omega
        · cases h; omega
theorem ap_nat {N n a : Nat} (hn : n ≤ 32) : ∃ z, z ≤ 64 ∧ apF g b N n a = nI z := by
  have h1 := cnP_le (p := fun s => fitF g b N s && tb (nI s) (g (202 + a)).toNatClampNeg) (n := n)
  have h2 := cnP_le (p := fitF g b N) (n := n)
  unfold apF wiF
  generalize cnP (fun s => fitF g b N s && tb (nI s) (g (202 + a)).toNatClampNeg) n = w at h1
  generalize cnP (fitF g b N) n = m at h2
  rw [show (2 : Int32) * nI w = nI (2 * w) from pk_mul 2 w]
  by_cases q : m ≤ 2 * w
  · rw [pk_sub q, if_pos (nI_pos' (by omega))]
    exact ⟨2 * w - m, by omega, rfl⟩
  · have hneg : nI (2 * w) - nI m < 0 := pk_sneg (by omega) (by omega)
    rw [if_neg (Int32.not_le.mpr hneg)]
    refine ⟨m - 2 * w, by omega, ?_⟩
    rw [← pk_sub (show 2 * w ≤ m by omega)]
    simp
end TastePure
section TasteC
variable {X : Xc} {d : Nat} {u : Mm} {g : Nat → Int32} {nm : Nat → Int64}
theorem c_pairs {K : Int32 → Mm → Prop} {L : Nat} (hd : 2 ≤ d) (hg : HeadOk g) (hc : CityR u 5 g nm) (e : u.1 1 1 = nI L) (hL : L ≤ 940) (h1 : ∀ N, L = 2 * N → 1 ≤ N → N ≤ 20 → prs g (u.1 2) N → K 1 u) (h0 : (∀ N, L = 2 * N → 1 ≤ N → N ≤ 20 → ¬ prs g (u.1 2) N) → K 0 u) : CI X d 27 [.ref 171] u K := by
  obtain ⟨d, rfl, hd1⟩ := dpos hd
  have hA := hg.1.2.2.2.2.2.1
  obtain ⟨cq, ck, ca, cw⟩ := cityN hg hc
  refine CI_of mk_X2_arePairs.2.2 rfl (B_GS_arePairs_0 ?_)
  rw [e, show nI L - nI L / (2 : Int32) * (2 : Int32) = nI (L % 2) from pk_rem (d := 2) (by omega) (by omega) (by omega)]
  simp (disch := omega) only [la1, la2, lt1, lt2, nI_add, pk_mul, nI_clamp, vpn, nI_leI, nI_ltI, nI_eq, ll1, ll2, ll3, ll4, le1, le2, true_and, and_true, not_true_eq_false, not_false_eq_true, forall_const, false_implies, implies_true, if_true, if_false, ite_true, ite_false, and_self, false_and, and_false]
  refine ⟨fun z => h0 fun N q1 q2 q3 => absurd z (by omega), fun z => ⟨fun z2 => h0 fun N q1 q2 q3 => absurd z2 (by omega), fun z2 => ⟨fun z3 => ?_, fun z3 => h0 fun N q1 q2 q3 => absurd z3 (by omega)⟩⟩⟩
  obtain ⟨N, rfl⟩ : ∃ N, L = 2 * N := ⟨L / 2, by omega⟩
  have h0 : ¬ prs g (u.1 2) N → K 0 u := fun q => h0 fun N' q1 _ _ => by rw [show N' = N by omega]; exact q
  have h1 := h1 N rfl (by omega) (by omega)
  suffices hz : prs g (u.1 2) 0 → VI X d 27 K 39 [some (.ref 171), some (.int (nI (2 * 0)))] [] u from hz (fun i hi => absurd hi (by omega))
  refine lup (n := N) (W := fun i => prs g (u.1 2) i → VI X d 27 K 39 [some (.ref 171), some (.int (nI (2 * i)))] [] u) ?_
  intro i hi ih hp
  refine B_GS_arePairs_39 ?_
  rw [e]
  simp (disch := omega) only [la1, la2, lt1, lt2, nI_add, pk_mul, nI_clamp, vpn, nI_leI, nI_ltI, nI_eq, ll1, ll2, ll3, ll4, le1, le2, true_and, and_true, not_true_eq_false, not_false_eq_true, forall_const, false_implies, implies_true, if_true, if_false, ite_true, ite_false, and_self, false_and, and_false]
  refine ⟨fun y => h1 (by rw [show N = i by omega]; exact hp), fun y => ⟨by omega, c_has5 (s := 2) (n := nA g) (by omega) rfl (by omega) ca (by omega) (fun a ha ea => ?_) (fun q => ?_)⟩⟩
  · simp (disch := omega) only [la1, la2, lt1, lt2, nI_add, pk_mul, nI_clamp, vpn, nI_leI, nI_ltI, nI_eq, ll1, ll2, ll3, ll4, le1, le2, true_and, and_true, not_true_eq_false, not_false_eq_true, forall_const, false_implies, implies_true, if_true, if_false, ite_true, ite_false, and_self, false_and, and_false, b01, b10]
    refine ⟨by omega, fun w => ?_, fun w => h0 fun hz => w (hz i (by omega)).2⟩
    have ih := ih (by omega) fun i' hi' => by
      by_cases ei : i' = i
      · subst ei; exact ⟨⟨a, ha, ea⟩, w⟩
      · exact hp i' (by omega)
    rw [show 2 * (i + 1) = 2 * i + 2 by omega] at ih
    exact ih
  · refine ⟨fun _ => h0 fun hz => ?_, fun w => absurd rfl w⟩
    obtain ⟨⟨a, ha, ea⟩, -⟩ := hz i (by omega)
    rw [ea] at q
    exact no2 ha (by omega) q
theorem c_kindsOf {K : Int32 → Mm → Prop} {N : Nat} {x : Int32} (hd : 2 ≤ d) (h : Wd u g nm) (e : u.1 1 1 = nI (2 * N)) (hN : N ≤ 20) (hp : prs g (u.1 2) N) (hK : K (okF g (u.1 2) x N) u) : CI X d 28 [.ref 171, .int x] u K := by
  obtain ⟨d, rfl, hd1⟩ := dpos hd
  obtain ⟨hg, hc, hok, hr⟩ := h
  have hA := hg.1.2.2.2.2.2.1
  have hKK := hg.1.2.2.2.1
  obtain ⟨cq, ck, ca, cw⟩ := cityN hg hc
  refine CI_of mk_X2_kindsOfPairs.2.2 rfl (B_GS_kindsOfPairs_0 ?_)
  suffices hz : VI X d 28 K 4 [some (.ref 171), some (.int x), some (.int (okF g (u.1 2) x 0)), some (.int (nI (2 * 0))), none] [] u from hz
  refine lup (n := N) (W := fun i => VI X d 28 K 4 [some (.ref 171), some (.int x), some (.int (okF g (u.1 2) x i)), some (.int (nI (2 * i))), none] [] u) ?_
  intro i hi ih
  refine B_GS_kindsOfPairs_4 ?_
  rw [e]
  simp (disch := omega) only [la1, la2, lt1, lt2, nI_add, pk_mul, nI_clamp, vpn, nI_leI, nI_ltI, nI_eq, ll1, ll2, ll3, ll4, le1, le2, true_and, and_true, not_true_eq_false, not_false_eq_true, forall_const, false_implies, implies_true, if_true, if_false, ite_true, ite_false, and_self, false_and, and_false]
  refine ⟨fun y => ?_, fun y => ⟨by omega, by omega, fun w => ?_, fun w => ?_⟩⟩
  · rw [show i = N by omega]; exact hK
  · have ih := ih (by omega)
    rw [okF, if_neg w, show 2 * (i + 1) = 2 * i + 2 by omega] at ih
    exact ih
  · have ih := ih (by omega)
    obtain ⟨⟨a, ha, ea⟩, -⟩ := hp i (by omega)
    obtain ⟨⟨k, hk, ek⟩, -⟩ := hok.2.2.2.1 a ha
    have ekd : kdF g (u.1 2) i = k := by unfold kdF; rw [ea, nI_clamp (by omega), ek, nI_clamp (by omega)]
    have e21 : u.1 21 a = nI k := (hr.2.1 a ha).1.trans ek
    rw [okF, if_pos w, ekd, show 2 * (i + 1) = 2 * i + 2 by omega] at ih
    rw [ea]
    refine c_has5 (s := 2) (n := nA g) (by omega) rfl (by omega) ca (by omega) (fun a' ha' _ => ?_) (fun q => (no2 ha (by omega) q).elim)
    simp (disch := omega) only [la1, la2, lt1, lt2, nI_add, pk_mul, nI_clamp, vpn, nI_leI, nI_ltI, nI_eq, ll1, ll2, ll3, ll4, le1, le2, true_and, and_true, not_true_eq_false, not_false_eq_true, forall_const, false_implies, implies_true, if_true, if_false, ite_true, ite_false, and_self, false_and, and_false, b01, b10, e21]
    exact ⟨by omega, ih⟩
theorem c_countK {K : Mm → Prop} {j : Nat} {c : Nat → Nat} (hd : 2 ≤ d) (hj : j < 256) (hc : ∀ k, k < 5 → c k < 1000 ∧ u.1 172 k = nI (c k)) (hK : ∀ V : Mm, (∀ b, b ≠ 172 → V.1 b = u.1 b) → V.2 = u.2 → (∀ k, k < 5 → V.1 172 k = nI (if tb (nI j) k then c k + 1 else c k)) → K V) : CV X d 29 [.ref 171, .int (nI j)] u K := by
  obtain ⟨d, rfl, hd1⟩ := dpos hd
  refine CV_of mk_X2_countKinds.2.2 rfl (B_GS_countKinds_0 ?_)
  refine lupR (n := 5) (W := fun k (V : Mm) => VV X d 29 K 2 [some (.ref 171), some (.int (nI j)), some (.int (nI k))] [] V)
    (I := fun k V => (∀ b, b ≠ 172 → V.1 b = u.1 b) ∧ V.2 = u.2 ∧ (∀ k', k' < k → V.1 172 k' = nI (if tb (nI j) k' then c k' + 1 else c k')) ∧ ∀ k', k ≤ k' → k' < 5 → V.1 172 k' = nI (c k')) ?_ u ⟨fun _ _ => rfl, rfl, fun k' h => absurd h (by omega), fun k' _ h => (hc k' h).2⟩
  rintro k V hk ⟨i1, i2, i3, i4⟩ ih
  refine B_GS_countKinds_2 ?_
  simp (disch := omega) only [la1, la2, lt1, lt2, nI_add, pk_mul, nI_clamp, vpn, nI_leI, nI_ltI, nI_eq, ll1, ll2, ll3, ll4, le1, le2, true_and, and_true, not_true_eq_false, not_false_eq_true, forall_const, false_implies, implies_true, if_true, if_false, ite_true, ite_false, and_self, false_and, and_false]
  refine ⟨fun z => hK V i1 i2 fun k' hk' => i3 k' (by omega), fun z => ?_⟩
  have ih := ih (by omega)
  refine c_bit (by omega) (by omega) (fun y => ?_) (fun y => ?_)
  · have e4 := i4 k (Nat.le_refl _) (by omega)
    have := (hc k (by omega)).1
    simp (disch := omega) only [la1, la2, lt1, lt2, nI_add, pk_mul, nI_clamp, vpn, nI_leI, nI_ltI, nI_eq, ll1, ll2, ll3, ll4, le1, le2, true_and, and_true, not_true_eq_false, not_false_eq_true, forall_const, false_implies, implies_true, if_true, if_false, ite_true, ite_false, and_self, false_and, and_false, b01, b10, e4]
    refine ⟨by omega, by omega, ih _ ⟨fun b hb => by rw [mI_r hb]; exact i1 b hb, i2, fun k' hk' => ?_, fun k' h1 h2 => ?_⟩⟩
    · by_cases e : k' = k
      · subst e; rw [mI_s, if_pos y]
      · rw [mI_n (by omega)]; exact i3 k' (by omega)
    · rw [mI_n (by omega)]; exact i4 k' (by omega) h2
  · refine ⟨fun _ => ih V ⟨i1, i2, fun k' hk' => ?_, fun k' h1 h2 => i4 k' (by omega) h2⟩, fun w => absurd rfl w⟩
    by_cases e : k' = k
    · subst e; rw [y, if_neg (by decide)]; exact i4 k' (Nat.le_refl _) (by omega)
    · exact i3 k' (by omega)
theorem c_teller {K : Int32 → Mm → Prop} {N n : Nat} {b : Nat → Int32} (hd : 2 ≤ d) (h : Wd u g nm) (hn : n ≤ 32) (hc : ∀ k, k < 5 → u.1 172 k = nI (cnP (fun s => fitF g b N s && tb (nI s) k) n)) (hK : K (tlV (tlF g (apF g b N n) (nA g))) u) : CI X d 30 [.ref 171, .int (nI (cnP (fitF g b N) n))] u K := by
  obtain ⟨d, rfl, hd1⟩ := dpos hd
  obtain ⟨hg, hc5, hok, hr⟩ := h
  have hA := hg.1.2.2.2.2.2.1
  have hKK := hg.1.2.2.2.1
  obtain ⟨cq, ck, ca, cw⟩ := cityN hg hc5
  refine CI_of mk_X2_bestTeller.2.2 rfl (B_GS_bestTeller_0 ?_)
  suffices hz : ∀ a, a ≤ nA g → ∀ v3 : Int32, (∀ t, tlF g (apF g b N n) a = some t → v3 = apF g b N n t) → VI X d 30 K 7 [some (.ref 171), some (.int (nI (cnP (fitF g b N) n))), some (.int (tlV (tlF g (apF g b N n) a))), some (.int v3), some (.int (nI a)), none] [] u from hz 0 (by omega) 0 (fun t ht => by cases ht)
  intro a ha
  have : ∀ k a, a + k = nA g → ∀ v3 : Int32, (∀ t, tlF g (apF g b N n) a = some t → v3 = apF g b N n t) → VI X d 30 K 7 [some (.ref 171), some (.int (nI (cnP (fitF g b N) n))), some (.int (tlV (tlF g (apF g b N n) a))), some (.int v3), some (.int (nI a)), none] [] u := by
    intro k
    induction k with
    | zero =>
      intro a ha v3 _
      have ea : a = nA g := by omega
      subst ea
      refine B_GS_bestTeller_7 ?_
      rw [ca]
      simp (disch := omega) only [la1, la2, lt1, lt2, nI_add, pk_mul, nI_clamp, vpn, nI_leI, nI_ltI, nI_eq, ll1, ll2, ll3, ll4, le1, le2, true_and, and_true, not_true_eq_false, not_false_eq_true, forall_const, false_implies, implies_true, if_true, if_false, ite_true, ite_false, and_self, false_and, and_false]
      exact ⟨fun _ => hK, fun z => absurd (Nat.le_refl _) z⟩
    | succ k ih =>
      intro a ha v3 hv3
      obtain ⟨⟨kd, hk, ek⟩, -⟩ := hok.2.2.2.1 a (by omega)
      have e21 : u.1 21 a = nI kd := (hr.2.1 a (by omega)).1.trans ek
      have e3 : u.1 20 3 = g 201 := hr.1.2.2.2
      have ea : (if 0 ≤ (2 : Int32) * u.1 172 kd - nI (cnP (fitF g b N) n) then (2 : Int32) * u.1 172 kd - nI (cnP (fitF g b N) n) else 0 - ((2 : Int32) * u.1 172 kd - nI (cnP (fitF g b N) n))) = apF g b N n a := by
        rw [hc kd (by omega)]
        unfold apF wiF
        rw [ek, nI_clamp (by omega)]
      have ih := ih (a + 1) (by omega)
      rw [tlF] at ih
      refine B_GS_bestTeller_7 ?_
      rw [ca, nI_clamp (by omega), e21, nI_clamp (by omega), ea, e3]
      refine ⟨fun z => absurd z (nI_ge (by omega) (by omega)), fun _ => ⟨vp_in_nI (by omega) (by decide), vp_in_nI (by omega) (by decide), c_bit (by omega) (by omega) (fun y => ?_) (fun y => ?_)⟩⟩
      · rw [if_pos y] at ih
        rw [nI_1]
        exact ⟨fun _ => ih v3 hv3, fun w => absurd w (by decide)⟩
      · rw [y, if_neg (by decide)] at ih
        refine ⟨fun w => absurd rfl w, fun _ => ?_⟩
        rw [nI_1]
        cases ht : tlF g (apF g b N n) a with
        | none =>
          rw [ht] at ih
          exact ⟨fun _ => ih _ (fun t e => by cases e; rfl), fun w => absurd rfl w⟩
        | some t =>
          have htl := tlF_lt ht
          rw [ht] at ih
          rw [hv3 t ht]
          dsimp only [tlV] at ih ⊢
          refine ⟨fun w => absurd w (nI_m1 (by omega)), fun _ => ⟨fun w => ?_, fun w => ?_⟩⟩
          · rw [if_pos w] at ih
            exact ih _ (fun t' e => by cases e; rfl)
          · rw [if_neg w] at ih
            exact ih _ (fun t' e => by cases e; rfl)
  exact this (nA g - a) a (by omega)
end TasteC
