/-! who is solvent; plot; cure -/
def Wd (u : Mm) (g : Nat → Int32) (nm : Nat → Int64) : Prop := HeadOk g ∧ CityR u 5 g nm ∧ LifeOk g g ∧ LifeR u 20 g g
theorem Wd.cg {u v : Mm} {g : Nat → Int32} {nm : Nat → Int64} (h : Wd u g nm) (e : ∀ b, 5 ≤ b → b ≤ 28 → v.1 b = u.1 b) (e2 : v.2 = u.2) : Wd v g nm :=
  ⟨h.1, h.2.1.congr (by rw [e 5 (by omega) (by omega)]) (by rw [e 5 (by omega) (by omega)]) (fun k a b => e _ (by omega) (by omega)) (by rw [e2]), h.2.2.1, h.2.2.2.congr (fun j _ _ => by rw [e 20 (by omega) (by omega)]) (fun k a b => e _ (by omega) (by omega))⟩
theorem Wd.mI {u : Mm} {g : Nat → Int32} {nm : Nat → Int64} {a j : Nat} {x : Int32} (h : Wd u g nm) (ha : a < 5 ∨ 28 < a) : Wd (mI u a j x) g nm := h.cg (fun b h1 h2 => mI_r (by omega)) rfl
theorem Rl.Wd {u : Mm} (h : Rl u) : Wd u (u.1 236) (u.2 241) := ⟨h.2.2.2.1.1, h.2.2.2.1.2.1, h.2.2.2.1.2.2.1, h.2.2.2.1.2.2.2.1⟩
def slv (g : Nat → Int32) (a : Nat) (wo : Int32) : Bool := if tb (g 201) a then false else decide (¬ ylF g (g (210 + a)).toNatClampNeg (g (202 + a)).toNatClampNeg (tb (g 200) a) wo (nW' g) < 5040 * g (6 + (g (210 + a)).toNatClampNeg))
def popN (j : Nat) : Nat := ((List.range 8).filter (fun i => j.testBit i)).length
theorem pop_step : ∀ j, j < 256 → j ≠ 0 → nI j &&& (nI j - 1) = nI (j &&& (j - 1)) ∧ popN (j &&& (j - 1)) + 1 = popN j ∧ j &&& (j - 1) < j := by decide +kernel
theorem pop_0 : popN 0 = 0 := by decide
theorem pop_le : ∀ j, j < 256 → popN j ≤ 8 := by decide +kernel
theorem Int32.mulc (x y : Int32) : x * y = y * x := Int32.mul_comm x y
section Solv
variable {X : Xc} {d : Nat} {u : Mm} {g : Nat → Int32} {nm : Nat → Int64} {K : Int32 → Mm → Prop}
theorem c_solvAs {q k : Nat} {st : Bool} {x wo : Int32} (hd : 3 ≤ d) (h : Wd u g nm) (hq : q < nQ g) (hk : k < 5) (hx : x = if st then 1 else 0) (h1 : ¬ ylF g q k st wo (nW' g) < 5040 * g (6 + q) → K 1 u) (h0 : ylF g q k st wo (nW' g) < 5040 * g (6 + q) → K 0 u) : CI X d 75 [.ref 160, .int (nI q), .int (nI k), .int x, .int wo] u K := by
  obtain ⟨d, rfl, hd1⟩ := dpos hd
  obtain ⟨hg, hc, hok, hr⟩ := h
  have hQ := hg.1.2.1
  refine CI_of mk_X7_isSolventAs.2.2 rfl (B_RK_isSolventAs_0 (c_yield hd1 hg hc (by omega) hk hx ?_))
  simp (disch := omega) only [la1, la2, lt1, lt2, nI_add, pk_mul, nI_clamp, vpn, nI_leI, nI_ltI, nI_eq, ll1, ll2, ll3, ll4, le1, le2, true_and, and_true, not_true_eq_false, not_false_eq_true, forall_const, false_implies, implies_true, if_true, if_false, ite_true, ite_false, and_self, false_and, and_false]
  rw [show u.1 8 q = g (6 + q) from (hc.2.1 q hq).1, Int32.mul_comm]
  exact ⟨by omega, h0, h1⟩
theorem c_solv {a : Nat} {wo : Int32} (hd : 4 ≤ d) (h : Wd u g nm) (ha : a < nA g) (h1 : slv g a wo = true → K 1 u) (h0 : slv g a wo = false → K 0 u) : CI X d 76 [.ref 160, .int (nI a), .int wo] u K := by
  obtain ⟨d, rfl, hd1⟩ := dpos hd
  have h' := h
  obtain ⟨hg, hc, hok, hr⟩ := h
  have hA := hg.1.2.2.2.2.2.1
  have hKK := hg.1.2.2.2.1
  have hQ := hg.1.2.1
  obtain ⟨b1, b2, -⟩ := hr.2.1 a ha
  obtain ⟨⟨k, hk, ek⟩, p⟩ := hok.2.2.2.1 a ha
  have e1 : u.1 21 a = nI k := b1.trans ek
  have e4 : u.1 20 4 = g 200 := hr.1.2.2.1
  unfold slv at h1 h0
  rw [ek, nI_clamp (by omega)] at h1 h0
  refine CI_of mk_X7_isSolvent.2.2 rfl (B_RK_isSolvent_0 ?_)
  simp (disch := omega) only [la1, la2, lt1, lt2, nI_add, pk_mul, nI_clamp, vpn, nI_leI, nI_ltI, nI_eq, ll1, ll2, ll3, ll4, le1, le2, true_and, and_true, not_true_eq_false, not_false_eq_true, forall_const, false_implies, implies_true, if_true, if_false, ite_true, ite_false, and_self, false_and, and_false, e1, e4]
  rw [show u.1 22 a = g (210 + a) from b2]
  refine ⟨by omega, ?_⟩
  rcases p with ⟨z, e⟩ | ⟨z, q, hq, e⟩
  · rw [e]
    rw [z, if_pos rfl] at h0
    exact ⟨fun _ => h0 rfl, fun y => absurd rfl y⟩
  · rw [e]
    rw [z, if_neg (by decide), e, nI_clamp (by omega)] at h1 h0
    refine ⟨fun y => absurd y (nI_m1 (by omega)), fun _ => ⟨by omega, ?_⟩⟩
    refine c_bit (by omega) (by omega) (fun y => ?_) (fun y => ?_)
    · rw [y] at h1 h0
      exact c_solvAs (st := true) hd1 h' hq (by omega) rfl (fun x => ⟨fun w => absurd w (by decide), fun _ => h1 (decide_eq_true x)⟩) (fun x => ⟨fun _ => h0 (decide_eq_false (fun w => w x)), fun w => absurd rfl w⟩)
    · rw [y] at h1 h0
      exact c_solvAs (st := false) hd1 h' hq (by omega) rfl (fun x => ⟨fun w => absurd w (by decide), fun _ => h1 (decide_eq_true x)⟩) (fun x => ⟨fun _ => h0 (decide_eq_false (fun w => w x)), fun w => absurd rfl w⟩)
theorem c_msolv {a : Nat} {wo : Int32} (hd : 4 ≤ d) (hg : HeadOk (u.1 236)) (hok : LifeOk (u.1 236) (u.1 236)) (ha : a < nA (u.1 236)) (h1 : slv (u.1 236) a wo = true → K 1 u) (h0 : slv (u.1 236) a wo = false → K 0 u) : CI X d 264 [.ref 234, .int (nI a), .int wo] u K := by
  obtain ⟨d, rfl, hd1⟩ := dpos hd
  have hA := hg.1.2.2.2.2.2.1
  have hKK := hg.1.2.2.2.1
  have hQ := hg.1.2.1
  obtain ⟨⟨k, hk, ek⟩, p⟩ := hok.2.2.2.1 a ha
  unfold slv at h1 h0
  rw [ek, nI_clamp (by omega)] at h1 h0
  refine CI_of mk_X13_isSolvent.2.2 rfl (B_M_isSolvent_0 (c_misEvicted (by omega) (by omega) (fun y => ?_) (fun y => ?_)))
  · rw [y, if_pos rfl] at h0
    exact ⟨fun _ => h0 rfl, fun z => absurd z (by decide)⟩
  · rcases p with ⟨z, e⟩ | ⟨z, q, hq, e⟩
    · exact absurd (y.symm.trans z) (by decide)
    · rw [z, if_neg (by decide), e, nI_clamp (by omega)] at h1 h0
      refine ⟨fun w => absurd rfl w, fun _ => ?_⟩
      simp (disch := omega) only [la1, la2, lt1, lt2, nI_add, pk_mul, nI_clamp, vpn, nI_leI, nI_ltI, nI_eq, ll1, ll2, ll3, ll4, le1, le2, true_and, and_true, not_true_eq_false, not_false_eq_true, forall_const, false_implies, implies_true, if_true, if_false, ite_true, ite_false, and_self, false_and, and_false, e, ek]
      refine ⟨by omega, by omega, ?_⟩
      refine c_mhas (by omega) (by omega) (fun y2 => ?_) (fun y2 => ?_)
      · rw [y2] at h1 h0
        refine c_myield (st := true) (by omega) hg (by omega) (by omega) rfl ?_
        simp (disch := omega) only [la1, la2, lt1, lt2, nI_add, pk_mul, nI_clamp, vpn, nI_leI, nI_ltI, nI_eq, ll1, ll2, ll3, ll4, le1, le2, true_and, and_true, not_true_eq_false, not_false_eq_true, forall_const, false_implies, implies_true, if_true, if_false, ite_true, ite_false, and_self, false_and, and_false, e]
        exact ⟨by omega, by omega, fun x => h0 (decide_eq_false (fun w => w x)), fun x => h1 (decide_eq_true x)⟩
      · rw [y2] at h1 h0
        refine c_myield (st := false) (by omega) hg (by omega) (by omega) rfl ?_
        simp (disch := omega) only [la1, la2, lt1, lt2, nI_add, pk_mul, nI_clamp, vpn, nI_leI, nI_ltI, nI_eq, ll1, ll2, ll3, ll4, le1, le2, true_and, and_true, not_true_eq_false, not_false_eq_true, forall_const, false_implies, implies_true, if_true, if_false, ite_true, ite_false, and_self, false_and, and_false, e]
        exact ⟨by omega, by omega, fun x => h0 (decide_eq_false (fun w => w x)), fun x => h1 (decide_eq_true x)⟩
theorem c_allSolv (hd : 5 ≤ d) (h : Wd u g nm) (hK : K (bset (fun a => slv g a 0) (nA g)) u) : CI X d 77 [.ref 160] u K := by
  obtain ⟨d, rfl, hd1⟩ := dpos hd
  have hA := h.1.1.2.2.2.2.2.1
  have ca := (cityN h.1 h.2.1).2.2.1
  refine CI_of mk_X7_allSolvent.2.2 rfl (B_RK_allSolvent_0 ?_)
  refine lup (n := nA g) (W := fun j => VI X d 77 K 4 [some (.ref 160), some (.int (bset (fun a => slv g a 0) j)), some (.int (nI j))] [] u) ?_
  intro j hj ih
  refine B_RK_allSolvent_4 ?_
  simp (disch := omega) only [la1, la2, lt1, lt2, nI_add, pk_mul, nI_clamp, vpn, nI_leI, nI_ltI, nI_eq, ll1, ll2, ll3, ll4, le1, le2, true_and, and_true, not_true_eq_false, not_false_eq_true, forall_const, false_implies, implies_true, if_true, if_false, ite_true, ite_false, and_self, false_and, and_false, ca]
  refine ⟨fun q => ?_, fun q => ?_⟩
  · rw [show j = nA g by omega]; exact hK
  · have ih := ih (by omega)
    rw [bset] at ih
    refine c_solv hd1 h (by omega) (fun y => ?_) (fun y => ?_)
    · rw [if_pos y] at ih
      exact ⟨fun z => absurd z (by decide), fun _ => ih⟩
    · rw [if_neg (by rw [y]; decide)] at ih
      exact ⟨fun _ => ih, fun z => absurd rfl z⟩
theorem p_solvent (hd : 6 ≤ d) (h : Rl u) : PairI X d 142 265 [] u := by
  intro K hK
  obtain ⟨d, rfl, hd1⟩ := dpos hd
  obtain ⟨hg, hc, hok, hr⟩ := h.Wd
  have hA := hg.1.2.2.2.2.2.1
  have m3 := hg.1.2.2.2.2.1
  refine CI_of mk_X12_solvent.2.2 rfl (B_S_solvent_0 (c_allSolv hd1 h.Wd ?_))
  refine CI_of mk_X13_solvent.2.2 rfl (B_M_solvent_0 ?_)
  have hR := h.th (x := 0)
  have e236 : (mI u 234 0 0).1 236 = u.1 236 := mI_r (by omega)
  generalize mI u 234 0 0 = U at hR e236
  refine lup (n := nA (u.1 236)) (W := fun j => VI X d 265 (fun w2 u2 => K (bset (fun a => slv (u.1 236) a 0) (nA (u.1 236))) w2 u2) 9 [some (.ref 234), some (.int (bset (fun a => slv (u.1 236) a 0) j)), some (.int (nI j))] [] U) ?_
  intro j hj ih
  refine B_M_solvent_9 ?_
  rw [e236, m3]
  simp (disch := omega) only [la1, la2, lt1, lt2, nI_add, pk_mul, nI_clamp, vpn, nI_leI, nI_ltI, nI_eq, ll1, ll2, ll3, ll4, le1, le2, true_and, and_true, not_true_eq_false, not_false_eq_true, forall_const, false_implies, implies_true, if_true, if_false, ite_true, ite_false, and_self, false_and, and_false]
  refine ⟨fun q => ?_, fun q => ?_⟩
  · rw [show j = nA (u.1 236) by omega]; exact hK _ _ hR
  · have ih := ih (by omega)
    rw [bset] at ih
    refine c_msolv (by omega) (by rw [e236]; exact hg) (by rw [e236]; exact hok) (by rw [e236]; omega) (fun y => ?_) (fun y => ?_)
    · rw [e236] at y
      rw [if_pos y] at ih
      exact ⟨fun z => absurd z (by decide), fun _ => ih⟩
    · rw [e236] at y
      rw [if_neg (by rw [y]; decide)] at ih
      exact ⟨fun _ => ih, fun z => absurd rfl z⟩
theorem c_bitc {j : Nat} (hd : 1 ≤ d) (hj : j < 256) (hK : K (nI (popN j)) u) : CI X d 322 [.int (nI j)] u K := by
  obtain ⟨d, rfl, hd1⟩ := dpos hd
  refine CI_of mk_J6_bitCount_0f7a4.2.2 rfl (B_bitCount_0 ?_)
  refine Eq.mp (congrArg (fun z => K z u) ?_) hK
  clear hK
  revert j
  decide +kernel
theorem c_mbits {j : Nat} (hd : 1 ≤ d) (hj : j < 256) (hK : K (nI (popN j)) u) : CI X d 189 [.int (nI j)] u K := by
  obtain ⟨d, rfl, hd1⟩ := dpos hd
  refine CI_of mk_X13_bits.2.2 rfl (B_M_bits_0 ?_)
  suffices hz : ∀ n i c, i < n → i < 256 → c + popN i = popN j → c ≤ 8 → VI X d 189 K 4 [some (.int (nI j)), some (.int (nI c)), some (.int (nI i))] [] u from hz 257 j 0 (by omega) hj (by omega) (by omega)
  intro n
  induction n with
  | zero => intro i c hi; omega
  | succ n ih =>
    intro i c hi hi2 hc hc8
    refine B_M_bits_4 ?_
    by_cases e : i = 0
    · subst e
      rw [pop_0] at hc
      rw [show c = popN j by omega]
      exact ⟨fun _ => hK, fun z => absurd rfl z⟩
    · obtain ⟨s1, s2, s3⟩ := pop_step i hi2 e
      have := pop_le j hj
      rw [s1]
      simp (disch := omega) only [la1, la2, lt1, lt2, nI_add, pk_mul, nI_clamp, vpn, nI_leI, nI_ltI, nI_eq, ll1, ll2, ll3, ll4, le1, le2, true_and, and_true, not_true_eq_false, not_false_eq_true, forall_const, false_implies, implies_true, if_true, if_false, ite_true, ite_false, and_self, false_and, and_false]
      exact ⟨fun z => absurd z e, fun _ => ih _ _ (by omega) (by omega) (by omega) (by omega)⟩
/-! plot -/
def pbO (p : Nat → Bool) : Nat → Option Nat
  | 0 => none
  | j + 1 => match pbO p j with
    | none => if p j then none else some j
    | some b => if popN j < popN b ∧ p j = false then some j else some b
theorem pbO_lt {p : Nat → Bool} : ∀ {n b : Nat}, pbO p n = some b → b < n
  | 0, b, h => by cases h
  | n + 1, b, h => by
    rw [pbO] at h
    split at h
    · split at h
      · cases h
      · cases h; omega
    · rename_i e
      have := pbO_lt e
      split at h
      · cases h; omega
      · cases h; omega
theorem mI_mI {a j : Nat} {x y : Int32} : mI (mI u a j x) a j y = mI u a j y := by
  refine mm_ext (fun b k => ?_) rfl
  simp only [mI_at]
  split <;> rfl
theorem m_plot {K : Int32 → Mm → Prop} {a : Nat} (hd : 6 ≤ d) (hg : HeadOk (u.1 236)) (hok : LifeOk (u.1 236) (u.1 236)) (ha : a < nA (u.1 236)) (y : tb (u.1 236 201) a = false) (h0 : pbO (fun s => slv (u.1 236) a (nI s)) (2 ^ nW' (u.1 236)) = none → K (-1) (mI u 234 0 0)) (h1 : ∀ b, pbO (fun s => slv (u.1 236) a (nI s)) (2 ^ nW' (u.1 236)) = some b → K (nI (popN b)) (mI (mI u 234 0 0) 234 47 (nI b))) : CI X d 286 [.ref 234, .int (nI a)] u K := by
  obtain ⟨d, rfl, hd1⟩ := dpos hd
  have hA := hg.1.2.2.2.2.2.1
  have hW := hg.1.2.2.2.2.2.2.2
  have m3 := hg.1.2.2.2.2.1
  have m4 := hg.1.2.2.2.2.2.2.1
  obtain ⟨sp, -⟩ := set_pow (nW' (u.1 236)) hW
  have hpw := pow_le hW
  refine CI_of mk_X13_plot.2.2 rfl (B_M_plot_0 (c_misStatue (n := nA (u.1 236)) (by omega) m3 (by omega) (fun a' ha' e => ⟨fun z => absurd z (by decide), fun _ => c_misEvicted (by omega) (by omega) (fun y2 => absurd (y.symm.trans y2) (by decide)) (fun _ => ⟨fun _ => ?_, fun z => absurd rfl z⟩)⟩) (fun z => (no2 ha (by omega) z).elim)))
  have e236 : (mI u 234 0 0).1 236 = u.1 236 := mI_r (by omega)
  generalize mI u 234 0 0 = U at h0 h1 e236
  refine lup (n := 2 ^ nW' (u.1 236)) (W := fun j => VI X d 286 K 27 [some (.ref 234), some (.int (nI a)), some (.int (match pbO (fun s => slv (u.1 236) a (nI s)) j with | none => -1 | some b => nI b)), some (.int (nI j))] [] U) ?_
  intro j hj ih
  refine B_M_plot_27 ?_
  have ih := ih
  rw [pbO] at ih
  have hsol : ∀ (K' : Int32 → Mm → Prop), (slv (u.1 236) a (nI j) = true → K' 1 U) → (slv (u.1 236) a (nI j) = false → K' 0 U) → CI X d 264 [.ref 234, .int (nI a), .int (nI j)] U K' := by
    intro K' x1 x0
    exact c_msolv (by omega) (by rw [e236]; exact hg) (by rw [e236]; exact hok) (by rw [e236]; exact ha) (by rw [e236]; exact x1) (by rw [e236]; exact x0)
  cases hp : pbO (fun s => slv (u.1 236) a (nI s)) j with
  | none =>
    rw [hp] at ih
    dsimp only at ih ⊢
    rw [e236, m4, sp]
    simp (disch := omega) only [la1, la2, lt1, lt2, nI_add, pk_mul, nI_clamp, vpn, nI_leI, nI_ltI, nI_eq, ll1, ll2, ll3, ll4, le1, le2, true_and, and_true, not_true_eq_false, not_false_eq_true, forall_const, false_implies, implies_true, if_true, if_false, ite_true, ite_false, and_self, false_and, and_false]
    refine ⟨fun q => ?_, fun q => ?_⟩
    · rw [show j = 2 ^ nW' (u.1 236) by omega] at hp
      exact h0 hp
    · have ih := ih (by omega)
      refine hsol _ (fun y2 => ?_) (fun y2 => ?_)
      · rw [if_pos y2] at ih
        exact ⟨fun _ => ih, fun z => absurd z (by decide)⟩
      · rw [y2, if_neg (by decide)] at ih
        exact ⟨fun z => absurd rfl z, fun _ => ih⟩
  | some b =>
    have hb := pbO_lt hp
    rw [hp] at ih
    dsimp only at ih ⊢
    rw [e236, m4, sp]
    simp (disch := omega) only [la1, la2, lt1, lt2, nI_add, pk_mul, nI_clamp, vpn, nI_leI, nI_ltI, nI_eq, ll1, ll2, ll3, ll4, le1, le2, true_and, and_true, not_true_eq_false, not_false_eq_true, forall_const, false_implies, implies_true, if_true, if_false, ite_true, ite_false, and_self, false_and, and_false]
    refine ⟨fun q => ?_, fun q => ?_⟩
    · rw [show j = 2 ^ nW' (u.1 236) by omega] at hp
      exact ⟨fun _ => c_mbits (by omega) (by omega) (h1 b hp), fun z => absurd z (nI_m1 (by omega))⟩
    · have ih := ih (by omega)
      have l1 := pop_le b (by omega)
      have l2 := pop_le j (by omega)
      refine ⟨fun z => absurd z (nI_m1 (by omega)), fun _ => c_mbits (by omega) (by omega) (c_mbits (by omega) (by omega) ?_)⟩
      simp (disch := omega) only [la1, la2, lt1, lt2, nI_add, pk_mul, nI_clamp, vpn, nI_leI, nI_ltI, nI_eq, ll1, ll2, ll3, ll4, le1, le2, true_and, and_true, not_true_eq_false, not_false_eq_true, forall_const, false_implies, implies_true, if_true, if_false, ite_true, ite_false, and_self, false_and, and_false]
      refine ⟨fun q2 => ?_, fun q2 => hsol _ (fun y2 => ?_) (fun y2 => ?_)⟩
      · rw [if_neg (by omega)] at ih
        exact ih
      · rw [y2, if_neg (by simp)] at ih
        exact ⟨fun _ => ih, fun z => absurd z (by decide)⟩
      · rw [if_pos ⟨by omega, y2⟩] at ih
        exact ⟨fun z => absurd rfl z, fun _ => ih⟩
theorem p_plot {p1 : Int32} (hd : 6 ≤ d) (h : Rl u) : PairI X d 155 286 [.int p1] u := by
  intro K hK
  have hwd := h.Wd
  obtain ⟨hg, hc, hok, hr⟩ := h.Wd
  have hA := hg.1.2.2.2.2.2.1
  have hW := hg.1.2.2.2.2.2.2.2
  have m3 := hg.1.2.2.2.2.1
  have m4 := hg.1.2.2.2.2.2.2.1
  obtain ⟨cq, ck, ca, cw⟩ := cityN hg hc
  obtain ⟨d, rfl, hd1⟩ := dpos hd
  have e3 : u.1 20 3 = u.1 236 201 := hr.1.2.2.2
  obtain ⟨sp, -⟩ := set_pow (nW' (u.1 236)) hW
  have hpw := pow_le hW
  refine CI_of mk_X12_plot.2.2 rfl (B_S_plot_0 (c_has5 (s := 2) (n := nA (u.1 236)) (by omega) rfl (by omega) ca (by omega) (fun a ha e => ?_) (fun q => ?_)))
  · subst e
    refine ⟨fun z => absurd z (by decide), fun _ => ?_⟩
    rw [e3]
    refine c_bit (by omega) (by omega) (fun y => ?_) (fun y => ?_)
    · refine ⟨fun z => absurd z (by decide), fun _ => ?_⟩
      refine CI_of mk_X13_plot.2.2 rfl (B_M_plot_0 (c_misStatue (n := nA (u.1 236)) (by omega) m3 (by omega) (fun a' ha' e => ⟨fun z => absurd z (by decide), fun _ => c_misEvicted (by omega) (by omega) (fun _ => ⟨fun z => absurd z (by decide), fun _ => hK _ _ h.th⟩) (fun y2 => ?_)⟩) (fun z => (no2 ha (by omega) z).elim)))
      exact absurd (y.symm.trans y2) (by decide)
    · refine ⟨fun _ => ?_, fun z => absurd rfl z⟩
      obtain ⟨d, rfl, hd2⟩ := dpos hd1
      refine CI_of mk_X7_findPlot.2.2 rfl (B_RK_findPlot_0 ?_)
      refine lup (n := 2 ^ nW' (u.1 236)) (W := fun j => VI X d 85 _ 4 [some (.ref 160), some (.int (nI a)), some (.int (match pbO (fun s => slv (u.1 236) a (nI s)) j with | none => -1 | some b => nI (popN b))), some (.int (nI j)), none] [] (match pbO (fun s => slv (u.1 236) a (nI s)) j with | none => u | some b => mI u 160 9 (nI b))) ?_
      intro j hj ih
      refine B_RK_findPlot_4 ?_
      have ih := ih
      rw [pbO] at ih
      cases hp : pbO (fun s => slv (u.1 236) a (nI s)) j with
      | none =>
        rw [hp] at ih
        dsimp only at ih ⊢
        rw [cw, sp]
        simp (disch := omega) only [la1, la2, lt1, lt2, nI_add, pk_mul, nI_clamp, vpn, nI_leI, nI_ltI, nI_eq, ll1, ll2, ll3, ll4, le1, le2, true_and, and_true, not_true_eq_false, not_false_eq_true, forall_const, false_implies, implies_true, if_true, if_false, ite_true, ite_false, and_self, false_and, and_false]
        refine ⟨fun q => ?_, fun q => ?_⟩
        · have ej : j = 2 ^ nW' (u.1 236) := by omega
          subst ej
          exact m_plot (by omega) hg hok ha y (fun _ => hK _ _ h.th) (fun b hb => by rw [hp] at hb; cases hb)
        · have ih := ih (by omega)
          refine c_bitc (by omega) (by omega) ?_
          refine c_solv hd2 hwd ha (fun y2 => ?_) (fun y2 => ?_)
          · rw [if_pos y2] at ih
            exact ⟨fun _ => ih, fun z => absurd z (by decide)⟩
          · rw [y2, if_neg (by decide)] at ih
            exact ⟨fun z => absurd rfl z, fun _ => ih⟩
      | some b =>
        have hb := pbO_lt hp
        rw [hp] at ih
        dsimp only at ih ⊢
        rw [mI_r (by omega), cw, sp]
        simp (disch := omega) only [la1, la2, lt1, lt2, nI_add, pk_mul, nI_clamp, vpn, nI_leI, nI_ltI, nI_eq, ll1, ll2, ll3, ll4, le1, le2, true_and, and_true, not_true_eq_false, not_false_eq_true, forall_const, false_implies, implies_true, if_true, if_false, ite_true, ite_false, and_self, false_and, and_false]
        refine ⟨fun q => ?_, fun q => ?_⟩
        · have ej : j = 2 ^ nW' (u.1 236) := by omega
          subst ej
          have e236 : (mI u 160 9 (nI b)).1 236 = u.1 236 := mI_r (by omega)
          refine m_plot (by omega) (by rw [e236]; exact hg) (by rw [e236]; exact hok) (by rw [e236]; exact ha) (by rw [e236]; exact y) (fun hb' => ?_) (fun b' hb' => ?_)
          · rw [e236, hp] at hb'; cases hb'
          · rw [e236, hp] at hb'
            cases hb'
            refine hK _ _ ?_
            have hk : KeptR (mI (mI (mI u 160 9 (nI b)) 234 0 0) 234 47 (nI b)) := by
              obtain ⟨k1, k2, k3, k4, k5, k6, k7, k8, k9⟩ := h.2.2.1
              unfold KeptR
              simp (disch := omega) only [mI_n, mI_r, mI_s]
              exact ⟨k1, k2, k3, trivial, k5, k6, k7, k8, k9⟩
            exact h.kept ((AG.rf.mI rfl).mI rfl |>.mI rfl) hk ((AG.rf.mI rfl).mI rfl |>.mI rfl) ((AG.rf.mI rfl).mI rfl |>.mI rfl) ((AG.rf.mI rfl).mI rfl |>.mI rfl) rfl
        · have ih := ih (by omega)
          have l1 := pop_le b (by omega)
          have l2 := pop_le j (by omega)
          refine c_bitc (by omega) (by omega) ?_
          refine ⟨fun z => absurd z (nI_m1 (by omega)), fun _ => ?_⟩
          simp (disch := omega) only [la1, la2, lt1, lt2, nI_add, pk_mul, nI_clamp, vpn, nI_leI, nI_ltI, nI_eq, ll1, ll2, ll3, ll4, le1, le2, true_and, and_true, not_true_eq_false, not_false_eq_true, forall_const, false_implies, implies_true, if_true, if_false, ite_true, ite_false, and_self, false_and, and_false]
          refine ⟨fun q2 => ?_, fun q2 => c_solv hd2 (hwd.mI (by omega)) ha (fun y2 => ?_) (fun y2 => ?_)⟩
          · rw [if_neg (by omega)] at ih
            exact ih
          · rw [y2, if_neg (by simp)] at ih
            exact ⟨fun _ => ih, fun z => absurd z (by decide)⟩
          · rw [if_pos ⟨by omega, y2⟩] at ih
            rw [mI_mI]
            exact ⟨fun z => absurd rfl z, fun _ => ih⟩
  · refine ⟨fun _ => ?_, fun z => absurd rfl z⟩
    refine CI_of mk_X13_plot.2.2 rfl (B_M_plot_0 (c_misStatue (n := nA (u.1 236)) (by omega) m3 (by omega) (fun a' ha' e => ?_) (fun z => ⟨fun _ => hK _ _ h.th, fun y => absurd rfl y⟩)))
    subst e
    exact (no2 ha' (by omega) q).elim
end Solv
