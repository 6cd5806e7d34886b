/-! reckoning: yields, fractions -/
def ylF (g : Nat → Int32) (q k : Nat) (st : Bool) (wo : Int32) : Nat → Int32
  | 0 => 0
  | w + 1 => if cm g w (nI q) = true ∧ tb wo w = false then ylF g q k st wo w + wth g w st * g (86 + 5 * w + k) * (420 / g (70 + w)) else ylF g q k st wo w
section Reck
variable {X : Xc} {d : Nat} {u : Mm} {g : Nat → Int32} {nm : Nat → Int64} {K : Int32 → Mm → Prop}
theorem wth_nat (hg : HeadOk g) {w : Nat} (hw : w < nW' g) (st : Bool) : ∃ x, x ≤ 9 ∧ wth g w st = nI x := by
  obtain ⟨-, -, -, ⟨v, hv, e⟩, -⟩ := hg.2.2 w hw
  unfold wth
  rw [e]
  split
  · exact ⟨v / 2, by omega, pk_div (d := 2) (by omega) (by omega) (by omega)⟩
  · exact ⟨v, hv, rfl⟩
theorem ylF_nat (hg : HeadOk g) {q k : Nat} {st : Bool} {wo : Int32} (hk : k < 5) : ∀ w, w ≤ nW' g → ∃ y, y ≤ 45360 * w ∧ ylF g q k st wo w = nI y
  | 0, _ => ⟨0, by omega, rfl⟩
  | w + 1, hw => by
    obtain ⟨y, hy, e⟩ := ylF_nat hg (q := q) (st := st) (wo := wo) hk w (by omega)
    rw [ylF, e]
    split
    · obtain ⟨x, hx, ex⟩ := wth_nat hg (show w < nW' g by omega) st
      obtain ⟨-, -, ⟨ev, h1, h7, ee⟩, -, hl, -⟩ := hg.2.2 w (by omega)
      obtain ⟨v, hv, el⟩ := hl k hk
      rw [ex, el, ee]
      refine ⟨y + x * v * (420 / ev), ?_, ?_⟩
      · have a1 : x * v ≤ 9 * 12 := Nat.mul_le_mul hx hv
        have a2 : 420 / ev ≤ 420 := Nat.div_le_self _ _
        have a3 : x * v * (420 / ev) ≤ 9 * 12 * 420 := Nat.mul_le_mul a1 a2
        omega
      · rw [show (420 : Int32) / nI ev = nI (420 / ev) from pk_div (a := 420) (by omega) (by omega) (by omega), pk_mul, pk_mul, nI_add]
    · exact ⟨y, by omega, rfl⟩
theorem c_worth {w : Nat} {b : Bool} {x : Int32} (hd : 1 ≤ d) (hg : HeadOk g) (hc : CityR u 5 g nm) (hw : w < nW' g) (hx : x = if b then 1 else 0) (hK : K (wth g w b) u) : CI X d 73 [.ref 160, .int (nI w), .int x] u K := by
  obtain ⟨d, rfl, hd1⟩ := dpos hd
  have hW := hg.1.2.2.2.2.2.2.2
  have e := (hc.2.2.2.2 w hw).2.2.2.1
  refine CI_of mk_X7_worthOf.2.2 rfl (B_RK_worthOf_0 ?_)
  subst hx
  unfold wth at hK
  simp (disch := omega) only [la1, la2, lt1, lt2, nI_add, pk_mul, nI_clamp, vpn, nI_leI, nI_ltI, nI_eq, ll1, ll2, ll3, ll4, le1, le2, true_and, and_true, not_true_eq_false, not_false_eq_true, forall_const, false_implies, implies_true, if_true, if_false, ite_true, ite_false, and_self, false_and, and_false]
  rw [show u.1 14 w = g (78 + w) from e]
  cases b
  · exact ⟨fun _ => ⟨by omega, hK⟩, fun z => absurd rfl z⟩
  · exact ⟨fun z => absurd z (by decide), fun _ => ⟨by omega, hK⟩⟩
theorem c_yield {q k : Nat} {st : Bool} {x wo : Int32} (hd : 2 ≤ d) (hg : HeadOk g) (hc : CityR u 5 g nm) (hq : q < 8) (hk : k < 5) (hx : x = if st then 1 else 0) (hK : K (ylF g q k st wo (nW' g)) u) : CI X d 74 [.ref 160, .int (nI q), .int (nI k), .int x, .int wo] u K := by
  obtain ⟨d, rfl, hd1⟩ := dpos hd
  have hW := hg.1.2.2.2.2.2.2.2
  have cw := (cityN hg hc).2.2.2
  refine CI_of mk_X7_yieldOf.2.2 rfl (B_RK_yieldOf_0 ?_)
  refine lup (n := nW' g) (W := fun w => VI X d 74 K 6 [some (.ref 160), some (.int (nI q)), some (.int (nI k)), some (.int x), some (.int wo), some (.int (ylF g q k st wo w)), some (.int (nI w)), none] [] u) ?_
  intro w hw ih
  refine B_RK_yieldOf_6 ?_
  simp (disch := omega) only [la1, la2, lt1, lt2, nI_add, pk_mul, nI_clamp, vpn, nI_leI, nI_ltI, nI_eq, ll1, ll2, ll3, ll4, le1, le2, true_and, and_true, not_true_eq_false, not_false_eq_true, forall_const, false_implies, implies_true, if_true, if_false, ite_true, ite_false, and_self, false_and, and_false, cw]
  refine ⟨fun z => ?_, fun z => ⟨by omega, by omega, ?_⟩⟩
  · rw [show w = nW' g by omega]; exact hK
  · have ih := ih (by omega)
    have hwW : w < nW' g := by omega
    obtain ⟨-, -, ⟨ev, h1, h7, ee⟩, -⟩ := hg.2.2 w hwW
    obtain ⟨-, -, c13, -, -, c15, -, c18, -⟩ := hc.2.2.2.2 w hwW
    have e13 : u.1 13 w = g (70 + w) := c13
    have e15 : u.1 15 (5 * w + k) = g (86 + 5 * w + k) := c15 k hk
    have e18 : tb (u.1 18 w) q = cm g w (nI q) := c18 q hq
    rw [ylF] at ih
    refine c_bit (by omega) (by omega) (fun y => ?_) (fun y => ?_)
    · rw [e18] at y
      simp (disch := omega) only [la1, la2, lt1, lt2, nI_add, pk_mul, nI_clamp, vpn, nI_leI, nI_ltI, nI_eq, ll1, ll2, ll3, ll4, le1, le2, true_and, and_true, not_true_eq_false, not_false_eq_true, forall_const, false_implies, implies_true, if_true, if_false, ite_true, ite_false, and_self, false_and, and_false, b01, b10]
      refine c_bit (by omega) (by omega) (fun y2 => ?_) (fun y2 => ?_)
      · rw [if_neg (by rw [y2]; simp)] at ih
        exact ⟨fun _ => ih, fun z => absurd z (by decide)⟩
      · rw [if_pos ⟨y, y2⟩] at ih
        refine ⟨fun z => absurd rfl z, fun _ => ⟨fun z => ?_, fun z => ?_⟩⟩
        · rw [e13, ee] at z
          exact absurd ((nI_leI (b := 0) (by omega) (by omega)).mp z) (by omega)
        · refine c_worth (by omega) hg hc hwW hx ?_
          rw [e13, e15]
          refine ⟨by omega, ?_, ih⟩
          rw [ee]
          exact nI_ne0 (by omega) (by omega)
    · rw [e18] at y
      rw [if_neg (by rw [y]; simp)] at ih
      exact ⟨fun _ => ih, fun z => absurd rfl z⟩
theorem c_myield {a : Int32} {q k : Nat} {st : Bool} {x wo : Int32} (hd : 2 ≤ d) (hg : HeadOk (u.1 236)) (hq : q < 8) (hk : k < 5) (hx : x = if st then 1 else 0) (hK : K (ylF (u.1 236) q k st wo (nW' (u.1 236))) u) : CI X d 261 [.ref 234, .int a, .int (nI q), .int (nI k), .int x, .int wo] u K := by
  obtain ⟨d, rfl, hd1⟩ := dpos hd
  have hW := hg.1.2.2.2.2.2.2.2
  have cw := hg.1.2.2.2.2.2.2.1
  refine CI_of mk_X13_yieldOf.2.2 rfl (B_M_yieldOf_0 ?_)
  refine lup (n := nW' (u.1 236)) (W := fun w => VI X d 261 K 6 [some (.ref 234), some (.int a), some (.int (nI q)), some (.int (nI k)), some (.int x), some (.int wo), some (.int (ylF (u.1 236) q k st wo w)), some (.int (nI w))] [] u) ?_
  intro w hw ih
  refine B_M_yieldOf_6 ?_
  simp (disch := omega) only [la1, la2, lt1, lt2, nI_add, pk_mul, nI_clamp, vpn, nI_leI, nI_ltI, nI_eq, ll1, ll2, ll3, ll4, le1, le2, true_and, and_true, not_true_eq_false, not_false_eq_true, forall_const, false_implies, implies_true, if_true, if_false, ite_true, ite_false, and_self, false_and, and_false, cw]
  refine ⟨fun z => ?_, fun z => ?_⟩
  · rw [show w = nW' (u.1 236) by omega]; exact hK
  · have ih := ih (by omega)
    have hwW : w < nW' (u.1 236) := by omega
    obtain ⟨-, -, ⟨ev, h1, h7, ee⟩, -, -, el, el', -⟩ := hg.2.2 w hwW
    rw [ylF] at ih
    refine c_mhas (by omega) (by omega) (fun y => ?_) (fun y => ?_)
    · rw [if_neg (by rw [y]; simp)] at ih
      exact ⟨fun _ => ih, fun z => absurd z (by decide)⟩
    · refine ⟨fun z => absurd rfl z, fun _ => c_mcomes (by omega) (by omega) el el' (fun y2 => ?_) (fun y2 => ?_)⟩
      · rw [if_pos ⟨y2, y⟩] at ih
        refine ⟨fun z => absurd z (by decide), fun _ => c_mworthOf (by omega) (by omega) hx ?_⟩
        refine ⟨by omega, by omega, ?_, ih⟩
        rw [ee]
        exact nI_ne0 (by omega) (by omega)
      · rw [if_neg (by rw [y2]; simp)] at ih
        exact ⟨fun _ => ih, fun z => absurd rfl z⟩
/-! fractions in least terms -/
theorem euc : ∀ k a b, 0 < a → a ≤ b → a * b < 2 ^ k → ∀ W : Nat → Nat → Nat → Prop, (∀ i x y, W i y (x % y) → W (i + 1) x y) → (∀ i x, W i x 0) → W (k + 1) b a
  | 0, a, b, ha, hb, hlt, _, _, _ => by
    have := Nat.mul_pos ha (show 0 < b by omega)
    omega
  | k + 1, a, b, ha, hb, hlt, W, hs, h0 => by
    refine hs _ _ _ ?_
    by_cases hz : b % a = 0
    · rw [hz]; exact h0 _ _
    · have h1 : b % a < a := Nat.mod_lt _ ha
      have h2 : b % a + a ≤ b := by
        have := Nat.div_add_mod b a
        have : 1 ≤ b / a := (Nat.le_div_iff_mul_le ha).mpr (by omega)
        have : a * 1 ≤ a * (b / a) := Nat.mul_le_mul_left a this
        omega
      have h3 : 2 * (b % a * a) ≤ a * b := by
        have : 2 * (b % a) ≤ b := by omega
        calc 2 * (b % a * a) = a * (2 * (b % a)) := by rw [Nat.mul_comm (b % a) a, Nat.mul_left_comm]
          _ ≤ a * b := Nat.mul_le_mul_left a this
      refine euc k (b % a) a (by omega) (by omega) ?_ W hs h0
      rw [Nat.pow_succ] at hlt
      omega
theorem euc70 {a b : Nat} (ha : a < 2 ^ 30) (hb : b < 2 ^ 30) (W : Nat → Nat → Nat → Prop) (hs : ∀ i x y, W i y (x % y) → W (i + 1) x y) (h0 : ∀ i x, W i x 0) : W 63 b a := by
  by_cases hz : a = 0
  · subst hz; exact h0 _ _
  · by_cases hab : a ≤ b
    · refine euc 62 a b (by omega) hab ?_ W hs h0
      calc a * b < 2 ^ 30 * 2 ^ 30 := Nat.mul_lt_mul'' ha hb
        _ ≤ 2 ^ 62 := by decide
    · refine hs _ _ _ ?_
      rw [Nat.mod_eq_of_lt (by omega)]
      by_cases hb0 : b = 0
      · subst hb0; exact h0 _ _
      · refine euc 61 b a (by omega) (by omega) ?_ W hs h0
        calc b * a < 2 ^ 30 * 2 ^ 30 := Nat.mul_lt_mul'' hb ha
          _ ≤ 2 ^ 61 := by decide
def frc (p1 p2 p3 : Int32) (z b : Nat) : Int32 := if p3 = 0 then p1 / nI (Nat.gcd z b) else p2 / nI (Nat.gcd z b)
theorem c_told {p1 p2 p3 : Int32} {z b : Nat} (hd : 1 ≤ d) (hz : (if 0 ≤ p1 then p1 else 0 - p1) = nI z) (hb : p2 = nI b) (hz' : z < 2 ^ 30) (hb1 : 0 < b) (hb' : b < 2 ^ 30) (hK : K (frc p1 p2 p3 z b) u) : CI X d 178 [.int p1, .int p2, .int p3] u K := by
  obtain ⟨d, rfl, hd1⟩ := dpos hd
  refine CI_of mk_X12_told.2.2 rfl (B_S_told_0 ?_)
  rw [hz]
  have hgp : 0 < Nat.gcd z b := Nat.gcd_pos_of_pos_right z hb1
  have hgl : Nat.gcd z b ≤ b := Nat.gcd_le_right z hb1
  suffices hw : ∀ j : Nat, j + 63 ≤ 100 → VI X d 178 K 11 [some (.int p1), some (.int p2), some (.int p3), some (.int (nI z)), some (.int (nI b)), some (.int (nI j)), none] [] u by
    have := hw 0 (by omega)
    rw [← hb] at this
    exact this
  have e70 := euc70 (a := z) (b := b) hz' hb' (W := fun i x y => x < 2 ^ 30 → y < 2 ^ 30 → Nat.gcd y x = Nat.gcd z b → ∀ j, j + i ≤ 100 → VI X d 178 K 11 [some (.int p1), some (.int p2), some (.int p3), some (.int (nI y)), some (.int (nI x)), some (.int (nI j)), none] [] u) ?_ ?_
  · exact fun j hj => e70 hb' hz' rfl j (by omega)
  · intro i x y ih hx hy hgc j hj
    by_cases y0 : y = 0
    · subst y0
      rw [Nat.gcd_zero_left] at hgc
      subst hgc
      unfold frc at hK
      refine B_S_told_11 ?_
      simp (disch := omega) only [la1, la2, lt1, lt2, nI_add, pk_mul, nI_clamp, vpn, nI_leI, nI_ltI, nI_eq, ll1, ll2, ll3, ll4, le1, le2, true_and, and_true, not_true_eq_false, not_false_eq_true, forall_const, false_implies, implies_true, if_true, if_false, ite_true, ite_false, and_self, false_and, and_false]
      refine ⟨fun _ => ⟨fun _ => ⟨fun q => ⟨by omega, ?_⟩, fun q => ⟨by omega, ?_⟩⟩, fun q => absurd hgp q⟩, fun _ => ⟨fun _ => ⟨fun q => ⟨by omega, ?_⟩, fun q => ⟨by omega, ?_⟩⟩, fun q => absurd hgp q⟩⟩
      · rwa [if_neg q] at hK
      · rwa [if_pos q] at hK
      · rwa [if_neg q] at hK
      · rwa [if_pos q] at hK
    · refine B_S_told_11 ?_
      have hm : x % y < y := Nat.mod_lt _ (by omega)
      rw [pk_rem (show x < 2 ^ 31 by omega) (by omega) (by omega)]
      simp (disch := omega) only [la1, la2, lt1, lt2, nI_add, pk_mul, nI_clamp, vpn, nI_leI, nI_ltI, nI_eq, ll1, ll2, ll3, ll4, le1, le2, true_and, and_true, not_true_eq_false, not_false_eq_true, forall_const, false_implies, implies_true, if_true, if_false, ite_true, ite_false, and_self, false_and, and_false]
      refine ⟨fun q => absurd q (by omega), fun _ => ⟨fun q => absurd q y0, fun _ => ⟨y0, ih (by omega) (by omega) ?_ (j + 1) (by omega)⟩⟩⟩
      rw [← Nat.gcd_rec]
      exact hgc
  · intro i x hx hy hgc j hj
    rw [Nat.gcd_zero_left] at hgc
    subst hgc
    unfold frc at hK
    refine B_S_told_11 ?_
    simp (disch := omega) only [la1, la2, lt1, lt2, nI_add, pk_mul, nI_clamp, vpn, nI_leI, nI_ltI, nI_eq, ll1, ll2, ll3, ll4, le1, le2, true_and, and_true, not_true_eq_false, not_false_eq_true, forall_const, false_implies, implies_true, if_true, if_false, ite_true, ite_false, and_self, false_and, and_false]
    refine ⟨fun _ => ⟨fun _ => ⟨fun q => ⟨by omega, ?_⟩, fun q => ⟨by omega, ?_⟩⟩, fun q => absurd hgp q⟩, fun _ => ⟨fun _ => ⟨fun q => ⟨by omega, ?_⟩, fun q => ⟨by omega, ?_⟩⟩, fun q => absurd hgp q⟩⟩
    · rwa [if_neg q] at hK
    · rwa [if_pos q] at hK
    · rwa [if_neg q] at hK
    · rwa [if_pos q] at hK
theorem c_mcommon {z b : Nat} (hd : 1 ≤ d) (hz' : z < 2 ^ 30) (hb' : b < 2 ^ 30) (hK : K (nI (Nat.gcd z b)) u) : CI X d 192 [.int (nI b), .int (nI z)] u K := by
  obtain ⟨d, rfl, hd1⟩ := dpos hd
  refine CI_of mk_X13_common.2.2 rfl (B_M_common_0 ?_)
  have e70 := euc70 (a := z) (b := b) hz' hb' (W := fun i x y => x < 2 ^ 30 → y < 2 ^ 30 → Nat.gcd y x = Nat.gcd z b → VI X d 192 K 4 [some (.int (nI b)), some (.int (nI z)), some (.int (nI x)), some (.int (nI y)), none] [] u) ?_ ?_
  · exact e70 hb' hz' rfl
  · intro i x y ih hx hy hgc
    refine B_M_common_4 ?_
    by_cases y0 : y = 0
    · subst y0
      rw [Nat.gcd_zero_left] at hgc
      subst hgc
      exact ⟨fun _ => hK, fun q => absurd rfl q⟩
    · have hm : x % y < y := Nat.mod_lt _ (by omega)
      rw [pk_rem (show x < 2 ^ 31 by omega) (by omega) (by omega)]
      simp (disch := omega) only [la1, la2, lt1, lt2, nI_add, pk_mul, nI_clamp, vpn, nI_leI, nI_ltI, nI_eq, ll1, ll2, ll3, ll4, le1, le2, true_and, and_true, not_true_eq_false, not_false_eq_true, forall_const, false_implies, implies_true, if_true, if_false, ite_true, ite_false, and_self, false_and, and_false]
      refine ⟨fun q => absurd q y0, fun _ => ⟨y0, ih (by omega) (by omega) ?_⟩⟩
      rw [← Nat.gcd_rec]
      exact hgc
  · intro i x hx hy hgc
    rw [Nat.gcd_zero_left] at hgc
    subst hgc
    exact B_M_common_4 ⟨fun _ => hK, fun q => absurd rfl q⟩
theorem c_mpart {p1 p2 p3 : Int32} {z b : Nat} (hd : 2 ≤ d) (hz : (if 0 ≤ p1 then p1 else 0 - p1) = nI z) (hb : p2 = nI b) (hz' : z < 2 ^ 30) (hb1 : 0 < b) (hb' : b < 2 ^ 30) (hK : K (frc p1 p2 p3 z b) u) : CI X d 262 [.int p1, .int p2, .int p3] u K := by
  obtain ⟨d, rfl, hd1⟩ := dpos hd
  have hgp : 0 < Nat.gcd z b := Nat.gcd_pos_of_pos_right z hb1
  have hgl : Nat.gcd z b ≤ b := Nat.gcd_le_right z hb1
  unfold frc at hK
  refine CI_of mk_X13_part.2.2 rfl (B_M_part_0 ⟨fun q => c_msize (by omega) ?_, fun q => c_msize (by omega) ?_⟩)
  · rw [if_neg q] at hK
    rw [hz]
    subst hb
    exact c_mcommon (by omega) hz' hb' ⟨nI_ne0 hgp (by omega), hK⟩
  · rw [if_pos q] at hK
    rw [hz]
    subst hb
    exact c_mcommon (by omega) hz' hb' ⟨nI_ne0 hgp (by omega), hK⟩
end Reck
