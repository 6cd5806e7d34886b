/-! placed; grass -/
theorem tb_bset {p : Nat → Bool} : ∀ {n : Nat}, n ≤ 32 → ∀ i, i < 32 → tb (bset p n) i = (decide (i < n) && p i)
  | 0, _, i, hi => by rw [bset, tb_0]; simp
  | n + 1, hn, i, hi => by
    rw [bset]
    have ih := tb_bset (p := p) (n := n) (by omega) i hi
    by_cases e : p n = true
    · rw [if_pos e, tb_set (by omega) hi, ih]
      by_cases ei : i = n
      · subst ei; simp [e]
      · have : decide (i < n + 1) = decide (i < n) := by
          by_cases q : i < n
          · rw [decide_eq_true q, decide_eq_true (by omega)]
          · rw [decide_eq_false q, decide_eq_false (by omega)]
        rw [this, decide_eq_false ei, Bool.or_false]
    · rw [if_neg e, ih]
      by_cases ei : i = n
      · subst ei; rw [Bool.eq_false_iff.mpr e]; simp
      · have : decide (i < n + 1) = decide (i < n) := by
          by_cases q : i < n
          · rw [decide_eq_true q, decide_eq_true (by omega)]
          · rw [decide_eq_false q, decide_eq_false (by omega)]
        rw [this]
/-- how many below n -/
def cnP (p : Nat → Bool) : Nat → Nat
  | 0 => 0
  | n + 1 => if p n then cnP p n + 1 else cnP p n
theorem cnP_le {p : Nat → Bool} : ∀ {n : Nat}, cnP p n ≤ n
  | 0 => Nat.le_refl _
  | n + 1 => by
    have := cnP_le (p := p) (n := n)
    rw [cnP]
    split <;> omega
theorem cnP_congr {p q : Nat → Bool} : ∀ {n : Nat}, (∀ k, k < n → p k = q k) → cnP p n = cnP q n
  | 0, _ => rfl
  | n + 1, h => by rw [cnP, cnP, cnP_congr (fun k hk => h k (by omega)), h n (by omega)]
theorem cnP_filter {p : Nat → Bool} : ∀ n, ((List.range n).filter p).length = cnP p n
  | 0 => rfl
  | n + 1 => by
    rw [List.range_succ, List.filter_append, List.length_append, cnP_filter n, cnP]
    by_cases e : p n = true
    · rw [if_pos e, List.filter_cons_of_pos e]; rfl
    · rw [if_neg e, List.filter_cons_of_neg e]; rfl
theorem cnP_ext {p : Nat → Bool} {n : Nat} : ∀ m, n ≤ m → (∀ k, n ≤ k → p k = false) → cnP p m = cnP p n
  | 0, h, _ => by rw [show n = 0 by omega]
  | m + 1, h, hp => by
    by_cases e : n = m + 1
    · rw [e]
    · rw [cnP, hp m (by omega), if_neg (by decide)]
      exact cnP_ext m (by omega) hp
theorem bits8 {x : Int32} (h : ∀ i, i < 32 → tb x i = true → i < 8) : ∃ j, j < 256 ∧ x = nI j ∧ popN j = cnP (tb x) 8 := by
  have e := and255 h
  rw [pk_and x 8 (by decide)] at e
  refine ⟨x.toBitVec.toNat % 2 ^ 8, Nat.mod_lt _ (by decide), e.symm, ?_⟩
  have hl : x.toBitVec.toNat % 2 ^ 8 < 256 := Nat.mod_lt _ (by decide)
  unfold popN
  rw [cnP_filter]
  refine cnP_congr fun k hk => ?_
  rw [← tb_bit _ hl k hk, e]
section Grass
variable {X : Xc} {d : Nat} {u : Mm} {g : Nat → Int32} {nm : Nat → Int64}
theorem p_placed {p1 : Int32} (hd : 5 ≤ d) (h : Rl u) : PairI X d 145 269 [.int p1] u := by
  intro K hK
  obtain ⟨hg, hc, hok, hr⟩ := h.Wd
  have hA := hg.1.2.2.2.2.2.1
  have m3 := hg.1.2.2.2.2.1
  obtain ⟨cq, ck, ca, cw⟩ := cityN hg hc
  obtain ⟨d, rfl, hd1⟩ := dpos hd
  have e3 : u.1 20 3 = u.1 236 201 := hr.1.2.2.2
  have model : ∀ (a : Nat) (V : Mm) (w : Int32), a < nA (u.1 236) → (∀ b, b < 161 ∨ 164 < b → V.1 b = u.1 b) → V.2 = u.2 → w = (if tb (u.1 236 201) a then -1 else qvF (u.1 236) (tkF (u.1 236) a) a) → CI X (d + 1) 269 [.ref 234, .int (nI a)] V (fun w2 u2 => K w w2 u2) := by
    intro a V w ha v1 v2 hw
    have e236 : (mI V 234 0 0).1 236 = u.1 236 := by rw [mI_r (by omega), v1 236 (by omega)]
    refine CI_of mk_X13_placed.2.2 rfl (B_M_placed_0 (c_misStatue (n := nA (u.1 236)) (by omega) (by rw [e236]; exact m3) (by omega) (fun a' ha' e => ⟨fun _ => ?_, fun z => absurd z (by decide)⟩) (fun z => (no2 ha (by omega) z).elim)))
    refine c_mlayP (by omega) e236 hg hok fun V2 x1 x2 x3 x4 => ?_
    simp (disch := omega) only [la1, la2, lt1, lt2, nI_add, pk_mul, nI_clamp, vpn, nI_leI, nI_ltI, nI_eq, ll1, ll2, ll3, ll4, le1, le2, true_and, and_true, not_true_eq_false, not_false_eq_true, forall_const, false_implies, implies_true, if_true, if_false, ite_true, ite_false, and_self, false_and, and_false]
    rw [x4 a ha, ← hw]
    refine ⟨by omega, hK _ _ (h.congr (fun b j hb => ?_) (x2.trans v2))⟩
    by_cases q1 : 248 ≤ b ∧ b ≤ 250
    · rcases (show b = 248 ∨ b = 249 ∨ b = 250 by omega) with rfl | rfl | rfl <;> exact absurd (show (false : Bool) = true from hb) (by decide)
    · rw [x1 b (by omega), mI_at]
      by_cases q2 : b = 234 ∧ j = 0
      · obtain ⟨rfl, rfl⟩ := q2; exact absurd (show (false : Bool) = true from hb) (by decide)
      · rw [if_neg q2]
        by_cases q3 : 161 ≤ b ∧ b ≤ 164
        · rcases (show b = 161 ∨ b = 162 ∨ b = 163 ∨ b = 164 by omega) with rfl | rfl | rfl | rfl <;> exact absurd (show (false : Bool) = true from hb) (by decide)
        · rw [v1 b (by omega)]
  refine CI_of mk_X12_placed.2.2 rfl (B_S_placed_0 (c_has5 (s := 2) (n := nA (u.1 236)) (by omega) rfl (by omega) ca (by omega) (fun a ha e => ?_) (fun q => ?_)))
  · subst e
    refine ⟨fun z => absurd z (by decide), fun _ => ?_⟩
    rw [e3]
    refine c_bit (by omega) (by omega) (fun y => ?_) (fun y => ?_)
    · refine ⟨fun z => absurd z (by decide), fun _ => model a u _ ha (fun _ _ => rfl) rfl ?_⟩
      rw [if_pos y]
    · refine ⟨fun _ => c_placeAll hd1 h.Wd fun V v1 v2 v3 => ?_, fun z => absurd rfl z⟩
      simp (disch := omega) only [la1, la2, lt1, lt2, nI_add, pk_mul, nI_clamp, vpn, nI_leI, nI_ltI, nI_eq, ll1, ll2, ll3, ll4, le1, le2, true_and, and_true, not_true_eq_false, not_false_eq_true, forall_const, false_implies, implies_true, if_true, if_false, ite_true, ite_false, and_self, false_and, and_false]
      refine ⟨by omega, model a V _ ha v1 v2 ?_⟩
      rw [y, if_neg (by decide)]
      exact v3 a ha y
  · refine ⟨fun _ => ?_, fun z => absurd rfl z⟩
    refine CI_of mk_X13_placed.2.2 rfl (B_M_placed_0 (c_misStatue (n := nA (u.1 236)) (by omega) m3 (by omega) (fun a' ha' e => ?_) (fun z => ⟨fun y => absurd rfl y, fun _ => hK _ _ h.th⟩)))
    subst e
    exact (no2 ha' (by omega) q).elim
/-- the walkers of set j that come by square q -/
def grN (g : Nat → Int32) (j q : Nat) : Nat := cnP (fun w => tb (nI j) w && cm g w (nI q)) (nW' g)
def trd (g b : Nat → Int32) (j : Nat) : Bool := (List.range (nQ g)).all (fun q => decide (nI (grN g j q) = b q))
theorem trd_iff {b : Nat → Int32} {j : Nat} : trd g b j = true ↔ ∀ q, q < nQ g → nI (grN g j q) = b q := by
  unfold trd
  rw [List.all_eq_true]
  exact ⟨fun h q hq => by simpa using h q (List.mem_range.mpr hq), fun h q hq => by simpa using h q (List.mem_range.mp hq)⟩
theorem trd_f {b : Nat → Int32} {j q : Nat} (hq : q < nQ g) (h : nI (grN g j q) ≠ b q) : trd g b j = false := Bool.eq_false_iff.mpr fun z => h (trd_iff.mp z q hq)
theorem c_treads {K : Int32 → Mm → Prop} {j : Nat} (hd : 3 ≤ d) (hg : HeadOk g) (hc : CityR u 5 g nm) (hj : j < 256) (h1 : trd g (u.1 2) j = true → K 1 u) (h0 : trd g (u.1 2) j = false → K 0 u) : CI X d 32 [.ref 171, .int (nI j)] u K := by
  obtain ⟨d, rfl, hd1⟩ := dpos hd
  have hQ := hg.1.2.1
  have hW := hg.1.2.2.2.2.2.2.2
  obtain ⟨cq, ck, ca, cw⟩ := cityN hg hc
  refine CI_of mk_X2_treads.2.2 rfl (B_GS_treads_0 ?_)
  suffices hz : (∀ q, q < 0 → nI (grN g j q) = u.1 2 q) → VI X d 32 K 2 [some (.ref 171), some (.int (nI j)), some (.int (nI 0))] [] u from hz (fun q h => absurd h (by omega))
  refine lup (n := nQ g) (W := fun q => (∀ q', q' < q → nI (grN g j q') = u.1 2 q') → VI X d 32 K 2 [some (.ref 171), some (.int (nI j)), some (.int (nI q))] [] u) ?_
  intro q hq ih hp
  refine B_GS_treads_2 ?_
  rw [cq]
  simp (disch := omega) only [la1, la2, lt1, lt2, nI_add, pk_mul, nI_clamp, vpn, nI_leI, nI_ltI, nI_eq, ll1, ll2, ll3, ll4, le1, le2, true_and, and_true, not_true_eq_false, not_false_eq_true, forall_const, false_implies, implies_true, if_true, if_false, ite_true, ite_false, and_self, false_and, and_false]
  refine ⟨fun z => h1 (trd_iff.mpr fun q' hq' => hp q' (by omega)), fun z => ?_⟩
  refine c_walkersThrough (by omega) (by omega) cw hW ?_
  have hb : ∀ i, i < 32 → tb (nI j &&& bset (fun w => tb (u.1 18 w) q) (nW' g)) i = (tb (nI j) i && (decide (i < nW' g) && tb (u.1 18 i) q)) := fun i hi => by rw [tb_and, tb_bset (by omega) i hi]
  obtain ⟨m, hm, em, ep⟩ := bits8 (x := nI j &&& bset (fun w => tb (u.1 18 w) q) (nW' g)) (fun i hi hx => by
    rw [hb i hi, Bool.and_eq_true, Bool.and_eq_true, decide_eq_true_eq] at hx
    omega)
  have eg : popN m = grN g j q := by
    rw [ep]
    unfold grN
    rw [cnP_congr (q := fun i => decide (i < nW' g) && (tb (nI j) i && cm g i (nI q))) (fun k hk => ?_)]
    · rw [cnP_ext (n := nW' g) 8 hW (fun k hk => by rw [decide_eq_false (by omega)]; rfl)]
      exact cnP_congr fun k hk => by rw [decide_eq_true hk]; rfl
    · rw [hb k (by omega)]
      by_cases e : k < nW' g
      · rw [decide_eq_true e, Bool.true_and, Bool.true_and, show tb (u.1 18 k) q = cm g k (nI q) from (hc.2.2.2.2 k e).2.2.2.2.2.2.2.1 q (by omega)]
      · rw [decide_eq_false e]; simp
  rw [em]
  refine c_bitc (by omega) hm ?_
  rw [eg]
  refine ⟨by omega, fun y => ih (by omega) fun q' hq' => ?_, fun y => h0 (trd_f (by omega) y)⟩
  by_cases e : q' = q
  · subst e; exact y
  · exact hp q' (by omega)
theorem c_mtrod {K : Int32 → Mm → Prop} {j : Nat} (hd : 2 ≤ d) (hg : HeadOk (u.1 236)) (hj : j < 256) (h1 : trd (u.1 236) (u.1 235) j = true → K 1 u) (h0 : trd (u.1 236) (u.1 235) j = false → K 0 u) : CI X d 288 [.ref 234, .int (nI j)] u K := by
  obtain ⟨d, rfl, hd1⟩ := dpos hd
  obtain ⟨⟨m0, hQ, -, -, -, -, m4, hW⟩, -, hw⟩ := hg
  refine CI_of mk_X13_isTroddenBy.2.2 rfl (B_M_isTroddenBy_0 ?_)
  suffices hz : (∀ q, q < 0 → nI (grN (u.1 236) j q) = u.1 235 q) → VI X d 288 K 2 [some (.ref 234), some (.int (nI j)), some (.int (nI 0)), none, none] [] u from hz (fun q h => absurd h (by omega))
  refine lup (n := nQ (u.1 236)) (W := fun q => (∀ q', q' < q → nI (grN (u.1 236) j q') = u.1 235 q') → VI X d 288 K 2 [some (.ref 234), some (.int (nI j)), some (.int (nI q)), none, none] [] u) ?_
  intro q hq ih hp
  refine B_M_isTroddenBy_2 ?_
  rw [m0]
  simp (disch := omega) only [la1, la2, lt1, lt2, nI_add, pk_mul, nI_clamp, vpn, nI_leI, nI_ltI, nI_eq, ll1, ll2, ll3, ll4, le1, le2, true_and, and_true, not_true_eq_false, not_false_eq_true, forall_const, false_implies, implies_true, if_true, if_false, ite_true, ite_false, and_self, false_and, and_false]
  refine ⟨fun z => h1 (trd_iff.mpr fun q' hq' => hp q' (by omega)), fun z => ?_⟩
  refine lup (n := nW' (u.1 236)) (W := fun w => VI X d 288 K 17 [some (.ref 234), some (.int (nI j)), some (.int (nI q)), some (.int (nI (cnP (fun w => tb (nI j) w && cm (u.1 236) w (nI q)) w))), some (.int (nI w))] [] u) ?_
  intro w hwl ih2
  have hle := cnP_le (p := fun w => tb (nI j) w && cm (u.1 236) w (nI q)) (n := w)
  refine B_M_isTroddenBy_17 ?_
  rw [m4]
  simp (disch := omega) only [la1, la2, lt1, lt2, nI_add, pk_mul, nI_clamp, vpn, nI_leI, nI_ltI, nI_eq, ll1, ll2, ll3, ll4, le1, le2, true_and, and_true, not_true_eq_false, not_false_eq_true, forall_const, false_implies, implies_true, if_true, if_false, ite_true, ite_false, and_self, false_and, and_false]
  refine ⟨fun y => ⟨by omega, fun y2 => ih (by omega) fun q' hq' => ?_, fun y2 => h0 (trd_f (q := q) (by omega) ?_)⟩, fun y => ?_⟩
  · by_cases e : q' = q
    · subst e
      rw [← y2]
      unfold grN
      rw [show w = nW' (u.1 236) by omega]
    · exact hp q' (by omega)
  · intro e
    apply y2
    rw [← e]
    unfold grN
    rw [show w = nW' (u.1 236) by omega]
  · have ih2 := ih2 (by omega)
    rw [cnP] at ih2
    obtain ⟨-, -, -, -, -, el, el', -⟩ := hw w (by omega)
    refine c_mhas (by omega) (by omega) (fun y2 => ?_) (fun y2 => ?_)
    · refine ⟨fun x => absurd x (by decide), fun _ => c_mcomes (by omega) (by omega) el el' (fun y3 => ?_) (fun y3 => ?_)⟩
      · rw [if_pos (by rw [y2, y3]; rfl)] at ih2
        exact ⟨fun x => absurd x (by decide), fun _ => ih2⟩
      · rw [if_neg (by rw [y2, y3]; decide)] at ih2
        exact ⟨fun _ => ih2, fun x => absurd rfl x⟩
    · rw [if_neg (by rw [y2]; simp)] at ih2
      exact ⟨fun _ => ih2, fun x => absurd rfl x⟩
/-- all that fit: how many, what they have in common -/
def coI (p : Nat → Bool) (x : Int32) : Nat → Int32
  | 0 => x
  | j + 1 => if p j then coI p x j &&& nI j else coI p x j
/-- the tape is empty on both sides -/
theorem TapeR.empty {v : Mm} (h : TapeR u) (e1 : v.1 1 1 = nI 0) (e2 : v.1 234 2 = nI 0) (e3 : v.1 2 = u.1 2) (e4 : v.1 235 = u.1 235) (e5 : v.1 1 2 = u.1 1 2) (e6 : v.1 234 10 = u.1 234 10) : TapeR v := ⟨⟨0, by omega, e1, e2⟩, fun i hi => by rw [e3, e4]; exact h.2.1 i hi, by rw [e5, e6]; exact h.2.2⟩
theorem coI_congr {p q : Nat → Bool} {x : Int32} : ∀ {n : Nat}, (∀ k, k < n → p k = q k) → coI p x n = coI q x n
  | 0, _ => rfl
  | n + 1, h => by rw [coI, coI, coI_congr (fun k hk => h k (by omega)), h n (by omega)]
theorem trd_congr {b c : Nat → Int32} {j : Nat} (h : ∀ q, q < nQ g → b q = c q) : trd g b j = trd g c j := by
  rw [Bool.eq_iff_iff, trd_iff, trd_iff]
  exact ⟨fun z q hq => (z q hq).trans (h q hq), fun z q hq => (z q hq).trans (h q hq).symm⟩
theorem p_grass (hd : 5 ≤ d) (h : Rl u) : PairI X d 159 289 [] u := by
  intro K hK
  obtain ⟨hg, hc, hok, hr⟩ := h.Wd
  have hQ := hg.1.2.1
  have hW := hg.1.2.2.2.2.2.2.2
  have m0 := hg.1.1
  have m4 := hg.1.2.2.2.2.2.2.1
  obtain ⟨cq, ck, ca, cw⟩ := cityN hg hc
  obtain ⟨sp, -⟩ := set_pow (nW' (u.1 236)) hW
  have hpw := pow_le hW
  have hpos := Nat.two_pow_pos (nW' (u.1 236))
  obtain ⟨L, hL, t1, t2⟩ := h.1.1
  obtain ⟨d, rfl, hd1⟩ := dpos hd
  have sp1 : nI (2 ^ nW' (u.1 236)) - 1 = nI (2 ^ nW' (u.1 236) - 1) := pk_sub (b := 1) (by omega)
  have hbt : ∀ j, trd (u.1 236) (u.1 2) j = trd (u.1 236) (u.1 235) j := fun j => trd_congr fun q hq => (h.1.2.1 q (by omega)).1
  have bad : ∀ j : Nat, Rl (mI (mI (mI u 1 1 0) 234 0 0) 234 2 0) := by
    intro _
    refine h.tape (h.1.empty ?_ ?_ ?_ ?_ ?_ ?_) (((AG.rf.mI rfl).mI rfl).mI rfl) (((AG.rf.mI rfl).mI rfl).mI rfl) (((AG.rf.mI rfl).mI rfl).mI rfl) (((AG.rf.mI rfl).mI rfl).mI rfl) rfl
    · simp (disch := omega) only [mI_n, mI_s, mI_r]; rfl
    · exact mI_s
    · simp (disch := omega) only [mI_r]
    · simp (disch := omega) only [mI_r]
    · simp (disch := omega) only [mI_n, mI_r]
    · simp (disch := omega) only [mI_n, mI_r]
  have mbad : (L = 0 ∨ L ≠ nQ (u.1 236)) → CI X (d + 1) 289 [.ref 234] (mI u 1 1 0) (fun w2 u2 => K (-1) w2 u2) := by
    intro hb
    refine CI_of mk_X13_grass.2.2 rfl (B_M_grass_0 ?_)
    obtain ⟨d, rfl, hd2⟩ := dpos hd1
    refine CI_of mk_X13_take.2.2 rfl (B_M_take_0 ?_)
    rw [show (mI (mI u 1 1 0) 234 0 0).1 234 2 = nI L by simp (disch := omega) only [mI_n]; exact t2]
    rw [show (mI (mI (mI u 1 1 0) 234 0 0) 234 2 0).1 236 = u.1 236 by simp (disch := omega) only [mI_r], m0]
    simp (disch := omega) only [la1, la2, lt1, lt2, nI_add, pk_mul, nI_clamp, vpn, nI_leI, nI_ltI, nI_eq, ll1, ll2, ll3, ll4, le1, le2, true_and, and_true, not_true_eq_false, not_false_eq_true, forall_const, false_implies, implies_true, if_true, if_false, ite_true, ite_false, and_self, false_and, and_false]
    refine ⟨fun _ => hK _ _ (bad 0), fun z => ⟨fun z2 => ?_, fun _ => hK _ _ (bad 0)⟩⟩
    omega
  refine CI_of mk_X12_grass.2.2 rfl (B_S_grass_0 ?_)
  obtain ⟨d, rfl, hd2⟩ := dpos hd1
  refine CI_of mk_X2_guessGrass.2.2 rfl (B_GS_guessGrass_0 ?_)
  rw [t1, cq, cw, sp, sp1]
  simp (disch := omega) only [la1, la2, lt1, lt2, nI_add, pk_mul, nI_clamp, vpn, nI_leI, nI_ltI, nI_eq, ll1, ll2, ll3, ll4, le1, le2, true_and, and_true, not_true_eq_false, not_false_eq_true, forall_const, false_implies, implies_true, if_true, if_false, ite_true, ite_false, and_self, false_and, and_false]
  refine ⟨fun z => mbad (by omega), fun z => ⟨fun z2 => ?_, fun z2 => mbad (Or.inr z2)⟩⟩
  /- the model's end -/
  have model : ∀ (U : Mm) (c : Nat) (x : Int32), c = cnP (trd (u.1 236) (u.1 235)) (2 ^ nW' (u.1 236)) → x = coI (trd (u.1 236) (u.1 235)) (nI (2 ^ nW' (u.1 236) - 1)) (2 ^ nW' (u.1 236)) → U = (if c = 0 then mI u 1 1 0 else mI (mI u 171 5 x) 1 1 0) → CI X (d + 1 + 1) 289 [.ref 234] U (fun w2 u2 => K (nI c) w2 u2) := by
    intro U c x hcc hx hU
    have hcl := cnP_le (p := trd (u.1 236) (u.1 235)) (n := 2 ^ nW' (u.1 236))
    have uo : ∀ b, b ≠ 1 → b ≠ 171 → U.1 b = u.1 b := by
      intro b b1 b2
      rw [hU]
      split
      · exact mI_r b1
      · rw [mI_r b1, mI_r b2]
    have e236 : (mI (mI U 234 0 0) 234 2 0).1 236 = u.1 236 := by simp (disch := omega) only [mI_r]; exact uo 236 (by omega) (by omega)
    have e235 : (mI (mI U 234 0 0) 234 2 0).1 235 = u.1 235 := by simp (disch := omega) only [mI_r]; exact uo 235 (by omega) (by omega)
    refine CI_of mk_X13_grass.2.2 rfl (B_M_grass_0 ?_)
    refine CI_of mk_X13_take.2.2 rfl (B_M_take_0 ?_)
    rw [show (mI U 234 0 0).1 234 2 = nI L by rw [mI_n (by omega), uo 234 (by omega) (by omega)]; exact t2]
    have hRl : Rl (if c = 0 then mI (mI U 234 0 0) 234 2 0 else mI (mI (mI U 234 0 0) 234 2 0) 234 48 x) := by
      subst hU
      split
      · rename_i hc0
        exact bad 0
      · have hk : KeptR (mI (mI (mI (mI (mI u 171 5 x) 1 1 0) 234 0 0) 234 2 0) 234 48 x) := by
          obtain ⟨k1, k2, k3, k4, k5, k6, k7, k8, k9⟩ := h.2.2.1
          unfold KeptR
          simp (disch := omega) only [mI_n, mI_r, mI_s]
          exact ⟨k1, k2, k3, k4, trivial, k6, k7, k8, k9⟩
        have ht : TapeR (mI (mI (mI (mI (mI u 171 5 x) 1 1 0) 234 0 0) 234 2 0) 234 48 x) := by
          refine h.1.empty ?_ ?_ ?_ ?_ ?_ ?_
          · simp (disch := omega) only [mI_n, mI_s, mI_r]; rfl
          · simp (disch := omega) only [mI_n, mI_s, mI_r]; rfl
          · simp (disch := omega) only [mI_r]
          · simp (disch := omega) only [mI_r]
          · simp (disch := omega) only [mI_n, mI_r]
          · simp (disch := omega) only [mI_n, mI_r]
        exact ⟨ht, h.2.1.congr rfl, hk, World5.congr h.2.2.2.1 (((((AG.rf.mI rfl).mI rfl).mI rfl).mI rfl).mI rfl) rfl rfl, h.2.2.2.2.1.congr (((((AG.rf.mI rfl).mI rfl).mI rfl).mI rfl).mI rfl), h.2.2.2.2.2.congr (((((AG.rf.mI rfl).mI rfl).mI rfl).mI rfl).mI rfl) rfl rfl rfl⟩
    generalize mI (mI U 234 0 0) 234 2 0 = V at e236 e235 hRl
    rw [e236, m0, m4, sp, sp1]
    simp (disch := omega) only [la1, la2, lt1, lt2, nI_add, pk_mul, nI_clamp, vpn, nI_leI, nI_ltI, nI_eq, ll1, ll2, ll3, ll4, le1, le2, true_and, and_true, not_true_eq_false, not_false_eq_true, forall_const, false_implies, implies_true, if_true, if_false, ite_true, ite_false, and_self, false_and, and_false]
    refine ⟨fun y => absurd y (by omega), fun _ => ⟨fun _ => ?_, fun y => absurd z2 y⟩⟩
    refine lup (n := 2 ^ nW' (u.1 236)) (W := fun j => VI X (d + 1) 289 (fun w2 u2 => K (nI c) w2 u2) 42 [some (.ref 234), some (.int (nI L)), some (.int (nI (cnP (trd (u.1 236) (u.1 235)) j))), some (.int (coI (trd (u.1 236) (u.1 235)) (nI (2 ^ nW' (u.1 236) - 1)) j)), some (.int (nI j))] [] V) ?_
    intro j hj ih
    have hjl := cnP_le (p := trd (u.1 236) (u.1 235)) (n := j)
    refine B_M_grass_42 ?_
    rw [e236, m4, sp]
    simp (disch := omega) only [la1, la2, lt1, lt2, nI_add, pk_mul, nI_clamp, vpn, nI_leI, nI_ltI, nI_eq, ll1, ll2, ll3, ll4, le1, le2, true_and, and_true, not_true_eq_false, not_false_eq_true, forall_const, false_implies, implies_true, if_true, if_false, ite_true, ite_false, and_self, false_and, and_false]
    refine ⟨fun y => ?_, fun y => ?_⟩
    · have ej : j = 2 ^ nW' (u.1 236) := by omega
      subst ej
      rw [← hcc, ← hx]
      refine ⟨fun y2 => ?_, fun y2 => ?_⟩
      · rw [if_pos (by omega)] at hRl
        exact hK _ _ hRl
      · rw [if_neg (by omega)] at hRl
        exact hK _ _ hRl
    · have ih := ih (by omega)
      rw [cnP, coI] at ih
      refine c_mtrod (by omega) (by rw [e236]; exact hg) (by omega) (fun y2 => ?_) (fun y2 => ?_)
      · rw [e236, e235] at y2
        rw [if_pos y2, if_pos y2] at ih
        exact ⟨fun _ => ih, fun w => absurd w (by decide)⟩
      · rw [e236, e235] at y2
        rw [y2, if_neg (by decide), if_neg (by decide)] at ih
        exact ⟨fun w => absurd rfl w, fun _ => ih⟩
  refine lup (n := 2 ^ nW' (u.1 236)) (W := fun j => VI X d 31 _ 53 [some (.ref 171), some (.int (nI (2 ^ nW' (u.1 236) - 1))), some (.int (nI (cnP (trd (u.1 236) (u.1 235)) j))), some (.int (coI (trd (u.1 236) (u.1 235)) (nI (2 ^ nW' (u.1 236) - 1)) j)), some (.int (nI j))] [] u) ?_
  intro j hj ih
  have hjl := cnP_le (p := trd (u.1 236) (u.1 235)) (n := j)
  refine B_GS_guessGrass_53 ?_
  simp (disch := omega) only [la1, la2, lt1, lt2, nI_add, pk_mul, nI_clamp, vpn, nI_leI, nI_ltI, nI_eq, ll1, ll2, ll3, ll4, le1, le2, true_and, and_true, not_true_eq_false, not_false_eq_true, forall_const, false_implies, implies_true, if_true, if_false, ite_true, ite_false, and_self, false_and, and_false]
  refine ⟨fun y => ?_, fun y => ?_⟩
  · have ej : j = 2 ^ nW' (u.1 236) := by omega
    subst ej
    refine ⟨fun y2 => ?_, fun y2 => ?_⟩
    · refine model _ _ _ rfl rfl ?_
      rw [if_pos (by omega)]
    · refine model _ _ _ rfl rfl ?_
      rw [if_neg (by omega)]
  · have ih := ih (by omega)
    rw [cnP, coI] at ih
    refine c_treads (by omega) hg hc (by omega) (fun y2 => ?_) (fun y2 => ?_)
    · rw [hbt] at y2
      rw [if_pos y2, if_pos y2] at ih
      exact ⟨fun w => absurd w (by decide), fun _ => ih⟩
    · rw [hbt] at y2
      rw [y2, if_neg (by decide), if_neg (by decide)] at ih
      exact ⟨fun _ => ih, fun w => absurd rfl w⟩
end Grass
