/-! pairs of the methods that throw -/
def PairT (X : Xc) (d kx km : Nat) (as : List Value) (u : Mm) : Prop := ∀ (KN : Int32 → Mm → Prop) (KX : Mm → Prop), (∀ w v, CI X d km (.ref 234 :: as) (mJ v 261 0 (Int32.toInt64 w)) (fun w2 u2 => w2 = w ∧ u2.1 234 0 = 0 ∧ u2.2 261 0 = Int32.toInt64 w ∧ Rl u2) → KN w v) → (∀ v, CI X d km (.ref 234 :: as) v (fun _ u2 => u2.1 234 0 = 1 ∧ Rl u2) → KX v) → TI X d kx (.ref 0 :: as) u KN KX
theorem Rl.out {u : Mm} {x : Int64} (h : Rl u) : Rl (mJ u 261 0 x) := by
  have e : ∀ b, b ≠ 261 → (mJ u 261 0 x).2 b = u.2 b := fun b hb => by
    funext k
    show (if b = 261 ∧ k = 0 then x else u.2 b k) = u.2 b k
    rw [if_neg (fun z => hb z.1)]
  refine ⟨h.1, fun k hk => ?_, h.2.2.1, ?_, h.2.2.2.2.1, ?_⟩
  · rw [e 3 (by omega)]
    exact h.2.1 k hk
  · have := World5.congr (v := mJ u 261 0 x) h.2.2.2.1 (AG.rf (rel := relW).mJ) (e 6 (by omega)) (e 241 (by omega))
    exact this
  · exact ImagesR.congr h.2.2.2.2.2 (AG.rf (rel := relI).mJ) (e 176 (by omega)) (e 206 (by omega)) (e 243 (by omega))
section
variable {X : Xc} {d : Nat} {u : Mm} {K : Int32 → Mm → Prop}
theorem c_mrefuse (hd : 1 ≤ d) (h : K 0 (mI u 234 0 1)) : CI X d 182 [.ref 234] u K := by
  obtain ⟨d, rfl, -⟩ := dpos hd
  exact CI_of mk_X13_refuse.2.2 rfl (B_M_refuse_0 h)
theorem fin_ok {x : Int64} (h : Rl u) : (mI (mJ u 261 0 x) 234 0 0).1 234 0 = 0 ∧ (mI (mJ u 261 0 x) 234 0 0).2 261 0 = x ∧ Rl (mI (mJ u 261 0 x) 234 0 0) := ⟨rfl, rfl, h.out.th⟩
theorem fin_no {x : Int32} (h : Rl u) : (mI (mI u 234 0 x) 234 0 1).1 234 0 = 1 ∧ Rl (mI (mI u 234 0 x) 234 0 1) := ⟨rfl, h.th.th⟩
theorem sw_or (p : Int32) (n : Nat) (hn : n < 2147483648) : (p.toInt < 0 ∨ (n : Int) < p.toInt) ∨ ∃ j, j ≤ n ∧ p = nI j := by
  by_cases h : p.toInt < 0 ∨ (n : Int) < p.toInt
  · exact Or.inl h
  · refine Or.inr ⟨p.toInt.toNat, by omega, ?_⟩
    have := Int32.le_toInt p
    have := Int32.toInt_lt p
    apply Int32.toInt_inj.mp
    unfold nI
    rw [Int32.toInt_ofNat_of_lt (by omega)]
    omega
end
section
variable {X : Xc} {d : Nat} {u : Mm} {K : Int32 → Mm → Prop}
theorem p_statue {p1 p2 : Int32} (hX : (xL X).stackTraces = false) (hd : 6 ≤ d) (h : Rl u) : PairT X d 129 234 [.int p1, .int p2] u := by
  intro KN KX hN hT
  obtain ⟨d, rfl, hd1⟩ := dpos hd
  obtain ⟨hg, hc, hok, hr⟩ := h.Wd
  have hA := hg.1.2.2.2.2.2.1
  have m3 := hg.1.2.2.2.2.1
  obtain ⟨cq, ck, ca, cw⟩ := cityN hg hc
  have bad1 : p1 < 0 ∨ nI (nA (u.1 236)) ≤ p1 → KX u := fun z => hT _ (CI_of mk_X13_statue.2.2 rfl (B_M_statue_0 (c_misStatue (n := nA (u.1 236)) (by omega) m3 (by omega) (fun a ha e => by subst e; exact (no2 ha (by omega) z).elim) (fun _ => ⟨fun y => absurd rfl y, fun _ => c_mrefuse (by omega) (fin_no h)⟩))))
  have bad2 : (p2.toInt < 0 ∨ 7 < p2.toInt) → KX u := by
    intro z
    refine hT _ (CI_of mk_X13_statue.2.2 rfl (B_M_statue_0 (c_misStatue (n := nA (u.1 236)) (by omega) m3 (by omega) (fun a ha e => ⟨fun _ => ⟨⟨?_, ?_, ?_, ?_, ?_, ?_, ?_, ?_⟩, fun _ => c_mrefuse (by omega) (fin_no h)⟩, fun y => absurd y (by decide)⟩) (fun _ => ⟨fun y => absurd rfl y, fun _ => c_mrefuse (by omega) (fin_no h)⟩))))
    all_goals (intro r; subst r; exact absurd z (by decide))
  have good : ∀ (a : Nat) (w : Int32), a < nA (u.1 236) → p1 = nI a → (p2 = 0 → w = u.1 236 (202 + a)) → (p2 = 1 → w = u.1 236 (210 + a)) → (p2 = 2 → w = u.1 236 (218 + a)) → (p2 = 3 → w = u.1 236 (226 + a)) → (p2 = 4 → w = u.1 236 (46 + a)) → (p2 = 5 → w = if tb (u.1 236 200) a then 1 else 0) → (p2 = 6 → w = u.1 236 (234 + a)) → (p2 = 7 → w = if tb (u.1 236 201) a then 1 else 0) → ¬ (p2.toInt < 0 ∨ 7 < p2.toInt) → KN w u := by
    intro a w ha e w0 w1 w2 w3 w4 w5 w6 w7 nb
    subst e
    refine hN _ _ (CI_of mk_X13_statue.2.2 rfl (B_M_statue_0 (c_misStatue (n := nA (u.1 236)) (by omega) m3 (by omega) (fun b hb e => ⟨fun _ => ⟨⟨fun r => ?_, fun r => ?_, fun r => ?_, fun r => ?_, fun r => ?_, fun r => ?_, fun r => ?_, fun r => ?_⟩, fun z => absurd z nb⟩, fun y => absurd y (by decide)⟩) (fun z => (no2 ha (by omega) z).elim))))
    · simp (disch := omega) only [la1, la2, lt1, lt2, nI_add, pk_mul, nI_clamp, vpn, nI_leI, nI_ltI, nI_eq, ll1, ll2, ll3, ll4, le1, le2, true_and, and_true, not_true_eq_false, not_false_eq_true, forall_const, false_implies, implies_true, if_true, if_false, ite_true, ite_false, and_self, false_and, and_false]
      exact ⟨by omega, (w0 r).symm, fin_ok h⟩
    · simp (disch := omega) only [la1, la2, lt1, lt2, nI_add, pk_mul, nI_clamp, vpn, nI_leI, nI_ltI, nI_eq, ll1, ll2, ll3, ll4, le1, le2, true_and, and_true, not_true_eq_false, not_false_eq_true, forall_const, false_implies, implies_true, if_true, if_false, ite_true, ite_false, and_self, false_and, and_false]
      exact ⟨by omega, (w1 r).symm, fin_ok h⟩
    · simp (disch := omega) only [la1, la2, lt1, lt2, nI_add, pk_mul, nI_clamp, vpn, nI_leI, nI_ltI, nI_eq, ll1, ll2, ll3, ll4, le1, le2, true_and, and_true, not_true_eq_false, not_false_eq_true, forall_const, false_implies, implies_true, if_true, if_false, ite_true, ite_false, and_self, false_and, and_false]
      exact ⟨by omega, (w2 r).symm, fin_ok h⟩
    · simp (disch := omega) only [la1, la2, lt1, lt2, nI_add, pk_mul, nI_clamp, vpn, nI_leI, nI_ltI, nI_eq, ll1, ll2, ll3, ll4, le1, le2, true_and, and_true, not_true_eq_false, not_false_eq_true, forall_const, false_implies, implies_true, if_true, if_false, ite_true, ite_false, and_self, false_and, and_false]
      exact ⟨by omega, (w3 r).symm, fin_ok h⟩
    · simp (disch := omega) only [la1, la2, lt1, lt2, nI_add, pk_mul, nI_clamp, vpn, nI_leI, nI_ltI, nI_eq, ll1, ll2, ll3, ll4, le1, le2, true_and, and_true, not_true_eq_false, not_false_eq_true, forall_const, false_implies, implies_true, if_true, if_false, ite_true, ite_false, and_self, false_and, and_false]
      exact ⟨by omega, (w4 r).symm, fin_ok h⟩
    · refine c_mhas (by omega) (by omega) (fun y => ⟨fun z => absurd z (by decide), fun _ => ⟨?_, fin_ok h⟩⟩) (fun y => ⟨fun _ => ⟨?_, fin_ok h⟩, fun z => absurd rfl z⟩)
      · have y : tb (u.1 236 200) a = true := y
        rw [w5 r, if_pos y]
      · have y : tb (u.1 236 200) a = false := y
        rw [w5 r, y]; rfl
    · simp (disch := omega) only [la1, la2, lt1, lt2, nI_add, pk_mul, nI_clamp, vpn, nI_leI, nI_ltI, nI_eq, ll1, ll2, ll3, ll4, le1, le2, true_and, and_true, not_true_eq_false, not_false_eq_true, forall_const, false_implies, implies_true, if_true, if_false, ite_true, ite_false, and_self, false_and, and_false]
      exact ⟨by omega, (w6 r).symm, fin_ok h⟩
    · refine c_misEvicted (by omega) (by omega) (fun y => ⟨fun z => absurd z (by decide), fun _ => ⟨?_, fin_ok h⟩⟩) (fun y => ⟨fun _ => ⟨?_, fin_ok h⟩, fun z => absurd rfl z⟩)
      · have y : tb (u.1 236 201) a = true := y
        rw [w7 r, if_pos y]
      · have y : tb (u.1 236 201) a = false := y
        rw [w7 r, y]; rfl
  refine T_statue hX (by omega) (c_has5 (s := 2) (n := nA (u.1 236)) (by omega) rfl (by omega) ca (by omega) (fun a ha e => ⟨fun _ => ?_, fun z => absurd z (by decide)⟩) (fun z => ⟨fun y => absurd rfl y, fun _ => bad1 z⟩))
  obtain ⟨b1, b2, b3, b4, b5⟩ := hr.2.1 a ha
  have b6 := (hc.2.2.2.1 a ha).1
  have e4 : u.1 20 4 = u.1 236 200 := hr.1.2.2.1
  have e3 : u.1 20 3 = u.1 236 201 := hr.1.2.2.2
  subst e
  refine ⟨⟨fun r => ⟨vp_in_nI (by omega) (by decide), ?_⟩, fun r => ⟨vp_in_nI (by omega) (by decide), ?_⟩, fun r => ⟨vp_in_nI (by omega) (by decide), ?_⟩, fun r => ⟨vp_in_nI (by omega) (by decide), ?_⟩, fun r => ⟨vp_in_nI (by omega) (by decide), ?_⟩, fun r => ?_, fun r => ⟨vp_in_nI (by omega) (by decide), ?_⟩, fun r => ?_⟩, bad2⟩
  · subst r
    rw [nI_clamp (by omega), show u.1 21 a = u.1 236 (202 + a) from b1]
    exact good a _ ha rfl (fun _ => rfl) (fun z => absurd z (by decide)) (fun z => absurd z (by decide)) (fun z => absurd z (by decide)) (fun z => absurd z (by decide)) (fun z => absurd z (by decide)) (fun z => absurd z (by decide)) (fun z => absurd z (by decide)) (by decide)
  · subst r
    rw [nI_clamp (by omega), show u.1 22 a = u.1 236 (210 + a) from b2]
    exact good a _ ha rfl (fun z => absurd z (by decide)) (fun _ => rfl) (fun z => absurd z (by decide)) (fun z => absurd z (by decide)) (fun z => absurd z (by decide)) (fun z => absurd z (by decide)) (fun z => absurd z (by decide)) (fun z => absurd z (by decide)) (by decide)
  · subst r
    rw [nI_clamp (by omega), show u.1 24 a = u.1 236 (218 + a) from b3]
    exact good a _ ha rfl (fun z => absurd z (by decide)) (fun z => absurd z (by decide)) (fun _ => rfl) (fun z => absurd z (by decide)) (fun z => absurd z (by decide)) (fun z => absurd z (by decide)) (fun z => absurd z (by decide)) (fun z => absurd z (by decide)) (by decide)
  · subst r
    rw [nI_clamp (by omega), show u.1 25 a = u.1 236 (226 + a) from b4]
    exact good a _ ha rfl (fun z => absurd z (by decide)) (fun z => absurd z (by decide)) (fun z => absurd z (by decide)) (fun _ => rfl) (fun z => absurd z (by decide)) (fun z => absurd z (by decide)) (fun z => absurd z (by decide)) (fun z => absurd z (by decide)) (by decide)
  · subst r
    rw [nI_clamp (by omega), show u.1 10 a = u.1 236 (46 + a) from b6]
    exact good a _ ha rfl (fun z => absurd z (by decide)) (fun z => absurd z (by decide)) (fun z => absurd z (by decide)) (fun z => absurd z (by decide)) (fun _ => rfl) (fun z => absurd z (by decide)) (fun z => absurd z (by decide)) (fun z => absurd z (by decide)) (by decide)
  · subst r
    rw [tb_shr (by omega), e4]
    exact good a _ ha rfl (fun z => absurd z (by decide)) (fun z => absurd z (by decide)) (fun z => absurd z (by decide)) (fun z => absurd z (by decide)) (fun z => absurd z (by decide)) (fun _ => rfl) (fun z => absurd z (by decide)) (fun z => absurd z (by decide)) (by decide)
  · subst r
    rw [nI_clamp (by omega), show u.1 26 a = u.1 236 (234 + a) from b5]
    exact good a _ ha rfl (fun z => absurd z (by decide)) (fun z => absurd z (by decide)) (fun z => absurd z (by decide)) (fun z => absurd z (by decide)) (fun z => absurd z (by decide)) (fun z => absurd z (by decide)) (fun _ => rfl) (fun z => absurd z (by decide)) (by decide)
  · subst r
    rw [tb_shr (by omega), e3]
    exact good a _ ha rfl (fun z => absurd z (by decide)) (fun z => absurd z (by decide)) (fun z => absurd z (by decide)) (fun z => absurd z (by decide)) (fun z => absurd z (by decide)) (fun z => absurd z (by decide)) (fun z => absurd z (by decide)) (fun _ => rfl) (by decide)
theorem l_mtired {w n : Nat} {p2 : Int32} (hw : w < 8) (e : u.1 236 2 = nI n) (hn : n ≤ 5) (h : K (bset (fun k => decide (0 < u.1 236 (250 + 5 * w + k))) n) u) : ∀ k j, j + k = n → VI X d 235 K 126 [some (.ref 234), some (.int (nI w)), some (.int p2), some (.int (bset (fun k => decide (0 < u.1 236 (250 + 5 * w + k))) j)), some (.int (nI j))] [] u
  | 0, j, hj => by
    have e2 : j = n := by omega
    subst e2
    refine B_M_walker_126 ?_
    rw [e]
    exact ⟨fun _ => h, fun q => absurd (nI_le (Nat.le_refl j) (by omega)) q⟩
  | k + 1, j, hj => by
    refine B_M_walker_126 ?_
    rw [e]
    have ih := l_mtired (p2 := p2) hw e hn h k (j + 1) (by omega)
    rw [← nI_1, bset] at ih
    refine ⟨fun q => absurd q (nI_ge (by omega) (by omega)), fun _ => ?_⟩
    rw [show ((250 : Int32) + 5 * nI w) + nI j = nI (250 + 5 * w + j) by simp (disch := omega) only [la1, la2, lt1, lt2, nI_add, pk_mul], nI_clamp (by omega)]
    refine ⟨vp_in_nI (by omega) (by decide), fun q => ?_, fun q => ?_⟩
    · rwa [if_neg (by simpa using q)] at ih
    · rwa [if_pos (by simpa using q)] at ih
theorem p_walker {p1 p2 : Int32} (hX : (xL X).stackTraces = false) (hd : 6 ≤ d) (h : Rl u) : PairT X d 130 235 [.int p1, .int p2] u := by
  intro KN KX hN hT
  obtain ⟨d, rfl, hd1⟩ := dpos hd
  obtain ⟨hg, hc, hok, hr⟩ := h.Wd
  have hW := hg.1.2.2.2.2.2.2.2
  have m4 := hg.1.2.2.2.2.2.2.1
  have m2 := hg.1.2.2.1
  have hKK := hg.1.2.2.2.1
  obtain ⟨cq, ck, ca, cw⟩ := cityN hg hc
  have bad1 : p1 < 0 ∨ nI (nW' (u.1 236)) ≤ p1 → KX u := fun z => hT _ (CI_of mk_X13_walker.2.2 rfl (B_M_walker_0 (c_misWalker (n := nW' (u.1 236)) (by omega) m4 (by omega) (fun a ha e => by subst e; exact (no2 ha (by omega) z).elim) (fun _ => ⟨fun y => absurd rfl y, fun _ => c_mrefuse (by omega) (fin_no h)⟩))))
  have bad2 : (p2.toInt < 0 ∨ 6 < p2.toInt) → KX u := by
    intro z
    refine hT _ (CI_of mk_X13_walker.2.2 rfl (B_M_walker_0 (c_misWalker (n := nW' (u.1 236)) (by omega) m4 (by omega) (fun a ha e => ⟨fun _ => ⟨⟨?_, ?_, ?_, ?_, ?_, ?_, ?_⟩, fun _ => c_mrefuse (by omega) (fin_no h)⟩, fun y => absurd y (by decide)⟩) (fun _ => ⟨fun y => absurd rfl y, fun _ => c_mrefuse (by omega) (fin_no h)⟩))))
    all_goals (intro r; subst r; exact absurd z (by decide))
  have good : ∀ (a : Nat) (w : Int32), a < nW' (u.1 236) → p1 = nI a → (p2 = 0 → w = u.1 236 (54 + a)) → (p2 = 1 → w = u.1 236 (62 + a)) → (p2 = 2 → w = u.1 236 (70 + a)) → (p2 = 3 → w = u.1 236 (78 + a)) → (p2 = 4 → w = u.1 236 (126 + a)) → (p2 = 5 → w = u.1 236 (242 + a)) → (p2 = 6 → w = bset (fun k => decide (0 < u.1 236 (250 + 5 * a + k))) (nK (u.1 236))) → ¬ (p2.toInt < 0 ∨ 6 < p2.toInt) → KN w u := by
    intro a w ha e w0 w1 w2 w3 w4 w5 w6 nb
    subst e
    refine hN _ _ (CI_of mk_X13_walker.2.2 rfl (B_M_walker_0 (c_misWalker (n := nW' (u.1 236)) (by omega) m4 (by omega) (fun b hb e => ⟨fun _ => ⟨⟨fun r => ?_, fun r => ?_, fun r => ?_, fun r => ?_, fun r => ?_, fun r => ?_, fun r => ?_⟩, fun z => absurd z nb⟩, fun y => absurd y (by decide)⟩) (fun z => (no2 ha (by omega) z).elim))))
    · simp (disch := omega) only [la1, la2, lt1, lt2, nI_add, pk_mul, nI_clamp, vpn, nI_leI, nI_ltI, nI_eq, ll1, ll2, ll3, ll4, le1, le2, true_and, and_true, not_true_eq_false, not_false_eq_true, forall_const, false_implies, implies_true, if_true, if_false, ite_true, ite_false, and_self, false_and, and_false]
      exact ⟨by omega, (w0 r).symm, fin_ok h⟩
    · simp (disch := omega) only [la1, la2, lt1, lt2, nI_add, pk_mul, nI_clamp, vpn, nI_leI, nI_ltI, nI_eq, ll1, ll2, ll3, ll4, le1, le2, true_and, and_true, not_true_eq_false, not_false_eq_true, forall_const, false_implies, implies_true, if_true, if_false, ite_true, ite_false, and_self, false_and, and_false]
      exact ⟨by omega, (w1 r).symm, fin_ok h⟩
    · simp (disch := omega) only [la1, la2, lt1, lt2, nI_add, pk_mul, nI_clamp, vpn, nI_leI, nI_ltI, nI_eq, ll1, ll2, ll3, ll4, le1, le2, true_and, and_true, not_true_eq_false, not_false_eq_true, forall_const, false_implies, implies_true, if_true, if_false, ite_true, ite_false, and_self, false_and, and_false]
      exact ⟨by omega, (w2 r).symm, fin_ok h⟩
    · simp (disch := omega) only [la1, la2, lt1, lt2, nI_add, pk_mul, nI_clamp, vpn, nI_leI, nI_ltI, nI_eq, ll1, ll2, ll3, ll4, le1, le2, true_and, and_true, not_true_eq_false, not_false_eq_true, forall_const, false_implies, implies_true, if_true, if_false, ite_true, ite_false, and_self, false_and, and_false]
      exact ⟨by omega, (w3 r).symm, fin_ok h⟩
    · simp (disch := omega) only [la1, la2, lt1, lt2, nI_add, pk_mul, nI_clamp, vpn, nI_leI, nI_ltI, nI_eq, ll1, ll2, ll3, ll4, le1, le2, true_and, and_true, not_true_eq_false, not_false_eq_true, forall_const, false_implies, implies_true, if_true, if_false, ite_true, ite_false, and_self, false_and, and_false]
      exact ⟨by omega, (w4 r).symm, fin_ok h⟩
    · simp (disch := omega) only [la1, la2, lt1, lt2, nI_add, pk_mul, nI_clamp, vpn, nI_leI, nI_ltI, nI_eq, ll1, ll2, ll3, ll4, le1, le2, true_and, and_true, not_true_eq_false, not_false_eq_true, forall_const, false_implies, implies_true, if_true, if_false, ite_true, ite_false, and_self, false_and, and_false]
      exact ⟨by omega, (w5 r).symm, fin_ok h⟩
    · exact l_mtired (u := mI (mJ u 261 0 (Int32.toInt64 w)) 234 0 0) (by omega) m2 hKK ⟨(w6 r).symm, fin_ok h⟩ (nK (u.1 236)) 0 (Nat.zero_add _)
  refine T_walker hX (by omega) (c_has5 (s := 3) (n := nW' (u.1 236)) (by omega) rfl (by omega) cw (by omega) (fun a ha e => ⟨fun _ => ?_, fun z => absurd z (by decide)⟩) (fun z => ⟨fun y => absurd rfl y, fun _ => bad1 z⟩))
  obtain ⟨b0, b1, b2, b3, b4, -⟩ := hc.2.2.2.2 a ha
  obtain ⟨b5, b6⟩ := hr.2.2.2 a ha
  subst e
  refine ⟨⟨fun r => ⟨vp_in_nI (by omega) (by decide), ?_⟩, fun r => ⟨vp_in_nI (by omega) (by decide), ?_⟩, fun r => ⟨vp_in_nI (by omega) (by decide), ?_⟩, fun r => ⟨vp_in_nI (by omega) (by decide), ?_⟩, fun r => ⟨vp_in_nI (by omega) (by decide), ?_⟩, fun r => ⟨vp_in_nI (by omega) (by decide), ?_⟩, fun r => ?_⟩, bad2⟩
  · subst r
    rw [nI_clamp (by omega), show u.1 11 a = u.1 236 (54 + a) from b0]
    exact good a _ ha rfl (fun _ => rfl) (fun z => absurd z (by decide)) (fun z => absurd z (by decide)) (fun z => absurd z (by decide)) (fun z => absurd z (by decide)) (fun z => absurd z (by decide)) (fun z => absurd z (by decide)) (by decide)
  · subst r
    rw [nI_clamp (by omega), show u.1 12 a = u.1 236 (62 + a) from b1]
    exact good a _ ha rfl (fun z => absurd z (by decide)) (fun _ => rfl) (fun z => absurd z (by decide)) (fun z => absurd z (by decide)) (fun z => absurd z (by decide)) (fun z => absurd z (by decide)) (fun z => absurd z (by decide)) (by decide)
  · subst r
    rw [nI_clamp (by omega), show u.1 13 a = u.1 236 (70 + a) from b2]
    exact good a _ ha rfl (fun z => absurd z (by decide)) (fun z => absurd z (by decide)) (fun _ => rfl) (fun z => absurd z (by decide)) (fun z => absurd z (by decide)) (fun z => absurd z (by decide)) (fun z => absurd z (by decide)) (by decide)
  · subst r
    rw [nI_clamp (by omega), show u.1 14 a = u.1 236 (78 + a) from b3]
    exact good a _ ha rfl (fun z => absurd z (by decide)) (fun z => absurd z (by decide)) (fun z => absurd z (by decide)) (fun _ => rfl) (fun z => absurd z (by decide)) (fun z => absurd z (by decide)) (fun z => absurd z (by decide)) (by decide)
  · subst r
    rw [nI_clamp (by omega), show u.1 17 a = u.1 236 (126 + a) from b4]
    exact good a _ ha rfl (fun z => absurd z (by decide)) (fun z => absurd z (by decide)) (fun z => absurd z (by decide)) (fun z => absurd z (by decide)) (fun _ => rfl) (fun z => absurd z (by decide)) (fun z => absurd z (by decide)) (by decide)
  · subst r
    rw [nI_clamp (by omega), show u.1 27 a = u.1 236 (242 + a) from b5]
    exact good a _ ha rfl (fun z => absurd z (by decide)) (fun z => absurd z (by decide)) (fun z => absurd z (by decide)) (fun z => absurd z (by decide)) (fun z => absurd z (by decide)) (fun _ => rfl) (fun z => absurd z (by decide)) (by decide)
  · subst r
    refine c_kindsTiredOf (by omega) (by omega) ck hKK ?_
    have e : bset (fun k => decide (0 < u.1 28 (5 * a + k))) (nK (u.1 236)) = bset (fun k => decide (0 < u.1 236 (250 + 5 * a + k))) (nK (u.1 236)) := bset_congr (fun k hk => by rw [show u.1 28 (5 * a + k) = u.1 236 (250 + 5 * a + k) from b6 k (by omega)])
    rw [e]
    exact good a _ ha rfl (fun z => absurd z (by decide)) (fun z => absurd z (by decide)) (fun z => absurd z (by decide)) (fun z => absurd z (by decide)) (fun z => absurd z (by decide)) (fun z => absurd z (by decide)) (fun _ => rfl) (by decide)
theorem abs_nat {x : Int32} (h1 : -4000000 ≤ x.toInt) (h2 : x.toInt ≤ 4000000) : ∃ z, z < 2 ^ 30 ∧ (if 0 ≤ x then x else 0 - x) = nI z := by
  refine ⟨x.toInt.natAbs, by omega, ?_⟩
  apply Int32.toInt_inj.mp
  unfold nI
  rw [Int32.toInt_ofNat_of_lt (by omega)]
  by_cases h : 0 ≤ x
  · rw [if_pos h]
    have : (0 : Int) ≤ x.toInt := Int32.le_iff_toInt_le.mp h
    omega
  · rw [if_neg h]
    have : ¬ (0 : Int) ≤ x.toInt := fun z => h (Int32.le_iff_toInt_le.mpr z)
    rw [Int32.toInt_sub, show (0 : Int32).toInt = 0 from rfl, Int.bmod_eq_of_le (by omega) (by omega)]
    omega
theorem half_in {p : Int32} (hp : p = 0 ∨ p = 1) : ¬ (p < 0 ∨ (1 : Int32) < p) := by rcases hp with rfl | rfl <;> decide
theorem half_no {p : Int32} (hp : ¬ (p = 0 ∨ p = 1)) (h0 : ¬ p < 0) (h1 : ¬ (1 : Int32) < p) : False := by
  obtain ⟨j, hj, rfl⟩ := nI_of h0
  rcases (show j = 0 ∨ j = 1 ∨ 1 < j by omega) with rfl | rfl | z
  · exact hp (Or.inl rfl)
  · exact hp (Or.inr rfl)
  · exact h1 ((nI_ltI (a := 1) (by omega) (by omega)).mpr z)
theorem p_placing {p1 : Int32} (hX : (xL X).stackTraces = false) (hd : 6 ≤ d) (h : Rl u) : PairT X d 144 268 [.int p1] u := by
  intro KN KX hN hT
  obtain ⟨d, rfl, hd1⟩ := dpos hd
  obtain ⟨hg, hc, hok, hr⟩ := h.Wd
  have hA := hg.1.2.2.2.2.2.1
  obtain ⟨z, hz, ez⟩ : ∃ z, z < 2 ^ 30 ∧ (if 0 ≤ brF (u.1 236) (nA (u.1 236)) 0 then brF (u.1 236) (nA (u.1 236)) 0 else 0 - brF (u.1 236) (nA (u.1 236)) 0) = nI z := by
    obtain ⟨⟨b1, b2⟩, -⟩ := br_key hg hok (nA (u.1 236)) (Nat.le_refl _) 0 (Nat.pow_pos (by decide)) (by rw [Nat.sub_self]; rfl)
    exact abs_nat (by omega) (by omega)
  refine T_placing hX (by omega) (c_isHalf (by omega) (fun hp => ⟨fun _ => ?_, fun y => absurd y (by decide)⟩) (fun hp => ⟨fun y => absurd rfl y, fun _ => ?_⟩))
  · refine c_placeAll (by omega) h.Wd fun V v1 v2 v3 => ?_
    refine c_told (by omega) ez rfl hz (b := 5040) (by decide) (by decide) ?_
    refine hN _ _ (CI_of mk_X13_placing.2.2 rfl (B_M_placing_0 (c_misIn (by omega) (fun _ _ => ⟨fun _ => ?_, fun y => absurd y (by decide)⟩) (fun y => absurd y (half_in hp)))))
    have e236 : (mI (mJ V 261 0 (Int32.toInt64 (frc (brF (u.1 236) (nA (u.1 236)) 0) 5040 p1 z 5040))) 234 0 0).1 236 = u.1 236 := by rw [mI_r (by omega)]; exact v1 236 (by omega)
    refine c_mlayP (by omega) e236 hg hok fun V2 x1 x2 x3 x4 => ?_
    rw [x3]
    refine c_mpart (by omega) ez rfl hz (b := 5040) (by decide) (by decide) ⟨rfl, ?_, ?_, ?_⟩
    · rw [x1 234 (by omega)]; rfl
    · rw [x2]; rfl
    · refine (Rl.out (x := Int32.toInt64 (frc (brF (u.1 236) (nA (u.1 236)) 0) 5040 p1 z 5040)) h).congr (fun b j hb => ?_) (x2.trans ?_)
      · by_cases q1 : 248 ≤ b ∧ b ≤ 250
        · rcases (show b = 248 ∨ b = 249 ∨ b = 250 by omega) with rfl | rfl | rfl <;> exact absurd (show (false : Bool) = true from hb) (by decide)
        · rw [x1 b (by omega), mI_at]
          by_cases q2 : b = 234 ∧ j = 0
          · obtain ⟨rfl, rfl⟩ := q2; exact absurd (show (false : Bool) = true from hb) (by decide)
          · rw [if_neg q2]
            by_cases q3 : 161 ≤ b ∧ b ≤ 164
            · rcases (show b = 161 ∨ b = 162 ∨ b = 163 ∨ b = 164 by omega) with rfl | rfl | rfl | rfl <;> exact absurd (show (false : Bool) = true from hb) (by decide)
            · exact congrFun (v1 b (by omega)) j
      · show (mJ V 261 0 _).2 = (mJ u 261 0 _).2
        unfold mJ
        simp only [v2]
  · refine hT _ (CI_of mk_X13_placing.2.2 rfl (B_M_placing_0 (c_misIn (by omega) (fun y1 y2 => (half_no hp y1 y2).elim) (fun _ => ⟨fun y => absurd rfl y, fun _ => c_mrefuse (by omega) (fin_no h)⟩))))
theorem p_yields {p1 p2 p3 p4 : Int32} (hX : (xL X).stackTraces = false) (hd : 6 ≤ d) (h : Rl u) : PairT X d 141 263 [.int p1, .int p2, .int p3, .int p4] u := by
  intro KN KX hN hT
  obtain ⟨d, rfl, hd1⟩ := dpos hd
  obtain ⟨hg, hc, hok, hr⟩ := h.Wd
  have hA := hg.1.2.2.2.2.2.1
  have hQ := hg.1.2.1
  have hKK := hg.1.2.2.2.1
  have hW := hg.1.2.2.2.2.2.2.2
  have m0 := hg.1.1
  have m2 := hg.1.2.2.1
  have m3 := hg.1.2.2.2.2.1
  obtain ⟨cq, ck, ca, cw⟩ := cityN hg hc
  have e4 : u.1 20 4 = u.1 236 200 := hr.1.2.2.1
  have bad : (p1 < 0 ∨ nI (nA (u.1 236)) ≤ p1) ∨ (p2 < 0 ∨ nI (nQ (u.1 236)) ≤ p2) ∨ (p3 < 0 ∨ nI (nK (u.1 236)) ≤ p3) ∨ ¬ (p4 = 0 ∨ p4 = 1) → KX u := by
    intro z
    refine hT _ (CI_of mk_X13_yields.2.2 rfl (B_M_yields_0 (c_misStatue (n := nA (u.1 236)) (by omega) m3 (by omega) (fun a ha ea => ⟨fun y => absurd y (by decide), fun _ => ?_⟩) (fun _ => ⟨fun _ => c_mrefuse (by omega) (fin_no h), fun y => absurd rfl y⟩))))
    refine c_misSquare (n := nQ (u.1 236)) (by omega) m0 (by omega) (fun q hq eq => ⟨fun y => absurd y (by decide), fun _ => ?_⟩) (fun _ => ⟨fun _ => c_mrefuse (by omega) (fin_no h), fun y => absurd rfl y⟩)
    refine c_misKind (n := nK (u.1 236)) (by omega) m2 (by omega) (fun k hk ek => ⟨fun y => absurd y (by decide), fun _ => ?_⟩) (fun _ => ⟨fun _ => c_mrefuse (by omega) (fin_no h), fun y => absurd rfl y⟩)
    refine c_misIn (by omega) (fun y1 y2 => ?_) (fun _ => ⟨fun y => absurd rfl y, fun _ => c_mrefuse (by omega) (fin_no h)⟩)
    subst ea; subst eq; subst ek
    rcases z with z | z | z | z
    · exact (no2 ha (by omega) z).elim
    · exact (no2 hq (by omega) z).elim
    · exact (no2 hk (by omega) z).elim
    · exact (half_no z y1 y2).elim
  refine T_yields hX (by omega) (c_has5 (s := 2) (n := nA (u.1 236)) (by omega) rfl (by omega) ca (by omega) (fun a ha ea => ⟨fun y => absurd y (by decide), fun _ => ?_⟩) (fun z => ⟨fun _ => bad (Or.inl z), fun y => absurd rfl y⟩))
  refine c_has5 (s := 0) (n := nQ (u.1 236)) (by omega) rfl (by omega) cq (by omega) (fun q hq eq => ⟨fun y => absurd y (by decide), fun _ => ?_⟩) (fun z => ⟨fun _ => bad (Or.inr (Or.inl z)), fun y => absurd rfl y⟩)
  refine c_has5 (s := 1) (n := nK (u.1 236)) (by omega) rfl (by omega) ck (by omega) (fun k hk ek => ⟨fun y => absurd y (by decide), fun _ => ?_⟩) (fun z => ⟨fun _ => bad (Or.inr (Or.inr (Or.inl z))), fun y => absurd rfl y⟩)
  refine c_isHalf (by omega) (fun hp => ⟨fun _ => ?_, fun y => absurd y (by decide)⟩) (fun hp => ⟨fun y => absurd rfl y, fun _ => bad (Or.inr (Or.inr (Or.inr hp)))⟩)
  subst ea; subst eq; subst ek
  have fin : ∀ (st : Bool) (x : Int32), tb (u.1 236 200) a = st → x = (if st then 1 else 0) → CI X d 74 [.ref 160, .int (nI q), .int (nI k), .int x, .int (0 : Int32)] u (fun w6 u6 => CI X d 178 [.int w6, .int (5040 : Int32), .int p4] u6 (fun w7 u7 => KN w7 u7)) := by
    intro st x hst hx
    refine c_yield (by omega) hg hc (by omega) (by omega) hx ?_
    obtain ⟨y, hy, ey⟩ := ylF_nat (q := q) (k := k) (st := st) (wo := 0) hg (by omega) (nW' (u.1 236)) (Nat.le_refl _)
    have ez : (if 0 ≤ ylF (u.1 236) q k st 0 (nW' (u.1 236)) then ylF (u.1 236) q k st 0 (nW' (u.1 236)) else 0 - ylF (u.1 236) q k st 0 (nW' (u.1 236))) = nI y := by
      rw [ey, if_pos (show (0 : Int32) ≤ nI y from (nI_leI (a := 0) (by omega) (by omega)).mpr (Nat.zero_le _))]
    refine c_told (by omega) ez rfl (b := 5040) (by omega) (by decide) (by decide) ?_
    refine hN _ _ (CI_of mk_X13_yields.2.2 rfl (B_M_yields_0 (c_misStatue (n := nA (u.1 236)) (by omega) m3 (by omega) (fun a' ha' ea' => ⟨fun y => absurd y (by decide), fun _ => ?_⟩) (fun z => (no2 ha (by omega) z).elim))))
    refine c_misSquare (n := nQ (u.1 236)) (by omega) m0 (by omega) (fun _ _ _ => ⟨fun y => absurd y (by decide), fun _ => ?_⟩) (fun z => (no2 hq (by omega) z).elim)
    refine c_misKind (n := nK (u.1 236)) (by omega) m2 (by omega) (fun _ _ _ => ⟨fun y => absurd y (by decide), fun _ => ?_⟩) (fun z => (no2 hk (by omega) z).elim)
    refine c_misIn (by omega) (fun _ _ => ⟨fun _ => ?_, fun y => absurd y (by decide)⟩) (fun y => absurd y (half_in hp))
    have last : ∀ x : Int32, x = (if st then 1 else 0) → CI X d 261 [.ref 234, .int (nI a), .int (nI q), .int (nI k), .int x, .int (0 : Int32)] (mI (mJ u 261 0 (Int32.toInt64 (frc (ylF (u.1 236) q k st 0 (nW' (u.1 236))) 5040 p4 y 5040))) 234 0 0) (fun w9 u9 => CI X d 262 [.int w9, .int (5040 : Int32), .int p4] u9 (fun w10 u10 => w10 = frc (ylF (u.1 236) q k st 0 (nW' (u.1 236))) 5040 p4 y 5040 ∧ u10.1 234 0 = 0 ∧ u10.2 261 0 = Int32.toInt64 (frc (ylF (u.1 236) q k st 0 (nW' (u.1 236))) 5040 p4 y 5040) ∧ Rl u10)) := by
      intro x hx
      refine c_myield (by omega) hg (by omega) (by omega) hx ?_
      exact c_mpart (by omega) ez rfl (b := 5040) (by omega) (by decide) (by decide) ⟨rfl, fin_ok h⟩
    refine c_mhas (by omega) (by omega) (fun y => last _ ?_) (fun y => last _ ?_)
    · have y : tb (u.1 236 200) a = true := y
      rw [← hst, y]; rfl
    · have y : tb (u.1 236 200) a = false := y
      rw [← hst, y]; rfl
  rw [e4]
  exact c_bit (by omega) (by omega) (fun y => fin true _ y rfl) (fun y => fin false _ y rfl)
end
