/-! the system's methods of a day, on its life (20) and the spare one (35) -/
theorem u2id (l : Nat → Nat → Int32) (c j : Nat) : upd2 l c j (l c j) = l := by
  funext b k
  rw [upd2_at]
  split
  · rename_i h; rw [h.1, h.2]
  · rfl
theorem upid (f : Nat → Int32) (j : Nat) : upd f j (f j) = f := by
  funext k
  rw [upd_at]
  split
  · rename_i h; rw [h]
  · rfl
theorem cityN {u : Mm} {g : Nat → Int32} {nm : Nat → Int64} (hg : HeadOk g) (hc : CityR u 5 g nm) : u.1 7 0 = nI (nQ g) ∧ u.1 7 1 = nI (nK g) ∧ u.1 7 2 = nI (nA g) ∧ u.1 7 3 = nI (nW' g) := by
  obtain ⟨⟨a1, a2, a3, a4, a5, a6, a7, a8⟩, -⟩ := hg
  obtain ⟨⟨b1, b2, b3, b4, -⟩, -⟩ := hc
  exact ⟨b1.trans a1, b2.trans a3, b3.trans a5, b4.trans a7⟩
theorem LQ_ev {g s : Nat → Int32} {l T : Nat → Nat → Int32} {j : Nat} {x : Int32} (h : LifeQ g s l T) (hj : j = 13 ∨ j = 14) : LifeQ g s (upd2 l 0 j x) T := by
  obtain ⟨⟨a1, a2, a3, a4⟩, b, c, d⟩ := h
  refine ⟨⟨?_, ?_, ?_, ?_⟩, fun a ha => ?_, fun q' hq' => ?_, fun w hw => ⟨?_, fun k hk => ?_⟩⟩
  · simp (disch := omega) only [u2r, u2s, u2n, pk_un, pk_us]; exact a1
  · simp (disch := omega) only [u2r, u2s, u2n, pk_un, pk_us]; exact a2
  · simp (disch := omega) only [u2r, u2s, u2n, pk_un, pk_us]; exact a3
  · simp (disch := omega) only [u2r, u2s, u2n, pk_un, pk_us]; exact a4
  · simp (disch := omega) only [u2r, u2s, u2n, pk_un, pk_us]; exact b a ha
  · simp (disch := omega) only [u2r, u2s, u2n, pk_un, pk_us]; exact c q' hq'
  · simp (disch := omega) only [u2r, u2s, u2n, pk_un, pk_us]; exact (d w hw).1
  · simp (disch := omega) only [u2r, u2s, u2n, pk_un, pk_us]; exact (d w hw).2 k hk
section CDay
variable {X : Xc} {d : Nat} {u : Mm} {g s t : Nat → Int32} {nm : Nat → Int64} {l T : Nat → Nat → Int32} {D : DS} {sn : Int32}
theorem cst20 {K : Int32 → Mm → Prop} (hd : 1 ≤ d) (h : K (u.1 7 2) u) : CI X d 43 [.ref 20] u K := by
  obtain ⟨d, rfl, hd1⟩ := dpos hd
  exact CI_of mk_X4_statues.2.2 rfl (B_L20_statues_0 h)
theorem cch20 {K : Int32 → Mm → Prop} {w k : Nat} (hd : 1 ≤ d) (hw : w < 8) (hk : k < 5) (h : K (u.1 15 (5 * w + k) >>> (u.1 28 (5 * w + k) &&& 31)) u) : CI X d 46 [.ref 20, .int (nI w), .int (nI k)] u K := by
  obtain ⟨d, rfl, hd1⟩ := dpos hd
  refine CI_of mk_X4_chance.2.2 rfl (B_L20_chance_0 ?_)
  simp (disch := omega) only [la1, la2, lt1, lt2, nI_add, pk_mul, nI_clamp, vpn, nI_leI, nI_ltI, nI_eq, ll1, ll2, ll3, ll4, le1, le2, true_and, and_true, not_true_eq_false, not_false_eq_true, forall_const, false_implies, implies_true, if_true, if_false, ite_true, ite_false, and_self, false_and, and_false]
  exact ⟨by omega, by omega, h⟩
theorem c_evict20 {K : Int32 → Mm → Prop} (hd : 3 ≤ d) (hg : HeadOk g) (hc : CityR u 5 g nm) (hs : Stt g s) (hl : LifeQ g s l T) (hK : ∀ l' gone, LifeQ g (dawnF s (nA g)) l' T → l' 0 13 = l 0 13 → dawnF s (nA g) 201 = s 201 ||| gone → (∀ i, i < 32 → tb gone i = true → tb (s 201) i = false) → K gone (lm u 20 l')) : CI X d 55 [.ref 20, .int (s 5)] (lm u 20 l) K := by
  obtain ⟨d, rfl, hd1⟩ := dpos hd
  obtain ⟨-, -, -, -, hA, hKK, hW, hQ⟩ := hdA hg hs
  have hn := (cityN hg hc).2.2.1
  refine CI_of mk_X4_evictDebtors.2.2 rfl (B_L20_evictDebtors_0 ?_)
  refine lupR (n := nA g) (W := fun j (z : (Nat → Nat → Int32) × Int32) => VI X d 55 K 4 [some (.ref 20), some (.int (s 5)), some (.int z.2), some (.int (nI j)), none] [] (lm u 20 z.1))
    (I := fun j z => LifeQ g (dawnF s j) (upd2 z.1 0 3 (dawnF s j 201)) T ∧ z.1 0 3 = s 201 ∧ z.1 0 13 = l 0 13 ∧ dawnF s j 201 = s 201 ||| z.2 ∧ ∀ i, i < 32 → tb z.2 i = true → tb (s 201) i = false) ?_ (l, 0) ?_
  · rintro j ⟨l1, acc⟩ hj ⟨i1, i2, i3, i4, i5⟩ ih
    dsimp only at i1 i2 i3 i4 i5 ⊢
    refine B_L20_evictDebtors_4 (cst20 (by omega) ?_)
    have h := dawnF_ok hA hs j hj
    rw [lm_o (by omega), hn]
    simp (disch := omega) only [la1, la2, lt1, lt2, nI_add, pk_mul, nI_clamp, vpn, nI_leI, nI_ltI, nI_eq, ll1, ll2, ll3, ll4, le1, le2, true_and, and_true, not_true_eq_false, not_false_eq_true, forall_const, false_implies, implies_true, if_true, if_false, ite_true, ite_false, and_self, false_and, and_false, lm_in, lm_o, lm_w, Nat.reduceSub, u2r, u2s, u2n, u2u, b01, b10]
    refine ⟨fun q => ?_, fun q => ⟨by omega, ?_⟩⟩
    · have e : j = nA g := by omega
      subst e
      rw [i2, ← i4]
      exact hK _ _ i1 (by simp (disch := omega) only [u2r, u2s, u2n, pk_un, pk_us]; exact i3) i4 i5
    · have ih := ih (by omega)
      obtain ⟨b1, b2, b3, b4, b5⟩ := i1.2.1 j (by omega)
      simp (disch := omega) only [u2r, u2s, u2n, pk_un, pk_us] at b2
      simp (disch := omega) only [u2r, u2s, u2n, pk_un, pk_us] at b4
      rw [b2]
      have e5 : dawnF s j 5 = s 5 := dawnF_kp (by omega) j (by omega)
      obtain ⟨-, p⟩ := h.2.2.2.2.1 j (by omega)
      rcases p with ⟨z, e⟩ | ⟨r, q', hq', e⟩
      · rw [e]
        refine ⟨fun _ => ih (l1, acc) ?_, fun y => absurd rfl y⟩
        rw [dawnF, dawn1, if_neg (by rintro ⟨y, -⟩; exact absurd (y.symm.trans z) (by decide))]
        exact ⟨i1, i2, i3, i4, i5⟩
      · have hr : u.1 8 q' = dawnF s j (6 + q') := (hc.2.1 q' hq').1.trans (h.1 _ (by omega) (by omega)).symm
        rw [e]
        refine ⟨fun y => absurd y (nI_m1 (by omega)), fun _ => ?_⟩
        simp (disch := omega) only [la1, la2, lt1, lt2, nI_add, pk_mul, nI_clamp, vpn, nI_leI, nI_ltI, nI_eq, ll1, ll2, ll3, ll4, le1, le2, true_and, and_true, not_true_eq_false, not_false_eq_true, forall_const, false_implies, implies_true, if_true, if_false, ite_true, ite_false, and_self, false_and, and_false, lm_in, lm_o, lm_w, Nat.reduceSub, u2r, u2s, u2n, u2u, b01, b10, b4, hr]
        refine ⟨by omega, by omega, fun y => ih (l1, acc) ?_, fun y => ⟨by omega, by omega, ih (_, _) ?_⟩⟩
        · rw [dawnF, dawn1, e, nI_clamp (by omega), e5, if_neg (by rintro ⟨-, x⟩; exact absurd y (Int32.not_le.mpr x))]
          exact ⟨i1, i2, i3, i4, i5⟩
        · rw [dawnF, dawn1, e, nI_clamp (by omega), e5, if_pos ⟨r, Int32.not_le.mp y⟩]
          dsimp only
          have r0 : tb (s 201) j = false := by
            rw [i4, tb_or, Bool.or_eq_false_iff] at r
            exact r.1
          refine ⟨?_, ?_, ?_, ?_, ?_⟩
          · have := LQ_evict (x := dawnF s j 201 ||| ((1 : Int32) <<< (nI j &&& 31))) hA hQ hW h.2 (by omega) hq' e i1
            simp (disch := omega) only [pk_un, pk_us]
            exact this
          · simp (disch := omega) only [u2r, u2s, u2n, pk_un, pk_us]; exact i2
          · simp (disch := omega) only [u2r, u2s, u2n, pk_un, pk_us]; exact i3
          · simp (disch := omega) only [pk_un, pk_us]
            rw [i4, Int32.or_assoc]
          · intro i hi hx
            rw [tb_set (by omega) hi, Bool.or_eq_true, decide_eq_true_eq] at hx
            rcases hx with hx | rfl
            · exact i5 i hi hx
            · exact r0
  · refine ⟨?_, hl.1.2.2.2, rfl, ?_, fun i hi q => by rw [tb_0] at q; cases q⟩
    · show LifeQ g s (upd2 l 0 3 (s 201)) T
      rw [← hl.1.2.2.2, u2id]
      exact hl
    · show s 201 = s 201 ||| 0
      simp
theorem c_look20 {K : Mm → Prop} {w a : Nat} (hd : 2 ≤ d) (hw : w < 8) (ha : a < 8) (hK : K (lm u 20 (upd2 (upd2 (upd2 (upd2 l 4 a (if l 4 a + wth (fun i => u.1 14 (i - 78)) w (tb (l 0 4) a) < 999 then l 4 a + wth (fun i => u.1 14 (i - 78)) w (tb (l 0 4) a) else 999)) 6 a (l 6 a + 1)) 7 w (l 7 w + 1)) 0 14 (l 0 14 ||| ((1 : Int32) <<< (nI a &&& 31)))))) : CV X d 58 [.ref 20, .int (nI w), .int (nI a)] (lm u 20 l) K := by
  obtain ⟨d, rfl, hd1⟩ := dpos hd
  refine CV_of mk_X4_lookAt.2.2 rfl (B_L20_lookAt_0 ?_)
  simp (disch := omega) only [la1, la2, lt1, lt2, nI_add, pk_mul, nI_clamp, vpn, nI_leI, nI_ltI, nI_eq, ll1, ll2, ll3, ll4, le1, le2, true_and, and_true, not_true_eq_false, not_false_eq_true, forall_const, false_implies, implies_true, if_true, if_false, ite_true, ite_false, and_self, false_and, and_false, lm_in, lm_o, lm_w, Nat.reduceSub, u2r, u2s, u2n, u2u, b01, b10]
  refine c_bit (by omega) (by omega) (fun y => ?_) (fun y => ?_)
  · rw [y, wth, if_pos (rfl : true = true), show 78 + w - 78 = w by omega] at hK
    simp (disch := omega) only [la1, la2, lt1, lt2, nI_add, pk_mul, nI_clamp, vpn, nI_leI, nI_ltI, nI_eq, ll1, ll2, ll3, ll4, le1, le2, true_and, and_true, not_true_eq_false, not_false_eq_true, forall_const, false_implies, implies_true, if_true, if_false, ite_true, ite_false, and_self, false_and, and_false, lm_in, lm_o, lm_w, Nat.reduceSub, u2r, u2s, u2n, u2u, b01, b10]
    exact ⟨by omega, by omega, by omega, by omega, by omega, by omega, by omega, hK⟩
  · rw [y, wth, if_neg (show ¬ (false = true) by decide), show 78 + w - 78 = w by omega] at hK
    simp (disch := omega) only [la1, la2, lt1, lt2, nI_add, pk_mul, nI_clamp, vpn, nI_leI, nI_ltI, nI_eq, ll1, ll2, ll3, ll4, le1, le2, true_and, and_true, not_true_eq_false, not_false_eq_true, forall_const, false_implies, implies_true, if_true, if_false, ite_true, ite_false, and_self, false_and, and_false, lm_in, lm_o, lm_w, Nat.reduceSub, u2r, u2s, u2n, u2u, b01, b10]
    exact ⟨by omega, by omega, by omega, by omega, by omega, by omega, by omega, hK⟩
theorem cst35 {K : Int32 → Mm → Prop} (hd : 1 ≤ d) (h : K (u.1 7 2) u) : CI X d 43 [.ref 35] u K := by
  obtain ⟨d, rfl, hd1⟩ := dpos hd
  exact CI_of mk_X4_statues.2.2 rfl (B_L35_statues_0 h)
theorem cch35 {K : Int32 → Mm → Prop} {w k : Nat} (hd : 1 ≤ d) (hw : w < 8) (hk : k < 5) (h : K (u.1 15 (5 * w + k) >>> (u.1 43 (5 * w + k) &&& 31)) u) : CI X d 46 [.ref 35, .int (nI w), .int (nI k)] u K := by
  obtain ⟨d, rfl, hd1⟩ := dpos hd
  refine CI_of mk_X4_chance.2.2 rfl (B_L35_chance_0 ?_)
  simp (disch := omega) only [la1, la2, lt1, lt2, nI_add, pk_mul, nI_clamp, vpn, nI_leI, nI_ltI, nI_eq, ll1, ll2, ll3, ll4, le1, le2, true_and, and_true, not_true_eq_false, not_false_eq_true, forall_const, false_implies, implies_true, if_true, if_false, ite_true, ite_false, and_self, false_and, and_false]
  exact ⟨by omega, by omega, h⟩
theorem c_evict35 {K : Int32 → Mm → Prop} (hd : 3 ≤ d) (hg : HeadOk g) (hc : CityR u 5 g nm) (hs : Stt g s) (hl : LifeQ g s l T) (hK : ∀ l' gone, LifeQ g (dawnF s (nA g)) l' T → l' 0 13 = l 0 13 → dawnF s (nA g) 201 = s 201 ||| gone → (∀ i, i < 32 → tb gone i = true → tb (s 201) i = false) → K gone (lm u 35 l')) : CI X d 55 [.ref 35, .int (s 5)] (lm u 35 l) K := by
  obtain ⟨d, rfl, hd1⟩ := dpos hd
  obtain ⟨-, -, -, -, hA, hKK, hW, hQ⟩ := hdA hg hs
  have hn := (cityN hg hc).2.2.1
  refine CI_of mk_X4_evictDebtors.2.2 rfl (B_L35_evictDebtors_0 ?_)
  refine lupR (n := nA g) (W := fun j (z : (Nat → Nat → Int32) × Int32) => VI X d 55 K 4 [some (.ref 35), some (.int (s 5)), some (.int z.2), some (.int (nI j)), none] [] (lm u 35 z.1))
    (I := fun j z => LifeQ g (dawnF s j) (upd2 z.1 0 3 (dawnF s j 201)) T ∧ z.1 0 3 = s 201 ∧ z.1 0 13 = l 0 13 ∧ dawnF s j 201 = s 201 ||| z.2 ∧ ∀ i, i < 32 → tb z.2 i = true → tb (s 201) i = false) ?_ (l, 0) ?_
  · rintro j ⟨l1, acc⟩ hj ⟨i1, i2, i3, i4, i5⟩ ih
    dsimp only at i1 i2 i3 i4 i5 ⊢
    refine B_L35_evictDebtors_4 (cst35 (by omega) ?_)
    have h := dawnF_ok hA hs j hj
    rw [lm_o (by omega), hn]
    simp (disch := omega) only [la1, la2, lt1, lt2, nI_add, pk_mul, nI_clamp, vpn, nI_leI, nI_ltI, nI_eq, ll1, ll2, ll3, ll4, le1, le2, true_and, and_true, not_true_eq_false, not_false_eq_true, forall_const, false_implies, implies_true, if_true, if_false, ite_true, ite_false, and_self, false_and, and_false, lm_in, lm_o, lm_w, Nat.reduceSub, u2r, u2s, u2n, u2u, b01, b10]
    refine ⟨fun q => ?_, fun q => ⟨by omega, ?_⟩⟩
    · have e : j = nA g := by omega
      subst e
      rw [i2, ← i4]
      exact hK _ _ i1 (by simp (disch := omega) only [u2r, u2s, u2n, pk_un, pk_us]; exact i3) i4 i5
    · have ih := ih (by omega)
      obtain ⟨b1, b2, b3, b4, b5⟩ := i1.2.1 j (by omega)
      simp (disch := omega) only [u2r, u2s, u2n, pk_un, pk_us] at b2
      simp (disch := omega) only [u2r, u2s, u2n, pk_un, pk_us] at b4
      rw [b2]
      have e5 : dawnF s j 5 = s 5 := dawnF_kp (by omega) j (by omega)
      obtain ⟨-, p⟩ := h.2.2.2.2.1 j (by omega)
      rcases p with ⟨z, e⟩ | ⟨r, q', hq', e⟩
      · rw [e]
        refine ⟨fun _ => ih (l1, acc) ?_, fun y => absurd rfl y⟩
        rw [dawnF, dawn1, if_neg (by rintro ⟨y, -⟩; exact absurd (y.symm.trans z) (by decide))]
        exact ⟨i1, i2, i3, i4, i5⟩
      · have hr : u.1 8 q' = dawnF s j (6 + q') := (hc.2.1 q' hq').1.trans (h.1 _ (by omega) (by omega)).symm
        rw [e]
        refine ⟨fun y => absurd y (nI_m1 (by omega)), fun _ => ?_⟩
        simp (disch := omega) only [la1, la2, lt1, lt2, nI_add, pk_mul, nI_clamp, vpn, nI_leI, nI_ltI, nI_eq, ll1, ll2, ll3, ll4, le1, le2, true_and, and_true, not_true_eq_false, not_false_eq_true, forall_const, false_implies, implies_true, if_true, if_false, ite_true, ite_false, and_self, false_and, and_false, lm_in, lm_o, lm_w, Nat.reduceSub, u2r, u2s, u2n, u2u, b01, b10, b4, hr]
        refine ⟨by omega, by omega, fun y => ih (l1, acc) ?_, fun y => ⟨by omega, by omega, ih (_, _) ?_⟩⟩
        · rw [dawnF, dawn1, e, nI_clamp (by omega), e5, if_neg (by rintro ⟨-, x⟩; exact absurd y (Int32.not_le.mpr x))]
          exact ⟨i1, i2, i3, i4, i5⟩
        · rw [dawnF, dawn1, e, nI_clamp (by omega), e5, if_pos ⟨r, Int32.not_le.mp y⟩]
          dsimp only
          have r0 : tb (s 201) j = false := by
            rw [i4, tb_or, Bool.or_eq_false_iff] at r
            exact r.1
          refine ⟨?_, ?_, ?_, ?_, ?_⟩
          · have := LQ_evict (x := dawnF s j 201 ||| ((1 : Int32) <<< (nI j &&& 31))) hA hQ hW h.2 (by omega) hq' e i1
            simp (disch := omega) only [pk_un, pk_us]
            exact this
          · simp (disch := omega) only [u2r, u2s, u2n, pk_un, pk_us]; exact i2
          · simp (disch := omega) only [u2r, u2s, u2n, pk_un, pk_us]; exact i3
          · simp (disch := omega) only [pk_un, pk_us]
            rw [i4, Int32.or_assoc]
          · intro i hi hx
            rw [tb_set (by omega) hi, Bool.or_eq_true, decide_eq_true_eq] at hx
            rcases hx with hx | rfl
            · exact i5 i hi hx
            · exact r0
  · refine ⟨?_, hl.1.2.2.2, rfl, ?_, fun i hi q => by rw [tb_0] at q; cases q⟩
    · show LifeQ g s (upd2 l 0 3 (s 201)) T
      rw [← hl.1.2.2.2, u2id]
      exact hl
    · show s 201 = s 201 ||| 0
      simp
theorem c_look35 {K : Mm → Prop} {w a : Nat} (hd : 2 ≤ d) (hw : w < 8) (ha : a < 8) (hK : K (lm u 35 (upd2 (upd2 (upd2 (upd2 l 4 a (if l 4 a + wth (fun i => u.1 14 (i - 78)) w (tb (l 0 4) a) < 999 then l 4 a + wth (fun i => u.1 14 (i - 78)) w (tb (l 0 4) a) else 999)) 6 a (l 6 a + 1)) 7 w (l 7 w + 1)) 0 14 (l 0 14 ||| ((1 : Int32) <<< (nI a &&& 31)))))) : CV X d 58 [.ref 35, .int (nI w), .int (nI a)] (lm u 35 l) K := by
  obtain ⟨d, rfl, hd1⟩ := dpos hd
  refine CV_of mk_X4_lookAt.2.2 rfl (B_L35_lookAt_0 ?_)
  simp (disch := omega) only [la1, la2, lt1, lt2, nI_add, pk_mul, nI_clamp, vpn, nI_leI, nI_ltI, nI_eq, ll1, ll2, ll3, ll4, le1, le2, true_and, and_true, not_true_eq_false, not_false_eq_true, forall_const, false_implies, implies_true, if_true, if_false, ite_true, ite_false, and_self, false_and, and_false, lm_in, lm_o, lm_w, Nat.reduceSub, u2r, u2s, u2n, u2u, b01, b10]
  refine c_bit (by omega) (by omega) (fun y => ?_) (fun y => ?_)
  · rw [y, wth, if_pos (rfl : true = true), show 78 + w - 78 = w by omega] at hK
    simp (disch := omega) only [la1, la2, lt1, lt2, nI_add, pk_mul, nI_clamp, vpn, nI_leI, nI_ltI, nI_eq, ll1, ll2, ll3, ll4, le1, le2, true_and, and_true, not_true_eq_false, not_false_eq_true, forall_const, false_implies, implies_true, if_true, if_false, ite_true, ite_false, and_self, false_and, and_false, lm_in, lm_o, lm_w, Nat.reduceSub, u2r, u2s, u2n, u2u, b01, b10]
    exact ⟨by omega, by omega, by omega, by omega, by omega, by omega, by omega, hK⟩
  · rw [y, wth, if_neg (show ¬ (false = true) by decide), show 78 + w - 78 = w by omega] at hK
    simp (disch := omega) only [la1, la2, lt1, lt2, nI_add, pk_mul, nI_clamp, vpn, nI_leI, nI_ltI, nI_eq, ll1, ll2, ll3, ll4, le1, le2, true_and, and_true, not_true_eq_false, not_false_eq_true, forall_const, false_implies, implies_true, if_true, if_false, ite_true, ite_false, and_self, false_and, and_false, lm_in, lm_o, lm_w, Nat.reduceSub, u2r, u2s, u2n, u2u, b01, b10]
    exact ⟨by omega, by omega, by omega, by omega, by omega, by omega, by omega, hK⟩
end CDay
