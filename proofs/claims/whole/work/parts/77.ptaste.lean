section PTaste
variable {X : Xc} {d : Nat} {u : Mm} {g : Nat → Int32} {nm : Nat → Int64}
theorem c_guessT {K : Int32 → Mm → Prop} {N : Nat} (hd : 4 ≤ d) (h : Wd u g nm) (e : u.1 1 1 = nI (2 * N)) (h1N : 1 ≤ N) (hN : N ≤ 20) (hp : prs g (u.1 2) N) (hb : ∀ i, i < 940 → ∃ x, x < 256 ∧ u.1 2 i = nI x)
    (h0 : cnP (fitF g (u.1 2) N) (2 ^ nK g) = 0 → ∀ V : Mm, (∀ b, b ≠ 172 → V.1 b = u.1 b) → V.2 = u.2 → K 0 V)
    (h1 : cnP (fitF g (u.1 2) N) (2 ^ nK g) ≠ 0 → ∀ V : Mm, (∀ b, b ≠ 172 → V.1 b = (mI (mI u 171 3 (coI (fitF g (u.1 2) N) (nI (2 ^ nK g - 1)) (2 ^ nK g))) 171 4 (tlV (tlF g (apF g (u.1 2) N (2 ^ nK g)) (nA g)))).1 b) → V.2 = u.2 → K (nI (cnP (fitF g (u.1 2) N) (2 ^ nK g))) V) : CI X d 26 [.ref 171] u K := by
  obtain ⟨d, rfl, hd1⟩ := dpos hd
  have hg := h.1
  have hok := h.2.2.1
  have hA := hg.1.2.2.2.2.2.1
  have hKK := hg.1.2.2.2.1
  obtain ⟨cq, ck, ca, cw⟩ := cityN hg h.2.1
  obtain ⟨sp, -⟩ := set_pow (nK g) (by omega)
  have hpw : 2 ^ nK g ≤ 32 := Nat.le_trans (Nat.pow_le_pow_right (by omega) hKK) (by decide)
  have hpos := Nat.two_pow_pos (nK g)
  have sp1 : nI (2 ^ nK g) - 1 = nI (2 ^ nK g - 1) := pk_sub (b := 1) (by omega)
  have hkd : ∀ i, i < N → kdF g (u.1 2) i < 5 := by
    intro i hi
    obtain ⟨⟨a, ha, ea⟩, -⟩ := hp i hi
    obtain ⟨⟨k, hk, ek⟩, -⟩ := hok.2.2.2.1 a ha
    unfold kdF
    rw [ea, nI_clamp (by omega), ek, nI_clamp (by omega)]
    omega
  refine CI_of mk_X2_guessTaste.2.2 rfl (B_GS_guessTaste_0 (c_pairs (by omega) hg h.2.1 e (by omega) (fun N' q1 _ _ _ => ⟨fun _ => ?_, fun q => absurd q (by decide)⟩) (fun q => absurd hp (q N rfl h1N hN))))
  refine c_kindsOf (by omega) h e hN hp (c_kindsOf (by omega) h e hN hp ?_)
  rw [ck, sp, sp1]
  refine c_fill (n := 5) (by omega) ⟨rfl, _, rfl⟩ (by omega) ?_
  refine lupR (n := 2 ^ nK g) (W := fun j (V : Mm) => VI X d 26 K 52 [some (.ref 171), some (.int (okF g (u.1 2) 1 N)), some (.int (okF g (u.1 2) 0 N)), some (.int (nI (2 ^ nK g - 1))), some (.int (nI (cnP (fitF g (u.1 2) N) j))), some (.int (coI (fitF g (u.1 2) N) (nI (2 ^ nK g - 1)) j)), some (.int (nI j))] [] V)
    (I := fun j V => (∀ b, b ≠ 172 → V.1 b = u.1 b) ∧ V.2 = u.2 ∧ ∀ k, k < 5 → V.1 172 k = nI (cnP (fun s => fitF g (u.1 2) N s && tb (nI s) k) j)) ?_ _ ⟨fun b hb => funext fun k => by rw [mF_at, if_neg (by omega)], rfl, fun k hk => by rw [mF_at, if_pos (by omega)]; rfl⟩
  rintro j V hj ⟨i1, i2, i3⟩ ih
  have hcl := cnP_le (p := fitF g (u.1 2) N) (n := j)
  have fo := fit_or (j := j) hb hN hp hkd
  refine B_GS_guessTaste_52 ?_
  simp (disch := omega) only [la1, la2, lt1, lt2, nI_add, pk_mul, nI_clamp, vpn, nI_leI, nI_ltI, nI_eq, ll1, ll2, ll3, ll4, le1, le2, true_and, and_true, not_true_eq_false, not_false_eq_true, forall_const, false_implies, implies_true, if_true, if_false, ite_true, ite_false, and_self, false_and, and_false]
  refine ⟨fun z => ?_, fun z => ?_⟩
  · have ej : j = 2 ^ nK g := by omega
    subst ej
    refine ⟨fun y => ?_, fun y => ?_⟩
    · have y0 : cnP (fitF g (u.1 2) N) (2 ^ nK g) = 0 := by omega
      rw [y0]
      exact h0 y0 V i1 i2
    · refine c_teller (b := u.1 2) (by omega) (h.cg (fun b b1 b2 => by rw [mI_r (by omega)]; exact i1 b (by omega)) i2) hpw (fun k hk => by rw [mI_r (by omega)]; exact i3 k hk) ?_
      refine h1 (by omega) _ (fun b hb => ?_) i2
      by_cases e : b = 171
      · subst e
        funext k
        rw [mI_at, mI_at, mI_at, mI_at, i1 171 (by omega)]
      · simp (disch := omega) only [mI_r]
        exact i1 b hb
  · have ih := ih (by omega)
    rw [cnP, coI] at ih
    refine ⟨fun y => ?_, fun y => ⟨fun y2 => ?_, fun y2 => ?_⟩⟩
    · have hf : fitF g (u.1 2) N j = false := Bool.eq_false_iff.mpr fun q => y (fo.mpr q).1
      rw [hf, if_neg (by decide), if_neg (by decide)] at ih
      refine ih V ⟨i1, i2, fun k hk => ?_⟩
      rw [cnP, hf, Bool.false_and, if_neg (by decide)]
      exact i3 k hk
    · have hf : fitF g (u.1 2) N j = false := Bool.eq_false_iff.mpr fun q => y2 (fo.mpr q).2
      rw [hf, if_neg (by decide), if_neg (by decide)] at ih
      refine ih V ⟨i1, i2, fun k hk => ?_⟩
      rw [cnP, hf, Bool.false_and, if_neg (by decide)]
      exact i3 k hk
    · have hf : fitF g (u.1 2) N j = true := fo.mp ⟨y, y2⟩
      rw [hf, if_pos rfl, if_pos rfl] at ih
      refine c_countK (c := fun k => cnP (fun s => fitF g (u.1 2) N s && tb (nI s) k) j) (by omega) (by omega) (fun k hk => ⟨?_, i3 k hk⟩) fun V' v1 v2 v3 => ih V' ⟨fun b hb => (v1 b hb).trans (i1 b hb), v2.trans i2, fun k hk => ?_⟩
      · have := cnP_le (p := fun s => fitF g (u.1 2) N s && tb (nI s) k) (n := j)
        omega
      · rw [v3 k hk, cnP, hf, Bool.true_and]
theorem p_taste {p1 : Int32} (hd : 5 ≤ d) (h : Rl u) : PairI X d 152 283 [.int p1] u := by
  intro K hK
  obtain ⟨hg, hc, hok, hr⟩ := h.Wd
  obtain ⟨m3, m2, m4, m0, hA, hKK, hW, hQ⟩ := hdA hg (Stt.rf hok)
  obtain ⟨cq, ck, ca, cw⟩ := cityN hg hc
  obtain ⟨L, hL, t1, t2⟩ := h.1.1
  have hb2 : ∀ i, i < 940 → u.1 2 i = u.1 235 i := fun i hi => (h.1.2.1 i hi).1
  have hbx : ∀ i, i < 940 → ∃ x, x < 256 ∧ u.1 235 i = nI x := fun i hi => (h.1.2.1 i hi).2
  have hbx2 : ∀ i, i < 940 → ∃ x, x < 256 ∧ u.1 2 i = nI x := fun i hi => by rw [hb2 i hi]; exact hbx i hi
  obtain ⟨d, rfl, hd1⟩ := dpos hd
  have bad : Rl (mI (mI (mI u 1 1 0) 234 0 0) 234 2 0) := by
    refine h.tape (h.1.empty ?_ ?_ ?_ ?_ ?_ ?_) (((AG.rf.mI rfl).mI rfl).mI rfl) (((AG.rf.mI rfl).mI rfl).mI rfl) (((AG.rf.mI rfl).mI rfl).mI rfl) (((AG.rf.mI rfl).mI rfl).mI rfl) rfl
    · simp (disch := omega) only [mI_n, mI_s, mI_r]; rfl
    · exact mI_s
    · simp (disch := omega) only [mI_r]
    · simp (disch := omega) only [mI_r]
    · simp (disch := omega) only [mI_n, mI_r]
    · simp (disch := omega) only [mI_n, mI_r]
  have mbad : ((p1 < 0 ∨ nI (nW' (u.1 236)) ≤ p1) ∨ ∀ N, L = 2 * N → 1 ≤ N → N ≤ 20 → ¬ prs (u.1 236) (u.1 235) N) → CI X (d + 1) 283 [.ref 234, .int p1] (mI u 1 1 0) (fun w2 u2 => K (-1) w2 u2) := by
    intro hbad
    refine CI_of mk_X13_taste.2.2 rfl (B_M_taste_0 ?_)
    obtain ⟨d, rfl, hd2⟩ := dpos hd1
    refine CI_of mk_X13_take.2.2 rfl (B_M_take_0 ?_)
    rw [show (mI (mI u 1 1 0) 234 0 0).1 234 2 = nI L by simp (disch := omega) only [mI_n]; exact t2]
    have e236 : (mI (mI (mI u 1 1 0) 234 0 0) 234 2 0).1 236 = u.1 236 := by simp (disch := omega) only [mI_r]
    have e235 : (mI (mI (mI u 1 1 0) 234 0 0) 234 2 0).1 235 = u.1 235 := by simp (disch := omega) only [mI_r]
    generalize mI (mI (mI u 1 1 0) 234 0 0) 234 2 0 = U at e236 e235 bad
    refine c_misWalker (n := nW' (u.1 236)) (by omega) (by rw [e236]; exact m4) (by omega) (fun w hw ew => ⟨fun q => absurd q (by decide), fun _ => ?_⟩) (fun q => ⟨fun _ => hK _ _ bad, fun q => absurd rfl q⟩)
    have hbad := hbad.resolve_left (fun q => by rw [ew] at q; exact no2 hw (by omega) q)
    rw [show nI L - nI L / (2 : Int32) * (2 : Int32) = nI (L % 2) from pk_rem (d := 2) (by omega) (by omega) (by omega), show nI L / (2 : Int32) = nI (L / 2) from pk_div (d := 2) (by omega) (by omega) (by omega)]
    simp (disch := omega) only [la1, la2, lt1, lt2, nI_add, pk_mul, nI_clamp, vpn, nI_leI, nI_ltI, nI_eq, ll1, ll2, ll3, ll4, le1, le2, true_and, and_true, not_true_eq_false, not_false_eq_true, forall_const, false_implies, implies_true, if_true, if_false, ite_true, ite_false, and_self, false_and, and_false]
    refine ⟨fun _ => hK _ _ bad, fun z => c_misIn (by omega) (fun y1 y2 => ⟨fun _ => ?_, fun q => absurd q (by decide)⟩) (fun _ => ⟨fun q => absurd rfl q, fun _ => hK _ _ bad⟩)⟩
    have y1 := mt (nI_ltI (a := L / 2) (b := 1) (by omega) (by omega)).mpr y1
    have y2 := mt (nI_ltI (a := 20) (b := L / 2) (by omega) (by omega)).mpr y2
    obtain ⟨N, rfl⟩ : ∃ N, L = 2 * N := ⟨L / 2, by omega⟩
    have hbad := hbad N rfl (by omega) (by omega)
    suffices hz : prs (u.1 236) (u.1 235) 0 → VI X (d + 1) 283 (fun w2 u2 => K (-1) w2 u2) 40 [some (.ref 234), some (.int p1), some (.int (nI (2 * N))), some (.int (nI (2 * 0))), none, none, none, none, none, none] [] U from hz (fun i hi => absurd hi (by omega))
    refine lup (n := N) (W := fun i => prs (u.1 236) (u.1 235) i → VI X (d + 1) 283 (fun w2 u2 => K (-1) w2 u2) 40 [some (.ref 234), some (.int p1), some (.int (nI (2 * N))), some (.int (nI (2 * i))), none, none, none, none, none, none] [] U) ?_
    intro i hi ih hp
    refine B_M_taste_40 ?_
    rw [e235]
    simp (disch := omega) only [la1, la2, lt1, lt2, nI_add, pk_mul, nI_clamp, vpn, nI_leI, nI_ltI, nI_eq, ll1, ll2, ll3, ll4, le1, le2, true_and, and_true, not_true_eq_false, not_false_eq_true, forall_const, false_implies, implies_true, if_true, if_false, ite_true, ite_false, and_self, false_and, and_false]
    refine ⟨fun q => absurd (by rw [show N = i by omega]; exact hp) hbad, fun q => ⟨by omega, c_misStatue (n := nA (u.1 236)) (by omega) (by rw [e236]; exact m3) (by omega) (fun a ha ea => ?_) (fun q => ⟨fun _ => hK _ _ bad, fun q => absurd rfl q⟩)⟩⟩
    rw [e235]
    simp (disch := omega) only [la1, la2, lt1, lt2, nI_add, pk_mul, nI_clamp, vpn, nI_leI, nI_ltI, nI_eq, ll1, ll2, ll3, ll4, le1, le2, true_and, and_true, not_true_eq_false, not_false_eq_true, forall_const, false_implies, implies_true, if_true, if_false, ite_true, ite_false, and_self, false_and, and_false, b01, b10]
    refine ⟨by omega, fun w => ?_, fun w => hK _ _ bad⟩
    have := ih (by omega) fun i' hi' => by
      by_cases ei : i' = i
      · subst ei; exact ⟨⟨a, ha, ea⟩, w⟩
      · exact hp i' (by omega)
    rwa [show 2 * (i + 1) = 2 * i + 2 by omega] at this
  have prs2 : ∀ N, N ≤ 20 → (prs (u.1 236) (u.1 2) N ↔ prs (u.1 236) (u.1 235) N) := fun N hN => ⟨prs_congr hN hb2, prs_congr hN (fun i hi => (hb2 i hi).symm)⟩
  refine CI_of mk_X12_taste.2.2 rfl (B_S_taste_0 (c_has5 (s := 3) (n := nW' (u.1 236)) (by omega) rfl (by omega) cw (by omega) (fun w hw ew => ⟨fun q => absurd q (by decide), fun _ => ?_⟩) (fun q => ⟨fun _ => mbad (Or.inl q), fun q => absurd rfl q⟩)))
  by_cases good : ∃ N, L = 2 * N ∧ 1 ≤ N ∧ N ≤ 20 ∧ prs (u.1 236) (u.1 235) N
  · obtain ⟨N, rfl, h1N, hN, hp⟩ := good
    have fitE : ∀ j, fitF (u.1 236) (u.1 2) N j = fitF (u.1 236) (u.1 235) N j := fun j => fit_congr hN hb2
    have fitEE : fitF (u.1 236) (u.1 2) N = fitF (u.1 236) (u.1 235) N := funext fitE
    have apE : apF (u.1 236) (u.1 2) N = apF (u.1 236) (u.1 235) N := by
      funext n a
      unfold apF wiF
      rw [fitEE]
    refine c_guessT hd1 h.Wd t1 h1N hN ((prs2 N hN).mpr hp) hbx2 (fun q0 V v1 v2 => ?_) (fun q0 V v1 v2 => ?_)
    · rw [fitEE] at q0
      have vo : ∀ b, b ≠ 1 → b ≠ 172 → (mI V 1 1 0).1 b = u.1 b := fun b b1 b2 => by rw [mI_r b1]; exact v1 b b2
      have e6 := vo 236 (by omega) (by omega)
      have e5 := vo 235 (by omega) (by omega)
      refine m_taste (N := N) (by omega) (by rw [e6]; exact hg) (by rw [e6]; exact hok) (by rw [e6]; exact hw) ew h1N hN (by rw [vo 234 (by omega) (by omega)]; exact t2) (by rw [e6, e5]; exact hp) (by rw [e5]; exact hbx) (fun _ V2 x1 x2 => ?_) (fun q1 V2 x1 x2 => ?_)
      · refine hK _ _ ?_
        have hV2 : ∀ b, b ≠ 1 → b ≠ 172 → b ≠ 256 → b ≠ 234 → V2.1 b = u.1 b := fun b b1 b2 b3 b4 => by rw [x1 b b3, mI_r b4, mI_r b4]; exact vo b b1 b2
        have h1 : ∀ k, k ≠ 1 → V2.1 1 k = u.1 1 k := fun k hk => by rw [x1 1 (by omega), mI_r (by omega), mI_r (by omega), mI_n (by omega), v1 1 (by omega)]
        have h234 : ∀ k, k ≠ 0 → k ≠ 2 → V2.1 234 k = u.1 234 k := fun k k0 k2 => by rw [x1 234 (by omega), mI_n (by omega), mI_n (by omega)]; exact congrFun (vo 234 (by omega) (by omega)) k
        have ag : ∀ rel : Nat → Nat → Bool, (∀ j, rel 172 j = false) → (∀ j, rel 256 j = false) → rel 1 1 = false → rel 234 2 = false → rel 234 0 = false → AG rel u V2 := by
          intro rel r1 r2 r3 r4 r5 a j ha
          by_cases a1 : a = 1
          · subst a1
            by_cases j1 : j = 1
            · subst j1; rw [r3] at ha; cases ha
            · exact h1 j j1
          · by_cases a2 : a = 234
            · subst a2
              by_cases j0 : j = 0
              · subst j0; rw [r5] at ha; cases ha
              · by_cases j2 : j = 2
                · subst j2; rw [r4] at ha; cases ha
                · exact h234 j j0 j2
            · by_cases a3 : a = 172
              · subst a3; rw [r1] at ha; cases ha
              · by_cases a4 : a = 256
                · subst a4; rw [r2] at ha; cases ha
                · rw [hV2 a a1 a3 a4 a2]
        refine h.tape (h.1.empty ?_ ?_ (hV2 2 (by omega) (by omega) (by omega) (by omega)) (hV2 235 (by omega) (by omega) (by omega) (by omega)) (h1 2 (by omega)) (h234 10 (by omega) (by omega))) (ag _ (fun _ => rfl) (fun _ => rfl) rfl rfl rfl) (ag _ (fun _ => rfl) (fun _ => rfl) rfl rfl rfl) (ag _ (fun _ => rfl) (fun _ => rfl) rfl rfl rfl) (ag _ (fun _ => rfl) (fun _ => rfl) rfl rfl rfl) (x2.trans v2)
        · rw [x1 1 (by omega), mI_r (by omega), mI_r (by omega), mI_s]; rfl
        · rw [x1 234 (by omega), mI_s]; rfl
      · rw [e6, e5] at q1
        exact absurd q0 q1
    · rw [fitEE] at q0 v1 ⊢
      rw [apE] at v1
      generalize hco : coI (fitF (u.1 236) (u.1 235) N) (nI (2 ^ nK (u.1 236) - 1)) (2 ^ nK (u.1 236)) = co at v1
      generalize htl : tlV (tlF (u.1 236) (apF (u.1 236) (u.1 235) N (2 ^ nK (u.1 236))) (nA (u.1 236))) = tl at v1
      have vo : ∀ b, b ≠ 1 → b ≠ 171 → b ≠ 172 → (mI V 1 1 0).1 b = u.1 b := fun b b1 b3 b2 => by rw [mI_r b1, v1 b b2, mI_r b3, mI_r b3]
      have e6 := vo 236 (by omega) (by omega) (by omega)
      have e5 := vo 235 (by omega) (by omega) (by omega)
      refine m_taste (N := N) (by omega) (by rw [e6]; exact hg) (by rw [e6]; exact hok) (by rw [e6]; exact hw) ew h1N hN (by rw [vo 234 (by omega) (by omega) (by omega)]; exact t2) (by rw [e6, e5]; exact hp) (by rw [e5]; exact hbx) (fun q1 V2 x1 x2 => ?_) (fun _ V2 x1 x2 => ?_)
      · rw [e6, e5] at q1
        exact absurd q1 q0
      · rw [e6, e5] at x1 ⊢
        rw [hco, htl] at x1
        refine hK _ _ ?_
        have hV2 : ∀ b, b ≠ 1 → b ≠ 171 → b ≠ 172 → b ≠ 256 → b ≠ 234 → V2.1 b = u.1 b := fun b b1 b5 b2 b3 b4 => by rw [x1 b b3, mI_r b4, mI_r b4, mI_r b4, mI_r b4]; exact vo b b1 b5 b2
        have h1 : ∀ k, k ≠ 1 → V2.1 1 k = u.1 1 k := fun k hk => by rw [x1 1 (by omega), mI_r (by omega), mI_r (by omega), mI_r (by omega), mI_r (by omega), mI_n (by omega), v1 1 (by omega), mI_r (by omega), mI_r (by omega)]
        have h234 : ∀ k, k ≠ 0 → k ≠ 2 → k ≠ 45 → k ≠ 46 → V2.1 234 k = u.1 234 k := fun k k0 k2 k3 k4 => by rw [x1 234 (by omega), mI_n (by omega), mI_n (by omega), mI_n (by omega), mI_n (by omega)]; exact congrFun (vo 234 (by omega) (by omega) (by omega)) k
        have h171 : ∀ k, V2.1 171 k = (mI (mI u 171 3 co) 171 4 tl).1 171 k := fun k => by rw [x1 171 (by omega), mI_r (by omega), mI_r (by omega), mI_r (by omega), mI_r (by omega), mI_r (by omega), v1 171 (by omega)]
        have ag : ∀ rel : Nat → Nat → Bool, (∀ j, rel 172 j = false) → (∀ j, rel 256 j = false) → (∀ j, rel 171 j = false) → rel 1 1 = false → rel 234 2 = false → rel 234 0 = false → rel 234 45 = false → rel 234 46 = false → AG rel u V2 := by
          intro rel r1 r2 r6 r3 r4 r5 r7 r8 a j ha
          by_cases a1 : a = 1
          · subst a1
            by_cases j1 : j = 1
            · subst j1; rw [r3] at ha; cases ha
            · exact h1 j j1
          · by_cases a2 : a = 234
            · subst a2
              by_cases j0 : j = 0
              · subst j0; rw [r5] at ha; cases ha
              · by_cases j2 : j = 2
                · subst j2; rw [r4] at ha; cases ha
                · by_cases j3 : j = 45
                  · subst j3; rw [r7] at ha; cases ha
                  · by_cases j4 : j = 46
                    · subst j4; rw [r8] at ha; cases ha
                    · exact h234 j j0 j2 j3 j4
            · by_cases a3 : a = 172
              · subst a3; rw [r1] at ha; cases ha
              · by_cases a4 : a = 256
                · subst a4; rw [r2] at ha; cases ha
                · by_cases a5 : a = 171
                  · subst a5; rw [r6] at ha; cases ha
                  · rw [hV2 a a1 a5 a3 a4 a2]
        have ht : TapeR V2 := by
          refine h.1.empty ?_ ?_ (hV2 2 (by omega) (by omega) (by omega) (by omega) (by omega)) (hV2 235 (by omega) (by omega) (by omega) (by omega) (by omega)) (h1 2 (by omega)) (h234 10 (by omega) (by omega) (by omega) (by omega))
          · rw [x1 1 (by omega), mI_r (by omega), mI_r (by omega), mI_r (by omega), mI_r (by omega), mI_s]; rfl
          · rw [x1 234 (by omega), mI_n (by omega), mI_n (by omega), mI_s]; rfl
        have hk : KeptR V2 := by
          obtain ⟨k1, k2, k3, k4, k5, k6, k7, k8, k9⟩ := h.2.2.1
          unfold KeptR
          rw [h171 3, h171 4, h171 5, hV2 160 (by omega) (by omega) (by omega) (by omega) (by omega), hV2 165 (by omega) (by omega) (by omega) (by omega) (by omega), hV2 169 (by omega) (by omega) (by omega) (by omega) (by omega), hV2 170 (by omega) (by omega) (by omega) (by omega) (by omega), hV2 173 (by omega) (by omega) (by omega) (by omega) (by omega), hV2 0 (by omega) (by omega) (by omega) (by omega) (by omega), hV2 149 (by omega) (by omega) (by omega) (by omega) (by omega), hV2 254 (by omega) (by omega) (by omega) (by omega) (by omega), hV2 255 (by omega) (by omega) (by omega) (by omega) (by omega), hV2 257 (by omega) (by omega) (by omega) (by omega) (by omega), hV2 259 (by omega) (by omega) (by omega) (by omega) (by omega), h234 42 (by omega) (by omega) (by omega) (by omega), h234 43 (by omega) (by omega) (by omega) (by omega), h234 44 (by omega) (by omega) (by omega) (by omega), h234 47 (by omega) (by omega) (by omega) (by omega), h234 48 (by omega) (by omega) (by omega) (by omega), h234 41 (by omega) (by omega) (by omega) (by omega), h234 39 (by omega) (by omega) (by omega) (by omega), h234 51 (by omega) (by omega) (by omega) (by omega), h234 55 (by omega) (by omega) (by omega) (by omega), x1 234 (by omega)]
          simp (disch := omega) only [mI_n, mI_s]
          exact ⟨k1, trivial, trivial, k4, k5, k6, k7, k8, k9⟩
        exact ⟨ht, h.2.1.congr (by rw [x2]; exact congrFun v2 3), hk, World5.congr h.2.2.2.1 (ag _ (fun _ => rfl) (fun _ => rfl) (fun _ => rfl) rfl rfl rfl rfl rfl) (by rw [x2]; exact congrFun v2 6) (by rw [x2]; exact congrFun v2 241), h.2.2.2.2.1.congr (ag _ (fun _ => rfl) (fun _ => rfl) (fun _ => rfl) rfl rfl rfl rfl rfl), h.2.2.2.2.2.congr (ag _ (fun _ => rfl) (fun _ => rfl) (fun _ => rfl) rfl rfl rfl rfl rfl) (by rw [x2]; exact congrFun v2 176) (by rw [x2]; exact congrFun v2 206) (by rw [x2]; exact congrFun v2 243)⟩
  · obtain ⟨d, rfl, hd2⟩ := dpos hd1
    refine CI_of mk_X2_guessTaste.2.2 rfl (B_GS_guessTaste_0 (c_pairs (by omega) hg hc t1 hL (fun N q1 q2 q3 q4 => absurd ⟨N, q1, q2, q3, (prs2 N q3).mp q4⟩ good) (fun _ => ⟨fun q => absurd rfl q, fun _ => mbad (Or.inr fun N q1 q2 q3 q4 => good ⟨N, q1, q2, q3, q4⟩)⟩)))
end PTaste
