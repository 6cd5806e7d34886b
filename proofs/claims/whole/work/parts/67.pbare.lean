section PBare
variable {X : Xc} {d : Nat} {u : Mm}
/-- the first day on which one is evicted -/
def brR (g : Nat → Int32) (D : DS) (t m : Nat) : Int32 := if fstI (fun i => decide (gn g D i ≠ 0)) m = -1 then -1 else nI t + fstI (fun i => decide (gn g D i ≠ 0)) m
theorem xor_0 {x y : Int32} : x ^^^ y = 0 ↔ x = y := by
  constructor
  · intro h
    refine tb_ext fun i hi => ?_
    have := congrArg (fun z => tb z i) h
    simp only [tb_xor, tb_0] at this
    revert this
    cases tb x i <;> cases tb y i <;> simp
  · intro h
    rw [h]
    simp
theorem and255 {x : Int32} (h : ∀ i, i < 32 → tb x i = true → i < 8) : x &&& 255 = x := by
  refine tb_ext fun i hi => ?_
  rw [tb_and]
  have h8 : ∀ i, i < 8 → tb 255 i = true := by decide +kernel
  cases hx : tb x i
  · rfl
  · rw [h8 i (h i hi hx)]; rfl
theorem p_bare {p1 p2 : Int32} (hd : 7 ≤ d) (h : Rl u) : PairI X d 158 294 [.int p1, .int p2] u := by
  intro K hK
  obtain ⟨hg, hc, hok, hr, -⟩ := h.2.2.2.1
  have hA := hg.1.2.2.2.2.2.1
  have hQ := hg.1.2.1
  have hW := hg.1.2.2.2.2.2.2.2
  have hst := Stt.rf hok
  obtain ⟨day, hday, e198⟩ := hok.1
  obtain ⟨d, rfl, hd1⟩ := dpos hd
  have mbad : p1 < 1 ∨ 60 < p1 → CI X (d + 1) 294 [.ref 234, .int p1, .int p2] u (fun w2 u2 => K (-1) w2 u2) := by
    intro hb
    refine CI_of mk_X13_bare.2.2 rfl (B_M_bare_0 (c_misIn (by omega) (fun z1 z2 => ?_) (fun _ => ⟨fun z => absurd rfl z, fun _ => hK _ _ h.th⟩)))
    exact (hb.elim z1 z2).elim
  refine CI_of mk_X12_bare.2.2 rfl (B_S_bare_0 ⟨fun q => mbad (Or.inl q), fun q => ⟨fun q2 => ?_, fun q2 => mbad (Or.inr (Int32.not_le.mp q2))⟩⟩)
  have q0 : ¬ p1 < 0 := by
    intro z
    rw [Int32.lt_iff_toInt_lt] at q z
    have : (1 : Int32).toInt = 1 := rfl
    have : (0 : Int32).toInt = 0 := rfl
    omega
  obtain ⟨m, hm, rfl⟩ := nI_of2 (n := 60) rfl q0 q2
  obtain ⟨hmn1, hmn2⟩ := mnD_le (n := m) hday
  have gind : ∀ (t : Nat → Int32) (sn : Int32) i, gn (u.1 236) (u.1 236, t, p2, sn) i = gn (u.1 236) (u.1 236, (fun _ => 0), p2, 0) i := by
    intro t sn i
    unfold gn
    rw [(daysF_ind (g := u.1 236) (D := (u.1 236, t, p2, sn)) (E := (u.1 236, (fun _ => 0), p2, 0)) rfl rfl (i + 1)).1, (daysF_ind (g := u.1 236) (D := (u.1 236, t, p2, sn)) (E := (u.1 236, (fun _ => 0), p2, 0)) rfl rfl i).1]
  have g255 : ∀ i, i < mnD m day → gn (u.1 236) (u.1 236, (fun _ => 0), p2, 0) i &&& 255 = gn (u.1 236) (u.1 236, (fun _ => 0), p2, 0) i := by
    intro i hi
    refine and255 fun k hk hx => ?_
    have h1 := (daysF_ok (D := (u.1 236, (fun _ => 0), p2, 0)) hg hst e198 (i + 1) (by omega)).1
    have h2 := (daysF_ok (D := (u.1 236, (fun _ => 0), p2, 0)) hg hst e198 i (by omega)).1
    have := h1.2.2.2.1 k hk (by rw [gn_tb hg hst e198 (by omega) hk, hx, Bool.or_true])
    omega
  generalize hw : brR (u.1 236) (u.1 236, (fun _ => 0), p2, 0) day (mnD m day) = w
  have wnone : (∀ i, i < mnD m day → gn (u.1 236) (u.1 236, (fun _ => 0), p2, 0) i = 0) → w = -1 := by
    intro hz
    rw [← hw, brR, fstI_none (fun i hi => by simpa using hz i hi), if_pos rfl]
  have wsome : ∀ i, i < mnD m day → (∀ j, j < i → gn (u.1 236) (u.1 236, (fun _ => 0), p2, 0) j = 0) → gn (u.1 236) (u.1 236, (fun _ => 0), p2, 0) i ≠ 0 → w = nI (day + i) := by
    intro i hi hz hnz
    rw [← hw, brR, fstI_some (by simpa using hnz) (fun j hj => by simpa using hz j hj) hi (by omega), if_neg (nI_m1 (by omega)), nI_add]
  have model : ∀ l, CI X (d + 1) 294 [.ref 234, .int (nI m), .int p2] (lm u 35 l) (fun w2 u2 => K w w2 u2) := by
    intro l
    refine CI_of mk_X13_bare.2.2 rfl (B_M_bare_0 ?_)
    have hR := (Rl_spare (l := l) h).th (x := 0)
    generalize hU : mI (lm u 35 l) 234 0 0 = U at hR
    have u236 : U.1 236 = u.1 236 := by
      rw [← hU]
      simp (disch := omega) only [mI_r, lm_o]
    refine c_misIn (by omega) (fun _ _ => ⟨fun _ => c_mlay (by omega) ?_, fun z => absurd z (by decide)⟩) (fun z => ?_)
    · have hR2 := Rl_240 (f := fun k => if k < 92 then U.1 236 (198 + k) else U.1 240 k) hR
      generalize hV : mR U 240 (fun k => if k < 92 then U.1 236 (198 + k) else U.1 240 k) = V at hR2
      have v236 : V.1 236 = u.1 236 := by
        rw [← hV, mR_n (by omega), u236]
      have v240 : ∀ k, k < 92 → V.1 240 k = u.1 236 (198 + k) := by
        intro k hk
        rw [← hV, mR_s, if_pos hk, u236]
      have eV : mI V 234 27 p2 = mD V (daysF (u.1 236) (u.1 236, V.1 247, p2, V.1 234 28) 0) := by
        have e1 := md_eta V
        rw [v236] at e1
        have := md_sd V (u.1 236) (V.1 247) (V.1 234 27) (V.1 234 28) p2
        rw [e1] at this
        exact this
      rw [eV]
      have gi := gind (V.1 247) (V.1 234 28)
      generalize hD : (u.1 236, V.1 247, p2, V.1 234 28) = D at gi ⊢
      have d1 : D.1 = u.1 236 := by rw [← hD]
      have hstD : Stt (u.1 236) D.1 := by rw [d1]; exact hst
      have eD : D.1 198 = nI day := by rw [d1]; exact e198
      have back : ∀ j, day + j ≤ 400 → ∀ K' : Mm → Prop, (∀ v, Rl v → K' v) → CV X d 292 [.ref 234] (mD V (daysF (u.1 236) D j)) K' := by
        intro j hj K' hk
        refine c_mback (by omega) (hk _ ?_)
        have ho := daysF_Out hg hstD eD j hj
        rw [d1] at ho
        rw [md_236, md_o (by omega) (by omega) (by omega), md_mR]
        have : rst (V.1 240) (daysF (u.1 236) D j).1 = V.1 236 := by
          rw [v236]
          funext k
          unfold rst
          split
          · rw [v240 _ (by omega)]
            exact congrArg (u.1 236) (by omega)
          · exact ho k (by omega)
        rw [this]
        exact Rl_md hR2
      have stop : ∀ j (x4 : Int32), day + j ≤ 400 → 1 ≤ j → ¬ w = -1 → VI X d 294 (fun w2 u2 => K w w2 u2) 31 [some (.ref 234), some (.int (nI m)), some (.int p2), some (.int w), some (.int x4), none] [] (mD V (daysF (u.1 236) D j)) := by
        intro j x4 hj h1 hnw
        refine B_M_bare_31 ⟨fun _ => back j hj _ fun v hv => hK _ _ hv, fun _ => ⟨fun _ => back j hj _ fun v hv => hK _ _ hv, fun z => absurd z hnw⟩⟩
      suffices hz : ∀ k j, j + k = mnD m day → (∀ i, i < j → gn (u.1 236) D i = 0) → VI X d 294 (fun w2 u2 => K w w2 u2) 31 [some (.ref 234), some (.int (nI m)), some (.int p2), some (.int (-1)), some (.int (nI j)), none] [] (mD V (daysF (u.1 236) D j)) from hz (mnD m day) 0 (by omega) (fun i hi => absurd hi (by omega))
      intro k
      induction k with
      | zero =>
        intro j hj hz
        have ej : j = mnD m day := by omega
        have ew : w = -1 := wnone (fun i hi => (gi i).symm.trans (hz i (by omega)))
        have ed := (daysF_ok hg hstD eD j (by omega)).2
        refine B_M_bare_31 ?_
        rw [md_236, ed]
        rw [ew]
        simp (disch := omega) only [la1, la2, lt1, lt2, nI_add, pk_mul, nI_clamp, vpn, nI_leI, nI_ltI, nI_eq, ll1, ll2, ll3, ll4, le1, le2, true_and, and_true, not_true_eq_false, not_false_eq_true, forall_const, false_implies, implies_true, if_true, if_false, ite_true, ite_false, and_self, false_and, and_false]
        refine ⟨fun _ => back j (by omega) _ fun v hv => hK _ _ hv, fun y => ⟨fun _ => back j (by omega) _ fun v hv => hK _ _ hv, fun y2 => ?_⟩⟩
        exfalso
        have := ej
        unfold mnD at this
        split at this <;> omega
      | succ k ih =>
        intro j hj hz
        have ed := (daysF_ok hg hstD eD j (by omega))
        refine B_M_bare_31 ?_
        rw [md_236, ed.2]
        simp (disch := omega) only [la1, la2, lt1, lt2, nI_add, pk_mul, nI_clamp, vpn, nI_leI, nI_ltI, nI_eq, ll1, ll2, ll3, ll4, le1, le2, true_and, and_true, not_true_eq_false, not_false_eq_true, forall_const, false_implies, implies_true, if_true, if_false, ite_true, ite_false, and_self, false_and, and_false]
        refine ⟨fun y => ?_, fun y => ⟨fun y2 => ?_, fun y2 => ?_⟩⟩
        · exfalso; omega
        · exfalso; omega
        · refine c_moneDay (by omega) hg ed.1 ?_
          have ed1 := (daysF_ok hg hstD eD (j + 1) (by omega)).2
          have eg : gn (u.1 236) D j = 0 ↔ (daysF (u.1 236) D (j + 1)).1 201 = (daysF (u.1 236) D j).1 201 := xor_0
          change ((daysF (u.1 236) D (j + 1)).1 201 = (daysF (u.1 236) D j).1 201 → _) ∧ (¬ (daysF (u.1 236) D (j + 1)).1 201 = (daysF (u.1 236) D j).1 201 → VI X d 294 (fun w2 u2 => K w w2 u2) 31 [some (.ref 234), some (.int (nI m)), some (.int p2), some (.int ((daysF (u.1 236) D (j + 1)).1 198 - 1)), some (.int (nI (j + 1))), none] [] (mD V (daysF (u.1 236) D (j + 1))))
          refine ⟨fun y3 => ?_, fun y3 => ?_⟩
          · refine ih (j + 1) (by omega) fun i hi => ?_
            by_cases ei : i = j
            · subst ei; exact eg.mpr y3
            · exact hz i (by omega)
          · have ew : w = nI (day + j) := wsome j (by omega) (fun i hi => (gi i).symm.trans (hz i hi)) (by rw [← gi]; exact fun z => y3 (eg.mp z))
            rw [ed1, show day + (j + 1) = day + j + 1 from rfl, nI_pred, ← ew]
            exact stop (j + 1) _ (by omega) (by omega) (by rw [ew]; exact nI_m1 (by omega))
    · rcases z with z | z
      · exact absurd z q
      · exact absurd q2 (Int32.not_le.mpr z)
  have e35 : u = lm u 35 (fun c => u.1 (35 + c)) := (lm_eta u 35).symm
  suffices hz : CV X d 42 [.ref 35, .ref 20] (lm u 35 (fun c => u.1 (35 + c))) (fun u1 => CI X d 52 [.ref 35, .int (nI m), .int p2, .int (u1.1 5 3), .int (255)] u1 (fun w2 u2 => CI X (d + 1) 294 [.ref 234, .int (nI m), .int p2] u2 (fun w2' u2' => K w2 w2' u2'))) by rwa [← e35] at hz
  refine c_lcopy35_20 (by omega) fun l2 hl2 => ?_
  have ql : LifeP (u.1 236) (u.1 236) l2 := hl2.P hA hQ hW hr
  rw [show (lm u 35 l2).1 5 3 = u.1 236 5 by rw [lm_o (by omega)]; exact hc.1.2.2.2.2.2]
  refine c_till35 (D := (u.1 236, (fun _ => 0), p2, 0)) (by omega) hg hc hst e198 hday hm ql (fun y l3 => ?_) (fun i hi y2 y3 l3 => ?_)
  · have ew := wnone (fun i hi => by rw [← g255 i hi]; exact y i hi)
    rw [← ew]
    exact model l3
  · have ew := wsome i hi (fun j hj => by rw [← g255 j (by omega)]; exact y2 j hj) (by rw [← g255 i hi]; exact y3)
    rw [← ew]
    exact model l3
/-- in how many of n years one stays -/
def odN (g : Nat → Int32) (a : Nat) (sd : Int32) (m : Nat) : Nat → Nat
  | 0 => 0
  | i + 1 => if tb ((daysF g (g, (fun _ => 0), sd + nI i, 0) m).1 201) a = false then odN g a sd m i + 1 else odN g a sd m i
theorem odN_le {g : Nat → Int32} {a m : Nat} {sd : Int32} : ∀ i, odN g a sd m i ≤ i
  | 0 => Nat.le_refl _
  | i + 1 => by
    have := odN_le (g := g) (a := a) (m := m) (sd := sd) i
    unfold odN
    split <;> omega
theorem p_odds {p1 p2 p3 : Int32} (hd : 7 ≤ d) (h : Rl u) : PairI X d 161 295 [.int p1, .int p2, .int p3] u := by
  intro K hK
  obtain ⟨hg, hc, hok, hr, -⟩ := h.2.2.2.1
  have hA := hg.1.2.2.2.2.2.1
  have hQ := hg.1.2.1
  have hW := hg.1.2.2.2.2.2.2.2
  have hst := Stt.rf hok
  obtain ⟨cq, ck, ca, cw⟩ := cityN hg hc
  obtain ⟨m3, m2, m4, m0, -⟩ := hdA hg hst
  obtain ⟨day, hday, e198⟩ := hok.1
  obtain ⟨d, rfl, hd1⟩ := dpos hd
  have e3 : u.1 20 3 = u.1 236 201 := hr.1.2.2.2
  have mbad : ((p1 < 0 ∨ nI (nA (u.1 236)) ≤ p1) ∨ p2 < 1 ∨ 30 < p2) → CI X (d + 1) 295 [.ref 234, .int p1, .int p2, .int p3] u (fun w2 u2 => K (-1) w2 u2) := by
    intro hb
    refine CI_of mk_X13_odds.2.2 rfl (B_M_odds_0 (c_misStatue (n := nA (u.1 236)) (by omega) m3 (by omega) (fun a ha e => ⟨fun z => absurd z (by decide), fun _ => ?_⟩) (fun _ => ⟨fun _ => hK _ _ h.th, fun z => absurd rfl z⟩)))
    refine c_misIn (by omega) (fun y1 y2 => ?_) (fun _ => ⟨fun z => absurd rfl z, fun _ => hK _ _ h.th⟩)
    rcases hb with q | q | q
    · subst e; exact (no2 ha (by omega) q).elim
    · exact absurd q y1
    · exact absurd q y2
  refine CI_of mk_X12_odds.2.2 rfl (B_S_odds_0 (c_has5 (s := 2) (n := nA (u.1 236)) (by omega) rfl (by omega) ca (by omega) (fun a ha e => ?_) (fun q => ⟨fun _ => mbad (Or.inl q), fun z => absurd rfl z⟩)))
  refine ⟨fun z => absurd z (by decide), fun _ => ⟨fun q => mbad (Or.inr (Or.inl q)), fun q => ⟨fun q2 => ?_, fun q2 => mbad (Or.inr (Or.inr (Int32.not_le.mp q2)))⟩⟩⟩
  subst e
  have q0 : ¬ p2 < 0 := by
    intro z
    rw [Int32.lt_iff_toInt_lt] at q z
    have : (1 : Int32).toInt = 1 := rfl
    have : (0 : Int32).toInt = 0 := rfl
    omega
  obtain ⟨n, hn, rfl⟩ := nI_of2 (n := 30) rfl q0 q2
  obtain ⟨hmn1, hmn2⟩ := mnD_le (n := 20) hday
  have model : ∀ l, CI X (d + 1) 295 [.ref 234, .int (nI a), .int (nI n), .int p3] (lm u 35 l) (fun w2 u2 => K (nI (odN (u.1 236) a p3 (mnD 20 day) n)) w2 u2) := by
    intro l
    refine CI_of mk_X13_odds.2.2 rfl (B_M_odds_0 ?_)
    have hR := (Rl_spare (l := l) h).th (x := 0)
    generalize hU : mI (lm u 35 l) 234 0 0 = U at hR
    have u236 : U.1 236 = u.1 236 := by
      rw [← hU]
      simp (disch := omega) only [mI_r, lm_o]
    refine c_misStatue (n := nA (u.1 236)) (by omega) (by rw [u236]; exact m3) (by omega) (fun a' ha' e => ⟨fun z => absurd z (by decide), fun _ => ?_⟩) (fun z => (no2 ha (by omega) z).elim)
    refine c_misIn (by omega) (fun _ _ => ⟨fun _ => c_mlay (by omega) ?_, fun z => absurd z (by decide)⟩) (fun z => ?_)
    · have hR2 := Rl_240 (f := fun k => if k < 92 then U.1 236 (198 + k) else U.1 240 k) hR
      generalize hV : mR U 240 (fun k => if k < 92 then U.1 236 (198 + k) else U.1 240 k) = V at hR2
      have v236 : V.1 236 = u.1 236 := by
        rw [← hV, mR_n (by omega), u236]
      have v240 : ∀ k, k < 92 → V.1 240 k = u.1 236 (198 + k) := by
        intro k hk
        rw [← hV, mR_s, if_pos hk, u236]
      have eV : V = md V (u.1 236) (V.1 247) (V.1 234 27) (V.1 234 28) := by
        have := (md_eta V).symm
        rwa [v236] at this
      rw [eV]
      have back : ∀ (s t : Nat → Int32) (sd sn : Int32), Out (u.1 236) s → mR (md V s t sd sn) 236 (rst (V.1 240) s) = md V (u.1 236) t sd sn := by
        intro s t sd sn ho
        rw [md_mR]
        have : rst (V.1 240) s = u.1 236 := by
          funext k
          unfold rst
          split
          · rw [v240 _ (by omega)]
            exact congrArg (u.1 236) (by omega)
          · exact ho k (by omega)
        rw [this]
      refine lupR (n := n) (W := fun j (z : (Nat → Int32) × Int32 × Int32) => VI X d 295 (fun w2 u2 => K (nI (odN (u.1 236) a p3 (mnD 20 day) n)) w2 u2) 35 [some (.ref 234), some (.int (nI a)), some (.int (nI n)), some (.int p3), some (.int (nI (odN (u.1 236) a p3 (mnD 20 day) j))), some (.int (nI j))] [] (md V (u.1 236) z.1 z.2.1 z.2.2))
        (I := fun j z => True) ?_ (V.1 247, V.1 234 27, V.1 234 28) trivial
      rintro j ⟨t, sd, sn⟩ hj - ih
      refine B_M_odds_35 ?_
      simp (disch := omega) only [la1, la2, lt1, lt2, nI_add, pk_mul, nI_clamp, vpn, nI_leI, nI_ltI, nI_eq, ll1, ll2, ll3, ll4, le1, le2, true_and, and_true, not_true_eq_false, not_false_eq_true, forall_const, false_implies, implies_true, if_true, if_false, ite_true, ite_false, and_self, false_and, and_false]
      refine ⟨fun y => ?_, fun y => ?_⟩
      · rw [show j = n by omega]
        have := Rl_md (t := t) (sd := sd) (sn := sn) hR2
        rw [v236] at this
        exact hK _ _ this
      · have ih := ih (by omega)
        have hle := odN_le (g := u.1 236) (a := a) (m := mnD 20 day) (sd := p3) j
        rw [odN] at ih
        rw [md_sd]
        refine c_mpass (D := (u.1 236, t, p3 + nI j, sn)) (n := 20) (by omega) hg hst e198 hday (by omega) ?_
        have hOut := daysF_Out (D := (u.1 236, t, p3 + nI j, sn)) hg hst e198 (mnD 20 day) hmn1
        rw [(daysF_ind (g := u.1 236) (D := (u.1 236, (fun _ => 0), p3 + nI j, 0)) (E := (u.1 236, t, p3 + nI j, sn)) rfl rfl (mnD 20 day)).1] at ih
        generalize daysF (u.1 236) (u.1 236, t, p3 + nI j, sn) (mnD 20 day) = E at hOut ih ⊢
        obtain ⟨es, et, esd, esn⟩ := E
        dsimp only at hOut ih ⊢
        refine c_misEvicted (by omega) (by omega) (fun y2 => ?_) (fun y2 => ?_)
        · have y2 : tb (es 201) a = true := y2
          rw [y2, if_neg (by decide)] at ih
          refine ⟨fun _ => c_mback (by omega) ?_, fun z => absurd z (by decide)⟩
          rw [md_236, md_o (by omega) (by omega) (by omega), back es et esd esn hOut]
          exact ih (et, esd, esn) trivial
        · have y2 : tb (es 201) a = false := y2
          rw [if_pos y2] at ih
          refine ⟨fun z => absurd rfl z, fun _ => c_mback (by omega) ?_⟩
          rw [md_236, md_o (by omega) (by omega) (by omega), back es et esd esn hOut]
          exact ih (et, esd, esn) trivial
    · rcases z with z | z
      · exact absurd z q
      · exact absurd q2 (Int32.not_le.mpr z)
  have e35 : u = lm u 35 (fun c => u.1 (35 + c)) := (lm_eta u 35).symm
  rw [e3]
  refine c_bit (by omega) (by omega) (fun y => ?_) (fun y => ?_)
  · refine ⟨fun z => absurd z (by decide), fun _ => ?_⟩
    have e0 : ∀ j, odN (u.1 236) a p3 (mnD 20 day) j = 0 := by
      intro j
      induction j with
      | zero => rfl
      | succ j ih =>
        rw [odN, if_neg, ih]
        rw [ev_mono (D := (u.1 236, (fun _ => 0), p3 + nI j, 0)) hg hst e198 (by omega) y (mnD 20 day) hmn1]
        decide
    have := model (fun c => u.1 (35 + c))
    rw [e0, ← e35] at this
    exact this
  · refine ⟨fun _ => ?_, fun z => absurd rfl z⟩
    suffices hz : VI X d 161 (fun w1 u1 => CI X (d + 1) 295 [.ref 234, .int (nI a), .int (nI n), .int p3] u1 (fun w2 u2 => K w1 w2 u2)) 47 [some (.ref 0), some (.int (nI a)), some (.int (nI n)), some (.int p3), some (.int (nI (odN (u.1 236) a p3 (mnD 20 day) 0))), some (.int (nI 0))] [] (lm u 35 (fun c => u.1 (35 + c))) by rwa [← e35] at hz
    refine lupR (n := n) (W := fun j (z : Nat → Nat → Int32) => VI X d 161 (fun w1 u1 => CI X (d + 1) 295 [.ref 234, .int (nI a), .int (nI n), .int p3] u1 (fun w2 u2 => K w1 w2 u2)) 47 [some (.ref 0), some (.int (nI a)), some (.int (nI n)), some (.int p3), some (.int (nI (odN (u.1 236) a p3 (mnD 20 day) j))), some (.int (nI j))] [] (lm u 35 z))
      (I := fun j z => True) ?_ _ trivial
    rintro j l hj - ih
    refine B_S_odds_47 ?_
    simp (disch := omega) only [la1, la2, lt1, lt2, nI_add, pk_mul, nI_clamp, vpn, nI_leI, nI_ltI, nI_eq, ll1, ll2, ll3, ll4, le1, le2, true_and, and_true, not_true_eq_false, not_false_eq_true, forall_const, false_implies, implies_true, if_true, if_false, ite_true, ite_false, and_self, false_and, and_false]
    refine ⟨fun y2 => ?_, fun y2 => ?_⟩
    · rw [show j = n by omega]
      exact model l
    · refine c_lcopy35_20 (by omega) fun l2 hl2 => ?_
      have ql : LifeP (u.1 236) (u.1 236) l2 := hl2.P hA hQ hW hr
      have ih := ih (by omega)
      rw [odN] at ih
      have t1 : ∀ i, i < 32 → tb ((1 : Int32) <<< (nI a &&& 31)) i = decide (i = a) := fun i hi => tb_one a (by omega) i hi
      have z0 : ((1 : Int32) <<< (nI a &&& 31)) &&& u.1 236 201 = 0 := by
        rw [and_0]
        intro i hi hx
        rw [t1 i hi, decide_eq_true_eq] at hx
        rw [hx]; exact y
      have ti := till_iff (D := (u.1 236, (fun _ => 0), p3 + nI j, 0)) (set := (1 : Int32) <<< (nI a &&& 31)) hg hst e198 z0 (mnD 20 day) hmn1
      have tt : ∀ x : Int32, ((1 : Int32) <<< (nI a &&& 31)) &&& x = 0 ↔ tb x a = false := by
        intro x
        rw [and_0]
        constructor
        · intro hh
          exact hh a (by omega) (by rw [t1 a (by omega)]; simp)
        · intro hh i hi hx
          rw [t1 i hi, decide_eq_true_eq] at hx
          rw [hx]; exact hh
      rw [show (lm u 35 l2).1 5 3 = u.1 236 5 by rw [lm_o (by omega)]; exact hc.1.2.2.2.2.2]
      refine c_till35 (n := 20) (D := (u.1 236, (fun _ => 0), p3 + nI j, 0)) (by omega) hg hc hst e198 hday (by omega) ql (fun y3 l3 => ?_) (fun i hi y3 y4 l3 => ?_)
      · rw [if_pos ((tt _).mp (ti.mp y3))] at ih
        exact ⟨fun z => absurd rfl z, fun _ => ih l3 trivial⟩
      · rw [if_neg (fun z => y4 (ti.mpr ((tt _).mpr z) i hi))] at ih
        exact ⟨fun _ => ih l3 trivial, fun z => absurd z (nI_m1 (by omega))⟩
end PBare
