theorem nar1 : vp_nar .boolean (1 : Int32) = 1 ∧ vp_nar .boolean (0 : Int32) = 0 := by decide
theorem prs_congr {g b c : Nat → Int32} {N : Nat} (hN : N ≤ 20) (h : ∀ i, i < 940 → b i = c i) (hp : prs g b N) : prs g c N := fun i hi => by
  rw [← h (2 * i) (by omega), ← h (2 * i + 1) (by omega)]; exact hp i hi
theorem fit_congr {g b c : Nat → Int32} {N j : Nat} (hN : N ≤ 20) (h : ∀ i, i < 940 → b i = c i) : fitF g b N j = fitF g c N j := by
  rw [Bool.eq_iff_iff, fitF_iff, fitF_iff]
  unfold kdF
  constructor
  · intro q i hi
    rw [← h (2 * i) (by omega), ← h (2 * i + 1) (by omega)]; exact q i hi
  · intro q i hi
    rw [h (2 * i) (by omega), h (2 * i + 1) (by omega)]; exact q i hi
section Taste2
variable {X : Xc} {d : Nat} {u : Mm} {g : Nat → Int32} {nm : Nat → Int64}
theorem c_mcameSo {K : Int32 → Mm → Prop} {N j : Nat} (hd : 2 ≤ d) (hg : HeadOk (u.1 236)) (hok : LifeOk (u.1 236) (u.1 236)) (hN : N ≤ 20) (hp : prs (u.1 236) (u.1 235) N) (hb : ∀ i, i < 940 → ∃ x, x < 256 ∧ u.1 235 i = nI x) (h1 : fitF (u.1 236) (u.1 235) N j = true → K 1 u) (h0 : fitF (u.1 236) (u.1 235) N j = false → K 0 u) : CI X d 282 [.ref 234, .int (nI (2 * N)), .int (nI j)] u K := by
  obtain ⟨d, rfl, hd1⟩ := dpos hd
  have hA := hg.1.2.2.2.2.2.1
  have hKK := hg.1.2.2.2.1
  refine CI_of mk_X13_cameSo.2.2 rfl (B_M_cameSo_0 ?_)
  suffices hz : (∀ i, i < 0 → tb (nI j) (kdF (u.1 236) (u.1 235) i) = decide (u.1 235 (2 * i + 1) = 1)) → VI X d 282 K 2 [some (.ref 234), some (.int (nI (2 * N))), some (.int (nI j)), some (.int (nI (2 * 0)))] [] u from hz (fun i hi => absurd hi (by omega))
  refine lup (n := N) (W := fun i => (∀ i', i' < i → tb (nI j) (kdF (u.1 236) (u.1 235) i') = decide (u.1 235 (2 * i' + 1) = 1)) → VI X d 282 K 2 [some (.ref 234), some (.int (nI (2 * N))), some (.int (nI j)), some (.int (nI (2 * i)))] [] u) ?_
  intro i hi ih hq
  refine B_M_cameSo_2 ?_
  simp (disch := omega) only [la1, la2, lt1, lt2, nI_add, pk_mul, nI_clamp, vpn, nI_leI, nI_ltI, nI_eq, ll1, ll2, ll3, ll4, le1, le2, true_and, and_true, not_true_eq_false, not_false_eq_true, forall_const, false_implies, implies_true, if_true, if_false, ite_true, ite_false, and_self, false_and, and_false]
  refine ⟨fun z => h1 (fitF_iff.mpr fun i' hi' => hq i' (by omega)), fun z => ⟨by omega, ?_⟩⟩
  obtain ⟨⟨a, ha, ea⟩, -⟩ := hp i (by omega)
  obtain ⟨⟨k, hk, ek⟩, -⟩ := hok.2.2.2.1 a ha
  have ekd : kdF (u.1 236) (u.1 235) i = k := by unfold kdF; rw [ea, nI_clamp (by omega), ek, nI_clamp (by omega)]
  rw [ea]
  simp (disch := omega) only [la1, la2, lt1, lt2, nI_add, pk_mul, nI_clamp, vpn, nI_leI, nI_ltI, nI_eq, ll1, ll2, ll3, ll4, le1, le2, true_and, and_true, not_true_eq_false, not_false_eq_true, forall_const, false_implies, implies_true, if_true, if_false, ite_true, ite_false, and_self, false_and, and_false, ek]
  have ih := ih (by omega)
  have no : tb (nI j) (kdF (u.1 236) (u.1 235) i) ≠ decide (u.1 235 (2 * i + 1) = 1) → K 0 u := fun w => h0 (Bool.eq_false_iff.mpr fun y => w (fitF_iff.mp y i (by omega)))
  have yes : tb (nI j) (kdF (u.1 236) (u.1 235) i) = decide (u.1 235 (2 * i + 1) = 1) → VI X d 282 K 2 [some (.ref 234), some (.int (nI (2 * N))), some (.int (nI j)), some (.int (nI (2 * i + 2)))] [] u := by
    intro w
    have := ih fun i' hi' => by
      by_cases e : i' = i
      · subst e; exact w
      · exact hq i' (by omega)
    rwa [show 2 * (i + 1) = 2 * i + 2 by omega] at this
  rw [ekd] at no yes
  refine ⟨by omega, c_mhas (by omega) (by omega) (fun y => ?_) (fun y => ?_)⟩
  · rw [y] at no yes
    simp (disch := omega) only [la1, la2, lt1, lt2, nI_add, pk_mul, nI_clamp, vpn, nI_leI, nI_ltI, nI_eq, ll1, ll2, ll3, ll4, le1, le2, true_and, and_true, not_true_eq_false, not_false_eq_true, forall_const, false_implies, implies_true, if_true, if_false, ite_true, ite_false, and_self, false_and, and_false, b01, b10]
    refine ⟨by omega, fun w => no (by rw [decide_eq_false w]; decide), fun w => yes (by rw [decide_eq_true w])⟩
  · rw [y] at no yes
    simp (disch := omega) only [la1, la2, lt1, lt2, nI_add, pk_mul, nI_clamp, vpn, nI_leI, nI_ltI, nI_eq, ll1, ll2, ll3, ll4, le1, le2, true_and, and_true, not_true_eq_false, not_false_eq_true, forall_const, false_implies, implies_true, if_true, if_false, ite_true, ite_false, and_self, false_and, and_false, b01, b10]
    refine ⟨by omega, fun w => yes (by rw [decide_eq_false w]), fun w => no (by rw [decide_eq_true w]; decide)⟩
/-- all that the model does with a tape of pairs -/
theorem m_taste {K : Int32 → Mm → Prop} {N : Nat} {p1 : Int32} {w : Nat} (hd : 4 ≤ d) (hg : HeadOk (u.1 236)) (hok : LifeOk (u.1 236) (u.1 236)) (hw : w < nW' (u.1 236)) (ew : p1 = nI w) (h1N : 1 ≤ N) (hN : N ≤ 20) (et : u.1 234 2 = nI (2 * N)) (hp : prs (u.1 236) (u.1 235) N) (hb : ∀ i, i < 940 → ∃ x, x < 256 ∧ u.1 235 i = nI x)
    (h0 : cnP (fitF (u.1 236) (u.1 235) N) (2 ^ nK (u.1 236)) = 0 → ∀ V : Mm, (∀ b, b ≠ 256 → V.1 b = (mI (mI u 234 0 0) 234 2 0).1 b) → V.2 = u.2 → K 0 V)
    (h1 : cnP (fitF (u.1 236) (u.1 235) N) (2 ^ nK (u.1 236)) ≠ 0 → ∀ V : Mm, (∀ b, b ≠ 256 → V.1 b = (mI (mI (mI (mI u 234 0 0) 234 2 0) 234 45 (coI (fitF (u.1 236) (u.1 235) N) (nI (2 ^ nK (u.1 236) - 1)) (2 ^ nK (u.1 236)))) 234 46 (tlV (tlF (u.1 236) (apF (u.1 236) (u.1 235) N (2 ^ nK (u.1 236))) (nA (u.1 236))))).1 b) → V.2 = u.2 → K (nI (cnP (fitF (u.1 236) (u.1 235) N) (2 ^ nK (u.1 236)))) V) : CI X d 283 [.ref 234, .int p1] u K := by
  obtain ⟨d, rfl, hd1⟩ := dpos hd
  obtain ⟨m3, m2, m4, m0, hA, hKK, hW, hQ⟩ := hdA hg (Stt.rf hok)
  obtain ⟨sp, -⟩ := set_pow (nK (u.1 236)) (by omega)
  have hpw : 2 ^ nK (u.1 236) ≤ 32 := Nat.le_trans (Nat.pow_le_pow_right (by omega) hKK) (by decide)
  have hpos := Nat.two_pow_pos (nK (u.1 236))
  have sp1 : nI (2 ^ nK (u.1 236)) - 1 = nI (2 ^ nK (u.1 236) - 1) := pk_sub (b := 1) (by omega)
  refine CI_of mk_X13_taste.2.2 rfl (B_M_taste_0 ?_)
  obtain ⟨d, rfl, hd2⟩ := dpos hd1
  refine CI_of mk_X13_take.2.2 rfl (B_M_take_0 ?_)
  rw [show (mI u 234 0 0).1 234 2 = nI (2 * N) by rw [mI_n (by omega)]; exact et]
  have e236 : (mI (mI u 234 0 0) 234 2 0).1 236 = u.1 236 := by simp (disch := omega) only [mI_r]
  have e235 : (mI (mI u 234 0 0) 234 2 0).1 235 = u.1 235 := by simp (disch := omega) only [mI_r]
  have hv2 : (mI (mI u 234 0 0) 234 2 0).2 = u.2 := rfl
  generalize mI (mI u 234 0 0) 234 2 0 = U at e236 e235 hv2 h0 h1
  generalize hgg : u.1 236 = g at *
  generalize hbb : u.1 235 = b at *
  have key : VI X (d + 1) 283 K 40 [some (.ref 234), some (.int p1), some (.int (nI (2 * N))), some (.int (0)), none, none, none, none, none, none] [] U := by
    suffices hz : VI X (d + 1) 283 K 40 [some (.ref 234), some (.int p1), some (.int (nI (2 * N))), some (.int (nI (2 * 0))), none, none, none, none, none, none] [] U from hz
    refine lup (n := N) (W := fun i => VI X (d + 1) 283 K 40 [some (.ref 234), some (.int p1), some (.int (nI (2 * N))), some (.int (nI (2 * i))), none, none, none, none, none, none] [] U) ?_
    intro i hi ih
    refine B_M_taste_40 ?_
    rw [e236, e235, m2, sp, sp1]
    simp (disch := omega) only [la1, la2, lt1, lt2, nI_add, pk_mul, nI_clamp, vpn, nI_leI, nI_ltI, nI_eq, ll1, ll2, ll3, ll4, le1, le2, true_and, and_true, not_true_eq_false, not_false_eq_true, forall_const, false_implies, implies_true, if_true, if_false, ite_true, ite_false, and_self, false_and, and_false]
    refine ⟨fun z => ?_, fun z => ⟨by omega, ?_⟩⟩
    · clear ih z hi
      refine lupR (n := 2 ^ nK g) (W := fun j (V : Mm) => VI X (d + 1) 283 K 99 [some (.ref 234), some (.int p1), some (.int (nI (2 * N))), some (.int (nI (cnP (fitF g b N) j))), some (.int (nI (2 ^ nK g))), some (.int (coI (fitF g b N) (nI (2 ^ nK g - 1)) j)), some (.int (nI j)), none, none, none] [] V)
        (I := fun j V => (∀ b, b ≠ 256 → V.1 b = U.1 b) ∧ V.2 = u.2 ∧ ∀ j', j' < j → V.1 256 j' = if fitF g b N j' then 1 else 0) ?_ U ⟨fun _ _ => rfl, hv2, fun j' h => absurd h (by omega)⟩
      rintro j V hj ⟨i1, i2, i3⟩ ih
      have v236 : V.1 236 = g := by rw [i1 236 (by omega), e236]
      have v235 : V.1 235 = b := by rw [i1 235 (by omega), e235]
      have hcl := cnP_le (p := fitF g b N) (n := j)
      refine B_M_taste_99 ?_
      simp (disch := omega) only [la1, la2, lt1, lt2, nI_add, pk_mul, nI_clamp, vpn, nI_leI, nI_ltI, nI_eq, ll1, ll2, ll3, ll4, le1, le2, true_and, and_true, not_true_eq_false, not_false_eq_true, forall_const, false_implies, implies_true, if_true, if_false, ite_true, ite_false, and_self, false_and, and_false]
      refine ⟨fun z => ?_, fun z => ?_⟩
      · have ej : j = 2 ^ nK g := by omega
        subst ej
        clear ih
        refine ⟨fun y => ?_, fun y => h0 y V i1 i2⟩
        have wd : ∀ o, (mI (mI V 234 45 (coI (fitF g b N) (nI (2 ^ nK g - 1)) (2 ^ nK g))) 234 46 o).1 236 = g := fun o => by rw [mI_r (by omega), mI_r (by omega)]; exact v236
        suffices hz : ∀ v6 : Int32, v6 = 999 → VI X (d + 1) 283 K 174 [some (.ref 234), some (.int p1), some (.int (nI (2 * N))), some (.int (nI (cnP (fitF g b N) (2 ^ nK g)))), some (.int (nI (2 ^ nK g))), some (.int (coI (fitF g b N) (nI (2 ^ nK g - 1)) (2 ^ nK g))), some (.int v6), some (.int (nI 0)), none, none] [] (mI (mI V 234 45 (coI (fitF g b N) (nI (2 ^ nK g - 1)) (2 ^ nK g))) 234 46 (tlV (tlF g (apF g b N (2 ^ nK g)) 0))) from hz 999 rfl
        intro v6 hv6
        refine lupR (n := nA g) (W := fun a (v6 : Int32) => VI X (d + 1) 283 K 174 [some (.ref 234), some (.int p1), some (.int (nI (2 * N))), some (.int (nI (cnP (fitF g b N) (2 ^ nK g)))), some (.int (nI (2 ^ nK g))), some (.int (coI (fitF g b N) (nI (2 ^ nK g - 1)) (2 ^ nK g))), some (.int v6), some (.int (nI a)), none, none] [] (mI (mI V 234 45 (coI (fitF g b N) (nI (2 ^ nK g - 1)) (2 ^ nK g))) 234 46 (tlV (tlF g (apF g b N (2 ^ nK g)) a))))
          (I := fun a v6 => v6 = match tlF g (apF g b N (2 ^ nK g)) a with | none => 999 | some t => apF g b N (2 ^ nK g) t) ?_ v6 hv6
        rintro a v6 ha hv ih
        refine B_M_taste_174 ?_
        rw [wd, m3]
        simp (disch := omega) only [la1, la2, lt1, lt2, nI_add, pk_mul, nI_clamp, vpn, nI_leI, nI_ltI, nI_eq, ll1, ll2, ll3, ll4, le1, le2, true_and, and_true, not_true_eq_false, not_false_eq_true, forall_const, false_implies, implies_true, if_true, if_false, ite_true, ite_false, and_self, false_and, and_false]
        refine ⟨fun z => ?_, fun z => ?_⟩
        · rw [show a = nA g by omega]
          refine h1 y _ (fun b hb => ?_) i2
          by_cases e : b = 234
          · subst e
            funext k
            rw [mI_at, mI_at, mI_at, mI_at, i1 234 (by omega)]
          · simp (disch := omega) only [mI_r]
            exact i1 b hb
        · have ih := ih (by omega)
          obtain ⟨⟨k, hk, ek⟩, -⟩ := hok.2.2.2.1 a (by omega)
          refine lup (n := 2 ^ nK g) (W := fun j => VI X (d + 1) 283 K 191 [some (.ref 234), some (.int p1), some (.int (nI (2 * N))), some (.int (nI (cnP (fitF g b N) (2 ^ nK g)))), some (.int (nI (2 ^ nK g))), some (.int (coI (fitF g b N) (nI (2 ^ nK g - 1)) (2 ^ nK g))), some (.int v6), some (.int (nI a)), some (.int (nI (cnP (fun s => fitF g b N s && tb (nI s) k) j))), some (.int (nI j))] [] (mI (mI V 234 45 (coI (fitF g b N) (nI (2 ^ nK g - 1)) (2 ^ nK g))) 234 46 (tlV (tlF g (apF g b N (2 ^ nK g)) a)))) ?_
          intro j hj ih2
          have hjl := cnP_le (p := fun s => fitF g b N s && tb (nI s) k) (n := j)
          refine B_M_taste_191 ?_
          rw [wd]
          rw [show ∀ o, (mI (mI V 234 45 (coI (fitF g b N) (nI (2 ^ nK g - 1)) (2 ^ nK g))) 234 46 o).1 256 = V.1 256 from fun o => by rw [mI_r (by omega), mI_r (by omega)]]
          refine ⟨fun y2 => ?_, fun y2 => ?_⟩
          · have y2 := (nI_leI (a := 2 ^ nK g) (b := j) (by omega) (by omega)).mp y2
            have ej : j = 2 ^ nK g := by omega
            subst ej
            rw [tlF] at ih
            refine c_misEvicted (by omega) (by omega) (fun y3 => ?_) (fun y3 => ?_)
            · rw [wd] at y3
              rw [if_pos y3] at ih
              rw [nI_1]
              exact ⟨fun _ => ih v6 hv, fun q => absurd q (by decide)⟩
            · rw [wd] at y3
              rw [y3, if_neg (by decide)] at ih
              have eap : (if 0 ≤ (2 : Int32) * nI (cnP (fun s => fitF g b N s && tb (nI s) k) (2 ^ nK g)) - nI (cnP (fitF g b N) (2 ^ nK g)) then (2 : Int32) * nI (cnP (fun s => fitF g b N s && tb (nI s) k) (2 ^ nK g)) - nI (cnP (fitF g b N) (2 ^ nK g)) else 0 - ((2 : Int32) * nI (cnP (fun s => fitF g b N s && tb (nI s) k) (2 ^ nK g)) - nI (cnP (fitF g b N) (2 ^ nK g)))) = apF g b N (2 ^ nK g) a := by
                unfold apF wiF
                rw [ek, nI_clamp (by omega)]
              refine ⟨fun q => absurd rfl q, fun _ => c_msize (by omega) ?_⟩
              rw [eap, nI_1]
              obtain ⟨za, hza, eza⟩ := ap_nat (g := g) (b := b) (N := N) (n := 2 ^ nK g) (a := a) hpw
              cases ht : tlF g (apF g b N (2 ^ nK g)) a with
              | none =>
                rw [ht] at hv ih
                dsimp only at hv ih
                rw [hv, eza]
                refine ⟨fun _ => c_msize (by omega) ?_, fun q => absurd (nI_lt (a := za) (b := 999) (by omega) (by omega)) q⟩
                rw [eap, mI_mI]
                exact ih _ rfl
              | some t =>
                rw [ht] at hv ih
                dsimp only at hv ih
                rw [hv]
                refine ⟨fun q => c_msize (by omega) ?_, fun q => ?_⟩
                · rw [if_neg (Int32.not_le.mpr q)] at ih
                  rw [eap, mI_mI]
                  exact ih _ rfl
                · rw [if_pos (Int32.not_lt.mp q)] at ih
                  exact ih _ rfl
          · have y2 := mt (nI_leI (a := 2 ^ nK g) (b := j) (by omega) (by omega)).mpr y2
            have ih2 := ih2 (by omega)
            rw [cnP] at ih2
            simp (disch := omega) only [la1, la2, lt1, lt2, nI_add, pk_mul, nI_clamp, vpn, nI_leI, nI_ltI, nI_eq, ll1, ll2, ll3, ll4, le1, le2, true_and, and_true, not_true_eq_false, not_false_eq_true, forall_const, false_implies, implies_true, if_true, if_false, ite_true, ite_false, and_self, false_and, and_false, ek]
            rw [i3 j (by omega)]
            refine ⟨by omega, fun y3 => ?_, fun y3 => ?_⟩
            · have hf : fitF g b N j = false := by
                cases hf : fitF g b N j
                · rfl
                · rw [hf, if_pos rfl] at y3; exact absurd y3 (by decide)
              rw [if_neg (by rw [hf]; simp)] at ih2
              exact ih2
            · have hf : fitF g b N j = true := by
                cases hf : fitF g b N j
                · rw [hf, if_neg (by decide)] at y3; exact absurd rfl y3
                · rfl
              refine ⟨by omega, c_mhas (by omega) (by omega) (fun y4 => ?_) (fun y4 => ?_)⟩
              · rw [if_pos (by rw [hf, y4]; rfl)] at ih2
                simp (disch := omega) only [la1, la2, lt1, lt2, nI_add, pk_mul, nI_clamp, vpn, nI_leI, nI_ltI, nI_eq, ll1, ll2, ll3, ll4, le1, le2, true_and, and_true, not_true_eq_false, not_false_eq_true, forall_const, false_implies, implies_true, if_true, if_false, ite_true, ite_false, and_self, false_and, and_false, b01, b10]
                exact ih2
              · rw [if_neg (by rw [hf, y4]; decide)] at ih2
                exact ⟨fun _ => ih2, fun q => absurd rfl q⟩
      · have ih := ih (by omega)
        rw [cnP, coI] at ih
        have rows : ∀ x : Int32, (x = if fitF g b N j then 1 else 0) → (∀ b, b ≠ 256 → (mI V 256 j x).1 b = U.1 b) ∧ (mI V 256 j x).2 = u.2 ∧ ∀ j', j' < j + 1 → (mI V 256 j x).1 256 j' = if fitF g b N j' then 1 else 0 := by
          intro x hx
          refine ⟨fun b hb => by rw [mI_r hb]; exact i1 b hb, i2, fun j' hj' => ?_⟩
          by_cases e : j' = j
          · subst e; rw [mI_s]; exact hx
          · rw [mI_n (by omega)]; exact i3 j' (by omega)
        refine c_mcameSo (by omega) (by rw [v236]; exact hg) (by rw [v236]; exact hok) hN (by rw [v236, v235]; exact hp) (by rw [v235]; exact hb) (fun y => ?_) (fun y => ?_)
        · rw [v236, v235] at y
          rw [if_pos y, if_pos y] at ih
          rw [nar1.1]
          simp (disch := omega) only [la1, la2, lt1, lt2, nI_add, pk_mul, nI_clamp, vpn, nI_leI, nI_ltI, nI_eq, ll1, ll2, ll3, ll4, le1, le2, true_and, and_true, not_true_eq_false, not_false_eq_true, forall_const, false_implies, implies_true, if_true, if_false, ite_true, ite_false, and_self, false_and, and_false, mI_s, b01, b10]
          exact ⟨by omega, by omega, ih _ (rows 1 (by rw [if_pos y]))⟩
        · rw [v236, v235] at y
          rw [y, if_neg (by decide), if_neg (by decide)] at ih
          rw [nar1.2]
          simp (disch := omega) only [la1, la2, lt1, lt2, nI_add, pk_mul, nI_clamp, vpn, nI_leI, nI_ltI, nI_eq, ll1, ll2, ll3, ll4, le1, le2, true_and, and_true, not_true_eq_false, not_false_eq_true, forall_const, false_implies, implies_true, if_true, if_false, ite_true, ite_false, and_self, false_and, and_false, mI_s, b01, b10]
          exact ⟨by omega, by omega, ih _ (rows 0 (by rw [y, if_neg (by decide)]))⟩
    · have ih := ih (by omega)
      obtain ⟨⟨a, ha, ea⟩, hle⟩ := hp i (by omega)
      rw [ea]
      refine c_misStatue (n := nA g) (by omega) (by rw [e236]; exact m3) (by omega) (fun a' ha' _ => ?_) (fun q => (no2 ha (by omega) q).elim)
      rw [show 2 * (i + 1) = 2 * i + 2 by omega] at ih
      rw [e235]
      simp (disch := omega) only [la1, la2, lt1, lt2, nI_add, pk_mul, nI_clamp, vpn, nI_leI, nI_ltI, nI_eq, ll1, ll2, ll3, ll4, le1, le2, true_and, and_true, not_true_eq_false, not_false_eq_true, forall_const, false_implies, implies_true, if_true, if_false, ite_true, ite_false, and_self, false_and, and_false, b01, b10]
      exact ⟨by omega, fun _ => ih, fun q => absurd hle q⟩
  subst ew
  rw [show nI (2 * N) - nI (2 * N) / (2 : Int32) * (2 : Int32) = nI (2 * N % 2) from pk_rem (d := 2) (by omega) (by omega) (by omega), show nI (2 * N) / (2 : Int32) = nI (2 * N / 2) from pk_div (d := 2) (by omega) (by omega) (by omega), show 2 * N % 2 = 0 by omega, show 2 * N / 2 = N by omega]
  refine c_misWalker (n := nW' g) (by omega) (by rw [e236]; exact m4) (by omega) (fun w' hw' _ => ⟨fun q => absurd q (by decide), fun _ => ⟨fun q => absurd rfl q, fun _ => c_misIn (by omega) (fun _ _ => ⟨fun _ => key, fun q => absurd q (by decide)⟩) (fun q => ?_)⟩⟩) (fun q => (no2 hw (by omega) q).elim)
  rcases q with q | q
  · exact absurd ((nI_ltI (a := N) (b := 1) (by omega) (by omega)).mp q) (by omega)
  · exact absurd ((nI_ltI (a := 20) (b := N) (by omega) (by omega)).mp q) (by omega)
end Taste2
