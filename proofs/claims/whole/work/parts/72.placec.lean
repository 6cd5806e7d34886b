/-! placing: the methods -/
theorem bqF_congr {t : Nat} {F G : Nat → Int32} : ∀ {n : Nat}, (∀ q, q < n → t.testBit q = false → F q = G q) → bqF t F n = bqF t G n
  | 0, _ => rfl
  | n + 1, h => by
    have ih := bqF_congr (n := n) (fun q hq => h q (by omega))
    rw [bqF, bqF, ih]
    by_cases e : t.testBit n = true
    · rw [if_pos e, if_pos e]
    · have e' := Bool.eq_false_iff.mpr e
      rw [if_neg e, if_neg e]
      cases hb : bqF t G n with
      | none => rfl
      | some f =>
        obtain ⟨f1, f2, -⟩ := bqF_some hb
        dsimp only
        rw [h n (by omega) e', h f (by omega) f2]
theorem tk_ev {g : Nat → Int32} {a b : Nat} (h : a ≤ b) (hc : cntE g a = cntE g b) : tkF g a = tkF g b := by
  induction b with
  | zero => rw [show a = 0 by omega]
  | succ b ih =>
    by_cases e : a = b + 1
    · rw [e]
    · have m1 := cntE_le (g := g) (show a ≤ b by omega)
      have m2 := cntE_le (g := g) (show b ≤ b + 1 by omega)
      have hv : tb (g 201) b = true := by
        cases hv : tb (g 201) b
        · rw [cntE, hv, if_neg (by decide)] at hc
          omega
        · rfl
      rw [tkF, if_pos hv]
      exact ih (by omega) (by omega)
section PlcC
variable {X : Xc} {d : Nat} {u : Mm} {g : Nat → Int32} {nm : Nat → Int64}
theorem c_gainW {K : Int32 → Mm → Prop} {i q t : Nat} (hd : 1 ≤ d) (hi : i < 8) (hq : q < 8) (ht : t < 256) (hK : K (u.1 163 (8 * i + q) + u.1 164 (t ||| 2 ^ q)) u) : CI X d 82 [.ref 160, .int (nI i), .int (nI q), .int (nI t)] u K := by
  obtain ⟨d, rfl, hd1⟩ := dpos hd
  obtain ⟨o1, o2, -⟩ := or_bit t ht q hq
  refine CI_of mk_X7_gainWith.2.2 rfl (B_RK_gainWith_0 ?_)
  rw [o1]
  simp (disch := omega) only [la1, la2, lt1, lt2, nI_add, pk_mul, nI_clamp, vpn, nI_leI, nI_ltI, nI_eq, ll1, ll2, ll3, ll4, le1, le2, true_and, and_true, not_true_eq_false, not_false_eq_true, forall_const, false_implies, implies_true, if_true, if_false, ite_true, ite_false, and_self, false_and, and_false]
  exact ⟨by omega, o2, hK⟩
theorem c_bestSq {K : Int32 → Mm → Prop} {i t n : Nat} (hd : 2 ≤ d) (hi : i < 8) (ht : t < 256) (e : u.1 7 0 = nI n) (hn : n ≤ 8) (hK : K (match bqF t (fun q => u.1 163 (8 * i + q) + u.1 164 (t ||| 2 ^ q)) n with | none => -1 | some f => nI f) u) : CI X d 81 [.ref 160, .int (nI i), .int (nI t)] u K := by
  obtain ⟨d, rfl, hd1⟩ := dpos hd
  refine CI_of mk_X7_bestSquare.2.2 rfl (B_RK_bestSquare_0 ?_)
  refine lup (n := n) (W := fun q => VI X d 81 K 5 [some (.ref 160), some (.int (nI i)), some (.int (nI t)), some (.int (match bqF t (fun q => u.1 163 (8 * i + q) + u.1 164 (t ||| 2 ^ q)) q with | none => -1 | some f => nI f)), some (.int (nI q))] [] u) ?_
  intro q hq ih
  refine B_RK_bestSquare_5 ?_
  rw [e]
  simp (disch := omega) only [la1, la2, lt1, lt2, nI_add, pk_mul, nI_clamp, vpn, nI_leI, nI_ltI, nI_eq, ll1, ll2, ll3, ll4, le1, le2, true_and, and_true, not_true_eq_false, not_false_eq_true, forall_const, false_implies, implies_true, if_true, if_false, ite_true, ite_false, and_self, false_and, and_false]
  refine ⟨fun z => ?_, fun z => ?_⟩
  · rw [show q = n by omega]; exact hK
  · have ih := ih (by omega)
    rw [bqF] at ih
    have tbq := tb_bit t ht q (by omega)
    refine c_bit (by omega) (by omega) (fun y => ?_) (fun y => ?_)
    · rw [tbq] at y
      rw [if_pos y] at ih
      exact ⟨fun _ => ih, fun w => absurd w (by decide)⟩
    · rw [tbq] at y
      rw [y, if_neg (by decide)] at ih
      refine ⟨fun w => absurd rfl w, fun _ => ?_⟩
      cases hb : bqF t (fun q => u.1 163 (8 * i + q) + u.1 164 (t ||| 2 ^ q)) q with
      | none =>
        rw [hb] at ih
        exact ⟨fun _ => ih, fun w => absurd rfl w⟩
      | some f =>
        obtain ⟨f1, -⟩ := bqF_some hb
        rw [hb] at ih
        dsimp only at ih ⊢
        refine ⟨fun w => absurd w (nI_m1 (by omega)), fun _ => c_gainW (by omega) hi (by omega) ht (c_gainW (by omega) hi (by omega) ht ⟨fun w => ?_, fun w => ?_⟩)⟩
        · rw [if_pos w] at ih; exact ih
        · rw [if_neg w] at ih; exact ih
theorem c_gains {K : Int32 → Mm → Prop} (hd : 3 ≤ d) (h : Wd u g nm) (hK : ∀ V : Mm, (∀ b, b ≠ 162 → b ≠ 163 → V.1 b = u.1 b) → V.2 = u.2 → (∀ a, a < nA g → tb (g 201) a = false → V.1 162 (cntE g a) = nI a ∧ ∀ q, q < nQ g → V.1 163 (8 * cntE g a + q) = gnI g a q) → K (nI (cntE g (nA g))) V) : CI X d 80 [.ref 160] u K := by
  obtain ⟨d, rfl, hd1⟩ := dpos hd
  have hA := h.1.1.2.2.2.2.2.1
  have hKK := h.1.1.2.2.2.1
  have hQ := h.1.1.2.1
  obtain ⟨cq, ck, ca, cw⟩ := cityN h.1 h.2.1
  refine CI_of mk_X7_reckonGains.2.2 rfl (B_RK_reckonGains_0 ?_)
  refine lupR (n := nA g) (W := fun a (V : Mm) => VI X d 80 K 4 [some (.ref 160), some (.int (nI (cntE g a))), some (.int (nI a)), none, none] [] V)
    (I := fun a V => (∀ b, b ≠ 162 → b ≠ 163 → V.1 b = u.1 b) ∧ V.2 = u.2 ∧ ∀ a', a' < a → tb (g 201) a' = false → V.1 162 (cntE g a') = nI a' ∧ ∀ q, q < nQ g → V.1 163 (8 * cntE g a' + q) = gnI g a' q) ?_ u ⟨fun _ _ _ => rfl, rfl, fun a' h => absurd h (by omega)⟩
  rintro a V ha ⟨i1, i2, i3⟩ ih
  have hca := cntE_lt (g := g) (a := a)
  refine B_RK_reckonGains_4 ?_
  rw [i1 7 (by omega) (by omega), i1 20 (by omega) (by omega), ca, show u.1 20 3 = g 201 from h.2.2.2.1.2.2.2]
  simp (disch := omega) only [la1, la2, lt1, lt2, nI_add, pk_mul, nI_clamp, vpn, nI_leI, nI_ltI, nI_eq, ll1, ll2, ll3, ll4, le1, le2, true_and, and_true, not_true_eq_false, not_false_eq_true, forall_const, false_implies, implies_true, if_true, if_false, ite_true, ite_false, and_self, false_and, and_false]
  refine ⟨fun z => ?_, fun z => ?_⟩
  · have ea : a = nA g := by omega
    subst ea
    exact hK V i1 i2 i3
  · have ih := ih (by omega)
    refine c_bit (by omega) (by omega) (fun y => ?_) (fun y => ?_)
    · rw [cntE, if_pos y] at ih
      refine ⟨fun _ => ih V ⟨i1, i2, fun a' ha' hv => ?_⟩, fun w => absurd w (by decide)⟩
      by_cases e : a' = a
      · subst e; rw [y] at hv; cases hv
      · exact i3 a' (by omega) hv
    · rw [cntE, y, if_neg (by decide)] at ih
      simp (disch := omega) only [la1, la2, lt1, lt2, nI_add, pk_mul, nI_clamp, vpn, nI_leI, nI_ltI, nI_eq, ll1, ll2, ll3, ll4, le1, le2, true_and, and_true, not_true_eq_false, not_false_eq_true, forall_const, false_implies, implies_true, if_true, if_false, ite_true, ite_false, and_self, false_and, and_false, b01, b10]
      refine ⟨by omega, ?_⟩
      have lt' : ∀ a', a' < a → tb (g 201) a' = false → cntE g a' < cntE g a := by
        intro a' ha' hv
        have := cntE_le (g := g) (show a' + 1 ≤ a by omega)
        rw [cntE, hv, if_neg (by decide)] at this
        omega
      refine lupR (n := nQ g) (W := fun q (V : Mm) => VI X d 80 K 40 [some (.ref 160), some (.int (nI (cntE g a))), some (.int (nI a)), some (.int (nI q)), none] [] V)
        (I := fun q V => (∀ b, b ≠ 162 → b ≠ 163 → V.1 b = u.1 b) ∧ V.2 = u.2 ∧ (∀ a', a' < a → tb (g 201) a' = false → V.1 162 (cntE g a') = nI a' ∧ ∀ q, q < nQ g → V.1 163 (8 * cntE g a' + q) = gnI g a' q) ∧ V.1 162 (cntE g a) = nI a ∧ ∀ q', q' < q → V.1 163 (8 * cntE g a + q') = gnI g a q') ?_ _ ⟨fun b b1 b2 => by rw [mI_r b1]; exact i1 b b1 b2, i2, fun a' ha' hv => ?_, mI_s, fun q' hq' => absurd hq' (by omega)⟩
      · rintro q V' hq ⟨k1, k2, k3, k4, k5⟩ ih2
        refine B_RK_reckonGains_40 ?_
        have wdV : Wd V' g nm := h.cg (fun b b1 b2 => k1 b (by omega) (by omega)) k2
        rw [k1 7 (by omega) (by omega), k1 20 (by omega) (by omega), k1 21 (by omega) (by omega), cq, show u.1 20 4 = g 200 from h.2.2.2.1.2.2.1]
        obtain ⟨⟨k, hk, ek⟩, -⟩ := h.2.2.1.2.2.2.1 a (by omega)
        simp (disch := omega) only [la1, la2, lt1, lt2, nI_add, pk_mul, nI_clamp, vpn, nI_leI, nI_ltI, nI_eq, ll1, ll2, ll3, ll4, le1, le2, true_and, and_true, not_true_eq_false, not_false_eq_true, forall_const, false_implies, implies_true, if_true, if_false, ite_true, ite_false, and_self, false_and, and_false]
        rw [show u.1 21 a = nI k from (h.2.2.2.2.1 a (by omega)).1.trans ek]
        refine ⟨fun w => ?_, fun w => ⟨by omega, ?_⟩⟩
        · refine ih V' ⟨k1, k2, fun a' ha' hv => ?_⟩
          by_cases e : a' = a
          · subst e; exact ⟨k4, fun q' hq' => k5 q' (by omega)⟩
          · exact k3 a' (by omega) hv
        · have ih2 := ih2 (by omega)
          have fin : ∀ st : Bool, tb (g 200) a = st → CI X d 74 [.ref 160, .int (nI q), .int (nI k), .int (if st then 1 else 0), .int 0] V' (fun w2 u2 => q < 8 ∧ 8 * cntE g a + q < 64 ∧ VI X d 80 K 40 [some (.ref 160), some (.int (nI (cntE g a))), some (.int (nI a)), some (.int (nI (q + 1))), none] [] (mI u2 163 (8 * cntE g a + q) (w2 - u2.1 8 q * 5040))) := by
            intro st hst
            refine c_yield hd1 wdV.1 wdV.2.1 (by omega) (by omega) rfl ⟨by omega, by omega, ih2 _ ⟨fun b b1 b2 => ?_, k2, fun a' ha' hv => ?_, ?_, fun q' hq' => ?_⟩⟩
            · rw [mI_r b2]; exact k1 b b1 b2
            · have := lt' a' ha' hv
              refine ⟨by rw [mI_r (by omega)]; exact (k3 a' ha' hv).1, fun q' hq' => ?_⟩
              rw [mI_n (by omega)]
              exact (k3 a' ha' hv).2 q' hq'
            · rw [mI_r (by omega)]; exact k4
            · by_cases e : q' = q
              · subst e
                rw [mI_s, gnI, ek, nI_clamp (by omega), hst, k1 8 (by omega) (by omega), show u.1 8 q' = g (6 + q') from (h.2.1.2.1 q' (by omega)).1, Int32.mul_comm]
              · rw [mI_n (by omega)]; exact k5 q' (by omega)
          exact c_bit (by omega) (by omega) (fun y2 => fin true y2) (fun y2 => fin false y2)
      · have := lt' a' ha' hv
        refine ⟨by rw [mI_n (by omega)]; exact (i3 a' ha' hv).1, fun q' hq' => ?_⟩
        rw [mI_r (by omega)]
        exact (i3 a' ha' hv).2 q' hq'
theorem c_placeAll {K : Int32 → Mm → Prop} (hd : 4 ≤ d) (h : Wd u g nm) (hK : ∀ V : Mm, (∀ b, b < 161 ∨ 164 < b → V.1 b = u.1 b) → V.2 = u.2 → (∀ a, a < nA g → tb (g 201) a = false → V.1 161 a = qvF g (tkF g a) a) → K (brF g (nA g) 0) V) : CI X d 79 [.ref 160] u K := by
  obtain ⟨d, rfl, hd1⟩ := dpos hd
  have hg := h.1
  have hok := h.2.2.1
  have hA := hg.1.2.2.2.2.2.1
  have hQ := hg.1.2.1
  have hpw := pow_le hQ
  have hcq := cntE_Q hok hQ
  obtain ⟨cq, ck, ca, cw⟩ := cityN h.1 h.2.1
  obtain ⟨sp, -⟩ := set_pow (nQ g) hQ
  refine CI_of mk_X7_placeAll.2.2 rfl (B_RK_placeAll_0 ?_)
  rw [cq, sp]
  refine c_gains hd1 h fun U u1 u2 u3 => ?_
  have uq : U.1 7 0 = nI (nQ g) := by rw [u1 7 (by omega) (by omega)]; exact cq
  have idx : ∀ a, a < nA g → tb (g 201) a = false → cntE g a + 1 ≤ cntE g (nA g) := by
    intro a ha hv
    have := cntE_le (g := g) (show a + 1 ≤ nA g by omega)
    rw [cntE, hv, if_neg (by decide)] at this
    exact this
  /- the best square at the place t, out of what is known -/
  have bq : ∀ (V : Mm) (t a : Nat), (∀ b, b ≠ 164 → b ≠ 161 → V.1 b = U.1 b) → a < nA g → tb (g 201) a = false → t < 2 ^ nQ g → popN t = cntE g a → (∀ s, t < s → s < 2 ^ nQ g → ∀ a, a ≤ nA g → cntE g a = popN s → V.1 164 s = brF g (nA g - a) s) → ∃ f, f < nQ g ∧ t.testBit f = false ∧ qvF g t a = nI f ∧ bqF t (fun q => V.1 163 (8 * cntE g a + q) + V.1 164 (t ||| 2 ^ q)) (nQ g) = some f ∧ V.1 163 (8 * cntE g a + f) + V.1 164 (t ||| 2 ^ f) = brF g (nA g - a) t := by
    intro V t a v1 ha hv ht hp hs
    obtain ⟨f, f1, f2, f3, f4, f5⟩ := qv_key hg hok ha hv ht hp
    have hF : ∀ q, q < nQ g → t.testBit q = false → V.1 163 (8 * cntE g a + q) + V.1 164 (t ||| 2 ^ q) = gnI g a q + brF g (nA g - a - 1) (t ||| 2 ^ q) := by
      intro q hq hb
      obtain ⟨-, o2, o3⟩ := or_bit t (by omega) q (by omega)
      rw [v1 163 (by omega) (by omega), (u3 a ha hv).2 q hq, hs _ (o3 hb).2 (or_lt _ hQ t (by omega) ht q hq) (a + 1) (by omega) (by rw [cntE, hv, if_neg (by decide), (o3 hb).1, hp]), show nA g - (a + 1) = nA g - a - 1 by omega]
    refine ⟨f, f1, f2, f3, ?_, ?_⟩
    · rw [bqF_congr hF]; exact f4
    · rw [hF f f1 f2]; exact f5.symm
  suffices hz : ∀ V : Mm, (∀ b, b ≠ 164 → V.1 b = U.1 b) ∧ V.2 = U.2 ∧ (∀ s, 2 ^ nQ g - 0 ≤ s → s < 2 ^ nQ g → ∀ a, a ≤ nA g → cntE g a = popN s → V.1 164 s = brF g (nA g - a) s) → VI X d 79 K 21 [some (.ref 160), some (.int (nI (nQ g))), some (.int (nI (cntE g (nA g)))), some (.int (nI (2 ^ nQ g - 0) - 1)), none, none] [] V from hz U ⟨fun _ _ => rfl, rfl, fun s h1 h2 => absurd h1 (by omega)⟩
  refine lupR (n := 2 ^ nQ g) (W := fun j (V : Mm) => VI X d 79 K 21 [some (.ref 160), some (.int (nI (nQ g))), some (.int (nI (cntE g (nA g)))), some (.int (nI (2 ^ nQ g - j) - 1)), none, none] [] V)
    (I := fun j V => (∀ b, b ≠ 164 → V.1 b = U.1 b) ∧ V.2 = U.2 ∧ (∀ s, 2 ^ nQ g - j ≤ s → s < 2 ^ nQ g → ∀ a, a ≤ nA g → cntE g a = popN s → V.1 164 s = brF g (nA g - a) s)) ?_
  rintro j V hj ⟨i1, i2, i3⟩ ih
  by_cases ej : j = 2 ^ nQ g
  · subst ej
    clear ih
    rw [Nat.sub_self] at i3 ⊢
    refine B_RK_placeAll_21 ⟨fun _ => ?_, fun z => absurd (by decide) z⟩
    suffices hz2 : ∀ z : Mm × Nat, ((∀ b, b ≠ 164 → b ≠ 161 → z.1.1 b = U.1 b) ∧ z.1.2 = U.2 ∧ (∀ s, s < 2 ^ nQ g → ∀ a, a ≤ nA g → cntE g a = popN s → z.1.1 164 s = brF g (nA g - a) s) ∧ (∀ a, a ≤ nA g → cntE g a = 0 → tkF g a = z.2) ∧ ∀ a, a < nA g → tb (g 201) a = false → cntE g a < 0 → z.1.1 161 a = qvF g (tkF g a) a) → VI X d 79 K 89 [some (.ref 160), some (.int (nI (nQ g))), some (.int (nI (cntE g (nA g)))), some (.int (nI z.2)), some (.int (nI 0)), none] [] z.1 from hz2 (V, 0) ⟨fun b b1 _ => i1 b b1, i2, fun s hs => i3 s (by omega) hs, fun a ha hc => (tk_ev (show 0 ≤ a by omega) (by rw [hc]; rfl)).symm, fun a _ _ hc => absurd hc (by omega)⟩
    refine lupR (n := cntE g (nA g)) (W := fun i (z : Mm × Nat) => VI X d 79 K 89 [some (.ref 160), some (.int (nI (nQ g))), some (.int (nI (cntE g (nA g)))), some (.int (nI z.2)), some (.int (nI i)), none] [] z.1)
      (I := fun i z => (∀ b, b ≠ 164 → b ≠ 161 → z.1.1 b = U.1 b) ∧ z.1.2 = U.2 ∧ (∀ s, s < 2 ^ nQ g → ∀ a, a ≤ nA g → cntE g a = popN s → z.1.1 164 s = brF g (nA g - a) s) ∧ (∀ a, a ≤ nA g → cntE g a = i → tkF g a = z.2) ∧ ∀ a, a < nA g → tb (g 201) a = false → cntE g a < i → z.1.1 161 a = qvF g (tkF g a) a) ?_
    rintro i ⟨V, T⟩ hi ⟨k1, k2, k3, k4, k5⟩ ih
    dsimp only at k1 k2 k3 k4 k5 ⊢
    refine B_RK_placeAll_89 ?_
    simp (disch := omega) only [la1, la2, lt1, lt2, nI_add, pk_mul, nI_clamp, vpn, nI_leI, nI_ltI, nI_eq, ll1, ll2, ll3, ll4, le1, le2, true_and, and_true, not_true_eq_false, not_false_eq_true, forall_const, false_implies, implies_true, if_true, if_false, ite_true, ite_false, and_self, false_and, and_false]
    refine ⟨fun z => ?_, fun z => ?_⟩
    · have ei : i = cntE g (nA g) := by omega
      rw [k3 0 (Nat.two_pow_pos _) 0 (by omega) (by rw [cntE, pop_0])]
      refine hK V (fun b hb => by rw [k1 b (by omega) (by omega), u1 b (by omega) (by omega)]) (k2.trans u2) fun a ha hv => k5 a ha hv ?_
      have := idx a ha hv
      omega
    · obtain ⟨a, ha, hv, hc⟩ := cntE_inv (g := g) (n := nA g) (i := i) (by omega)
      have ih := ih (by omega)
      have hT := k4 a (by omega) hc
      obtain ⟨t1, t2⟩ := tk_ok hg hok a (by omega)
      rw [hT] at t1 t2
      obtain ⟨f, f1, f2, f3, f4, f5⟩ := bq V T a k1 ha hv t1 t2 (fun s _ hs => k3 s hs)
      rw [hc] at f4
      have e162 : V.1 162 i = nI a := by rw [k1 162 (by omega) (by omega), ← hc]; exact (u3 a ha hv).1
      refine c_bestSq (by omega) (by omega) (by omega) (by rw [k1 7 (by omega) (by omega)]; exact uq) hQ ?_
      rw [f4]
      dsimp only
      simp (disch := omega) only [la1, la2, lt1, lt2, nI_add, pk_mul, nI_clamp, vpn, nI_leI, nI_ltI, nI_eq, ll1, ll2, ll3, ll4, le1, le2, true_and, and_true, not_true_eq_false, not_false_eq_true, forall_const, false_implies, implies_true, if_true, if_false, ite_true, ite_false, and_self, false_and, and_false, e162]
      obtain ⟨o1, o2, o3⟩ := or_bit T (by omega) f (by omega)
      refine ⟨by omega, by omega, fun _ => ?_, fun w => absurd w (nI_m1 (by omega))⟩
      rw [o1]
      have tk1 : tkF g (a + 1) = T ||| 2 ^ f := by rw [tkF, hv, if_neg (by decide), hT, f3, nI_clamp (by omega)]
      refine ih (mI V 161 a (nI f), T ||| 2 ^ f) ⟨fun b b1 b2 => by rw [mI_r b2]; exact k1 b b1 b2, k2, fun s hs a' ha' hc' => by rw [mI_r (by omega)]; exact k3 s hs a' ha' hc', fun a' ha' hc' => ?_, fun a' ha' hv' hc' => ?_⟩
      · rw [← tk1]
        have hge : a + 1 ≤ a' := by
          by_cases q : a + 1 ≤ a'
          · exact q
          · have := cntE_le (g := g) (show a' ≤ a by omega)
            omega
        exact (tk_ev hge (by rw [cntE, hv, if_neg (by decide), hc, hc'])).symm
      · by_cases e : a' = a
        · subst e
          show (mI V 161 a' (nI f)).1 161 a' = _
          rw [mI_s, hT, f3]
        · show (mI V 161 a (nI f)).1 161 a' = _
          rw [mI_n (by omega)]
          refine k5 a' ha' hv' ?_
          by_cases q : a' < a
          · have := cntE_le (g := g) (show a' + 1 ≤ a by omega)
            rw [cntE, hv', if_neg (by decide)] at this
            omega
          · have := cntE_le (g := g) (show a + 1 ≤ a' by omega)
            rw [cntE, hv, if_neg (by decide)] at this
            omega
  · have ih := ih (by omega)
    obtain ⟨t, ht⟩ : ∃ t, 2 ^ nQ g - j = t + 1 := ⟨2 ^ nQ g - j - 1, by omega⟩
    rw [show 2 ^ nQ g - (j + 1) = t by omega] at ih
    rw [ht] at i3 ⊢
    rw [nI_pred]
    have nx : nI t + (-1) = nI t - 1 := (Int32.sub_eq_add_neg _ _).symm
    refine B_RK_placeAll_21 ?_
    rw [nx]
    refine ⟨fun z => absurd z (nI_pos (by omega)), fun _ => c_bitc (by omega) (by omega) ?_⟩
    have pl := pop_le t (by omega)
    simp (disch := omega) only [la1, la2, lt1, lt2, nI_add, pk_mul, nI_clamp, vpn, nI_leI, nI_ltI, nI_eq, ll1, ll2, ll3, ll4, le1, le2, true_and, and_true, not_true_eq_false, not_false_eq_true, forall_const, false_implies, implies_true, if_true, if_false, ite_true, ite_false, and_self, false_and, and_false]
    refine ⟨by omega, fun z => ?_, fun z => ?_⟩
    · refine ih _ ⟨fun b hb => by rw [mI_r hb]; exact i1 b hb, i2, fun s h1 h2 a ha hc => ?_⟩
      by_cases e : s = t
      · subst e
        rw [mI_s]
        have := cntE_le (g := g) ha
        exact (brF_ev (k := nA g - a) (k' := 0) (by omega) (by omega) (by rw [show nA g - (nA g - a) = a by omega, Nat.sub_zero]; omega) s).symm
      · rw [mI_n (by omega)]
        exact i3 s (by omega) h2 a ha hc
    · obtain ⟨a, ha, hv, hc⟩ := cntE_inv (g := g) (n := nA g) (i := popN t) (by omega)
      obtain ⟨f, f1, f2, f3, f4, f5⟩ := bq (mI V 164 t 0) t a (fun b b1 _ => by rw [mI_r b1]; exact i1 b b1) ha hv (by omega) hc.symm (fun s h1 h2 a' ha' hc' => by rw [mI_n (by omega)]; exact i3 s (by omega) h2 a' ha' hc')
      rw [hc] at f4 f5
      refine c_bestSq (by omega) (by omega) (by omega) (by rw [mI_r (by omega), i1 7 (by omega)]; exact uq) hQ ?_
      rw [f4]
      dsimp only
      refine ⟨fun _ => c_gainW (by omega) (by omega) (by omega) (by omega) ⟨by omega, ?_⟩, fun w => absurd w (nI_m1 (by omega))⟩
      rw [f5]
      refine ih _ ⟨fun b hb => by rw [mI_r hb, mI_r hb]; exact i1 b hb, i2, fun s h1 h2 a' ha' hc' => ?_⟩
      by_cases e : s = t
      · subst e
        rw [mI_s]
        have hle : a' ≤ a := by
          by_cases q : a' ≤ a
          · exact q
          · have := cntE_le (g := g) (show a + 1 ≤ a' by omega)
            rw [cntE, hv, if_neg (by decide)] at this
            omega
        exact (brF_ev (k := nA g - a') (k' := nA g - a) (by omega) (by omega) (by rw [show nA g - (nA g - a') = a' by omega, show nA g - (nA g - a) = a by omega, hc, hc']) s).symm
      · rw [mI_n (by omega), mI_n (by omega)]
        exact i3 s (by omega) h2 a' ha' hc'
end PlcC
