/-! placing: the model's -/
def lstF (p : Nat → Bool) (n : Nat) : Nat → Int32
  | 0 => -1
  | k + 1 => if p (n - (k + 1)) then nI (n - (k + 1)) else lstF p n k
theorem lstF_cases {p : Nat → Bool} {n : Nat} : ∀ k, k ≤ n → (lstF p n k = -1 ∧ ∀ q, n - k ≤ q → q < n → p q = false) ∨ ∃ j, n - k ≤ j ∧ j < n ∧ lstF p n k = nI j ∧ p j = true ∧ ∀ q, n - k ≤ q → q < j → p q = false
  | 0, _ => Or.inl ⟨rfl, fun q h1 h2 => absurd h1 (by omega)⟩
  | k + 1, hk => by
    rw [lstF]
    by_cases e : p (n - (k + 1)) = true
    · rw [if_pos e]
      exact Or.inr ⟨n - (k + 1), by omega, by omega, rfl, e, fun q h1 h2 => absurd h1 (by omega)⟩
    · rw [if_neg e]
      have e' := Bool.eq_false_iff.mpr e
      rcases lstF_cases (p := p) (n := n) k (by omega) with ⟨h1, h2⟩ | ⟨j, h1, h2, h3, h4, h5⟩
      · refine Or.inl ⟨h1, fun q a b => ?_⟩
        by_cases eq : q = n - (k + 1)
        · rw [eq]; exact e'
        · exact h2 q (by omega) b
      · refine Or.inr ⟨j, by omega, h2, h3, h4, fun q a b => ?_⟩
        by_cases eq : q = n - (k + 1)
        · rw [eq]; exact e'
        · exact h5 q (by omega) b
theorem lstF_fst {p : Nat → Bool} {n : Nat} (hn : n < 1000) : lstF p n n = fstI p n := by
  rcases lstF_cases (p := p) (n := n) n (Nat.le_refl _) with ⟨h1, h2⟩ | ⟨j, h1, h2, h3, h4, h5⟩
  · rw [h1, fstI_none (fun k hk => h2 k (by omega) hk)]
  · rw [h3, fstI_some h4 (fun k hk => h5 k (by omega) hk) h2 (by omega)]
section PlcM
variable {X : Xc} {d : Nat} {u : Mm} {g : Nat → Int32}
theorem c_mlayP {K : Mm → Prop} (hd : 3 ≤ d) (eg : u.1 236 = g) (hg : HeadOk g) (hok : LifeOk g g) (hK : ∀ V : Mm, (∀ b, b < 248 ∨ 250 < b → V.1 b = u.1 b) → V.2 = u.2 → V.1 248 0 = brF g (nA g) 0 → (∀ a, a < nA g → V.1 250 a = if tb (g 201) a then -1 else qvF g (tkF g a) a) → K V) : CV X d 267 [.ref 234] u K := by
  obtain ⟨d, rfl, hd1⟩ := dpos hd
  have hst := Stt.rf hok
  obtain ⟨m3, m2, m4, m0, hA, hKK, hW, hQ⟩ := hdA hg hst
  have hpw := pow_le hQ
  obtain ⟨sp, -⟩ := set_pow (nQ g) hQ
  refine CV_of mk_X13_layPlacing.2.2 rfl (B_M_layPlacing_0 ?_)
  rw [eg, m3, m0, sp]
  /- gains -/
  refine lupR (n := nA g) (W := fun a (V : Mm) => VV X d 267 K 18 [some (.ref 234), some (.int (nI (nA g))), some (.int (nI (2 ^ nQ g))), some (.int (nI a)), none, none, none, none] [] V)
    (I := fun a V => (∀ b, b ≠ 249 → V.1 b = u.1 b) ∧ V.2 = u.2 ∧ ∀ a', a' < a → ∀ q, q < nQ g → V.1 249 (8 * a' + q) = gnI g a' q) ?_ u ⟨fun _ _ => rfl, rfl, fun a' h => absurd h (by omega)⟩
  rintro a V ha ⟨i1, i2, i3⟩ ih
  refine B_M_layPlacing_18 ?_
  simp (disch := omega) only [la1, la2, lt1, lt2, nI_add, pk_mul, nI_clamp, vpn, nI_leI, nI_ltI, nI_eq, ll1, ll2, ll3, ll4, le1, le2, true_and, and_true, not_true_eq_false, not_false_eq_true, forall_const, false_implies, implies_true, if_true, if_false, ite_true, ite_false, and_self, false_and, and_false]
  refine ⟨fun z => ?_, fun z => ?_⟩
  · have ea : a = nA g := by omega
    subst ea
    clear ih z ha
    /- the last row -/
    refine lupR (n := 2 ^ nQ g) (W := fun s (V : Mm) => VV X d 267 K 108 [some (.ref 234), some (.int (nI (nA g))), some (.int (nI (2 ^ nQ g))), some (.int (nI s)), none, none, none, none] [] V)
      (I := fun s V => (∀ b, b ≠ 249 → b ≠ 248 → V.1 b = u.1 b) ∧ V.2 = u.2 ∧ (∀ a', a' < nA g → ∀ q, q < nQ g → V.1 249 (8 * a' + q) = gnI g a' q) ∧ ∀ s', s' < s → V.1 248 (256 * nA g + s') = 0) ?_ V ⟨fun b b1 _ => i1 b b1, i2, i3, fun s' h => absurd h (by omega)⟩
    rintro s V hs ⟨k1, k2, k3, k4⟩ ih
    refine B_M_layPlacing_108 ?_
    simp (disch := omega) only [la1, la2, lt1, lt2, nI_add, pk_mul, nI_clamp, vpn, nI_leI, nI_ltI, nI_eq, ll1, ll2, ll3, ll4, le1, le2, true_and, and_true, not_true_eq_false, not_false_eq_true, forall_const, false_implies, implies_true, if_true, if_false, ite_true, ite_false, and_self, false_and, and_false]
    refine ⟨fun z => ?_, fun z => ⟨by omega, ih (by omega) _ ⟨fun b b1 b2 => by rw [mI_r b2]; exact k1 b b1 b2, k2, fun a' ha' q hq => by rw [mI_r (by omega)]; exact k3 a' ha' q hq, fun s' hs' => ?_⟩⟩⟩
    · have es : s = 2 ^ nQ g := by omega
      subst es
      clear ih z hs i1 i2 i3
      /- from the last statue on -/
      suffices hz : ∀ W : Mm, ((∀ b, b ≠ 249 → b ≠ 248 → W.1 b = u.1 b) ∧ W.2 = u.2 ∧ (∀ a', a' < nA g → ∀ q, q < nQ g → W.1 249 (8 * a' + q) = gnI g a' q) ∧ ∀ k, k ≤ 0 → ∀ s, s < 2 ^ nQ g → W.1 248 (256 * (nA g - k) + s) = brF g k s) → VV X d 267 K 136 [some (.ref 234), some (.int (nI (nA g))), some (.int (nI (2 ^ nQ g))), some (.int (nI (nA g - 0) - 1)), none, none, none, none] [] W from hz V ⟨k1, k2, k3, fun k hk s hs => by rw [show k = 0 by omega, brF]; exact k4 s hs⟩
      refine lupR (n := nA g) (W := fun k (W : Mm) => VV X d 267 K 136 [some (.ref 234), some (.int (nI (nA g))), some (.int (nI (2 ^ nQ g))), some (.int (nI (nA g - k) - 1)), none, none, none, none] [] W)
        (I := fun k W => (∀ b, b ≠ 249 → b ≠ 248 → W.1 b = u.1 b) ∧ W.2 = u.2 ∧ (∀ a', a' < nA g → ∀ q, q < nQ g → W.1 249 (8 * a' + q) = gnI g a' q) ∧ ∀ k', k' ≤ k → ∀ s, s < 2 ^ nQ g → W.1 248 (256 * (nA g - k') + s) = brF g k' s) ?_
      clear k1 k2 k3 k4 V
      rintro k V hk ⟨k1, k2, k3, k4⟩ ih
      by_cases ek : k = nA g
      · subst ek
        clear ih
        rw [Nat.sub_self]
        refine B_M_layPlacing_136 ⟨fun _ => ?_, fun z => absurd (by decide) z⟩
        have e248 : ∀ a, a ≤ nA g → ∀ s, s < 2 ^ nQ g → V.1 248 (256 * a + s) = brF g (nA g - a) s := by
          intro a ha s hs
          have := k4 (nA g - a) (by omega) s hs
          rwa [show nA g - (nA g - a) = a by omega] at this
        /- where each comes -/
        suffices hz : ∀ W : Mm, ((∀ b, b ≠ 250 → W.1 b = V.1 b) ∧ W.2 = u.2 ∧ ∀ a, a < 0 → W.1 250 a = if tb (g 201) a then -1 else qvF g (tkF g a) a) → VV X d 267 K 299 [some (.ref 234), some (.int (nI (nA g))), some (.int (nI (2 ^ nQ g))), some (.int (nI (tkF g 0))), some (.int (nI 0)), none, none, none] [] W from hz V ⟨fun _ _ => rfl, k2, fun a h => absurd h (by omega)⟩
        refine lupR (n := nA g) (W := fun a (W : Mm) => VV X d 267 K 299 [some (.ref 234), some (.int (nI (nA g))), some (.int (nI (2 ^ nQ g))), some (.int (nI (tkF g a))), some (.int (nI a)), none, none, none] [] W)
          (I := fun a W => (∀ b, b ≠ 250 → W.1 b = V.1 b) ∧ W.2 = u.2 ∧ ∀ a', a' < a → W.1 250 a' = if tb (g 201) a' then -1 else qvF g (tkF g a') a') ?_
        rintro a W ha ⟨w1, w2, w3⟩ ih
        refine B_M_layPlacing_299 ?_
        have e236 : (mI W 250 a (-1)).1 236 = g := by rw [mI_r (by omega), w1 236 (by omega), k1 236 (by omega) (by omega), eg]
        simp (disch := omega) only [la1, la2, lt1, lt2, nI_add, pk_mul, nI_clamp, vpn, nI_leI, nI_ltI, nI_eq, ll1, ll2, ll3, ll4, le1, le2, true_and, and_true, not_true_eq_false, not_false_eq_true, forall_const, false_implies, implies_true, if_true, if_false, ite_true, ite_false, and_self, false_and, and_false, e236, m0]
        refine ⟨fun z => ?_, fun z => ⟨by omega, ?_⟩⟩
        · have ea : a = nA g := by omega
          subst ea
          refine hK W (fun b hb => by rw [w1 b (by omega), k1 b (by omega) (by omega)]) w2 ?_ w3
          rw [w1 248 (by omega)]
          exact e248 0 (by omega) 0 (Nat.two_pow_pos _)
        · have ih := ih (by omega)
          obtain ⟨t1, t2⟩ := tk_ok hg hok a (by omega)
          have tl : tkF g a < 256 := by omega
          have r3 : ∀ V' : Mm, (∀ b, b ≠ 250 → V'.1 b = W.1 b) → (∀ a', a' ≠ a → V'.1 250 a' = W.1 250 a') → V'.2 = u.2 → (V'.1 250 a = if tb (g 201) a then -1 else qvF g (tkF g a) a) → a < 8 ∧ (V'.1 250 a = -1 → VV X d 267 K 299 [some (.ref 234), some (.int (nI (nA g))), some (.int (nI (2 ^ nQ g))), some (.int (nI (tkF g a))), some (.int (nI (a + 1))), none, none, none] [] V') ∧ (¬ V'.1 250 a = -1 → a < 8 ∧ VV X d 267 K 299 [some (.ref 234), some (.int (nI (nA g))), some (.int (nI (2 ^ nQ g))), some (.int (nI (tkF g a) ||| ((1 : Int32) <<< (V'.1 250 a &&& 31)))), some (.int (nI (a + 1))), none, none, none] [] V') := by
            intro V' v1 v2 v3 v4
            have hI : (∀ b, b ≠ 250 → V'.1 b = V.1 b) ∧ V'.2 = u.2 ∧ ∀ a', a' < a + 1 → V'.1 250 a' = if tb (g 201) a' then -1 else qvF g (tkF g a') a' := by
              refine ⟨fun b hb => (v1 b hb).trans (w1 b hb), v3, fun a' ha' => ?_⟩
              by_cases e : a' = a
              · subst e; exact v4
              · rw [v2 a' e]; exact w3 a' (by omega)
            rw [v4]
            cases hv : tb (g 201) a
            · obtain ⟨f, f1, f2, f3, -⟩ := qv_key hg hok (show a < nA g by omega) hv t1 t2
              obtain ⟨o1, -, -⟩ := or_bit (tkF g a) tl f (by omega)
              rw [if_neg (by decide), f3]
              refine ⟨by omega, fun y => absurd y (nI_m1 (by omega)), fun _ => ⟨by omega, ?_⟩⟩
              rw [o1]
              have := ih V' hI
              rwa [tkF, hv, if_neg (by decide), f3, nI_clamp (by omega)] at this
            · rw [if_pos rfl]
              refine ⟨by omega, fun _ => ?_, fun y => absurd rfl y⟩
              have := ih V' hI
              rwa [tkF, hv, if_pos rfl] at this
          cases hv : tb (g 201) a
          · /- not evicted: from the last square down -/
            suffices hz : ∀ V' : Mm, ((∀ b, b ≠ 250 → V'.1 b = W.1 b) ∧ (∀ a', a' ≠ a → V'.1 250 a' = W.1 250 a') ∧ V'.2 = u.2 ∧ V'.1 250 a = lstF (fun q => !(tkF g a).testBit q && decide (gnI g a q + brF g (nA g - a - 1) (tkF g a ||| 2 ^ q) = brF g (nA g - a) (tkF g a))) (nQ g) 0) → VV X d 267 K 323 [some (.ref 234), some (.int (nI (nA g))), some (.int (nI (2 ^ nQ g))), some (.int (nI (tkF g a))), some (.int (nI a)), some (.int (nI (nQ g - 0) - 1)), none, none] [] V' from hz _ ⟨fun b hb => mI_r hb, fun a' ha' => mI_n (by omega), w2, mI_s⟩
            refine lupR (n := nQ g) (W := fun j (V' : Mm) => VV X d 267 K 323 [some (.ref 234), some (.int (nI (nA g))), some (.int (nI (2 ^ nQ g))), some (.int (nI (tkF g a))), some (.int (nI a)), some (.int (nI (nQ g - j) - 1)), none, none] [] V')
              (I := fun j V' => (∀ b, b ≠ 250 → V'.1 b = W.1 b) ∧ (∀ a', a' ≠ a → V'.1 250 a' = W.1 250 a') ∧ V'.2 = u.2 ∧ V'.1 250 a = lstF (fun q => !(tkF g a).testBit q && decide (gnI g a q + brF g (nA g - a - 1) (tkF g a ||| 2 ^ q) = brF g (nA g - a) (tkF g a))) (nQ g) j) ?_
            rintro j V' hj ⟨v1, v2, v3, v4⟩ ih2
            by_cases ej : j = nQ g
            · subst ej
              rw [Nat.sub_self]
              rw [lstF_fst (by omega)] at v4
              refine B_M_layPlacing_323 ⟨fun _ => ?_, fun y => absurd (by decide) y⟩
              have := r3 V' v1 v2 v3 (by rw [hv, if_neg (by decide)]; exact v4)
              simp (disch := omega) only [la1, la2, lt1, lt2, nI_add, pk_mul, nI_clamp, vpn, nI_leI, nI_ltI, nI_eq, ll1, ll2, ll3, ll4, le1, le2, true_and, and_true, not_true_eq_false, not_false_eq_true, forall_const, false_implies, implies_true, if_true, if_false, ite_true, ite_false, and_self, false_and, and_false]
              exact this
            · have ih2 := ih2 (by omega)
              obtain ⟨q, hq⟩ : ∃ q, nQ g - j = q + 1 := ⟨nQ g - j - 1, by omega⟩
              rw [show nQ g - (j + 1) = q by omega] at ih2
              rw [hq, nI_pred]
              have nx : nI q + (-1) = nI q - 1 := (Int32.sub_eq_add_neg _ _).symm
              obtain ⟨o1, o2, o3⟩ := or_bit (tkF g a) tl q (by omega)
              have ev : V'.1 236 = g := by rw [v1 236 (by omega), w1 236 (by omega), k1 236 (by omega) (by omega), eg]
              refine B_M_layPlacing_323 ?_
              rw [nx, o1]
              refine ⟨fun y => absurd y (nI_pos (by omega)), fun _ => c_misEvicted hd1 (by omega) (fun y => ?_) (fun _ => ⟨fun y => absurd rfl y, fun _ => ?_⟩)⟩
              · rw [ev] at y; rw [hv] at y; cases y
              · have lst : lstF (fun q => !(tkF g a).testBit q && decide (gnI g a q + brF g (nA g - a - 1) (tkF g a ||| 2 ^ q) = brF g (nA g - a) (tkF g a))) (nQ g) (j + 1) = if (!(tkF g a).testBit q && decide (gnI g a q + brF g (nA g - a - 1) (tkF g a ||| 2 ^ q) = brF g (nA g - a) (tkF g a))) = true then nI q else V'.1 250 a := by
                  rw [lstF, v4, show nQ g - (j + 1) = q by omega]
                refine c_mhas (by omega) (by omega) (fun y => ?_) (fun y => ?_)
                · rw [tb_bit _ tl q (by omega)] at y
                  refine ⟨fun _ => ih2 V' ⟨v1, v2, v3, ?_⟩, fun y2 => absurd y2 (by decide)⟩
                  rw [lst, if_neg (by rw [y]; simp)]
                · rw [tb_bit _ tl q (by omega)] at y
                  have x1 : V'.1 249 (8 * a + q) = gnI g a q := by rw [v1 249 (by omega), w1 249 (by omega)]; exact k3 a (by omega) q (by omega)
                  have x2 : V'.1 248 (256 * (a + 1) + (tkF g a ||| 2 ^ q)) = brF g (nA g - a - 1) (tkF g a ||| 2 ^ q) := by rw [v1 248 (by omega), w1 248 (by omega)]; exact e248 (a + 1) (by omega) _ (or_lt _ hQ _ tl t1 q (by omega))
                  have x3 : V'.1 248 (256 * a + tkF g a) = brF g (nA g - a) (tkF g a) := by rw [v1 248 (by omega), w1 248 (by omega)]; exact e248 a (by omega) _ t1
                  simp (disch := omega) only [la1, la2, lt1, lt2, nI_add, pk_mul, nI_clamp, vpn, nI_leI, nI_ltI, nI_eq, ll1, ll2, ll3, ll4, le1, le2, true_and, and_true, not_true_eq_false, not_false_eq_true, forall_const, false_implies, implies_true, if_true, if_false, ite_true, ite_false, and_self, false_and, and_false, x1, x2, x3, b01, b10]
                  refine ⟨by omega, by omega, by omega, fun y2 => ih2 V' ⟨v1, v2, v3, ?_⟩, fun y2 => ⟨by omega, ih2 _ ⟨fun b hb => by rw [mI_r hb]; exact v1 b hb, fun a' ha' => by rw [mI_n (by omega)]; exact v2 a' ha', v3, ?_⟩⟩⟩
                  · rw [lst, if_neg (by rw [decide_eq_false y2]; simp)]
                  · rw [mI_s, lst, if_pos (by rw [y, decide_eq_true y2]; rfl)]
          · /- evicted -/
            have r := r3 (mI W 250 a (-1)) (fun b hb => mI_r hb) (fun a' ha' => mI_n (by omega)) w2 (by rw [mI_s, hv, if_pos rfl])
            refine B_M_layPlacing_323 ?_
            simp (disch := omega) only [la1, la2, lt1, lt2, nI_add, pk_mul, nI_clamp, vpn, nI_leI, nI_ltI, nI_eq, ll1, ll2, ll3, ll4, le1, le2, true_and, and_true, not_true_eq_false, not_false_eq_true, forall_const, false_implies, implies_true, if_true, if_false, ite_true, ite_false, and_self, false_and, and_false]
            refine ⟨fun _ => r, fun _ => c_misEvicted hd1 (by omega) (fun _ => ?_) (fun y => ?_)⟩
            · exact ⟨fun _ => r, fun y => absurd y (by decide)⟩
            · rw [e236, hv] at y; cases y
      · have ih := ih (by omega)
        obtain ⟨a, ea⟩ : ∃ a, nA g - k = a + 1 := ⟨nA g - k - 1, by omega⟩
        rw [show nA g - (k + 1) = a by omega] at ih
        rw [ea, nI_pred]
        have nx : nI a + (-1) = nI a - 1 := (Int32.sub_eq_add_neg _ _).symm
        refine B_M_layPlacing_136 ⟨fun z => absurd z (nI_pos (by omega)), fun _ => ?_⟩
        have ka : nA g - (k + 1) = a := by omega
        /- all sets of squares -/
        refine lupR (n := 2 ^ nQ g) (W := fun s (V : Mm) => VV X d 267 K 143 [some (.ref 234), some (.int (nI (nA g))), some (.int (nI (2 ^ nQ g))), some (.int (nI a)), some (.int (nI s)), none, none, none] [] V)
          (I := fun s W => (∀ b, b ≠ 249 → b ≠ 248 → W.1 b = u.1 b) ∧ W.2 = u.2 ∧ (∀ a', a' < nA g → ∀ q, q < nQ g → W.1 249 (8 * a' + q) = gnI g a' q) ∧ (∀ k', k' ≤ k → ∀ s, s < 2 ^ nQ g → W.1 248 (256 * (nA g - k') + s) = brF g k' s) ∧ ∀ s', s' < s → W.1 248 (256 * a + s') = brF g (k + 1) s') ?_ V ⟨k1, k2, k3, k4, fun s' h => absurd h (by omega)⟩
        clear k1 k2 k3 k4 V
        rintro s V hs ⟨k1, k2, k3, k4, k5⟩ ih2
        refine B_M_layPlacing_143 ?_
        rw [nx]
        have ev : V.1 236 = g := by rw [k1 236 (by omega) (by omega), eg]
        simp (disch := omega) only [la1, la2, lt1, lt2, nI_add, pk_mul, nI_clamp, vpn, nI_leI, nI_ltI, nI_eq, ll1, ll2, ll3, ll4, le1, le2, true_and, and_true, not_true_eq_false, not_false_eq_true, forall_const, false_implies, implies_true, if_true, if_false, ite_true, ite_false, and_self, false_and, and_false]
        refine ⟨fun z => ?_, fun z => ?_⟩
        · have es : s = 2 ^ nQ g := by omega
          subst es
          refine ih V ⟨k1, k2, k3, fun k' hk' s hs => ?_⟩
          by_cases e : k' = k + 1
          · subst e; rw [ka]; exact k5 s hs
          · exact k4 k' (by omega) s hs
        · have ih2 := ih2 (by omega)
          have fin : ∀ x : Int32, x = brF g (k + 1) s → 256 * a + s < 2304 ∧ VV X d 267 K 143 [some (.ref 234), some (.int (nI (nA g))), some (.int (nI (2 ^ nQ g))), some (.int (nI a)), some (.int (nI (s + 1))), none, none, none] [] (mI V 248 (256 * a + s) x) := by
            intro x hx
            refine ⟨by omega, ih2 _ ⟨fun b b1 b2 => by rw [mI_r b2]; exact k1 b b1 b2, k2, fun a' ha' q hq => by rw [mI_r (by omega)]; exact k3 a' ha' q hq, fun k' hk' s' hs' => ?_, fun s' hs' => ?_⟩⟩
            · rw [mI_n (by omega)]; exact k4 k' hk' s' hs'
            · by_cases e : s' = s
              · subst e; rw [mI_s]; exact hx
              · rw [mI_n (by omega)]; exact k5 s' (by omega)
          refine c_misEvicted hd1 (by omega) (fun y => ?_) (fun y => ?_)
          · rw [ev] at y
            refine ⟨fun w => absurd w (by decide), fun _ => ?_⟩
            have x1 : V.1 248 (256 * (a + 1) + s) = brF g k s := by rw [← ea]; exact k4 k (Nat.le_refl _) s (by omega)
            simp (disch := omega) only [la1, la2, lt1, lt2, nI_add, pk_mul, nI_clamp, vpn, nI_leI, nI_ltI, nI_eq, ll1, ll2, ll3, ll4, le1, le2, true_and, and_true, not_true_eq_false, not_false_eq_true, forall_const, false_implies, implies_true, if_true, if_false, ite_true, ite_false, and_self, false_and, and_false, x1]
            refine ⟨by omega, ?_⟩
            have r := fin (brF g k s) (by rw [brF, ka, if_pos y])
            refine B_M_layPlacing_183 ?_
            rw [ev, m0]
            simp (disch := omega) only [la1, la2, lt1, lt2, nI_add, pk_mul, nI_clamp, vpn, nI_leI, nI_ltI, nI_eq, ll1, ll2, ll3, ll4, le1, le2, true_and, and_true, not_true_eq_false, not_false_eq_true, forall_const, false_implies, implies_true, if_true, if_false, ite_true, ite_false, and_self, false_and, and_false]
            refine ⟨fun _ => r, fun _ => c_misEvicted hd1 (by omega) (fun _ => ?_) (fun y2 => ?_)⟩
            · exact ⟨fun _ => r, fun y2 => absurd y2 (by decide)⟩
            · rw [ev] at y2; exact absurd (y.symm.trans y2) (by decide)
          · rw [ev] at y
            refine ⟨fun _ => ?_, fun w => absurd rfl w⟩
            have eb : brF g (k + 1) s = mxF s (fun q => gnI g a q + brF g k (s ||| 2 ^ q)) (nQ g) := by rw [brF, ka, y, if_neg (by decide)]
            refine lup (n := nQ g) (W := fun q => VV X d 267 K 183 [some (.ref 234), some (.int (nI (nA g))), some (.int (nI (2 ^ nQ g))), some (.int (nI a)), some (.int (nI s)), some (.int (mxF s (fun q => gnI g a q + brF g k (s ||| 2 ^ q)) q)), some (.int (nI q)), none] [] V) ?_
            intro q hq ih3
            by_cases eq : q = nQ g
            · subst eq
              refine B_M_layPlacing_183 ?_
              rw [ev, m0]
              have r := fin _ eb.symm
              simp (disch := omega) only [la1, la2, lt1, lt2, nI_add, pk_mul, nI_clamp, vpn, nI_leI, nI_ltI, nI_eq, ll1, ll2, ll3, ll4, le1, le2, true_and, and_true, not_true_eq_false, not_false_eq_true, forall_const, false_implies, implies_true, if_true, if_false, ite_true, ite_false, and_self, false_and, and_false]
              exact ⟨fun _ => r, fun w => absurd (Nat.le_refl _) w⟩
            · have ih3 := ih3 (by omega)
              rw [mxF] at ih3
              obtain ⟨o1, o2, o3⟩ := or_bit s (by omega) q (by omega)
              refine B_M_layPlacing_183 ?_
              rw [ev, m0, o1]
              have x1 : V.1 249 (8 * a + q) = gnI g a q := k3 a (by omega) q (by omega)
              have x2 : V.1 248 (256 * (a + 1) + (s ||| 2 ^ q)) = brF g k (s ||| 2 ^ q) := by rw [← ea]; exact k4 k (Nat.le_refl _) _ (or_lt _ hQ _ (by omega) (by omega) q (by omega))
              simp (disch := omega) only [la1, la2, lt1, lt2, nI_add, pk_mul, nI_clamp, vpn, nI_leI, nI_ltI, nI_eq, ll1, ll2, ll3, ll4, le1, le2, true_and, and_true, not_true_eq_false, not_false_eq_true, forall_const, false_implies, implies_true, if_true, if_false, ite_true, ite_false, and_self, false_and, and_false]
              refine ⟨fun w => absurd w (by omega), fun _ => c_misEvicted hd1 (by omega) (fun y2 => ?_) (fun _ => ⟨fun w => absurd rfl w, fun _ => ?_⟩)⟩
              · rw [ev] at y2; exact absurd (y.symm.trans y2) (by decide)
              · refine c_mhas (by omega) (by omega) (fun y2 => ?_) (fun y2 => ?_)
                · rw [tb_bit _ (by omega) q (by omega)] at y2
                  rw [if_pos y2] at ih3
                  exact ⟨fun w => absurd w (by decide), fun _ => ih3⟩
                · rw [tb_bit _ (by omega) q (by omega)] at y2
                  rw [y2, if_neg (by decide)] at ih3
                  simp (disch := omega) only [la1, la2, lt1, lt2, nI_add, pk_mul, nI_clamp, vpn, nI_leI, nI_ltI, nI_eq, ll1, ll2, ll3, ll4, le1, le2, true_and, and_true, not_true_eq_false, not_false_eq_true, forall_const, false_implies, implies_true, if_true, if_false, ite_true, ite_false, and_self, false_and, and_false, x1, x2, b01, b10]
                  refine ⟨by omega, by omega, fun w => ?_, fun w => ?_⟩
                  · rwa [if_pos w] at ih3
                  · rwa [if_neg w] at ih3
    · by_cases e : s' = s
      · subst e; exact mI_s
      · rw [mI_n (by omega)]; exact k4 s' (by omega)
  · have ih := ih (by omega)
    refine lupR (n := nQ g) (W := fun q (V : Mm) => VV X d 267 K 26 [some (.ref 234), some (.int (nI (nA g))), some (.int (nI (2 ^ nQ g))), some (.int (nI a)), some (.int (nI q)), none, none, none] [] V)
      (I := fun q V => (∀ b, b ≠ 249 → V.1 b = u.1 b) ∧ V.2 = u.2 ∧ (∀ a', a' < a → ∀ q, q < nQ g → V.1 249 (8 * a' + q) = gnI g a' q) ∧ ∀ q', q' < q → V.1 249 (8 * a + q') = gnI g a q') ?_ V ⟨i1, i2, i3, fun q' h => absurd h (by omega)⟩
    clear i1 i2 i3 V
    rintro q V hq ⟨k1, k2, k3, k4⟩ ih2
    have ev : V.1 236 = g := by rw [k1 236 (by omega), eg]
    refine B_M_layPlacing_26 ?_
    obtain ⟨⟨k, hk, ek⟩, -⟩ := hok.2.2.2.1 a (by omega)
    rw [ev, m0]
    simp (disch := omega) only [la1, la2, lt1, lt2, nI_add, pk_mul, nI_clamp, vpn, nI_leI, nI_ltI, nI_eq, ll1, ll2, ll3, ll4, le1, le2, true_and, and_true, not_true_eq_false, not_false_eq_true, forall_const, false_implies, implies_true, if_true, if_false, ite_true, ite_false, and_self, false_and, and_false, ek]
    refine ⟨fun w => ih V ⟨k1, k2, fun a' ha' q' hq' => ?_⟩, fun w => ⟨by omega, ?_⟩⟩
    · by_cases e : a' = a
      · subst e; exact k4 q' (by omega)
      · exact k3 a' (by omega) q' hq'
    · have ih2 := ih2 (by omega)
      have fin : ∀ st : Bool, tb (g 200) a = st → CI X d 261 [.ref 234, .int (nI a), .int (nI q), .int (nI k), .int (if st then 1 else 0), .int 0] V (fun w2 u2 => 6 + q < 532 ∧ 8 * a + q < 64 ∧ VV X d 267 K 26 [some (.ref 234), some (.int (nI (nA g))), some (.int (nI (2 ^ nQ g))), some (.int (nI a)), some (.int (nI (q + 1))), none, none, none] [] (mI u2 249 (8 * a + q) (w2 - (5040 : Int32) * u2.1 236 (6 + q)))) := by
        intro st hst
        refine c_myield (st := st) hd1 (by rw [ev]; exact hg) (by omega) (by omega) rfl ?_
        rw [ev]
        refine ⟨by omega, by omega, ih2 _ ⟨fun b b1 => by rw [mI_r b1]; exact k1 b b1, k2, fun a' ha' q' hq' => ?_, fun q' hq' => ?_⟩⟩
        · rw [mI_n (by omega)]; exact k3 a' ha' q' hq'
        · by_cases e : q' = q
          · subst e
            rw [mI_s, gnI, ek, nI_clamp (by omega), hst]
          · rw [mI_n (by omega)]; exact k4 q' (by omega)
      exact c_mhas (by omega) (by omega) (fun y2 => fin true y2) (fun y2 => fin false y2)
end PlcM
