/-! the ways: the model -/
section MWays
variable {X : Xc} {d : Nat} {u : Mm} {g : Nat → Int32} {t : Nat}
def faB (g : Nat → Int32) (t : Nat) (F : Nat → Nat) : Prop := ∀ q, q < 8 → F q = 999 ∨ (F q < 999 ∧ rch g t (F q) q = true)
def faL (g : Nat → Int32) (t i : Nat) (F : Nat → Nat) (q : Nat) : Prop := ∀ k, k ≤ i → rch g t k q = true → F q ≤ k
theorem dis_q (hs : Sym g) (ht : t < nQ g) {q k : Nat} (hq : q < 8) (h : dis g t q k) : q < nQ g := by
  cases k with
  | zero => have := rch_0.mp h.1; omega
  | succ k =>
    obtain ⟨p, p1, p2, p3⟩ := dis_down h
    exact (hs.2 q p hq (by have := hs.1; omega) p2).1
theorem fa_fin (hs : Sym g) (ht : t < nQ g) {F : Nat → Nat} (h1 : faB g t F) (h2 : ∀ q, q < 8 → faL g t 8 F q) : ∀ q, q < 8 → F q = dst g t q := by
  intro q hq
  rcases dst_cases g t q with ⟨e, h⟩ | ⟨h8, h⟩
  · rw [e]
    rcases h1 q hq with e2 | ⟨-, hr⟩
    · exact e2
    · exfalso
      obtain ⟨k, k1, k2⟩ := pk_least (fun k => rch g t k q = true) ⟨_, hr⟩
      have hd : dis g t q k := ⟨k1, fun j hj => Bool.eq_false_iff.mpr (k2 j hj)⟩
      have := dis_lt hs.1 (dis_q hs ht hq hd) hd
      rw [h k this] at k1; cases k1
  · have hle := h2 q hq _ (by omega) h.1
    rcases h1 q hq with e2 | ⟨-, hr⟩
    · omega
    · by_cases e : F q < dst g t q
      · have := h.2 _ e
        rw [hr] at this; cases this
      · omega
theorem c_mfar {K : Mm → Prop} (hd : 2 ≤ d) (hs : Sym g) (ht : t < nQ g) (e0 : u.1 237 0 = nI (nQ g)) (e4 : ∀ q, q < 8 → u.1 237 (14 + q) = g (14 + q)) (hK : ∀ V : Mm, (∀ b, b ≠ 246 → V.1 b = u.1 b) → V.2 = u.2 → (∀ q, q < 8 → V.1 246 q = nI (dst g t q)) → K V) : CV X d 221 [.ref 234, .int (nI t)] u K := by
  obtain ⟨d, rfl, hd1⟩ := dpos hd
  have hQ := hs.1
  refine CV_of mk_X13_layFar.2.2 rfl (B_M_layFar_0 ?_)
  refine lupR (n := 8) (W := fun q (V : Mm) => VV X d 221 K 2 [some (.ref 234), some (.int (nI t)), some (.int (nI q)), none, none] [] V)
    (I := fun q V => (∀ b, b ≠ 246 → V.1 b = u.1 b) ∧ V.2 = u.2 ∧ ∀ p, p < q → V.1 246 p = nI (if p = t then 0 else 999)) ?_ u ⟨fun _ _ => rfl, rfl, fun p hp => absurd hp (by omega)⟩
  rintro q V hq ⟨i1, i2, i3⟩ ih
  refine B_M_layFar_2 ?_
  rw [nI_1, nI_clamp (show q < 2 ^ 31 by omega)]
  refine ⟨fun z => ?_, fun z => ?_⟩
  · have z : 8 ≤ q := (ll2 (n := 8) (by omega) (by decide)).mp z
    /- the rounds -/
    refine lupR (n := 8) (W := fun i (V : Mm) => VV X d 221 K 34 [some (.ref 234), some (.int (nI t)), some (.int (nI i)), none, none] [] V)
      (I := fun i V => (∀ b, b ≠ 246 → V.1 b = u.1 b) ∧ V.2 = u.2 ∧ ∃ F : Nat → Nat, (∀ q, q < 8 → V.1 246 q = nI (F q)) ∧ faB g t F ∧ ∀ q, q < 8 → faL g t i F q) ?_ V ⟨i1, i2, fun p => if p = t then 0 else 999, fun p hp => i3 p (by omega), fun p hp => ?_, fun p hp k hk hr => ?_⟩
    · rintro i V hi ⟨j1, j2, F, j3, j4, j5⟩ ih
      refine B_M_layFar_34 ?_
      refine ⟨fun y => ?_, fun y => ?_⟩
      · have y : 8 ≤ i := (ll2 (n := 8) (by omega) (by decide)).mp y
        rw [show i = 8 by omega] at j5
        exact hK V j1 j2 fun q hq => by rw [j3 q hq, fa_fin hs ht j4 j5 q hq]
      · have y : ¬ 8 ≤ i := mt (ll2 (n := 8) (m := i) (by omega) (by decide)).mpr y
        have ih := ih (by omega)
        refine lupR (n := nQ g) (W := fun q (V : Mm) => VV X d 221 K 42 [some (.ref 234), some (.int (nI t)), some (.int (nI i)), some (.int (nI q)), none] [] V)
          (I := fun q V => (∀ b, b ≠ 246 → V.1 b = u.1 b) ∧ V.2 = u.2 ∧ ∃ F : Nat → Nat, (∀ q, q < 8 → V.1 246 q = nI (F q)) ∧ faB g t F ∧ (∀ q, q < 8 → faL g t i F q) ∧ ∀ q', q' < q → faL g t (i + 1) F q') ?_ V ⟨j1, j2, F, j3, j4, j5, fun q' h => absurd h (by omega)⟩
        rintro q V hq ⟨j1, j2, F, j3, j4, j5, j6⟩ ih2
        refine B_M_layFar_42 ?_
        rw [j1 237 (by omega), e0, nI_1]
        refine ⟨fun x => ?_, fun x => ?_⟩
        · have x := (nI_leI (by omega) (by omega)).mp x
          refine ih V ⟨j1, j2, F, j3, j4, fun q hq' => ?_⟩
          by_cases e : q < nQ g
          · exact j6 q (by omega)
          · intro k hk hr
            by_cases ek : k ≤ i
            · exact j5 q hq' k ek hr
            · have ek : k = i + 1 := by omega
              subst ek
              rcases rch_s.mp hr with hr | ⟨p, p1, p2, p3⟩
              · have := j5 q hq' i (Nat.le_refl _) hr; omega
              · have := (hs.2 q p hq' (by omega) p2).1; omega
        · have x := mt (nI_leI (a := nQ g) (b := q) (by omega) (by omega)).mpr x
          have ih2 := ih2 (by omega)
          refine lupR (n := nQ g) (W := fun p (V : Mm) => VV X d 221 K 55 [some (.ref 234), some (.int (nI t)), some (.int (nI i)), some (.int (nI q)), some (.int (nI p))] [] V)
            (I := fun p V => (∀ b, b ≠ 246 → V.1 b = u.1 b) ∧ V.2 = u.2 ∧ ∃ F : Nat → Nat, (∀ q, q < 8 → V.1 246 q = nI (F q)) ∧ faB g t F ∧ (∀ q, q < 8 → faL g t i F q) ∧ (∀ q', q' < q → faL g t (i + 1) F q') ∧ ∀ p', p' < p → tb (g (14 + q)) p' = true → rch g t i p' = true → F q ≤ i + 1) ?_ V ⟨j1, j2, F, j3, j4, j5, j6, fun p' h => absurd h (by omega)⟩
          rintro p V hp ⟨j1, j2, F, j3, j4, j5, j6, j7⟩ ih3
          refine B_M_layFar_55 ?_
          rw [j1 237 (by omega), e0, nI_1, nI_1, show (14 : Int32) + nI q = nI (14 + q) from nI_add 14 q, nI_clamp (show 14 + q < 2 ^ 31 by omega), e4 q (by omega)]
          refine ⟨fun w => ?_, fun w => ⟨vp_in_nI (by omega) (by decide), ?_⟩⟩
          · have w := (nI_leI (by omega) (by omega)).mp w
            refine ih2 V ⟨j1, j2, F, j3, j4, j5, fun q' hq' => ?_⟩
            by_cases e : q' = q
            · subst e
              intro k hk hr
              by_cases ek : k ≤ i
              · exact j5 q' (by omega) k ek hr
              · have ek : k = i + 1 := by omega
                subst ek
                rcases rch_s.mp hr with hr | ⟨p', p1, p2, p3⟩
                · have := j5 q' (by omega) i (Nat.le_refl _) hr; omega
                · exact j7 p' (by omega) p2 p3
            · exact j6 q' (by omega)
          · have w := mt (nI_leI (a := nQ g) (b := p) (by omega) (by omega)).mpr w
            have ih3 := ih3 (by omega)
            refine c_mhas (by omega) (by omega) (fun y => ⟨fun z => absurd z (by decide), fun _ => ?_⟩) (fun y => ⟨fun _ => ih3 V ⟨j1, j2, F, j3, j4, j5, j6, fun p' hp' h1 h2 => ?_⟩, fun z => absurd rfl z⟩)
            · have hFq : F q ≤ 999 := by rcases j4 q (by omega) with e | e <;> omega
              have hFp : F p ≤ 999 := by rcases j4 p (by omega) with e | e <;> omega
              rw [nI_clamp (show p < 2 ^ 31 by omega), nI_clamp (show q < 2 ^ 31 by omega), j3 q (by omega), j3 p (by omega), nI_1]
              refine ⟨vp_in_nI (by omega) (by decide), vp_in_nI (by omega) (by decide), fun z => ?_, fun z => ⟨vp_in_nI (by omega) (by decide), vp_in_nI (by omega) (by decide), ?_⟩⟩
              · have z := (nI_leI (by omega) (by omega)).mp z
                refine ih3 V ⟨j1, j2, F, j3, j4, j5, j6, fun p' hp' h1 h2 => ?_⟩
                by_cases e : p' = p
                · subst e
                  have := j5 p' (by omega) i (Nat.le_refl _) h2
                  omega
                · exact j7 p' (by omega) h1 h2
              · have z := mt (nI_leI (a := F q) (b := F p + 1) (by omega) (by omega)).mpr z
                refine ih3 _ ⟨fun b hb => by rw [mI_r hb]; exact j1 b hb, j2, fun x => if x = q then F p + 1 else F x, fun y' hy => ?_, fun y' hy => ?_, fun y' hy k hk hr => ?_, fun y' hy k hk hr => ?_, fun p' hp' h1 h2 => ?_⟩
                · dsimp only
                  by_cases e : y' = q
                  · rw [e, mI_s, if_pos rfl]
                  · rw [mI_n (by omega), if_neg e]; exact j3 y' hy
                · dsimp only
                  by_cases e : y' = q
                  · rw [if_pos e, e]
                    refine Or.inr ⟨by omega, rch_s.mpr (Or.inr ⟨p, by omega, y, ?_⟩)⟩
                    rcases j4 p (by omega) with e2 | e2
                    · omega
                    · exact e2.2
                  · rw [if_neg e]; exact j4 y' hy
                · dsimp only
                  by_cases e : y' = q
                  · rw [if_pos e]
                    have := j5 y' hy k hk hr
                    rw [e] at this
                    omega
                  · rw [if_neg e]; exact j5 y' hy k hk hr
                · dsimp only
                  rw [if_neg (by omega)]; exact j6 y' hy k hk hr
                · dsimp only
                  rw [if_pos rfl]
                  by_cases e : p' = p
                  · subst e
                    have := j5 p' (by omega) i (Nat.le_refl _) h2
                    omega
                  · have := j7 p' (by omega) h1 h2
                    omega
            · by_cases e : p' = p
              · subst e; rw [y] at h1; cases h1
              · exact j7 p' (by omega) h1 h2
    · dsimp only
      by_cases e : p = t
      · rw [if_pos e]; exact Or.inr ⟨by omega, rch_0.mpr e⟩
      · rw [if_neg e]; exact Or.inl rfl
    · rw [show k = 0 by omega] at hr ⊢
      dsimp only
      rw [if_pos (rch_0.mp hr)]
      omega
  · have z : ¬ 8 ≤ q := mt (ll2 (n := 8) (m := q) (by omega) (by decide)).mpr z
    have ih := ih (by omega)
    have nx : ∀ x : Int32, x = nI (if q = t then 0 else 999) → VV X d 221 K 2 [some (.ref 234), some (.int (nI t)), some (.int (nI (q + 1))), none, none] [] (mI V 246 q x) := by
      intro x hx
      refine ih _ ⟨fun b hb => by rw [mI_r hb]; exact i1 b hb, i2, fun p hp => ?_⟩
      by_cases e : p = q
      · subst e; rw [mI_s]; exact hx
      · rw [mI_n (by omega)]; exact i3 p (by omega)
    refine ⟨fun y => ⟨vp_in_nI (by omega) (by decide), nx _ ?_⟩, fun y => ⟨vp_in_nI (by omega) (by decide), nx _ ?_⟩⟩
    · rw [if_neg (fun e => y (by rw [e]))]; rfl
    · rw [if_pos ((nI_eq (by omega) (by omega)).mp y)]; rfl
/-- what the model has laid of a way -/
def WyM (u V : Mm) (w : Nat) (l : List Nat) : Prop := (∀ b, b ≠ 237 → b ≠ 246 → V.1 b = u.1 b) ∧ V.2 = u.2 ∧ (∀ i, i ≠ 126 + w → (i < 134 + 8 * w ∨ 142 + 8 * w ≤ i) → V.1 237 i = u.1 237 i) ∧ ∀ i, i < l.length → V.1 237 (134 + 8 * w + i) = nI (l.getD i 0)
theorem c_mway {K : Mm → Prop} {w s : Nat} (hd : 3 ≤ d) (hs : Sym g) (hw : w < 8) (ht : t < nQ g) (hst : s < nQ g) (e0 : u.1 237 0 = nI (nQ g)) (e4 : ∀ q, q < 8 → u.1 237 (14 + q) = g (14 + q)) (e6 : u.1 237 (54 + w) = nI s) (e7 : u.1 237 (62 + w) = nI t) (hK : ∀ V', WyM u V' w (wyL g s t) → V'.1 237 (126 + w) = nI (wyL g s t).length → K V') : CV X d 222 [.ref 234, .int (nI w)] u K := by
  obtain ⟨d, rfl, hd1⟩ := dpos hd
  have hQ := hs.1
  refine CV_of mk_X13_layWay.2.2 rfl (B_M_layWay_0 ?_)
  rw [la1, la1, la1, lt1, la1, nI_clamp (show 62 + w < 2 ^ 31 by omega), nI_clamp (show 54 + w < 2 ^ 31 by omega), nI_clamp (show 126 + w < 2 ^ 31 by omega), nI_clamp (show 134 + 8 * w < 2 ^ 31 by omega), e7]
  refine ⟨vp_in_nI (by omega) (by decide), c_mfar (g := g) hd1 hs ht e0 e4 fun V v1 v2 v3 => ?_⟩
  rw [v1 237 (by omega), e6, nI_clamp (show s < 2 ^ 31 by omega), mI_r (by omega), v3 s (by omega)]
  refine ⟨vp_in_nI (by omega) (by decide), vp_in_nI (by omega) (by decide), vp_in_nI (by omega) (by decide), ?_⟩
  unfold wyL at hK
  rcases dst_cases g t s with ⟨h9, -⟩ | ⟨h8, -⟩
  · rw [if_pos h9] at hK
    rw [h9]
    refine ⟨fun z => absurd rfl z, fun _ => hK _ ⟨fun b b1 b2 => by rw [mI_r b1, v1 b b2], v2, fun i hi _ => by rw [mI_n (by omega), v1 237 (by omega)], fun i hi => absurd hi (by simp)⟩ (by rw [mI_s]; rfl)⟩
  · rw [if_neg (by omega)] at hK
    refine ⟨fun _ => ⟨vp_in_nI (by omega) (by decide), ?_⟩, fun z => ?_⟩
    · suffices hz : ∀ k q (pre : List Nat) (V : Mm), k ≤ dst g t s → q < nQ g → dst g t q = k → pre.length + k < 8 → pre ++ wyF g t k q = wyF g t (dst g t s) s → WyM u V w (pre ++ [q]) → (∀ q, q < 8 → V.1 246 q = nI (dst g t q)) → VV X d 222 K 65 [some (.ref 234), some (.int (nI w)), some (.int (nI q)), some (.int (nI (134 + 8 * w))), some (.int (nI (pre.length + 1))), none] [] V by
        refine hz (dst g t s) s [] _ (Nat.le_refl _) hst rfl (by simp; omega) rfl ⟨fun b b1 b2 => by rw [mI_r b1, mI_r b1, v1 b b2], v2, fun i hi h => by rw [mI_n (by omega), mI_n (by omega), v1 237 (by omega)], fun i hi => ?_⟩ (fun q hq => by rw [mI_r (by omega), mI_r (by omega)]; exact v3 q hq)
        rw [List.nil_append, List.length_singleton] at hi
        rw [show i = 0 by omega, Nat.add_zero, mI_s]; rfl
      intro k
      induction k with
      | zero =>
        intro q pre V hk hq hdq hl heq hW hF
        refine B_M_layWay_65 ?_
        rw [nI_clamp (show q < 2 ^ 31 by omega), hF q (by omega), hdq, la1, nI_clamp (show 126 + w < 2 ^ 31 by omega)]
        refine ⟨vp_in_nI (by omega) (by decide), fun _ => ⟨vp_in_nI (by omega) (by decide), hK _ ?_ ?_⟩, fun z => absurd (by decide) z⟩
        · rw [← heq]
          obtain ⟨h1, h2, h3, h4⟩ := hW
          refine ⟨fun b b1 b2 => by rw [mI_r b1]; exact h1 b b1 b2, h2, fun i hi h => by rw [mI_n (by omega)]; exact h3 i hi h, fun i hi => ?_⟩
          rw [mI_n (by omega)]
          exact h4 i hi
        · rw [mI_s, ← heq, wyF, List.length_append, List.length_singleton]
      | succ k ih =>
        intro q pre V hk hq hdq hl heq hW hF
        obtain ⟨p0, p1, p2, p3, p4⟩ := nxQ_some hs hq (by omega) hdq
        refine B_M_layWay_65 ?_
        rw [nI_clamp (show q < 2 ^ 31 by omega), hF q (by omega), hdq]
        refine ⟨vp_in_nI (by omega) (by decide), fun z => absurd z (nI_nle (by omega) (by omega)), fun _ => ?_⟩
        obtain ⟨h1, h2, h3, h4⟩ := hW
        have hrow : V.1 237 (14 + q) = g (14 + q) := by rw [h3 _ (by omega) (by omega)]; exact e4 q (by omega)
        refine lup (n := p0) (W := fun p => VV X d 222 K 77 [some (.ref 234), some (.int (nI w)), some (.int (nI q)), some (.int (nI (134 + 8 * w))), some (.int (nI (pre.length + 1))), some (.int (nI p))] [] V) ?_
        intro p hp ih2
        have hno : p < p0 → (tb (g (14 + q)) p && decide (dst g t p = k)) = false := fun h => fO_least p1 p h
        refine B_M_layWay_77 ?_
        rw [la1, nI_clamp (show 14 + q < 2 ^ 31 by omega), hrow, nI_add, nI_1, nI_1, nI_clamp (show q < 2 ^ 31 by omega), nI_clamp (show p < 2 ^ 31 by omega), nI_clamp (show 134 + 8 * w + (pre.length + 1) < 2 ^ 31 by omega)]
        refine ⟨vp_in_nI (by omega) (by decide), c_mhas (by omega) (by omega) (fun y => ⟨fun z => absurd z (by decide), fun _ => ?_⟩) (fun y => ⟨fun _ => ?_, fun z => absurd rfl z⟩)⟩
        · have ek : nI (k + 1) - 1 = nI k := nI_pred k
          rw [hF q (by omega), hdq, hF p (by omega), ek]
          have hdp : dst g t p < 1000 := by rcases dst_cases g t p with ⟨e, -⟩ | ⟨e, -⟩ <;> omega
          refine ⟨vp_in_nI (by omega) (by decide), vp_in_nI (by omega) (by decide), fun x => ⟨vp_in_nI (by omega) (by decide), ?_⟩, fun x => ih2 ?_⟩
          · have x := (nI_eq (by omega) (by omega)).mp x
            have ep : p = p0 := by
              by_cases e : p < p0
              · have := hno e
                rw [y, decide_eq_true x] at this; cases this
              · omega
            subst ep
            have hlen : (pre ++ [q]).length = pre.length + 1 := by rw [List.length_append, List.length_singleton]
            have := ih p (pre ++ [q]) (mI V 237 (134 + 8 * w + (pre.length + 1)) (nI p)) (by omega) p2 p3 (by omega) (by rw [← heq, wyF, p1, List.append_assoc]; rfl) ⟨fun b b1 b2 => by rw [mI_r b1]; exact h1 b b1 b2, h2, fun i hi h => by rw [mI_n (by omega)]; exact h3 i hi h, fun i hi => ?_⟩ (fun q hq => by rw [mI_r (by omega)]; exact hF q hq)
            · rw [hlen] at this
              exact this
            · rw [List.length_append, hlen, List.length_singleton] at hi
              by_cases e : i = pre.length + 1
              · subst e
                rw [mI_s, ← hlen, getD_app2]
              · rw [mI_n (by omega), getD_app1 (by omega)]; exact h4 i (by omega)
          · by_cases e : p < p0
            · exact e
            · have : p = p0 := by omega
              rw [this] at x
              exact absurd (by rw [p3]) x
        · refine ih2 ?_
          by_cases e : p < p0
          · exact e
          · have : p = p0 := by omega
            rw [this, p4] at y; cases y
    · have := (nI_eq (a := dst g t s) (b := 999) (by omega) (by omega)).mp z
      omega
end MWays
