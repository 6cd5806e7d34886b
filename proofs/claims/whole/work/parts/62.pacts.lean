/-! pairs: acts -/
theorem Rl_spare {u : Mm} {l : Nat → Nat → Int32} (h : Rl u) : Rl (lm u 35 l) := by
  refine h.congr (fun a j ha => ?_) rfl
  rw [lm_at, if_neg]
  rintro ⟨h1, h2⟩
  rcases (show a = 35 ∨ a = 36 ∨ a = 37 ∨ a = 38 ∨ a = 39 ∨ a = 40 ∨ a = 41 ∨ a = 42 ∨ a = 43 by omega) with rfl | rfl | rfl | rfl | rfl | rfl | rfl | rfl | rfl <;> exact absurd (show (false : Bool) = true from ha) (by decide)
/-- where an act may have written -/
def Fra (u v : Mm) (t : Nat) : Prop := v.2 = u.2 ∧ (∀ b, ¬ (20 ≤ b ∧ b ≤ 28) → ¬ (35 ≤ b ∧ b ≤ 44) → ¬ (46 + 9 * t ≤ b ∧ b ≤ 46 + 9 * t + 8) → b ≠ 234 → b ≠ 236 → b ≠ 239 → b ≠ 240 → b ≠ 247 → v.1 b = u.1 b) ∧ ∀ k, k ≠ 0 → k ≠ 24 → k ≠ 27 → k ≠ 28 → v.1 234 k = u.1 234 k
theorem Fra.T {u v : Mm} {t : Nat} (h : Fra u v t) (ht : t < 8) : AG relT u v := by
  intro a j ha
  unfold relT at ha
  split at ha
  · exact congrFun (h.2.1 1 (by omega) (by omega) (by omega) (by omega) (by omega) (by omega) (by omega) (by omega)) j
  · exact congrFun (h.2.1 2 (by omega) (by omega) (by omega) (by omega) (by omega) (by omega) (by omega) (by omega)) j
  · simp only [Bool.or_eq_true, beq_iff_eq] at ha
    exact h.2.2 j (by omega) (by omega) (by omega) (by omega)
  · exact congrFun (h.2.1 235 (by omega) (by omega) (by omega) (by omega) (by omega) (by omega) (by omega) (by omega)) j
  · cases ha
theorem Fra.K {u v : Mm} {t : Nat} (h : Fra u v t) (ht : t < 8) : AG relK u v := by
  intro a j ha
  by_cases e : a = 234
  · subst e
    simp only [relK, Bool.or_eq_true, beq_iff_eq] at ha
    exact h.2.2 j (by omega) (by omega) (by omega) (by omega)
  · refine congrFun (h.2.1 a ?_ ?_ ?_ e ?_ ?_ ?_ ?_) j
    all_goals
      unfold relK at ha
      split at ha <;> first
        | omega
        | cases ha
theorem Fra.I {u v : Mm} {t : Nat} (h : Fra u v t) (ht : t < 8) : AG relI u v := by
  intro a j ha
  unfold relI at ha
  split at ha
  · exact congrFun (h.2.1 0 (by omega) (by omega) (by omega) (by omega) (by omega) (by omega) (by omega) (by omega)) j
  · exact congrFun (h.2.1 238 (by omega) (by omega) (by omega) (by omega) (by omega) (by omega) (by omega) (by omega)) j
  · exact congrFun (h.2.1 244 (by omega) (by omega) (by omega) (by omega) (by omega) (by omega) (by omega) (by omega)) j
  · rw [Bool.and_eq_true, decide_eq_true_eq, decide_eq_true_eq] at ha
    exact congrFun (h.2.1 a (by omega) (by omega) (by omega) (by omega) (by omega) (by omega) (by omega) (by omega)) j
/-- an act is done: what was so is kept, what is so is s -/
theorem fin_act {u v : Mm} {n t : Nat} {s : Nat → Int32} {l20 lt : Nat → Nat → Int32} (h : Rl u) (hn : n ≤ 8) (ht : t < 8) (p4 : ∀ i, i < n → LifeOk (u.1 236) (fun k => u.1 239 (92 * i + k - 198)) ∧ LifeR u (46 + 9 * ((t + 8 - n + i) % 8)) (u.1 236) (fun k => u.1 239 (92 * i + k - 198)))
    (hf : Fra u v t) (v20 : ∀ c, c ≤ 8 → v.1 (20 + c) = l20 c) (vt : ∀ c, c ≤ 8 → v.1 (46 + 9 * t + c) = lt c) (v2 : v.1 44 2 = nI (mn8 n)) (v3 : v.1 44 3 = nI ((t + 1) % 8)) (v24 : v.1 234 24 = nI (mn8 n)) (v236 : v.1 236 = s) (v239 : v.1 239 = snF (u.1 239) (u.1 236) n) (ho : Out (u.1 236) s) (hs : LifeOk (u.1 236) s) (hl : LifeP (u.1 236) s l20) (hlt : LifeP (u.1 236) (u.1 236) lt) : Rl v := by
  obtain ⟨hd1, -, hd3, -⟩ := h.2.2.2.1
  have hA := hd1.1.2.2.2.2.2.1
  have hW := hd1.1.2.2.2.2.2.2.2
  have cell : ∀ L : Nat, ∀ l : Nat → Nat → Int32, (∀ c, c ≤ 8 → v.1 (L + c) = l c) → ∀ s', LifeP (u.1 236) s' l → LifeR v L (u.1 236) s' := by
    intro L l hc s' hq
    have e0 : v.1 L = l 0 := hc 0 (by omega)
    unfold LifeR
    rw [e0, hc 1 (by omega), hc 2 (by omega), hc 3 (by omega), hc 4 (by omega), hc 5 (by omega), hc 6 (by omega), hc 7 (by omega), hc 8 (by omega)]
    exact hq
  have hcy : ∀ b, (5 ≤ b ∧ b ≤ 18) ∨ (29 ≤ b ∧ b ≤ 32) → v.1 b = u.1 b := fun b hb => hf.2.1 b (by omega) (by omega) (by omega) (by omega) (by omega) (by omega) (by omega) (by omega)
  refine Rl_act h (hf.T ht) (hf.K ht) (hf.I ht) hf.1 (fun k a b => hcy _ (by omega)) (by rw [hcy 5 (by omega)]) (by rw [hcy 5 (by omega)]) (by rw [hcy 29 (by omega)]) (fun k a b => hcy _ (by omega)) v236 ho hs (cell 20 l20 v20 s hl) ?_
  refine PastR_keep hA hW hn ht p4 v2 v3 v24 (by rw [v236]; exact ho) (fun x c hx hxt hc => ?_) v239 hd3 (cell (46 + 9 * t) lt vt _ hlt)
  exact hf.2.1 _ (by omega) (by omega) (by omega) (by omega) (by omega) (by omega) (by omega) (by omega)
theorem Stt.rf {g : Nat → Int32} (h : LifeOk g g) : Stt g g := ⟨fun _ _ _ => rfl, h⟩
section PActs
variable {X : Xc} {d : Nat} {u : Mm}
/-- all that an act of the system does, once its own try is known -/
theorem act_class {K : Int32 → Mm → Prop} {w : Int32} {s : Nat → Int32} {kt : Nat} {as : List Value} (hd : 4 ≤ d) (h : Rl u)
    (try' : ∀ (U : Mm) (l : Nat → Nat → Int32) (K : Int32 → Mm → Prop), LifeP (u.1 236) (u.1 236) l → (w ≠ 0 → K w (lm U 20 l)) → (w = 0 → ∀ l', LifeP (u.1 236) s l' → K 0 (lm U 20 l')) → CI X d kt (.ref 20 :: as) (lm U 20 l) K)
    (h1 : w ≠ 0 → ∀ l, K w (lm u 35 l)) (h0 : w = 0 → ∀ n t l35 l20 lt, n ≤ 8 → t < 8 → u.1 234 24 = nI n → (∀ i, i < n → LifeOk (u.1 236) (fun k => u.1 239 (92 * i + k - 198)) ∧ LifeR u (46 + 9 * ((t + 8 - n + i) % 8)) (u.1 236) (fun k => u.1 239 (92 * i + k - 198))) → LifeP (u.1 236) s l20 → LifeP (u.1 236) (u.1 236) lt → K 0 (mI (mI (lm (lm (lm u 35 l35) 20 l20) (46 + 9 * t) lt) 44 3 (nI ((t + 1) % 8))) 44 2 (nI (mn8 n)))) :
    CV X d 42 [.ref 35, .ref 20] u (fun u2 => CI X d kt (.ref 20 :: as) u2 (fun w3 u3 => CI X d 139 [.ref 0, .int w3] u3 K)) := by
  obtain ⟨hg, hc, hok, hr, -⟩ := h.2.2.2.1
  obtain ⟨n, t, hn, ht, p2, p3, p24, p4⟩ := h.2.2.2.2.1
  have hA := hg.1.2.2.2.2.2.1
  have hQ := hg.1.2.1
  have hW := hg.1.2.2.2.2.2.2.2
  obtain ⟨d, rfl, hd1⟩ := dpos hd
  have e35 : u = lm u 35 (fun c => u.1 (35 + c)) := (lm_eta u 35).symm
  suffices hz : CV X (d + 1) 42 [.ref 35, .ref 20] (lm u 35 (fun c => u.1 (35 + c))) (fun u2 => CI X (d + 1) kt (.ref 20 :: as) u2 (fun w3 u3 => CI X (d + 1) 139 [.ref 0, .int w3] u3 K)) by rwa [← e35] at hz
  refine c_lcopy35_20 (by omega) fun l35 hs35 => ?_
  have q35 : LifeP (u.1 236) (u.1 236) l35 := hs35.P hA hQ hW hr
  have e20 : lm u 35 l35 = lm (lm u 35 l35) 20 (fun c => u.1 (20 + c)) := by
    refine (lm_eta _ 20).symm.trans ?_
    refine mm_ext (fun b k => ?_) rfl
    simp only [lm_at]
    by_cases e : 20 ≤ b ∧ b ≤ 28
    · rw [if_pos e, if_pos e, if_neg (by omega)]
    · rw [if_neg e, if_neg e]
  rw [e20]
  refine try' _ _ _ hr (fun hw => ?_) (fun hw l' hl' => ?_)
  · refine CI_of mk_X12_keptIfDone.2.2 rfl (B_S_keptIfDone_0 ⟨fun _ => ?_, fun q => absurd q hw⟩)
    rw [← e20]
    exact h1 hw l35
  · refine CI_of mk_X12_keptIfDone.2.2 rfl (B_S_keptIfDone_0 ⟨fun q => absurd rfl q, fun _ => ?_⟩)
    refine c_keep hd1 ht (by rw [lm_o (by omega), lm_o (by omega)]; exact p3) (by rw [lm_o (by omega), lm_o (by omega)]; exact p2) hn fun lt hlt => ?_
    refine h0 hw n t l35 l' lt hn ht p24 p4 hl' ?_
    refine hlt.P hA hQ hW (s := u.1 236) (g := u.1 236) ?_
    have e1 : ∀ c, c ≤ 8 → (lm (lm u 35 l35) 20 l').1 (35 + c) = l35 c := fun c hc => by
      rw [lm_o (by omega), lm_in (by omega) (by omega), show 35 + c - 35 = c by omega]
    have e0 : (lm (lm u 35 l35) 20 l').1 35 = l35 0 := e1 0 (by omega)
    unfold LifeR
    rw [e0, e1 1 (by omega), e1 2 (by omega), e1 3 (by omega), e1 4 (by omega), e1 5 (by omega), e1 6 (by omega), e1 7 (by omega), e1 8 (by omega)]
    exact q35
/-- the end of an act of both -/
theorem act_end {n t : Nat} {s : Nat → Int32} {l35 l20 lt : Nat → Nat → Int32} (h : Rl u) (hn : n ≤ 8) (ht : t < 8) (p4 : ∀ i, i < n → LifeOk (u.1 236) (fun k => u.1 239 (92 * i + k - 198)) ∧ LifeR u (46 + 9 * ((t + 8 - n + i) % 8)) (u.1 236) (fun k => u.1 239 (92 * i + k - 198))) (hl : LifeP (u.1 236) s l20) (hlt : LifeP (u.1 236) (u.1 236) lt) (ho : Out (u.1 236) s) (hs : LifeOk (u.1 236) s) :
    Rl (mR (mI (mR (mI (mI (mI (lm (lm (lm u 35 l35) 20 l20) (46 + 9 * t) lt) 44 3 (nI ((t + 1) % 8))) 44 2 (nI (mn8 n))) 234 0 0) 239 (snF (u.1 239) (u.1 236) n)) 234 24 (nI (mn8 n))) 236 s) := by
  refine fin_act (s := s) (l20 := l20) (lt := lt) h hn ht p4 ⟨rfl, fun b q1 q2 q3 q4 q5 q6 q7 q8 => ?_, fun k k1 k2 k3 k4 => ?_⟩ (fun c hc => ?_) (fun c hc => ?_) ?_ ?_ ?_ ?_ ?_ ho hs hl hlt
  · simp (disch := omega) only [mR_n, mI_r, lm_o]
  · simp (disch := omega) only [mR_n, mI_n, lm_o]
  · simp (disch := omega) only [mR_n, mI_r, lm_o, lm_in, Nat.add_sub_cancel_left]
  · simp (disch := omega) only [mR_n, mI_r, lm_o, lm_in, Nat.add_sub_cancel_left]
  · simp (disch := omega) only [mR_n, mI_n, mI_s]
  · simp (disch := omega) only [mR_n, mI_n, mI_s]
  · simp (disch := omega) only [mR_n, mI_s]
  · exact mR_s
  · simp (disch := omega) only [mR_n, mI_r, mR_s]
theorem no2 {n j : Nat} (hj : j < n) (hn : n < 1000) (h : nI j < 0 ∨ nI n ≤ nI j) : False := by
  rcases h with y | y
  · exact nI_pos (by omega) y
  · exact nI_ge hj (by omega) y
theorem p_move {p1 p2 : Int32} (hd : 5 ≤ d) (h : Rl u) : PairI X d 134 248 [.int p1, .int p2] u := by
  intro K hK
  obtain ⟨hg, hc, hok, hr, -⟩ := h.2.2.2.1
  have hA := hg.1.2.2.2.2.2.1
  have hQ := hg.1.2.1
  have hW := hg.1.2.2.2.2.2.2.2
  obtain ⟨cq, ck, ca, cw⟩ := cityN hg hc
  have hst := Stt.rf hok
  obtain ⟨m3, m2, m4, m0, -⟩ := hdA hg hst
  obtain ⟨d, rfl, hd1⟩ := dpos hd
  refine CI_of mk_X12_move.2.2 rfl (B_S_move_0 (c_has5 (s := 2) (n := nA (u.1 236)) (by omega) rfl (by omega) ca (by omega) (fun a ha e => ?_) (fun q => ?_)))
  · subst e
    refine ⟨fun z => absurd z (by decide), fun _ => c_has5 (s := 0) (n := nQ (u.1 236)) (by omega) rfl (by omega) cq (by omega) (fun q hq e => ?_) (fun q => ?_)⟩
    · subst e
      refine ⟨fun _ => ?_, fun z => absurd z (by decide)⟩
      refine act_class (w := whyM (u.1 236) (u.1 236) a q) (s := actM (u.1 236) a q) hd1 h (fun U l K' q1 q2 q3 => c_tryM20 (by omega) hg hst q1 ha hq q2 q3) (fun hw l => ?_) (fun hw n t l35 l20 lt hn ht p24 p4 z1 z2 => ?_)
      · refine CI_of mk_X13_move.2.2 rfl (B_M_move_0 (c_misStatue (n := nA (u.1 236)) (by omega) m3 (by omega) (fun a' ha' e => ⟨fun z => absurd z (by decide), fun _ => c_misSquare (n := nQ (u.1 236)) (by omega) m0 (by omega) (fun q' hq' e' => ⟨fun _ => ?_, fun z => absurd z (by decide)⟩) (fun z => ?_)⟩) (fun z => ?_)))
        · refine c_mwhyM (g := u.1 236) (by omega) hg hst ha ⟨fun z => absurd z hw, fun _ => hK _ _ (Rl_spare h).th⟩
        · exact (no2 hq (by omega) z).elim
        · exact (no2 ha (by omega) z).elim
      · have e236 : (mI (mI (mI (lm (lm (lm u 35 l35) 20 l20) (46 + 9 * t) lt) 44 3 (nI ((t + 1) % 8))) 44 2 (nI (mn8 n))) 234 0 0).1 236 = u.1 236 := by
          simp (disch := omega) only [mI_r, lm_o]
        have e239 : (mI (mI (mI (lm (lm (lm u 35 l35) 20 l20) (46 + 9 * t) lt) 44 3 (nI ((t + 1) % 8))) 44 2 (nI (mn8 n))) 234 0 0).1 239 = u.1 239 := by
          simp (disch := omega) only [mI_r, lm_o]
        have e24 : (mI (mI (mI (lm (lm (lm u 35 l35) 20 l20) (46 + 9 * t) lt) 44 3 (nI ((t + 1) % 8))) 44 2 (nI (mn8 n))) 234 0 0).1 234 24 = nI n := by
          simp (disch := omega) only [mI_n, lm_o]
          exact p24
        have hfin := act_end (l35 := l35) h hn ht p4 z1 z2 (fun k hk => pk_un (by omega)) (actM_ok hg hst ha hq hw).2
        refine CI_of mk_X13_move.2.2 rfl (B_M_move_0 ?_)
        generalize mI (mI (mI (lm (lm (lm u 35 l35) 20 l20) (46 + 9 * t) lt) 44 3 (nI ((t + 1) % 8))) 44 2 (nI (mn8 n))) 234 0 0 = U at e236 e239 e24 hfin ⊢
        refine c_misStatue (n := nA (u.1 236)) (by omega) (by rw [e236]; exact m3) (by omega) (fun a' ha' e => ⟨fun z => absurd z (by decide), fun _ => c_misSquare (n := nQ (u.1 236)) (by omega) (by rw [e236]; exact m0) (by omega) (fun q' hq' e' => ⟨fun _ => ?_, fun z => absurd z (by decide)⟩) (fun z => ?_)⟩) (fun z => ?_)
        · refine c_mwhyM (g := u.1 236) (by omega) hg (by rw [e236]; exact hst) ha ?_
          rw [e236, hw]
          refine ⟨fun _ => c_msnap (by omega) e24 hn ?_, fun z => absurd rfl z⟩
          simp (disch := omega) only [la1, la2, lt1, lt2, nI_add, pk_mul, nI_clamp, vpn, nI_leI, nI_ltI, nI_eq, ll1, ll2, ll3, ll4, le1, le2, true_and, and_true, not_true_eq_false, not_false_eq_true, forall_const, false_implies, implies_true, if_true, if_false, ite_true, ite_false, and_self, false_and, and_false]
          refine ⟨by omega, hK _ _ ?_⟩
          rw [e239, e236, mI_mR]
          rw [show (mI (mR U 239 (snF (u.1 239) (u.1 236) n)) 234 24 (nI (mn8 n))).1 236 = u.1 236 by simp (disch := omega) only [mI_r, mR_n, e236]]
          exact hfin
        · exact (no2 hq (by omega) z).elim
        · exact (no2 ha (by omega) z).elim
    · refine ⟨fun z => absurd rfl z, fun _ => ?_⟩
      refine CI_of mk_X13_move.2.2 rfl (B_M_move_0 (c_misStatue (n := nA (u.1 236)) (by omega) m3 (by omega) (fun a' ha' e => ⟨fun z => absurd z (by decide), fun _ => c_misSquare (n := nQ (u.1 236)) (by omega) m0 (by omega) (fun q' hq' e' => ?_) (fun z => ⟨fun y => absurd rfl y, fun _ => hK _ _ h.th⟩)⟩) (fun z => ?_)))
      · subst e'
        exact (no2 hq' (by omega) q).elim
      · exact (no2 ha (by omega) z).elim
  · refine ⟨fun _ => ?_, fun z => absurd rfl z⟩
    refine CI_of mk_X13_move.2.2 rfl (B_M_move_0 (c_misStatue (n := nA (u.1 236)) (by omega) m3 (by omega) (fun a' ha' e => ?_) (fun z => ⟨fun _ => hK _ _ h.th, fun y => absurd rfl y⟩)))
    subst e
    exact (no2 ha' (by omega) q).elim
theorem p_clean {p1 : Int32} (hd : 5 ≤ d) (h : Rl u) : PairI X d 135 249 [.int p1] u := by
  intro K hK
  obtain ⟨hg, hc, hok, hr, -⟩ := h.2.2.2.1
  have hA := hg.1.2.2.2.2.2.1
  have hQ := hg.1.2.1
  have hKK := hg.1.2.2.2.1
  have hW := hg.1.2.2.2.2.2.2.2
  obtain ⟨cq, ck, ca, cw⟩ := cityN hg hc
  have hst := Stt.rf hok
  obtain ⟨m3, m2, m4, m0, -⟩ := hdA hg hst
  obtain ⟨d, rfl, hd1⟩ := dpos hd
  refine CI_of mk_X12_clean.2.2 rfl (B_S_clean_0 (c_has5 (s := 2) (n := nA (u.1 236)) (by omega) rfl (by omega) ca (by omega) (fun a ha e => ?_) (fun q => ?_)))
  · subst e
    refine ⟨fun _ => ?_, fun z => absurd z (by decide)⟩
    refine act_class (w := whyC (u.1 236) a) (s := actC (u.1 236) a) hd1 h (fun U l K' q1 q2 q3 => c_tryC20 (by omega) hg hst q1 ha q2 q3) (fun hw l => ?_) (fun hw n t l35 l20 lt hn ht p24 p4 z1 z2 => ?_)
    · refine CI_of mk_X13_clean.2.2 rfl (B_M_clean_0 (c_misStatue (n := nA (u.1 236)) (by omega) m3 (by omega) (fun a' ha' e => ⟨fun _ => ?_, fun z => absurd z (by decide)⟩) (fun z => (no2 ha (by omega) z).elim)))
      exact c_mwhyC (by omega) (by omega) ⟨fun z => absurd z hw, fun _ => hK _ _ (Rl_spare h).th⟩
    · have e236 : (mI (mI (mI (lm (lm (lm u 35 l35) 20 l20) (46 + 9 * t) lt) 44 3 (nI ((t + 1) % 8))) 44 2 (nI (mn8 n))) 234 0 0).1 236 = u.1 236 := by
        simp (disch := omega) only [mI_r, lm_o]
      have e239 : (mI (mI (mI (lm (lm (lm u 35 l35) 20 l20) (46 + 9 * t) lt) 44 3 (nI ((t + 1) % 8))) 44 2 (nI (mn8 n))) 234 0 0).1 239 = u.1 239 := by
        simp (disch := omega) only [mI_r, lm_o]
      have e24 : (mI (mI (mI (lm (lm (lm u 35 l35) 20 l20) (46 + 9 * t) lt) 44 3 (nI ((t + 1) % 8))) 44 2 (nI (mn8 n))) 234 0 0).1 234 24 = nI n := by
        simp (disch := omega) only [mI_n, lm_o]
        exact p24
      have hfin := act_end (l35 := l35) h hn ht p4 z1 z2 (fun k hk => by unfold actC; simp (disch := omega) only [pk_un, pk_us]) (actC_ok hg hst ha).2
      refine CI_of mk_X13_clean.2.2 rfl (B_M_clean_0 ?_)
      generalize mI (mI (mI (lm (lm (lm u 35 l35) 20 l20) (46 + 9 * t) lt) 44 3 (nI ((t + 1) % 8))) 44 2 (nI (mn8 n))) 234 0 0 = U at e236 e239 e24 hfin ⊢
      refine c_misStatue (n := nA (u.1 236)) (by omega) (by rw [e236]; exact m3) (by omega) (fun a' ha' e => ⟨fun _ => ?_, fun z => absurd z (by decide)⟩) (fun z => (no2 ha (by omega) z).elim)
      refine c_mwhyC (by omega) (by omega) ?_
      rw [e236, hw]
      refine ⟨fun _ => c_msnap (by omega) e24 hn (c_mdoC (by omega) (by omega) (hK _ _ ?_)), fun z => absurd rfl z⟩
      rw [e239, e236]
      rw [show (mI (mR U 239 (snF (u.1 239) (u.1 236) n)) 234 24 (nI (mn8 n))).1 236 = u.1 236 by simp (disch := omega) only [mI_r, mR_n, e236]]
      exact hfin
  · refine ⟨fun z => absurd rfl z, fun _ => ?_⟩
    refine CI_of mk_X13_clean.2.2 rfl (B_M_clean_0 (c_misStatue (n := nA (u.1 236)) (by omega) m3 (by omega) (fun a' ha' e => ?_) (fun z => ⟨fun y => absurd rfl y, fun _ => hK _ _ h.th⟩)))
    subst e
    exact (no2 ha' (by omega) q).elim
theorem p_show {p1 p2 : Int32} (hd : 5 ≤ d) (h : Rl u) : PairI X d 136 250 [.int p1, .int p2] u := by
  intro K hK
  obtain ⟨hg, hc, hok, hr, -⟩ := h.2.2.2.1
  have hA := hg.1.2.2.2.2.2.1
  have hQ := hg.1.2.1
  have hKK := hg.1.2.2.2.1
  have hW := hg.1.2.2.2.2.2.2.2
  obtain ⟨cq, ck, ca, cw⟩ := cityN hg hc
  have hst := Stt.rf hok
  obtain ⟨m3, m2, m4, m0, -⟩ := hdA hg hst
  obtain ⟨d, rfl, hd1⟩ := dpos hd
  refine CI_of mk_X12_show.2.2 rfl (B_S_show_0 (c_has5 (s := 2) (n := nA (u.1 236)) (by omega) rfl (by omega) ca (by omega) (fun a ha e => ?_) (fun q => ?_)))
  · subst e
    refine ⟨fun z => absurd z (by decide), fun _ => c_has5 (s := 1) (n := nK (u.1 236)) (by omega) rfl (by omega) ck (by omega) (fun q hq e => ?_) (fun q => ?_)⟩
    · subst e
      refine ⟨fun _ => ?_, fun z => absurd z (by decide)⟩
      refine act_class (w := whyS (u.1 236) a q) (s := actS (u.1 236) a q) hd1 h (fun U l K' q1 q2 q3 => c_tryS20 (by omega) hg hst q1 ha hq q2 q3) (fun hw l => ?_) (fun hw n t l35 l20 lt hn ht p24 p4 z1 z2 => ?_)
      · refine CI_of mk_X13_show.2.2 rfl (B_M_show_0 (c_misStatue (n := nA (u.1 236)) (by omega) m3 (by omega) (fun a' ha' e => ⟨fun z => absurd z (by decide), fun _ => c_misKind (n := nK (u.1 236)) (by omega) m2 (by omega) (fun q' hq' e' => ⟨fun _ => ?_, fun z => absurd z (by decide)⟩) (fun z => (no2 hq (by omega) z).elim)⟩) (fun z => (no2 ha (by omega) z).elim)))
        exact c_mwhyS (by omega) (by omega) ⟨fun z => absurd z hw, fun _ => hK _ _ (Rl_spare h).th⟩
      · have e236 : (mI (mI (mI (lm (lm (lm u 35 l35) 20 l20) (46 + 9 * t) lt) 44 3 (nI ((t + 1) % 8))) 44 2 (nI (mn8 n))) 234 0 0).1 236 = u.1 236 := by
          simp (disch := omega) only [mI_r, lm_o]
        have e239 : (mI (mI (mI (lm (lm (lm u 35 l35) 20 l20) (46 + 9 * t) lt) 44 3 (nI ((t + 1) % 8))) 44 2 (nI (mn8 n))) 234 0 0).1 239 = u.1 239 := by
          simp (disch := omega) only [mI_r, lm_o]
        have e24 : (mI (mI (mI (lm (lm (lm u 35 l35) 20 l20) (46 + 9 * t) lt) 44 3 (nI ((t + 1) % 8))) 44 2 (nI (mn8 n))) 234 0 0).1 234 24 = nI n := by
          simp (disch := omega) only [mI_n, lm_o]
          exact p24
        have hfin := act_end (l35 := l35) h hn ht p4 z1 z2 (fun k hk => by unfold actS; simp (disch := omega) only [pk_un, pk_us]) (actS_ok hg hst ha hq).2
        refine CI_of mk_X13_show.2.2 rfl (B_M_show_0 ?_)
        generalize mI (mI (mI (lm (lm (lm u 35 l35) 20 l20) (46 + 9 * t) lt) 44 3 (nI ((t + 1) % 8))) 44 2 (nI (mn8 n))) 234 0 0 = U at e236 e239 e24 hfin ⊢
        refine c_misStatue (n := nA (u.1 236)) (by omega) (by rw [e236]; exact m3) (by omega) (fun a' ha' e => ⟨fun z => absurd z (by decide), fun _ => c_misKind (n := nK (u.1 236)) (by omega) (by rw [e236]; exact m2) (by omega) (fun q' hq' e' => ⟨fun _ => ?_, fun z => absurd z (by decide)⟩) (fun z => (no2 hq (by omega) z).elim)⟩) (fun z => (no2 ha (by omega) z).elim)
        refine c_mwhyS (by omega) (by omega) ?_
        rw [e236, hw]
        refine ⟨fun _ => c_msnap (by omega) e24 hn (c_mdoS (by omega) (by omega) (hK _ _ ?_)), fun z => absurd rfl z⟩
        rw [e239, e236]
        rw [show (mI (mR U 239 (snF (u.1 239) (u.1 236) n)) 234 24 (nI (mn8 n))).1 236 = u.1 236 by simp (disch := omega) only [mI_r, mR_n, e236]]
        exact hfin
    · refine ⟨fun z => absurd rfl z, fun _ => ?_⟩
      refine CI_of mk_X13_show.2.2 rfl (B_M_show_0 (c_misStatue (n := nA (u.1 236)) (by omega) m3 (by omega) (fun a' ha' e => ⟨fun z => absurd z (by decide), fun _ => c_misKind (n := nK (u.1 236)) (by omega) m2 (by omega) (fun q' hq' e' => ?_) (fun z => ⟨fun y => absurd rfl y, fun _ => hK _ _ h.th⟩)⟩) (fun z => (no2 ha (by omega) z).elim)))
      subst e'
      exact (no2 hq' (by omega) q).elim
  · refine ⟨fun _ => ?_, fun z => absurd rfl z⟩
    refine CI_of mk_X13_show.2.2 rfl (B_M_show_0 (c_misStatue (n := nA (u.1 236)) (by omega) m3 (by omega) (fun a' ha' e => ?_) (fun z => ⟨fun _ => hK _ _ h.th, fun y => absurd rfl y⟩)))
    subst e
    exact (no2 ha' (by omega) q).elim
theorem p_lend {p1 p2 p3 : Int32} (hd : 5 ≤ d) (h : Rl u) : PairI X d 137 251 [.int p1, .int p2, .int p3] u := by
  intro K hK
  obtain ⟨hg, hc, hok, hr, -⟩ := h.2.2.2.1
  have hA := hg.1.2.2.2.2.2.1
  have hQ := hg.1.2.1
  have hKK := hg.1.2.2.2.1
  have hW := hg.1.2.2.2.2.2.2.2
  obtain ⟨cq, ck, ca, cw⟩ := cityN hg hc
  have hst := Stt.rf hok
  obtain ⟨m3, m2, m4, m0, -⟩ := hdA hg hst
  obtain ⟨d, rfl, hd1⟩ := dpos hd
  have mbad : ∀ K' : Int32 → Mm → Prop, ((p1 < 0 ∨ nI (nA (u.1 236)) ≤ p1) ∨ (p2 < 0 ∨ nI (nA (u.1 236)) ≤ p2) ∨ p1 = p2 ∨ p3 < 1 ∨ 99 < p3) → K' (-1) (mI u 234 0 0) → CI X (d + 1) 251 [.ref 234, .int p1, .int p2, .int p3] u K' := by
    intro K' hb hk
    refine CI_of mk_X13_lend.2.2 rfl (B_M_lend_0 (c_misStatue (n := nA (u.1 236)) (by omega) m3 (by omega) (fun a ha e => ⟨fun z => absurd z (by decide), fun _ => c_misStatue (n := nA (u.1 236)) (by omega) m3 (by omega) (fun b hb' e' => ⟨fun z => absurd z (by decide), fun _ => ⟨fun _ => hk, fun z => ?_⟩⟩) (fun _ => ⟨fun _ => hk, fun z => absurd rfl z⟩)⟩) (fun _ => ⟨fun _ => hk, fun z => absurd rfl z⟩)))
    refine c_misIn (by omega) (fun z1 z2 => ?_) (fun _ => ⟨fun z => absurd rfl z, fun _ => hk⟩)
    rcases hb with q | q | q | q | q
    · subst e; exact (no2 ha (by omega) q).elim
    · subst e'; exact (no2 hb' (by omega) q).elim
    · exact absurd q z
    · exact absurd q z1
    · exact absurd q z2
  refine CI_of mk_X12_lend.2.2 rfl (B_S_lend_0 (c_has5 (s := 2) (n := nA (u.1 236)) (by omega) rfl (by omega) ca (by omega) (fun a ha e => ?_) (fun q => ?_)))
  · refine ⟨fun z => absurd z (by decide), fun _ => c_has5 (s := 2) (n := nA (u.1 236)) (by omega) rfl (by omega) ca (by omega) (fun b hb e' => ?_) (fun q => ?_)⟩
    · refine ⟨fun z => absurd z (by decide), fun _ => ⟨fun y => mbad _ (Or.inr (Or.inr (Or.inl y))) (hK _ _ h.th), fun y => ⟨fun x => mbad _ (Or.inr (Or.inr (Or.inr (Or.inl x)))) (hK _ _ h.th), fun x => ⟨fun w => ?_, fun w => mbad _ (Or.inr (Or.inr (Or.inr (Or.inr (Int32.not_le.mp w))))) (hK _ _ h.th)⟩⟩⟩⟩
      subst e
      subst e'
      refine act_class (w := whyL (u.1 236) a b p3) (s := actL (u.1 236) a b p3) hd1 h (fun U l K' q1 q2 q3 => c_tryL20 (by omega) hg hst q1 ha hb q2 q3) (fun hw l => ?_) (fun hw n t l35 l20 lt hn ht p24 p4 z1 z2 => ?_)
      · refine CI_of mk_X13_lend.2.2 rfl (B_M_lend_0 (c_misStatue (n := nA (u.1 236)) (by omega) m3 (by omega) (fun a' ha' e => ⟨fun z => absurd z (by decide), fun _ => c_misStatue (n := nA (u.1 236)) (by omega) m3 (by omega) (fun q' hq' e' => ⟨fun z => absurd z (by decide), fun _ => ⟨fun z => absurd z y, fun _ => c_misIn (by omega) (fun _ _ => ⟨fun _ => ?_, fun z => absurd z (by decide)⟩) (fun z => (z.elim x (Int32.not_lt.mpr w)).elim)⟩⟩) (fun z => (no2 hb (by omega) z).elim)⟩) (fun z => (no2 ha (by omega) z).elim)))
        exact c_mwhyL (by omega) (by omega) (by omega) ⟨fun z => absurd z hw, fun _ => hK _ _ (Rl_spare h).th⟩
      · have e236 : (mI (mI (mI (lm (lm (lm u 35 l35) 20 l20) (46 + 9 * t) lt) 44 3 (nI ((t + 1) % 8))) 44 2 (nI (mn8 n))) 234 0 0).1 236 = u.1 236 := by
          simp (disch := omega) only [mI_r, lm_o]
        have e239 : (mI (mI (mI (lm (lm (lm u 35 l35) 20 l20) (46 + 9 * t) lt) 44 3 (nI ((t + 1) % 8))) 44 2 (nI (mn8 n))) 234 0 0).1 239 = u.1 239 := by
          simp (disch := omega) only [mI_r, lm_o]
        have e24 : (mI (mI (mI (lm (lm (lm u 35 l35) 20 l20) (46 + 9 * t) lt) 44 3 (nI ((t + 1) % 8))) 44 2 (nI (mn8 n))) 234 0 0).1 234 24 = nI n := by
          simp (disch := omega) only [mI_n, lm_o]
          exact p24
        have hfin := act_end (l35 := l35) h hn ht p4 z1 z2 (fun k hk => by unfold actL; simp (disch := omega) only [pk_un, pk_us]) (actL_ok hg hst ha hb).2
        refine CI_of mk_X13_lend.2.2 rfl (B_M_lend_0 ?_)
        generalize mI (mI (mI (lm (lm (lm u 35 l35) 20 l20) (46 + 9 * t) lt) 44 3 (nI ((t + 1) % 8))) 44 2 (nI (mn8 n))) 234 0 0 = U at e236 e239 e24 hfin ⊢
        refine c_misStatue (n := nA (u.1 236)) (by omega) (by rw [e236]; exact m3) (by omega) (fun a' ha' e => ⟨fun z => absurd z (by decide), fun _ => c_misStatue (n := nA (u.1 236)) (by omega) (by rw [e236]; exact m3) (by omega) (fun q' hq' e' => ⟨fun z => absurd z (by decide), fun _ => ⟨fun z => absurd z y, fun _ => c_misIn (by omega) (fun _ _ => ⟨fun _ => ?_, fun z => absurd z (by decide)⟩) (fun z => (z.elim x (Int32.not_lt.mpr w)).elim)⟩⟩) (fun z => (no2 hb (by omega) z).elim)⟩) (fun z => (no2 ha (by omega) z).elim)
        refine c_mwhyL (by omega) (by omega) (by omega) ?_
        rw [e236, hw]
        refine ⟨fun _ => c_msnap (by omega) e24 hn (c_mdoL (by omega) (by omega) (by omega) (hK _ _ ?_)), fun z => absurd rfl z⟩
        rw [e239, e236]
        rw [show (mI (mR U 239 (snF (u.1 239) (u.1 236) n)) 234 24 (nI (mn8 n))).1 236 = u.1 236 by simp (disch := omega) only [mI_r, mR_n, e236]]
        exact hfin
    · exact ⟨fun _ => mbad _ (Or.inr (Or.inl q)) (hK _ _ h.th), fun z => absurd rfl z⟩
  · exact ⟨fun _ => mbad _ (Or.inl q) (hK _ _ h.th), fun z => absurd rfl z⟩
end PActs
