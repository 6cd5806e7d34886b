/-! cure -/
abbrev CuO : Type := Option (Nat × Bool × Nat × Nat)
def pnc (g : Nat → Int32) (a k q : Nat) (c : Bool) : Nat := ((if c then 5 else 0) + (if nI k = g (202 + a) then 0 else 10)) + (if nI q = g (210 + a) then 0 else 8)
def cuB (o : CuO) (n : Nat) : Bool := match o with
  | none => true
  | some z => decide (n < z.1)
def cuS (g : Nat → Int32) (a k q : Nat) (c : Bool) (o : CuO) : CuO := if cuB o (pnc g a k q c) = true ∧ ¬ ylF g q k (tb (g 200) a && !c) 0 (nW' g) < 5040 * g (6 + q) then some (pnc g a k q c, c, k, q) else o
def cuT (g : Nat → Int32) (a k q : Nat) (o : CuO) : CuO := if stAt g g (nI q) = -1 ∨ stAt g g (nI q) = nI a then (if tb (g 200) a then cuS g a k q true (cuS g a k q false o) else cuS g a k q false o) else o
def cuQ (g : Nat → Int32) (a k : Nat) (o : CuO) : Nat → CuO
  | 0 => o
  | q + 1 => cuT g a k q (cuQ g a k o q)
def cuK (g : Nat → Int32) (a : Nat) : Nat → CuO
  | 0 => none
  | k + 1 => cuQ g a k (cuK g a k) (nQ g)
/-- what each keeps of it -/
def cuV (o : CuO) : Int32 := match o with
  | none => -1
  | some z => nI z.1
def cuW (o : CuO) : Int32 := match o with
  | none => 999
  | some z => nI z.1
def cuM (u : Mm) (o : CuO) : Mm := match o with
  | none => u
  | some z => mI (mI (mI u 160 6 (if z.2.1 then 1 else 0)) 160 7 (nI z.2.2.1)) 160 8 (nI z.2.2.2)
def cuN (u : Mm) (o : CuO) : Mm := match o with
  | none => u
  | some z => mI (mI (mI u 234 42 (if z.2.1 then 1 else 0)) 234 43 (nI z.2.2.1)) 234 44 (nI z.2.2.2)
def cuOk (o : CuO) : Prop := ∀ z, o = some z → z.1 ≤ 23
theorem pnc_le {g : Nat → Int32} {a k q : Nat} {c : Bool} : pnc g a k q c ≤ 23 := by
  unfold pnc
  split <;> split <;> split <;> omega
theorem cuS_ok {g : Nat → Int32} {a k q : Nat} {c : Bool} {o : CuO} (h : cuOk o) : cuOk (cuS g a k q c o) := by
  unfold cuS
  split
  · intro z hz
    cases hz
    exact pnc_le
  · exact h
theorem cuT_ok {g : Nat → Int32} {a k q : Nat} {o : CuO} (h : cuOk o) : cuOk (cuT g a k q o) := by
  unfold cuT
  split
  · split
    · exact cuS_ok (cuS_ok h)
    · exact cuS_ok h
  · exact h
theorem cuQ_ok {g : Nat → Int32} {a k : Nat} {o : CuO} (h : cuOk o) : ∀ q, cuOk (cuQ g a k o q)
  | 0 => h
  | q + 1 => cuT_ok (cuQ_ok h q)
theorem cuK_ok {g : Nat → Int32} {a : Nat} : ∀ k, cuOk (cuK g a k)
  | 0 => fun z hz => by cases hz
  | k + 1 => cuQ_ok (cuK_ok k) _
theorem cuM_3 {u : Mm} {o : CuO} {z : Nat × Bool × Nat × Nat} : mI (mI (mI (cuM u o) 160 6 (if z.2.1 then 1 else 0)) 160 7 (nI z.2.2.1)) 160 8 (nI z.2.2.2) = cuM u (some z) := by
  cases o with
  | none => rfl
  | some y =>
    refine mm_ext (fun b k => ?_) rfl
    simp only [cuM, mI_at]
    split
    · rfl
    · split
      · rfl
      · split
        · rfl
        · rfl
theorem cuN_3 {u : Mm} {o : CuO} {z : Nat × Bool × Nat × Nat} : mI (mI (mI (cuN u o) 234 42 (if z.2.1 then 1 else 0)) 234 43 (nI z.2.2.1)) 234 44 (nI z.2.2.2) = cuN u (some z) := by
  cases o with
  | none => rfl
  | some y =>
    refine mm_ext (fun b k => ?_) rfl
    simp only [cuN, mI_at]
    split
    · rfl
    · split
      · rfl
      · split
        · rfl
        · rfl
theorem cuM_r {u : Mm} {o : CuO} {b : Nat} (h : b ≠ 160) : (cuM u o).1 b = u.1 b := by
  cases o with
  | none => rfl
  | some y => simp (disch := omega) only [cuM, mI_r]
theorem cuN_r {u : Mm} {o : CuO} {b : Nat} (h : b ≠ 234) : (cuN u o).1 b = u.1 b := by
  cases o with
  | none => rfl
  | some y => simp (disch := omega) only [cuN, mI_r]
theorem cuM_2 {u : Mm} {o : CuO} : (cuM u o).2 = u.2 := by
  cases o <;> rfl
section Cure
variable {X : Xc} {d : Nat} {u : Mm} {g : Nat → Int32} {nm : Nat → Int64} {K : Int32 → Mm → Prop}
theorem c_tryCure {a k q : Nat} {c : Bool} {x : Int32} {o : CuO} (hd : 4 ≤ d) (h : Wd u g nm) (ho : cuOk o) (ha : a < nA g) (hk : k < nK g) (hq : q < nQ g) (hx : x = if c then 1 else 0) (hc : c = true → tb (g 200) a = true) (hK : K (cuV (cuS g a k q c o)) (cuM u (cuS g a k q c o))) : CI X d 84 [.ref 160, .int (nI a), .int (nI k), .int (nI q), .int x, .int (cuV o)] (cuM u o) K := by
  obtain ⟨d, rfl, hd1⟩ := dpos hd
  have hA := h.1.1.2.2.2.2.2.1
  have hKK := h.1.1.2.2.2.1
  have hQ := h.1.1.2.1
  have hm : Wd (cuM u o) g nm := h.cg (fun b h1 h2 => cuM_r (by omega)) cuM_2
  obtain ⟨b1, b2, -⟩ := h.2.2.2.2.1 a ha
  have e4 : (cuM u o).1 20 4 = g 200 := by rw [cuM_r (by omega)]; exact h.2.2.2.1.2.2.1
  have e1 : (cuM u o).1 21 a = g (202 + a) := by rw [cuM_r (by omega)]; exact b1
  have e2 : (cuM u o).1 22 a = g (210 + a) := by rw [cuM_r (by omega)]; exact b2
  have hx0 : x = 0 ↔ c = false := by
    rw [hx]
    cases c <;> decide
  have last : ∀ (pn : Nat) (st : Bool) (y : Int32), pn = pnc g a k q c → st = (tb (g 200) a && !c) → y = (if st then 1 else 0) → VI X d 84 K 86 [some (.ref 160), some (.int (nI a)), some (.int (nI k)), some (.int (nI q)), some (.int x), some (.int (cuV o)), some (.int (nI pn)), some (.int y)] [] (cuM u o) := by
    intro pn st y hpn hst hy
    have hle : pn ≤ 23 := by rw [hpn]; exact pnc_le
    have good : cuB o pn = true → CI X d 75 [.ref 160, .int (nI q), .int (nI k), .int y, .int (0)] (cuM u o) (fun w1 u1 => (¬ w1 = 0 → (x = 0 → K (nI pn) (mI (mI (mI u1 160 6 (0)) 160 7 (nI k)) 160 8 (nI q))) ∧ (¬ x = 0 → K (nI pn) (mI (mI (mI u1 160 6 (1)) 160 7 (nI k)) 160 8 (nI q)))) ∧ (w1 = 0 → K (cuV o) u1)) := by
      intro hb
      refine c_solvAs (st := st) hd1 hm hq (by omega) hy (fun z => ⟨fun _ => ?_, fun w => absurd w (by decide)⟩) (fun z => ⟨fun w => absurd rfl w, fun _ => ?_⟩)
      · have e : cuS g a k q c o = some (pn, c, k, q) := by
          unfold cuS
          rw [← hpn, ← hst, if_pos ⟨hb, z⟩]
        rw [e] at hK
        have e3 := cuM_3 (u := u) (o := o) (z := (pn, c, k, q))
        refine ⟨fun w => ?_, fun w => ?_⟩
        · rw [hx0] at w
          subst w
          rw [← e3] at hK
          exact hK
        · have w : c = true := by
            cases c
            · exact absurd (hx0.mpr rfl) w
            · rfl
          subst w
          rw [← e3] at hK
          exact hK
      · have e : cuS g a k q c o = o := by
          unfold cuS
          rw [← hst, if_neg (fun w => w.2 z)]
        rwa [e] at hK
    refine B_RK_tryCure_86 ?_
    cases o with
    | none => exact ⟨fun _ => good rfl, fun z => absurd rfl z⟩
    | some z =>
      have hz := ho z rfl
      refine ⟨fun y => absurd y (nI_m1 (by omega)), fun _ => ⟨fun w => ?_, fun w => ?_⟩⟩
      · have w := (nI_leI (a := z.1) (b := pn) (by omega) (by omega)).mp w
        have e : cuS g a k q c (some z) = some z := by
          unfold cuS
          rw [← hpn, if_neg]
          rintro ⟨w2, -⟩
          have : pn < z.1 := by simpa [cuB] using w2
          omega
        rwa [e] at hK
      · have w := mt (nI_leI (a := z.1) (b := pn) (by omega) (by omega)).mpr w
        refine good ?_
        simp only [cuB, decide_eq_true_eq]
        omega
  have third : ∀ pn : Nat, pn = pnc g a k q c → VI X d 84 K 60 [some (.ref 160), some (.int (nI a)), some (.int (nI k)), some (.int (nI q)), some (.int x), some (.int (cuV o)), some (.int (nI pn)), none] [] (cuM u o) := by
    intro pn hpn
    refine B_RK_tryCure_60 ?_
    rw [e4]
    refine c_bit (by omega) (by omega) (fun y => ?_) (fun y => ?_)
    · refine ⟨fun z => absurd z (by decide), fun _ => ⟨fun w => ?_, fun w => ?_⟩⟩
      · have w : c = true := by
          cases c
          · exact absurd (hx0.mpr rfl) w
          · rfl
        exact last pn false 0 hpn (by rw [w]; simp) rfl
      · rw [hx0] at w
        exact last pn true 1 hpn (by rw [w, y]; rfl) rfl
    · exact ⟨fun _ => last pn false 0 hpn (by rw [y]; rfl) rfl, fun z => absurd rfl z⟩
  have second : ∀ pn : Nat, pn ≤ 15 → pn + (if nI q = g (210 + a) then 0 else 8) = pnc g a k q c → VI X d 84 K 36 [some (.ref 160), some (.int (nI a)), some (.int (nI k)), some (.int (nI q)), some (.int x), some (.int (cuV o)), some (.int (nI pn)), none] [] (cuM u o) := by
    intro pn hpl hpn
    refine B_RK_tryCure_36 ?_
    simp (disch := omega) only [la1, la2, lt1, lt2, nI_add, pk_mul, nI_clamp, vpn, nI_leI, nI_ltI, nI_eq, ll1, ll2, ll3, ll4, le1, le2, true_and, and_true, not_true_eq_false, not_false_eq_true, forall_const, false_implies, implies_true, if_true, if_false, ite_true, ite_false, and_self, false_and, and_false, e2]
    refine ⟨by omega, fun y => ?_, fun y => ?_⟩
    · rw [if_neg y] at hpn
      exact third _ hpn
    · rw [if_pos y] at hpn
      exact third _ hpn
  have first : ∀ pn : Nat, pn ≤ 5 → pn + (if nI k = g (202 + a) then 0 else 10) + (if nI q = g (210 + a) then 0 else 8) = pnc g a k q c → VI X d 84 K 12 [some (.ref 160), some (.int (nI a)), some (.int (nI k)), some (.int (nI q)), some (.int x), some (.int (cuV o)), some (.int (nI pn)), none] [] (cuM u o) := by
    intro pn hpl hpn
    refine B_RK_tryCure_12 ?_
    simp (disch := omega) only [la1, la2, lt1, lt2, nI_add, pk_mul, nI_clamp, vpn, nI_leI, nI_ltI, nI_eq, ll1, ll2, ll3, ll4, le1, le2, true_and, and_true, not_true_eq_false, not_false_eq_true, forall_const, false_implies, implies_true, if_true, if_false, ite_true, ite_false, and_self, false_and, and_false, e1]
    refine ⟨by omega, fun y => ?_, fun y => ?_⟩
    · rw [if_neg y] at hpn
      exact second _ (by omega) hpn
    · rw [if_pos y] at hpn
      exact second _ (by omega) hpn
  refine CI_of mk_X7_tryCure.2.2 rfl (B_RK_tryCure_0 ⟨fun y => ?_, fun y => ?_⟩)
  · rw [hx0] at y
    exact first 0 (by omega) (by unfold pnc; rw [y]; rfl)
  · have w : c = true := by
      cases c
      · exact absurd (hx0.mpr rfl) y
      · rfl
    exact first 5 (by omega) (by unfold pnc; rw [w]; rfl)
theorem c_findCure {a : Nat} (hd : 5 ≤ d) (h : Wd u g nm) (ha : a < nA g) (hK : K (cuV (cuK g a (nK g))) (cuM u (cuK g a (nK g)))) : CI X d 83 [.ref 160, .int (nI a)] u K := by
  obtain ⟨d, rfl, hd1⟩ := dpos hd
  have hA := h.1.1.2.2.2.2.2.1
  have hKK := h.1.1.2.2.2.1
  have hQ := h.1.1.2.1
  obtain ⟨cq, ck, ca, cw⟩ := cityN h.1 h.2.1
  refine CI_of mk_X7_findCure.2.2 rfl (B_RK_findCure_0 ?_)
  refine lup (n := nK g) (W := fun k => VI X d 83 K 4 [some (.ref 160), some (.int (nI a)), some (.int (cuV (cuK g a k))), some (.int (nI k)), none] [] (cuM u (cuK g a k))) ?_
  intro k hk ih
  refine B_RK_findCure_4 ?_
  rw [cuM_r (by omega), ck]
  simp (disch := omega) only [la1, la2, lt1, lt2, nI_add, pk_mul, nI_clamp, vpn, nI_leI, nI_ltI, nI_eq, ll1, ll2, ll3, ll4, le1, le2, true_and, and_true, not_true_eq_false, not_false_eq_true, forall_const, false_implies, implies_true, if_true, if_false, ite_true, ite_false, and_self, false_and, and_false]
  refine ⟨fun z => ?_, fun z => ?_⟩
  · rw [show k = nK g by omega]; exact hK
  · have ih := ih (by omega)
    rw [cuK] at ih
    have ho := cuK_ok (g := g) (a := a) k
    generalize cuK g a k = o at ih ho
    refine lup (n := nQ g) (W := fun q => VI X d 83 K 20 [some (.ref 160), some (.int (nI a)), some (.int (cuV (cuQ g a k o q))), some (.int (nI k)), some (.int (nI q))] [] (cuM u (cuQ g a k o q))) ?_
    intro q hq ih2
    refine B_RK_findCure_20 ?_
    rw [cuM_r (by omega), cq]
    simp (disch := omega) only [la1, la2, lt1, lt2, nI_add, pk_mul, nI_clamp, vpn, nI_leI, nI_ltI, nI_eq, ll1, ll2, ll3, ll4, le1, le2, true_and, and_true, not_true_eq_false, not_false_eq_true, forall_const, false_implies, implies_true, if_true, if_false, ite_true, ite_false, and_self, false_and, and_false]
    refine ⟨fun y => ?_, fun y => ⟨by omega, ?_⟩⟩
    · rw [show q = nQ g by omega]; exact ih
    · have ih2 := ih2 (by omega)
      rw [cuQ, cuT] at ih2
      have ho := cuQ_ok (g := g) (a := a) (k := k) ho q
      generalize cuQ g a k o q = o at ih2 ho ⊢
      have e3 : (cuM u o).1 23 q = stAt g g (nI q) := by rw [cuM_r (by omega)]; exact h.2.2.2.2.2.1 q (by omega)
      rw [e3]
      have both : (stAt g g (nI q) = -1 ∨ stAt g g (nI q) = nI a) → CI X d 84 [.ref 160, .int (nI a), .int (nI k), .int (nI q), .int (0), .int (cuV o)] (cuM u o) (fun w1 u1 => CI X d 175 [.int (u1.1 20 4), .int (nI a)] u1 (fun w2 u2 => (w2 = 0 → VI X d 83 K 20 [some (.ref 160), some (.int (nI a)), some (.int w1), some (.int (nI k)), some (.int (nI (q + 1)))] [] u2) ∧ (¬ w2 = 0 → CI X d 84 [.ref 160, .int (nI a), .int (nI k), .int (nI q), .int (1), .int w1] u2 (fun w3 u3 => VI X d 83 K 20 [some (.ref 160), some (.int (nI a)), some (.int w3), some (.int (nI k)), some (.int (nI (q + 1)))] [] u3)))) := by
        intro hs
        rw [if_pos hs] at ih2
        refine c_tryCure (c := false) (by omega) h ho ha (by omega) (by omega) rfl (fun w => by cases w) ?_
        have e4 : (cuM u (cuS g a k q false o)).1 20 4 = g 200 := by rw [cuM_r (by omega)]; exact h.2.2.2.1.2.2.1
        rw [e4]
        refine c_bit (by omega) (by omega) (fun y2 => ?_) (fun y2 => ?_)
        · rw [if_pos y2] at ih2
          exact ⟨fun w => absurd w (by decide), fun _ => c_tryCure (c := true) (by omega) h (cuS_ok ho) ha (by omega) (by omega) rfl (fun _ => y2) ih2⟩
        · rw [y2, if_neg (by decide)] at ih2
          exact ⟨fun _ => ih2, fun w => absurd rfl w⟩
      refine ⟨fun w => both (Or.inl w), fun w => ⟨by omega, fun w2 => ?_, fun w2 => both (Or.inr w2)⟩⟩
      rw [if_neg (fun hs => hs.elim w w2)] at ih2
      exact ih2
theorem m_cure {K : Int32 → Mm → Prop} {a : Nat} (hd : 4 ≤ d) (hg : HeadOk (u.1 236)) (hok : LifeOk (u.1 236) (u.1 236)) (ha : a < nA (u.1 236)) (y : tb (u.1 236 201) a = false) (hK : K (cuV (cuK (u.1 236) a (nK (u.1 236)))) (cuN (mI u 234 0 0) (cuK (u.1 236) a (nK (u.1 236))))) : CI X d 280 [.ref 234, .int (nI a)] u K := by
  obtain ⟨d, rfl, hd1⟩ := dpos hd
  have hst := Stt.rf hok
  obtain ⟨m3, m2, m4, m0, hA, hKK, hW, hQ⟩ := hdA hg hst
  refine CI_of mk_X13_cure.2.2 rfl (B_M_cure_0 (c_misStatue (n := nA (u.1 236)) (by omega) m3 (by omega) (fun a' ha' e => ⟨fun z => absurd z (by decide), fun _ => c_misEvicted (by omega) (by omega) (fun y2 => absurd (y.symm.trans y2) (by decide)) (fun _ => ⟨fun _ => ?_, fun z => absurd rfl z⟩)⟩) (fun z => (no2 ha (by omega) z).elim)))
  have e236 : (mI u 234 0 0).1 236 = u.1 236 := mI_r (by omega)
  generalize mI u 234 0 0 = U at hK e236
  generalize hgg : u.1 236 = g at *
  rw [e236]
  suffices hz : ∀ (v3 : Int32), v3 = (if tb (g 200) a then 1 else 0) → VI X d 280 K 43 [some (.ref 234), some (.int (nI a)), some (.int (999)), some (.int v3), some (.int (0)), none, none, none, none] [] U by
    refine c_mhas (by omega) (by omega) (fun y2 => hz 1 (by rw [y2]; rfl)) (fun y2 => hz 0 (by rw [y2]; rfl))
  intro v3 hv3
  have hv0 : v3 = 0 ↔ tb (g 200) a = false := by
    rw [hv3]
    cases tb (g 200) a <;> decide
  refine lup (n := nK g) (W := fun k => VI X d 280 K 43 [some (.ref 234), some (.int (nI a)), some (.int (cuW (cuK g a k))), some (.int v3), some (.int (nI k)), none, none, none, none] [] (cuN U (cuK g a k))) ?_
  intro k hk ih
  have ho := cuK_ok (g := g) (a := a) k
  refine B_M_cure_43 ?_
  rw [cuN_r (by omega), e236, m2]
  simp (disch := omega) only [la1, la2, lt1, lt2, nI_add, pk_mul, nI_clamp, vpn, nI_leI, nI_ltI, nI_eq, ll1, ll2, ll3, ll4, le1, le2, true_and, and_true, not_true_eq_false, not_false_eq_true, forall_const, false_implies, implies_true, if_true, if_false, ite_true, ite_false, and_self, false_and, and_false]
  refine ⟨fun z => ?_, fun z => ?_⟩
  · have ek : k = nK g := by omega
    subst ek
    cases hp : cuK g a (nK g) with
    | none =>
      rw [hp] at hK
      exact ⟨fun w => absurd rfl w, fun _ => hK⟩
    | some z =>
      have hz := ho z hp
      rw [hp] at hK
      refine ⟨fun _ => hK, fun w => ?_⟩
      have := (nI_eq (a := z.1) (b := 999) (by omega) (by omega)).mp w
      omega
  · have ih := ih (by omega)
    rw [cuK] at ih
    generalize cuK g a k = o at ih ho ⊢
    refine lup (n := nQ g) (W := fun q => VI X d 280 K 57 [some (.ref 234), some (.int (nI a)), some (.int (cuW (cuQ g a k o q))), some (.int v3), some (.int (nI k)), some (.int (nI q)), none, none, none] [] (cuN U (cuQ g a k o q))) ?_
    intro q hq ih2
    refine B_M_cure_57 ?_
    rw [cuN_r (by omega), e236, m0]
    simp (disch := omega) only [la1, la2, lt1, lt2, nI_add, pk_mul, nI_clamp, vpn, nI_leI, nI_ltI, nI_eq, ll1, ll2, ll3, ll4, le1, le2, true_and, and_true, not_true_eq_false, not_false_eq_true, forall_const, false_implies, implies_true, if_true, if_false, ite_true, ite_false, and_self, false_and, and_false]
    refine ⟨fun w => ?_, fun w => ?_⟩
    · rw [show q = nQ g by omega]; exact ih
    · have ih2 := ih2 (by omega)
      rw [cuQ, cuT] at ih2
      have ho := cuQ_ok (g := g) (a := a) (k := k) ho q
      generalize cuQ g a k o q = o at ih2 ho ⊢
      have eo : (cuN U o).1 236 = g := by rw [cuN_r (by omega), e236]
      refine c_mstandsAt (n := nA g) (by omega) (by rw [eo]; exact m3) hA ?_
      rw [eo]
      change (stAt g g (nI q) = -1 → _) ∧ (¬ stAt g g (nI q) = -1 → _)
      /- one of the two: not cleaned (0), cleaned (1) -/
      have step : ∀ (c : Bool) (n : Nat) (o : CuO) (v6 : Int32), cuOk o → n = (if c then 1 else 0) → (c = true → tb (g 200) a = true) → VI X d 280 K 94 [some (.ref 234), some (.int (nI a)), some (.int (cuW (cuS g a k q c o))), some (.int v3), some (.int (nI k)), some (.int (nI q)), some (.int v6), some (.int (nI (n + 1))), none] [] (cuN U (cuS g a k q c o)) → VI X d 280 K 94 [some (.ref 234), some (.int (nI a)), some (.int (cuW o)), some (.int v3), some (.int (nI k)), some (.int (nI q)), some (.int v6), some (.int (nI n)), none] [] (cuN U o) := by
        intro c n o v6 ho hn hc nx
        have hn1 : n ≤ 1 := by rw [hn]; split <;> omega
        have eo : (cuN U o).1 236 = g := by rw [cuN_r (by omega), e236]
        have yld : ∀ (st : Bool) (f : Int32) (pn : Nat), pn = pnc g a k q c → st = (tb (g 200) a && !c) → f = (if st then 1 else 0) → cuB o pn = true → CI X d 261 [.ref 234, .int (nI a), .int (nI q), .int (nI k), .int f, .int (0)] (cuN U o) (fun w1 u1 => vp_in (6 + nI q) 532 ∧ ((5040 : Int32) * u1.1 236 ((6 : Int32) + nI q).toNatClampNeg ≤ w1 → VI X d 280 K 94 [some (.ref 234), some (.int (nI a)), some (.int (nI pn)), some (.int v3), some (.int (nI k)), some (.int (nI q)), some (.int v6), some (.int (nI n + 1)), none] [] (mI (mI (mI u1 234 42 (nI n)) 234 43 (nI k)) 234 44 (nI q))) ∧ (¬ (5040 : Int32) * u1.1 236 ((6 : Int32) + nI q).toNatClampNeg ≤ w1 → VI X d 280 K 94 [some (.ref 234), some (.int (nI a)), some (.int (cuW o)), some (.int v3), some (.int (nI k)), some (.int (nI q)), some (.int v6), some (.int (nI n + 1)), none] [] u1)) := by
          intro st f pn hpn hst hf hb
          refine c_myield (st := st) (by omega) (by rw [eo]; exact hg) (by omega) (by omega) hf ?_
          rw [eo]
          simp (disch := omega) only [la1, la2, lt1, lt2, nI_add, pk_mul, nI_clamp, vpn, nI_leI, nI_ltI, nI_eq, ll1, ll2, ll3, ll4, le1, le2, true_and, and_true, not_true_eq_false, not_false_eq_true, forall_const, false_implies, implies_true, if_true, if_false, ite_true, ite_false, and_self, false_and, and_false]
          refine ⟨by omega, fun z => ?_, fun z => ?_⟩
          · have e : cuS g a k q c o = some (pn, c, k, q) := by
              unfold cuS
              rw [← hpn, ← hst, if_pos ⟨hb, Int32.not_lt.mpr z⟩]
            rw [e, ← cuN_3 (o := o)] at nx
            have en : nI n = (if c then 1 else 0) := by rw [hn]; cases c <;> rfl
            rw [en]
            exact nx
          · have e : cuS g a k q c o = o := by
              unfold cuS
              rw [← hst, if_neg (fun w => z (Int32.not_lt.mp w.2))]
            rwa [e] at nx
        have leaf : ∀ (P : Int32) (pn : Nat), P = nI pn → pn = pnc g a k q c → (cuW o ≤ P → VI X d 280 K 94 [some (.ref 234), some (.int (nI a)), some (.int (cuW o)), some (.int v3), some (.int (nI k)), some (.int (nI q)), some (.int v6), some (.int (nI n + 1)), none] [] (cuN U o)) ∧ (¬ cuW o ≤ P → cuB o pn = true) := by
          intro P pn hP hpn
          subst hP
          have hle : pn ≤ 23 := by rw [hpn]; exact pnc_le
          cases o with
          | none =>
            refine ⟨fun z => ?_, fun _ => rfl⟩
            have := (nI_leI (a := 999) (b := pn) (by omega) (by omega)).mp z
            omega
          | some z =>
            have hz := ho z rfl
            refine ⟨fun w => ?_, fun w => ?_⟩
            · have w := (nI_leI (a := z.1) (b := pn) (by omega) (by omega)).mp w
              have e : cuS g a k q c (some z) = some z := by
                unfold cuS
                rw [← hpn, if_neg]
                rintro ⟨w2, -⟩
                have : pn < z.1 := by simpa [cuB] using w2
                omega
              rw [e] at nx
              rw [nI_1]
              exact nx
            · have w := mt (nI_leI (a := z.1) (b := pn) (by omega) (by omega)).mpr w
              simp only [cuB, decide_eq_true_eq]
              omega
        have n0 : nI n = 0 ↔ c = false := by
          rw [hn]
          cases c <;> decide
        have all : ∀ (P : Int32) (pn : Nat), P = nI pn → pn = pnc g a k q c → (cuW o ≤ P → VI X d 280 K 94 [some (.ref 234), some (.int (nI a)), some (.int (cuW o)), some (.int v3), some (.int (nI k)), some (.int (nI q)), some (.int v6), some (.int (nI n + 1)), none] [] (cuN U o)) ∧ (¬ cuW o ≤ P → (v3 = 0 → CI X d 261 [.ref 234, .int (nI a), .int (nI q), .int (nI k), .int (0), .int (0)] (cuN U o) (fun w1 u1 => vp_in (6 + nI q) 532 ∧ ((5040 : Int32) * u1.1 236 ((6 : Int32) + nI q).toNatClampNeg ≤ w1 → VI X d 280 K 94 [some (.ref 234), some (.int (nI a)), some (.int P), some (.int v3), some (.int (nI k)), some (.int (nI q)), some (.int v6), some (.int (nI n + 1)), none] [] (mI (mI (mI u1 234 42 (nI n)) 234 43 (nI k)) 234 44 (nI q))) ∧ (¬ (5040 : Int32) * u1.1 236 ((6 : Int32) + nI q).toNatClampNeg ≤ w1 → VI X d 280 K 94 [some (.ref 234), some (.int (nI a)), some (.int (cuW o)), some (.int v3), some (.int (nI k)), some (.int (nI q)), some (.int v6), some (.int (nI n + 1)), none] [] u1))) ∧ (¬ v3 = 0 → (¬ nI n = 0 → CI X d 261 [.ref 234, .int (nI a), .int (nI q), .int (nI k), .int (0), .int (0)] (cuN U o) (fun w1 u1 => vp_in (6 + nI q) 532 ∧ ((5040 : Int32) * u1.1 236 ((6 : Int32) + nI q).toNatClampNeg ≤ w1 → VI X d 280 K 94 [some (.ref 234), some (.int (nI a)), some (.int P), some (.int v3), some (.int (nI k)), some (.int (nI q)), some (.int v6), some (.int (nI n + 1)), none] [] (mI (mI (mI u1 234 42 (nI n)) 234 43 (nI k)) 234 44 (nI q))) ∧ (¬ (5040 : Int32) * u1.1 236 ((6 : Int32) + nI q).toNatClampNeg ≤ w1 → VI X d 280 K 94 [some (.ref 234), some (.int (nI a)), some (.int (cuW o)), some (.int v3), some (.int (nI k)), some (.int (nI q)), some (.int v6), some (.int (nI n + 1)), none] [] u1))) ∧ (nI n = 0 → CI X d 261 [.ref 234, .int (nI a), .int (nI q), .int (nI k), .int (1), .int (0)] (cuN U o) (fun w1 u1 => vp_in (6 + nI q) 532 ∧ ((5040 : Int32) * u1.1 236 ((6 : Int32) + nI q).toNatClampNeg ≤ w1 → VI X d 280 K 94 [some (.ref 234), some (.int (nI a)), some (.int P), some (.int v3), some (.int (nI k)), some (.int (nI q)), some (.int v6), some (.int (nI n + 1)), none] [] (mI (mI (mI u1 234 42 (nI n)) 234 43 (nI k)) 234 44 (nI q))) ∧ (¬ (5040 : Int32) * u1.1 236 ((6 : Int32) + nI q).toNatClampNeg ≤ w1 → VI X d 280 K 94 [some (.ref 234), some (.int (nI a)), some (.int (cuW o)), some (.int v3), some (.int (nI k)), some (.int (nI q)), some (.int v6), some (.int (nI n + 1)), none] [] u1))))) := by
          intro P pn hP hpn
          obtain ⟨l1, l2⟩ := leaf P pn hP hpn
          subst hP
          refine ⟨l1, fun w => ⟨fun z => yld false 0 pn hpn (by rw [hv0.mp z]; rfl) rfl (l2 w), fun z => ⟨fun z2 => yld false 0 pn hpn ?_ rfl (l2 w), fun z2 => yld true 1 pn hpn ?_ rfl (l2 w)⟩⟩⟩
          · have : c = true := by
              cases c
              · exact absurd (n0.mpr rfl) z2
              · rfl
            rw [this]; simp
          · have : tb (g 200) a = true := by
              cases hh : tb (g 200) a
              · exact absurd (hv0.mpr hh) z
              · rfl
            rw [this, n0.mp z2]; rfl
        have p5 : (5 : Int32) * nI n = nI (if c then 5 else 0) := by rw [hn]; cases c <;> rfl
        refine B_M_cure_94 ?_
        have e202 : (cuN U o).1 236 ((202 : Int32) + nI a).toNatClampNeg = g (202 + a) := by
          rw [eo]
          simp (disch := omega) only [la1, la2, lt1, lt2, nI_add, pk_mul, nI_clamp, vpn, nI_leI, nI_ltI, nI_eq, ll1, ll2, ll3, ll4, le1, le2, true_and, and_true, not_true_eq_false, not_false_eq_true, forall_const, false_implies, implies_true, if_true, if_false, ite_true, ite_false, and_self, false_and, and_false]
        have e210 : (cuN U o).1 236 ((210 : Int32) + nI a).toNatClampNeg = g (210 + a) := by
          rw [eo]
          simp (disch := omega) only [la1, la2, lt1, lt2, nI_add, pk_mul, nI_clamp, vpn, nI_leI, nI_ltI, nI_eq, ll1, ll2, ll3, ll4, le1, le2, true_and, and_true, not_true_eq_false, not_false_eq_true, forall_const, false_implies, implies_true, if_true, if_false, ite_true, ite_false, and_self, false_and, and_false]
        have i2 : vp_in ((202 : Int32) + nI a) 532 := by simp (disch := omega) only [la1, la2, lt1, lt2, nI_add, pk_mul, nI_clamp, vpn, nI_leI, nI_ltI, nI_eq, ll1, ll2, ll3, ll4, le1, le2, true_and, and_true, not_true_eq_false, not_false_eq_true, forall_const, false_implies, implies_true, if_true, if_false, ite_true, ite_false, and_self, false_and, and_false]; omega
        have i1 : vp_in ((210 : Int32) + nI a) 532 := by simp (disch := omega) only [la1, la2, lt1, lt2, nI_add, pk_mul, nI_clamp, vpn, nI_leI, nI_ltI, nI_eq, ll1, ll2, ll3, ll4, le1, le2, true_and, and_true, not_true_eq_false, not_false_eq_true, forall_const, false_implies, implies_true, if_true, if_false, ite_true, ite_false, and_self, false_and, and_false]; omega
        rw [e202, e210, p5]
        have nA1 : ∀ x : Nat, nI (if c then 5 else 0) + (10 : Int32) + (8 : Int32) = nI ((if c then 5 else 0) + 10 + 8) := fun _ => by simp (disch := omega) only [la1, la2, lt1, lt2, nI_add, pk_mul, nI_clamp, vpn, nI_leI, nI_ltI, nI_eq, ll1, ll2, ll3, ll4, le1, le2, true_and, and_true, not_true_eq_false, not_false_eq_true, forall_const, false_implies, implies_true, if_true, if_false, ite_true, ite_false, and_self, false_and, and_false]
        have nA2 : nI (if c then 5 else 0) + (10 : Int32) + (0 : Int32) = nI ((if c then 5 else 0) + 10 + 0) := by simp (disch := omega) only [la1, la2, lt1, lt2, nI_add, pk_mul, nI_clamp, vpn, nI_leI, nI_ltI, nI_eq, ll1, ll2, ll3, ll4, le1, le2, true_and, and_true, not_true_eq_false, not_false_eq_true, forall_const, false_implies, implies_true, if_true, if_false, ite_true, ite_false, and_self, false_and, and_false]
        have nA3 : nI (if c then 5 else 0) + (0 : Int32) + (8 : Int32) = nI ((if c then 5 else 0) + 0 + 8) := by simp (disch := omega) only [la1, la2, lt1, lt2, nI_add, pk_mul, nI_clamp, vpn, nI_leI, nI_ltI, nI_eq, ll1, ll2, ll3, ll4, le1, le2, true_and, and_true, not_true_eq_false, not_false_eq_true, forall_const, false_implies, implies_true, if_true, if_false, ite_true, ite_false, and_self, false_and, and_false]
        have nA4 : nI (if c then 5 else 0) + (0 : Int32) + (0 : Int32) = nI ((if c then 5 else 0) + 0 + 0) := by simp (disch := omega) only [la1, la2, lt1, lt2, nI_add, pk_mul, nI_clamp, vpn, nI_leI, nI_ltI, nI_eq, ll1, ll2, ll3, ll4, le1, le2, true_and, and_true, not_true_eq_false, not_false_eq_true, forall_const, false_implies, implies_true, if_true, if_false, ite_true, ite_false, and_self, false_and, and_false]
        refine ⟨fun z => ⟨fun z1 => ?_, fun _ => ⟨i2, fun t1 => ⟨i1, fun t2 => all _ _ (nA1 0) ?_, fun t2 => all _ _ nA2 ?_⟩, fun t1 => ⟨i1, fun t2 => all _ _ nA3 ?_, fun t2 => all _ _ nA4 ?_⟩⟩⟩, fun z => ⟨fun z1 => ?_, fun _ => ⟨i2, fun t1 => ⟨i1, fun t2 => all _ _ (nA1 0) ?_, fun t2 => all _ _ nA2 ?_⟩, fun t1 => ⟨i1, fun t2 => all _ _ nA3 ?_, fun t2 => all _ _ nA4 ?_⟩⟩⟩⟩
        · have z1 := (nI_leI (a := 1) (b := n) (by omega) (by omega)).mp z1
          have : c = true := by
            cases c
            · rw [hn] at z1; exact absurd z1 (by decide)
            · rfl
          exact absurd (hc this) (by rw [hv0.mp z]; decide)
        · unfold pnc; rw [if_neg t1, if_neg t2]
        · unfold pnc; rw [if_neg t1, if_pos t2]
        · unfold pnc; rw [if_pos t1, if_neg t2]
        · unfold pnc; rw [if_pos t1, if_pos t2]
        · have z1 := (nI_leI (a := 2) (b := n) (by omega) (by omega)).mp z1
          omega
        · unfold pnc; rw [if_neg t1, if_neg t2]
        · unfold pnc; rw [if_neg t1, if_pos t2]
        · unfold pnc; rw [if_pos t1, if_neg t2]
        · unfold pnc; rw [if_pos t1, if_pos t2]
      have both : ∀ v6 : Int32, (stAt g g (nI q) = -1 ∨ stAt g g (nI q) = nI a) → VI X d 280 K 94 [some (.ref 234), some (.int (nI a)), some (.int (cuW o)), some (.int v3), some (.int (nI k)), some (.int (nI q)), some (.int v6), some (.int (0)), none] [] (cuN U o) := by
        intro v6 hs
        rw [if_pos hs] at ih2
        refine step false 0 o v6 ho rfl (fun w => by cases w) ?_
        cases hy : tb (g 200) a
        · rw [hy, if_neg (by decide)] at ih2
          refine B_M_cure_94 ⟨fun _ => ⟨fun _ => ?_, fun w => ?_⟩, fun w => absurd (hv0.mpr hy) w⟩
          · rw [nI_1]; exact ih2
          · exact absurd (nI_le (a := 1) (b := 0 + 1) (by omega) (by omega)) w
        · rw [if_pos hy] at ih2
          refine step true 1 _ v6 (cuS_ok ho) rfl (fun _ => hy) ?_
          refine B_M_cure_94 ⟨fun w => absurd (hv0.mp w) (by rw [hy]; decide), fun _ => ⟨fun _ => ?_, fun w => ?_⟩⟩
          · rw [nI_1]; exact ih2
          · exact absurd (nI_le (a := 2) (b := 1 + 1) (by omega) (by omega)) w
      refine ⟨fun w => both _ (Or.inl w), fun w => ⟨fun w2 => both _ (Or.inr w2), fun w2 => ?_⟩⟩
      rw [if_neg (fun hs => hs.elim w w2)] at ih2
      exact ih2
theorem p_cure {p1 : Int32} (hd : 6 ≤ d) (h : Rl u) : PairI X d 150 280 [.int p1] u := by
  intro K hK
  obtain ⟨hg, hc, hok, hr⟩ := h.Wd
  have hA := hg.1.2.2.2.2.2.1
  have m3 := hg.1.2.2.2.2.1
  obtain ⟨cq, ck, ca, cw⟩ := cityN hg hc
  obtain ⟨d, rfl, hd1⟩ := dpos hd
  have e3 : u.1 20 3 = u.1 236 201 := hr.1.2.2.2
  refine CI_of mk_X12_cure.2.2 rfl (B_S_cure_0 (c_has5 (s := 2) (n := nA (u.1 236)) (by omega) rfl (by omega) ca (by omega) (fun a ha e => ?_) (fun q => ?_)))
  · subst e
    refine ⟨fun z => absurd z (by decide), fun _ => ?_⟩
    rw [e3]
    refine c_bit (by omega) (by omega) (fun y => ?_) (fun y => ?_)
    · refine ⟨fun z => absurd z (by decide), fun _ => ?_⟩
      refine CI_of mk_X13_cure.2.2 rfl (B_M_cure_0 (c_misStatue (n := nA (u.1 236)) (by omega) m3 (by omega) (fun a' ha' e => ⟨fun z => absurd z (by decide), fun _ => c_misEvicted (by omega) (by omega) (fun _ => ⟨fun z => absurd z (by decide), fun _ => hK _ _ h.th⟩) (fun y2 => ?_)⟩) (fun z => (no2 ha (by omega) z).elim)))
      exact absurd (y.symm.trans y2) (by decide)
    · refine ⟨fun _ => c_findCure hd1 h.Wd ha ?_, fun z => absurd rfl z⟩
      have e236 : ∀ o, (cuM u o).1 236 = u.1 236 := fun o => cuM_r (by omega)
      generalize ho : cuK (u.1 236) a (nK (u.1 236)) = o
      refine m_cure (by omega) (by rw [e236]; exact hg) (by rw [e236]; exact hok) (by rw [e236]; exact ha) (by rw [e236]; exact y) ?_
      rw [e236, ho]
      refine hK _ _ ?_
      cases o with
      | none => exact h.th
      | some z =>
        have hk : KeptR (cuN (mI (cuM u (some z)) 234 0 0) (some z)) := by
          obtain ⟨k1, k2, k3, k4, k5, k6, k7, k8, k9⟩ := h.2.2.1
          unfold KeptR
          simp (disch := omega) only [cuN, cuM, mI_n, mI_r, mI_s]
          refine ⟨Or.inr ⟨?_, trivial, trivial, trivial⟩, k2, k3, k4, k5, k6, k7, k8, k9⟩
          split <;> decide
        exact h.kept (((((((AG.rf.mI rfl).mI rfl).mI rfl).mI rfl).mI rfl).mI rfl).mI rfl) hk (((((((AG.rf.mI rfl).mI rfl).mI rfl).mI rfl).mI rfl).mI rfl).mI rfl) (((((((AG.rf.mI rfl).mI rfl).mI rfl).mI rfl).mI rfl).mI rfl).mI rfl) (((((((AG.rf.mI rfl).mI rfl).mI rfl).mI rfl).mI rfl).mI rfl).mI rfl) rfl
  · refine ⟨fun _ => ?_, fun z => absurd rfl z⟩
    refine CI_of mk_X13_cure.2.2 rfl (B_M_cure_0 (c_misStatue (n := nA (u.1 236)) (by omega) m3 (by omega) (fun a' ha' e => ?_) (fun z => ⟨fun _ => hK _ _ h.th, fun y => absurd rfl y⟩)))
    subst e
    exact (no2 ha' (by omega) q).elim
end Cure
