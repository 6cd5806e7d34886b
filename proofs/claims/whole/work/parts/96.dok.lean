/-! what lines keep; a city laid whole -/
theorem bd_inr {A B : Type} {x : FT ⊕ A} {g : A → FT ⊕ B} {b : B} (h : bd x g = .inr b) : ∃ a, x = .inr a ∧ g a = .inr b := by
  cases x with
  | inl e => cases h
  | inr a => exact ⟨a, rfl, h⟩
section LnOk
variable {f : Nat → Nat} {n m : Nat} {ρ : RDS} {D : DR}
def LOk (n : Nat) (ρ : RDS) (D' : DR) (ρ' : RDS) : Prop := DOk D' ∧ tkOk ρ' n ∧ Adv ρ ρ'
theorem rNew_ok {ρ' : RDS} (h : rNew f n m D ρ = .inr ρ') (hk : tkOk ρ n) : lOk ρ.2.2.2.1 ∧ ρ' = nxt f n m ρ := by
  unfold rNew at h
  split at h
  · rename_i hn
    split at h
    · cases h
    · cases h
      exact ⟨hk.2.2.2.1 (nm_k hn), rfl⟩
  · cases h
theorem rFst_ok {b : Bool} {ρ' : RDS} (h : rFst f n m b ρ = .inr ρ') : b = false ∧ ρ' = nxt f n m ρ := by
  unfold rFst at h
  split at h
  · cases h
  · rename_i hb
    cases h
    exact ⟨Bool.eq_false_iff.mpr hb, rfl⟩
theorem fnd_lt {nl : Nat → List Nat} {base cnt j : Nat} {l : List Nat} (hc : cnt < 1000) (h : fnd nl base cnt l = some j) : j < cnt := ((fO_eq (p := fun i => decide (nl (base + i) = l)) hc).2 j h).1
theorem rLook_ok {nl : Nat → List Nat} {base cnt j : Nat} (hc : cnt < 1000) (h : rLook nl base cnt ρ = .inr j) : j < cnt := by
  unfold rLook at h
  split at h
  · cases ho : fnd nl base cnt ρ.2.2.2.1 with
    | none => rw [ho] at h; cases h
    | some i => rw [ho] at h; cases h; exact fnd_lt hc ho
  · cases h
theorem rNamed_ok {nl : Nat → List Nat} {base cnt j : Nat} {ρ' : RDS} (hc : cnt < 1000) (h : rNamed f n m nl base cnt ρ = .inr (j, ρ')) : j < cnt ∧ ρ' = nxt f n m ρ := by
  refine ⟨?_, rNamed_inr h⟩
  unfold rNamed at h
  cases ho : rLook nl base cnt ρ with
  | inl e => rw [ho] at h; cases h
  | inr i => rw [ho] at h; cases h; exact rLook_ok hc ho
theorem nx1 {ρ' : RDS} (hn : n ≤ 940) (hm : m ≤ 940) (hk : tkOk ρ n) (e : ρ' = nxt f n m ρ) : tkOk ρ' n ∧ Adv ρ ρ' := by
  rw [e]; exact nxt_ok hn hm hk
theorem lnSq_ok {D' : DR} {ρ' : RDS} (hn : n ≤ 940) (hm : m ≤ 940) (ho : DOk D) (hk : tkOk ρ n) (h : lnSq f n m D ρ = .inr (D', ρ')) : LOk n ρ D' ρ' := by
  unfold lnSq at h
  obtain ⟨ρ1, h1, h⟩ := bd_inr h
  obtain ⟨ρ2, h2, h⟩ := bd_inr h
  obtain ⟨⟨v, ρ3⟩, h3, h⟩ := bd_inr h
  cases h
  obtain ⟨b1, e1⟩ := rFst_ok h1
  obtain ⟨k1, a1⟩ := nx1 hn hm hk e1
  obtain ⟨l1, e2⟩ := rNew_ok h2 k1
  obtain ⟨k2, a2⟩ := nx1 hn hm k1 e2
  obtain ⟨e3, v1, v2⟩ := rNum_inr h3
  obtain ⟨k3, a3⟩ := nx1 hn hm k2 e3
  have hq := ho.1.2.1
  have : nQ D.1 ≠ 8 := by simpa using b1
  exact ⟨dSq_ok ho (by omega) l1 v2, k3, (a1.tr a2).tr a3⟩
theorem lnKi_ok {D' : DR} {ρ' : RDS} (hn : n ≤ 940) (hm : m ≤ 940) (ho : DOk D) (hk : tkOk ρ n) (h : lnKi f n m D ρ = .inr (D', ρ')) : LOk n ρ D' ρ' := by
  unfold lnKi at h
  obtain ⟨ρ1, h1, h⟩ := bd_inr h
  obtain ⟨ρ2, h2, h⟩ := bd_inr h
  cases h
  obtain ⟨b1, e1⟩ := rFst_ok h1
  obtain ⟨k1, a1⟩ := nx1 hn hm hk e1
  obtain ⟨l1, e2⟩ := rNew_ok h2 k1
  obtain ⟨k2, a2⟩ := nx1 hn hm k1 e2
  have hq := ho.1.2.2.2.1
  have : nK D.1 ≠ 5 := by simpa using b1
  exact ⟨dKi_ok ho (by omega) l1, k2, a1.tr a2⟩
theorem lnSt_ok {D' : DR} {ρ' : RDS} (hn : n ≤ 940) (hm : m ≤ 940) (ho : DOk D) (hk : tkOk ρ n) (h : lnSt f n m D ρ = .inr (D', ρ')) : LOk n ρ D' ρ' := by
  unfold lnSt at h
  obtain ⟨ρ1, h1, h⟩ := bd_inr h
  obtain ⟨ρ2, h2, h⟩ := bd_inr h
  obtain ⟨⟨k, ρ3⟩, h3, h⟩ := bd_inr h
  obtain ⟨q, h4, h⟩ := bd_inr h
  dsimp only at h h4
  split at h
  · rename_i hf
    obtain ⟨⟨v, ρ4⟩, h5, h⟩ := bd_inr h
    obtain ⟨⟨b, ρ5⟩, h6, h⟩ := bd_inr h
    cases h
    have hQ := ho.1.2.1
    have hKK := ho.1.2.2.2.1
    obtain ⟨b1, e1⟩ := rFst_ok h1
    obtain ⟨k1, a1⟩ := nx1 hn hm hk e1
    obtain ⟨l1, e2⟩ := rNew_ok h2 k1
    obtain ⟨k2, a2⟩ := nx1 hn hm k1 e2
    obtain ⟨kk, e3⟩ := rNamed_ok (by omega) h3
    obtain ⟨k3, a3⟩ := nx1 hn hm k2 e3
    have qq := rLook_ok (by omega) h4
    obtain ⟨k4, a4⟩ := nx1 (f := f) hn hm k3 rfl
    obtain ⟨e5, v1, v2⟩ := rNum_inr h5
    obtain ⟨k5, a5⟩ := nx1 hn hm k4 e5
    obtain ⟨e6, w1, w2⟩ := rNum_inr h6
    obtain ⟨k6, a6⟩ := nx1 hn hm k5 e6
    have hq := ho.1.2.2.2.2.2.1
    have : nA D.1 ≠ 8 := by simpa using b1
    exact ⟨dSt_ok ho (by omega) l1 kk qq w2 hf, k6, ((((a1.tr a2).tr a3).tr a4).tr a5).tr a6⟩
  · cases h
theorem lnWa_ok {D' : DR} {ρ' : RDS} (hn : n ≤ 940) (hm : m ≤ 940) (ho : DOk D) (hk : tkOk ρ n) (h : lnWa f n m D ρ = .inr (D', ρ')) : LOk n ρ D' ρ' := by
  unfold lnWa at h
  obtain ⟨ρ1, h1, h⟩ := bd_inr h
  obtain ⟨ρ2, h2, h⟩ := bd_inr h
  obtain ⟨⟨a, ρ3⟩, h3, h⟩ := bd_inr h
  obtain ⟨⟨b, ρ4⟩, h4, h⟩ := bd_inr h
  obtain ⟨⟨e, ρ5⟩, h5, h⟩ := bd_inr h
  obtain ⟨⟨v, ρ6⟩, h6, h⟩ := bd_inr h
  cases h
  have hQ := ho.1.2.1
  obtain ⟨b1, e1⟩ := rFst_ok h1
  obtain ⟨k1, a1⟩ := nx1 hn hm hk e1
  obtain ⟨l1, e2⟩ := rNew_ok h2 k1
  obtain ⟨k2, a2⟩ := nx1 hn hm k1 e2
  obtain ⟨ka, e3⟩ := rNamed_ok (by omega) h3
  obtain ⟨k3, a3⟩ := nx1 hn hm k2 e3
  obtain ⟨kb, e4⟩ := rNamed_ok (by omega) h4
  obtain ⟨k4, a4⟩ := nx1 hn hm k3 e4
  obtain ⟨e5, v1, v2⟩ := rNum_inr h5
  obtain ⟨k5, a5⟩ := nx1 hn hm k4 e5
  obtain ⟨e6, w1, w2⟩ := rNum_inr h6
  obtain ⟨k6, a6⟩ := nx1 hn hm k5 e6
  have hq := ho.1.2.2.2.2.2.2.2.1
  have : nW' D.1 ≠ 8 := by simpa using b1
  exact ⟨dWa_ok ho (by omega) l1 ka kb v1 v2 w2, k6, ((((a1.tr a2).tr a3).tr a4).tr a5).tr a6⟩
theorem lnLi_ok {D' : DR} {ρ' : RDS} (hn : n ≤ 940) (hm : m ≤ 940) (ho : DOk D) (hk : tkOk ρ n) (h : lnLi f n m D ρ = .inr (D', ρ')) : LOk n ρ D' ρ' := by
  unfold lnLi at h
  obtain ⟨⟨w, ρ1⟩, h1, h⟩ := bd_inr h
  obtain ⟨k, h2, h⟩ := bd_inr h
  dsimp only at h h2
  split at h
  · cases h
  · obtain ⟨⟨v, ρ2⟩, h3, h⟩ := bd_inr h
    cases h
    have hW := ho.1.2.2.2.2.2.2.2.1
    have hKK := ho.1.2.2.2.1
    obtain ⟨k0, a0⟩ := nx1 (f := f) hn hm hk rfl
    obtain ⟨kw, e1⟩ := rNamed_ok (by omega) h1
    obtain ⟨k1, a1⟩ := nx1 hn hm k0 e1
    have kk := rLook_ok (by omega) h2
    obtain ⟨k2, a2⟩ := nx1 (f := f) hn hm k1 rfl
    obtain ⟨e3, v1, v2⟩ := rNum_inr h3
    obtain ⟨k3, a3⟩ := nx1 hn hm k2 e3
    exact ⟨(dLi_ok ho (by omega) v2).1, k3, ((a0.tr a1).tr a2).tr a3⟩
theorem lnPa_ok {D' : DR} {ρ' : RDS} (hn : n ≤ 940) (hm : m ≤ 940) (ho : DOk D) (hk : tkOk ρ n) (h : lnPa f n m D ρ = .inr (D', ρ')) : LOk n ρ D' ρ' := by
  unfold lnPa at h
  obtain ⟨ρ1, h1, h⟩ := bd_inr h
  obtain ⟨⟨a, ρ2⟩, h2, h⟩ := bd_inr h
  obtain ⟨b, h3, h⟩ := bd_inr h
  dsimp only at h h3
  split at h
  · cases h
  · rename_i hne
    cases h
    have hQ := ho.1.2.1
    obtain ⟨b1, e1⟩ := rFst_ok h1
    obtain ⟨k1, a1⟩ := nx1 hn hm hk e1
    obtain ⟨ka, e2⟩ := rNamed_ok (by omega) h2
    obtain ⟨k2, a2⟩ := nx1 hn hm k1 e2
    have kb := rLook_ok (by omega) h3
    obtain ⟨k3, a3⟩ := nx1 (f := f) hn hm k2 rfl
    exact ⟨(dPa_ok ho (fun z => hne (Or.inl z)) ka kb (of_decide_eq_false b1)).1, k3, (a1.tr a2).tr a3⟩
theorem lnAr_ok {D' : DR} {ρ' : RDS} (hn : n ≤ 940) (hm : m ≤ 940) (ho : DOk D) (hk : tkOk ρ n) (h : lnAr f n m D ρ = .inr (D', ρ')) : LOk n ρ D' ρ' := by
  unfold lnAr at h
  split at h
  · cases h
  · obtain ⟨⟨v, ρ1⟩, h1, h⟩ := bd_inr h
    cases h
    obtain ⟨k0, a0⟩ := nx1 (f := f) hn hm hk rfl
    obtain ⟨e1, v1, v2⟩ := rNum_inr h1
    obtain ⟨k1, a1⟩ := nx1 hn hm k0 e1
    exact ⟨(dAr_ok ho v1 v2).1, k1, a0.tr a1⟩
theorem lnAny_ok {D' : DR} {ρ' : RDS} (hn : n ≤ 940) (hm : m ≤ 940) (ho : DOk D) (hk : tkOk ρ n) (h : lnAny f n m D ρ = .inr (D', ρ')) : LOk n ρ D' ρ' := by
  unfold lnAny at h
  split at h
  · split at h
    · exact lnSq_ok hn hm ho hk h
    split at h
    · exact lnPa_ok hn hm ho hk h
    split at h
    · exact lnKi_ok hn hm ho hk h
    split at h
    · exact lnSt_ok hn hm ho hk h
    split at h
    · exact lnWa_ok hn hm ho hk h
    split at h
    · exact lnLi_ok hn hm ho hk h
    split at h
    · exact lnAr_ok hn hm ho hk h
    · cases h
  · cases h
end LnOk
/-- nothing is told yet -/
def D0 : DR := (fun i => if i = 5 then 3 else 0, fun _ => [], fun _ => false, false)
theorem D0_n : nQ D0.1 = 0 ∧ nK D0.1 = 0 ∧ nA D0.1 = 0 ∧ nW' D0.1 = 0 := ⟨rfl, rfl, rfl, rfl⟩
theorem D0_ok : DOk D0 := by
  obtain ⟨n1, n2, n3, n4⟩ := D0_n
  unfold DOk
  rw [n1, n2, n3, n4]
  refine ⟨⟨rfl, by omega, rfl, by omega, rfl, by omega, rfl, by omega, ⟨0, by omega, rfl⟩, ⟨3, by omega, by omega, rfl⟩, fun _ => rfl⟩, fun q hq => absurd hq (by omega), fun p q hp hq ht => ?_, fun k hk => absurd hk (by omega), fun a ha => absurd ha (by omega), fun a b ha => absurd ha (by omega), fun w hw => absurd hw (by omega), fun i hi ht => (by cases ht), fun i hi => absurd hi (by omega)⟩
  have : D0.1 (14 + p) = 0 := if_neg (by omega)
  rw [this, tb_0] at ht
  cases ht
/-- the whole text of a city -/
def rdAll (f : Nat → Nat) (n : Nat) : FT ⊕ (Nat × DR) := lnAll f n 900 500 0 D0 (tokF f n 900 (sk f n 0))
theorem tk0 {f : Nat → Nat} {n m : Nat} (hn : n ≤ 940) (hm : m ≤ 940) : tkOk (tokF f n m (sk f n 0)) n ∧ ((tokF f n m (sk f n 0)).2.1 ≠ 0 → (tokF f n m (sk f n 0)).2.1 ≠ 1 → 1 ≤ (tokF f n m (sk f n 0)).2.2.2.2) := by
  have h0 := sk_le' (f := f) (n := n) (p := 0) (by omega)
  obtain ⟨k, a⟩ := nxt_ok (f := f) (n := n) (m := m) (ρ := (0, 0, 0, [], sk f n 0)) hn hm ⟨Nat.zero_le _, Nat.zero_le _, Nat.zero_le _, fun q => (by cases q), h0.2⟩
  exact ⟨k, fun q1 q2 => by have := a.2 q1 q2; exact Nat.le_trans (by omega) this⟩
/-- the way of walker w -/
def wl (D : DR) (w : Nat) : List Nat := wyL D.1 (D.1 (54 + w)).toNatClampNeg (D.1 (62 + w)).toNatClampNeg
theorem DOk.sym {D : DR} (h : DOk D) : Sym D.1 := ⟨h.1.2.1, h.2.2.1⟩
theorem wl_ok {D : DR} {w : Nat} (h : DOk D) (hw : w < nW' D.1) : ∃ s t, s < nQ D.1 ∧ t < nQ D.1 ∧ D.1 (54 + w) = nI s ∧ D.1 (62 + w) = nI t ∧ wl D w = wyL D.1 s t ∧ (wl D w).length ≤ 8 ∧ ∀ x ∈ wl D w, x < nQ D.1 := by
  obtain ⟨⟨s, s1, s2⟩, ⟨t, t1, t2⟩, -⟩ := h.2.2.2.2.2.2.1 w hw
  have hQ := h.1.2.1
  have e : wl D w = wyL D.1 s t := by
    unfold wl
    rw [s2, t2, nI_clamp (by omega), nI_clamp (by omega)]
  refine ⟨s, t, s1, t1, s2, t2, e, ?_⟩
  rw [e]
  exact wyL_ok h.sym s1
