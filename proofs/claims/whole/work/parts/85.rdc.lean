/-! what is read of the tokens: the system -/
abbrev FT : Type := Nat × Nat
def fO (p : Nat → Bool) : Nat → Option Nat
  | 0 => none
  | n + 1 => match fO p n with
    | some j => some j
    | none => if p n then some n else none
theorem fO_eq {p : Nat → Bool} : ∀ {n : Nat}, n < 1000 → fstI p n = (match fO p n with | none => -1 | some j => nI j) ∧ ∀ j, fO p n = some j → j < n ∧ p j = true
  | 0, _ => ⟨rfl, fun j h => by cases h⟩
  | n + 1, hn => by
    obtain ⟨e, h⟩ := fO_eq (p := p) (n := n) (by omega)
    rw [fstI, fO]
    cases ho : fO p n with
    | none =>
      rw [ho] at e
      dsimp only at e ⊢
      rw [if_pos e]
      cases hp : p n
      · simp
      · simp only [if_true]
        exact ⟨trivial, fun j hj => by cases hj; exact ⟨by omega, hp⟩⟩
    | some j =>
      rw [ho] at e
      have := h j ho
      dsimp only at e ⊢
      rw [if_neg (by rw [e]; exact nI_m1 (by omega))]
      exact ⟨e, fun i hi => by cases hi; exact ⟨by omega, this.2⟩⟩
theorem fO_none {p : Nat → Bool} : ∀ {n : Nat}, fO p n = none ↔ ∀ k, k < n → p k = false
  | 0 => ⟨fun _ k hk => absurd hk (by omega), fun _ => rfl⟩
  | n + 1 => by
    have ih := fO_none (p := p) (n := n)
    rw [fO]
    cases ho : fO p n with
    | none =>
      have h1 := ih.mp ho
      dsimp only
      cases hp : p n
      · simp only [Bool.false_eq_true, if_false, true_iff]
        intro k hk
        by_cases e : k = n
        · rw [e]; exact hp
        · exact h1 k (by omega)
      · simp only [if_true]
        exact ⟨fun h => (by cases h), fun h => (by rw [h n (by omega)] at hp; cases hp)⟩
    | some j =>
      dsimp only
      refine ⟨fun h => (by cases h), fun h => ?_⟩
      have := ih.mpr (fun k hk => h k (by omega))
      rw [ho] at this; cases this
def isNm (ρ : RDS) : Bool := ρ.2.1 == 2 && decide (24 ≤ wix ρ.2.2.2.1)
def rNum (f : Nat → Nat) (n m : Nat) (ρ : RDS) (a b : Nat) : FT ⊕ (Nat × RDS) := if ρ.2.1 = 3 then (if a ≤ ρ.2.2.1 ∧ ρ.2.2.1 ≤ b then .inr (ρ.2.2.1, nxt f n m ρ) else .inl (2, ρ.1)) else .inl (1, ρ.1)
def rSgn (f : Nat → Nat) (n m : Nat) (ρ : RDS) (c : Nat) : FT ⊕ RDS := if ρ.2.1 = 4 ∧ ρ.2.2.1 = c then .inr (nxt f n m ρ) else .inl (1, ρ.1)
def rCmp (f : Nat → Nat) (n m : Nat) (ρ : RDS) : FT ⊕ (Nat × RDS) := if ρ.2.1 = 4 ∧ (ρ.2.2.1 = 60 ∨ ρ.2.2.1 = 61 ∨ ρ.2.2.1 = 62) then .inr (ρ.2.2.1, nxt f n m ρ) else .inl (1, ρ.1)
def fnd (nl : Nat → List Nat) (base cnt : Nat) (l : List Nat) : Option Nat := fO (fun i => decide (nl (base + i) = l)) cnt
def rLook (nl : Nat → List Nat) (base cnt : Nat) (ρ : RDS) : FT ⊕ Nat := if isNm ρ then (match fnd nl base cnt ρ.2.2.2.1 with | none => .inl (3, ρ.1) | some j => .inr j) else .inl (1, ρ.1)
def rNamed (f : Nat → Nat) (n m : Nat) (nl : Nat → List Nat) (base cnt : Nat) (ρ : RDS) : FT ⊕ (Nat × RDS) := match rLook nl base cnt ρ with
  | .inl e => .inl e
  | .inr j => .inr (j, nxt f n m ρ)
def FtC (V : Mm) (e : FT) : Prop := V.1 1 2 = nI e.1 ∧ V.1 1 3 = nI e.2 ∧ 1 ≤ e.1 ∧ e.1 ≤ 4
theorem FtC.ne {V : Mm} {e : FT} (h : FtC V e) : ¬ V.1 1 2 = 0 := by rw [h.1]; exact nI_ne0 (by have := h.2.2; omega) (by have := h.2.2; omega)
theorem FtC.cg {V V' : Mm} {e : FT} (h : FtC V e) (h1 : V'.1 1 = V.1 1) : FtC V' e := by unfold FtC; rw [h1]; exact h
theorem FtC.of {u : Mm} {f : Nat → Nat} {n m k : Nat} {ρ : RDS} (h : RdC u f n m ρ) (h1 : 1 ≤ k) (h4 : k ≤ 4) : FtC (mI u 1 2 (nI k)) (k, ρ.1) := ⟨mI_s, by rw [mI_n (by omega)]; exact h.2.2.1, h1, h4⟩
theorem RdC.cg {V V' : Mm} {f : Nat → Nat} {n m : Nat} {ρ : RDS} (h : RdC V f n m ρ) (h1 : V'.1 1 = V.1 1) (h2 : V'.2 1 = V.2 1) : RdC V' f n m ρ := by
  unfold RdC tokC; rw [h1, h2]; exact h
theorem TBy.cg {u V : Mm} {f : Nat → Nat} (h : TBy u f) (e : V.1 2 = u.1 2) : TBy V f := fun i hi => by rw [e]; exact h i hi
theorem Fr1.tb {u V : Mm} {f : Nat → Nat} (h : Fr1 u V) (hb : TBy u f) : TBy V f := hb.cg (h.1 2 (by omega))
theorem Fr1.wd {u V : Mm} (h : Fr1 u V) (hw : WordsR u) : WordsR V := hw.congr (h.2 3 (by omega))
section RdC
variable {X : Xc} {d : Nat} {u : Mm} {f : Nat → Nat} {n m : Nat} {ρ : RDS}
theorem ty_k {ρ : RDS} (h : ρ.2.1 ≤ 4) : (ty ρ = 4 ↔ ρ.2.1 = 3) ∧ (ty ρ = 5 ↔ ρ.2.1 = 4) ∧ (ty ρ = 2 ↔ isNm ρ = true) ∧ (ty ρ = 0 ↔ ρ.2.1 = 0) ∧ (ty ρ = 3 ↔ ρ.2.1 = 2 ∧ wix ρ.2.2.2.1 < 24) ∧ ty ρ < 6 := by
  unfold ty isNm
  rcases (show ρ.2.1 = 0 ∨ ρ.2.1 = 1 ∨ ρ.2.1 = 2 ∨ ρ.2.1 = 3 ∨ ρ.2.1 = 4 by omega) with e | e | e | e | e <;> rw [e]
  · simp
  · simp
  · by_cases h2 : wix ρ.2.2.2.1 < 24
    · simp [h2]
    · simp [h2]; omega
  · simp
  · simp
theorem f_step {K : Mm → Prop} {e : FT} (hd : 1 ≤ d) (h : FtC u e) (hK : K u) : CV X d 104 [.ref 1] u K := by
  obtain ⟨d, rfl, -⟩ := dpos hd
  exact CV_of mk_X10_step.2.2 rfl (B_T_step_0 ⟨fun z => absurd z h.ne, fun _ => hK⟩)
theorem f_blame {K : Mm → Prop} {e : FT} {x : Int32} (hd : 1 ≤ d) (h : FtC u e) (hK : K u) : CV X d 111 [.ref 1, .int x] u K := by
  obtain ⟨d, rfl, -⟩ := dpos hd
  exact CV_of mk_X10_blame.2.2 rfl (B_T_blame_0 ⟨fun _ => hK, fun z => absurd z h.ne⟩)
theorem c_blame {K : Mm → Prop} {x : Int32} (hd : 1 ≤ d) (h : u.1 1 2 = 0) (hK : K (mI u 1 2 x)) : CV X d 111 [.ref 1, .int x] u K := by
  obtain ⟨d, rfl, -⟩ := dpos hd
  exact CV_of mk_X10_blame.2.2 rfl (B_T_blame_0 ⟨fun z => absurd h z, fun _ => hK⟩)
/-- blamed here, and no step is gone -/
theorem c_bl_st {K : Mm → Prop} {k : Nat} (hd : 1 ≤ d) (hr : RdC u f n m ρ) (h1 : 1 ≤ k) (h4 : k ≤ 4) (hK : ∀ V, Fr1 u V → FtC V (k, ρ.1) → K V) : CV X d 111 [.ref 1, .int (nI k)] u (fun u1 => CV X d 104 [.ref 1] u1 K) :=
  c_blame hd hr.2.1 (f_step hd (FtC.of hr h1 h4) (hK _ Fr1.rf.mI (FtC.of hr h1 h4)))
theorem f_takeNum {K : Int32 → Mm → Prop} {e : FT} {a b : Int32} (hd : 2 ≤ d) (h : FtC u e) (hK : ∀ w, K w u) : CI X d 116 [.ref 1, .int a, .int b] u K := by
  obtain ⟨d, rfl, hd1⟩ := dpos hd
  refine CI_of mk_X10_takeNumber.2.2 rfl (B_T_takeNumber_0 ⟨fun _ => ⟨fun _ => f_blame hd1 h (f_step hd1 h (hK _)), fun _ => ⟨fun _ => f_step hd1 h (hK _), fun _ => f_blame hd1 h (f_step hd1 h (hK _))⟩⟩, fun _ => f_blame hd1 h (f_step hd1 h (hK _))⟩)
theorem c_takeNum {K : Int32 → Mm → Prop} {a b : Nat} (hd : 5 ≤ d) (hn : n ≤ 940) (hm : m ≤ 940) (hb : TBy u f) (hw : WordsR u) (hr : RdC u f n m ρ) (hk : tkOk ρ n) (ha : a < 1000) (hbb : b < 1000) (h0 : ∀ e, rNum f n m ρ a b = .inl e → ∀ w V, Fr1 u V → FtC V e → K w V) (h1 : ∀ v ρ', rNum f n m ρ a b = .inr (v, ρ') → ∀ V, Fr1 u V → RdC V f n m ρ' → K (nI v) V) : CI X d 116 [.ref 1, .int (nI a), .int (nI b)] u K := by
  obtain ⟨d, rfl, hd1⟩ := dpos hd
  obtain ⟨t4, -, -, -, -, t6⟩ := ty_k hk.2.1
  have hv := hk.2.2.1
  unfold rNum at h0 h1
  refine CI_of mk_X10_takeNumber.2.2 rfl (B_T_takeNumber_0 ?_)
  rw [hr.2.2.2.2.1.1]
  refine ⟨fun q => ?_, fun q => ?_⟩
  · have q : ρ.2.1 = 3 := t4.mp ((nI_eq (a := ty ρ) (b := 4) (by omega) (by omega)).mp q)
    rw [if_pos q] at h0 h1
    rw [hr.2.2.2.2.1.2.2.2 (Or.inl q)]
    refine ⟨fun y => ?_, fun y => ⟨fun y2 => ?_, fun y2 => ?_⟩⟩
    · have y := (nI_ltI (by omega) (by omega)).mp y
      rw [if_neg (by omega)] at h0
      exact c_bl_st (k := 2) (by omega) hr (by omega) (by omega) (fun V v1 v2 => h0 _ rfl _ V v1 v2)
    · have y := mt (nI_ltI (a := ρ.2.2.1) (b := a) (by omega) (by omega)).mpr y
      have y2 := (nI_leI (by omega) (by omega)).mp y2
      rw [if_pos (by omega)] at h1
      exact c_step hd1 hn hm hb hw hr (by omega) (fun V v1 v2 => h1 _ _ rfl V v1 v2)
    · have y2 := mt (nI_leI (a := ρ.2.2.1) (b := b) (by omega) (by omega)).mpr y2
      rw [if_neg (by omega)] at h0
      exact c_bl_st (k := 2) (by omega) hr (by omega) (by omega) (fun V v1 v2 => h0 _ rfl _ V v1 v2)
  · have q : ¬ ρ.2.1 = 3 := fun z => q (by rw [t4.mpr z]; rfl)
    rw [if_neg q] at h0
    exact c_bl_st (k := 1) (by omega) hr (by omega) (by omega) (fun V v1 v2 => h0 _ rfl _ V v1 v2)
theorem c_isSn {K : Int32 → Mm → Prop} {c : Nat} (hd : 1 ≤ d) (hr : RdC u f n m ρ) (hk : tkOk ρ n) (hc : c < 1000) (h1 : ρ.2.1 = 4 ∧ ρ.2.2.1 = c → K 1 u) (h0 : ¬ (ρ.2.1 = 4 ∧ ρ.2.2.1 = c) → K 0 u) : CI X d 112 [.ref 1, .int (nI c)] u K := by
  obtain ⟨d, rfl, hd1⟩ := dpos hd
  obtain ⟨-, t5, -, -, -, t6⟩ := ty_k hk.2.1
  have hv := hk.2.2.1
  refine CI_of mk_X10_isSign.2.2 rfl (B_T_isSign_0 ?_)
  rw [hr.2.2.2.2.1.1]
  refine ⟨fun q => h0 fun z => q (by rw [t5.mpr z.1]; rfl), fun q => ?_⟩
  have q : ρ.2.1 = 4 := t5.mp ((nI_eq (a := ty ρ) (b := 5) (by omega) (by omega)).mp q)
  rw [hr.2.2.2.2.1.2.2.2 (Or.inr q)]
  exact ⟨fun y => h0 fun z => y (by rw [z.2]), fun y => h1 ⟨q, (nI_eq (by omega) (by omega)).mp y⟩⟩
theorem f_isSn {K : Int32 → Mm → Prop} {c : Int32} (hd : 1 ≤ d) (h1 : K 1 u) (h0 : K 0 u) : CI X d 112 [.ref 1, .int c] u K := by
  obtain ⟨d, rfl, hd1⟩ := dpos hd
  exact CI_of mk_X10_isSign.2.2 rfl (B_T_isSign_0 ⟨fun _ => h0, fun _ => ⟨fun _ => h0, fun _ => h1⟩⟩)
theorem f_isWd {K : Int32 → Mm → Prop} {c : Int32} (hd : 1 ≤ d) (h1 : K 1 u) (h0 : K 0 u) : CI X d 113 [.ref 1, .int c] u K := by
  obtain ⟨d, rfl, hd1⟩ := dpos hd
  exact CI_of mk_X10_isWord.2.2 rfl (B_T_isWord_0 ⟨fun _ => h0, fun _ => ⟨fun _ => h0, fun _ => h1⟩⟩)
theorem c_isWd {K : Int32 → Mm → Prop} {c : Nat} (hd : 1 ≤ d) (hr : RdC u f n m ρ) (hk : tkOk ρ n) (hc : c < 24) (h1 : ρ.2.1 = 2 ∧ wix ρ.2.2.2.1 = c → K 1 u) (h0 : ¬ (ρ.2.1 = 2 ∧ wix ρ.2.2.2.1 = c) → K 0 u) : CI X d 113 [.ref 1, .int (nI c)] u K := by
  obtain ⟨d, rfl, hd1⟩ := dpos hd
  obtain ⟨-, -, -, -, t3, t6⟩ := ty_k hk.2.1
  refine CI_of mk_X10_isWord.2.2 rfl (B_T_isWord_0 ?_)
  rw [hr.2.2.2.2.1.1]
  refine ⟨fun q => h0 fun z => q (by rw [t3.mpr ⟨z.1, by omega⟩]; rfl), fun q => ?_⟩
  have q0 : ty ρ = 3 := (nI_eq (a := ty ρ) (b := 3) (by omega) (by omega)).mp q
  have q := t3.mp q0
  rw [hr.2.2.2.2.1.2.1 q0]
  exact ⟨fun y => h0 fun z => y (by rw [z.2]), fun y => h1 ⟨q.1, (nI_eq (by omega) (by omega)).mp y⟩⟩
theorem f_takeSgn {K : Mm → Prop} {e : FT} {c : Int32} (hd : 2 ≤ d) (h : FtC u e) (hK : K u) : CV X d 114 [.ref 1, .int c] u K := by
  obtain ⟨d, rfl, hd1⟩ := dpos hd
  refine CV_of mk_X10_takeSign.2.2 rfl (B_T_takeSign_0 (f_isSn hd1 ?_ ?_))
  · exact ⟨fun _ => f_step hd1 h hK, fun z => absurd z (by decide)⟩
  · exact ⟨fun z => absurd rfl z, fun _ => f_blame hd1 h (f_step hd1 h hK)⟩
theorem c_takeSgn {K : Mm → Prop} {c : Nat} (hd : 5 ≤ d) (hn : n ≤ 940) (hm : m ≤ 940) (hb : TBy u f) (hw : WordsR u) (hr : RdC u f n m ρ) (hk : tkOk ρ n) (hc : c < 1000) (h0 : ∀ e, rSgn f n m ρ c = .inl e → ∀ V, Fr1 u V → FtC V e → K V) (h1 : ∀ ρ', rSgn f n m ρ c = .inr ρ' → ∀ V, Fr1 u V → RdC V f n m ρ' → K V) : CV X d 114 [.ref 1, .int (nI c)] u K := by
  obtain ⟨d, rfl, hd1⟩ := dpos hd
  unfold rSgn at h0 h1
  refine CV_of mk_X10_takeSign.2.2 rfl (B_T_takeSign_0 (c_isSn (by omega) hr hk hc (fun q => ?_) (fun q => ?_)))
  · rw [if_pos q] at h1
    exact ⟨fun _ => c_step hd1 hn hm hb hw hr (by omega) (fun V v1 v2 => h1 _ rfl V v1 v2), fun z => absurd z (by decide)⟩
  · rw [if_neg q] at h0
    exact ⟨fun z => absurd rfl z, fun _ => c_bl_st (k := 1) (by omega) hr (by omega) (by omega) (fun V v1 v2 => h0 _ rfl V v1 v2)⟩
theorem f_takeCmp {K : Int32 → Mm → Prop} {e : FT} (hd : 2 ≤ d) (h : FtC u e) (hK : ∀ w, K w u) : CI X d 115 [.ref 1] u K := by
  obtain ⟨d, rfl, hd1⟩ := dpos hd
  refine CI_of mk_X10_takeComparison.2.2 rfl (B_T_takeComparison_0 ⟨fun _ => f_blame hd1 h (f_step hd1 h (hK _)), fun _ => ?_⟩)
  obtain ⟨d, rfl, hd2⟩ := dpos hd1
  have g1 : (¬ (1 : Int32) = 0 → CV X (d + 1) 104 [.ref 1] u (fun u4 => K (u.1 1 5) u4)) ∧ ((1 : Int32) = 0 → CV X (d + 1) 111 [.ref 1, .int (1 : Int32)] u (fun u5 => CV X (d + 1) 104 [.ref 1] u5 (fun u6 => K (u.1 1 5) u6))) := ⟨fun _ => f_step hd1 h (hK _), fun z => absurd z (by decide)⟩
  have g0 : (¬ (0 : Int32) = 0 → CV X (d + 1) 104 [.ref 1] u (fun u4 => K (u.1 1 5) u4)) ∧ ((0 : Int32) = 0 → CV X (d + 1) 111 [.ref 1, .int (1 : Int32)] u (fun u5 => CV X (d + 1) 104 [.ref 1] u5 (fun u6 => K (u.1 1 5) u6))) := ⟨fun z => absurd rfl z, fun _ => f_blame hd1 h (f_step hd1 h (hK _))⟩
  exact CI_of mk_X10_isComparison.2.2 rfl (B_T_isComparison_0 ⟨fun _ => g1, fun _ => ⟨fun _ => g1, fun _ => ⟨fun _ => g0, fun _ => g1⟩⟩⟩)
theorem c_takeCmp {K : Int32 → Mm → Prop} (hd : 5 ≤ d) (hn : n ≤ 940) (hm : m ≤ 940) (hb : TBy u f) (hw : WordsR u) (hr : RdC u f n m ρ) (hk : tkOk ρ n) (h0 : ∀ e, rCmp f n m ρ = .inl e → ∀ w V, Fr1 u V → FtC V e → K w V) (h1 : ∀ v ρ', rCmp f n m ρ = .inr (v, ρ') → ∀ V, Fr1 u V → RdC V f n m ρ' → K (nI v) V) : CI X d 115 [.ref 1] u K := by
  obtain ⟨d, rfl, hd1⟩ := dpos hd
  obtain ⟨-, t5, -, -, -, t6⟩ := ty_k hk.2.1
  have hv := hk.2.2.1
  unfold rCmp at h0 h1
  refine CI_of mk_X10_takeComparison.2.2 rfl (B_T_takeComparison_0 ?_)
  rw [hr.2.2.2.2.1.1]
  refine ⟨fun q => ?_, fun q => ?_⟩
  · have q : ¬ ρ.2.1 = 4 := fun z => q (by rw [t5.mpr z]; rfl)
    rw [if_neg (fun z => q z.1)] at h0
    exact c_bl_st (k := 1) (by omega) hr (by omega) (by omega) (fun V v1 v2 => h0 _ rfl _ V v1 v2)
  · have q : ρ.2.1 = 4 := t5.mp ((nI_eq (a := ty ρ) (b := 5) (by omega) (by omega)).mp q)
    rw [hr.2.2.2.2.1.2.2.2 (Or.inr q)]
    refine c_isCmp (by omega) (by omega) (fun y => ?_) (fun y => ?_)
    · rw [if_pos ⟨q, y⟩] at h1
      exact ⟨fun _ => c_step hd1 hn hm hb hw hr (by omega) (fun V v1 v2 => h1 _ _ rfl V v1 v2), fun z => absurd z (by decide)⟩
    · rw [if_neg (fun z => y z.2)] at h0
      exact ⟨fun z => absurd rfl z, fun _ => c_bl_st (k := 1) (by omega) hr (by omega) (by omega) (fun V v1 v2 => h0 _ rfl _ V v1 v2)⟩
/-- the names of a city, as letters: sort s of the city at C -/
def NmC (u : Mm) (C s base cnt : Nat) (nl : Nat → List Nat) : Prop := cnt ≤ 8 ∧ u.1 (C + 2) s = nI cnt ∧ ∀ i, i < cnt → lOk (nl (base + i)) ∧ u.2 (C + 1) (8 * s + i) = lN (e5 (nl (base + i)))
theorem NmC.cg {V : Mm} {C s base cnt : Nat} {nl : Nat → List Nat} (h : NmC u C s base cnt nl) (e1 : V.1 (C + 2) = u.1 (C + 2)) (e2 : V.2 (C + 1) = u.2 (C + 1)) : NmC V C s base cnt nl := by
  unfold NmC; rw [e1, e2]; exact h
theorem c_find5' {K : Int32 → Mm → Prop} {x : Int64} {s cnt : Nat} (hd : 1 ≤ d) (hs : s < 4) (hc : cnt ≤ 8) (e : u.1 7 s = nI cnt) (hK : K (fstI (fun i => decide (u.2 6 (8 * s + i) = x)) cnt) u) : CI X d 6 [.ref 5, .int (nI s), .long x] u K := by
  obtain ⟨d, rfl, -⟩ := dpos hd
  refine CI_of mk_X0_find.2.2 rfl (B_C5_find_0 ?_)
  suffices hz : (∀ i, i < 0 → u.2 6 (8 * s + i) ≠ x) → VI X d 6 K 3 [some (.ref 5), some (.int (nI s)), some (.long x), none, some (.int (nI 0))] [] u from hz (fun i h => absurd h (by omega))
  refine lup (n := cnt) (W := fun j => (∀ i, i < j → u.2 6 (8 * s + i) ≠ x) → VI X d 6 K 3 [some (.ref 5), some (.int (nI s)), some (.long x), none, some (.int (nI j))] [] u) ?_
  intro j hj ih hp
  refine B_C5_find_3 ?_
  rw [nI_clamp (show s < 2 ^ 31 by omega), e, lt2, nI_add, nI_1, nI_clamp (by omega)]
  refine ⟨vp_in_nI hs (by decide), fun z => ?_, fun z => ⟨vp_in_nI (by have := mt (nI_leI (a := cnt) (b := j) (by omega) (by omega)).mpr z; omega) (by decide), fun y => ?_, fun y => ?_⟩⟩
  · have z := (nI_leI (by omega) (by omega)).mp z
    rw [fstI_none (fun k hk => decide_eq_false (hp k (by omega)))] at hK
    exact hK
  · have z := mt (nI_leI (a := cnt) (b := j) (by omega) (by omega)).mpr z
    refine ih (by omega) fun i hi => ?_
    by_cases e : i = j
    · subst e; exact fun q => y ((lg_cmp_eq _ _).mpr q)
    · exact hp i (by omega)
  · have z := mt (nI_leI (a := cnt) (b := j) (by omega) (by omega)).mpr z
    rw [fstI_some (j := j) (decide_eq_true ((lg_cmp_eq _ _).mp y)) (fun k hk => decide_eq_false (hp k (by omega))) (by omega) (by omega)] at hK
    exact hK
theorem c_find5 {K : Int32 → Mm → Prop} {nl : Nat → List Nat} {l : List Nat} {s base cnt : Nat} (hd : 1 ≤ d) (hs : s < 4) (h : NmC u 5 s base cnt nl) (hl : lOk l) (hK : K (match fnd nl base cnt l with | none => -1 | some j => nI j) u) : CI X d 6 [.ref 5, .int (nI s), .long (lN (e5 l))] u K := by
  obtain ⟨hc, e, hn⟩ := h
  refine c_find5' hd hs hc e ?_
  have e2 : fstI (fun i => decide (u.2 6 (8 * s + i) = lN (e5 l))) cnt = fstI (fun i => decide (nl (base + i) = l)) cnt := fstI_congr fun i hi => by
    obtain ⟨h1, h2⟩ := hn i hi
    have h3 : u.2 6 (8 * s + i) = lN (e5 (nl (base + i))) := h2
    rw [h3]
    exact decide_eq_decide.mpr (e5_iff h1 hl)
  rw [e2, (fO_eq (by omega)).1]
  exact hK
theorem c_look5 {K : Int32 → Mm → Prop} {nl : Nat → List Nat} {s base cnt : Nat} (hd : 2 ≤ d) (hs : s < 4) (h : NmC u 5 s base cnt nl) (hr : RdC u f n m ρ) (hk : tkOk ρ n) (h0 : ∀ e, rLook nl base cnt ρ = .inl e → ∀ V, Fr1 u V → FtC V e → K (-1) V) (h1 : ∀ j, j < cnt → rLook nl base cnt ρ = .inr j → K (nI j) u) : CI X d 118 [.ref 1, .ref 5, .int (nI s)] u K := by
  obtain ⟨d, rfl, hd1⟩ := dpos hd
  obtain ⟨-, -, t2, -, -, t6⟩ := ty_k hk.2.1
  unfold rLook at h0 h1
  refine CI_of mk_X10_lookUp.2.2 rfl (B_T_lookUp5_0 ?_)
  rw [hr.2.2.2.2.1.1]
  refine ⟨fun q => ?_, fun q => ?_⟩
  · have q : isNm ρ = true := t2.mp ((nI_eq (a := ty ρ) (b := 2) (by omega) (by omega)).mp q)
    have q2 : ρ.2.1 = 2 := by unfold isNm at q; simp at q; exact q.1
    rw [if_pos q] at h0 h1
    rw [hr.2.2.2.2.1.2.2.1 q2]
    refine c_find5 hd1 hs h (hk.2.2.2.1 q2) ?_
    cases hf : fnd nl base cnt ρ.2.2.2.1 with
    | none =>
      rw [hf] at h0
      refine ⟨fun z => absurd rfl z, fun _ => c_blame hd1 hr.2.1 (h0 _ rfl _ Fr1.rf.mI (FtC.of (k := 3) hr (by omega) (by omega)))⟩
    | some j =>
      rw [hf] at h1
      have hj := ((fO_eq (n := cnt) (by have := h.1; omega)).2 j hf).1
      have := h.1
      exact ⟨fun _ => h1 j hj rfl, fun z => absurd z (nI_m1 (by omega))⟩
  · have q : ¬ isNm ρ = true := fun z => q (by rw [t2.mpr z]; rfl)
    rw [if_neg q] at h0
    exact c_blame hd1 hr.2.1 (h0 _ rfl _ Fr1.rf.mI (FtC.of (k := 1) hr (by omega) (by omega)))
theorem f_look5 {K : Int32 → Mm → Prop} {e : FT} {s cnt : Nat} (hd : 2 ≤ d) (hs : s < 4) (hc : cnt ≤ 8) (ec : u.1 7 s = nI cnt) (h : FtC u e) (h0 : K (-1) u) (h1 : ∀ j, j < cnt → K (nI j) u) : CI X d 118 [.ref 1, .ref 5, .int (nI s)] u K := by
  obtain ⟨d, rfl, hd1⟩ := dpos hd
  refine CI_of mk_X10_lookUp.2.2 rfl (B_T_lookUp5_0 ⟨fun _ => c_find5' hd1 hs hc ec ?_, fun _ => f_blame hd1 h h0⟩)
  rcases fstI_cases (fun i => decide (u.2 6 (8 * s + i) = u.2 1 6)) (n := cnt) (by omega) with ⟨e1, -⟩ | ⟨j, hj, e1, -⟩
  · rw [e1]; exact ⟨fun z => absurd rfl z, fun _ => f_blame hd1 h h0⟩
  · rw [e1]; exact ⟨fun _ => h1 j hj, fun z => absurd z (nI_m1 (by omega))⟩
theorem c_named5 {K : Int32 → Mm → Prop} {nl : Nat → List Nat} {s base cnt : Nat} (hd : 5 ≤ d) (hn : n ≤ 940) (hm : m ≤ 940) (hb : TBy u f) (hw : WordsR u) (hs : s < 4) (h : NmC u 5 s base cnt nl) (hr : RdC u f n m ρ) (hk : tkOk ρ n) (h0 : ∀ e, rNamed f n m nl base cnt ρ = .inl e → ∀ V, Fr1 u V → FtC V e → K (-1) V) (h1 : ∀ j ρ', j < cnt → rNamed f n m nl base cnt ρ = .inr (j, ρ') → ∀ V, Fr1 u V → RdC V f n m ρ' → K (nI j) V) : CI X d 119 [.ref 1, .ref 5, .int (nI s)] u K := by
  obtain ⟨d, rfl, hd1⟩ := dpos hd
  unfold rNamed at h0 h1
  refine CI_of mk_X10_takeNamed.2.2 rfl (B_T_takeNamed5_0 (c_look5 (by omega) hs h hr hk (fun e he V v1 v2 => ?_) (fun j hj he => ?_)))
  · rw [he] at h0
    exact f_step (by omega) v2 (h0 e rfl V v1 v2)
  · rw [he] at h1
    have hk1 : ρ.2.1 ≠ 1 := by
      unfold rLook at he
      split at he
      · rename_i q; unfold isNm at q; simp at q; omega
      · cases he
    exact c_step hd1 hn hm hb hw hr hk1 fun V v1 v2 => h1 j _ hj rfl V v1 v2
theorem f_named5 {K : Int32 → Mm → Prop} {e : FT} {s cnt : Nat} (hd : 3 ≤ d) (hs : s < 4) (hc : cnt ≤ 8) (ec : u.1 7 s = nI cnt) (h : FtC u e) (h0 : K (-1) u) (h1 : ∀ j, j < cnt → K (nI j) u) : CI X d 119 [.ref 1, .ref 5, .int (nI s)] u K := by
  obtain ⟨d, rfl, hd1⟩ := dpos hd
  exact CI_of mk_X10_takeNamed.2.2 rfl (B_T_takeNamed5_0 (f_look5 hd1 hs hc ec h (f_step (by omega) h h0) (fun j hj => f_step (by omega) h (h1 j hj))))
theorem c_find120' {K : Int32 → Mm → Prop} {x : Int64} {s cnt : Nat} (hd : 1 ≤ d) (hs : s < 4) (hc : cnt ≤ 8) (e : u.1 122 s = nI cnt) (hK : K (fstI (fun i => decide (u.2 121 (8 * s + i) = x)) cnt) u) : CI X d 6 [.ref 120, .int (nI s), .long x] u K := by
  obtain ⟨d, rfl, -⟩ := dpos hd
  refine CI_of mk_X0_find.2.2 rfl (B_C120_find_0 ?_)
  suffices hz : (∀ i, i < 0 → u.2 121 (8 * s + i) ≠ x) → VI X d 6 K 3 [some (.ref 120), some (.int (nI s)), some (.long x), none, some (.int (nI 0))] [] u from hz (fun i h => absurd h (by omega))
  refine lup (n := cnt) (W := fun j => (∀ i, i < j → u.2 121 (8 * s + i) ≠ x) → VI X d 6 K 3 [some (.ref 120), some (.int (nI s)), some (.long x), none, some (.int (nI j))] [] u) ?_
  intro j hj ih hp
  refine B_C120_find_3 ?_
  rw [nI_clamp (show s < 2 ^ 31 by omega), e, lt2, nI_add, nI_1, nI_clamp (by omega)]
  refine ⟨vp_in_nI hs (by decide), fun z => ?_, fun z => ⟨vp_in_nI (by have := mt (nI_leI (a := cnt) (b := j) (by omega) (by omega)).mpr z; omega) (by decide), fun y => ?_, fun y => ?_⟩⟩
  · have z := (nI_leI (by omega) (by omega)).mp z
    rw [fstI_none (fun k hk => decide_eq_false (hp k (by omega)))] at hK
    exact hK
  · have z := mt (nI_leI (a := cnt) (b := j) (by omega) (by omega)).mpr z
    refine ih (by omega) fun i hi => ?_
    by_cases e : i = j
    · subst e; exact fun q => y ((lg_cmp_eq _ _).mpr q)
    · exact hp i (by omega)
  · have z := mt (nI_leI (a := cnt) (b := j) (by omega) (by omega)).mpr z
    rw [fstI_some (j := j) (decide_eq_true ((lg_cmp_eq _ _).mp y)) (fun k hk => decide_eq_false (hp k (by omega))) (by omega) (by omega)] at hK
    exact hK
theorem c_find120 {K : Int32 → Mm → Prop} {nl : Nat → List Nat} {l : List Nat} {s base cnt : Nat} (hd : 1 ≤ d) (hs : s < 4) (h : NmC u 120 s base cnt nl) (hl : lOk l) (hK : K (match fnd nl base cnt l with | none => -1 | some j => nI j) u) : CI X d 6 [.ref 120, .int (nI s), .long (lN (e5 l))] u K := by
  obtain ⟨hc, e, hn⟩ := h
  refine c_find120' hd hs hc e ?_
  have e2 : fstI (fun i => decide (u.2 121 (8 * s + i) = lN (e5 l))) cnt = fstI (fun i => decide (nl (base + i) = l)) cnt := fstI_congr fun i hi => by
    obtain ⟨h1, h2⟩ := hn i hi
    have h3 : u.2 121 (8 * s + i) = lN (e5 (nl (base + i))) := h2
    rw [h3]
    exact decide_eq_decide.mpr (e5_iff h1 hl)
  rw [e2, (fO_eq (by omega)).1]
  exact hK
theorem c_look120 {K : Int32 → Mm → Prop} {nl : Nat → List Nat} {s base cnt : Nat} (hd : 2 ≤ d) (hs : s < 4) (h : NmC u 120 s base cnt nl) (hr : RdC u f n m ρ) (hk : tkOk ρ n) (h0 : ∀ e, rLook nl base cnt ρ = .inl e → ∀ V, Fr1 u V → FtC V e → K (-1) V) (h1 : ∀ j, j < cnt → rLook nl base cnt ρ = .inr j → K (nI j) u) : CI X d 118 [.ref 1, .ref 120, .int (nI s)] u K := by
  obtain ⟨d, rfl, hd1⟩ := dpos hd
  obtain ⟨-, -, t2, -, -, t6⟩ := ty_k hk.2.1
  unfold rLook at h0 h1
  refine CI_of mk_X10_lookUp.2.2 rfl (B_T_lookUp120_0 ?_)
  rw [hr.2.2.2.2.1.1]
  refine ⟨fun q => ?_, fun q => ?_⟩
  · have q : isNm ρ = true := t2.mp ((nI_eq (a := ty ρ) (b := 2) (by omega) (by omega)).mp q)
    have q2 : ρ.2.1 = 2 := by unfold isNm at q; simp at q; exact q.1
    rw [if_pos q] at h0 h1
    rw [hr.2.2.2.2.1.2.2.1 q2]
    refine c_find120 hd1 hs h (hk.2.2.2.1 q2) ?_
    cases hf : fnd nl base cnt ρ.2.2.2.1 with
    | none =>
      rw [hf] at h0
      refine ⟨fun z => absurd rfl z, fun _ => c_blame hd1 hr.2.1 (h0 _ rfl _ Fr1.rf.mI (FtC.of (k := 3) hr (by omega) (by omega)))⟩
    | some j =>
      rw [hf] at h1
      have hj := ((fO_eq (n := cnt) (by have := h.1; omega)).2 j hf).1
      have := h.1
      exact ⟨fun _ => h1 j hj rfl, fun z => absurd z (nI_m1 (by omega))⟩
  · have q : ¬ isNm ρ = true := fun z => q (by rw [t2.mpr z]; rfl)
    rw [if_neg q] at h0
    exact c_blame hd1 hr.2.1 (h0 _ rfl _ Fr1.rf.mI (FtC.of (k := 1) hr (by omega) (by omega)))
theorem f_look120 {K : Int32 → Mm → Prop} {e : FT} {s cnt : Nat} (hd : 2 ≤ d) (hs : s < 4) (hc : cnt ≤ 8) (ec : u.1 122 s = nI cnt) (h : FtC u e) (h0 : K (-1) u) (h1 : ∀ j, j < cnt → K (nI j) u) : CI X d 118 [.ref 1, .ref 120, .int (nI s)] u K := by
  obtain ⟨d, rfl, hd1⟩ := dpos hd
  refine CI_of mk_X10_lookUp.2.2 rfl (B_T_lookUp120_0 ⟨fun _ => c_find120' hd1 hs hc ec ?_, fun _ => f_blame hd1 h h0⟩)
  rcases fstI_cases (fun i => decide (u.2 121 (8 * s + i) = u.2 1 6)) (n := cnt) (by omega) with ⟨e1, -⟩ | ⟨j, hj, e1, -⟩
  · rw [e1]; exact ⟨fun z => absurd rfl z, fun _ => f_blame hd1 h h0⟩
  · rw [e1]; exact ⟨fun _ => h1 j hj, fun z => absurd z (nI_m1 (by omega))⟩
theorem c_named120 {K : Int32 → Mm → Prop} {nl : Nat → List Nat} {s base cnt : Nat} (hd : 5 ≤ d) (hn : n ≤ 940) (hm : m ≤ 940) (hb : TBy u f) (hw : WordsR u) (hs : s < 4) (h : NmC u 120 s base cnt nl) (hr : RdC u f n m ρ) (hk : tkOk ρ n) (h0 : ∀ e, rNamed f n m nl base cnt ρ = .inl e → ∀ V, Fr1 u V → FtC V e → K (-1) V) (h1 : ∀ j ρ', j < cnt → rNamed f n m nl base cnt ρ = .inr (j, ρ') → ∀ V, Fr1 u V → RdC V f n m ρ' → K (nI j) V) : CI X d 119 [.ref 1, .ref 120, .int (nI s)] u K := by
  obtain ⟨d, rfl, hd1⟩ := dpos hd
  unfold rNamed at h0 h1
  refine CI_of mk_X10_takeNamed.2.2 rfl (B_T_takeNamed120_0 (c_look120 (by omega) hs h hr hk (fun e he V v1 v2 => ?_) (fun j hj he => ?_)))
  · rw [he] at h0
    exact f_step (by omega) v2 (h0 e rfl V v1 v2)
  · rw [he] at h1
    have hk1 : ρ.2.1 ≠ 1 := by
      unfold rLook at he
      split at he
      · rename_i q; unfold isNm at q; simp at q; omega
      · cases he
    exact c_step hd1 hn hm hb hw hr hk1 fun V v1 v2 => h1 j _ hj rfl V v1 v2
theorem f_named120 {K : Int32 → Mm → Prop} {e : FT} {s cnt : Nat} (hd : 3 ≤ d) (hs : s < 4) (hc : cnt ≤ 8) (ec : u.1 122 s = nI cnt) (h : FtC u e) (h0 : K (-1) u) (h1 : ∀ j, j < cnt → K (nI j) u) : CI X d 119 [.ref 1, .ref 120, .int (nI s)] u K := by
  obtain ⟨d, rfl, hd1⟩ := dpos hd
  exact CI_of mk_X10_takeNamed.2.2 rfl (B_T_takeNamed120_0 (f_look120 hd1 hs hc ec h (f_step (by omega) h h0) (fun j hj => f_step (by omega) h (h1 j hj))))
end RdC
