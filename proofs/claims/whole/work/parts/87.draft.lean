/-! a city's text, line by line, as functions -/
abbrev DR : Type := (Nat → Int32) × (Nat → List Nat) × (Nat → Bool) × Bool
def bd {A B : Type} (x : FT ⊕ A) (g : A → FT ⊕ B) : FT ⊕ B := match x with
  | .inl e => .inl e
  | .inr a => g a
def uL (nl : Nat → List Nat) (j : Nat) (l : List Nat) : Nat → List Nat := fun i => if i = j then l else nl i
def uB (h : Nat → Bool) (j : Nat) : Nat → Bool := fun i => if i = j then true else h i
theorem uLs {nl : Nat → List Nat} {j : Nat} {l : List Nat} : uL nl j l j = l := if_pos rfl
theorem uLn {nl : Nat → List Nat} {i j : Nat} {l : List Nat} (h : i ≠ j) : uL nl j l i = nl i := if_neg h
theorem uBs {h : Nat → Bool} {j : Nat} : uB h j j = true := if_pos rfl
theorem uBn {h : Nat → Bool} {i j : Nat} (q : i ≠ j) : uB h j i = h i := if_neg q
def told (D : DR) (l : List Nat) : Bool := (fnd D.2.1 0 (nQ D.1) l).isSome || ((fnd D.2.1 8 (nK D.1) l).isSome || ((fnd D.2.1 13 (nA D.1) l).isSome || (fnd D.2.1 21 (nW' D.1) l).isSome))
section Lines
variable (f : Nat → Nat) (n m : Nat)
def rNew (D : DR) (ρ : RDS) : FT ⊕ RDS := if isNm ρ then (if told D ρ.2.2.2.1 then .inl (3, ρ.1) else .inr (nxt f n m ρ)) else .inl (1, ρ.1)
def rFst (full : Bool) (ρ : RDS) : FT ⊕ RDS := if full then .inl (4, ρ.1) else .inr (nxt f n m ρ)
def dSq (D : DR) (l : List Nat) (v : Nat) : DR := (upd (upd D.1 (6 + nQ D.1) (nI v)) 0 (nI (nQ D.1 + 1)), uL D.2.1 (nQ D.1) l, D.2.2.1, D.2.2.2)
def lnSq (D : DR) (ρ : RDS) : FT ⊕ (DR × RDS) := bd (rFst f n m (nQ D.1 == 8) ρ) fun ρ1 => bd (rNew f n m D ρ1) fun ρ2 => bd (rNum f n m ρ2 0 99) fun z => .inr (dSq D ρ1.2.2.2.1 z.1, z.2)
def bitOr (x : Int32) (j : Nat) : Int32 := x ||| ((1 : Int32) <<< (nI j &&& 31))
def dPa (D : DR) (a b : Nat) : DR := (upd (upd (upd D.1 (14 + a) (bitOr (D.1 (14 + a)) b)) (14 + b) (bitOr (upd D.1 (14 + a) (bitOr (D.1 (14 + a)) b) (14 + b)) a)) 1 (D.1 1 + 1), D.2)
def lnPa (D : DR) (ρ : RDS) : FT ⊕ (DR × RDS) := bd (rFst f n m (decide (D.1 1 = 16)) ρ) fun ρ1 => bd (rNamed f n m D.2.1 0 (nQ D.1) ρ1) fun z => bd (rLook D.2.1 0 (nQ D.1) z.2) fun b => if z.1 = b ∨ tb (D.1 (14 + z.1)) b = true then .inl (3, z.2.1) else .inr (dPa D z.1 b, nxt f n m z.2)
def dKi (D : DR) (l : List Nat) : DR := (upd D.1 2 (nI (nK D.1 + 1)), uL D.2.1 (8 + nK D.1) l, D.2.2.1, D.2.2.2)
def lnKi (D : DR) (ρ : RDS) : FT ⊕ (DR × RDS) := bd (rFst f n m (nK D.1 == 5) ρ) fun ρ1 => bd (rNew f n m D ρ1) fun ρ2 => .inr (dKi D ρ1.2.2.2.1, ρ2)
def dSt (D : DR) (l : List Nat) (k q v b : Nat) : DR := (upd (upd (upd (upd (upd D.1 (22 + nA D.1) (nI k)) (30 + nA D.1) (nI q)) (38 + nA D.1) (nI v)) (46 + nA D.1) (nI b)) 3 (nI (nA D.1 + 1)), uL D.2.1 (13 + nA D.1) l, D.2.2.1, D.2.2.2)
def stF (D : DR) (q : Nat) : Int32 := fstI (fun a => decide (D.1 (30 + a) = nI q)) (nA D.1)
def lnSt (D : DR) (ρ : RDS) : FT ⊕ (DR × RDS) := bd (rFst f n m (nA D.1 == 8) ρ) fun ρ1 => bd (rNew f n m D ρ1) fun ρ2 => bd (rNamed f n m D.2.1 8 (nK D.1) ρ2) fun z => bd (rLook D.2.1 0 (nQ D.1) z.2) fun q => if stF D q = -1 then (bd (rNum f n m (nxt f n m z.2) 0 999) fun y => bd (rNum f n m y.2 0 99) fun x => .inr (dSt D ρ1.2.2.2.1 z.1 q y.1 x.1, x.2)) else .inl (3, z.2.1)
def lik6 (D : DR) : Nat → Int32 := upd (upd (upd (upd (upd D.1 (86 + 5 * nW' D.1) 6) (87 + 5 * nW' D.1) 6) (88 + 5 * nW' D.1) 6) (89 + 5 * nW' D.1) 6) (90 + 5 * nW' D.1) 6
def dWa (D : DR) (l : List Nat) (a b e v : Nat) : DR := (upd (fun i => if 86 + 5 * nW' D.1 ≤ i ∧ i < 91 + 5 * nW' D.1 then 6 else upd (upd (upd (upd D.1 (54 + nW' D.1) (nI a)) (62 + nW' D.1) (nI b)) (70 + nW' D.1) (nI e)) (78 + nW' D.1) (nI v) i) 4 (nI (nW' D.1 + 1)), uL D.2.1 (21 + nW' D.1) l, D.2.2.1, D.2.2.2)
def lnWa (D : DR) (ρ : RDS) : FT ⊕ (DR × RDS) := bd (rFst f n m (nW' D.1 == 8) ρ) fun ρ1 => bd (rNew f n m D ρ1) fun ρ2 => bd (rNamed f n m D.2.1 0 (nQ D.1) ρ2) fun z => bd (rNamed f n m D.2.1 0 (nQ D.1) z.2) fun y => bd (rNum f n m y.2 1 7) fun x => bd (rNum f n m x.2 0 9) fun w => .inr (dWa D ρ1.2.2.2.1 z.1 y.1 x.1 w.1, w.2)
def dLi (D : DR) (i v : Nat) : DR := (upd D.1 (86 + i) (nI v), D.2.1, uB D.2.2.1 i, D.2.2.2)
def lnLi (D : DR) (ρ : RDS) : FT ⊕ (DR × RDS) := bd (rNamed f n m D.2.1 21 (nW' D.1) (nxt f n m ρ)) fun z => bd (rLook D.2.1 8 (nK D.1) z.2) fun k => if D.2.2.1 (5 * z.1 + k) then .inl (3, z.2.1) else bd (rNum f n m (nxt f n m z.2) 0 12) fun y => .inr (dLi D (5 * z.1 + k) y.1, y.2)
def dAr (D : DR) (v : Nat) : DR := (upd D.1 5 (nI v), D.2.1, D.2.2.1, true)
def lnAr (D : DR) (ρ : RDS) : FT ⊕ (DR × RDS) := if D.2.2.2 then .inl (3, ρ.1) else bd (rNum f n m (nxt f n m ρ) 1 9) fun y => .inr (dAr D y.1, y.2)
def lnAny (D : DR) (ρ : RDS) : FT ⊕ (DR × RDS) := if ρ.2.1 = 2 then (if wix ρ.2.2.2.1 = 0 then lnSq f n m D ρ else if wix ρ.2.2.2.1 = 1 then lnPa f n m D ρ else if wix ρ.2.2.2.1 = 2 then lnKi f n m D ρ else if wix ρ.2.2.2.1 = 3 then lnSt f n m D ρ else if wix ρ.2.2.2.1 = 4 then lnWa f n m D ρ else if wix ρ.2.2.2.1 = 5 then lnLi f n m D ρ else if wix ρ.2.2.2.1 = 6 then lnAr f n m D ρ else .inl (1, ρ.1)) else .inl (1, ρ.1)
/-- so many lines at most -/
def lnAll : Nat → Nat → DR → RDS → FT ⊕ (Nat × DR)
  | 0, k, D, _ => .inr (k, D)
  | g + 1, k, D, ρ => if ρ.2.1 = 0 then .inr (k, D) else bd (lnAny f n m D ρ) fun z => bd (rSgn f n m z.2 59) fun ρ' => lnAll g (k + 1) z.1 ρ'
end Lines
/-- what is told so far is well -/
def DOk (D : DR) : Prop :=
  (D.1 0 = nI (nQ D.1) ∧ nQ D.1 ≤ 8 ∧ D.1 2 = nI (nK D.1) ∧ nK D.1 ≤ 5 ∧ D.1 3 = nI (nA D.1) ∧ nA D.1 ≤ 8 ∧ D.1 4 = nI (nW' D.1) ∧ nW' D.1 ≤ 8 ∧ (∃ v, v ≤ 16 ∧ D.1 1 = nI v) ∧ (∃ v, 1 ≤ v ∧ v ≤ 9 ∧ D.1 5 = nI v) ∧ (D.2.2.2 = false → D.1 5 = 3)) ∧
  (∀ q, q < nQ D.1 → (∃ r, r ≤ 99 ∧ D.1 (6 + q) = nI r) ∧ lOk (D.2.1 q)) ∧
  (∀ p q, p < 8 → q < 32 → tb (D.1 (14 + p)) q = true → p < nQ D.1 ∧ q < nQ D.1 ∧ tb (D.1 (14 + q)) p = true) ∧
  (∀ k, k < nK D.1 → lOk (D.2.1 (8 + k))) ∧
  (∀ a, a < nA D.1 → (∃ k, k < nK D.1 ∧ D.1 (22 + a) = nI k) ∧ (∃ q, q < nQ D.1 ∧ D.1 (30 + a) = nI q) ∧ (∃ v, v ≤ 99 ∧ D.1 (46 + a) = nI v) ∧ lOk (D.2.1 (13 + a))) ∧
  (∀ a b, a < nA D.1 → b < nA D.1 → a ≠ b → D.1 (30 + a) ≠ D.1 (30 + b)) ∧
  (∀ w, w < nW' D.1 → (∃ q, q < nQ D.1 ∧ D.1 (54 + w) = nI q) ∧ (∃ q, q < nQ D.1 ∧ D.1 (62 + w) = nI q) ∧ (∃ e, 1 ≤ e ∧ e ≤ 7 ∧ D.1 (70 + w) = nI e) ∧ (∃ v, v ≤ 9 ∧ D.1 (78 + w) = nI v) ∧ (∀ k, k < 5 → ∃ v, v ≤ 12 ∧ D.1 (86 + 5 * w + k) = nI v) ∧ lOk (D.2.1 (21 + w))) ∧
  (∀ i, i < 40 → D.2.2.1 i = true → i < 5 * nW' D.1) ∧ (∀ i, i < 5 * nW' D.1 → D.2.2.1 i = false → D.1 (86 + i) = 6)
section DOkS
variable {D : DR}
theorem cl_eq {g : Nat → Int32} {j k : Nat} (h : g j = nI k) (hk : k < 1000) : (g j).toNatClampNeg = k := by rw [h, nI_clamp (by omega)]
theorem dSq_n {l : List Nat} {v : Nat} (h : DOk D) (hq : nQ D.1 < 8) : nQ (dSq D l v).1 = nQ D.1 + 1 ∧ nK (dSq D l v).1 = nK D.1 ∧ nA (dSq D l v).1 = nA D.1 ∧ nW' (dSq D l v).1 = nW' D.1 := by
  refine ⟨by unfold nQ dSq; dsimp only; rw [pk_us, nI_clamp (by omega)]; rfl, ?_, ?_, ?_⟩
  · unfold nK dSq; dsimp only; rw [pk_un (by omega), pk_un (by omega)]
  · unfold nA dSq; dsimp only; rw [pk_un (by omega), pk_un (by omega)]
  · unfold nW' dSq; dsimp only; rw [pk_un (by omega), pk_un (by omega)]
theorem dSq_ok {l : List Nat} {v : Nat} (h : DOk D) (hq : nQ D.1 < 8) (hl : lOk l) (hv : v ≤ 99) : DOk (dSq D l v) := by
  obtain ⟨n1, n2, n3, n4⟩ := dSq_n (l := l) (v := v) h hq
  obtain ⟨⟨a1, a2, a3, a4, a5, a6, a7, a8, a9, a10, a11⟩, b, c, d, e, e2, g, h1, h2⟩ := h
  unfold DOk
  rw [n1, n2, n3, n4]
  unfold dSq
  dsimp only
  refine ⟨⟨pk_us, by omega, ?_, a4, ?_, a6, ?_, a8, ?_, ?_, ?_⟩, fun q hq' => ?_, fun p q hp hq' ht => ?_, fun k hk => ?_, fun a ha => ?_, fun a b ha hb hab => ?_, fun w hw => ?_, h1, fun i hi hf => ?_⟩
  · rw [pk_un (by omega), pk_un (by omega)]; exact a3
  · rw [pk_un (by omega), pk_un (by omega)]; exact a5
  · rw [pk_un (by omega), pk_un (by omega)]; exact a7
  · rw [pk_un (by omega), pk_un (by omega)]; exact a9
  · rw [pk_un (by omega), pk_un (by omega)]; exact a10
  · rw [pk_un (by omega), pk_un (by omega)]; exact a11
  · by_cases e : q = nQ D.1
    · subst e; rw [pk_un (by omega), pk_us, uLs]; exact ⟨⟨v, hv, rfl⟩, hl⟩
    · rw [pk_un (by omega), pk_un (by omega), uLn e]; exact b q (by omega)
  · rw [pk_un (by omega), pk_un (by omega)] at ht
    have := c p q hp hq' ht
    rw [pk_un (by omega), pk_un (by omega)]
    exact ⟨by omega, by omega, this.2.2⟩
  · rw [uLn (by omega)]; exact d k hk
  · simp (disch := omega) only [pk_un, uLn]
    obtain ⟨x1, ⟨q, y1, y2⟩, x3, x4⟩ := e a ha
    exact ⟨x1, ⟨q, by omega, y2⟩, x3, x4⟩
  · simp (disch := omega) only [pk_un]
    exact e2 a b ha hb hab
  · obtain ⟨⟨q1, y1, y2⟩, ⟨q2, y3, y4⟩, x3, x4, x5, x6⟩ := g w hw
    simp (disch := omega) only [pk_un, uLn]
    refine ⟨⟨q1, by omega, y2⟩, ⟨q2, by omega, y4⟩, x3, x4, fun k hk => ?_, x6⟩
    first | exact x5 k hk | (rw [pk_un (by omega), pk_un (by omega)]; exact x5 k hk)
  · simp (disch := omega) only [pk_un]; exact h2 i hi hf
theorem dKi_n {l : List Nat} (hq : nK D.1 < 5) : nQ (dKi D l).1 = nQ D.1 ∧ nK (dKi D l).1 = nK D.1 + 1 ∧ nA (dKi D l).1 = nA D.1 ∧ nW' (dKi D l).1 = nW' D.1 := by
  refine ⟨?_, by unfold nK dKi; dsimp only; rw [pk_us, nI_clamp (by omega)]; rfl, ?_, ?_⟩
  · unfold nQ dKi; dsimp only; rw [pk_un (by omega)]
  · unfold nA dKi; dsimp only; rw [pk_un (by omega)]
  · unfold nW' dKi; dsimp only; rw [pk_un (by omega)]
theorem dKi_ok {l : List Nat} (h : DOk D) (hq : nK D.1 < 5) (hl : lOk l) : DOk (dKi D l) := by
  obtain ⟨n1, n2, n3, n4⟩ := dKi_n (l := l) hq
  obtain ⟨⟨a1, a2, a3, a4, a5, a6, a7, a8, a9, a10, a11⟩, b, c, d, e, e2, g, h1, h2⟩ := h
  unfold DOk
  rw [n1, n2, n3, n4]
  unfold dKi
  dsimp only
  refine ⟨⟨?_, a2, pk_us, by omega, ?_, a6, ?_, a8, ?_, ?_, ?_⟩, fun q hq' => ?_, fun p q hp hq' ht => ?_, fun k hk => ?_, fun a ha => ?_, fun a b ha hb hab => ?_, fun w hw => ?_, h1, fun i hi hf => ?_⟩
  · rw [pk_un (by omega)]; exact a1
  · rw [pk_un (by omega)]; exact a5
  · rw [pk_un (by omega)]; exact a7
  · rw [pk_un (by omega)]; exact a9
  · rw [pk_un (by omega)]; exact a10
  · rw [pk_un (by omega)]; exact a11
  · simp (disch := omega) only [pk_un, uLn]; exact b q hq'
  · rw [pk_un (by omega)] at ht
    rw [pk_un (by omega)]; exact c p q hp hq' ht
  · by_cases e : k = nK D.1
    · subst e; rw [uLs]; exact hl
    · rw [uLn (by omega)]; exact d k (by omega)
  · simp (disch := omega) only [pk_un, uLn]
    obtain ⟨⟨q, y1, y2⟩, x1, x3, x4⟩ := e a ha
    exact ⟨⟨q, by omega, y2⟩, x1, x3, x4⟩
  · simp (disch := omega) only [pk_un]; exact e2 a b ha hb hab
  · obtain ⟨x1, x2, x3, x4, x5, x6⟩ := g w hw
    simp (disch := omega) only [pk_un, uLn]
    refine ⟨x1, x2, x3, x4, fun k hk => ?_, x6⟩
    first | exact x5 k hk | (rw [pk_un (by omega)]; exact x5 k hk)
  · simp (disch := omega) only [pk_un]; exact h2 i hi hf
theorem dSt_n {l : List Nat} {k q v b : Nat} (hq : nA D.1 < 8) : nQ (dSt D l k q v b).1 = nQ D.1 ∧ nK (dSt D l k q v b).1 = nK D.1 ∧ nA (dSt D l k q v b).1 = nA D.1 + 1 ∧ nW' (dSt D l k q v b).1 = nW' D.1 := by
  refine ⟨?_, ?_, by unfold nA dSt; dsimp only; rw [pk_us, nI_clamp (by omega)]; rfl, ?_⟩
  · unfold nQ dSt; dsimp only; simp (disch := omega) only [pk_un]
  · unfold nK dSt; dsimp only; simp (disch := omega) only [pk_un]
  · unfold nW' dSt; dsimp only; simp (disch := omega) only [pk_un]
theorem stF_free {q : Nat} (hA : nA D.1 ≤ 8) (h : stF D q = -1) : ∀ a, a < nA D.1 → D.1 (30 + a) ≠ nI q := by
  rcases fstI_cases (fun a => decide (D.1 (30 + a) = nI q)) (n := nA D.1) (by omega) with ⟨-, e⟩ | ⟨j, hj, e, -⟩
  · intro a ha; simpa using e a ha
  · exact absurd (e.symm.trans h) (nI_m1 (by omega))
theorem dSt_ok {l : List Nat} {k q v b : Nat} (h : DOk D) (hq : nA D.1 < 8) (hl : lOk l) (hk : k < nK D.1) (hqq : q < nQ D.1) (hb : b ≤ 99) (hf : stF D q = -1) : DOk (dSt D l k q v b) := by
  obtain ⟨n1, n2, n3, n4⟩ := dSt_n (D := D) (l := l) (k := k) (q := q) (v := v) (b := b) hq
  have hfr := stF_free (by omega) hf
  obtain ⟨⟨a1, a2, a3, a4, a5, a6, a7, a8, a9, a10, a11⟩, b', c, d, e, e2, g, h1, h2⟩ := h
  unfold DOk
  rw [n1, n2, n3, n4]
  unfold dSt
  dsimp only
  refine ⟨⟨?_, a2, ?_, a4, pk_us, by omega, ?_, a8, ?_, ?_, ?_⟩, fun q hq' => ?_, fun p q hp hq' ht => ?_, fun k hk => ?_, fun a ha => ?_, fun a b ha hb hab => ?_, fun w hw => ?_, h1, fun i hi hf => ?_⟩
  · simp (disch := omega) only [pk_un]; exact a1
  · simp (disch := omega) only [pk_un]; exact a3
  · simp (disch := omega) only [pk_un]; exact a7
  · simp (disch := omega) only [pk_un]; exact a9
  · simp (disch := omega) only [pk_un]; exact a10
  · simp (disch := omega) only [pk_un]; exact a11
  · simp (disch := omega) only [pk_un, uLn]; exact b' q hq'
  · simp (disch := omega) only [pk_un] at ht
    have := c p q hp hq' ht
    simp (disch := omega) only [pk_un]; exact this
  · rw [uLn (by omega)]; exact d k hk
  · by_cases ea : a = nA D.1
    · subst ea
      simp (disch := omega) only [pk_un, pk_us, uLs]
      exact ⟨⟨k, hk, rfl⟩, ⟨q, hqq, rfl⟩, ⟨b, hb, rfl⟩, hl⟩
    · simp (disch := omega) only [pk_un, uLn]; exact e a (by omega)
  · by_cases ea : a = nA D.1
    · subst ea
      simp (disch := omega) only [pk_un, pk_us]
      exact fun z => hfr b (by omega) z.symm
    · by_cases eb : b = nA D.1
      · subst eb
        simp (disch := omega) only [pk_un, pk_us]
        exact hfr a (by omega)
      · simp (disch := omega) only [pk_un]
        exact e2 a b (by omega) (by omega) hab
  · obtain ⟨x1, x2, x3, x4, x5, x6⟩ := g w hw
    simp (disch := omega) only [pk_un, uLn]
    refine ⟨x1, x2, x3, x4, fun k hk => ?_, x6⟩
    first | exact x5 k hk | (simp (disch := omega) only [pk_un]; exact x5 k hk)
  · simp (disch := omega) only [pk_un]; exact h2 i hi hf
theorem dWa_at {l : List Nat} {a b e v i : Nat} (h : i < 86 ∨ 91 + 5 * nW' D.1 ≤ i ∨ i < 86 + 5 * nW' D.1) (h4 : i ≠ 4) : (dWa D l a b e v).1 i = upd (upd (upd (upd D.1 (54 + nW' D.1) (nI a)) (62 + nW' D.1) (nI b)) (70 + nW' D.1) (nI e)) (78 + nW' D.1) (nI v) i := by
  unfold dWa
  dsimp only
  rw [pk_un h4, if_neg (by omega)]
theorem dWa_n {l : List Nat} {a b e v : Nat} (hq : nW' D.1 < 8) : nQ (dWa D l a b e v).1 = nQ D.1 ∧ nK (dWa D l a b e v).1 = nK D.1 ∧ nA (dWa D l a b e v).1 = nA D.1 ∧ nW' (dWa D l a b e v).1 = nW' D.1 + 1 := by
  refine ⟨?_, ?_, ?_, by unfold nW' dWa; dsimp only; rw [pk_us, nI_clamp (by omega)]; rfl⟩
  · unfold nQ; rw [dWa_at (by omega) (by omega)]; simp (disch := omega) only [pk_un]
  · unfold nK; rw [dWa_at (by omega) (by omega)]; simp (disch := omega) only [pk_un]
  · unfold nA; rw [dWa_at (by omega) (by omega)]; simp (disch := omega) only [pk_un]
theorem dWa_6 {l : List Nat} {a b e v i : Nat} (h1 : 86 + 5 * nW' D.1 ≤ i) (h2 : i < 91 + 5 * nW' D.1) : (dWa D l a b e v).1 i = 6 := by
  unfold dWa
  dsimp only
  rw [pk_un (by omega), if_pos ⟨h1, h2⟩]
theorem dWa_ok {l : List Nat} {a b e v : Nat} (h : DOk D) (hq : nW' D.1 < 8) (hl : lOk l) (ha : a < nQ D.1) (hb : b < nQ D.1) (he1 : 1 ≤ e) (he : e ≤ 7) (hv : v ≤ 9) : DOk (dWa D l a b e v) := by
  obtain ⟨n1, n2, n3, n4⟩ := dWa_n (D := D) (l := l) (a := a) (b := b) (e := e) (v := v) hq
  obtain ⟨⟨a1, a2, a3, a4, a5, a6, a7, a8, a9, a10, a11⟩, b', c, d, e', e2, g, h1, h2⟩ := h
  have nm : (dWa D l a b e v).2.1 = uL D.2.1 (21 + nW' D.1) l := rfl
  have hh : (dWa D l a b e v).2.2 = D.2.2 := rfl
  unfold DOk
  rw [n1, n2, n3, n4, nm, hh]
  refine ⟨⟨?_, a2, ?_, a4, ?_, a6, by unfold dWa; dsimp only; rw [pk_us], by omega, ?_, ?_, ?_⟩, fun q hq' => ?_, fun p q hp hq' ht => ?_, fun k hk => ?_, fun a ha => ?_, fun a b ha hb hab => ?_, fun w hw => ?_, fun i hi ht => by have := h1 i hi ht; omega, fun i hi hf => ?_⟩
  · rw [dWa_at (by omega) (by omega)]; simp (disch := omega) only [pk_un]; exact a1
  · rw [dWa_at (by omega) (by omega)]; simp (disch := omega) only [pk_un]; exact a3
  · rw [dWa_at (by omega) (by omega)]; simp (disch := omega) only [pk_un]; exact a5
  · rw [dWa_at (by omega) (by omega)]; simp (disch := omega) only [pk_un]; exact a9
  · rw [dWa_at (by omega) (by omega)]; simp (disch := omega) only [pk_un]; exact a10
  · rw [dWa_at (by omega) (by omega)]; simp (disch := omega) only [pk_un]; exact a11
  · rw [dWa_at (by omega) (by omega)]; simp (disch := omega) only [pk_un, uLn]; exact b' q hq'
  · rw [dWa_at (by omega) (by omega)] at ht
    simp (disch := omega) only [pk_un] at ht
    have := c p q hp hq' ht
    rw [dWa_at (by omega) (by omega)]
    simp (disch := omega) only [pk_un]; exact this
  · rw [uLn (by omega)]; exact d k hk
  · rw [dWa_at (by omega) (by omega), dWa_at (by omega) (by omega), dWa_at (by omega) (by omega)]
    simp (disch := omega) only [pk_un, uLn]; exact e' a ha
  · rw [dWa_at (by omega) (by omega), dWa_at (by omega) (by omega)]
    simp (disch := omega) only [pk_un]; exact e2 a b ha hb hab
  · by_cases ew : w = nW' D.1
    · subst ew
      rw [dWa_at (by omega) (by omega), dWa_at (by omega) (by omega), dWa_at (by omega) (by omega), dWa_at (by omega) (by omega)]
      simp (disch := omega) only [pk_un, pk_us, uLs]
      refine ⟨⟨a, ha, rfl⟩, ⟨b, hb, rfl⟩, ⟨e, he1, he, rfl⟩, ⟨v, hv, rfl⟩, fun k hk => ⟨6, by omega, ?_⟩, hl⟩
      rw [dWa_6 (by omega) (by omega)]; rfl
    · obtain ⟨x1, x2, x3, x4, x5, x6⟩ := g w (by omega)
      rw [dWa_at (by omega) (by omega), dWa_at (by omega) (by omega), dWa_at (by omega) (by omega), dWa_at (by omega) (by omega)]
      simp (disch := omega) only [pk_un, uLn]
      refine ⟨x1, x2, x3, x4, fun k hk => ?_, x6⟩
      rw [dWa_at (by omega) (by omega)]
      first | exact x5 k hk | (simp (disch := omega) only [pk_un]; exact x5 k hk)
  · by_cases ei : i < 5 * nW' D.1
    · rw [dWa_at (by omega) (by omega)]; simp (disch := omega) only [pk_un]; exact h2 i ei hf
    · exact dWa_6 (by omega) (by omega)
theorem dLi_ok {i v : Nat} (h : DOk D) (hi : i < 5 * nW' D.1) (hv : v ≤ 12) : DOk (dLi D i v) ∧ nQ (dLi D i v).1 = nQ D.1 ∧ nK (dLi D i v).1 = nK D.1 ∧ nA (dLi D i v).1 = nA D.1 ∧ nW' (dLi D i v).1 = nW' D.1 := by
  have n1 : nQ (dLi D i v).1 = nQ D.1 := by unfold nQ dLi; dsimp only; rw [pk_un (by omega)]
  have n2 : nK (dLi D i v).1 = nK D.1 := by unfold nK dLi; dsimp only; rw [pk_un (by omega)]
  have n3 : nA (dLi D i v).1 = nA D.1 := by unfold nA dLi; dsimp only; rw [pk_un (by omega)]
  have n4 : nW' (dLi D i v).1 = nW' D.1 := by unfold nW' dLi; dsimp only; rw [pk_un (by omega)]
  refine ⟨?_, n1, n2, n3, n4⟩
  obtain ⟨⟨a1, a2, a3, a4, a5, a6, a7, a8, a9, a10, a11⟩, b, c, d, e, e2, g, h1, h2⟩ := h
  unfold DOk
  rw [n1, n2, n3, n4]
  unfold dLi
  dsimp only
  refine ⟨⟨?_, a2, ?_, a4, ?_, a6, ?_, a8, ?_, ?_, ?_⟩, fun q hq' => ?_, fun p q hp hq' ht => ?_, d, fun a ha => ?_, fun a b ha hb hab => ?_, fun w hw => ?_, fun j hj ht => ?_, fun j hj hf => ?_⟩
  · rw [pk_un (by omega)]; exact a1
  · rw [pk_un (by omega)]; exact a3
  · rw [pk_un (by omega)]; exact a5
  · rw [pk_un (by omega)]; exact a7
  · rw [pk_un (by omega)]; exact a9
  · rw [pk_un (by omega)]; exact a10
  · rw [pk_un (by omega)]; exact a11
  · rw [pk_un (by omega)]; exact b q hq'
  · rw [pk_un (by omega)] at ht
    have := c p q hp hq' ht
    rw [pk_un (by omega)]; exact this
  · simp (disch := omega) only [pk_un]; exact e a ha
  · simp (disch := omega) only [pk_un]; exact e2 a b ha hb hab
  · obtain ⟨x1, x2, x3, x4, x5, x6⟩ := g w hw
    simp (disch := omega) only [pk_un]
    refine ⟨x1, x2, x3, x4, fun k hk => ?_, x6⟩
    by_cases ek : 5 * w + k = i
    · rw [show 86 + 5 * w + k = 86 + i by omega, pk_us]; exact ⟨v, hv, rfl⟩
    · rw [pk_un (by omega)]; exact x5 k hk
  · by_cases ej : j = i
    · omega
    · rw [uBn ej] at ht; exact h1 j hj ht
  · by_cases ej : j = i
    · subst ej; rw [uBs] at hf; cases hf
    · rw [uBn ej] at hf; rw [pk_un (by omega)]; exact h2 j hj hf
theorem dAr_ok {v : Nat} (h : DOk D) (h1v : 1 ≤ v) (hv : v ≤ 9) : DOk (dAr D v) ∧ nQ (dAr D v).1 = nQ D.1 ∧ nK (dAr D v).1 = nK D.1 ∧ nA (dAr D v).1 = nA D.1 ∧ nW' (dAr D v).1 = nW' D.1 := by
  have n1 : nQ (dAr D v).1 = nQ D.1 := by unfold nQ dAr; dsimp only; rw [pk_un (by omega)]
  have n2 : nK (dAr D v).1 = nK D.1 := by unfold nK dAr; dsimp only; rw [pk_un (by omega)]
  have n3 : nA (dAr D v).1 = nA D.1 := by unfold nA dAr; dsimp only; rw [pk_un (by omega)]
  have n4 : nW' (dAr D v).1 = nW' D.1 := by unfold nW' dAr; dsimp only; rw [pk_un (by omega)]
  refine ⟨?_, n1, n2, n3, n4⟩
  obtain ⟨⟨a1, a2, a3, a4, a5, a6, a7, a8, a9, a10, a11⟩, b, c, d, e, e2, g, h1, h2⟩ := h
  unfold DOk
  rw [n1, n2, n3, n4]
  unfold dAr
  dsimp only
  refine ⟨⟨?_, a2, ?_, a4, ?_, a6, ?_, a8, ?_, ⟨v, h1v, hv, pk_us⟩, fun q => (by cases q)⟩, fun q hq' => ?_, fun p q hp hq' ht => ?_, d, fun a ha => ?_, fun a b ha hb hab => ?_, fun w hw => ?_, h1, fun j hj hf => ?_⟩
  · rw [pk_un (by omega)]; exact a1
  · rw [pk_un (by omega)]; exact a3
  · rw [pk_un (by omega)]; exact a5
  · rw [pk_un (by omega)]; exact a7
  · rw [pk_un (by omega)]; exact a9
  · rw [pk_un (by omega)]; exact b q hq'
  · rw [pk_un (by omega)] at ht
    have := c p q hp hq' ht
    rw [pk_un (by omega)]; exact this
  · simp (disch := omega) only [pk_un]; exact e a ha
  · simp (disch := omega) only [pk_un]; exact e2 a b ha hb hab
  · obtain ⟨x1, x2, x3, x4, x5, x6⟩ := g w hw
    simp (disch := omega) only [pk_un]
    refine ⟨x1, x2, x3, x4, fun k hk => ?_, x6⟩
    first | exact x5 k hk | (rw [pk_un (by omega)]; exact x5 k hk)
  · rw [pk_un (by omega)]; exact h2 j hj hf
theorem tb_bo {x : Int32} {i j : Nat} (hj : j < 32) (hi : i < 32) : tb (bitOr x j) i = (tb x i || decide (i = j)) := tb_set hj hi
/-- where paths lead behind one more -/
theorem dPa_at {a b p : Nat} (hab : a ≠ b) (hp : p < 8) : (dPa D a b).1 (14 + p) = if p = a then bitOr (D.1 (14 + a)) b else if p = b then bitOr (D.1 (14 + b)) a else D.1 (14 + p) := by
  unfold dPa
  dsimp only
  rw [pk_un (by omega)]
  by_cases e1 : p = b
  · subst e1
    rw [pk_us, if_neg (by omega), if_pos rfl, pk_un (by omega)]
  · rw [pk_un (by omega)]
    by_cases e2 : p = a
    · subst e2; rw [pk_us, if_pos rfl]
    · rw [pk_un (by omega), if_neg e2, if_neg e1]
theorem dPa_o {a b i : Nat} (h : i < 14 ∨ 22 ≤ i) (ha : a < 8) (hb : b < 8) (h1 : i ≠ 1) : (dPa D a b).1 i = D.1 i := by
  unfold dPa
  dsimp only
  simp (disch := omega) only [pk_un]
theorem dPa_ok {a b : Nat} (h : DOk D) (hab : a ≠ b) (ha : a < nQ D.1) (hb : b < nQ D.1) (hne : D.1 1 ≠ 16) : DOk (dPa D a b) ∧ nQ (dPa D a b).1 = nQ D.1 ∧ nK (dPa D a b).1 = nK D.1 ∧ nA (dPa D a b).1 = nA D.1 ∧ nW' (dPa D a b).1 = nW' D.1 := by
  have hQ := h.1.2.1
  have n1 : nQ (dPa D a b).1 = nQ D.1 := by unfold nQ; rw [dPa_o (by omega) (by omega) (by omega) (by omega)]
  have n2 : nK (dPa D a b).1 = nK D.1 := by unfold nK; rw [dPa_o (by omega) (by omega) (by omega) (by omega)]
  have n3 : nA (dPa D a b).1 = nA D.1 := by unfold nA; rw [dPa_o (by omega) (by omega) (by omega) (by omega)]
  have n4 : nW' (dPa D a b).1 = nW' D.1 := by unfold nW'; rw [dPa_o (by omega) (by omega) (by omega) (by omega)]
  refine ⟨?_, n1, n2, n3, n4⟩
  obtain ⟨⟨a1, a2, a3, a4, a5, a6, a7, a8, ⟨v, hv, ev⟩, a10, a11⟩, b', c, d, e, e2, g, h1, h2⟩ := h
  have o : ∀ i, i < 14 ∨ 22 ≤ i → i ≠ 1 → (dPa D a b).1 i = D.1 i := fun i hi h1 => dPa_o hi (by omega) (by omega) h1
  have nm : (dPa D a b).2 = D.2 := rfl
  have hv16 : v ≠ 16 := fun z => hne (by rw [ev, z]; rfl)
  have t : ∀ p i, p < 8 → i < 32 → tb ((dPa D a b).1 (14 + p)) i = (tb (D.1 (14 + p)) i || (decide (p = a ∧ i = b) || decide (p = b ∧ i = a))) := by
    intro p i hp hi
    rw [dPa_at hab hp]
    by_cases e1 : p = a
    · subst e1
      rw [if_pos rfl, tb_bo (by omega) hi]
      have : decide (p = b ∧ i = p) = false := decide_eq_false (fun z => hab z.1)
      rw [this, Bool.or_false]
      simp
    · rw [if_neg e1]
      by_cases e2 : p = b
      · subst e2
        rw [if_pos rfl, tb_bo (by omega) hi]
        simp [e1]
      · rw [if_neg e2]; simp [e1, e2]
  unfold DOk
  rw [n1, n2, n3, n4, nm]
  refine ⟨⟨?_, a2, ?_, a4, ?_, a6, ?_, a8, ⟨v + 1, by omega, ?_⟩, ?_, ?_⟩, fun q hq' => ?_, fun p q hp hq' ht => ?_, d, fun a ha => ?_, fun a b ha hb hab => ?_, fun w hw => ?_, h1, fun j hj hf => ?_⟩
  · rw [o 0 (by omega) (by omega)]; exact a1
  · rw [o 2 (by omega) (by omega)]; exact a3
  · rw [o 3 (by omega) (by omega)]; exact a5
  · rw [o 4 (by omega) (by omega)]; exact a7
  · unfold dPa; dsimp only; rw [pk_us, ev, nI_1]
  · rw [o 5 (by omega) (by omega)]; exact a10
  · rw [o 5 (by omega) (by omega)]; exact a11
  · rw [o _ (by omega) (by omega)]; exact b' q hq'
  · rw [t p q hp hq'] at ht
    have base : p < nQ D.1 ∧ q < nQ D.1 ∧ (tb (D.1 (14 + q)) p || (decide (q = a ∧ p = b) || decide (q = b ∧ p = a))) = true := by
      rcases Bool.or_eq_true _ _ ▸ ht with z | z
      · obtain ⟨y1, y2, y3⟩ := c p q hp hq' z
        exact ⟨y1, y2, by rw [y3]; rfl⟩
      · rcases Bool.or_eq_true _ _ ▸ z with z | z
        · have z := of_decide_eq_true z
          exact ⟨by omega, by omega, by rw [decide_eq_true (show q = b ∧ p = a by omega)]; simp⟩
        · have z := of_decide_eq_true z
          exact ⟨by omega, by omega, by rw [decide_eq_true (show q = a ∧ p = b by omega)]; simp⟩
    refine ⟨base.1, base.2.1, ?_⟩
    rw [t q p (by omega) (by omega)]
    exact base.2.2
  · rw [o _ (by omega) (by omega), o _ (by omega) (by omega), o _ (by omega) (by omega)]; exact e a ha
  · rw [o _ (by omega) (by omega), o _ (by omega) (by omega)]; exact e2 a b ha hb hab
  · obtain ⟨x1, x2, x3, x4, x5, x6⟩ := g w hw
    rw [o _ (by omega) (by omega), o _ (by omega) (by omega), o _ (by omega) (by omega), o _ (by omega) (by omega)]
    refine ⟨x1, x2, x3, x4, fun k hk => ?_, x6⟩
    rw [o _ (by omega) (by omega)]; exact x5 k hk
  · rw [o _ (by omega) (by omega)]; exact h2 j hj hf
end DOkS
