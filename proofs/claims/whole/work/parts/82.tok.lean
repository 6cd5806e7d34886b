/-! the tokens of a text, as functions -/
def isLt (c : Nat) : Bool := decide (97 ≤ c) && decide (c ≤ 122)
def isDg (c : Nat) : Bool := decide (48 ≤ c) && decide (c ≤ 57)
def isLD (c : Nat) : Bool := isLt c || isDg c
def isBl (c : Nat) : Bool := c == 32 || c == 10
def isSg (c : Nat) : Bool := c == 59 || c == 60 || c == 61 || c == 62 || c == 40 || c == 41
def skN (f : Nat → Nat) : Nat → Nat → Nat
  | 0, p => p
  | k + 1, p => if isBl (f p) then skN f k (p + 1) else p
def sk (f : Nat → Nat) (n p : Nat) : Nat := skN f (n - p) p
def lsN (f : Nat → Nat) : Nat → Nat → List Nat
  | 0, _ => []
  | k + 1, p => if isLD (f p) then f p :: lsN f k (p + 1) else []
def rb (f : Nat → Nat) (n p : Nat) : List Nat := lsN f (n - p) p
def eB (b : Nat) (l : List Nat) : Nat := l.foldl (fun v x => b * v + x) 0
def l96 (b : List Nat) : List Nat := b.map (fun c => c - 96)
def num (b : List Nat) : Nat := eB 10 (b.map (fun c => c - 48))
/-- at, kind, value, letters, where the next one begins -/
abbrev RDS : Type := Nat × Nat × Nat × List Nat × Nat
def tokF (f : Nat → Nat) (n m s : Nat) : RDS :=
  if m < n ∧ m ≤ s then (m, 1, 0, [], s)
  else if n ≤ s then (s, 0, 0, [], s)
  else if isLD (f s) then
    (if (rb f n s).all isLt ∧ (rb f n s).length ≤ 7 then (s, 2, 0, l96 (rb f n s), sk f n (s + (rb f n s).length))
    else if (rb f n s).all isDg ∧ (rb f n s).length ≤ 3 then (s, 3, num (rb f n s), [], sk f n (s + (rb f n s).length))
    else (s, 1, 0, [], sk f n (s + (rb f n s).length)))
  else if isSg (f s) then (s, 4, f s, [], sk f n (s + 1)) else (s, 1, 0, [], sk f n (s + 1))
def wix (l : List Nat) : Nat := wrds.idxOf l
def ty (ρ : RDS) : Nat := if ρ.2.1 = 0 then 0 else if ρ.2.1 = 1 then 1 else if ρ.2.1 = 2 then (if wix ρ.2.2.2.1 < 24 then 3 else 2) else if ρ.2.1 = 3 then 4 else 5
/-- letters of a name -/
def lOk (l : List Nat) : Prop := 1 ≤ l.length ∧ l.length ≤ 7 ∧ ∀ x ∈ l, 1 ≤ x ∧ x ≤ 26
theorem eB_app {b : Nat} {l : List Nat} {x : Nat} : eB b (l ++ [x]) = b * eB b l + x := by
  unfold eB
  rw [List.foldl_append]
  rfl
theorem app_ind {P : List Nat → Prop} (h0 : P []) (hs : ∀ l x, P l → P (l ++ [x])) : ∀ l, P l := by
  have : ∀ n (l : List Nat), l.length = n → P l := by
    intro n
    induction n with
    | zero =>
      intro l hl
      rw [List.length_eq_zero_iff.mp hl]; exact h0
    | succ n ih =>
      intro l hl
      have hne : l ≠ [] := by
        rintro rfl
        simp at hl
      rw [← List.dropLast_concat_getLast hne]
      exact hs _ _ (ih _ (by rw [List.length_dropLast, hl]; rfl))
  exact fun l => this _ l rfl
theorem eB_inj {b : Nat} (hb : 27 ≤ b) : ∀ l l' : List Nat, (∀ x ∈ l, 1 ≤ x ∧ x ≤ 26) → (∀ x ∈ l', 1 ≤ x ∧ x ≤ 26) → eB b l = eB b l' → l = l' := by
  refine app_ind ?_ ?_
  · refine app_ind (fun _ _ _ => rfl) ?_
    intro l' x _ _ h e
    have hx := h x (by simp)
    rw [eB_app] at e
    have : eB b [] = 0 := rfl
    omega
  · intro l x ih
    refine app_ind ?_ ?_
    · intro h _ e
      have hx := h x (by simp)
      rw [eB_app] at e
      have : eB b [] = 0 := rfl
      omega
    · intro l' y _ h h' e
      have hx := h x (by simp)
      have hy := h' y (by simp)
      rw [eB_app, eB_app] at e
      have e1 : x = y := by
        have h1 := congrArg (fun z => z % b) e
        simp only [Nat.mul_add_mod] at h1
        rwa [Nat.mod_eq_of_lt (by omega), Nat.mod_eq_of_lt (by omega)] at h1
      subst e1
      have e2 : eB b l = eB b l' := Nat.eq_of_mul_eq_mul_left (show 0 < b by omega) (by omega)
      rw [ih l' (fun z hz => h z (by simp [hz])) (fun z hz => h' z (by simp [hz])) e2]
theorem eB_lt {b : Nat} : ∀ l : List Nat, (∀ x ∈ l, x < b) → eB b l < b ^ l.length := by
  refine app_ind (fun _ => by simp [eB]) ?_
  intro l x ih h
  have hx := h x (by simp)
  have := ih (fun z hz => h z (by simp [hz]))
  rw [eB_app, List.length_append, List.length_singleton, Nat.pow_succ]
  have h2 : b * eB b l + b ≤ b * b ^ l.length := by
    rw [← Nat.mul_succ]
    exact Nat.mul_le_mul_left _ this
  rw [Nat.mul_comm (b ^ l.length)]
  omega
theorem e5_app {l : List Nat} {x : Nat} : e5 (l ++ [x]) = 32 * e5 l + x := eB_app
theorem e27_app {l : List Nat} {x : Nat} : e27 (l ++ [x]) = 27 * e27 l + x := eB_app
theorem e5_eq (l : List Nat) : e5 l = eB 32 l := rfl
theorem e27_eq (l : List Nat) : e27 l = eB 27 l := rfl
theorem e5_lt {l : List Nat} (h : lOk l) : e5 l < 2 ^ 35 := by
  have := eB_lt (b := 32) l (fun x hx => by have := h.2.2 x hx; omega)
  rw [e5_eq]
  refine Nat.lt_of_lt_of_le this ?_
  exact Nat.le_trans (Nat.pow_le_pow_right (by omega) h.2.1) (by decide)
theorem e27_lt {l : List Nat} (h : lOk l) : e27 l < 2 ^ 35 := by
  have := eB_lt (b := 27) l (fun x hx => by have := h.2.2 x hx; omega)
  rw [e27_eq]
  refine Nat.lt_of_lt_of_le this ?_
  exact Nat.le_trans (Nat.pow_le_pow_right (by omega) h.2.1) (by decide)
theorem e5_iff {l l' : List Nat} (h : lOk l) (h' : lOk l') : lN (e5 l) = lN (e5 l') ↔ l = l' := by
  have h1 := e5_lt h
  have h2 := e5_lt h'
  rw [pk_lEQ (by omega) (by omega)]
  exact ⟨eB_inj (by omega) l l' h.2.2 h'.2.2, fun e => by rw [e]⟩
theorem e27_iff {l l' : List Nat} (h : lOk l) (h' : lOk l') : lN (e27 l) = lN (e27 l') ↔ l = l' := by
  have h1 := e27_lt h
  have h2 := e27_lt h'
  rw [pk_lEQ (by omega) (by omega)]
  exact ⟨eB_inj (by omega) l l' h.2.2 h'.2.2, fun e => by rw [e]⟩
theorem wrds_ok : ∀ k, k < 24 → lOk (wrds.getD k []) := by unfold lOk; decide
theorem wrds_ix : ∀ k, k < 24 → wrds.idxOf (wrds.getD k []) = k := by decide
theorem wix_iff {l : List Nat} {k : Nat} (hk : k < 24) : wix l = k ↔ wrds.getD k [] = l := by
  constructor
  · intro h
    have hl : wrds.idxOf l < wrds.length := by
      unfold wix at h
      rw [h]; exact hk
    have := List.getElem_idxOf hl
    have e2 : wrds.getD k [] = wrds[wrds.idxOf l] := by
      have hk' : k < wrds.length := hk
      have e3 : wrds.idxOf l = k := h
      simp only [e3]
      simp [List.getD, hk']
    rw [e2, this]
  · intro h
    unfold wix
    rw [← h]
    exact wrds_ix k hk
theorem tk_rb {f : Nat → Nat} {n s : Nat} (hs : s < n) (h : isLD (f s) = true) : rb f n s = f s :: rb f n (s + 1) := by
  unfold rb
  rw [show n - s = (n - (s + 1)) + 1 by omega, lsN, if_pos h]
theorem rb_nil {f : Nat → Nat} {n s : Nat} (h : n ≤ s ∨ isLD (f s) = false) : rb f n s = [] := by
  unfold rb
  by_cases hs : n ≤ s
  · rw [show n - s = 0 by omega]; rfl
  · rw [show n - s = (n - (s + 1)) + 1 by omega, lsN, if_neg]
    rcases h with h | h
    · exact absurd h hs
    · rw [h]; decide
theorem sk_bl {f : Nat → Nat} {n p : Nat} (hp : p < n) (h : isBl (f p) = true) : sk f n p = sk f n (p + 1) := by
  unfold sk
  rw [show n - p = (n - (p + 1)) + 1 by omega, skN, if_pos h]
theorem sk_st {f : Nat → Nat} {n p : Nat} (h : n ≤ p ∨ isBl (f p) = false) : sk f n p = p := by
  unfold sk
  by_cases hp : n ≤ p
  · rw [show n - p = 0 by omega]; rfl
  · rw [show n - p = (n - (p + 1)) + 1 by omega, skN, if_neg]
    rcases h with h | h
    · exact absurd h hp
    · rw [h]; decide
theorem sk_le {f : Nat → Nat} {n : Nat} : ∀ k p, p + k = n → p ≤ sk f n p ∧ sk f n p ≤ n := by
  intro k
  induction k with
  | zero =>
    intro p hp
    rw [sk_st (Or.inl (by omega))]; omega
  | succ k ih =>
    intro p hp
    cases h : isBl (f p)
    · rw [sk_st (Or.inr h)]; omega
    · rw [sk_bl (by omega) h]
      have := ih (p + 1) (by omega)
      omega
theorem sk_le' {f : Nat → Nat} {n p : Nat} (h : p ≤ n) : p ≤ sk f n p ∧ sk f n p ≤ n := sk_le (n - p) p (by omega)
theorem rb_le {f : Nat → Nat} {n : Nat} : ∀ k p, p + k = n → p + (rb f n p).length ≤ n ∧ ∀ x ∈ rb f n p, isLD x = true := by
  intro k
  induction k with
  | zero =>
    intro p hp
    rw [rb_nil (Or.inl (by omega))]
    exact ⟨by simpa using (by omega : p ≤ n), fun x hx => by cases hx⟩
  | succ k ih =>
    intro p hp
    cases h : isLD (f p)
    · rw [rb_nil (Or.inr h)]
      exact ⟨by simpa using (by omega : p ≤ n), fun x hx => by cases hx⟩
    · rw [tk_rb (by omega) h]
      obtain ⟨h1, h2⟩ := ih (p + 1) (by omega)
      refine ⟨by rw [List.length_cons]; omega, fun x hx => ?_⟩
      rcases List.mem_cons.mp hx with rfl | hx
      · exact h
      · exact h2 x hx
theorem rb_le' {f : Nat → Nat} {n p : Nat} (h : p ≤ n) : p + (rb f n p).length ≤ n ∧ ∀ x ∈ rb f n p, isLD x = true := rb_le (n - p) p (by omega)
theorem isLt_b {c : Nat} : isLt c = true ↔ 97 ≤ c ∧ c ≤ 122 := by simp [isLt]
theorem isDg_b {c : Nat} : isDg c = true ↔ 48 ≤ c ∧ c ≤ 57 := by simp [isDg]
theorem isSg_b {c : Nat} (h : isSg c = true) : c < 256 := by
  simp [isSg] at h
  omega
/-- what a token is -/
def tkOk (ρ : RDS) (n : Nat) : Prop := ρ.1 ≤ 940 ∧ ρ.2.1 ≤ 4 ∧ ρ.2.2.1 ≤ 999 ∧ (ρ.2.1 = 2 → lOk ρ.2.2.2.1) ∧ ρ.2.2.2.2 ≤ n
theorem num_lt {b : List Nat} (h : b.all isDg = true) (hl : b.length ≤ 3) : num b ≤ 999 := by
  unfold num
  have := eB_lt (b := 10) (b.map (fun c => c - 48)) (fun x hx => by
    obtain ⟨c, hc, rfl⟩ := List.mem_map.mp hx
    have := isDg_b.mp (List.all_eq_true.mp h c hc)
    omega)
  rw [List.length_map] at this
  have h2 : (10 : Nat) ^ b.length ≤ 10 ^ 3 := Nat.pow_le_pow_right (by omega) hl
  have h3 : (10 : Nat) ^ 3 = 1000 := by decide
  omega
theorem l96_ok {b : List Nat} (h : b.all isLt = true) (h1 : 1 ≤ b.length) (hl : b.length ≤ 7) : lOk (l96 b) := by
  unfold l96
  refine ⟨by rw [List.length_map]; exact h1, by rw [List.length_map]; exact hl, fun x hx => ?_⟩
  obtain ⟨c, hc, rfl⟩ := List.mem_map.mp hx
  have := isLt_b.mp (List.all_eq_true.mp h c hc)
  omega
theorem tokF_ok {f : Nat → Nat} {n m s : Nat} (hs : s ≤ n) (hn : n ≤ 940) (hm : m ≤ 940) : tkOk (tokF f n m s) n := by
  unfold tokF
  have hr := rb_le' (f := f) hs
  by_cases h1 : m < n ∧ m ≤ s
  · rw [if_pos h1]; exact ⟨hm, by show 1 ≤ 4; omega, by show 0 ≤ 999; omega, (fun q => by cases q), hs⟩
  · rw [if_neg h1]
    by_cases h2 : n ≤ s
    · rw [if_pos h2]; exact ⟨by show s ≤ 940; omega, by show 0 ≤ 4; omega, by show 0 ≤ 999; omega, (fun q => by cases q), hs⟩
    · rw [if_neg h2]
      by_cases h3 : isLD (f s) = true
      · rw [if_pos h3]
        have hk := (sk_le' (f := f) hr.1).2
        by_cases h4 : (rb f n s).all isLt = true ∧ (rb f n s).length ≤ 7
        · rw [if_pos h4]
          refine ⟨by show s ≤ 940; omega, by show 2 ≤ 4; omega, by show 0 ≤ 999; omega, fun _ => l96_ok h4.1 ?_ h4.2, hk⟩
          rw [tk_rb (by omega) h3, List.length_cons]; omega
        · rw [if_neg h4]
          by_cases h5 : (rb f n s).all isDg = true ∧ (rb f n s).length ≤ 3
          · rw [if_pos h5]; exact ⟨by show s ≤ 940; omega, by show 3 ≤ 4; omega, num_lt h5.1 h5.2, (fun q => by cases q), hk⟩
          · rw [if_neg h5]; exact ⟨by show s ≤ 940; omega, by show 1 ≤ 4; omega, by show 0 ≤ 999; omega, (fun q => by cases q), hk⟩
      · rw [if_neg h3]
        have hk := (sk_le' (f := f) (show s + 1 ≤ n by omega)).2
        by_cases h4 : isSg (f s) = true
        · rw [if_pos h4]
          have := isSg_b h4
          exact ⟨by show s ≤ 940; omega, by show 4 ≤ 4; omega, by show f s ≤ 999; omega, (fun q => by cases q), hk⟩
        · rw [if_neg h4]; exact ⟨by show s ≤ 940; omega, by show 1 ≤ 4; omega, by show 0 ≤ 999; omega, (fun q => by cases q), hk⟩
/-! what the loops make of the letters and digits -/
def nmS (v : Int64) (c : Nat) : Int64 := (v <<< ((5 : Int32).toInt64 &&& 63)) + (((nI c - (97 : Int32)) + (1 : Int32)).toInt64)
theorem jN_add (a b : Nat) : lN a + lN b = lN (a + b) := (Int64.ofNat_add a b).symm
theorem jN_mul (a b : Nat) : lN a * lN b = lN (a * b) := (Int64.ofNat_mul a b).symm
theorem jN_sub {a b : Nat} (h : b ≤ a) : lN a - lN b = lN (a - b) := by
  have e : lN (a - b) + lN b = lN a := by rw [jN_add, Nat.sub_add_cancel h]
  rw [← e]
  simp
theorem jN_i {n : Nat} (h : n < 2 ^ 31) : (nI n).toInt64 = lN n := Int64.toInt_inj.mp (by rw [Int32.toInt_toInt64, nI_toInt h, pk_lT (by omega)])
theorem lN_shl {a : Nat} (h : a < 2 ^ 40) : lN a <<< ((5 : Int32).toInt64 &&& 63) = lN (32 * a) := by
  apply Int64.toBitVec_inj.mp
  rw [show ((5 : Int32).toInt64 &&& 63) = 5 by decide]
  rw [Int64.toBitVec_shiftLeft]
  show BitVec.ofNat 64 a <<< (Int64.toBitVec 5).smod 64 = BitVec.ofNat 64 (32 * a)
  rw [show ((5 : Int64).toBitVec.smod 64) = 5#64 by decide]
  apply BitVec.eq_of_toNat_eq
  rw [BitVec.shiftLeft_eq', BitVec.toNat_shiftLeft, BitVec.toNat_ofNat, BitVec.toNat_ofNat, Nat.shiftLeft_eq]
  rw [BitVec.toNat_ofNat, Nat.mod_eq_of_lt (show a < 2 ^ 64 by omega), show (5 % 2 ^ 64 : Nat) = 5 by decide, Nat.mul_comm]
theorem nmS_eq {a c : Nat} (ha : a < 2 ^ 40) (h1 : 97 ≤ c) (h2 : c ≤ 122) : nmS (lN a) c = lN (32 * a + (c - 96)) := by
  unfold nmS
  rw [lN_shl ha, show nI c - (97 : Int32) = nI (c - 97) from pk_sub (b := 97) h1, nI_1, jN_i (by omega), jN_add, show c - 97 + 1 = c - 96 by omega]
def nmC (l : List Nat) : Int64 := l.foldl (fun v c => if isLt c then nmS v c else v) (lN 0)
def vlC (l : List Nat) : Int32 := l.foldl (fun v c => if isLt c then v else v * 10 + nI c - 48) 0
def wdM (l : List Nat) : Int64 := (l.take 7).foldl (fun v c => lN 27 * v + (nI c).toInt64 - lN 96) (lN 0)
def nbM (l : List Nat) : Int32 := (l.take 3).foldl (fun v c => 10 * v + nI c - 48) 0
theorem nmC_app {l : List Nat} {c : Nat} : nmC (l ++ [c]) = if isLt c then nmS (nmC l) c else nmC l := by
  unfold nmC
  rw [List.foldl_append]
  rfl
theorem vlC_app {l : List Nat} {c : Nat} : vlC (l ++ [c]) = if isLt c then vlC l else vlC l * 10 + nI c - 48 := by
  unfold vlC
  rw [List.foldl_append]
  rfl
theorem wdM_app {l : List Nat} {c : Nat} : wdM (l ++ [c]) = if l.length < 7 then lN 27 * wdM l + (nI c).toInt64 - lN 96 else wdM l := by
  unfold wdM
  by_cases h : l.length < 7
  · rw [if_pos h, List.take_of_length_le (by rw [List.length_append, List.length_singleton]; omega), List.take_of_length_le (by omega), List.foldl_append]
    rfl
  · rw [if_neg h, List.take_append_of_le_length (by omega)]
theorem nbM_app {l : List Nat} {c : Nat} : nbM (l ++ [c]) = if l.length < 3 then 10 * nbM l + nI c - 48 else nbM l := by
  unfold nbM
  by_cases h : l.length < 3
  · rw [if_pos h, List.take_of_length_le (by rw [List.length_append, List.length_singleton]; omega), List.take_of_length_le (by omega), List.foldl_append]
    rfl
  · rw [if_neg h, List.take_append_of_le_length (by omega)]
theorem l96_app {l : List Nat} {c : Nat} : l96 (l ++ [c]) = l96 l ++ [c - 96] := by simp [l96]
theorem num_app {l : List Nat} {c : Nat} : num (l ++ [c]) = 10 * num l + (c - 48) := by
  unfold num
  rw [List.map_append]
  exact eB_app
theorem nm_eq : ∀ l : List Nat, l.all isLt = true → l.length ≤ 7 → nmC l = lN (e5 (l96 l)) ∧ wdM l = lN (e27 (l96 l)) := by
  refine app_ind (fun _ _ => ⟨rfl, rfl⟩) ?_
  intro l c ih h hl
  rw [List.all_append, Bool.and_eq_true] at h
  have hc : isLt c = true := by simpa using h.2
  obtain ⟨c1, c2⟩ := isLt_b.mp hc
  rw [List.length_append, List.length_singleton] at hl
  obtain ⟨e1, e2⟩ := ih h.1 (by omega)
  have hb : e5 (l96 l) < 2 ^ 35 ∧ e27 (l96 l) < 2 ^ 35 := by
    by_cases h0 : 1 ≤ l.length
    · have := l96_ok h.1 h0 (by omega)
      exact ⟨e5_lt this, e27_lt this⟩
    · rw [List.length_eq_zero_iff.mp (show l.length = 0 by omega)]
      decide
  rw [nmC_app, wdM_app, if_pos hc, if_pos (by omega), e1, e2, l96_app, nmS_eq (by omega) c1 c2, e5_app, e27_app, jN_i (by omega), jN_mul, jN_add, jN_sub (by omega)]
  refine ⟨rfl, ?_⟩
  congr 1
  omega
theorem nb_eq : ∀ l : List Nat, l.all isDg = true → l.length ≤ 3 → vlC l = nI (num l) ∧ nbM l = nI (num l) := by
  refine app_ind (fun _ _ => ⟨rfl, rfl⟩) ?_
  intro l c ih h hl
  rw [List.all_append, Bool.and_eq_true] at h
  have hc : isDg c = true := by simpa using h.2
  obtain ⟨c1, c2⟩ := isDg_b.mp hc
  rw [List.length_append, List.length_singleton] at hl
  obtain ⟨e1, e2⟩ := ih h.1 (by omega)
  have hn := num_lt h.1 (by omega)
  have hcl : isLt c = false := by
    cases q : isLt c
    · rfl
    · have := isLt_b.mp q; omega
  rw [vlC_app, nbM_app, hcl, if_neg (by decide), if_pos (by omega), e1, e2, num_app, lt1, lt2, nI_add, show nI (10 * num l + c) - (48 : Int32) = nI (10 * num l + c - 48) from pk_sub (b := 48) (by omega), show 10 * num l + c - 48 = 10 * num l + (c - 48) by omega]
  exact ⟨rfl, rfl⟩
