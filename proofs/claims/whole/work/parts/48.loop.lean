/-! loops up to n; rows of memory -/
theorem lup {n : Nat} {W : Nat → Prop} (h : ∀ j, j ≤ n → (j < n → W (j + 1)) → W j) : W 0 := by
  have : ∀ k j, j + k = n → W j := by
    intro k
    induction k with
    | zero => exact fun j hj => h j (by omega) (fun q => absurd q (by omega))
    | succ k ih => exact fun j hj => h j (by omega) (fun _ => ih (j + 1) (by omega))
  exact this n 0 (by omega)
theorem lupR {σ : Type} {n : Nat} {W I : Nat → σ → Prop} (h : ∀ j s, j ≤ n → I j s → (j < n → ∀ s', I (j + 1) s' → W (j + 1) s') → W j s) : ∀ s, I 0 s → W 0 s := by
  have : ∀ k j, j + k = n → ∀ s, I j s → W j s := by
    intro k
    induction k with
    | zero => exact fun j hj s hs => h j s (by omega) hs (fun q => absurd q (by omega))
    | succ k ih => exact fun j hj s hs => h j s (by omega) hs (fun _ => ih (j + 1) (by omega))
  exact this n 0 (by omega)
/-- the model's day: its row now, its row tires, seed, seen -/
abbrev DS : Type := (Nat → Int32) × (Nat → Int32) × Int32 × Int32
def md (u : Mm) (s t : Nat → Int32) (sd sn : Int32) : Mm := (fun b k => if b = 236 then s k else if b = 247 then t k else if b = 234 ∧ k = 27 then sd else if b = 234 ∧ k = 28 then sn else u.1 b k, u.2)
theorem md_at (u : Mm) (s t : Nat → Int32) (sd sn : Int32) (b k : Nat) : (md u s t sd sn).1 b k = if b = 236 then s k else if b = 247 then t k else if b = 234 ∧ k = 27 then sd else if b = 234 ∧ k = 28 then sn else u.1 b k := rfl
theorem mm_ext {u v : Mm} (h1 : ∀ b k, u.1 b k = v.1 b k) (h2 : u.2 = v.2) : u = v := Prod.ext (funext fun b => funext fun k => h1 b k) h2
theorem md_s (u : Mm) (s t : Nat → Int32) (sd sn : Int32) (j : Nat) (x : Int32) : mI (md u s t sd sn) 236 j x = md u (upd s j x) t sd sn := by
  refine mm_ext (fun b k => ?_) rfl
  simp only [mI_at, md_at, upd]
  grind
theorem md_t (u : Mm) (s t : Nat → Int32) (sd sn : Int32) (j : Nat) (x : Int32) : mI (md u s t sd sn) 247 j x = md u s (upd t j x) sd sn := by
  refine mm_ext (fun b k => ?_) rfl
  simp only [mI_at, md_at, upd]
  grind
theorem md_sd (u : Mm) (s t : Nat → Int32) (sd sn : Int32) (x : Int32) : mI (md u s t sd sn) 234 27 x = md u s t x sn := by
  refine mm_ext (fun b k => ?_) rfl
  simp only [mI_at, md_at]
  grind
theorem md_sn (u : Mm) (s t : Nat → Int32) (sd sn : Int32) (x : Int32) : mI (md u s t sd sn) 234 28 x = md u s t sd x := by
  refine mm_ext (fun b k => ?_) rfl
  simp only [mI_at, md_at]
  grind
theorem md_eta (u : Mm) : md u (u.1 236) (u.1 247) (u.1 234 27) (u.1 234 28) = u := by
  refine mm_ext (fun b k => ?_) rfl
  rw [md_at]
  grind
/-- a life of the system: its own fields (row 0) and its eight rows -/
def lm (u : Mm) (L : Nat) (l : Nat → Nat → Int32) : Mm := (fun b k => if L ≤ b ∧ b ≤ L + 8 then l (b - L) k else u.1 b k, u.2)
def upd2 (l : Nat → Nat → Int32) (c j : Nat) (x : Int32) : Nat → Nat → Int32 := fun b k => if b = c ∧ k = j then x else l b k
theorem lm_at (u : Mm) (L : Nat) (l : Nat → Nat → Int32) (b k : Nat) : (lm u L l).1 b k = if L ≤ b ∧ b ≤ L + 8 then l (b - L) k else u.1 b k := rfl
theorem upd2_at (l : Nat → Nat → Int32) (c j : Nat) (x : Int32) (b k : Nat) : upd2 l c j x b k = if b = c ∧ k = j then x else l b k := rfl
theorem upd_at (f : Nat → Int32) (j : Nat) (x : Int32) (k : Nat) : upd f j x k = if k = j then x else f k := rfl
theorem lm_w {u : Mm} {L : Nat} {l : Nat → Nat → Int32} {b j : Nat} {x : Int32} (h1 : L ≤ b) (h2 : b ≤ L + 8) : mI (lm u L l) b j x = lm u L (upd2 l (b - L) j x) := by
  refine mm_ext (fun c k => ?_) rfl
  simp only [mI_at, lm_at, upd2_at]
  grind
theorem lm_eta (u : Mm) (L : Nat) : lm u L (fun c => u.1 (L + c)) = u := by
  refine mm_ext (fun c k => ?_) rfl
  rw [lm_at]
  split
  · rename_i h
    show u.1 (L + (c - L)) k = _
    rw [show L + (c - L) = c by omega]
  · rfl
theorem la1 (n m : Nat) : (no_index (OfNat.ofNat n) : Int32) + nI m = nI ((OfNat.ofNat n : Nat) + m) := nI_add n m
theorem la2 (n m : Nat) : nI m + (no_index (OfNat.ofNat n) : Int32) = nI (m + (OfNat.ofNat n : Nat)) := nI_add m n
theorem lt1 (n m : Nat) : (no_index (OfNat.ofNat n) : Int32) * nI m = nI ((OfNat.ofNat n : Nat) * m) := pk_mul n m
theorem lt2 (n m : Nat) : nI m * (no_index (OfNat.ofNat n) : Int32) = nI ((OfNat.ofNat n : Nat) * m) := (pk_mul m n).trans (by rw [Nat.mul_comm]; rfl)
theorem ll1 {n m : Nat} (h1 : m < 2 ^ 31) (h2 : (OfNat.ofNat n : Nat) < 2 ^ 31) : nI m ≤ (no_index (OfNat.ofNat n) : Int32) ↔ m ≤ (OfNat.ofNat n : Nat) := nI_leI h1 h2
theorem ll2 {n m : Nat} (h1 : m < 2 ^ 31) (h2 : (OfNat.ofNat n : Nat) < 2 ^ 31) : (no_index (OfNat.ofNat n) : Int32) ≤ nI m ↔ (OfNat.ofNat n : Nat) ≤ m := nI_leI h2 h1
theorem ll3 {n m : Nat} (h1 : m < 2 ^ 31) (h2 : (OfNat.ofNat n : Nat) < 2 ^ 31) : nI m < (no_index (OfNat.ofNat n) : Int32) ↔ m < (OfNat.ofNat n : Nat) := nI_ltI h1 h2
theorem ll4 {n m : Nat} (h1 : m < 2 ^ 31) (h2 : (OfNat.ofNat n : Nat) < 2 ^ 31) : (no_index (OfNat.ofNat n) : Int32) < nI m ↔ (OfNat.ofNat n : Nat) < m := nI_ltI h2 h1
theorem le1 {n m : Nat} (h1 : m < 2 ^ 31) (h2 : (OfNat.ofNat n : Nat) < 2 ^ 31) : nI m = (no_index (OfNat.ofNat n) : Int32) ↔ m = (OfNat.ofNat n : Nat) := nI_eq h1 h2
theorem le2 {n m : Nat} (h1 : m < 2 ^ 31) (h2 : (OfNat.ofNat n : Nat) < 2 ^ 31) : (no_index (OfNat.ofNat n) : Int32) = nI m ↔ (OfNat.ofNat n : Nat) = m := nI_eq h2 h1
theorem md_236 (u : Mm) (s t : Nat → Int32) (sd sn : Int32) : (md u s t sd sn).1 236 = s := rfl
theorem md_247 (u : Mm) (s t : Nat → Int32) (sd sn : Int32) : (md u s t sd sn).1 247 = t := rfl
theorem md_27 (u : Mm) (s t : Nat → Int32) (sd sn : Int32) : (md u s t sd sn).1 234 27 = sd := rfl
theorem md_28 (u : Mm) (s t : Nat → Int32) (sd sn : Int32) : (md u s t sd sn).1 234 28 = sn := rfl
theorem md_o {u : Mm} {s t : Nat → Int32} {sd sn : Int32} {b : Nat} (h1 : b ≠ 236) (h2 : b ≠ 247) (h3 : b ≠ 234) : (md u s t sd sn).1 b = u.1 b := by
  funext k
  rw [md_at, if_neg h1, if_neg h2, if_neg (fun q => h3 q.1), if_neg (fun q => h3 q.1)]
theorem lm_in {u : Mm} {L : Nat} {l : Nat → Nat → Int32} {b : Nat} (h1 : L ≤ b) (h2 : b ≤ L + 8) : (lm u L l).1 b = l (b - L) := by
  funext k
  rw [lm_at, if_pos ⟨h1, h2⟩]
theorem lm_o {u : Mm} {L : Nat} {l : Nat → Nat → Int32} {b : Nat} (h1 : b < L ∨ L + 8 < b) : (lm u L l).1 b = u.1 b := by
  funext k
  rw [lm_at, if_neg (by omega)]
theorem u2s {l : Nat → Nat → Int32} {c j : Nat} {x : Int32} : upd2 l c j x c j = x := if_pos ⟨rfl, rfl⟩
theorem u2n {l : Nat → Nat → Int32} {c j b k : Nat} {x : Int32} (h : ¬ (b = c ∧ k = j)) : upd2 l c j x b k = l b k := if_neg h
theorem u2r {l : Nat → Nat → Int32} {c j b : Nat} {x : Int32} (h : b ≠ c) : upd2 l c j x b = l b := funext fun k => if_neg fun q => h q.1
theorem b01 : ((1 : Int32) = 0) = False := by simp
theorem b10 : ((0 : Int32) = 1) = False := by simp
theorem u2u {l : Nat → Nat → Int32} {c j : Nat} {x y : Int32} : upd2 (upd2 l c j x) c j y = upd2 l c j y := by
  funext b k
  simp only [upd2_at]
  split <;> rfl
theorem mI_s {u : Mm} {a j : Nat} {x : Int32} : (mI u a j x).1 a j = x := if_pos ⟨rfl, rfl⟩
theorem mI_n {u : Mm} {a j b k : Nat} {x : Int32} (h : ¬ (b = a ∧ k = j)) : (mI u a j x).1 b k = u.1 b k := if_neg h
theorem mI_r {u : Mm} {a j b : Nat} {x : Int32} (h : b ≠ a) : (mI u a j x).1 b = u.1 b := funext fun k => if_neg fun q => h q.1
