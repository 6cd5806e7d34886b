/-! THE RELATION between the system (cells 0 to 233) and the model (cells 234 to 260): g is the model's row 'now', s the part of it that acts and days change -/
def nQ (g : Nat → Int32) : Nat := (g 0).toNatClampNeg
def nK (g : Nat → Int32) : Nat := (g 2).toNatClampNeg
def nA (g : Nat → Int32) : Nat := (g 3).toNatClampNeg
def nW' (g : Nat → Int32) : Nat := (g 4).toNatClampNeg
def nLen (g : Nat → Int32) (w : Nat) : Nat := (g (126 + w)).toNatClampNeg
/-- the first below n of which p holds, as the methods tell it -/
def fstI (p : Nat → Bool) : Nat → Int32
  | 0 => -1
  | n + 1 => if fstI p n = -1 then (if p n then nI n else -1) else fstI p n
def stAt (g s : Nat → Int32) (q : Int32) : Int32 := fstI (fun a => decide (s (210 + a) = q)) (nA g)
/-- a walker comes by a square -/
def cm (g : Nat → Int32) (w : Nat) (q : Int32) : Bool := (List.range (nLen g w)).any (fun i => decide (g (134 + 8 * w + i) = q))
/-- a name in five bits a letter, and by 27 -/
def e5 (l : List Nat) : Nat := l.foldl (fun v x => 32 * v + x) 0
def e27 (l : List Nat) : Nat := l.foldl (fun v x => 27 * v + x) 0
def nameR (c m : Int64) : Prop := ∃ l : List Nat, 1 ≤ l.length ∧ l.length ≤ 7 ∧ (∀ x ∈ l, 1 ≤ x ∧ x ≤ 26) ∧ c = lN (e5 l) ∧ m = lN (e27 l)
/-- what a city's row holds is in its bounds -/
def HeadOk (g : Nat → Int32) : Prop :=
  (g 0 = nI (nQ g) ∧ nQ g ≤ 8 ∧ g 2 = nI (nK g) ∧ nK g ≤ 5 ∧ g 3 = nI (nA g) ∧ nA g ≤ 8 ∧ g 4 = nI (nW' g) ∧ nW' g ≤ 8) ∧
  (∀ q, q < nQ g → (∃ r, r ≤ 99 ∧ g (6 + q) = nI r) ∧ ∀ i, i < 32 → tb (g (14 + q)) i = true → i < nQ g) ∧
  (∀ w, w < nW' g → (∃ f, f < nQ g ∧ g (54 + w) = nI f) ∧ (∃ f, f < nQ g ∧ g (62 + w) = nI f) ∧ (∃ e, 1 ≤ e ∧ e ≤ 7 ∧ g (70 + w) = nI e) ∧ (∃ v, v ≤ 9 ∧ g (78 + w) = nI v) ∧ (∀ k, k < 5 → ∃ v, v ≤ 12 ∧ g (86 + 5 * w + k) = nI v) ∧ g (126 + w) = nI (nLen g w) ∧ nLen g w ≤ 8 ∧ ∀ i, i < nLen g w → ∃ q, q < nQ g ∧ g (134 + 8 * w + i) = nI q)
def CityR (u : Mm) (C : Nat) (g : Nat → Int32) (nm : Nat → Int64) : Prop :=
  (u.1 (C + 2) 0 = g 0 ∧ u.1 (C + 2) 1 = g 2 ∧ u.1 (C + 2) 2 = g 3 ∧ u.1 (C + 2) 3 = g 4 ∧ u.1 C 2 = g 1 ∧ u.1 C 3 = g 5) ∧
  (∀ q, q < nQ g → u.1 (C + 3) q = g (6 + q) ∧ u.1 (C + 4) q = g (14 + q) ∧ nameR (u.2 (C + 1) q) (nm q)) ∧
  (∀ k, k < nK g → nameR (u.2 (C + 1) (8 + k)) (nm (8 + k))) ∧
  (∀ a, a < nA g → u.1 (C + 5) a = g (46 + a) ∧ nameR (u.2 (C + 1) (16 + a)) (nm (13 + a)) ∧ ∃ v, v ≤ 99 ∧ g (46 + a) = nI v) ∧
  (∀ w, w < nW' g → u.1 (C + 6) w = g (54 + w) ∧ u.1 (C + 7) w = g (62 + w) ∧ u.1 (C + 8) w = g (70 + w) ∧ u.1 (C + 9) w = g (78 + w) ∧ u.1 (C + 12) w = g (126 + w) ∧ (∀ k, k < 5 → u.1 (C + 10) (5 * w + k) = g (86 + 5 * w + k)) ∧ (∀ i, i < nLen g w → u.1 (C + 11) (8 * w + i) = g (134 + 8 * w + i)) ∧ (∀ q, q < 8 → tb (u.1 (C + 13) w) q = cm g w (nI q)) ∧ nameR (u.2 (C + 1) (24 + w)) (nm (21 + w)))
/-- what is so is in its bounds -/
def LifeOk (g s : Nat → Int32) : Prop :=
  (∃ t, t ≤ 400 ∧ s 198 = nI t) ∧ (∀ i, i < 32 → tb (s 200) i = true → i < nA g) ∧ (∀ i, i < 32 → tb (s 201) i = true → i < nA g) ∧
  (∀ a, a < nA g → (∃ k, k < nK g ∧ s (202 + a) = nI k) ∧ ((tb (s 201) a = true ∧ s (210 + a) = -1) ∨ (tb (s 201) a = false ∧ ∃ q, q < nQ g ∧ s (210 + a) = nI q))) ∧
  (∀ a b, a < nA g → b < nA g → a ≠ b → s (210 + a) = s (210 + b) → s (210 + a) = -1) ∧
  (∀ w, w < nW' g → ∀ k, k < 5 → ∃ t, t ≤ 3 ∧ s (250 + 5 * w + k) = nI t)
def LifeR (u : Mm) (L : Nat) (g s : Nat → Int32) : Prop :=
  (u.1 L 1 = s 198 ∧ u.1 L 2 = s 199 ∧ u.1 L 4 = s 200 ∧ u.1 L 3 = s 201) ∧
  (∀ a, a < nA g → u.1 (L + 1) a = s (202 + a) ∧ u.1 (L + 2) a = s (210 + a) ∧ u.1 (L + 4) a = s (218 + a) ∧ u.1 (L + 5) a = s (226 + a) ∧ u.1 (L + 6) a = s (234 + a)) ∧
  (∀ q, q < nQ g → u.1 (L + 3) q = stAt g s (nI q)) ∧
  (∀ w, w < nW' g → u.1 (L + 7) w = s (242 + w) ∧ ∀ k, k < 5 → u.1 (L + 8) (5 * w + k) = s (250 + 5 * w + k))
/-- a sentence's node as steps, each behind what it joins -/
def sEnc (s : Nat → Int32) : Nat → Int32 → List (Int32 × Int32 × Int32)
  | 0, _ => []
  | n + 1, k => if s (292 + 4 * k.toNatClampNeg) = 1 then sEnc s n (s (293 + 4 * k.toNatClampNeg)) ++ [(14, 0, 0)]
    else if s (292 + 4 * k.toNatClampNeg) = 2 then sEnc s n (s (293 + 4 * k.toNatClampNeg)) ++ sEnc s n (s (294 + 4 * k.toNatClampNeg)) ++ [(13, 0, 0)]
    else if s (292 + 4 * k.toNatClampNeg) = 3 then sEnc s n (s (293 + 4 * k.toNatClampNeg)) ++ sEnc s n (s (294 + 4 * k.toNatClampNeg)) ++ [(12, 0, 0)]
    else [(s (292 + 4 * k.toNatClampNeg) - 50, if s (292 + 4 * k.toNatClampNeg) < 70 then s (293 + 4 * k.toNatClampNeg) else s (295 + 4 * k.toNatClampNeg), s (294 + 4 * k.toNatClampNeg))]
/-- the nodes of a sentence are well laid: children ahead, words that may stand there -/
def SentOk (s : Nat → Int32) : Prop := s 290 = 0 ∨ (s 290 = 1 ∧ ∃ t, t < 40 ∧ s 291 = nI t ∧ ∀ k, k ≤ t →
  (s (292 + 4 * k) = 1 ∧ ∃ x, x < k ∧ s (293 + 4 * k) = nI x) ∨ ((s (292 + 4 * k) = 2 ∨ s (292 + 4 * k) = 3) ∧ (∃ x, x < k ∧ s (293 + 4 * k) = nI x) ∧ ∃ y, y < k ∧ s (294 + 4 * k) = nI y) ∨ ∃ w, 65 ≤ w ∧ w ≤ 73 ∧ s (292 + 4 * k) = nI w ∧ (70 ≤ w → s (295 + 4 * k) = 60 ∨ s (295 + 4 * k) = 61 ∨ s (295 + 4 * k) = 62))
def SentR (u : Mm) (Z : Nat) (s : Nat → Int32) : Prop := (s 290 = 0 ∧ u.1 Z 0 = 0) ∨ (s 290 = 1 ∧ 0 < (sEnc s 60 (s 291)).length ∧ (sEnc s 60 (s 291)).length ≤ 40 ∧ u.1 Z 0 = nI (sEnc s 60 (s 291)).length ∧ ∀ i, i < (sEnc s 60 (s 291)).length → (sEnc s 60 (s 291))[i]? = some (u.1 (Z + 1) i, u.1 (Z + 2) i, u.1 (Z + 3) i))
/-- a world of the system and a row of the model -/
def WorldR (u : Mm) (C L Z : Nat) (g : Nat → Int32) (nm : Nat → Int64) : Prop := HeadOk g ∧ CityR u C g nm ∧ LifeOk g g ∧ LifeR u L g g ∧ SentOk g ∧ SentR u Z g
/-- tape -/
def TapeR (u : Mm) : Prop := (∃ n, n ≤ 940 ∧ u.1 1 1 = nI n ∧ u.1 234 2 = nI n) ∧ (∀ i, i < 940 → u.1 2 i = u.1 235 i ∧ ∃ b, b < 256 ∧ u.1 235 i = nI b) ∧ u.1 1 2 = u.1 234 10
/-- the words that no name may be -/
def wrds : List (List Nat) := [[19,17,21,1,18,5],[16,1,20,8],[11,9,14,4],[19,20,1,20,21,5],[23,1,12,11,5,18],[12,9,11,5,19],[1,18,18,5,1,18,19],[13,15,22,5,19],[3,12,5,1,14,19],[19,8,15,23,19],[12,5,14,4,19],[4,1,25],[15,18],[1,14,4],[14,15,20],[5,22,9,3,20,5,4],[19,20,1,9,14,5,4],[19,15,12,22,5,14,20],[15,6],[1,20],[16,21,18,19,5],[15,23,5,19],[7,12,1,14,3,5,19],[14,21,13,2,5,18]]
def WordsR (u : Mm) : Prop := ∀ k, k < 24 → u.2 3 k = lN (e5 (wrds.getD k []))
/-- answers that are kept -/
def KeptR (u : Mm) : Prop :=
  ((u.1 234 42 = -1 ∧ u.1 160 6 = -1 ∧ u.1 160 7 = -1 ∧ u.1 160 8 = -1) ∨ (u.1 234 42 ≠ -1 ∧ u.1 160 6 = u.1 234 42 ∧ u.1 160 7 = u.1 234 43 ∧ u.1 160 8 = u.1 234 44)) ∧
  u.1 171 3 = u.1 234 45 ∧ u.1 171 4 = u.1 234 46 ∧ u.1 160 9 = u.1 234 47 ∧ u.1 171 5 = u.1 234 48 ∧
  (∃ n, n ≤ 8 ∧ u.1 165 10 = nI n ∧ u.1 234 41 = nI n ∧ ∀ k, k < n → u.1 169 k = u.1 255 k) ∧
  (∃ n, n ≤ 8 ∧ u.1 165 12 = nI n ∧ u.1 234 39 = nI n ∧ ∀ k, k < n → u.1 170 k = u.1 254 k) ∧
  (∃ n, n ≤ 32 ∧ u.1 0 15 = nI n ∧ u.1 234 51 = nI n ∧ ∀ k, k < n → u.1 173 k = u.1 257 k) ∧
  ((u.1 149 7 = 0 ∧ u.1 234 55 = 0) ∨ (u.1 149 7 = 1 ∧ u.1 234 55 = 1 ∧ u.1 149 8 = u.1 259 0 ∧ u.1 149 9 = u.1 259 1 ∧ u.1 149 10 = u.1 259 2 ∧ u.1 149 11 = u.1 259 3))
/-- the ring of the past: size, where the next one comes; each one of the model's snaps -/
def PastR (u : Mm) : Prop := ∃ n t, n ≤ 8 ∧ t < 8 ∧ u.1 44 2 = nI n ∧ u.1 44 3 = nI t ∧ u.1 234 24 = nI n ∧ ∀ i, i < n → LifeOk (u.1 236) (fun k => u.1 239 (92 * i + k - 198)) ∧ LifeR u (46 + 9 * ((t + 8 - n + i) % 8)) (u.1 236) (fun k => u.1 239 (92 * i + k - 198))
def ImagesR (u : Mm) : Prop := ∀ k, k < 2 → (tb (u.1 0 5) k = false ∧ u.1 244 k = 0) ∨ (tb (u.1 0 5) k = true ∧ u.1 244 k = 1 ∧ WorldR u (175 + 30 * k) (190 + 30 * k) (199 + 30 * k) (fun i => u.1 238 (532 * k + i)) (fun i => u.2 243 (29 * k + i)))
/-- ALL: between two calls -/
def Rl (u : Mm) : Prop := TapeR u ∧ WordsR u ∧ KeptR u ∧ WorldR u 5 20 29 (u.1 236) (u.2 241) ∧ PastR u ∧ ImagesR u
