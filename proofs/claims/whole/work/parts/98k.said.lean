/-! what a sentence says -/
def cmpE (v y r : Int32) : Bool := if r = 60 then decide (v < y) else if r = 61 then decide (v = y) else decide (y < v)
def valE (g : Nat → Int32) (wd : Int32) (a : Nat) : Int32 := if wd = 20 then g (218 + a) else if wd = 21 then g (226 + a) else if wd = 22 then g (234 + a) else nI a
def lfS (g : Nat → Int32) (t : Int32 × Int32 × Int32) (a : Nat) : Bool := if t.1 = 15 then tb (g 201) a else if t.1 = 16 then tb (g 200) a else if t.1 = 17 then slv g a 0 else if t.1 = 18 then decide (g (202 + a) = t.2.1) else if t.1 = 19 then decide (g (210 + a) = t.2.1) else cmpE (valE g t.1 a) t.2.2 t.2.1
def lfT (g : Nat → Int32) (k : Nat) : Int32 × Int32 × Int32 := (g (292 + 4 * k) - 50, if g (292 + 4 * k) < 70 then g (293 + 4 * k) else g (295 + 4 * k), g (294 + 4 * k))
def ev (g : Nat → Int32) : Nat → Int32 → Nat → Bool
  | 0, _, _ => false
  | n + 1, k, a => if g (292 + 4 * k.toNatClampNeg) = 1 then !ev g n (g (293 + 4 * k.toNatClampNeg)) a
    else if g (292 + 4 * k.toNatClampNeg) = 2 then ev g n (g (293 + 4 * k.toNatClampNeg)) a && ev g n (g (294 + 4 * k.toNatClampNeg)) a
    else if g (292 + 4 * k.toNatClampNeg) = 3 then ev g n (g (293 + 4 * k.toNatClampNeg)) a || ev g n (g (294 + 4 * k.toNatClampNeg)) a
    else lfS g (lfT g k.toNatClampNeg) a
/-- how many leaves -/
def lvN (g : Nat → Int32) : Nat → Int32 → Nat
  | 0, _ => 0
  | n + 1, k => if g (292 + 4 * k.toNatClampNeg) = 1 then lvN g n (g (293 + 4 * k.toNatClampNeg))
    else if g (292 + 4 * k.toNatClampNeg) = 2 then lvN g n (g (293 + 4 * k.toNatClampNeg)) + lvN g n (g (294 + 4 * k.toNatClampNeg))
    else if g (292 + 4 * k.toNatClampNeg) = 3 then lvN g n (g (293 + 4 * k.toNatClampNeg)) + lvN g n (g (294 + 4 * k.toNatClampNeg))
    else 1
/-- nodes up to t are well laid -/
def NdOk (s : Nat → Int32) (t : Nat) : Prop := t < 40 ∧ ∀ k, k ≤ t →
  (s (292 + 4 * k) = 1 ∧ ∃ x, x < k ∧ s (293 + 4 * k) = nI x) ∨ ((s (292 + 4 * k) = 2 ∨ s (292 + 4 * k) = 3) ∧ (∃ x, x < k ∧ s (293 + 4 * k) = nI x) ∧ ∃ y, y < k ∧ s (294 + 4 * k) = nI y) ∨ ∃ w, 65 ≤ w ∧ w ≤ 73 ∧ s (292 + 4 * k) = nI w ∧ (70 ≤ w → s (295 + 4 * k) = 60 ∨ s (295 + 4 * k) = 61 ∨ s (295 + 4 * k) = 62)
section EvT
variable {g : Nat → Int32} {t : Nat}
theorem lv_ok (h : NdOk g t) : ∀ n k, k ≤ t → k < n → 1 ≤ lvN g n (nI k) ∧ 2 * lvN g n (nI k) ≤ (sEnc g n (nI k)).length + 1 := by
  intro n
  induction n with
  | zero => intro k _ hk; omega
  | succ n ih =>
    intro k hk hn
    have h40 := h.1
    rw [lvN, sEnc, nI_clamp (show k < 2 ^ 31 by omega)]
    rcases h.2 k hk with ⟨e, x, hx, ex⟩ | ⟨e, ⟨x, hx, ex⟩, y, hy, ey⟩ | ⟨w, w1, w2, e, -⟩
    · rw [if_pos e, if_pos e, ex]
      obtain ⟨i1, i2⟩ := ih x (by omega) (by omega)
      refine ⟨i1, ?_⟩
      rw [List.length_append, List.length_singleton]; omega
    · have e1 : ¬ g (292 + 4 * k) = 1 := by rcases e with e | e <;> rw [e] <;> decide
      obtain ⟨i1, i2⟩ := ih x (by omega) (by omega)
      obtain ⟨j1, j2⟩ := ih y (by omega) (by omega)
      rw [if_neg e1, if_neg e1, ex, ey]
      rcases e with e | e
      · rw [if_pos e, if_pos e]
        refine ⟨by omega, ?_⟩
        rw [List.length_append, List.length_append, List.length_singleton]; omega
      · have e2 : ¬ g (292 + 4 * k) = 2 := by rw [e]; decide
        rw [if_neg e2, if_neg e2, if_pos e, if_pos e]
        refine ⟨by omega, ?_⟩
        rw [List.length_append, List.length_append, List.length_singleton]; omega
    · obtain ⟨f1, f2, f3⟩ := lf_ne w1 w2 e
      rw [if_neg f1, if_neg f1, if_neg f2, if_neg f2, if_neg f3, if_neg f3]
      exact ⟨by omega, by simp⟩
end EvT
theorem tb_all : ∀ n, n ≤ 8 → ∀ i, i < 32 → tb (((1 : Int32) <<< (nI n &&& 31)) - 1) i = decide (i < n) := by decide +kernel
theorem bset_of {x : Int32} {p : Nat → Bool} {n : Nat} (hn : n ≤ 8) (h : ∀ i, i < 32 → tb x i = (decide (i < n) && p i)) : x = bset p n := tb_ext fun i hi => by rw [h i hi, tb_bset (by omega) i hi]
section SdC
variable {X : Xc} {d : Nat} {u : Mm} {g : Nat → Int32} {nm : Nat → Int64}
def StpA (V : Mm) (i : Nat) (t : Int32 × Int32 × Int32) : Prop := t = (V.1 30 i, V.1 31 i, V.1 32 i)
theorem c_cmpS {K : Int32 → Mm → Prop} {i : Nat} {t : Int32 × Int32 × Int32} {v : Int32} (hd : 1 ≤ d) (hi : i < 40) (hs : StpA u i t) (hr : t.2.1 = 60 ∨ t.2.1 = 61 ∨ t.2.1 = 62) (h1 : cmpE v t.2.2 t.2.1 = true → K 1 u) (h0 : cmpE v t.2.2 t.2.1 = false → K 0 u) : CI X d 92 [.ref 29, .int (nI i), .int v] u K := by
  obtain ⟨d, rfl, -⟩ := dpos hd
  have vi : vp_in (nI i) 40 := vp_in_nI hi (by decide)
  unfold StpA at hs
  subst hs
  dsimp only at hr h1 h0
  refine CI_of mk_X8_compares.2.2 rfl (B_Z29_compares_0 ?_)
  rw [nI_clamp (show i < 2 ^ 31 by omega)]
  unfold cmpE at h1 h0
  refine ⟨vi, fun z => ⟨vi, fun z2 => ⟨vi, fun z3 => h0 ?_, fun z3 => h1 ?_⟩, fun z2 => ⟨vi, fun z3 => h0 ?_, fun z3 => h1 ?_⟩⟩, fun z => ⟨vi, fun z3 => h0 ?_, fun z3 => h1 ?_⟩⟩
  · rw [if_neg z, if_pos (by rcases hr with e | e | e; exact absurd e z; exact e; exact absurd e z2)]
    exact decide_eq_false z3
  · rw [if_neg z, if_pos (by rcases hr with e | e | e; exact absurd e z; exact e; exact absurd e z2)]
    exact decide_eq_true z3
  · rw [if_neg z, if_neg (by rw [z2]; decide)]
    exact decide_eq_false (Int32.not_lt.mpr z3)
  · rw [if_neg z, if_neg (by rw [z2]; decide)]
    exact decide_eq_true (Int32.not_le.mp z3)
  · rw [if_pos z]
    exact decide_eq_false (Int32.not_lt.mpr z3)
  · rw [if_pos z]
    exact decide_eq_true (Int32.not_le.mp z3)
theorem c_isSo {K : Int32 → Mm → Prop} {i a w : Nat} {t : Int32 × Int32 × Int32} (hd : 2 ≤ d) (h : Wd u g nm) (hi : i < 40) (ha : a < nA g) (hs : StpA u i t) (ht : t.1 = nI w) (hw1 : 18 ≤ w) (hw2 : w ≤ 23) (hr : 20 ≤ w → t.2.1 = 60 ∨ t.2.1 = 61 ∨ t.2.1 = 62) (h1 : lfS g t a = true → K 1 u) (h0 : lfS g t a = false → K 0 u) : CI X d 91 [.ref 29, .int (nI i), .ref 20, .int (nI a)] u K := by
  obtain ⟨d, rfl, hd1⟩ := dpos hd
  have hA := h.1.1.2.2.2.2.2.1
  have vi : vp_in (nI i) 40 := vp_in_nI hi (by decide)
  have va : vp_in (nI a) 8 := vp_in_nI (by omega) (by decide)
  obtain ⟨l1, l2, l4, l5, l6⟩ := h.2.2.2.2.1 a ha
  have hs' := hs
  unfold StpA at hs'
  have s0 : u.1 30 i = nI w := by rw [← ht, hs']
  have s1 : u.1 31 i = t.2.1 := by rw [hs']
  refine CI_of mk_X8_isSo.2.2 rfl (B_Z29_isSo_0 ?_)
  rw [nI_clamp (show i < 2 ^ 31 by omega), nI_clamp (show a < 2 ^ 31 by omega), s0, s1, l1, l2, l4, l5, l6]
  unfold lfS at h1 h0
  rw [ht] at h1 h0
  have ne : ∀ m, m ≠ w → m < 100 → ¬ nI w = nI m := fun m hm hm2 q => hm ((nI_eq (by omega) (by omega)).mp q).symm
  rw [if_neg (show ¬ nI w = (15 : Int32) from ne 15 (by omega) (by omega)), if_neg (show ¬ nI w = (16 : Int32) from ne 16 (by omega) (by omega)), if_neg (show ¬ nI w = (17 : Int32) from ne 17 (by omega) (by omega))] at h1 h0
  have cm : ∀ v, 20 ≤ w → v = valE g (nI w) a → CI X d 92 [.ref 29, .int (nI i), .int v] u (fun w1 u1 => bz w1 ∧ K w1 u1) := by
    intro v hw hv
    rw [if_neg (show ¬ nI w = (18 : Int32) from ne 18 (by omega) (by omega)), if_neg (show ¬ nI w = (19 : Int32) from ne 19 (by omega) (by omega)), ← hv] at h1 h0
    exact c_cmpS (by omega) hi hs (hr hw) (fun q => ⟨Or.inr rfl, h1 q⟩) (fun q => ⟨Or.inl rfl, h0 q⟩)
  refine ⟨vi, ⟨fun z => ⟨va, vi, fun z2 => h0 ?_, fun z2 => h1 ?_⟩, fun z => ⟨va, vi, fun z2 => h0 ?_, fun z2 => h1 ?_⟩, fun z => ⟨va, cm _ ?_ ?_⟩, fun z => ⟨va, cm _ ?_ ?_⟩, fun z => ⟨va, cm _ ?_ ?_⟩⟩, fun z => cm _ ?_ ?_⟩
  · rw [if_pos z]; exact decide_eq_false z2
  · rw [if_pos z]; exact decide_eq_true z2
  · rw [if_neg (by rw [z]; decide), if_pos z]; exact decide_eq_false z2
  · rw [if_neg (by rw [z]; decide), if_pos z]; exact decide_eq_true z2
  · have : w = 20 := (le1 (n := 20) (by omega) (by decide)).mp z
    omega
  · unfold valE; rw [if_pos z]
  · have : w = 21 := (le1 (n := 21) (by omega) (by decide)).mp z
    omega
  · unfold valE; rw [if_neg (by rw [z]; decide), if_pos z]
  · have : w = 22 := (le1 (n := 22) (by omega) (by decide)).mp z
    omega
  · unfold valE; rw [if_neg (by rw [z]; decide), if_neg (by rw [z]; decide), if_pos z]
  · rw [nI_toInt (by omega)] at z; omega
  · rw [nI_toInt (by omega)] at z
    unfold valE
    rw [if_neg (show ¬ nI w = (20 : Int32) from ne 20 (by omega) (by omega)), if_neg (show ¬ nI w = (21 : Int32) from ne 21 (by omega) (by omega)), if_neg (show ¬ nI w = (22 : Int32) from ne 22 (by omega) (by omega))]
theorem c_those {K : Int32 → Mm → Prop} {i w : Nat} {t : Int32 × Int32 × Int32} (hd : 3 ≤ d) (h : Wd u g nm) (hi : i < 40) (hs : StpA u i t) (ht : t.1 = nI w) (hw1 : 15 ≤ w) (hw2 : w ≤ 23) (h17 : w ≠ 17) (hr : 20 ≤ w → t.2.1 = 60 ∨ t.2.1 = 61 ∨ t.2.1 = 62) (hK : K (bset (lfS g t) (nA g)) u) : CI X d 90 [.ref 29, .int (nI i), .ref 20, .int (((1 : Int32) <<< (nI (nA g) &&& 31)) - 1)] u K := by
  obtain ⟨d, rfl, hd1⟩ := dpos hd
  have hA := h.1.1.2.2.2.2.2.1
  have vi : vp_in (nI i) 40 := vp_in_nI hi (by decide)
  have hs' := hs
  unfold StpA at hs'
  have s0 : u.1 30 i = nI w := by rw [← ht, hs']
  have ne : ∀ m, m ≠ w → m < 100 → ¬ nI w = nI m := fun m hm hm2 q => hm ((nI_eq (by omega) (by omega)).mp q).symm
  refine CI_of mk_X8_thoseSo.2.2 rfl (B_Z29_thoseSo_0 ?_)
  rw [nI_clamp (show i < 2 ^ 31 by omega), s0]
  refine ⟨vi, fun z => ⟨vi, fun z2 => ?_, fun z2 => ?_⟩, fun z => ?_⟩
  · have hw : 18 ≤ w := by
      have q1 : w ≠ 15 := fun q => z (by rw [q]; rfl)
      have q2 : w ≠ 16 := fun q => z2 (by rw [q]; rfl)
      omega
    refine lup (n := 8) (W := fun j => VI X d 90 K 38 [some (.ref 29), some (.int (nI i)), some (.ref 20), some (.int (((1 : Int32) <<< (nI (nA g) &&& 31)) - 1)), some (.int (bset (fun a => decide (a < nA g) && lfS g t a) j)), some (.int (nI j))] [] u) ?_
    intro j hj ih
    refine B_Z29_thoseSo_38 ?_
    rw [nI_1]
    refine ⟨fun y => ?_, fun y => ?_⟩
    · have y : 8 ≤ j := (ll2 (n := 8) (by omega) (by decide)).mp y
      have e : bset (fun a => decide (a < nA g) && lfS g t a) j = bset (lfS g t) (nA g) := bset_of hA fun i hi => by
        rw [tb_bset (by omega) i hi]
        by_cases q : i < nA g
        · rw [decide_eq_true (show i < j by omega), decide_eq_true q]; simp
        · rw [decide_eq_false q, Bool.false_and, Bool.and_false]
      rw [e]; exact hK
    · have y : ¬ 8 ≤ j := mt (ll2 (n := 8) (m := j) (by omega) (by decide)).mpr y
      have ih := ih (by omega)
      have go : (decide (j < nA g) && lfS g t j) = false → VI X d 90 K 38 [some (.ref 29), some (.int (nI i)), some (.ref 20), some (.int (((1 : Int32) <<< (nI (nA g) &&& 31)) - 1)), some (.int (bset (fun a => decide (a < nA g) && lfS g t a) j)), some (.int (nI (j + 1)))] [] u := by
        intro hf
        rw [bset, if_neg (by rw [hf]; decide)] at ih
        exact ih
      refine c_bit (by omega) (by omega) (fun q => ⟨fun x => absurd x (by decide), fun _ => ?_⟩) (fun q => ⟨fun _ => go ?_, fun x => absurd rfl x⟩)
      · rw [tb_all _ hA j (by omega)] at q
        have q := of_decide_eq_true q
        refine c_isSo (by omega) h hi q hs ht hw hw2 hr (fun q2 => ⟨fun x => absurd x (by decide), fun _ => ?_⟩) (fun q2 => ⟨fun _ => go ?_, fun x => absurd rfl x⟩)
        · rw [bset, if_pos (by rw [decide_eq_true q, q2]; rfl)] at ih
          exact ih
        · rw [q2, Bool.and_false]
      · rw [tb_all _ hA j (by omega)] at q
        rw [q]; rfl
  · have e : u.1 20 4 = bset (lfS g t) (nA g) := bset_of hA fun i hi => by
      rw [h.2.2.2.1.2.2.1]
      unfold lfS
      rw [ht, if_neg z, if_pos z2]
      cases hb : tb (g 200) i with
      | true => rw [decide_eq_true (h.2.2.1.2.1 i hi hb)]; rfl
      | false => rw [Bool.and_false]
    rw [e]; exact hK
  · have e : u.1 20 3 = bset (lfS g t) (nA g) := bset_of hA fun i hi => by
      rw [h.2.2.2.1.2.2.2]
      unfold lfS
      rw [ht, if_pos z]
      cases hb : tb (g 201) i with
      | true => rw [decide_eq_true (h.2.2.1.2.2.1 i hi hb)]; rfl
      | false => rw [Bool.and_false]
    rw [e]; exact hK
theorem ev_1 {n k x : Nat} (hk : k < 1000) (e : g (292 + 4 * k) = 1) (ex : g (293 + 4 * k) = nI x) : ev g (n + 1) (nI k) = fun a => !ev g n (nI x) a := by
  funext a
  rw [ev, nI_clamp (show k < 2 ^ 31 by omega), if_pos e, ex]
theorem ev_2 {n k x y : Nat} (hk : k < 1000) (e : g (292 + 4 * k) = 2) (ex : g (293 + 4 * k) = nI x) (ey : g (294 + 4 * k) = nI y) : ev g (n + 1) (nI k) = fun a => ev g n (nI x) a && ev g n (nI y) a := by
  funext a
  rw [ev, nI_clamp (show k < 2 ^ 31 by omega), if_neg (by rw [e]; decide), if_pos e, ex, ey]
theorem ev_3 {n k x y : Nat} (hk : k < 1000) (e : g (292 + 4 * k) = 3) (ex : g (293 + 4 * k) = nI x) (ey : g (294 + 4 * k) = nI y) : ev g (n + 1) (nI k) = fun a => ev g n (nI x) a || ev g n (nI y) a := by
  funext a
  rw [ev, nI_clamp (show k < 2 ^ 31 by omega), if_neg (by rw [e]; decide), if_neg (by rw [e]; decide), if_pos e, ex, ey]
theorem ev_l {n k w : Nat} (hk : k < 1000) (w1 : 65 ≤ w) (w2 : w ≤ 73) (e : g (292 + 4 * k) = nI w) : ev g (n + 1) (nI k) = lfS g (lfT g k) := by
  funext a
  obtain ⟨f1, f2, f3⟩ := lf_ne w1 w2 e
  rw [ev, nI_clamp (show k < 2 ^ 31 by omega), if_neg f1, if_neg f2, if_neg f3]
theorem bset_not {p : Nat → Bool} {n : Nat} (hn : n ≤ 8) : (((1 : Int32) <<< (nI n &&& 31)) - 1) &&& (bset p n ^^^ (-1)) = bset (fun a => !p a) n := bset_of hn fun i hi => by
  rw [tb_and, tb_all n hn i hi, tb_xm1 _ hi, tb_bset (by omega) i hi]
  cases decide (i < n) <;> rfl
theorem bset_and {p q : Nat → Bool} {n : Nat} (hn : n ≤ 8) : bset p n &&& bset q n = bset (fun a => p a && q a) n := bset_of hn fun i hi => by
  rw [tb_and, tb_bset (by omega) i hi, tb_bset (by omega) i hi]
  cases decide (i < n) <;> simp
theorem bset_or {p q : Nat → Bool} {n : Nat} (hn : n ≤ 8) : bset p n ||| bset q n = bset (fun a => p a || q a) n := bset_of hn fun i hi => by
  rw [tb_or, tb_bset (by omega) i hi, tb_bset (by omega) i hi]
  cases decide (i < n) <;> simp
theorem app_l {l : List (Int32 × Int32 × Int32)} {c : Int32 × Int32 × Int32} {F : Nat → Int32 × Int32 × Int32} (h : ∀ j, j < (l ++ [c]).length → (l ++ [c])[j]? = some (F j)) : (∀ j, j < l.length → l[j]? = some (F j)) ∧ c = F l.length := by
  refine ⟨fun j hj => ?_, ?_⟩
  · have := h j (by rw [List.length_append, List.length_singleton]; omega)
    rwa [List.getElem?_append_left hj] at this
  · have := h l.length (by rw [List.length_append, List.length_singleton]; omega)
    rw [List.getElem?_append_right (Nat.le_refl _), Nat.sub_self] at this
    exact Option.some.inj this
theorem app_2 {l r : List (Int32 × Int32 × Int32)} {F : Nat → Int32 × Int32 × Int32} (h : ∀ j, j < (l ++ r).length → (l ++ r)[j]? = some (F j)) : (∀ j, j < l.length → l[j]? = some (F j)) ∧ ∀ j, j < r.length → r[j]? = some (F (l.length + j)) := by
  refine ⟨fun j hj => ?_, fun j hj => ?_⟩
  · have := h j (by rw [List.length_append]; omega)
    rwa [List.getElem?_append_left hj] at this
  · have := h (l.length + j) (by rw [List.length_append]; omega)
    rwa [List.getElem?_append_right (by omega), Nat.add_sub_cancel_left] at this
theorem nI_m {h : Nat} : nI (h + 1) + (-1 : Int32) = nI h := by
  rw [show nI (h + 1) + (-1 : Int32) = nI (h + 1) - 1 by simp [Int32.sub_eq_add_neg]]
  exact nI_pred h
/-- the machine of sets runs through one tree -/
theorem l_run {K : Int32 → Mm → Prop} {t N : Nat} (hd : 3 ≤ d) (h : Wd u g nm) (hk : NdOk g t) (hN : u.1 29 0 = nI N) (hN40 : N ≤ 40) : ∀ n k hh i (V : Mm), k ≤ t → k < n → hh + lvN g n (nI k) ≤ 20 → i + (sEnc g n (nI k)).length ≤ N → (∀ j, j < (sEnc g n (nI k)).length → (sEnc g n (nI k))[j]? = some (u.1 30 (i + j), u.1 31 (i + j), u.1 32 (i + j))) → (∀ b, b ≠ 33 → V.1 b = u.1 b) → V.2 = u.2 →
    (∀ V' : Mm, (∀ b, b ≠ 33 → V'.1 b = u.1 b) → V'.2 = u.2 → (∀ j, j < hh → V'.1 33 j = V.1 33 j) → V'.1 33 hh = bset (ev g n (nI k)) (nA g) → VI X d 89 K 18 [some (.ref 29), some (.ref 5), some (.ref 20), some (.int (bset (fun a => slv g a 0) (nA g))), some (.int (((1 : Int32) <<< (nI (nA g) &&& 31)) - 1)), some (.int (nI (hh + 1))), some (.int (nI (i + (sEnc g n (nI k)).length))), none] [] V') → VI X d 89 K 18 [some (.ref 29), some (.ref 5), some (.ref 20), some (.int (bset (fun a => slv g a 0) (nA g))), some (.int (((1 : Int32) <<< (nI (nA g) &&& 31)) - 1)), some (.int (nI hh)), some (.int (nI i)), none] [] V := by
  have hA := h.1.1.2.2.2.2.2.1
  intro n
  induction n with
  | zero => intro k hh i V _ hkn; omega
  | succ n ih =>
    intro k hh i V hkt hkn hlv hlen hst v1 v2 hK
    have h40 := hk.1
    rw [lvN, nI_clamp (show k < 2 ^ 31 by omega)] at hlv
    rw [sEnc, nI_clamp (show k < 2 ^ 31 by omega)] at hlen hst hK
    rcases hk.2 k hkt with ⟨e, x, hx, ex⟩ | ⟨e, ⟨x, hx, ex⟩, y, hy, ey⟩ | ⟨w, w1, w2, e, er⟩
    · rw [ev_1 (by omega) e ex] at hK
      rw [if_pos e, ex] at hlv hlen hst hK
      obtain ⟨s1, s2⟩ := app_l hst
      rw [List.length_append, List.length_singleton] at hlen hK
      obtain ⟨lv1, -⟩ := lv_ok hk n x (by omega) (by omega)
      refine ih x hh i V (by omega) (by omega) hlv (by omega) s1 v1 v2 fun V' c1 c2 c3 c4 => ?_
      generalize hl : (sEnc g n (nI x)).length = l at *
      have e30 : V'.1 30 (i + l) = 14 := by rw [c1 30 (by omega)]; exact (congrArg (fun z => z.1) s2).symm
      refine B_Z29_trueOf_18 ?_
      rw [c1 29 (by omega), hN, nI_clamp (show i + l < 2 ^ 31 by omega), e30, nI_1, nI_pred, nI_clamp (show hh < 2 ^ 31 by omega), c4, bset_not hA]
      refine ⟨fun z => absurd ((nI_leI (by omega) (by omega)).mp z) (by omega), fun _ => ⟨vp_in_nI (by omega) (by decide), fun z => absurd rfl z, fun _ => ⟨fun z => absurd z (nI_ge (a := 0) (b := hh + 1) (by omega) (by omega)), fun _ => ⟨vp_in_nI (by omega) (by decide), vp_in_nI (by omega) (by decide), ?_⟩⟩⟩⟩
      exact hK _ (fun b hb => by rw [mI_r hb]; exact c1 b hb) c2 (fun j hj => by rw [mI_n (by omega)]; exact c3 j hj) mI_s
    · have e1 : ¬ g (292 + 4 * k) = 1 := by rcases e with e | e <;> rw [e] <;> decide
      rw [if_neg e1, ex, ey] at hlv hlen hst hK
      obtain ⟨lx, -⟩ := lv_ok hk n x (by omega) (by omega)
      obtain ⟨ly, -⟩ := lv_ok hk n y (by omega) (by omega)
      rcases e with e | e
      · rw [ev_2 (by omega) e ex ey] at hK
        rw [if_pos e] at hlv hlen hst hK
        obtain ⟨s0, s3⟩ := app_l hst
        obtain ⟨s1, s2⟩ := app_2 s0
        rw [List.length_append, List.length_append, List.length_singleton] at hlen hK
        rw [List.length_append] at s3
        refine ih x hh i V (by omega) (by omega) (by omega) (by omega) s1 v1 v2 fun V1 c1 c2 c3 c4 => ?_
        refine ih y (hh + 1) (i + (sEnc g n (nI x)).length) V1 (by omega) (by omega) (by omega) (by omega) (fun j hj => by rw [s2 j hj, Nat.add_assoc]) c1 c2 fun V2 d1 d2 d3 d4 => ?_
        generalize hl : (sEnc g n (nI x)).length = l at *
        generalize hr : (sEnc g n (nI y)).length = r at *
        have e30 : V2.1 30 (i + l + r) = 13 := by rw [d1 30 (by omega), Nat.add_assoc]; exact (congrArg (fun z => z.1) s3).symm
        refine B_Z29_trueOf_18 ?_
        rw [d1 29 (by omega), hN, nI_clamp (show i + l + r < 2 ^ 31 by omega), e30, nI_1, nI_m, nI_pred, nI_clamp (show hh < 2 ^ 31 by omega), nI_clamp (show hh + 1 < 2 ^ 31 by omega), d4, d3 hh (by omega), c4, bset_and hA, bset_or hA]
        refine ⟨fun z => absurd ((nI_leI (by omega) (by omega)).mp z) (by omega), fun _ => ⟨vp_in_nI (by omega) (by decide), fun _ => ⟨fun z => absurd rfl z, fun _ => ⟨fun z => absurd ((nI_leI (a := hh + 1 + 1) (b := 1) (by omega) (by omega)).mp z) (by omega), fun _ => ⟨vp_in_nI (by omega) (by decide), vp_in_nI (by omega) (by decide), vp_in_nI (by omega) (by decide), ?_⟩⟩⟩, fun z => absurd z (by decide)⟩⟩
        have := hK (mI V2 33 hh (bset (fun a => ev g n (nI x) a && ev g n (nI y) a) (nA g))) (fun b hb => by rw [mI_r hb]; exact d1 b hb) d2 (fun j hj => by rw [mI_n (by omega), d3 j (by omega)]; exact c3 j hj) mI_s
        rw [show i + (l + r + 1) = i + l + r + 1 by omega] at this
        exact this
      · rw [ev_3 (by omega) e ex ey] at hK
        rw [if_neg (by rw [e]; decide), if_pos e] at hlv hlen hst hK
        obtain ⟨s0, s3⟩ := app_l hst
        obtain ⟨s1, s2⟩ := app_2 s0
        rw [List.length_append, List.length_append, List.length_singleton] at hlen hK
        rw [List.length_append] at s3
        refine ih x hh i V (by omega) (by omega) (by omega) (by omega) s1 v1 v2 fun V1 c1 c2 c3 c4 => ?_
        refine ih y (hh + 1) (i + (sEnc g n (nI x)).length) V1 (by omega) (by omega) (by omega) (by omega) (fun j hj => by rw [s2 j hj, Nat.add_assoc]) c1 c2 fun V2 d1 d2 d3 d4 => ?_
        generalize hl : (sEnc g n (nI x)).length = l at *
        generalize hr : (sEnc g n (nI y)).length = r at *
        have e30 : V2.1 30 (i + l + r) = 12 := by rw [d1 30 (by omega), Nat.add_assoc]; exact (congrArg (fun z => z.1) s3).symm
        refine B_Z29_trueOf_18 ?_
        rw [d1 29 (by omega), hN, nI_clamp (show i + l + r < 2 ^ 31 by omega), e30, nI_1, nI_m, nI_pred, nI_clamp (show hh < 2 ^ 31 by omega), nI_clamp (show hh + 1 < 2 ^ 31 by omega), d4, d3 hh (by omega), c4, bset_and hA, bset_or hA]
        refine ⟨fun z => absurd ((nI_leI (by omega) (by omega)).mp z) (by omega), fun _ => ⟨vp_in_nI (by omega) (by decide), fun _ => ⟨fun _ => ⟨fun z => absurd rfl z, fun _ => ⟨fun z => absurd ((nI_leI (a := hh + 1 + 1) (b := 1) (by omega) (by omega)).mp z) (by omega), fun _ => ⟨vp_in_nI (by omega) (by decide), vp_in_nI (by omega) (by decide), vp_in_nI (by omega) (by decide), ?_⟩⟩⟩, fun z => absurd z (by decide)⟩, fun z => absurd z (by decide)⟩⟩
        have := hK (mI V2 33 hh (bset (fun a => ev g n (nI x) a || ev g n (nI y) a) (nA g))) (fun b hb => by rw [mI_r hb]; exact d1 b hb) d2 (fun j hj => by rw [mI_n (by omega), d3 j (by omega)]; exact c3 j hj) mI_s
        rw [show i + (l + r + 1) = i + l + r + 1 by omega] at this
        exact this
    · obtain ⟨f1, f2, f3⟩ := lf_ne w1 w2 e
      rw [ev_l (by omega) w1 w2 e] at hK
      rw [if_neg f1, if_neg f2, if_neg f3] at hlv hlen hst hK
      rw [List.length_singleton] at hlen hK
      have s0 : lfT g k = (u.1 30 i, u.1 31 i, u.1 32 i) := Option.some.inj (hst 0 (by simp))
      have t1 : (lfT g k).1 = nI (w - 50) := by
        unfold lfT
        dsimp only
        rw [e]; exact pk_sub (b := 50) (by omega)
      have t2 : 20 ≤ w - 50 → (lfT g k).2.1 = 60 ∨ (lfT g k).2.1 = 61 ∨ (lfT g k).2.1 = 62 := by
        intro hw
        unfold lfT
        dsimp only
        rw [e, if_neg (mt (ll3 (n := 70) (m := w) (by omega) (by decide)).mp (by show ¬ w < 70; omega))]
        exact er (by omega)
      have hV : Wd V g nm := h.cg (fun b b1 b2 => v1 b (by omega)) v2
      have sV : StpA V i (lfT g k) := by unfold StpA; rw [v1 30 (by omega), v1 31 (by omega), v1 32 (by omega)]; exact s0
      have e30 : V.1 30 i = nI (w - 50) := by rw [v1 30 (by omega), ← t1, s0]
      have ne : ∀ m, m ≠ w - 50 → m < 100 → ¬ nI (w - 50) = nI m := fun m hm hm2 q => hm ((nI_eq (by omega) (by omega)).mp q).symm
      refine B_Z29_trueOf_18 ?_
      rw [v1 29 (by omega), hN, nI_clamp (show i < 2 ^ 31 by omega), e30, nI_1, nI_1, nI_clamp (show hh < 2 ^ 31 by omega)]
      refine ⟨fun z => absurd ((nI_leI (by omega) (by omega)).mp z) (by omega), fun _ => ⟨vp_in_nI (by omega) (by decide), fun _ => ⟨fun _ => ⟨fun _ => ⟨fun z => absurd z (nI_ge (a := hh) (b := 20) (by omega) (by omega)), fun _ => ⟨fun z => ?_, fun z => ?_⟩⟩, fun z => absurd z (ne 12 (by omega) (by omega))⟩, fun z => absurd z (ne 13 (by omega) (by omega))⟩, fun z => absurd z (ne 14 (by omega) (by omega))⟩⟩
      · refine c_those hd hV (by omega) sV t1 (by omega) (by omega) (fun q => z (by rw [q]; rfl)) t2 ⟨vp_in_nI (by omega) (by decide), ?_⟩
        exact hK _ (fun b hb => by rw [mI_r hb]; exact v1 b hb) v2 (fun j hj => by rw [mI_n (by omega)]) mI_s
      · refine ⟨vp_in_nI (by omega) (by decide), hK _ (fun b hb => by rw [mI_r hb]; exact v1 b hb) v2 (fun j hj => by rw [mI_n (by omega)]) ?_⟩
        rw [mI_s]
        refine bset_congr fun a ha => ?_
        unfold lfS
        rw [t1, if_neg (by rw [z]; decide), if_neg (by rw [z]; decide), if_pos z]
theorem c_trueOf {K : Int32 → Mm → Prop} {t N : Nat} (hd : 4 ≤ d) (h : Wd u g nm) (hk : NdOk g t) (hN : u.1 29 0 = nI N) (hN40 : N ≤ 40) (hl : (sEnc g 60 (nI t)).length = N) (hst : ∀ j, j < N → (sEnc g 60 (nI t))[j]? = some (u.1 30 j, u.1 31 j, u.1 32 j)) (hK : ∀ V : Mm, (∀ b, b ≠ 33 → V.1 b = u.1 b) → V.2 = u.2 → K (bset (ev g 60 (nI t)) (nA g)) V) : CI X d 89 [.ref 29, .ref 5, .ref 20, .int (bset (fun a => slv g a 0) (nA g))] u K := by
  obtain ⟨d, rfl, hd1⟩ := dpos hd
  have h40 := hk.1
  obtain ⟨lv1, lv2⟩ := lv_ok hk 60 t (Nat.le_refl _) (by omega)
  refine CI_of mk_X8_trueOf.2.2 rfl (B_Z29_trueOf_0 ?_)
  rw [show u.1 7 2 = nI (nA g) by rw [← h.1.1.2.2.2.2.1]; exact h.2.1.1.2.2.1]
  refine l_run hd1 h hk hN hN40 60 t 0 0 u (Nat.le_refl _) (by omega) (by omega) (by omega) (fun j hj => by rw [Nat.zero_add]; exact hst j (by omega)) (fun _ _ => rfl) rfl fun V c1 c2 c3 c4 => ?_
  refine B_Z29_trueOf_18 ?_
  rw [c1 29 (by omega), hN, hl, Nat.zero_add, c4]
  refine ⟨fun _ => ⟨fun z => absurd z (by decide), fun _ => hK V c1 c2⟩, fun z => absurd (nI_le (Nat.le_refl _) (by omega)) z⟩
/-- the model's holds -/
theorem c_mholds {t a : Nat} (hg : HeadOk (u.1 236)) (hok : LifeOk (u.1 236) (u.1 236)) (hk : NdOk (u.1 236) t) (ha : a < nA (u.1 236)) : ∀ n k d (K : Int32 → Mm → Prop), k ≤ t → k < n → n + 5 ≤ d → (ev (u.1 236) n (nI k) a = true → K 1 u) → (ev (u.1 236) n (nI k) a = false → K 0 u) → CI X d 317 [.ref 234, .int (nI k), .int (nI a)] u K := by
  have hA := hg.1.2.2.2.2.2.1
  intro n
  induction n with
  | zero => intro k d K _ hkn; omega
  | succ n ih =>
    intro k d K hkt hkn hd h1 h0
    have h40 := hk.1
    obtain ⟨d, rfl, hd1⟩ := dpos (d := d) (n := n + 5) (by omega)
    refine CI_of mk_X13_holds.2.2 rfl (B_M_holds_0 ?_)
    rw [lt1, la1, la2, la2, la2, la1, la1, la1, la1, la1, nI_clamp (show 292 + 4 * k < 2 ^ 31 by omega), nI_clamp (show 292 + 4 * k + 1 < 2 ^ 31 by omega), nI_clamp (show 292 + 4 * k + 2 < 2 ^ 31 by omega), nI_clamp (show 292 + 4 * k + 3 < 2 ^ 31 by omega), nI_clamp (show 202 + a < 2 ^ 31 by omega), nI_clamp (show 210 + a < 2 ^ 31 by omega), nI_clamp (show 218 + a < 2 ^ 31 by omega), nI_clamp (show 226 + a < 2 ^ 31 by omega), nI_clamp (show 234 + a < 2 ^ 31 by omega)]
    rw [show 292 + 4 * k + 1 = 293 + 4 * k by omega, show 292 + 4 * k + 2 = 294 + 4 * k by omega, show 292 + 4 * k + 3 = 295 + 4 * k by omega]
    have vp0 : vp_in (nI (292 + 4 * k)) 532 := vp_in_nI (by omega) (by decide)
    have vp1 : vp_in (nI (293 + 4 * k)) 532 := vp_in_nI (by omega) (by decide)
    have vp2 : vp_in (nI (294 + 4 * k)) 532 := vp_in_nI (by omega) (by decide)
    have vp3 : vp_in (nI (295 + 4 * k)) 532 := vp_in_nI (by omega) (by decide)
    rcases hk.2 k hkt with ⟨e, x, hx, ex⟩ | ⟨e, ⟨x, hx, ex⟩, y, hy, ey⟩ | ⟨w, w1, w2, e, er⟩
    · rw [ev_1 (by omega) e ex] at h1 h0
      dsimp only at h1 h0
      rw [ex]
      refine ⟨vp1, vp2, vp0, fun _ => ih x d _ (by omega) (by omega) hd1 (fun q => ⟨fun _ => h0 (by rw [q]; rfl), fun z => absurd z (by decide)⟩) (fun q => ⟨fun z => absurd rfl z, fun _ => h1 (by rw [q]; rfl)⟩), fun z => absurd e z⟩
    · have e1 : ¬ u.1 236 (292 + 4 * k) = 1 := by rcases e with e | e <;> rw [e] <;> decide
      rcases e with e | e
      · rw [ev_2 (by omega) e ex ey] at h1 h0
        dsimp only at h1 h0
        rw [ex, ey]
        refine ⟨vp1, vp2, vp0, fun z => absurd z e1, fun _ => ⟨fun _ => ih x d _ (by omega) (by omega) hd1 (fun q => ⟨fun z => absurd z (by decide), fun _ => ih y d _ (by omega) (by omega) hd1 (fun q2 => ⟨fun z => absurd z (by decide), fun _ => h1 (by rw [q, q2]; rfl)⟩) (fun q2 => ⟨fun _ => h0 (by rw [q, q2]; rfl), fun z => absurd rfl z⟩)⟩) (fun q => ⟨fun _ => h0 (by rw [q]; rfl), fun z => absurd rfl z⟩), fun z => absurd e z⟩⟩
      · rw [ev_3 (by omega) e ex ey] at h1 h0
        dsimp only at h1 h0
        rw [ex, ey]
        refine ⟨vp1, vp2, vp0, fun z => absurd z e1, fun _ => ⟨fun z => absurd z (by rw [e]; decide), fun _ => ⟨fun _ => ih x d _ (by omega) (by omega) hd1 (fun q => ⟨fun _ => h1 (by rw [q]; rfl), fun z => absurd z (by decide)⟩) (fun q => ⟨fun z => absurd rfl z, fun _ => ih y d _ (by omega) (by omega) hd1 (fun q2 => ⟨fun z => absurd z (by decide), fun _ => h1 (by rw [q, q2]; rfl)⟩) (fun q2 => ⟨fun _ => h0 (by rw [q, q2]; rfl), fun z => absurd rfl z⟩)⟩), fun z => absurd e z⟩⟩⟩
    · obtain ⟨f1, f2, f3⟩ := lf_ne w1 w2 e
      rw [ev_l (by omega) w1 w2 e] at h1 h0
      have t1 : (lfT (u.1 236) k).1 = nI (w - 50) := by
        unfold lfT
        dsimp only
        rw [e]; exact pk_sub (b := 50) (by omega)
      have t2 : (lfT (u.1 236) k).2.2 = u.1 236 (294 + 4 * k) := rfl
      have t3 : (lfT (u.1 236) k).2.1 = if w < 70 then u.1 236 (293 + 4 * k) else u.1 236 (295 + 4 * k) := by
        unfold lfT
        dsimp only
        rw [e]
        by_cases q : w < 70
        · rw [if_pos q, if_pos ((ll3 (n := 70) (by omega) (by decide)).mpr q)]
        · rw [if_neg q, if_neg (mt (ll3 (n := 70) (m := w) (by omega) (by decide)).mp q)]
      unfold lfS at h1 h0
      rw [t1, t2, t3] at h1 h0
      have ne : ∀ m, m ≠ w - 50 → m < 100 → ¬ nI (w - 50) = nI m := fun m hm hm2 q => hm ((nI_eq (by omega) (by omega)).mp q).symm
      have nw : ∀ m, m ≠ w → m < 100 → ¬ nI w = nI m := fun m hm hm2 q => hm ((nI_eq (by omega) (by omega)).mp q).symm
      rw [e] at f1 f2 f3 ⊢
      refine ⟨vp1, vp2, vp0, fun z => absurd z f1, fun _ => ⟨fun z => absurd z f2, fun _ => ⟨fun z => absurd z f3, fun _ => ⟨fun z => ?_, fun z => ⟨fun z2 => ?_, fun z2 => ⟨fun z3 => ?_, fun z3 => ⟨fun z4 => ⟨vp_in_nI (by omega) (by decide), fun y => h0 ?_, fun y => h1 ?_⟩, fun z4 => ⟨fun z5 => ⟨vp_in_nI (by omega) (by decide), fun y => h0 ?_, fun y => h1 ?_⟩, fun z5 => ⟨vp0, ?_⟩⟩⟩⟩⟩⟩⟩⟩⟩
      · have z : w = 65 := (le1 (n := 65) (by omega) (by decide)).mp z
        subst z
        exact c_misEvicted (by omega) (by omega) (fun q => ⟨Or.inr rfl, h1 q⟩) (fun q => ⟨Or.inl rfl, h0 q⟩)
      · have z2 : w = 66 := (le1 (n := 66) (by omega) (by decide)).mp z2
        subst z2
        exact c_mhas (by omega) (by omega) (fun q => ⟨Or.inr rfl, h1 q⟩) (fun q => ⟨Or.inl rfl, h0 q⟩)
      · have z3 : w = 67 := (le1 (n := 67) (by omega) (by decide)).mp z3
        subst z3
        exact c_msolv (by omega) hg hok ha (fun q => ⟨Or.inr rfl, h1 q⟩) (fun q => ⟨Or.inl rfl, h0 q⟩)
      · have z4 : w = 68 := (le1 (n := 68) (by omega) (by decide)).mp z4
        subst z4
        exact decide_eq_false y
      · have z4 : w = 68 := (le1 (n := 68) (by omega) (by decide)).mp z4
        subst z4
        exact decide_eq_true y
      · have z5 : w = 69 := (le1 (n := 69) (by omega) (by decide)).mp z5
        subst z5
        exact decide_eq_false y
      · have z5 : w = 69 := (le1 (n := 69) (by omega) (by decide)).mp z5
        subst z5
        exact decide_eq_true y
      · have hw : 70 ≤ w := by
          have q1 : w ≠ 65 := fun q => z (by rw [q]; rfl)
          have q2 : w ≠ 66 := fun q => z2 (by rw [q]; rfl)
          have q3 : w ≠ 67 := fun q => z3 (by rw [q]; rfl)
          have q4 : w ≠ 68 := fun q => z4 (by rw [q]; rfl)
          have q5 : w ≠ 69 := fun q => z5 (by rw [q]; rfl)
          omega
        rw [if_neg (show ¬ nI (w - 50) = (15 : Int32) from ne 15 (by omega) (by omega)), if_neg (show ¬ nI (w - 50) = (16 : Int32) from ne 16 (by omega) (by omega)), if_neg (show ¬ nI (w - 50) = (17 : Int32) from ne 17 (by omega) (by omega)), if_neg (show ¬ nI (w - 50) = (18 : Int32) from ne 18 (by omega) (by omega)), if_neg (show ¬ nI (w - 50) = (19 : Int32) from ne 19 (by omega) (by omega)), if_neg (show ¬ w < 70 by omega)] at h1 h0
        rw [show nI w - (50 : Int32) = nI (w - 50) from pk_sub (b := 50) (by omega)]
        have cmp : ∀ v, v = valE (u.1 236) (nI (w - 50)) a → (¬ u.1 236 (295 + 4 * k) = (60 : Int32) → vp_in (nI (295 + 4 * k)) 532 ∧ (¬ u.1 236 (295 + 4 * k) = (61 : Int32) → (v ≤ u.1 236 (294 + 4 * k) → K 0 u) ∧ (¬ v ≤ u.1 236 (294 + 4 * k) → K 1 u)) ∧ (u.1 236 (295 + 4 * k) = (61 : Int32) → (¬ v = u.1 236 (294 + 4 * k) → K 0 u) ∧ (v = u.1 236 (294 + 4 * k) → K 1 u))) ∧ (u.1 236 (295 + 4 * k) = (60 : Int32) → (u.1 236 (294 + 4 * k) ≤ v → K 0 u) ∧ (¬ u.1 236 (294 + 4 * k) ≤ v → K 1 u)) := by
          intro v hv
          rw [← hv] at h1 h0
          unfold cmpE at h1 h0
          refine ⟨fun q => ⟨vp3, fun q2 => ⟨fun y => h0 ?_, fun y => h1 ?_⟩, fun q2 => ⟨fun y => h0 ?_, fun y => h1 ?_⟩⟩, fun q => ⟨fun y => h0 ?_, fun y => h1 ?_⟩⟩
          · rw [if_neg q, if_neg q2]; exact decide_eq_false (Int32.not_lt.mpr y)
          · rw [if_neg q, if_neg q2]; exact decide_eq_true (Int32.not_le.mp y)
          · rw [if_neg q, if_pos q2]; exact decide_eq_false y
          · rw [if_neg q, if_pos q2]; exact decide_eq_true y
          · rw [if_pos q]; exact decide_eq_false (Int32.not_lt.mpr y)
          · rw [if_pos q]; exact decide_eq_true (Int32.not_le.mp y)
        refine ⟨fun y => ⟨fun y2 => ⟨fun y3 => ⟨vp3, cmp _ ?_⟩, fun y3 => ⟨vp_in_nI (by omega) (by decide), vp3, cmp _ ?_⟩⟩, fun y2 => ⟨vp_in_nI (by omega) (by decide), vp3, cmp _ ?_⟩⟩, fun y => ⟨vp_in_nI (by omega) (by decide), vp3, cmp _ ?_⟩⟩
        · unfold valE; rw [if_neg y, if_neg y2, if_neg y3]
        · unfold valE; rw [if_neg y, if_neg y2, if_pos y3]
        · unfold valE; rw [if_neg y, if_pos y2]
        · unfold valE; rw [if_pos y]
end SdC
