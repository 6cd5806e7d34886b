/-! the system's tokens -/
section MJ
variable {u : Mm} {a j b k : Nat} {x : Int64}
theorem mJ_1 : (mJ u a j x).1 = u.1 := rfl
theorem mI_2 {y : Int32} : (mI u a j y).2 = u.2 := rfl
theorem mJ_s : (mJ u a j x).2 a j = x := if_pos ⟨rfl, rfl⟩
theorem mJ_n (h : ¬ (b = a ∧ k = j)) : (mJ u a j x).2 b k = u.2 b k := if_neg h
theorem mJ_r (h : b ≠ a) : (mJ u a j x).2 b = u.2 b := funext fun k => if_neg fun q => h q.1
end MJ
theorem isLt_f {c : Nat} (h : c < 97 ∨ 122 < c) : isLt c = false := by
  cases e : isLt c
  · rfl
  · have := isLt_b.mp e; omega
theorem isDg_f {c : Nat} (h : c < 48 ∨ 57 < c) : isDg c = false := by
  cases e : isDg c
  · rfl
  · have := isDg_b.mp e; omega
/-- the bytes of the tape -/
def TBy (u : Mm) (f : Nat → Nat) : Prop := ∀ i, i < 940 → u.1 2 i = nI (f i) ∧ f i < 256
def tokC (V : Mm) (ρ : RDS) : Prop := V.1 1 4 = nI (ty ρ) ∧ (ty ρ = 3 → V.1 1 5 = nI (wix ρ.2.2.2.1)) ∧ (ρ.2.1 = 2 → V.2 1 6 = lN (e5 ρ.2.2.2.1)) ∧ (ρ.2.1 = 3 ∨ ρ.2.1 = 4 → V.1 1 5 = nI ρ.2.2.1)
def RdC (V : Mm) (f : Nat → Nat) (n m : Nat) (ρ : RDS) : Prop := V.1 1 1 = nI n ∧ V.1 1 2 = 0 ∧ V.1 1 3 = nI ρ.1 ∧ V.1 1 7 = nI m ∧ tokC V ρ ∧ ∃ p, p ≤ n ∧ V.1 1 8 = nI p ∧ (ρ.2.1 ≠ 1 → sk f n p = ρ.2.2.2.2)
def Fr1 (u V : Mm) : Prop := (∀ b, b ≠ 1 → V.1 b = u.1 b) ∧ ∀ b, b ≠ 1 → V.2 b = u.2 b
theorem Fr1.rf {u : Mm} : Fr1 u u := ⟨fun _ _ => rfl, fun _ _ => rfl⟩
theorem Fr1.tr {u v w : Mm} (h : Fr1 u v) (h2 : Fr1 v w) : Fr1 u w := ⟨fun b hb => (h2.1 b hb).trans (h.1 b hb), fun b hb => (h2.2 b hb).trans (h.2 b hb)⟩
theorem Fr1.mI {u v : Mm} {j : Nat} {x : Int32} (h : Fr1 u v) : Fr1 u (mI v 1 j x) := ⟨fun b hb => by rw [mI_r hb]; exact h.1 b hb, h.2⟩
theorem Fr1.mJ {u v : Mm} {j : Nat} {x : Int64} (h : Fr1 u v) : Fr1 u (mJ v 1 j x) := ⟨h.1, fun b hb => by rw [mJ_r hb]; exact h.2 b hb⟩
section TokC
variable {X : Xc} {d : Nat} {u : Mm} {f : Nat → Nat}
theorem c_isLt {K : Int32 → Mm → Prop} {c : Nat} (hd : 1 ≤ d) (hc : c < 256) (h1 : isLt c = true → K 1 u) (h0 : isLt c = false → K 0 u) : CI X d 107 [.int (nI c)] u K := by
  obtain ⟨d, rfl, -⟩ := dpos hd
  refine CI_of mk_X10_isLetter.2.2 rfl (B_T_isLetter_0 ?_)
  simp (disch := omega) only [la1, la2, lt1, lt2, nI_add, pk_mul, nI_clamp, vpn, nI_leI, nI_ltI, nI_eq, ll1, ll2, ll3, ll4, le1, le2, true_and, and_true, not_true_eq_false, not_false_eq_true, forall_const, false_implies, implies_true, if_true, if_false, ite_true, ite_false, and_self, false_and, and_false]
  exact ⟨fun q => h0 (isLt_f (Or.inl q)), fun q => ⟨fun q2 => h0 (isLt_f (Or.inr q2)), fun q2 => h1 (isLt_b.mpr ⟨by omega, by omega⟩)⟩⟩
theorem c_isDg {K : Int32 → Mm → Prop} {c : Nat} (hd : 1 ≤ d) (hc : c < 256) (h1 : isDg c = true → K 1 u) (h0 : isDg c = false → K 0 u) : CI X d 108 [.int (nI c)] u K := by
  obtain ⟨d, rfl, -⟩ := dpos hd
  refine CI_of mk_X10_isDigit.2.2 rfl (B_T_isDigit_0 ?_)
  simp (disch := omega) only [la1, la2, lt1, lt2, nI_add, pk_mul, nI_clamp, vpn, nI_leI, nI_ltI, nI_eq, ll1, ll2, ll3, ll4, le1, le2, true_and, and_true, not_true_eq_false, not_false_eq_true, forall_const, false_implies, implies_true, if_true, if_false, ite_true, ite_false, and_self, false_and, and_false]
  exact ⟨fun q => h0 (isDg_f (Or.inl q)), fun q => ⟨fun q2 => h0 (isDg_f (Or.inr q2)), fun q2 => h1 (isDg_b.mpr ⟨by omega, by omega⟩)⟩⟩
theorem c_mLt {K : Int32 → Mm → Prop} {c : Nat} (hd : 1 ≤ d) (hc : c < 256) (h1 : isLt c = true → K 1 u) (h0 : isLt c = false → K 0 u) : CI X d 195 [.int (nI c)] u K := by
  obtain ⟨d, rfl, -⟩ := dpos hd
  refine CI_of mk_X13_isLetter.2.2 rfl (B_M_isLetter_0 ?_)
  simp (disch := omega) only [la1, la2, lt1, lt2, nI_add, pk_mul, nI_clamp, vpn, nI_leI, nI_ltI, nI_eq, ll1, ll2, ll3, ll4, le1, le2, true_and, and_true, not_true_eq_false, not_false_eq_true, forall_const, false_implies, implies_true, if_true, if_false, ite_true, ite_false, and_self, false_and, and_false]
  exact ⟨fun q => h0 (isLt_f (Or.inl q)), fun q => ⟨fun q2 => h0 (isLt_f (Or.inr q2)), fun q2 => h1 (isLt_b.mpr ⟨by omega, by omega⟩)⟩⟩
theorem c_mDg {K : Int32 → Mm → Prop} {c : Nat} (hd : 1 ≤ d) (hc : c < 256) (h1 : isDg c = true → K 1 u) (h0 : isDg c = false → K 0 u) : CI X d 194 [.int (nI c)] u K := by
  obtain ⟨d, rfl, -⟩ := dpos hd
  refine CI_of mk_X13_isDigit.2.2 rfl (B_M_isDigit_0 ?_)
  simp (disch := omega) only [la1, la2, lt1, lt2, nI_add, pk_mul, nI_clamp, vpn, nI_leI, nI_ltI, nI_eq, ll1, ll2, ll3, ll4, le1, le2, true_and, and_true, not_true_eq_false, not_false_eq_true, forall_const, false_implies, implies_true, if_true, if_false, ite_true, ite_false, and_self, false_and, and_false]
  exact ⟨fun q => h0 (isDg_f (Or.inl q)), fun q => ⟨fun q2 => h0 (isDg_f (Or.inr q2)), fun q2 => h1 (isDg_b.mpr ⟨by omega, by omega⟩)⟩⟩
theorem c_isCmp {K : Int32 → Mm → Prop} {c : Nat} (hd : 1 ≤ d) (hc : c < 1000) (h1 : c = 60 ∨ c = 61 ∨ c = 62 → K 1 u) (h0 : ¬ (c = 60 ∨ c = 61 ∨ c = 62) → K 0 u) : CI X d 110 [.int (nI c)] u K := by
  obtain ⟨d, rfl, -⟩ := dpos hd
  refine CI_of mk_X10_isComparison.2.2 rfl (B_T_isComparison_0 ?_)
  simp (disch := omega) only [la1, la2, lt1, lt2, nI_add, pk_mul, nI_clamp, vpn, nI_leI, nI_ltI, nI_eq, ll1, ll2, ll3, ll4, le1, le2, true_and, and_true, not_true_eq_false, not_false_eq_true, forall_const, false_implies, implies_true, if_true, if_false, ite_true, ite_false, and_self, false_and, and_false]
  exact ⟨fun q => h1 (by omega), fun q => ⟨fun q2 => h1 (by omega), fun q2 => ⟨fun q3 => h0 (by omega), fun q3 => h1 (by omega)⟩⟩⟩
theorem c_isSg {K : Int32 → Mm → Prop} {c : Nat} (hd : 2 ≤ d) (hc : c < 256) (h1 : isSg c = true → K 1 u) (h0 : isSg c = false → K 0 u) : CI X d 109 [.int (nI c)] u K := by
  obtain ⟨d, rfl, hd1⟩ := dpos hd
  have hs : isSg c = decide (c = 59 ∨ c = 60 ∨ c = 61 ∨ c = 62 ∨ c = 40 ∨ c = 41) := by
    rw [Bool.eq_iff_iff]; simp [isSg]; omega
  rw [hs] at h1 h0
  refine CI_of mk_X10_isSignByte.2.2 rfl (B_T_isSignByte_0 ?_)
  simp (disch := omega) only [la1, la2, lt1, lt2, nI_add, pk_mul, nI_clamp, vpn, nI_leI, nI_ltI, nI_eq, ll1, ll2, ll3, ll4, le1, le2, true_and, and_true, not_true_eq_false, not_false_eq_true, forall_const, false_implies, implies_true, if_true, if_false, ite_true, ite_false, and_self, false_and, and_false]
  refine ⟨fun q => h1 (decide_eq_true (by omega)), fun q => ⟨fun q2 => h1 (decide_eq_true (by omega)), fun q2 => ⟨fun q3 => h1 (decide_eq_true (by omega)), fun q3 => c_isCmp hd1 (by omega) (fun q4 => ⟨fun z => absurd z (by decide), fun _ => h1 (decide_eq_true (by omega))⟩) (fun q4 => ⟨fun _ => h0 (decide_eq_false (by omega)), fun z => absurd rfl z⟩)⟩⟩⟩
theorem c_joined {K : Int64 → Mm → Prop} {x : Int64} {c : Nat} (hd : 1 ≤ d) (hK : K (nmS x c) u) : CJ X d 101 [.long x, .int (nI c)] u K := by
  obtain ⟨d, rfl, -⟩ := dpos hd
  exact CJ_of mk_X10_joined.2.2 rfl (B_T_joined_0 hK)
theorem c_tellW {K : Mm → Prop} {l : List Nat} (hd : 1 ≤ d) (hl : lOk l) (hw : WordsR u) (e6 : u.2 1 6 = lN (e5 l)) (hK : ∀ V : Mm, (∀ b, b ≠ 1 → V.1 b = u.1 b) → V.2 = u.2 → (∀ k, k ≠ 4 → k ≠ 5 → V.1 1 k = u.1 1 k) → V.1 1 4 = nI (if wix l < 24 then 3 else 2) → (wix l < 24 → V.1 1 5 = nI (wix l)) → K V) : CV X d 106 [.ref 1] u K := by
  obtain ⟨d, rfl, -⟩ := dpos hd
  refine CV_of mk_X10_tellWordFromName.2.2 rfl (B_T_tellWordFromName_0 ?_)
  refine lupR (n := 24) (W := fun w (V : Mm) => VV X d 106 K 7 [some (.ref 1), some (.int (nI w))] [] V)
    (I := fun w V => (∀ b, b ≠ 1 → V.1 b = u.1 b) ∧ V.2 = u.2 ∧ (∀ k, k ≠ 4 → k ≠ 5 → V.1 1 k = u.1 1 k) ∧ V.1 1 4 = nI (if wix l < w then 3 else 2) ∧ (wix l < w → V.1 1 5 = nI (wix l))) ?_ _ ⟨fun b hb => mI_r hb, rfl, fun k h1 h2 => mI_n (by omega), by rw [mI_s, if_neg (by omega)]; rfl, fun h => absurd h (by omega)⟩
  rintro w V hw24 ⟨i1, i2, i3, i4, i5⟩ ih
  refine B_T_tellWordFromName_7 ?_
  rw [nI_1, nI_clamp (show w < 2 ^ 31 by omega), i2]
  refine ⟨fun z => ?_, fun z => ?_⟩
  · have z := (ll2 (n := 24) (m := w) (by omega) (by decide)).mp z
    rw [show w = 24 from Nat.le_antisymm hw24 z] at i4 i5
    exact hK V i1 i2 i3 i4 i5
  · have z : w < 24 := Nat.lt_of_not_le fun q => z ((ll2 (n := 24) (m := w) (by omega) (by decide)).mpr q)
    have ih := ih z
    have hx : u.2 3 w = u.2 1 6 ↔ wix l = w := by
      rw [hw w z, e6, e5_iff (wrds_ok w z) hl, wix_iff z]
    refine ⟨vp_in_nI z (by decide), fun y => ih V ⟨i1, i2, i3, ?_, fun h => ?_⟩, fun y => ih _ ⟨fun b hb => by rw [mI_r hb, mI_r hb]; exact i1 b hb, i2, fun k h1 h2 => by rw [mI_n (by omega), mI_n (by omega)]; exact i3 k h1 h2, ?_, fun h => ?_⟩⟩
    · have y : ¬ wix l = w := fun q => y ((lg_cmp_eq _ _).mpr (hx.mpr q))
      rw [i4]
      congr 1
      by_cases q : wix l < w
      · rw [if_pos q, if_pos (by omega)]
      · rw [if_neg q, if_neg (by omega)]
    · have y : ¬ wix l = w := fun q => y ((lg_cmp_eq _ _).mpr (hx.mpr q))
      exact i5 (by omega)
    · have y : wix l = w := hx.mp ((lg_cmp_eq _ _).mp y)
      rw [mI_n (by omega), mI_s, if_pos (by omega)]
      rfl
    · have y : wix l = w := hx.mp ((lg_cmp_eq _ _).mp y)
      rw [mI_s, y]
theorem tokF_LD {n m s : Nat} (hs : s < n) (hm : ¬ (m < n ∧ m ≤ s)) (hLD : isLD (f s) = true) : tokF f n m s = (if (rb f n s).all isLt = true ∧ (rb f n s).length ≤ 7 then (s, 2, 0, l96 (rb f n s), sk f n (s + (rb f n s).length))
    else if (rb f n s).all isDg = true ∧ (rb f n s).length ≤ 3 then (s, 3, num (rb f n s), [], sk f n (s + (rb f n s).length))
    else (s, 1, 0, [], sk f n (s + (rb f n s).length))) := by
  unfold tokF
  rw [if_neg hm, if_neg (by omega), if_pos hLD]
theorem rb_cnt {b : List Nat} (h : ∀ x ∈ b, isLD x = true) : (b.all isLt = true ↔ b.countP isLt = b.length) ∧ (b.all isDg = true ↔ b.countP isLt = 0) := by
  refine ⟨?_, ?_⟩
  · rw [List.countP_eq_length, List.all_eq_true]
  · rw [List.countP_eq_zero, List.all_eq_true]
    constructor
    · intro h2 x hx hl
      have h3 := isDg_b.mp (h2 x hx)
      have h4 := isLt_b.mp hl
      omega
    · intro h2 x hx
      have h3 := h x hx
      unfold isLD at h3
      rcases Bool.or_eq_true _ _ ▸ h3 with h4 | h4
      · exact absurd h4 (h2 x hx)
      · exact h4
def stT2 (X : Xc) (d : Nat) (K : Mm → Prop) (u : Mm) : Prop := ((u.1 1 3) < (u.1 1 1) → vp_in (u.1 1 3) 940 ∧ CI X d 107 [.int (u.1 2 (u.1 1 3).toNatClampNeg)] u (fun w1 u1 => (¬ w1 = 0 → CV X d 105 [.ref 1] u1 (fun u2 => K u2)) ∧ (w1 = 0 → vp_in (u1.1 1 3) 940 ∧ CI X d 108 [.int (u1.1 2 (u1.1 1 3).toNatClampNeg)] u1 (fun w3 u3 => (w3 = 0 → vp_in (u3.1 1 3) 940 ∧ CI X d 109 [.int ((mI u3 1 5 (u3.1 2 (u3.1 1 3).toNatClampNeg)).1 1 5)] (mI u3 1 5 (u3.1 2 (u3.1 1 3).toNatClampNeg)) (fun w4 u4 => (w4 = 0 → K (mI (mI u4 1 4 (1 : Int32)) 1 8 (((mI u4 1 4 (1 : Int32)).1 1 3) + (1 : Int32)))) ∧ (¬ w4 = 0 → K (mI (mI u4 1 4 (5 : Int32)) 1 8 (((mI u4 1 4 (5 : Int32)).1 1 3) + (1 : Int32)))))) ∧ (¬ w3 = 0 → CV X d 105 [.ref 1] u3 (fun u5 => K u5)))))) ∧ (¬ (u.1 1 3) < (u.1 1 1) → K (mI u 1 4 (0 : Int32)))
def stTL (X : Xc) (d : Nat) (K : Mm → Prop) (u : Mm) : Prop := ((u.1 1 1) ≤ (u.1 1 7) → stT2 X d K u) ∧ (¬ (u.1 1 1) ≤ (u.1 1 7) → ((u.1 1 3) < (u.1 1 7) → stT2 X d K u) ∧ (¬ (u.1 1 3) < (u.1 1 7) → K (mI (mI u 1 3 (u.1 1 7)) 1 4 (1 : Int32))))
def ldTL (X : Xc) (d : Nat) (K : Mm → Prop) (v1 v2 : Int32) (u : Mm) : Prop := (¬ v1 = 0 → (¬ v2 = 0 → K (mI u 1 4 (1 : Int32))) ∧ (v2 = 0 → ((7 : Int32) < v1 → K (mI u 1 4 (1 : Int32))) ∧ (¬ (7 : Int32) < v1 → CV X d 106 [.ref 1] (mI u 1 4 (1 : Int32)) (fun u1 => K u1)))) ∧ (v1 = 0 → ((3 : Int32) < v2 → (¬ v2 = 0 → K (mI u 1 4 (1 : Int32))) ∧ (v2 = 0 → ((7 : Int32) < v1 → K (mI u 1 4 (1 : Int32))) ∧ (¬ (7 : Int32) < v1 → CV X d 106 [.ref 1] (mI u 1 4 (1 : Int32)) (fun u2 => K u2)))) ∧ (¬ (3 : Int32) < v2 → K (mI (mI u 1 4 (1 : Int32)) 1 4 (4 : Int32))))
theorem c_readLD {K : Mm → Prop} {n m s : Nat} (hd : 2 ≤ d) (hs : s < n) (hn : n ≤ 940) (hm : ¬ (m < n ∧ m ≤ s)) (hb : TBy u f) (hw : WordsR u) (e1 : u.1 1 1 = nI n) (e2 : u.1 1 2 = 0) (e3 : u.1 1 3 = nI s) (e7 : u.1 1 7 = nI m) (hLD : isLD (f s) = true) (hK : ∀ V, Fr1 u V → RdC V f n m (tokF f n m s) → K V) : CV X d 105 [.ref 1] u K := by
  obtain ⟨d, rfl, hd1⟩ := dpos hd
  obtain ⟨hrl, hrm⟩ := rb_le' (f := f) (n := n) (p := s) (by omega)
  obtain ⟨cL, cD⟩ := rb_cnt hrm
  have hcp : (rb f n s).countP isLt ≤ (rb f n s).length := List.countP_le_length
  have hne : 1 ≤ (rb f n s).length := by rw [tk_rb hs hLD, List.length_cons]; omega
  have tail : ∀ V : Mm, Fr1 u V → (∀ k, k ≠ 4 → k ≠ 5 → k ≠ 8 → V.1 1 k = u.1 1 k) → V.1 1 8 = nI (s + (rb f n s).length) → V.1 1 5 = vlC (rb f n s) → V.2 1 6 = nmC (rb f n s) → ldTL X d K (nI ((rb f n s).countP isLt)) (nI ((rb f n s).length - (rb f n s).countP isLt)) V := by
    intro V v1 v2 v3 v4 v5
    have fin : ∀ (V' : Mm) (ρ : RDS), tokF f n m s = ρ → Fr1 V V' → (∀ k, k ≠ 4 → k ≠ 5 → V'.1 1 k = V.1 1 k) → ρ.1 = s → ρ.2.2.2.2 = sk f n (s + (rb f n s).length) → tokC V' ρ → K V' := by
      intro V' ρ hρ x1 x2 hs' hsp x3
      refine hK V' (v1.tr x1) ?_
      rw [hρ]
      refine ⟨?_, ?_, ?_, ?_, x3, s + (rb f n s).length, hrl, ?_, fun _ => hsp.symm⟩
      · rw [x2 1 (by omega) (by omega), v2 1 (by omega) (by omega) (by omega)]; exact e1
      · rw [x2 2 (by omega) (by omega), v2 2 (by omega) (by omega) (by omega)]; exact e2
      · rw [x2 3 (by omega) (by omega), v2 3 (by omega) (by omega) (by omega), hs']; exact e3
      · rw [x2 7 (by omega) (by omega), v2 7 (by omega) (by omega) (by omega)]; exact e7
      · rw [x2 8 (by omega) (by omega)]; exact v3
    have wrong : ¬ ((rb f n s).all isLt = true ∧ (rb f n s).length ≤ 7) → ¬ ((rb f n s).all isDg = true ∧ (rb f n s).length ≤ 3) → K (mI V 1 4 1) := by
      intro h1 h2
      refine fin _ (s, 1, 0, [], sk f n (s + (rb f n s).length)) ?_ Fr1.rf.mI (fun k k1 k2 => mI_n (by omega)) rfl rfl ⟨by rw [mI_s]; rfl, fun q => (by cases q), fun q => (by cases q), fun q => (by rcases q with q | q <;> cases q)⟩
      rw [tokF_LD hs hm hLD, if_neg h1, if_neg h2]
    unfold ldTL
    generalize hcv : (rb f n s).countP isLt = c at *
    simp (disch := omega) only [la1, la2, lt1, lt2, nI_add, pk_mul, nI_clamp, vpn, nI_leI, nI_ltI, nI_eq, ll1, ll2, ll3, ll4, le1, le2, true_and, and_true, not_true_eq_false, not_false_eq_true, forall_const, false_implies, implies_true, if_true, if_false, ite_true, ite_false, and_self, false_and, and_false]
    refine ⟨fun q1 => ⟨fun q2 => wrong (fun z => by have := cL.mp z.1; omega) (fun z => by have := cD.mp z.1; omega), fun q2 => ⟨fun q3 => wrong (fun z => by have := cL.mp z.1; omega) (fun z => by have := cD.mp z.1; omega), fun q3 => ?_⟩⟩, fun q1 => ⟨fun q2 => ⟨fun q3 => wrong (fun z => by have := cL.mp z.1; omega) (fun z => by omega), fun q3 => absurd q3 (by omega)⟩, fun q2 => ?_⟩⟩
    · have hall : (rb f n s).all isLt = true := cL.mpr (by omega)
      have hl7 : (rb f n s).length ≤ 7 := by omega
      have hlo := l96_ok hall hne hl7
      obtain ⟨n1, n2⟩ := nm_eq _ hall hl7
      refine c_tellW hd1 hlo (hw.congr (by show V.2 3 = _; exact v1.2 3 (by omega))) (by show V.2 1 6 = _; rw [v5, n1]) fun V' x1 x2 x3 x4 x5 => ?_
      refine fin V' (s, 2, 0, l96 (rb f n s), sk f n (s + (rb f n s).length)) ?_ ⟨fun b hb => by rw [x1 b hb, mI_r hb], fun b hb => by rw [x2]; rfl⟩ (fun k k1 k2 => by rw [x3 k k1 k2, mI_n (by omega)]) rfl rfl ⟨x4, fun q => x5 ?_, fun _ => by rw [x2]; show V.2 1 6 = _; rw [v5, n1], fun q => (by rcases q with q | q <;> cases q)⟩
      · rw [tokF_LD hs hm hLD, if_pos ⟨hall, hl7⟩]
      · unfold ty at q
        dsimp only at q
        rw [if_neg (by omega), if_neg (by omega), if_pos rfl] at q
        split at q
        · assumption
        · cases q
    · have hall : (rb f n s).all isDg = true := cD.mpr (by omega)
      have hl3 : (rb f n s).length ≤ 3 := by omega
      obtain ⟨n1, n2⟩ := nb_eq _ hall hl3
      refine fin _ (s, 3, num (rb f n s), [], sk f n (s + (rb f n s).length)) ?_ Fr1.rf.mI.mI (fun k k1 k2 => by rw [mI_n (by omega), mI_n (by omega)]) rfl rfl ⟨by rw [mI_s]; rfl, fun q => (by cases q), fun q => (by cases q), fun _ => by rw [mI_n (by omega), mI_n (by omega), v4, n1]⟩
      rw [tokF_LD hs hm hLD, if_neg (fun z => by have := cL.mp z.1; omega), if_pos ⟨hall, hl3⟩]
  refine CV_of mk_X10_readLettersAndDigits.2.2 rfl (B_T_readLettersAndDigits_0 ?_)
  suffices hz : ∀ k (pre : List Nat) (V : Mm), s + pre.length + k = n → rb f n s = pre ++ rb f n (s + pre.length) → Fr1 u V → (∀ k, k ≠ 4 → k ≠ 5 → k ≠ 8 → V.1 1 k = u.1 1 k) → V.1 1 8 = nI (s + pre.length) → V.1 1 5 = vlC pre → V.2 1 6 = nmC pre → VV X d 105 K 22 [some (.ref 1), some (.int (nI (pre.countP isLt))), some (.int (nI (pre.length - pre.countP isLt)))] [] V by
    refine hz (n - s) [] _ (by simp; omega) rfl Fr1.rf.mJ.mI.mI (fun k k1 k2 k3 => ?_) ?_ ?_ ?_
    · rw [mI_n (by omega), mI_n (by omega), mJ_1]
    · rw [mI_s, mI_n (by omega), mJ_1, e3]; rfl
    · rw [mI_n (by omega), mI_s]; rfl
    · rw [mI_2, mI_2, mJ_s]; rfl
  intro k
  induction k with
  | zero =>
    intro pre V hk hpre v1 v2 v3 v4 v5
    have hnil : rb f n (s + pre.length) = [] := rb_nil (Or.inl (by omega))
    rw [hnil, List.append_nil] at hpre
    refine B_T_readLettersAndDigits_22 ?_
    rw [v2 1 (by omega) (by omega) (by omega), e1, v3]
    refine ⟨fun _ => ?_, fun z => absurd (nI_le (by omega) (by omega)) z⟩
    rw [hpre] at tail
    exact tail V v1 v2 v3 v4 v5
  | succ k ih =>
    intro pre V hk hpre v1 v2 v3 v4 v5
    have hp : s + pre.length < n := by omega
    obtain ⟨hby, hb256⟩ := hb (s + pre.length) (by omega)
    have eby : V.1 2 (s + pre.length) = nI (f (s + pre.length)) := by rw [v1.1 2 (by omega)]; exact hby
    have hcp2 : pre.countP isLt ≤ pre.length := List.countP_le_length
    refine B_T_readLettersAndDigits_22 ?_
    rw [v2 1 (by omega) (by omega) (by omega), e1, v3, nI_clamp (show s + pre.length < 2 ^ 31 by omega), eby]
    refine ⟨fun z => absurd z (nI_ge (by omega) (by omega)), fun _ => ⟨vp_in_nI (by omega) (by decide), ?_⟩⟩
    refine c_isLt hd1 hb256 (fun hl => ?_) (fun hl => ?_)
    · have hLD2 : isLD (f (s + pre.length)) = true := by unfold isLD; rw [hl]; rfl
      refine ⟨fun _ => ?_, fun z => absurd z (by decide)⟩
      rw [v3, nI_clamp (show s + pre.length < 2 ^ 31 by omega), eby]
      refine ⟨vp_in_nI (by omega) (by decide), c_isLt hd1 hb256 (fun _ => ⟨fun z => absurd z (by decide), fun _ => ?_⟩) (fun q => by rw [hl] at q; cases q)⟩
      rw [v3, nI_clamp (show s + pre.length < 2 ^ 31 by omega), eby]
      refine ⟨vp_in_nI (by omega) (by decide), c_joined hd1 ?_⟩
      have := ih (pre ++ [f (s + pre.length)]) (mI (mJ V 1 6 (nmS (V.2 1 6) (f (s + pre.length)))) 1 8 ((mJ V 1 6 (nmS (V.2 1 6) (f (s + pre.length)))).1 1 8 + 1)) (by rw [List.length_append, List.length_singleton]; omega) (by rw [hpre, tk_rb hp hLD2, List.append_assoc, List.length_append, List.length_singleton]; rfl) v1.mJ.mI (fun k k1 k2 k3 => by rw [mI_n (by omega), mJ_1]; exact v2 k k1 k2 k3) (by rw [mI_s, mJ_1, v3, nI_1, List.length_append, List.length_singleton]; rfl) (by rw [mI_n (by omega), mJ_1, v4, vlC_app, if_pos hl]) (by rw [mI_2, mJ_s, v5, nmC_app, if_pos hl])
      rw [List.countP_append, List.length_append, List.length_singleton, show [f (s + pre.length)].countP isLt = 1 by simp [hl], show pre.length + 1 - (pre.countP isLt + 1) = pre.length - pre.countP isLt by omega, ← nI_1] at this
      exact this
    · refine ⟨fun z => absurd rfl z, fun _ => ?_⟩
      rw [v3, nI_clamp (show s + pre.length < 2 ^ 31 by omega), eby]
      refine ⟨vp_in_nI (by omega) (by decide), c_isDg hd1 hb256 (fun hg => ?_) (fun hg => ?_)⟩
      · have hLD2 : isLD (f (s + pre.length)) = true := by unfold isLD; rw [hl, hg]; rfl
        refine ⟨fun z => absurd z (by decide), fun _ => ?_⟩
        rw [v3, nI_clamp (show s + pre.length < 2 ^ 31 by omega), eby]
        refine ⟨vp_in_nI (by omega) (by decide), c_isLt hd1 hb256 (fun q => by rw [hl] at q; cases q) (fun _ => ⟨fun _ => ?_, fun z => absurd rfl z⟩)⟩
        rw [v3, nI_clamp (show s + pre.length < 2 ^ 31 by omega), eby]
        refine ⟨vp_in_nI (by omega) (by decide), ?_⟩
        have := ih (pre ++ [f (s + pre.length)]) (mI (mI V 1 5 (V.1 1 5 * 10 + nI (f (s + pre.length)) - 48)) 1 8 ((mI V 1 5 (V.1 1 5 * 10 + nI (f (s + pre.length)) - 48)).1 1 8 + 1)) (by rw [List.length_append, List.length_singleton]; omega) (by rw [hpre, tk_rb hp hLD2, List.append_assoc, List.length_append, List.length_singleton]; rfl) v1.mI.mI (fun k k1 k2 k3 => by rw [mI_n (by omega), mI_n (by omega)]; exact v2 k k1 k2 k3) (by rw [mI_s, mI_n (by omega), v3, nI_1, List.length_append, List.length_singleton]; rfl) (by rw [mI_n (by omega), mI_s, v4, vlC_app, hl]; rfl) (by rw [mI_2, mI_2, v5, nmC_app, hl]; rfl)
        rw [List.countP_append, List.length_append, List.length_singleton, show [f (s + pre.length)].countP isLt = 0 by simp [hl], Nat.add_zero, show pre.length + 1 - pre.countP isLt = pre.length - pre.countP isLt + 1 by omega, ← nI_1] at this
        exact this
      · refine ⟨fun _ => ?_, fun z => absurd rfl z⟩
        have hnil : rb f n (s + pre.length) = [] := rb_nil (Or.inr (by unfold isLD; rw [hl, hg]; rfl))
        rw [hnil, List.append_nil] at hpre
        rw [hpre] at tail
        exact tail V v1 v2 v3 v4 v5
theorem s_tail {K : Mm → Prop} {n m s : Nat} (hd : 3 ≤ d) (hs : s ≤ n) (hn : n ≤ 940) (hm9 : m ≤ 940) (hb : TBy u f) (hw : WordsR u) (e1 : u.1 1 1 = nI n) (e2 : u.1 1 2 = 0) (e3 : u.1 1 3 = nI s) (e7 : u.1 1 7 = nI m) (e8 : ∃ p, p ≤ n ∧ u.1 1 8 = nI p ∧ sk f n p = s) (hK : ∀ V, Fr1 u V → RdC V f n m (tokF f n m s) → K V) : stTL X d K u := by
  have t2 : ¬ (m < n ∧ m ≤ s) → stT2 X d K u := by
    intro hm
    unfold stT2
    rw [e1, e3, nI_clamp (show s < 2 ^ 31 by omega)]
    refine ⟨fun z => ?_, fun z => ?_⟩
    · have z := (nI_ltI (by omega) (by omega)).mp z
      obtain ⟨hby, hb256⟩ := hb s (by omega)
      have rd : isLD (f s) = true → CV X d 105 [.ref 1] u K := fun hLD => c_readLD (by omega) z hn hm hb hw e1 e2 e3 e7 hLD hK
      rw [hby]
      refine ⟨vp_in_nI (by omega) (by decide), c_isLt (by omega) hb256 (fun hl => ⟨fun _ => rd (by unfold isLD; rw [hl]; rfl), fun z => absurd z (by decide)⟩) (fun hl => ⟨fun z => absurd rfl z, fun _ => ?_⟩)⟩
      rw [e3, nI_clamp (show s < 2 ^ 31 by omega), hby]
      refine ⟨vp_in_nI (by omega) (by decide), c_isDg (by omega) hb256 (fun hg => ⟨fun z => absurd z (by decide), fun _ => rd (by unfold isLD; rw [hl, hg]; rfl)⟩) (fun hg => ⟨fun _ => ?_, fun z => absurd rfl z⟩)⟩
      rw [e3, nI_clamp (show s < 2 ^ 31 by omega), hby, mI_s]
      have hLD : isLD (f s) = false := by unfold isLD; rw [hl, hg]; rfl
      have sgn : ∀ x : Nat, (∀ ρ, ρ = tokF f n m s → ρ.1 = s ∧ ρ.2.2.2.2 = sk f n (s + 1) ∧ ρ.2.1 ≠ 2 ∧ ty ρ = x ∧ ρ.2.1 ≠ 3 ∧ (ρ.2.1 = 4 → ρ.2.2.1 = f s)) → x ≠ 3 → K (mI (mI (mI u 1 5 (nI (f s))) 1 4 (nI x)) 1 8 ((mI (mI u 1 5 (nI (f s))) 1 4 (nI x)).1 1 3 + 1)) := by
        intro x hx hx3
        obtain ⟨h1, h2, h3, h4, h5, h6⟩ := hx _ rfl
        refine hK _ Fr1.rf.mI.mI.mI ⟨?_, ?_, ?_, ?_, ⟨?_, fun q => ?_, fun q => absurd q h3, fun q => ?_⟩, s + 1, by omega, ?_, fun _ => h2.symm⟩
        · rw [mI_n (by omega), mI_n (by omega), mI_n (by omega)]; exact e1
        · rw [mI_n (by omega), mI_n (by omega), mI_n (by omega)]; exact e2
        · rw [mI_n (by omega), mI_n (by omega), mI_n (by omega), h1]; exact e3
        · rw [mI_n (by omega), mI_n (by omega), mI_n (by omega)]; exact e7
        · rw [mI_n (by omega), mI_s, h4]
        · rw [h4] at q; exact absurd q hx3
        · rw [mI_n (by omega), mI_n (by omega), mI_s, h6 (q.resolve_left h5)]
        · rw [mI_s, mI_n (by omega), mI_n (by omega), e3, nI_1]
      have tk : tokF f n m s = if isSg (f s) = true then (s, 4, f s, [], sk f n (s + 1)) else (s, 1, 0, [], sk f n (s + 1)) := by
        unfold tokF
        rw [if_neg hm, if_neg (by omega), if_neg (by rw [hLD]; decide)]
      refine ⟨vp_in_nI (by omega) (by decide), c_isSg (by omega) hb256 (fun hg => ⟨fun z => absurd z (by decide), fun _ => sgn 5 (fun ρ hρ => ?_) (by decide)⟩) (fun hg => ⟨fun _ => sgn 1 (fun ρ hρ => ?_) (by decide), fun z => absurd rfl z⟩)⟩
      · rw [tk, if_pos hg] at hρ
        subst hρ
        exact ⟨rfl, rfl, (fun q => by cases q), rfl, (fun q => by cases q), fun _ => rfl⟩
      · rw [tk, if_neg (by rw [hg]; decide)] at hρ
        subst hρ
        exact ⟨rfl, rfl, (fun q => by cases q), rfl, (fun q => by cases q), fun q => by cases q⟩
    · have z := mt (nI_ltI (a := s) (b := n) (by omega) (by omega)).mpr z
      have tk : tokF f n m s = (s, 0, 0, [], s) := by
        unfold tokF
        rw [if_neg hm, if_pos (by omega)]
      obtain ⟨p, p1, p2, p3⟩ := e8
      refine hK _ Fr1.rf.mI ?_
      rw [tk]
      refine ⟨?_, ?_, ?_, ?_, ⟨by rw [mI_s]; rfl, fun q => (by cases q), fun q => (by cases q), fun q => (by rcases q with q | q <;> cases q)⟩, p, p1, ?_, fun _ => p3⟩
      · rw [mI_n (by omega)]; exact e1
      · rw [mI_n (by omega)]; exact e2
      · rw [mI_n (by omega)]; exact e3
      · rw [mI_n (by omega)]; exact e7
      · rw [mI_n (by omega)]; exact p2
  unfold stTL
  rw [e1, e7, e3]
  refine ⟨fun z => t2 (fun q => ?_), fun z => ⟨fun z2 => t2 (fun q => ?_), fun z2 => ?_⟩⟩
  · have z := (nI_leI (by omega) (by omega)).mp z; omega
  · have z2 := (nI_ltI (by omega) (by omega)).mp z2; omega
  · have z := mt (nI_leI (a := n) (b := m) (by omega) (by omega)).mpr z
    have z2 := mt (nI_ltI (a := s) (b := m) (by omega) (by omega)).mpr z2
    have tk : tokF f n m s = (m, 1, 0, [], s) := by
      unfold tokF
      rw [if_pos (by omega)]
    obtain ⟨p, p1, p2, p3⟩ := e8
    refine hK _ Fr1.rf.mI.mI ?_
    rw [tk]
    refine ⟨?_, ?_, ?_, ?_, ⟨by rw [mI_s]; rfl, fun q => (by cases q), fun q => (by cases q), fun q => (by rcases q with q | q <;> cases q)⟩, p, p1, ?_, fun q => absurd rfl q⟩
    · rw [mI_n (by omega), mI_n (by omega)]; exact e1
    · rw [mI_n (by omega), mI_n (by omega)]; exact e2
    · rw [mI_n (by omega), mI_s]
    · rw [mI_n (by omega), mI_n (by omega)]; exact e7
    · rw [mI_n (by omega), mI_n (by omega)]; exact p2
theorem isBl_iff {c : Nat} : isBl c = true ↔ c = 32 ∨ c = 10 := by simp [isBl]
theorem l_step {K : Mm → Prop} {n m s : Nat} (hd : 3 ≤ d) (hn : n ≤ 940) (hm9 : m ≤ 940) (hb : TBy u f) (hw : WordsR u) (e1 : u.1 1 1 = nI n) (e2 : u.1 1 2 = 0) (e7 : u.1 1 7 = nI m) (e8 : ∃ p, p ≤ n ∧ u.1 1 8 = nI p ∧ sk f n p = s) (hK : ∀ V, Fr1 u V → RdC V f n m (tokF f n m s) → K V) : ∀ k p, p + k = n → sk f n p = s → VV X d 104 K 16 [some (.ref 1)] [] (mI u 1 3 (nI p)) := by
  have tl : ∀ p, p ≤ n → sk f n p = s → (n ≤ p ∨ isBl (f p) = false) → stTL X d K (mI u 1 3 (nI p)) := by
    intro p hp hs h
    rw [sk_st h] at hs
    subst hs
    refine s_tail hd hp hn hm9 (fun i hi => by rw [mI_r (by omega)]; exact hb i hi) (hw.congr rfl) (by rw [mI_n (by omega)]; exact e1) (by rw [mI_n (by omega)]; exact e2) mI_s (by rw [mI_n (by omega)]; exact e7) (by rw [mI_n (by omega)]; exact e8) fun V v1 v2 => hK V ((Fr1.rf.mI).tr v1) v2
  intro k
  induction k with
  | zero =>
    intro p hp hs
    refine B_T_step_16 ⟨fun _ => tl p (by omega) hs (Or.inl (by omega)), fun z => ?_⟩
    rw [mI_n (by omega), mI_s, e1] at z
    exact absurd (nI_le (by omega) (by omega)) z
  | succ k ih =>
    intro p hp hs
    obtain ⟨hby, hb256⟩ := hb p (by omega)
    refine B_T_step_16 ⟨fun z => ?_, fun z => ?_⟩
    · rw [mI_n (by omega), mI_s, e1] at z
      exact absurd z (nI_ge (by omega) (by omega))
    · have lp : isBl (f p) = true → VV X d 104 K 16 [some (.ref 1)] [] (mI (mI u 1 3 (nI p)) 1 3 ((mI u 1 3 (nI p)).1 1 3 + 1)) := by
        intro hbl
        have e : mI (mI u 1 3 (nI p)) 1 3 ((mI u 1 3 (nI p)).1 1 3 + 1) = mI u 1 3 (nI (p + 1)) := by
          refine mm_ext (fun b k => ?_) rfl
          rw [mI_s, nI_1]
          simp only [mI_at]
          grind
        rw [e]
        exact ih (p + 1) (by omega) (by rw [← sk_bl (by omega) hbl]; exact hs)
      have vi : vp_in ((mI u 1 3 (nI p)).1 1 3) 940 := by rw [mI_s]; exact vp_in_nI (by omega) (by decide)
      have by' : (mI u 1 3 (nI p)).1 2 ((mI u 1 3 (nI p)).1 1 3).toNatClampNeg = nI (f p) := by rw [mI_s, nI_clamp (by omega), mI_r (by omega)]; exact hby
      refine ⟨vi, fun q => lp ?_, fun q => ⟨vi, fun q2 => tl p (by omega) hs (Or.inr ?_), fun q2 => lp ?_⟩⟩
      · rw [by'] at q
        exact isBl_iff.mpr (Or.inl ((le1 (n := 32) (by omega) (by decide)).mp q))
      · rw [by'] at q q2
        cases hbl : isBl (f p)
        · rfl
        · rcases isBl_iff.mp hbl with h | h
          · rw [h] at q; exact absurd rfl q
          · rw [h] at q2; exact absurd rfl q2
      · rw [by'] at q2
        exact isBl_iff.mpr (Or.inr ((le1 (n := 10) (by omega) (by decide)).mp q2))
/-- one token on -/
def nxt (f : Nat → Nat) (n m : Nat) (ρ : RDS) : RDS := tokF f n m ρ.2.2.2.2
theorem c_step {K : Mm → Prop} {n m : Nat} {ρ : RDS} (hd : 4 ≤ d) (hn : n ≤ 940) (hm9 : m ≤ 940) (hb : TBy u f) (hw : WordsR u) (hr : RdC u f n m ρ) (h1 : ρ.2.1 ≠ 1) (hK : ∀ V, Fr1 u V → RdC V f n m (nxt f n m ρ) → K V) : CV X d 104 [.ref 1] u K := by
  obtain ⟨d, rfl, hd1⟩ := dpos hd
  obtain ⟨e1, e2, e3, e7, et, p, p1, p2, p3⟩ := hr
  refine CV_of mk_X10_step.2.2 rfl (B_T_step_0 ⟨fun _ => ?_, fun z => absurd e2 z⟩)
  rw [p2]
  exact l_step hd1 hn hm9 hb hw e1 e2 e7 ⟨p, p1, p2, p3 h1⟩ hK (n - p) p (by omega) (p3 h1)
theorem c_begin {K : Mm → Prop} {n m : Nat} (hd : 5 ≤ d) (hn : n ≤ 940) (hm9 : m ≤ 940) (hb : TBy u f) (hw : WordsR u) (e1 : u.1 1 1 = nI n) (hK : ∀ V, Fr1 u V → RdC V f n m (tokF f n m (sk f n 0)) → K V) : CV X d 103 [.ref 1, .int (nI m)] u K := by
  obtain ⟨d, rfl, hd1⟩ := dpos hd
  refine CV_of mk_X10_begin.2.2 rfl (B_T_begin_0 ?_)
  obtain ⟨d, rfl, hd2⟩ := dpos hd1
  have e8 : (mI (mI (mI u 1 7 (nI m)) 1 8 0) 1 2 0).1 1 8 = nI 0 := by rw [mI_n (by omega), mI_s]; rfl
  refine CV_of mk_X10_step.2.2 rfl (B_T_step_0 ⟨fun _ => ?_, fun z => absurd mI_s z⟩)
  rw [e8]
  refine l_step (u := mI (mI (mI u 1 7 (nI m)) 1 8 0) 1 2 0) hd2 hn hm9 (fun i hi => by rw [mI_r (by omega), mI_r (by omega), mI_r (by omega)]; exact hb i hi) (hw.congr rfl) (by rw [mI_n (by omega), mI_n (by omega), mI_n (by omega)]; exact e1) mI_s (by rw [mI_n (by omega), mI_n (by omega), mI_s]) ⟨0, by omega, e8, rfl⟩ (fun V v1 v2 => hK V (Fr1.rf.mI.mI.mI.tr v1) v2) n 0 (by omega) rfl
end TokC
