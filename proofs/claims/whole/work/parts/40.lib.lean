/-! what the small methods answer -/
def tb (x : Int32) (i : Nat) : Bool := x.toBitVec.getLsbD i
theorem s31 {j : Nat} (hj : j < 32) : ((nI j &&& 31).toBitVec.smod 32).toNat = j := by
  revert j
  decide +kernel
theorem tb_shr {j : Nat} (hj : j < 32) (x : Int32) : (x >>> (nI j &&& 31)) &&& 1 = if tb x j then 1 else 0 := by
  apply Int32.toBitVec_inj.mp
  have e1 : (x >>> (nI j &&& 31)).toBitVec = x.toBitVec.sshiftRight j := by
    rw [Int32.toBitVec_shiftRight]
    show x.toBitVec.sshiftRight ((nI j &&& 31).toBitVec.smod 32).toNat = _
    rw [s31 hj]
  rw [Int32.toBitVec_and, e1]
  apply BitVec.eq_of_getLsbD_eq
  intro i hi
  rw [BitVec.getLsbD_and]
  by_cases h0 : i = 0
  · subst h0
    have h1 : (1 : Int32).toBitVec.getLsbD 0 = true := by decide
    rw [h1, Bool.and_true, BitVec.getLsbD_sshiftRight, Nat.add_zero, if_pos hj]
    unfold tb
    by_cases hx : x.toBitVec.getLsbD j = true
    · rw [if_pos hx, hx, h1]; rfl
    · rw [if_neg hx, Bool.eq_false_iff.mpr hx]; rfl
  · have h1 : (1 : Int32).toBitVec.getLsbD i = false := by
      revert i
      decide +kernel
    rw [h1, Bool.and_false]
    split
    · exact h1.symm
    · simp
theorem tb_one : ∀ j, j < 32 → ∀ i, i < 32 → tb ((1 : Int32) <<< (nI j &&& 31)) i = decide (i = j) := by decide +kernel
theorem tb_or (x y : Int32) (i : Nat) : tb (x ||| y) i = (tb x i || tb y i) := by simp [tb]
theorem tb_and (x y : Int32) (i : Nat) : tb (x &&& y) i = (tb x i && tb y i) := by simp [tb]
theorem tb_0 (i : Nat) : tb 0 i = false := by simp [tb]
theorem tb_ext {x y : Int32} (h : ∀ i, i < 32 → tb x i = tb y i) : x = y := Int32.toBitVec_inj.mp (BitVec.eq_of_getLsbD_eq h)
theorem tb_set {x : Int32} {i j : Nat} (hj : j < 32) (hi : i < 32) : tb (x ||| ((1 : Int32) <<< (nI j &&& 31))) i = (tb x i || decide (i = j)) := by rw [tb_or, tb_one j hj i hi]
theorem tb_xm1 (x : Int32) {i : Nat} (hi : i < 32) : tb (x ^^^ (-1)) i = !tb x i := by
  have h : ∀ i, i < 32 → (-1 : Int32).toBitVec.getLsbD i = true := by decide +kernel
  show (x.toBitVec ^^^ (-1 : Int32).toBitVec).getLsbD i = _
  rw [BitVec.getLsbD_xor, h i hi, Bool.xor_true]
  rfl
theorem nI_lit (n : Nat) : (OfNat.ofNat n : Int32) = nI n := rfl
theorem vpn {n N : Nat} (hn : n < 2147483648) : vp_in (nI n) N ↔ n < N := by
  unfold vp_in
  rw [nI_clamp hn]
  have := nI_pos (n := n) hn
  constructor
  · intro h
    exact Nat.not_le.mp fun q => h (Or.inr q)
  · intro h q
    rcases q with q | q
    · exact this q
    · omega
/-- a number of two bounds -/
theorem nI_two {x : Int32} {n : Nat} (h0 : ¬ x < 0) (h : x < nI n) (hn : n < 2147483648) : ∃ j, j < n ∧ x = nI j := by
  obtain ⟨j, hj, rfl⟩ := nI_of h0
  exact ⟨j, (nI_ltI hj hn).mp h, rfl⟩
theorem nI_two' {x : Int32} {n : Nat} (h0 : ¬ x < 0) (h : ¬ nI n ≤ x) (hn : n < 2147483648) : ∃ j, j < n ∧ x = nI j := nI_two h0 (by rw [Int32.lt_iff_toInt_lt]; rw [Int32.le_iff_toInt_le] at h; omega) hn
theorem dpos {d n : Nat} (h : n + 1 ≤ d) : ∃ e, d = e + 1 ∧ n ≤ e := ⟨d - 1, by omega, by omega⟩
section Small
variable {X : Xc} {d : Nat} {K : Int32 → Mm → Prop} {KV : Mm → Prop} {u : Mm}
theorem c_bit {a : Int32} {j : Nat} (hd : 1 ≤ d) (hj : j < 32) (h1 : tb a j = true → K 1 u) (h0 : tb a j = false → K 0 u) : CI X d 175 [.int a, .int (nI j)] u K := by
  obtain ⟨d, rfl, -⟩ := dpos hd
  refine CI_of mk_X12_bit.2.2 rfl (B_S_bit_0 ?_)
  rw [tb_shr hj]
  cases hb : tb a j <;> simp_all
theorem c_mhas {a : Int32} {j : Nat} (hd : 1 ≤ d) (hj : j < 32) (h1 : tb a j = true → K 1 u) (h0 : tb a j = false → K 0 u) : CI X d 188 [.int a, .int (nI j)] u K := by
  obtain ⟨d, rfl, -⟩ := dpos hd
  refine CI_of mk_X13_has.2.2 rfl (B_M_has_0 ?_)
  rw [tb_shr hj]
  cases hb : tb a j <;> simp_all
theorem c_misIn {v a b : Int32} (hd : 1 ≤ d) (h1 : ¬ v < a → ¬ b < v → K 1 u) (h0 : v < a ∨ b < v → K 0 u) : CI X d 187 [.int v, .int a, .int b] u K := by
  obtain ⟨d, rfl, -⟩ := dpos hd
  refine CI_of mk_X13_isIn.2.2 rfl (B_M_isIn_0 ?_)
  exact ⟨fun q => h0 (Or.inl q), fun q => ⟨fun r => h0 (Or.inr r), fun r => h1 q r⟩⟩
theorem c_mleast {a b : Int32} (hd : 1 ≤ d) (h : K (if b < a then b else a) u) : CI X d 190 [.int a, .int b] u K := by
  obtain ⟨d, rfl, -⟩ := dpos hd
  refine CI_of mk_X13_least.2.2 rfl (B_M_least_0 ⟨fun q => ?_, fun q => ?_⟩)
  · rcases Int32.le_iff_lt_or_eq.mp q with r | r
    · rwa [if_pos r] at h
    · subst r; rwa [if_neg (Int32.lt_irrefl)] at h
  · rwa [if_neg (fun r => q (Int32.le_of_lt r))] at h
theorem c_msize {a : Int32} (hd : 1 ≤ d) (h : K (if 0 ≤ a then a else 0 - a) u) : CI X d 191 [.int a] u K := by
  obtain ⟨d, rfl, -⟩ := dpos hd
  refine CI_of mk_X13_size.2.2 rfl (B_M_size_0 ⟨fun q => ?_, fun q => ?_⟩)
  · rwa [if_pos q] at h
  · rw [if_neg q] at h
    rwa [show (0 : Int32) - a = -a by simp] at h
theorem c_isHalf {a : Int32} (hd : 1 ≤ d) (h1 : a = 0 ∨ a = 1 → K 1 u) (h0 : ¬ (a = 0 ∨ a = 1) → K 0 u) : CI X d 177 [.int a] u K := by
  obtain ⟨d, rfl, -⟩ := dpos hd
  refine CI_of mk_X12_isHalf.2.2 rfl (B_S_isHalf_0 ?_)
  exact ⟨fun q => h1 (Or.inl q), fun q => ⟨fun r => h0 (fun z => z.elim q r), fun r => h1 (Or.inr r)⟩⟩
end Small
