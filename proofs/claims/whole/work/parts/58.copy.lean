/-! copy and fill, of any rows -/
section SxA
variable {cd : Nat → Option TE} {sc : Option (Nat × (Nat → Int32))} {RI : Int32 → Mm → Prop} {RJ : Int64 → Mm → Prop} {RV : Mm → Prop} {TH : Nat → Mm → Prop} {cI : Nat → List Value → Mm → (Int32 → Mm → Prop) → Prop} {cV : Nat → List Value → Mm → (Mm → Prop) → Prop} {cJ : Nat → List Value → Mm → (Int64 → Mm → Prop) → Prop} {ih : Nat → Lv → List Value → Mm → Prop} {pc : Nat} {lv : Lv} {r : List Value} {u : Mm}
theorem sx_alen {a x n : Nat} (hc : cd pc = some (.arraylength, 1, 0, 0, 0, 0)) (ha : Nat.blt a nW = true) (hl : ly a = (2, x, n)) (h : ih (pc + 1) lv (.int (nI n) :: r) u) : sxS cd sc RI RJ RV TH cI cV cJ ih pc lv (.ref a :: r) u := by
  unfold sxS
  rw [hc]
  dsimp only
  rw [ha, cond_true, hl]
  exact h
theorem sx_copy {s d x0 x1 n0 n1 k : Nat} {n : Int32} (hc : cd pc = some (.invokestatic k, 3, 900, 0, 0, 0)) (hs : Nat.blt s nW = true) (hd : Nat.blt d nW = true) (l0 : ly s = (2, x0, n0)) (l1 : ly d = (2, x1, n1)) (hr : ctg r ≤ 8) (h0 : ¬ n < 0) (h1 : n.toNatClampNeg ≤ n0) (h2 : n.toNatClampNeg ≤ n1) (h : ih (pc + 3) lv r (mC u s 0 d 0 n.toNatClampNeg)) : sxS cd sc RI RJ RV TH cI cV cJ ih pc lv (.int n :: .int 0 :: .ref d :: .int 0 :: .ref s :: r) u := by
  unfold sxS
  rw [hc]
  dsimp only
  rw [show Nat.beq 900 900 = true from rfl, cond_true, hs, hd, show Nat.ble (ctg r) 8 = true from Nat.ble_eq.mpr hr]
  simp only [Bool.and_self, cond_true, l0, l1]
  refine ⟨⟨by decide, by decide, h0, ?_, ?_⟩, h⟩
  · rw [show (0 : Int32).toNatClampNeg = 0 from rfl]; omega
  · rw [show (0 : Int32).toNatClampNeg = 0 from rfl]; omega
theorem sx_iast {a x n : Nat} {v i : Int32} (hc : cd pc = some (.iastore, 1, 0, 0, 0, 0)) (ha : Nat.blt a nW = true) (hl : ly a = (2, x, n)) (hi : vp_in i n) (h : ih (pc + 1) lv r (mI u a i.toNatClampNeg v)) : sxS cd sc RI RJ RV TH cI cV cJ ih pc lv (.int v :: .int i :: .ref a :: r) u := by
  unfold sxS
  rw [hc]
  dsimp only
  rw [ha, cond_true, hl]
  exact ⟨hi, h⟩
end SxA
/-- row a is an int row of n places -/
def rowN (a n : Nat) : Prop := Nat.blt a nW = true ∧ ∃ x, ly a = (2, x, n)
theorem c_copy {X : Xc} {d : Nat} {u : Mm} {K : Mm → Prop} {a0 a1 n : Nat} (hd : 1 ≤ d) (h0 : rowN a0 n) (h1 : rowN a1 n) (hn : n < 1000) (hK : K (mC u a0 0 a1 0 n)) : CV X d 179 [.ref a0, .ref a1] u K := by
  obtain ⟨d, rfl, -⟩ := dpos hd
  obtain ⟨b0, x0, l0⟩ := h0
  obtain ⟨b1, x1, l1⟩ := h1
  refine CV_of mk_X12_copy.2.2 rfl ?_
  refine VV_step mk_X12_copy (fun _ _ _ _ h => h) ?_
  change VV X d 179 K 1 [some (.ref a0), some (.ref a1)] [.ref a0] u
  refine VV_step mk_X12_copy (fun _ _ _ _ h => h) ?_
  change VV X d 179 K 2 [some (.ref a0), some (.ref a1)] [.int 0, .ref a0] u
  refine VV_step mk_X12_copy (fun _ _ _ _ h => h) ?_
  change VV X d 179 K 3 [some (.ref a0), some (.ref a1)] [.ref a1, .int 0, .ref a0] u
  refine VV_step mk_X12_copy (fun _ _ _ _ h => h) ?_
  change VV X d 179 K 4 [some (.ref a0), some (.ref a1)] [.int 0, .ref a1, .int 0, .ref a0] u
  refine VV_step mk_X12_copy (fun _ _ _ _ h => h) ?_
  change VV X d 179 K 5 [some (.ref a0), some (.ref a1)] [.ref a0, .int 0, .ref a1, .int 0, .ref a0] u
  refine VV_step mk_X12_copy (fun _ _ _ _ h => h) (sx_alen rfl b0 l0 ?_)
  refine VV_step mk_X12_copy (fun _ _ _ _ h => h) ?_
  change VV X d 179 K 7 [some (.ref a0), some (.ref a1)] [.ref a1, .int (nI n), .int 0, .ref a1, .int 0, .ref a0] u
  refine VV_step mk_X12_copy (fun _ _ _ _ h => h) (sx_alen rfl b1 l1 ?_)
  refine VV_step mk_X12_copy (fun _ _ _ _ h => h) ?_
  change VV X d 179 K 11 [some (.ref a0), some (.ref a1)] [.int (if nI n < nI n then nI n else nI n), .int 0, .ref a1, .int 0, .ref a0] u
  rw [if_neg Int32.lt_irrefl]
  refine VV_step mk_X12_copy (fun _ _ _ _ h => h) (sx_copy rfl b0 b1 l0 l1 (by decide) (nI_pos (by omega)) (by rw [nI_clamp (by omega)]; omega) (by rw [nI_clamp (by omega)]; omega) ?_)
  rw [nI_clamp (by omega)]
  refine VV_step mk_X12_copy (ih := VV X d 179 K) (fun _ _ _ _ h => h) ?_
  exact hK
def mF (u : Mm) (a n : Nat) (v : Int32) : Mm := (fun b k => if b = a ∧ k < n then v else u.1 b k, u.2)
theorem mF_at (u : Mm) (a n : Nat) (v : Int32) (b k : Nat) : (mF u a n v).1 b k = if b = a ∧ k < n then v else u.1 b k := rfl
theorem c_fill {X : Xc} {d : Nat} {u : Mm} {K : Mm → Prop} {a n : Nat} {v : Int32} (hd : 1 ≤ d) (h0 : rowN a n) (hn : n < 1000) (hK : K (mF u a n v)) : CV X d 180 [.ref a, .int v] u K := by
  obtain ⟨d, rfl, -⟩ := dpos hd
  obtain ⟨b0, x0, l0⟩ := h0
  refine CV_of mk_X12_fill.2.2 rfl ?_
  refine VV_step mk_X12_fill (fun _ _ _ _ h => h) ?_
  change VV X d 180 K 1 [some (.ref a), some (.int v), none] [.int 0] u
  refine VV_step mk_X12_fill (fun _ _ _ _ h => h) ?_
  change VV X d 180 K 2 [some (.ref a), some (.int v), some (.int (nI 0))] [] u
  have e0 : mF u a 0 v = u := mm_ext (fun b k => by rw [mF_at, if_neg (by omega)]) rfl
  suffices hz : VV X d 180 K 2 [some (.ref a), some (.int v), some (.int (nI 0))] [] (mF u a 0 v) by rwa [e0] at hz
  refine lup (n := n) (W := fun j => VV X d 180 K 2 [some (.ref a), some (.int v), some (.int (nI j))] [] (mF u a j v)) ?_
  intro j hj ih
  refine VV_step mk_X12_fill (fun _ _ _ _ h => h) ?_
  change VV X d 180 K 3 [some (.ref a), some (.int v), some (.int (nI j))] [.int (nI j)] (mF u a j v)
  refine VV_step mk_X12_fill (fun _ _ _ _ h => h) ?_
  change VV X d 180 K 4 [some (.ref a), some (.int v), some (.int (nI j))] [.ref a, .int (nI j)] (mF u a j v)
  refine VV_step mk_X12_fill (fun _ _ _ _ h => h) (sx_alen rfl b0 l0 ?_)
  refine VV_step mk_X12_fill (ih := VV X d 180 K) (fun _ _ _ _ h => h) ?_
  change (nI n ≤ nI j → VV X d 180 K 18 [some (.ref a), some (.int v), some (.int (nI j))] [] (mF u a j v)) ∧ (¬ nI n ≤ nI j → VV X d 180 K 8 [some (.ref a), some (.int v), some (.int (nI j))] [] (mF u a j v))
  simp (disch := omega) only [la1, la2, lt1, lt2, nI_add, pk_mul, nI_clamp, vpn, nI_leI, nI_ltI, nI_eq, ll1, ll2, ll3, ll4, le1, le2, true_and, and_true, not_true_eq_false, not_false_eq_true, forall_const, false_implies, implies_true, if_true, if_false, ite_true, ite_false, and_self, false_and, and_false]
  refine ⟨fun q => ?_, fun q => ?_⟩
  · refine VV_step mk_X12_fill (ih := VV X d 180 K) (fun _ _ _ _ h => h) ?_
    rw [show j = n by omega]
    exact hK
  · refine VV_step mk_X12_fill (fun _ _ _ _ h => h) ?_
    change VV X d 180 K 9 [some (.ref a), some (.int v), some (.int (nI j))] [.ref a] (mF u a j v)
    refine VV_step mk_X12_fill (fun _ _ _ _ h => h) ?_
    change VV X d 180 K 10 [some (.ref a), some (.int v), some (.int (nI j))] [.int (nI j), .ref a] (mF u a j v)
    refine VV_step mk_X12_fill (fun _ _ _ _ h => h) ?_
    change VV X d 180 K 11 [some (.ref a), some (.int v), some (.int (nI j))] [.int v, .int (nI j), .ref a] (mF u a j v)
    refine VV_step mk_X12_fill (fun _ _ _ _ h => h) (sx_iast rfl b0 l0 (vp_in_nI (by omega) (by omega)) ?_)
    rw [nI_clamp (by omega), show mI (mF u a j v) a j v = mF u a (j + 1) v from mm_ext (fun b k => by simp only [mI_at, mF_at]; grind) rfl]
    refine VV_step mk_X12_fill (fun _ _ _ _ h => h) ?_
    change VV X d 180 K 15 [some (.ref a), some (.int v), some (.int (nI j + 1))] [] (mF u a (j + 1) v)
    refine VV_step mk_X12_fill (fun _ _ _ _ h => h) ?_
    change VV X d 180 K 2 [some (.ref a), some (.int v), some (.int (nI j + 1))] [] (mF u a (j + 1) v)
    rw [nI_1]
    exact ih (by omega)
/-! a life out of another one -/
def updR (l : Nat → Nat → Int32) (c : Nat) (f : Nat → Int32) : Nat → Nat → Int32 := fun b => if b = c then f else l b
theorem uRs {l : Nat → Nat → Int32} {c : Nat} {f : Nat → Int32} : updR l c f c = f := if_pos rfl
theorem uRn {l : Nat → Nat → Int32} {c b : Nat} {f : Nat → Int32} (h : b ≠ c) : updR l c f b = l b := if_neg h
theorem lm_c {u : Mm} {L : Nat} {l : Nat → Nat → Int32} {b a n : Nat} (h1 : L ≤ a) (h2 : a ≤ L + 8) (hb : b < L ∨ L + 8 < b) : mC (lm u L l) b 0 a 0 n = lm u L (updR l (a - L) (va_cpy (u.1 b) (l (a - L)) 0 0 n)) := by
  refine mm_ext (fun c k => ?_) rfl
  show (if c = a then va_cpy ((lm u L l).1 b) ((lm u L l).1 a) 0 0 n k else (lm u L l).1 c k) = _
  rw [lm_o hb, lm_in h1 h2]
  simp only [lm_at, updR]
  by_cases e : c = a
  · subst e
    rw [if_pos rfl, if_pos ⟨h1, h2⟩, if_pos rfl]
  · rw [if_neg e]
    by_cases e2 : L ≤ c ∧ c ≤ L + 8
    · rw [if_pos e2, if_pos e2, if_neg (by omega)]
    · rw [if_neg e2, if_neg e2]
theorem cpy_lt {f h : Nat → Int32} {n k : Nat} (hk : k < n) : va_cpy f h 0 0 n k = f k := by
  rw [pk_cpy_in (by omega) (by omega)]
  congr 1
  omega
/-- l holds what lies at L -/
def Same (u : Mm) (L : Nat) (l : Nat → Nat → Int32) : Prop := (l 0 1 = u.1 L 1 ∧ l 0 2 = u.1 L 2 ∧ l 0 3 = u.1 L 3 ∧ l 0 4 = u.1 L 4) ∧ ∀ c, 1 ≤ c → c ≤ 8 → ∀ k, k < (if c = 8 then 40 else 8) → l c k = u.1 (L + c) k
section LCopy
variable {X : Xc} {d : Nat} {u : Mm} {l : Nat → Nat → Int32} {K : Mm → Prop}
theorem c_lcopy35_20 (hd : 2 ≤ d) (hK : ∀ l', Same u 20 l' → K (lm u 35 l')) : CV X d 42 [.ref 35, .ref 20] (lm u 35 l) K := by
  obtain ⟨d, rfl, hd1⟩ := dpos hd
  refine CV_of mk_X4_copyFrom.2.2 rfl (B_L35_copyFrom20_0 ?_)
  simp (disch := omega) only [la1, la2, lt1, lt2, nI_add, pk_mul, nI_clamp, vpn, nI_leI, nI_ltI, nI_eq, ll1, ll2, ll3, ll4, le1, le2, true_and, and_true, not_true_eq_false, not_false_eq_true, forall_const, false_implies, implies_true, if_true, if_false, ite_true, ite_false, and_self, false_and, and_false, lm_in, lm_o, lm_w, Nat.reduceSub, u2r, u2s, u2n, u2u, b01, b10]
  refine c_copy (n := 8) hd1 ⟨rfl, _, rfl⟩ ⟨rfl, _, rfl⟩ (by omega) ?_
  refine c_copy (n := 8) hd1 ⟨rfl, _, rfl⟩ ⟨rfl, _, rfl⟩ (by omega) ?_
  refine c_copy (n := 8) hd1 ⟨rfl, _, rfl⟩ ⟨rfl, _, rfl⟩ (by omega) ?_
  refine c_copy (n := 8) hd1 ⟨rfl, _, rfl⟩ ⟨rfl, _, rfl⟩ (by omega) ?_
  refine c_copy (n := 8) hd1 ⟨rfl, _, rfl⟩ ⟨rfl, _, rfl⟩ (by omega) ?_
  refine c_copy (n := 8) hd1 ⟨rfl, _, rfl⟩ ⟨rfl, _, rfl⟩ (by omega) ?_
  refine c_copy (n := 8) hd1 ⟨rfl, _, rfl⟩ ⟨rfl, _, rfl⟩ (by omega) ?_
  refine c_copy (n := 40) hd1 ⟨rfl, _, rfl⟩ ⟨rfl, _, rfl⟩ (by omega) ?_
  simp (disch := omega) only [lm_c, Nat.reduceSub]
  refine hK _ ⟨?_, fun c h1 h2 k hk => ?_⟩
  · simp (disch := omega) only [uRn, u2s, u2n, and_self]
  · rcases (show c = 1 ∨ c = 2 ∨ c = 3 ∨ c = 4 ∨ c = 5 ∨ c = 6 ∨ c = 7 ∨ c = 8 by omega) with rfl | rfl | rfl | rfl | rfl | rfl | rfl | rfl <;> (simp (disch := omega) only [uRn, uRs]; exact cpy_lt hk)
theorem c_lcopy46_35 (hd : 2 ≤ d) (hK : ∀ l', Same u 35 l' → K (lm u 46 l')) : CV X d 42 [.ref 46, .ref 35] (lm u 46 l) K := by
  obtain ⟨d, rfl, hd1⟩ := dpos hd
  refine CV_of mk_X4_copyFrom.2.2 rfl (B_L46_copyFrom35_0 ?_)
  simp (disch := omega) only [la1, la2, lt1, lt2, nI_add, pk_mul, nI_clamp, vpn, nI_leI, nI_ltI, nI_eq, ll1, ll2, ll3, ll4, le1, le2, true_and, and_true, not_true_eq_false, not_false_eq_true, forall_const, false_implies, implies_true, if_true, if_false, ite_true, ite_false, and_self, false_and, and_false, lm_in, lm_o, lm_w, Nat.reduceSub, u2r, u2s, u2n, u2u, b01, b10]
  refine c_copy (n := 8) hd1 ⟨rfl, _, rfl⟩ ⟨rfl, _, rfl⟩ (by omega) ?_
  refine c_copy (n := 8) hd1 ⟨rfl, _, rfl⟩ ⟨rfl, _, rfl⟩ (by omega) ?_
  refine c_copy (n := 8) hd1 ⟨rfl, _, rfl⟩ ⟨rfl, _, rfl⟩ (by omega) ?_
  refine c_copy (n := 8) hd1 ⟨rfl, _, rfl⟩ ⟨rfl, _, rfl⟩ (by omega) ?_
  refine c_copy (n := 8) hd1 ⟨rfl, _, rfl⟩ ⟨rfl, _, rfl⟩ (by omega) ?_
  refine c_copy (n := 8) hd1 ⟨rfl, _, rfl⟩ ⟨rfl, _, rfl⟩ (by omega) ?_
  refine c_copy (n := 8) hd1 ⟨rfl, _, rfl⟩ ⟨rfl, _, rfl⟩ (by omega) ?_
  refine c_copy (n := 40) hd1 ⟨rfl, _, rfl⟩ ⟨rfl, _, rfl⟩ (by omega) ?_
  simp (disch := omega) only [lm_c, Nat.reduceSub]
  refine hK _ ⟨?_, fun c h1 h2 k hk => ?_⟩
  · simp (disch := omega) only [uRn, u2s, u2n, and_self]
  · rcases (show c = 1 ∨ c = 2 ∨ c = 3 ∨ c = 4 ∨ c = 5 ∨ c = 6 ∨ c = 7 ∨ c = 8 by omega) with rfl | rfl | rfl | rfl | rfl | rfl | rfl | rfl <;> (simp (disch := omega) only [uRn, uRs]; exact cpy_lt hk)
theorem c_lcopy55_35 (hd : 2 ≤ d) (hK : ∀ l', Same u 35 l' → K (lm u 55 l')) : CV X d 42 [.ref 55, .ref 35] (lm u 55 l) K := by
  obtain ⟨d, rfl, hd1⟩ := dpos hd
  refine CV_of mk_X4_copyFrom.2.2 rfl (B_L55_copyFrom35_0 ?_)
  simp (disch := omega) only [la1, la2, lt1, lt2, nI_add, pk_mul, nI_clamp, vpn, nI_leI, nI_ltI, nI_eq, ll1, ll2, ll3, ll4, le1, le2, true_and, and_true, not_true_eq_false, not_false_eq_true, forall_const, false_implies, implies_true, if_true, if_false, ite_true, ite_false, and_self, false_and, and_false, lm_in, lm_o, lm_w, Nat.reduceSub, u2r, u2s, u2n, u2u, b01, b10]
  refine c_copy (n := 8) hd1 ⟨rfl, _, rfl⟩ ⟨rfl, _, rfl⟩ (by omega) ?_
  refine c_copy (n := 8) hd1 ⟨rfl, _, rfl⟩ ⟨rfl, _, rfl⟩ (by omega) ?_
  refine c_copy (n := 8) hd1 ⟨rfl, _, rfl⟩ ⟨rfl, _, rfl⟩ (by omega) ?_
  refine c_copy (n := 8) hd1 ⟨rfl, _, rfl⟩ ⟨rfl, _, rfl⟩ (by omega) ?_
  refine c_copy (n := 8) hd1 ⟨rfl, _, rfl⟩ ⟨rfl, _, rfl⟩ (by omega) ?_
  refine c_copy (n := 8) hd1 ⟨rfl, _, rfl⟩ ⟨rfl, _, rfl⟩ (by omega) ?_
  refine c_copy (n := 8) hd1 ⟨rfl, _, rfl⟩ ⟨rfl, _, rfl⟩ (by omega) ?_
  refine c_copy (n := 40) hd1 ⟨rfl, _, rfl⟩ ⟨rfl, _, rfl⟩ (by omega) ?_
  simp (disch := omega) only [lm_c, Nat.reduceSub]
  refine hK _ ⟨?_, fun c h1 h2 k hk => ?_⟩
  · simp (disch := omega) only [uRn, u2s, u2n, and_self]
  · rcases (show c = 1 ∨ c = 2 ∨ c = 3 ∨ c = 4 ∨ c = 5 ∨ c = 6 ∨ c = 7 ∨ c = 8 by omega) with rfl | rfl | rfl | rfl | rfl | rfl | rfl | rfl <;> (simp (disch := omega) only [uRn, uRs]; exact cpy_lt hk)
theorem c_lcopy64_35 (hd : 2 ≤ d) (hK : ∀ l', Same u 35 l' → K (lm u 64 l')) : CV X d 42 [.ref 64, .ref 35] (lm u 64 l) K := by
  obtain ⟨d, rfl, hd1⟩ := dpos hd
  refine CV_of mk_X4_copyFrom.2.2 rfl (B_L64_copyFrom35_0 ?_)
  simp (disch := omega) only [la1, la2, lt1, lt2, nI_add, pk_mul, nI_clamp, vpn, nI_leI, nI_ltI, nI_eq, ll1, ll2, ll3, ll4, le1, le2, true_and, and_true, not_true_eq_false, not_false_eq_true, forall_const, false_implies, implies_true, if_true, if_false, ite_true, ite_false, and_self, false_and, and_false, lm_in, lm_o, lm_w, Nat.reduceSub, u2r, u2s, u2n, u2u, b01, b10]
  refine c_copy (n := 8) hd1 ⟨rfl, _, rfl⟩ ⟨rfl, _, rfl⟩ (by omega) ?_
  refine c_copy (n := 8) hd1 ⟨rfl, _, rfl⟩ ⟨rfl, _, rfl⟩ (by omega) ?_
  refine c_copy (n := 8) hd1 ⟨rfl, _, rfl⟩ ⟨rfl, _, rfl⟩ (by omega) ?_
  refine c_copy (n := 8) hd1 ⟨rfl, _, rfl⟩ ⟨rfl, _, rfl⟩ (by omega) ?_
  refine c_copy (n := 8) hd1 ⟨rfl, _, rfl⟩ ⟨rfl, _, rfl⟩ (by omega) ?_
  refine c_copy (n := 8) hd1 ⟨rfl, _, rfl⟩ ⟨rfl, _, rfl⟩ (by omega) ?_
  refine c_copy (n := 8) hd1 ⟨rfl, _, rfl⟩ ⟨rfl, _, rfl⟩ (by omega) ?_
  refine c_copy (n := 40) hd1 ⟨rfl, _, rfl⟩ ⟨rfl, _, rfl⟩ (by omega) ?_
  simp (disch := omega) only [lm_c, Nat.reduceSub]
  refine hK _ ⟨?_, fun c h1 h2 k hk => ?_⟩
  · simp (disch := omega) only [uRn, u2s, u2n, and_self]
  · rcases (show c = 1 ∨ c = 2 ∨ c = 3 ∨ c = 4 ∨ c = 5 ∨ c = 6 ∨ c = 7 ∨ c = 8 by omega) with rfl | rfl | rfl | rfl | rfl | rfl | rfl | rfl <;> (simp (disch := omega) only [uRn, uRs]; exact cpy_lt hk)
theorem c_lcopy73_35 (hd : 2 ≤ d) (hK : ∀ l', Same u 35 l' → K (lm u 73 l')) : CV X d 42 [.ref 73, .ref 35] (lm u 73 l) K := by
  obtain ⟨d, rfl, hd1⟩ := dpos hd
  refine CV_of mk_X4_copyFrom.2.2 rfl (B_L73_copyFrom35_0 ?_)
  simp (disch := omega) only [la1, la2, lt1, lt2, nI_add, pk_mul, nI_clamp, vpn, nI_leI, nI_ltI, nI_eq, ll1, ll2, ll3, ll4, le1, le2, true_and, and_true, not_true_eq_false, not_false_eq_true, forall_const, false_implies, implies_true, if_true, if_false, ite_true, ite_false, and_self, false_and, and_false, lm_in, lm_o, lm_w, Nat.reduceSub, u2r, u2s, u2n, u2u, b01, b10]
  refine c_copy (n := 8) hd1 ⟨rfl, _, rfl⟩ ⟨rfl, _, rfl⟩ (by omega) ?_
  refine c_copy (n := 8) hd1 ⟨rfl, _, rfl⟩ ⟨rfl, _, rfl⟩ (by omega) ?_
  refine c_copy (n := 8) hd1 ⟨rfl, _, rfl⟩ ⟨rfl, _, rfl⟩ (by omega) ?_
  refine c_copy (n := 8) hd1 ⟨rfl, _, rfl⟩ ⟨rfl, _, rfl⟩ (by omega) ?_
  refine c_copy (n := 8) hd1 ⟨rfl, _, rfl⟩ ⟨rfl, _, rfl⟩ (by omega) ?_
  refine c_copy (n := 8) hd1 ⟨rfl, _, rfl⟩ ⟨rfl, _, rfl⟩ (by omega) ?_
  refine c_copy (n := 8) hd1 ⟨rfl, _, rfl⟩ ⟨rfl, _, rfl⟩ (by omega) ?_
  refine c_copy (n := 40) hd1 ⟨rfl, _, rfl⟩ ⟨rfl, _, rfl⟩ (by omega) ?_
  simp (disch := omega) only [lm_c, Nat.reduceSub]
  refine hK _ ⟨?_, fun c h1 h2 k hk => ?_⟩
  · simp (disch := omega) only [uRn, u2s, u2n, and_self]
  · rcases (show c = 1 ∨ c = 2 ∨ c = 3 ∨ c = 4 ∨ c = 5 ∨ c = 6 ∨ c = 7 ∨ c = 8 by omega) with rfl | rfl | rfl | rfl | rfl | rfl | rfl | rfl <;> (simp (disch := omega) only [uRn, uRs]; exact cpy_lt hk)
theorem c_lcopy82_35 (hd : 2 ≤ d) (hK : ∀ l', Same u 35 l' → K (lm u 82 l')) : CV X d 42 [.ref 82, .ref 35] (lm u 82 l) K := by
  obtain ⟨d, rfl, hd1⟩ := dpos hd
  refine CV_of mk_X4_copyFrom.2.2 rfl (B_L82_copyFrom35_0 ?_)
  simp (disch := omega) only [la1, la2, lt1, lt2, nI_add, pk_mul, nI_clamp, vpn, nI_leI, nI_ltI, nI_eq, ll1, ll2, ll3, ll4, le1, le2, true_and, and_true, not_true_eq_false, not_false_eq_true, forall_const, false_implies, implies_true, if_true, if_false, ite_true, ite_false, and_self, false_and, and_false, lm_in, lm_o, lm_w, Nat.reduceSub, u2r, u2s, u2n, u2u, b01, b10]
  refine c_copy (n := 8) hd1 ⟨rfl, _, rfl⟩ ⟨rfl, _, rfl⟩ (by omega) ?_
  refine c_copy (n := 8) hd1 ⟨rfl, _, rfl⟩ ⟨rfl, _, rfl⟩ (by omega) ?_
  refine c_copy (n := 8) hd1 ⟨rfl, _, rfl⟩ ⟨rfl, _, rfl⟩ (by omega) ?_
  refine c_copy (n := 8) hd1 ⟨rfl, _, rfl⟩ ⟨rfl, _, rfl⟩ (by omega) ?_
  refine c_copy (n := 8) hd1 ⟨rfl, _, rfl⟩ ⟨rfl, _, rfl⟩ (by omega) ?_
  refine c_copy (n := 8) hd1 ⟨rfl, _, rfl⟩ ⟨rfl, _, rfl⟩ (by omega) ?_
  refine c_copy (n := 8) hd1 ⟨rfl, _, rfl⟩ ⟨rfl, _, rfl⟩ (by omega) ?_
  refine c_copy (n := 40) hd1 ⟨rfl, _, rfl⟩ ⟨rfl, _, rfl⟩ (by omega) ?_
  simp (disch := omega) only [lm_c, Nat.reduceSub]
  refine hK _ ⟨?_, fun c h1 h2 k hk => ?_⟩
  · simp (disch := omega) only [uRn, u2s, u2n, and_self]
  · rcases (show c = 1 ∨ c = 2 ∨ c = 3 ∨ c = 4 ∨ c = 5 ∨ c = 6 ∨ c = 7 ∨ c = 8 by omega) with rfl | rfl | rfl | rfl | rfl | rfl | rfl | rfl <;> (simp (disch := omega) only [uRn, uRs]; exact cpy_lt hk)
theorem c_lcopy91_35 (hd : 2 ≤ d) (hK : ∀ l', Same u 35 l' → K (lm u 91 l')) : CV X d 42 [.ref 91, .ref 35] (lm u 91 l) K := by
  obtain ⟨d, rfl, hd1⟩ := dpos hd
  refine CV_of mk_X4_copyFrom.2.2 rfl (B_L91_copyFrom35_0 ?_)
  simp (disch := omega) only [la1, la2, lt1, lt2, nI_add, pk_mul, nI_clamp, vpn, nI_leI, nI_ltI, nI_eq, ll1, ll2, ll3, ll4, le1, le2, true_and, and_true, not_true_eq_false, not_false_eq_true, forall_const, false_implies, implies_true, if_true, if_false, ite_true, ite_false, and_self, false_and, and_false, lm_in, lm_o, lm_w, Nat.reduceSub, u2r, u2s, u2n, u2u, b01, b10]
  refine c_copy (n := 8) hd1 ⟨rfl, _, rfl⟩ ⟨rfl, _, rfl⟩ (by omega) ?_
  refine c_copy (n := 8) hd1 ⟨rfl, _, rfl⟩ ⟨rfl, _, rfl⟩ (by omega) ?_
  refine c_copy (n := 8) hd1 ⟨rfl, _, rfl⟩ ⟨rfl, _, rfl⟩ (by omega) ?_
  refine c_copy (n := 8) hd1 ⟨rfl, _, rfl⟩ ⟨rfl, _, rfl⟩ (by omega) ?_
  refine c_copy (n := 8) hd1 ⟨rfl, _, rfl⟩ ⟨rfl, _, rfl⟩ (by omega) ?_
  refine c_copy (n := 8) hd1 ⟨rfl, _, rfl⟩ ⟨rfl, _, rfl⟩ (by omega) ?_
  refine c_copy (n := 8) hd1 ⟨rfl, _, rfl⟩ ⟨rfl, _, rfl⟩ (by omega) ?_
  refine c_copy (n := 40) hd1 ⟨rfl, _, rfl⟩ ⟨rfl, _, rfl⟩ (by omega) ?_
  simp (disch := omega) only [lm_c, Nat.reduceSub]
  refine hK _ ⟨?_, fun c h1 h2 k hk => ?_⟩
  · simp (disch := omega) only [uRn, u2s, u2n, and_self]
  · rcases (show c = 1 ∨ c = 2 ∨ c = 3 ∨ c = 4 ∨ c = 5 ∨ c = 6 ∨ c = 7 ∨ c = 8 by omega) with rfl | rfl | rfl | rfl | rfl | rfl | rfl | rfl <;> (simp (disch := omega) only [uRn, uRs]; exact cpy_lt hk)
theorem c_lcopy100_35 (hd : 2 ≤ d) (hK : ∀ l', Same u 35 l' → K (lm u 100 l')) : CV X d 42 [.ref 100, .ref 35] (lm u 100 l) K := by
  obtain ⟨d, rfl, hd1⟩ := dpos hd
  refine CV_of mk_X4_copyFrom.2.2 rfl (B_L100_copyFrom35_0 ?_)
  simp (disch := omega) only [la1, la2, lt1, lt2, nI_add, pk_mul, nI_clamp, vpn, nI_leI, nI_ltI, nI_eq, ll1, ll2, ll3, ll4, le1, le2, true_and, and_true, not_true_eq_false, not_false_eq_true, forall_const, false_implies, implies_true, if_true, if_false, ite_true, ite_false, and_self, false_and, and_false, lm_in, lm_o, lm_w, Nat.reduceSub, u2r, u2s, u2n, u2u, b01, b10]
  refine c_copy (n := 8) hd1 ⟨rfl, _, rfl⟩ ⟨rfl, _, rfl⟩ (by omega) ?_
  refine c_copy (n := 8) hd1 ⟨rfl, _, rfl⟩ ⟨rfl, _, rfl⟩ (by omega) ?_
  refine c_copy (n := 8) hd1 ⟨rfl, _, rfl⟩ ⟨rfl, _, rfl⟩ (by omega) ?_
  refine c_copy (n := 8) hd1 ⟨rfl, _, rfl⟩ ⟨rfl, _, rfl⟩ (by omega) ?_
  refine c_copy (n := 8) hd1 ⟨rfl, _, rfl⟩ ⟨rfl, _, rfl⟩ (by omega) ?_
  refine c_copy (n := 8) hd1 ⟨rfl, _, rfl⟩ ⟨rfl, _, rfl⟩ (by omega) ?_
  refine c_copy (n := 8) hd1 ⟨rfl, _, rfl⟩ ⟨rfl, _, rfl⟩ (by omega) ?_
  refine c_copy (n := 40) hd1 ⟨rfl, _, rfl⟩ ⟨rfl, _, rfl⟩ (by omega) ?_
  simp (disch := omega) only [lm_c, Nat.reduceSub]
  refine hK _ ⟨?_, fun c h1 h2 k hk => ?_⟩
  · simp (disch := omega) only [uRn, u2s, u2n, and_self]
  · rcases (show c = 1 ∨ c = 2 ∨ c = 3 ∨ c = 4 ∨ c = 5 ∨ c = 6 ∨ c = 7 ∨ c = 8 by omega) with rfl | rfl | rfl | rfl | rfl | rfl | rfl | rfl <;> (simp (disch := omega) only [uRn, uRs]; exact cpy_lt hk)
theorem c_lcopy109_35 (hd : 2 ≤ d) (hK : ∀ l', Same u 35 l' → K (lm u 109 l')) : CV X d 42 [.ref 109, .ref 35] (lm u 109 l) K := by
  obtain ⟨d, rfl, hd1⟩ := dpos hd
  refine CV_of mk_X4_copyFrom.2.2 rfl (B_L109_copyFrom35_0 ?_)
  simp (disch := omega) only [la1, la2, lt1, lt2, nI_add, pk_mul, nI_clamp, vpn, nI_leI, nI_ltI, nI_eq, ll1, ll2, ll3, ll4, le1, le2, true_and, and_true, not_true_eq_false, not_false_eq_true, forall_const, false_implies, implies_true, if_true, if_false, ite_true, ite_false, and_self, false_and, and_false, lm_in, lm_o, lm_w, Nat.reduceSub, u2r, u2s, u2n, u2u, b01, b10]
  refine c_copy (n := 8) hd1 ⟨rfl, _, rfl⟩ ⟨rfl, _, rfl⟩ (by omega) ?_
  refine c_copy (n := 8) hd1 ⟨rfl, _, rfl⟩ ⟨rfl, _, rfl⟩ (by omega) ?_
  refine c_copy (n := 8) hd1 ⟨rfl, _, rfl⟩ ⟨rfl, _, rfl⟩ (by omega) ?_
  refine c_copy (n := 8) hd1 ⟨rfl, _, rfl⟩ ⟨rfl, _, rfl⟩ (by omega) ?_
  refine c_copy (n := 8) hd1 ⟨rfl, _, rfl⟩ ⟨rfl, _, rfl⟩ (by omega) ?_
  refine c_copy (n := 8) hd1 ⟨rfl, _, rfl⟩ ⟨rfl, _, rfl⟩ (by omega) ?_
  refine c_copy (n := 8) hd1 ⟨rfl, _, rfl⟩ ⟨rfl, _, rfl⟩ (by omega) ?_
  refine c_copy (n := 40) hd1 ⟨rfl, _, rfl⟩ ⟨rfl, _, rfl⟩ (by omega) ?_
  simp (disch := omega) only [lm_c, Nat.reduceSub]
  refine hK _ ⟨?_, fun c h1 h2 k hk => ?_⟩
  · simp (disch := omega) only [uRn, u2s, u2n, and_self]
  · rcases (show c = 1 ∨ c = 2 ∨ c = 3 ∨ c = 4 ∨ c = 5 ∨ c = 6 ∨ c = 7 ∨ c = 8 by omega) with rfl | rfl | rfl | rfl | rfl | rfl | rfl | rfl <;> (simp (disch := omega) only [uRn, uRs]; exact cpy_lt hk)
theorem c_lcopy20_46 (hd : 2 ≤ d) (hK : ∀ l', Same u 46 l' → K (lm u 20 l')) : CV X d 42 [.ref 20, .ref 46] (lm u 20 l) K := by
  obtain ⟨d, rfl, hd1⟩ := dpos hd
  refine CV_of mk_X4_copyFrom.2.2 rfl (B_L20_copyFrom46_0 ?_)
  simp (disch := omega) only [la1, la2, lt1, lt2, nI_add, pk_mul, nI_clamp, vpn, nI_leI, nI_ltI, nI_eq, ll1, ll2, ll3, ll4, le1, le2, true_and, and_true, not_true_eq_false, not_false_eq_true, forall_const, false_implies, implies_true, if_true, if_false, ite_true, ite_false, and_self, false_and, and_false, lm_in, lm_o, lm_w, Nat.reduceSub, u2r, u2s, u2n, u2u, b01, b10]
  refine c_copy (n := 8) hd1 ⟨rfl, _, rfl⟩ ⟨rfl, _, rfl⟩ (by omega) ?_
  refine c_copy (n := 8) hd1 ⟨rfl, _, rfl⟩ ⟨rfl, _, rfl⟩ (by omega) ?_
  refine c_copy (n := 8) hd1 ⟨rfl, _, rfl⟩ ⟨rfl, _, rfl⟩ (by omega) ?_
  refine c_copy (n := 8) hd1 ⟨rfl, _, rfl⟩ ⟨rfl, _, rfl⟩ (by omega) ?_
  refine c_copy (n := 8) hd1 ⟨rfl, _, rfl⟩ ⟨rfl, _, rfl⟩ (by omega) ?_
  refine c_copy (n := 8) hd1 ⟨rfl, _, rfl⟩ ⟨rfl, _, rfl⟩ (by omega) ?_
  refine c_copy (n := 8) hd1 ⟨rfl, _, rfl⟩ ⟨rfl, _, rfl⟩ (by omega) ?_
  refine c_copy (n := 40) hd1 ⟨rfl, _, rfl⟩ ⟨rfl, _, rfl⟩ (by omega) ?_
  simp (disch := omega) only [lm_c, Nat.reduceSub]
  refine hK _ ⟨?_, fun c h1 h2 k hk => ?_⟩
  · simp (disch := omega) only [uRn, u2s, u2n, and_self]
  · rcases (show c = 1 ∨ c = 2 ∨ c = 3 ∨ c = 4 ∨ c = 5 ∨ c = 6 ∨ c = 7 ∨ c = 8 by omega) with rfl | rfl | rfl | rfl | rfl | rfl | rfl | rfl <;> (simp (disch := omega) only [uRn, uRs]; exact cpy_lt hk)
theorem c_lcopy20_55 (hd : 2 ≤ d) (hK : ∀ l', Same u 55 l' → K (lm u 20 l')) : CV X d 42 [.ref 20, .ref 55] (lm u 20 l) K := by
  obtain ⟨d, rfl, hd1⟩ := dpos hd
  refine CV_of mk_X4_copyFrom.2.2 rfl (B_L20_copyFrom55_0 ?_)
  simp (disch := omega) only [la1, la2, lt1, lt2, nI_add, pk_mul, nI_clamp, vpn, nI_leI, nI_ltI, nI_eq, ll1, ll2, ll3, ll4, le1, le2, true_and, and_true, not_true_eq_false, not_false_eq_true, forall_const, false_implies, implies_true, if_true, if_false, ite_true, ite_false, and_self, false_and, and_false, lm_in, lm_o, lm_w, Nat.reduceSub, u2r, u2s, u2n, u2u, b01, b10]
  refine c_copy (n := 8) hd1 ⟨rfl, _, rfl⟩ ⟨rfl, _, rfl⟩ (by omega) ?_
  refine c_copy (n := 8) hd1 ⟨rfl, _, rfl⟩ ⟨rfl, _, rfl⟩ (by omega) ?_
  refine c_copy (n := 8) hd1 ⟨rfl, _, rfl⟩ ⟨rfl, _, rfl⟩ (by omega) ?_
  refine c_copy (n := 8) hd1 ⟨rfl, _, rfl⟩ ⟨rfl, _, rfl⟩ (by omega) ?_
  refine c_copy (n := 8) hd1 ⟨rfl, _, rfl⟩ ⟨rfl, _, rfl⟩ (by omega) ?_
  refine c_copy (n := 8) hd1 ⟨rfl, _, rfl⟩ ⟨rfl, _, rfl⟩ (by omega) ?_
  refine c_copy (n := 8) hd1 ⟨rfl, _, rfl⟩ ⟨rfl, _, rfl⟩ (by omega) ?_
  refine c_copy (n := 40) hd1 ⟨rfl, _, rfl⟩ ⟨rfl, _, rfl⟩ (by omega) ?_
  simp (disch := omega) only [lm_c, Nat.reduceSub]
  refine hK _ ⟨?_, fun c h1 h2 k hk => ?_⟩
  · simp (disch := omega) only [uRn, u2s, u2n, and_self]
  · rcases (show c = 1 ∨ c = 2 ∨ c = 3 ∨ c = 4 ∨ c = 5 ∨ c = 6 ∨ c = 7 ∨ c = 8 by omega) with rfl | rfl | rfl | rfl | rfl | rfl | rfl | rfl <;> (simp (disch := omega) only [uRn, uRs]; exact cpy_lt hk)
theorem c_lcopy20_64 (hd : 2 ≤ d) (hK : ∀ l', Same u 64 l' → K (lm u 20 l')) : CV X d 42 [.ref 20, .ref 64] (lm u 20 l) K := by
  obtain ⟨d, rfl, hd1⟩ := dpos hd
  refine CV_of mk_X4_copyFrom.2.2 rfl (B_L20_copyFrom64_0 ?_)
  simp (disch := omega) only [la1, la2, lt1, lt2, nI_add, pk_mul, nI_clamp, vpn, nI_leI, nI_ltI, nI_eq, ll1, ll2, ll3, ll4, le1, le2, true_and, and_true, not_true_eq_false, not_false_eq_true, forall_const, false_implies, implies_true, if_true, if_false, ite_true, ite_false, and_self, false_and, and_false, lm_in, lm_o, lm_w, Nat.reduceSub, u2r, u2s, u2n, u2u, b01, b10]
  refine c_copy (n := 8) hd1 ⟨rfl, _, rfl⟩ ⟨rfl, _, rfl⟩ (by omega) ?_
  refine c_copy (n := 8) hd1 ⟨rfl, _, rfl⟩ ⟨rfl, _, rfl⟩ (by omega) ?_
  refine c_copy (n := 8) hd1 ⟨rfl, _, rfl⟩ ⟨rfl, _, rfl⟩ (by omega) ?_
  refine c_copy (n := 8) hd1 ⟨rfl, _, rfl⟩ ⟨rfl, _, rfl⟩ (by omega) ?_
  refine c_copy (n := 8) hd1 ⟨rfl, _, rfl⟩ ⟨rfl, _, rfl⟩ (by omega) ?_
  refine c_copy (n := 8) hd1 ⟨rfl, _, rfl⟩ ⟨rfl, _, rfl⟩ (by omega) ?_
  refine c_copy (n := 8) hd1 ⟨rfl, _, rfl⟩ ⟨rfl, _, rfl⟩ (by omega) ?_
  refine c_copy (n := 40) hd1 ⟨rfl, _, rfl⟩ ⟨rfl, _, rfl⟩ (by omega) ?_
  simp (disch := omega) only [lm_c, Nat.reduceSub]
  refine hK _ ⟨?_, fun c h1 h2 k hk => ?_⟩
  · simp (disch := omega) only [uRn, u2s, u2n, and_self]
  · rcases (show c = 1 ∨ c = 2 ∨ c = 3 ∨ c = 4 ∨ c = 5 ∨ c = 6 ∨ c = 7 ∨ c = 8 by omega) with rfl | rfl | rfl | rfl | rfl | rfl | rfl | rfl <;> (simp (disch := omega) only [uRn, uRs]; exact cpy_lt hk)
theorem c_lcopy20_73 (hd : 2 ≤ d) (hK : ∀ l', Same u 73 l' → K (lm u 20 l')) : CV X d 42 [.ref 20, .ref 73] (lm u 20 l) K := by
  obtain ⟨d, rfl, hd1⟩ := dpos hd
  refine CV_of mk_X4_copyFrom.2.2 rfl (B_L20_copyFrom73_0 ?_)
  simp (disch := omega) only [la1, la2, lt1, lt2, nI_add, pk_mul, nI_clamp, vpn, nI_leI, nI_ltI, nI_eq, ll1, ll2, ll3, ll4, le1, le2, true_and, and_true, not_true_eq_false, not_false_eq_true, forall_const, false_implies, implies_true, if_true, if_false, ite_true, ite_false, and_self, false_and, and_false, lm_in, lm_o, lm_w, Nat.reduceSub, u2r, u2s, u2n, u2u, b01, b10]
  refine c_copy (n := 8) hd1 ⟨rfl, _, rfl⟩ ⟨rfl, _, rfl⟩ (by omega) ?_
  refine c_copy (n := 8) hd1 ⟨rfl, _, rfl⟩ ⟨rfl, _, rfl⟩ (by omega) ?_
  refine c_copy (n := 8) hd1 ⟨rfl, _, rfl⟩ ⟨rfl, _, rfl⟩ (by omega) ?_
  refine c_copy (n := 8) hd1 ⟨rfl, _, rfl⟩ ⟨rfl, _, rfl⟩ (by omega) ?_
  refine c_copy (n := 8) hd1 ⟨rfl, _, rfl⟩ ⟨rfl, _, rfl⟩ (by omega) ?_
  refine c_copy (n := 8) hd1 ⟨rfl, _, rfl⟩ ⟨rfl, _, rfl⟩ (by omega) ?_
  refine c_copy (n := 8) hd1 ⟨rfl, _, rfl⟩ ⟨rfl, _, rfl⟩ (by omega) ?_
  refine c_copy (n := 40) hd1 ⟨rfl, _, rfl⟩ ⟨rfl, _, rfl⟩ (by omega) ?_
  simp (disch := omega) only [lm_c, Nat.reduceSub]
  refine hK _ ⟨?_, fun c h1 h2 k hk => ?_⟩
  · simp (disch := omega) only [uRn, u2s, u2n, and_self]
  · rcases (show c = 1 ∨ c = 2 ∨ c = 3 ∨ c = 4 ∨ c = 5 ∨ c = 6 ∨ c = 7 ∨ c = 8 by omega) with rfl | rfl | rfl | rfl | rfl | rfl | rfl | rfl <;> (simp (disch := omega) only [uRn, uRs]; exact cpy_lt hk)
theorem c_lcopy20_82 (hd : 2 ≤ d) (hK : ∀ l', Same u 82 l' → K (lm u 20 l')) : CV X d 42 [.ref 20, .ref 82] (lm u 20 l) K := by
  obtain ⟨d, rfl, hd1⟩ := dpos hd
  refine CV_of mk_X4_copyFrom.2.2 rfl (B_L20_copyFrom82_0 ?_)
  simp (disch := omega) only [la1, la2, lt1, lt2, nI_add, pk_mul, nI_clamp, vpn, nI_leI, nI_ltI, nI_eq, ll1, ll2, ll3, ll4, le1, le2, true_and, and_true, not_true_eq_false, not_false_eq_true, forall_const, false_implies, implies_true, if_true, if_false, ite_true, ite_false, and_self, false_and, and_false, lm_in, lm_o, lm_w, Nat.reduceSub, u2r, u2s, u2n, u2u, b01, b10]
  refine c_copy (n := 8) hd1 ⟨rfl, _, rfl⟩ ⟨rfl, _, rfl⟩ (by omega) ?_
  refine c_copy (n := 8) hd1 ⟨rfl, _, rfl⟩ ⟨rfl, _, rfl⟩ (by omega) ?_
  refine c_copy (n := 8) hd1 ⟨rfl, _, rfl⟩ ⟨rfl, _, rfl⟩ (by omega) ?_
  refine c_copy (n := 8) hd1 ⟨rfl, _, rfl⟩ ⟨rfl, _, rfl⟩ (by omega) ?_
  refine c_copy (n := 8) hd1 ⟨rfl, _, rfl⟩ ⟨rfl, _, rfl⟩ (by omega) ?_
  refine c_copy (n := 8) hd1 ⟨rfl, _, rfl⟩ ⟨rfl, _, rfl⟩ (by omega) ?_
  refine c_copy (n := 8) hd1 ⟨rfl, _, rfl⟩ ⟨rfl, _, rfl⟩ (by omega) ?_
  refine c_copy (n := 40) hd1 ⟨rfl, _, rfl⟩ ⟨rfl, _, rfl⟩ (by omega) ?_
  simp (disch := omega) only [lm_c, Nat.reduceSub]
  refine hK _ ⟨?_, fun c h1 h2 k hk => ?_⟩
  · simp (disch := omega) only [uRn, u2s, u2n, and_self]
  · rcases (show c = 1 ∨ c = 2 ∨ c = 3 ∨ c = 4 ∨ c = 5 ∨ c = 6 ∨ c = 7 ∨ c = 8 by omega) with rfl | rfl | rfl | rfl | rfl | rfl | rfl | rfl <;> (simp (disch := omega) only [uRn, uRs]; exact cpy_lt hk)
theorem c_lcopy20_91 (hd : 2 ≤ d) (hK : ∀ l', Same u 91 l' → K (lm u 20 l')) : CV X d 42 [.ref 20, .ref 91] (lm u 20 l) K := by
  obtain ⟨d, rfl, hd1⟩ := dpos hd
  refine CV_of mk_X4_copyFrom.2.2 rfl (B_L20_copyFrom91_0 ?_)
  simp (disch := omega) only [la1, la2, lt1, lt2, nI_add, pk_mul, nI_clamp, vpn, nI_leI, nI_ltI, nI_eq, ll1, ll2, ll3, ll4, le1, le2, true_and, and_true, not_true_eq_false, not_false_eq_true, forall_const, false_implies, implies_true, if_true, if_false, ite_true, ite_false, and_self, false_and, and_false, lm_in, lm_o, lm_w, Nat.reduceSub, u2r, u2s, u2n, u2u, b01, b10]
  refine c_copy (n := 8) hd1 ⟨rfl, _, rfl⟩ ⟨rfl, _, rfl⟩ (by omega) ?_
  refine c_copy (n := 8) hd1 ⟨rfl, _, rfl⟩ ⟨rfl, _, rfl⟩ (by omega) ?_
  refine c_copy (n := 8) hd1 ⟨rfl, _, rfl⟩ ⟨rfl, _, rfl⟩ (by omega) ?_
  refine c_copy (n := 8) hd1 ⟨rfl, _, rfl⟩ ⟨rfl, _, rfl⟩ (by omega) ?_
  refine c_copy (n := 8) hd1 ⟨rfl, _, rfl⟩ ⟨rfl, _, rfl⟩ (by omega) ?_
  refine c_copy (n := 8) hd1 ⟨rfl, _, rfl⟩ ⟨rfl, _, rfl⟩ (by omega) ?_
  refine c_copy (n := 8) hd1 ⟨rfl, _, rfl⟩ ⟨rfl, _, rfl⟩ (by omega) ?_
  refine c_copy (n := 40) hd1 ⟨rfl, _, rfl⟩ ⟨rfl, _, rfl⟩ (by omega) ?_
  simp (disch := omega) only [lm_c, Nat.reduceSub]
  refine hK _ ⟨?_, fun c h1 h2 k hk => ?_⟩
  · simp (disch := omega) only [uRn, u2s, u2n, and_self]
  · rcases (show c = 1 ∨ c = 2 ∨ c = 3 ∨ c = 4 ∨ c = 5 ∨ c = 6 ∨ c = 7 ∨ c = 8 by omega) with rfl | rfl | rfl | rfl | rfl | rfl | rfl | rfl <;> (simp (disch := omega) only [uRn, uRs]; exact cpy_lt hk)
theorem c_lcopy20_100 (hd : 2 ≤ d) (hK : ∀ l', Same u 100 l' → K (lm u 20 l')) : CV X d 42 [.ref 20, .ref 100] (lm u 20 l) K := by
  obtain ⟨d, rfl, hd1⟩ := dpos hd
  refine CV_of mk_X4_copyFrom.2.2 rfl (B_L20_copyFrom100_0 ?_)
  simp (disch := omega) only [la1, la2, lt1, lt2, nI_add, pk_mul, nI_clamp, vpn, nI_leI, nI_ltI, nI_eq, ll1, ll2, ll3, ll4, le1, le2, true_and, and_true, not_true_eq_false, not_false_eq_true, forall_const, false_implies, implies_true, if_true, if_false, ite_true, ite_false, and_self, false_and, and_false, lm_in, lm_o, lm_w, Nat.reduceSub, u2r, u2s, u2n, u2u, b01, b10]
  refine c_copy (n := 8) hd1 ⟨rfl, _, rfl⟩ ⟨rfl, _, rfl⟩ (by omega) ?_
  refine c_copy (n := 8) hd1 ⟨rfl, _, rfl⟩ ⟨rfl, _, rfl⟩ (by omega) ?_
  refine c_copy (n := 8) hd1 ⟨rfl, _, rfl⟩ ⟨rfl, _, rfl⟩ (by omega) ?_
  refine c_copy (n := 8) hd1 ⟨rfl, _, rfl⟩ ⟨rfl, _, rfl⟩ (by omega) ?_
  refine c_copy (n := 8) hd1 ⟨rfl, _, rfl⟩ ⟨rfl, _, rfl⟩ (by omega) ?_
  refine c_copy (n := 8) hd1 ⟨rfl, _, rfl⟩ ⟨rfl, _, rfl⟩ (by omega) ?_
  refine c_copy (n := 8) hd1 ⟨rfl, _, rfl⟩ ⟨rfl, _, rfl⟩ (by omega) ?_
  refine c_copy (n := 40) hd1 ⟨rfl, _, rfl⟩ ⟨rfl, _, rfl⟩ (by omega) ?_
  simp (disch := omega) only [lm_c, Nat.reduceSub]
  refine hK _ ⟨?_, fun c h1 h2 k hk => ?_⟩
  · simp (disch := omega) only [uRn, u2s, u2n, and_self]
  · rcases (show c = 1 ∨ c = 2 ∨ c = 3 ∨ c = 4 ∨ c = 5 ∨ c = 6 ∨ c = 7 ∨ c = 8 by omega) with rfl | rfl | rfl | rfl | rfl | rfl | rfl | rfl <;> (simp (disch := omega) only [uRn, uRs]; exact cpy_lt hk)
theorem c_lcopy20_109 (hd : 2 ≤ d) (hK : ∀ l', Same u 109 l' → K (lm u 20 l')) : CV X d 42 [.ref 20, .ref 109] (lm u 20 l) K := by
  obtain ⟨d, rfl, hd1⟩ := dpos hd
  refine CV_of mk_X4_copyFrom.2.2 rfl (B_L20_copyFrom109_0 ?_)
  simp (disch := omega) only [la1, la2, lt1, lt2, nI_add, pk_mul, nI_clamp, vpn, nI_leI, nI_ltI, nI_eq, ll1, ll2, ll3, ll4, le1, le2, true_and, and_true, not_true_eq_false, not_false_eq_true, forall_const, false_implies, implies_true, if_true, if_false, ite_true, ite_false, and_self, false_and, and_false, lm_in, lm_o, lm_w, Nat.reduceSub, u2r, u2s, u2n, u2u, b01, b10]
  refine c_copy (n := 8) hd1 ⟨rfl, _, rfl⟩ ⟨rfl, _, rfl⟩ (by omega) ?_
  refine c_copy (n := 8) hd1 ⟨rfl, _, rfl⟩ ⟨rfl, _, rfl⟩ (by omega) ?_
  refine c_copy (n := 8) hd1 ⟨rfl, _, rfl⟩ ⟨rfl, _, rfl⟩ (by omega) ?_
  refine c_copy (n := 8) hd1 ⟨rfl, _, rfl⟩ ⟨rfl, _, rfl⟩ (by omega) ?_
  refine c_copy (n := 8) hd1 ⟨rfl, _, rfl⟩ ⟨rfl, _, rfl⟩ (by omega) ?_
  refine c_copy (n := 8) hd1 ⟨rfl, _, rfl⟩ ⟨rfl, _, rfl⟩ (by omega) ?_
  refine c_copy (n := 8) hd1 ⟨rfl, _, rfl⟩ ⟨rfl, _, rfl⟩ (by omega) ?_
  refine c_copy (n := 40) hd1 ⟨rfl, _, rfl⟩ ⟨rfl, _, rfl⟩ (by omega) ?_
  simp (disch := omega) only [lm_c, Nat.reduceSub]
  refine hK _ ⟨?_, fun c h1 h2 k hk => ?_⟩
  · simp (disch := omega) only [uRn, u2s, u2n, and_self]
  · rcases (show c = 1 ∨ c = 2 ∨ c = 3 ∨ c = 4 ∨ c = 5 ∨ c = 6 ∨ c = 7 ∨ c = 8 by omega) with rfl | rfl | rfl | rfl | rfl | rfl | rfl | rfl <;> (simp (disch := omega) only [uRn, uRs]; exact cpy_lt hk)
theorem c_lcopy20_135 (hd : 2 ≤ d) (hK : ∀ l', Same u 135 l' → K (lm u 20 l')) : CV X d 42 [.ref 20, .ref 135] (lm u 20 l) K := by
  obtain ⟨d, rfl, hd1⟩ := dpos hd
  refine CV_of mk_X4_copyFrom.2.2 rfl (B_L20_copyFrom135_0 ?_)
  simp (disch := omega) only [la1, la2, lt1, lt2, nI_add, pk_mul, nI_clamp, vpn, nI_leI, nI_ltI, nI_eq, ll1, ll2, ll3, ll4, le1, le2, true_and, and_true, not_true_eq_false, not_false_eq_true, forall_const, false_implies, implies_true, if_true, if_false, ite_true, ite_false, and_self, false_and, and_false, lm_in, lm_o, lm_w, Nat.reduceSub, u2r, u2s, u2n, u2u, b01, b10]
  refine c_copy (n := 8) hd1 ⟨rfl, _, rfl⟩ ⟨rfl, _, rfl⟩ (by omega) ?_
  refine c_copy (n := 8) hd1 ⟨rfl, _, rfl⟩ ⟨rfl, _, rfl⟩ (by omega) ?_
  refine c_copy (n := 8) hd1 ⟨rfl, _, rfl⟩ ⟨rfl, _, rfl⟩ (by omega) ?_
  refine c_copy (n := 8) hd1 ⟨rfl, _, rfl⟩ ⟨rfl, _, rfl⟩ (by omega) ?_
  refine c_copy (n := 8) hd1 ⟨rfl, _, rfl⟩ ⟨rfl, _, rfl⟩ (by omega) ?_
  refine c_copy (n := 8) hd1 ⟨rfl, _, rfl⟩ ⟨rfl, _, rfl⟩ (by omega) ?_
  refine c_copy (n := 8) hd1 ⟨rfl, _, rfl⟩ ⟨rfl, _, rfl⟩ (by omega) ?_
  refine c_copy (n := 40) hd1 ⟨rfl, _, rfl⟩ ⟨rfl, _, rfl⟩ (by omega) ?_
  simp (disch := omega) only [lm_c, Nat.reduceSub]
  refine hK _ ⟨?_, fun c h1 h2 k hk => ?_⟩
  · simp (disch := omega) only [uRn, u2s, u2n, and_self]
  · rcases (show c = 1 ∨ c = 2 ∨ c = 3 ∨ c = 4 ∨ c = 5 ∨ c = 6 ∨ c = 7 ∨ c = 8 by omega) with rfl | rfl | rfl | rfl | rfl | rfl | rfl | rfl <;> (simp (disch := omega) only [uRn, uRs]; exact cpy_lt hk)
theorem c_lcopy190_20 (hd : 2 ≤ d) (hK : ∀ l', Same u 20 l' → K (lm u 190 l')) : CV X d 42 [.ref 190, .ref 20] (lm u 190 l) K := by
  obtain ⟨d, rfl, hd1⟩ := dpos hd
  refine CV_of mk_X4_copyFrom.2.2 rfl (B_L190_copyFrom20_0 ?_)
  simp (disch := omega) only [la1, la2, lt1, lt2, nI_add, pk_mul, nI_clamp, vpn, nI_leI, nI_ltI, nI_eq, ll1, ll2, ll3, ll4, le1, le2, true_and, and_true, not_true_eq_false, not_false_eq_true, forall_const, false_implies, implies_true, if_true, if_false, ite_true, ite_false, and_self, false_and, and_false, lm_in, lm_o, lm_w, Nat.reduceSub, u2r, u2s, u2n, u2u, b01, b10]
  refine c_copy (n := 8) hd1 ⟨rfl, _, rfl⟩ ⟨rfl, _, rfl⟩ (by omega) ?_
  refine c_copy (n := 8) hd1 ⟨rfl, _, rfl⟩ ⟨rfl, _, rfl⟩ (by omega) ?_
  refine c_copy (n := 8) hd1 ⟨rfl, _, rfl⟩ ⟨rfl, _, rfl⟩ (by omega) ?_
  refine c_copy (n := 8) hd1 ⟨rfl, _, rfl⟩ ⟨rfl, _, rfl⟩ (by omega) ?_
  refine c_copy (n := 8) hd1 ⟨rfl, _, rfl⟩ ⟨rfl, _, rfl⟩ (by omega) ?_
  refine c_copy (n := 8) hd1 ⟨rfl, _, rfl⟩ ⟨rfl, _, rfl⟩ (by omega) ?_
  refine c_copy (n := 8) hd1 ⟨rfl, _, rfl⟩ ⟨rfl, _, rfl⟩ (by omega) ?_
  refine c_copy (n := 40) hd1 ⟨rfl, _, rfl⟩ ⟨rfl, _, rfl⟩ (by omega) ?_
  simp (disch := omega) only [lm_c, Nat.reduceSub]
  refine hK _ ⟨?_, fun c h1 h2 k hk => ?_⟩
  · simp (disch := omega) only [uRn, u2s, u2n, and_self]
  · rcases (show c = 1 ∨ c = 2 ∨ c = 3 ∨ c = 4 ∨ c = 5 ∨ c = 6 ∨ c = 7 ∨ c = 8 by omega) with rfl | rfl | rfl | rfl | rfl | rfl | rfl | rfl <;> (simp (disch := omega) only [uRn, uRs]; exact cpy_lt hk)
theorem c_lcopy220_20 (hd : 2 ≤ d) (hK : ∀ l', Same u 20 l' → K (lm u 220 l')) : CV X d 42 [.ref 220, .ref 20] (lm u 220 l) K := by
  obtain ⟨d, rfl, hd1⟩ := dpos hd
  refine CV_of mk_X4_copyFrom.2.2 rfl (B_L220_copyFrom20_0 ?_)
  simp (disch := omega) only [la1, la2, lt1, lt2, nI_add, pk_mul, nI_clamp, vpn, nI_leI, nI_ltI, nI_eq, ll1, ll2, ll3, ll4, le1, le2, true_and, and_true, not_true_eq_false, not_false_eq_true, forall_const, false_implies, implies_true, if_true, if_false, ite_true, ite_false, and_self, false_and, and_false, lm_in, lm_o, lm_w, Nat.reduceSub, u2r, u2s, u2n, u2u, b01, b10]
  refine c_copy (n := 8) hd1 ⟨rfl, _, rfl⟩ ⟨rfl, _, rfl⟩ (by omega) ?_
  refine c_copy (n := 8) hd1 ⟨rfl, _, rfl⟩ ⟨rfl, _, rfl⟩ (by omega) ?_
  refine c_copy (n := 8) hd1 ⟨rfl, _, rfl⟩ ⟨rfl, _, rfl⟩ (by omega) ?_
  refine c_copy (n := 8) hd1 ⟨rfl, _, rfl⟩ ⟨rfl, _, rfl⟩ (by omega) ?_
  refine c_copy (n := 8) hd1 ⟨rfl, _, rfl⟩ ⟨rfl, _, rfl⟩ (by omega) ?_
  refine c_copy (n := 8) hd1 ⟨rfl, _, rfl⟩ ⟨rfl, _, rfl⟩ (by omega) ?_
  refine c_copy (n := 8) hd1 ⟨rfl, _, rfl⟩ ⟨rfl, _, rfl⟩ (by omega) ?_
  refine c_copy (n := 40) hd1 ⟨rfl, _, rfl⟩ ⟨rfl, _, rfl⟩ (by omega) ?_
  simp (disch := omega) only [lm_c, Nat.reduceSub]
  refine hK _ ⟨?_, fun c h1 h2 k hk => ?_⟩
  · simp (disch := omega) only [uRn, u2s, u2n, and_self]
  · rcases (show c = 1 ∨ c = 2 ∨ c = 3 ∨ c = 4 ∨ c = 5 ∨ c = 6 ∨ c = 7 ∨ c = 8 by omega) with rfl | rfl | rfl | rfl | rfl | rfl | rfl | rfl <;> (simp (disch := omega) only [uRn, uRs]; exact cpy_lt hk)
theorem c_lcopy20_190 (hd : 2 ≤ d) (hK : ∀ l', Same u 190 l' → K (lm u 20 l')) : CV X d 42 [.ref 20, .ref 190] (lm u 20 l) K := by
  obtain ⟨d, rfl, hd1⟩ := dpos hd
  refine CV_of mk_X4_copyFrom.2.2 rfl (B_L20_copyFrom190_0 ?_)
  simp (disch := omega) only [la1, la2, lt1, lt2, nI_add, pk_mul, nI_clamp, vpn, nI_leI, nI_ltI, nI_eq, ll1, ll2, ll3, ll4, le1, le2, true_and, and_true, not_true_eq_false, not_false_eq_true, forall_const, false_implies, implies_true, if_true, if_false, ite_true, ite_false, and_self, false_and, and_false, lm_in, lm_o, lm_w, Nat.reduceSub, u2r, u2s, u2n, u2u, b01, b10]
  refine c_copy (n := 8) hd1 ⟨rfl, _, rfl⟩ ⟨rfl, _, rfl⟩ (by omega) ?_
  refine c_copy (n := 8) hd1 ⟨rfl, _, rfl⟩ ⟨rfl, _, rfl⟩ (by omega) ?_
  refine c_copy (n := 8) hd1 ⟨rfl, _, rfl⟩ ⟨rfl, _, rfl⟩ (by omega) ?_
  refine c_copy (n := 8) hd1 ⟨rfl, _, rfl⟩ ⟨rfl, _, rfl⟩ (by omega) ?_
  refine c_copy (n := 8) hd1 ⟨rfl, _, rfl⟩ ⟨rfl, _, rfl⟩ (by omega) ?_
  refine c_copy (n := 8) hd1 ⟨rfl, _, rfl⟩ ⟨rfl, _, rfl⟩ (by omega) ?_
  refine c_copy (n := 8) hd1 ⟨rfl, _, rfl⟩ ⟨rfl, _, rfl⟩ (by omega) ?_
  refine c_copy (n := 40) hd1 ⟨rfl, _, rfl⟩ ⟨rfl, _, rfl⟩ (by omega) ?_
  simp (disch := omega) only [lm_c, Nat.reduceSub]
  refine hK _ ⟨?_, fun c h1 h2 k hk => ?_⟩
  · simp (disch := omega) only [uRn, u2s, u2n, and_self]
  · rcases (show c = 1 ∨ c = 2 ∨ c = 3 ∨ c = 4 ∨ c = 5 ∨ c = 6 ∨ c = 7 ∨ c = 8 by omega) with rfl | rfl | rfl | rfl | rfl | rfl | rfl | rfl <;> (simp (disch := omega) only [uRn, uRs]; exact cpy_lt hk)
theorem c_lcopy20_220 (hd : 2 ≤ d) (hK : ∀ l', Same u 220 l' → K (lm u 20 l')) : CV X d 42 [.ref 20, .ref 220] (lm u 20 l) K := by
  obtain ⟨d, rfl, hd1⟩ := dpos hd
  refine CV_of mk_X4_copyFrom.2.2 rfl (B_L20_copyFrom220_0 ?_)
  simp (disch := omega) only [la1, la2, lt1, lt2, nI_add, pk_mul, nI_clamp, vpn, nI_leI, nI_ltI, nI_eq, ll1, ll2, ll3, ll4, le1, le2, true_and, and_true, not_true_eq_false, not_false_eq_true, forall_const, false_implies, implies_true, if_true, if_false, ite_true, ite_false, and_self, false_and, and_false, lm_in, lm_o, lm_w, Nat.reduceSub, u2r, u2s, u2n, u2u, b01, b10]
  refine c_copy (n := 8) hd1 ⟨rfl, _, rfl⟩ ⟨rfl, _, rfl⟩ (by omega) ?_
  refine c_copy (n := 8) hd1 ⟨rfl, _, rfl⟩ ⟨rfl, _, rfl⟩ (by omega) ?_
  refine c_copy (n := 8) hd1 ⟨rfl, _, rfl⟩ ⟨rfl, _, rfl⟩ (by omega) ?_
  refine c_copy (n := 8) hd1 ⟨rfl, _, rfl⟩ ⟨rfl, _, rfl⟩ (by omega) ?_
  refine c_copy (n := 8) hd1 ⟨rfl, _, rfl⟩ ⟨rfl, _, rfl⟩ (by omega) ?_
  refine c_copy (n := 8) hd1 ⟨rfl, _, rfl⟩ ⟨rfl, _, rfl⟩ (by omega) ?_
  refine c_copy (n := 8) hd1 ⟨rfl, _, rfl⟩ ⟨rfl, _, rfl⟩ (by omega) ?_
  refine c_copy (n := 40) hd1 ⟨rfl, _, rfl⟩ ⟨rfl, _, rfl⟩ (by omega) ?_
  simp (disch := omega) only [lm_c, Nat.reduceSub]
  refine hK _ ⟨?_, fun c h1 h2 k hk => ?_⟩
  · simp (disch := omega) only [uRn, u2s, u2n, and_self]
  · rcases (show c = 1 ∨ c = 2 ∨ c = 3 ∨ c = 4 ∨ c = 5 ∨ c = 6 ∨ c = 7 ∨ c = 8 by omega) with rfl | rfl | rfl | rfl | rfl | rfl | rfl | rfl <;> (simp (disch := omega) only [uRn, uRs]; exact cpy_lt hk)
end LCopy
theorem Same.P {u : Mm} {L : Nat} {l : Nat → Nat → Int32} {g s : Nat → Int32} (hA : nA g ≤ 8) (hQ : nQ g ≤ 8) (hW : nW' g ≤ 8) (h : Same u L l) (hl : LifeR u L g s) : LifeP g s l := by
  obtain ⟨⟨a1, a2, a3, a4⟩, b⟩ := h
  obtain ⟨⟨c1, c2, c3, c4⟩, d1, d2, d3⟩ := hl
  refine ⟨⟨a1.trans c1, a2.trans c2, a4.trans c3, a3.trans c4⟩, fun a ha => ?_, fun q hq => ?_, fun w hw => ⟨?_, fun k hk => ?_⟩⟩
  · obtain ⟨e1, e2, e3, e4, e5⟩ := d1 a ha
    exact ⟨(b 1 (by omega) (by omega) a (by rw [if_neg (by omega)]; omega)).trans e1, (b 2 (by omega) (by omega) a (by rw [if_neg (by omega)]; omega)).trans e2, (b 4 (by omega) (by omega) a (by rw [if_neg (by omega)]; omega)).trans e3, (b 5 (by omega) (by omega) a (by rw [if_neg (by omega)]; omega)).trans e4, (b 6 (by omega) (by omega) a (by rw [if_neg (by omega)]; omega)).trans e5⟩
  · exact (b 3 (by omega) (by omega) q (by rw [if_neg (by omega)]; omega)).trans (d2 q hq)
  · exact (b 7 (by omega) (by omega) w (by rw [if_neg (by omega)]; omega)).trans (d3 w hw).1
  · exact (b 8 (by omega) (by omega) _ (by rw [if_pos rfl]; omega)).trans ((d3 w hw).2 k hk)
