/-! copy and fill, of any rows -/
section SxA
variable {cd : Nat → Option TE} {sc : Option (Nat × (Nat → Int32))} {RI : Int32 → Mm → Prop} {RJ : Int64 → Mm → Prop} {RV : Mm → Prop} {TH : Nat → Mm → Prop} {cI : Nat → List Value → Mm → (Int32 → Mm → Prop) → Prop} {cV : Nat → List Value → Mm → (Mm → Prop) → Prop} {cJ : Nat → List Value → Mm → (Int64 → Mm → Prop) → Prop} {ih : Nat → Lv → List Value → Mm → Prop} {pc : Nat} {lv : Lv} {r : List Value} {u : Mm}
theorem sx_alen {a x n : Nat} (hc : cd pc = some (.arraylength, 1, 0, 0, 0, 0)) (ha : Nat.blt a nW = true) (hl : ly a = (2, x, n)) (h : ih (pc + 1) lv (.int (nI n) :: r) u) : sxS cd sc RI RJ RV TH cI cV cJ ih pc lv (.ref a :: r) u := by
  unfold sxS
  rw [hc]
  dsimp only
  rw [ha, cond_true, hl]
  exact h
theorem sx_copy {s d x0 x1 n0 n1 k : Nat} {n : Int32} (hc : cd pc = some (.invokestatic k, 3, 900, 0, 0, 0)) (hs : Nat.blt s nW = true) (hd : Nat.blt d nW = true) (l0 : ly s = (2, x0, n0)) (l1 : ly d = (2, x1, n1)) (hr : ctg r ≤ 8) (h0 : ¬ n < 0) (h1 : n.toNatClampNeg ≤ n0) (h2 : n.toNatClampNeg ≤ n1) (h : ih (pc + 3) lv r (mC u s 0 d 0 n.toNatClampNeg)) : sxS cd sc RI RJ RV TH cI cV cJ ih pc lv (.int n :: .int 0 :: .ref d :: .int 0 :: .ref s :: r) u := by
  unfold sxS
  rw [hc]
  dsimp only
  rw [show Nat.beq 900 900 = true from rfl, cond_true, hs, hd, show Nat.ble (ctg r) 8 = true from Nat.ble_eq.mpr hr]
  simp only [Bool.and_self, cond_true, l0, l1]
  refine ⟨⟨by decide, by decide, h0, ?_, ?_⟩, h⟩
  · rw [show (0 : Int32).toNatClampNeg = 0 from rfl]; omega
  · rw [show (0 : Int32).toNatClampNeg = 0 from rfl]; omega
theorem sx_iast {a x n : Nat} {v i : Int32} (hc : cd pc = some (.iastore, 1, 0, 0, 0, 0)) (ha : Nat.blt a nW = true) (hl : ly a = (2, x, n)) (hi : vp_in i n) (h : ih (pc + 1) lv r (mI u a i.toNatClampNeg v)) : sxS cd sc RI RJ RV TH cI cV cJ ih pc lv (.int v :: .int i :: .ref a :: r) u := by
  unfold sxS
  rw [hc]
  dsimp only
  rw [ha, cond_true, hl]
  exact ⟨hi, h⟩
end SxA
/-- row a is an int row of n places -/
def rowN (a n : Nat) : Prop := Nat.blt a nW = true ∧ ∃ x, ly a = (2, x, n)
theorem c_copy {X : Xc} {d : Nat} {u : Mm} {K : Mm → Prop} {a0 a1 n : Nat} (hd : 1 ≤ d) (h0 : rowN a0 n) (h1 : rowN a1 n) (hn : n < 1000) (hK : K (mC u a0 0 a1 0 n)) : CV X d 179 [.ref a0, .ref a1] u K := by
  obtain ⟨d, rfl, -⟩ := dpos hd
  obtain ⟨b0, x0, l0⟩ := h0
  obtain ⟨b1, x1, l1⟩ := h1
  refine CV_of mk_X12_copy.2.2 rfl ?_
  refine VV_step mk_X12_copy (fun _ _ _ _ h => h) ?_
  change VV X d 179 K 1 [some (.ref a0), some (.ref a1)] [.ref a0] u
  refine VV_step mk_X12_copy (fun _ _ _ _ h => h) ?_
  change VV X d 179 K 2 [some (.ref a0), some (.ref a1)] [.int 0, .ref a0] u
  refine VV_step mk_X12_copy (fun _ _ _ _ h => h) ?_
  change VV X d 179 K 3 [some (.ref a0), some (.ref a1)] [.ref a1, .int 0, .ref a0] u
  refine VV_step mk_X12_copy (fun _ _ _ _ h => h) ?_
  change VV X d 179 K 4 [some (.ref a0), some (.ref a1)] [.int 0, .ref a1, .int 0, .ref a0] u
  refine VV_step mk_X12_copy (fun _ _ _ _ h => h) ?_
  change VV X d 179 K 5 [some (.ref a0), some (.ref a1)] [.ref a0, .int 0, .ref a1, .int 0, .ref a0] u
  refine VV_step mk_X12_copy (fun _ _ _ _ h => h) (sx_alen rfl b0 l0 ?_)
  refine VV_step mk_X12_copy (fun _ _ _ _ h => h) ?_
  change VV X d 179 K 7 [some (.ref a0), some (.ref a1)] [.ref a1, .int (nI n), .int 0, .ref a1, .int 0, .ref a0] u
  refine VV_step mk_X12_copy (fun _ _ _ _ h => h) (sx_alen rfl b1 l1 ?_)
  refine VV_step mk_X12_copy (fun _ _ _ _ h => h) ?_
  change VV X d 179 K 11 [some (.ref a0), some (.ref a1)] [.int (if nI n < nI n then nI n else nI n), .int 0, .ref a1, .int 0, .ref a0] u
  rw [if_neg Int32.lt_irrefl]
  refine VV_step mk_X12_copy (fun _ _ _ _ h => h) (sx_copy rfl b0 b1 l0 l1 (by decide) (nI_pos (by omega)) (by rw [nI_clamp (by omega)]; omega) (by rw [nI_clamp (by omega)]; omega) ?_)
  rw [nI_clamp (by omega)]
  refine VV_step mk_X12_copy (ih := VV X d 179 K) (fun _ _ _ _ h => h) ?_
  exact hK
