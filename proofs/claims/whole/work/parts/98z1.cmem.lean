/-! memory while it is being made -/
def A0_i (N : Nat) : vp_A := (N, .inl (fun _ => 0))
def A0_l (N : Nat) : vp_A := (N, .inr (.inl (fun _ => 0)))
def A0_z (N : Nat) : vp_A := (N, .inl (fun _ => 0))
section CMem
variable {X : Xc} {k : Nat} {S : Nat → Nat → Bool} {p : Program} {e : Env} {R : Room} {s : State} {m : MethodId} {args : Array Value} {below : List Frame} {meth : Method} {c : Code} {own : String} {cc : ByteArray} {nL cells slots : Nat} {Z : State → Prop} {sc : Option (Nat × (Nat → Int32))} {pc : Nat} {lv : List (Option Value)} {r : List Value} {u : Mm}
theorem C_getf (G : Gx X p s m args c own cc nL sc) {i x y a : Nat} {v : Value} (hd : decode cc pc = .ok (.getfield i, 3)) (hm : Cond.fieldLink own i (Tf x y).1 (Tf x y).2.1 (Tf x y).2.2.1 ∈ Om) (hy : y < Nf x) (ho : isObj a x = true) (hk : a < k) (hv : fldC X u S a x y = up X v)
    (h : Vc X k S p e R s m args below meth c nL cells slots Z (pc + 3) lv (v :: r) u) : Vc X k S p e R s m args below meth c nL cells slots Z pc lv (.ref a :: r) u := by
  intro oo zz H locs ls hP hS hl
  obtain ⟨ha, hx, hly⟩ := isObj_spec ho
  obtain ⟨q, hq⟩ := vw_at hx
  have hT : Tf x y = q.2.1 y := by unfold Tf; rw [hq]
  have hN : Nf x = q.2.2 := by unfold Nf; rw [hq]
  rw [hT] at hm
  have he : (wldC X u k S)[a]? = some (xad X a, .inr (x, (List.range (Nf x)).map (fldC X u S a x))) := by rw [wldC_at X u hk, entC_obj X u hly]
  exact va_get (C := q.1) (T := q.2.1) (N := q.2.2) (Ts := Om) G.1 G.2.1 G.ts (vw_in hq) G.ow G.K hP a he hq y (by rw [← hN]; exact hy) (G.ts _ hm) (fun _ h => h) (v := up X v) (by rw [List.getElem?_map, List.getElem?_range hy]; simp [hv]) hd (h oo zz H locs ls hP hS hl)
theorem setC {u' : Mm} {S' : Nat → Nat → Bool} {a x y n : Nat} {w : Value} (hy : y < n) (hw : fldC X u' S' a x y = w) (ho : ∀ j, j ≠ y → fldC X u' S' a x j = fldC X u S a x j) : (List.range n).map (fldC X u' S' a x) = ((List.range n).map (fldC X u S a x)).set y w := by
  apply List.ext_getElem?
  intro j
  by_cases hj : j < n
  · rw [List.getElem?_map, List.getElem?_range hj]
    by_cases e : j = y
    · subst e
      rw [List.getElem?_set_self (by simpa using hj)]
      simp [hw]
    · rw [List.getElem?_set_ne (Ne.symm e), List.getElem?_map, List.getElem?_range hj]
      simp [ho j e]
  · rw [List.getElem?_eq_none (by simp; omega), List.getElem?_eq_none (by simp; omega)]
/-- a field is put -/
theorem C_put (G : Gx X p s m args c own cc nL sc) {i x y a : Nat} {v : Value} {ty : FieldType} {u' : Mm} {S' : Nat → Nat → Bool} (hd : decode cc pc = .ok (.putfield i, 3)) (hm : Cond.fieldLink own i (Tf x y).1 (Tf x y).2.1 (Tf x y).2.2.1 ∈ Om) (hy : y < Nf x) (ho : isObj a x = true) (hk : a < k) (hkn : k ≤ nW) (hfin : (Tf x y).2.2.2 = false ∨ ((Tf x y).2.2.2 = true ∧ meth.name = "<init>" ∧ (Tf x y).1 = own)) (hp : parseFieldDescriptor (Tf x y).2.2.1 = some ty) (hn : narrow ty (up X v) = up X v) (hfit : fits ty (up X v) = true)
    (hw : fldC X u' S' a x y = up X v) (hj : ∀ j, j ≠ y → fldC X u' S' a x j = fldC X u S a x j) (h1 : ∀ b, b ≠ a → u'.1 b = u.1 b) (h2 : ∀ b, b ≠ a → u'.2 b = u.2 b) (h3 : ∀ b, b ≠ a → S' b = S b) (hoo : OkS k S → OkS k S') (hzz : ZrC k u → ZrC k u')
    (h : Vc X k S' p e R s m args below meth c nL cells slots Z (pc + 3) lv r u') : Vc X k S p e R s m args below meth c nL cells slots Z pc lv (v :: .ref a :: r) u := by
  intro oo zz H locs ls hP hS hl
  obtain ⟨ha, hx, hly⟩ := isObj_spec ho
  obtain ⟨q, hq⟩ := vw_at hx
  have hT : Tf x y = q.2.1 y := by unfold Tf; rw [hq]
  have hN : Nf x = q.2.2 := by unfold Nf; rw [hq]
  rw [hT] at hm hfin hp
  have he : (wldC X u k S)[a]? = some (xad X a, .inr (x, (List.range (Nf x)).map (fldC X u S a x))) := by rw [wldC_at X u hk, entC_obj X u hly]
  obtain ⟨ty0, hty⟩ := vw_ty hq
  have go : ∀ (H1 : Heap) (locs1 : List Loc), va_P (xD X) vwCl ((wldC X u k S).set a (xad X a, .inr (x, ((List.range (Nf x)).map (fldC X u S a x)).set y (up X v)))) H1 → va_S (xA X) s.heap H1 locs1 → W p (xL X) e R s m args below meth c H1 locs1 cells slots Z (F0 m (pc + 3) ls (r.map (up X))) := by
    intro H1 locs1 hP1 hS1
    rw [← setC hy hw hj, ← entC_obj X u' hly, wldC_set X hk h1 h2 h3] at hP1
    exact h (hoo oo) (hzz zz) H1 locs1 ls hP1 hS1 hl
  rcases hfin with hfin | ⟨hfin, hnm, hdc⟩
  · exact va_put (C := q.1) (T := q.2.1) (N := q.2.2) (Ts := Om) G.1 G.2.1 G.ts (vw_in hq) ty0 hty (vw_nm hq) G.ow G.K hP (wldC_D G.ad u hkn) hS a he hq y (by rw [← hN]; exact hy) (G.ts _ hm) (fun _ h => h) hfin hp hn hfit (by simpa using hy) hd (fun H1 locs1 hP1 _ hS1 => go H1 locs1 hP1 hS1)
  · exact va_putF (C := q.1) (T := q.2.1) (N := q.2.2) (Ts := Om) G.1 G.2.1 G.ts (vw_in hq) ty0 hty (vw_nm hq) G.ow G.K hP (wldC_D G.ad u hkn) hS a he hq y (by rw [← hN]; exact hy) (G.ts _ hm) (fun _ h => h) hfin hnm hdc hp hn hfit (by simpa using hy) hd (fun H1 locs1 hP1 _ hS1 => go H1 locs1 hP1 hS1)
/-- the machine goes over to the addresses with the new cell -/
theorem C_go {en : va_E} {q : Nat} {H1 : Heap} {locs : List Loc} {ls : Array Slot} {pc' cells' slots' : Nat} (hkn : k < nW) (oo : OkS k S) (zz : ZrC k u) (hen : ∀ ad, Nx X ad k → ad k = q → entC (xw X ad) u S k = en) (hlv : lv.all (fun o => match o with | none => true | some v => okv k v) = true) (hst : r.all (okv k) = true)
    (h : ∀ ad, Nx X ad k → Vc (xw X ad) (k + 1) S p e R s m args below meth c nL cells' slots' Z pc' lv (.ref k :: r) u)
    (hP : va_P (xD X) vwCl (wldC X u k S ++ [(q, en)]) H1) (hD : va_D (xA X) (wldC X u k S ++ [(q, en)])) (hS : va_S (xA X) s.heap H1 locs) (hl : lv_has ls nL (lvA (up X) 0 lv)) : W p (xL X) e R s m args below meth c H1 locs cells' slots' Z (F0 m pc' ls (.ref q :: r.map (up X))) := by
  obtain ⟨ad, hx, hq, hw⟩ := nx_new hkn oo hD
  have := h ad hx oo.up zz.up H1 locs ls (by
    rw [wldC_new, hw, hen ad hx hq]
    show va_P (xD X) vwCl (wldC X u k S ++ [(ad k, en)]) H1
    rw [hq]
    exact hP) hS (by rw [lv_up hx lv 0 hlv]; exact hl)
  rw [List.map_cons, st_up hx hst] at this
  show W p (xL X) e R s m args below meth c H1 locs cells' slots' Z (F0 m pc' ls (.ref q :: r.map (up X)))
  rw [← hq]
  exact this
theorem C_newi (G : Gx X p s m args c own cc nL sc) {x N : Nat} {v : Int32} (hd : decode cc pc = .ok (.newarray .int, 2)) (hw : Cond.arrayClass .int ∈ Om) (hly : ly k = (2, x, N)) (hkn : k < nW) (hA : xB X ≤ s.heap.size) (hv : v = nI N) (hN : N ≤ 3000) (hc : cells + 1 ≤ R.cells) (hs : slots + N ≤ R.slots) (hlv : lv.all (fun o => match o with | none => true | some v => okv k v) = true) (hst : r.all (okv k) = true)
    (h : ∀ ad, Nx X ad k → Vc (xw X ad) (k + 1) S p e R s m args below meth c nL (cells + 1) (slots + N) Z (pc + 2) lv (.ref k :: r) u) : Vc X k S p e R s m args below meth c nL cells slots Z pc lv (.int v :: r) u := by
  intro oo zz H locs ls hP hS hl
  subst hv
  refine va_newa (atype := .int) (a0 := A0_i N) (N' := N) G.1 G.2.1 (G.ts _ hw) rfl G.K hP (wldC_D G.ad u (Nat.le_of_lt hkn)) hS (fun q hq => Nat.le_trans hA hq) (fun cA => rfl) (nI_pos (by omega)) (nI_clamp (by omega)) (Nat.le_trans (Nat.mul_le_mul hN (show componentBytes (newarray.typeOf ArrayType.int) ≤ 8 by decide)) (by decide)) hc hs hd (fun q cA H1 hK1 hP1 hD1 hS1 => ?_)
  have e1 : cA = xid X 0 := by
    have h1 := (hK1.2 6 _ rfl).2
    have h2 := (G.K.2 0 _ rfl).2
    exact Option.some.inj (h1.symm.trans h2)
  subst e1
  refine C_go hkn oo zz (fun ad hx hq => ?_) hlv hst h hP1 hD1 hS1 hl
  rw [entC_int _ u hly]
  show _ = Sum.inl (xid X 0, A0_i N)
  unfold A0_i
  first | rw [(zz k (Nat.le_refl _)).1] | rw [(zz k (Nat.le_refl _)).2]
theorem C_newl (G : Gx X p s m args c own cc nL sc) {x N : Nat} {v : Int32} (hd : decode cc pc = .ok (.newarray .long, 2)) (hw : Cond.arrayClass .long ∈ Om) (hly : ly k = (3, x, N)) (hkn : k < nW) (hA : xB X ≤ s.heap.size) (hv : v = nI N) (hN : N ≤ 3000) (hc : cells + 1 ≤ R.cells) (hs : slots + N ≤ R.slots) (hlv : lv.all (fun o => match o with | none => true | some v => okv k v) = true) (hst : r.all (okv k) = true)
    (h : ∀ ad, Nx X ad k → Vc (xw X ad) (k + 1) S p e R s m args below meth c nL (cells + 1) (slots + N) Z (pc + 2) lv (.ref k :: r) u) : Vc X k S p e R s m args below meth c nL cells slots Z pc lv (.int v :: r) u := by
  intro oo zz H locs ls hP hS hl
  subst hv
  refine va_newa (atype := .long) (a0 := A0_l N) (N' := N) G.1 G.2.1 (G.ts _ hw) rfl G.K hP (wldC_D G.ad u (Nat.le_of_lt hkn)) hS (fun q hq => Nat.le_trans hA hq) (fun cA => rfl) (nI_pos (by omega)) (nI_clamp (by omega)) (Nat.le_trans (Nat.mul_le_mul hN (show componentBytes (newarray.typeOf ArrayType.long) ≤ 8 by decide)) (by decide)) hc hs hd (fun q cA H1 hK1 hP1 hD1 hS1 => ?_)
  have e1 : cA = xid X 1 := by
    have h1 := (hK1.2 6 _ rfl).2
    have h2 := (G.K.2 1 _ rfl).2
    exact Option.some.inj (h1.symm.trans h2)
  subst e1
  refine C_go hkn oo zz (fun ad hx hq => ?_) hlv hst h hP1 hD1 hS1 hl
  rw [entC_long _ u hly]
  show _ = Sum.inl (xid X 1, A0_l N)
  unfold A0_l
  first | rw [(zz k (Nat.le_refl _)).1] | rw [(zz k (Nat.le_refl _)).2]
theorem C_newz (G : Gx X p s m args c own cc nL sc) {x N : Nat} {v : Int32} (hd : decode cc pc = .ok (.newarray .boolean, 2)) (hw : Cond.arrayClass .boolean ∈ Om) (hly : ly k = (4, x, N)) (hkn : k < nW) (hA : xB X ≤ s.heap.size) (hv : v = nI N) (hN : N ≤ 3000) (hc : cells + 1 ≤ R.cells) (hs : slots + N ≤ R.slots) (hlv : lv.all (fun o => match o with | none => true | some v => okv k v) = true) (hst : r.all (okv k) = true)
    (h : ∀ ad, Nx X ad k → Vc (xw X ad) (k + 1) S p e R s m args below meth c nL (cells + 1) (slots + N) Z (pc + 2) lv (.ref k :: r) u) : Vc X k S p e R s m args below meth c nL cells slots Z pc lv (.int v :: r) u := by
  intro oo zz H locs ls hP hS hl
  subst hv
  refine va_newa (atype := .boolean) (a0 := A0_z N) (N' := N) G.1 G.2.1 (G.ts _ hw) rfl G.K hP (wldC_D G.ad u (Nat.le_of_lt hkn)) hS (fun q hq => Nat.le_trans hA hq) (fun cA => rfl) (nI_pos (by omega)) (nI_clamp (by omega)) (Nat.le_trans (Nat.mul_le_mul hN (show componentBytes (newarray.typeOf ArrayType.boolean) ≤ 8 by decide)) (by decide)) hc hs hd (fun q cA H1 hK1 hP1 hD1 hS1 => ?_)
  have e1 : cA = xid X 2 := by
    have h1 := (hK1.2 6 _ rfl).2
    have h2 := (G.K.2 2 _ rfl).2
    exact Option.some.inj (h1.symm.trans h2)
  subst e1
  refine C_go hkn oo zz (fun ad hx hq => ?_) hlv hst h hP1 hD1 hS1 hl
  rw [entC_bool _ u hly]
  show _ = Sum.inl (xid X 2, A0_z N)
  unfold A0_z
  first | rw [(zz k (Nat.le_refl _)).1] | rw [(zz k (Nat.le_refl _)).2]
end CMem
