theorem vw_in {x : Nat} {q : vw_C} (h : vwCl[x]? = some q) : ∀ w ∈ u_ws q.1 q.2.1 q.2.2, w ∈ Om := by
  match x, h with
  | 0, h => cases h; exact inlX0
  | 1, h => cases h; exact inlX1
  | 2, h => cases h; exact inlX2
  | 3, h => cases h; exact inlX3
  | 4, h => cases h; exact inlX4
  | 5, h => cases h; exact inlX5
  | 6, h => cases h; exact inlX6
  | 7, h => cases h; exact inlX7
  | 8, h => cases h; exact inlX8
  | 9, h => cases h; exact inlX9
  | 10, h => cases h; exact inlX10
  | 11, h => cases h; exact inlX11
  | 12, h => cases h; exact inlX12
  | 13, h => cases h; exact inlX13
  | n + 14, h => simp [vwCl] at h
theorem vw_ty {x : Nat} {q : vw_C} (h : vwCl[x]? = some q) : ∃ ty0 : Nat → FieldType, ∀ k, k < q.2.2 → parseFieldDescriptor (q.2.1 k).2.2.1 = some (ty0 k) := by
  match x, h with
  | 0, h => cases h; exact ⟨_, tyX0_ok⟩
  | 1, h => cases h; exact ⟨_, tyX1_ok⟩
  | 2, h => cases h; exact ⟨_, tyX2_ok⟩
  | 3, h => cases h; exact ⟨_, tyX3_ok⟩
  | 4, h => cases h; exact ⟨_, tyX4_ok⟩
  | 5, h => cases h; exact ⟨_, tyX5_ok⟩
  | 6, h => cases h; exact ⟨_, tyX6_ok⟩
  | 7, h => cases h; exact ⟨_, tyX7_ok⟩
  | 8, h => cases h; exact ⟨_, tyX8_ok⟩
  | 9, h => cases h; exact ⟨_, tyX9_ok⟩
  | 10, h => cases h; exact ⟨_, tyX10_ok⟩
  | 11, h => cases h; exact ⟨_, tyX11_ok⟩
  | 12, h => cases h; exact ⟨_, tyX12_ok⟩
  | 13, h => cases h; exact ⟨_, tyX13_ok⟩
  | n + 14, h => simp [vwCl] at h
theorem vw_nm {x : Nat} {q : vw_C} (h : vwCl[x]? = some q) : ∀ a, a < q.2.2 → ∀ b, b < q.2.2 → a ≠ b → (q.2.1 a).2.1 ≠ (q.2.1 b).2.1 := by
  match x, h with
  | 0, h => cases h; exact nmX0
  | 1, h => cases h; exact nmX1
  | 2, h => cases h; exact nmX2
  | 3, h => cases h; exact nmX3
  | 4, h => cases h; exact nmX4
  | 5, h => cases h; exact nmX5
  | 6, h => cases h; exact nmX6
  | 7, h => cases h; exact nmX7
  | 8, h => cases h; exact nmX8
  | 9, h => cases h; exact nmX9
  | 10, h => cases h; exact nmX10
  | 11, h => cases h; exact nmX11
  | 12, h => cases h; exact nmX12
  | 13, h => cases h; exact nmX13
  | n + 14, h => simp [vwCl] at h
theorem vw_at {x : Nat} (h : x < 14) : ∃ q, vwCl[x]? = some q := ⟨_, List.getElem?_eq_getElem (by simpa [vwCl] using h)⟩
set_option maxRecDepth 100000 in
theorem ly_obj : ∀ a, a < nW → (ly a).1 = 1 → (ly a).2.2 = Nf (ly a).2.1 ∧ (ly a).2.1 < 14 := by decide +kernel
theorem isObj_spec {a x : Nat} (h : isObj a x = true) : a < nW ∧ x < 14 ∧ ly a = (1, x, Nf x) := by
  unfold isObj at h
  rw [Bool.and_eq_true] at h
  obtain ⟨h1, h2⟩ := h
  have ha : a < nW := by simpa using h1
  have hs := ly_obj a ha
  revert h2 hs
  generalize ly a = t
  obtain ⟨k, d, n⟩ := t
  intro h2 hs
  match k, h2, hs with
  | 0, h2, _ => simp at h2
  | 1, h2, hs =>
    have e : d = x := by simpa using h2
    subst e
    obtain ⟨h3, h4⟩ := hs rfl
    have h3 : n = Nf d := h3
    exact ⟨ha, h4, by rw [h3]⟩
  | k + 2, h2, _ => simp at h2
theorem ent_obj (X : Xc) (u : Mm) {a x n : Nat} (h : ly a = (1, x, n)) : ent X u a = .inr (x, (List.range n).map (fld X u a x)) := by simp only [ent, h]
theorem ent_int (X : Xc) (u : Mm) {a x n : Nat} (h : ly a = (2, x, n)) : ent X u a = .inl (xid X 0, n, .inl (u.1 a)) := by simp only [ent, h]
theorem ent_long (X : Xc) (u : Mm) {a x n : Nat} (h : ly a = (3, x, n)) : ent X u a = .inl (xid X 1, n, .inr (.inl (u.2 a))) := by simp only [ent, h]
theorem ent_bool (X : Xc) (u : Mm) {a x n : Nat} (h : ly a = (4, x, n)) : ent X u a = .inl (xid X 2, n, .inl (u.1 a)) := by simp only [ent, h]
theorem ent_ref (X : Xc) (u : Mm) {a x n : Nat} (h : ly a = (6, x, n)) : ent X u a = .inl (xid X (4 + x), n, .inr (.inr (.inr (.inr (fun i => some (xad X (rr a i))))))) := by simp only [ent, h]
theorem mI_self (u : Mm) (a j : Nat) (v : Int32) : (mI u a j v).1 a = upd (u.1 a) j v := by
  funext k
  by_cases h : k = j
  · simp [mI, upd, h]
  · simp [mI, upd, h]
theorem mI_other (u : Mm) {a b : Nat} (j : Nat) (v : Int32) (h : b ≠ a) : (mI u a j v).1 b = u.1 b := by
  funext k
  simp [mI, h]
theorem mJ_self (u : Mm) (a j : Nat) (v : Int64) : (mJ u a j v).2 a = vp_updL (u.2 a) j v := by
  funext k
  by_cases h : k = j
  · simp [mJ, vp_updL, h]
  · simp [mJ, vp_updL, h]
theorem mJ_other (u : Mm) {a b : Nat} (j : Nat) (v : Int64) (h : b ≠ a) : (mJ u a j v).2 b = u.2 b := by
  funext k
  simp [mJ, h]
theorem fld_mI (X : Xc) (u : Mm) {a x n y : Nat} (v : Int32) (hf : fty x y = 0 ∨ fty x y = 2) : (List.range n).map (fld X (mI u a y v) a x) = ((List.range n).map (fld X u a x)).set y (.int v) := by
  apply List.ext_getElem?
  intro k
  by_cases hk : k < n
  · rw [List.getElem?_map, List.getElem?_range hk]
    by_cases e : k = y
    · subst e
      rw [List.getElem?_set_self (by simpa using hk)]
      rcases hf with hf | hf <;> simp [fld, hf, mI]
    · rw [List.getElem?_set_ne (Ne.symm e), List.getElem?_map, List.getElem?_range hk]
      simp [fld, mI, e]
  · rw [List.getElem?_eq_none (by simp; omega), List.getElem?_eq_none (by simp; omega)]
theorem fld_mJ (X : Xc) (u : Mm) {a x n y : Nat} (v : Int64) (hf : fty x y = 1) : (List.range n).map (fld X (mJ u a y v) a x) = ((List.range n).map (fld X u a x)).set y (.long v) := by
  apply List.ext_getElem?
  intro k
  by_cases hk : k < n
  · rw [List.getElem?_map, List.getElem?_range hk]
    by_cases e : k = y
    · subst e
      rw [List.getElem?_set_self (by simpa using hk)]
      simp [fld, hf, mJ]
    · rw [List.getElem?_set_ne (Ne.symm e), List.getElem?_map, List.getElem?_range hk]
      simp [fld, mJ, e]
  · rw [List.getElem?_eq_none (by simp; omega), List.getElem?_eq_none (by simp; omega)]
section VMem
variable {X : Xc} {p : Program} {e : Env} {R : Room} {s : State} {m : MethodId} {args : Array Value} {below : List Frame} {meth : Method} {c : Code} {own : String} {cc : ByteArray} {nL cells slots : Nat} {Z : State → Prop} {sc : Option (Nat × (Nat → Int32))} {pc : Nat} {lv : List (Option Value)} {r : List Value} {u : Mm}
theorem Gx.ts (G : Gx X p s m args c own cc nL sc) : ∀ w ∈ Om, w.before args s = true := G.2.2.2.2.1
theorem Gx.ow (G : Gx X p s m args c own cc nL sc) : s.vm.findClass own = some m.cls := G.2.2.2.1
theorem Gx.K (G : Gx X p s m args c own cc nL sc) : va_K (xD X) vwCl (tys X) s := G.2.2.2.2.2.1
theorem Gx.sta (G : Gx X p s m args c own cc nL sc) : sta X s s.heap := G.2.2.2.2.2.2.1
theorem Gx.ad (G : Gx X p s m args c own cc nL sc) : adOk X := G.2.2.2.2.2.2.2.1
theorem Gx.ns (G : Gx X p s m args c own cc nL sc) : nsO X s := G.2.2.2.2.2.2.2.2.1
theorem Gx.scr (G : Gx X p s m args c own cc nL sc) : scr X sc s s.heap := G.2.2.2.2.2.2.2.2.2
theorem V_getf (G : Gx X p s m args c own cc nL sc) {i x y a : Nat} {v : Value} (hd : decode cc pc = .ok (.getfield i, 3)) (hm : Cond.fieldLink own i (Tf x y).1 (Tf x y).2.1 (Tf x y).2.2.1 ∈ Om) (hy : y < Nf x) (ho : isObj a x = true) (hv : fld X u a x y = up X v)
    (h : Vx X p e R s m args below meth c nL cells slots Z (pc + 3) lv (v :: r) u) : Vx X p e R s m args below meth c nL cells slots Z pc lv (.ref a :: r) u := by
  intro H locs ls hP hS hl
  obtain ⟨ha, hx, hly⟩ := isObj_spec ho
  obtain ⟨q, hq⟩ := vw_at hx
  have hT : Tf x y = q.2.1 y := by unfold Tf; rw [hq]
  have hN : Nf x = q.2.2 := by unfold Nf; rw [hq]
  rw [hT] at hm
  have he : (wld X u)[a]? = some (xad X a, .inr (x, (List.range (Nf x)).map (fld X u a x))) := by rw [wld_at X u ha, ent_obj X u hly]
  exact va_get (C := q.1) (T := q.2.1) (N := q.2.2) (Ts := Om) G.1 G.2.1 G.ts (vw_in hq) G.ow G.K hP a he hq y (by rw [← hN]; exact hy) (G.ts _ hm) (fun _ h => h) (v := up X v) (by rw [List.getElem?_map, List.getElem?_range hy]; simp [hv]) hd (h H locs ls hP hS hl)
theorem V_putf (G : Gx X p s m args c own cc nL sc) {i x y a : Nat} {v : Value} {ty : FieldType} {u' : Mm} (hd : decode cc pc = .ok (.putfield i, 3)) (hm : Cond.fieldLink own i (Tf x y).1 (Tf x y).2.1 (Tf x y).2.2.1 ∈ Om) (hy : y < Nf x) (ho : isObj a x = true) (hfin : (Tf x y).2.2.2 = false) (hp : parseFieldDescriptor (Tf x y).2.2.1 = some ty) (hn : narrow ty (up X v) = up X v) (hfit : fits ty (up X v) = true)
    (hu : (List.range (Nf x)).map (fld X u' a x) = ((List.range (Nf x)).map (fld X u a x)).set y (up X v)) (h1 : ∀ b, b ≠ a → u'.1 b = u.1 b) (h2 : ∀ b, b ≠ a → u'.2 b = u.2 b)
    (h : Vx X p e R s m args below meth c nL cells slots Z (pc + 3) lv r u') : Vx X p e R s m args below meth c nL cells slots Z pc lv (v :: .ref a :: r) u := by
  intro H locs ls hP hS hl
  obtain ⟨ha, hx, hly⟩ := isObj_spec ho
  obtain ⟨q, hq⟩ := vw_at hx
  have hT : Tf x y = q.2.1 y := by unfold Tf; rw [hq]
  have hN : Nf x = q.2.2 := by unfold Nf; rw [hq]
  rw [hT] at hm hfin hp
  have he : (wld X u)[a]? = some (xad X a, .inr (x, (List.range (Nf x)).map (fld X u a x))) := by rw [wld_at X u ha, ent_obj X u hly]
  obtain ⟨ty0, hty⟩ := vw_ty hq
  refine va_put (C := q.1) (T := q.2.1) (N := q.2.2) (Ts := Om) G.1 G.2.1 G.ts (vw_in hq) ty0 hty (vw_nm hq) G.ow G.K hP (wld_D G.ad u) hS a he hq y (by rw [← hN]; exact hy) (G.ts _ hm) (fun _ h => h) hfin hp hn hfit (by simpa using hy) hd (fun H1 locs1 hP1 hD1 hS1 => ?_)
  rw [← hu, ← ent_obj X u' hly, wld_set X ha h1 h2] at hP1
  exact h H1 locs1 ls hP1 hS1 hl
theorem V_iald (G : Gx X p s m args c own cc nL sc) {a x n : Nat} {i : Int32} (hd : decode cc pc = .ok (.iaload, 1)) (ha : a < nW) (hly : ly a = (2, x, n)) (hin : vp_in i n)
    (h : Vx X p e R s m args below meth c nL cells slots Z (pc + 1) lv (.int (u.1 a i.toNatClampNeg) :: r) u) : Vx X p e R s m args below meth c nL cells slots Z pc lv (.int i :: .ref a :: r) u := by
  intro H locs ls hP hS hl
  exact va_iald G.1 G.2.1 G.K hP a 0 (by rw [wld_at X u ha, ent_int X u hly]) rfl hin hd (h H locs ls hP hS hl)
theorem V_lald (G : Gx X p s m args c own cc nL sc) {a x n : Nat} {i : Int32} (hd : decode cc pc = .ok (.laload, 1)) (ha : a < nW) (hly : ly a = (3, x, n)) (hin : vp_in i n)
    (h : Vx X p e R s m args below meth c nL cells slots Z (pc + 1) lv (.long (u.2 a i.toNatClampNeg) :: r) u) : Vx X p e R s m args below meth c nL cells slots Z pc lv (.int i :: .ref a :: r) u := by
  intro H locs ls hP hS hl
  exact va_lald G.1 G.2.1 G.K hP a 1 (by rw [wld_at X u ha, ent_long X u hly]) rfl hin hd (h H locs ls hP hS hl)
theorem V_zald (G : Gx X p s m args c own cc nL sc) {a x n : Nat} {i : Int32} (hd : decode cc pc = .ok (.baload, 1)) (ha : a < nW) (hly : ly a = (4, x, n)) (hin : vp_in i n)
    (h : Vx X p e R s m args below meth c nL cells slots Z (pc + 1) lv (.int (u.1 a i.toNatClampNeg) :: r) u) : Vx X p e R s m args below meth c nL cells slots Z pc lv (.int i :: .ref a :: r) u := by
  intro H locs ls hP hS hl
  exact va_zald G.1 G.2.1 G.K hP a 2 (by rw [wld_at X u ha, ent_bool X u hly]) rfl hin hd (h H locs ls hP hS hl)
theorem V_aald (G : Gx X p s m args c own cc nL sc) {a t n : Nat} {i : Int32} (hd : decode cc pc = .ok (.aaload, 1)) (ha : a < nW) (ht : t < 2) (hly : ly a = (6, t, n)) (hin : vp_in i n)
    (h : Vx X p e R s m args below meth c nL cells slots Z (pc + 1) lv (.ref (rr a i.toNatClampNeg) :: r) u) : Vx X p e R s m args below meth c nL cells slots Z pc lv (.int i :: .ref a :: r) u := by
  intro H locs ls hP hS hl
  rcases (show t = 0 ∨ t = 1 by omega) with rfl | rfl
  · exact va_aldq G.1 G.2.1 G.K hP a 4 (C := RX11) (f := fun i => some (xad X (rr a i))) (by rw [wld_at X u ha, ent_ref X u hly]) rfl hin hd (h H locs ls hP hS hl)
  · exact va_aldq G.1 G.2.1 G.K hP a 5 (C := RX4) (f := fun i => some (xad X (rr a i))) (by rw [wld_at X u ha, ent_ref X u hly]) rfl hin hd (h H locs ls hP hS hl)
theorem V_iast (G : Gx X p s m args c own cc nL sc) {a x n : Nat} {i v : Int32} (hd : decode cc pc = .ok (.iastore, 1)) (ha : a < nW) (hly : ly a = (2, x, n)) (hin : vp_in i n)
    (h : Vx X p e R s m args below meth c nL cells slots Z (pc + 1) lv r (mI u a i.toNatClampNeg v)) : Vx X p e R s m args below meth c nL cells slots Z pc lv (.int v :: .int i :: .ref a :: r) u := by
  intro H locs ls hP hS hl
  refine va_iast G.1 G.2.1 G.K hP (wld_D G.ad u) hS a 0 (by rw [wld_at X u ha, ent_int X u hly]) rfl hin hd (fun H1 locs1 hP1 hD1 hS1 => ?_)
  rw [← mI_self, ← ent_int X (mI u a i.toNatClampNeg v) hly, wld_set X ha (fun b hb => mI_other u _ _ hb) (fun _ _ => rfl)] at hP1
  exact h H1 locs1 ls hP1 hS1 hl
theorem V_zast (G : Gx X p s m args c own cc nL sc) {a x n : Nat} {i v : Int32} (hd : decode cc pc = .ok (.bastore, 1)) (ha : a < nW) (hly : ly a = (4, x, n)) (hin : vp_in i n)
    (h : Vx X p e R s m args below meth c nL cells slots Z (pc + 1) lv r (mI u a i.toNatClampNeg (vp_nar .boolean v))) : Vx X p e R s m args below meth c nL cells slots Z pc lv (.int v :: .int i :: .ref a :: r) u := by
  intro H locs ls hP hS hl
  refine va_zast G.1 G.2.1 G.K hP (wld_D G.ad u) hS a 2 (by rw [wld_at X u ha, ent_bool X u hly]) rfl hin hd (fun H1 locs1 hP1 hD1 hS1 => ?_)
  rw [← mI_self, ← ent_bool X (mI u a i.toNatClampNeg (vp_nar .boolean v)) hly, wld_set X ha (fun b hb => mI_other u _ _ hb) (fun _ _ => rfl)] at hP1
  exact h H1 locs1 ls hP1 hS1 hl
theorem V_last (G : Gx X p s m args c own cc nL sc) {a x n : Nat} {i : Int32} {v : Int64} (hd : decode cc pc = .ok (.lastore, 1)) (ha : a < nW) (hly : ly a = (3, x, n)) (hin : vp_in i n)
    (h : Vx X p e R s m args below meth c nL cells slots Z (pc + 1) lv r (mJ u a i.toNatClampNeg v)) : Vx X p e R s m args below meth c nL cells slots Z pc lv (.long v :: .int i :: .ref a :: r) u := by
  intro H locs ls hP hS hl
  refine va_last G.1 G.2.1 G.K hP (wld_D G.ad u) hS a 1 (by rw [wld_at X u ha, ent_long X u hly]) rfl hin hd (fun H1 locs1 hP1 hD1 hS1 => ?_)
  rw [← mJ_self, ← ent_long X (mJ u a i.toNatClampNeg v) hly, wld_set X (u := u) (v := mJ u a i.toNatClampNeg v) ha (fun _ _ => rfl) (fun b hb => mJ_other u _ _ hb)] at hP1
  exact h H1 locs1 ls hP1 hS1 hl
theorem V_alen (G : Gx X p s m args c own cc nL sc) {a x n : Nat} (hd : decode cc pc = .ok (.arraylength, 1)) (ha : a < nW) (hly : ly a = (2, x, n))
    (h : Vx X p e R s m args below meth c nL cells slots Z (pc + 1) lv (.int (nI n) :: r) u) : Vx X p e R s m args below meth c nL cells slots Z pc lv (.ref a :: r) u := by
  intro H locs ls hP hS hl
  exact va_alen G.1 G.2.1 G.K hP a 0 (x := (n, .inl (u.1 a))) (by rw [wld_at X u ha, ent_int X u hly]) (ty := .int) rfl rfl hd (h H locs ls hP hS hl)
theorem V_xald (G : Gx X p s m args c own cc nL sc) {i : Int32} (hd : decode cc pc = .ok (.iaload, 1)) (hin : vp_in i 4)
    (h : Vx X p e R s m args below meth c nL cells slots Z (pc + 1) lv (.int (exI 1000 i.toNatClampNeg) :: r) u) : Vx X p e R s m args below meth c nL cells slots Z pc lv (.int i :: .ref 1000 :: r) u := by
  intro H locs ls hP hS hl
  exact va_ti G.1 G.2.1 G.sta.2.1 hS hin (v := .int (exI 1000 i.toNatClampNeg)) rfl hd (h H locs ls hP hS hl)
theorem V_sald {sc' : Nat × (Nat → Int32)} (G : Gx X p s m args c own cc nL (some sc')) {i : Int32} (hd : decode cc pc = .ok (.iaload, 1)) (hin : vp_in i sc'.1)
    (h : Vx X p e R s m args below meth c nL cells slots Z (pc + 1) lv (.int (sc'.2 i.toNatClampNeg) :: r) u) : Vx X p e R s m args below meth c nL cells slots Z pc lv (.int i :: .ref 1001 :: r) u := by
  intro H locs ls hP hS hl
  obtain ⟨h1, h2, h3⟩ := G.scr
  exact va_sld G.1 G.2.1 h1 h2 h3 hS hin hd (h H locs ls hP hS hl)
theorem V_slen {sc' : Nat × (Nat → Int32)} (G : Gx X p s m args c own cc nL (some sc')) (hd : decode cc pc = .ok (.arraylength, 1))
    (h : Vx X p e R s m args below meth c nL cells slots Z (pc + 1) lv (.int (nI sc'.1) :: r) u) : Vx X p e R s m args below meth c nL cells slots Z pc lv (.ref 1001 :: r) u := by
  intro H locs ls hP hS hl
  obtain ⟨h1, h2, h3⟩ := G.scr
  exact va_slen G.1 G.2.1 h1 h2 h3 hS hd (h H locs ls hP hS hl)
theorem V_gets (G : Gx X p s m args c RX1 cc nL sc) (hd : decode cc pc = .ok (.getstatic 85, 3))
    (h : Vx X p e R s m args below meth c nL cells slots Z (pc + 3) lv (.ref 1000 :: r) u) : Vx X p e R s m args below meth c nL cells slots Z pc lv r u := by
  intro H locs ls hP hS hl
  exact va_getsN (host := "StatueRent") G.1 G.2.1 G.sta.1 hS G.ow (va_Nw.use rfl G.ns.2.1) (fun _ h => h) hd (h H locs ls hP hS hl)
theorem V_copyi (G : Gx X p s m args c own cc nL sc) {i a0 a1 x0 x1 n0 n1 : Nat} {sp dp n : Int32} (hd : decode cc pc = .ok (.invokestatic i, 3)) (hm : Cond.methodLink own i arraycopyName ∈ Om ∧ Cond.native arraycopyName ∈ Om ∧ Cond.static arraycopyName ∈ Om ∧ Cond.initialized "java/lang/System" ∈ Om)
    (h0 : a0 < nW) (h1 : a1 < nW) (l0 : ly a0 = (2, x0, n0)) (l1 : ly a1 = (2, x1, n1)) (hc : ¬ sp < 0 ∧ ¬ dp < 0 ∧ ¬ n < 0 ∧ sp.toNatClampNeg + n.toNatClampNeg ≤ n0 ∧ dp.toNatClampNeg + n.toNatClampNeg ≤ n1) (hf : 1 ≤ R.frames) (hlo : ctg r + (nativeFrameWords "java/lang/System" "arraycopy" 5 + 11) ≤ R.locals)
    (h : Vx X p e R s m args below meth c nL cells slots Z (pc + 3) lv r (mC u a0 sp.toNatClampNeg a1 dp.toNatClampNeg n.toNatClampNeg)) : Vx X p e R s m args below meth c nL cells slots Z pc lv (.int n :: .int dp :: .ref a1 :: .int sp :: .ref a0 :: r) u := by
  intro H locs ls hP hS hl
  refine va_copyi G.1 G.2.1 (G.2.2.1.trans hl.1.symm) G.ow (G.ts _ hm.1) (G.ts _ hm.2.1) (G.ts _ hm.2.2.1) (G.ts _ hm.2.2.2) G.K hP (wld_D G.ad u) hS a0 a1 0 0 (by rw [wld_at X u h0, ent_int X u l0]) (by rw [wld_at X u h1, ent_int X u l1]) rfl rfl rfl hc.1 hc.2.1 hc.2.2.1 hc.2.2.2.1 hc.2.2.2.2 (fun i _ => rfl) hf (by rw [ctg_sum]; exact hlo) hd (fun H1 locs1 hP1 hD1 hS1 => ?_)
  have e1 : va_cpy (u.1 a0) (u.1 a1) sp.toNatClampNeg dp.toNatClampNeg n.toNatClampNeg = (mC u a0 sp.toNatClampNeg a1 dp.toNatClampNeg n.toNatClampNeg).1 a1 := by funext k; simp [mC]
  rw [e1, ← ent_int X (mC u a0 sp.toNatClampNeg a1 dp.toNatClampNeg n.toNatClampNeg) l1, wld_set X (u := u) (v := mC u a0 sp.toNatClampNeg a1 dp.toNatClampNeg n.toNatClampNeg) h1 (fun b hb => by funext k; simp [mC, hb]) (fun _ _ => rfl)] at hP1
  exact h H1 locs1 ls hP1 hS1 hl
theorem V_copyl (G : Gx X p s m args c own cc nL sc) {i a0 a1 x0 x1 n0 n1 : Nat} {sp dp n : Int32} (hd : decode cc pc = .ok (.invokestatic i, 3)) (hm : Cond.methodLink own i arraycopyName ∈ Om ∧ Cond.native arraycopyName ∈ Om ∧ Cond.static arraycopyName ∈ Om ∧ Cond.initialized "java/lang/System" ∈ Om)
    (h0 : a0 < nW) (h1 : a1 < nW) (l0 : ly a0 = (3, x0, n0)) (l1 : ly a1 = (3, x1, n1)) (hc : ¬ sp < 0 ∧ ¬ dp < 0 ∧ ¬ n < 0 ∧ sp.toNatClampNeg + n.toNatClampNeg ≤ n0 ∧ dp.toNatClampNeg + n.toNatClampNeg ≤ n1) (hf : 1 ≤ R.frames) (hlo : ctg r + (nativeFrameWords "java/lang/System" "arraycopy" 5 + 11) ≤ R.locals)
    (h : Vx X p e R s m args below meth c nL cells slots Z (pc + 3) lv r (mCJ u a0 sp.toNatClampNeg a1 dp.toNatClampNeg n.toNatClampNeg)) : Vx X p e R s m args below meth c nL cells slots Z pc lv (.int n :: .int dp :: .ref a1 :: .int sp :: .ref a0 :: r) u := by
  intro H locs ls hP hS hl
  refine va_copyl G.1 G.2.1 (G.2.2.1.trans hl.1.symm) G.ow (G.ts _ hm.1) (G.ts _ hm.2.1) (G.ts _ hm.2.2.1) (G.ts _ hm.2.2.2) G.K hP (wld_D G.ad u) hS a0 a1 1 1 (by rw [wld_at X u h0, ent_long X u l0]) (by rw [wld_at X u h1, ent_long X u l1]) rfl rfl rfl hc.1 hc.2.1 hc.2.2.1 hc.2.2.2.1 hc.2.2.2.2 (fun i _ => rfl) hf (by rw [ctg_sum]; exact hlo) hd (fun H1 locs1 hP1 hD1 hS1 => ?_)
  have e1 : va_cpy (u.2 a0) (u.2 a1) sp.toNatClampNeg dp.toNatClampNeg n.toNatClampNeg = (mCJ u a0 sp.toNatClampNeg a1 dp.toNatClampNeg n.toNatClampNeg).2 a1 := by funext k; simp [mCJ]
  rw [e1, ← ent_long X (mCJ u a0 sp.toNatClampNeg a1 dp.toNatClampNeg n.toNatClampNeg) l1, wld_set X (u := u) (v := mCJ u a0 sp.toNatClampNeg a1 dp.toNatClampNeg n.toNatClampNeg) h1 (fun _ _ => rfl) (fun b hb => by funext k; simp [mCJ, hb])] at hP1
  exact h H1 locs1 ls hP1 hS1 hl
theorem V_mmin (G : Gx X p s m args c own cc nL sc) {i : Nat} {a b : Int32} (hd : decode cc pc = .ok (.invokestatic i, 3)) (hm : Cond.methodLink own i Lib.Math.min.name ∈ Om) (hf : 1 ≤ R.frames) (hlo : ctg r + 13 ≤ R.locals) (hc : cells ≤ R.cells ∧ slots ≤ R.slots)
    (h : Vx X p e R s m args below meth c nL cells slots Z (pc + 3) lv (.int (if b < a then b else a) :: r) u) : Vx X p e R s m args below meth c nL cells slots Z pc lv (.int b :: .int a :: r) u := by
  intro H locs ls hP hS hl
  exact va_mmin G.1 G.2.1 (G.2.2.1.trans hl.1.symm) G.ow (G.ts _ hm) (G.ts _ mathW.1.1) (G.ts _ mathW.1.2.2.2) (G.ts _ mathW.2.1) hf (by rw [ctg_sum]; exact hlo) hc.1 hc.2 hd (h H locs ls hP hS hl)
theorem V_mmax (G : Gx X p s m args c own cc nL sc) {i : Nat} {a b : Int32} (hd : decode cc pc = .ok (.invokestatic i, 3)) (hm : Cond.methodLink own i Lib.Math.max.name ∈ Om) (hf : 1 ≤ R.frames) (hlo : ctg r + 13 ≤ R.locals) (hc : cells ≤ R.cells ∧ slots ≤ R.slots)
    (h : Vx X p e R s m args below meth c nL cells slots Z (pc + 3) lv (.int (if a < b then b else a) :: r) u) : Vx X p e R s m args below meth c nL cells slots Z pc lv (.int b :: .int a :: r) u := by
  intro H locs ls hP hS hl
  exact va_mmax G.1 G.2.1 (G.2.2.1.trans hl.1.symm) G.ow (G.ts _ hm) (G.ts _ mathW.1.2.1) (G.ts _ mathW.1.2.2.2) (G.ts _ mathW.2.2.1) hf (by rw [ctg_sum]; exact hlo) hc.1 hc.2 hd (h H locs ls hP hS hl)
theorem V_mabs (G : Gx X p s m args c own cc nL sc) {i : Nat} {a : Int32} (hd : decode cc pc = .ok (.invokestatic i, 3)) (hm : Cond.methodLink own i Lib.Math.abs.name ∈ Om) (hf : 1 ≤ R.frames) (hlo : ctg r + 13 ≤ R.locals) (hc : cells ≤ R.cells ∧ slots ≤ R.slots)
    (h : Vx X p e R s m args below meth c nL cells slots Z (pc + 3) lv (.int (if 0 ≤ a then a else 0 - a) :: r) u) : Vx X p e R s m args below meth c nL cells slots Z pc lv (.int a :: r) u := by
  intro H locs ls hP hS hl
  exact va_mabs G.1 G.2.1 (G.2.2.1.trans hl.1.symm) G.ow (G.ts _ hm) (G.ts _ mathW.1.2.2.1) (G.ts _ mathW.1.2.2.2) (G.ts _ mathW.2.2.2) hf (by rw [ctg_sum]; exact hlo) hc.1 hc.2 hd (h H locs ls hP hS hl)
end VMem
