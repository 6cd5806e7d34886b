/-! the tape's constructor: its words, out of the literal -/
section CTape
variable {X : Xc} {k : Nat} {S : Nat → Nat → Bool} {p : Program} {e : Env} {R : Room} {s : State} {m : MethodId} {args : Array Value} {below : List Frame} {meth : Method} {c : Code} {own : String} {cc : ByteArray} {nL cells slots : Nat} {Z : State → Prop} {sc : Option (Nat × (Nat → Int32))} {pc : Nat} {lv : List (Option Value)} {r : List Value} {u : Mm}
theorem C_getfN (G : Gx X p s m args c RX6 cc nL sc) {a : Nat} {v : Value} (hd : decode cc pc = .ok (.getfield 28, 3)) (ho : isObj a 4 = true) (hk : a < k) (hv : fldC X u S a 4 0 = up X v)
    (h : Vc X k S p e R s m args below meth c nL cells slots Z (pc + 3) lv (v :: r) u) : Vc X k S p e R s m args below meth c nL cells slots Z pc lv (.ref a :: r) u := by
  intro oo zz H locs ls hP hS hl
  obtain ⟨ha, hx, hly⟩ := isObj_spec ho
  obtain ⟨q, hq⟩ := vw_at hx
  have hT : Tf 4 0 = q.2.1 0 := by unfold Tf; rw [hq]
  have hN : Nf 4 = q.2.2 := by unfold Nf; rw [hq]
  have h1 : (q.2.1 0).1 = "StatueRent$Life" := by rw [← hT]; decide +kernel
  have h2 : (q.2.1 0).2.1 = "city" := by rw [← hT]; decide +kernel
  have h3 : (q.2.1 0).2.2.1 = "LStatueRent$City;" := by rw [← hT]; decide +kernel
  have hy : 0 < Nf 4 := by decide
  have he : (wldC X u k S)[a]? = some (xad X a, .inr (4, (List.range (Nf 4)).map (fldC X u S a 4))) := by rw [wldC_at X u hk, entC_obj X u hly]
  exact va_getN (host := "StatueRent") (ref := "StatueRent$Life") (C := q.1) (T := q.2.1) (N := q.2.2) (Ts := Om) G.1 G.2.1 G.ts (vw_in hq) G.ow G.K hP a he hq 0 (by rw [← hN]; exact hy) (by rw [h2, h3]; exact va_Nw.use rfl G.ns.2.2.2.2.2.2.2.2.2.2) (fun x hx => by rw [h1] at hx; exact hx) (v := up X v) (by rw [List.getElem?_map, List.getElem?_range hy]; simp [hv]) hd (h oo zz H locs ls hP hS hl)
theorem C_lput0 (G : Gx X p s m args c own cc nL sc) {i x y a : Nat} (hd : decode cc pc = .ok (.putfield i, 3)) (hm : Cond.fieldLink own i (Tf x y).1 (Tf x y).2.1 (Tf x y).2.2.1 ∈ Om) (hy : y < Nf x) (ho : isObj a x = true) (hk : a < k) (hkn : k ≤ nW) (hfin : (Tf x y).2.2.2 = false ∨ ((Tf x y).2.2.2 = true ∧ meth.name = "<init>" ∧ (Tf x y).1 = own)) (hp : parseFieldDescriptor (Tf x y).2.2.1 = some .long) (hf : fty x y = 1) (hz : u.2 a y = 0)
    (h : Vc X k S p e R s m args below meth c nL cells slots Z (pc + 3) lv r u) : Vc X k S p e R s m args below meth c nL cells slots Z pc lv (.long 0 :: .ref a :: r) u := by
  refine C_put (v := .long 0) (u' := u) (S' := S) G hd hm hy ho hk hkn hfin hp rfl rfl ?_ (fun _ _ => rfl) (fun _ _ => rfl) (fun _ _ => rfl) (fun _ _ => rfl) id id h
  unfold fldC
  rw [hf]
  show Value.long (u.2 a y) = .long 0
  rw [hz]
theorem C_lald (G : Gx X p s m args c own cc nL sc) {a x n : Nat} {i : Int32} (hd : decode cc pc = .ok (.laload, 1)) (ha : a < k) (hly : ly a = (3, x, n)) (hin : vp_in i n)
    (h : Vc X k S p e R s m args below meth c nL cells slots Z (pc + 1) lv (.long (u.2 a i.toNatClampNeg) :: r) u) : Vc X k S p e R s m args below meth c nL cells slots Z pc lv (.int i :: .ref a :: r) u := by
  intro oo zz H locs ls hP hS hl
  exact va_lald G.1 G.2.1 G.K hP a 1 (by rw [wldC_at X u ha, entC_long X u hly]) rfl hin hd (h oo zz H locs ls hP hS hl)
theorem C_iastj (G : Gx X p s m args c own cc nL sc) {a x n j : Nat} {i v : Int32} (hj : i.toNatClampNeg = j) (hd : decode cc pc = .ok (.iastore, 1)) (ha : a < k) (hkn : k ≤ nW) (hly : ly a = (2, x, n)) (hin : vp_in i n)
    (h : Vc X k S p e R s m args below meth c nL cells slots Z (pc + 1) lv r (mI u a j v)) : Vc X k S p e R s m args below meth c nL cells slots Z pc lv (.int v :: .int i :: .ref a :: r) u := by
  subst hj
  exact C_iast G hd ha hkn hly hin h
theorem C_callV (G : Gx X p s m args c own cc nL sc) {y : MethodName} {bytes : ByteArray} {maxL i d n mc ms k' a x : Nat} {as : List Value} {u' : Mm} {S' : Nat → Nat → Bool} (ok : okR y bytes maxL none n) (hin : Cond.instanceMethod y ∈ Om ∧ Cond.selects y.cls y y ∈ Om) (hy : y.cls = Rf x) (ho : isObj a x = true) (hak : a < k) (hl : Cond.methodLink own i y ∈ Om) (hf : d + 1 ≤ R.frames) (hlo : 64 * (d + 1) ≤ R.locals) (hc : cells + mc ≤ R.cells ∧ slots + ms ≤ R.slots) (hA : xB X ≤ s.heap.size) (hM : CK X d y bytes maxL (.ref a :: as) u k S mc ms u' k' S') (hn : as.length = n) (hr : ctg r ≤ 8) (hd : decode cc pc = .ok (.invokevirtual i, 3)) (hlv : lv.all (fun o => match o with | none => true | some v => okv k v) = true) (hst : r.all (okv k) = true) (hoo : OkS k S → OkS k' S') (hzz : ZrC k u → ZrC k' u')
    (h : ∀ ad, Nx X ad k → Vc (xw X ad) k' S' p e R s m args below meth c nL (cells + mc) (slots + ms) Z (pc + 3) lv r u') : Vc X k S p e R s m args below meth c nL cells slots Z pc lv (as.reverse ++ .ref a :: r) u := by
  intro oo zz H locs ls hP hS hl'
  rw [List.map_append, List.map_reverse]
  have ok' := ok
  obtain ⟨h1, h2, h3, h4, h5, h6, -⟩ := ok
  obtain ⟨ha, hx, hly⟩ := isObj_spec ho
  obtain ⟨q, hq⟩ := vw_at hx
  have hR : Rf x = q.1 := by unfold Rf; rw [hq]
  have hp : PreS s H (PreK X (.ref a :: as) u k S) ((Value.ref a :: as).map (up X)) := ⟨preK_blind, fun U hU hW => ⟨rfl, by rw [hU]; exact hP, va_K.moved hW.alike G.K, by rw [hU]; exact (G.sta.kept (fun q h1 h2 => hS.2.1 q h1 h2)).moved hW.alike, G.ad, G.ns.warm hW, by rw [hU]; exact Nat.le_trans hA hS.1⟩⟩
  refine va_callv (va_runV (C := y.cls) ⟨G.1, G.2.1, G.2.2.1, G.ow, G.ts⟩ hM ⟨callB_of n G.ts (Om_goodInR ok') rfl rfl rfl (G.ts _ h2) (G.ts _ hl) ⟨h3, h4, h5⟩ ⟨hf, by show 8 + (maxL + 11) + 64 * d ≤ R.locals; omega⟩, G.ts _ hin.1, G.ts _ hin.2⟩ ⟨hp.1, by rw [hy, hR]; exact va_recv G.K hP hq (q0 := a) (by rw [wldC_at X u hak, entC_obj X u hly]), hp.2⟩ rfl (by simpa using hn) hl'.1 rfl (lv_room (by rw [ctg_sum]; exact hr)) hd hc) hS (fun _ _ h => h) (fun _ h => h) ?_
  intro ad t H1 locs1 ht _ hx' hB _ _ hS1
  have := h ad hx' (hoo oo) (hzz zz) H1 locs1 ls (by rw [← ht]; exact hB) hS1 (by rw [lv_up hx' lv 0 hlv]; exact hl')
  rw [st_up hx' hst] at this
  exact this
theorem C_ldcS (G : Gx X p s m args c own cc nL sc) {i idx : Nat} {tx : String} (hd : decode cc pc = .ok (.ldc idx, 2)) (hR : vk_R own idx tx (xad X (1002 + i)) s) (h : Vc X k S p e R s m args below meth c nL cells slots Z (pc + 2) lv (.ref (1002 + i) :: r) u) : Vc X k S p e R s m args below meth c nL cells slots Z pc lv r u := by
  intro oo zz H locs ls hP hS hl T hT St
  obtain ⟨t, a1, b1⟩ := h oo zz H locs ls hP hS hl T hT St
  exact ⟨t, St.ldcString G.1 G.ow (text := tx) (a := xad X (1002 + i)) hR.1 hR.2 (g := F0 m pc ls (r.map (up X))) rfl (by rw [G.2.1]; exact hd) t a1, b1⟩
theorem C_slenS (G : Gx X p s m args c own cc nL sc) {i j d : Nat} (hk : j < 4) (hl : Cond.methodLink own i yJ0_length_8abf5 ∈ Om) (hf : d + 2 ≤ R.frames) (hlo : 64 * (d + 2) ≤ R.locals) (hc : cells ≤ R.cells ∧ slots ≤ R.slots) (hr : ctg r ≤ 8) (hd : decode cc pc = .ok (.invokevirtual i, 3)) (h : Vc X k S p e R s m args below meth c nL cells slots Z (pc + 3) lv (.int (nI (jln j)) :: r) u) : Vc X k S p e R s m args below meth c nL cells slots Z pc lv (.ref (1002 + j) :: r) u := by
  intro oo zz H locs ls hP hS hl'
  refine va_calli (run_VH G (vs := []) (rest := r.map (up X)) (i := i) (d := d + 1) ok_len rfl ⟨by decide +kernel, by decide +kernel⟩ hl hf hlo hc hk (h_len hk) rfl (by rw [ctg_sum]; exact hr) hd hS hl'.1) hS (fun _ _ h => h.elim) (fun _ h => h.elim) ?_
  intro w u' t H1 locs1 ht _ hp hB _ _ hS1
  obtain ⟨rfl, rfl⟩ := hp
  have e1 : H1 = u' := ht.symm.trans hB
  subst e1
  exact h oo zz H1 locs1 ls hP hS1 hl'
theorem C_schrS (G : Gx X p s m args c own cc nL sc) {i q j d : Nat} (hk : q < 4) (hj : j < jln q) (hl : Cond.methodLink own i yJ0_charAt_5068e ∈ Om) (hf : d + 4 ≤ R.frames) (hlo : 64 * (d + 4) ≤ R.locals) (hc : cells ≤ R.cells ∧ slots ≤ R.slots) (hr : ctg r ≤ 8) (hd : decode cc pc = .ok (.invokevirtual i, 3)) (h : Vc X k S p e R s m args below meth c nL cells slots Z (pc + 3) lv (.int (jch q j) :: r) u) : Vc X k S p e R s m args below meth c nL cells slots Z pc lv (.int (nI j) :: .ref (1002 + q) :: r) u := by
  intro oo zz H locs ls hP hS hl'
  refine va_calli (run_VH G (vs := [.int (nI j)]) (rest := r.map (up X)) (i := i) (d := d + 3) ok_chr rfl ⟨by decide +kernel, by decide +kernel⟩ hl hf hlo hc hk (h_chr hk hj) rfl (by rw [ctg_sum]; exact hr) hd hS hl'.1) hS (fun _ _ h => h.elim) (fun _ h => h.elim) ?_
  intro w u' t H1 locs1 ht _ hp hB _ _ hS1
  obtain ⟨rfl, rfl⟩ := hp
  have e1 : H1 = u' := ht.symm.trans hB
  subst e1
  exact h oo zz H1 locs1 ls hP hS1 hl'
def QHl (x : Int64) (H : Heap) : Array Value → State → Outcome → State → Prop := va_Ql (fun w H' => w = x ∧ H' = H) (fun (H' : Heap) (t : State) => t.heap = H') nA0
theorem ok_joined : okR yX10_joined cX10_joined 3 (some .long) 2 := ⟨by decide +kernel, by decide +kernel, by decide +kernel, by decide +kernel, by decide +kernel, by decide, by decide +kernel⟩
theorem h_joined {d : Nat} {H : Heap} {a : Int64} {b : Int32} : MH X yX10_joined cX10_joined 3 (some .long) d [.long a, .int b] H (QHl (a <<< ((5 : Int32).toInt64 &&& 63) + (b - 97 + 1).toInt64) H) := by
  refine met_ofH ok_joined.2.2.2.2.2.2 (by simp [lg_sl, Value.category]) ?_
  intro p e s m below meth c G hH hr hlk ls hl
  have l0 : ls[0]? = some (.val (.long a)) := hl.2.2 _ (List.mem_cons_self)
  have l2 : ls[2]? = some (.val (.int b)) := hl.2.2 _ (List.mem_cons_of_mem _ List.mem_cons_self)
  refine lv_lload_n (k := 0) (i := 0) G.1 G.2.1 (by decide +kernel) rfl l0 ?_
  refine lv_iconst (n := 5) (v := 5) G.1 G.2.1 (by decide +kernel) rfl ?_
  refine lv_lshl G.1 G.2.1 (by decide +kernel) rfl ?_
  refine lv_iload_n (k := 2) (i := 2) G.1 G.2.1 (by decide +kernel) rfl l2 ?_
  refine lv_bipush (n := 97) (v := 97) G.1 G.2.1 (by decide +kernel) rfl ?_
  refine lv_isub G.1 G.2.1 (by decide +kernel) ?_
  refine lv_iconst (n := 1) (v := 1) G.1 G.2.1 (by decide +kernel) rfl ?_
  refine lv_iadd G.1 G.2.1 (by decide +kernel) ?_
  refine lv_i2l G.1 G.2.1 (by decide +kernel) rfl ?_
  refine lv_ladd G.1 G.2.1 (by decide +kernel) ?_
  exact W.lret G.1 G.2.1 hr (fun t ht _ => ⟨⟨_, H, rfl, ⟨rfl, rfl⟩, ht.trans hH⟩, ⟨Nat.le_of_eq (by rw [ht]), fun q _ _ => by rw [ht]⟩⟩) (fun q hq => nomatch hq) (by decide +kernel)
theorem C_joined (G : Gx X p s m args c own cc nL sc) {i d : Nat} {a : Int64} {b : Int32} (hl : Cond.methodLink own i yX10_joined ∈ Om) (hf : d + 1 ≤ R.frames) (hlo : 64 * (d + 1) ≤ R.locals) (hc : cells ≤ R.cells ∧ slots ≤ R.slots) (hr : ctg r ≤ 8) (hd : decode cc pc = .ok (.invokestatic i, 3)) (h : Vc X k S p e R s m args below meth c nL cells slots Z (pc + 3) lv (.long (a <<< ((5 : Int32).toInt64 &&& 63) + (b - 97 + 1).toInt64) :: r) u) : Vc X k S p e R s m args below meth c nL cells slots Z pc lv (.int b :: .long a :: r) u := by
  intro oo zz H locs ls hP hS hl'
  refine va_calll (run_SH G (vs := [.long a, .int b]) (rest := r.map (up X)) (i := i) (d := d) ok_joined (by decide +kernel) hl hf hlo hc h_joined rfl (by rw [ctg_sum]; exact hr) hd hS hl'.1) hS (fun _ _ h => h.elim) (fun _ h => h.elim) ?_
  intro w u' t H1 locs1 ht _ hp hB _ _ hS1
  obtain ⟨rfl, rfl⟩ := hp
  have e1 : H1 = u' := ht.symm.trans hB
  subst e1
  exact h oo zz H1 locs1 ls hP hS1 hl'
end CTape
/-- the row of words, set whole -/
def mW (u : Mm) (f : Nat → Int64) : Mm := (u.1, fun b => if b = 3 then f else u.2 b)
def rwL (l : List Nat) : Nat → Int64 := fun j => lN (l.getD j 0)
theorem mW_J {u : Mm} {f g : Nat → Int64} {j : Nat} {x : Int64} (h : ∀ i, g i = if i = j then x else f i) : mJ (mW u f) 3 j x = mW u g := by
  unfold mJ mW
  refine Prod.ext rfl ?_
  funext b i
  show (if b = 3 ∧ i = j then x else (if b = 3 then f else u.2 b) i) = (if b = 3 then g else u.2 b) i
  by_cases e : b = 3
  · rw [if_pos e, if_pos e, h]
    by_cases e2 : i = j
    · rw [if_pos ⟨e, e2⟩, if_pos e2]
    · rw [if_neg (fun z => e2 z.2), if_neg e2]
  · rw [if_neg (fun z => e z.1), if_neg e, if_neg e]
theorem mW_id {u : Mm} {f : Nat → Int64} (h : u.2 3 = f) : mW u f = u := by
  unfold mW
  refine Prod.ext rfl ?_
  funext b
  show (if b = 3 then f else u.2 b) = u.2 b
  by_cases e : b = 3
  · rw [if_pos e, e, h]
  · rw [if_neg e]
theorem ZrC.mW {k : Nat} {f : Nat → Int64} {u : Mm} (h : ZrC k u) (hk : 3 < k) : ZrC k (mW u f) := fun b hb => ⟨(h b hb).1, by
  show (if b = 3 then f else u.2 b) = _
  rw [if_neg (by omega)]
  exact (h b hb).2⟩
theorem rwL_0 : rwL ([] ++ [0]) = fun _ => 0 := by
  funext j
  cases j with
  | zero => rfl
  | succ j => rfl
theorem rwL_sp {l : List Nat} : rwL (l ++ [0]) = rwL l := by
  funext j
  unfold rwL
  congr 1
  by_cases h : j < l.length
  · rw [List.getD_eq_getElem?_getD, List.getElem?_append_left h, ← List.getD_eq_getElem?_getD]
  · by_cases h2 : j = l.length
    · subst h2
      simp
    · rw [List.getD_eq_getElem?_getD, List.getElem?_eq_none (by simp; omega), List.getD_eq_getElem?_getD, List.getElem?_eq_none (by omega)]
theorem rwL_set {l : List Nat} {x y : Nat} (i : Nat) : rwL (l ++ [y]) i = if i = l.length then lN y else rwL (l ++ [x]) i := by
  unfold rwL
  by_cases h : i < l.length
  · rw [if_neg (by omega), List.getD_eq_getElem?_getD, List.getElem?_append_left h, List.getD_eq_getElem?_getD, List.getElem?_append_left h]
  · by_cases h2 : i = l.length
    · subst h2
      simp
    · rw [if_neg h2, List.getD_eq_getElem?_getD, List.getElem?_eq_none (by simp; omega), List.getD_eq_getElem?_getD, List.getElem?_eq_none (by simp; omega)]
theorem rwL_last {l : List Nat} {x : Nat} : rwL (l ++ [x]) l.length = lN x := by
  unfold rwL
  simp
/-- the letters that are left, read from (words that are whole, the one begun): all goes well, and the words are those -/
def tOk : List Int32 → List Nat → Nat → Bool
  | [], l, x => decide (l ++ [x] = wrds.map e5)
  | b :: r, l, x => decide (l.length < 24) && bif decide (b = 32) then tOk r (l ++ [x]) 0 else decide (lN x <<< ((5 : Int32).toInt64 &&& 63) + (b - 97 + 1).toInt64 = lN (32 * x + (b.toNatClampNeg - 96))) && tOk r l (32 * x + (b.toNatClampNeg - 96))
set_option maxRecDepth 100000 in
theorem tOk_0 : tOk ((List.range' 0 (jln 0)).map (jch 0)) [] 0 = true := by decide +kernel
theorem jln0 : jln 0 = 140 := rfl
theorem tape_loop {X : Xc} {k : Nat} {S : Nat → Nat → Bool} {p : Program} {e : Env} {R : Room} {s : State} {m : MethodId} {args : Array Value} {below : List Frame} {meth : Method} {c : Code} {cells slots d : Nat} {Z : State → Prop} {u : Mm} (G : Gx X p s m args c yX10_init.cls cX10_init 4 none) (hf : d + 4 ≤ R.frames) (hlo : 64 * (d + 4) ≤ R.locals) (hc : cells ≤ R.cells ∧ slots ≤ R.slots) (hk : 3 < k) (hkn : k ≤ nW) (hs : S 1 9 = true)
    (h : ∀ lv, Vc X k S p e R s m args below meth c 4 cells slots Z 121 lv [] (mW u (rwL (wrds.map e5)))) : ∀ n i l x w, i + n = jln 0 → tOk ((List.range' i n).map (jch 0)) l x = true → Vc X k S p e R s m args below meth c 4 cells slots Z 65 [some (.ref 1), some (.int (nI l.length)), some (.int (nI i)), w] [] (mW u (rwL (l ++ [x]))) := by
  intro n
  induction n with
  | zero =>
    intro i l x w hi ht
    have ht : decide (l ++ [x] = wrds.map e5) = true := ht
    rw [of_decide_eq_true ht]
    refine C_iload_n (n := 2) (i := 2) (v := nI i) G (by decide +kernel) rfl rfl <| C_ldcS (i := 0) (idx := 45) G (by decide +kernel) G.ns.2.2.1.1 <| C_slenS (i := 47) (j := 0) (d := d + 2) G (by decide) (by decide +kernel) (by omega) (by omega) hc (Nat.le_of_ble_eq_true rfl) (by decide +kernel) <| C_ic_ge (off := 50) (x := 121) G (by decide +kernel) (by decide) ⟨fun _ => h _, fun z => absurd (nI_le (by omega) (by have := jln0; omega)) z⟩
  | succ n ih =>
    intro i l x w hi ht
    have h0 := jln0
    have hil : i < jln 0 := by omega
    rw [List.range'_succ, List.map_cons] at ht
    have ht : (decide (l.length < 24) && bif decide (jch 0 i = 32) then tOk ((List.range' (i + 1) n).map (jch 0)) (l ++ [x]) 0 else decide (lN x <<< ((5 : Int32).toInt64 &&& 63) + (jch 0 i - 97 + 1).toInt64 = lN (32 * x + ((jch 0 i).toNatClampNeg - 96))) && tOk ((List.range' (i + 1) n).map (jch 0)) l (32 * x + ((jch 0 i).toNatClampNeg - 96))) = true := ht
    rw [Bool.and_eq_true] at ht
    obtain ⟨hl, ht⟩ := ht
    have hl := of_decide_eq_true hl
    have e24 : (24 : Int32) = nI 24 := rfl
    refine C_iload_n (n := 2) (i := 2) (v := nI i) G (by decide +kernel) rfl rfl <| C_ldcS (i := 0) (idx := 45) G (by decide +kernel) G.ns.2.2.1.1 <| C_slenS (i := 47) (j := 0) (d := d + 2) G (by decide) (by decide +kernel) (by omega) (by omega) hc (Nat.le_of_ble_eq_true rfl) (by decide +kernel) <| C_ic_ge (off := 50) (x := 121) G (by decide +kernel) (by decide) ⟨fun z => absurd z (nI_ge hil (by omega)), fun _ => ?_⟩
    refine C_iload_n (n := 1) (i := 1) (v := nI l.length) G (by decide +kernel) rfl rfl <| C_bipush (n := 24) (v := 24) G (by decide +kernel) rfl <| C_ic_ge (off := 44) (x := 121) G (by decide +kernel) (by decide) ⟨fun z => absurd z (nI_ge (b := 24) hl (by decide)), fun _ => ?_⟩
    refine C_ldcS (i := 0) (idx := 45) G (by decide +kernel) G.ns.2.2.1.1 <| C_iload_n (n := 2) (i := 2) (v := nI i) G (by decide +kernel) rfl rfl <| C_schrS (i := 52) (q := 0) (j := i) (d := d) G (by decide) hil (by decide +kernel) hf hlo hc (Nat.le_of_ble_eq_true rfl) (by decide +kernel) <| C_istore_n (n := 3) (i := 3) (v := jch 0 i) G (by decide +kernel) rfl (by decide) rfl <| C_iload_n (n := 3) (i := 3) (v := jch 0 i) G (by decide +kernel) rfl rfl <| C_bipush (n := 32) (v := 32) G (by decide +kernel) rfl <| C_ic_ne (off := 9) (x := 99) G (by decide +kernel) (by decide) ⟨fun hne => ?_, fun he => ?_⟩
    · rw [decide_eq_false hne, cond_false, Bool.and_eq_true] at ht
      obtain ⟨hq, ht⟩ := ht
      have hq := of_decide_eq_true hq
      have hv : fldC X (mW u (rwL (l ++ [x]))) S 1 10 9 = up X (.ref 3) := by
        show (if S 1 9 = true then Value.ref _ else Value.null) = _
        rw [if_pos hs]; rfl
      refine C_aload_n (n := 0) (i := 0) (v := 1) G (by decide +kernel) rfl rfl <| C_getf (i := 41) (x := 10) (y := 9) (v := .ref 3) G (by decide +kernel) (by decide +kernel) (by decide) (by decide) (by omega) hv <| C_iload_n (n := 1) (i := 1) (v := nI l.length) G (by decide +kernel) rfl rfl <| C_aload_n (n := 0) (i := 0) (v := 1) G (by decide +kernel) rfl rfl <| C_getf (i := 41) (x := 10) (y := 9) (v := .ref 3) G (by decide +kernel) (by decide +kernel) (by decide) (by decide) (by omega) hv <| C_iload_n (n := 1) (i := 1) (v := nI l.length) G (by decide +kernel) rfl rfl <| C_lald (x := 0) (n := 24) G (by decide +kernel) hk (by decide +kernel) (vp_in_nI hl (by decide)) <| C_iload_n (n := 3) (i := 3) (v := jch 0 i) G (by decide +kernel) rfl rfl <| C_joined (i := 56) (d := d + 3) G (by decide +kernel) (by omega) (by omega) hc (Nat.le_of_ble_eq_true rfl) (by decide +kernel) <| C_last (x := 0) (n := 24) G (by decide +kernel) hk hkn (by decide +kernel) (vp_in_nI hl (by decide)) ?_
      rw [nI_clamp (by omega)]
      have e1 : (mW u (rwL (l ++ [x]))).2 3 l.length = lN x := rwL_last
      rw [e1, hq, mW_J (fun i => rwL_set (l := l) (x := x) i)]
      refine C_iinc (i := 2) (n := 1) (k := 1) G (by decide +kernel) rfl rfl (by decide) rfl <| C_goto (off := -53) (x := 65) G (by decide +kernel) (by decide) ?_
      have := ih (i + 1) l _ (some (.int (jch 0 i))) (by omega) ht
      rw [← nI_1] at this
      exact this
    · rw [decide_eq_true he, cond_true] at ht
      refine C_iinc (i := 1) (n := 1) (k := 1) G (by decide +kernel) rfl rfl (by decide) rfl <| C_goto (off := 19) (x := 115) G (by decide +kernel) (by decide) <| C_iinc (i := 2) (n := 1) (k := 1) G (by decide +kernel) rfl rfl (by decide) rfl <| C_goto (off := -53) (x := 65) G (by decide +kernel) (by decide) ?_
      have := ih (i + 1) (l ++ [x]) 0 (some (.int (jch 0 i))) (by omega) ht
      rw [← nI_1, List.length_append, show l.length + [x].length = l.length + 1 from rfl, ← nI_1, rwL_sp] at this
      exact this
theorem tape_start {X : Xc} {k : Nat} {S : Nat → Nat → Bool} {p : Program} {e : Env} {R : Room} {s : State} {m : MethodId} {args : Array Value} {below : List Frame} {meth : Method} {c : Code} {cells slots d : Nat} {Z : State → Prop} {u : Mm} (G : Gx X p s m args c yX10_init.cls cX10_init 4 none) (hf : d + 4 ≤ R.frames) (hlo : 64 * (d + 4) ≤ R.locals) (hc : cells ≤ R.cells ∧ slots ≤ R.slots) (hk : 3 < k) (hkn : k ≤ nW) (hs : S 1 9 = true) (h3 : u.2 3 = fun _ => 0)
    (h : ∀ lv, Vc X k S p e R s m args below meth c 4 cells slots Z 121 lv [] (mW u (rwL (wrds.map e5)))) : Vc X k S p e R s m args below meth c 4 cells slots Z 65 [some (.ref 1), some (.int 0), some (.int 0), none] [] u := by
  have e1 : mW u (rwL ([] ++ [0])) = u := mW_id (by rw [rwL_0]; exact h3)
  have := tape_loop G hf hlo hc hk hkn hs h (jln 0) 0 [] 0 none (Nat.zero_add _) tOk_0
  rw [e1] at this
  exact this
