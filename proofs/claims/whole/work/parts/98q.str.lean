/-! ===== the JDK's length and charAt of our literals: they leave the heap as it is ===== -/
abbrev nA0 : Nat → Prop := fun _ => False
def PreH (X : Xc) (vs : List Value) (H : Heap) : Array Value → State → Prop := va_Pc vs (fun U => U.heap = H ∧ va_K (xD X) vwCl (tys X) U ∧ sta X U U.heap ∧ adOk X ∧ nsO X U)
def QH (x : Int32) (H : Heap) : Array Value → State → Outcome → State → Prop := va_Qi (fun w H' => w = x ∧ H' = H) (fun (H' : Heap) (t : State) => t.heap = H') nA0
def QHv (H : Heap) : Array Value → State → Outcome → State → Prop := va_Qv (fun H' => H' = H) (fun (H' : Heap) (t : State) => t.heap = H') nA0
abbrev MH (X : Xc) (y : MethodName) (cc : ByteArray) (nL : Nat) (ret : Option FieldType) (d : Nat) (vs : List Value) (H : Heap) (Qc : Array Value → State → Outcome → State → Prop) : Prop := Met (xL X) y (.code y cc nL ret :: Om) (rmD d) (PreH X vs H) Qc 0 0 nA0
def okR (y : MethodName) (cc : ByteArray) (nL : Nat) (ret : Option FieldType) (n : Nat) : Prop := Cond.code y cc nL ret ∈ Om ∧ Cond.initialized y.cls ∈ Om ∧ y.cls ≠ "java/lang/invoke/MethodHandle" ∧ y.cls ≠ "java/lang/invoke/VarHandle" ∧ (parseMethodDescriptor y.desc).map (fun d => d.parameters.length) = some n ∧ nL ≤ 40 ∧ plainName y.cls = true
theorem preH_blind {X : Xc} {vs : List Value} {H : Heap} : FrameBlind (PreH X vs H) := by
  intro a U g mk h
  obtain ⟨h1, h2, h3, h4, h5, h6⟩ := h
  exact ⟨h1, h2, va_K.moved (u := U) (U := U.calling g mk a) (Vm.Alike.refl U.vm) h3, sta.moved (u := U) (U := U.calling g mk a) (Vm.Alike.refl U.vm) h4, h5, h6.same (U := U.calling g mk a) rfl⟩
theorem met_ofH {X : Xc} {y : MethodName} {cc : ByteArray} {nL d : Nat} {ret : Option FieldType} {vs : List Value} {H : Heap} {Qc : Array Value → State → Outcome → State → Prop} (hy : plainName y.cls = true) (hl : (lg_sl vs).length ≤ nL)
    (h : ∀ (p : Program) (e : Env) (s : State) (m : MethodId) (below : List Frame) (meth : Method) (c : Code), Gx X p s m vs.toArray c y.cls cc nL none → s.heap = H → meth.sig.returnType = ret → meth.locks = false → ∀ ls, lv_has ls nL (lv_args 0 vs) → W p (xL X) e (rmD d) s m vs.toArray below meth c s.heap [] 0 0 (MQ below Qc vs.toArray s 0 0 nA0) (F0 m 0 ls [])) : MH X y cc nL ret d vs H Qc := by
  refine Met.ofW (cc := cc) (maxL := nL) (ret := ret) hy rfl ?_
  intro p e s m args below meth c s₁ B hml hv
  obtain ⟨rfl, hH, hK, hst, had, hns⟩ := hv
  have hts := atoms_spec (ws := .code y cc nL ret :: Om) B.pre
  have hown : s.vm.findClass y.cls = some m.cls := findClass_of_methodNamed B.named
  have hls := lv_entry vs (n := nL) hl
  rw [lg_entry_eq]
  exact h p e s m below meth c ⟨B.exec, B.bytes, hml, hown, fun w hw => hts w (List.mem_cons_of_mem _ hw), hK, hst, had, hns, trivial⟩ hH B.returns B.notSynchronized _ hls
theorem Om_goodInR {y : MethodName} {cc : ByteArray} {nL n : Nat} {ret : Option FieldType} (h : okR y cc nL ret n) : GoodIn Om (.code y cc nL ret :: Om) := by
  have hg : ∀ w ∈ Om, w ∈ Om ∧ ((w.onTables && w.keeps) = true ∨ ∃ ty, w = .arrayClass ty) := fun w hw => ⟨hw, good_of_word (List.all_eq_true.mp Om_good w hw)⟩
  intro w hw
  rcases List.mem_cons.mp hw with e | e
  · rw [e]; exact hg _ h.1
  · exact hg w e
theorem va_S.wk {A : Nat → Prop} {H0 H : Heap} {locs : List Loc} (h : va_S nA0 H0 H locs) : va_S A H0 H locs := ⟨h.1, fun q h1 _ => h.2.1 q h1 (fun z => z), fun l hl => (h.2.2 l hl).elim⟩
section
variable {X : Xc} {p : Program} {e : Env} {R : Room} {s : State} {m : MethodId} {args : Array Value} {below : List Frame} {meth : Method} {c : Code} {own : String} {cc : ByteArray} {nL cells slots : Nat} {Z : State → Prop} {sc : Option (Nat × (Nat → Int32))} {pc : Nat} {rest : List Value} {H : Heap} {locs : List Loc} {ls : Array Slot}
theorem pre_ofH (G : Gx X p s m args c own cc nL sc) {vs : List Value} (hS : va_S (xA X) s.heap H locs) : PreS s H (PreH X vs H) vs := by
  refine ⟨preH_blind, fun U hU hW => ⟨rfl, hU, va_K.moved hW.alike G.K, ?_, G.ad, G.ns.warm hW⟩⟩
  rw [hU]
  exact (G.sta.kept (fun q h1 h2 => hS.2.1 q h1 h2)).moved hW.alike
theorem callB_R (G : Gx X p s m args c own cc nL sc) {y : MethodName} {bytes : ByteArray} {maxL i d n : Nat} {ret : Option FieldType} (ok : okR y bytes maxL ret n) (hl : Cond.methodLink own i y ∈ Om) (hf : d + 1 ≤ R.frames) (hlo : 64 * (d + 1) ≤ R.locals) : CallB R s args own i y bytes maxL ret (.code y bytes maxL ret :: Om) (rmD d) 0 0 n := by
  have ok' := ok
  obtain ⟨h1, h2, h3, h4, h5, h6, -⟩ := ok
  exact callB_of n G.ts (Om_goodInR ok') rfl rfl rfl (G.ts _ h2) (G.ts _ hl) ⟨h3, h4, h5⟩ ⟨hf, by show 8 + (maxL + 11) + 64 * d ≤ R.locals; omega⟩
theorem run_SH (G : Gx X p s m args c own cc nL sc) {y : MethodName} {bytes : ByteArray} {maxL i d n : Nat} {ret : Option FieldType} {vs : List Value} {Qc : Array Value → State → Outcome → State → Prop} (ok : okR y bytes maxL ret n) (hst : Cond.static y ∈ Om) (hl : Cond.methodLink own i y ∈ Om) (hf : d + 1 ≤ R.frames) (hlo : 64 * (d + 1) ≤ R.locals) (hc : cells ≤ R.cells ∧ slots ≤ R.slots)
    (hM : MH X y bytes maxL ret d vs H Qc) (hn : vs.length = n) (hr : (rest.map fun v => v.category).sum ≤ 8) (hd : decode cc pc = .ok (.invokestatic i, 3)) (hS : va_S (xA X) s.heap H locs) (hls : ls.size = nL) :
    va_Run p (xL X) e R s m args below meth c H locs cells slots 0 0 (F0 m pc ls (vs.reverse ++ rest)) rest (Qc vs.toArray) nA0 :=
  va_runS ⟨G.1, G.2.1, G.2.2.1, G.ow, G.ts⟩ hM ⟨callB_R G ok hl hf hlo, G.ts _ hst⟩ (pre_ofH G hS) rfl hn hls rfl (lv_room hr) hd ⟨by simpa using hc.1, by simpa using hc.2⟩
theorem run_VH (G : Gx X p s m args c own cc nL sc) {y : MethodName} {bytes : ByteArray} {maxL i d n k : Nat} {ret : Option FieldType} {vs : List Value} {Qc : Array Value → State → Outcome → State → Prop} (ok : okR y bytes maxL ret n) (hy : y.cls = "java/lang/String") (hst : Cond.instanceMethod y ∈ Om ∧ Cond.selects y.cls y y ∈ Om) (hl : Cond.methodLink own i y ∈ Om) (hf : d + 1 ≤ R.frames) (hlo : 64 * (d + 1) ≤ R.locals) (hc : cells ≤ R.cells ∧ slots ≤ R.slots)
    (hk : k < 4) (hM : MH X y bytes maxL ret d (.ref (xad X (1002 + k)) :: vs) H Qc) (hn : vs.length = n) (hr : (rest.map fun v => v.category).sum ≤ 8) (hd : decode cc pc = .ok (.invokevirtual i, 3)) (hS : va_S (xA X) s.heap H locs) (hls : ls.size = nL) :
    va_Run p (xL X) e R s m args below meth c H locs cells slots 0 0 (F0 m pc ls (vs.reverse ++ .ref (xad X (1002 + k)) :: rest)) rest (Qc (Value.ref (xad X (1002 + k)) :: vs).toArray) nA0 := by
  have hp := pre_ofH G (vs := .ref (xad X (1002 + k)) :: vs) hS
  refine va_runV (C := y.cls) ⟨G.1, G.2.1, G.2.2.1, G.ow, G.ts⟩ hM ⟨callB_R G ok hl hf hlo, G.ts _ hst.1, G.ts _ hst.2⟩ ⟨hp.1, ?_, hp.2⟩ rfl hn hls rfl (lv_room hr) hd ⟨by simpa using hc.1, by simpa using hc.2⟩
  rw [hy]
  exact vk_recv (i := k) G.sta.2.2.2.1 hk hS
end
/-- the char at j of the literal i -/
def jch (i j : Nat) : Int32 := (bytJS.getD i []).getD j 0
def jln (i : Nat) : Nat := lenJS.getD i 0
theorem jch_ok : ∀ i, i < 4 → ∀ j, j < jln i → ((jch i j &&& 255).toUInt32 % 65536).toInt32 = jch i j ∧ narrow .char (.int (jch i j)) = .int (jch i j) := by decide +kernel
theorem jln_ok : ∀ i, i < 4 → jln i ≤ 140 := by decide +kernel
theorem jw_cs : Cond.fieldLink RJ0 38 "java/lang/String" "COMPACT_STRINGS" "Z" ∈ Om := by decide +kernel
theorem jw_co : Cond.fieldLink RJ0 15 "java/lang/String" "coder" "B" ∈ Om := by decide +kernel
theorem jw_va : Cond.fieldLink RJ0 9 "java/lang/String" "value" "[B" ∈ Om := by decide +kernel
theorem jw_si : Cond.fieldLink RJ0 1053 "jdk/internal/util/Preconditions" "SIOOBE_FORMATTER" "Ljava/util/function/BiFunction;" ∈ Om := by decide +kernel
theorem ok_coder : okR yJ0_coder_7d493 cJ0_coder_7d493 1 (some .byte) 0 := ⟨by decide +kernel, by decide +kernel, by decide +kernel, by decide +kernel, by decide +kernel, by decide, by decide +kernel⟩
theorem ok_lat : okR yJ0_isLatin1_aae02 cJ0_isLatin1_aae02 1 (some .boolean) 0 := ⟨by decide +kernel, by decide +kernel, by decide +kernel, by decide +kernel, by decide +kernel, by decide, by decide +kernel⟩
theorem ok_len : okR yJ0_length_8abf5 cJ0_length_8abf5 1 (some .int) 0 := ⟨by decide +kernel, by decide +kernel, by decide +kernel, by decide +kernel, by decide +kernel, by decide, by decide +kernel⟩
theorem ok_chr : okR yJ0_charAt_5068e cJ0_charAt_5068e 2 (some .char) 1 := ⟨by decide +kernel, by decide +kernel, by decide +kernel, by decide +kernel, by decide +kernel, by decide, by decide +kernel⟩
theorem ok_chl : okR yJ1_charAt_3b067 cJ1_charAt_3b067 2 (some .char) 2 := ⟨by decide +kernel, by decide +kernel, by decide +kernel, by decide +kernel, by decide +kernel, by decide, by decide +kernel⟩
theorem ok_chk : okR yJ0_checkIndex_df160 cJ0_checkIndex_df160 2 none 2 := ⟨by decide +kernel, by decide +kernel, by decide +kernel, by decide +kernel, by decide +kernel, by decide, by decide +kernel⟩
theorem ok_pre : okR yJ3_checkIndex_8e157 cJ3_checkIndex_8e157 3 (some .int) 3 := ⟨by decide +kernel, by decide +kernel, by decide +kernel, by decide +kernel, by decide +kernel, by decide, by decide +kernel⟩
theorem fin_QH {X : Xc} {s : State} {H : Heap} {x : Int32} {a : Array Value} (e : s.heap = H) : ∀ t : State, t.heap = s.heap → QH x H a s (.returned (some (.int x))) t := fun t ht => ⟨⟨x, H, rfl, ⟨rfl, rfl⟩, ht.trans e⟩, ⟨Nat.le_of_eq (by rw [ht]), fun q _ _ => by rw [ht]⟩⟩
theorem h_coder {X : Xc} {d k : Nat} {H : Heap} (hk : k < 4) : MH X yJ0_coder_7d493 cJ0_coder_7d493 1 (some .byte) d [.ref (xad X (1002 + k))] H (QH 0 H) := by
  refine met_ofH ok_coder.2.2.2.2.2.2 (by simp [lg_sl, Value.category]) ?_
  intro p e s m below meth c G hH hr hlk ls hl
  have hS : va_S (xA X) s.heap s.heap [] := va_S.rf
  refine va_gets G.1 G.2.1 G.sta.2.2.2.2.1 hS G.ow (G.ts _ jw_cs) (fun _ h => h) (by decide +kernel) ?_
  refine lv_if_eq (off := 10) (tgt := 13) G.1 G.2.1 (by decide +kernel) (by decide) (fun z => absurd z (by decide)) (fun _ => ?_)
  refine lv_aload_n (k := 0) (i := 0) G.1 G.2.1 (by decide +kernel) rfl (hl.2.2 _ (List.mem_cons_self)) ?_
  refine vk_getf G.1 G.2.1 (G.sta.2.2.2.1.1 k hk).2.1 hS G.ow (G.ts _ jw_co) (fun _ h => h) (by decide +kernel) ?_
  refine lv_goto (off := 4) (tgt := 14) G.1 G.2.1 (by decide +kernel) (by decide) ?_
  exact W.zret (ty := .byte) G.1 G.2.1 hr rfl (fun t ht _ => fin_QH (X := X) hH t ht) (fun q hq => nomatch hq) (by decide +kernel)
theorem h_lat {X : Xc} {d k : Nat} {H : Heap} (hk : k < 4) : MH X yJ0_isLatin1_aae02 cJ0_isLatin1_aae02 1 (some .boolean) d [.ref (xad X (1002 + k))] H (QH 1 H) := by
  refine met_ofH ok_lat.2.2.2.2.2.2 (by simp [lg_sl, Value.category]) ?_
  intro p e s m below meth c G hH hr hlk ls hl
  have hS : va_S (xA X) s.heap s.heap [] := va_S.rf
  refine va_gets G.1 G.2.1 G.sta.2.2.2.2.1 hS G.ow (G.ts _ jw_cs) (fun _ h => h) (by decide +kernel) ?_
  refine lv_if_eq (off := 14) (tgt := 17) G.1 G.2.1 (by decide +kernel) (by decide) (fun z => absurd z (by decide)) (fun _ => ?_)
  refine lv_aload_n (k := 0) (i := 0) G.1 G.2.1 (by decide +kernel) rfl (hl.2.2 _ (List.mem_cons_self)) ?_
  refine vk_getf G.1 G.2.1 (G.sta.2.2.2.1.1 k hk).2.1 hS G.ow (G.ts _ jw_co) (fun _ h => h) (by decide +kernel) ?_
  refine lv_if_ne (off := 7) (tgt := 17) G.1 G.2.1 (by decide +kernel) (by decide) (fun z => absurd rfl z) (fun _ => ?_)
  refine lv_iconst (n := 1) G.1 G.2.1 (v := 1) (by decide +kernel) rfl ?_
  refine lv_goto (off := 4) (tgt := 18) G.1 G.2.1 (by decide +kernel) (by decide) ?_
  exact W.zret (ty := .boolean) G.1 G.2.1 hr rfl (fun t ht _ => fin_QH (X := X) hH t ht) (fun q hq => nomatch hq) (by decide +kernel)
theorem h_len {X : Xc} {d k : Nat} {H : Heap} (hk : k < 4) : MH X yJ0_length_8abf5 cJ0_length_8abf5 1 (some .int) (d + 1) [.ref (xad X (1002 + k))] H (QH (nI (jln k)) H) := by
  refine met_ofH ok_len.2.2.2.2.2.2 (by simp [lg_sl, Value.category]) ?_
  intro p e s m below meth c G hH hr hlk ls hl
  have hS : va_S (xA X) s.heap s.heap [] := va_S.rf
  have hS0 : va_S nA0 s.heap s.heap [] := va_S.rf
  refine lv_aload_n (k := 0) (i := 0) G.1 G.2.1 (by decide +kernel) rfl (hl.2.2 _ (List.mem_cons_self)) ?_
  refine vk_getf G.1 G.2.1 (G.sta.2.2.2.1.1 k hk).2.2.1 hS G.ow (G.ts _ jw_va) (fun _ h => h) (by decide +kernel) ?_
  refine va_tlen G.1 G.2.1 (G.sta.2.2.2.1.1 k hk).2.2.2 hS (v := nI (jln k)) rfl (by decide +kernel) ?_
  refine lv_aload_n (k := 0) (i := 0) G.1 G.2.1 (by decide +kernel) rfl (hl.2.2 _ (List.mem_cons_self)) ?_
  refine va_calli (run_VH G (vs := []) (i := 335) (d := d) ok_coder rfl ⟨by decide +kernel, by decide +kernel⟩ (by decide +kernel) (Nat.le_refl _) (Nat.le_refl _) ⟨Nat.le_refl _, Nat.le_refl _⟩ hk (h_coder hk) rfl (by simp [Value.category]) (by decide +kernel) hS hl.1) hS0 (fun _ _ h => h) (fun _ h => h) ?_
  intro w u' t H1 locs1 ht _ hp hB _ _ hS1
  obtain ⟨rfl, rfl⟩ := hp
  refine lv_ishr G.1 G.2.1 (by decide +kernel) ?_
  refine W.iret G.1 G.2.1 hr (fun t' ht' _ => ?_) (fun q hq => hS1.2.2 q hq) (by decide +kernel)
  have e1 : H1 = s.heap := ht.symm.trans hB
  have e2 : nI (jln k) >>> ((0 : Int32) &&& 31) = nI (jln k) := by
    rcases (show k = 0 ∨ k = 1 ∨ k = 2 ∨ k = 3 by omega) with rfl | rfl | rfl | rfl <;> decide
  rw [e2]
  exact fin_QH (X := X) hH t' (ht'.trans e1)
theorem h_pre {X : Xc} {d i n : Nat} {v : Value} {H : Heap} (hi : i < n) (hn : n ≤ 140) (hv : v = .null ∨ ∃ t, v = .ref t) : MH X yJ3_checkIndex_8e157 cJ3_checkIndex_8e157 3 (some .int) d [.int (nI i), .int (nI n), v] H (QH (nI i) H) := by
  refine met_ofH ok_pre.2.2.2.2.2.2 (by rcases hv with rfl | ⟨t, rfl⟩ <;> simp [lg_sl, Value.category]) ?_
  intro p e s m below meth c G hH hr hlk ls hl
  have l0 : ls[0]? = some (.val (.int (nI i))) := hl.2.2 _ (List.mem_cons_self)
  have l1 : ls[1]? = some (.val (.int (nI n))) := hl.2.2 _ (List.mem_cons_of_mem _ List.mem_cons_self)
  refine lv_iload_n (k := 0) (i := 0) G.1 G.2.1 (by decide +kernel) rfl l0 ?_
  refine lv_if_lt (off := 8) (tgt := 9) G.1 G.2.1 (by decide +kernel) (by decide) (fun z => absurd z (nI_pos (by omega))) (fun _ => ?_)
  refine lv_iload_n (k := 0) (i := 0) G.1 G.2.1 (by decide +kernel) rfl l0 ?_
  refine lv_iload_n (k := 1) (i := 1) G.1 G.2.1 (by decide +kernel) rfl l1 ?_
  refine lv_icmp_lt (off := 10) (tgt := 16) G.1 G.2.1 (by decide +kernel) (by decide) (fun _ => ?_) (fun z => absurd ((nI_ltI (by omega) (by omega)).mpr hi) z)
  refine lv_iload_n (k := 0) (i := 0) G.1 G.2.1 (by decide +kernel) rfl l0 ?_
  exact W.iret G.1 G.2.1 hr (fun t ht _ => fin_QH (X := X) hH t ht) (fun q hq => nomatch hq) (by decide +kernel)
theorem h_chk {X : Xc} {d i n : Nat} {H : Heap} (hi : i < n) (hn : n ≤ 140) : MH X yJ0_checkIndex_df160 cJ0_checkIndex_df160 2 none (d + 1) [.int (nI i), .int (nI n)] H (QHv H) := by
  refine met_ofH ok_chk.2.2.2.2.2.2 (by simp [lg_sl, Value.category]) ?_
  intro p e s m below meth c G hH hr hlk ls hl
  have hS : va_S (xA X) s.heap s.heap [] := va_S.rf
  have hS0 : va_S nA0 s.heap s.heap [] := va_S.rf
  have l0 : ls[0]? = some (.val (.int (nI i))) := hl.2.2 _ (List.mem_cons_self)
  have l1 : ls[1]? = some (.val (.int (nI n))) := hl.2.2 _ (List.mem_cons_of_mem _ List.mem_cons_self)
  have go : ∀ v : Value, (v = .null ∨ ∃ t, v = .ref t) → W p (xL X) e (rmD (d + 1)) s m [Value.int (nI i), Value.int (nI n)].toArray below meth c s.heap [] 0 0 (MQ below (QHv H) [Value.int (nI i), Value.int (nI n)].toArray s 0 0 nA0) (F0 m 5 ls [v, .int (nI n), .int (nI i)]) := by
    intro v hv
    refine va_calli (run_SH G (vs := [.int (nI i), .int (nI n), v]) (rest := []) (i := 1059) (d := d) ok_pre (by decide +kernel) (by decide +kernel) (Nat.le_refl _) (Nat.le_refl _) ⟨Nat.le_refl _, Nat.le_refl _⟩ (h_pre hi hn hv) rfl (by decide) (by decide +kernel) hS hl.1) hS0 (fun _ _ h => h) (fun _ h => h) ?_
    intro w u' t H1 locs1 ht _ hp hB _ _ hS1
    obtain ⟨rfl, rfl⟩ := hp
    refine lv_pop G.1 G.2.1 (by decide +kernel) rfl ?_
    refine W.vret G.1 G.2.1 hr (fun t' ht' _ => ?_) (fun q hq => hS1.2.2 q hq) (by decide +kernel)
    have e1 : t'.heap = s.heap := ht'.trans (ht.symm.trans hB)
    exact ⟨⟨H, rfl, rfl, e1.trans hH⟩, ⟨Nat.le_of_eq (by rw [e1]), fun q _ _ => by rw [e1]⟩⟩
  refine lv_iload_n (k := 0) (i := 0) G.1 G.2.1 (by decide +kernel) rfl l0 ?_
  refine lv_iload_n (k := 1) (i := 1) G.1 G.2.1 (by decide +kernel) rfl l1 ?_
  rcases G.sta.2.2.2.2.2.2.2 with hz | ⟨t, hz⟩
  · exact va_gets G.1 G.2.1 hz hS G.ow (G.ts _ jw_si) (fun _ h => h) (by decide +kernel) (go _ (Or.inl rfl))
  · exact va_gets G.1 G.2.1 hz hS G.ow (G.ts _ jw_si) (fun _ h => h) (by decide +kernel) (go _ (Or.inr ⟨t, rfl⟩))
theorem h_chl {X : Xc} {d k i : Nat} {H : Heap} (hk : k < 4) (hi : i < jln k) : MH X yJ1_charAt_3b067 cJ1_charAt_3b067 2 (some .char) (d + 2) [.ref (xad X (1010 + k)), .int (nI i)] H (QH (jch k i) H) := by
  refine met_ofH ok_chl.2.2.2.2.2.2 (by simp [lg_sl, Value.category]) ?_
  intro p e s m below meth c G hH hr hlk ls hl
  have hS : va_S (xA X) s.heap s.heap [] := va_S.rf
  have hS0 : va_S nA0 s.heap s.heap [] := va_S.rf
  have hT := (G.sta.2.2.2.1.1 k hk).2.2.2
  have hn := jln_ok k hk
  have l0 : ls[0]? = some (.val (.ref (xad X (1010 + k)))) := hl.2.2 _ (List.mem_cons_self)
  have l1 : ls[1]? = some (.val (.int (nI i))) := hl.2.2 _ (List.mem_cons_of_mem _ List.mem_cons_self)
  refine lv_iload_n (k := 1) (i := 1) G.1 G.2.1 (by decide +kernel) rfl l1 ?_
  refine lv_aload_n (k := 0) (i := 0) G.1 G.2.1 (by decide +kernel) rfl l0 ?_
  refine va_tlen G.1 G.2.1 hT hS (v := nI (jln k)) rfl (by decide +kernel) ?_
  refine va_callv (run_SH G (vs := [.int (nI i), .int (nI (jln k))]) (rest := []) (i := 9) (d := d + 1) ok_chk (by decide +kernel) (by decide +kernel) (Nat.le_refl _) (Nat.le_refl _) ⟨Nat.le_refl _, Nat.le_refl _⟩ (h_chk hi hn) rfl (by decide) (by decide +kernel) hS hl.1) hS0 (fun _ _ h => h) (fun _ h => h) ?_
  intro u' t H1 locs1 ht _ hp hB _ _ hS1
  subst hp
  have e1 : H1 = s.heap := ht.symm.trans hB
  refine lv_aload_n (k := 0) (i := 0) G.1 G.2.1 (by decide +kernel) rfl l0 ?_
  refine lv_iload_n (k := 1) (i := 1) G.1 G.2.1 (by decide +kernel) rfl l1 ?_
  refine va_tb G.1 G.2.1 hT (va_S.wk hS1) (vp_in_nI hi (Nat.lt_of_le_of_lt hn (by decide))) (v := .int (jch k i)) (by rw [nI_clamp (by omega)]; rfl) (by decide +kernel) ?_
  refine lv_sipush (n := 255) G.1 G.2.1 (v := 255) (by decide +kernel) rfl ?_
  refine lv_iand G.1 G.2.1 (by decide +kernel) ?_
  refine lv_i2c G.1 G.2.1 (by decide +kernel) rfl ?_
  obtain ⟨c1, c2⟩ := jch_ok k hk i hi
  rw [c1]
  exact W.zret (ty := .char) G.1 G.2.1 hr c2 (fun t' ht' _ => fin_QH (X := X) hH t' (ht'.trans e1)) (fun q hq => hS1.2.2 q hq) (by decide +kernel)
theorem h_chr {X : Xc} {d k i : Nat} {H : Heap} (hk : k < 4) (hi : i < jln k) : MH X yJ0_charAt_5068e cJ0_charAt_5068e 2 (some .char) (d + 3) [.ref (xad X (1002 + k)), .int (nI i)] H (QH (jch k i) H) := by
  refine met_ofH ok_chr.2.2.2.2.2.2 (by simp [lg_sl, Value.category]) ?_
  intro p e s m below meth c G hH hr hlk ls hl
  have hS : va_S (xA X) s.heap s.heap [] := va_S.rf
  have hS0 : va_S nA0 s.heap s.heap [] := va_S.rf
  have l0 : ls[0]? = some (.val (.ref (xad X (1002 + k)))) := hl.2.2 _ (List.mem_cons_self)
  have l1 : ls[1]? = some (.val (.int (nI i))) := hl.2.2 _ (List.mem_cons_of_mem _ List.mem_cons_self)
  refine lv_aload_n (k := 0) (i := 0) G.1 G.2.1 (by decide +kernel) rfl l0 ?_
  refine va_calli (run_VH G (vs := []) (i := 492) (rest := []) (d := d + 2) ok_lat rfl ⟨by decide +kernel, by decide +kernel⟩ (by decide +kernel) (Nat.le_refl _) (Nat.le_refl _) ⟨Nat.le_refl _, Nat.le_refl _⟩ hk (h_lat hk) rfl (by decide) (by decide +kernel) hS hl.1) hS0 (fun _ _ h => h) (fun _ h => h) ?_
  intro w u' t H1 locs1 ht _ hp hB _ _ hS1
  obtain ⟨rfl, rfl⟩ := hp
  have e1 : s.heap = H1 := (ht.symm.trans hB).symm
  subst e1
  refine lv_if_eq (off := 12) (tgt := 16) G.1 G.2.1 (by decide +kernel) (by decide) (fun z => absurd z (by decide)) (fun _ => ?_)
  refine lv_aload_n (k := 0) (i := 0) G.1 G.2.1 (by decide +kernel) rfl l0 ?_
  refine vk_getf G.1 G.2.1 (G.sta.2.2.2.1.1 k hk).2.2.1 (va_S.wk hS1) G.ow (G.ts _ jw_va) (fun _ h => h) (by decide +kernel) ?_
  refine lv_iload_n (k := 1) (i := 1) G.1 G.2.1 (by decide +kernel) rfl l1 ?_
  refine va_calli (run_SH G (vs := [.ref (xad X (1010 + k)), .int (nI i)]) (i := 495) (rest := []) (d := d + 2) ok_chl (by decide +kernel) (by decide +kernel) (Nat.le_refl _) (Nat.le_refl _) ⟨Nat.le_refl _, Nat.le_refl _⟩ (h_chl hk hi) rfl (by decide) (by decide +kernel) (va_S.wk hS1) hl.1) hS1 (fun _ _ h => h) (fun _ h => h) ?_
  intro w u' t2 H2 locs2 ht2 _ hp2 hB2 _ _ hS2
  obtain ⟨rfl, rfl⟩ := hp2
  exact W.zret (ty := .char) G.1 G.2.1 hr (jch_ok k hk i hi).2 (fun t' ht' _ => fin_QH (X := X) hH t' (ht'.trans (ht2.symm.trans hB2))) (fun q hq => hS2.2.2 q hq) (by decide +kernel)
