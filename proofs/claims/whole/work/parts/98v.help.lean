/-! the law's helpers: what they catch -/
abbrev RLs : String := "StatueRentLaw"
def LI (X : Xc) (d : Nat) (y : MethodName) (cc : ByteArray) (nL : Nat) (hh : List (Nat × Nat × Nat × Nat)) (as : List Value) (u : Mm) (K : Int32 → Mm → Prop) : Prop := Met (xL X) y (.codeWith y cc nL (some .int) hh :: Om) (rmT d) (PreX X as u) (va_Qi K (PoX X) (xA X)) 1 6 (xA X)
theorem run_TV {X : Xc} {p : Program} {e : Env} {R : Room} {s : State} {m : MethodId} {args : Array Value} {below : List Frame} {meth : Method} {c : Code} {own : String} {cc : ByteArray} {nL cells slots : Nat} {sc : Option (Nat × (Nat → Int32))} {pc : Nat} {r : List Value} {u : Mm} (G : Gx X p s m args c own cc nL sc) {k i d a : Nat} {as : List Value} {K : Int32 → Mm → Prop} {KX : Mm → Prop} (hk : okP k) (hk9 : Nat.beq (kM k) 99 = false) (hl : Cond.methodLink own i (yM k) ∈ Om) (hf : d + 1 ≤ R.frames) (hlo : 64 * (d + 1) ≤ R.locals) (hc : cells + 1 ≤ R.cells ∧ slots + 6 ≤ R.slots)
    (hM : TI X d k (.ref a :: as) u K KX) (ho : isObj a (kM k) = true) (hn : as.length = aM k) (hr : ctg r ≤ 8) (hd : decode cc pc = .ok (.invokevirtual i, 3))
    {H : Heap} {locs : List Loc} {ls : Array Slot} (hP : va_P (xD X) vwCl (wld X u) H) (hS : va_S (xA X) s.heap H locs) (hls : ls.size = nL) :
    vx_Run p (xL X) e R s m args below meth c H locs cells slots 1 6 (F0 m pc ls ((as.map (up X)).reverse ++ .ref (xad X a) :: r.map (up X))) (r.map (up X)) (va_Qi K (PoX X) (xA X) (Value.ref (xad X a) :: as.map (up X)).toArray) (XCt X KX) (xA X) := by
  obtain ⟨h1, h2, h3, h4⟩ := hk.2.2 hk9
  obtain ⟨ha, -, hly⟩ := isObj_spec ho
  obtain ⟨q, hq⟩ := vw_at h4
  have hR : Rf (kM k) = q.1 := by unfold Rf; rw [hq]
  have hp := pre_of G (as := .ref a :: as) hP hS
  obtain ⟨k1, k2, k3, k4, k5, k6, -⟩ := hk.1
  refine vx_runV (C := (yM k).cls) ⟨G.1, G.2.1, G.2.2.1, G.ow, G.ts⟩ hM ⟨callB_of (aM k) G.ts (Om_goodIn hk) rfl rfl rfl (G.ts _ k2) (G.ts _ hl) ⟨k3, k4, k5⟩ ⟨hf, by show 8 + (nM k + 11) + 64 * d ≤ R.locals; omega⟩, G.ts _ h1, G.ts _ h2⟩ ⟨hp.1, ?_, hp.2⟩ rfl (by simpa using hn) hls rfl (lv_room (by rw [ctg_sum]; exact hr)) hd hc
  rw [h3, hR]
  exact va_recv G.K hP hq (q0 := a) (by rw [wld_at X u ha, ent_obj X u hly])
section
variable {X : Xc} {d : Nat} {u : Mm} {K : Int32 → Mm → Prop}
/-- the end of a helper, from its call on -/
theorem hlp {p : Program} {e : Env} {s : State} {m : MethodId} {args : Array Value} {below : List Frame} {meth : Method} {c : Code} {cc : ByteArray} {nL : Nat} {pc k i hp en tg ce : Nat} {off : Int} {as : List Value} {lv : List (Option Value)} (G : Gx X p s m args c RLs cc nL none) (hr : meth.sig.returnType = some .int) (hlk : meth.locks = false) (htab : c.exceptionTable.toList = [⟨0, en, hp, 13⟩])
    (hk : okP k) (hk9 : Nat.beq (kM k) 99 = false) (hl : Cond.methodLink RLs i (yM k) ∈ Om) (ho : isObj 0 (kM k) = true) (hn : as.length = aM k) (hcov : pc < en)
    (d0 : decode cc pc = .ok (.invokevirtual i, 3)) (d1 : decode cc (pc + 3) = .ok (.i2l, 1)) (d2 : decode cc (pc + 4) = .ok (.lastore, 1)) (d3 : decode cc (pc + 5) = .ok (.goto off, 3)) (ht : ((pc + 5 : Nat) : Int) + off = (tg : Int)) (d4 : decode cc tg = .ok (.iconst 0, 1)) (d5 : decode cc (tg + 1) = .ok (.ireturn, 1)) (d6 : decode cc ce = .ok (.iconst 1, 1)) (d7 : decode cc (ce + 1) = .ok (.ireturn, 1))
    (hast : ∀ (H : Heap) (locs : List Loc) (ls : Array Slot) (q : Nat), lv_has ls nL (lvA (up X) 0 lv) → (∀ ls' : Array Slot, W p (xL X) e (rmT (d + 1)) s m args below meth c H locs 1 6 (MQ below (va_Qi K (PoX X) (xA X)) args s 1 6 (xA X)) (F0 m ce ls' [])) → W p (xL X) e (rmT (d + 1)) s m args below meth c H locs 1 6 (MQ below (va_Qi K (PoX X) (xA X)) args s 1 6 (xA X)) (F0 m hp ls [.ref q]))
    (hM : TI X d k (.ref 0 :: as) u (fun w v => K 0 (mJ v 261 0 (Int32.toInt64 w))) (fun v => K 1 v)) :
    Vx X p e (rmT (d + 1)) s m args below meth c nL 0 0 (MQ below (va_Qi K (PoX X) (xA X)) args s 1 6 (xA X)) pc lv (as.reverse ++ .ref 0 :: .int 0 :: .ref 261 :: []) u := by
  intro H locs ls hP hS hls
  rw [List.map_append, List.map_reverse]
  have fin : ∀ (pc' : Nat) (x : Int32) (v : Mm) (H1 : Heap) (locs1 : List Loc) (ls1 : Array Slot), decode cc pc' = .ok (.ireturn, 1) → K x v → va_P (xD X) vwCl (wld X v) H1 → va_S (xA X) s.heap H1 locs1 → W p (xL X) e (rmT (d + 1)) s m args below meth c H1 locs1 1 6 (MQ below (va_Qi K (PoX X) (xA X)) args s 1 6 (xA X)) (F0 m pc' ls1 [.int x]) := fun pc' x v H1 locs1 ls1 hd hx hP1 hS1 => W.iret G.1 G.2.1 hr (fun t ht _ => ⟨⟨x, v, rfl, hx, by show va_P _ _ _ _; rw [ht]; exact hP1⟩, hS1.F ht⟩) (fun q hq => hS1.2.2 q hq) hd
  refine vx_calli (run_TV G (d := d) hk hk9 hl (Nat.le_refl _) (Nat.le_refl _) ⟨Nat.le_refl _, Nat.le_refl _⟩ hM ho hn (by show 1 + (1 + 0) ≤ 8; decide) d0 hP hS hls.1) hS (fun _ _ h => h) (fun _ h => h) (fun _ _ h => h) ?_ ?_
  · intro E ce' q9 v t H1 locs1 ht hv hx hB hz hq hS1 hcell hvm hcl
    obtain ⟨rfl, hP1⟩ := hB
    refine vx_catch (own := RLs) (name := nse) G.ow [] ⟨0, en, hp, 13⟩ [] htab (fun z hz => nomatch hz) (by simp [covers, hcov]) (show (13 : Nat) ≠ 0 by decide) (G.ts _ (show Cond.classLink RLs 13 nse ∈ Om by decide +kernel)) (va_Nw.use rfl G.ns.2.2.2.2.2.2.2.2.1) hcell hvm hcl ?_
    refine hast H1 locs1 ls q9 hls (fun ls' => ?_)
    exact lv_iconst (n := 1) G.1 G.2.1 (v := 1) d6 rfl (fin (ce + 1) 1 v H1 locs1 ls' d7 hx (by rw [← ht]; exact hP1) hS1)
  · intro w v t H1 locs1 ht' hv hx hB hz hq hS1
    have hP1 : va_P (xD X) vwCl (wld X v) H1 := by rw [← ht']; exact hB
    have go : Vx X p e (rmT (d + 1)) s m args below meth c nL 1 6 (MQ below (va_Qi K (PoX X) (xA X)) args s 1 6 (xA X)) (pc + 3) lv [.int w, .int 0, .ref 261] v := by
      refine V_i2l G d1 (V_last (x := 0) (n := 1) G d2 (by decide) (by decide +kernel) (vpd rfl) (V_goto G d3 ht ?_))
      intro H2 locs2 ls2 hP2 hS2 hl2
      exact lv_iconst (n := 0) G.1 G.2.1 (v := 0) d4 rfl (fin (tg + 1) 0 _ H2 locs2 ls2 d5 hx hP2 hS2)
    exact go H1 locs1 ls hP1 hS1 hls
theorem LI_of {y : MethodName} {cc : ByteArray} {nL : Nat} {hh : List (Nat × Nat × Nat × Nat)} {as : List Value} (hy : plainName y.cls = true) (hcls : y.cls = RLs) (hl : Nat.ble (ctg as) nL = true)
    (h : ∀ (p : Program) (e : Env) (s : State) (m : MethodId) (args : Array Value) (below : List Frame) (meth : Method) (c : Code), Gx X p s m args c RLs cc nL none → meth.sig.returnType = some .int → meth.locks = false → c.exceptionTable.toList = tableOf hh → Vx X p e (rmT (d + 1)) s m args below meth c nL 0 0 (MQ below (va_Qi K (PoX X) (xA X)) args s 1 6 (xA X)) 0 (lvE as nL) [] u) : LI X (d + 1) y cc nL hh as u K := by
  refine va_MetW (cc := cc) (maxL := nL) (ret := some .int) hy rfl ?_
  intro p e s m args below meth c s₁ B hml hv
  obtain ⟨rfl, hP, hK, hst, had, hns⟩ := hv
  have hts := atoms_spec (ws := .codeWith y cc nL (some .int) hh :: Om) B.pre
  have hown : s.vm.findClass y.cls = some m.cls := findClass_of_methodNamed B.named
  rw [hcls] at hown
  have hls := lv_entry (as.map (up X)) (n := nL) (by rw [slen]; exact nle hl)
  rw [lg_entry_eq]
  rw [← lvE_in X as 0 nL] at hls
  exact h p e s m _ below meth c ⟨B.exec, B.bytes, hml, hown, fun w hw => hts w (List.mem_cons_of_mem _ hw), hK, hst, had, hns, trivial⟩ B.returns B.notSynchronized (vx_table (x := y) B (hts _ List.mem_cons_self)) s.heap [] _ hP va_S.rf hls
theorem H_statue {a b : Int32} (hM : TI X d 129 [.ref 0, .int a, .int b] u (fun w v => K 0 (mJ v 261 0 (Int32.toInt64 w))) (fun v => K 1 v)) : LI X (d + 1) yL_statue cL_statue 5 [(0, 10, 13, 13)] [.ref 0, .int a, .int b, .ref 261] u K := by
  refine LI_of (by decide +kernel) rfl rfl ?_
  intro p e s m args below meth c G hr hlk htab
  refine V_aload_n (n := 3) (i := 3) (v := 261) G (by decide +kernel) rfl rfl (V_iconst (n := 0) (v := 0) G (by decide +kernel) rfl (V_aload_n (n := 0) (i := 0) (v := 0) G (by decide +kernel) rfl rfl (V_iload_n (n := 1) (i := 1) (v := a) G (by decide +kernel) rfl rfl (V_iload_n (n := 2) (i := 2) (v := b) G (by decide +kernel) rfl rfl ?_))))
  exact hlp (as := [.int a, .int b]) (k := 129) (i := 7) (pc := 5) (hp := 13) (en := 10) (tg := 17) (ce := 15) (off := 7) G hr hlk htab mk_X12_statue.2.2 (by decide) (by decide +kernel) (by decide +kernel) rfl (by decide) (by decide +kernel) (by decide +kernel) (by decide +kernel) (by decide +kernel) (by decide) (by decide +kernel) (by decide +kernel) (by decide +kernel) (by decide +kernel) (fun H locs ls q hls hw => lv_astore (i := 4) G.1 G.2.1 (by decide +kernel) hls (by decide) rfl (fun ls' _ => hw ls')) hM
theorem H_walker {a b : Int32} (hM : TI X d 130 [.ref 0, .int a, .int b] u (fun w v => K 0 (mJ v 261 0 (Int32.toInt64 w))) (fun v => K 1 v)) : LI X (d + 1) yL_walker cL_walker 5 [(0, 10, 13, 13)] [.ref 0, .int a, .int b, .ref 261] u K := by
  refine LI_of (by decide +kernel) rfl rfl ?_
  intro p e s m args below meth c G hr hlk htab
  refine V_aload_n (n := 3) (i := 3) (v := 261) G (by decide +kernel) rfl rfl (V_iconst (n := 0) (v := 0) G (by decide +kernel) rfl (V_aload_n (n := 0) (i := 0) (v := 0) G (by decide +kernel) rfl rfl (V_iload_n (n := 1) (i := 1) (v := a) G (by decide +kernel) rfl rfl (V_iload_n (n := 2) (i := 2) (v := b) G (by decide +kernel) rfl rfl ?_))))
  exact hlp (as := [.int a, .int b]) (k := 130) (i := 15) (pc := 5) (hp := 13) (en := 10) (tg := 17) (ce := 15) (off := 7) G hr hlk htab mk_X12_walker.2.2 (by decide) (by decide +kernel) (by decide +kernel) rfl (by decide) (by decide +kernel) (by decide +kernel) (by decide +kernel) (by decide +kernel) (by decide) (by decide +kernel) (by decide +kernel) (by decide +kernel) (by decide +kernel) (fun H locs ls q hls hw => lv_astore (i := 4) G.1 G.2.1 (by decide +kernel) hls (by decide) rfl (fun ls' _ => hw ls')) hM
theorem H_today {a b : Int32} (hM : TI X d 143 [.ref 0, .int a, .int b] u (fun w v => K 0 (mJ v 261 0 (Int32.toInt64 w))) (fun v => K 1 v)) : LI X (d + 1) yL_today cL_today 5 [(0, 10, 13, 13)] [.ref 0, .int a, .int b, .ref 261] u K := by
  refine LI_of (by decide +kernel) rfl rfl ?_
  intro p e s m args below meth c G hr hlk htab
  refine V_aload_n (n := 3) (i := 3) (v := 261) G (by decide +kernel) rfl rfl (V_iconst (n := 0) (v := 0) G (by decide +kernel) rfl (V_aload_n (n := 0) (i := 0) (v := 0) G (by decide +kernel) rfl rfl (V_iload_n (n := 1) (i := 1) (v := a) G (by decide +kernel) rfl rfl (V_iload_n (n := 2) (i := 2) (v := b) G (by decide +kernel) rfl rfl ?_))))
  exact hlp (as := [.int a, .int b]) (k := 143) (i := 22) (pc := 5) (hp := 13) (en := 10) (tg := 17) (ce := 15) (off := 7) G hr hlk htab mk_X12_today.2.2 (by decide) (by decide +kernel) (by decide +kernel) rfl (by decide) (by decide +kernel) (by decide +kernel) (by decide +kernel) (by decide +kernel) (by decide) (by decide +kernel) (by decide +kernel) (by decide +kernel) (by decide +kernel) (fun H locs ls q hls hw => lv_astore (i := 4) G.1 G.2.1 (by decide +kernel) hls (by decide) rfl (fun ls' _ => hw ls')) hM
theorem H_yields {a b c' d' : Int32} (hM : TI X d 141 [.ref 0, .int a, .int b, .int c', .int d'] u (fun w v => K 0 (mJ v 261 0 (Int32.toInt64 w))) (fun v => K 1 v)) : LI X (d + 1) yL_yields cL_yields 7 [(0, 14, 17, 13)] [.ref 0, .int a, .int b, .int c', .int d', .ref 261] u K := by
  refine LI_of (by decide +kernel) rfl rfl ?_
  intro p e s m args below meth c G hr hlk htab
  refine V_aload (i := 5) (v := 261) G (by decide +kernel) rfl (V_iconst (n := 0) (v := 0) G (by decide +kernel) rfl (V_aload_n (n := 0) (i := 0) (v := 0) G (by decide +kernel) rfl rfl (V_iload_n (n := 1) (i := 1) (v := a) G (by decide +kernel) rfl rfl (V_iload_n (n := 2) (i := 2) (v := b) G (by decide +kernel) rfl rfl (V_iload_n (n := 3) (i := 3) (v := c') G (by decide +kernel) rfl rfl (V_iload (i := 4) (v := d') G (by decide +kernel) rfl ?_))))))
  exact hlp (as := [.int a, .int b, .int c', .int d']) (k := 141) (i := 18) (pc := 9) (hp := 17) (en := 14) (tg := 21) (ce := 19) (off := 7) G hr hlk htab mk_X12_yields.2.2 (by decide) (by decide +kernel) (by decide +kernel) rfl (by decide) (by decide +kernel) (by decide +kernel) (by decide +kernel) (by decide +kernel) (by decide) (by decide +kernel) (by decide +kernel) (by decide +kernel) (by decide +kernel) (fun H locs ls q hls hw => lv_astore (i := 6) G.1 G.2.1 (by decide +kernel) hls (by decide) rfl (fun ls' _ => hw ls')) hM
theorem H_placing {a : Int32} (hM : TI X d 144 [.ref 0, .int a] u (fun w v => K 0 (mJ v 261 0 (Int32.toInt64 w))) (fun v => K 1 v)) : LI X (d + 1) yL_placing cL_placing 4 [(0, 9, 12, 13)] [.ref 0, .int a, .ref 261] u K := by
  refine LI_of (by decide +kernel) rfl rfl ?_
  intro p e s m args below meth c G hr hlk htab
  refine V_aload_n (n := 2) (i := 2) (v := 261) G (by decide +kernel) rfl rfl (V_iconst (n := 0) (v := 0) G (by decide +kernel) rfl (V_aload_n (n := 0) (i := 0) (v := 0) G (by decide +kernel) rfl rfl (V_iload_n (n := 1) (i := 1) (v := a) G (by decide +kernel) rfl rfl ?_)))
  exact hlp (as := [.int a]) (k := 144) (i := 25) (pc := 4) (hp := 12) (en := 9) (tg := 15) (ce := 13) (off := 6) G hr hlk htab mk_X12_placing.2.2 (by decide) (by decide +kernel) (by decide +kernel) rfl (by decide) (by decide +kernel) (by decide +kernel) (by decide +kernel) (by decide +kernel) (by decide) (by decide +kernel) (by decide +kernel) (by decide +kernel) (by decide +kernel) (fun H locs ls q hls hw => lv_astore_n (k := 3) (i := 3) G.1 G.2.1 (by decide +kernel) rfl hls (by decide) rfl (fun ls' _ => hw ls')) hM
end
