/-! puts of a constructor -/
section CPut
variable {X : Xc} {k : Nat} {S : Nat → Nat → Bool} {p : Program} {e : Env} {R : Room} {s : State} {m : MethodId} {args : Array Value} {below : List Frame} {meth : Method} {c : Code} {own : String} {cc : ByteArray} {nL cells slots : Nat} {Z : State → Prop} {sc : Option (Nat × (Nat → Int32))} {pc : Nat} {lv : List (Option Value)} {r : List Value} {u : Mm}
/-- 0 is put where 0 is -/
theorem C_put0 (G : Gx X p s m args c own cc nL sc) {i x y a : Nat} {ty : FieldType} (hd : decode cc pc = .ok (.putfield i, 3)) (hm : Cond.fieldLink own i (Tf x y).1 (Tf x y).2.1 (Tf x y).2.2.1 ∈ Om) (hy : y < Nf x) (ho : isObj a x = true) (hk : a < k) (hkn : k ≤ nW) (hfin : (Tf x y).2.2.2 = false ∨ ((Tf x y).2.2.2 = true ∧ meth.name = "<init>" ∧ (Tf x y).1 = own)) (hp : parseFieldDescriptor (Tf x y).2.2.1 = some ty) (hn : narrow ty (.int 0) = .int 0) (hfit : fits ty (.int 0) = true) (hf : fty x y = 0 ∨ fty x y = 2) (hz : u.1 a y = 0)
    (h : Vc X k S p e R s m args below meth c nL cells slots Z (pc + 3) lv r u) : Vc X k S p e R s m args below meth c nL cells slots Z pc lv (.int 0 :: .ref a :: r) u := by
  refine C_put (v := .int 0) (u' := u) (S' := S) G hd hm hy ho hk hkn hfin hp hn hfit ?_ (fun _ _ => rfl) (fun _ _ => rfl) (fun _ _ => rfl) (fun _ _ => rfl) id id h
  unfold fldC
  rcases hf with hf | hf <;> rw [hf] <;> show Value.int (u.1 a y) = .int 0 <;> rw [hz]
/-- an int is put -/
theorem C_puti (G : Gx X p s m args c own cc nL sc) {i x y a : Nat} {ty : FieldType} {v : Int32} (hd : decode cc pc = .ok (.putfield i, 3)) (hm : Cond.fieldLink own i (Tf x y).1 (Tf x y).2.1 (Tf x y).2.2.1 ∈ Om) (hy : y < Nf x) (ho : isObj a x = true) (hk : a < k) (hkn : k ≤ nW) (hfin : (Tf x y).2.2.2 = false ∨ ((Tf x y).2.2.2 = true ∧ meth.name = "<init>" ∧ (Tf x y).1 = own)) (hp : parseFieldDescriptor (Tf x y).2.2.1 = some ty) (hn : narrow ty (.int v) = .int v) (hfit : fits ty (.int v) = true) (hf : fty x y = 0)
    (h : Vc X k S p e R s m args below meth c nL cells slots Z (pc + 3) lv r (mI u a y v)) : Vc X k S p e R s m args below meth c nL cells slots Z pc lv (.int v :: .ref a :: r) u := by
  refine C_put (v := .int v) (u' := mI u a y v) (S' := S) G hd hm hy ho hk hkn hfin hp hn hfit ?_ (fun j hj => ?_) (fun b hb => mI_other u _ _ hb) (fun _ _ => rfl) (fun _ _ => rfl) id (fun zz => zz.mI hk) h
  · unfold fldC
    rw [hf]
    show Value.int ((mI u a y v).1 a y) = .int v
    rw [show (mI u a y v).1 a y = v from if_pos ⟨rfl, rfl⟩]
  · unfold fldC
    rw [show (mI u a y v).1 a j = u.1 a j from if_neg (fun z => hj z.2), show (mI u a y v).2 = u.2 from rfl]
/-- a reference is put -/
theorem C_putr (G : Gx X p s m args c own cc nL sc) {i x y a b : Nat} {ty : FieldType} (hd : decode cc pc = .ok (.putfield i, 3)) (hm : Cond.fieldLink own i (Tf x y).1 (Tf x y).2.1 (Tf x y).2.2.1 ∈ Om) (hy : y < Nf x) (ho : isObj a x = true) (hk : a < k) (hkn : k ≤ nW) (hfin : (Tf x y).2.2.2 = false ∨ ((Tf x y).2.2.2 = true ∧ meth.name = "<init>" ∧ (Tf x y).1 = own)) (hp : parseFieldDescriptor (Tf x y).2.2.1 = some ty) (hn : narrow ty (.ref (xad X b)) = .ref (xad X b)) (hfit : fits ty (.ref (xad X b)) = true) (hf : fty x y = 3) (hb : rr a y = b) (hbk : b < k)
    (h : Vc X k (sU S a y) p e R s m args below meth c nL cells slots Z (pc + 3) lv r u) : Vc X k S p e R s m args below meth c nL cells slots Z pc lv (.ref b :: .ref a :: r) u := by
  refine C_put (v := .ref b) (u' := u) (S' := sU S a y) G hd hm hy ho hk hkn hfin hp hn hfit ?_ (fun j hj => ?_) (fun _ _ => rfl) (fun _ _ => rfl) (fun b' hb' => sU_r hb') (fun oo => oo.put hk (by rw [hb]; exact hbk)) id h
  · unfold fldC
    rw [hf]
    show (if sU S a y a y = true then Value.ref (xad X (rr a y)) else .null) = .ref (xad X b)
    rw [show sU S a y a y = true by unfold sU; rw [if_pos rfl, if_pos rfl], if_pos rfl, hb]
  · unfold fldC
    rw [show sU S a y a j = S a j by unfold sU; rw [if_pos rfl, if_neg hj]]
end CPut
theorem C_obj {X : Xc} {k : Nat} {S : Nat → Nat → Bool} {p : Program} {e : Env} {R : Room} {s : State} {m : MethodId} {args : Array Value} {below : List Frame} {meth : Method} {c : Code} {own : String} {cc : ByteArray} {nL cells slots : Nat} {Z : State → Prop} {sc : Option (Nat × (Nat → Int32))} {pc : Nat} {lv : List (Option Value)} {r : List Value} {u : Mm} (G : Gx X p s m args c own cc nL sc) {i a : Nat} (hd : decode cc pc = .ok (.invokespecial i, 3)) (hw : Cond.methodLink own i objectInit ∈ Om) (hf : 1 ≤ R.frames) (hlo : ctg r + 12 ≤ R.locals)
    (h : Vc X k S p e R s m args below meth c nL cells slots Z (pc + 3) lv r u) : Vc X k S p e R s m args below meth c nL cells slots Z pc lv (.ref a :: r) u := by
  intro oo zz H locs ls hP hS hl
  exact W.objInit G.1 G.2.1 G.ow (G.ts _ hw) (G.ts _ (by decide +kernel)) (G.ts _ (by decide +kernel)) rfl (hl.1.trans G.2.2.1.symm) rfl hd hf (by rw [← ctg_sum X] at hlo; show 2 * 0 + _ + 12 ≤ R.locals; omega) (h oo zz H locs ls hP hS hl)
theorem ok_X8 : okR yX8_init cX8_init 1 none 0 := ⟨by decide +kernel, by decide +kernel, by decide +kernel, by decide +kernel, by decide +kernel, by decide, by decide +kernel⟩
set_option maxRecDepth 100000 in
theorem K_sentence29 {X : Xc} {d : Nat} {S : Nat → Nat → Bool} {u : Mm} (had : adOk X) (oo : OkS 30 S) (zz : ZrC 30 u) (hz : u.1 29 0 = 0) : CK X (d + 1) yX8_init cX8_init 1 [.ref 29] u 30 S 4 140 u 34 (sU (sU (sU (sU S 29 1) 29 2) 29 3) 29 4) := by
  refine CK_of ok_X8 rfl oo zz ?_
  intro p e s m args below meth c G hA hr hlk hnm
  refine C_aload_n (n := 0) (i := 0) (v := 29) G (by decide +kernel) rfl rfl ?_
  refine C_obj (i := 3) (a := 29) (r := []) G (by decide +kernel) (by decide +kernel) (by show 1 ≤ d + 1; omega) (by show 0 + 12 ≤ 64 * (d + 1); omega) ?_
  refine C_aload_n (n := 0) (i := 0) (v := 29) G (by decide +kernel) rfl rfl (C_iconst (n := 0) (v := 0) G (by decide +kernel) rfl (C_put0 (i := 9) (x := 8) (y := 0) (ty := .int) G (by decide +kernel) (by decide +kernel) (by decide) (by decide) (by decide) (by decide) (Or.inl (by decide)) (by decide +kernel) rfl rfl (Or.inl (by decide)) hz ?_))
  refine C_aload_n (n := 0) (i := 0) (v := 29) G (by decide +kernel) rfl rfl (C_bipush (n := 40) (v := 40) G (by decide +kernel) rfl (C_newi (x := 0) (N := 40) G (by decide +kernel) (by decide +kernel) (by decide +kernel) (by decide) hA rfl (by decide) (Nat.le_of_ble_eq_true rfl) (Nat.le_of_ble_eq_true rfl) (by decide) (by decide) (fun ad2 n2 => ?_)))
  have G := G.nx n2
  refine C_putr (i := 15) (x := 8) (y := 1) (ty := .array .int) G (by decide +kernel) (by decide +kernel) (by decide) (by decide) (by decide) (by decide) (Or.inr ⟨by decide, hnm, rfl⟩) (by decide +kernel) rfl rfl (by decide) (by decide +kernel) (by decide) ?_
  refine C_aload_n (n := 0) (i := 0) (v := 29) G (by decide +kernel) rfl rfl (C_bipush (n := 40) (v := 40) G (by decide +kernel) rfl (C_newi (x := 0) (N := 40) G (by decide +kernel) (by decide +kernel) (by decide +kernel) (by decide) hA rfl (by decide) (Nat.le_of_ble_eq_true rfl) (Nat.le_of_ble_eq_true rfl) (by decide) (by decide) (fun ad2 n2' => ?_)))
  have G := G.nx n2'
  refine C_putr (i := 19) (x := 8) (y := 2) (ty := .array .int) G (by decide +kernel) (by decide +kernel) (by decide) (by decide) (by decide) (by decide) (Or.inr ⟨by decide, hnm, rfl⟩) (by decide +kernel) rfl rfl (by decide) (by decide +kernel) (by decide) ?_
  refine C_aload_n (n := 0) (i := 0) (v := 29) G (by decide +kernel) rfl rfl (C_bipush (n := 40) (v := 40) G (by decide +kernel) rfl (C_newi (x := 0) (N := 40) G (by decide +kernel) (by decide +kernel) (by decide +kernel) (by decide) hA rfl (by decide) (Nat.le_of_ble_eq_true rfl) (Nat.le_of_ble_eq_true rfl) (by decide) (by decide) (fun ad3 n3' => ?_)))
  have G := G.nx n3'
  refine C_putr (i := 22) (x := 8) (y := 3) (ty := .array .int) G (by decide +kernel) (by decide +kernel) (by decide) (by decide) (by decide) (by decide) (Or.inr ⟨by decide, hnm, rfl⟩) (by decide +kernel) rfl rfl (by decide) (by decide +kernel) (by decide) ?_
  refine C_aload_n (n := 0) (i := 0) (v := 29) G (by decide +kernel) rfl rfl (C_bipush (n := 20) (v := 20) G (by decide +kernel) rfl (C_newi (x := 0) (N := 20) G (by decide +kernel) (by decide +kernel) (by decide +kernel) (by decide) hA rfl (by decide) (Nat.le_of_ble_eq_true rfl) (Nat.le_of_ble_eq_true rfl) (by decide) (by decide) (fun ad4 n4' => ?_)))
  have G := G.nx n4'
  refine C_putr (i := 25) (x := 8) (y := 4) (ty := .array .int) G (by decide +kernel) (by decide +kernel) (by decide) (by decide) (by decide) (by decide) (Or.inr ⟨by decide, hnm, rfl⟩) (by decide +kernel) rfl rfl (by decide) (by decide +kernel) (by decide) ?_
  exact C_ret (X0 := X) (ad := ad4) G hr hlk (((n2.tr n2' (by decide)).tr n3' (by decide)).tr n4' (by decide)) (by decide +kernel)
