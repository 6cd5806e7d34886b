/-! the model's start: startSo while the law's last row is not made yet -/
def uQ (u : Mm) (n : Nat) : Mm := (fun b j => if b = 236 ∧ 210 ≤ j ∧ j < 210 + n then -1 else u.1 b j, u.2)
theorem uQ_0 (u : Mm) : uQ u 0 = u := by
  unfold uQ
  refine Prod.ext ?_ rfl
  funext b j
  exact if_neg (by omega)
theorem uQ_1 (u : Mm) (n : Nat) : mI (uQ u n) 236 (210 + n) (-1) = uQ u (n + 1) := by
  unfold uQ mI
  refine Prod.ext ?_ rfl
  funext b j
  show (if b = 236 ∧ j = 210 + n then (-1 : Int32) else if b = 236 ∧ 210 ≤ j ∧ j < 210 + n then -1 else u.1 b j) = if b = 236 ∧ 210 ≤ j ∧ j < 210 + (n + 1) then -1 else u.1 b j
  by_cases h : b = 236 ∧ j = 210 + n
  · rw [if_pos h, if_pos (by omega)]
  · rw [if_neg h]
    by_cases h2 : b = 236 ∧ 210 ≤ j ∧ j < 210 + n
    · rw [if_pos h2, if_pos (by omega)]
    · rw [if_neg h2, if_neg (by omega)]
theorem ZrC.uQ {k n : Nat} {u : Mm} (h : ZrC k u) (hk : 236 < k) : ZrC k (uQ u n) := fun b hb => ⟨by
  funext j
  show (if b = 236 ∧ 210 ≤ j ∧ j < 210 + n then (-1 : Int32) else u.1 b j) = 0
  rw [if_neg (by omega), (h b hb).1], (h b hb).2⟩
theorem mI_same {u : Mm} {a j : Nat} {v : Int32} (h : u.1 a j = v) : mI u a j v = u := by
  unfold mI
  refine Prod.ext ?_ rfl
  funext b k
  show (if b = a ∧ k = j then v else u.1 b k) = u.1 b k
  by_cases e : b = a ∧ k = j
  · rw [if_pos e, e.1, e.2, h]
  · rw [if_neg e]
theorem uQ_at {u : Mm} {n j : Nat} (h6 : ∀ j, u.1 236 j = if j = 5 then 3 else 0) (h : j ≠ 5 ∧ (j < 210 ∨ 210 + n ≤ j)) : (uQ u n).1 236 j = 0 := by
  show (if 236 = 236 ∧ 210 ≤ j ∧ j < 210 + n then (-1 : Int32) else u.1 236 j) = 0
  rw [if_neg (by omega), h6, if_neg h.1]
theorem okK_startSo : okR yX13_startSo cX13_startSo 2 none 0 := ⟨by decide +kernel, by decide +kernel, by decide +kernel, by decide +kernel, by decide +kernel, by decide, by decide +kernel⟩
section CStart
variable {X : Xc} {S : Nat → Nat → Bool} {p : Program} {e : Env} {R : Room} {s : State} {m : MethodId} {args : Array Value} {below : List Frame} {meth : Method} {c : Code} {cells slots : Nat} {Z : State → Prop} {u : Mm}
theorem so_now {v : Mm} (hs : S 234 14 = true) : fldC X v S 234 13 14 = up X (.ref 236) := by
  show (if S 234 14 = true then Value.ref _ else Value.null) = _
  rw [if_pos hs]; rfl
theorem so_loop1 (G : Gx X p s m args c yX13_startSo.cls cX13_startSo 2 none) (hs : S 234 14 = true) (h6 : ∀ j, u.1 236 j = if j = 5 then 3 else 0)
    (h : ∀ v, Vc X 261 S p e R s m args below meth c 2 cells slots Z 24 [some (.ref 234), v] [] u) : ∀ n i, i + n = 532 → 198 ≤ i → Vc X 261 S p e R s m args below meth c 2 cells slots Z 4 [some (.ref 234), some (.int (nI i))] [] u := by
  intro n
  induction n with
  | zero =>
    intro i hi _
    refine C_iload_n (n := 1) (i := 1) (v := nI i) G (by decide +kernel) rfl rfl <| C_sipush (n := 532) (v := 532) G (by decide +kernel) rfl <| C_ic_ge (off := 16) (x := 24) G (by decide +kernel) (by decide) ⟨fun _ => h _, fun z => absurd (nI_le (a := 532) (by omega) (by omega)) z⟩
  | succ n ih =>
    intro i hi hl
    refine C_iload_n (n := 1) (i := 1) (v := nI i) G (by decide +kernel) rfl rfl <| C_sipush (n := 532) (v := 532) G (by decide +kernel) rfl <| C_ic_ge (off := 16) (x := 24) G (by decide +kernel) (by decide) ⟨fun z => absurd z (nI_ge (b := 532) (by omega) (by decide)), fun _ => ?_⟩
    refine C_aload_n (n := 0) (i := 0) (v := 234) G (by decide +kernel) rfl rfl <| C_getf (i := 98) (x := 13) (y := 14) (v := .ref 236) G (by decide +kernel) (by decide +kernel) (by decide) (by decide) (by decide) (so_now hs) <| C_iload_n (n := 1) (i := 1) (v := nI i) G (by decide +kernel) rfl rfl <| C_iconst (n := 0) (v := 0) G (by decide +kernel) rfl <| C_iast (x := 0) (n := 532) G (by decide +kernel) (by decide) (by decide) (by decide +kernel) (vp_in_nI (by omega) (by decide)) ?_
    rw [nI_clamp (by omega), mI_same (by rw [h6, if_neg (by omega)])]
    refine C_iinc (i := 1) (n := 1) (k := 1) G (by decide +kernel) rfl rfl (by decide) rfl <| C_goto (off := -17) (x := 4) G (by decide +kernel) (by decide) ?_
    have := ih (i + 1) (by omega) (by omega)
    rw [← nI_1] at this
    exact this
theorem so_loop2 (G : Gx X p s m args c yX13_startSo.cls cX13_startSo 2 none) (hs : S 234 14 = true) (h6 : ∀ j, u.1 236 j = if j = 5 then 3 else 0)
    (h : ∀ v, Vc X 261 S p e R s m args below meth c 2 cells slots Z 109 [some (.ref 234), v] [] (uQ u 8)) : ∀ n i, i + n = 8 → Vc X 261 S p e R s m args below meth c 2 cells slots Z 26 [some (.ref 234), some (.int (nI i))] [] (uQ u i) := by
  intro n
  induction n with
  | zero =>
    intro i hi
    have e8 : i = 8 := by omega
    subst e8
    refine C_iload_n (n := 1) (i := 1) (v := nI 8) G (by decide +kernel) rfl rfl <| C_bipush (n := 8) (v := 8) G (by decide +kernel) rfl <| C_ic_ge (off := 80) (x := 109) G (by decide +kernel) (by decide) ⟨fun _ => h _, fun z => absurd (by decide) z⟩
  | succ n ih =>
    intro i hi
    have a1 : (202 : Int32) + nI i = nI (202 + i) := nI_add 202 i
    have a2 : (22 : Int32) + nI i = nI (22 + i) := nI_add 22 i
    have a3 : (210 : Int32) + nI i = nI (210 + i) := nI_add 210 i
    have a4 : (218 : Int32) + nI i = nI (218 + i) := nI_add 218 i
    have a5 : (38 : Int32) + nI i = nI (38 + i) := nI_add 38 i
    refine C_iload_n (n := 1) (i := 1) (v := nI i) G (by decide +kernel) rfl rfl <| C_bipush (n := 8) (v := 8) G (by decide +kernel) rfl <| C_ic_ge (off := 80) (x := 109) G (by decide +kernel) (by decide) ⟨fun z => absurd z (nI_ge (b := 8) (by omega) (by decide)), fun _ => ?_⟩
    refine C_aload_n (n := 0) (i := 0) (v := 234) G (by decide +kernel) rfl rfl <| C_getf (i := 98) (x := 13) (y := 14) (v := .ref 236) G (by decide +kernel) (by decide +kernel) (by decide) (by decide) (by decide) (so_now hs) <| C_sipush (n := 202) (v := 202) G (by decide +kernel) rfl <| C_iload_n (n := 1) (i := 1) (v := nI i) G (by decide +kernel) rfl rfl <| C_iadd G (by decide +kernel) <| C_aload_n (n := 0) (i := 0) (v := 234) G (by decide +kernel) rfl rfl <| C_getf (i := 98) (x := 13) (y := 14) (v := .ref 236) G (by decide +kernel) (by decide +kernel) (by decide) (by decide) (by decide) (so_now hs) <| C_bipush (n := 22) (v := 22) G (by decide +kernel) rfl <| C_iload_n (n := 1) (i := 1) (v := nI i) G (by decide +kernel) rfl rfl <| C_iadd G (by decide +kernel) ?_
    rw [a1, a2]
    refine C_iald (x := 0) (n := 532) G (by decide +kernel) (by decide) (by decide +kernel) (vp_in_nI (by omega) (by decide)) <| C_iast (x := 0) (n := 532) G (by decide +kernel) (by decide) (by decide) (by decide +kernel) (vp_in_nI (by omega) (by decide)) ?_
    rw [nI_clamp (show 202 + i < 2 ^ 31 by omega), nI_clamp (show 22 + i < 2 ^ 31 by omega), uQ_at h6 (j := 22 + i) (by omega), mI_same (uQ_at h6 (by omega))]
    refine C_aload_n (n := 0) (i := 0) (v := 234) G (by decide +kernel) rfl rfl <| C_getf (i := 98) (x := 13) (y := 14) (v := .ref 236) G (by decide +kernel) (by decide +kernel) (by decide) (by decide) (by decide) (so_now hs) <| C_sipush (n := 210) (v := 210) G (by decide +kernel) rfl <| C_iload_n (n := 1) (i := 1) (v := nI i) G (by decide +kernel) rfl rfl <| C_iadd G (by decide +kernel) <| C_iload_n (n := 1) (i := 1) (v := nI i) G (by decide +kernel) rfl rfl <| C_aload_n (n := 0) (i := 0) (v := 234) G (by decide +kernel) rfl rfl <| C_getf (i := 98) (x := 13) (y := 14) (v := .ref 236) G (by decide +kernel) (by decide +kernel) (by decide) (by decide) (by decide) (so_now hs) <| C_iconst (n := 3) (v := 3) G (by decide +kernel) rfl <| C_iald (x := 0) (n := 532) G (by decide +kernel) (by decide) (by decide +kernel) (vpd rfl) ?_
    rw [show (3 : Int32).toNatClampNeg = 3 from rfl, uQ_at h6 (j := 3) (by omega), a3]
    refine C_ic_ge (off := 15) (x := 82) G (by decide +kernel) (by decide) ⟨fun _ => ?_, fun z => absurd (nI_le (a := 0) (by omega) (by omega)) z⟩
    refine C_iconst (n := -1) (v := -1) G (by decide +kernel) rfl <| C_iast (x := 0) (n := 532) G (by decide +kernel) (by decide) (by decide) (by decide +kernel) (vp_in_nI (by omega) (by decide)) ?_
    rw [nI_clamp (by omega), uQ_1]
    refine C_aload_n (n := 0) (i := 0) (v := 234) G (by decide +kernel) rfl rfl <| C_getf (i := 98) (x := 13) (y := 14) (v := .ref 236) G (by decide +kernel) (by decide +kernel) (by decide) (by decide) (by decide) (so_now hs) <| C_sipush (n := 218) (v := 218) G (by decide +kernel) rfl <| C_iload_n (n := 1) (i := 1) (v := nI i) G (by decide +kernel) rfl rfl <| C_iadd G (by decide +kernel) <| C_aload_n (n := 0) (i := 0) (v := 234) G (by decide +kernel) rfl rfl <| C_getf (i := 98) (x := 13) (y := 14) (v := .ref 236) G (by decide +kernel) (by decide +kernel) (by decide) (by decide) (by decide) (so_now hs) <| C_bipush (n := 38) (v := 38) G (by decide +kernel) rfl <| C_iload_n (n := 1) (i := 1) (v := nI i) G (by decide +kernel) rfl rfl <| C_iadd G (by decide +kernel) ?_
    rw [a4, a5]
    refine C_iald (x := 0) (n := 532) G (by decide +kernel) (by decide) (by decide +kernel) (vp_in_nI (by omega) (by decide)) <| C_iast (x := 0) (n := 532) G (by decide +kernel) (by decide) (by decide) (by decide +kernel) (vp_in_nI (by omega) (by decide)) ?_
    rw [nI_clamp (show 218 + i < 2 ^ 31 by omega), nI_clamp (show 38 + i < 2 ^ 31 by omega), uQ_at h6 (j := 38 + i) (by omega), mI_same (uQ_at h6 (by omega))]
    refine C_iinc (i := 1) (n := 1) (k := 1) G (by decide +kernel) rfl rfl (by decide) rfl <| C_goto (off := -80) (x := 26) G (by decide +kernel) (by decide) ?_
    have := ih (i + 1) (by omega)
    rw [← nI_1] at this
    exact this
end CStart
theorem K_startSo {X : Xc} {d : Nat} {S : Nat → Nat → Bool} {u : Mm} (had : adOk X) (oo : OkS 261 S) (zz : ZrC 261 u) (hs : S 234 14 = true) (h6 : ∀ j, u.1 236 j = if j = 5 then 3 else 0) : CK X d yX13_startSo cX13_startSo 2 [.ref 234] u 261 S 0 0 (uQ u 8) 261 S := by
  refine CK_of okK_startSo rfl oo zz ?_
  intro p e s m args below meth c G hA hr hlk hnm
  refine C_sipush (n := 198) (v := 198) G (by decide +kernel) rfl <| C_istore_n (n := 1) (i := 1) (v := 198) G (by decide +kernel) rfl (by decide) rfl ?_
  refine so_loop1 G hs h6 (fun v => ?_) 334 198 rfl (Nat.le_refl _)
  refine C_iconst (n := 0) (v := 0) G (by decide +kernel) rfl <| C_istore_n (n := 1) (i := 1) (v := 0) G (by decide +kernel) rfl (by decide) rfl ?_
  have := so_loop2 (u := u) (Z := MQ below (QK X 261 (uQ u 8) 261 S) args s 0 0 (xA X)) (e := e) (R := rmC d 0 0) (below := below) (meth := meth) (cells := 0) (slots := 0) G hs h6 (fun v => C_ret (X0 := X) (ad := xad X) G hr hlk ⟨fun _ _ => rfl, had⟩ (by decide +kernel)) 8 0 rfl
  rw [uQ_0] at this
  exact this
