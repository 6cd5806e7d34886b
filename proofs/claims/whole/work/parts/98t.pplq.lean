/-! the plaque -/
section
variable {X : Xc} {p : Program} {e : Env} {R : Room} {s : State} {m : MethodId} {args : Array Value} {below : List Frame} {meth : Method} {c : Code} {own : String} {cc : ByteArray} {nL cells slots : Nat} {Z : State → Prop} {sc : Option (Nat × (Nat → Int32))} {pc : Nat} {lv : List (Option Value)} {r : List Value} {u : Mm}
theorem V_ldcS (G : Gx X p s m args c own cc nL sc) {i idx : Nat} {tx : String} (hd : decode cc pc = .ok (.ldc_w idx, 3)) (hR : vk_R own idx tx (xad X (1002 + i)) s) (h : Vx X p e R s m args below meth c nL cells slots Z (pc + 3) lv (.ref (1002 + i) :: r) u) : Vx X p e R s m args below meth c nL cells slots Z pc lv r u := by
  intro H locs ls hP hS hl T hT S
  obtain ⟨t, a1, b1⟩ := h H locs ls hP hS hl T hT S
  exact ⟨t, S.ldcStringW G.1 G.ow (text := tx) (a := xad X (1002 + i)) hR.1 hR.2 (g := F0 m pc ls (r.map (up X))) rfl (by rw [G.2.1]; exact hd) t a1, b1⟩
theorem V_slenS (G : Gx X p s m args c own cc nL sc) {i k d : Nat} (hk : k < 4) (hl : Cond.methodLink own i yJ0_length_8abf5 ∈ Om) (hf : d + 2 ≤ R.frames) (hlo : 64 * (d + 2) ≤ R.locals) (hc : cells ≤ R.cells ∧ slots ≤ R.slots) (hr : ctg r ≤ 8) (hd : decode cc pc = .ok (.invokevirtual i, 3)) (h : Vx X p e R s m args below meth c nL cells slots Z (pc + 3) lv (.int (nI (jln k)) :: r) u) : Vx X p e R s m args below meth c nL cells slots Z pc lv (.ref (1002 + k) :: r) u := by
  intro H locs ls hP hS hl'
  refine va_calli (run_VH G (vs := []) (rest := r.map (up X)) (i := i) (d := d + 1) ok_len rfl ⟨by decide +kernel, by decide +kernel⟩ hl hf hlo hc hk (h_len hk) rfl (by rw [ctg_sum]; exact hr) hd hS hl'.1) hS (fun _ _ h => h.elim) (fun _ h => h.elim) ?_
  intro w u' t H1 locs1 ht _ hp hB _ _ hS1
  obtain ⟨rfl, rfl⟩ := hp
  have e1 : H1 = u' := ht.symm.trans hB
  subst e1
  exact h H1 locs1 ls hP hS1 hl'
theorem V_schrS (G : Gx X p s m args c own cc nL sc) {i k j d : Nat} (hk : k < 4) (hj : j < jln k) (hl : Cond.methodLink own i yJ0_charAt_5068e ∈ Om) (hf : d + 4 ≤ R.frames) (hlo : 64 * (d + 4) ≤ R.locals) (hc : cells ≤ R.cells ∧ slots ≤ R.slots) (hr : ctg r ≤ 8) (hd : decode cc pc = .ok (.invokevirtual i, 3)) (h : Vx X p e R s m args below meth c nL cells slots Z (pc + 3) lv (.int (jch k j) :: r) u) : Vx X p e R s m args below meth c nL cells slots Z pc lv (.int (nI j) :: .ref (1002 + k) :: r) u := by
  intro H locs ls hP hS hl'
  refine va_calli (run_VH G (vs := [.int (nI j)]) (rest := r.map (up X)) (i := i) (d := d + 3) ok_chr rfl ⟨by decide +kernel, by decide +kernel⟩ hl hf hlo hc hk (h_chr hk hj) rfl (by rw [ctg_sum]; exact hr) hd hS hl'.1) hS (fun _ _ h => h.elim) (fun _ h => h.elim) ?_
  intro w u' t H1 locs1 ht _ hp hB _ _ hS1
  obtain ⟨rfl, rfl⟩ := hp
  have e1 : H1 = u' := ht.symm.trans hB
  subst e1
  exact h H1 locs1 ls hP hS1 hl'
end
def lit (k : Nat) : List Int32 := (List.range (jln k)).map (jch k)
section
variable {X : Xc} {d : Nat} {u u0 : Mm} {K : Mm → Prop} {l : List Int32}
theorem E_len {k : Nat} {v : Int32} (hd : 1 ≤ d) (hk : k < 4) (h : VV X d 164 K 7 [some (.ref 0), some (.ref (1002 + k)), some (.int v)] [.int (nI (jln k)), .int v] u) : VV X d 164 K 4 [some (.ref 0), some (.ref (1002 + k)), some (.int v)] [.ref (1002 + k), .int v] u := by
  intro p e s m args below meth c G hr hlk
  obtain ⟨d, rfl, -⟩ := dpos hd
  exact V_slenS (d := d) (i := 366) G hk (by decide +kernel) (Nat.le_refl _) (Nat.le_refl _) ⟨Nat.le_refl _, Nat.le_refl _⟩ (show 1 + 0 ≤ 8 by decide) (by decide +kernel) (h p e s m args below meth c G hr hlk)
theorem E_chr {k j : Nat} (hd : 3 ≤ d) (hk : k < 4) (hj : j < jln k) (h : VV X d 164 K 16 [some (.ref 0), some (.ref (1002 + k)), some (.int (nI j))] [.int (jch k j), .ref 0] u) : VV X d 164 K 13 [some (.ref 0), some (.ref (1002 + k)), some (.int (nI j))] [.int (nI j), .ref (1002 + k), .ref 0] u := by
  intro p e s m args below meth c G hr hlk
  obtain ⟨d, rfl⟩ : ∃ e, d = e + 3 := ⟨d - 3, by omega⟩
  exact V_schrS (d := d) (i := 370) G hk hj (by decide +kernel) (Nat.le_refl _) (Nat.le_refl _) ⟨Nat.le_refl _, Nat.le_refl _⟩ (by decide) (by decide +kernel) (h p e s m args below meth c G hr hlk)
theorem l_engrave {k : Nat} (hd : 3 ≤ d) (hk : k < 4) (hl : l.length + jln k ≤ 32) (hK : ∀ u', PlS u0 u' (l ++ lit k) → K u') : ∀ n j u, j + n = jln k → PlS u0 u (l ++ (List.range j).map (jch k)) → VV X d 164 K 2 [some (.ref 0), some (.ref (1002 + k)), some (.int (nI j))] [] u
  | 0, j, u, hj, h => by
    have := jln_ok k hk
    have e : j = jln k := by omega
    subst e
    refine B_S_engrave_2 (E_len (by omega) hk (B_S_engrave_7 ⟨fun _ => hK u h, fun z => absurd (nI_le (Nat.le_refl _) (by omega)) z⟩))
  | n + 1, j, u, hj, h => by
    have := jln_ok k hk
    refine B_S_engrave_2 (E_len (by omega) hk (B_S_engrave_7 ⟨fun z => absurd z (nI_ge (by omega) (by omega)), fun _ => E_chr hd hk (by omega) (B_S_engrave_16 (c_eb (by omega) h (by rw [List.length_append, List.length_map, List.length_range]; omega) (fun u' hu' => ?_)))⟩))
    rw [nI_1]
    refine l_engrave hd hk hl hK n (j + 1) u' (by omega) ?_
    rw [List.range_succ, List.map_append, ← List.append_assoc]
    exact hu'
theorem c_engrave {k : Nat} (hd : 4 ≤ d) (hk : k < 4) (h : PlS u0 u l) (hl : l.length + jln k ≤ 32) (hK : ∀ u', PlS u0 u' (l ++ lit k) → K u') : CV X d 164 [.ref 0, .ref (1002 + k)] u K := by
  obtain ⟨d, rfl, hd1⟩ := dpos hd
  refine CV_of mk_X12_engrave.2.2 rfl (B_S_engrave_0 (l_engrave hd1 hk hl hK (jln k) 0 u (by omega) ?_))
  show PlS u0 u (l ++ [])
  rw [List.append_nil]
  exact h
end
section
variable {X : Xc} {d : Nat} {u u0 : Mm} {K : Int32 → Mm → Prop}
theorem Q_owes {p1 : Int32} (h : VI X d 162 K 51 [some (.ref 0), some (.int p1), none] [.ref 1003, .ref 0] u) : VI X d 162 K 48 [some (.ref 0), some (.int p1), none] [.ref 0] u := by
  intro p e s m args below meth c G hr hlk
  exact V_ldcS (i := 1) (idx := 353) G (by decide +kernel) G.ns.2.2.1.2.1 (h p e s m args below meth c G hr hlk)
theorem Q_isat {p1 : Int32} (h : VI X d 162 K 76 [some (.ref 0), some (.int p1), none] [.ref 1004, .ref 0] u) : VI X d 162 K 73 [some (.ref 0), some (.int p1), none] [.ref 0] u := by
  intro p e s m args below meth c G hr hlk
  exact V_ldcS (i := 2) (idx := 362) G (by decide +kernel) G.ns.2.2.1.2.2.1 (h p e s m args below meth c G hr hlk)
theorem Q_nowh {p1 v2 : Int32} (h : VI X d 162 K 98 [some (.ref 0), some (.int p1), some (.int v2)] [.ref 1005, .ref 0] u) : VI X d 162 K 95 [some (.ref 0), some (.int p1), some (.int v2)] [.ref 0] u := by
  intro p e s m args below meth c G hr hlk
  exact V_ldcS (i := 3) (idx := 364) G (by decide +kernel) G.ns.2.2.1.2.2.2 (h p e s m args below meth c G hr hlk)
end
