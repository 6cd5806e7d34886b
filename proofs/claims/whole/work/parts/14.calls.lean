theorem Om_good : Om.all goodWord = true := by decide +kernel
theorem Om_goodIn {k : Nat} (h : okP k) : GoodIn Om (.code (yM k) (cM k) (nM k) (rM k) :: Om) := by
  have hg : ∀ w ∈ Om, w ∈ Om ∧ ((w.onTables && w.keeps) = true ∨ ∃ ty, w = .arrayClass ty) := fun w hw => ⟨hw, good_of_word (List.all_eq_true.mp Om_good w hw)⟩
  intro w hw
  rcases List.mem_cons.mp hw with e | e
  · rw [e]; exact hg _ h.1.1
  · exact hg w e
section VCall
variable {X : Xc} {p : Program} {e : Env} {R : Room} {s : State} {m : MethodId} {args : Array Value} {below : List Frame} {meth : Method} {c : Code} {own : String} {cc : ByteArray} {nL cells slots : Nat} {Z : State → Prop} {sc : Option (Nat × (Nat → Int32))} {pc : Nat} {lv : List (Option Value)} {r : List Value} {u : Mm}
theorem pre_of (G : Gx X p s m args c own cc nL sc) {as : List Value} {H : Heap} {locs : List Loc} (hP : va_P (xD X) vwCl (wld X u) H) (hS : va_S (xA X) s.heap H locs) : PreS s H (PreX X as u) (as.map (up X)) := by
  refine ⟨preX_blind, fun U hU hW => ⟨rfl, by rw [hU]; exact hP, va_K.moved hW.alike G.K, ?_, G.ad, G.ns.warm hW⟩⟩
  rw [hU]
  exact (G.sta.kept (fun q h1 h2 => hS.2.1 q h1 h2)).moved hW.alike
theorem callB_X (G : Gx X p s m args c own cc nL sc) {k i d : Nat} (hk : okP k) (hl : Cond.methodLink own i (yM k) ∈ Om) (hf : d + 1 ≤ R.frames) (hlo : 64 * (d + 1) ≤ R.locals) : CallB R s args own i (yM k) (cM k) (nM k) (rM k) (.code (yM k) (cM k) (nM k) (rM k) :: Om) (rmD d) 0 0 (aM k) := by
  obtain ⟨h1, h2, h3, h4, h5, h6, -⟩ := hk.1
  exact callB_of (aM k) G.ts (Om_goodIn hk) rfl rfl rfl (G.ts _ h2) (G.ts _ hl) ⟨h3, h4, h5⟩ ⟨hf, by show 8 + (nM k + 11) + 64 * d ≤ R.locals; omega⟩
/-- the run of a call, by its contract -/
theorem run_V (G : Gx X p s m args c own cc nL sc) {k i d a : Nat} {as : List Value} {Qc : Array Value → State → Outcome → State → Prop} (hk : okP k) (hk9 : Nat.beq (kM k) 99 = false) (hl : Cond.methodLink own i (yM k) ∈ Om) (hf : d + 1 ≤ R.frames) (hlo : 64 * (d + 1) ≤ R.locals) (hc : cells ≤ R.cells ∧ slots ≤ R.slots)
    (hM : Met (xL X) (yM k) (.code (yM k) (cM k) (nM k) (rM k) :: Om) (rmD d) (PreX X (.ref a :: as) u) Qc 0 0 (xA X)) (ho : isObj a (kM k) = true) (hn : as.length = aM k) (hr : ctg r ≤ 8) (hd : decode cc pc = .ok (.invokevirtual i, 3))
    {H : Heap} {locs : List Loc} {ls : Array Slot} (hP : va_P (xD X) vwCl (wld X u) H) (hS : va_S (xA X) s.heap H locs) (hls : ls.size = nL) :
    va_Run p (xL X) e R s m args below meth c H locs cells slots 0 0 (F0 m pc ls ((as.map (up X)).reverse ++ .ref (xad X a) :: r.map (up X))) (r.map (up X)) (Qc (Value.ref (xad X a) :: as.map (up X)).toArray) (xA X) := by
  obtain ⟨h1, h2, h3, h4⟩ := hk.2.2 hk9
  obtain ⟨ha, -, hly⟩ := isObj_spec ho
  obtain ⟨q, hq⟩ := vw_at h4
  have hR : Rf (kM k) = q.1 := by unfold Rf; rw [hq]
  have hp := pre_of G (as := .ref a :: as) hP hS
  refine va_runV (C := (yM k).cls) ⟨G.1, G.2.1, G.2.2.1, G.ow, G.ts⟩ hM ⟨callB_X G hk hl hf hlo, G.ts _ h1, G.ts _ h2⟩ ⟨hp.1, ?_, hp.2⟩ rfl (by simpa using hn) hls rfl (lv_room (by rw [ctg_sum]; exact hr)) hd ⟨by simpa using hc.1, by simpa using hc.2⟩
  rw [h3, hR]
  exact va_recv G.K hP hq (q0 := a) (by rw [wld_at X u ha, ent_obj X u hly])
theorem run_S (G : Gx X p s m args c own cc nL sc) {k i d : Nat} {as : List Value} {Qc : Array Value → State → Outcome → State → Prop} (hk : okP k) (hk9 : Nat.beq (kM k) 99 = true) (hl : Cond.methodLink own i (yM k) ∈ Om ∨ (∃ oc, own = Rc oc ∧ (oc, i, k) ∈ nsL)) (hf : d + 1 ≤ R.frames) (hlo : 64 * (d + 1) ≤ R.locals) (hc : cells ≤ R.cells ∧ slots ≤ R.slots)
    (hM : Met (xL X) (yM k) (.code (yM k) (cM k) (nM k) (rM k) :: Om) (rmD d) (PreX X as u) Qc 0 0 (xA X)) (hn : as.length = aM k) (hr : ctg r ≤ 8) (hd : decode cc pc = .ok (.invokestatic i, 3))
    {H : Heap} {locs : List Loc} {ls : Array Slot} (hP : va_P (xD X) vwCl (wld X u) H) (hS : va_S (xA X) s.heap H locs) (hls : ls.size = nL) :
    va_Run p (xL X) e R s m args below meth c H locs cells slots 0 0 (F0 m pc ls ((as.map (up X)).reverse ++ r.map (up X))) (r.map (up X)) (Qc (as.map (up X)).toArray) (xA X) := by
  have h1 := hk.2.1 hk9
  have hp := pre_of G (as := as) hP hS
  rcases hl with hl | hl
  · exact va_runS ⟨G.1, G.2.1, G.2.2.1, G.ow, G.ts⟩ hM ⟨callB_X G hk hl hf hlo, G.ts _ h1⟩ hp rfl (by simpa using hn) hls rfl (lv_room (by rw [ctg_sum]; exact hr)) hd ⟨by simpa using hc.1, by simpa using hc.2⟩
  · obtain ⟨oc, rfl, hl⟩ := hl
    obtain ⟨k1, k2, k3, k4, k5, k6, -⟩ := hk.1
    exact va_runSN (host := "StatueRent") ⟨G.1, G.2.1, G.2.2.1, G.ow, G.ts⟩ hM ⟨va_cnB (aM k) G.ts (Om_goodIn hk) rfl rfl rfl (G.ns.1 _ hl) (G.ts _ k2) ⟨k3, k4, k5⟩ ⟨hf, by show 8 + (nM k + 11) + 64 * d ≤ R.locals; omega⟩, G.ts _ h1, trivial⟩ hp rfl (by simpa using hn) hls rfl (lv_room (by rw [ctg_sum]; exact hr)) hd ⟨by simpa using hc.1, by simpa using hc.2⟩
theorem V_cvI (G : Gx X p s m args c own cc nL sc) {k i d a : Nat} {as : List Value} (hk : okP k) (hk9 : Nat.beq (kM k) 99 = false) (hl : Cond.methodLink own i (yM k) ∈ Om) (hf : d + 1 ≤ R.frames) (hlo : 64 * (d + 1) ≤ R.locals) (hc : cells ≤ R.cells ∧ slots ≤ R.slots) (ho : isObj a (kM k) = true) (hn : as.length = aM k) (hr : ctg r ≤ 8) (hd : decode cc pc = .ok (.invokevirtual i, 3))
    (h : CI X d k (.ref a :: as) u (fun w u' => Vx X p e R s m args below meth c nL cells slots Z (pc + 3) lv (.int w :: r) u')) : Vx X p e R s m args below meth c nL cells slots Z pc lv (as.reverse ++ .ref a :: r) u := by
  intro H locs ls hP hS hl'
  rw [List.map_append, List.map_reverse]
  refine va_calli (run_V G hk hk9 hl hf hlo hc h ho hn hr hd hP hS hl'.1) hS (fun _ _ h => h) (fun _ h => h) ?_
  intro w u' t H1 locs1 ht _ hp hB _ _ hS1
  exact hp H1 locs1 ls (by rw [← ht]; exact hB) hS1 hl'
theorem V_cvV (G : Gx X p s m args c own cc nL sc) {k i d a : Nat} {as : List Value} (hk : okP k) (hk9 : Nat.beq (kM k) 99 = false) (hl : Cond.methodLink own i (yM k) ∈ Om) (hf : d + 1 ≤ R.frames) (hlo : 64 * (d + 1) ≤ R.locals) (hc : cells ≤ R.cells ∧ slots ≤ R.slots) (ho : isObj a (kM k) = true) (hn : as.length = aM k) (hr : ctg r ≤ 8) (hd : decode cc pc = .ok (.invokevirtual i, 3))
    (h : CV X d k (.ref a :: as) u (fun u' => Vx X p e R s m args below meth c nL cells slots Z (pc + 3) lv r u')) : Vx X p e R s m args below meth c nL cells slots Z pc lv (as.reverse ++ .ref a :: r) u := by
  intro H locs ls hP hS hl'
  rw [List.map_append, List.map_reverse]
  refine va_callv (run_V G hk hk9 hl hf hlo hc h ho hn hr hd hP hS hl'.1) hS (fun _ _ h => h) (fun _ h => h) ?_
  intro u' t H1 locs1 ht _ hp hB _ _ hS1
  exact hp H1 locs1 ls (by rw [← ht]; exact hB) hS1 hl'
theorem V_cvJ (G : Gx X p s m args c own cc nL sc) {k i d a : Nat} {as : List Value} (hk : okP k) (hk9 : Nat.beq (kM k) 99 = false) (hl : Cond.methodLink own i (yM k) ∈ Om) (hf : d + 1 ≤ R.frames) (hlo : 64 * (d + 1) ≤ R.locals) (hc : cells ≤ R.cells ∧ slots ≤ R.slots) (ho : isObj a (kM k) = true) (hn : as.length = aM k) (hr : ctg r ≤ 8) (hd : decode cc pc = .ok (.invokevirtual i, 3))
    (h : CJ X d k (.ref a :: as) u (fun w u' => Vx X p e R s m args below meth c nL cells slots Z (pc + 3) lv (.long w :: r) u')) : Vx X p e R s m args below meth c nL cells slots Z pc lv (as.reverse ++ .ref a :: r) u := by
  intro H locs ls hP hS hl'
  rw [List.map_append, List.map_reverse]
  refine va_calll (run_V G hk hk9 hl hf hlo hc h ho hn hr hd hP hS hl'.1) hS (fun _ _ h => h) (fun _ h => h) ?_
  intro w u' t H1 locs1 ht _ hp hB _ _ hS1
  exact hp H1 locs1 ls (by rw [← ht]; exact hB) hS1 hl'
theorem V_csI (G : Gx X p s m args c own cc nL sc) {k i d : Nat} {as : List Value} (hk : okP k) (hk9 : Nat.beq (kM k) 99 = true) (hl : Cond.methodLink own i (yM k) ∈ Om ∨ (∃ oc, own = Rc oc ∧ (oc, i, k) ∈ nsL)) (hf : d + 1 ≤ R.frames) (hlo : 64 * (d + 1) ≤ R.locals) (hc : cells ≤ R.cells ∧ slots ≤ R.slots) (hn : as.length = aM k) (hr : ctg r ≤ 8) (hd : decode cc pc = .ok (.invokestatic i, 3))
    (h : CI X d k as u (fun w u' => Vx X p e R s m args below meth c nL cells slots Z (pc + 3) lv (.int w :: r) u')) : Vx X p e R s m args below meth c nL cells slots Z pc lv (as.reverse ++ r) u := by
  intro H locs ls hP hS hl'
  rw [List.map_append, List.map_reverse]
  refine va_calli (run_S G hk hk9 hl hf hlo hc h hn hr hd hP hS hl'.1) hS (fun _ _ h => h) (fun _ h => h) ?_
  intro w u' t H1 locs1 ht _ hp hB _ _ hS1
  exact hp H1 locs1 ls (by rw [← ht]; exact hB) hS1 hl'
theorem V_csV (G : Gx X p s m args c own cc nL sc) {k i d : Nat} {as : List Value} (hk : okP k) (hk9 : Nat.beq (kM k) 99 = true) (hl : Cond.methodLink own i (yM k) ∈ Om ∨ (∃ oc, own = Rc oc ∧ (oc, i, k) ∈ nsL)) (hf : d + 1 ≤ R.frames) (hlo : 64 * (d + 1) ≤ R.locals) (hc : cells ≤ R.cells ∧ slots ≤ R.slots) (hn : as.length = aM k) (hr : ctg r ≤ 8) (hd : decode cc pc = .ok (.invokestatic i, 3))
    (h : CV X d k as u (fun u' => Vx X p e R s m args below meth c nL cells slots Z (pc + 3) lv r u')) : Vx X p e R s m args below meth c nL cells slots Z pc lv (as.reverse ++ r) u := by
  intro H locs ls hP hS hl'
  rw [List.map_append, List.map_reverse]
  refine va_callv (run_S G hk hk9 hl hf hlo hc h hn hr hd hP hS hl'.1) hS (fun _ _ h => h) (fun _ h => h) ?_
  intro u' t H1 locs1 ht _ hp hB _ _ hS1
  exact hp H1 locs1 ls (by rw [← ht]; exact hB) hS1 hl'
theorem V_csJ (G : Gx X p s m args c own cc nL sc) {k i d : Nat} {as : List Value} (hk : okP k) (hk9 : Nat.beq (kM k) 99 = true) (hl : Cond.methodLink own i (yM k) ∈ Om ∨ (∃ oc, own = Rc oc ∧ (oc, i, k) ∈ nsL)) (hf : d + 1 ≤ R.frames) (hlo : 64 * (d + 1) ≤ R.locals) (hc : cells ≤ R.cells ∧ slots ≤ R.slots) (hn : as.length = aM k) (hr : ctg r ≤ 8) (hd : decode cc pc = .ok (.invokestatic i, 3))
    (h : CJ X d k as u (fun w u' => Vx X p e R s m args below meth c nL cells slots Z (pc + 3) lv (.long w :: r) u')) : Vx X p e R s m args below meth c nL cells slots Z pc lv (as.reverse ++ r) u := by
  intro H locs ls hP hS hl'
  rw [List.map_append, List.map_reverse]
  refine va_calll (run_S G hk hk9 hl hf hlo hc h hn hr hd hP hS hl'.1) hS (fun _ _ h => h) (fun _ h => h) ?_
  intro w u' t H1 locs1 ht _ hp hB _ _ hS1
  exact hp H1 locs1 ls (by rw [← ht]; exact hB) hS1 hl'
end VCall
