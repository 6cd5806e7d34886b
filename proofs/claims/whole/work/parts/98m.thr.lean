/-! ===== methods that throw ===== -/
abbrev rmT (d : Nat) : Room := { frames := d, cells := 1, slots := 6, locals := 64 * d }
abbrev XCt (X : Xc) (KX : Mm → Prop) : String → State → State → Prop := vx_X KX (fun E u t => E = nse ∧ PoX X u t) (xA X)
def TI (X : Xc) (d k : Nat) (as : List Value) (u : Mm) (K : Int32 → Mm → Prop) (KX : Mm → Prop) : Prop := vx_Met (xL X) (yM k) (.code (yM k) (cM k) (nM k) (rM k) :: Om) (rmT d) (PreX X as u) (va_Qi K (PoX X) (xA X)) (XCt X KX) 1 6 (xA X)
def VT (X : Xc) (d k : Nat) (K : Int32 → Mm → Prop) (KX : Mm → Prop) (pc : Nat) (lv : Lv) (st : List Value) (u : Mm) : Prop :=
  ∀ (p : Program) (e : Env) (s : State) (m : MethodId) (args : Array Value) (below : List Frame) (meth : Method) (c : Code), Gx X p s m args c (yM k).cls (cM k) (nM k) none → meth.sig.returnType = rM k → meth.locks = false → (∀ x ∈ c.exceptionTable.toList, False) → Vx X p e (rmT (d + 1)) s m args below meth c (nM k) 0 0 (vx_MQ below (va_Qi K (PoX X) (xA X)) (XCt X KX) args s 1 6 (xA X)) pc lv st u
theorem TI_of {X : Xc} {d k : Nat} {as : List Value} {u : Mm} {K : Int32 → Mm → Prop} {KX : Mm → Prop} (hk : okP k) (hl : Nat.ble (ctg as) (nM k) = true) (h : VT X d k K KX 0 (lvE as (nM k)) [] u) : TI X (d + 1) k as u K KX := by
  refine vx_ofW (cc := cM k) (maxL := nM k) (ret := rM k) hk.1.2.2.2.2.2.2 rfl ?_
  intro p e s m args below meth c s₁ B hml hex hv
  obtain ⟨rfl, hP, hK, hst, had, hns⟩ := hv
  have hts := atoms_spec (ws := .code (yM k) (cM k) (nM k) (rM k) :: Om) B.pre
  have hown : s.vm.findClass (yM k).cls = some m.cls := findClass_of_methodNamed B.named
  have hls := lv_entry (as.map (up X)) (n := nM k) (by rw [slen]; exact nle hl)
  rw [lg_entry_eq]
  rw [← lvE_in X as 0 (nM k)] at hls
  exact h p e s m _ below meth c ⟨B.exec, B.bytes, hml, hown, fun w hw => hts w (List.mem_cons_of_mem _ hw), hK, hst, had, hns, trivial⟩ B.returns B.notSynchronized hex s.heap [] _ hP va_S.rf hls
/-- at pc there stands 'throw new NoSuchElementException()' -/
def thrAt (k pc : Nat) : Prop := (yM k).cls = RX12 ∧ decode (cM k) pc = .ok (.new 161, 3) ∧ decode (cM k) (pc + 3) = .ok (.dup, 1) ∧ decode (cM k) (pc + 4) = .ok (.invokespecial 163, 3) ∧ decode (cM k) (pc + 7) = .ok (.athrow, 1)
abbrev atNse : List Cond := vx_at0 RX12 163 nse ["java/lang/RuntimeException", "java/lang/Exception"]
theorem nse_in : ∀ w ∈ atNse.filter goodWord, w ∈ Om := fun w hw => List.mem_append_right _ hw
theorem nse_k : Cond.classLink RX12 161 nse ∈ Om := by decide +kernel
theorem nse_i : Cond.initialized nse ∈ Om := by decide +kernel
theorem nse_good : ∀ w ∈ Cond.classLink RX12 161 nse :: Cond.initialized nse :: atNse, vx_ot w = true := by decide +kernel
theorem nse_not : ∀ w ∈ atNse.filter (fun w => !goodWord w), w ∈ [Cond.declares (Bundle.init0 "java/lang/RuntimeException"), .declares (Bundle.init0 "java/lang/Exception"), .declares (Bundle.init0 Bundle.tN), .castable nse nse] := by decide +kernel
section
variable {X : Xc} {d k oc : Nat} {cd : Nat → Option TE} {KI : Int32 → Mm → Prop} {KX : Mm → Prop} {ih : Nat → Lv → List Value → Mm → Prop} {pc : Nat} {lv : Lv} {st : List Value} {u : Mm}
theorem VT_step (hX : (xL X).stackTraces = false) (hd : 5 ≤ d) (hm : mOk k oc cd) (hih : ∀ pc lv st u, ih pc lv st u → VT X d k KI KX pc lv st u)
    (h : sxS cd none (RIk k KI) (fun _ _ => False) (fun _ => False) (fun pc u => thrAt k pc ∧ KX u) (CI X d) (CV X d) (CJ X d) ih pc lv st u) : VT X d k KI KX pc lv st u := by
  intro p e s m args below meth c G hr hlk hex
  have G0 := G
  rw [hm.2.1] at G
  refine sxS_sound (d := d) G hm.1 (Nat.le_refl _) (Nat.le_refl _) ⟨Nat.zero_le _, Nat.zero_le _⟩ ?_ (fun _ _ _ _ _ h => h.elim) (fun _ _ _ _ h => h.elim) ?_ (fun pc lv st u h => hih pc lv st u h p e s m args below meth c (by rw [hm.2.1]; exact G) hr hlk hex) h
  · intro pc lv x u hd hx H locs ls hP hS hl
    refine vx_ret (fun T hT S => ?_)
    refine (show W p (xL X) e (rmT (d + 1)) s m args below meth c H locs 1 6 (MQ below (va_Qi KI (PoX X) (xA X)) args s 1 6 (xA X)) (F0 m pc ls (List.map (up X) [Value.int x])) from ?_) T hT (stand_widen S (Nat.zero_le _) (Nat.zero_le _))
    unfold RIk at hx
    split at hx
    · rename_i e
      exact W.iret G.1 G.2.1 (hr.trans e) (fun t ht _ => ⟨⟨x, u, rfl, hx, by show va_P _ _ _ _; rw [ht]; exact hP⟩, hS.F ht⟩) (fun q hq => hS.2.2 q hq) hd
    · rename_i e
      exact W.zret (ty := .boolean) G.1 G.2.1 (hr.trans e) (by rcases hx.1 with e | e <;> subst e <;> rfl) (fun t ht _ => ⟨⟨x, u, rfl, hx.2, by show va_P _ _ _ _; rw [ht]; exact hP⟩, hS.F ht⟩) (fun q hq => hS.2.2 q hq) hd
    · exact hx.elim
  · intro pc lv u hx H locs ls hP hS hl
    obtain ⟨⟨t1, t2, t3, t4, t5⟩, hk⟩ := hx
    rw [t1] at G0
    have hn := G0.ns.2.2.2
    refine vx_throw0 (own := RX12) (cls := nse) (names := ["java/lang/RuntimeException", "java/lang/Exception"]) G0.1 G0.2.1 hX G0.ow (by decide +kernel) (by decide +kernel) (G0.ts _ nse_k) (G0.ts _ nse_i) (vx_hat (fun w hw => G0.ts w (nse_in w hw)) nse_not (vx_c (va_Nw.use rfl hn.2.2.1) (vx_c (va_Nw.use rfl hn.2.2.2.1) (vx_c (va_Nw.use rfl hn.2.2.2.2.1) (vx_c (va_Nw.use rfl hn.2.2.2.2.2.1) vx_n))))) nse_good G0.sta.2.2.2.2.2.1 G0.sta.2.2.2.2.2.2.1 hS (hl.1.trans G0.2.2.1.symm) t2 t3 t4 t5 (fun x hx => (hex x hx).elim) (by show 2 + 3 < d + 1; omega) (by show 0 + (13 * (2 + 1) + 42) ≤ 64 * (d + 1); omega) (Nat.le_refl _) (Nat.le_refl _) hlk (fun t hv hz hq => ⟨u, hk, ⟨rfl, ?_⟩, ?_⟩) (fun q hq => hS.2.2 q hq) (Nat.le_refl _) (Nat.le_refl _)
    · exact hP.kept (fun k q hk => hq _ (hP k q hk).lt)
    · exact ⟨Nat.le_trans hS.1 hz, fun q h1 h2 => (hq q (Nat.lt_of_lt_of_le h1 hS.1)).trans (hS.2.1 q h1 h2)⟩
theorem VT_b (hX : (xL X).stackTraces = false) (hd : 5 ≤ d) (hm : mOk k oc cd) (n : Nat) (h : sxS cd none (RIk k KI) (fun _ _ => False) (fun _ => False) (fun pc u => thrAt k pc ∧ KX u) (CI X d) (CV X d) (CJ X d) (sxN cd none (RIk k KI) (fun _ _ => False) (fun _ => False) (fun pc u => thrAt k pc ∧ KX u) (CI X d) (CV X d) (CJ X d) (fun _ => false) (VT X d k KI KX) n) pc lv st u) : VT X d k KI KX pc lv st u := by
  refine VT_step hX hd hm ?_ h
  clear h
  induction n with
  | zero => exact fun _ _ _ _ h => h
  | succ n ih =>
    intro pc lv st u h
    exact VT_step hX hd hm ih h
end
