abbrev Lv : Type := List (Option Value)
/-- many instructions: up to the places of cut, where V takes over -/
def sxN (cd : Nat → Option TE) (sc : Option (Nat × (Nat → Int32))) (RI : Int32 → Mm → Prop) (RJ : Int64 → Mm → Prop) (RV : Mm → Prop) (TH : Nat → Mm → Prop) (cI : Nat → List Value → Mm → (Int32 → Mm → Prop) → Prop) (cV : Nat → List Value → Mm → (Mm → Prop) → Prop) (cJ : Nat → List Value → Mm → (Int64 → Mm → Prop) → Prop)
    (cut : Nat → Bool) (V : Nat → Lv → List Value → Mm → Prop) (n : Nat) : Nat → Lv → List Value → Mm → Prop :=
  Nat.rec (motive := fun _ => Nat → Lv → List Value → Mm → Prop) V (fun _ ih => fun pc lv st u => bif cut pc then V pc lv st u else sxS cd sc RI RJ RV TH cI cV cJ ih pc lv st u) n
/-- a method's table is so -/
def mOk (k oc : Nat) (cd : Nat → Option TE) : Prop := (∀ pc t, cd pc = some t → okI oc (cM k) (nM k) pc t = true) ∧ (yM k).cls = Rc oc ∧ okP k
def RIk (k : Nat) (K : Int32 → Mm → Prop) (x : Int32) (u : Mm) : Prop := match rM k with
  | some .int => K x u
  | some .boolean => bz x ∧ K x u
  | _ => False
def RJk (k : Nat) (K : Int64 → Mm → Prop) (x : Int64) (u : Mm) : Prop := match rM k with
  | some .long => K x u
  | _ => False
def RVk (k : Nat) (K : Mm → Prop) (u : Mm) : Prop := match rM k with
  | none => K u
  | _ => False
/-- the body of method k, of room d + 1, from pc on, whatever machine stands around it -/
def VQ (X : Xc) (d k : Nat) (Qc : Array Value → State → Outcome → State → Prop) (pc : Nat) (lv : Lv) (st : List Value) (u : Mm) : Prop :=
  ∀ (p : Program) (e : Env) (s : State) (m : MethodId) (args : Array Value) (below : List Frame) (meth : Method) (c : Code), Gx X p s m args c (yM k).cls (cM k) (nM k) none → meth.sig.returnType = rM k → meth.locks = false → Vx X p e (rmD (d + 1)) s m args below meth c (nM k) 0 0 (MQ below Qc args s 0 0 (xA X)) pc lv st u
def VI (X : Xc) (d k : Nat) (K : Int32 → Mm → Prop) : Nat → Lv → List Value → Mm → Prop := VQ X d k (va_Qi K (PoX X) (xA X))
def VJ (X : Xc) (d k : Nat) (K : Int64 → Mm → Prop) : Nat → Lv → List Value → Mm → Prop := VQ X d k (va_Ql K (PoX X) (xA X))
def VV (X : Xc) (d k : Nat) (K : Mm → Prop) : Nat → Lv → List Value → Mm → Prop := VQ X d k (va_Qv K (PoX X) (xA X))
theorem met_of {X : Xc} {d k : Nat} {as : List Value} {u : Mm} {Qc : Array Value → State → Outcome → State → Prop} (hk : okP k) (hl : (lg_sl (as.map (up X))).length ≤ nM k) (h : VQ X d k Qc 0 (lvE as (nM k)) [] u) : Met (xL X) (yM k) (.code (yM k) (cM k) (nM k) (rM k) :: Om) (rmD (d + 1)) (PreX X as u) Qc 0 0 (xA X) := by
  refine Met.ofW (cc := cM k) (maxL := nM k) (ret := rM k) hk.1.2.2.2.2.2.2 rfl ?_
  intro p e s m args below meth c s₁ B hml hv
  obtain ⟨rfl, hP, hK, hst, had, hns⟩ := hv
  have hts := atoms_spec (ws := .code (yM k) (cM k) (nM k) (rM k) :: Om) B.pre
  have hown : s.vm.findClass (yM k).cls = some m.cls := findClass_of_methodNamed B.named
  have hls := lv_entry (as.map (up X)) (n := nM k) hl
  rw [lg_entry_eq]
  rw [← lvE_in X as 0 (nM k)] at hls
  exact h p e s m _ below meth c ⟨B.exec, B.bytes, hml, hown, fun w hw => hts w (List.mem_cons_of_mem _ hw), hK, hst, had, hns, trivial⟩ B.returns B.notSynchronized s.heap [] _ hP va_S.rf hls
theorem slen (X : Xc) : ∀ as : List Value, (lg_sl (as.map (up X))).length = ctg as
  | [] => rfl
  | v :: r => by
    show (((v :: r).map (up X)).flatMap fun v => if v.category = 2 then [Slot.val v, .second] else [.val v]).length = v.category + ctg r
    rw [List.map_cons, List.flatMap_cons, List.length_append]
    have := slen X r
    unfold lg_sl at this
    rw [this, up_cat]
    rcases lv_cat v with h | h <;> rw [h] <;> simp
theorem CI_of {X : Xc} {d k : Nat} {as : List Value} {u : Mm} {K : Int32 → Mm → Prop} (hk : okP k) (hl : Nat.ble (ctg as) (nM k) = true) (h : VI X d k K 0 (lvE as (nM k)) [] u) : CI X (d + 1) k as u K := met_of hk (by rw [slen]; exact nle hl) h
theorem CJ_of {X : Xc} {d k : Nat} {as : List Value} {u : Mm} {K : Int64 → Mm → Prop} (hk : okP k) (hl : Nat.ble (ctg as) (nM k) = true) (h : VJ X d k K 0 (lvE as (nM k)) [] u) : CJ X (d + 1) k as u K := met_of hk (by rw [slen]; exact nle hl) h
theorem CV_of {X : Xc} {d k : Nat} {as : List Value} {u : Mm} {K : Mm → Prop} (hk : okP k) (hl : Nat.ble (ctg as) (nM k) = true) (h : VV X d k K 0 (lvE as (nM k)) [] u) : CV X (d + 1) k as u K := met_of hk (by rw [slen]; exact nle hl) h
section Steps
variable {X : Xc} {d k oc : Nat} {cd : Nat → Option TE} {KI : Int32 → Mm → Prop} {KJ : Int64 → Mm → Prop} {KV : Mm → Prop} {ih : Nat → Lv → List Value → Mm → Prop} {pc : Nat} {lv : Lv} {st : List Value} {u : Mm} {Qc : Array Value → State → Outcome → State → Prop}
theorem VQ_step {RI : Int32 → Mm → Prop} {RJ : Int64 → Mm → Prop} {RV : Mm → Prop} (hm : mOk k oc cd)
    (hRI : ∀ x u, RI x u → (rM k = some .int ∨ rM k = some .boolean ∧ bz x) ∧ ∀ (a : Array Value) (s t : State), va_P (xD X) vwCl (wld X u) t.heap → va_F (xA X) s t → Qc a s (.returned (some (.int x))) t)
    (hRJ : ∀ x u, RJ x u → rM k = some .long ∧ ∀ (a : Array Value) (s t : State), va_P (xD X) vwCl (wld X u) t.heap → va_F (xA X) s t → Qc a s (.returned (some (.long x))) t)
    (hRV : ∀ u, RV u → rM k = none ∧ ∀ (a : Array Value) (s t : State), va_P (xD X) vwCl (wld X u) t.heap → va_F (xA X) s t → Qc a s (.returned none) t)
    (hih : ∀ pc lv st u, ih pc lv st u → VQ X d k Qc pc lv st u)
    (h : sxS cd none RI RJ RV (fun _ _ => False) (CI X d) (CV X d) (CJ X d) ih pc lv st u) : VQ X d k Qc pc lv st u := by
  intro p e s m args below meth c G hr hlk
  rw [hm.2.1] at G
  refine sxS_sound (d := d) G hm.1 (Nat.le_refl _) (Nat.le_refl _) ⟨Nat.le_refl _, Nat.le_refl _⟩ ?_ ?_ ?_ (fun _ _ _ h => h.elim) (fun pc lv st u h => hih pc lv st u h p e s m args below meth c (by rw [hm.2.1]; exact G) hr hlk) h
  · intro pc lv x u hd hx H locs ls hP hS hl
    obtain ⟨h1, h2⟩ := hRI x u hx
    rcases h1 with h1 | ⟨h1, h3⟩
    · exact W.iret G.1 G.2.1 (hr.trans h1) (fun t ht _ => h2 args s t (by rw [ht]; exact hP) (hS.F ht)) (fun q hq => hS.2.2 q hq) hd
    · exact W.zret (ty := .boolean) G.1 G.2.1 (hr.trans h1) (by rcases h3 with e | e <;> subst e <;> rfl) (fun t ht _ => h2 args s t (by rw [ht]; exact hP) (hS.F ht)) (fun q hq => hS.2.2 q hq) hd
  · intro pc lv x u hd hx H locs ls hP hS hl
    obtain ⟨h1, h2⟩ := hRJ x u hx
    exact W.lret G.1 G.2.1 (hr.trans h1) (fun t ht _ => h2 args s t (by rw [ht]; exact hP) (hS.F ht)) (fun q hq => hS.2.2 q hq) hd
  · intro pc lv u hd hx H locs ls hP hS hl
    obtain ⟨h1, h2⟩ := hRV u hx
    exact W.vret G.1 G.2.1 (hr.trans h1) (fun t ht _ => h2 args s t (by rw [ht]; exact hP) (hS.F ht)) (fun q hq => hS.2.2 q hq) hd
theorem VI_step (hm : mOk k oc cd) (hih : ∀ pc lv st u, ih pc lv st u → VI X d k KI pc lv st u)
    (h : sxS cd none (RIk k KI) (fun _ _ => False) (fun _ => False) (fun _ _ => False) (CI X d) (CV X d) (CJ X d) ih pc lv st u) : VI X d k KI pc lv st u := by
  refine VQ_step hm ?_ (fun _ _ h => h.elim) (fun _ h => h.elim) hih h
  intro x u hx
  unfold RIk at hx
  split at hx
  · rename_i e
    exact ⟨Or.inl e, fun a s t h1 h2 => ⟨⟨x, u, rfl, hx, h1⟩, h2⟩⟩
  · rename_i e
    exact ⟨Or.inr ⟨e, hx.1⟩, fun a s t h1 h2 => ⟨⟨x, u, rfl, hx.2, h1⟩, h2⟩⟩
  · exact hx.elim
theorem VJ_step (hm : mOk k oc cd) (hih : ∀ pc lv st u, ih pc lv st u → VJ X d k KJ pc lv st u)
    (h : sxS cd none (fun _ _ => False) (RJk k KJ) (fun _ => False) (fun _ _ => False) (CI X d) (CV X d) (CJ X d) ih pc lv st u) : VJ X d k KJ pc lv st u := by
  refine VQ_step hm (fun _ _ h => h.elim) ?_ (fun _ h => h.elim) hih h
  intro x u hx
  unfold RJk at hx
  split at hx
  · rename_i e
    exact ⟨e, fun a s t h1 h2 => ⟨⟨x, u, rfl, hx, h1⟩, h2⟩⟩
  · exact hx.elim
theorem VV_step (hm : mOk k oc cd) (hih : ∀ pc lv st u, ih pc lv st u → VV X d k KV pc lv st u)
    (h : sxS cd none (fun _ _ => False) (fun _ _ => False) (RVk k KV) (fun _ _ => False) (CI X d) (CV X d) (CJ X d) ih pc lv st u) : VV X d k KV pc lv st u := by
  refine VQ_step hm (fun _ _ h => h.elim) (fun _ _ h => h.elim) ?_ hih h
  intro u hx
  unfold RVk at hx
  split at hx
  · rename_i e
    exact ⟨e, fun a s t h1 h2 => ⟨⟨u, rfl, hx, h1⟩, h2⟩⟩
  · exact hx.elim
/-- a block: one instruction and then at most n, up to the places of cut -/
abbrev bI (X : Xc) (d k : Nat) (cd : Nat → Option TE) (KI : Int32 → Mm → Prop) (cut : Nat → Bool) (n : Nat) : Nat → Lv → List Value → Mm → Prop := sxS cd none (RIk k KI) (fun _ _ => False) (fun _ => False) (fun _ _ => False) (CI X d) (CV X d) (CJ X d) (sxN cd none (RIk k KI) (fun _ _ => False) (fun _ => False) (fun _ _ => False) (CI X d) (CV X d) (CJ X d) cut (VI X d k KI) n)
abbrev bJ (X : Xc) (d k : Nat) (cd : Nat → Option TE) (KJ : Int64 → Mm → Prop) (cut : Nat → Bool) (n : Nat) : Nat → Lv → List Value → Mm → Prop := sxS cd none (fun _ _ => False) (RJk k KJ) (fun _ => False) (fun _ _ => False) (CI X d) (CV X d) (CJ X d) (sxN cd none (fun _ _ => False) (RJk k KJ) (fun _ => False) (fun _ _ => False) (CI X d) (CV X d) (CJ X d) cut (VJ X d k KJ) n)
abbrev bV (X : Xc) (d k : Nat) (cd : Nat → Option TE) (KV : Mm → Prop) (cut : Nat → Bool) (n : Nat) : Nat → Lv → List Value → Mm → Prop := sxS cd none (fun _ _ => False) (fun _ _ => False) (RVk k KV) (fun _ _ => False) (CI X d) (CV X d) (CJ X d) (sxN cd none (fun _ _ => False) (fun _ _ => False) (RVk k KV) (fun _ _ => False) (CI X d) (CV X d) (CJ X d) cut (VV X d k KV) n)
theorem VI_b (hm : mOk k oc cd) (cut : Nat → Bool) (n : Nat) (h : bI X d k cd KI cut n pc lv st u) : VI X d k KI pc lv st u := by
  refine VI_step hm ?_ h
  clear h
  induction n with
  | zero => exact fun _ _ _ _ h => h
  | succ n ih =>
    intro pc lv st u h
    change (bif cut pc then _ else _) at h
    cases hc : cut pc with
    | true => rw [hc, cond_true] at h; exact h
    | false => rw [hc, cond_false] at h; exact VI_step hm ih h
theorem VJ_b (hm : mOk k oc cd) (cut : Nat → Bool) (n : Nat) (h : bJ X d k cd KJ cut n pc lv st u) : VJ X d k KJ pc lv st u := by
  refine VJ_step hm ?_ h
  clear h
  induction n with
  | zero => exact fun _ _ _ _ h => h
  | succ n ih =>
    intro pc lv st u h
    change (bif cut pc then _ else _) at h
    cases hc : cut pc with
    | true => rw [hc, cond_true] at h; exact h
    | false => rw [hc, cond_false] at h; exact VJ_step hm ih h
theorem VV_b (hm : mOk k oc cd) (cut : Nat → Bool) (n : Nat) (h : bV X d k cd KV cut n pc lv st u) : VV X d k KV pc lv st u := by
  refine VV_step hm ?_ h
  clear h
  induction n with
  | zero => exact fun _ _ _ _ h => h
  | succ n ih =>
    intro pc lv st u h
    change (bif cut pc then _ else _) at h
    cases hc : cut pc with
    | true => rw [hc, cond_true] at h; exact h
    | false => rw [hc, cond_false] at h; exact VV_step hm ih h
end Steps
