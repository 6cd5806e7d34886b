/-! objects and rows of references while they are being made; constructors -/
def dvl (t : Nat) : Value := match t with
  | 0 => .int 0
  | 1 => .long 0
  | 2 => .int 0
  | _ => .null
set_option maxRecDepth 100000 in
theorem dvl_ok : ∀ x, x < 14 → ∀ j, j < Nf x → (parseFieldDescriptor (Tf x j).2.2.1).map defaultValue = some (dvl (fty x j)) := by decide +kernel
abbrev rmC (d mc ms : Nat) : Room := { frames := d, cells := mc, slots := ms, locals := 64 * d }
def PreK (X : Xc) (as : List Value) (u : Mm) (k : Nat) (S : Nat → Nat → Bool) : Array Value → State → Prop := va_Pc (as.map (up X)) (fun U => va_P (xD X) vwCl (wldC X u k S) U.heap ∧ va_K (xD X) vwCl (tys X) U ∧ sta X U U.heap ∧ adOk X ∧ nsO X U ∧ xB X ≤ U.heap.size)
def QK (X : Xc) (k : Nat) (u' : Mm) (k' : Nat) (S' : Nat → Nat → Bool) : Array Value → State → Outcome → State → Prop := va_Qv (fun ad => Nx X ad k) (fun (ad : Nat → Nat) (t : State) => va_P (xD X) vwCl (wldC (xw X ad) u' k' S') t.heap) (xA X)
/-- a constructor's contract -/
def CK (X : Xc) (d : Nat) (y : MethodName) (cc : ByteArray) (nL : Nat) (as : List Value) (u : Mm) (k : Nat) (S : Nat → Nat → Bool) (mc ms : Nat) (u' : Mm) (k' : Nat) (S' : Nat → Nat → Bool) : Prop := Met (xL X) y (.code y cc nL none :: Om) (rmC d mc ms) (PreK X as u k S) (QK X k u' k' S') mc ms (xA X)
theorem preK_blind {X : Xc} {as : List Value} {u : Mm} {k : Nat} {S : Nat → Nat → Bool} : FrameBlind (PreK X as u k S) := by
  intro a U g mk h
  obtain ⟨h1, h2, h3, h4, h5, h6, h7⟩ := h
  exact ⟨h1, h2, va_K.moved (u := U) (U := U.calling g mk a) (Vm.Alike.refl U.vm) h3, sta.moved (u := U) (U := U.calling g mk a) (Vm.Alike.refl U.vm) h4, h5, h6.same (U := U.calling g mk a) rfl, h7⟩
theorem CK_of {X : Xc} {d : Nat} {y : MethodName} {cc : ByteArray} {nL n k mc ms k' : Nat} {as : List Value} {u u' : Mm} {S S' : Nat → Nat → Bool} (ok : okR y cc nL none n) (hl : Nat.ble (ctg as) nL = true) (oo : OkS k S) (zz : ZrC k u)
    (h : ∀ (p : Program) (e : Env) (s : State) (m : MethodId) (args : Array Value) (below : List Frame) (meth : Method) (c : Code), Gx X p s m args c y.cls cc nL none → xB X ≤ s.heap.size → meth.sig.returnType = none → meth.locks = false → meth.name = y.name → Vc X k S p e (rmC d mc ms) s m args below meth c nL 0 0 (MQ below (QK X k u' k' S') args s mc ms (xA X)) 0 (lvE as nL) [] u) : CK X d y cc nL as u k S mc ms u' k' S' := by
  refine Met.ofW (cc := cc) (maxL := nL) (ret := none) ok.2.2.2.2.2.2 rfl ?_
  intro p e s m args below meth c s₁ B hml hv
  obtain ⟨rfl, hP, hK, hst, had, hns, hB⟩ := hv
  have hts := atoms_spec (ws := .code y cc nL none :: Om) B.pre
  have hown : s.vm.findClass y.cls = some m.cls := findClass_of_methodNamed B.named
  have hls := lv_entry (as.map (up X)) (n := nL) (by rw [slen]; exact nle hl)
  rw [lg_entry_eq]
  rw [← lvE_in X as 0 nL] at hls
  exact h p e s m _ below meth c ⟨B.exec, B.bytes, hml, hown, fun w hw => hts w (List.mem_cons_of_mem _ hw), hK, hst, had, hns, trivial⟩ hB B.returns B.notSynchronized (name_of_methodNamed B.named B.method).1 oo zz s.heap [] _ hP va_S.rf hls
section CNew
variable {X : Xc} {k : Nat} {S : Nat → Nat → Bool} {p : Program} {e : Env} {R : Room} {s : State} {m : MethodId} {args : Array Value} {below : List Frame} {meth : Method} {c : Code} {own : String} {cc : ByteArray} {nL cells slots : Nat} {Z : State → Prop} {sc : Option (Nat × (Nat → Int32))} {pc : Nat} {lv : List (Option Value)} {r : List Value} {u : Mm}
theorem C_new (G : Gx X p s m args c own cc nL sc) {i x : Nat} (hd : decode cc pc = .ok (.new i, 3)) (hly : ly k = (1, x, Nf x)) (hx : x < 14) (hkn : k < nW) (hw : Cond.classLink own i (Rf x) ∈ Om ∧ Cond.instantiable (Rf x) (Nf x) ∈ Om ∧ Cond.initialized (Rf x) ∈ Om) (hA : xB X ≤ s.heap.size) (hc : cells + 1 ≤ R.cells) (hs : slots + Nf x ≤ R.slots) (hlv : lv.all (fun o => match o with | none => true | some v => okv k v) = true) (hst : r.all (okv k) = true)
    (h : ∀ ad, Nx X ad k → Vc (xw X ad) (k + 1) S p e R s m args below meth c nL (cells + 1) (slots + Nf x) Z (pc + 3) lv (.ref k :: r) u) : Vc X k S p e R s m args below meth c nL cells slots Z pc lv r u := by
  intro oo zz H locs ls hP hS hl
  obtain ⟨q, hq⟩ := vw_at hx
  have hR : Rf x = q.1 := by unfold Rf; rw [hq]
  have hN : Nf x = q.2.2 := by unfold Nf; rw [hq]
  have hT : ∀ y, Tf x y = q.2.1 y := fun y => by unfold Tf; rw [hq]
  obtain ⟨ty0, hty⟩ := vw_ty hq
  rw [hR] at hw
  rw [hN] at hs h hw
  refine va_new (C := q.1) (T := q.2.1) (N := q.2.2) (ci := x) (Ts := Om) (fs := (List.range (Nf x)).map (fun j => dvl (fty x j))) G.1 G.2.1 G.ts (vw_in hq) ty0 hty G.ow (G.ts _ hw.1) (G.ts _ hw.2.1) (G.ts _ hw.2.2) G.K hP (wldC_D G.ad u (Nat.le_of_lt hkn)) hS (fun q hq => Nat.le_trans hA hq) hq (fun j hj => ?_) hc hs hd (fun q' H1 hP1 hD1 hS1 => C_go hkn oo zz (fun ad hx' hq' => ?_) hlv hst h hP1 hD1 hS1 hl)
  · have h1 := dvl_ok x hx j (by rw [hN]; exact hj)
    rw [hT j, hty j hj] at h1
    rw [Option.some.inj h1]
    simp [vp_V, hN, hj]
  · rw [entC_obj _ u hly]
    congr 2
    apply List.map_congr_left
    intro j _
    have hz := zz k (Nat.le_refl _)
    show fldC _ u S k x j = dvl (fty x j)
    unfold fldC dvl
    rw [hz.1, hz.2, oo.2 k j (Nat.le_refl _)]
    rfl
theorem C_ret {k0 k' : Nat} {X0 : Xc} {ad : Nat → Nat} {u' : Mm} {S' : Nat → Nat → Bool} {R : Room} {mc ms : Nat} (G : Gx (xw X0 ad) p s m args c own cc nL sc) (hr : meth.sig.returnType = none) (hlk : meth.locks = false) (hx : Nx X0 ad k0) (hd : decode cc pc = .ok (.return_, 1)) : Vc (xw X0 ad) k' S' p e R s m args below meth c nL mc ms (MQ below (QK X0 k0 u' k' S') args s mc ms (xA X0)) pc lv [] u' := by
  intro oo zz H locs ls hP hS hl
  exact W.vret G.1 G.2.1 hr (fun t ht _ => ⟨⟨ad, rfl, hx, by show va_P _ _ _ _; rw [ht]; exact hP⟩, hS.F ht⟩) (fun q hq => hS.2.2 q hq) hd
theorem C_call (G : Gx X p s m args c own cc nL sc) {y : MethodName} {bytes : ByteArray} {maxL i d n mc ms k' a : Nat} {as : List Value} {u' : Mm} {S' : Nat → Nat → Bool} (ok : okR y bytes maxL none n) (hin : y.name = "<init>" ∧ Cond.instanceMethod y ∈ Om) (hl : Cond.methodLink own i y ∈ Om) (hf : d + 1 ≤ R.frames) (hlo : 64 * (d + 1) ≤ R.locals) (hc : cells + mc ≤ R.cells ∧ slots + ms ≤ R.slots) (hA : xB X ≤ s.heap.size) (hM : CK X d y bytes maxL (.ref a :: as) u k S mc ms u' k' S') (hn : as.length = n) (hr : ctg r ≤ 8) (hd : decode cc pc = .ok (.invokespecial i, 3)) (hlv : lv.all (fun o => match o with | none => true | some v => okv k v) = true) (hst : r.all (okv k) = true) (hoo : OkS k S → OkS k' S') (hzz : ZrC k u → ZrC k' u')
    (h : ∀ ad, Nx X ad k → Vc (xw X ad) k' S' p e R s m args below meth c nL (cells + mc) (slots + ms) Z (pc + 3) lv r u') : Vc X k S p e R s m args below meth c nL cells slots Z pc lv (as.reverse ++ .ref a :: r) u := by
  intro oo zz H locs ls hP hS hl'
  rw [List.map_append, List.map_reverse]
  have ok' := ok
  obtain ⟨h1, h2, h3, h4, h5, h6, -⟩ := ok
  have hp : PreS s H (PreK X (.ref a :: as) u k S) ((Value.ref a :: as).map (up X)) := ⟨preK_blind, fun U hU hW => ⟨rfl, by rw [hU]; exact hP, va_K.moved hW.alike G.K, by rw [hU]; exact (G.sta.kept (fun q h1 h2 => hS.2.1 q h1 h2)).moved hW.alike, G.ad, G.ns.warm hW, by rw [hU]; exact Nat.le_trans hA hS.1⟩⟩
  refine va_callv (va_runI ⟨G.1, G.2.1, G.2.2.1, G.ow, G.ts⟩ hM ⟨callB_of n G.ts (Om_goodInR ok') rfl rfl rfl (G.ts _ h2) (G.ts _ hl) ⟨h3, h4, h5⟩ ⟨hf, by show 8 + (maxL + 11) + 64 * d ≤ R.locals; omega⟩, hin.1, G.ts _ hin.2⟩ hp rfl (by simpa using hn) hl'.1 rfl (lv_room (by rw [ctg_sum]; exact hr)) hd hc) hS (fun _ _ h => h) (fun _ h => h) ?_
  intro ad t H1 locs1 ht _ hx hB _ _ hS1
  have := h ad hx (hoo oo) (hzz zz) H1 locs1 ls (by rw [← ht]; exact hB) hS1 (by rw [lv_up hx lv 0 hlv]; exact hl')
  rw [st_up hx hst] at this
  exact this
end CNew
