/-! nest mates' constructors; rows of references; puts into rows -/
section CMore
variable {X : Xc} {k : Nat} {S : Nat → Nat → Bool} {p : Program} {e : Env} {R : Room} {s : State} {m : MethodId} {args : Array Value} {below : List Frame} {meth : Method} {c : Code} {own : String} {cc : ByteArray} {nL cells slots : Nat} {Z : State → Prop} {sc : Option (Nat × (Nat → Int32))} {pc : Nat} {lv : List (Option Value)} {r : List Value} {u : Mm}
theorem C_callN (G : Gx X p s m args c own cc nL sc) {y : MethodName} {bytes : ByteArray} {maxL i d n mc ms k' a : Nat} {as : List Value} {u' : Mm} {S' : Nat → Nat → Bool} (ok : okR y bytes maxL none n) (hin : y.name = "<init>" ∧ Cond.instanceMethod y ∈ Om) (hl : (own, i, y) ∈ nsI) (hf : d + 1 ≤ R.frames) (hlo : 64 * (d + 1) ≤ R.locals) (hc : cells + mc ≤ R.cells ∧ slots + ms ≤ R.slots) (hA : xB X ≤ s.heap.size) (hM : CK X d y bytes maxL (.ref a :: as) u k S mc ms u' k' S') (hn : as.length = n) (hr : ctg r ≤ 8) (hd : decode cc pc = .ok (.invokespecial i, 3)) (hlv : lv.all (fun o => match o with | none => true | some v => okv k v) = true) (hst : r.all (okv k) = true) (hoo : OkS k S → OkS k' S') (hzz : ZrC k u → ZrC k' u')
    (h : ∀ ad, Nx X ad k → Vc (xw X ad) k' S' p e R s m args below meth c nL (cells + mc) (slots + ms) Z (pc + 3) lv r u') : Vc X k S p e R s m args below meth c nL cells slots Z pc lv (as.reverse ++ .ref a :: r) u := by
  intro oo zz H locs ls hP hS hl'
  rw [List.map_append, List.map_reverse]
  have ok' := ok
  obtain ⟨h1, h2, h3, h4, h5, h6, -⟩ := ok
  have hp : PreS s H (PreK X (.ref a :: as) u k S) ((Value.ref a :: as).map (up X)) := ⟨preK_blind, fun U hU hW => ⟨rfl, by rw [hU]; exact hP, va_K.moved hW.alike G.K, by rw [hU]; exact (G.sta.kept (fun q h1 h2 => hS.2.1 q h1 h2)).moved hW.alike, G.ad, G.ns.warm hW, by rw [hU]; exact Nat.le_trans hA hS.1⟩⟩
  refine va_callv (va_runIN (host := "StatueRent") ⟨G.1, G.2.1, G.2.2.1, G.ow, G.ts⟩ hM ⟨va_cnB n G.ts (Om_goodInR ok') rfl rfl rfl (G.ns.2.2.2.2.2.2.2.2.2.1 _ hl) (G.ts _ h2) ⟨h3, h4, h5⟩ ⟨hf, by show 8 + (maxL + 11) + 64 * d ≤ R.locals; omega⟩, hin.1, G.ts _ hin.2⟩ hp rfl (by simpa using hn) hl'.1 rfl (lv_room (by rw [ctg_sum]; exact hr)) hd hc) hS (fun _ _ h => h) (fun _ h => h) ?_
  intro ad t H1 locs1 ht _ hx hB _ _ hS1
  have := h ad hx (hoo oo) (hzz zz) H1 locs1 ls (by rw [← ht]; exact hB) hS1 (by rw [lv_up hx lv 0 hlv]; exact hl')
  rw [st_up hx hst] at this
  exact this
theorem C_anewW (G : Gx X p s m args c own cc nL sc) {i N : Nat} {v : Int32} (hd : decode cc pc = .ok (.anewarray i, 3)) (hw : Cond.classLink own i RX11 ∈ Om) (hly : ly k = (6, 0, N)) (hkn : k < nW) (hA : xB X ≤ s.heap.size) (hv : v = nI N) (hN : N ≤ 3000) (hc : cells + 1 ≤ R.cells) (hs : slots + N ≤ R.slots) (hlv : lv.all (fun o => match o with | none => true | some v => okv k v) = true) (hst : r.all (okv k) = true)
    (h : ∀ ad, Nx X ad k → Vc (xw X ad) (k + 1) S p e R s m args below meth c nL (cells + 1) (slots + N) Z (pc + 3) lv (.ref k :: r) u) : Vc X k S p e R s m args below meth c nL cells slots Z pc lv (.int v :: r) u := by
  intro oo zz H locs ls hP hS hl
  subst hv
  refine va_newq (C := RX11) (N' := N) G.1 G.2.1 G.ow (G.ts _ hw) G.ns.2.2.2.1 G.K hP (wldC_D G.ad u (Nat.le_of_lt hkn)) hS (fun q hq => Nat.le_trans hA hq) (nI_pos (by omega)) (nI_clamp (by omega)) (by omega) hc hs hd (fun q cA H1 hK1 hP1 hD1 hS1 => ?_)
  have e1 : cA = xid X (4 + 0) := by
    obtain ⟨_, _, _, _, _, h1⟩ := (hK1.2 6 _ rfl).2
    obtain ⟨_, _, _, _, _, h2⟩ := (G.K.2 (4 + 0) _ rfl).2
    exact Option.some.inj (h1.symm.trans h2)
  subst e1
  refine C_go hkn oo zz (fun ad hx hq => ?_) hlv hst h hP1 hD1 hS1 hl
  rw [entC_ref _ u hly]
  show (Sum.inl (xid X (4 + 0), N, .inr (.inr (.inr (.inr (fun i => if S k i = true then some (xad (xw X ad) (rr k i)) else none))))) : va_E) = _
  congr 7
  funext i
  rw [oo.2 k i (Nat.le_refl _)]
  rfl
theorem C_anewL (G : Gx X p s m args c own cc nL sc) {i N : Nat} {v : Int32} (hd : decode cc pc = .ok (.anewarray i, 3)) (hw : Cond.classLink own i RX4 ∈ Om) (hly : ly k = (6, 1, N)) (hkn : k < nW) (hA : xB X ≤ s.heap.size) (hv : v = nI N) (hN : N ≤ 3000) (hc : cells + 1 ≤ R.cells) (hs : slots + N ≤ R.slots) (hlv : lv.all (fun o => match o with | none => true | some v => okv k v) = true) (hst : r.all (okv k) = true)
    (h : ∀ ad, Nx X ad k → Vc (xw X ad) (k + 1) S p e R s m args below meth c nL (cells + 1) (slots + N) Z (pc + 3) lv (.ref k :: r) u) : Vc X k S p e R s m args below meth c nL cells slots Z pc lv (.int v :: r) u := by
  intro oo zz H locs ls hP hS hl
  subst hv
  refine va_newq (C := RX4) (N' := N) G.1 G.2.1 G.ow (G.ts _ hw) G.ns.2.2.2.2.1 G.K hP (wldC_D G.ad u (Nat.le_of_lt hkn)) hS (fun q hq => Nat.le_trans hA hq) (nI_pos (by omega)) (nI_clamp (by omega)) (by omega) hc hs hd (fun q cA H1 hK1 hP1 hD1 hS1 => ?_)
  have e1 : cA = xid X (4 + 1) := by
    obtain ⟨_, _, _, _, _, h1⟩ := (hK1.2 6 _ rfl).2
    obtain ⟨_, _, _, _, _, h2⟩ := (G.K.2 (4 + 1) _ rfl).2
    exact Option.some.inj (h1.symm.trans h2)
  subst e1
  refine C_go hkn oo zz (fun ad hx hq => ?_) hlv hst h hP1 hD1 hS1 hl
  rw [entC_ref _ u hly]
  show (Sum.inl (xid X (4 + 1), N, .inr (.inr (.inr (.inr (fun i => if S k i = true then some (xad (xw X ad) (rr k i)) else none))))) : va_E) = _
  congr 7
  funext i
  rw [oo.2 k i (Nat.le_refl _)]
  rfl
theorem C_iast (G : Gx X p s m args c own cc nL sc) {a x n : Nat} {i v : Int32} (hd : decode cc pc = .ok (.iastore, 1)) (ha : a < k) (hkn : k ≤ nW) (hly : ly a = (2, x, n)) (hin : vp_in i n)
    (h : Vc X k S p e R s m args below meth c nL cells slots Z (pc + 1) lv r (mI u a i.toNatClampNeg v)) : Vc X k S p e R s m args below meth c nL cells slots Z pc lv (.int v :: .int i :: .ref a :: r) u := by
  intro oo zz H locs ls hP hS hl
  refine va_iast G.1 G.2.1 G.K hP (wldC_D G.ad u hkn) hS a 0 (by rw [wldC_at X u ha, entC_int X u hly]) rfl hin hd (fun H1 locs1 hP1 hD1 hS1 => ?_)
  rw [← mI_self, ← entC_int X (mI u a i.toNatClampNeg v) (S := S) hly, wldC_set X ha (fun b hb => mI_other u _ _ hb) (fun _ _ => rfl) (fun _ _ => rfl)] at hP1
  exact h oo (zz.mI ha) H1 locs1 ls hP1 hS1 hl
theorem C_iald (G : Gx X p s m args c own cc nL sc) {a x n : Nat} {i : Int32} (hd : decode cc pc = .ok (.iaload, 1)) (ha : a < k) (hly : ly a = (2, x, n)) (hin : vp_in i n)
    (h : Vc X k S p e R s m args below meth c nL cells slots Z (pc + 1) lv (.int (u.1 a i.toNatClampNeg) :: r) u) : Vc X k S p e R s m args below meth c nL cells slots Z pc lv (.int i :: .ref a :: r) u := by
  intro oo zz H locs ls hP hS hl
  exact va_iald G.1 G.2.1 G.K hP a 0 (by rw [wldC_at X u ha, entC_int X u hly]) rfl hin hd (h oo zz H locs ls hP hS hl)
theorem C_last (G : Gx X p s m args c own cc nL sc) {a x n : Nat} {i : Int32} {v : Int64} (hd : decode cc pc = .ok (.lastore, 1)) (ha : a < k) (hkn : k ≤ nW) (hly : ly a = (3, x, n)) (hin : vp_in i n)
    (h : Vc X k S p e R s m args below meth c nL cells slots Z (pc + 1) lv r (mJ u a i.toNatClampNeg v)) : Vc X k S p e R s m args below meth c nL cells slots Z pc lv (.long v :: .int i :: .ref a :: r) u := by
  intro oo zz H locs ls hP hS hl
  refine va_last G.1 G.2.1 G.K hP (wldC_D G.ad u hkn) hS a 1 (by rw [wldC_at X u ha, entC_long X u hly]) rfl hin hd (fun H1 locs1 hP1 hD1 hS1 => ?_)
  rw [← mJ_self, ← entC_long X (mJ u a i.toNatClampNeg v) (S := S) hly, wldC_set X (u := u) (v := mJ u a i.toNatClampNeg v) ha (fun _ _ => rfl) (fun b hb => mJ_other u _ _ hb) (fun _ _ => rfl)] at hP1
  exact h oo (zz.mJ ha) H1 locs1 ls hP1 hS1 hl
end CMore
/-- a reference is put into a row -/
theorem C_aast {X : Xc} {k : Nat} {S : Nat → Nat → Bool} {p : Program} {e : Env} {R : Room} {s : State} {m : MethodId} {args : Array Value} {below : List Frame} {meth : Method} {c : Code} {own : String} {cc : ByteArray} {nL cells slots : Nat} {Z : State → Prop} {sc : Option (Nat × (Nat → Int32))} {pc : Nat} {lv : List (Option Value)} {r : List Value} {u : Mm} (G : Gx X p s m args c own cc nL sc) {a b t n x : Nat} {i : Int32} (hd : decode cc pc = .ok (.aastore, 1)) (ha : a < k) (hb : b < k) (hkn : k ≤ nW) (hly : ly a = (6, t, n)) (ho : isObj b x = true) (ht : (t = 0 ∧ x = 11) ∨ (t = 1 ∧ x = 4)) (hin : vp_in i n) (hrr : rr a i.toNatClampNeg = b)
    (h : Vc X k (sU S a i.toNatClampNeg) p e R s m args below meth c nL cells slots Z (pc + 1) lv r u) : Vc X k S p e R s m args below meth c nL cells slots Z pc lv (.ref b :: .int i :: .ref a :: r) u := by
  intro oo zz H locs ls hP hS hl
  obtain ⟨-, hx, hlb⟩ := isObj_spec ho
  have hvb : (wldC X u k S)[b]? = some (xad X b, .inr (x, (List.range (Nf x)).map (fldC X u S b x))) := by rw [wldC_at X u hb, entC_obj X u hlb]
  have hva : (wldC X u k S)[a]? = some (xad X a, .inl (xid X (4 + t), n, .inr (.inr (.inr (.inr (fun i => if S a i then some (xad X (rr a i)) else none)))))) := by rw [wldC_at X u ha, entC_ref X u hly]
  have go : ∀ (H1 : Heap) (locs1 : List Loc), va_P (xD X) vwCl ((wldC X u k S).set a (xad X a, .inl (xid X (4 + t), n, .inr (.inr (.inr (.inr (va_up (fun i => if S a i then some (xad X (rr a i)) else none) i.toNatClampNeg (some (xad X b)))))))) ) H1 → va_S (xA X) s.heap H1 locs1 → W p (xL X) e R s m args below meth c H1 locs1 cells slots Z (F0 m (pc + 1) ls (r.map (up X))) := by
    intro H1 locs1 hP1 hS1
    have e1 : va_up (fun i => if S a i then some (xad X (rr a i)) else none) i.toNatClampNeg (some (xad X b)) = (fun j => if sU S a i.toNatClampNeg a j then some (xad X (rr a j)) else none) := by
      funext j
      by_cases ej : j = i.toNatClampNeg
      · subst ej
        rw [va_up_self, show sU S a i.toNatClampNeg a i.toNatClampNeg = true by unfold sU; rw [if_pos rfl, if_pos rfl], if_pos rfl, hrr]
      · rw [va_up_ne _ _ ej, show sU S a i.toNatClampNeg a j = S a j by unfold sU; rw [if_pos rfl, if_neg ej]]
    rw [e1, ← entC_ref X u (S := sU S a i.toNatClampNeg) hly, wldC_set X ha (fun _ _ => rfl) (fun _ _ => rfl) (fun b' hb' => sU_r hb')] at hP1
    exact h (oo.put ha (by rw [hrr]; exact hb)) zz H1 locs1 ls hP1 hS1 hl
  rcases ht with ⟨rfl, rfl⟩ | ⟨rfl, rfl⟩
  · obtain ⟨q, hq⟩ := vw_at hx
    exact va_astq (r := q) G.1 G.2.1 G.K hP (wldC_D G.ad u hkn) hS a 4 b 11 hva (by cases hq; rfl) hvb hq hin hd (fun H1 locs1 hP1 _ hS1 => go H1 locs1 hP1 hS1)
  · obtain ⟨q, hq⟩ := vw_at hx
    exact va_astq (r := q) G.1 G.2.1 G.K hP (wldC_D G.ad u hkn) hS a 5 b 4 hva (by cases hq; rfl) hvb hq hin hd (fun H1 locs1 hP1 _ hS1 => go H1 locs1 hP1 hS1)
theorem C_aastj {X : Xc} {k : Nat} {S : Nat → Nat → Bool} {p : Program} {e : Env} {R : Room} {s : State} {m : MethodId} {args : Array Value} {below : List Frame} {meth : Method} {c : Code} {own : String} {cc : ByteArray} {nL cells slots : Nat} {Z : State → Prop} {sc : Option (Nat × (Nat → Int32))} {pc : Nat} {lv : List (Option Value)} {r : List Value} {u : Mm} (G : Gx X p s m args c own cc nL sc) {a b t n x j : Nat} {i : Int32} (hj : i.toNatClampNeg = j) (hd : decode cc pc = .ok (.aastore, 1)) (ha : a < k) (hb : b < k) (hkn : k ≤ nW) (hly : ly a = (6, t, n)) (ho : isObj b x = true) (ht : (t = 0 ∧ x = 11) ∨ (t = 1 ∧ x = 4)) (hin : vp_in i n) (hrr : rr a j = b)
    (h : Vc X k (sU S a j) p e R s m args below meth c nL cells slots Z (pc + 1) lv r u) : Vc X k S p e R s m args below meth c nL cells slots Z pc lv (.ref b :: .int i :: .ref a :: r) u := by
  subst hj
  exact C_aast G hd ha hb hkn hly ho ht hin hrr h
