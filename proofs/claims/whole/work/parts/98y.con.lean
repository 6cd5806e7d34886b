/-! ===== THE MACHINE WHILE THE CELLS ARE BEING MADE: k cells are made, S says which references are set ===== -/
def fldC (X : Xc) (u : Mm) (S : Nat → Nat → Bool) (a c j : Nat) : Value := match fty c j with
  | 0 => .int (u.1 a j)
  | 1 => .long (u.2 a j)
  | 2 => .int (u.1 a j)
  | _ => if S a j then .ref (xad X (rr a j)) else .null
def entC (X : Xc) (u : Mm) (S : Nat → Nat → Bool) (a : Nat) : va_E := match ly a with
  | (1, c, n) => .inr (c, (List.range n).map (fldC X u S a c))
  | (2, _, n) => .inl (xid X 0, n, .inl (u.1 a))
  | (3, _, n) => .inl (xid X 1, n, .inr (.inl (u.2 a)))
  | (4, _, n) => .inl (xid X 2, n, .inl (u.1 a))
  | (6, t, n) => .inl (xid X (4 + t), n, .inr (.inr (.inr (.inr (fun i => if S a i then some (xad X (rr a i)) else none)))))
  | _ => .inl (xid X 0, 0, .inl (fun _ => 0))
theorem entC_congr (X : Xc) {u v : Mm} {S T : Nat → Nat → Bool} {a : Nat} (h1 : v.1 a = u.1 a) (h2 : v.2 a = u.2 a) (h3 : T a = S a) : entC X v T a = entC X u S a := by
  have hf : ∀ c j, fldC X v T a c j = fldC X u S a c j := fun c j => by unfold fldC; rw [h1, h2, h3]
  unfold entC
  split
  · rename_i c n _
    rw [show fldC X v T a c = fldC X u S a c from funext (hf c)]
  · rw [h1]
  · rw [h2]
  · rw [h1]
  · rw [h3]
  · rfl
def wldC (X : Xc) (u : Mm) (k : Nat) (S : Nat → Nat → Bool) : va_W := (List.range k).map (fun a => (xad X a, entC X u S a))
theorem wldC_at (X : Xc) (u : Mm) {S : Nat → Nat → Bool} {a k : Nat} (h : a < k) : (wldC X u k S)[a]? = some (xad X a, entC X u S a) := by
  unfold wldC
  rw [List.getElem?_map, List.getElem?_range h]
  rfl
theorem wldC_le (X : Xc) (u : Mm) {S : Nat → Nat → Bool} {a k : Nat} {q : Nat × va_E} (h : (wldC X u k S)[a]? = some q) : a < k ∧ q = (xad X a, entC X u S a) := by
  have hl : a < k := by
    have := (List.getElem?_eq_some_iff.mp h).1
    simpa [wldC] using this
  refine ⟨hl, ?_⟩
  rw [wldC_at X u hl] at h
  exact (Option.some.inj h).symm
theorem wldC_set (X : Xc) {u v : Mm} {S T : Nat → Nat → Bool} {a k : Nat} (ha : a < k) (h1 : ∀ b, b ≠ a → v.1 b = u.1 b) (h2 : ∀ b, b ≠ a → v.2 b = u.2 b) (h3 : ∀ b, b ≠ a → T b = S b) : (wldC X u k S).set a (xad X a, entC X v T a) = wldC X v k T := by
  apply List.ext_getElem?
  intro j
  by_cases hk : j < k
  · rw [wldC_at X v hk]
    by_cases e : j = a
    · subst e
      rw [List.getElem?_set_self (by simpa [wldC] using hk)]
    · rw [List.getElem?_set_ne (Ne.symm e), wldC_at X u hk, entC_congr X (h1 j e) (h2 j e) (h3 j e)]
  · rw [List.getElem?_eq_none (by simp [wldC]; omega), List.getElem?_eq_none (by simp [wldC]; omega)]
theorem wldC_ext (X : Xc) {u v : Mm} {S T : Nat → Nat → Bool} {k : Nat} (h : ∀ a, a < k → entC X v T a = entC X u S a) : wldC X v k T = wldC X u k S := by
  apply List.map_congr_left
  intro a ha
  rw [h a (List.mem_range.mp ha)]
theorem wldC_new (X : Xc) (u : Mm) (k : Nat) (S : Nat → Nat → Bool) : wldC X u (k + 1) S = wldC X u k S ++ [(xad X k, entC X u S k)] := by
  unfold wldC
  rw [List.range_succ, List.map_append]
  rfl
theorem wldC_D {X : Xc} (h : adOk X) (u : Mm) {S : Nat → Nat → Bool} {k : Nat} (hk : k ≤ nW) : va_D (xA X) (wldC X u k S) := by
  refine ⟨fun i j p q hi hj he => ?_, fun j q hj => ?_⟩
  · obtain ⟨h1, rfl⟩ := wldC_le X u hi
    obtain ⟨h2, rfl⟩ := wldC_le X u hj
    exact h.1 i j (by omega) (by omega) he
  · obtain ⟨h1, rfl⟩ := wldC_le X u hj
    exact h.2 j (by omega)
def sU (S : Nat → Nat → Bool) (a j : Nat) : Nat → Nat → Bool := fun b k => if b = a then (if k = j then true else S b k) else S b k
theorem sU_r {S : Nat → Nat → Bool} {a j b : Nat} (h : b ≠ a) : sU S a j b = S b := by
  funext k
  exact if_neg h
/-- references that are set lead to cells that are made; what is not made is empty -/
def OkS (k : Nat) (S : Nat → Nat → Bool) : Prop := (∀ a j, S a j = true → rr a j < k) ∧ ∀ a j, k ≤ a → S a j = false
def ZrC (k : Nat) (u : Mm) : Prop := ∀ b, k ≤ b → u.1 b = (fun _ => 0) ∧ u.2 b = (fun _ => 0)
theorem OkS.put {k a j : Nat} {S : Nat → Nat → Bool} (h : OkS k S) (ha : a < k) (hr : rr a j < k) : OkS k (sU S a j) := by
  refine ⟨fun b i hb => ?_, fun b i hb => ?_⟩
  · unfold sU at hb
    split at hb
    · rename_i e
      split at hb
      · rename_i e2
        rw [e, e2]; exact hr
      · exact h.1 b i hb
    · exact h.1 b i hb
  · rw [sU_r (by omega)]
    exact h.2 b i hb
theorem OkS.up {k : Nat} {S : Nat → Nat → Bool} (h : OkS k S) : OkS (k + 1) S := ⟨fun a j hs => Nat.lt_succ_of_lt (h.1 a j hs), fun a j ha => h.2 a j (by omega)⟩
theorem ZrC.up {k : Nat} {u : Mm} (h : ZrC k u) : ZrC (k + 1) u := fun b hb => h b (by omega)
theorem ZrC.mI {k a j : Nat} {x : Int32} {u : Mm} (h : ZrC k u) (ha : a < k) : ZrC k (mI u a j x) := fun b hb => ⟨by rw [mI_other u _ _ (show b ≠ a by omega)]; exact (h b hb).1, (h b hb).2⟩
theorem ZrC.mJ {k a j : Nat} {x : Int64} {u : Mm} (h : ZrC k u) (ha : a < k) : ZrC k (mJ u a j x) := fun b hb => ⟨(h b hb).1, by rw [mJ_other u _ _ (show b ≠ a by omega)]; exact (h b hb).2⟩
/-- X with other addresses -/
abbrev xw (X : Xc) (ad : Nat → Nat) : Xc := (X.1, X.2.1, ad, X.2.2.2.1, X.2.2.2.2)
def Nx (X : Xc) (ad : Nat → Nat) (k : Nat) : Prop := (∀ a, a < k ∨ nW ≤ a → ad a = xad X a) ∧ adOk (xw X ad)
theorem Nx.tr {X : Xc} {ad ad' : Nat → Nat} {k k' : Nat} (h : Nx X ad k) (h' : Nx (xw X ad) ad' k') (hk : k ≤ k') : Nx X ad' k := ⟨fun a ha => (h'.1 a (by omega)).trans (h.1 a ha), h'.2⟩
theorem Gx.nx {X : Xc} {p : Program} {s : State} {m : MethodId} {args : Array Value} {c : Code} {own : String} {cc : ByteArray} {nL k : Nat} {sc : Option (Nat × (Nat → Int32))} {ad : Nat → Nat} (G : Gx X p s m args c own cc nL sc) (h : Nx X ad k) : Gx (xw X ad) p s m args c own cc nL sc := by
  have e : ∀ a, nW ≤ a → ad a = xad X a := fun a ha => h.1 a (Or.inr ha)
  have eK : (fun i => ad (1002 + i)) = (fun i => xad X (1002 + i)) := funext fun i => e _ (by show 262 ≤ _; omega)
  have eV : (fun i => ad (1010 + i)) = (fun i => xad X (1010 + i)) := funext fun i => e _ (by show 262 ≤ _; omega)
  obtain ⟨g1, g2, g3, g4, g5, g6, g7, g8, g9, g10⟩ := G
  refine ⟨g1, g2, g3, g4, g5, g6, ?_, h.2, ?_, ?_⟩
  · show va_Z RX12 "MOST" "[I" (.ref (ad 1000)) (xA X) s s.heap ∧ va_T .int (ad 1000) 4 (fun j => .int (exI 1000 j)) (xA X) s s.heap ∧ ¬ xA X (ad 1000) ∧ vk_S 4 lenJS bytJS (fun i => ad (1002 + i)) (fun i => ad (1010 + i)) (xA X) s s.heap ∧ _
    rw [e 1000 (by decide), eK, eV]
    exact g7
  · refine ⟨g9.1, g9.2.1, ?_, g9.2.2.2⟩
    show vk_R _ _ _ (ad 1002) s ∧ vk_R _ _ _ (ad 1003) s ∧ vk_R _ _ _ (ad 1004) s ∧ vk_R _ _ _ (ad 1005) s
    rw [e 1002 (by decide), e 1003 (by decide), e 1004 (by decide), e 1005 (by decide)]
    exact g9.2.2.1
  · cases sc with
    | none => trivial
    | some q =>
      show va_X (ad 1001) q.1 q.2 s s.heap ∧ ad 1001 < s.heap.size ∧ ¬ xA X (ad 1001)
      rw [e 1001 (by decide)]
      exact g10
def Vc (X : Xc) (k : Nat) (S : Nat → Nat → Bool) (p : Program) (e : Env) (R : Room) (s : State) (m : MethodId) (args : Array Value) (below : List Frame) (meth : Method) (c : Code) (nL cells slots : Nat) (Z : State → Prop) (pc : Nat) (lv : List (Option Value)) (st : List Value) (u : Mm) : Prop :=
  OkS k S → ZrC k u → ∀ (H : Heap) (locs : List Loc) (ls : Array Slot), va_P (xD X) vwCl (wldC X u k S) H → va_S (xA X) s.heap H locs → lv_has ls nL (lvA (up X) 0 lv) → W p (xL X) e R s m args below meth c H locs cells slots Z (F0 m pc ls (st.map (up X)))
/-- a value that speaks of made cells -/
def okv (k : Nat) (v : Value) : Bool := match v with
  | .ref a => Nat.blt a k || Nat.ble nW a
  | _ => true
theorem okv_up {X : Xc} {ad : Nat → Nat} {k : Nat} {v : Value} (h : Nx X ad k) (hv : okv k v = true) : up (xw X ad) v = up X v := by
  cases v with
  | ref a =>
    simp only [okv, Bool.or_eq_true, Nat.blt_eq, Nat.ble_eq] at hv
    show Value.ref (ad a) = .ref (xad X a)
    rw [h.1 a hv]
  | _ => rfl
theorem st_up {X : Xc} {ad : Nat → Nat} {k : Nat} {st : List Value} (h : Nx X ad k) (hv : st.all (okv k) = true) : st.map (up (xw X ad)) = st.map (up X) :=
  List.map_congr_left (fun v hm => okv_up h (List.all_eq_true.mp hv v hm))
theorem lv_up {X : Xc} {ad : Nat → Nat} {k : Nat} (h : Nx X ad k) : ∀ (lv : List (Option Value)) (i : Nat), lv.all (fun o => match o with | none => true | some v => okv k v) = true → lvA (up (xw X ad)) i lv = lvA (up X) i lv
  | [], _, _ => rfl
  | none :: r, i, hv => by
    simp only [List.all_cons, Bool.true_and] at hv
    exact lv_up h r (i + 1) hv
  | some v :: r, i, hv => by
    simp only [List.all_cons, Bool.and_eq_true] at hv
    show (i, up (xw X ad) v) :: lvA (up (xw X ad)) (i + 1) r = (i, up X v) :: lvA (up X) (i + 1) r
    rw [okv_up h hv.1, lv_up h r (i + 1) hv.2]
theorem entC_obj (X : Xc) (u : Mm) {S : Nat → Nat → Bool} {a x n : Nat} (h : ly a = (1, x, n)) : entC X u S a = .inr (x, (List.range n).map (fldC X u S a x)) := by unfold entC; rw [h]; rfl
theorem entC_int (X : Xc) (u : Mm) {S : Nat → Nat → Bool} {a x n : Nat} (h : ly a = (2, x, n)) : entC X u S a = .inl (xid X 0, n, .inl (u.1 a)) := by unfold entC; rw [h]; rfl
theorem entC_long (X : Xc) (u : Mm) {S : Nat → Nat → Bool} {a x n : Nat} (h : ly a = (3, x, n)) : entC X u S a = .inl (xid X 1, n, .inr (.inl (u.2 a))) := by unfold entC; rw [h]; rfl
theorem entC_bool (X : Xc) (u : Mm) {S : Nat → Nat → Bool} {a x n : Nat} (h : ly a = (4, x, n)) : entC X u S a = .inl (xid X 2, n, .inl (u.1 a)) := by unfold entC; rw [h]; rfl
theorem entC_ref (X : Xc) (u : Mm) {S : Nat → Nat → Bool} {a t n : Nat} (h : ly a = (6, t, n)) : entC X u S a = .inl (xid X (4 + t), n, .inr (.inr (.inr (.inr (fun i => if S a i then some (xad X (rr a i)) else none))))) := by unfold entC; rw [h]; rfl
theorem bd_ad (f : Nat → Nat) : ∀ k, ∃ M, ∀ a, a < k → f a < M
  | 0 => ⟨0, fun a h => absurd h (Nat.not_lt_zero _)⟩
  | k + 1 => by
    obtain ⟨M, hM⟩ := bd_ad f k
    refine ⟨M + f k + 1, fun a ha => ?_⟩
    by_cases e : a = k
    · subst e; omega
    · have := hM a (by omega); omega
/-- a fresh address for the cell k -/
theorem nx_new {X : Xc} {u : Mm} {k q : Nat} {S : Nat → Nat → Bool} {en : va_E} (hk : k < nW) (hs : OkS k S) (hD : va_D (xA X) (wldC X u k S ++ [(q, en)])) : ∃ ad, Nx X ad k ∧ ad k = q ∧ wldC (xw X ad) u k S = wldC X u k S := by
  obtain ⟨M, hM⟩ := bd_ad (xad X) k
  have hl : (wldC X u k S).length = k := by simp [wldC]
  have hq : (wldC X u k S ++ [(q, en)])[k]? = some (q, en) := by rw [List.getElem?_append_right (by omega), hl]; simp
  have ha : ∀ a, a < k → (wldC X u k S ++ [(q, en)])[a]? = some (xad X a, entC X u S a) := fun a h => by rw [List.getElem?_append_left (by omega)]; exact wldC_at X u h
  have hne : ∀ a, a < k → xad X a ≠ q := fun a h e => by
    have := hD.1 a k _ _ (ha a h) hq e
    omega
  have hinj : ∀ a b, a < k → b < k → xad X a = xad X b → a = b := fun a b h1 h2 e => hD.1 a b _ _ (ha a h1) (ha b h2) e
  have hB : ∀ a, a < k → xB X ≤ xad X a := fun a h => hD.2 a _ (ha a h)
  have hBq : xB X ≤ q := hD.2 k _ hq
  have hnW : nW = 262 := rfl
  refine ⟨fun a => if a < k then xad X a else if a = k then q else if a < nW then M + q + 1 + a else xad X a, ⟨fun a h => ?_, fun a b h1 h2 he => ?_, fun a h => ?_⟩, ?_, ?_⟩
  · rcases h with h | h
    · exact if_pos h
    · show (if a < k then _ else _) = _
      rw [if_neg (by omega), if_neg (by omega), if_neg (by omega)]
  · have he : (if a < k then xad X a else if a = k then q else if a < nW then M + q + 1 + a else xad X a) = (if b < k then xad X b else if b = k then q else if b < nW then M + q + 1 + b else xad X b) := he
    by_cases a1 : a < k
    · have := hM a a1
      rw [if_pos a1] at he
      by_cases b1 : b < k
      · rw [if_pos b1] at he; exact hinj a b a1 b1 he
      · rw [if_neg b1] at he
        by_cases b2 : b = k
        · rw [if_pos b2] at he; exact absurd he (hne a a1)
        · rw [if_neg b2, if_pos h2] at he; omega
    · rw [if_neg a1] at he
      by_cases a2 : a = k
      · rw [if_pos a2] at he
        by_cases b1 : b < k
        · rw [if_pos b1] at he; exact absurd he.symm (hne b b1)
        · rw [if_neg b1] at he
          by_cases b2 : b = k
          · omega
          · rw [if_neg b2, if_pos h2] at he; omega
      · rw [if_neg a2, if_pos h1] at he
        by_cases b1 : b < k
        · have := hM b b1
          rw [if_pos b1] at he; omega
        · rw [if_neg b1] at he
          by_cases b2 : b = k
          · rw [if_pos b2] at he; omega
          · rw [if_neg b2, if_pos h2] at he; omega
  · show xB X ≤ (if a < k then xad X a else if a = k then q else if a < nW then M + q + 1 + a else xad X a)
    by_cases a1 : a < k
    · rw [if_pos a1]; exact hB a a1
    · rw [if_neg a1]
      by_cases a2 : a = k
      · rw [if_pos a2]; exact hBq
      · rw [if_neg a2, if_pos h]; omega
  · show (if k < k then _ else _) = q
    rw [if_neg (by omega), if_pos rfl]
  · unfold wldC
    apply List.map_congr_left
    intro a hm
    have h1 := List.mem_range.mp hm
    have hr : ∀ j, S a j = true → (if rr a j < k then xad X (rr a j) else if rr a j = k then q else if rr a j < nW then M + q + 1 + rr a j else xad X (rr a j)) = xad X (rr a j) := fun j hj => if_pos (hs.1 a j hj)
    refine Prod.ext (if_pos h1) ?_
    show entC _ u S a = entC X u S a
    unfold entC
    split
    · rename_i c n _
      have : fldC (xw X (fun a => if a < k then xad X a else if a = k then q else if a < nW then M + q + 1 + a else xad X a)) u S a c = fldC X u S a c := by
        funext j
        unfold fldC
        split
        · rfl
        · rfl
        · rfl
        · split
          · rename_i hj
            exact congrArg Value.ref (hr j hj)
          · rfl
      rw [this]
    · rfl
    · rfl
    · rfl
    · rename_i t n _
      congr 7
      funext i
      split
      · rename_i hj
        exact congrArg some (hr i hj)
      · rfl
    · rfl
