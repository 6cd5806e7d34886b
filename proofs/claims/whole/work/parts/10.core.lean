/-! ===== THE TINY MACHINE: a memory of ints and longs by (cell, place); references are fixed by the layout (part 05) ===== -/
abbrev Mm : Type := (Nat → Nat → Int32) × (Nat → Nat → Int64)
def mI (u : Mm) (a j : Nat) (v : Int32) : Mm := (fun b k => if b = a ∧ k = j then v else u.1 b k, u.2)
def mJ (u : Mm) (a j : Nat) (v : Int64) : Mm := (u.1, fun b k => if b = a ∧ k = j then v else u.2 b k)
def mC (u : Mm) (s sp d dp n : Nat) : Mm := (fun b k => if b = d then va_cpy (u.1 s) (u.1 d) sp dp n k else u.1 b k, u.2)
def mCJ (u : Mm) (s sp d dp n : Nat) : Mm := (u.1, fun b k => if b = d then va_cpy (u.2 s) (u.2 d) sp dp n k else u.2 b k)
abbrev Xc : Type := Launch × va_G × (Nat → Nat) × Nat × (Nat → ClassId)
abbrev xL (X : Xc) : Launch := X.1
abbrev xD (X : Xc) : va_G := X.2.1
abbrev xad (X : Xc) : Nat → Nat := X.2.2.1
abbrev xB (X : Xc) : Nat := X.2.2.2.1
abbrev xid (X : Xc) : Nat → ClassId := X.2.2.2.2
abbrev xA (X : Xc) : Nat → Prop := fun q => xB X ≤ q
def up (X : Xc) (v : Value) : Value := match v with
  | .ref a => .ref (xad X a)
  | .int x => .int x
  | .long x => .long x
  | .float x => .float x
  | .double x => .double x
  | .null => .null
  | .retAddr x => .retAddr x
theorem up_cat (X : Xc) (v : Value) : (up X v).category = v.category := by cases v <;> rfl
def fld (X : Xc) (u : Mm) (a c j : Nat) : Value := match fty c j with
  | 0 => .int (u.1 a j)
  | 1 => .long (u.2 a j)
  | 2 => .int (u.1 a j)
  | _ => .ref (xad X (rr a j))
def ent (X : Xc) (u : Mm) (a : Nat) : va_E := match ly a with
  | (1, c, n) => .inr (c, (List.range n).map (fld X u a c))
  | (2, _, n) => .inl (xid X 0, n, .inl (u.1 a))
  | (3, _, n) => .inl (xid X 1, n, .inr (.inl (u.2 a)))
  | (4, _, n) => .inl (xid X 2, n, .inl (u.1 a))
  | (6, t, n) => .inl (xid X (4 + t), n, .inr (.inr (.inr (.inr (fun i => some (xad X (rr a i)))))))
  | _ => .inl (xid X 0, 0, .inl (fun _ => 0))
theorem ent_congr (X : Xc) {u v : Mm} {a : Nat} (h1 : v.1 a = u.1 a) (h2 : v.2 a = u.2 a) : ent X v a = ent X u a := by
  have hf : ∀ c j, fld X v a c j = fld X u a c j := fun c j => by unfold fld; rw [h1, h2]
  unfold ent
  split
  · rename_i c n _
    rw [show fld X v a c = fld X u a c from funext (hf c)]
  · rw [h1]
  · rw [h2]
  · rw [h1]
  · rfl
  · rfl
def wld (X : Xc) (u : Mm) : va_W := (List.range nW).map (fun a => (xad X a, ent X u a))
theorem wld_at (X : Xc) (u : Mm) {a : Nat} (h : a < nW) : (wld X u)[a]? = some (xad X a, ent X u a) := by
  unfold wld
  rw [List.getElem?_map, List.getElem?_range h]
  rfl
theorem wld_le (X : Xc) (u : Mm) {a : Nat} {q : Nat × va_E} (h : (wld X u)[a]? = some q) : a < nW ∧ q = (xad X a, ent X u a) := by
  have hl : a < nW := by
    have := (List.getElem?_eq_some_iff.mp h).1
    simpa [wld] using this
  refine ⟨hl, ?_⟩
  rw [wld_at X u hl] at h
  exact (Option.some.inj h).symm
theorem wld_set (X : Xc) {u v : Mm} {a : Nat} (ha : a < nW) (h1 : ∀ b, b ≠ a → v.1 b = u.1 b) (h2 : ∀ b, b ≠ a → v.2 b = u.2 b) : (wld X u).set a (xad X a, ent X v a) = wld X v := by
  apply List.ext_getElem?
  intro k
  by_cases hk : k < nW
  · rw [wld_at X v hk]
    by_cases e : k = a
    · subst e
      rw [List.getElem?_set_self (by simpa [wld] using hk)]
    · rw [List.getElem?_set_ne (Ne.symm e), wld_at X u hk, ent_congr X (h1 k e) (h2 k e)]
  · rw [List.getElem?_eq_none (by simp [wld]; omega), List.getElem?_eq_none (by simp [wld]; omega)]
def adOk (X : Xc) : Prop := (∀ a b, a < nW → b < nW → xad X a = xad X b → a = b) ∧ ∀ a, a < nW → xB X ≤ xad X a
theorem wld_D {X : Xc} (h : adOk X) (u : Mm) : va_D (xA X) (wld X u) := by
  refine ⟨fun i j p q hi hj he => ?_, fun k q hk => ?_⟩
  · obtain ⟨h1, rfl⟩ := wld_le X u hi
    obtain ⟨h2, rfl⟩ := wld_le X u hj
    exact h.1 i j h1 h2 he
  · obtain ⟨h1, rfl⟩ := wld_le X u hk
    exact h.2 k h1
abbrev tys (X : Xc) : List (ClassId × FieldType) := [(xid X 0, .int), (xid X 1, .long), (xid X 2, .boolean), (xid X 3, .byte), (xid X 4, .object RX11), (xid X 5, .object RX4)]
/-- what a cell outside holds -/
def exI (a j : Nat) : Int32 := bif Nat.beq a 1000 then (bif Nat.beq j 1 then 5 else 8) else 0
/-- statics and cells outside, which nobody changes -/
def lenJS : List Nat := [140, 6, 7, 7]
def bytJS : List (List Int32) := [[115, 113, 117, 97, 114, 101, 32, 112, 97, 116, 104, 32, 107, 105, 110, 100, 32, 115, 116, 97, 116, 117, 101, 32, 119, 97, 108, 107, 101, 114, 32, 108, 105, 107, 101, 115, 32, 97, 114, 114, 101, 97, 114, 115, 32, 109, 111, 118, 101, 115, 32, 99, 108, 101, 97, 110, 115, 32, 115, 104, 111, 119, 115, 32, 108, 101, 110, 100, 115, 32, 100, 97, 121, 32, 111, 114, 32, 97, 110, 100, 32, 110, 111, 116, 32, 101, 118, 105, 99, 116, 101, 100, 32, 115, 116, 97, 105, 110, 101, 100, 32, 115, 111, 108, 118, 101, 110, 116, 32, 111, 102, 32, 97, 116, 32, 112, 117, 114, 115, 101, 32, 111, 119, 101, 115, 32, 103, 108, 97, 110, 99, 101, 115, 32, 110, 117, 109, 98, 101, 114], [32, 111, 119, 101, 115, 32], [32, 105, 115, 32, 97, 116, 32], [110, 111, 119, 104, 101, 114, 101]]
/-- the literals, and what the JDK keeps in statics -/
def stj (X : Xc) (U : State) (H : Heap) : Prop := vk_S 4 lenJS bytJS (fun i => xad X (1002 + i)) (fun i => xad X (1010 + i)) (xA X) U H ∧ va_Z "java/lang/String" "COMPACT_STRINGS" "Z" (.int 1) (xA X) U H ∧ vx_Zq Bundle.tN "UNASSIGNED_STACK" Bundle.steD (xA X) U H ∧ vx_Zq Bundle.tN "SUPPRESSED_SENTINEL" Bundle.listD (xA X) U H ∧ va_Zq "jdk/internal/util/Preconditions" "SIOOBE_FORMATTER" "Ljava/util/function/BiFunction;" (xA X) U H
def sta (X : Xc) (U : State) (H : Heap) : Prop := va_Z RX12 "MOST" "[I" (.ref (xad X 1000)) (xA X) U H ∧ va_T .int (xad X 1000) 4 (fun j => .int (exI 1000 j)) (xA X) U H ∧ ¬ xA X (xad X 1000) ∧ stj X U H
theorem sta.kept {X : Xc} {U : State} {H H1 : Heap} (h : sta X U H) (hq : ∀ a : Nat, a < H.size → ¬ xA X a → H1[a]? = H[a]?) : sta X U H1 := by
  obtain ⟨h1, h2, h3, h4, h5, h6, h7, h8⟩ := h
  exact ⟨h1.kept hq, h2.kept hq, h3, h4.kept hq, h5.kept hq, h6.kept hq, h7.kept hq, h8.kept hq⟩
theorem sta.moved {X : Xc} {u U : State} {H : Heap} (hvm : u.vm.Alike U.vm) (h : sta X u H) : sta X U H := ⟨h.1.moved hvm, h.2.1.moved hvm, h.2.2.1, h.2.2.2.1.moved hvm, h.2.2.2.2.1.moved hvm, h.2.2.2.2.2.1.moved hvm, h.2.2.2.2.2.2.1.moved hvm, h.2.2.2.2.2.2.2.moved hvm⟩
/-- the locals, by their numbers -/
def lvA (f : Value → Value) : Nat → List (Option Value) → List (Nat × Value)
  | _, [] => []
  | i, none :: r => lvA f (i + 1) r
  | i, some v :: r => (i, f v) :: lvA f (i + 1) r
def gt : List (Option Value) → Nat → Option Value
  | [], _ => none
  | v :: _, 0 => v
  | _ :: r, i + 1 => gt r i
def stt : List (Option Value) → Nat → Option Value → List (Option Value)
  | [], _, _ => []
  | _ :: r, 0, w => w :: r
  | v :: r, i + 1, w => v :: stt r i w
theorem lvA_in {f : Value → Value} : ∀ (lv : List (Option Value)) (k i : Nat) (v : Value), gt lv i = some v → (k + i, f v) ∈ lvA f k lv
  | [], _, _, _, h => by simp [gt] at h
  | none :: r, k, 0, v, h => by simp [gt] at h
  | some w :: r, k, 0, v, h => by
    simp only [gt, Option.some.injEq] at h
    subst h
    simp [lvA]
  | none :: r, k, i + 1, v, h => by
    have := lvA_in (f := f) r (k + 1) i v h
    rw [show k + (i + 1) = k + 1 + i by omega]
    simpa [lvA] using this
  | some w :: r, k, i + 1, v, h => by
    have := lvA_in (f := f) r (k + 1) i v h
    rw [show k + (i + 1) = k + 1 + i by omega]
    simp only [lvA, List.mem_cons]
    exact Or.inr this
theorem lvA_of {f : Value → Value} : ∀ (lv : List (Option Value)) (k : Nat) (q : Nat × Value), q ∈ lvA f k lv → ∃ i v, q = (k + i, f v) ∧ gt lv i = some v
  | [], _, q, h => by simp [lvA] at h
  | none :: r, k, q, h => by
    obtain ⟨i, v, h1, h2⟩ := lvA_of (f := f) r (k + 1) q (by simpa [lvA] using h)
    exact ⟨i + 1, v, by rw [h1]; congr 1; omega, by simpa [gt] using h2⟩
  | some w :: r, k, q, h => by
    simp only [lvA, List.mem_cons] at h
    rcases h with h | h
    · exact ⟨0, w, by rw [h]; rfl, by simp [gt]⟩
    · obtain ⟨i, v, h1, h2⟩ := lvA_of (f := f) r (k + 1) q h
      exact ⟨i + 1, v, by rw [h1]; congr 1; omega, by simpa [gt] using h2⟩
theorem gt_stt : ∀ (lv : List (Option Value)) (i j : Nat) (w : Option Value) (v : Value), gt (stt lv i w) j = some v → (j = i ∧ w = some v) ∨ (j ≠ i ∧ gt lv j = some v)
  | [], _, _, _, _, h => by simp [stt, gt] at h
  | _ :: r, 0, 0, w, v, h => by simp only [stt, gt] at h; exact Or.inl ⟨rfl, h⟩
  | _ :: r, 0, j + 1, w, v, h => by simp only [stt, gt] at h ⊢; exact Or.inr ⟨by omega, h⟩
  | _ :: r, i + 1, 0, w, v, h => by simp only [stt, gt] at h ⊢; exact Or.inr ⟨by omega, h⟩
  | _ :: r, i + 1, j + 1, w, v, h => by
    simp only [stt, gt] at h ⊢
    rcases gt_stt r i j w v h with ⟨h1, h2⟩ | ⟨h1, h2⟩
    · exact Or.inl ⟨by omega, h2⟩
    · exact Or.inr ⟨by omega, h2⟩
theorem lvh_at {X : Xc} {ls : Array Slot} {nL : Nat} {lv : List (Option Value)} (h : lv_has ls nL (lvA (up X) 0 lv)) {i : Nat} {v : Value} (hg : gt lv i = some v) : ls[i]? = some (.val (up X v)) := by
  have := h.2.2 _ (lvA_in (f := up X) lv 0 i v hg)
  simpa using this
theorem lvh_mono {ls : Array Slot} {nL : Nat} {a b : List (Nat × Value)} (h : lv_has ls nL a) (hs : ∀ q ∈ b, q ∈ a) : lv_has ls nL b := ⟨h.1, h.2.1, fun q hq => h.2.2 q (hs q hq)⟩
/-- the long that would be cut by a store at i -/
def cutL (lv : List (Option Value)) (i : Nat) : Bool := match i with
  | 0 => false
  | k + 1 => match gt lv k with
    | some (.long _) => true
    | some (.double _) => true
    | _ => false
theorem lvh_set1 {X : Xc} {lv : List (Option Value)} {i : Nat} {w : Value} (hc : cutL lv i = false) : ∀ q ∈ lvA (up X) 0 (stt lv i (some w)), q ∈ (i, up X w) :: (lvA (up X) 0 lv).filter (fun q => !(q.1 == i) && !(q.1 + 1 == i && q.2.category == 2)) := by
  intro q hq
  obtain ⟨j, v, rfl, hg⟩ := lvA_of _ _ _ hq
  simp only [Nat.zero_add]
  rcases gt_stt _ _ _ _ _ hg with ⟨h1, h2⟩ | ⟨h1, h2⟩
  · cases h2
    rw [h1]
    exact List.mem_cons_self
  · refine List.mem_cons_of_mem _ (List.mem_filter.mpr ⟨by simpa using lvA_in (f := up X) lv 0 j v h2, ?_⟩)
    have e1 : (j == i) = false := by simpa using h1
    simp only [e1, Bool.not_false, Bool.true_and, Bool.not_eq_true', Bool.and_eq_false_iff]
    by_cases e : j + 1 = i
    · right
      subst e
      simp only [cutL, h2] at hc
      rw [up_cat]
      cases v <;> simp_all [Value.category]
    · left
      simpa using e
theorem lvh_set2 {X : Xc} {lv : List (Option Value)} {i : Nat} {w : Value} (hc : cutL lv i = false) : ∀ q ∈ lvA (up X) 0 (stt (stt lv i (some w)) (i + 1) none), q ∈ (i, up X w) :: (lvA (up X) 0 lv).filter (fun q => !(q.1 == i) && (!(q.1 == i + 1) && !(q.1 + 1 == i && q.2.category == 2))) := by
  intro q hq
  obtain ⟨j, v, rfl, hg⟩ := lvA_of _ _ _ hq
  simp only [Nat.zero_add]
  rcases gt_stt _ _ _ _ _ hg with ⟨h1, h2⟩ | ⟨h1, h2⟩
  · cases h2
  · rcases gt_stt _ _ _ _ _ h2 with ⟨h3, h4⟩ | ⟨h3, h4⟩
    · cases h4
      rw [h3]
      exact List.mem_cons_self
    · refine List.mem_cons_of_mem _ (List.mem_filter.mpr ⟨by simpa using lvA_in (f := up X) lv 0 j v h4, ?_⟩)
      have e1 : (j == i) = false := by simpa using h3
      have e2 : (j == i + 1) = false := by simpa using h1
      simp only [e1, e2, Bool.not_false, Bool.true_and, Bool.not_eq_true', Bool.and_eq_false_iff]
      by_cases e : j + 1 = i
      · right
        subst e
        simp only [cutL, h4] at hc
        rw [up_cat]
        cases v <;> simp_all [Value.category]
      · left
        simpa using e
/-- the locals with which a method begins -/
def lvE : List Value → Nat → List (Option Value)
  | [], n => List.replicate n none
  | .long x :: r, n => some (.long x) :: none :: lvE r (n - 2)
  | .double x :: r, n => some (.double x) :: none :: lvE r (n - 2)
  | .int x :: r, n => some (.int x) :: lvE r (n - 1)
  | .float x :: r, n => some (.float x) :: lvE r (n - 1)
  | .null :: r, n => some .null :: lvE r (n - 1)
  | .ref x :: r, n => some (.ref x) :: lvE r (n - 1)
  | .retAddr x :: r, n => some (.retAddr x) :: lvE r (n - 1)
theorem lvA_rep (f : Value → Value) : ∀ (n k : Nat), lvA f k (List.replicate n none) = []
  | 0, _ => rfl
  | n + 1, k => by
    rw [List.replicate_succ]
    exact lvA_rep f n (k + 1)
theorem lvE_in (X : Xc) : ∀ (as : List Value) (k n : Nat), lvA (up X) k (lvE as n) = lv_args k (as.map (up X))
  | [], k, n => lvA_rep _ n k
  | .long x :: r, k, n => by simp [lvE, lvA, lv_args, lvE_in X r, up, Value.category]
  | .double x :: r, k, n => by simp [lvE, lvA, lv_args, lvE_in X r, up, Value.category]
  | .int x :: r, k, n => by simp [lvE, lvA, lv_args, lvE_in X r, up, Value.category]
  | .float x :: r, k, n => by simp [lvE, lvA, lv_args, lvE_in X r, up, Value.category]
  | .null :: r, k, n => by simp [lvE, lvA, lv_args, lvE_in X r, up, Value.category]
  | .ref x :: r, k, n => by simp [lvE, lvA, lv_args, lvE_in X r, up, Value.category]
  | .retAddr x :: r, k, n => by simp [lvE, lvA, lv_args, lvE_in X r, up, Value.category]
abbrev Om : List Cond := wsL_law
/-- calls between nest mates -/
def ltR (X : Xc) (U : State) : Prop := vk_R "StatueRent$Tape" 45 "square path kind statue walker likes arrears moves cleans shows lends day or and not evicted stained solvent of at purse owes glances number" (xad X 1002) U ∧ vk_R "StatueRent" 353 " owes " (xad X 1003) U ∧ vk_R "StatueRent" 362 " is at " (xad X 1004) U ∧ vk_R "StatueRent" 364 "nowhere" (xad X 1005) U
abbrev nse : String := "java/util/NoSuchElementException"
/-- private constructors that nest mates call -/
def nsI : List (String × Nat × MethodName) := [(RX12, 18, yX11_init), (RX1, 11, yX11_init), (RX9, 11, yX8_init), (RX11, 27, yX8_init), (RX11, 9, yX0_init)]
/-- words that hold of the tables, but are not good: arrays over classes, the exception's own -/
def tbR (U : State) : Prop := va_AO RX11 U ∧ va_AO RX4 U ∧ va_Nw (.declares (Bundle.init0 "java/lang/RuntimeException")) U ∧ va_Nw (.declares (Bundle.init0 "java/lang/Exception")) U ∧ va_Nw (.declares (Bundle.init0 Bundle.tN)) U ∧ va_Nw (.castable nse nse) U ∧ (∀ q ∈ nsI, va_Nw (.methodLinkNest q.1 q.2.1 q.2.2 "StatueRent") U) ∧ va_Nw (.fieldLinkNest RX6 28 "StatueRent$Life" "city" "LStatueRent$City;" "StatueRent") U
theorem tbR.warm {s U : State} (hW : s.WarmedH U.vm) (h : tbR s) : tbR U := ⟨va_AO.moved hW.alike h.1, va_AO.moved hW.alike h.2.1, va_Nw.warmD hW h.2.2.1, va_Nw.warmD hW h.2.2.2.1, va_Nw.warmD hW h.2.2.2.2.1, va_Nw.warmC hW h.2.2.2.2.2.1, fun q hq => va_Nw.warmM hW (h.2.2.2.2.2.2.1 q hq), va_Nw.warmF hW h.2.2.2.2.2.2.2⟩
theorem tbR.same {s U : State} (hv : s.vm = U.vm) (h : tbR s) : tbR U := ⟨va_AO.moved (by rw [hv]; exact Vm.Alike.refl _) h.1, va_AO.moved (by rw [hv]; exact Vm.Alike.refl _) h.2.1, va_Nw.same rfl hv h.2.2.1, va_Nw.same rfl hv h.2.2.2.1, va_Nw.same rfl hv h.2.2.2.2.1, va_Nw.same rfl hv h.2.2.2.2.2.1, fun q hq => va_Nw.same rfl hv (h.2.2.2.2.2.2.1 q hq), va_Nw.same rfl hv h.2.2.2.2.2.2.2⟩
def nsO (X : Xc) (U : State) : Prop := (∀ q ∈ nsL, va_Nw (.methodLinkNest (Rc q.1) q.2.1 (yM q.2.2) "StatueRent") U) ∧ va_Nw (.fieldLinkNest RX1 85 "StatueRent" "MOST" "[I" "StatueRent") U ∧ ltR X U ∧ tbR U
theorem ltR.warm {X : Xc} {s U : State} (hW : s.WarmedH U.vm) (h : ltR X s) : ltR X U := ⟨vk_R.warm hW h.1, vk_R.warm hW h.2.1, vk_R.warm hW h.2.2.1, vk_R.warm hW h.2.2.2⟩
theorem ltR.same {X : Xc} {s U : State} (hv : s.vm = U.vm) (h : ltR X s) : ltR X U := ⟨vk_R.same hv.symm h.1, vk_R.same hv.symm h.2.1, vk_R.same hv.symm h.2.2.1, vk_R.same hv.symm h.2.2.2⟩
theorem nsO.warm {X : Xc} {s U : State} (hW : s.WarmedH U.vm) (h : nsO X s) : nsO X U := ⟨fun q hq => va_Nw.warmM hW (h.1 q hq), va_Nw.warmF hW h.2.1, h.2.2.1.warm hW, h.2.2.2.warm hW⟩
theorem nsO.same {X : Xc} {s U : State} (hv : s.vm = U.vm) (h : nsO X s) : nsO X U := ⟨fun q hq => va_Nw.same rfl hv (h.1 q hq), va_Nw.same rfl hv h.2.1, h.2.2.1.same hv, h.2.2.2.same hv⟩
/-- the script, where there is one -/
def scr (X : Xc) (sc : Option (Nat × (Nat → Int32))) (U : State) (H : Heap) : Prop := match sc with
  | none => True
  | some q => va_X (xad X 1001) q.1 q.2 U H ∧ xad X 1001 < H.size ∧ ¬ xA X (xad X 1001)
/-- what stands fixed in a method's body -/
def Gx (X : Xc) (p : Program) (s : State) (m : MethodId) (args : Array Value) (c : Code) (own : String) (cc : ByteArray) (nL : Nat) (sc : Option (Nat × (Nat → Int32))) : Prop :=
  p.tables.exec = Jvm.exec ∧ c.code = cc ∧ c.maxLocals = nL ∧ s.vm.findClass own = some m.cls ∧ (∀ w ∈ Om, w.before args s = true) ∧ va_K (xD X) vwCl (tys X) s ∧ sta X s s.heap ∧ adOk X ∧ nsO X s ∧ scr X sc s s.heap
/-- the machine, at pc with these locals, this stack and this memory, comes to Z -/
def Vx (X : Xc) (p : Program) (e : Env) (R : Room) (s : State) (m : MethodId) (args : Array Value) (below : List Frame) (meth : Method) (c : Code) (nL cells slots : Nat) (Z : State → Prop) (pc : Nat) (lv : List (Option Value)) (st : List Value) (u : Mm) : Prop :=
  ∀ (H : Heap) (locs : List Loc) (ls : Array Slot), va_P (xD X) vwCl (wld X u) H → va_S (xA X) s.heap H locs → lv_has ls nL (lvA (up X) 0 lv) → W p (xL X) e R s m args below meth c H locs cells slots Z (F0 m pc ls (st.map (up X)))
abbrev rmD (d : Nat) : Room := { frames := d, cells := 0, slots := 0, locals := 64 * d }
def PreX (X : Xc) (as : List Value) (u : Mm) : Array Value → State → Prop := va_Pc (as.map (up X)) (fun U => va_P (xD X) vwCl (wld X u) U.heap ∧ va_K (xD X) vwCl (tys X) U ∧ sta X U U.heap ∧ adOk X ∧ nsO X U)
abbrev PoX (X : Xc) : Mm → State → Prop := fun u t => va_P (xD X) vwCl (wld X u) t.heap
/-- contracts of the methods by their numbers (part 07): int (or boolean), void, long -/
def CI (X : Xc) (d k : Nat) (as : List Value) (u : Mm) (K : Int32 → Mm → Prop) : Prop := Met (xL X) (yM k) (.code (yM k) (cM k) (nM k) (rM k) :: Om) (rmD d) (PreX X as u) (va_Qi K (PoX X) (xA X)) 0 0 (xA X)
def CV (X : Xc) (d k : Nat) (as : List Value) (u : Mm) (K : Mm → Prop) : Prop := Met (xL X) (yM k) (.code (yM k) (cM k) (nM k) (rM k) :: Om) (rmD d) (PreX X as u) (va_Qv K (PoX X) (xA X)) 0 0 (xA X)
def CJ (X : Xc) (d k : Nat) (as : List Value) (u : Mm) (K : Int64 → Mm → Prop) : Prop := Met (xL X) (yM k) (.code (yM k) (cM k) (nM k) (rM k) :: Om) (rmD d) (PreX X as u) (va_Ql K (PoX X) (xA X)) 0 0 (xA X)
theorem met_mono {l : Launch} {y : MethodName} {ws : List Cond} {rm : Room} {Pc : Array Value → State → Prop} {Qc Qc' : Array Value → State → Outcome → State → Prop} {mc ms : Nat} {free : Addr → Prop} (h : Met l y ws rm Pc Qc mc ms free) (hq : ∀ a st o t, Qc a st o t → Qc' a st o t) : Met l y ws rm Pc Qc' mc ms free := by
  intro p e h1 h2 h3 s m args below h4 h5 h6 h7
  obtain ⟨n, o, a1, a2, a3, a4, a5⟩ := h p e h1 h2 h3 s m args below h4 h5 h6 h7
  exact ⟨n, o, a1, a2, a3, hq _ _ _ _ a4, a5⟩
theorem CI.mono {X : Xc} {d k : Nat} {as : List Value} {u : Mm} {K K' : Int32 → Mm → Prop} (h : CI X d k as u K) (hk : ∀ x v, K x v → K' x v) : CI X d k as u K' := met_mono h (by
  intro a st o t hq
  obtain ⟨⟨r, v, h1, h2, h3⟩, h4⟩ := hq
  exact ⟨⟨r, v, h1, hk r v h2, h3⟩, h4⟩)
theorem CJ.mono {X : Xc} {d k : Nat} {as : List Value} {u : Mm} {K K' : Int64 → Mm → Prop} (h : CJ X d k as u K) (hk : ∀ x v, K x v → K' x v) : CJ X d k as u K' := met_mono h (by
  intro a st o t hq
  obtain ⟨⟨r, v, h1, h2, h3⟩, h4⟩ := hq
  exact ⟨⟨r, v, h1, hk r v h2, h3⟩, h4⟩)
theorem CV.mono {X : Xc} {d k : Nat} {as : List Value} {u : Mm} {K K' : Mm → Prop} (h : CV X d k as u K) (hk : ∀ v, K v → K' v) : CV X d k as u K' := met_mono h (by
  intro a st o t hq
  obtain ⟨⟨v, h1, h2, h3⟩, h4⟩ := hq
  exact ⟨⟨v, h1, hk v h2, h3⟩, h4⟩)
theorem preX_blind {X : Xc} {as : List Value} {u : Mm} : FrameBlind (PreX X as u) := by
  intro a U g mk h
  obtain ⟨h1, h2, h3, h4, h5, h6⟩ := h
  exact ⟨h1, h2, va_K.moved (u := U) (U := U.calling g mk a) (Vm.Alike.refl U.vm) h3, sta.moved (u := U) (U := U.calling g mk a) (Vm.Alike.refl U.vm) h4, h5, h6.same (U := U.calling g mk a) rfl⟩
/-- an instruction, its length, three numbers and a constant that the table knows of it -/
abbrev TE : Type := Instr × Nat × Nat × Nat × Nat × Int32
def tabN (n : Nat) (f : Nat → Option TE) (pc : Nat) : Option TE := bif Nat.blt pc n then f pc else none
def tgtOk (pc : Nat) (off : Int) (x : Nat) : Bool := decide ((pc : Int) + off = (x : Int))
def retOk (x z : Nat) : Bool := match rM x with
  | none => Nat.beq z 0
  | some .long => Nat.beq z 2
  | some _ => Nat.beq z 1
def tswOk (pc : Nat) (lo hi : Int) (offs : Array Int) : Bool := decide (hi = lo + (offs.size : Int) - 1) && offs.toList.all (fun o => decide (0 ≤ (pc : Int) + o))
def lswOk (pc : Nat) (d : Int) (ps : Array (Int × Int)) : Bool := (ps.toList.zip (ps.toList.drop 1)).all (fun (a, next) => a.1 < next.1) && ps.toList.all (fun q => decide (-2147483648 ≤ q.1) && decide (q.1 < 2147483648)) && ps.toList.all (fun q => decide (0 ≤ (pc : Int) + q.2)) && decide (0 ≤ (pc : Int) + d)
theorem lsw_nn {pc : Nat} {d v : Int} : ∀ (ps : List (Int × Int)), (∀ q ∈ ps, 0 ≤ (pc : Int) + q.2) → 0 ≤ (pc : Int) + d → 0 ≤ (pc : Int) + Op.lookupswitch.offset ps d v
  | [], _, h => h
  | q :: r, hq, h => by
    obtain ⟨a, o⟩ := q
    rw [Op.lookupswitch.offset_cons]
    split
    · exact hq (a, o) List.mem_cons_self
    · exact lsw_nn r (fun q h => hq q (List.mem_cons_of_mem _ h)) h
/-- what the tables know of one instruction is so -/
def okL (oc nL pc : Nat) (t : TE) : Bool := match t with
  | (i, len, x, y, z, k) => match i with
    | .iconst n => decide (Int32.ofInt n = k) && Nat.beq len 1
    | .bipush n => decide ((Int8.ofInt n).toInt32 = k) && Nat.beq len 2
    | .sipush n => decide ((Int16.ofInt n).toInt32 = k) && Nat.beq len 3
    | .ldc i => decide ((oc, i, k) ∈ lkC) && Nat.beq len 2
    | .ldc_w i => decide ((oc, i, k) ∈ lkC) && Nat.beq len 3
    | .ldc2_w i => decide ((oc, i, x) ∈ lkJ) && Nat.beq len 3
    | .lconst n => decide (Int64.ofNat (n : Nat) = lN x) && Nat.beq len 1
    | .iload_n n => decide ((n : Nat) = x) && Nat.beq len 1
    | .lload_n n => decide ((n : Nat) = x) && Nat.beq len 1
    | .aload_n n => decide ((n : Nat) = x) && Nat.beq len 1
    | .istore_n n => decide ((n : Nat) = x) && Nat.blt x nL && Nat.beq len 1
    | .lstore_n n => decide ((n : Nat) = x) && Nat.blt (x + 1) nL && Nat.beq len 1
    | .astore_n n => decide ((n : Nat) = x) && Nat.blt x nL && Nat.beq len 1
    | .iload n => Nat.beq n x && Nat.beq len 2
    | .lload n => Nat.beq n x && Nat.beq len 2
    | .aload n => Nat.beq n x && Nat.beq len 2
    | .istore n => Nat.beq n x && Nat.blt x nL && Nat.beq len 2
    | .lstore n => Nat.beq n x && Nat.blt (x + 1) nL && Nat.beq len 2
    | .astore n => Nat.beq n x && Nat.blt x nL && Nat.beq len 2
    | .iinc n v => Nat.beq n x && decide (Int32.ofInt v = k) && Nat.blt x nL && Nat.beq len 3
    | .getfield i => decide ((oc, i, x, y) ∈ lkF) && Nat.blt y (Nf x) && (match z with
        | 0 => Nat.beq (fty x y) 0 || Nat.beq (fty x y) 2
        | 1 => Nat.beq (fty x y) 1
        | _ => Nat.beq (fty x y) 3) && Nat.beq len 3
    | .putfield i => decide ((oc, i, x, y) ∈ lkF) && Nat.blt y (Nf x) && decide ((x, y) ∈ nfL) && Nat.beq (fty x y) z && Nat.beq len 3
    | .getstatic i => Nat.beq oc 1 && Nat.beq i 85 && Nat.beq len 3
    | .goto off => tgtOk pc off x && Nat.beq len 3
    | .ifCond _ off => tgtOk pc off x && Nat.beq len 3
    | .if_icmp _ off => tgtOk pc off x && Nat.beq len 3
    | .invokevirtual i => decide ((oc, i, x) ∈ lkV) && !Nat.beq (kM x) 99 && gM x && retOk x z && Nat.beq len 3
    | .invokestatic i => (bif Nat.beq x 900 then decide ((oc, i) ∈ lkA) else bif Nat.beq x 901 then decide ((oc, i) ∈ lkMn) else bif Nat.beq x 902 then decide ((oc, i) ∈ lkMx) else bif Nat.beq x 903 then decide ((oc, i) ∈ lkMb) else ((decide ((oc, i, x) ∈ lkV) || decide ((oc, i, x) ∈ nsL)) && Nat.beq (kM x) 99 && gM x && retOk x z)) && Nat.beq len 3
    | .tableswitch d lo hi offs => tswOk pc lo hi offs && decide (0 ≤ (pc : Int) + d)
    | .lookupswitch d ps => lswOk pc d ps
    | .new _ => true
    | _ => Nat.beq len 1
def okI (oc : Nat) (cc : ByteArray) (nL pc : Nat) (t : TE) : Bool := decide (decode cc pc = .ok (t.1, t.2.1)) && okL oc nL pc t
theorem tab_ok {oc : Nat} {cc : ByteArray} {nL : Nat} {f : Nat → Option TE} {n : Nat} (h : (List.range n).all (fun pc => match f pc with
    | none => true
    | some t => okI oc cc nL pc t) = true) : ∀ pc t, tabN n f pc = some t → okI oc cc nL pc t = true := by
  intro pc t ht
  unfold tabN at ht
  by_cases hp : pc < n
  · rw [show Nat.blt pc n = true by simpa using hp, cond_true] at ht
    have h1 := List.all_eq_true.mp h pc (List.mem_range.mpr hp)
    rw [ht] at h1
    exact h1
  · have e1 : Nat.blt pc n = false := by
      cases hb : Nat.blt pc n with
      | false => rfl
      | true => exact absurd (by simpa using hb) hp
    rw [e1, cond_false] at ht
    cases ht
