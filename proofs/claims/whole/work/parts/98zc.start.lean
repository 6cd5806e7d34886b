/-! what the start gives -/
abbrev flG : List Cond := flatC (Jvm.Cond.and given_1 narrow_1)
def tmS (i : Nat) : Term := match i with
  | 0 => .string "StatueRent$Tape" 45
  | 1 => .string "StatueRent" 353
  | 2 => .string "StatueRent" 362
  | _ => .string "StatueRent" 364
def offS : List Nat := [68, 212, 223, 236]
theorem fl_ex : ∀ i, i < 4 → Cond.exactly (tmS i) "java/lang/String" ∈ flG := by decide +kernel
theorem fl_co : ∀ i, i < 4 → Cond.eq (.field (tmS i) "java/lang/String" "coder" "B") (.int 0) ∈ flG := by decide +kernel
theorem fl_ar : ∀ i, i < 4 → Cond.arrayOf (.field (tmS i) "java/lang/String" "value" "[B") .byte ∈ flG := by decide +kernel
theorem fl_le : ∀ i, i < 4 → Cond.eq (.length (.field (tmS i) "java/lang/String" "value" "[B")) (.int (Int32.ofNat (lenJS.getD i 0))) ∈ flG := by decide +kernel
set_option maxRecDepth 100000 in
theorem fl_el : ∀ i, i < 4 → ∀ j, j < lenJS.getD i 0 → flG[offS.getD i 0 + j]? = some (Cond.eq (.elem (.field (tmS i) "java/lang/String" "value" "[B") (.int (Int32.ofNat j))) (.int ((bytJS.getD i []).getD j 0))) := by decide +kernel
theorem fl_ne : ∀ i, i < 4 → ∀ j, j < 4 → i ≠ j → Cond.not (Cond.eq (tmS i) (tmS j)) ∈ flG ∨ Cond.not (Cond.eq (tmS j) (tmS i)) ∈ flG := by decide +kernel
theorem fl_mo : ∀ j, j < 4 → Cond.eq (.elem (.static "StatueRent" "MOST" "[I") (.int (Int32.ofNat j))) (.int (exI 1000 j)) ∈ flG := by decide +kernel
theorem inst_ok {x : Nat} {q : vw_C} (h : vwCl[x]? = some q) : Cond.instantiable q.1 q.2.2 ∈ Om := by
  match x, h with
  | 0, h => cases h; decide +kernel
  | 1, h => cases h; decide +kernel
  | 2, h => cases h; decide +kernel
  | 3, h => cases h; decide +kernel
  | 4, h => cases h; decide +kernel
  | 5, h => cases h; decide +kernel
  | 6, h => cases h; decide +kernel
  | 7, h => cases h; decide +kernel
  | 8, h => cases h; decide +kernel
  | 9, h => cases h; decide +kernel
  | 10, h => cases h; decide +kernel
  | 11, h => cases h; decide +kernel
  | 12, h => cases h; decide +kernel
  | 13, h => cases h; decide +kernel
  | n + 14, h => simp [vwCl] at h
theorem st_classes {args : Array Value} {s : State} (hts : ∀ w ∈ Om, w.before args s = true) : ∃ D : va_G, ∀ (c : Nat) (q : vw_C), vwCl[c]? = some q → u_Kn s q.1 q.2.1 q.2.2 (D.1 c) (D.2 c) := by
  have h : ∀ c : Nat, ∃ r : ClassId × (Nat → Nat), ∀ q : vw_C, vwCl[c]? = some q → u_Kn s q.1 q.2.1 q.2.2 r.1 r.2 := by
    intro c
    cases hq : vwCl[c]? with
    | none => exact ⟨(0, fun _ => 0), fun q h => nomatch h⟩
    | some q =>
      obtain ⟨cC, iS, hk⟩ := u_known (C := q.1) (T := q.2.1) (N := q.2.2) (n := q.2.2) hts (vw_in hq) (hts _ (inst_ok hq))
      exact ⟨(cC, iS), fun q' h => by cases h; exact hk⟩
  obtain ⟨f, hf⟩ := Classical.axiomOfChoice h
  exact ⟨(fun c => (f c).1, fun c => (f c).2), fun c q hq => hf c q hq⟩
theorem st_types {args : Array Value} {s : State} (hts : ∀ w ∈ lw_tbl, w.before args s = true) : ∃ ids : Nat → ClassId, ∀ (k : Nat) (q : ClassId × FieldType), ([(ids 0, .int), (ids 1, .long), (ids 2, .boolean), (ids 3, .byte), (ids 4, .object RX11), (ids 5, .object RX4)] : List (ClassId × FieldType))[k]? = some q → ArrOfT s q.1 q.2 ∧ va_RA s q.1 q.2 := by
  obtain ⟨ci, ki, pi, i1, i2, i3⟩ := Cond.arrayClass_spec (hts (.arrayClass .int) (by decide +kernel))
  obtain ⟨cl, kl, pl, l1, l2, l3⟩ := Cond.arrayClass_spec (hts (.arrayClass .long) (by decide +kernel))
  obtain ⟨cz, kz, pz, z1, z2, z3⟩ := Cond.arrayClass_spec (hts (.arrayClass .boolean) (by decide +kernel))
  obtain ⟨cb, kb, pb, b1, b2, b3⟩ := Cond.arrayClass_spec (hts (.arrayClass .byte) (by decide +kernel))
  obtain ⟨pw, cw, kw, w1, -, w2, w3, w4⟩ := Cond.arrayOver_spec (hts (.arrayOver (.object RX11)) (by decide +kernel))
  obtain ⟨pf, cf, kf, f1, -, f2, f3, f4⟩ := Cond.arrayOver_spec (hts (.arrayOver (.object RX4)) (by decide +kernel))
  refine ⟨fun i => match i with
    | 0 => ci
    | 1 => cl
    | 2 => cz
    | 3 => cb
    | 4 => cw
    | _ => cf, fun k q h => ?_⟩
  match k, h with
  | 0, h => cases h; exact ⟨fun n z => ⟨fun k h => (by cases h), ki, i2, pi, i3⟩, i1⟩
  | 1, h => cases h; exact ⟨fun n z => ⟨fun k h => (by cases h), kl, l2, pl, l3⟩, l1⟩
  | 2, h => cases h; exact ⟨fun n z => ⟨fun k h => (by cases h), kz, z2, pz, z3⟩, z1⟩
  | 3, h => cases h; exact ⟨fun n z => ⟨fun k h => (by cases h), kb, b2, pb, b3⟩, b1⟩
  | 4, h => cases h; exact ⟨fun n z => ⟨fun k h => (by cases h), kw, w2, pw, w3⟩, kw, pw, w2, w3, w1, w4⟩
  | 5, h => cases h; exact ⟨fun n z => ⟨fun k h => (by cases h), kf, f2, pf, f3⟩, kf, pf, f2, f3, f1, f4⟩
  | n + 6, h => simp at h
theorem nsL_in : ∀ q ∈ nsL, Cond.methodLinkNest (Rc q.1) q.2.1 (yM q.2.2) "StatueRent" ∈ lw_tbl := by decide +kernel
theorem nsI_in : ∀ q ∈ nsI, Cond.methodLinkNest q.1 q.2.1 q.2.2 "StatueRent" ∈ lw_tbl := by decide +kernel
/-- the addresses at the start -/
def adS (h t b : Nat) (k v : Nat → Nat) (a : Nat) : Nat := if a < 262 then h + a else if a = 1000 then t else if a = 1001 then b else if a < 1010 then k (a - 1002) else v (a - 1010)
theorem adS_k {h t b i : Nat} {k v : Nat → Nat} (hi : i < 4) : adS h t b k v (1002 + i) = k i := by
  unfold adS
  rw [if_neg (by omega), if_neg (by omega), if_neg (by omega), if_pos (by omega), show 1002 + i - 1002 = i by omega]
theorem adS_v {h t b i : Nat} {k v : Nat → Nat} (hi : i < 4) : adS h t b k v (1010 + i) = v i := by
  unfold adS
  rw [if_neg (by omega), if_neg (by omega), if_neg (by omega), if_neg (by omega), show 1010 + i - 1010 = i by omega]
theorem vk_S_congr {N : Nat} {len : List Nat} {byt : List (List Int32)} {k v k' v' : Nat → Nat} {A : Nat → Prop} {U : State} {H : Heap} (h : vk_S N len byt k v A U H) (h1 : ∀ i, i < N → k' i = k i) (h2 : ∀ i, i < N → v' i = v i) : vk_S N len byt k' v' A U H := ⟨fun i hi => by rw [h1 i hi, h2 i hi]; exact h.1 i hi, fun i j hi hj e => h.2 i j hi hj (by rw [← h1 i hi, ← h1 j hj]; exact e)⟩
theorem st_flags {l : Launch} (h : l.flags = flags0) : l.stackTraces = false := by
  unfold Launch.stackTraces
  rw [h]
  decide +kernel
theorem st_G {p : Program} {s : State} {m : MethodId} {meth : Method} {c : Code} (l : Launch) {b L : Nat} {xs : Nat → Int32} (C0 : lw_At p s m meth c b L xs) : ∃ X : Xc, xL X = l ∧ xB X = s.heap.size ∧ xad X 1001 = b ∧ Gx X p s m #[Value.ref b] c RL cL_law 7 (some (L, xs)) := by
  obtain ⟨hx, hb, hr, hml, hown, hts, hX, hbl, hlocks, hgv⟩ := id C0
  have hs := flat_of_before _ hgv
  have hOm : ∀ w ∈ Om, w.before #[Value.ref b] s = true := fun w hw => hts w (wsL_law_in w hw)
  have hA : ∀ a : Nat, a < s.heap.size → ¬ (fun q : Nat => s.heap.size ≤ q) a := fun a h => Nat.not_le.mpr h
  obtain ⟨D, hKc⟩ := st_classes hOm
  obtain ⟨ids, hKt⟩ := st_types hts
  obtain ⟨t, ht, hT⟩ := va_Tof (tm := .static "StatueRent" "MOST" "[I") (ty := .int) (N := 4) (f := fun j => .int (exI 1000 j)) (A := fun q : Nat => s.heap.size ≤ q) (by decide) (hs _ (by decide +kernel)) (va_eqt (hs (Cond.eq (.length (.static "StatueRent" "MOST" "[I")) (.int 4)) (by decide +kernel))) (fun j hj => va_eqt (hs _ (fl_mo j hj))) hA
  have hZ := va_Zof (A := fun q : Nat => s.heap.size ≤ q) (hts (.laysStatic "StatueRent" "MOST" "[I") (by decide +kernel)) (hts (.initialized "StatueRent") (by decide +kernel)) ht hA
  obtain ⟨adK, adV, hS, hev⟩ := vk_Sof (args := #[Value.ref b]) (s := s) (N := 4) (tm := tmS) (len := lenJS) (byt := bytJS) (A := fun q : Nat => s.heap.size ≤ q) (by decide) (fun i hi => hs _ (fl_ex i hi)) (fun i hi => hs _ (fl_co i hi)) (fun i hi => hs _ (fl_ar i hi)) (fun i hi => hs _ (fl_le i hi)) (fun i hi j hj => hs _ (List.mem_of_getElem? (fl_el i hi j hj))) (fun i j hi hj hij => (fl_ne i hi j hj hij).imp (hs _) (hs _)) hA
  have hcs := va_Zof (A := fun q : Nat => s.heap.size ≤ q) (hts (.laysStatic "java/lang/String" "COMPACT_STRINGS" "Z") (by decide +kernel)) (hts (.initialized "java/lang/String") (by decide +kernel)) (va_eqi (z := 1) (hs _ (by decide +kernel))) hA
  have hz1 := vx_Zqof (A := fun q : Nat => s.heap.size ≤ q) (hts (.laysStatic Bundle.tN "UNASSIGNED_STACK" Bundle.steD) (by decide +kernel)) (hts (.initialized Bundle.tN) (by decide +kernel)) (hs _ (by decide +kernel)) hA
  have hz2 := vx_Zqof (A := fun q : Nat => s.heap.size ≤ q) (hts (.laysStatic Bundle.tN "SUPPRESSED_SENTINEL" Bundle.listD) (by decide +kernel)) (hts (.initialized Bundle.tN) (by decide +kernel)) (hs _ (by decide +kernel)) hA
  have hz3 := va_Zqof (A := fun q : Nat => s.heap.size ≤ q) (hts (.laysStatic "jdk/internal/util/Preconditions" "SIOOBE_FORMATTER" "Ljava/util/function/BiFunction;") (by decide +kernel)) (hts (.initialized "jdk/internal/util/Preconditions") (by decide +kernel)) (hs _ (by decide +kernel)) hA
  refine ⟨(l, D, adS s.heap.size t b adK adV, s.heap.size, ids), rfl, rfl, rfl, hx, hb, hml, hown, hOm, ⟨hKc, hKt⟩, ⟨hZ, hT, hT.out, ⟨vk_S_congr hS (fun i hi => adS_k hi) (fun i hi => adS_v hi), hcs, hz1, hz2, hz3⟩⟩, ⟨fun a q ha hq e => ?_, fun a ha => ?_⟩, ⟨fun q hq => va_Nw.of rfl (hts _ (nsL_in q hq)), va_Nw.of rfl (hts (.fieldLinkNest RX1 85 "StatueRent" "MOST" "[I" "StatueRent") (by decide +kernel)), ⟨vk_R.of (hts (.stringRef "StatueRent$Tape" 45 "square path kind statue walker likes arrears moves cleans shows lends day or and not evicted stained solvent of at purse owes glances number") (by decide +kernel)) (hev 0 (by decide)), vk_R.of (hts (.stringRef "StatueRent" 353 " owes ") (by decide +kernel)) (hev 1 (by decide)), vk_R.of (hts (.stringRef "StatueRent" 362 " is at ") (by decide +kernel)) (hev 2 (by decide)), vk_R.of (hts (.stringRef "StatueRent" 364 "nowhere") (by decide +kernel)) (hev 3 (by decide))⟩, ⟨va_AO.of (hts (.arrayOver (.object RX11)) (by decide +kernel)), va_AO.of (hts (.arrayOver (.object RX4)) (by decide +kernel)), va_Nw.of rfl (hts (.declares (Bundle.init0 "java/lang/RuntimeException")) (by decide +kernel)), va_Nw.of rfl (hts (.declares (Bundle.init0 "java/lang/Exception")) (by decide +kernel)), va_Nw.of rfl (hts (.declares (Bundle.init0 Bundle.tN)) (by decide +kernel)), va_Nw.of rfl (hts (.castable nse nse) (by decide +kernel)), fun q hq => va_Nw.of rfl (hts _ (nsI_in q hq)), va_Nw.of rfl (hts (.fieldLinkNest RX6 28 "StatueRent$Life" "city" "LStatueRent$City;" "StatueRent") (by decide +kernel))⟩⟩, ⟨hX, hbl, Nat.not_le.mpr hbl⟩⟩
  · have ha : a < 262 := ha
    have hq : q < 262 := hq
    have e : adS s.heap.size t b adK adV a = adS s.heap.size t b adK adV q := e
    unfold adS at e
    rw [if_pos ha, if_pos hq] at e
    omega
  · have ha : a < 262 := ha
    show s.heap.size ≤ adS s.heap.size t b adK adV a
    unfold adS
    rw [if_pos ha]
    omega
/-- from the entry, for every script of at most 3072 ints, the law comes to its end with true -/
theorem whole_start {p : Program} {e : Env} {s : State} {m : MethodId} {below : List Frame} {meth : Method} {c : Code} (l : Launch) (hfl : l.stackTraces = false) {b L : Nat} {xs : Nat → Int32} (hL : L ≤ 3072) (C0 : lw_At p s m meth c b L xs) : W p l e room_1 s m #[Value.ref b] below meth c s.heap [] 0 0 (lw_Z below #[Value.ref b] s) (entryFrame m ([Value.ref b] : List Value).toArray 7) := by
  obtain ⟨X, hXl, hXB, hXb, G⟩ := st_G l C0
  obtain ⟨hx, hb, hr, hml, hown, hts, hX, hbl, hlocks, hgv⟩ := C0
  subst hXl
  have eb : ([Value.ref b] : List Value) = ([.ref 1001] : List Value).map (up X) := by
    show [Value.ref b] = [Value.ref (xad X 1001)]
    rw [hXb]
  have K := law_start (e := e) (below := below) (meth := meth) (Z := lw_Z below #[Value.ref b] s) G (Nat.le_of_eq hXB) hfl hL (fun ad i cells slots u h1 h2 _ => by
    intro H locs ls hP hS hl
    refine lv_iconst (n := 1) (v := 1) hx hb (by decide +kernel) rfl ?_
    refine va_forget (fun q hq => by have := hS.2.2 q hq; rw [← hXB]; exact this) ?_
    refine W.widen (k := 601024) (n := 7293034) h1 h2 ?_
    exact lw_ret hx hb hr hlocks (by decide +kernel))
  have hls := lv_entry ([.ref b]) (n := 7) (Nat.le_of_ble_eq_true rfl)
  have ea : lv_args 0 [Value.ref b] = lvA (up X) 0 (lvE [.ref 1001] 7) := by rw [lvE_in X [.ref 1001] 0 7, ← eb]
  rw [ea] at hls
  rw [lg_entry_eq]
  exact K mZ_ok mZ_zr s.heap [] _ (fun k q h => by simp [wldC] at h) va_S.rf hls
