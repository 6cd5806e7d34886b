/-! all cells are made: the world is whole; the memory that the constructors leave is related -/
def fullS (S : Nat → Nat → Bool) : Bool := (List.range nW).all (fun a => match ly a with
  | (1, c, n) => (List.range n).all (fun j => Nat.blt (fty c j) 3 || S a j)
  | (6, _, n) => (List.range n).all (fun j => S a j)
  | _ => true)
set_option maxRecDepth 100000 in
theorem ly_kd : ∀ a, a < nW → (ly a).1 = 1 ∨ (ly a).1 = 2 ∨ (ly a).1 = 3 ∨ (ly a).1 = 4 ∨ (ly a).1 = 6 := by decide +kernel
theorem full_P {X : Xc} {u : Mm} {S : Nat → Nat → Bool} {H : Heap} (hf : fullS S = true) (hP : va_P (xD X) vwCl (wldC X u nW S) H) : va_P (xD X) vwCl (wld X u) H := by
  intro k q hq
  obtain ⟨hk, rfl⟩ := wld_le X u hq
  have h := hP k _ (wldC_at X u hk)
  have hb := List.all_eq_true.mp hf k (List.mem_range.mpr hk)
  have hkd := ly_kd k hk
  obtain ⟨t, ht⟩ : ∃ t, ly k = t := ⟨_, rfl⟩
  obtain ⟨kd, x, n⟩ := t
  rw [ht] at hkd
  have hkd : kd = 1 ∨ kd = 2 ∨ kd = 3 ∨ kd = 4 ∨ kd = 6 := hkd
  have hb : (match ly k with
    | (1, c, n) => (List.range n).all (fun j => Nat.blt (fty c j) 3 || S k j)
    | (6, _, n) => (List.range n).all (fun j => S k j)
    | _ => true) = true := hb
  rw [ht] at hb
  rcases hkd with rfl | rfl | rfl | rfl | rfl
  · have hb : (List.range n).all (fun j => Nat.blt (fty x j) 3 || S k j) = true := hb
    have hfl : ∀ j, j ∈ List.range n → fldC X u S k x j = fld X u k x j := by
      intro j hj
      have hb' : (Nat.blt (fty x j) 3 || S k j) = true := List.all_eq_true.mp hb j hj
      unfold fldC fld
      generalize fty x j = f at hb' ⊢
      match f, hb' with
      | 0, _ => rfl
      | 1, _ => rfl
      | 2, _ => rfl
      | f + 3, hb' =>
        have hs : S k j = true := by
          rcases (Bool.or_eq_true _ _).mp hb' with z | z
          · rw [Nat.blt_eq] at z; omega
          · exact z
        show (if S k j = true then Value.ref (xad X (rr k j)) else .null) = .ref (xad X (rr k j))
        rw [if_pos hs]
    rw [entC_obj X u ht, List.map_congr_left hfl] at h
    rw [ent_obj X u ht]
    exact h
  · rw [entC_int X u ht] at h
    rw [ent_int X u ht]
    exact h
  · rw [entC_long X u ht] at h
    rw [ent_long X u ht]
    exact h
  · rw [entC_bool X u ht] at h
    rw [ent_bool X u ht]
    exact h
  · have hb : (List.range n).all (fun j => S k j) = true := hb
    rw [entC_ref X u ht] at h
    rw [ent_ref X u ht]
    have h : H[xad X k]? = some (arrV (xid X (4 + x)) n (fun j => va_rf (if S k j = true then some (xad X (rr k j)) else none))) := h
    show H[xad X k]? = some (arrV (xid X (4 + x)) n (fun j => va_rf (some (xad X (rr k j)))))
    rw [h]
    have e : (fun j : Fin n => va_rf (if S k j.val = true then some (xad X (rr k j.val)) else none)) = (fun j : Fin n => va_rf (some (xad X (rr k j.val)))) := funext fun j => by
      rw [if_pos (List.all_eq_true.mp hb j.val (List.mem_range.mpr j.isLt))]
    unfold arrV
    rw [e]
theorem Vc_of_Vx {X : Xc} {S : Nat → Nat → Bool} {p : Program} {e : Env} {R : Room} {s : State} {m : MethodId} {args : Array Value} {below : List Frame} {meth : Method} {c : Code} {nL cells slots : Nat} {Z : State → Prop} {pc : Nat} {lv : List (Option Value)} {st : List Value} {u : Mm} (hf : fullS S = true) (h : Vx X p e R s m args below meth c nL cells slots Z pc lv st u) : Vc X nW S p e R s m args below meth c nL cells slots Z pc lv st u := fun _ _ H locs ls hP hS hl => h H locs ls (full_P hf hP) hS hl
set_option maxRecDepth 100000 in
theorem sF_full : fullS sF = true := by decide +kernel
theorem mZ_ok : OkS 0 sZ0 := ⟨fun _ _ h => (Bool.false_ne_true h).elim, fun _ _ _ => rfl⟩
theorem mZ_zr : ZrC 0 mZ0 := fun _ _ => ⟨rfl, rfl⟩
/-! the start is related -/
theorem uF_q : nQ (uF.1 236) = 0 := by decide
theorem uF_k : nK (uF.1 236) = 0 := by decide
theorem uF_a : nA (uF.1 236) = 0 := by decide
theorem uF_w : nW' (uF.1 236) = 0 := by decide
theorem wrds_at : ∀ k, k < 24 → (wrds.map e5).getD k 0 = e5 (wrds.getD k []) := by decide
theorem uF_tape : TapeR uF := ⟨⟨0, by decide, rfl, rfl⟩, fun i _ => ⟨rfl, 0, by decide, rfl⟩, rfl⟩
theorem uF_words : WordsR uF := fun k hk => congrArg lN (wrds_at k hk)
theorem uF_kept : KeptR uF := ⟨Or.inl ⟨rfl, rfl, rfl, rfl⟩, rfl, rfl, rfl, rfl, ⟨0, by decide, rfl, rfl, fun k h => absurd h (Nat.not_lt_zero k)⟩, ⟨0, by decide, rfl, rfl, fun k h => absurd h (Nat.not_lt_zero k)⟩, ⟨0, by decide, rfl, rfl, fun k h => absurd h (Nat.not_lt_zero k)⟩, Or.inl ⟨rfl, rfl⟩⟩
theorem nolt {n k : Nat} {Q : Prop} (e : n = 0) (h : k < n) : Q := absurd h (by omega)
theorem uF_head : HeadOk (uF.1 236) := by
  refine ⟨⟨?_, ?_, ?_, ?_, ?_, ?_, ?_, ?_⟩, fun q hq => nolt uF_q hq, fun w hw => nolt uF_w hw⟩
  · rw [uF_q]; rfl
  · rw [uF_q]; decide
  · rw [uF_k]; rfl
  · rw [uF_k]; decide
  · rw [uF_a]; rfl
  · rw [uF_a]; decide
  · rw [uF_w]; rfl
  · rw [uF_w]; decide
theorem uF_city : CityR uF 5 (uF.1 236) (uF.2 241) := ⟨⟨rfl, rfl, rfl, rfl, rfl, rfl⟩, fun q hq => nolt uF_q hq, fun q hq => nolt uF_k hq, fun q hq => nolt uF_a hq, fun q hq => nolt uF_w hq⟩
theorem uF_lok : LifeOk (uF.1 236) (uF.1 236) := by
  refine ⟨⟨0, by decide, rfl⟩, fun i _ h => ?_, fun i _ h => ?_, fun q hq => nolt uF_a hq, fun a b ha _ => nolt uF_a ha, fun w hw => nolt uF_w hw⟩
  · have h : tb 0 i = true := h
    rw [tb_0] at h; cases h
  · have h : tb 0 i = true := h
    rw [tb_0] at h; cases h
theorem uF_life : LifeR uF 20 (uF.1 236) (uF.1 236) := ⟨⟨rfl, rfl, rfl, rfl⟩, fun q hq => nolt uF_a hq, fun q hq => nolt uF_q hq, fun q hq => nolt uF_w hq⟩
theorem uF_rl : Rl uF := ⟨uF_tape, uF_words, uF_kept, ⟨uF_head, uF_city, uF_lok, uF_life, Or.inl rfl, Or.inl ⟨rfl, rfl⟩⟩, ⟨0, 0, by decide, by decide, rfl, rfl, rfl, fun i h => absurd h (Nat.not_lt_zero i)⟩, fun k _ => Or.inl ⟨tb_0 k, rfl⟩⟩
