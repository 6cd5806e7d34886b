/-! pairs: days, undo, law, bare, odds -/
section PDays
variable {X : Xc} {d : Nat} {u : Mm} {g : Nat → Int32}
theorem Rl_md {t : Nat → Int32} {sd sn : Int32} (h : Rl u) : Rl (md u (u.1 236) t sd sn) := by
  refine h.congr (fun a j ha => ?_) rfl
  rw [md_at]
  split
  · rename_i q; rw [q]
  · split
    · rename_i q; subst q; exact absurd (show (false : Bool) = true from ha) (by decide)
    · split
      · rename_i q; obtain ⟨rfl, rfl⟩ := q; exact absurd (show (false : Bool) = true from ha) (by decide)
      · split
        · rename_i q; obtain ⟨rfl, rfl⟩ := q; exact absurd (show (false : Bool) = true from ha) (by decide)
        · rfl
theorem Rl_240 {f : Nat → Int32} (h : Rl u) : Rl (mR u 240 f) := by
  refine h.congr (fun a j ha => ?_) rfl
  rw [mR_at]
  split
  · rename_i q; subst q; exact absurd (show (false : Bool) = true from ha) (by decide)
  · rfl
theorem Rl_life {l : Nat → Nat → Int32} (h : Rl u) (hl : LifeP (u.1 236) (u.1 236) l) : Rl (lm u 20 l) := by
  have hcy : ∀ b, ¬ (20 ≤ b ∧ b ≤ 28) → (lm u 20 l).1 b = u.1 b := fun b hb => lm_o (by omega)
  have hag : ∀ rel : Nat → Nat → Bool, (∀ b, 20 ≤ b → b ≤ 28 → ∀ j, rel b j = false) → AG rel u (lm u 20 l) := by
    intro rel hr a j ha
    by_cases e : 20 ≤ a ∧ a ≤ 28
    · rw [hr a e.1 e.2 j] at ha; cases ha
    · rw [hcy a e]
  have r9 : ∀ rel : Nat → Nat → Bool, (∀ j, rel 20 j = false ∧ rel 21 j = false ∧ rel 22 j = false ∧ rel 23 j = false ∧ rel 24 j = false ∧ rel 25 j = false ∧ rel 26 j = false ∧ rel 27 j = false ∧ rel 28 j = false) → ∀ b, 20 ≤ b → b ≤ 28 → ∀ j, rel b j = false := by
    intro rel hr b h1 h2 j
    obtain ⟨a0, a1, a2, a3, a4, a5, a6, a7, a8⟩ := hr j
    rcases (show b = 20 ∨ b = 21 ∨ b = 22 ∨ b = 23 ∨ b = 24 ∨ b = 25 ∨ b = 26 ∨ b = 27 ∨ b = 28 by omega) with rfl | rfl | rfl | rfl | rfl | rfl | rfl | rfl | rfl <;> assumption
  refine Rl_act (s := u.1 236) h (hag relT (r9 _ fun j => ⟨rfl, rfl, rfl, rfl, rfl, rfl, rfl, rfl, rfl⟩)) (hag relK (r9 _ fun j => ⟨rfl, rfl, rfl, rfl, rfl, rfl, rfl, rfl, rfl⟩)) (hag relI (r9 _ fun j => ⟨rfl, rfl, rfl, rfl, rfl, rfl, rfl, rfl, rfl⟩)) rfl (fun k a b => hcy _ (by omega)) (by rw [hcy 5 (by omega)]) (by rw [hcy 5 (by omega)]) (by rw [hcy 29 (by omega)]) (fun k a b => hcy _ (by omega)) (hcy 236 (by omega)) Out.rf h.2.2.2.1.2.2.1 ?_ (h.2.2.2.2.1.congr (hag relP (r9 _ fun j => ⟨rfl, rfl, rfl, rfl, rfl, rfl, rfl, rfl, rfl⟩)))
  refine LifeR_P.mpr ?_
  have e : (fun c => (lm u 20 l).1 (20 + c)) = fun c => if c ≤ 8 then l c else u.1 (20 + c) := by
    funext c
    by_cases hc : c ≤ 8
    · rw [if_pos hc, lm_in (by omega) (by omega), show 20 + c - 20 = c by omega]
    · rw [if_neg hc, lm_o (by omega)]
  rw [e]
  exact hl
theorem c_mlay {K : Mm → Prop} (hd : 1 ≤ d) (hK : K (mR u 240 (fun k => if k < 92 then u.1 236 (198 + k) else u.1 240 k))) : CV X d 291 [.ref 234] u K := by
  obtain ⟨d, rfl, hd1⟩ := dpos hd
  have e0 : mR u 240 (fun k => if k < 0 then u.1 236 (198 + k) else u.1 240 k) = u := by
    refine mm_ext (fun b k => ?_) rfl
    rw [mR_at]
    split
    · rename_i q
      rw [if_neg (by omega), q]
    · rfl
  refine CV_of mk_X13_layAside.2.2 rfl (B_M_layAside_0 ?_)
  suffices hz : VV X d 291 K 2 [some (.ref 234), some (.int (nI 0))] [] (mR u 240 (fun k => if k < 0 then u.1 236 (198 + k) else u.1 240 k)) by rwa [e0] at hz
  refine lup (n := 92) (W := fun j => VV X d 291 K 2 [some (.ref 234), some (.int (nI j))] [] (mR u 240 (fun k => if k < j then u.1 236 (198 + k) else u.1 240 k))) ?_
  intro j hj ih
  refine B_M_layAside_2 ?_
  simp (disch := omega) only [la1, la2, lt1, lt2, nI_add, pk_mul, nI_clamp, vpn, nI_leI, nI_ltI, nI_eq, ll1, ll2, ll3, ll4, le1, le2, true_and, and_true, not_true_eq_false, not_false_eq_true, forall_const, false_implies, implies_true, if_true, if_false, ite_true, ite_false, and_self, false_and, and_false, mR_n, mR_w]
  refine ⟨fun q => ?_, fun q => ⟨by omega, by omega, ?_⟩⟩
  · rw [show j = 92 by omega]; exact hK
  · have ex : upd (fun k => if k < j then u.1 236 (198 + k) else u.1 240 k) j (u.1 236 (198 + j)) = fun k => if k < j + 1 then u.1 236 (198 + k) else u.1 240 k := by
      funext k
      rw [upd_at]
      by_cases q1 : k = j
      · subst q1; rw [if_pos rfl, if_pos (by omega)]
      · rw [if_neg q1]
        by_cases q2 : k < j
        · rw [if_pos q2, if_pos (by omega)]
        · rw [if_neg q2, if_neg (by omega)]
    rw [ex]
    exact ih (by omega)
/-- what is so taken from row f -/
def rst (f s : Nat → Int32) (k : Nat) : Int32 := if 198 ≤ k ∧ k < 290 then f (k - 198) else s k
theorem l_mback {k0 : Nat} {f : Nat → Int32} (W : Nat → Mm → Prop) (hW : ∀ j v, j ≤ 92 → (j < 92 → W (j + 1) (mI v 236 (198 + j) (f j))) → (j = 92 → W 93 v) → W j v) (h : W 93 (mR u 236 (rst f (u.1 236)))) : W 0 u := by
  have e0 : mR u 236 (fun k => if 198 ≤ k ∧ k < 198 + 0 then f (k - 198) else u.1 236 k) = u := by
    refine mm_ext (fun b k => ?_) rfl
    rw [mR_at]
    split
    · rename_i q
      rw [if_neg (by omega), q]
    · rfl
  suffices hz : W 0 (mR u 236 (fun k => if 198 ≤ k ∧ k < 198 + 0 then f (k - 198) else u.1 236 k)) by rwa [e0] at hz
  refine lup (n := 92) (W := fun j => W j (mR u 236 (fun k => if 198 ≤ k ∧ k < 198 + j then f (k - 198) else u.1 236 k))) ?_
  intro j hj ih
  refine hW _ _ hj (fun q => ?_) (fun q => ?_)
  · have ex : upd (fun k => if 198 ≤ k ∧ k < 198 + j then f (k - 198) else u.1 236 k) (198 + j) (f j) = fun k => if 198 ≤ k ∧ k < 198 + (j + 1) then f (k - 198) else u.1 236 k := by
      funext k
      rw [upd_at]
      by_cases q1 : k = 198 + j
      · subst q1; rw [if_pos rfl, if_pos (by omega), show 198 + j - 198 = j by omega]
      · rw [if_neg q1]
        by_cases q2 : 198 ≤ k ∧ k < 198 + j
        · rw [if_pos q2, if_pos (by omega)]
        · rw [if_neg q2, if_neg (by omega)]
    rw [mR_w, ex]
    exact ih q
  · subst q
    exact h
theorem c_mback {K : Mm → Prop} (hd : 1 ≤ d) (hK : K (mR u 236 (rst (u.1 240) (u.1 236)))) : CV X d 292 [.ref 234] u K := by
  obtain ⟨d, rfl, hd1⟩ := dpos hd
  refine CV_of mk_X13_takeBack.2.2 rfl (B_M_takeBack_0 ?_)
  have key : ∀ j v, j ≤ 92 → v.1 240 = u.1 240 → (j < 92 → VV X d 292 K 2 [some (.ref 234), some (.int (nI (j + 1)))] [] (mI v 236 (198 + j) (u.1 240 j))) → (j = 92 → K v) → VV X d 292 K 2 [some (.ref 234), some (.int (nI j))] [] v := by
    intro j v hj e h1 h2
    refine B_M_takeBack_2 ?_
    simp (disch := omega) only [la1, la2, lt1, lt2, nI_add, pk_mul, nI_clamp, vpn, nI_leI, nI_ltI, nI_eq, ll1, ll2, ll3, ll4, le1, le2, true_and, and_true, not_true_eq_false, not_false_eq_true, forall_const, false_implies, implies_true, if_true, if_false, ite_true, ite_false, and_self, false_and, and_false, e]
    exact ⟨fun q => h2 (by omega), fun q => ⟨by omega, by omega, h1 (by omega)⟩⟩
  refine l_mback (k0 := 0) (f := u.1 240) (W := fun j v => if j = 93 then K v else (v.1 240 = u.1 240 → VV X d 292 K 2 [some (.ref 234), some (.int (nI j))] [] v)) ?_ (by rw [if_pos rfl]; exact hK) rfl
  intro j v hj h1 h2
  rw [if_neg (by omega)]
  intro e
  refine key j v hj e (fun q => ?_) (fun q => ?_)
  · have := h1 q
    rw [if_neg (by omega)] at this
    exact this (by rw [mI_r (by omega)]; exact e)
  · have := h2 q
    rwa [if_pos rfl] at this
end PDays
