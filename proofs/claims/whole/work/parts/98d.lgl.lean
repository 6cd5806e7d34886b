/-! a log is lived -/
def lvLine (g s : Nat → Int32) (c : LL) : Int32 × (Nat → Int32) :=
  if c.1 = 7 then (whyM g s c.2.1 c.2.2.1, if whyM g s c.2.1 c.2.2.1 = 0 then actM s c.2.1 c.2.2.1 else s)
  else if c.1 = 8 then (if whyC s c.2.1 = 0 then (0, actC s c.2.1) else (whyC s c.2.1 + 10, s))
  else if c.1 = 9 then (if whyS s c.2.1 c.2.2.1 = 0 then (0, actS s c.2.1 c.2.2.1) else (whyS s c.2.1 c.2.2.1 + 20, s))
  else if c.1 = 10 then (if c.2.1 = c.2.2.1 then (39, s) else if whyL s c.2.1 c.2.2.1 (nI c.2.2.2) = 0 then (0, actL s c.2.1 c.2.2.1 (nI c.2.2.2)) else (whyL s c.2.1 c.2.2.1 (nI c.2.2.2) + 30, s))
  else if (s 198).toNatClampNeg + c.2.2.2 ≤ 400 then (0, (daysF g (s, fun _ => 0, nI c.2.2.2, 0) c.2.2.2).1) else (41, s)
def lvAll (g : Nat → Int32) : List LL → Nat → (Nat → Int32) → Int32 × Nat × (Nat → Int32)
  | [], k, s => (0, k, s)
  | c :: r, k, s => if (lvLine g s c).1 = 0 then lvAll g r (k + 1) (lvLine g s c).2 else ((lvLine g s c).1, k, s)
section LvF
variable {g s : Nat → Int32} {c : LL}
theorem why3 {x : Int32} {y : Int32} (h : x = 1 ∨ x = 2 ∨ x = 3) (hy : y = 10 ∨ y = 20 ∨ y = 30) : x + y ≠ 0 := by
  rcases h with rfl | rfl | rfl <;> rcases hy with rfl | rfl | rfl <;> decide
theorem whyC_3 {a : Nat} (h : whyC s a ≠ 0) : whyC s a = 1 ∨ whyC s a = 2 ∨ whyC s a = 3 := by
  unfold whyC at h ⊢
  split
  · exact Or.inl rfl
  · split
    · exact Or.inr (Or.inl rfl)
    · split
      · rename_i h1 h2 h3
        rw [if_neg h1, if_neg h2, if_pos h3] at h
        exact absurd rfl h
      · exact Or.inr (Or.inr rfl)
theorem whyS_3 {a k : Nat} (h : whyS s a k ≠ 0) : whyS s a k = 1 ∨ whyS s a k = 2 ∨ whyS s a k = 3 := by
  unfold whyS at h ⊢
  split
  · exact Or.inl rfl
  · split
    · exact Or.inr (Or.inl rfl)
    · split
      · rename_i h1 h2 h3
        rw [if_neg h1, if_neg h2, if_pos h3] at h
        exact absurd rfl h
      · exact Or.inr (Or.inr rfl)
theorem whyL_3 {a b : Nat} {n : Int32} (h : whyL s a b n ≠ 0) : whyL s a b n = 1 ∨ whyL s a b n = 2 ∨ whyL s a b n = 3 := by
  unfold whyL at h ⊢
  split
  · exact Or.inl rfl
  · split
    · split
      · rename_i h1 h2 h3
        rw [if_neg h1, if_pos h2, if_pos h3] at h
        exact absurd rfl h
      · exact Or.inr (Or.inr rfl)
    · exact Or.inr (Or.inl rfl)
theorem Out.upd {g s : Nat → Int32} {j : Nat} {x : Int32} (h : Out g s) (hj : 198 ≤ j ∧ j < 290) : Out g (upd s j x) := fun k hk => by rw [pk_un (by omega)]; exact h k hk
theorem lvLine_ok (hg : HeadOk g) (hs : Stt g s) (ho : llOk (nQ g) (nK g) (nA g) c) : Stt g (lvLine g s c).2 ∧ Out s (lvLine g s c).2 ∧ ((lvLine g s c).1 ≠ 0 → (lvLine g s c).2 = s) := by
  have hA := hg.1.2.2.2.2.2.1
  unfold lvLine
  rcases ho with ⟨e, n1, n2⟩ | ⟨e, a1, x1⟩ | ⟨e, a1⟩ | ⟨e, a1, x1⟩ | ⟨e, a1, x1, n1, n2⟩
  · rw [if_neg (by omega), if_neg (by omega), if_neg (by omega), if_neg (by omega)]
    obtain ⟨t, ht, et⟩ := hs.2.1
    split
    · rename_i hle
      rw [et, nI_clamp (by omega)] at hle
      refine ⟨(daysF_ok (D := (s, fun _ => 0, nI c.2.2.2, 0)) hg hs et c.2.2.2 hle).1, daysF_Out (D := (s, fun _ => 0, nI c.2.2.2, 0)) hg hs et c.2.2.2 hle, fun q => absurd rfl q⟩
    · exact ⟨hs, Out.rf, fun _ => rfl⟩
  · rw [if_pos e]
    dsimp only
    by_cases hw : whyM g s c.2.1 c.2.2.1 = 0
    · rw [if_pos hw]
      exact ⟨actM_ok hg hs a1 x1 hw, Out.upd Out.rf (by omega), fun q => absurd hw q⟩
    · rw [if_neg hw]
      exact ⟨hs, Out.rf, fun _ => rfl⟩
  · rw [if_neg (by omega), if_pos e]
    by_cases hw : whyC s c.2.1 = 0
    · rw [if_pos hw]
      exact ⟨actC_ok hg hs a1, Out.upd (Out.upd Out.rf (by omega)) (by omega), fun q => absurd rfl q⟩
    · rw [if_neg hw]
      exact ⟨hs, Out.rf, fun _ => rfl⟩
  · rw [if_neg (by omega), if_neg (by omega), if_pos e]
    by_cases hw : whyS s c.2.1 c.2.2.1 = 0
    · rw [if_pos hw]
      exact ⟨actS_ok hg hs a1 x1, Out.upd (Out.upd Out.rf (by omega)) (by omega), fun q => absurd rfl q⟩
    · rw [if_neg hw]
      exact ⟨hs, Out.rf, fun _ => rfl⟩
  · rw [if_neg (by omega), if_neg (by omega), if_neg (by omega), if_pos e]
    by_cases hx : c.2.1 = c.2.2.1
    · rw [if_pos hx]
      exact ⟨hs, Out.rf, fun _ => rfl⟩
    · rw [if_neg hx]
      by_cases hw : whyL s c.2.1 c.2.2.1 (nI c.2.2.2) = 0
      · rw [if_pos hw]
        exact ⟨actL_ok hg hs a1 x1, Out.upd (Out.upd Out.rf (by omega)) (by omega), fun q => absurd rfl q⟩
      · rw [if_neg hw]
        exact ⟨hs, Out.rf, fun _ => rfl⟩
theorem Out.tr {a b e : Nat → Int32} (h : Out a b) (h2 : Out b e) : Out a e := fun k hk => (h2 k hk).trans (h k hk)
theorem lvAll_ok (hg : HeadOk g) : ∀ (ls : List LL) (k : Nat) (s : Nat → Int32), Stt g s → (∀ c ∈ ls, llOk (nQ g) (nK g) (nA g) c) → Stt g (lvAll g ls k s).2.2 ∧ Out s (lvAll g ls k s).2.2 ∧ k ≤ (lvAll g ls k s).2.1 ∧ (lvAll g ls k s).2.1 ≤ k + ls.length ∧ ((lvAll g ls k s).2.1 = k → (lvAll g ls k s).2.2 = s)
  | [], k, s, hs, _ => ⟨hs, Out.rf, Nat.le_refl _, Nat.le_refl _, fun _ => rfl⟩
  | c :: r, k, s, hs, ho => by
    obtain ⟨h1, h2, h3⟩ := lvLine_ok hg hs (ho c List.mem_cons_self)
    rw [lvAll]
    by_cases hz : (lvLine g s c).1 = 0
    · rw [if_pos hz]
      obtain ⟨i1, i2, i3, i4, -⟩ := lvAll_ok hg r (k + 1) _ h1 (fun c' hc => ho c' (List.mem_cons_of_mem _ hc))
      refine ⟨i1, h2.tr i2, by omega, by rw [List.length_cons]; omega, fun q => by omega⟩
    · rw [if_neg hz]
      exact ⟨hs, Out.rf, Nat.le_refl _, by rw [List.length_cons]; dsimp only; omega, fun _ => rfl⟩
end LvF
section LvC
variable {X : Xc} {d : Nat} {u : Mm} {g s : Nat → Int32} {nm : Nat → Int64} {l : Nat → Nat → Int32} {c : LL}
theorem c_raised {K : Int32 → Mm → Prop} {x y : Int32} (hd : 1 ≤ d) (h1 : x ≠ 0 → K (x + y) u) (h0 : x = 0 → K 0 u) : CI X d 67 [.int x, .int y] u K := by
  obtain ⟨d, rfl, -⟩ := dpos hd
  exact CI_of mk_X5_raised.2.2 rfl (B_LR_raised_0 ⟨h1, h0⟩)
theorem c_liveLine20 {K : Int32 → Mm → Prop} {i : Nat} (hd : 6 ≤ d) (hg : HeadOk g) (hc : CityR u 5 g nm) (hs : Stt g s) (h5 : s 5 = g 5) (hl : LifeP g s l) (hi : i < 40) (hn : lnC u i c) (ho : llOk (nQ g) (nK g) (nA g) c) (hK : ∀ l', LifeP g (lvLine g s c).2 l' → K (lvLine g s c).1 (lm u 20 l')) : CI X d 66 [.ref 149, .ref 20, .int (nI i)] (lm u 20 l) K := by
  obtain ⟨d, rfl, hd1⟩ := dpos hd
  have hQ := hg.1.2.1
  have hA := hg.1.2.2.2.2.2.1
  have hKK := hg.1.2.2.2.1
  have vi : vp_in (nI i) 40 := vp_in_nI hi (by decide)
  obtain ⟨n0, n1, n2, n3, n4⟩ := hn
  refine CI_of mk_X5_liveLine.2.2 rfl (B_LR_liveLine20_0 ?_)
  rw [nI_clamp (show i < 2 ^ 31 by omega), lm_o (b := 150) (by omega), lm_o (b := 151) (by omega), lm_o (b := 152) (by omega), lm_o (b := 153) (by omega), n0]
  unfold lvLine at hK
  rcases ho with ⟨e, m1, m2⟩ | ⟨e, a1, x1⟩ | ⟨e, a1⟩ | ⟨e, a1, x1⟩ | ⟨e, a1, x1, m1, m2⟩
  · rw [if_neg (by omega), if_neg (by omega), if_neg (by omega), if_neg (by omega)] at hK
    rw [e, n1 e]
    refine ⟨vi, vi, ⟨fun z => absurd z (by decide), fun z => absurd z (by decide), fun z => absurd z (by decide), fun z => absurd z (by decide)⟩, fun _ => ⟨vi, ?_⟩⟩
    obtain ⟨t, ht, et⟩ := hs.2.1
    have el : (lm u 20 l).1 20 1 = nI t := by rw [lm_in (by omega) (by omega)]; exact hl.1.1.trans et
    rw [el, show (400 : Int32) - nI t = nI (400 - t) from pk_sub (a := 400) ht]
    rw [et, nI_clamp (show t < 2 ^ 31 by omega)] at hK
    refine ⟨fun z => ⟨vi, vi, ?_⟩, fun z => ?_⟩
    · have z := (nI_leI (by omega) (by omega)).mp z
      have em : mnD c.2.2.2 t = c.2.2.2 := by unfold mnD; rw [if_neg (by omega)]
      rw [if_pos (by omega)] at hK
      refine c_live20 (D := (s, fun _ => 0, nI c.2.2.2, 0)) (by omega) hg hc hs h5 et ht (by omega) hl fun l' hl' => ?_
      rw [em] at hl'
      exact hK l' hl'
    · have z := mt (nI_leI (a := c.2.2.2) (b := 400 - t) (by omega) (by omega)).mpr z
      rw [if_neg (by omega)] at hK
      exact hK l hl
  · rw [if_pos e] at hK
    rw [e, n2 (by omega), n3 (by omega) (by omega)]
    refine ⟨vi, vi, ⟨fun _ => ⟨vi, ?_⟩, fun z => absurd z (by decide), fun z => absurd z (by decide), fun z => absurd z (by decide)⟩, fun z => absurd z (by decide)⟩
    refine c_tryM20 (by omega) hg hs hl a1 x1 (fun hw => ?_) (fun hw l' hl' => ?_)
    · rw [if_neg hw] at hK
      exact hK l hl
    · rw [if_pos hw, hw] at hK
      exact hK l' hl'
  · rw [if_neg (by omega), if_pos e] at hK
    rw [e, n2 (by omega)]
    refine ⟨vi, vi, ⟨fun z => absurd z (by decide), fun _ => ?_, fun z => absurd z (by decide), fun z => absurd z (by decide)⟩, fun z => absurd z (by decide)⟩
    refine c_tryC20 (by omega) hg hs hl a1 (fun hw => ?_) (fun hw l' hl' => ?_)
    · rw [if_neg hw] at hK
      exact c_raised (by omega) (fun _ => hK l hl) (fun z => absurd z hw)
    · rw [if_pos hw] at hK
      exact c_raised (by omega) (fun z => absurd rfl z) (fun _ => hK l' hl')
  · rw [if_neg (by omega), if_neg (by omega), if_pos e] at hK
    rw [e, n2 (by omega), n3 (by omega) (by omega)]
    refine ⟨vi, vi, ⟨fun z => absurd z (by decide), fun z => absurd z (by decide), fun _ => ⟨vi, ?_⟩, fun z => absurd z (by decide)⟩, fun z => absurd z (by decide)⟩
    refine c_tryS20 (by omega) hg hs hl a1 x1 (fun hw => ?_) (fun hw l' hl' => ?_)
    · rw [if_neg hw] at hK
      exact c_raised (by omega) (fun _ => hK l hl) (fun z => absurd z hw)
    · rw [if_pos hw] at hK
      exact c_raised (by omega) (fun z => absurd rfl z) (fun _ => hK l' hl')
  · rw [if_neg (by omega), if_neg (by omega), if_neg (by omega), if_pos e] at hK
    rw [e, n2 (by omega), n3 (by omega) (by omega), n4 e]
    refine ⟨vi, vi, ⟨fun z => absurd z (by decide), fun z => absurd z (by decide), fun z => absurd z (by decide), fun _ => ⟨vi, fun z => ⟨vi, vi, ?_⟩, fun z => ?_⟩⟩, fun z => absurd z (by decide)⟩
    · have z : c.2.1 ≠ c.2.2.1 := fun q => z (by rw [q])
      rw [if_neg z] at hK
      refine c_tryL20 (by omega) hg hs hl a1 x1 (fun hw => ?_) (fun hw l' hl' => ?_)
      · rw [if_neg hw] at hK
        exact c_raised (by omega) (fun _ => hK l hl) (fun z => absurd z hw)
      · rw [if_pos hw] at hK
        exact c_raised (by omega) (fun z => absurd rfl z) (fun _ => hK l' hl')
    · have z := (nI_eq (by omega) (by omega)).mp z
      rw [if_pos z] at hK
      exact hK l hl
theorem c_liveLine35 {K : Int32 → Mm → Prop} {i : Nat} (hd : 6 ≤ d) (hg : HeadOk g) (hc : CityR u 5 g nm) (hs : Stt g s) (h5 : s 5 = g 5) (hl : LifeP g s l) (hi : i < 40) (hn : lnC u i c) (ho : llOk (nQ g) (nK g) (nA g) c) (hK : ∀ l', LifeP g (lvLine g s c).2 l' → K (lvLine g s c).1 (lm u 35 l')) : CI X d 66 [.ref 149, .ref 35, .int (nI i)] (lm u 35 l) K := by
  obtain ⟨d, rfl, hd1⟩ := dpos hd
  have hQ := hg.1.2.1
  have hA := hg.1.2.2.2.2.2.1
  have hKK := hg.1.2.2.2.1
  have vi : vp_in (nI i) 40 := vp_in_nI hi (by decide)
  obtain ⟨n0, n1, n2, n3, n4⟩ := hn
  refine CI_of mk_X5_liveLine.2.2 rfl (B_LR_liveLine35_0 ?_)
  rw [nI_clamp (show i < 2 ^ 31 by omega), lm_o (b := 150) (by omega), lm_o (b := 151) (by omega), lm_o (b := 152) (by omega), lm_o (b := 153) (by omega), n0]
  unfold lvLine at hK
  rcases ho with ⟨e, m1, m2⟩ | ⟨e, a1, x1⟩ | ⟨e, a1⟩ | ⟨e, a1, x1⟩ | ⟨e, a1, x1, m1, m2⟩
  · rw [if_neg (by omega), if_neg (by omega), if_neg (by omega), if_neg (by omega)] at hK
    rw [e, n1 e]
    refine ⟨vi, vi, ⟨fun z => absurd z (by decide), fun z => absurd z (by decide), fun z => absurd z (by decide), fun z => absurd z (by decide)⟩, fun _ => ⟨vi, ?_⟩⟩
    obtain ⟨t, ht, et⟩ := hs.2.1
    have el : (lm u 35 l).1 35 1 = nI t := by rw [lm_in (by omega) (by omega)]; exact hl.1.1.trans et
    rw [el, show (400 : Int32) - nI t = nI (400 - t) from pk_sub (a := 400) ht]
    rw [et, nI_clamp (show t < 2 ^ 31 by omega)] at hK
    refine ⟨fun z => ⟨vi, vi, ?_⟩, fun z => ?_⟩
    · have z := (nI_leI (by omega) (by omega)).mp z
      have em : mnD c.2.2.2 t = c.2.2.2 := by unfold mnD; rw [if_neg (by omega)]
      rw [if_pos (by omega)] at hK
      refine c_live35 (D := (s, fun _ => 0, nI c.2.2.2, 0)) (by omega) hg hc hs h5 et ht (by omega) hl fun l' hl' => ?_
      rw [em] at hl'
      exact hK l' hl'
    · have z := mt (nI_leI (a := c.2.2.2) (b := 400 - t) (by omega) (by omega)).mpr z
      rw [if_neg (by omega)] at hK
      exact hK l hl
  · rw [if_pos e] at hK
    rw [e, n2 (by omega), n3 (by omega) (by omega)]
    refine ⟨vi, vi, ⟨fun _ => ⟨vi, ?_⟩, fun z => absurd z (by decide), fun z => absurd z (by decide), fun z => absurd z (by decide)⟩, fun z => absurd z (by decide)⟩
    refine c_tryM35 (by omega) hg hs hl a1 x1 (fun hw => ?_) (fun hw l' hl' => ?_)
    · rw [if_neg hw] at hK
      exact hK l hl
    · rw [if_pos hw, hw] at hK
      exact hK l' hl'
  · rw [if_neg (by omega), if_pos e] at hK
    rw [e, n2 (by omega)]
    refine ⟨vi, vi, ⟨fun z => absurd z (by decide), fun _ => ?_, fun z => absurd z (by decide), fun z => absurd z (by decide)⟩, fun z => absurd z (by decide)⟩
    refine c_tryC35 (by omega) hg hs hl a1 (fun hw => ?_) (fun hw l' hl' => ?_)
    · rw [if_neg hw] at hK
      exact c_raised (by omega) (fun _ => hK l hl) (fun z => absurd z hw)
    · rw [if_pos hw] at hK
      exact c_raised (by omega) (fun z => absurd rfl z) (fun _ => hK l' hl')
  · rw [if_neg (by omega), if_neg (by omega), if_pos e] at hK
    rw [e, n2 (by omega), n3 (by omega) (by omega)]
    refine ⟨vi, vi, ⟨fun z => absurd z (by decide), fun z => absurd z (by decide), fun _ => ⟨vi, ?_⟩, fun z => absurd z (by decide)⟩, fun z => absurd z (by decide)⟩
    refine c_tryS35 (by omega) hg hs hl a1 x1 (fun hw => ?_) (fun hw l' hl' => ?_)
    · rw [if_neg hw] at hK
      exact c_raised (by omega) (fun _ => hK l hl) (fun z => absurd z hw)
    · rw [if_pos hw] at hK
      exact c_raised (by omega) (fun z => absurd rfl z) (fun _ => hK l' hl')
  · rw [if_neg (by omega), if_neg (by omega), if_neg (by omega), if_pos e] at hK
    rw [e, n2 (by omega), n3 (by omega) (by omega), n4 e]
    refine ⟨vi, vi, ⟨fun z => absurd z (by decide), fun z => absurd z (by decide), fun z => absurd z (by decide), fun _ => ⟨vi, fun z => ⟨vi, vi, ?_⟩, fun z => ?_⟩⟩, fun z => absurd z (by decide)⟩
    · have z : c.2.1 ≠ c.2.2.1 := fun q => z (by rw [q])
      rw [if_neg z] at hK
      refine c_tryL35 (by omega) hg hs hl a1 x1 (fun hw => ?_) (fun hw l' hl' => ?_)
      · rw [if_neg hw] at hK
        exact c_raised (by omega) (fun _ => hK l hl) (fun z => absurd z hw)
      · rw [if_pos hw] at hK
        exact c_raised (by omega) (fun z => absurd rfl z) (fun _ => hK l' hl')
    · have z := (nI_eq (by omega) (by omega)).mp z
      rw [if_pos z] at hK
      exact hK l hl
/-- what is told of a log that was lived -/
def fnC (u : Mm) (w : Int32) (k : Nat) (s : Nat → Int32) : Mm := mI (mI (mI (mI (mI u 149 7 1) 149 8 w) 149 9 (nI k)) 149 10 (s 198)) 149 11 (s 201)
theorem lgc {pre r : List LL} {c : LL} : (pre ++ c :: r).getD pre.length (0, 0, 0, 0) = c := by simp [List.getD]
theorem fnC_20 {w : Int32} {k : Nat} (hl : LifeP g s l) : mI (mI (mI (mI (mI (lm u 20 l) 149 7 1) 149 8 w) 149 9 (nI k)) 149 10 ((mI (mI (mI (lm u 20 l) 149 7 1) 149 8 w) 149 9 (nI k)).1 20 1)) 149 11 ((mI (mI (mI (mI (lm u 20 l) 149 7 1) 149 8 w) 149 9 (nI k)) 149 10 ((mI (mI (mI (lm u 20 l) 149 7 1) 149 8 w) 149 9 (nI k)).1 20 1)).1 20 3) = lm (fnC u w k s) 20 l := by
  have e1 : (mI (mI (mI (lm u 20 l) 149 7 1) 149 8 w) 149 9 (nI k)).1 20 1 = s 198 := by
    rw [mI_r (by omega), mI_r (by omega), mI_r (by omega), lm_in (by omega) (by omega)]; exact hl.1.1
  rw [e1]
  have e3 : (mI (mI (mI (mI (lm u 20 l) 149 7 1) 149 8 w) 149 9 (nI k)) 149 10 (s 198)).1 20 3 = s 201 := by
    rw [mI_r (by omega), mI_r (by omega), mI_r (by omega), mI_r (by omega), lm_in (by omega) (by omega)]; exact hl.1.2.2.2
  rw [e3]
  refine mm_ext (fun b k' => ?_) rfl
  unfold fnC
  simp only [mI_at, lm_at]
  by_cases eb : 20 ≤ b ∧ b ≤ 20 + 8
  · have : b ≠ 149 := by omega
    simp only [this, false_and, if_false, eb]
  · simp only [eb, if_false]
theorem c_liveAll20 {K : Int32 → Mm → Prop} (hd : 7 ≤ d) (hg : HeadOk g) (hc : CityR u 5 g nm) {ls : List LL} (h40 : ls.length ≤ 40) (hls : LgC u ls) (ho : ∀ c ∈ ls, llOk (nQ g) (nK g) (nA g) c) (hs : Stt g s) (h5 : s 5 = g 5) (hl : LifeP g s l) (hK : ∀ l', LifeP g (lvAll g ls 0 s).2.2 l' → K (if (lvAll g ls 0 s).1 = 0 then -1 else nI (lvAll g ls 0 s).2.1) (lm (fnC u (lvAll g ls 0 s).1 (lvAll g ls 0 s).2.1 (lvAll g ls 0 s).2.2) 20 l')) : CI X d 65 [.ref 149, .ref 20] (lm u 20 l) K := by
  obtain ⟨d, rfl, hd1⟩ := dpos hd
  refine CI_of mk_X5_liveThrough.2.2 rfl (B_LR_liveThrough20_0 ?_)
  have el : ∀ l, (lm u 20 l).1 149 2 = nI ls.length := fun l => by rw [lm_o (by omega)]; exact hls.1
  have fin : ∀ (w : Int32) (k : Nat) (s' : Nat → Int32) (l' : Nat → Nat → Int32), lvAll g ls 0 s = (w, k, s') → LifeP g s' l' → (¬ w = 0 → K (nI k) (lm (fnC u w k s') 20 l')) ∧ (w = 0 → K (-1) (lm (fnC u w k s') 20 l')) := by
    intro w k s' l' e hl'
    rw [e] at hK
    exact ⟨fun z => by have := hK l' hl'; rw [if_neg z] at this; exact this, fun z => by have := hK l' hl'; rw [if_pos z] at this; exact this⟩
  suffices hz : ∀ (r pre : List LL) (s' : Nat → Int32) (l' : Nat → Nat → Int32), pre ++ r = ls → lvAll g r pre.length s' = lvAll g ls 0 s → Stt g s' → s' 5 = g 5 → LifeP g s' l' → VI X d 65 K 4 [some (.ref 149), some (.ref 20), some (.int 0), some (.int (nI pre.length))] [] (lm u 20 l') from hz ls [] s l rfl rfl hs h5 hl
  intro r
  induction r with
  | nil =>
    intro pre s' l' hp he hs' h5' hl'
    rw [List.append_nil] at hp
    subst hp
    refine B_LR_liveThrough20_4 ?_
    rw [el l', fnC_20 hl']
    exact ⟨fun _ => fin 0 pre.length s' l' he.symm hl', fun z => absurd (nI_le (Nat.le_refl _) (by omega)) z⟩
  | cons c r ih =>
    intro pre s' l' hp he hs' h5' hl'
    have hlen : pre.length < ls.length := by rw [← hp, List.length_append, List.length_cons]; omega
    have hcm : c ∈ ls := by rw [← hp]; simp
    have hln : lnC u pre.length c := by
      have := hls.2 pre.length hlen
      rw [← hp, lgc] at this
      exact this
    obtain ⟨o1, o2, o3⟩ := lvLine_ok hg hs' (ho c hcm)
    refine B_LR_liveThrough20_4 ?_
    rw [el l']
    refine ⟨fun z => absurd ((nI_leI (by omega) (by omega)).mp z) (by omega), fun _ => ⟨fun z => absurd rfl z, fun _ => ?_⟩⟩
    refine c_liveLine20 (by omega) hg hc hs' h5' hl' (by omega) hln (ho c hcm) fun l2 hl2 => ⟨fun z => ?_, fun z => ?_⟩
    · rw [lvAll, if_neg z] at he
      rw [o3 z] at hl2
      refine B_LR_liveThrough20_4 ?_
      rw [el l2, fnC_20 hl2]
      have ff := fin _ _ s' l2 he.symm hl2
      exact ⟨fun _ => ff, fun _ => ⟨fun _ => ff, fun y => absurd y z⟩⟩
    · rw [lvAll, if_pos z] at he
      rw [z, nI_1]
      have hp' : (pre ++ [c]).length = pre.length + 1 := by simp
      have := ih (pre ++ [c]) _ l2 (by rw [List.append_assoc]; exact hp) (by rw [hp']; exact he) o1 (by rw [o2 5 (by omega)]; exact h5') hl2
      rw [hp'] at this
      exact this
theorem fnC_35 {w : Int32} {k : Nat} (hl : LifeP g s l) : mI (mI (mI (mI (mI (lm u 35 l) 149 7 1) 149 8 w) 149 9 (nI k)) 149 10 ((mI (mI (mI (lm u 35 l) 149 7 1) 149 8 w) 149 9 (nI k)).1 35 1)) 149 11 ((mI (mI (mI (mI (lm u 35 l) 149 7 1) 149 8 w) 149 9 (nI k)) 149 10 ((mI (mI (mI (lm u 35 l) 149 7 1) 149 8 w) 149 9 (nI k)).1 35 1)).1 35 3) = lm (fnC u w k s) 35 l := by
  have e1 : (mI (mI (mI (lm u 35 l) 149 7 1) 149 8 w) 149 9 (nI k)).1 35 1 = s 198 := by
    rw [mI_r (by omega), mI_r (by omega), mI_r (by omega), lm_in (by omega) (by omega)]; exact hl.1.1
  rw [e1]
  have e3 : (mI (mI (mI (mI (lm u 35 l) 149 7 1) 149 8 w) 149 9 (nI k)) 149 10 (s 198)).1 35 3 = s 201 := by
    rw [mI_r (by omega), mI_r (by omega), mI_r (by omega), mI_r (by omega), lm_in (by omega) (by omega)]; exact hl.1.2.2.2
  rw [e3]
  refine mm_ext (fun b k' => ?_) rfl
  unfold fnC
  simp only [mI_at, lm_at]
  by_cases eb : 35 ≤ b ∧ b ≤ 35 + 8
  · have : b ≠ 149 := by omega
    simp only [this, false_and, if_false, eb]
  · simp only [eb, if_false]
theorem c_liveAll35 {K : Int32 → Mm → Prop} (hd : 7 ≤ d) (hg : HeadOk g) (hc : CityR u 5 g nm) {ls : List LL} (h40 : ls.length ≤ 40) (hls : LgC u ls) (ho : ∀ c ∈ ls, llOk (nQ g) (nK g) (nA g) c) (hs : Stt g s) (h5 : s 5 = g 5) (hl : LifeP g s l) (hK : ∀ l', LifeP g (lvAll g ls 0 s).2.2 l' → K (if (lvAll g ls 0 s).1 = 0 then -1 else nI (lvAll g ls 0 s).2.1) (lm (fnC u (lvAll g ls 0 s).1 (lvAll g ls 0 s).2.1 (lvAll g ls 0 s).2.2) 35 l')) : CI X d 65 [.ref 149, .ref 35] (lm u 35 l) K := by
  obtain ⟨d, rfl, hd1⟩ := dpos hd
  refine CI_of mk_X5_liveThrough.2.2 rfl (B_LR_liveThrough35_0 ?_)
  have el : ∀ l, (lm u 35 l).1 149 2 = nI ls.length := fun l => by rw [lm_o (by omega)]; exact hls.1
  have fin : ∀ (w : Int32) (k : Nat) (s' : Nat → Int32) (l' : Nat → Nat → Int32), lvAll g ls 0 s = (w, k, s') → LifeP g s' l' → (¬ w = 0 → K (nI k) (lm (fnC u w k s') 35 l')) ∧ (w = 0 → K (-1) (lm (fnC u w k s') 35 l')) := by
    intro w k s' l' e hl'
    rw [e] at hK
    exact ⟨fun z => by have := hK l' hl'; rw [if_neg z] at this; exact this, fun z => by have := hK l' hl'; rw [if_pos z] at this; exact this⟩
  suffices hz : ∀ (r pre : List LL) (s' : Nat → Int32) (l' : Nat → Nat → Int32), pre ++ r = ls → lvAll g r pre.length s' = lvAll g ls 0 s → Stt g s' → s' 5 = g 5 → LifeP g s' l' → VI X d 65 K 4 [some (.ref 149), some (.ref 35), some (.int 0), some (.int (nI pre.length))] [] (lm u 35 l') from hz ls [] s l rfl rfl hs h5 hl
  intro r
  induction r with
  | nil =>
    intro pre s' l' hp he hs' h5' hl'
    rw [List.append_nil] at hp
    subst hp
    refine B_LR_liveThrough35_4 ?_
    rw [el l', fnC_35 hl']
    exact ⟨fun _ => fin 0 pre.length s' l' he.symm hl', fun z => absurd (nI_le (Nat.le_refl _) (by omega)) z⟩
  | cons c r ih =>
    intro pre s' l' hp he hs' h5' hl'
    have hlen : pre.length < ls.length := by rw [← hp, List.length_append, List.length_cons]; omega
    have hcm : c ∈ ls := by rw [← hp]; simp
    have hln : lnC u pre.length c := by
      have := hls.2 pre.length hlen
      rw [← hp, lgc] at this
      exact this
    obtain ⟨o1, o2, o3⟩ := lvLine_ok hg hs' (ho c hcm)
    refine B_LR_liveThrough35_4 ?_
    rw [el l']
    refine ⟨fun z => absurd ((nI_leI (by omega) (by omega)).mp z) (by omega), fun _ => ⟨fun z => absurd rfl z, fun _ => ?_⟩⟩
    refine c_liveLine35 (by omega) hg hc hs' h5' hl' (by omega) hln (ho c hcm) fun l2 hl2 => ⟨fun z => ?_, fun z => ?_⟩
    · rw [lvAll, if_neg z] at he
      rw [o3 z] at hl2
      refine B_LR_liveThrough35_4 ?_
      rw [el l2, fnC_35 hl2]
      have ff := fin _ _ s' l2 he.symm hl2
      exact ⟨fun _ => ff, fun _ => ⟨fun _ => ff, fun y => absurd y z⟩⟩
    · rw [lvAll, if_pos z] at he
      rw [z, nI_1]
      have hp' : (pre ++ [c]).length = pre.length + 1 := by simp
      have := ih (pre ++ [c]) _ l2 (by rw [List.append_assoc]; exact hp) (by rw [hp']; exact he) o1 (by rw [o2 5 (by omega)]; exact h5') hl2
      rw [hp'] at this
      exact this
end LvC
section LvM
variable {X : Xc} {d : Nat} {u : Mm} {g s : Nat → Int32} {c : LL}
def FrV (u V : Mm) : Prop := (∀ b, b ≠ 234 → b ≠ 236 → b ≠ 247 → V.1 b = u.1 b) ∧ V.2 = u.2 ∧ ∀ j, j ≠ 27 → j ≠ 28 → V.1 234 j = u.1 234 j
theorem FrV.rf : FrV u u := ⟨fun _ _ _ _ => rfl, rfl, fun _ _ _ => rfl⟩
theorem FrV.tr {u v w : Mm} (h : FrV u v) (h2 : FrV v w) : FrV u w := ⟨fun b a1 a2 a3 => (h2.1 b a1 a2 a3).trans (h.1 b a1 a2 a3), h2.2.1.trans h.2.1, fun j a1 a2 => (h2.2.2 j a1 a2).trans (h.2.2 j a1 a2)⟩
theorem FrV.mR {f : Nat → Int32} : FrV u (mR u 236 f) := ⟨fun b _ h _ => mR_n h, rfl, fun j _ _ => by rw [mR_n (by omega)]⟩
theorem c_mlive {K : Int32 → Mm → Prop} {i : Nat} (hd : 6 ≤ d) (hg : HeadOk g) (hs : Stt g (u.1 236)) (hi : i < 40) (hn : lnM u i c) (ho : llOk (nQ g) (nK g) (nA g) c) (hK : ∀ V, FrV u V → V.1 236 = (lvLine g (u.1 236) c).2 → K (lvLine g (u.1 236) c).1 V) : CI X d 304 [.ref 234, .int (nI (4 * i))] u K := by
  obtain ⟨d, rfl, hd1⟩ := dpos hd
  have hQ := hg.1.2.1
  have hA := hg.1.2.2.2.2.2.1
  have hKK := hg.1.2.2.2.1
  have v0 : vp_in (nI (4 * i)) 160 := vp_in_nI (by omega) (by decide)
  have v1 : vp_in (nI (4 * i + 1)) 160 := vp_in_nI (by omega) (by decide)
  have v2 : vp_in (nI (4 * i + 2)) 160 := vp_in_nI (by omega) (by decide)
  have v3 : vp_in (nI (4 * i + 3)) 160 := vp_in_nI (by omega) (by decide)
  obtain ⟨n0, n1, n2, n3, n4⟩ := hn
  refine CI_of mk_X13_live.2.2 rfl (B_M_live_0 ?_)
  rw [la2, la2, la2, nI_clamp (show 4 * i < 2 ^ 31 by omega), nI_clamp (show 4 * i + 1 < 2 ^ 31 by omega), nI_clamp (show 4 * i + 2 < 2 ^ 31 by omega), nI_clamp (show 4 * i + 3 < 2 ^ 31 by omega), n0]
  unfold lvLine at hK
  rcases ho with ⟨e, m1, m2⟩ | ⟨e, a1, x1⟩ | ⟨e, a1⟩ | ⟨e, a1, x1⟩ | ⟨e, a1, x1, m1, m2⟩
  · rw [if_neg (by omega), if_neg (by omega), if_neg (by omega), if_neg (by omega)] at hK
    rw [e, n1 e]
    refine ⟨v1, v2, v0, ⟨fun z => absurd z (by decide), fun z => absurd z (by decide), fun z => absurd z (by decide), fun z => absurd z (by decide), fun _ => ?_⟩, fun z => absurd z (by decide)⟩
    obtain ⟨t, ht, et⟩ := hs.2.1
    rw [et, nI_add]
    rw [et, nI_clamp (show t < 2 ^ 31 by omega)] at hK
    refine ⟨fun z => ?_, fun z => ?_⟩
    · have z : t + c.2.2.2 ≤ 400 := (ll1 (n := 400) (m := t + c.2.2.2) (by omega) (by decide)).mp z
      have em : mnD c.2.2.2 t = c.2.2.2 := by unfold mnD; rw [if_neg (by omega)]
      rw [if_pos z] at hK
      have eV : mI u 234 27 (nI c.2.2.2) = mD (mI u 234 27 (nI c.2.2.2)) (u.1 236, u.1 247, nI c.2.2.2, u.1 234 28) := by
        have := (md_eta (mI u 234 27 (nI c.2.2.2))).symm
        rw [mI_r (by omega), mI_r (by omega), mI_s, mI_n (by omega)] at this
        exact this
      rw [eV]
      refine c_mpass (by omega) hg hs et ht (by omega) ?_
      rw [em]
      have hind := daysF_ind (g := g) (D := (u.1 236, u.1 247, nI c.2.2.2, u.1 234 28)) (E := (u.1 236, fun _ => 0, nI c.2.2.2, 0)) rfl rfl c.2.2.2
      generalize daysF g (u.1 236, u.1 247, nI c.2.2.2, u.1 234 28) c.2.2.2 = E at hind ⊢
      refine hK _ ⟨fun b b1 b2 b3 => ?_, rfl, fun j j1 j2 => ?_⟩ (by rw [md_236]; exact hind.1)
      · rw [md_o b2 b3 b1, mI_r b1]
      · rw [md_at, if_neg (by omega), if_neg (by omega), if_neg (by omega), if_neg (by omega), mI_n (by omega)]
    · have z : ¬ t + c.2.2.2 ≤ 400 := mt (ll1 (n := 400) (m := t + c.2.2.2) (by omega) (by decide)).mpr z
      rw [if_neg z] at hK
      exact hK u FrV.rf rfl
  · rw [if_pos e] at hK
    rw [e, n2 (by omega), n3 (by omega) (by omega)]
    refine ⟨v1, v2, v0, ⟨fun _ => ?_, fun z => absurd z (by decide), fun z => absurd z (by decide), fun z => absurd z (by decide), fun z => absurd z (by decide)⟩, fun z => absurd z (by decide)⟩
    refine c_mwhyM (by omega) hg hs a1 ⟨fun hw => ?_, fun hw => ?_⟩
    · rw [if_neg hw] at hK
      exact hK u FrV.rf rfl
    · rw [if_pos hw] at hK
      rw [la1, nI_clamp (show 210 + c.2.1 < 2 ^ 31 by omega), mI_mR]
      exact ⟨vp_in_nI (by omega) (by decide), hK _ FrV.mR mR_s⟩
  · rw [if_neg (by omega), if_pos e] at hK
    rw [e, n2 (by omega)]
    refine ⟨v1, v2, v0, ⟨fun z => absurd z (by decide), fun _ => ?_, fun z => absurd z (by decide), fun z => absurd z (by decide), fun z => absurd z (by decide)⟩, fun z => absurd z (by decide)⟩
    refine c_mwhyC (by omega) (by omega) ⟨fun hw => ?_, fun hw => ?_⟩
    · rw [if_neg hw] at hK
      rw [Int32.add_comm]
      exact ⟨fun _ => hK u FrV.rf rfl, fun z => absurd z hw⟩
    · rw [if_pos hw] at hK
      exact c_mdoC (by omega) (by omega) ⟨fun z => absurd hw z, fun _ => hK _ FrV.mR mR_s⟩
  · rw [if_neg (by omega), if_neg (by omega), if_pos e] at hK
    rw [e, n2 (by omega), n3 (by omega) (by omega)]
    refine ⟨v1, v2, v0, ⟨fun z => absurd z (by decide), fun z => absurd z (by decide), fun _ => ?_, fun z => absurd z (by decide), fun z => absurd z (by decide)⟩, fun z => absurd z (by decide)⟩
    refine c_mwhyS (by omega) (by omega) ⟨fun hw => ?_, fun hw => ?_⟩
    · rw [if_neg hw] at hK
      rw [Int32.add_comm]
      exact ⟨fun _ => hK u FrV.rf rfl, fun z => absurd z hw⟩
    · rw [if_pos hw] at hK
      exact c_mdoS (by omega) (by omega) ⟨fun z => absurd hw z, fun _ => hK _ FrV.mR mR_s⟩
  · rw [if_neg (by omega), if_neg (by omega), if_neg (by omega), if_pos e] at hK
    rw [e, n2 (by omega), n3 (by omega) (by omega), n4 e]
    refine ⟨v1, v2, v0, ⟨fun z => absurd z (by decide), fun z => absurd z (by decide), fun z => absurd z (by decide), fun _ => ⟨fun z => ⟨v3, ?_⟩, fun z => ?_⟩, fun z => absurd z (by decide)⟩, fun z => absurd z (by decide)⟩
    · have z : c.2.1 ≠ c.2.2.1 := fun q => z (by rw [q])
      rw [if_neg z] at hK
      refine c_mwhyL (by omega) (by omega) (by omega) ⟨fun hw => ?_, fun hw => ⟨v3, ?_⟩⟩
      · rw [if_neg hw] at hK
        rw [Int32.add_comm]
        exact ⟨fun _ => hK u FrV.rf rfl, fun z => absurd z hw⟩
      · rw [if_pos hw] at hK
        rw [n4 e]
        exact c_mdoL (by omega) (by omega) (by omega) ⟨fun z => absurd hw z, fun _ => hK _ FrV.mR mR_s⟩
    · have z := (nI_eq (by omega) (by omega)).mp z
      rw [if_pos z] at hK
      exact ⟨fun _ => ⟨fun _ => hK u FrV.rf rfl, fun z => absurd z (by decide)⟩, fun z => absurd z (by decide)⟩
/-- what the model does when a log was lived: both rows change places -/
theorem c_mstay {K : Mm → Prop} {p : Int32} (hd : 2 ≤ d) (h0 : p = 0 → K (mR (mR u 236 (rst (u.1 240) (u.1 236))) 240 (fun k => if k < 92 then u.1 236 (198 + k) else u.1 240 k))) (h1 : ¬ p = 0 → CV X (d - 1) 240 [.ref 234] (mR (mR u 236 (rst (u.1 240) (u.1 236))) 240 (fun k => if k < 92 then u.1 236 (198 + k) else u.1 240 k)) (fun u1 => CV X (d - 1) 292 [.ref 234] u1 (fun u2 => K u2))) : CV X d 306 [.ref 234, .int p] u K := by
  obtain ⟨d, rfl, hd1⟩ := dpos hd
  rw [Nat.add_sub_cancel] at h1
  refine CV_of mk_X13_stay.2.2 rfl (B_M_stay_0 ?_)
  have e0 : mR (mR u 236 (fun k => if 198 ≤ k ∧ k < 198 + 0 then u.1 240 (k - 198) else u.1 236 k)) 240 (fun k => if k < 0 then u.1 236 (198 + k) else u.1 240 k) = u := by
    refine mm_ext (fun b k => ?_) rfl
    simp only [mR_at]
    split
    · rename_i q; rw [if_neg (by omega), q]
    · split
      · rename_i q; rw [if_neg (by omega), q]
      · rfl
  suffices hz : VV X d 306 K 2 [some (.ref 234), some (.int p), some (.int (nI 0)), none] [] (mR (mR u 236 (fun k => if 198 ≤ k ∧ k < 198 + 0 then u.1 240 (k - 198) else u.1 236 k)) 240 (fun k => if k < 0 then u.1 236 (198 + k) else u.1 240 k)) by rwa [e0] at hz
  refine lup (n := 92) (W := fun j => VV X d 306 K 2 [some (.ref 234), some (.int p), some (.int (nI j)), none] [] (mR (mR u 236 (fun k => if 198 ≤ k ∧ k < 198 + j then u.1 240 (k - 198) else u.1 236 k)) 240 (fun k => if k < j then u.1 236 (198 + k) else u.1 240 k))) ?_
  intro j hj ih
  refine B_M_stay_2 ?_
  rw [nI_1, la1, nI_clamp (show 198 + j < 2 ^ 31 by omega), nI_clamp (show j < 2 ^ 31 by omega)]
  refine ⟨fun z => ?_, fun z => ?_⟩
  · have z : 92 ≤ j := (ll2 (n := 92) (by omega) (by decide)).mp z
    have ej : j = 92 := by omega
    subst ej
    exact ⟨h1, h0⟩
  · have z : ¬ 92 ≤ j := mt (ll2 (n := 92) (m := j) (by omega) (by decide)).mpr z
    refine ⟨vp_in_nI (by omega) (by decide), vp_in_nI (by omega) (by decide), vp_in_nI (by omega) (by decide), vp_in_nI (by omega) (by decide), ?_⟩
    have ex : mI (mI (mR (mR u 236 (fun k => if 198 ≤ k ∧ k < 198 + j then u.1 240 (k - 198) else u.1 236 k)) 240 (fun k => if k < j then u.1 236 (198 + k) else u.1 240 k)) 236 (198 + j) ((mR (mR u 236 (fun k => if 198 ≤ k ∧ k < 198 + j then u.1 240 (k - 198) else u.1 236 k)) 240 (fun k => if k < j then u.1 236 (198 + k) else u.1 240 k)).1 240 j)) 240 j ((mR (mR u 236 (fun k => if 198 ≤ k ∧ k < 198 + j then u.1 240 (k - 198) else u.1 236 k)) 240 (fun k => if k < j then u.1 236 (198 + k) else u.1 240 k)).1 236 (198 + j)) = mR (mR u 236 (fun k => if 198 ≤ k ∧ k < 198 + (j + 1) then u.1 240 (k - 198) else u.1 236 k)) 240 (fun k => if k < j + 1 then u.1 236 (198 + k) else u.1 240 k) := by
      have ea : (mR (mR u 236 (fun k => if 198 ≤ k ∧ k < 198 + j then u.1 240 (k - 198) else u.1 236 k)) 240 (fun k => if k < j then u.1 236 (198 + k) else u.1 240 k)).1 240 j = u.1 240 j := by rw [mR_s, if_neg (by omega)]
      have eb : (mR (mR u 236 (fun k => if 198 ≤ k ∧ k < 198 + j then u.1 240 (k - 198) else u.1 236 k)) 240 (fun k => if k < j then u.1 236 (198 + k) else u.1 240 k)).1 236 (198 + j) = u.1 236 (198 + j) := by rw [mR_n (by omega), mR_s, if_neg (by omega)]
      rw [ea, eb]
      refine mm_ext (fun b k => ?_) rfl
      simp only [mI_at, mR_at]
      by_cases b1 : b = 240
      · subst b1
        by_cases k1 : k = j
        · subst k1; simp
        · by_cases k2 : k < j
          · simp [k1, k2, show k < j + 1 by omega]
          · simp [k1, k2, show ¬ k < j + 1 by omega]
      · by_cases b2 : b = 236
        · subst b2
          by_cases k1 : k = 198 + j
          · subst k1
            simp
          · by_cases k2 : 198 ≤ k ∧ k < 198 + j
            · simp [k1, k2, show 198 ≤ k ∧ k < 198 + (j + 1) by omega]
            · simp [k1, k2, show ¬ (198 ≤ k ∧ k < 198 + (j + 1)) by omega]
        · simp [b1, b2]
    rw [ex]
    exact ih (by omega)
end LvM
