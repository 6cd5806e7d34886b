/-! what a day doesn't touch -/
def tval (v : Int32) (b : Bool) : Int32 := if b then (if v + 1 < 3 then v + 1 else 3) else if v ≤ 0 then v else v - 1
theorem tval_c : ∀ r, r ≤ 3 → (if (0 : Int32) < nI r - 1 then nI r - 1 else 0) = tval (nI r) false := by
  intro v hv
  rcases (show v = 0 ∨ v = 1 ∨ v = 2 ∨ v = 3 by omega) with rfl | rfl | rfl | rfl <;> decide
section Kp
variable {g s t : Nat → Int32} {D : DS} {sn : Int32}
theorem dawn1_kp {j k : Nat} (hk : k < 201 ∨ 218 ≤ k) (hj : j < 8) : dawn1 s j k = s k := by
  unfold dawn1
  split
  · simp (disch := omega) only [pk_un, pk_us]
  · rfl
theorem dawnF_kp {k : Nat} (hk : k < 201 ∨ 218 ≤ k) : ∀ j, j ≤ 8 → dawnF s j k = s k
  | 0, _ => rfl
  | j + 1, hj => (dawn1_kp hk (by omega)).trans (dawnF_kp hk j (by omega))
theorem wstep_kp {w i k : Nat} (hA : nA g ≤ 8) (hw : w < 8) (hk : k < 218 ∨ 250 ≤ k) : (wstep g w i D).1 k = D.1 k := by
  unfold wstep
  rcases stAt_le (g := g) (s := D.1) (D.1 (134 + 8 * w + i)) hA with e | ⟨a, ha, e, -⟩
  · rw [if_pos e]
  · rw [e, if_neg (nI_m1 (by omega)), nI_clamp (by omega)]
    split
    · show lookS D.1 w a k = _
      unfold lookS
      simp (disch := omega) only [pk_un, pk_us]
    · rfl
theorem wlk_kp {w k : Nat} (hA : nA g ≤ 8) (hw : w < 8) (hk : k < 218 ∨ 250 ≤ k) : ∀ i, (wlk g w D i).1 k = D.1 k
  | 0 => rfl
  | i + 1 => (wstep_kp hA hw hk).trans (wlk_kp hA hw hk i)
theorem wstep_t {w i v : Nat} (hv : v ≠ w) : (wstep g w i D).2.1 v = D.2.1 v := by
  unfold wstep
  split
  · rfl
  · split
    · exact pk_un hv
    · rfl
theorem wlk_t {w v : Nat} (hv : v ≠ w) : ∀ i, (wlk g w D i).2.1 v = D.2.1 v
  | 0 => rfl
  | i + 1 => (wstep_t hv).trans (wlk_t hv i)
theorem day1_kp {w k : Nat} (hA : nA g ≤ 8) (hw : w < 8) (hk : k < 218 ∨ 250 ≤ k) : (day1 g w D).1 k = D.1 k := by
  unfold day1
  split
  · exact wlk_kp hA hw hk _
  · rfl
theorem day1_t {w v : Nat} (hv : v ≠ w) : (day1 g w D).2.1 v = D.2.1 v := by
  unfold day1
  split
  · exact (wlk_t hv _).trans (pk_un hv)
  · exact pk_un hv
theorem dayW_kp {k : Nat} (hA : nA g ≤ 8) (hk : k < 218 ∨ 250 ≤ k) : ∀ w, w ≤ 8 → (dayW g D w).1 k = D.1 k
  | 0, _ => rfl
  | w + 1, hw => (day1_kp hA (by omega) hk).trans (dayW_kp hA hk w (by omega))
theorem eve1_kp {j k : Nat} (hk : k < 199 ∨ 201 ≤ k ∧ k < 218 ∨ 234 ≤ k) (hj : j < 8) : eve1 s sn j k = s k := by
  unfold eve1 eve0
  split
  · rfl
  · split <;> simp (disch := omega) only [pk_un, pk_us]
theorem eveF_kp {k : Nat} (hk : k < 199 ∨ 201 ≤ k ∧ k < 218 ∨ 234 ≤ k) : ∀ j, j ≤ 8 → eveF s sn j k = s k
  | 0, _ => rfl
  | j + 1, hj => (eve1_kp hk (by omega)).trans (eveF_kp hk j (by omega))
theorem tire1_n {b : Bool} {i k : Nat} (hk : k ≠ i) : tire1 s b i k = s k := by
  unfold tire1
  split
  · exact pk_un hk
  · split
    · rfl
    · exact pk_un hk
theorem tire1_s {b : Bool} {i : Nat} : tire1 s b i i = tval (s i) b := by
  unfold tire1 tval
  split
  · exact pk_us
  · split
    · rfl
    · exact pk_us
theorem tireK_at {w : Nat} : ∀ n, n ≤ 5 → ∀ k, tireK s t w n k = if 250 + 5 * w ≤ k ∧ k < 250 + 5 * w + n then tval (s k) (tb (t w) (k - (250 + 5 * w))) else s k
  | 0, _, k => by rw [if_neg (by omega)]; rfl
  | n + 1, hn, k => by
    rw [tireK]
    by_cases e : k = 250 + 5 * w + n
    · subst e
      rw [tire1_s, tireK_at n (by omega), if_neg (by omega), if_pos (by omega), show 250 + 5 * w + n - (250 + 5 * w) = n by omega]
    · rw [tire1_n e, tireK_at n (by omega)]
      by_cases q : 250 + 5 * w ≤ k ∧ k < 250 + 5 * w + n
      · rw [if_pos q, if_pos (by omega)]
      · rw [if_neg q, if_neg (by omega)]
theorem tireF_o {k : Nat} (hK : nK g ≤ 5) (hk : k < 250) : ∀ w, tireF g s t w k = s k
  | 0 => rfl
  | w + 1 => by rw [tireF, tireK_at _ hK, if_neg (by omega)]; exact tireF_o hK hk w
theorem tireF_at {v k : Nat} (hK : nK g ≤ 5) (hk : k < 5) : ∀ w, tireF g s t w (250 + 5 * v + k) = if v < w ∧ k < nK g then tval (s (250 + 5 * v + k)) (tb (t v) k) else s (250 + 5 * v + k)
  | 0 => by rw [if_neg (by omega)]; rfl
  | w + 1 => by
    rw [tireF, tireK_at _ hK, tireF_at hK hk w]
    by_cases e : v = w
    · subst e
      rw [if_neg (show ¬ (v < v ∧ k < nK g) by omega)]
      by_cases q : k < nK g
      · rw [if_pos (by omega), if_pos (by omega), show 250 + 5 * v + k - (250 + 5 * v) = k by omega]
      · rw [if_neg (by omega), if_neg (by omega)]
    · rw [if_neg (show ¬ (250 + 5 * w ≤ 250 + 5 * v + k ∧ 250 + 5 * v + k < 250 + 5 * w + nK g) by omega)]
      by_cases q : v < w ∧ k < nK g
      · rw [if_pos q, if_pos (by omega)]
      · rw [if_neg q, if_neg (by omega)]
theorem dayF_ok (hg : HeadOk g) (h : Stt g D.1) (t : Nat) (ht : t < 400) (e : D.1 198 = nI t) : Stt g (dayF g D).1 := by
  obtain ⟨-, -, -, -, hA, hK, hW, hQ⟩ := hdA hg h
  have h1 := dayW_ok (D := (dawnF D.1 (nA g), D.2.1, D.2.2.1, 0)) hA hW (dawnF_ok hA h _ (Nat.le_refl _)) _ (Nat.le_refl _)
  have h2 := eveF_ok (sn := (dayW g (dawnF D.1 (nA g), D.2.1, D.2.2.1, 0) (nW' g)).2.2.2) hA hW h1 _ (Nat.le_refl _)
  have h3 := tireF_ok (t := (dayW g (dawnF D.1 (nA g), D.2.1, D.2.2.1, 0) (nW' g)).2.1) hA hK h2 _ (Nat.le_refl _)
  have e2 : dayE g (dayW g (dawnF D.1 (nA g), D.2.1, D.2.2.1, 0) (nW' g)) 198 = nI t := by
    unfold dayE
    rw [tireF_o hK (by omega), eveF_kp (by omega) _ hA, dayW_kp hA (by omega) _ hW]
    exact (dawnF_kp (by omega) _ hA).trans e
  unfold dayF
  rw [e2, show nI t + 1 = nI (t + 1) from nI_1 t]
  exact ⟨hd_upd h3.1 (by omega), LOk_day hA (by omega) h3.2⟩
theorem dayF_198 (hg : HeadOk g) (h : Stt g D.1) : (dayF g D).1 198 = D.1 198 + 1 := by
  obtain ⟨-, -, -, -, hA, hK, hW, hQ⟩ := hdA hg h
  unfold dayF
  dsimp only
  rw [pk_us]
  unfold dayE
  rw [tireF_o hK (by omega), eveF_kp (by omega) _ hA, dayW_kp hA (by omega) _ hW]
  show dawnF D.1 (nA g) 198 + 1 = _
  rw [dawnF_kp (by omega) _ hA]
theorem dayF_201 (hg : HeadOk g) (h : Stt g D.1) : (dayF g D).1 201 = dawnF D.1 (nA g) 201 := by
  obtain ⟨-, -, -, -, hA, hK, hW, hQ⟩ := hdA hg h
  unfold dayF
  dsimp only
  rw [pk_un (by omega)]
  unfold dayE
  rw [tireF_o hK (by omega), eveF_kp (by omega) _ hA, dayW_kp hA (by omega) _ hW]
theorem dayF_lo {k : Nat} (hg : HeadOk g) (h : Stt g D.1) (hk : k < 198) : (dayF g D).1 k = D.1 k := by
  obtain ⟨-, -, -, -, hA, hK, hW, hQ⟩ := hdA hg h
  unfold dayF
  dsimp only
  rw [pk_un (by omega)]
  unfold dayE
  rw [tireF_o hK (by omega), eveF_kp (by omega) _ hA, dayW_kp hA (by omega) _ hW]
  exact dawnF_kp (by omega) _ hA
end Kp
