/-! the model's day as functions of its row -/
def dawn1 (s : Nat → Int32) (j : Nat) : Nat → Int32 := if tb (s 201) j = false ∧ s 5 * s (6 + (s (210 + j)).toNatClampNeg) < s (226 + j) then upd (upd s 201 (s 201 ||| ((1 : Int32) <<< (nI j &&& 31)))) (210 + j) (-1) else s
def dawnF (s : Nat → Int32) : Nat → Nat → Int32
  | 0 => s
  | j + 1 => dawn1 (dawnF s j) j
def drw (sd : Int32) : Int32 := sd * 1103515245 + 12345
def dr12 (x : Int32) : Int32 := ((x.toUInt32 >>> ((8 : Int32).toUInt32 &&& Int32.toUInt32 31)).toInt32) - ((x.toUInt32 >>> ((8 : Int32).toUInt32 &&& Int32.toUInt32 31)).toInt32) / 12 * 12
def wth (s : Nat → Int32) (w : Nat) (b : Bool) : Int32 := if b then s (78 + w) / 2 else s (78 + w)
def lookS (s : Nat → Int32) (w a : Nat) : Nat → Int32 := upd (upd (upd s (218 + a) (if s (218 + a) + wth s w (tb (s 200) a) < 999 then s (218 + a) + wth s w (tb (s 200) a) else 999)) (234 + a) (s (234 + a) + 1)) (242 + w) (s (242 + w) + 1)
def chc (s : Nat → Int32) (w k : Nat) : Int32 := s (86 + 5 * w + k) >>> (s (250 + 5 * w + k) &&& 31)
def wstep (g : Nat → Int32) (w i : Nat) (D : DS) : DS :=
  if stAt g D.1 (D.1 (134 + 8 * w + i)) = -1 then D
  else if dr12 (drw D.2.2.1) < chc D.1 w (D.1 (202 + (stAt g D.1 (D.1 (134 + 8 * w + i))).toNatClampNeg)).toNatClampNeg then
    (lookS D.1 w (stAt g D.1 (D.1 (134 + 8 * w + i))).toNatClampNeg, upd D.2.1 w (D.2.1 w ||| ((1 : Int32) <<< (D.1 (202 + (stAt g D.1 (D.1 (134 + 8 * w + i))).toNatClampNeg) &&& 31))), drw D.2.2.1, D.2.2.2 ||| ((1 : Int32) <<< (stAt g D.1 (D.1 (134 + 8 * w + i)) &&& 31)))
  else (D.1, D.2.1, drw D.2.2.1, D.2.2.2)
def wlk (g : Nat → Int32) (w : Nat) (D : DS) : Nat → DS
  | 0 => D
  | i + 1 => wstep g w i (wlk g w D i)
def pays (s : Nat → Int32) (j : Nat) : Int32 := if s (218 + j) < s (226 + j) + s (6 + (s (210 + j)).toNatClampNeg) then s (218 + j) else s (226 + j) + s (6 + (s (210 + j)).toNatClampNeg)
def eve0 (s : Nat → Int32) (j : Nat) : Nat → Int32 := upd (upd (upd s (226 + j) (s (226 + j) + s (6 + (s (210 + j)).toNatClampNeg) - pays s j)) (218 + j) (s (218 + j) - pays s j)) 199 (s 199 + pays s j)
def eve1 (s : Nat → Int32) (sn : Int32) (j : Nat) : Nat → Int32 := if tb (s 201) j then s else if tb sn j then eve0 s j else upd (eve0 s j) 200 (eve0 s j 200 ||| ((1 : Int32) <<< (nI j &&& 31)))
def eveF (s : Nat → Int32) (sn : Int32) : Nat → Nat → Int32
  | 0 => s
  | j + 1 => eve1 (eveF s sn j) sn j
def tire1 (s : Nat → Int32) (b : Bool) (i : Nat) : Nat → Int32 := if b then upd s i (if s i + 1 < 3 then s i + 1 else 3) else if s i ≤ 0 then s else upd s i (s i - 1)
def tireK (s t : Nat → Int32) (w : Nat) : Nat → Nat → Int32
  | 0 => s
  | k + 1 => tire1 (tireK s t w k) (tb (t w) k) (250 + 5 * w + k)
def tireF (g s t : Nat → Int32) : Nat → Nat → Int32
  | 0 => s
  | w + 1 => tireK (tireF g s t w) t w (nK g)
def goes (s : Nat → Int32) (w : Nat) : Bool := decide (s 198 - s 198 / s (70 + w) * s (70 + w) = 0)
def day1 (g : Nat → Int32) (w : Nat) (D : DS) : DS := if goes D.1 w then wlk g w (D.1, upd D.2.1 w 0, D.2.2.1, D.2.2.2) (nLen g w) else (D.1, upd D.2.1 w 0, D.2.2.1, D.2.2.2)
def dayW (g : Nat → Int32) (D : DS) : Nat → DS
  | 0 => D
  | w + 1 => day1 g w (dayW g D w)
def dayE (g : Nat → Int32) (D : DS) : Nat → Int32 := tireF g (eveF D.1 D.2.2.2 (nA g)) D.2.1 (nW' g)
def dayF (g : Nat → Int32) (D : DS) : DS := (upd (dayE g (dayW g (dawnF D.1 (nA g), D.2.1, D.2.2.1, 0) (nW' g))) 198 (dayE g (dayW g (dawnF D.1 (nA g), D.2.1, D.2.2.1, 0) (nW' g)) 198 + 1), (dayW g (dawnF D.1 (nA g), D.2.1, D.2.2.1, 0) (nW' g)).2)
/-! they keep the bounds -/
section Keep
variable {g s t : Nat → Int32} {D : DS} {sn : Int32}
theorem dawn1_ok {j : Nat} (hA : nA g ≤ 8) (hj : j < nA g) (h : Stt g s) : Stt g (dawn1 s j) := by
  unfold dawn1
  split
  · exact ⟨hd_upd (hd_upd h.1 (by omega)) (by omega), LOk_evict hA hj h.2⟩
  · exact h
theorem dawnF_ok (hA : nA g ≤ 8) (h : Stt g s) : ∀ j, j ≤ nA g → Stt g (dawnF s j)
  | 0, _ => h
  | j + 1, hj => dawn1_ok hA (by omega) (dawnF_ok hA h j (by omega))
theorem look_ok {w a : Nat} (hA : nA g ≤ 8) (hW : nW' g ≤ 8) (ha : a < nA g) (hw : w < nW' g) (h : Stt g s) : Stt g (lookS s w a) := ⟨hd_upd (hd_upd (hd_upd h.1 (by omega)) (by omega)) (by omega), LOk_free hA hW (Or.inr (by omega)) (LOk_free hA hW (Or.inr (by omega)) (LOk_free hA hW (Or.inr (by omega)) h.2))⟩
theorem stAt_le (q : Int32) (hA : nA g ≤ 8) : stAt g s q = -1 ∨ ∃ a, a < nA g ∧ stAt g s q = nI a ∧ s (210 + a) = q := by
  rcases fstI_cases (fun a => decide (s (210 + a) = q)) (n := nA g) (by omega) with ⟨h1, h2⟩ | ⟨j, h1, h2, h3, h4⟩
  · exact Or.inl h1
  · exact Or.inr ⟨j, h1, h2, by simpa using h3⟩
theorem wstep_ok {w i : Nat} (hA : nA g ≤ 8) (hW : nW' g ≤ 8) (hw : w < nW' g) (h : Stt g D.1) : Stt g (wstep g w i D).1 := by
  unfold wstep
  rcases stAt_le (g := g) (s := D.1) (D.1 (134 + 8 * w + i)) hA with e | ⟨a, ha, e, -⟩
  · rw [if_pos e]; exact h
  · rw [e, if_neg (nI_m1 (by omega)), nI_clamp (by omega)]
    split
    · exact look_ok hA hW ha hw h
    · exact h
theorem wlk_ok {w : Nat} (hA : nA g ≤ 8) (hW : nW' g ≤ 8) (hw : w < nW' g) (h : Stt g D.1) : ∀ i, Stt g (wlk g w D i).1
  | 0 => h
  | i + 1 => wstep_ok hA hW hw (wlk_ok hA hW hw h i)
theorem eve0_ok {j : Nat} (hA : nA g ≤ 8) (hW : nW' g ≤ 8) (hj : j < nA g) (h : Stt g s) : Stt g (eve0 s j) := ⟨hd_upd (hd_upd (hd_upd h.1 (by omega)) (by omega)) (by omega), LOk_free hA hW (Or.inl rfl) (LOk_free hA hW (Or.inr (by omega)) (LOk_free hA hW (Or.inr (by omega)) h.2))⟩
theorem eve1_ok {j : Nat} (hA : nA g ≤ 8) (hW : nW' g ≤ 8) (hj : j < nA g) (h : Stt g s) : Stt g (eve1 s sn j) := by
  unfold eve1
  split
  · exact h
  · split
    · exact eve0_ok hA hW hj h
    · refine ⟨hd_upd (eve0_ok hA hW hj h).1 (by omega), LOk_stain hA (fun i hi q => ?_) (eve0_ok hA hW hj h).2⟩
      rw [tb_set (by omega) hi, Bool.or_eq_true, decide_eq_true_eq] at q
      rcases q with q | q
      · exact (eve0_ok hA hW hj h).2.2.1 i hi q
      · omega
theorem eveF_ok (hA : nA g ≤ 8) (hW : nW' g ≤ 8) (h : Stt g s) : ∀ j, j ≤ nA g → Stt g (eveF s sn j)
  | 0, _ => h
  | j + 1, hj => eve1_ok hA hW (by omega) (eveF_ok hA hW h j (by omega))
theorem up3 : ∀ v, v ≤ 3 → ∃ r, r ≤ 3 ∧ (if nI v + 1 < 3 then nI v + 1 else 3) = nI r := by
  intro v hv
  rcases (show v = 0 ∨ v = 1 ∨ v = 2 ∨ v = 3 by omega) with rfl | rfl | rfl | rfl
  · exact ⟨1, by omega, by decide⟩
  · exact ⟨2, by omega, by decide⟩
  · exact ⟨3, by omega, by decide⟩
  · exact ⟨3, by omega, by decide⟩
theorem dn3 : ∀ v, v ≤ 3 → ¬ nI v ≤ 0 → ∃ r, r ≤ 3 ∧ nI v - 1 = nI r := by
  intro v hv h
  rcases (show v = 0 ∨ v = 1 ∨ v = 2 ∨ v = 3 by omega) with rfl | rfl | rfl | rfl
  · exact absurd (by decide) h
  · exact ⟨0, by omega, by decide⟩
  · exact ⟨1, by omega, by decide⟩
  · exact ⟨2, by omega, by decide⟩
theorem tire1_ok {b : Bool} {w k : Nat} (hA : nA g ≤ 8) (hw : w < nW' g) (hk : k < 5) (h : Stt g s) : Stt g (tire1 s b (250 + 5 * w + k)) := by
  obtain ⟨v, hv, e⟩ := h.2.2.2.2.2.2 w hw k hk
  unfold tire1
  rw [e]
  split
  · obtain ⟨r, hr, e2⟩ := up3 v hv
    rw [e2]
    exact ⟨hd_upd h.1 (by omega), LOk_tired hA hr h.2⟩
  · split
    · exact h
    · rename_i q
      obtain ⟨r, hr, e2⟩ := dn3 v hv q
      rw [e2]
      exact ⟨hd_upd h.1 (by omega), LOk_tired hA hr h.2⟩
theorem tireK_ok {w : Nat} (hA : nA g ≤ 8) (hw : w < nW' g) (h : Stt g s) : ∀ k, k ≤ 5 → Stt g (tireK s t w k)
  | 0, _ => h
  | k + 1, hk => tire1_ok hA hw (by omega) (tireK_ok hA hw h k (by omega))
theorem tireF_ok (hA : nA g ≤ 8) (hK : nK g ≤ 5) (h : Stt g s) : ∀ w, w ≤ nW' g → Stt g (tireF g s t w)
  | 0, _ => h
  | w + 1, hw => tireK_ok hA (by omega) (tireF_ok hA hK h w (by omega)) (nK g) hK
theorem day1_ok {w : Nat} (hA : nA g ≤ 8) (hW : nW' g ≤ 8) (hw : w < nW' g) (h : Stt g D.1) : Stt g (day1 g w D).1 := by
  unfold day1
  split
  · exact wlk_ok (D := (D.1, upd D.2.1 w 0, D.2.2.1, D.2.2.2)) hA hW hw h _
  · exact h
theorem dayW_ok (hA : nA g ≤ 8) (hW : nW' g ≤ 8) (h : Stt g D.1) : ∀ w, w ≤ nW' g → Stt g (dayW g D w).1
  | 0, _ => h
  | w + 1, hw => day1_ok hA hW (by omega) (dayW_ok hA hW h w (by omega))
end Keep
