/-! the model's methods of a day -/
abbrev mD (u : Mm) (D : DS) : Mm := md u D.1 D.2.1 D.2.2.1 D.2.2.2
section MDay
variable {X : Xc} {d : Nat} {u : Mm} {g s t : Nat → Int32} {sd sn : Int32} {D : DS}
theorem hdA (hg : HeadOk g) (h : Stt g s) : s 3 = nI (nA g) ∧ s 2 = nI (nK g) ∧ s 4 = nI (nW' g) ∧ s 0 = nI (nQ g) ∧ nA g ≤ 8 ∧ nK g ≤ 5 ∧ nW' g ≤ 8 ∧ nQ g ≤ 8 := by
  obtain ⟨⟨a1, a2, a3, a4, a5, a6, a7, a8⟩, -⟩ := hg
  exact ⟨(h.1 3 (by omega) (by omega)).trans a5, (h.1 2 (by omega) (by omega)).trans a3, (h.1 4 (by omega) (by omega)).trans a7, (h.1 0 (by omega) (by omega)).trans a1, a6, a4, a8, a2⟩
theorem c_mdawn {K : Mm → Prop} (hd : 3 ≤ d) (hg : HeadOk g) (hs : Stt g s) (hK : K (md u (dawnF s (nA g)) t sd sn)) : CV X d 254 [.ref 234] (md u s t sd sn) K := by
  obtain ⟨d, rfl, hd1⟩ := dpos hd
  have hA := (hdA hg hs).2.2.2.2.1
  have hQ := (hdA hg hs).2.2.2.2.2.2.2
  refine CV_of mk_X13_dawn.2.2 rfl (B_M_dawn_0 ?_)
  refine lup (n := nA g) (W := fun j => VV X d 254 K 2 [some (.ref 234), some (.int (nI j))] [] (md u (dawnF s j) t sd sn)) ?_
  intro j hj ih
  refine B_M_dawn_2 ?_
  have h := dawnF_ok hA hs j hj
  have e3 := (hdA hg h).1
  simp (disch := omega) only [la1, la2, lt1, lt2, nI_add, pk_mul, nI_clamp, vpn, nI_leI, nI_ltI, nI_eq, ll1, ll2, ll3, ll4, le1, le2, true_and, and_true, not_true_eq_false, not_false_eq_true, forall_const, false_implies, implies_true, if_true, if_false, ite_true, ite_false, and_self, false_and, and_false, md_236, md_247, md_27, md_28, md_s, md_t, md_sd, md_sn, pk_un, pk_us, e3]
  refine ⟨fun q => ?_, fun q => ?_⟩
  · rw [show j = nA g by omega]; exact hK
  · have ih := ih (by omega)
    refine c_misEvicted hd1 (by omega) (fun r => ?_) (fun r => ?_)
    · refine ⟨fun _ => ?_, fun z => absurd z (by decide)⟩
      rwa [dawnF, dawn1, if_neg (by rintro ⟨z, -⟩; exact absurd (r.symm.trans z) (by decide))] at ih
    · refine ⟨fun z => absurd rfl z, fun _ => ?_⟩
      have r : tb (dawnF s j 201) j = false := r
      obtain ⟨-, p⟩ := h.2.2.2.2.1 j (by omega)
      rcases p with ⟨z, -⟩ | ⟨-, q', hq', e⟩
      · exact absurd (r.symm.trans z) (by decide)
      · simp (disch := omega) only [la1, la2, lt1, lt2, nI_add, pk_mul, nI_clamp, vpn, nI_leI, nI_ltI, nI_eq, ll1, ll2, ll3, ll4, le1, le2, true_and, and_true, not_true_eq_false, not_false_eq_true, forall_const, false_implies, implies_true, if_true, if_false, ite_true, ite_false, and_self, false_and, and_false, md_236, md_247, md_27, md_28, md_s, md_t, md_sd, md_sn, pk_un, pk_us, e]
        rw [dawnF, dawn1, e, nI_clamp (by omega)] at ih
        refine ⟨by omega, by omega, by omega, fun z => ⟨by omega, ?_⟩, fun z => ?_⟩
        · rwa [if_pos ⟨r, z⟩] at ih
        · rwa [if_neg (fun y => z y.2)] at ih
theorem c_mst {K : Int32 → Mm → Prop} {q : Int32} (hd : 1 ≤ d) (hg : HeadOk g) (hs : Stt g s) (hK : K (stAt g s q) (md u s t sd sn)) : CI X d 230 [.ref 234, .int q] (md u s t sd sn) K := c_mstandsAt (n := nA g) hd (hdA hg hs).1 (hdA hg hs).2.2.2.2.1 hK
theorem c_mworthOf {K : Int32 → Mm → Prop} {w : Nat} {b : Bool} {x : Int32} (hd : 1 ≤ d) (hw : w < 8) (hx : x = if b then 1 else 0) (hK : K (wth (u.1 236) w b) u) : CI X d 255 [.ref 234, .int (nI w), .int x] u K := by
  obtain ⟨d, rfl, hd1⟩ := dpos hd
  refine CI_of mk_X13_worthOf.2.2 rfl (B_M_worthOf_0 ?_)
  subst hx
  simp (disch := omega) only [la1, la2, lt1, lt2, nI_add, pk_mul, nI_clamp, vpn, nI_leI, nI_ltI, nI_eq, ll1, ll2, ll3, ll4, le1, le2, true_and, and_true, not_true_eq_false, not_false_eq_true, forall_const, false_implies, implies_true, if_true, if_false, ite_true, ite_false, and_self, false_and, and_false]
  cases b
  · exact ⟨fun _ => ⟨by omega, hK⟩, fun z => absurd rfl z⟩
  · exact ⟨fun z => absurd z (by decide), fun _ => ⟨by omega, hK⟩⟩
theorem c_mdraw {K : Int32 → Mm → Prop} (hd : 1 ≤ d) (hK : K (dr12 (drw sd)) (md u s t (drw sd) sn)) : CI X d 253 [.ref 234, .int 12] (md u s t sd sn) K := by
  obtain ⟨d, rfl, hd1⟩ := dpos hd
  refine CI_of mk_X13_draw.2.2 rfl (B_M_draw_0 ⟨by decide, ?_⟩)
  rw [show (md u s t sd sn).1 234 27 = sd from rfl, md_sd]
  exact hK
theorem c_mwalk {K : Mm → Prop} {w : Nat} (hd : 3 ≤ d) (hg : HeadOk g) (hw : w < nW' g) (hs : Stt g D.1) (hK : K (mD u (wlk g w D (nLen g w)))) : CV X d 256 [.ref 234, .int (nI w)] (mD u D) K := by
  obtain ⟨d, rfl, hd1⟩ := dpos hd
  have hA := (hdA hg hs).2.2.2.2.1
  have hW := (hdA hg hs).2.2.2.2.2.2.1
  have hKK := (hdA hg hs).2.2.2.2.2.1
  obtain ⟨-, -, -, -, -, gl, gl', gw⟩ := hg.2.2 w hw
  refine CV_of mk_X13_walk.2.2 rfl (B_M_walk_0 ?_)
  refine lup (n := nLen g w) (W := fun j => VV X d 256 K 2 [some (.ref 234), some (.int (nI w)), some (.int (nI j)), none] [] (mD u (wlk g w D j))) ?_
  intro j hj ih
  refine B_M_walk_2 ?_
  have h := wlk_ok (w := w) hA hW hw hs j
  generalize hE : wlk g w D j = E at h ⊢
  obtain ⟨s, t, sd, sn⟩ := E
  have h : Stt g s := h
  have e3 := (hdA hg h).1
  have el : s (126 + w) = nI (nLen g w) := (h.1 _ (by omega) (by omega)).trans gl
  simp (disch := omega) only [la1, la2, lt1, lt2, nI_add, pk_mul, nI_clamp, vpn, nI_leI, nI_ltI, nI_eq, ll1, ll2, ll3, ll4, le1, le2, true_and, and_true, not_true_eq_false, not_false_eq_true, forall_const, false_implies, implies_true, if_true, if_false, ite_true, ite_false, and_self, false_and, and_false, md_236, md_247, md_27, md_28, md_s, md_t, md_sd, md_sn, pk_un, pk_us, e3, el]
  refine ⟨by omega, fun q => ?_, fun q => ⟨by omega, ?_⟩⟩
  · rw [show j = nLen g w by omega] at hE; rwa [hE] at hK
  · have ih := ih (by omega)
    rw [wlk, hE, wstep] at ih
    refine c_mst (by omega) hg h ?_
    rcases stAt_le (g := g) (s := s) (s (134 + 8 * w + j)) hA with e | ⟨a, ha, e, -⟩
    · rw [if_pos e] at ih
      rw [e]
      exact ⟨fun _ => ih, fun z => absurd rfl z⟩
    · obtain ⟨⟨k, hk, ek⟩, -⟩ := h.2.2.2.2.1 a ha
      dsimp only at ih
      rw [e, if_neg (nI_m1 (by omega)), nI_clamp (by omega)] at ih
      simp (disch := omega) only [la1, la2, lt1, lt2, nI_add, pk_mul, nI_clamp, vpn, nI_leI, nI_ltI, nI_eq, ll1, ll2, ll3, ll4, le1, le2, true_and, and_true, not_true_eq_false, not_false_eq_true, forall_const, false_implies, implies_true, if_true, if_false, ite_true, ite_false, and_self, false_and, and_false, ek] at ih
      rw [e]
      refine ⟨fun z => absurd z (nI_m1 (by omega)), fun _ => ?_⟩
      refine c_mdraw (by omega) ?_
      simp (disch := omega) only [la1, la2, lt1, lt2, nI_add, pk_mul, nI_clamp, vpn, nI_leI, nI_ltI, nI_eq, ll1, ll2, ll3, ll4, le1, le2, true_and, and_true, not_true_eq_false, not_false_eq_true, forall_const, false_implies, implies_true, if_true, if_false, ite_true, ite_false, and_self, false_and, and_false, md_236, md_247, md_27, md_28, md_s, md_t, md_sd, md_sn, pk_un, pk_us, ek]
      refine ⟨by omega, c_mchance (by omega) (by omega) (by omega) ?_⟩
      refine ⟨fun z => ⟨by omega, ?_⟩, fun z => ?_⟩
      · have z : dr12 (drw sd) < chc s w k := z
        rw [if_pos z] at ih
        have fin : ∀ b, tb (s 200) a = b → wth s w b = wth s w (tb (s 200) a) := fun b hb => by rw [hb]
        refine c_mhas (by omega) (by omega) (fun y => ?_) (fun y => ?_)
        · refine c_mworthOf (b := true) (by omega) (by omega) rfl (c_mleast (by omega) ?_)
          simp (disch := omega) only [la1, la2, lt1, lt2, nI_add, pk_mul, nI_clamp, vpn, nI_leI, nI_ltI, nI_eq, ll1, ll2, ll3, ll4, le1, le2, true_and, and_true, not_true_eq_false, not_false_eq_true, forall_const, false_implies, implies_true, if_true, if_false, ite_true, ite_false, and_self, false_and, and_false, md_236, md_247, md_27, md_28, md_s, md_t, md_sd, md_sn, pk_un, pk_us, ek]
          refine ⟨by omega, by omega, by omega, by omega, by omega, by omega, by omega, by omega, ?_⟩
          rw [lookS, show tb (s 200) a = true from y] at ih
          exact ih
        · refine c_mworthOf (b := false) (by omega) (by omega) rfl (c_mleast (by omega) ?_)
          simp (disch := omega) only [la1, la2, lt1, lt2, nI_add, pk_mul, nI_clamp, vpn, nI_leI, nI_ltI, nI_eq, ll1, ll2, ll3, ll4, le1, le2, true_and, and_true, not_true_eq_false, not_false_eq_true, forall_const, false_implies, implies_true, if_true, if_false, ite_true, ite_false, and_self, false_and, and_false, md_236, md_247, md_27, md_28, md_s, md_t, md_sd, md_sn, pk_un, pk_us, ek]
          refine ⟨by omega, by omega, by omega, by omega, by omega, by omega, by omega, by omega, ?_⟩
          rw [lookS, show tb (s 200) a = false from y] at ih
          exact ih
      · have z : ¬ dr12 (drw sd) < chc s w k := z
        rw [if_neg z] at ih
        exact ih
theorem c_mevening {K : Mm → Prop} (hd : 3 ≤ d) (hg : HeadOk g) (hs : Stt g s) (hK : K (md u (tireF g (eveF s sn (nA g)) t (nW' g)) t sd sn)) : CV X d 257 [.ref 234] (md u s t sd sn) K := by
  obtain ⟨d, rfl, hd1⟩ := dpos hd
  have hA := (hdA hg hs).2.2.2.2.1
  have hW := (hdA hg hs).2.2.2.2.2.2.1
  have hKK := (hdA hg hs).2.2.2.2.2.1
  have hQ := (hdA hg hs).2.2.2.2.2.2.2
  refine CV_of mk_X13_evening.2.2 rfl (B_M_evening_0 ?_)
  refine lup (n := nA g) (W := fun j => VV X d 257 K 2 [some (.ref 234), some (.int (nI j)), none, none] [] (md u (eveF s sn j) t sd sn)) ?_
  intro j hj ih
  refine B_M_evening_2 ?_
  have h := eveF_ok (sn := sn) hA hW hs j hj
  have e3 := (hdA hg h).1
  simp (disch := omega) only [la1, la2, lt1, lt2, nI_add, pk_mul, nI_clamp, vpn, nI_leI, nI_ltI, nI_eq, ll1, ll2, ll3, ll4, le1, le2, true_and, and_true, not_true_eq_false, not_false_eq_true, forall_const, false_implies, implies_true, if_true, if_false, ite_true, ite_false, and_self, false_and, and_false, md_236, md_247, md_27, md_28, md_s, md_t, md_sd, md_sn, pk_un, pk_us, e3]
  refine ⟨fun q => ?_, fun q => ?_⟩
  · rw [show j = nA g by omega]
    clear ih h e3 q hj
    have h := eveF_ok (sn := sn) hA hW hs (nA g) (Nat.le_refl _)
    generalize eveF s sn (nA g) = s at h hK ⊢
    refine lup (n := nW' g) (W := fun j => VV X d 257 K 140 [some (.ref 234), some (.int (nI j)), none, none] [] (md u (tireF g s t j) t sd sn)) ?_
    intro j hj ih
    refine B_M_evening_140 ?_
    have h := tireF_ok (t := t) hA hKK h j hj
    have e4 := (hdA hg h).2.2.1
    simp (disch := omega) only [la1, la2, lt1, lt2, nI_add, pk_mul, nI_clamp, vpn, nI_leI, nI_ltI, nI_eq, ll1, ll2, ll3, ll4, le1, le2, true_and, and_true, not_true_eq_false, not_false_eq_true, forall_const, false_implies, implies_true, if_true, if_false, ite_true, ite_false, and_self, false_and, and_false, md_236, md_247, md_27, md_28, md_s, md_t, md_sd, md_sn, pk_un, pk_us, e4]
    refine ⟨fun q => ?_, fun q => ?_⟩
    · rw [show j = nW' g by omega]; exact hK
    · have ih := ih (by omega)
      rw [tireF] at ih
      generalize tireF g s t j = s at h ih ⊢
      refine lup (n := nK g) (W := fun k => VV X d 257 K 152 [some (.ref 234), some (.int (nI j)), some (.int (nI k)), none] [] (md u (tireK s t j k) t sd sn)) ?_
      intro k hk ih2
      refine B_M_evening_152 ?_
      have h := tireK_ok (t := t) hA (show j < nW' g by omega) h k (by omega)
      have e2 := (hdA hg h).2.1
      simp (disch := omega) only [la1, la2, lt1, lt2, nI_add, pk_mul, nI_clamp, vpn, nI_leI, nI_ltI, nI_eq, ll1, ll2, ll3, ll4, le1, le2, true_and, and_true, not_true_eq_false, not_false_eq_true, forall_const, false_implies, implies_true, if_true, if_false, ite_true, ite_false, and_self, false_and, and_false, md_236, md_247, md_27, md_28, md_s, md_t, md_sd, md_sn, pk_un, pk_us, e2]
      refine ⟨fun q2 => ?_, fun q2 => ⟨by omega, ?_⟩⟩
      · rw [show k = nK g by omega]; exact ih
      · have ih2 := ih2 (by omega)
        rw [tireK, tire1] at ih2
        refine c_mhas (by omega) (by omega) (fun y => ?_) (fun y => ?_)
        · have y : tb (t j) k = true := y
          rw [if_pos y] at ih2
          refine ⟨fun z => absurd z (by decide), fun _ => ⟨by omega, c_mleast (by omega) ?_⟩⟩
          simp (disch := omega) only [la1, la2, lt1, lt2, nI_add, pk_mul, nI_clamp, vpn, nI_leI, nI_ltI, nI_eq, ll1, ll2, ll3, ll4, le1, le2, true_and, and_true, not_true_eq_false, not_false_eq_true, forall_const, false_implies, implies_true, if_true, if_false, ite_true, ite_false, and_self, false_and, and_false, md_236, md_247, md_27, md_28, md_s, md_t, md_sd, md_sn, pk_un, pk_us]
          exact ⟨by omega, ih2⟩
        · have y : tb (t j) k = false := y
          rw [y, if_neg (by decide)] at ih2
          refine ⟨fun _ => ⟨by omega, fun z => ?_, fun z => ⟨by omega, by omega, ?_⟩⟩, fun z => absurd rfl z⟩
          · rwa [if_pos (by exact z)] at ih2
          · rw [if_neg (by exact z)] at ih2
            simp (disch := omega) only [la1, la2, lt1, lt2, nI_add, pk_mul, nI_clamp, vpn, nI_leI, nI_ltI, nI_eq, ll1, ll2, ll3, ll4, le1, le2, true_and, and_true, not_true_eq_false, not_false_eq_true, forall_const, false_implies, implies_true, if_true, if_false, ite_true, ite_false, and_self, false_and, and_false, md_236, md_247, md_27, md_28, md_s, md_t, md_sd, md_sn, pk_un, pk_us]
            exact ih2
  · have ih := ih (by omega)
    rw [eveF, eve1] at ih
    generalize eveF s sn j = s at h ih e3 ⊢
    refine c_misEvicted hd1 (by omega) (fun r => ?_) (fun r => ?_)
    · have r : tb (s 201) j = true := r
      rw [if_pos r] at ih
      exact ⟨fun z => absurd z (by decide), fun _ => ih⟩
    · have r : tb (s 201) j = false := r
      rw [r, if_neg (by decide)] at ih
      obtain ⟨-, p⟩ := h.2.2.2.2.1 j (by omega)
      rcases p with ⟨z, -⟩ | ⟨-, q', hq', e⟩
      · exact absurd (r.symm.trans z) (by decide)
      · refine ⟨fun _ => ?_, fun z => absurd rfl z⟩
        rw [eve0, pays, e, nI_clamp (by omega)] at ih
        simp (disch := omega) only [la1, la2, lt1, lt2, nI_add, pk_mul, nI_clamp, vpn, nI_leI, nI_ltI, nI_eq, ll1, ll2, ll3, ll4, le1, le2, true_and, and_true, not_true_eq_false, not_false_eq_true, forall_const, false_implies, implies_true, if_true, if_false, ite_true, ite_false, and_self, false_and, and_false, md_236, md_247, md_27, md_28, md_s, md_t, md_sd, md_sn, pk_un, pk_us, e]
        refine ⟨by omega, by omega, by omega, by omega, c_mleast (by omega) ?_⟩
        simp (disch := omega) only [la1, la2, lt1, lt2, nI_add, pk_mul, nI_clamp, vpn, nI_leI, nI_ltI, nI_eq, ll1, ll2, ll3, ll4, le1, le2, true_and, and_true, not_true_eq_false, not_false_eq_true, forall_const, false_implies, implies_true, if_true, if_false, ite_true, ite_false, and_self, false_and, and_false, md_236, md_247, md_27, md_28, md_s, md_t, md_sd, md_sn, pk_un, pk_us]
        refine ⟨by omega, by omega, by omega, c_mhas (by omega) (by omega) (fun y => ?_) (fun y => ?_)⟩
        · rw [if_pos y] at ih
          exact ⟨fun _ => ih, fun z => absurd z (by decide)⟩
        · rw [y, if_neg (by decide)] at ih
          refine ⟨fun z => absurd rfl z, fun _ => ?_⟩
          simp (disch := omega) only [la1, la2, lt1, lt2, nI_add, pk_mul, nI_clamp, vpn, nI_leI, nI_ltI, nI_eq, ll1, ll2, ll3, ll4, le1, le2, true_and, and_true, not_true_eq_false, not_false_eq_true, forall_const, false_implies, implies_true, if_true, if_false, ite_true, ite_false, and_self, false_and, and_false, md_236, md_247, md_27, md_28, md_s, md_t, md_sd, md_sn, pk_un, pk_us]
          simp (disch := omega) only [la1, la2, lt1, lt2, nI_add, pk_mul, nI_clamp, vpn, nI_leI, nI_ltI, nI_eq, ll1, ll2, ll3, ll4, le1, le2, true_and, and_true, not_true_eq_false, not_false_eq_true, forall_const, false_implies, implies_true, if_true, if_false, ite_true, ite_false, and_self, false_and, and_false, md_236, md_247, md_27, md_28, md_s, md_t, md_sd, md_sn, pk_un, pk_us] at ih
          exact ih
theorem c_moneDay {K : Mm → Prop} (hd : 4 ≤ d) (hg : HeadOk g) (hs : Stt g D.1) (hK : K (mD u (dayF g D))) : CV X d 258 [.ref 234] (mD u D) K := by
  obtain ⟨d, rfl, hd1⟩ := dpos hd
  have hA := (hdA hg hs).2.2.2.2.1
  have hW := (hdA hg hs).2.2.2.2.2.2.1
  obtain ⟨s, t, sd, sn⟩ := D
  refine CV_of mk_X13_oneDay.2.2 rfl (B_M_oneDay_0 (c_mdawn hd1 hg hs ?_))
  rw [md_sn]
  have h0 := dawnF_ok hA hs (nA g) (Nat.le_refl _)
  refine lup (n := nW' g) (W := fun j => VV X d 258 K 11 [some (.ref 234), some (.int (nI j))] [] (mD u (dayW g (dawnF s (nA g), t, sd, 0) j))) ?_
  intro j hj ih
  have h := dayW_ok (D := (dawnF s (nA g), t, sd, 0)) hA hW h0 j hj
  refine B_M_oneDay_11 ?_
  generalize hE : dayW g (dawnF s (nA g), t, sd, 0) j = E at h ⊢
  obtain ⟨s1, t1, sd1, sn1⟩ := E
  have h : Stt g s1 := h
  have e4 := (hdA hg h).2.2.1
  simp (disch := omega) only [la1, la2, lt1, lt2, nI_add, pk_mul, nI_clamp, vpn, nI_leI, nI_ltI, nI_eq, ll1, ll2, ll3, ll4, le1, le2, true_and, and_true, not_true_eq_false, not_false_eq_true, forall_const, false_implies, implies_true, if_true, if_false, ite_true, ite_false, and_self, false_and, and_false, md_236, md_247, md_27, md_28, md_s, md_t, md_sd, md_sn, pk_un, pk_us, e4]
  refine ⟨fun q => ?_, fun q => ?_⟩
  · rw [show j = nW' g by omega] at hE
    refine c_mevening hd1 hg h ?_
    rw [dayF, hE] at hK
    rw [md_s]
    exact hK
  · have ih := ih (by omega)
    obtain ⟨-, -, ⟨ev, he1, he7, ee⟩, -⟩ := hg.2.2 j (by omega)
    have ee : s1 (70 + j) = nI ev := (h.1 _ (by omega) (by omega)).trans ee
    rw [dayW, hE, day1] at ih
    dsimp only at ih
    simp (disch := omega) only [la1, la2, lt1, lt2, nI_add, pk_mul, nI_clamp, vpn, nI_leI, nI_ltI, nI_eq, ll1, ll2, ll3, ll4, le1, le2, true_and, and_true, not_true_eq_false, not_false_eq_true, forall_const, false_implies, implies_true, if_true, if_false, ite_true, ite_false, and_self, false_and, and_false, md_236, md_247, md_27, md_28, md_s, md_t, md_sd, md_sn, pk_un, pk_us, ee]
    refine ⟨by omega, by omega, by omega, fun z => ?_, fun z => ?_⟩
    · rw [if_neg (by unfold goes; rw [ee]; exact fun y => z (by simpa using y))] at ih
      exact ih
    · rw [if_pos (by unfold goes; rw [ee]; exact decide_eq_true z)] at ih
      exact c_mwalk (D := (s1, upd t1 j 0, sd1, sn1)) hd1 hg (by omega) h ih
end MDay
