/-! a city's lines: the system -/
def DrC (V : Mm) (D : DR) : Prop :=
  (V.1 122 0 = D.1 0 ∧ V.1 122 1 = D.1 2 ∧ V.1 122 2 = D.1 3 ∧ V.1 122 3 = D.1 4 ∧ V.1 120 2 = D.1 1 ∧ V.1 120 3 = (if D.2.2.2 then D.1 5 else -1)) ∧
  (∀ q, q < nQ D.1 → V.1 123 q = D.1 (6 + q) ∧ V.2 121 q = lN (e5 (D.2.1 q))) ∧
  (∀ q, q < 8 → V.1 124 q = D.1 (14 + q) ∧ V.1 138 q = stF D q) ∧
  (∀ k, k < nK D.1 → V.2 121 (8 + k) = lN (e5 (D.2.1 (8 + k)))) ∧
  (∀ a, a < nA D.1 → V.1 125 a = D.1 (46 + a) ∧ V.1 136 a = D.1 (22 + a) ∧ V.1 137 a = D.1 (30 + a) ∧ V.1 139 a = D.1 (38 + a) ∧ V.1 140 a = 0 ∧ V.1 141 a = 0 ∧ V.2 121 (16 + a) = lN (e5 (D.2.1 (13 + a)))) ∧
  (∀ w, w < nW' D.1 → V.1 126 w = D.1 (54 + w) ∧ V.1 127 w = D.1 (62 + w) ∧ V.1 128 w = D.1 (70 + w) ∧ V.1 129 w = D.1 (78 + w) ∧ V.2 121 (24 + w) = lN (e5 (D.2.1 (21 + w)))) ∧
  (∀ i, i < 40 → V.1 130 i = if D.2.2.1 i then D.1 (86 + i) else -1) ∧
  (V.1 135 1 = 0 ∧ V.1 135 2 = 0 ∧ V.1 135 3 = 0 ∧ V.1 135 4 = 0 ∧ (∀ w, w < 8 → V.1 142 w = 0) ∧ (∀ i, i < 40 → V.1 143 i = 0) ∧ V.1 144 0 = 0)
theorem DrC.cg {u V : Mm} {D : DR} (h : DrC u D) (h1 : ∀ b, 120 ≤ b → b ≤ 148 → V.1 b = u.1 b) (h2 : V.2 121 = u.2 121) : DrC V D := by
  unfold DrC
  rw [h1 120 (by omega) (by omega), h1 122 (by omega) (by omega), h1 123 (by omega) (by omega), h1 124 (by omega) (by omega), h1 125 (by omega) (by omega), h1 126 (by omega) (by omega), h1 127 (by omega) (by omega), h1 128 (by omega) (by omega), h1 129 (by omega) (by omega), h1 130 (by omega) (by omega), h1 135 (by omega) (by omega), h1 136 (by omega) (by omega), h1 137 (by omega) (by omega), h1 138 (by omega) (by omega), h1 139 (by omega) (by omega), h1 140 (by omega) (by omega), h1 141 (by omega) (by omega), h1 142 (by omega) (by omega), h1 143 (by omega) (by omega), h1 144 (by omega) (by omega), h2]
  exact h
theorem Fr1.dr {u V : Mm} {D : DR} (h : Fr1 u V) (hc : DrC u D) : DrC V D := hc.cg (fun b h1 h2 => h.1 b (by omega)) (h.2 121 (by omega))
def FrD (u V : Mm) : Prop := (∀ b, b ≠ 1 → b < 120 ∨ 148 < b → V.1 b = u.1 b) ∧ ∀ b, b ≠ 1 → b ≠ 121 → V.2 b = u.2 b
theorem Fr1.d {u V : Mm} (h : Fr1 u V) : FrD u V := ⟨fun b h1 _ => h.1 b h1, fun b h1 _ => h.2 b h1⟩
theorem FrD.tr {u v w : Mm} (h : FrD u v) (h2 : FrD v w) : FrD u w := ⟨fun b hb hb2 => (h2.1 b hb hb2).trans (h.1 b hb hb2), fun b hb hb2 => (h2.2 b hb hb2).trans (h.2 b hb hb2)⟩
theorem FrD.mI {u v : Mm} {a j : Nat} {x : Int32} (h : FrD u v) (ha : 120 ≤ a ∧ a ≤ 148) : FrD u (mI v a j x) := ⟨fun b h1 h2 => by rw [mI_r (by omega)]; exact h.1 b h1 h2, h.2⟩
theorem FrD.mJ {u v : Mm} {j : Nat} {x : Int64} (h : FrD u v) : FrD u (mJ v 121 j x) := ⟨h.1, fun b h1 h2 => by rw [mJ_r h2]; exact h.2 b h1 h2⟩
/-- the same but for the token and a liking -/
def FrG (u V : Mm) : Prop := FrD u V ∧ V.1 122 = u.1 122 ∧ V.1 124 = u.1 124 ∧ V.1 126 = u.1 126 ∧ V.1 127 = u.1 127
theorem Fr1.g {u V : Mm} (h : Fr1 u V) : FrG u V := ⟨h.d, h.1 122 (by omega), h.1 124 (by omega), h.1 126 (by omega), h.1 127 (by omega)⟩
theorem FrG.mI {u v : Mm} {j : Nat} {x : Int32} (h : FrG u v) : FrG u (mI v 130 j x) := ⟨h.1.mI (by omega), by rw [mI_r (by omega)]; exact h.2.1, by rw [mI_r (by omega)]; exact h.2.2.1, by rw [mI_r (by omega)]; exact h.2.2.2.1, by rw [mI_r (by omega)]; exact h.2.2.2.2⟩
/-- what the ways are laid by -/
def DrF (V : Mm) (D : DR) : Prop := V.1 122 0 = D.1 0 ∧ V.1 122 3 = D.1 4 ∧ (∀ q, q < 8 → V.1 124 q = D.1 (14 + q)) ∧ ∀ w, w < nW' D.1 → V.1 126 w = D.1 (54 + w) ∧ V.1 127 w = D.1 (62 + w)
theorem DrC.f {u V : Mm} {D : DR} (h : DrC u D) (g : FrG u V) : DrF V D := by
  unfold DrF
  rw [g.2.1, g.2.2.1, g.2.2.2.1, g.2.2.2.2]
  exact ⟨h.1.1, h.1.2.2.2.1, fun q hq => (h.2.2.1 q hq).1, fun w hw => ⟨(h.2.2.2.2.2.1 w hw).1, (h.2.2.2.2.2.1 w hw).2.1⟩⟩
theorem FrD.rf {u : Mm} : FrD u u := ⟨fun _ _ _ => rfl, fun _ _ _ => rfl⟩
theorem DrC.nm {u : Mm} {D : DR} (h : DrC u D) (ho : DOk D) : NmC u 120 0 0 (nQ D.1) D.2.1 ∧ NmC u 120 1 8 (nK D.1) D.2.1 ∧ NmC u 120 2 13 (nA D.1) D.2.1 ∧ NmC u 120 3 21 (nW' D.1) D.2.1 := by
  obtain ⟨⟨c1, c2, c3, c4, c5, c6⟩, s, ns, k, a, w, li, z⟩ := h
  obtain ⟨⟨a1, a2, a3, a4, a5, a6, a7, a8, a9, a10, a11⟩, b, c, d, e, e2, g, h1, h2⟩ := ho
  refine ⟨⟨a2, c1.trans a1, fun i hi => ⟨?_, ?_⟩⟩, ⟨by omega, c2.trans a3, fun i hi => ⟨d i hi, k i hi⟩⟩, ⟨a6, c3.trans a5, fun i hi => ⟨(e i hi).2.2.2, (a i hi).2.2.2.2.2.2⟩⟩, ⟨a8, c4.trans a7, fun i hi => ⟨(g i hi).2.2.2.2.2, (w i hi).2.2.2.2⟩⟩⟩
  · rw [Nat.zero_add]; exact (b i hi).2
  · rw [Nat.mul_zero, Nat.zero_add]; exact (s i hi).2
section CL
variable {X : Xc} {d : Nat} {u : Mm} {f : Nat → Nat} {n m : Nat} {ρ : RDS} {D : DR}
/-- what stands around -/
def En (u : Mm) (f : Nat → Nat) (n m : Nat) : Prop := n ≤ 940 ∧ m ≤ 940 ∧ TBy u f ∧ WordsR u
theorem En.fr {V : Mm} (h : En u f n m) (h1 : Fr1 u V) : En V f n m := ⟨h.1, h.2.1, h1.tb h.2.2.1, h1.wd h.2.2.2⟩
theorem c_isTold' {K : Int32 → Mm → Prop} {x : Int64} (hd : 2 ≤ d) (hc : DrC u D) (ho : DOk D) (h1 : K 1 u) (h0 : K 0 u) : CI X d 7 [.ref 120, .long x] u K := by
  obtain ⟨d, rfl, hd1⟩ := dpos hd
  obtain ⟨m0, m1, m2, m3⟩ := hc.nm ho
  have step : ∀ (s cnt : Nat), s < 4 → cnt ≤ 8 → u.1 122 s = nI cnt → VI X d 7 K 2 [some (.ref 120), some (.long x), none, some (.int (nI (s + 1)))] [] u → VI X d 7 K 2 [some (.ref 120), some (.long x), none, some (.int (nI s))] [] u := by
    intro s cnt hs hc e nx
    refine B_C120_isTold_2 ⟨fun z => absurd z (nI_ge (a := s) (b := 4) hs (by omega)), fun _ => c_find120' hd1 hs hc e ⟨fun _ => ?_, fun _ => h1⟩⟩
    rw [nI_1]; exact nx
  refine CI_of mk_X0_isTold.2.2 rfl (B_C120_isTold_0 (step 0 _ (by omega) m0.1 m0.2.1 (step 1 _ (by omega) m1.1 m1.2.1 (step 2 _ (by omega) m2.1 m2.2.1 (step 3 _ (by omega) m3.1 m3.2.1 ?_)))))
  exact B_C120_isTold_2 ⟨fun _ => h0, fun z => absurd (nI_le (a := 4) (b := 4) (by omega) (by omega)) z⟩
theorem c_isTold {K : Int32 → Mm → Prop} {l : List Nat} (hd : 2 ≤ d) (hc : DrC u D) (ho : DOk D) (hl : lOk l) (h1 : told D l = true → K 1 u) (h0 : told D l = false → K 0 u) : CI X d 7 [.ref 120, .long (lN (e5 l))] u K := by
  obtain ⟨d, rfl, hd1⟩ := dpos hd
  obtain ⟨m0, m1, m2, m3⟩ := hc.nm ho
  have step : ∀ (s base cnt : Nat), s < 4 → NmC u 120 s base cnt D.2.1 → ((fnd D.2.1 base cnt l).isSome = true → K 1 u) → ((fnd D.2.1 base cnt l).isSome = false → VI X d 7 K 2 [some (.ref 120), some (.long (lN (e5 l))), none, some (.int (nI (s + 1)))] [] u) → VI X d 7 K 2 [some (.ref 120), some (.long (lN (e5 l))), none, some (.int (nI s))] [] u := by
    intro s base cnt hs hn y nx
    refine B_C120_isTold_2 ⟨fun z => absurd z (nI_ge (a := s) (b := 4) hs (by omega)), fun _ => c_find120 hd1 hs hn hl ?_⟩
    cases hf : fnd D.2.1 base cnt l with
    | none =>
      rw [hf] at nx
      refine ⟨fun _ => ?_, fun z => absurd rfl z⟩
      rw [nI_1]; exact nx rfl
    | some j =>
      rw [hf] at y
      have := ((fO_eq (n := cnt) (by have := hn.1; omega)).2 j hf).1
      have := hn.1
      exact ⟨fun z => absurd z (nI_m1 (by omega)), fun _ => y rfl⟩
  unfold told at h1 h0
  refine CI_of mk_X0_isTold.2.2 rfl (B_C120_isTold_0 (step 0 _ _ (by omega) m0 (fun q => h1 (by rw [q]; rfl)) fun q0 => step 1 _ _ (by omega) m1 (fun q => h1 (by rw [q]; simp)) fun q1 => step 2 _ _ (by omega) m2 (fun q => h1 (by rw [q]; simp)) fun q2 => step 3 _ _ (by omega) m3 (fun q => h1 (by rw [q]; simp)) fun q3 => ?_))
  rw [q0, q1, q2, q3] at h0
  exact B_C120_isTold_2 ⟨fun _ => h0 rfl, fun z => absurd (nI_le (a := 4) (b := 4) (by omega) (by omega)) z⟩
theorem f_takeNew {K : Int64 → Mm → Prop} {e : FT} (hd : 3 ≤ d) (hc : DrC u D) (ho : DOk D) (h : FtC u e) (hK : ∀ x, K x u) : CJ X d 117 [.ref 1, .ref 120] u K := by
  obtain ⟨d, rfl, hd1⟩ := dpos hd
  refine CJ_of mk_X10_takeNewName.2.2 rfl (B_T_takeNewName_0 ⟨fun _ => c_isTold' hd1 hc ho ?_ ?_, fun _ => f_blame (by omega) h (f_step (by omega) h (hK _))⟩)
  · exact ⟨fun z => absurd z (by decide), fun _ => f_blame (by omega) h (f_step (by omega) h (hK _))⟩
  · exact ⟨fun _ => f_step (by omega) h (hK _), fun z => absurd rfl z⟩
theorem c_takeNew {K : Int64 → Mm → Prop} (hd : 5 ≤ d) (hE : En u f n m) (hc : DrC u D) (ho : DOk D) (hr : RdC u f n m ρ) (hk : tkOk ρ n) (h0 : ∀ e, rNew f n m D ρ = .inl e → ∀ x V, Fr1 u V → FtC V e → K x V) (h1 : ∀ ρ', rNew f n m D ρ = .inr ρ' → lOk ρ.2.2.2.1 → ∀ V, Fr1 u V → RdC V f n m ρ' → K (lN (e5 ρ.2.2.2.1)) V) : CJ X d 117 [.ref 1, .ref 120] u K := by
  obtain ⟨d, rfl, hd1⟩ := dpos hd
  obtain ⟨hn, hm, hb, hw⟩ := hE
  obtain ⟨-, -, t2, -, -, t6⟩ := ty_k hk.2.1
  unfold rNew at h0 h1
  refine CJ_of mk_X10_takeNewName.2.2 rfl (B_T_takeNewName_0 ?_)
  rw [hr.2.2.2.2.1.1]
  refine ⟨fun q => ?_, fun q => ?_⟩
  · have q : isNm ρ = true := t2.mp ((nI_eq (a := ty ρ) (b := 2) (by omega) (by omega)).mp q)
    have q2 := nm_k q
    have hl := hk.2.2.2.1 q2
    rw [if_pos q] at h0 h1
    rw [hr.2.2.2.2.1.2.2.1 q2]
    refine c_isTold (by omega) hc ho hl (fun y => ⟨fun z => absurd z (by decide), fun _ => ?_⟩) (fun y => ⟨fun _ => ?_, fun z => absurd rfl z⟩)
    · rw [if_pos y] at h0
      exact c_bl_st (k := 3) (by omega) hr (by omega) (by omega) (fun V v1 v2 => h0 _ rfl _ V v1 v2)
    · rw [if_neg (by rw [y]; decide)] at h1
      exact c_step hd1 hn hm hb hw hr (by omega) (fun V v1 v2 => h1 _ rfl hl V v1 v2)
  · have q : ¬ isNm ρ = true := fun z => q (by rw [t2.mpr z]; rfl)
    rw [if_neg q] at h0
    exact c_bl_st (k := 1) (by omega) hr (by omega) (by omega) (fun V v1 v2 => h0 _ rfl _ V v1 v2)
theorem c_begin1 {K : Mm → Prop} {s cnt M : Nat} (hd : 5 ≤ d) (hE : En u f n m) (hs : s < 4) (e : u.1 122 s = nI cnt) (hM : exI 1000 s = nI M) (hc : cnt ≤ M) (hM9 : M < 1000) (hr : RdC u f n m ρ) (h2 : ρ.2.1 = 2) (h0 : ∀ e, rFst f n m (cnt == M) ρ = .inl e → ∀ V, Fr1 u V → FtC V e → K V) (h1 : ∀ ρ', rFst f n m (cnt == M) ρ = .inr ρ' → cnt < M → ∀ V, Fr1 u V → RdC V f n m ρ' → K V) : CV X d 17 [.ref 118, .int (nI s)] u K := by
  obtain ⟨d, rfl, hd1⟩ := dpos hd
  obtain ⟨hn, hm, hb, hw⟩ := hE
  unfold rFst at h0 h1
  refine CV_of mk_X1_beginOneOf.2.2 rfl (B_CR_beginOneOf_0 ?_)
  rw [nI_clamp (show s < 2 ^ 31 by omega), e, hM]
  refine ⟨vp_in_nI hs (by decide), vp_in_nI hs (by decide), fun q => ?_, fun q => ?_⟩
  · have q := (nI_ltI (by omega) (by omega)).mp q
    rw [if_neg (by simp; omega)] at h1
    exact c_step hd1 hn hm hb hw hr (by omega) (fun V v1 v2 => h1 _ rfl q V v1 v2)
  · have q := mt (nI_ltI (a := cnt) (b := M) (by omega) (by omega)).mpr q
    rw [if_pos (by simp; omega)] at h0
    exact c_bl_st (k := 4) (by omega) hr (by omega) (by omega) (fun V v1 v2 => h0 _ rfl V v1 v2)
theorem c_add {K : Int32 → Mm → Prop} {s cnt : Nat} {x : Int64} (hd : 1 ≤ d) (hs : s < 4) (hc : cnt < 8) (e : u.1 122 s = nI cnt) (hK : K (nI cnt) (mI (mJ u 121 (8 * s + cnt) x) 122 s (nI (cnt + 1)))) : CI X d 5 [.ref 120, .int (nI s), .long x] u K := by
  obtain ⟨d, rfl, -⟩ := dpos hd
  refine CI_of mk_X0_add.2.2 rfl (B_C120_add_0 ?_)
  rw [nI_clamp (show s < 2 ^ 31 by omega), e, lt2, nI_add, nI_1, nI_clamp (by omega)]
  exact ⟨vp_in_nI hs (by decide), vp_in_nI (by omega) (by decide), vp_in_nI hs (by decide), hK⟩
theorem kSq {K : Mm → Prop} (hd : 6 ≤ d) (hE : En u f n m) (hc : DrC u D) (ho : DOk D) (hr : RdC u f n m ρ) (hk : tkOk ρ n) (h2 : ρ.2.1 = 2) (h0 : ∀ e, lnSq f n m D ρ = .inl e → ∀ V, FrG u V → FtC V e → K V) (h1 : ∀ D' ρ', lnSq f n m D ρ = .inr (D', ρ') → DOk D' → tkOk ρ' n → Adv ρ ρ' → ∀ V, FrD u V → RdC V f n m ρ' → DrC V D' → K V) : CV X d 18 [.ref 118] u K := by
  obtain ⟨d, rfl, hd1⟩ := dpos hd
  obtain ⟨⟨a1, a2, -⟩, -⟩ := id ho
  refine CV_of mk_X1_readSquare.2.2 rfl (B_CR_readSquare_0 ?_)
  unfold lnSq at h0 h1
  refine c_begin1 (s := 0) (cnt := nQ D.1) (M := 8) hd1 hE (by omega) (hc.1.1.trans a1) rfl a2 (by omega) hr h2 (fun e he V v1 v2 => ?_) (fun ρ1 he hlt V v1 v2 => ?_)
  · rw [he] at h0
    exact f_takeNew (by omega) (v1.dr hc) ho v2 fun x => f_takeNum (by omega) v2 fun w => ⟨fun _ => h0 e rfl V v1.g v2, fun z => absurd z v2.ne⟩
  · rw [he] at h0 h1
    dsimp only [bd] at h0 h1
    have hρ1 : ρ1 = nxt f n m ρ := by unfold rFst at he; split at he <;> cases he; rfl
    obtain ⟨k1, ad1⟩ := nxt_ok (f := f) (n := n) (m := m) (ρ := ρ) hE.1 hE.2.1 hk
    rw [← hρ1] at k1 ad1
    refine c_takeNew hd1 (hE.fr v1) (v1.dr hc) ho v2 k1 (fun e he x V2 w1 w2 => ?_) (fun ρ2 he hl V2 w1 w2 => ?_)
    · rw [he] at h0
      exact f_takeNum (by omega) w2 fun w => ⟨fun _ => h0 e rfl V2 (v1.tr w1).g w2, fun z => absurd z w2.ne⟩
    · rw [he] at h0 h1
      dsimp only [bd] at h0 h1
      have hρ2 : ρ2 = nxt f n m ρ1 := by unfold rNew at he; split at he <;> (try split at he) <;> cases he; rfl
      obtain ⟨k2, ad2⟩ := nxt_ok (f := f) (n := n) (m := m) (ρ := ρ1) hE.1 hE.2.1 k1
      rw [← hρ2] at k2 ad2
      have v12 := v1.tr w1
      refine c_takeNum (a := 0) (b := 99) hd1 hE.1 hE.2.1 (hE.fr v12).2.2.1 (hE.fr v12).2.2.2 w2 k2 (by omega) (by omega) (fun e he w V3 x1 x2 => ?_) (fun v ρ3 he V3 x1 x2 => ?_)
      · rw [he] at h0
        exact ⟨fun _ => h0 e rfl V3 (v12.tr x1).g x2, fun z => absurd z x2.ne⟩
      · rw [he] at h1
        dsimp only [bd] at h1
        have hv : ρ3 = nxt f n m ρ2 ∧ v ≤ 99 := by unfold rNum at he; split at he <;> (try split at he) <;> cases he; rename_i q; exact ⟨rfl, by omega⟩
        obtain ⟨k3, ad3⟩ := nxt_ok (f := f) (n := n) (m := m) (ρ := ρ2) hE.1 hE.2.1 k2
        rw [← hv.1] at k3 ad3
        have v123 := v12.tr x1
        have hc3 := v123.dr hc
        refine ⟨fun z => absurd x2.2.1 z, fun _ => c_add (s := 0) (by omega) (by omega) hlt (hc3.1.1.trans a1) ?_⟩
        rw [nI_clamp (by omega)]
        refine ⟨vp_in_nI hlt (by decide), h1 _ _ rfl (dSq_ok ho hlt hl hv.2) k3 (ad1.tr (ad2.tr ad3)) _ (((v123.d.mJ).mI (by omega)).mI (by omega)) (x2.cg ?_ ?_) ?_⟩
        · rw [mI_r (by omega), mI_r (by omega), mJ_1]
        · rw [mI_2, mI_2, mJ_r (by omega)]
        · obtain ⟨n1, n2, n3, n4⟩ := dSq_n (l := ρ1.2.2.2.1) (v := v) ho hlt
          obtain ⟨⟨c1, c2, c3, c4, c5, c6⟩, s, ns, k, a, w, li, z⟩ := hc3
          have hA := ho.1.2.2.2.2.2.1
          have hKK := ho.1.2.2.2.1
          have hW := ho.1.2.2.2.2.2.2.2.1
          unfold DrC stF
          rw [n1, n2, n3, n4]
          unfold dSq
          dsimp only
          simp (disch := omega) only [mI_n, mI_s, mI_r, mJ_1, mI_2, pk_un, pk_us]
          refine ⟨⟨trivial, c2, c3, c4, c5, c6⟩, fun q hq => ?_, fun q hq => ns q hq, fun k' hk' => ?_, fun a' ha' => ?_, fun w' hw' => ?_, li, z⟩
          · by_cases e : q = nQ D.1
            · subst e
              rw [mI_s, pk_us, uLs, show (8 * 0 + nQ D.1) = nQ D.1 by omega, mJ_s]
              exact ⟨rfl, rfl⟩
            · rw [mI_n (by omega), mI_r (by omega), mJ_1, pk_un (by omega), uLn e, mJ_n (by omega)]
              exact s q (by omega)
          · rw [uLn (by omega), mJ_n (by omega)]; exact k k' hk'
          · rw [uLn (by omega), mJ_n (by omega)]; exact a a' ha'
          · rw [uLn (by omega), mJ_n (by omega)]; exact w w' hw'
theorem kKi {K : Mm → Prop} (hd : 6 ≤ d) (hE : En u f n m) (hc : DrC u D) (ho : DOk D) (hr : RdC u f n m ρ) (hk : tkOk ρ n) (h2 : ρ.2.1 = 2) (h0 : ∀ e, lnKi f n m D ρ = .inl e → ∀ V, FrG u V → FtC V e → K V) (h1 : ∀ D' ρ', lnKi f n m D ρ = .inr (D', ρ') → DOk D' → tkOk ρ' n → Adv ρ ρ' → ∀ V, FrD u V → RdC V f n m ρ' → DrC V D' → K V) : CV X d 20 [.ref 118] u K := by
  obtain ⟨d, rfl, hd1⟩ := dpos hd
  obtain ⟨⟨a1, a2, a3, a4, -⟩, -⟩ := id ho
  refine CV_of mk_X1_readKind.2.2 rfl (B_CR_readKind_0 ?_)
  unfold lnKi at h0 h1
  refine c_begin1 (s := 1) (cnt := nK D.1) (M := 5) hd1 hE (by omega) (hc.1.2.1.trans a3) rfl a4 (by omega) hr h2 (fun e he V v1 v2 => ?_) (fun ρ1 he hlt V v1 v2 => ?_)
  · rw [he] at h0
    exact f_takeNew (by omega) (v1.dr hc) ho v2 fun x => ⟨fun _ => h0 e rfl V v1.g v2, fun z => absurd z v2.ne⟩
  · rw [he] at h0 h1
    dsimp only [bd] at h0 h1
    have hρ1 : ρ1 = nxt f n m ρ := by unfold rFst at he; split at he <;> cases he; rfl
    obtain ⟨k1, ad1⟩ := nxt_ok (f := f) (n := n) (m := m) (ρ := ρ) hE.1 hE.2.1 hk
    rw [← hρ1] at k1 ad1
    refine c_takeNew hd1 (hE.fr v1) (v1.dr hc) ho v2 k1 (fun e he x V2 w1 w2 => ?_) (fun ρ2 he hl V2 w1 w2 => ?_)
    · rw [he] at h0
      exact ⟨fun _ => h0 e rfl V2 (v1.tr w1).g w2, fun z => absurd z w2.ne⟩
    · rw [he] at h1
      dsimp only [bd] at h1
      have hρ2 : ρ2 = nxt f n m ρ1 := by unfold rNew at he; split at he <;> (try split at he) <;> cases he; rfl
      obtain ⟨k2, ad2⟩ := nxt_ok (f := f) (n := n) (m := m) (ρ := ρ1) hE.1 hE.2.1 k1
      rw [← hρ2] at k2 ad2
      have v12 := v1.tr w1
      have hc3 := v12.dr hc
      refine ⟨fun z => absurd w2.2.1 z, fun _ => c_add (s := 1) (by omega) (by omega) (by omega) (hc3.1.2.1.trans a3) (h1 _ _ rfl (dKi_ok ho hlt hl) k2 (ad1.tr ad2) _ ((v12.d.mJ).mI (by omega)) (w2.cg ?_ ?_) ?_)⟩
      · rw [mI_r (by omega), mJ_1]
      · rw [mI_2, mJ_r (by omega)]
      · obtain ⟨n1, n2, n3, n4⟩ := dKi_n (D := D) (l := ρ1.2.2.2.1) hlt
        obtain ⟨⟨c1, c2, c3, c4, c5, c6⟩, s, ns, k, a, w, li, z⟩ := hc3
        have hA := ho.1.2.2.2.2.2.1
        have hW := ho.1.2.2.2.2.2.2.2.1
        unfold DrC stF
        rw [n1, n2, n3, n4]
        unfold dKi
        dsimp only
        simp (disch := omega) only [mI_n, mI_s, mI_r, mJ_1, mI_2, pk_un, pk_us]
        refine ⟨⟨c1, trivial, c3, c4, c5, c6⟩, fun q hq => ?_, fun q hq => ns q hq, fun k' hk' => ?_, fun a' ha' => ?_, fun w' hw' => ?_, li, z⟩
        · rw [uLn (by omega), mJ_n (by omega)]; exact s q hq
        · by_cases e : k' = nK D.1
          · subst e
            rw [uLs, show 8 * 1 + nK D.1 = 8 + nK D.1 by omega, mJ_s]
          · rw [uLn (by omega), mJ_n (by omega)]; exact k k' (by omega)
        · rw [uLn (by omega), mJ_n (by omega)]; exact a a' ha'
        · rw [uLn (by omega), mJ_n (by omega)]; exact w w' hw'
theorem kAr {K : Mm → Prop} (hd : 6 ≤ d) (hE : En u f n m) (hc : DrC u D) (ho : DOk D) (hr : RdC u f n m ρ) (hk : tkOk ρ n) (h2 : ρ.2.1 = 2) (h0 : ∀ e, lnAr f n m D ρ = .inl e → ∀ V, FrG u V → FtC V e → K V) (h1 : ∀ D' ρ', lnAr f n m D ρ = .inr (D', ρ') → DOk D' → tkOk ρ' n → Adv ρ ρ' → ∀ V, FrD u V → RdC V f n m ρ' → DrC V D' → K V) : CV X d 24 [.ref 118] u K := by
  obtain ⟨d, rfl, hd1⟩ := dpos hd
  refine CV_of mk_X1_readArrears.2.2 rfl (B_CR_readArrears_0 ?_)
  obtain ⟨v5, l5, g5, e5'⟩ := ho.1.2.2.2.2.2.2.2.2.2.1
  rw [hc.1.2.2.2.2.2]
  unfold lnAr at h0 h1
  cases hha : D.2.2.2 with
  | true =>
    rw [hha, if_pos rfl] at h0
    rw [if_pos rfl, e5']
    refine ⟨fun z => absurd z (nI_m1 (by omega)), fun _ => c_bl_st (k := 3) (by omega) hr (by omega) (by omega) fun V v1 v2 => f_takeNum (by omega) v2 fun w => ⟨fun _ => h0 _ rfl V v1.g v2, fun z => absurd z v2.ne⟩⟩
  | false =>
    rw [hha, if_neg (by decide)] at h0 h1
    rw [if_neg (by decide)]
    obtain ⟨k1, ad1⟩ := nxt_ok (f := f) (n := n) (m := m) (ρ := ρ) hE.1 hE.2.1 hk
    refine ⟨fun _ => c_step (by omega) hE.1 hE.2.1 hE.2.2.1 hE.2.2.2 hr (by omega) fun V v1 v2 => ?_, fun z => absurd rfl z⟩
    refine c_takeNum (a := 1) (b := 9) hd1 hE.1 hE.2.1 (hE.fr v1).2.2.1 (hE.fr v1).2.2.2 v2 k1 (by omega) (by omega) (fun e he w V3 x1 x2 => ?_) (fun v ρ3 he V3 x1 x2 => ?_)
    · rw [he] at h0
      exact ⟨fun _ => h0 e rfl V3 (v1.tr x1).g x2, fun z => absurd z x2.ne⟩
    · rw [he] at h1
      dsimp only [bd] at h1
      have hv : ρ3 = nxt f n m (nxt f n m ρ) ∧ 1 ≤ v ∧ v ≤ 9 := by unfold rNum at he; split at he <;> (try split at he) <;> cases he; rename_i q; exact ⟨rfl, by omega⟩
      obtain ⟨k3, ad3⟩ := nxt_ok (f := f) (n := n) (m := m) (ρ := nxt f n m ρ) hE.1 hE.2.1 k1
      rw [← hv.1] at k3 ad3
      have v13 := v1.tr x1
      obtain ⟨o', n1, n2, n3, n4⟩ := dAr_ok (D := D) (v := v) ho hv.2.1 hv.2.2
      refine ⟨fun z => absurd x2.2.1 z, fun _ => h1 _ _ rfl o' k3 (ad1.tr ad3) _ (v13.d.mI (by omega)) (x2.cg (mI_r (by omega)) rfl) ?_⟩
      obtain ⟨⟨c1, c2, c3, c4, c5, c6⟩, s, ns, k, a, w, li, z⟩ := v13.dr hc
      unfold DrC stF
      rw [n1, n2, n3, n4]
      unfold dAr
      dsimp only
      simp (disch := omega) only [mI_n, mI_s, mI_r, mI_2, pk_un, pk_us, if_true]
      exact ⟨⟨c1, c2, c3, c4, c5, trivial⟩, s, ns, k, a, w, li, z⟩
end CL
