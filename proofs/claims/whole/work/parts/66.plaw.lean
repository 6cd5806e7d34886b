/-! pairs: law, bare, odds -/
theorem tb_xor (x y : Int32) (i : Nat) : tb (x ^^^ y) i = (tb x i ^^ tb y i) := by simp [tb]
theorem and_0 {x y : Int32} : x &&& y = 0 ↔ ∀ i, i < 32 → tb x i = true → tb y i = false := by
  constructor
  · intro h i hi hx
    have := congrArg (fun z => tb z i) h
    simp only [tb_and, tb_0, hx, Bool.true_and] at this
    exact this
  · intro h
    refine tb_ext fun i hi => ?_
    rw [tb_and, tb_0]
    have := h i hi
    cases hx : tb x i
    · rfl
    · rw [this hx]; rfl
section Mono
variable {g s : Nat → Int32} {D : DS}
theorem dawn1_mono {j i : Nat} (hj : j < 8) (hi : i < 32) (h : tb (s 201) i = true) : tb (dawn1 s j 201) i = true := by
  unfold dawn1
  split
  · rw [pk_un (by omega), pk_us, tb_or, h]; rfl
  · exact h
theorem dawnF_mono {i : Nat} (hi : i < 32) (h : tb (s 201) i = true) : ∀ j, j ≤ 8 → tb (dawnF s j 201) i = true
  | 0, _ => h
  | j + 1, hj => dawn1_mono (by omega) hi (dawnF_mono hi h j (by omega))
theorem ev_mono (hg : HeadOk g) (h : Stt g D.1) {t i : Nat} (e : D.1 198 = nI t) (hi : i < 32) (hb : tb (D.1 201) i = true) : ∀ m, t + m ≤ 400 → tb ((daysF g D m).1 201) i = true
  | 0, _ => hb
  | m + 1, hm => by
    have h1 := (daysF_ok hg h e m (by omega)).1
    rw [daysF, dayF_201 hg h1]
    exact dawnF_mono hi (ev_mono hg h e hi hb m (by omega)) _ (hdA hg h1).2.2.2.2.1
theorem gn_tb (hg : HeadOk g) (h : Stt g D.1) {t i m : Nat} (e : D.1 198 = nI t) (hm : t + m + 1 ≤ 400) (hi : i < 32) : tb ((daysF g D (m + 1)).1 201) i = (tb ((daysF g D m).1 201) i || tb (gn g D m) i) := by
  have h1 := (daysF_ok hg h e m (by omega)).1
  have := dawnF_mono (s := (daysF g D m).1) hi (i := i)
  unfold gn
  rw [tb_xor]
  have e1 : tb ((daysF g D m).1 201) i = true → tb ((daysF g D (m + 1)).1 201) i = true := by
    intro q
    rw [daysF, dayF_201 hg h1]
    exact dawnF_mono hi q _ (hdA hg h1).2.2.2.2.1
  revert e1
  cases tb ((daysF g D m).1 201) i <;> cases tb ((daysF g D (m + 1)).1 201) i <;> simp
theorem till_iff (hg : HeadOk g) (h : Stt g D.1) {t : Nat} {set : Int32} (e : D.1 198 = nI t) (h0 : set &&& D.1 201 = 0) : ∀ m, t + m ≤ 400 → ((∀ i, i < m → gn g D i &&& set = 0) ↔ set &&& (daysF g D m).1 201 = 0)
  | 0, _ => ⟨fun _ => h0, fun _ i hi => absurd hi (by omega)⟩
  | m + 1, hm => by
    have ih := till_iff hg h e h0 m (by omega)
    constructor
    · intro q
      have q1 := ih.mp (fun i hi => q i (by omega))
      have q2 := q m (by omega)
      rw [and_0] at q1 q2 ⊢
      intro i hi hx
      rw [gn_tb hg h e (by omega) hi, q1 i hi hx, Bool.false_or]
      cases hy : tb (gn g D m) i
      · rfl
      · exact absurd hx (by rw [q2 i hi hy]; decide)
    · intro q i hi
      rw [and_0] at q
      by_cases ei : i = m
      · subst ei
        rw [and_0]
        intro k hk hx
        cases hy : tb set k
        · rfl
        · have := q k hk hy
          rw [gn_tb hg h e (by omega) hk, hx, Bool.or_true] at this
          cases this
      · refine ih.mpr ?_ i (by omega)
        rw [and_0]
        intro k hk hx
        have := q k hk hx
        rw [gn_tb hg h e (by omega) hk, Bool.or_eq_false_iff] at this
        exact this.1
theorem Stt_5 {x : Int32} (hA : nA g ≤ 8) (hW : nW' g ≤ 8) (h : Stt g s) : Stt g (upd s 5 x) := ⟨fun k hk h5 => by rw [pk_un h5]; exact h.1 k hk h5, h.2.scongr hA hW fun k h1 h2 => pk_un (by omega)⟩
theorem LP_5 {l : Nat → Nat → Int32} {x : Int32} (hA : nA g ≤ 8) (hW : nW' g ≤ 8) (h : LifeP g s l) : LifeP g (upd s 5 x) l := by
  obtain ⟨⟨a1, a2, a3, a4⟩, b, c, d⟩ := h
  refine ⟨⟨?_, ?_, ?_, ?_⟩, fun a ha => ?_, fun q' hq' => ?_, fun w hw => ⟨?_, fun k hk => ?_⟩⟩
  · simp (disch := omega) only [pk_un, pk_us]; exact a1
  · simp (disch := omega) only [pk_un, pk_us]; exact a2
  · simp (disch := omega) only [pk_un, pk_us]; exact a3
  · simp (disch := omega) only [pk_un, pk_us]; exact a4
  · simp (disch := omega) only [pk_un, pk_us]; exact b a ha
  · rw [stAt_congr (s := s) (fun i hi => by simp (disch := omega) only [pk_un, pk_us])]; exact c q' hq'
  · simp (disch := omega) only [pk_un, pk_us]; exact (d w hw).1
  · simp (disch := omega) only [pk_un, pk_us]; exact (d w hw).2 k hk
end Mono
theorem set_in : ∀ n, n ≤ 8 → ∀ j, j < 256 → j < 2 ^ n → nI j &&& ((((1 : Int32) <<< (nI n &&& 31)) - 1) ^^^ (-1)) = 0 := by decide +kernel
theorem set_pow : ∀ n, n ≤ 8 → ((1 : Int32) <<< (nI n &&& 31)) = nI (2 ^ n) ∧ (((1 : Int32) <<< (nI n &&& 31)) - 1).toBitVec.toNat = 2 ^ n - 1 := by decide +kernel
theorem pow_le {n : Nat} (hn : n ≤ 8) : 2 ^ n ≤ 256 := Nat.le_trans (Nat.pow_le_pow_right (by omega) hn) (by decide)
/-- a set of n: told in both ways -/
theorem set_iff {x : Int32} {n : Nat} (hn : n ≤ 8) : x &&& ((((1 : Int32) <<< (nI n &&& 31)) - 1) ^^^ (-1)) = 0 ↔ ¬ x < 0 ∧ ¬ ((1 : Int32) <<< (nI n &&& 31)) ≤ x := by
  obtain ⟨s1, s2⟩ := set_pow n hn
  have hp := pow_le hn
  constructor
  · intro h
    have e : x = x &&& (((1 : Int32) <<< (nI n &&& 31)) - 1) := by
      rw [and_0] at h
      refine tb_ext fun i hi => ?_
      rw [tb_and]
      cases hx : tb x i
      · rfl
      · have := h i hi hx
        rw [tb_xm1 _ hi] at this
        simpa using this.symm
    rw [pk_and x n s2] at e
    have hlt := Nat.mod_lt x.toBitVec.toNat (Nat.two_pow_pos n)
    rw [e, s1]
    exact ⟨nI_pos (by omega), nI_ge hlt (by omega)⟩
  · rintro ⟨h1, h2⟩
    rw [s1] at h2
    obtain ⟨j, hj, rfl⟩ := nI_two' h1 h2 (by omega)
    exact set_in n hn j (by omega) hj
section PLaw
variable {X : Xc} {d : Nat} {u : Mm}
def lwP (g : Nat → Int32) (set sd : Int32) (m : Nat) (j : Nat) : Bool := decide (set &&& (daysF g (upd g 5 (nI (j + 1)), fun _ => 0, sd, 0) m).1 201 = 0)
def lwR (p : Nat → Bool) : Int32 := if fstI p 9 = -1 then -1 else fstI p 9 + 1
theorem p_law {p1 p2 p3 : Int32} (hd : 7 ≤ d) (h : Rl u) : PairI X d 157 293 [.int p1, .int p2, .int p3] u := by
  intro K hK
  obtain ⟨hg, hc, hok, hr, -⟩ := h.2.2.2.1
  have hA := hg.1.2.2.2.2.2.1
  have hQ := hg.1.2.1
  have hW := hg.1.2.2.2.2.2.2.2
  have hst := Stt.rf hok
  obtain ⟨cq, ck, ca, cw⟩ := cityN hg hc
  obtain ⟨m3, m2, m4, m0, -⟩ := hdA hg hst
  obtain ⟨day, hday, e198⟩ := hok.1
  obtain ⟨d, rfl, hd1⟩ := dpos hd
  have si := set_iff (x := p1) hA
  have e3 : u.1 20 3 = u.1 236 201 := hr.1.2.2.2
  have mbad : ((p1 < 0 ∨ ((1 : Int32) <<< (nI (nA (u.1 236)) &&& 31)) ≤ p1) ∨ p1 &&& u.1 236 201 ≠ 0 ∨ p2 < 1 ∨ 60 < p2) → CI X (d + 1) 293 [.ref 234, .int p1, .int p2, .int p3] u (fun w2 u2 => K (-1) w2 u2) := by
    intro hb
    refine CI_of mk_X13_law.2.2 rfl (B_M_law_0 ?_)
    rw [show (mI u 234 0 0).1 236 3 = nI (nA (u.1 236)) from m3]
    refine ⟨fun _ => hK _ _ h.th, fun z1 => ⟨fun _ => hK _ _ h.th, fun z2 => ⟨fun _ => hK _ _ h.th, fun z3 => ?_⟩⟩⟩
    refine c_misIn (by omega) (fun y1 y2 => ?_) (fun _ => ⟨fun z => absurd rfl z, fun _ => hK _ _ h.th⟩)
    rcases hb with (q | q) | q | q | q
    · exact absurd q z1
    · exact absurd q z2
    · exact absurd z3 q
    · exact absurd q y1
    · exact absurd q y2
  refine CI_of mk_X12_law.2.2 rfl (B_S_law_0 ?_)
  rw [ca, e3]
  refine ⟨fun q => mbad (Or.inl ?_), fun q => ⟨fun q1 => mbad (Or.inr (Or.inl q1)), fun q1 => ⟨fun q2 => mbad (Or.inr (Or.inr (Or.inl q2))), fun q2 => ⟨fun q3 => ?_, fun q3 => mbad (Or.inr (Or.inr (Or.inr (Int32.not_le.mp q3))))⟩⟩⟩⟩
  · by_cases z : p1 < 0
    · exact Or.inl z
    · by_cases z2 : ((1 : Int32) <<< (nI (nA (u.1 236)) &&& 31)) ≤ p1
      · exact Or.inr z2
      · exact absurd (si.mpr ⟨z, z2⟩) q
  have q0 : ¬ p2 < 0 := by
    intro z
    rw [Int32.lt_iff_toInt_lt] at q2 z
    have : (1 : Int32).toInt = 1 := rfl
    have : (0 : Int32).toInt = 0 := rfl
    omega
  obtain ⟨m, hm, rfl⟩ := nI_of2 (n := 60) rfl q0 q3
  obtain ⟨hmn1, hmn2⟩ := mnD_le (n := m) hday
  have e5 : ∀ x, (upd (u.1 236) 5 x) 198 = nI day := fun x => by rw [pk_un (by omega)]; exact e198
  have e201 : ∀ x, p1 &&& (upd (u.1 236) 5 x) 201 = 0 := fun x => by rw [pk_un (by omega)]; exact q1
  have hst5 : ∀ x, Stt (u.1 236) (upd (u.1 236) 5 x) := fun x => Stt_5 hA hW hst
  generalize hp : lwP (u.1 236) p1 p3 (mnD m day) = p
  have hpj : ∀ j (t : Nat → Int32) (sn : Int32), (p j = true ↔ p1 &&& (daysF (u.1 236) (upd (u.1 236) 5 (nI (j + 1)), t, p3, sn) (mnD m day)).1 201 = 0) := by
    intro j t sn
    rw [← hp, lwP, decide_eq_true_eq, (daysF_ind (g := u.1 236) (D := (upd (u.1 236) 5 (nI (j + 1)), fun _ => 0, p3, 0)) (E := (upd (u.1 236) 5 (nI (j + 1)), t, p3, sn)) rfl rfl (mnD m day)).1]
  have model : ∀ l, CI X (d + 1) 293 [.ref 234, .int p1, .int (nI m), .int p3] (lm u 35 l) (fun w2 u2 => K (lwR p) w2 u2) := by
    intro l
    refine CI_of mk_X13_law.2.2 rfl (B_M_law_0 ?_)
    have hR := (Rl_spare (l := l) h).th (x := 0)
    generalize hU : mI (lm u 35 l) 234 0 0 = U at hR
    have u236 : U.1 236 = u.1 236 := by
      rw [← hU]
      simp (disch := omega) only [mI_r, lm_o]
    rw [u236, m3]
    refine ⟨fun z => absurd z (si.mp q).1, fun _ => ⟨fun z => absurd z (si.mp q).2, fun _ => ⟨fun z => absurd q1 z, fun _ => ?_⟩⟩⟩
    refine c_misIn (by omega) (fun _ _ => ⟨fun _ => c_mlay (by omega) ?_, fun z => absurd z (by decide)⟩) (fun z => ?_)
    · have hR2 := Rl_240 (f := fun k => if k < 92 then U.1 236 (198 + k) else U.1 240 k) hR
      generalize hV : mR U 240 (fun k => if k < 92 then U.1 236 (198 + k) else U.1 240 k) = V at hR2
      have v236 : V.1 236 = u.1 236 := by
        rw [← hV, mR_n (by omega), u236]
      have v240 : ∀ k, k < 92 → V.1 240 k = u.1 236 (198 + k) := by
        intro k hk
        rw [← hV, mR_s, if_pos hk, u236]
      have eV : V = md V (upd (u.1 236) 5 (u.1 236 5)) (V.1 247) (V.1 234 27) (V.1 234 28) := by
        have := (md_eta V).symm
        rwa [v236, ← upid (u.1 236) 5] at this
      rw [eV, u236]
      have back : ∀ (s t : Nat → Int32) (sd sn x : Int32), Out (upd (u.1 236) 5 x) s → mR (md V s t sd sn) 236 (rst (V.1 240) s) = md V (upd (u.1 236) 5 x) t sd sn := by
        intro s t sd sn x ho
        rw [md_mR]
        have : rst (V.1 240) s = upd (u.1 236) 5 x := by
          funext k
          unfold rst
          split
          · rename_i hk
            rw [v240 _ (by omega), pk_un (by omega)]
            exact congrArg (u.1 236) (by omega)
          · exact ho k (by omega)
        rw [this]
      have fin : ∀ (w : Int32) (t : Nat → Int32) (sd sn x : Int32), w = lwR p → K (lwR p) w (mI (md V (upd (u.1 236) 5 x) t sd sn) 236 5 (u.1 236 5)) := by
        intro w t sd sn x hw
        rw [hw, md_s]
        have e : upd (upd (u.1 236) 5 x) 5 (u.1 236 5) = V.1 236 := by
          rw [v236]
          funext k
          rw [upd_at, upd_at]
          by_cases ek : k = 5
          · subst ek; rw [if_pos rfl]
          · rw [if_neg ek, if_neg ek]
        rw [e]
        exact hK _ _ (Rl_md hR2)
      refine lupR (n := 9) (W := fun j (z : Int32 × (Nat → Int32) × Int32 × Int32) => VI X d 293 (fun w2 u2 => K (lwR p) w2 u2) 64 [some (.ref 234), some (.int p1), some (.int (nI m)), some (.int p3), some (.int (u.1 236 5)), some (.int (-1)), some (.int (nI (j + 1)))] [] (md V (upd (u.1 236) 5 z.1) z.2.1 z.2.2.1 z.2.2.2))
        (I := fun j z => ∀ i, i < j → p i = false) ?_ (u.1 236 5, V.1 247, V.1 234 27, V.1 234 28) (fun i hi => absurd hi (by omega))
      rintro j ⟨x, t, sd, sn⟩ hj i1 ih
      refine B_M_law_64 ?_
      simp (disch := omega) only [la1, la2, lt1, lt2, nI_add, pk_mul, nI_clamp, vpn, nI_leI, nI_ltI, nI_eq, ll1, ll2, ll3, ll4, le1, le2, true_and, and_true, not_true_eq_false, not_false_eq_true, forall_const, false_implies, implies_true, if_true, if_false, ite_true, ite_false, and_self, false_and, and_false]
      refine ⟨fun y => ?_, fun y => ?_⟩
      · refine fin _ t sd sn x ?_
        rw [lwR, fstI_none (fun i hi => i1 i (by omega)), if_pos rfl]
      · rw [md_s, md_sd]
        have ex : upd (upd (u.1 236) 5 x) 5 (nI (j + 1)) = upd (u.1 236) 5 (nI (j + 1)) := by
          funext k
          rw [upd_at, upd_at, upd_at]
          by_cases ek : k = 5
          · subst ek; rw [if_pos rfl, if_pos rfl]
          · rw [if_neg ek, if_neg ek, if_neg ek]
        rw [ex]
        refine c_mpass (D := (upd (u.1 236) 5 (nI (j + 1)), t, p3, sn)) (by omega) hg (hst5 (nI (j + 1))) (e5 (nI (j + 1))) hday hm ?_
        have hOut := daysF_Out (D := (upd (u.1 236) 5 (nI (j + 1)), t, p3, sn)) hg (hst5 (nI (j + 1))) (e5 (nI (j + 1))) (mnD m day) hmn1
        have hpp := hpj j t sn
        generalize daysF (u.1 236) (upd (u.1 236) 5 (nI (j + 1)), t, p3, sn) (mnD m day) = E at hOut hpp ⊢
        obtain ⟨es, et, esd, esn⟩ := E
        dsimp only at hOut hpp ⊢
        rw [md_236]
        refine ⟨fun y2 => ?_, fun y2 => ?_⟩
        · refine c_mback (by omega) ?_
          rw [md_236, md_o (by omega) (by omega) (by omega), back es et esd esn _ hOut]
          refine ih (by omega) (nI (j + 1), et, esd, esn) (fun i hi => ?_)
          by_cases ei : i = j
          · subst ei; exact Bool.eq_false_iff.mpr fun z => y2 (hpp.mp z)
          · exact i1 i (by omega)
        · refine c_mback (by omega) ?_
          rw [md_236, md_o (by omega) (by omega) (by omega), back es et esd esn _ hOut]
          have hr : nI (j + 1) = lwR p := by
            rw [lwR, fstI_some (hpp.mpr y2) (fun i hi => i1 i hi) (by omega) (by omega), if_neg (nI_m1 (by omega)), nI_1]
          refine B_M_law_64 ⟨fun _ => fin _ _ _ _ _ hr, fun _ => ⟨fun _ => fin _ _ _ _ _ hr, fun z => absurd z (nI_m1 (by omega))⟩⟩
    · rcases z with z | z
      · exact absurd z q2
      · exact absurd q3 (Int32.not_le.mpr z)
  have e35 : u = lm u 35 (fun c => u.1 (35 + c)) := (lm_eta u 35).symm
  suffices hz : VI X d 157 (fun w1 u1 => CI X (d + 1) 293 [.ref 234, .int p1, .int (nI m), .int p3] u1 (fun w2 u2 => K w1 w2 u2)) 52 [some (.ref 0), some (.int p1), some (.int (nI m)), some (.int p3), some (.int (((1 : Int32) <<< (nI (nA (u.1 236)) &&& 31)) - 1)), some (.int (nI (0 + 1)))] [] (lm u 35 (fun c => u.1 (35 + c))) by rwa [← e35] at hz
  refine lupR (n := 9) (W := fun j (z : Nat → Nat → Int32) => VI X d 157 (fun w1 u1 => CI X (d + 1) 293 [.ref 234, .int p1, .int (nI m), .int p3] u1 (fun w2 u2 => K w1 w2 u2)) 52 [some (.ref 0), some (.int p1), some (.int (nI m)), some (.int p3), some (.int (((1 : Int32) <<< (nI (nA (u.1 236)) &&& 31)) - 1)), some (.int (nI (j + 1)))] [] (lm u 35 z))
    (I := fun j z => ∀ i, i < j → p i = false) ?_ _ (fun i hi => absurd hi (by omega))
  rintro j l hj i1 ih
  refine B_S_law_52 ?_
  simp (disch := omega) only [la1, la2, lt1, lt2, nI_add, pk_mul, nI_clamp, vpn, nI_leI, nI_ltI, nI_eq, ll1, ll2, ll3, ll4, le1, le2, true_and, and_true, not_true_eq_false, not_false_eq_true, forall_const, false_implies, implies_true, if_true, if_false, ite_true, ite_false, and_self, false_and, and_false]
  refine ⟨fun y => ?_, fun y => ?_⟩
  · have hr : (-1 : Int32) = lwR p := by rw [lwR, fstI_none (fun i hi => i1 i (by omega)), if_pos rfl]
    rw [hr]
    exact model l
  · refine c_lcopy35_20 (by omega) fun l2 hl2 => ?_
    have ql : LifeP (u.1 236) (upd (u.1 236) 5 (nI (j + 1))) l2 := LP_5 hA hW (hl2.P hA hQ hW hr)
    have ti := till_iff (D := (upd (u.1 236) 5 (nI (j + 1)), fun _ => 0, p3, 0)) (set := p1) hg (hst5 (nI (j + 1))) (e5 (nI (j + 1))) (e201 (nI (j + 1))) (mnD m day) hmn1
    have hpp := hpj j (fun _ => 0) 0
    have e5' : nI (j + 1) = (upd (u.1 236) 5 (nI (j + 1)), (fun _ => 0 : Nat → Int32), p3, (0 : Int32)).1 5 := (show upd (u.1 236) 5 (nI (j + 1)) 5 = nI (j + 1) from pk_us).symm
    suffices hz2 : CI X d 52 [.ref 35, .int (nI m), .int p3, .int ((upd (u.1 236) 5 (nI (j + 1)), (fun _ => 0 : Nat → Int32), p3, (0 : Int32)).1 5), .int p1] (lm u 35 l2) (fun w2 u2 => (¬ w2 = (-1) → VI X d 157 (fun w1 u1 => CI X (d + 1) 293 [.ref 234, .int p1, .int (nI m), .int p3] u1 (fun w2 u2 => K w1 w2 u2)) 52 [some (.ref 0), some (.int p1), some (.int (nI m)), some (.int p3), some (.int (((1 : Int32) <<< (nI (nA (u.1 236)) &&& 31)) - 1)), some (.int (nI (j + 1 + 1)))] [] u2) ∧ (w2 = (-1) → CI X (d + 1) 293 [.ref 234, .int p1, .int (nI m), .int p3] u2 (fun w2 u2 => K (nI (j + 1)) w2 u2))) by rwa [← e5'] at hz2
    refine c_till35 (d := d) (D := (upd (u.1 236) 5 (nI (j + 1)), (fun _ => 0 : Nat → Int32), p3, (0 : Int32))) (by omega) hg hc (hst5 (nI (j + 1))) (e5 (nI (j + 1))) hday hm ql (fun y2 l3 => ⟨fun z => absurd rfl z, fun _ => ?_⟩) (fun i hi y2 y3 l3 => ⟨fun _ => ih (by omega) l3 (fun i' hi' => ?_), fun z => absurd z (nI_m1 (by omega))⟩)
    · have hr : nI (j + 1) = lwR p := by
        rw [lwR, fstI_some (hpp.mpr (ti.mp y2)) (fun i hi => i1 i hi) (by omega) (by omega), if_neg (nI_m1 (by omega)), nI_1]
      rw [hr]
      exact model l3
    · by_cases ei : i' = j
      · subst ei
        refine Bool.eq_false_iff.mpr fun z => ?_
        exact y3 (ti.mpr (hpp.mp z) i hi)
      · exact i1 i' (by omega)
end PLaw
