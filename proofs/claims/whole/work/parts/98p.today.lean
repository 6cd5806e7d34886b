/-! today -/
theorem shr_nat : ∀ v, v < 13 → ∀ t, t < 4 → nI v >>> (nI t &&& 31) = nI (v >>> t) ∧ v >>> t ≤ 12 := by decide +kernel
def chF (g : Nat → Int32) (w k : Nat) : Int32 := g (86 + 5 * w + k) >>> (g (250 + 5 * w + k) &&& 31)
def tdF (g : Nat → Int32) (a k : Nat) : Nat → Int32
  | 0 => 0
  | w + 1 => if (goes g w && cm g w (g (210 + a))) = true then tdF g a k w + wth g w (tb (g 200) a) * chF g w k else tdF g a k w
section
variable {X : Xc} {d : Nat} {u : Mm} {g : Nat → Int32} {nm : Nat → Int64} {K : Int32 → Mm → Prop}
theorem tdF_nat (hg : HeadOk g) (hok : LifeOk g g) {a k : Nat} (hk : k < 5) : ∀ w, w ≤ nW' g → ∃ y, y ≤ 108 * w ∧ tdF g a k w = nI y
  | 0, _ => ⟨0, by omega, rfl⟩
  | w + 1, hw => by
    obtain ⟨y, hy, ey⟩ := tdF_nat hg hok (a := a) hk w (by omega)
    have hW := hg.1.2.2.2.2.2.2.2
    by_cases h : (goes g w && cm g w (g (210 + a))) = true
    · obtain ⟨x, hx, ex⟩ := wth_nat hg (show w < nW' g by omega) (tb (g 200) a)
      obtain ⟨v, hv, ev⟩ := (hg.2.2 w (by omega)).2.2.2.2.1 k hk
      obtain ⟨t, ht, et⟩ := hok.2.2.2.2.2 w (by omega) k hk
      obtain ⟨c1, c2⟩ := shr_nat v (by omega) t (by omega)
      refine ⟨y + x * (v >>> t), ?_, ?_⟩
      · have := Nat.mul_le_mul hx c2
        omega
      · rw [tdF, if_pos h, ey, ex, chF, ev, et, c1, pk_mul, nI_add]
    · exact ⟨y, by omega, by rw [tdF, if_neg h, ey]⟩
theorem c_goesU {w : Nat} (hd : 1 ≤ d) (hg : HeadOk g) (hc : CityR u 5 g nm) (hw : w < nW' g) (hl : u.1 20 1 = g 198) (h1 : goes g w = true → K 1 u) (h0 : goes g w = false → K 0 u) : CI X d 54 [.ref 20, .int (nI w)] u K := by
  obtain ⟨d, rfl, hd1⟩ := dpos hd
  have hW := hg.1.2.2.2.2.2.2.2
  obtain ⟨-, -, ⟨ev, he1, he7, ee⟩, -⟩ := hg.2.2 w hw
  have ec : u.1 13 w = nI ev := (hc.2.2.2.2 w hw).2.2.1.trans ee
  unfold goes at h1 h0
  rw [ee, ← hl] at h1 h0
  refine CI_of mk_X4_goesOn.2.2 rfl (B_L20_goesOn_0 ?_)
  simp (disch := omega) only [la1, la2, lt1, lt2, nI_add, pk_mul, nI_clamp, vpn, nI_leI, nI_ltI, nI_eq, ll1, ll2, ll3, ll4, le1, le2, true_and, and_true, not_true_eq_false, not_false_eq_true, forall_const, false_implies, implies_true, if_true, if_false, ite_true, ite_false, and_self, false_and, and_false, ec]
  exact ⟨by omega, fun q => absurd q (by omega), fun q => ⟨by omega, fun z => h0 (decide_eq_false z), fun z => h1 (decide_eq_true z)⟩⟩
theorem l_today {a q k : Nat} (hd : 1 ≤ d) (h : Wd u g nm) (ha : a < nA g) (hq : q < nQ g) (eq : g (210 + a) = nI q) (hk : k < nK g) (ek : g (202 + a) = nI k) (hK : K (tdF g a k (nW' g)) u) : ∀ n w, w + n = nW' g → VI X d 78 K 15 [some (.ref 160), some (.int (nI a)), some (.int (nI q)), some (.int (tdF g a k w)), some (.int (nI w))] [] u
  | 0, w, hw => by
    obtain ⟨hg, hc, hok, hr⟩ := h
    obtain ⟨cq, ck, ca, cw⟩ := cityN hg hc
    have hW := hg.1.2.2.2.2.2.2.2
    have e : w = nW' g := by omega
    subst e
    refine B_RK_earnedToday_15 ?_
    rw [cw]
    exact ⟨fun _ => hK, fun z => absurd (nI_le (Nat.le_refl _) (by omega)) z⟩
  | n + 1, w, hw => by
    have ih := l_today hd h ha hq eq hk ek hK n (w + 1) (by omega)
    rw [← nI_1, tdF] at ih
    have h' := h
    obtain ⟨hg, hc, hok, hr⟩ := h
    obtain ⟨cq, ck, ca, cw⟩ := cityN hg hc
    have hW := hg.1.2.2.2.2.2.2.2
    have hQ := hg.1.2.1
    have hA := hg.1.2.2.2.2.2.1
    have hKK := hg.1.2.2.2.1
    have e4 : u.1 20 4 = g 200 := hr.1.2.2.1
    have e1 : u.1 20 1 = g 198 := hr.1.1
    have e21 : u.1 21 a = nI k := (hr.2.1 a ha).1.trans ek
    have ecm := (hc.2.2.2.2 w (by omega)).2.2.2.2.2.2.2.1 q (by omega)
    refine B_RK_earnedToday_15 ?_
    rw [cw]
    refine ⟨fun z => absurd z (nI_ge (by omega) (by omega)), fun _ => ⟨fun z => absurd z (nI_m1 (by omega)), fun _ => ⟨vp_in_nI (by omega) (by decide), ?_⟩⟩⟩
    rw [nI_clamp (by omega)]
    refine c_bit hd (by omega) (fun y => ⟨fun z => absurd z (by decide), fun _ => ?_⟩) (fun y => ⟨fun _ => ?_, fun z => absurd rfl z⟩)
    · have y : cm g w (g (210 + a)) = true := by rw [eq, ← ecm]; exact y
      refine c_goesU hd hg hc (by omega) e1 (fun z => ⟨fun z => absurd z (by decide), fun _ => ?_⟩) (fun z => ⟨fun _ => ?_, fun z => absurd rfl z⟩)
      · rw [if_pos (by rw [z, y]; rfl)] at ih
        have last : ∀ x : Int32, x = (if tb (g 200) a then 1 else 0) → CI X d 73 [.ref 160, .int (nI w), .int x] u (fun w4 u4 => vp_in (nI a) 8 ∧ CI X d 46 [.ref 20, .int (nI w), .int (u4.1 21 (nI a).toNatClampNeg)] u4 (fun w5 u5 => VI X d 78 K 15 [some (.ref 160), some (.int (nI a)), some (.int (nI q)), some (.int (tdF g a k w + w4 * w5)), some (.int (nI w + 1))] [] u5)) := by
          intro x hx
          refine c_worth hd hg hc (by omega) hx ⟨vp_in_nI (by omega) (by decide), ?_⟩
          rw [nI_clamp (by omega), e21]
          refine c_chance20 hd (by omega) (by omega) ?_
          have q1 : u.1 15 (5 * w + k) = g (86 + 5 * w + k) := (hc.2.2.2.2 w (by omega)).2.2.2.2.2.1 k (by omega)
          have q2 : u.1 28 (5 * w + k) = g (250 + 5 * w + k) := (hr.2.2.2 w (by omega)).2 k (by omega)
          rw [q1, q2]
          exact ih
        rw [e4]
        refine c_bit hd (by omega) (fun v => last _ ?_) (fun v => last _ ?_)
        · rw [v]; rfl
        · rw [v]; rfl
      · rwa [if_neg (by rw [z, Bool.false_and]; decide)] at ih
    · have y : cm g w (g (210 + a)) = false := by rw [eq, ← ecm]; exact y
      rwa [if_neg (by rw [y, Bool.and_false]; decide)] at ih
theorem l_mtoday {a q k : Nat} {p2 : Int32} (hd : 1 ≤ d) (hg : HeadOk (u.1 236)) (hok : LifeOk (u.1 236) (u.1 236)) (ha : a < nA (u.1 236)) (hq : q < nQ (u.1 236)) (eq : u.1 236 (210 + a) = nI q) (hk : k < nK (u.1 236)) (ek : u.1 236 (202 + a) = nI k) (hK : CI X d 262 [.int (tdF (u.1 236) a k (nW' (u.1 236))), .int (12 : Int32), .int p2] u (fun w1 u1 => K w1 u1)) : ∀ n w, w + n = nW' (u.1 236) → VI X d 266 K 54 [some (.ref 234), some (.int (nI a)), some (.int p2), some (.int (tdF (u.1 236) a k w)), some (.int (nI w))] [] u
  | 0, w, hw => by
    have hW := hg.1.2.2.2.2.2.2.2
    have m4 := hg.1.2.2.2.2.2.2.1
    have e : w = nW' (u.1 236) := by omega
    refine B_M_today_54 ?_
    rw [m4, ← e]
    rw [← e] at hK
    exact ⟨fun _ => hK, fun z => absurd (nI_le (Nat.le_refl _) (by omega)) z⟩
  | n + 1, w, hw => by
    have ih := l_mtoday (p2 := p2) hd hg hok ha hq eq hk ek hK n (w + 1) (by omega)
    rw [← nI_1, tdF] at ih
    have hW := hg.1.2.2.2.2.2.2.2
    have m4 := hg.1.2.2.2.2.2.2.1
    have hQ := hg.1.2.1
    have hA := hg.1.2.2.2.2.2.1
    have hKK := hg.1.2.2.2.1
    obtain ⟨-, -, ⟨ev, he1, he7, ee⟩, -, -, el, hl, -⟩ := hg.2.2 w (by omega)
    refine B_M_today_54 ?_
    rw [m4]
    refine ⟨fun z => absurd z (nI_ge (by omega) (by omega)), fun _ => ?_⟩
    rw [show (70 : Int32) + nI w = nI (70 + w) from nI_add 70 w, show (210 : Int32) + nI a = nI (210 + a) from nI_add 210 a, show (202 : Int32) + nI a = nI (202 + a) from nI_add 202 a, nI_clamp (show 70 + w < 2147483648 by omega), nI_clamp (show 210 + a < 2147483648 by omega), nI_clamp (show 202 + a < 2147483648 by omega)]
    refine ⟨vp_in_nI (by omega) (by decide), ?_, fun z => ?_, fun z => ⟨vp_in_nI (by omega) (by decide), ?_⟩⟩
    · rw [ee]
      exact fun z => absurd ((nI_eq (b := 0) (by omega) (by omega)).mp z) (by omega)
    · have z : goes (u.1 236) w = false := decide_eq_false z
      rwa [if_neg (by rw [z, Bool.false_and]; decide)] at ih
    · have z : goes (u.1 236) w = true := decide_eq_true z
      refine c_mcomes hd (by omega) el hl (fun y => ⟨fun z => absurd z (by decide), fun _ => ?_⟩) (fun y => ⟨fun _ => ?_, fun z => absurd rfl z⟩)
      · rw [if_pos (by rw [z, y]; rfl)] at ih
        have last : ∀ x : Int32, x = (if tb (u.1 236 200) a then 1 else 0) → CI X d 255 [.ref 234, .int (nI w), .int x] u (fun w4 u4 => vp_in (nI (202 + a)) 532 ∧ CI X d 232 [.ref 234, .int (nI w), .int (u4.1 236 (202 + a))] u4 (fun w5 u5 => VI X d 266 K 54 [some (.ref 234), some (.int (nI a)), some (.int p2), some (.int (tdF (u.1 236) a k w + w4 * w5)), some (.int (nI w + 1))] [] u5)) := by
          intro x hx
          refine c_mworthOf hd (by omega) hx ⟨vp_in_nI (by omega) (by decide), ?_⟩
          rw [ek]
          exact c_mchance hd (by omega) (by omega) ih
        refine c_mhas hd (by omega) (fun v => last _ ?_) (fun v => last _ ?_)
        · rw [v]; rfl
        · rw [v]; rfl
      · rwa [if_neg (by rw [y, Bool.and_false]; decide)] at ih
theorem p_today {p1 p2 : Int32} (hX : (xL X).stackTraces = false) (hd : 6 ≤ d) (h : Rl u) : PairT X d 143 266 [.int p1, .int p2] u := by
  intro KN KX hN hT
  obtain ⟨d, rfl, hd1⟩ := dpos hd
  have hWd := h.Wd
  obtain ⟨hg, hc, hok, hr⟩ := h.Wd
  have hA := hg.1.2.2.2.2.2.1
  have hQ := hg.1.2.1
  have hKK := hg.1.2.2.2.1
  have hW := hg.1.2.2.2.2.2.2.2
  have m3 := hg.1.2.2.2.2.1
  obtain ⟨cq, ck, ca, cw⟩ := cityN hg hc
  have e3 : u.1 20 3 = u.1 236 201 := hr.1.2.2.2
  have e1 : u.1 20 1 = u.1 236 198 := hr.1.1
  obtain ⟨t, ht, et⟩ := hok.1
  have bad : (p1 < 0 ∨ nI (nA (u.1 236)) ≤ p1) ∨ (¬ (p2 = 0 ∨ p2 = 1)) ∨ (∃ a, a < nA (u.1 236) ∧ p1 = nI a ∧ tb (u.1 236 201) a = true) ∨ t = 400 → KX u := by
    intro z
    refine hT _ (CI_of mk_X13_today.2.2 rfl (B_M_today_0 (c_misStatue (n := nA (u.1 236)) (by omega) m3 (by omega) (fun a ha ea => ⟨fun y => absurd y (by decide), fun _ => ?_⟩) (fun _ => ⟨fun _ => c_mrefuse (by omega) (fin_no h), fun y => absurd rfl y⟩))))
    subst ea
    refine c_misEvicted (by omega) (by omega) (fun y => ⟨fun _ => c_mrefuse (by omega) (fin_no h), fun y => absurd y (by decide)⟩) (fun y => ⟨fun y => absurd rfl y, fun _ => ⟨fun _ => c_mrefuse (by omega) (fin_no h), fun y4 => ?_⟩⟩)
    have y : tb (u.1 236 201) a = false := y
    have y4 : ¬ u.1 236 198 = 400 := y4
    refine c_misIn (by omega) (fun y1 y2 => ?_) (fun _ => ⟨fun y => absurd rfl y, fun _ => c_mrefuse (by omega) (fin_no h)⟩)
    rcases z with z | z | ⟨b, hb, eb, zb⟩ | z
    · exact (no2 ha (by omega) z).elim
    · exact (half_no z y1 y2).elim
    · have : b = a := ((nI_eq (by omega) (by omega)).mp eb).symm
      subst this
      rw [y] at zb
      cases zb
    · subst z
      exact absurd et y4
  refine T_today hX (by omega) (c_has5 (s := 2) (n := nA (u.1 236)) (by omega) rfl (by omega) ca (by omega) (fun a ha ea => ⟨fun y => absurd y (by decide), fun _ => ?_⟩) (fun z => ⟨fun _ => bad (Or.inl z), fun y => absurd rfl y⟩))
  subst ea
  refine c_isHalf (by omega) (fun hp => ⟨fun y => absurd y (by decide), fun _ => ?_⟩) (fun hp => ⟨fun _ => bad (Or.inr (Or.inl hp)), fun y => absurd rfl y⟩)
  rw [e3]
  refine c_bit (by omega) (by omega) (fun y => ⟨fun _ => bad (Or.inr (Or.inr (Or.inl ⟨a, ha, rfl, y⟩))), fun y => absurd y (by decide)⟩) (fun y => ⟨fun y => absurd rfl y, fun _ => ?_⟩)
  rw [e1, et]
  refine ⟨fun z => ?_, fun z => bad (Or.inr (Or.inr (Or.inr ?_)))⟩
  · have z : t < 400 := (nI_ltI (b := 400) (by omega) (by omega)).mp z
    obtain ⟨⟨k, hk, ek⟩, pl⟩ := hok.2.2.2.1 a ha
    rcases pl with ⟨z1, -⟩ | ⟨-, q, hq, eq⟩
    · rw [y] at z1; cases z1
    · have e22 : u.1 22 a = nI q := (hr.2.1 a ha).2.1.trans eq
      obtain ⟨y0, hy, ey⟩ := tdF_nat (a := a) (k := k) hg hok (by omega) (nW' (u.1 236)) (Nat.le_refl _)
      have ez : (if 0 ≤ tdF (u.1 236) a k (nW' (u.1 236)) then tdF (u.1 236) a k (nW' (u.1 236)) else 0 - tdF (u.1 236) a k (nW' (u.1 236))) = nI y0 := by
        rw [ey, if_pos (show (0 : Int32) ≤ nI y0 from (nI_leI (a := 0) (by omega) (by omega)).mpr (Nat.zero_le _))]
      obtain ⟨d', rfl, hd2⟩ := dpos hd1
      refine CI_of mk_X7_earnedToday.2.2 rfl (B_RK_earnedToday_0 ⟨vp_in_nI (by omega) (by decide), ?_⟩)
      rw [nI_clamp (by omega), e22]
      refine l_today (by omega) hWd ha hq eq hk ek ?_ (nW' (u.1 236)) 0 (by omega)
      refine c_told (by omega) ez rfl (b := 12) (by omega) (by decide) (by decide) ?_
      refine hN _ _ (CI_of mk_X13_today.2.2 rfl (B_M_today_0 (c_misStatue (n := nA (u.1 236)) (by omega) m3 (by omega) (fun _ _ _ => ⟨fun y => absurd y (by decide), fun _ => ?_⟩) (fun z => (no2 ha (by omega) z).elim))))
      refine c_misEvicted (by omega) (by omega) (fun y' => ?_) (fun _ => ⟨fun y => absurd rfl y, fun _ => ⟨fun y4 => ?_, fun _ => ?_⟩⟩)
      · have y' : tb (u.1 236 201) a = true := y'
        rw [y] at y'; cases y'
      · have y4 : u.1 236 198 = 400 := y4
        rw [et] at y4
        exact absurd ((nI_eq (b := 400) (by omega) (by omega)).mp y4) (by omega)
      · refine c_misIn (by omega) (fun _ _ => ⟨fun _ => ?_, fun y => absurd y (by decide)⟩) (fun y => absurd y (half_in hp))
        exact l_mtoday (u := mI (mJ u 261 0 (Int32.toInt64 (frc (tdF (u.1 236) a k (nW' (u.1 236))) 12 p2 y0 12))) 234 0 0) (by omega) hg hok ha hq eq hk ek (c_mpart (by omega) ez rfl (b := 12) (by omega) (by decide) (by decide) ⟨rfl, fin_ok h⟩) (nW' (u.1 236)) 0 (Nat.zero_add _)
  · have z : ¬ t < 400 := fun y => z ((nI_ltI (b := 400) (by omega) (by omega)).mpr y)
    omega
end
