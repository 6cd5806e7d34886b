/-! the model reads a city whole -/
section MCity
variable {X : Xc} {d : Nat} {u : Mm} {D : DR} {f : Nat → Nat} {n m : Nat}
theorem c_mstartSo {K : Mm → Prop} (hd : 1 ≤ d) (hA : u.1 236 3 = nI (nA (u.1 236))) (hA8 : nA (u.1 236) ≤ 8) (hK : ∀ V : Mm, (∀ b, b ≠ 236 → V.1 b = u.1 b) → V.2 = u.2 → (∀ i, i < 198 → V.1 236 i = u.1 236 i) → (∀ i, 198 ≤ i → i < 532 → V.1 236 i = stS (u.1 236) i) → K V) : CV X d 207 [.ref 234] u K := by
  obtain ⟨d, rfl, -⟩ := dpos hd
  refine CV_of mk_X13_startSo.2.2 rfl (B_M_startSo_0 ?_)
  refine lupR (n := 334) (W := fun i (V : Mm) => VV X d 207 K 4 [some (.ref 234), some (.int (nI (198 + i)))] [] V)
    (I := fun i V => (∀ b, b ≠ 236 → V.1 b = u.1 b) ∧ V.2 = u.2 ∧ (∀ j, j < 198 → V.1 236 j = u.1 236 j) ∧ ∀ j, 198 ≤ j → j < 198 + i → V.1 236 j = 0) ?_ u ⟨fun _ _ => rfl, rfl, fun _ _ => rfl, fun j h1 h2 => absurd h2 (by omega)⟩
  rintro i V hi ⟨b1, b2, b3, b4⟩ ih
  refine B_M_startSo_4 ?_
  rw [nI_1, nI_clamp (show 198 + i < 2 ^ 31 by omega)]
  refine ⟨fun z => ?_, fun z => ?_⟩
  · have z : 532 ≤ 198 + i := (ll2 (n := 532) (by omega) (by decide)).mp z
    refine lupR (n := 8) (W := fun a (V : Mm) => VV X d 207 K 26 [some (.ref 234), some (.int (nI a))] [] V)
      (I := fun a V' => (∀ b, b ≠ 236 → V'.1 b = u.1 b) ∧ V'.2 = u.2 ∧ (∀ j, j < 198 → V'.1 236 j = u.1 236 j) ∧ ∀ j, 198 ≤ j → j < 532 → V'.1 236 j = if (202 ≤ j ∧ j < 202 + a) ∨ (210 ≤ j ∧ j < 210 + a) ∨ (218 ≤ j ∧ j < 218 + a) then stS (u.1 236) j else 0) ?_ V ⟨b1, b2, b3, fun j h1 h2 => by rw [b4 j h1 (by omega), if_neg (by omega)]⟩
    rintro a V' ha ⟨c1, c2, c3, c4⟩ ih2
    refine B_M_startSo_26 ?_
    rw [la1, la1, la1, la1, la1, la1, nI_1, nI_clamp (show 22 + a < 2 ^ 31 by omega), nI_clamp (show 202 + a < 2 ^ 31 by omega), nI_clamp (show 210 + a < 2 ^ 31 by omega), nI_clamp (show 38 + a < 2 ^ 31 by omega), nI_clamp (show 218 + a < 2 ^ 31 by omega), nI_clamp (show 30 + a < 2 ^ 31 by omega)]
    refine ⟨fun y => ?_, fun y => ?_⟩
    · have y : 8 ≤ a := (ll2 (n := 8) (by omega) (by decide)).mp y
      refine hK V' c1 c2 c3 fun i i1 i2 => ?_
      rw [c4 i i1 i2]
      split
      · rfl
      · unfold stS
        rw [if_neg (by omega), if_neg (by omega), if_neg (by omega)]
    · have y : ¬ 8 ≤ a := mt (ll2 (n := 8) (m := a) (by omega) (by decide)).mpr y
      have ih2 := ih2 (by omega)
      rw [mI_n (by omega), c3 3 (by omega), hA]
      have nx : ∀ x y z : Int32, x = u.1 236 (22 + a) → y = (if a < nA (u.1 236) then u.1 236 (30 + a) else -1) → z = u.1 236 (38 + a) → VV X d 207 K 26 [some (.ref 234), some (.int (nI (a + 1)))] [] (mI (mI (mI V' 236 (202 + a) x) 236 (210 + a) y) 236 (218 + a) z) := by
        intro x y z hx hy hz
        refine ih2 _ ⟨fun b hb => by rw [mI_r hb, mI_r hb, mI_r hb]; exact c1 b hb, c2, fun j hj => by rw [mI_n (by omega), mI_n (by omega), mI_n (by omega)]; exact c3 j hj, fun j j1 j2 => ?_⟩
        by_cases e1 : j = 218 + a
        · subst e1
          rw [mI_s, if_pos (by omega), hz]
          unfold stS
          rw [if_neg (by omega), if_neg (by omega), if_pos (by omega), show 218 + a - 180 = 38 + a by omega]
        · rw [mI_n (by omega)]
          by_cases e2 : j = 210 + a
          · subst e2
            rw [mI_s, if_pos (by omega), hy]
            unfold stS
            rw [if_neg (show ¬ (202 ≤ 210 + a ∧ 210 + a < 210) by omega), if_pos (show 210 ≤ 210 + a ∧ 210 + a < 218 by omega), show 210 + a - 180 = 30 + a by omega, show 210 + a - 210 = a by omega]
          · rw [mI_n (by omega)]
            by_cases e3 : j = 202 + a
            · subst e3
              rw [mI_s, if_pos (by omega), hx]
              unfold stS
              rw [if_pos (by omega), show 202 + a - 180 = 22 + a by omega]
            · rw [mI_n (by omega), c4 j j1 j2]
              by_cases e4 : (202 ≤ j ∧ j < 202 + a) ∨ (210 ≤ j ∧ j < 210 + a) ∨ (218 ≤ j ∧ j < 218 + a)
              · rw [if_pos e4, if_pos (by omega)]
              · rw [if_neg e4, if_neg (by omega)]
      refine ⟨vp_in_nI (by omega) (by decide), vp_in_nI (by omega) (by decide), fun x => ⟨vp_in_nI (by omega) (by decide), vp_in_nI (by omega) (by decide), vp_in_nI (by omega) (by decide), nx _ _ _ ?_ ?_ ?_⟩, fun x => ⟨vp_in_nI (by omega) (by decide), vp_in_nI (by omega) (by decide), vp_in_nI (by omega) (by decide), vp_in_nI (by omega) (by decide), nx _ _ _ ?_ ?_ ?_⟩⟩
      · exact c3 _ (by omega)
      · have x := (nI_leI (by omega) (by omega)).mp x
        rw [if_neg (by omega)]
      · rw [mI_n (by omega), mI_n (by omega)]; exact c3 _ (by omega)
      · exact c3 _ (by omega)
      · have x := mt (nI_leI (a := nA (u.1 236)) (b := a) (by omega) (by omega)).mpr x
        rw [if_pos (by omega), mI_n (by omega)]; exact c3 _ (by omega)
      · rw [mI_n (by omega), mI_n (by omega)]; exact c3 _ (by omega)
  · have z : ¬ 532 ≤ 198 + i := mt (ll2 (n := 532) (m := 198 + i) (by omega) (by decide)).mpr z
    refine ⟨vp_in_nI (by omega) (by decide), ih (by omega) _ ⟨fun b hb => by rw [mI_r hb]; exact b1 b hb, b2, fun j hj => by rw [mI_n (by omega)]; exact b3 j hj, fun j j1 j2 => ?_⟩⟩
    by_cases e : j = 198 + i
    · subst e; rw [mI_s]
    · rw [mI_n (by omega)]; exact b4 j j1 (by omega)
/-- all lines; behind them K0 where there is a fault, else the ways -/
theorem jLines {K : Int32 → Mm → Prop} (hd : 8 ≤ d) (hm : m = 900) : ∀ g k (D : DR) (ρ : RDS) (V : Mm), g + k = 500 → 2 * k ≤ ρ.2.2.2.2 → (ρ.2.1 ≠ 0 → ρ.2.1 ≠ 1 → 2 * k + 1 ≤ ρ.2.2.2.2) → EnM u f n m → FrE u V → DrM V D → DOk D → RdM V f n m ρ → tkOk ρ n →
    (∀ e, lnAll f n m g k D ρ = .inl e → ∀ V', FrE u V' → FtM V' e → K (-1 - nI e.2) V') → (∀ k' D', lnAll f n m g k D ρ = .inr (k', D') → DOk D' → ∀ V', FrE u V' → V'.1 234 10 = 0 → DrM V' D' → VI X d 223 K 100 [some (.ref 234), some (.int (nI k')), some (.int 0)] [] V') → VI X d 223 K 64 [some (.ref 234), some (.int (nI k)), none] [] V := by
  intro g
  induction g with
  | zero =>
    intro k D ρ V hg h2k h2k1 hE v1 hc ho hr hk h0 h1
    exfalso
    have h := hk.2.2.2.2
    have h' := hE.1
    omega
  | succ g ih =>
    intro k D ρ V hg h2k h2k1 hE v1 hc ho hr hk h0 h1
    have hsp := hk.2.2.2.2
    have hn9 := hE.1
    have hEV := EnM.fr hE v1
    rw [lnAll] at h0 h1
    refine B_M_city_64 ?_
    rw [hr.2.2.2.2.1.1, nI_1]
    refine ⟨fun z => ?_, fun z => ?_⟩
    · have z : ρ.2.1 = 0 := (nI_eq (a := ρ.2.1) (b := 0) (by have := hk.2.1; omega) (by omega)).mp z
      rw [if_pos z] at h1
      exact h1 _ _ rfl ho V v1 hr.2.2.1 hc
    · have z : ¬ ρ.2.1 = 0 := fun q => z (by rw [q]; rfl)
      rw [if_neg z] at h0 h1
      refine jLine (by omega) hEV hc ho hr hk (fun e he V2 w1 w2 => ⟨fun _ => ?_, fun q => absurd rfl q⟩) (fun D' ρ' he V2 w1 w2 w3 => ⟨fun q => absurd q (by decide), fun _ => ?_⟩)
      · rw [he] at h0
        rw [w2.2]
        exact h0 e rfl V2 (v1.tr w1) w2
      · rw [he] at h0 h1
        dsimp only [bd] at h0 h1
        obtain ⟨o', k', ad⟩ := lnAny_ok hE.1 hE.2.1 ho hk he
        have v2 := v1.tr w1
        have hE2 := EnM.fr hE v2
        refine c_mrEnd (by omega) hE.1 hE.2.1 hE2.2.2 w2 k' (fun e he3 V3 x1 x2 => ⟨fun q => absurd rfl q, fun _ => ?_⟩) (fun ρ3 he3 V3 x1 x2 => ⟨fun _ => ?_, fun q => absurd q (by decide)⟩)
        · rw [he3] at h0
          rw [x2.2]
          exact h0 e rfl V3 (v2.tr x1.e) x2
        · rw [he3] at h0 h1
          dsimp only [bd] at h0 h1
          have hs : ρ3 = nxt f n m ρ' ∧ ρ'.2.1 = 4 := by unfold rSgn at he3; split at he3 <;> cases he3; rename_i q; exact ⟨rfl, q.1⟩
          obtain ⟨k3, ad3⟩ := nxt_ok (f := f) (n := n) (m := m) (ρ := ρ') hE.1 hE.2.1 k'
          rw [← hs.1] at k3 ad3
          have b1 := ad.2 (by omega) (by omega)
          have b2 := ad3.1
          have b3 := ad3.2
          have hz1 : ρ.2.1 = 1 ∨ ρ.2.1 ≠ 1 := by omega
          rcases hz1 with hz1 | hz1
          · exfalso
            have : lnAny f n m D ρ = .inl (1, ρ.1) := by unfold lnAny; rw [if_neg (by omega)]
            rw [this] at he
            cases he
          · have := h2k1 z hz1
            exact ih (k + 1) D' ρ3 V3 (by omega) (by omega) (fun q1 q2 => by have := b3 q1 q2; omega) hE (v2.tr x1.e) (x1.dx w3) o' x2 k3 h0 h1
/-- behind the lines -/
theorem mEnd {K : Int32 → Mm → Prop} {k : Nat} (hd : 4 ≤ d) (ho : DOk D) (hx : DrM u D) (hK : ∀ V : Mm, (∀ b, b ≠ 234 → b ≠ 236 → b ≠ 237 → b ≠ 246 → V.1 b = u.1 b) → (∀ b, b ≠ 241 → V.2 b = u.2 b) → (∀ j, j ≠ 24 → V.1 234 j = u.1 234 j) → V.1 234 24 = 0 → CityG D (V.1 236) (V.2 241) → K (nI k) V) : VI X d 223 K 100 [some (.ref 234), some (.int (nI k)), some (.int 0)] [] u := by
  have hW8 := ho.1.2.2.2.2.2.2.2.1
  have hA8 := ho.1.2.2.2.2.2.1
  obtain ⟨hx1, hx2, -⟩ := hx
  refine lupR (n := nW' D.1) (W := fun w (V : Mm) => VI X d 223 K 100 [some (.ref 234), some (.int (nI k)), some (.int (nI w))] [] V)
    (I := fun w V => (∀ b, b ≠ 237 → b ≠ 246 → V.1 b = u.1 b) ∧ V.2 = u.2 ∧ (∀ i, i < 126 → V.1 237 i = D.1 i) ∧ ∀ w', w' < w → V.1 237 (126 + w') = nI (wl D w').length ∧ ∀ i, i < (wl D w').length → V.1 237 (134 + 8 * w' + i) = nI ((wl D w').getD i 0)) ?_ u ⟨fun _ _ _ => rfl, rfl, fun i hi => hx1 i (by omega), fun w' hw => absurd hw (by omega)⟩
  rintro w V hw ⟨c1, c2, c3, c4⟩ ih
  refine B_M_city_100 ?_
  rw [nI_1, c3 4 (by omega), ho.1.2.2.2.2.2.2.1]
  refine ⟨fun z => ?_, fun z => ?_⟩
  · have z := (nI_leI (by omega) (by omega)).mp z
    refine lupR (n := 198) (W := fun i (V : Mm) => VI X d 223 K 123 [some (.ref 234), some (.int (nI k)), some (.int (nI i))] [] V)
      (I := fun i V' => (∀ b, b ≠ 236 → V'.1 b = V.1 b) ∧ V'.2 = V.2 ∧ ∀ j, j < i → V'.1 236 j = V.1 237 j) ?_ V ⟨fun _ _ => rfl, rfl, fun j hj => absurd hj (by omega)⟩
    rintro i V2 hi ⟨d1, d2, d3⟩ ih2
    refine B_M_city_123 ?_
    rw [nI_1, nI_clamp (show i < 2 ^ 31 by omega)]
    refine ⟨fun y => ?_, fun y => ?_⟩
    · have y : 198 ≤ i := (ll2 (n := 198) (by omega) (by decide)).mp y
      refine lupR (n := 29) (W := fun i (V : Mm) => VI X d 223 K 150 [some (.ref 234), some (.int (nI k)), some (.int (nI i))] [] V)
        (I := fun i V' => V'.1 = V2.1 ∧ (∀ b, b ≠ 241 → V'.2 b = V2.2 b) ∧ ∀ j, j < i → V'.2 241 j = u.2 242 j) ?_ V2 ⟨rfl, fun _ _ => rfl, fun j hj => absurd hj (by omega)⟩
      rintro i3 V3 hi3 ⟨f1, f2, f3⟩ ih3
      refine B_M_city_150 ?_
      rw [nI_1, nI_clamp (show i3 < 2 ^ 31 by omega)]
      have r6 : ∀ j, j < 198 → V3.1 236 j = V.1 237 j := fun j hj => by rw [f1]; exact d3 j (by omega)
      have n3 : nA (V3.1 236) = nA D.1 := by unfold nA; rw [r6 3 (by omega), c3 3 (by omega)]
      refine ⟨fun x => ?_, fun x => ?_⟩
      · have x : 29 ≤ i3 := (ll2 (n := 29) (by omega) (by decide)).mp x
        refine c_mstartSo (by omega) (by rw [n3, r6 3 (by omega), c3 3 (by omega)]; exact ho.1.2.2.2.2.1) (by rw [n3]; exact hA8) fun V4 v1 v2 v3 v4 => ?_
        refine hK _ (fun b b1 b2 b3 b4 => ?_) (fun b b1 => ?_) (fun j hj => ?_) mI_s ⟨fun i hi => ?_, fun w' hw' => ⟨?_, fun i hi => ?_⟩, ⟨fun i hi => ?_, fun i hi => ?_, fun i hi => ?_, fun i hi => ?_⟩, fun i i1 i2 => ?_⟩
        · rw [mI_r b1, v1 b b2, f1, d1 b b2, c1 b b3 b4]
        · show V4.2 b = _
          rw [v2, f2 b b1, d2, c2]
        · rw [mI_n (by omega), v1 234 (by omega), f1, d1 234 (by omega), c1 234 (by omega) (by omega)]
        · rw [mI_r (by omega), v3 i (by omega), r6 i (by omega), c3 i hi]
        · rw [mI_r (by omega), v3 _ (by omega), r6 _ (by omega)]; exact (c4 w' (by omega)).1
        · obtain ⟨-, -, -, -, -, -, -, l8, -⟩ := wl_ok ho hw'
          rw [mI_r (by omega), v3 _ (by omega), r6 _ (by omega)]; exact (c4 w' (by omega)).2 i hi
        · show V4.2 241 i = _
          rw [v2, f3 i (by have := ho.1.2.1; omega)]; exact hx2.1 i hi
        · show V4.2 241 (8 + i) = _
          rw [v2, f3 _ (by have := ho.1.2.2.2.1; omega)]; exact hx2.2.1 i hi
        · show V4.2 241 (13 + i) = _
          rw [v2, f3 _ (by omega)]; exact hx2.2.2.1 i hi
        · show V4.2 241 (21 + i) = _
          rw [v2, f3 _ (by omega)]; exact hx2.2.2.2 i hi
        · rw [mI_r (by omega), v4 i i1 i2]
          unfold stS
          have e3 : nA (V4.1 236) = nA (V3.1 236) := by unfold nA; rw [v3 3 (by omega)]
          rw [e3]
          by_cases q1 : 202 ≤ i ∧ i < 210
          · rw [if_pos q1, if_pos q1, v3 _ (by omega)]
          · rw [if_neg q1, if_neg q1]
            by_cases q2 : 210 ≤ i ∧ i < 218
            · rw [if_pos q2, if_pos q2, v3 _ (by omega)]
            · rw [if_neg q2, if_neg q2]
              by_cases q3 : 218 ≤ i ∧ i < 226
              · rw [if_pos q3, if_pos q3, v3 _ (by omega)]
              · rw [if_neg q3, if_neg q3]
      · have x : ¬ 29 ≤ i3 := mt (ll2 (n := 29) (m := i3) (by omega) (by decide)).mpr x
        refine ⟨vp_in_nI (by omega) (by decide), vp_in_nI (by omega) (by decide), ih3 (by omega) _ ⟨f1, fun b hb => by rw [mJ_r hb]; exact f2 b hb, fun j hj => ?_⟩⟩
        by_cases e : j = i3
        · subst e; rw [mJ_s, f2 242 (by omega), d2, c2]
        · rw [mJ_n (by omega)]; exact f3 j (by omega)
    · have y : ¬ 198 ≤ i := mt (ll2 (n := 198) (m := i) (by omega) (by decide)).mpr y
      refine ⟨vp_in_nI (by omega) (by decide), vp_in_nI (by omega) (by decide), ih2 (by omega) _ ⟨fun b hb => by rw [mI_r hb]; exact d1 b hb, d2, fun j hj => ?_⟩⟩
      by_cases e : j = i
      · subst e; rw [mI_s, d1 237 (by omega)]
      · rw [mI_n (by omega)]; exact d3 j (by omega)
  · have z := mt (nI_leI (a := nW' D.1) (b := w) (by omega) (by omega)).mpr z
    have hw' : w < nW' D.1 := by omega
    obtain ⟨s, t, s1, t1, s2, t2, e, e8, -⟩ := wl_ok ho hw'
    refine c_mway (g := D.1) (s := s) (t := t) (by omega) ho.sym (by omega) t1 s1 (by rw [c3 0 (by omega)]; exact ho.1.1) (fun q hq => c3 _ (by omega)) (by rw [c3 _ (by omega)]; exact s2) (by rw [c3 _ (by omega)]; exact t2) fun V' x xl => ?_
    rw [← e] at x xl
    obtain ⟨x1, x2, x3, x4⟩ := x
    refine ih hw' V' ⟨fun b b1 b2 => by rw [x1 b b1 b2]; exact c1 b b1 b2, by rw [x2, c2], fun i hi => by rw [x3 i (by omega) (by omega)]; exact c3 i hi, fun w2 hw2 => ?_⟩
    by_cases ew : w2 = w
    · subst ew; exact ⟨xl, x4⟩
    · obtain ⟨d1, d2⟩ := c4 w2 (by omega)
      obtain ⟨-, -, -, -, -, -, -, l8, -⟩ := wl_ok ho (show w2 < nW' D.1 by omega)
      refine ⟨by rw [x3 _ (by omega) (by omega)]; exact d1, fun i hi => ?_⟩
      rw [x3 _ (by omega) (by omega)]; exact d2 i hi
theorem c_mcity {K : Int32 → Mm → Prop} (hd : 9 ≤ d) (hn : n ≤ 940) (hb : TBm u f) (e2 : u.1 234 2 = nI n)
    (h0 : ∀ e, rdAll f n = .inl e → ∀ V : Mm, (∀ b, b ≠ 234 → b ≠ 237 → b ≠ 245 → V.1 b = u.1 b) → (∀ b, b ≠ 234 → b ≠ 242 → V.2 b = u.2 b) → (∀ k, 13 < k → k ≠ 25 → V.1 234 k = u.1 234 k) → V.1 234 2 = 0 → FtM V e → K (-1 - nI e.2) V)
    (h1 : ∀ k D, rdAll f n = .inr (k, D) → DOk D → ∀ V : Mm, (∀ b, b ≠ 234 → b ≠ 236 → b ≠ 237 → b ≠ 245 → b ≠ 246 → V.1 b = u.1 b) → (∀ b, b ≠ 234 → b ≠ 241 → b ≠ 242 → V.2 b = u.2 b) → (∀ k, 13 < k → k ≠ 24 → k ≠ 25 → V.1 234 k = u.1 234 k) → V.1 234 2 = 0 → V.1 234 10 = 0 → V.1 234 24 = 0 → CityG D (V.1 236) (V.2 241) → K (nI k) V) : CI X d 223 [.ref 234] u K := by
  obtain ⟨d, rfl, hd1⟩ := dpos hd
  refine CI_of mk_X13_city.2.2 rfl (B_M_city_0 ?_)
  refine c_mbegin (f := f) (n := n) (m := 900) (by omega) hn (by omega) hb e2 fun V v1 v2 v3 v4 v5 v6 => ?_
  refine lupR (n := 198) (W := fun i (V : Mm) => VI X d 223 K 9 [some (.ref 234), some (.int (nI i)), none] [] V)
    (I := fun i V' => (∀ b, b ≠ 237 → V'.1 b = V.1 b) ∧ V'.2 = V.2 ∧ ∀ j, j < i → V'.1 237 j = 0) ?_ V ⟨fun _ _ => rfl, rfl, fun j hj => absurd hj (by omega)⟩
  rintro i V2 hi ⟨a1, a2, a3⟩ ih
  refine B_M_city_9 ?_
  rw [nI_1, nI_clamp (show i < 2 ^ 31 by omega)]
  refine ⟨fun z => ?_, fun z => ?_⟩
  · have z : 198 ≤ i := (ll2 (n := 198) (by omega) (by decide)).mp z
    refine lupR (n := 40) (W := fun i (V : Mm) => VI X d 223 K 31 [some (.ref 234), some (.int (nI i)), none] [] V)
      (I := fun i V' => (∀ b, b ≠ 245 → V'.1 b = V2.1 b) ∧ V'.2 = V2.2 ∧ ∀ j, j < i → V'.1 245 j = 0) ?_ V2 ⟨fun _ _ => rfl, rfl, fun j hj => absurd hj (by omega)⟩
    rintro i3 V3 hi3 ⟨b1, b2, b3⟩ ih3
    refine B_M_city_31 ?_
    rw [nI_1, nI_clamp (show i3 < 2 ^ 31 by omega)]
    refine ⟨fun y => ?_, fun y => ?_⟩
    · have y : 40 ≤ i3 := (ll2 (n := 40) (by omega) (by decide)).mp y
      obtain ⟨k0, a0⟩ := tk0 (f := f) (n := n) (m := 900) hn (by omega)
      have q1 : ∀ b, b ≠ 234 → b ≠ 237 → b ≠ 245 → (mI (mI V3 237 5 (3 : Int32)) 234 25 (0 : Int32)).1 b = u.1 b := fun b x1 x2 x3 => by rw [mI_r x1, mI_r x2, b1 b x3, a1 b x2, v1 b x1]
      have q2 : ∀ b, b ≠ 234 → (mI (mI V3 237 5 (3 : Int32)) 234 25 (0 : Int32)).2 b = u.2 b := fun b x1 => by show V3.2 b = _; rw [b2, a2, v2 b x1]
      have q3 : ∀ k, 10 < k → k ≠ 25 → (mI (mI V3 237 5 (3 : Int32)) 234 25 (0 : Int32)).1 234 k = u.1 234 k := fun k x1 x2 => by rw [mI_n (by omega), mI_r (by omega), b1 234 (by omega), a1 234 (by omega), v3 k x1]
      have q4 : ∀ k, k ≤ 10 → (mI (mI V3 237 5 (3 : Int32)) 234 25 (0 : Int32)).1 234 k = V.1 234 k := fun k x1 => by rw [mI_n (by omega), mI_r (by omega), b1 234 (by omega), a1 234 (by omega)]
      refine jLines (u := mI (mI V3 237 5 (3 : Int32)) 234 25 (0 : Int32)) (by omega) rfl 500 0 D0 (tokF f n 900 (sk f n 0)) _ (by omega) (by omega) (fun q1 q2 => by have := a0 q1 q2; omega) ⟨hn, by omega, hb.cg (q1 235 (by omega) (by omega) (by omega))⟩ FrE.rf ?_ D0_ok (v6.cg q4 (by show V3.2 234 = _; rw [b2, a2])) k0 (fun e he V' x1 x2 => ?_) (fun k' D' he o' V' x1 x2 x3 => ?_)
      · obtain ⟨n1, n2, n3, n4⟩ := D0_n
        refine ⟨fun j hj => ?_, ⟨fun i hi => ?_, fun i hi => ?_, fun i hi => ?_, fun i hi => ?_⟩, fun j hj => ?_, mI_s⟩
        · rw [mI_r (by omega)]
          by_cases e : j = 5
          · subst e; rw [mI_s]; rfl
          · rw [mI_n (by omega), b1 237 (by omega), a3 j (by omega)]
            exact (if_neg e).symm
        · rw [n1] at hi; omega
        · rw [n2] at hi; omega
        · rw [n3] at hi; omega
        · rw [n4] at hi; omega
        · rw [mI_r (by omega), mI_r (by omega)]; exact b3 j (by omega)
      · exact h0 e he V' (fun b y1 y2 y3 => by rw [x1.1 b y1 y2 y3]; exact q1 b y1 y2 y3) (fun b y1 y2 => by rw [x1.2.1 b y1 y2]; exact q2 b y1) (fun k y1 y2 => by rw [x1.2.2 k (by omega)]; exact q3 k (by omega) y2) (by rw [x1.2.2 2 (by omega), q4 2 (by omega)]; exact v4) x2
      · refine mEnd (by omega) o' x3 fun V4 w1 w2 w3 w4 w5 => h1 k' D' he o' V4 (fun b y1 y2 y3 y4 y5 => by rw [w1 b y1 y2 y3 y5, x1.1 b y1 y3 y4]; exact q1 b y1 y3 y4) (fun b y1 y2 y3 => by rw [w2 b y2, x1.2.1 b y1 y3]; exact q2 b y1) (fun k y1 y2 y3 => by rw [w3 k y2, x1.2.2 k (by omega)]; exact q3 k (by omega) y3) (by rw [w3 2 (by omega), x1.2.2 2 (by omega), q4 2 (by omega)]; exact v4) (by rw [w3 10 (by omega)]; exact x2) w4 w5
    · have y : ¬ 40 ≤ i3 := mt (ll2 (n := 40) (m := i3) (by omega) (by decide)).mpr y
      refine ⟨vp_in_nI (by omega) (by decide), ih3 (by omega) _ ⟨fun b hb => by rw [mI_r hb]; exact b1 b hb, b2, fun j hj => ?_⟩⟩
      by_cases e : j = i3
      · subst e; rw [mI_s]; rfl
      · rw [mI_n (by omega)]; exact b3 j (by omega)
  · have z : ¬ 198 ≤ i := mt (ll2 (n := 198) (m := i) (by omega) (by decide)).mpr z
    refine ⟨vp_in_nI (by omega) (by decide), ih (by omega) _ ⟨fun b hb => by rw [mI_r hb]; exact a1 b hb, a2, fun j hj => ?_⟩⟩
    by_cases e : j = i
    · subst e; rw [mI_s]
    · rw [mI_n (by omega)]; exact a3 j (by omega)
end MCity
/-! city -/
section PCity
variable {X : Xc} {d : Nat} {u : Mm}
/-- the bytes as both sides have them -/
theorem TapeR.f (h : TapeR u) : ∃ f n, n ≤ 940 ∧ u.1 1 1 = nI n ∧ u.1 234 2 = nI n ∧ TBy u f ∧ TBm u f := by
  obtain ⟨⟨n, hn, e1, e2⟩, hb, -⟩ := h
  refine ⟨fun i => (u.1 235 i).toNatClampNeg, n, hn, e1, e2, fun i hi => ?_, fun i hi => ?_⟩
  · obtain ⟨h1, b, h2, h3⟩ := hb i hi
    dsimp only
    rw [h1, h3, nI_clamp (by omega)]
    exact ⟨rfl, h2⟩
  · obtain ⟨h1, b, h2, h3⟩ := hb i hi
    dsimp only
    rw [h3, nI_clamp (by omega)]
    exact ⟨rfl, h2⟩
theorem p_city (hd : 10 ≤ d) (h : Rl u) : PairI X d 126 223 [] u := by
  intro K hK
  obtain ⟨d, rfl, hd1⟩ := dpos hd
  obtain ⟨f, n, hn, e1, e2, hb, hbm⟩ := h.1.f
  refine CI_of mk_X12_city.2.2 rfl (B_S_city_0 ?_)
  refine c_readCity hd1 hn hb h.2.1 e1 (fun e he w V v1 v2 => ?_) (fun k D he ho V v1 v2 v3 => ?_)
  · refine ⟨fun z => ?_, fun _ => ?_⟩
    · rw [mI_n (by omega)] at z
      exact absurd z v2.ne
    · rw [mI_n (by omega), v2.2.1]
      have hv : ∀ b, b ≠ 1 → b < 120 ∨ 148 < b → (mI V 1 1 (0 : Int32)).1 b = u.1 b := fun b b1 b2 => by rw [mI_r b1]; exact v1.1 b b1 b2
      refine c_mcity (f := f) (n := n) (by omega) hn (hbm.cg (hv 235 (by omega) (by omega))) (by rw [hv 234 (by omega) (by omega)]; exact e2) (fun e' he' V2 w1 w2 w3 w4 w5 => ?_) (fun k D he' => by rw [he] at he'; cases he')
      rw [he] at he'
      cases he'
      refine hK _ _ ?_
      have o : ∀ b, b ≠ 1 → b < 120 ∨ 148 < b → b ≠ 234 → b ≠ 237 → b ≠ 245 → V2.1 b = u.1 b := fun b x1 x2 x3 x4 x5 => by rw [w1 b x3 x4 x5]; exact hv b x1 x2
      have o4 : ∀ k, 13 < k → k ≠ 25 → V2.1 234 k = u.1 234 k := fun k x1 x2 => by rw [w3 k x1 x2, hv 234 (by omega) (by omega)]
      have o2 : ∀ b, b ≠ 1 → b ≠ 121 → b ≠ 234 → b ≠ 242 → V2.2 b = u.2 b := fun b x1 x2 x3 x4 => by rw [w2 b x3 x4]; exact v1.2 b x1 x2
      have ag : ∀ rel : Nat → Nat → Bool, (∀ j, rel 1 j = false) → (∀ j, rel 237 j = false) → (∀ j, rel 245 j = false) → (∀ j, j ≤ 13 → rel 234 j = false) → rel 234 25 = false → (∀ b j, 120 ≤ b → b ≤ 148 → rel b j = false) → AG rel u V2 := by
        intro rel r1 r2 r3 r4 r5 r6 a j ha
        by_cases ea : a = 234
        · subst ea
          exact o4 j (Nat.lt_of_not_le fun q => by rw [r4 j q] at ha; cases ha) (by rintro rfl; rw [r5] at ha; cases ha)
        · have hn1 : a ≠ 1 := by rintro rfl; rw [r1] at ha; cases ha
          have hn2 : a ≠ 237 := by rintro rfl; rw [r2] at ha; cases ha
          have hn3 : a ≠ 245 := by rintro rfl; rw [r3] at ha; cases ha
          have hn4 : ¬ (120 ≤ a ∧ a ≤ 148) := fun q => by rw [r6 a j q.1 q.2] at ha; cases ha
          exact congrFun (o a hn1 (by omega) ea hn2 hn3) j
      have k4 : ∀ j, j ≤ 13 → relK 234 j = false := by decide
      have w4' : ∀ j, j ≤ 13 → relW 234 j = false := by decide
      have p4' : ∀ j, j ≤ 13 → relP 234 j = false := by decide
      have i4' : ∀ j, j ≤ 13 → relI 234 j = false := by decide
      refine ⟨⟨⟨0, by omega, ?_, w4⟩, fun i hi => ?_, ?_⟩, h.2.1.congr (o2 3 (by omega) (by omega) (by omega) (by omega)), h.2.2.1.congr (ag _ (fun _ => rfl) (fun _ => rfl) (fun _ => rfl) k4 rfl fun b j b1 b2 => ?_), World5.congr h.2.2.2.1 (ag _ (fun _ => rfl) (fun _ => rfl) (fun _ => rfl) w4' rfl fun b j b1 b2 => ?_) (o2 6 (by omega) (by omega) (by omega) (by omega)) (o2 241 (by omega) (by omega) (by omega) (by omega)), h.2.2.2.2.1.congr (ag _ (fun _ => rfl) (fun _ => rfl) (fun _ => rfl) p4' rfl fun b j b1 b2 => ?_), h.2.2.2.2.2.congr (ag _ (fun _ => rfl) (fun _ => rfl) (fun _ => rfl) i4' rfl fun b j b1 b2 => ?_) (o2 _ (by omega) (by omega) (by omega) (by omega)) (o2 _ (by omega) (by omega) (by omega) (by omega)) (o2 _ (by omega) (by omega) (by omega) (by omega))⟩
      · rw [w1 1 (by omega) (by omega) (by omega), mI_s]; rfl
      · rw [o 2 (by omega) (by omega) (by omega) (by omega) (by omega), o 235 (by omega) (by omega) (by omega) (by omega) (by omega)]; exact h.1.2.1 i hi
      · rw [w1 1 (by omega) (by omega) (by omega), mI_n (by omega), v2.1, w5.1]
      · unfold relK; split <;> first | omega | rfl
      · unfold relW; split <;> first | omega | rfl | (simp; omega)
      · unfold relP; split <;> first | omega | rfl | (simp; omega)
      · unfold relI; split <;> first | omega | rfl | (simp; omega)
  · refine ⟨fun _ => ?_, fun z => ?_⟩
    · refine c_wcopy5_120 (by omega) fun V2 c => ?_
      obtain ⟨d, rfl, hd2⟩ := dpos hd1
      refine CV_of mk_X6_forget.2.2 rfl (B_P_forget_0 ?_)
      have c1 := c.1
      have c2 := c.2.1
      have hv : ∀ b, b ≠ 1 → b ≠ 44 → (b < 5 ∨ 32 < b) → b < 120 ∨ 148 < b → (mI V2 44 2 (0 : Int32)).1 b = u.1 b := fun b b1 b2 b3 b4 => by rw [mI_r b2, c1 b (by omega), mI_r b1]; exact v1.1 b b1 b4
      refine c_mcity (f := f) (n := n) (by omega) hn (hbm.cg (hv 235 (by omega) (by omega) (by omega) (by omega))) (by rw [hv 234 (by omega) (by omega) (by omega) (by omega)]; exact e2) (fun e' he' => by rw [he] at he'; cases he') (fun k' D' he' ho' V3 w1 w2 w3 w4 w5 w6 w7 => ?_)
      rw [he] at he'
      cases he'
      refine hK _ _ ?_
      have hw0 : WorldR V 120 135 144 (V3.1 236) (V3.2 241) := CityG.world ho v3 w7
      have hw : WorldR (mI V 1 1 (0 : Int32)) 120 135 144 (V3.1 236) (V3.2 241) := hw0.congr (fun k a b => mI_r (by omega)) (mI_n (by omega)) (mI_n (by omega)) rfl (fun k a b => mI_n (by omega)) (fun k a b => mI_r (by omega)) (mI_n (by omega)) (fun k a b => mI_r (by omega))
      have cw := WorldR.cw hw c
      have o : ∀ b, b ≠ 1 → b ≠ 44 → (b < 5 ∨ 32 < b) → (b < 120 ∨ 148 < b) → b ≠ 234 → b ≠ 236 → b ≠ 237 → b ≠ 245 → b ≠ 246 → V3.1 b = u.1 b := fun b x1 x2 x3 x4 x5 x6 x7 x8 x9 => by rw [w1 b x5 x6 x7 x8 x9]; exact hv b x1 x2 x3 x4
      have o4 : ∀ k, 13 < k → k ≠ 24 → k ≠ 25 → V3.1 234 k = u.1 234 k := fun k x1 x2 x3 => by rw [w3 k x1 x2 x3, hv 234 (by omega) (by omega) (by omega) (by omega)]
      have o2 : ∀ b, b ≠ 1 → b ≠ 6 → b ≠ 121 → b ≠ 234 → b ≠ 241 → b ≠ 242 → V3.2 b = u.2 b := fun b x0 x1 x2 x3 x4 x5 => by rw [w2 b x3 x4 x5]; show V2.2 b = _; rw [c2 b x1]; exact v1.2 b x0 x2
      have ag : ∀ rel : Nat → Nat → Bool, (∀ j, rel 1 j = false) → (∀ j, rel 44 j = false) → (∀ j, rel 236 j = false) → (∀ j, rel 237 j = false) → (∀ j, rel 245 j = false) → (∀ j, rel 246 j = false) → (∀ j, j ≤ 13 → rel 234 j = false) → rel 234 24 = false → rel 234 25 = false → (∀ b j, (5 ≤ b ∧ b ≤ 32) ∨ (120 ≤ b ∧ b ≤ 148) → rel b j = false) → AG rel u V3 := by
        intro rel r1 r2 r3 r4 r5 r6 r7 r8 r9 r10 a j ha
        by_cases ea : a = 234
        · subst ea
          exact o4 j (Nat.lt_of_not_le fun q => by rw [r7 j q] at ha; cases ha) (by rintro rfl; rw [r8] at ha; cases ha) (by rintro rfl; rw [r9] at ha; cases ha)
        · have hn1 : a ≠ 1 := by rintro rfl; rw [r1] at ha; cases ha
          have hn2 : a ≠ 44 := by rintro rfl; rw [r2] at ha; cases ha
          have hn3 : a ≠ 236 := by rintro rfl; rw [r3] at ha; cases ha
          have hn4 : a ≠ 237 := by rintro rfl; rw [r4] at ha; cases ha
          have hn5 : a ≠ 245 := by rintro rfl; rw [r5] at ha; cases ha
          have hn6 : a ≠ 246 := by rintro rfl; rw [r6] at ha; cases ha
          have hn7 : ¬ ((5 ≤ a ∧ a ≤ 32) ∨ (120 ≤ a ∧ a ≤ 148)) := fun q => by rw [r10 a j q] at ha; cases ha
          exact congrFun (o a hn1 hn2 (by omega) (by omega) ea hn3 hn4 hn5 hn6) j
      have k4 : ∀ j, j ≤ 13 → relK 234 j = false := by decide
      have i4' : ∀ j, j ≤ 13 → relI 234 j = false := by decide
      refine ⟨⟨⟨0, by omega, ?_, w4⟩, fun i hi => ?_, ?_⟩, h.2.1.congr (o2 3 (by omega) (by omega) (by omega) (by omega) (by omega) (by omega)), h.2.2.1.congr (ag _ (fun _ => rfl) (fun _ => rfl) (fun _ => rfl) (fun _ => rfl) (fun _ => rfl) (fun _ => rfl) k4 rfl rfl fun b j b1 => ?_), ?_, ?_, h.2.2.2.2.2.congr (ag _ (fun _ => rfl) (fun _ => rfl) (fun _ => rfl) (fun _ => rfl) (fun _ => rfl) (fun _ => rfl) i4' rfl rfl fun b j b1 => ?_) (o2 _ (by omega) (by omega) (by omega) (by omega) (by omega) (by omega)) (o2 _ (by omega) (by omega) (by omega) (by omega) (by omega) (by omega)) (o2 _ (by omega) (by omega) (by omega) (by omega) (by omega) (by omega))⟩
      · rw [w1 1 (by omega) (by omega) (by omega) (by omega) (by omega), mI_r (by omega), c1 1 (by omega), mI_s]; rfl
      · rw [o 2 (by omega) (by omega) (by omega) (by omega) (by omega) (by omega) (by omega) (by omega) (by omega), o 235 (by omega) (by omega) (by omega) (by omega) (by omega) (by omega) (by omega) (by omega) (by omega)]; exact h.1.2.1 i hi
      · rw [w1 1 (by omega) (by omega) (by omega) (by omega) (by omega), mI_r (by omega), c1 1 (by omega), mI_n (by omega), v2, w5]
      · unfold relK; split <;> first | omega | rfl
      · exact cw.congr (v := V3) (fun j a b => by rw [w1 _ (by omega) (by omega) (by omega) (by omega) (by omega), mI_r (by omega)]) (by rw [w1 _ (by omega) (by omega) (by omega) (by omega) (by omega), mI_r (by omega)]) (by rw [w1 _ (by omega) (by omega) (by omega) (by omega) (by omega), mI_r (by omega)]) (by rw [w2 _ (by omega) (by omega) (by omega)]; rfl) (fun j a b => by rw [w1 _ (by omega) (by omega) (by omega) (by omega) (by omega), mI_r (by omega)]) (fun j a b => by rw [w1 _ (by omega) (by omega) (by omega) (by omega) (by omega), mI_r (by omega)]) (by rw [w1 _ (by omega) (by omega) (by omega) (by omega) (by omega), mI_r (by omega)]) (fun j a b => by rw [w1 _ (by omega) (by omega) (by omega) (by omega) (by omega), mI_r (by omega)])
      · obtain ⟨n, t, hn, ht, p1, p2, p3, p4⟩ := h.2.2.2.2.1
        refine ⟨0, t, by omega, ht, ?_, ?_, w6, fun i hi => absurd hi (by omega)⟩
        · rw [w1 44 (by omega) (by omega) (by omega) (by omega) (by omega), mI_s]; rfl
        · rw [w1 44 (by omega) (by omega) (by omega) (by omega) (by omega), mI_n (by omega), c1 44 (by omega), mI_r (by omega), v1.1 44 (by omega) (by omega)]; exact p2
      · unfold relI; split <;> first | omega | rfl | (simp; omega)
    · rw [mI_n (by omega)] at z
      exact absurd v2 z
end PCity
