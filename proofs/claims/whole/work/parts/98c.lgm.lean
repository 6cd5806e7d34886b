/-! the model reads a log -/
def FrN (u V : Mm) (k : Nat) : Prop := (∀ b, b ≠ 234 → b ≠ 258 → V.1 b = u.1 b) ∧ (∀ b, b ≠ 234 → V.2 b = u.2 b) ∧ (∀ j, j < 5 ∨ 13 < j → V.1 234 j = u.1 234 j) ∧ ∀ i, i < 4 * k ∨ 4 * k + 4 ≤ i → V.1 258 i = u.1 258 i
theorem FrT.n {u V : Mm} {k : Nat} (h : FrT u V) : FrN u V k := ⟨fun b x _ => h.1 b x, h.2.1, h.2.2, fun i _ => by rw [h.1 258 (by omega)]⟩
theorem FrN.tr {u v w : Mm} {k : Nat} (h : FrN u v k) (h2 : FrN v w k) : FrN u w k := ⟨fun b x1 x2 => (h2.1 b x1 x2).trans (h.1 b x1 x2), fun b x => (h2.2.1 b x).trans (h.2.1 b x), fun j x => (h2.2.2.1 j x).trans (h.2.2.1 j x), fun i x => (h2.2.2.2 i x).trans (h.2.2.2 i x)⟩
theorem FrN.mI {u v : Mm} {k j : Nat} {x : Int32} (h : FrN u v k) (hj : 4 * k ≤ j ∧ j < 4 * k + 4) : FrN u (mI v 258 j x) k := ⟨fun b x1 x2 => by rw [mI_r x2]; exact h.1 b x1 x2, h.2.1, fun i hi => by rw [mI_r (by omega)]; exact h.2.2.1 i hi, fun i hi => by rw [mI_n (by omega)]; exact h.2.2.2 i hi⟩
section LgM
variable {X : Xc} {d : Nat} {u : Mm} {f : Nat → Nat} {n m : Nat} {ρ : RDS} {nl : Nat → List Nat} {cQ cK cA : Nat}
theorem FrN.enm {V : Mm} {k : Nat} (hE : EnM u f n m) (h : FrN u V k) : EnM V f n m := ⟨hE.1, hE.2.1, hE.2.2.cg (h.1 235 (by omega) (by omega))⟩
def NmsN (u : Mm) (nl : Nat → List Nat) (cQ cK cA : Nat) : Prop := NmM u 241 0 cQ nl ∧ NmM u 241 8 cK nl ∧ NmM u 241 13 cA nl ∧ u.1 236 0 = nI cQ ∧ u.1 236 2 = nI cK ∧ u.1 236 3 = nI cA
theorem NmsN.cg {V : Mm} (h : NmsN u nl cQ cK cA) (h1 : V.1 236 = u.1 236) (h2 : V.2 241 = u.2 241) : NmsN V nl cQ cK cA := ⟨h.1.cg h2, h.2.1.cg h2, h.2.2.1.cg h2, by rw [h1]; exact h.2.2.2⟩
theorem FrN.nms {V : Mm} {k : Nat} (h : FrN u V k) (hN : NmsN u nl cQ cK cA) : NmsN V nl cQ cK cA := hN.cg (h.1 236 (by omega) (by omega)) (h.2.1 241 (by omega))
def mdTL (X : Xc) (d : Nat) (K : Int32 → Mm → Prop) (p1 v2 : Int32) (U : Mm) : Prop := (¬ v2 = (8 : Int32) → (¬ v2 = (7 : Int32) → (¬ v2 = (9 : Int32) → CI X d 301 [.ref 234, .int (13 : Int32), .int (U.1 236 3)] U (fun w11 u11 => (¬ w11 = 0 → vp_in (p1 + (2 : Int32)) 160 ∧ (v2 = (10 : Int32) → CI X d 203 [.ref 234, .int (1 : Int32), .int (99 : Int32)] (mI u11 258 (p1 + (2 : Int32)).toNatClampNeg (u11.1 234 13)) (fun w12 u12 => (¬ w12 = 0 → vp_in (p1 + (3 : Int32)) 160 ∧ K 1 (mI u12 258 (p1 + (3 : Int32)).toNatClampNeg (u12.1 234 13))) ∧ (w12 = 0 → K 0 u12))) ∧ (¬ v2 = (10 : Int32) → K 1 (mI u11 258 (p1 + (2 : Int32)).toNatClampNeg (u11.1 234 13)))) ∧ (w11 = 0 → K 0 u11))) ∧ (v2 = (9 : Int32) → CI X d 301 [.ref 234, .int (8 : Int32), .int (U.1 236 2)] U (fun w13 u13 => (¬ w13 = 0 → vp_in (p1 + (2 : Int32)) 160 ∧ (v2 = (10 : Int32) → CI X d 203 [.ref 234, .int (1 : Int32), .int (99 : Int32)] (mI u13 258 (p1 + (2 : Int32)).toNatClampNeg (u13.1 234 13)) (fun w14 u14 => (¬ w14 = 0 → vp_in (p1 + (3 : Int32)) 160 ∧ K 1 (mI u14 258 (p1 + (3 : Int32)).toNatClampNeg (u14.1 234 13))) ∧ (w14 = 0 → K 0 u14))) ∧ (¬ v2 = (10 : Int32) → K 1 (mI u13 258 (p1 + (2 : Int32)).toNatClampNeg (u13.1 234 13)))) ∧ (w13 = 0 → K 0 u13)))) ∧ (v2 = (7 : Int32) → CI X d 301 [.ref 234, .int (0 : Int32), .int (U.1 236 0)] U (fun w15 u15 => (¬ w15 = 0 → vp_in (p1 + (2 : Int32)) 160 ∧ (v2 = (10 : Int32) → CI X d 203 [.ref 234, .int (1 : Int32), .int (99 : Int32)] (mI u15 258 (p1 + (2 : Int32)).toNatClampNeg (u15.1 234 13)) (fun w16 u16 => (¬ w16 = 0 → vp_in (p1 + (3 : Int32)) 160 ∧ K 1 (mI u16 258 (p1 + (3 : Int32)).toNatClampNeg (u16.1 234 13))) ∧ (w16 = 0 → K 0 u16))) ∧ (¬ v2 = (10 : Int32) → K 1 (mI u15 258 (p1 + (2 : Int32)).toNatClampNeg (u15.1 234 13)))) ∧ (w15 = 0 → K 0 u15)))) ∧ (v2 = (8 : Int32) → K 1 U)
theorem jDeedT {K : Int32 → Mm → Prop} {k w : Nat} (hd : 5 ≤ d) (hE : EnM u f n m) (hN : NmsN u nl cQ cK cA) (h40 : k < 40) (hr : RdM u f n m ρ) (hk : tkOk ρ n) (hw : ρ.2.1 = 2 ∧ wix ρ.2.2.2.1 = w) (h7 : 7 ≤ w) (h10 : w ≤ 10) (h0 : ∀ e, lgDeed f n m nl cQ cK cA ρ = .inl e → ∀ V, FrN u V k → FtM V e → K 0 V)
    (h1 : ∀ c ρ', lgDeed f n m nl cQ cK cA ρ = .inr (c, ρ') → ∀ V, FrN u V k → RdM V f n m ρ' → V.1 258 (4 * k + 1) = u.1 258 (4 * k + 1) → V.1 258 (4 * k) = nI c.1 → (c.1 ≠ 8 → V.1 258 (4 * k + 2) = nI c.2.1) → (c.1 = 10 → V.1 258 (4 * k + 3) = nI c.2.2) → K 1 V) : CV X d 196 [.ref 234] (mI u 258 (4 * k) (nI w)) (fun U => mdTL X d K (nI (4 * k)) (nI w) U) := by
  unfold lgDeed at h0 h1
  rw [if_pos ⟨hw.1, by omega, by omega⟩, hw.2] at h0 h1
  have f0 : FrN u (mI u 258 (4 * k) (nI w)) k := (FrT.rf.n (k := k)).mI (by omega)
  have hE0 := FrN.enm hE f0
  refine c_mgo (ρ := ρ) (by omega) hE.1 hE.2.1 hE0.2.2 (hr.cg (fun j _ => by rw [mI_r (by omega)]) rfl) (by omega) fun V v1 v2 => ?_
  have fV := f0.tr (v1.t.n (k := k))
  have hEV := FrN.enm hE fV
  obtain ⟨N0, N1, N2, e0, e2, e3⟩ := fV.nms hN
  obtain ⟨k1, a1⟩ := nx1 (f := f) (m := m) hE.1 hE.2.1 hk rfl
  have vb : V.1 258 (4 * k) = nI w := by rw [v1.1 258 (by omega), mI_s]
  have va : V.1 258 (4 * k + 1) = u.1 258 (4 * k + 1) := by rw [v1.1 258 (by omega), mI_n (by omega)]
  unfold mdTL
  rw [e0, e2, e3, la2, la2, nI_clamp (show 4 * k + 2 < 2 ^ 31 by omega), nI_clamp (show 4 * k + 3 < 2 ^ 31 by omega)]
  have vp2 : vp_in (nI (4 * k + 2)) 160 := vp_in_nI (by omega) (by decide)
  have vp3 : vp_in (nI (4 * k + 3)) 160 := vp_in_nI (by omega) (by decide)
  rcases (show w = 7 ∨ w = 8 ∨ w = 9 ∨ w = 10 by omega) with rfl | rfl | rfl | rfl
  · rw [if_pos rfl] at h0 h1
    refine ⟨fun _ => ⟨fun x => absurd rfl x, fun _ => ?_⟩, fun x => absurd x (by decide)⟩
    refine c_mrNamed (base := 0) (by omega) hE.1 hE.2.1 hEV.2.2 N0 v2 k1 (fun e he V3 w1 w2 => ⟨fun x => absurd rfl x, fun _ => ?_⟩) (fun j ρ' hj he V3 w1 w2 w3 => ⟨fun _ => ⟨vp2, fun x => absurd x (by decide), fun _ => ?_⟩, fun x => absurd x (by decide)⟩)
    · rw [he] at h0
      exact h0 e rfl V3 (fV.tr w1.n) w2
    · rw [he] at h1
      rw [w3]
      refine h1 _ _ rfl _ ((fV.tr w1.n).mI (by omega)) (w2.cg (fun j _ => by rw [mI_r (by omega)]) rfl) ?_ ?_ (fun _ => mI_s) (fun q => absurd (show (7 : Nat) = 10 from q) (by omega))
      · rw [mI_n (by omega), w1.1 258 (by omega)]; exact va
      · rw [mI_n (by omega), w1.1 258 (by omega)]; exact vb
  · rw [if_neg (by omega), if_pos rfl] at h1
    refine ⟨fun x => absurd rfl x, fun _ => ?_⟩
    exact h1 _ _ rfl V fV v2 va vb (fun q => absurd rfl q) (fun q => absurd (show (8 : Nat) = 10 from q) (by omega))
  · rw [if_neg (by omega), if_neg (by omega), if_pos rfl] at h0 h1
    refine ⟨fun _ => ⟨fun _ => ⟨fun x => absurd rfl x, fun _ => ?_⟩, fun x => absurd x (by decide)⟩, fun x => absurd x (by decide)⟩
    refine c_mrNamed (base := 8) (by omega) hE.1 hE.2.1 hEV.2.2 N1 v2 k1 (fun e he V3 w1 w2 => ⟨fun x => absurd rfl x, fun _ => ?_⟩) (fun j ρ' hj he V3 w1 w2 w3 => ⟨fun _ => ⟨vp2, fun x => absurd x (by decide), fun _ => ?_⟩, fun x => absurd x (by decide)⟩)
    · rw [he] at h0
      exact h0 e rfl V3 (fV.tr w1.n) w2
    · rw [he] at h1
      rw [w3]
      refine h1 _ _ rfl _ ((fV.tr w1.n).mI (by omega)) (w2.cg (fun j _ => by rw [mI_r (by omega)]) rfl) ?_ ?_ (fun _ => mI_s) (fun q => absurd (show (9 : Nat) = 10 from q) (by omega))
      · rw [mI_n (by omega), w1.1 258 (by omega)]; exact va
      · rw [mI_n (by omega), w1.1 258 (by omega)]; exact vb
  · rw [if_neg (by omega), if_neg (by omega), if_neg (by omega)] at h0 h1
    refine ⟨fun _ => ⟨fun _ => ⟨fun _ => ?_, fun x => absurd x (by decide)⟩, fun x => absurd x (by decide)⟩, fun x => absurd x (by decide)⟩
    refine c_mrNamed (base := 13) (by omega) hE.1 hE.2.1 hEV.2.2 N2 v2 k1 (fun e he V3 w1 w2 => ⟨fun x => absurd rfl x, fun _ => ?_⟩) (fun j ρ' hj he V3 w1 w2 w3 => ⟨fun _ => ⟨vp2, fun _ => ?_, fun x => absurd rfl x⟩, fun x => absurd x (by decide)⟩)
    · rw [he] at h0
      exact h0 e rfl V3 (fV.tr w1.n) w2
    · rw [he] at h0 h1
      dsimp only [bd] at h0 h1
      rw [w3]
      obtain ⟨k2, a2⟩ := nx1 hE.1 hE.2.1 k1 (rNamed_inr he)
      have f3 : FrN u (mI V3 258 (4 * k + 2) (nI j)) k := (fV.tr w1.n).mI (by omega)
      have hE3 := FrN.enm hE f3
      refine c_mrNum (a := 1) (b := 99) (by omega) hE.1 hE.2.1 hE3.2.2 (w2.cg (fun j _ => by rw [mI_r (by omega)]) rfl) k2 (by omega) (by omega) (fun e he2 V4 x1 x2 => ⟨fun x => absurd rfl x, fun _ => ?_⟩) (fun v ρ2 he2 V4 x1 x2 x3 => ⟨fun _ => ⟨vp3, ?_⟩, fun x => absurd x (by decide)⟩)
      · rw [he2] at h0
        exact h0 e rfl V4 (f3.tr x1.n) x2
      · rw [he2] at h1
        rw [x3]
        refine h1 _ _ rfl _ ((f3.tr x1.n).mI (by omega)) (x2.cg (fun j _ => by rw [mI_r (by omega)]) rfl) ?_ ?_ (fun _ => ?_) (fun _ => mI_s)
        · rw [mI_n (by omega), x1.1 258 (by omega), mI_n (by omega), w1.1 258 (by omega)]; exact va
        · rw [mI_n (by omega), x1.1 258 (by omega), mI_n (by omega), w1.1 258 (by omega)]; exact vb
        · rw [mI_n (by omega), x1.1 258 (by omega), mI_s]
theorem jDeed {K : Int32 → Mm → Prop} {k : Nat} (hd : 6 ≤ d) (hE : EnM u f n m) (hN : NmsN u nl cQ cK cA) (h40 : k < 40) (hr : RdM u f n m ρ) (hk : tkOk ρ n) (h0 : ∀ e, lgDeed f n m nl cQ cK cA ρ = .inl e → ∀ V, FrN u V k → FtM V e → K 0 V)
    (h1 : ∀ c ρ', lgDeed f n m nl cQ cK cA ρ = .inr (c, ρ') → ∀ V, FrN u V k → RdM V f n m ρ' → V.1 258 (4 * k + 1) = u.1 258 (4 * k + 1) → V.1 258 (4 * k) = nI c.1 → (c.1 ≠ 8 → V.1 258 (4 * k + 2) = nI c.2.1) → (c.1 = 10 → V.1 258 (4 * k + 3) = nI c.2.2) → K 1 V) : CI X d 302 [.ref 234, .int (nI (4 * k))] u K := by
  obtain ⟨d, rfl, hd1⟩ := dpos hd
  have vp0 : vp_in (nI (4 * k)) 160 := vp_in_nI (by omega) (by decide)
  have c0 : (nI (4 * k)).toNatClampNeg = 4 * k := nI_clamp (by omega)
  have T := fun w hw h7 h10 => jDeedT (X := X) (d := d) (K := K) (k := k) (w := w) (by omega) hE hN h40 hr hk hw h7 h10 h0 h1
  refine CI_of mk_X13_readDoes.2.2 rfl (B_M_readDoes_0 ?_)
  refine B_M_readDoes_3 ⟨fun z => absurd z (by decide), fun _ => ?_⟩
  rw [c0]
  refine c_misWd (w := 7) (by omega) (by omega) hr hk (fun q => ⟨fun _ => ⟨fun _ => ⟨vp0, T 7 q (by omega) (by omega)⟩, fun z => absurd (by decide) z⟩, fun z => absurd z (by decide)⟩) (fun q0 => ⟨fun z => absurd rfl z, fun _ => ?_⟩)
  refine B_M_readDoes_3 ⟨fun z => absurd z (by decide), fun _ => ?_⟩
  rw [c0]
  refine c_misWd (w := 8) (by omega) (by omega) hr hk (fun q => ⟨fun _ => ⟨fun _ => ⟨vp0, T 8 q (by omega) (by omega)⟩, fun z => absurd (by decide) z⟩, fun z => absurd z (by decide)⟩) (fun q1 => ⟨fun z => absurd rfl z, fun _ => ?_⟩)
  refine B_M_readDoes_3 ⟨fun z => absurd z (by decide), fun _ => ?_⟩
  rw [c0]
  refine c_misWd (w := 9) (by omega) (by omega) hr hk (fun q => ⟨fun _ => ⟨fun _ => ⟨vp0, T 9 q (by omega) (by omega)⟩, fun z => absurd (by decide) z⟩, fun z => absurd z (by decide)⟩) (fun q2 => ⟨fun z => absurd rfl z, fun _ => ?_⟩)
  refine B_M_readDoes_3 ⟨fun z => absurd z (by decide), fun _ => ?_⟩
  rw [c0]
  refine c_misWd (w := 10) (by omega) (by omega) hr hk (fun q => ⟨fun _ => ⟨fun _ => ⟨vp0, T 10 q (by omega) (by omega)⟩, fun z => absurd (by decide) z⟩, fun z => absurd z (by decide)⟩) (fun q3 => ⟨fun z => absurd rfl z, fun _ => ?_⟩)
  refine B_M_readDoes_3 ⟨fun _ => ⟨fun z => absurd z (by decide), fun _ => ?_⟩, fun z => absurd (by decide) z⟩
  refine c_mbad (k := 1) (by omega) hr hk (Or.inl rfl) fun V v1 v2 => ⟨Or.inl rfl, h0 _ ?_ V v1.n v2⟩
  unfold lgDeed
  rw [if_neg]
  rintro ⟨x1, x2, x3⟩
  rcases (show wix ρ.2.2.2.1 = 7 ∨ wix ρ.2.2.2.1 = 8 ∨ wix ρ.2.2.2.1 = 9 ∨ wix ρ.2.2.2.1 = 10 by omega) with e | e | e | e
  · exact q0 ⟨x1, e⟩
  · exact q1 ⟨x1, e⟩
  · exact q2 ⟨x1, e⟩
  · exact q3 ⟨x1, e⟩
def lnM (V : Mm) (k : Nat) (c : LL) : Prop := V.1 258 (4 * k) = nI c.1 ∧ (c.1 = 11 → V.1 258 (4 * k + 2) = nI c.2.2.2) ∧ (c.1 ≠ 11 → V.1 258 (4 * k + 1) = nI c.2.1) ∧ (c.1 ≠ 8 → c.1 ≠ 11 → V.1 258 (4 * k + 2) = nI c.2.2.1) ∧ (c.1 = 10 → V.1 258 (4 * k + 3) = nI c.2.2.2)
def lgLineE (f : Nat → Nat) (n m : Nat) (nl : Nat → List Nat) (cQ cK cA k : Nat) (ρ : RDS) : FT ⊕ (LL × RDS) := bd (lgLine f n m nl cQ cK cA k ρ) fun z => bd (rSgn f n m z.2 59) fun ρ' => .inr (z.1, ρ')
theorem jLogLine {K : Int32 → Mm → Prop} {k : Nat} (hd : 7 ≤ d) (hE : EnM u f n m) (hN : NmsN u nl cQ cK cA) (hA : cA < 1000) (hQ : cQ < 1000) (hKK : cK < 1000) (hl : u.1 234 54 = nI k) (h40 : k ≤ 40) (hr : RdM u f n m ρ) (hk : tkOk ρ n) (h0 : ∀ e, lgLineE f n m nl cQ cK cA k ρ = .inl e → ∀ V, FrN u V k → FtM V e → K 0 V)
    (h1 : ∀ c ρ', lgLineE f n m nl cQ cK cA k ρ = .inr (c, ρ') → ∀ V, FrN u V k → RdM V f n m ρ' → lnM V k c → K 1 V) : CI X d 303 [.ref 234] u K := by
  obtain ⟨d, rfl, hd1⟩ := dpos hd
  obtain ⟨k1, a1⟩ := nx1 (f := f) (m := m) hE.1 hE.2.1 hk rfl
  have c1 : (nI (4 * k + 1)).toNatClampNeg = 4 * k + 1 := nI_clamp (by omega)
  have c0 : (nI (4 * k)).toNatClampNeg = 4 * k := nI_clamp (by omega)
  have c2 : (nI (4 * k + 2)).toNatClampNeg = 4 * k + 2 := nI_clamp (by omega)
  have i0 : (4 : Int32) * nI k = nI (4 * k) := lt1 4 k
  have i1 : nI (4 * k) + (1 : Int32) = nI (4 * k + 1) := la2 1 _
  have i2 : nI (4 * k) + (2 : Int32) = nI (4 * k + 2) := la2 2 _
  unfold lgLineE lgLine at h0 h1
  refine CI_of mk_X13_readLogLine.2.2 rfl (B_M_readLogLine_0 ?_)
  refine c_misWd (w := 11) (by omega) (by omega) hr hk (fun q => ⟨fun _ => ⟨fun z => absurd z (by decide), fun _ => ⟨fun _ => ?_, fun z => absurd z (by decide)⟩⟩, fun z => absurd z (by decide)⟩) (fun q => ⟨fun z => absurd rfl z, fun _ => ?_⟩)
  · rw [if_pos q] at h0 h1
    rw [hl]
    refine ⟨fun z => ?_, fun z => ?_⟩
    · have z : k ≠ 40 := fun e => z (by rw [e]; rfl)
      rw [if_neg z] at h0 h1
      refine c_mgo (by omega) hE.1 hE.2.1 hE.2.2 hr (by omega) fun V v1 v2 => ?_
      have v5 : V.1 234 54 = nI k := by rw [v1.2.2 54 (by omega)]; exact hl
      rw [v5, i0, i1, i2, c0, c1, c2]
      have f2 : FrN u (mI (mI V 258 (4 * k + 1) (-1)) 258 (4 * k) 11) k := ((v1.t.n (k := k)).mI (by omega)).mI (by omega)
      have hE2 := FrN.enm hE f2
      refine ⟨vp_in_nI (by omega) (by decide), fun _ => ⟨vp_in_nI (by omega) (by decide), c_mrNum (a := 1) (b := 60) (by omega) hE.1 hE.2.1 hE2.2.2 (v2.cg (fun j _ => by rw [mI_r (by omega), mI_r (by omega)]) rfl) k1 (by omega) (by omega) (fun e he V4 x1 x2 => ⟨fun x => absurd rfl x, fun _ => ?_⟩) (fun v ρ2 he V4 x1 x2 x3 => ⟨fun _ => ⟨vp_in_nI (by omega) (by decide), ?_⟩, fun x => absurd x (by decide)⟩)⟩, fun x => absurd x (by decide)⟩
      · rw [he] at h0
        exact h0 e rfl V4 (f2.tr x1.n) x2
      · rw [he] at h0 h1
        dsimp only [bd] at h0 h1
        obtain ⟨k2, a2⟩ := nx1 hE.1 hE.2.1 k1 (rNum_inr he).1
        rw [x3]
        have f3 : FrN u (mI V4 258 (4 * k + 2) (nI v)) k := (f2.tr x1.n).mI (by omega)
        have hE3 := FrN.enm hE f3
        refine c_mrEnd (by omega) hE.1 hE.2.1 hE3.2.2 (x2.cg (fun j _ => by rw [mI_r (by omega)]) rfl) k2 (fun e he2 V5 y1 y2 => ⟨Or.inl rfl, ?_⟩) (fun ρ3 he2 V5 y1 y2 => ⟨Or.inr rfl, ?_⟩)
        · rw [he2] at h0
          exact h0 e rfl V5 (f3.tr y1.n) y2
        · rw [he2] at h1
          refine h1 _ _ rfl V5 (f3.tr y1.n) y2 ⟨?_, fun _ => ?_, fun x => absurd rfl x, fun _ x => absurd rfl x, fun x => absurd (show (11 : Nat) = 10 from x) (by omega)⟩
          · rw [y1.1 258 (by omega), mI_n (by omega), x1.1 258 (by omega), mI_s]; rfl
          · rw [y1.1 258 (by omega), mI_s]
    · have z : k = 40 := (nI_eq (a := k) (b := 40) (by omega) (by omega)).mp z
      rw [if_pos z] at h0
      exact c_mbad (k := 4) (by omega) hr hk (Or.inr (by omega)) fun V v1 v2 => ⟨Or.inl rfl, h0 _ rfl V v1.n v2⟩
  · rw [if_neg q] at h0 h1
    refine c_misNm (by omega) hr hk (fun y => ⟨fun _ => ⟨fun _ => ?_, fun z => absurd rfl z⟩, fun z => absurd z (by decide)⟩) (fun y => ⟨fun z => absurd rfl z, fun _ => ?_⟩)
    · have y2 := nm_k y
      have hlo := hk.2.2.2.1 y2
      unfold rLook at h0 h1
      rw [if_pos y] at h0 h1
      rw [hN.2.2.2.2.2, hr.2.2.2.2.1.2.1 y2]
      refine c_mfind241 (base := 13) (by omega) hN.2.2.1 hlo ⟨fun z => absurd rfl z, fun _ => ?_⟩
      cases ho : fnd nl 13 cA ρ.2.2.2.1 with
      | none =>
        rw [ho] at h0
        exact ⟨fun z => absurd rfl z, fun _ => c_mbad (k := 3) (by omega) hr hk (Or.inr (by omega)) fun V v1 v2 => ⟨Or.inl rfl, h0 _ rfl V v1.n v2⟩⟩
      | some a =>
        rw [ho] at h0 h1
        have ha := fnd_lt hA ho
        dsimp only [bd] at h0 h1 ⊢
        refine ⟨fun _ => ?_, fun z => absurd z (nI_m1 (by omega))⟩
        rw [hl]
        refine ⟨fun z => ?_, fun z => ?_⟩
        · have z : k ≠ 40 := fun e => z (by rw [e]; rfl)
          rw [if_neg z] at h0 h1
          refine c_mgo (by omega) hE.1 hE.2.1 hE.2.2 hr (by omega) fun V v1 v2 => ?_
          have v5 : V.1 234 54 = nI k := by rw [v1.2.2 54 (by omega)]; exact hl
          rw [v5, i0, i1, c1]
          have f2 : FrN u (mI V 258 (4 * k + 1) (nI a)) k := (v1.t.n (k := k)).mI (by omega)
          refine ⟨vp_in_nI (by omega) (by decide), fun x => absurd rfl x, fun _ => jDeed (by omega) (FrN.enm hE f2) (f2.nms hN) (by omega) (v2.cg (fun j _ => by rw [mI_r (by omega)]) rfl) k1 (fun e he V4 x1 x2 => ⟨fun _ => ?_, fun x => absurd rfl x⟩) (fun c ρ2 he V4 x1 x2 x3 x4 x5 x6 => ⟨fun x => absurd x (by decide), fun _ => ?_⟩)⟩
          · rw [he] at h0
            exact h0 e rfl V4 (f2.tr x1) x2
          · rw [he] at h0 h1
            dsimp only [bd] at h0 h1
            obtain ⟨oc, k2, -⟩ := lgDeed_ok hE.1 hE.2.1 hQ hKK hA k1 he
            have c11 : c.1 ≠ 11 := by rcases oc with ⟨e, -⟩ | e | ⟨e, -⟩ | ⟨e, -⟩ <;> omega
            have f3 := f2.tr x1
            refine c_mrEnd (by omega) hE.1 hE.2.1 (FrN.enm hE f3).2.2 x2 k2 (fun e he2 V5 y1 y2 => ⟨fun _ => ?_, fun x => absurd rfl x⟩) (fun ρ3 he2 V5 y1 y2 => ⟨fun x => absurd x (by decide), fun _ => ?_⟩)
            · rw [he2] at h0
              exact h0 e rfl V5 (f3.tr y1.n) y2
            · rw [he2] at h1
              refine h1 _ _ rfl V5 (f3.tr y1.n) y2 ⟨?_, fun x => absurd x c11, fun _ => ?_, fun x _ => ?_, fun x => ?_⟩
              · rw [y1.1 258 (by omega)]; exact x4
              · rw [y1.1 258 (by omega), x3, mI_s]
              · rw [y1.1 258 (by omega)]; exact x5 x
              · rw [y1.1 258 (by omega)]; exact x6 x
        · have z : k = 40 := (nI_eq (a := k) (b := 40) (by omega) (by omega)).mp z
          rw [if_pos z] at h0
          exact c_mbad (k := 4) (by omega) hr hk (Or.inr (by omega)) fun V v1 v2 => ⟨Or.inl rfl, h0 _ rfl V v1.n v2⟩
    · unfold rLook at h0
      rw [if_neg (by rw [y]; decide)] at h0
      exact c_mbad (k := 1) (by omega) hr hk (Or.inl rfl) fun V v1 v2 => ⟨Or.inl rfl, h0 _ rfl V v1.n v2⟩
def LgM (V : Mm) (ls : List LL) : Prop := V.1 234 54 = nI ls.length ∧ ∀ i, i < ls.length → lnM V i (ls.getD i (0, 0, 0, 0))
def FrNg (u V : Mm) : Prop := (∀ b, b ≠ 234 → b ≠ 258 → V.1 b = u.1 b) ∧ (∀ b, b ≠ 234 → V.2 b = u.2 b) ∧ ∀ j, j < 5 ∨ (13 < j ∧ j ≠ 54) → V.1 234 j = u.1 234 j
theorem FrN.g {V : Mm} {k : Nat} (h : FrN u V k) : FrNg u V := ⟨h.1, h.2.1, fun j hj => h.2.2.1 j (by omega)⟩
theorem FrNg.tr {u v w : Mm} (h : FrNg u v) (h2 : FrNg v w) : FrNg u w := ⟨fun b x1 x2 => (h2.1 b x1 x2).trans (h.1 b x1 x2), fun b x => (h2.2.1 b x).trans (h.2.1 b x), fun j x => (h2.2.2 j x).trans (h.2.2 j x)⟩
theorem FrNg.mI {v : Mm} {x : Int32} (h : FrNg u v) : FrNg u (mI v 234 54 x) := ⟨fun b x1 x2 => by rw [mI_r x1]; exact h.1 b x1 x2, h.2.1, fun j hj => by rw [mI_n (by omega)]; exact h.2.2 j hj⟩
theorem FrNg.enm {V : Mm} (hE : EnM u f n m) (h : FrNg u V) : EnM V f n m := ⟨hE.1, hE.2.1, hE.2.2.cg (h.1 235 (by omega) (by omega))⟩
theorem FrNg.nms {V : Mm} (h : FrNg u V) (hN : NmsN u nl cQ cK cA) : NmsN V nl cQ cK cA := hN.cg (h.1 236 (by omega) (by omega)) (h.2.1 241 (by omega))
theorem lnM.cg {V V' : Mm} {k : Nat} {c : LL} (h : lnM V k c) (e : ∀ i, 4 * k ≤ i → i < 4 * k + 4 → V'.1 258 i = V.1 258 i) : lnM V' k c := by
  unfold lnM
  rw [e (4 * k) (by omega) (by omega), e (4 * k + 1) (by omega) (by omega), e (4 * k + 2) (by omega) (by omega), e (4 * k + 3) (by omega) (by omega)]
  exact h
theorem jLogLines {K : Int32 → Mm → Prop} {p1 : Int32} (hd : 8 ≤ d) (hE : EnM u f n m) (hN : NmsN u nl cQ cK cA) (hA : cA < 1000) (hQ : cQ < 1000) (hKK : cK < 1000) : ∀ g (ls : List LL) (ρ : RDS) (V : Mm), g + ls.length = 41 → ls.length ≤ 40 → FrNg u V → LgM V ls → RdM V f n m ρ → tkOk ρ n →
    (∀ e, lgAll f n m nl cQ cK cA g ls ρ = .inl e → ∀ V', FrNg u V' → FtM V' e → K (-2 - nI e.2) V') → (∀ ls', lgAll f n m nl cQ cK cA g ls ρ = .inr ls' → (∀ c ∈ ls', c ∈ ls ∨ llOk cQ cK cA c) → ls'.length ≤ 40 → ∀ V', FrNg u V' → V'.1 234 10 = 0 → LgM V' ls' → CV X d 291 [.ref 234] V' (fun u1 => VI X d 305 K 73 [some (.ref 234), some (.int p1), some (.int 0), some (.int 0)] [] u1)) → VI X d 305 K 30 [some (.ref 234), some (.int p1), none, none] [] V := by
  intro g
  induction g with
  | zero => intro ls ρ V hg h40; omega
  | succ g ih =>
    intro ls ρ V hg h40 v1 hc hr hk h0 h1
    have hEV := FrNg.enm hE v1
    rw [lgAll] at h0 h1
    refine B_M_log_30 ?_
    rw [hr.2.2.2.2.1.1]
    refine ⟨fun z => ?_, fun z => ?_⟩
    · have z : ρ.2.1 = 0 := (nI_eq (a := ρ.2.1) (b := 0) (by have := hk.2.1; omega) (by omega)).mp z
      rw [if_pos z] at h1
      exact h1 _ rfl (fun c h => Or.inl h) h40 V v1 hr.2.2.1 hc
    · have z : ¬ ρ.2.1 = 0 := fun q => z (by rw [q]; rfl)
      rw [if_neg z] at h0 h1
      refine jLogLine (k := ls.length) (by omega) hEV (v1.nms hN) hA hQ hKK hc.1 h40 hr hk (fun e he V2 w1 w2 => ⟨fun x => absurd rfl x, fun _ => ?_⟩) (fun c ρ3 he V2 w1 w2 w3 => ⟨fun _ => ?_, fun x => absurd x (by decide)⟩)
      · rw [w2.2]
        refine h0 e ?_ V2 (v1.tr w1.g) w2
        unfold lgLineE at he
        cases hl : lgLine f n m nl cQ cK cA ls.length ρ with
        | inl e' => rw [hl] at he; cases he; rfl
        | inr y =>
          rw [hl] at he
          dsimp only [bd] at he ⊢
          cases hs : rSgn f n m y.2 59 with
          | inl e' => rw [hs] at he; cases he; rfl
          | inr y' => rw [hs] at he; cases he
      · unfold lgLineE at he
        obtain ⟨⟨c', ρ'⟩, hl, he⟩ := bd_inr he
        obtain ⟨ρ4, hs, he⟩ := bd_inr he
        cases he
        rw [hl] at h0 h1
        dsimp only [bd] at h0 h1 hs
        rw [hs] at h0 h1
        dsimp only [bd] at h0 h1
        obtain ⟨n40, oc, k', ad⟩ := lgLine_ok hE.1 hE.2.1 hQ hKK hA hk hl
        have hs' : ρ3 = nxt f n m ρ' := by unfold rSgn at hs; split at hs <;> cases hs; rfl
        obtain ⟨k3, -⟩ := nx1 hE.1 hE.2.1 k' hs'
        obtain ⟨g1, g2, g3⟩ := lgD (ls := ls) (c := c')
        have l3 : V2.1 234 54 = nI ls.length := by rw [w1.2.2.1 54 (by omega)]; exact hc.1
        rw [l3, nI_1]
        refine ih (ls ++ [c']) ρ3 _ (by omega) (by omega) (v1.tr w1.g).mI ⟨by rw [mI_s, g1], fun i hi => ?_⟩ (w2.cg (fun j hj => by rw [mI_n (by omega)]) rfl) k3 h0 (fun ls' hl' hx => h1 ls' hl' fun x hx' => ?_)
        · by_cases e : i = ls.length
          · rw [e, g3]
            exact w3.cg fun b b1 b2 => by rw [mI_r (by omega)]
          · rw [g2 i (by omega)]
            exact (hc.2 i (by omega)).cg fun b b1 b2 => by rw [mI_r (by omega)]; exact w1.2.2.2 b (by omega)
        · rcases hx x hx' with h | h
          · rcases List.mem_append.mp h with h | h
            · exact Or.inl h
            · rw [List.mem_singleton] at h
              rw [h]; exact Or.inr oc
          · exact Or.inr h
end LgM
