/-! a log, as functions; the system reads it -/
abbrev LL : Type := Nat × Nat × Nat × Nat
section LgF
variable (f : Nat → Nat) (n m : Nat) (nl : Nat → List Nat) (cQ cK cA : Nat)
def lgDeed (ρ : RDS) : FT ⊕ ((Nat × Nat × Nat) × RDS) := if ρ.2.1 = 2 ∧ 7 ≤ wix ρ.2.2.2.1 ∧ wix ρ.2.2.2.1 ≤ 10 then
    (if wix ρ.2.2.2.1 = 7 then bd (rNamed f n m nl 0 cQ (nxt f n m ρ)) fun z => .inr ((7, z.1, 0), z.2)
    else if wix ρ.2.2.2.1 = 8 then .inr ((8, 0, 0), nxt f n m ρ)
    else if wix ρ.2.2.2.1 = 9 then bd (rNamed f n m nl 8 cK (nxt f n m ρ)) fun z => .inr ((9, z.1, 0), z.2)
    else bd (rNamed f n m nl 13 cA (nxt f n m ρ)) fun z => bd (rNum f n m z.2 1 99) fun y => .inr ((10, z.1, y.1), y.2))
  else .inl (1, ρ.1)
def lgLine (k : Nat) (ρ : RDS) : FT ⊕ (LL × RDS) := if ρ.2.1 = 2 ∧ wix ρ.2.2.2.1 = 11 then (if k = 40 then .inl (4, ρ.1) else bd (rNum f n m (nxt f n m ρ) 1 60) fun y => .inr ((11, 0, 0, y.1), y.2))
  else bd (rLook nl 13 cA ρ) fun a => if k = 40 then .inl (4, ρ.1) else bd (lgDeed f n m nl cQ cK cA (nxt f n m ρ)) fun z => .inr ((z.1.1, a, z.1.2.1, z.1.2.2), z.2)
def lgAll : Nat → List LL → RDS → FT ⊕ List LL
  | 0, ls, _ => .inr ls
  | g + 1, ls, ρ => if ρ.2.1 = 0 then .inr ls else bd (lgLine f n m nl cQ cK cA ls.length ρ) fun z => bd (rSgn f n m z.2 59) fun ρ' => lgAll g (ls ++ [z.1]) ρ'
end LgF
/-- a line is one that may be lived -/
def llOk (cQ cK cA : Nat) (c : LL) : Prop := (c.1 = 11 ∧ 1 ≤ c.2.2.2 ∧ c.2.2.2 ≤ 60) ∨ (c.1 = 7 ∧ c.2.1 < cA ∧ c.2.2.1 < cQ) ∨ (c.1 = 8 ∧ c.2.1 < cA) ∨ (c.1 = 9 ∧ c.2.1 < cA ∧ c.2.2.1 < cK) ∨ (c.1 = 10 ∧ c.2.1 < cA ∧ c.2.2.1 < cA ∧ 1 ≤ c.2.2.2 ∧ c.2.2.2 ≤ 99)
section LgOk
variable {f : Nat → Nat} {n m : Nat} {nl : Nat → List Nat} {cQ cK cA : Nat} {ρ : RDS}
def dOk (cQ cK cA : Nat) (c : Nat × Nat × Nat) : Prop := (c.1 = 7 ∧ c.2.1 < cQ) ∨ c.1 = 8 ∨ (c.1 = 9 ∧ c.2.1 < cK) ∨ (c.1 = 10 ∧ c.2.1 < cA ∧ 1 ≤ c.2.2 ∧ c.2.2 ≤ 99)
theorem lgDeed_ok {c : Nat × Nat × Nat} {ρ' : RDS} (hn : n ≤ 940) (hm : m ≤ 940) (hQ : cQ < 1000) (hK : cK < 1000) (hA : cA < 1000) (hk : tkOk ρ n) (h : lgDeed f n m nl cQ cK cA ρ = .inr (c, ρ')) : dOk cQ cK cA c ∧ tkOk ρ' n ∧ Adv ρ ρ' := by
  unfold lgDeed at h
  obtain ⟨k0, a0⟩ := nx1 (f := f) hn hm hk rfl
  split at h
  · split at h
    · obtain ⟨⟨j, ρ1⟩, h1, h⟩ := bd_inr h
      cases h
      obtain ⟨x, e⟩ := rNamed_ok hQ h1
      obtain ⟨k1, a1⟩ := nx1 hn hm k0 e
      exact ⟨Or.inl ⟨rfl, x⟩, k1, a0.tr a1⟩
    split at h
    · cases h
      exact ⟨Or.inr (Or.inl rfl), k0, a0⟩
    split at h
    · obtain ⟨⟨j, ρ1⟩, h1, h⟩ := bd_inr h
      cases h
      obtain ⟨x, e⟩ := rNamed_ok hK h1
      obtain ⟨k1, a1⟩ := nx1 hn hm k0 e
      exact ⟨Or.inr (Or.inr (Or.inl ⟨rfl, x⟩)), k1, a0.tr a1⟩
    · obtain ⟨⟨j, ρ1⟩, h1, h⟩ := bd_inr h
      obtain ⟨⟨v, ρ2⟩, h2, h⟩ := bd_inr h
      cases h
      obtain ⟨x, e⟩ := rNamed_ok hA h1
      obtain ⟨k1, a1⟩ := nx1 hn hm k0 e
      obtain ⟨e2, v1, v2⟩ := rNum_inr h2
      obtain ⟨k2, a2⟩ := nx1 hn hm k1 e2
      exact ⟨Or.inr (Or.inr (Or.inr ⟨rfl, x, v1, v2⟩)), k2, (a0.tr a1).tr a2⟩
  · cases h
theorem lgLine_ok {k : Nat} {c : LL} {ρ' : RDS} (hn : n ≤ 940) (hm : m ≤ 940) (hQ : cQ < 1000) (hK : cK < 1000) (hA : cA < 1000) (hk : tkOk ρ n) (h : lgLine f n m nl cQ cK cA k ρ = .inr (c, ρ')) : k ≠ 40 ∧ llOk cQ cK cA c ∧ tkOk ρ' n ∧ Adv ρ ρ' := by
  unfold lgLine at h
  obtain ⟨k0, a0⟩ := nx1 (f := f) hn hm hk rfl
  split at h
  · split at h
    · cases h
    · rename_i h40
      obtain ⟨⟨v, ρ1⟩, h1, h⟩ := bd_inr h
      cases h
      obtain ⟨e1, v1, v2⟩ := rNum_inr h1
      obtain ⟨k1, a1⟩ := nx1 hn hm k0 e1
      exact ⟨h40, Or.inl ⟨rfl, v1, v2⟩, k1, a0.tr a1⟩
  · obtain ⟨a, h1, h⟩ := bd_inr h
    split at h
    · cases h
    · rename_i h40
      obtain ⟨⟨⟨v, x, y⟩, ρ1⟩, h2, h⟩ := bd_inr h
      cases h
      have ha := rLook_ok hA h1
      obtain ⟨o, k1, a1⟩ := lgDeed_ok hn hm hQ hK hA k0 h2
      refine ⟨h40, ?_, k1, a0.tr a1⟩
      rcases o with ⟨e, o⟩ | e | ⟨e, o⟩ | ⟨e, o1, o2, o3⟩
      · exact Or.inr (Or.inl ⟨e, ha, o⟩)
      · exact Or.inr (Or.inr (Or.inl ⟨e, ha⟩))
      · exact Or.inr (Or.inr (Or.inr (Or.inl ⟨e, ha, o⟩)))
      · exact Or.inr (Or.inr (Or.inr (Or.inr ⟨e, ha, o1, o2, o3⟩)))
end LgOk
/-- nothing but the token and line k of the log has changed -/
def FrL (u V : Mm) (k : Nat) : Prop := (∀ b, b ≠ 1 → b < 149 ∨ 153 < b → V.1 b = u.1 b) ∧ (∀ b, b ≠ 1 → V.2 b = u.2 b) ∧ V.1 149 = u.1 149 ∧ ∀ b, 150 ≤ b → b ≤ 153 → ∀ i, i ≠ k → V.1 b i = u.1 b i
theorem Fr1.l {u V : Mm} {k : Nat} (h : Fr1 u V) : FrL u V k := ⟨fun b h1 _ => h.1 b h1, h.2, h.1 149 (by omega), fun b _ _ i _ => by rw [h.1 b (by omega)]⟩
theorem FrL.rf {u : Mm} {k : Nat} : FrL u u k := ⟨fun _ _ _ => rfl, fun _ _ => rfl, rfl, fun _ _ _ _ _ => rfl⟩
theorem FrL.tr {u v w : Mm} {k : Nat} (h : FrL u v k) (h2 : FrL v w k) : FrL u w k := ⟨fun b x1 x2 => (h2.1 b x1 x2).trans (h.1 b x1 x2), fun b x => (h2.2.1 b x).trans (h.2.1 b x), h2.2.2.1.trans h.2.2.1, fun b x1 x2 i x3 => (h2.2.2.2 b x1 x2 i x3).trans (h.2.2.2 b x1 x2 i x3)⟩
theorem FrL.mI {u v : Mm} {k a : Nat} {x : Int32} (h : FrL u v k) (ha : 150 ≤ a ∧ a ≤ 153) : FrL u (mI v a k x) k := ⟨fun b x1 x2 => by rw [mI_r (by omega)]; exact h.1 b x1 x2, h.2.1, by rw [mI_r (by omega)]; exact h.2.2.1, fun b x1 x2 i x3 => by rw [mI_n (by omega)]; exact h.2.2.2 b x1 x2 i x3⟩
section LgR
variable {X : Xc} {d : Nat} {u : Mm} {f : Nat → Nat} {n m : Nat} {ρ : RDS} {nl : Nat → List Nat} {cQ cK cA : Nat}
theorem FrL.en {V : Mm} {k : Nat} (hE : En u f n m) (h : FrL u V k) : En V f n m := ⟨hE.1, hE.2.1, hE.2.2.1.cg (h.1 2 (by omega) (by omega)), hE.2.2.2.congr (h.2.1 3 (by omega))⟩
/-- the names of the city that stands -/
def Nms (u : Mm) (nl : Nat → List Nat) (cQ cK cA : Nat) : Prop := NmC u 5 0 0 cQ nl ∧ NmC u 5 1 8 cK nl ∧ NmC u 5 2 13 cA nl
theorem Nms.cg {V : Mm} (h : Nms u nl cQ cK cA) (h1 : V.1 7 = u.1 7) (h2 : V.2 6 = u.2 6) : Nms V nl cQ cK cA := ⟨h.1.cg h1 h2, h.2.1.cg h1 h2, h.2.2.cg h1 h2⟩
theorem FrL.nms {V : Mm} {k : Nat} (h : FrL u V k) (hN : Nms u nl cQ cK cA) : Nms V nl cQ cK cA := hN.cg (h.1 7 (by omega) (by omega)) (h.2.1 6 (by omega))
theorem kDeed {K : Mm → Prop} {k : Nat} (hd : 6 ≤ d) (hE : En u f n m) (hN : Nms u nl cQ cK cA) (hl : u.1 149 2 = nI k) (h40 : k < 40) (hr : RdC u f n m ρ) (hk : tkOk ρ n) (h0 : ∀ e, lgDeed f n m nl cQ cK cA ρ = .inl e → ∀ V, FrL u V k → FtC V e → K V)
    (h1 : ∀ c ρ', lgDeed f n m nl cQ cK cA ρ = .inr (c, ρ') → ∀ V, FrL u V k → RdC V f n m ρ' → V.1 151 = u.1 151 → V.1 150 k = nI c.1 → (c.1 ≠ 8 → V.1 152 k = nI c.2.1) → (c.1 = 10 → V.1 153 k = nI c.2.2) → K V) : CV X d 64 [.ref 149] u K := by
  obtain ⟨d, rfl, hd1⟩ := dpos hd
  obtain ⟨-, -, -, -, t3, t6⟩ := ty_k hk.2.1
  have vk : vp_in (nI k) 40 := vp_in_nI h40 (by decide)
  have ck : (nI k).toNatClampNeg = k := nI_clamp (by omega)
  have bl : lgDeed f n m nl cQ cK cA ρ = .inl (1, ρ.1) → CV X d 111 [.ref 1, .int 1] u (fun u1 => K u1) := by
    intro he
    exact c_blame (by omega) hr.2.1 (h0 _ he _ (Fr1.rf.mI (j := 2)).l (FtC.of (k := 1) hr (by omega) (by omega)))
  refine CV_of mk_X5_readDeed.2.2 rfl (B_LR_readDeed_0 ?_)
  rw [hr.2.2.2.2.1.1, hl, ck]
  refine ⟨fun z => ⟨fun _ => bl ?_, fun q => absurd (by decide) q⟩, fun z => ?_⟩
  · unfold lgDeed
    rw [if_neg]
    rintro ⟨q1, q2, q3⟩
    exact z (by rw [t3.mpr ⟨q1, by omega⟩]; rfl)
  · have z : ty ρ = 3 := (nI_eq (a := ty ρ) (b := 3) (by omega) (by omega)).mp z
    obtain ⟨z1, z2⟩ := t3.mp z
    rw [hr.2.2.2.2.1.2.1 z]
    generalize hw : wix ρ.2.2.2.1 = w at z2
    refine ⟨fun q => bl ?_, fun q => ⟨fun q2 => ⟨vk, ?_⟩, fun q2 => bl ?_⟩⟩
    · have q : w < 7 := (ll3 (n := 7) (m := w) (by omega) (by decide)).mp q
      unfold lgDeed
      rw [if_neg (by omega)]
    · have q : ¬ w < 7 := mt (ll3 (n := 7) (m := w) (by omega) (by decide)).mpr q
      have q2 : w ≤ 10 := (ll1 (n := 10) (m := w) (by omega) (by decide)).mp q2
      unfold lgDeed at h0 h1
      rw [if_pos (by omega), hw] at h0 h1
      have hE1 : En (mI u 150 k (nI w)) f n m := FrL.en (k := k) hE (FrL.rf.mI (by omega))
      refine c_step (ρ := ρ) (by omega) hE1.1 hE1.2.1 hE1.2.2.1 hE1.2.2.2 (hr.cg (mI_r (by omega)) rfl) (by omega) fun V v1 v2 => ?_
      have fV : FrL u V k := (FrL.rf.mI (a := 150) (by omega)).tr v1.l
      have v5 : V.1 149 2 = nI k := by rw [fV.2.2.1]; exact hl
      have vb : V.1 150 k = nI w := by rw [v1.1 150 (by omega), mI_s]
      have va : V.1 151 = u.1 151 := by rw [v1.1 151 (by omega), mI_r (by omega)]
      have hEV := FrL.en hE fV
      obtain ⟨N0, N1, N2⟩ := fV.nms hN
      obtain ⟨k1, a1⟩ := nx1 (f := f) (m := m) hE.1 hE.2.1 hk rfl
      rw [v5, ck]
      rcases (show w = 7 ∨ w = 8 ∨ w = 9 ∨ w = 10 by omega) with rfl | rfl | rfl | rfl
      · rw [if_pos rfl] at h0 h1
        refine ⟨fun x => absurd rfl x, fun _ => ?_⟩
        refine c_named5 (s := 0) (base := 0) (by omega) hE.1 hE.2.1 hEV.2.2.1 hEV.2.2.2 (by omega) N0 v2 k1 (fun e he V3 w1 w2 => ⟨vk, ?_⟩) (fun j ρ' hj he V3 w1 w2 => ⟨vk, ?_⟩)
        · rw [he] at h0
          exact h0 e rfl _ ((fV.tr w1.l).mI (by omega)) (w2.cg (mI_r (by omega)))
        · rw [he] at h1
          refine h1 _ _ rfl _ ((fV.tr w1.l).mI (by omega)) (w2.cg (mI_r (by omega)) rfl) ?_ ?_ (fun _ => mI_s) (fun q => absurd (show (7 : Nat) = 10 from q) (by omega))
          · rw [mI_r (by omega), w1.1 151 (by omega)]; exact va
          · rw [mI_r (by omega), w1.1 150 (by omega)]; exact vb
      · rw [if_neg (by omega), if_pos rfl] at h1
        refine ⟨fun _ => ⟨fun _ => ⟨fun _ => ?_, fun x => absurd x (by decide)⟩, fun x => absurd x (by decide)⟩, fun x => absurd x (by decide)⟩
        exact h1 _ _ rfl V fV v2 va vb (fun q => absurd rfl q) (fun q => absurd (show (8 : Nat) = 10 from q) (by omega))
      · rw [if_neg (by omega), if_neg (by omega), if_pos rfl] at h0 h1
        refine ⟨fun _ => ⟨fun x => absurd rfl x, fun _ => ?_⟩, fun x => absurd x (by decide)⟩
        refine c_named5 (s := 1) (base := 8) (by omega) hE.1 hE.2.1 hEV.2.2.1 hEV.2.2.2 (by omega) N1 v2 k1 (fun e he V3 w1 w2 => ⟨vk, ?_⟩) (fun j ρ' hj he V3 w1 w2 => ⟨vk, ?_⟩)
        · rw [he] at h0
          exact h0 e rfl _ ((fV.tr w1.l).mI (by omega)) (w2.cg (mI_r (by omega)))
        · rw [he] at h1
          refine h1 _ _ rfl _ ((fV.tr w1.l).mI (by omega)) (w2.cg (mI_r (by omega)) rfl) ?_ ?_ (fun _ => mI_s) (fun q => absurd (show (9 : Nat) = 10 from q) (by omega))
          · rw [mI_r (by omega), w1.1 151 (by omega)]; exact va
          · rw [mI_r (by omega), w1.1 150 (by omega)]; exact vb
      · rw [if_neg (by omega), if_neg (by omega), if_neg (by omega)] at h0 h1
        refine ⟨fun _ => ⟨fun _ => ⟨fun x => absurd rfl x, fun _ => ?_⟩, fun x => absurd x (by decide)⟩, fun x => absurd x (by decide)⟩
        refine c_named5 (s := 2) (base := 13) (by omega) hE.1 hE.2.1 hEV.2.2.1 hEV.2.2.2 (by omega) N2 v2 k1 (fun e he V3 w1 w2 => ⟨vk, ?_⟩) (fun j ρ' hj he V3 w1 w2 => ⟨vk, ?_⟩)
        · rw [he] at h0
          have f3 := (fV.tr w1.l).mI (a := 152) (x := -1) (by omega)
          have l3 : (mI V3 152 k (-1)).1 149 2 = nI k := by rw [f3.2.2.1]; exact hl
          refine f_takeNum (e := e) (by omega) (w2.cg (mI_r (by omega))) fun x => ?_
          rw [l3, ck]
          exact ⟨vk, h0 e rfl _ (f3.mI (by omega)) (w2.cg (by rw [mI_r (by omega), mI_r (by omega)]))⟩
        · rw [he] at h0 h1
          dsimp only [bd] at h0 h1
          obtain ⟨k2, a2⟩ := nx1 hE.1 hE.2.1 k1 (rNamed_inr he)
          have f3 := (fV.tr w1.l).mI (a := 152) (x := nI j) (by omega)
          have hE3 := FrL.en hE f3
          have l3 : (mI V3 152 k (nI j)).1 149 2 = nI k := by rw [f3.2.2.1]; exact hl
          refine c_takeNum (a := 1) (b := 99) (by omega) hE.1 hE.2.1 hE3.2.2.1 hE3.2.2.2 (w2.cg (mI_r (by omega)) rfl) k2 (by omega) (by omega) (fun e he2 w V4 x1 x2 => ?_) (fun v ρ2 he2 V4 x1 x2 => ?_)
          · rw [l3, ck]
            rw [he2] at h0
            exact ⟨vk, h0 e rfl _ ((f3.tr x1.l).mI (by omega)) (x2.cg (mI_r (by omega)))⟩
          · rw [l3, ck]
            rw [he2] at h1
            refine ⟨vk, h1 _ _ rfl _ ((f3.tr x1.l).mI (by omega)) (x2.cg (mI_r (by omega)) rfl) ?_ ?_ (fun _ => ?_) (fun _ => mI_s)⟩
            · rw [mI_r (by omega), x1.1 151 (by omega), mI_r (by omega), w1.1 151 (by omega)]; exact va
            · rw [mI_r (by omega), x1.1 150 (by omega), mI_r (by omega), w1.1 150 (by omega)]; exact vb
            · rw [mI_r (by omega), x1.1 152 (by omega), mI_s]
    · have q2 : ¬ w ≤ 10 := mt (ll1 (n := 10) (m := w) (by omega) (by decide)).mpr q2
      unfold lgDeed
      rw [if_neg (by omega)]
/-- behind a line's first word -/
def lrTL (X : Xc) (d : Nat) (K : Mm → Prop) (w1 a : Int32) (U : Mm) : Prop := ((U.1 1 2) = 0 → CV X d 104 [.ref 1] U (fun u3 => vp_in (u3.1 149 2) 40 ∧ (w1 = 0 → CV X d 64 [.ref 149] (mI u3 151 (u3.1 149 2).toNatClampNeg a) (fun u4 => K u4)) ∧ (¬ w1 = 0 → vp_in ((mI u3 151 (u3.1 149 2).toNatClampNeg a).1 149 2) 40 ∧ CI X d 116 [.ref 1, .int 1, .int (60 : Int32)] (mI (mI u3 151 (u3.1 149 2).toNatClampNeg a) 150 ((mI u3 151 (u3.1 149 2).toNatClampNeg a).1 149 2).toNatClampNeg (11 : Int32)) (fun w5 u5 => vp_in ((mI (mI u3 151 (u3.1 149 2).toNatClampNeg a) 150 ((mI u3 151 (u3.1 149 2).toNatClampNeg a).1 149 2).toNatClampNeg (11 : Int32)).1 149 2) 40 ∧ K (mI u5 153 ((mI (mI u3 151 (u3.1 149 2).toNatClampNeg a) 150 ((mI u3 151 (u3.1 149 2).toNatClampNeg a).1 149 2).toNatClampNeg (11 : Int32)).1 149 2).toNatClampNeg w5))))) ∧ (¬ (U.1 1 2) = 0 → K U)
theorem tlDead {K : Mm → Prop} {w1 a : Int32} {e : FT} (h : FtC u e) (hK : K u) : lrTL X d K w1 a u := ⟨fun z => absurd z h.ne, fun _ => hK⟩
/-- line k as the system has it -/
def lnC (V : Mm) (k : Nat) (c : LL) : Prop := V.1 150 k = nI c.1 ∧ (c.1 = 11 → V.1 153 k = nI c.2.2.2) ∧ (c.1 ≠ 11 → V.1 151 k = nI c.2.1) ∧ (c.1 ≠ 8 → c.1 ≠ 11 → V.1 152 k = nI c.2.2.1) ∧ (c.1 = 10 → V.1 153 k = nI c.2.2.2)
theorem kLogLine {K : Mm → Prop} {k : Nat} (hd : 7 ≤ d) (hE : En u f n m) (hN : Nms u nl cQ cK cA) (hA : cA < 1000) (hl : u.1 149 2 = nI k) (h40 : k ≤ 40) (hr : RdC u f n m ρ) (hk : tkOk ρ n) (h0 : ∀ e, lgLine f n m nl cQ cK cA k ρ = .inl e → ∀ V, FrL u V k → FtC V e → K V)
    (h1 : ∀ c ρ', lgLine f n m nl cQ cK cA k ρ = .inr (c, ρ') → ∀ V, FrL u V k → RdC V f n m ρ' → lnC V k c → K V) : CV X d 63 [.ref 149] u K := by
  obtain ⟨d, rfl, hd1⟩ := dpos hd
  have ck : (nI k).toNatClampNeg = k := nI_clamp (by omega)
  obtain ⟨k1, a1⟩ := nx1 (f := f) (m := m) hE.1 hE.2.1 hk rfl
  unfold lgLine at h0 h1
  refine CV_of mk_X5_readLine.2.2 rfl (B_LR_readLine_0 ?_)
  refine c_isWd (c := 11) (by omega) hr hk (by omega) (fun q => ⟨fun z => absurd z (by decide), fun _ => ?_⟩) (fun q => ⟨fun _ => ?_, fun z => absurd rfl z⟩)
  · rw [if_pos q] at h0 h1
    rw [hl]
    refine ⟨fun z => ?_, fun z => ?_⟩
    · have z : k < 40 := (ll3 (n := 40) (m := k) (by omega) (by decide)).mp z
      have vk : vp_in (nI k) 40 := vp_in_nI z (by decide)
      rw [if_neg (by omega)] at h0 h1
      refine ⟨fun _ => ?_, fun x => absurd hr.2.1 x⟩
      refine c_step (by omega) hE.1 hE.2.1 hE.2.2.1 hE.2.2.2 hr (by omega) fun V v1 v2 => ?_
      have v5 : V.1 149 2 = nI k := by rw [v1.1 149 (by omega)]; exact hl
      rw [v5, ck]
      have f1 : FrL u (mI V 151 k (-1)) k := v1.l.mI (by omega)
      have l1 : (mI V 151 k (-1)).1 149 2 = nI k := by rw [f1.2.2.1]; exact hl
      refine ⟨vk, fun x => absurd x (by decide), fun _ => ?_⟩
      rw [l1, ck]
      have f2 : FrL u (mI (mI V 151 k (-1)) 150 k 11) k := f1.mI (by omega)
      have l2 : (mI (mI V 151 k (-1)) 150 k 11).1 149 2 = nI k := by rw [f2.2.2.1]; exact hl
      have hE2 := FrL.en hE f2
      refine ⟨vk, c_takeNum (a := 1) (b := 60) (by omega) hE.1 hE.2.1 hE2.2.2.1 hE2.2.2.2 (v2.cg (by rw [mI_r (by omega), mI_r (by omega)]) rfl) k1 (by omega) (by omega) (fun e he w V4 x1 x2 => ?_) (fun v ρ2 he V4 x1 x2 => ?_)⟩
      · rw [l2, ck]
        rw [he] at h0
        exact ⟨vk, h0 e rfl _ ((f2.tr x1.l).mI (by omega)) (x2.cg (mI_r (by omega)))⟩
      · rw [l2, ck]
        rw [he] at h1
        refine ⟨vk, h1 _ _ rfl _ ((f2.tr x1.l).mI (by omega)) (x2.cg (mI_r (by omega)) rfl) ⟨?_, fun _ => mI_s, fun x => absurd rfl x, fun _ x => absurd rfl x, fun x => absurd (show (11 : Nat) = 10 from x) (by omega)⟩⟩
        rw [mI_r (by omega), x1.1 150 (by omega), mI_s]; rfl
    · have z : ¬ k < 40 := mt (ll3 (n := 40) (m := k) (by omega) (by decide)).mpr z
      rw [if_pos (by omega)] at h0
      refine c_blame (by omega) hr.2.1 ?_
      have ft : FtC (mI u 1 2 (nI 4)) (4, ρ.1) := FtC.of (k := 4) hr (by omega) (by omega)
      exact tlDead (X := X) (d := d) (K := K) ft (h0 _ rfl _ (Fr1.rf.mI (j := 2)).l ft)
  · rw [if_neg q] at h0 h1
    refine c_look5 (s := 2) (base := 13) (by omega) (by omega) hN.2.2 hr hk (fun e he V v1 v2 => ?_) (fun a ha he => ?_)
    · rw [he] at h0
      have fin := h0 e rfl V v1.l v2
      exact ⟨fun _ => tlDead (X := X) (d := d) (K := K) v2 fin, fun _ => f_blame (by omega) v2 (tlDead (X := X) (d := d) (K := K) v2 fin)⟩
    · rw [he] at h0 h1
      dsimp only [bd] at h0 h1
      rw [hl]
      refine ⟨fun z => ?_, fun z => ?_⟩
      · have z : k < 40 := (ll3 (n := 40) (m := k) (by omega) (by decide)).mp z
        have vk : vp_in (nI k) 40 := vp_in_nI z (by decide)
        rw [if_neg (by omega)] at h0 h1
        refine ⟨fun _ => ?_, fun x => absurd hr.2.1 x⟩
        refine c_step (by omega) hE.1 hE.2.1 hE.2.2.1 hE.2.2.2 hr (by rw [rLook_k he]; omega) fun V v1 v2 => ?_
        have v5 : V.1 149 2 = nI k := by rw [v1.1 149 (by omega)]; exact hl
        rw [v5, ck]
        have f1 : FrL u (mI V 151 k (nI a)) k := v1.l.mI (by omega)
        have l1 : (mI V 151 k (nI a)).1 149 2 = nI k := by rw [f1.2.2.1]; exact hl
        refine ⟨vk, fun _ => ?_, fun x => absurd rfl x⟩
        refine kDeed (by omega) (FrL.en hE f1) (f1.nms hN) l1 z (v2.cg (mI_r (by omega)) rfl) k1 (fun e he2 V4 x1 x2 => ?_) (fun c ρ2 he2 V4 x1 x2 x3 x4 x5 x6 => ?_)
        · rw [he2] at h0
          exact h0 e rfl V4 (f1.tr x1) x2
        · rw [he2] at h1
          obtain ⟨oc, -⟩ := lgDeed_ok hE.1 hE.2.1 (by have := hN.1.1; omega) (by have := hN.2.1.1; omega) hA k1 he2
          have c11 : c.1 ≠ 11 := by rcases oc with ⟨e, -⟩ | e | ⟨e, -⟩ | ⟨e, -⟩ <;> omega
          refine h1 _ _ rfl V4 (f1.tr x1) x2 ⟨x4, fun x => absurd x c11, fun _ => by rw [x3, mI_s], fun x _ => x5 x, x6⟩
      · have z : ¬ k < 40 := mt (ll3 (n := 40) (m := k) (by omega) (by decide)).mpr z
        rw [if_pos (by omega)] at h0
        refine c_blame (by omega) hr.2.1 ?_
        have ft : FtC (mI u 1 2 (nI 4)) (4, ρ.1) := FtC.of (k := 4) hr (by omega) (by omega)
        exact tlDead (X := X) (d := d) (K := K) ft (h0 _ rfl _ (Fr1.rf.mI (j := 2)).l ft)
/-- lines as the system has them -/
def LgC (V : Mm) (ls : List LL) : Prop := V.1 149 2 = nI ls.length ∧ ∀ i, i < ls.length → lnC V i (ls.getD i (0, 0, 0, 0))
def FrLg (u V : Mm) : Prop := (∀ b, b ≠ 1 → b < 149 ∨ 153 < b → V.1 b = u.1 b) ∧ (∀ b, b ≠ 1 → V.2 b = u.2 b) ∧ ∀ j, j ≠ 2 → V.1 149 j = u.1 149 j
theorem FrL.g {V : Mm} {k : Nat} (h : FrL u V k) : FrLg u V := ⟨h.1, h.2.1, fun j _ => by rw [h.2.2.1]⟩
theorem FrLg.tr {u v w : Mm} (h : FrLg u v) (h2 : FrLg v w) : FrLg u w := ⟨fun b x1 x2 => (h2.1 b x1 x2).trans (h.1 b x1 x2), fun b x => (h2.2.1 b x).trans (h.2.1 b x), fun j x => (h2.2.2 j x).trans (h.2.2 j x)⟩
theorem FrLg.mI {v : Mm} {x : Int32} (h : FrLg u v) : FrLg u (mI v 149 2 x) := ⟨fun b x1 x2 => by rw [mI_r (by omega)]; exact h.1 b x1 x2, h.2.1, fun j hj => by rw [mI_n (by omega)]; exact h.2.2 j hj⟩
theorem FrLg.en {V : Mm} (hE : En u f n m) (h : FrLg u V) : En V f n m := ⟨hE.1, hE.2.1, hE.2.2.1.cg (h.1 2 (by omega) (by omega)), hE.2.2.2.congr (h.2.1 3 (by omega))⟩
theorem FrLg.nms {V : Mm} (h : FrLg u V) (hN : Nms u nl cQ cK cA) : Nms V nl cQ cK cA := hN.cg (h.1 7 (by omega) (by omega)) (h.2.1 6 (by omega))
theorem lgD {ls : List LL} {c : LL} : (ls ++ [c]).length = ls.length + 1 ∧ (∀ i, i < ls.length → (ls ++ [c]).getD i (0, 0, 0, 0) = ls.getD i (0, 0, 0, 0)) ∧ (ls ++ [c]).getD ls.length (0, 0, 0, 0) = c := by
  refine ⟨by simp, fun i hi => ?_, ?_⟩
  · simp [List.getD, List.getElem?_append_left hi]
  · simp [List.getD]
theorem lnC.cg {V V' : Mm} {k : Nat} {c : LL} (h : lnC V k c) (e : ∀ b, 150 ≤ b → b ≤ 153 → V'.1 b k = V.1 b k) : lnC V' k c := by
  unfold lnC
  rw [e 150 (by omega) (by omega), e 151 (by omega) (by omega), e 152 (by omega) (by omega), e 153 (by omega) (by omega)]
  exact h
theorem kLogLines {K : Mm → Prop} (hd : 8 ≤ d) (hE : En u f n m) (hN : Nms u nl cQ cK cA) (hA : cA < 1000) : ∀ g (ls : List LL) (ρ : RDS) (V : Mm), g + ls.length = 41 → ls.length ≤ 40 → FrLg u V → LgC V ls → RdC V f n m ρ → tkOk ρ n →
    (∀ e, lgAll f n m nl cQ cK cA g ls ρ = .inl e → ∀ V', FrLg u V' → FtC V' e → K V') → (∀ ls', lgAll f n m nl cQ cK cA g ls ρ = .inr ls' → ∀ V', FrLg u V' → V'.1 1 2 = 0 → LgC V' ls' → K V') → VV X d 62 K 15 [some (.ref 149)] [] V := by
  intro g
  induction g with
  | zero => intro ls ρ V hg h40; omega
  | succ g ih =>
    intro ls ρ V hg h40 v1 hc hr hk h0 h1
    have hEV := FrLg.en hE v1
    obtain ⟨-, -, -, t0, -, t6⟩ := ty_k hk.2.1
    rw [lgAll] at h0 h1
    refine B_LR_readLog_15 ?_
    rw [hc.1, hr.2.1, hr.2.2.2.2.1.1]
    refine ⟨fun z => absurd (show 40 < ls.length from (ll4 (n := 40) (by omega) (by decide)).mp z) (by omega), fun _ => ⟨fun z => absurd rfl z, fun _ => ⟨fun z => ?_, fun z => ?_⟩⟩⟩
    · have z : ρ.2.1 = 0 := t0.mp ((nI_eq (a := ty ρ) (b := 0) (by omega) (by omega)).mp z)
      rw [if_pos z] at h1
      exact h1 _ rfl V v1 hr.2.1 hc
    · have z : ¬ ρ.2.1 = 0 := fun q => z (by rw [t0.mpr q]; rfl)
      rw [if_neg z] at h0 h1
      have dead : ∀ (e : FT) (V' : Mm), (∀ V', FrLg u V' → FtC V' e → K V') → FrLg u V' → FtC V' e → VV X d 62 K 15 [some (.ref 149)] [] (mI V' 149 2 ((V'.1 149 2) + 1)) := by
        intro e V' hh x1 x2
        have x2' : FtC (mI V' 149 2 ((V'.1 149 2) + 1)) e := x2.cg (mI_r (by omega))
        have fin := hh _ (x1.mI (x := (V'.1 149 2) + 1)) x2'
        exact B_LR_readLog_15 ⟨fun _ => fin, fun _ => ⟨fun _ => fin, fun q => absurd q x2'.ne⟩⟩
      refine kLogLine (k := ls.length) (by omega) hEV (v1.nms hN) hA hc.1 h40 hr hk (fun e he V2 w1 w2 => ?_) (fun c ρ' he V2 w1 w2 w3 => ?_)
      · rw [he] at h0
        exact f_takeSgn (by omega) w2 (dead e V2 (h0 e rfl) (v1.tr w1.g) w2)
      · rw [he] at h0 h1
        dsimp only [bd] at h0 h1
        obtain ⟨n40, -, k', ad⟩ := lgLine_ok hE.1 hE.2.1 (by have := hN.1.1; omega) (by have := hN.2.1.1; omega) hA hk he
        have v2 := v1.tr w1.g
        have hE2 := FrLg.en hE v2
        refine c_takeSgn (c := 59) (by omega) hE.1 hE.2.1 hE2.2.2.1 hE2.2.2.2 w2 k' (by omega) (fun e he3 V3 x1 x2 => ?_) (fun ρ3 he3 V3 x1 x2 => ?_)
        · rw [he3] at h0
          exact dead e V3 (h0 e rfl) (v2.tr (x1.l (k := 0)).g) x2
        · rw [he3] at h0 h1
          dsimp only [bd] at h0 h1
          have hs : ρ3 = nxt f n m ρ' := by unfold rSgn at he3; split at he3 <;> cases he3; rfl
          obtain ⟨k3, -⟩ := nx1 hE.1 hE.2.1 k' hs
          have v3 := v2.tr (x1.l (k := 0)).g
          obtain ⟨g1, g2, g3⟩ := lgD (ls := ls) (c := c)
          have l3 : V3.1 149 2 = nI ls.length := by rw [x1.1 149 (by omega), w1.2.2.1]; exact hc.1
          rw [l3, nI_1]
          refine ih (ls ++ [c]) ρ3 _ (by omega) (by omega) v3.mI ⟨by rw [mI_s, g1], fun i hi => ?_⟩ (x2.cg (mI_r (by omega)) rfl) k3 h0 h1
          by_cases e : i = ls.length
          · rw [e, g3]
            exact w3.cg fun b b1 b2 => by rw [mI_r (by omega), x1.1 b (by omega)]
          · rw [g2 i (by omega)]
            exact (hc.2 i (by omega)).cg fun b b1 b2 => by rw [mI_r (by omega), x1.1 b (by omega)]; exact w1.2.2.2 b b1 b2 i e
def lgTxt (f : Nat → Nat) (n : Nat) (nl : Nat → List Nat) (cQ cK cA : Nat) : FT ⊕ List LL := lgAll f n 400 nl cQ cK cA 41 [] (tokF f n 400 (sk f n 0))
theorem c_readLog {K : Mm → Prop} (hd : 9 ≤ d) (hn : n ≤ 940) (hb : TBy u f) (hw : WordsR u) (e1 : u.1 1 1 = nI n) (hN : Nms u nl cQ cK cA) (hA : cA < 1000)
    (h0 : ∀ e, lgTxt f n nl cQ cK cA = .inl e → ∀ V, FrLg u V → FtC V e → K V) (h1 : ∀ ls, lgTxt f n nl cQ cK cA = .inr ls → ∀ V, FrLg u V → V.1 1 2 = 0 → LgC V ls → K V) : CV X d 62 [.ref 149] u K := by
  obtain ⟨d, rfl, hd1⟩ := dpos hd
  refine CV_of mk_X5_readLog.2.2 rfl (B_LR_readLog_0 ?_)
  have v1 : FrLg u (mI u 149 2 0) := FrLg.mI (FrL.rf (k := 0)).g
  have hE : En u f n 400 := ⟨hn, by omega, hb, hw⟩
  have hEV := FrLg.en hE v1
  refine c_begin (f := f) (n := n) (m := 400) (by omega) hn (by omega) hEV.2.2.1 hEV.2.2.2 (by rw [mI_r (by omega)]; exact e1) fun V2 w1 w2 => ?_
  obtain ⟨k0, -⟩ := tk0 (f := f) (n := n) (m := 400) hn (by omega)
  refine kLogLines (u := u) (by omega) hE hN hA 41 [] _ V2 rfl (by simp) (v1.tr (w1.l (k := 0)).g) ⟨by rw [w1.1 149 (by omega), mI_s]; rfl, fun i hi => absurd hi (by simp)⟩ w2 k0 h0 h1
end LgR
