/-! bids -/
theorem gD {l : List Nat} {k : Nat} (hk : k < l.length) : l.getD k 0 = l[k] := by simp [List.getD, hk]
theorem mem_getD {l : List Nat} {x : Nat} : x ∈ l ↔ ∃ k, k < l.length ∧ l.getD k 0 = x := by
  constructor
  · intro h
    obtain ⟨k, hk, e⟩ := List.getElem_of_mem h
    exact ⟨k, hk, by rw [gD hk]; exact e⟩
  · rintro ⟨k, hk, e⟩
    rw [← e, gD hk]
    exact List.getElem_mem hk
def nbP (g : Nat → Int32) (bv : Nat → Nat) (t a : Nat) : Bool := !tb (g 201) a && (!t.testBit (g (210 + a)).toNatClampNeg && decide (nI (bv a) < g (218 + a)))
def rtT (R : RS) : Nat := match R with
  | none => 0
  | some z => z.2.2
def nxF (g : Nat → Int32) (bv : Nat → Nat) (R : RS) : Int32 := fstI (nbP g bv (rtT R)) (nA g)
def upN (bv : Nat → Nat) (a : Nat) : Nat → Nat := fun b => if b = a then bv b + 1 else bv b
def bdF (g : Nat → Int32) (n q : Nat) : Nat → (Nat → Nat) → Nat → Nat × (Nat → Nat)
  | 0, bv, r => (r, bv)
  | k + 1, bv, r => if nxF g bv (rtF g bv n q) = -1 then (r + 1, bv) else bdF g n q k (upN bv (nxF g bv (rtF g bv n q)).toNatClampNeg) (r + 1)
theorem bod_all {g : Nat → Int32} {bv : Nat → Nat} {P : List Nat → Prop} (hP : ∀ tr p, P tr → p < nQ g → P (tr ++ [p])) : ∀ f q tr t w R, P tr → (∀ z, R = some z → P z.2.1) → ∀ z, bodF g bv f q tr t w R = some z → P z.2.1 := by
  have vis : ∀ tr t w R, P tr → (∀ z, R = some z → P z.2.1) → ∀ z, visF tr t w R = some z → P z.2.1 := by
    intro tr t w R h hR z hz
    unfold visF at hz
    split at hz
    · cases hz; exact h
    · split at hz
      · cases hz; exact h
      · exact hR _ hz
  intro f
  induction f with
  | zero =>
    intro q tr t w R h hR
    rw [bodF]
    exact vis tr t w R h hR
  | succ f ih =>
    intro q tr t w R h hR
    rw [bodF]
    have : ∀ n, n ≤ nQ g → ∀ z, foF (fun p R => if tb (g (14 + q)) p = true ∧ t.testBit p = false then bodF g bv f p (tr ++ [p]) (t ||| 2 ^ p) (w + brQ g bv p) R else R) (visF tr t w R) n = some z → P z.2.1 := by
      intro n hn
      induction n with
      | zero => exact vis tr t w R h hR
      | succ n ih2 =>
        rw [foF]
        split
        · exact ih n _ _ _ _ (hP tr n h (by omega)) (ih2 (by omega))
        · exact ih2 (by omega)
    exact this (nQ g) (Nat.le_refl _)
theorem rt8 {g : Nat → Int32} {bv : Nat → Nat} {n q : Nat} {z : Nat × List Nat × Nat} (hQ : nQ g ≤ 8) (hq : q < nQ g) (h : rtF g bv n q = some z) : ∀ x ∈ z.2.1, x < 8 := by
  refine bod_all (P := fun tr => ∀ x ∈ tr, x < 8) (fun tr p h hp x hx => ?_) _ _ _ _ _ _ (fun x hx => ?_) (fun z hz => by cases hz) z h
  · rcases List.mem_append.mp hx with hx | hx
    · exact h x hx
    · rw [List.mem_singleton.mp hx]; omega
  · rw [List.mem_singleton.mp hx]; omega
section Bids
variable {X : Xc} {u : Mm} {g : Nat → Int32} {nm : Nat → Int64} {bv : Nat → Nat}
theorem c_nextB {d t : Nat} {K : Int32 → Mm → Prop} (hd : 2 ≤ d) (h : Wd u g nm) (ht : t < 256) (e8 : u.1 165 8 = nI t) (e6 : ∀ a, a < nA g → u.1 166 a = nI (bv a)) (hK : K (fstI (nbP g bv t) (nA g)) u) : CI X d 38 [.ref 165] u K := by
  obtain ⟨d, rfl, hd1⟩ := dpos hd
  obtain ⟨hg, hc, hok, hr⟩ := h
  have hA := hg.1.2.2.2.2.2.1
  have hQ := hg.1.2.1
  obtain ⟨cq, ck, ca, cw⟩ := cityN hg hc
  refine CI_of mk_X3_nextBidder.2.2 rfl (B_GD_nextBidder_0 ?_)
  suffices hz : (∀ a', a' < 0 → nbP g bv t a' = false) → VI X d 38 K 2 [some (.ref 165), some (.int (nI 0)), none] [] u from hz (fun a' h => absurd h (by omega))
  refine lup (n := nA g) (W := fun a => (∀ a', a' < a → nbP g bv t a' = false) → VI X d 38 K 2 [some (.ref 165), some (.int (nI a)), none] [] u) ?_
  intro a ha ih hp
  refine B_GD_nextBidder_2 ?_
  rw [ca, nI_clamp (show a < 2 ^ 31 by omega), nI_1, e8]
  refine ⟨fun z => ?_, fun z => ?_⟩
  · have z := (nI_leI (by omega) (by omega)).mp z
    rw [fstI_none (fun k hk => hp k (by omega))] at hK
    exact hK
  · have z := mt (nI_leI (a := nA g) (b := a) (by omega) (by omega)).mpr z
    have ih := ih (by omega)
    have e22 : u.1 22 a = g (210 + a) := (hr.2.1 a (by omega)).2.1
    have e24 : u.1 24 a = g (218 + a) := (hr.2.1 a (by omega)).2.2.1
    have next : nbP g bv t a = false → VI X d 38 K 2 [some (.ref 165), some (.int (nI (a + 1))), none] [] u := fun hn => ih fun a' ha' => by
      by_cases e : a' = a
      · subst e; exact hn
      · exact hp a' (by omega)
    rw [e22]
    refine ⟨vp_in_nI (by omega) (by decide), fun y => next ?_, fun y => ?_⟩
    · rcases (hok.2.2.2.1 a (by omega)).2 with ⟨q1, q2⟩ | ⟨q1, q, hq, q2⟩
      · unfold nbP; rw [q1]; rfl
      · rw [q2] at y; exact absurd y (nI_m1 (by omega))
    · rcases (hok.2.2.2.1 a (by omega)).2 with ⟨q1, q2⟩ | ⟨q1, q, hq, q2⟩
      · exact absurd q2 y
      · rw [q2]
        refine c_bit (by omega) (by omega) (fun y2 => ⟨fun _ => next ?_, fun z => absurd z (by decide)⟩) (fun y2 => ⟨fun z => absurd rfl z, fun _ => ⟨vp_in_nI (by omega) (by decide), vp_in_nI (by omega) (by decide), fun y3 => next ?_, fun y3 => ?_⟩⟩)
        · rw [tb_bit t ht q (by omega)] at y2
          unfold nbP; rw [q2, nI_clamp (by omega), y2, q1]; rfl
        · rw [e24, e6 a (by omega)] at y3
          unfold nbP; rw [decide_eq_false (Int32.not_lt.mpr y3)]; simp
        · rw [tb_bit t ht q (by omega)] at y2
          rw [e24, e6 a (by omega)] at y3
          have hb : nbP g bv t a = true := by unfold nbP; rw [q2, nI_clamp (by omega), y2, q1, decide_eq_true (Int32.not_le.mp y3)]; rfl
          rw [fstI_some hb hp (by omega) (by omega)] at hK
          exact hK
theorem c_onR {d a q : Nat} {K : Int32 → Mm → Prop} {z : Nat × List Nat × Nat} (hd : 1 ≤ d) (ha : a < 8) (hq : q < 8) (hz : trOk z.2.1 z.2.2 z.1) (hz8 : ∀ x ∈ z.2.1, x < 8) (hr : rmR u (some z)) (eq : u.1 236 (210 + a) = nI q) (h1 : z.2.2.testBit q = true → K 1 u) (h0 : z.2.2.testBit q = false → K 0 u) : CI X d 276 [.ref 234, .int (nI a)] u K := by
  obtain ⟨d, rfl, hd1⟩ := dpos hd
  obtain ⟨r7, r8, r9⟩ := hr
  have hl := hz.2.2.1
  refine CI_of mk_X13_isOnRoute.2.2 rfl (B_M_isOnRoute_0 ?_)
  suffices hz : (∀ k', k' < 0 → nI (z.2.1.getD k' 0) ≠ nI q) → VI X d 276 K 2 [some (.ref 234), some (.int (nI a)), some (.int (nI 0))] [] u from hz (fun a' h => absurd h (by omega))
  refine lup (n := z.2.1.length) (W := fun k => (∀ k', k' < k → nI (z.2.1.getD k' 0) ≠ nI q) → VI X d 276 K 2 [some (.ref 234), some (.int (nI a)), some (.int (nI k))] [] u) ?_
  intro k hk ih hp
  refine B_M_isOnRoute_2 ?_
  rw [r7, nI_clamp (show k < 2 ^ 31 by omega), nI_1, show (210 : Int32) + nI a = nI (210 + a) from nI_add 210 a, nI_clamp (by omega), eq]
  refine ⟨fun y => h0 ?_, fun y => ?_⟩
  · have y := (nI_leI (by omega) (by omega)).mp y
    cases hb : z.2.2.testBit q
    · rfl
    · obtain ⟨k', hk', e⟩ := mem_getD.mp ((hz.2.2.2 q hq).mp hb)
      exact absurd (by rw [e]) (hp k' (by omega))
  · have y := mt (nI_leI (a := z.2.1.length) (b := k) (by omega) (by omega)).mpr y
    rw [r9 k (by omega)]
    refine ⟨vp_in_nI (by omega) (by decide), vp_in_nI (by omega) (by decide), fun x => ih (by omega) fun k' hk' => ?_, fun x => ?_⟩
    · by_cases e : k' = k
      · subst e; exact x
      · exact hp k' (by omega)
    · have h8 := hz8 _ (mem_getD.mpr ⟨k, by omega, rfl⟩)
      exact h1 ((hz.2.2.2 q hq).mpr (mem_getD.mpr ⟨k, by omega, (nI_eq (by omega) (by omega)).mp x⟩))
theorem c_mround {d n q : Nat} {K : Int32 → Mm → Prop} (hd : 14 ≤ d) (hg : HeadOk g) (hok : LifeOk g g) (hb : ∀ a, a < nA g → bv a ≤ 199) (hq : q < nQ g) (hn : n ≤ 8) (h1 : 1 ≤ n) (e6 : u.1 236 = g) (e3 : ∀ a, a < nA g → u.1 253 a = nI (bv a))
    (hK0 : nxF g bv (rtF g bv n q) = -1 → ∀ V', SkM u g bv V' → K 0 V') (hK1 : ∀ a, a < nA g → nxF g bv (rtF g bv n q) = nI a → ∀ V', SkM u g bv V' → K 1 (mI V' 253 a (nI (bv a + 1)))) : CI X d 277 [.ref 234, .int (nI q), .int (nI n)] u K := by
  obtain ⟨d, rfl, hd1⟩ := dpos hd
  have hA := hg.1.2.2.2.2.2.1
  have hQ := hg.1.2.1
  have m3 := hg.1.2.2.2.2.1
  have hb2 : ∀ a, a < nA g → bv a ≤ 200 := fun a ha => Nat.le_trans (hb a ha) (by omega)
  obtain ⟨z, ez, hz⟩ := rtOk (n := n) hg hb2 hq hn h1
  have hz8 := rt8 hQ hq ez
  refine CI_of mk_X13_round.2.2 rfl (B_M_round_0 (c_mlayR (by omega) hg hb2 hq hn h1 e6 e3 fun V x1 x2 => ?_))
  have hnx : nxF g bv (rtF g bv n q) = fstI (nbP g bv z.2.2) (nA g) := by rw [ez]; rfl
  rw [hnx] at hK0 hK1
  rw [ez] at x2
  have g6 := x1.g6
  suffices hz : (∀ a', a' < 0 → nbP g bv z.2.2 a' = false) → VI X d 277 K 8 [some (.ref 234), some (.int (nI q)), some (.int (nI n)), some (.int (nI 0))] [] V from hz (fun a' h => absurd h (by omega))
  refine lup (n := nA g) (W := fun a => (∀ a', a' < a → nbP g bv z.2.2 a' = false) → VI X d 277 K 8 [some (.ref 234), some (.int (nI q)), some (.int (nI n)), some (.int (nI a))] [] V) ?_
  intro a ha ih hp
  refine B_M_round_8 ?_
  rw [g6, m3, nI_clamp (show a < 2 ^ 31 by omega), nI_1, show (218 : Int32) + nI a = nI (218 + a) from nI_add 218 a, nI_clamp (show 218 + a < 2 ^ 31 by omega)]
  refine ⟨fun y => ?_, fun y => ?_⟩
  · have y := (nI_leI (by omega) (by omega)).mp y
    exact hK0 (fstI_none (fun k hk => hp k (by omega))) V x1
  · have y := mt (nI_leI (a := nA g) (b := a) (by omega) (by omega)).mpr y
    have ih := ih (by omega)
    have next : nbP g bv z.2.2 a = false → VI X d 277 K 8 [some (.ref 234), some (.int (nI q)), some (.int (nI n)), some (.int (nI (a + 1)))] [] V := fun hn => ih fun a' ha' => by
      by_cases e : a' = a
      · subst e; exact hn
      · exact hp a' (by omega)
    refine c_misEvicted (by omega) (by omega) (fun y2 => ⟨fun _ => next ?_, fun z => absurd z (by decide)⟩) (fun y2 => ⟨fun z => absurd rfl z, fun _ => ?_⟩)
    · rw [g6] at y2
      unfold nbP; rw [y2]; rfl
    · rw [g6] at y2
      rcases (hok.2.2.2.1 a (by omega)).2 with ⟨q1, q2⟩ | ⟨q1, p, hp2, q2⟩
      · rw [q1] at y2; cases y2
      · refine c_onR (q := p) (by omega) (by omega) (by omega) hz hz8 x2 (by rw [g6]; exact q2) (fun y3 => ⟨fun _ => next ?_, fun z => absurd z (by decide)⟩) (fun y3 => ⟨fun z => absurd rfl z, fun _ => ?_⟩)
        · unfold nbP; rw [q2, nI_clamp (by omega), y3, q1]; rfl
        · have e253 : V.1 253 a = nI (bv a) := by rw [x1.1 253 (by omega) (by omega) (by omega)]; exact e3 a (by omega)
          rw [g6, e253, nI_1]
          refine ⟨vp_in_nI (by omega) (by decide), vp_in_nI (by omega) (by decide), fun y4 => ⟨vp_in_nI (by omega) (by decide), vp_in_nI (by omega) (by decide), hK1 a (by omega) (fstI_some ?_ hp (by omega) (by omega)) V x1⟩, fun y4 => next ?_⟩
          · unfold nbP; rw [q2, nI_clamp (by omega), y3, q1, decide_eq_true y4]; rfl
          · unfold nbP; rw [decide_eq_false y4]; simp
theorem nx_cases {R : RS} (hA : nA g ≤ 8) : nxF g bv R = -1 ∨ ∃ a, a < nA g ∧ nxF g bv R = nI a := by
  unfold nxF
  rcases fstI_cases (nbP g bv (rtT R)) (n := nA g) (by omega) with ⟨e, -⟩ | ⟨j, hj, e, -⟩
  · exact Or.inl e
  · exact Or.inr ⟨j, hj, e⟩
theorem c_takeB {d n q : Nat} {K : Int32 → Mm → Prop} (hd : 14 ≤ d) (h : Wd u g nm) (hq : q < nQ g) (hn : n ≤ 8) (h1 : 1 ≤ n)
    (hK : ∀ V : Mm, (∀ b, b ≠ 165 → b ≠ 166 → b ≠ 167 → b ≠ 168 → b ≠ 170 → V.1 b = u.1 b) → V.2 = u.2 → (∀ k, k ≠ 3 → k ≠ 6 → k ≠ 7 → k ≠ 8 → k ≠ 12 → V.1 165 k = u.1 165 k) → V.1 165 12 = nI (nA g) → (∀ a, a < nA g → V.1 170 a = nI ((bdF g n q 60 (btF g) 0).2 a)) → K (nI (bdF g n q 60 (btF g) 0).1) V) : CI X d 37 [.ref 165, .int (nI q), .int (nI n)] u K := by
  obtain ⟨d, rfl, hd1⟩ := dpos hd
  obtain ⟨hg, hc, hok, hr⟩ := h
  have hw : Wd u g nm := ⟨hg, hc, hok, hr⟩
  have hA := hg.1.2.2.2.2.2.1
  have hQ := hg.1.2.1
  obtain ⟨cq, ck, ca, cw⟩ := cityN hg hc
  refine CI_of mk_X3_takeBids.2.2 rfl (B_GD_takeBids_0 (c_copy (n := 8) (by omega) ⟨rfl, _, rfl⟩ ⟨rfl, _, rfl⟩ (by omega) ?_))
  generalize hres : bdF g n q 60 (btF g) 0 = res at hK
  /- what stands in the loop -/
  have fin : ∀ (V : Mm) (r : Nat) (bv : Nat → Nat), (∀ b, b ≠ 165 → b ≠ 166 → b ≠ 167 → b ≠ 168 → V.1 b = u.1 b) → V.2 = u.2 → (∀ k, k ≠ 3 → k ≠ 6 → k ≠ 7 → k ≠ 8 → V.1 165 k = u.1 165 k) → (∀ a, a < nA g → V.1 166 a = nI (bv a)) → res = (r, bv) → CV X d 179 [.ref 166, .ref 170] V (fun u1 => K (nI r) (mI u1 165 12 (u1.1 7 2))) := by
    intro V r bv v1 v2 v3 v4 hr
    refine c_copy (n := 8) (by omega) ⟨rfl, _, rfl⟩ ⟨rfl, _, rfl⟩ (by omega) ?_
    rw [hr] at hK
    refine hK _ (fun b b1 b2 b3 b4 b5 => by rw [mI_r b1, mC_o b5]; exact v1 b b1 b2 b3 b4) v2 (fun k k1 k2 k3 k4 k5 => by rw [mI_n (by omega), mC_o (by omega)]; exact v3 k k1 k2 k3 k4) ?_ (fun a ha => by rw [mI_r (by omega), mC_s (by omega)]; exact v4 a ha)
    rw [mI_s, mC_o (by omega), v1 7 (by omega) (by omega) (by omega) (by omega)]
    exact ca
  suffices hz : ∀ k r (bv : Nat → Nat) (V : Mm), r + k = 60 → (∀ a, a < nA g → bv a ≤ 99 + r) → bdF g n q k bv r = res → (∀ b, b ≠ 165 → b ≠ 166 → b ≠ 167 → b ≠ 168 → V.1 b = u.1 b) → V.2 = u.2 → (∀ k, k ≠ 3 → k ≠ 6 → k ≠ 7 → k ≠ 8 → V.1 165 k = u.1 165 k) → (∀ a, a < nA g → V.1 166 a = nI (bv a)) → VI X d 37 K 19 [some (.ref 165), some (.int (nI q)), some (.int (nI n)), some (.int (nI r)), some (.int 0), none] [] V from hz 60 0 (btF g) _ (by omega) (fun a ha => by have := (bt_le hc ha).1; omega) hres (fun b b1 b2 b3 b4 => mC_o b2) rfl (fun k _ _ _ _ => by rw [mC_o (by omega)]) (fun a ha => by rw [mC_s (by omega)]; exact (bt_le hc ha).2.2)
  intro k
  induction k with
  | zero =>
    intro r bv V hr60 hb hres v1 v2 v3 v4
    refine B_GD_takeBids_19 ⟨fun _ => fin V r bv v1 v2 v3 v4 hres.symm, fun z => absurd (nI_le (a := 60) (b := r) (by omega) (by omega)) z⟩
  | succ k ih =>
    intro r bv V hr60 hb hres v1 v2 v3 v4
    have hb2 : ∀ a, a < nA g → bv a ≤ 200 := fun a ha => by have := hb a ha; omega
    obtain ⟨z, ez, hz⟩ := rtOk (n := n) hg hb2 hq hn h1
    refine B_GD_takeBids_19 ⟨fun z => absurd z (nI_ge (a := r) (b := 60) (by omega) (by omega)), fun _ => ⟨fun z => absurd rfl z, fun _ => ?_⟩⟩
    refine c_seek (bv := bv) (by omega) (hw.cg (fun b b1 b2 => v1 b (by omega) (by omega) (by omega) (by omega)) v2) hb2 hq hn h1 v4 fun V2 x1 x2 x3 x4 => ?_
    have y1 : ∀ b, b ≠ 165 → b ≠ 166 → b ≠ 167 → b ≠ 168 → V2.1 b = u.1 b := fun b b1 b2 b3 b4 => by rw [x1 b b1 b3 b4]; exact v1 b b1 b2 b3 b4
    have y2 : V2.2 = u.2 := x2.trans v2
    have y3 : ∀ k, k ≠ 3 → k ≠ 6 → k ≠ 7 → k ≠ 8 → V2.1 165 k = u.1 165 k := fun k k1 k2 k3 k4 => by rw [x3 k k1 k2 k3 k4]; exact v3 k k1 k2 k3 k4
    have y4 : ∀ a, a < nA g → V2.1 166 a = nI (bv a) := fun a ha => by rw [x1 166 (by omega) (by omega) (by omega)]; exact v4 a ha
    rw [ez] at x4
    refine c_nextB (t := z.2.2) (bv := bv) (by omega) (hw.cg (fun b b1 b2 => y1 b (by omega) (by omega) (by omega) (by omega)) y2) hz.1 x4.2.2.1 y4 ?_
    have hnx : fstI (nbP g bv z.2.2) (nA g) = nxF g bv (rtF g bv n q) := by rw [ez]; rfl
    rw [hnx, nI_1]
    rw [bdF] at hres
    rcases nx_cases (g := g) (bv := bv) (R := rtF g bv n q) hA with e | ⟨a, ha, e⟩
    · rw [if_pos e] at hres
      rw [e]
      refine ⟨fun z => absurd rfl z, fun _ => ?_⟩
      refine B_GD_takeBids_19 ⟨fun _ => fin V2 (r + 1) bv y1 y2 y3 y4 hres.symm, fun z => ⟨fun _ => fin V2 (r + 1) bv y1 y2 y3 y4 hres.symm, fun z => absurd z (by decide)⟩⟩
    · rw [if_neg (by rw [e]; exact nI_m1 (by omega)), e, nI_clamp (by omega)] at hres
      rw [e, nI_clamp (by omega), y4 a ha, nI_1]
      refine ⟨fun _ => ⟨vp_in_nI (by omega) (by decide), vp_in_nI (by omega) (by decide), ?_⟩, fun z => absurd z (nI_m1 (by omega))⟩
      refine ih (r + 1) (upN bv a) _ (by omega) (fun b hb' => ?_) hres (fun b b1 b2 b3 b4 => by rw [mI_r b2]; exact y1 b b1 b2 b3 b4) y2 (fun k k1 k2 k3 k4 => by rw [mI_r (by omega)]; exact y3 k k1 k2 k3 k4) (fun b hb' => ?_)
      · have := hb b hb'
        unfold upN
        split <;> omega
      · unfold upN
        by_cases e2 : b = a
        · subst e2; rw [mI_s, if_pos rfl]
        · rw [mI_n (by omega), if_neg e2]; exact y4 b hb'
theorem m_bids {d n q : Nat} {K : Int32 → Mm → Prop} (hd : 15 ≤ d) (hg : HeadOk g) (hok : LifeOk g g) (e6 : u.1 236 = g) (hq : q < nQ g) (hn : n ≤ 8) (h1 : 1 ≤ n) (hb : ∀ a, a < nA g → btF g a ≤ 99 ∧ g (46 + a) = nI (btF g a))
    (hK : ∀ V : Mm, (∀ b, b ≠ 234 → b ≠ 251 → b ≠ 252 → b ≠ 253 → b ≠ 254 → V.1 b = u.1 b) → V.2 = u.2 → (∀ k, k ≠ 0 → k ≠ 37 → k ≠ 38 → k ≠ 39 → V.1 234 k = u.1 234 k) → V.1 234 39 = nI (nA g) → (∀ a, a < nA g → V.1 254 a = nI ((bdF g n q 60 (btF g) 0).2 a)) → K (nI (bdF g n q 60 (btF g) 0).1) V) : CI X d 278 [.ref 234, .int (nI q), .int (nI n)] u K := by
  obtain ⟨d, rfl, hd1⟩ := dpos hd
  have hA := hg.1.2.2.2.2.2.1
  have hQ := hg.1.2.1
  have m3 := hg.1.2.2.2.2.1
  have m0 := hg.1.1
  generalize hres : bdF g n q 60 (btF g) 0 = res at hK
  refine CI_of mk_X13_bids.2.2 rfl (B_M_bids_0 (c_misSquare (n := nQ g) (by omega) (by rw [mI_r (by omega), e6]; exact m0) (by omega) (fun q' hq' e => ⟨fun z => absurd z (by decide), fun _ => c_misIn (by omega) (fun _ _ => ⟨fun _ => ?_, fun z => absurd z (by decide)⟩) (fun x => ?_)⟩) (fun x => (no2 hq (by omega) x).elim)))
  · refine c_mbribes (by omega) fun M1 a1 a2 a3 => ?_
    have fin : ∀ (V : Mm) (r : Nat) (bv : Nat → Nat), (∀ b, b ≠ 234 → b ≠ 251 → b ≠ 252 → b ≠ 253 → V.1 b = u.1 b) → V.2 = u.2 → (∀ k, k ≠ 0 → k ≠ 37 → k ≠ 38 → V.1 234 k = u.1 234 k) → (∀ a, a < nA g → V.1 253 a = nI (bv a)) → res = (r, bv) → VI X d 278 K 65 [some (.ref 234), some (.int (nI q)), some (.int (nI n)), some (.int (nI r)), some (.int 0)] [] (mI V 234 39 (V.1 236 3)) := by
      intro V r bv v1 v2 v3 v4 hr
      refine lupR (n := 8) (W := fun i (V1 : Mm) => VI X d 278 K 65 [some (.ref 234), some (.int (nI q)), some (.int (nI n)), some (.int (nI r)), some (.int (nI i))] [] V1)
        (I := fun i V1 => (∀ b, b ≠ 254 → V1.1 b = (mI V 234 39 (V.1 236 3)).1 b) ∧ V1.2 = u.2 ∧ ∀ k, k < i → V1.1 254 k = V.1 253 k) ?_ _ ⟨fun _ _ => rfl, v2, fun k hk => absurd hk (by omega)⟩
      rintro i V1 hi ⟨i1, i2, i3⟩ ih
      refine B_M_bids_65 ?_
      simp (disch := omega) only [la1, la2, lt1, lt2, nI_add, pk_mul, nI_clamp, vpn, nI_leI, nI_ltI, nI_eq, ll1, ll2, ll3, ll4, le1, le2, true_and, and_true, not_true_eq_false, not_false_eq_true, forall_const, false_implies, implies_true, if_true, if_false, ite_true, ite_false, and_self, false_and, and_false]
      refine ⟨fun x => ?_, fun x => ⟨by omega, by omega, ih (by omega) _ ⟨fun b hb => by rw [mI_r hb]; exact i1 b hb, i2, fun k hk => ?_⟩⟩⟩
      · rw [hr] at hK
        refine hK V1 (fun b b1 b2 b3 b4 b5 => by rw [i1 b b5, mI_r b1]; exact v1 b b1 b2 b3 b4) i2 (fun k k1 k2 k3 k4 => by rw [i1 234 (by omega), mI_n (by omega)]; exact v3 k k1 k2 k3) ?_ (fun a ha => by rw [i3 a (by omega)]; exact v4 a ha)
        rw [i1 234 (by omega), mI_s, v1 236 (by omega) (by omega) (by omega) (by omega), e6]
        exact m3
      · by_cases e : k = i
        · subst e; rw [mI_s, i1 253 (by omega), mI_r (by omega)]
        · rw [mI_n (by omega)]; exact i3 k (by omega)
    suffices hz : ∀ k r (bv : Nat → Nat) (V : Mm), r + (k + 1) = 60 → (∀ a, a < nA g → bv a ≤ 99 + r) → bdF g n q (k + 1) bv r = res → (∀ b, b ≠ 234 → b ≠ 251 → b ≠ 252 → b ≠ 253 → V.1 b = u.1 b) → V.2 = u.2 → (∀ k, k ≠ 0 → k ≠ 37 → k ≠ 38 → V.1 234 k = u.1 234 k) → (∀ a, a < nA g → V.1 253 a = nI (bv a)) → VI X d 278 K 31 [some (.ref 234), some (.int (nI q)), some (.int (nI n)), some (.int (nI (r + 1))), none] [] V from hz 59 0 (btF g) _ (by omega) (fun a ha => by have := (hb a ha).1; omega) hres (fun b b1 b2 b3 b4 => by rw [a1 b b4, mI_r b1]) a2 (fun k k1 _ _ => by rw [a1 234 (by omega), mI_n (by omega)]) (fun a ha => by rw [a3 a (by omega), mI_r (by omega), e6]; exact (hb a ha).2)
    intro k
    induction k with
    | zero =>
      intro r bv V hr60 hbv hres v1 v2 v3 v4
      refine B_M_bids_31 (c_mround (bv := bv) (by omega) hg hok (fun a ha => by have := hbv a ha; omega) hq hn h1 (by rw [v1 236 (by omega) (by omega) (by omega) (by omega)]; exact e6) v4 (fun e V' x1 => ⟨fun _ => ?_, fun z => absurd rfl z⟩) (fun a ha e V' x1 => ⟨fun z => absurd z (by decide), fun _ => ⟨fun _ => ?_, fun z => absurd (nI_le (a := 60) (b := r + 1) (by omega) (by omega)) z⟩⟩))
      · rw [bdF, if_pos e] at hres
        exact fin V' (r + 1) bv (fun b b1 b2 b3 b4 => by rw [x1.1 b b1 b2 b3]; exact v1 b b1 b2 b3 b4) (x1.2.1.trans v2) (fun k k1 k2 k3 => by rw [x1.2.2.1 k k2 k3]; exact v3 k k1 k2 k3) (fun a ha => by rw [x1.1 253 (by omega) (by omega) (by omega)]; exact v4 a ha) hres.symm
      · rw [bdF, if_neg (by rw [e]; exact nI_m1 (by omega)), e, nI_clamp (by omega), bdF] at hres
        refine fin _ (r + 1) (upN bv a) (fun b b1 b2 b3 b4 => by rw [mI_r b4, x1.1 b b1 b2 b3]; exact v1 b b1 b2 b3 b4) (x1.2.1.trans v2) (fun k k1 k2 k3 => by rw [mI_r (by omega), x1.2.2.1 k k2 k3]; exact v3 k k1 k2 k3) (fun b hb' => ?_) hres.symm
        unfold upN
        by_cases e2 : b = a
        · subst e2; rw [mI_s, if_pos rfl]
        · rw [mI_n (by omega), if_neg e2, x1.1 253 (by omega) (by omega) (by omega)]; exact v4 b hb'
    | succ k ih =>
      intro r bv V hr60 hbv hres v1 v2 v3 v4
      refine B_M_bids_31 (c_mround (bv := bv) (by omega) hg hok (fun a ha => by have := hbv a ha; omega) hq hn h1 (by rw [v1 236 (by omega) (by omega) (by omega) (by omega)]; exact e6) v4 (fun e V' x1 => ⟨fun _ => ?_, fun z => absurd rfl z⟩) (fun a ha e V' x1 => ⟨fun z => absurd z (by decide), fun _ => ⟨fun z => absurd z (nI_ge (a := r + 1) (b := 60) (by omega) (by omega)), fun _ => ?_⟩⟩))
      · rw [bdF, if_pos e] at hres
        exact fin V' (r + 1) bv (fun b b1 b2 b3 b4 => by rw [x1.1 b b1 b2 b3]; exact v1 b b1 b2 b3 b4) (x1.2.1.trans v2) (fun k k1 k2 k3 => by rw [x1.2.2.1 k k2 k3]; exact v3 k k1 k2 k3) (fun a ha => by rw [x1.1 253 (by omega) (by omega) (by omega)]; exact v4 a ha) hres.symm
      · rw [bdF, if_neg (by rw [e]; exact nI_m1 (by omega)), e, nI_clamp (by omega)] at hres
        rw [nI_1]
        refine ih (r + 1) (upN bv a) _ (by omega) (fun b hb' => ?_) hres (fun b b1 b2 b3 b4 => by rw [mI_r b4, x1.1 b b1 b2 b3]; exact v1 b b1 b2 b3 b4) (x1.2.1.trans v2) (fun k k1 k2 k3 => by rw [mI_r (by omega), x1.2.2.1 k k2 k3]; exact v3 k k1 k2 k3) (fun b hb' => ?_)
        · have := hbv b hb'
          unfold upN
          split <;> omega
        · unfold upN
          by_cases e2 : b = a
          · subst e2; rw [mI_s, if_pos rfl]
          · rw [mI_n (by omega), if_neg e2, x1.1 253 (by omega) (by omega) (by omega)]; exact v4 b hb'
  · rcases x with x | x
    · exact absurd ((nI_ltI (a := n) (b := 1) (by omega) (by omega)).mp x) (by omega)
    · exact absurd ((nI_ltI (a := 8) (b := n) (by omega) (by omega)).mp x) (by omega)
theorem p_bids {d : Nat} {p1 p2 : Int32} (hd : 16 ≤ d) (h : Rl u) : PairI X d 148 278 [.int p1, .int p2] u := by
  intro K hK
  have hw := h.Wd
  obtain ⟨hg, hc, hok, hr⟩ := h.Wd
  have m0 := hg.1.1
  have hQ := hg.1.2.1
  have hA := hg.1.2.2.2.2.2.1
  obtain ⟨cq, ck, ca, cw⟩ := cityN hg hc
  obtain ⟨d, rfl, hd1⟩ := dpos hd
  have hk : ∀ w, K w w (mI u 234 0 0) := fun w => hK w _ h.th
  have refuse : ((p1 < 0 ∨ nI (nQ (u.1 236)) ≤ p1) ∨ p2 < 1 ∨ 8 < p2) → CI X (d + 1) 278 [.ref 234, .int p1, .int p2] u (fun w2 u2 => K (-1) w2 u2) := by
    intro hb
    refine CI_of mk_X13_bids.2.2 rfl (B_M_bids_0 (c_misSquare (n := nQ (u.1 236)) (by omega) ((mT u 0 0 (by decide)).trans m0) (by omega) (fun q hq e => ⟨fun z => absurd z (by decide), fun _ => c_misIn (by omega) (fun y1 y2 => ?_) (fun _ => ⟨fun z => absurd rfl z, fun _ => hk _⟩)⟩) (fun _ => ⟨fun _ => hk _, fun z => absurd rfl z⟩)))
    rcases hb with hb | hb | hb
    · subst e; exact (no2 hq (by omega) hb).elim
    · exact absurd hb y1
    · exact absurd hb y2
  refine CI_of mk_X12_bids.2.2 rfl (B_S_bids_0 (c_has5 (s := 0) (n := nQ (u.1 236)) (by omega) rfl (by omega) cq (by omega) (fun q hq e => ⟨fun z => absurd z (by decide), fun _ => ⟨fun y => refuse (Or.inr (Or.inl y)), fun y => ⟨fun y2 => ?_, fun y2 => refuse (Or.inr (Or.inr (Int32.not_le.mp y2)))⟩⟩⟩) (fun q => ⟨fun _ => refuse (Or.inl q), fun z => absurd rfl z⟩)))
  subst e
  obtain ⟨n, hn, rfl⟩ := nI_of2 (M := 8) (n := 8) rfl (fun z => y (Int32.lt_trans z (by decide))) y2
  have h1 : 1 ≤ n := by
    have := mt (nI_ltI (a := n) (b := 1) (by omega) (by omega)).mpr y
    omega
  refine c_takeB (by omega) hw hq hn h1 fun S so sl s5 s5' s9 => ?_
  have e236 := so 236 (by omega) (by omega) (by omega) (by omega) (by omega)
  refine m_bids (g := u.1 236) (by omega) hg hok e236 hq hn h1 (fun a ha => ⟨(bt_le hc ha).1, (bt_le hc ha).2.1⟩) fun V1 b1 b2 b3 b4 b5 => ?_
  generalize bdF (u.1 236) n q 60 (btF (u.1 236)) 0 = res at s9 b5
  have i2 : V1.2 = u.2 := b2.trans sl
  have f4 : ∀ k, k ≠ 0 → k ≠ 37 → k ≠ 38 → k ≠ 39 → V1.1 234 k = u.1 234 k := fun k x0 x1 x2 x3 => by rw [b3 k x0 x1 x2 x3, so 234 (by omega) (by omega) (by omega) (by omega) (by omega)]
  have fo : ∀ b, b ≠ 165 → b ≠ 166 → b ≠ 167 → b ≠ 168 → b ≠ 170 → b ≠ 234 → b ≠ 251 → b ≠ 252 → b ≠ 253 → b ≠ 254 → V1.1 b = u.1 b := fun b x1 x2 x3 x4 x5 x6 x7 x8 x9 x10 => by rw [b1 b x6 x7 x8 x9 x10, so b x1 x2 x3 x4 x5]
  have f5 : ∀ k, k ≠ 3 → k ≠ 6 → k ≠ 7 → k ≠ 8 → k ≠ 12 → V1.1 165 k = u.1 165 k := fun k x1 x2 x3 x4 x5 => by rw [b1 165 (by omega) (by omega) (by omega) (by omega) (by omega)]; exact s5 k x1 x2 x3 x4 x5
  have ag : ∀ rel : Nat → Nat → Bool, (∀ b j, b = 166 ∨ b = 167 ∨ b = 168 ∨ b = 170 ∨ b = 251 ∨ b = 252 ∨ b = 253 ∨ b = 254 → rel b j = false) → (∀ j, j = 3 ∨ j = 6 ∨ j = 7 ∨ j = 8 ∨ j = 12 → rel 165 j = false) → (∀ j, j = 0 ∨ j = 37 ∨ j = 38 ∨ j = 39 → rel 234 j = false) → AG rel u V1 := by
    intro rel r1 r2 r3 a j ha
    by_cases e1 : a = 165
    · subst e1
      exact f5 j (by rintro rfl; rw [r2 _ (by omega)] at ha; cases ha) (by rintro rfl; rw [r2 _ (by omega)] at ha; cases ha) (by rintro rfl; rw [r2 _ (by omega)] at ha; cases ha) (by rintro rfl; rw [r2 _ (by omega)] at ha; cases ha) (by rintro rfl; rw [r2 _ (by omega)] at ha; cases ha)
    · by_cases e2 : a = 234
      · subst e2
        exact f4 j (by rintro rfl; rw [r3 _ (by omega)] at ha; cases ha) (by rintro rfl; rw [r3 _ (by omega)] at ha; cases ha) (by rintro rfl; rw [r3 _ (by omega)] at ha; cases ha) (by rintro rfl; rw [r3 _ (by omega)] at ha; cases ha)
      · have hn : ∀ b, (b = 166 ∨ b = 167 ∨ b = 168 ∨ b = 170 ∨ b = 251 ∨ b = 252 ∨ b = 253 ∨ b = 254) → a ≠ b := by
          rintro b hb rfl
          rw [r1 _ j hb] at ha; cases ha
        exact congrFun (fo a e1 (hn _ (by omega)) (hn _ (by omega)) (hn _ (by omega)) (hn _ (by omega)) e2 (hn _ (by omega)) (hn _ (by omega)) (hn _ (by omega)) (hn _ (by omega))) j
  refine hK _ _ (h.kept (ag _ ?_ ?_ ?_) ?_ (ag _ ?_ ?_ ?_) (ag _ ?_ ?_ ?_) (ag _ ?_ ?_ ?_) i2)
  any_goals (rintro b j (rfl | rfl | rfl | rfl | rfl | rfl | rfl | rfl) <;> rfl)
  any_goals (rintro j (rfl | rfl | rfl | rfl | rfl) <;> rfl)
  obtain ⟨k1, k2, k3, k4, k5, k6, k7, k8, k9⟩ := h.2.2.1
  have d165 : V1.1 165 12 = nI (nA (u.1 236)) := by rw [b1 165 (by omega) (by omega) (by omega) (by omega) (by omega)]; exact s5'
  have d170 : ∀ k, k < nA (u.1 236) → V1.1 170 k = V1.1 254 k := fun k hk => by rw [b1 170 (by omega) (by omega) (by omega) (by omega) (by omega), s9 k hk, b5 k hk]
  unfold KeptR
  rw [f4 42 (by omega) (by omega) (by omega) (by omega), f4 43 (by omega) (by omega) (by omega) (by omega), f4 44 (by omega) (by omega) (by omega) (by omega), f4 45 (by omega) (by omega) (by omega) (by omega), f4 46 (by omega) (by omega) (by omega) (by omega), f4 47 (by omega) (by omega) (by omega) (by omega), f4 48 (by omega) (by omega) (by omega) (by omega), f4 41 (by omega) (by omega) (by omega) (by omega), f4 51 (by omega) (by omega) (by omega) (by omega), f4 55 (by omega) (by omega) (by omega) (by omega), f5 10 (by omega) (by omega) (by omega) (by omega) (by omega)]
  simp (disch := omega) only [fo]
  exact ⟨k1, k2, k3, k4, k5, k6, ⟨_, hA, d165, b4, fun k hk => (d170 k hk)⟩, k8, k9⟩
end Bids
