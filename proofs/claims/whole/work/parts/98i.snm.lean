/-! the model reads a sentence -/
def FrU (u V : Mm) : Prop := (∀ b, b ≠ 234 → b ≠ 260 → V.1 b = u.1 b) ∧ (∀ b, b ≠ 234 → V.2 b = u.2 b) ∧ ∀ j, j < 5 ∨ (13 < j ∧ j < 57) ∨ 60 < j → V.1 234 j = u.1 234 j
theorem FrU.rf {u : Mm} : FrU u u := ⟨fun _ _ _ => rfl, fun _ _ => rfl, fun _ _ => rfl⟩
theorem FrU.tr {u v w : Mm} (h : FrU u v) (h2 : FrU v w) : FrU u w := ⟨fun b x1 x2 => (h2.1 b x1 x2).trans (h.1 b x1 x2), fun b x => (h2.2.1 b x).trans (h.2.1 b x), fun j x => (h2.2.2 j x).trans (h.2.2 j x)⟩
theorem FrT.u {u V : Mm} (h : FrT u V) : FrU u V := ⟨fun b x _ => h.1 b x, h.2.1, fun j hj => h.2.2 j (by omega)⟩
theorem FrU.mI {u v : Mm} {j : Nat} {x : Int32} (h : FrU u v) (hj : 57 ≤ j ∧ j ≤ 60) : FrU u (mI v 234 j x) := ⟨fun b x1 x2 => by rw [mI_r x1]; exact h.1 b x1 x2, h.2.1, fun k hk => by rw [mI_n (by omega)]; exact h.2.2 k hk⟩
theorem frUN {u v : Mm} {j : Nat} {x : Int32} (h : FrU u v) : FrU u (mI v 260 j x) := ⟨fun b x1 x2 => by rw [mI_r x2]; exact h.1 b x1 x2, h.2.1, fun k hk => by rw [mI_r (by omega)]; exact h.2.2 k hk⟩
section SnM
variable {X : Xc} {d : Nat} {u : Mm} {f : Nat → Nat} {n m : Nat} {nl : Nat → List Nat} {cQ cK : Nat}
def AmM (V : Mm) (f : Nat → Nat) (n m : Nat) (nl : Nat → List Nat) (cQ cK : Nat) : Prop := EnM V f n m ∧ NmM V 241 0 cQ nl ∧ NmM V 241 8 cK nl ∧ V.1 236 0 = nI cQ ∧ V.1 236 2 = nI cK
theorem AmM.fr {V : Mm} (h : AmM u f n m nl cQ cK) (g : FrU u V) : AmM V f n m nl cQ cK := ⟨⟨h.1.1, h.1.2.1, h.1.2.2.cg (g.1 235 (by omega) (by omega))⟩, h.2.1.cg (g.2.1 241 (by omega)), h.2.2.1.cg (g.2.1 241 (by omega)), by rw [g.1 236 (by omega) (by omega)]; exact h.2.2.2⟩
def ndM (V : Mm) (i : Nat) (x : ND) : Prop := V.1 260 (4 * i) = x.1 ∧ V.1 260 (4 * i + 1) = x.2.1 ∧ V.1 260 (4 * i + 2) = x.2.2.1 ∧ V.1 260 (4 * i + 3) = x.2.2.2
def StM (V : Mm) (f : Nat → Nat) (n m : Nat) (p : PS) (w : Nat) : Prop := RdM V f n m p.1 ∧ V.1 234 57 = nI p.2.2.length ∧ V.1 234 58 = nI p.2.1 ∧ V.1 234 59 = nI w ∧ ∀ i, i < p.2.2.length → ndM V i (gN p.2.2 i)
theorem StM.frT {V : Mm} {p : PS} {ρ : RDS} {w : Nat} (h : StM u f n m p w) (g : FrT u V) (hr : RdM V f n m ρ) : StM V f n m (ρ, p.2) w := ⟨hr, by rw [g.2.2 57 (by omega)]; exact h.2.1, by rw [g.2.2 58 (by omega)]; exact h.2.2.1, by rw [g.2.2 59 (by omega)]; exact h.2.2.2.1, fun i hi => by unfold ndM; rw [g.1 260 (by omega)]; exact h.2.2.2.2 i hi⟩
theorem StM.top {p : PS} {w : Nat} {x : Int32} (h : StM u f n m p w) : StM (mI u 234 60 x) f n m p w := ⟨h.1.cg (fun j hj => by rw [mI_n (by omega)]) rfl, by rw [mI_n (by omega)]; exact h.2.1, by rw [mI_n (by omega)]; exact h.2.2.1, by rw [mI_n (by omega)]; exact h.2.2.2.1, fun i hi => by unfold ndM; rw [mI_r (by omega)]; exact h.2.2.2.2 i hi⟩
theorem StM.wi {p : PS} {w w' : Nat} (h : StM u f n m p w) : StM (mI u 234 59 (nI w')) f n m p w' := ⟨h.1.cg (fun j hj => by rw [mI_n (by omega)]) rfl, by rw [mI_n (by omega)]; exact h.2.1, by rw [mI_n (by omega)]; exact h.2.2.1, mI_s, fun i hi => by unfold ndM; rw [mI_r (by omega)]; exact h.2.2.2.2 i hi⟩
theorem j_says {K : Int32 → Mm → Prop} {p1 p2 p3 p4 : Int32} {p : PS} {w : Nat} (hd : 1 ≤ d) (h : StM u f n m p w) (hl : p.2.2.length < 40) (hK : ∀ V, FrU u V → StM V f n m (p.1, p.2.1, p.2.2 ++ [(p1, p2, p3, p4)]) w → K (nI p.2.2.length) V) : CI X d 308 [.ref 234, .int p1, .int p2, .int p3, .int p4] u K := by
  obtain ⟨d, rfl, -⟩ := dpos hd
  refine CI_of mk_X13_saysOne.2.2 rfl (B_M_saysOne_0 ?_)
  rw [h.2.1, lt1, la2, la2, la2, nI_clamp (show 4 * p.2.2.length < 2 ^ 31 by omega), nI_clamp (show 4 * p.2.2.length + 1 < 2 ^ 31 by omega), nI_clamp (show 4 * p.2.2.length + 2 < 2 ^ 31 by omega), nI_clamp (show 4 * p.2.2.length + 3 < 2 ^ 31 by omega)]
  generalize hj : p.2.2.length = j at *
  have e7 : (mI (mI (mI (mI u 260 (4 * j) p1) 260 (4 * j + 1) p2) 260 (4 * j + 2) p3) 260 (4 * j + 3) p4).1 234 57 = nI j := by
    rw [mI_r (by omega), mI_r (by omega), mI_r (by omega), mI_r (by omega), h.2.1, hj]
  rw [e7, nI_1, mI_s, nI_pred]
  refine ⟨vp_in_nI (by omega) (by decide), vp_in_nI (by omega) (by decide), vp_in_nI (by omega) (by decide), vp_in_nI (by omega) (by decide), hK _ (FrU.mI (j := 57) (frUN (frUN (frUN (frUN FrU.rf)))) (by omega)) ⟨h.1.cg (fun k hk => ?_) rfl, ?_, ?_, ?_, fun i hi => ?_⟩⟩
  · rw [mI_n (by omega), mI_r (by omega), mI_r (by omega), mI_r (by omega), mI_r (by omega)]
  · rw [mI_s, List.length_append, List.length_singleton, hj]
  · rw [mI_n (by omega), mI_r (by omega), mI_r (by omega), mI_r (by omega), mI_r (by omega)]; exact h.2.2.1
  · rw [mI_n (by omega), mI_r (by omega), mI_r (by omega), mI_r (by omega), mI_r (by omega)]; exact h.2.2.2.1
  · rw [List.length_append, List.length_singleton] at hi
    unfold ndM
    rw [mI_r (by omega)]
    by_cases e : i = j
    · subst e
      have hg : gN (p.2.2 ++ [(p1, p2, p3, p4)]) i = (p1, p2, p3, p4) := by rw [← hj]; exact gN_last
      rw [hg]
      refine ⟨?_, ?_, ?_, ?_⟩ <;> simp (disch := omega) only [mI_n, mI_s]
    · rw [gN_app (by omega)]
      obtain ⟨a1, a2, a3, a4⟩ := h.2.2.2.2 i (by omega)
      refine ⟨?_, ?_, ?_, ?_⟩ <;> (simp (disch := omega) only [mI_n]; assumption)
def SpM (X : Xc) (d : Nat) (f : Nat → Nat) (n m : Nat) (nl : Nat → List Nat) (cQ cK M w : Nat) (P : PS → FT ⊕ PS) : Prop := ∀ (V : Mm) (p : PS) (K : Int32 → Mm → Prop), AmM V f n m nl cQ cK → StM V f n m p w → tkOk p.1 n → p.2.1 ≤ 20 → p.2.2.length ≤ 2 * p.2.1 → (∀ e, P p = .inl e → ∀ V', FrU V V' → FtM V' e → K 0 V') → (∀ p', P p = .inr p' → ∀ V', FrU V V' → StM V' f n m p' w → V'.1 234 60 = nI (p'.2.2.length - 1) → K 1 V') → CI X d M [.ref 234] V K
theorem m_readAnd {w : Nat} {one : PS → FT ⊕ PS} (hd : 5 ≤ d) (hP : GP n one) (h : SpM X d f n m nl cQ cK 311 w one) : SpM X (d + 1) f n m nl cQ cK 310 w (jn f n m 13 2 one) := by
  intro V p K hA hS hk ho hl h0 h1
  unfold jn at h0 h1
  refine CI_of mk_X13_readAnd.2.2 rfl (B_M_readAnd_0 ?_)
  refine h V p _ hA hS hk ho hl (fun e he V' v1 v2 => ⟨fun z => absurd rfl z, fun _ => ?_⟩) (fun q he V' v1 v2 v3 => ⟨fun _ => ?_, fun z => absurd z (by decide)⟩)
  · rw [he] at h0
    exact h0 e rfl V' v1 v2
  · rw [he] at h0 h1
    dsimp only [bd] at h0 h1
    have hq := hP p q hk ho hl he
    rw [v3]
    suffices hz : ∀ g i (q : PS) (V' : Mm), g + i = 20 → i < q.2.1 → PG n p q → FrU V V' → StM V' f n m q w → (∀ e, jnL f n m 13 2 one g q = .inl e → ∀ V', FrU V V' → FtM V' e → K 0 V') → (∀ p', jnL f n m 13 2 one g q = .inr p' → ∀ V', FrU V V' → StM V' f n m p' w → V'.1 234 60 = nI (p'.2.2.length - 1) → K 1 V') → VI X d 310 K 14 [some (.ref 234), some (.int (nI (q.2.2.length - 1)))] [] V' from hz 20 0 q V' rfl (by have := hq.2.1; omega) hq v1 v2 h0 h1
    clear h0 h1 he v3 v2 v1 hq
    intro g
    induction g with
    | zero =>
      intro i q V' hg hi hpg
      have := hpg.2.2.1
      omega
    | succ g ih =>
      intro i q V' hg hi hpg v1 v2 h0 h1
      have hpg' := hpg
      obtain ⟨a1, a2, a3, r, a4, a5, a6, -⟩ := hpg'
      have hql : q.2.2.length = p.2.2.length + r.length := by rw [a4, List.length_append]
      have hA' := hA.fr v1
      rw [jnL] at h0 h1
      refine B_M_readAnd_14 ?_
      refine c_misWd (w := 13) (by omega) (by omega) v2.1 a1 (fun z => ⟨fun y => absurd y (by decide), fun _ => ?_⟩) (fun z => ⟨fun _ => ?_, fun y => absurd rfl y⟩)
      · rw [if_pos z] at h0 h1
        refine c_mgo (by omega) hA'.1.1 hA'.1.2.1 hA'.1.2.2 v2.1 (by omega) fun V2 w1 w2 => ?_
        have f2 := v1.tr w1.t.u
        obtain ⟨k1, -⟩ := nx1 (f := f) hA'.1.1 hA'.1.2.1 a1 rfl
        refine h V2 (nxt f n m q.1, q.2) _ (hA.fr f2) (v2.frT w1.t w2) k1 a3 (by dsimp only; omega) (fun e he V3 x1 x2 => ⟨fun y => absurd rfl y, fun _ => ?_⟩) (fun r' he V3 x1 x2 x3 => ⟨fun _ => ?_, fun y => absurd y (by decide)⟩)
        · rw [he] at h0
          exact h0 e rfl V3 (f2.tr x1) x2
        · have hr := hP (nxt f n m q.1, q.2) r' k1 a3 (by dsimp only; omega) he
          obtain ⟨b1, b2, b3, rs, b4, b5, b6, -⟩ := hr
          dsimp only at b2 b4 b5
          have hrl : r'.2.2.length = q.2.2.length + rs.length := by rw [b4, List.length_append]
          have hpg2 : PG n p (r'.1, r'.2.1, r'.2.2 ++ [(nI 2, nI (q.2.2.length - 1), nI (r'.2.2.length - 1), 0)]) := jnL_ok (f := f) (m := m) (wd := 13) (nd := 2) hA'.1.1 hA'.1.2.1 (by omega) hP hl 1 q _ hk hpg (by rw [jnL, if_pos z, he]; rfl)
          rw [he] at h0 h1
          dsimp only [bd] at h0 h1
          rw [x3]
          refine j_says (by omega) x2 (by omega) fun V4 y1 y2 => ?_
          have := ih (i + 1) (r'.1, r'.2.1, r'.2.2 ++ [(nI 2, nI (q.2.2.length - 1), nI (r'.2.2.length - 1), 0)]) V4 (by omega) (by dsimp only; omega) hpg2 ((f2.tr x1).tr y1) y2 h0 h1
          dsimp only at this
          rw [List.length_append, List.length_singleton, Nat.add_sub_cancel] at this
          exact this
      · rw [if_neg z] at h1
        exact h1 _ rfl _ (v1.mI (by omega)) v2.top mI_s
theorem m_readOr {w : Nat} {one : PS → FT ⊕ PS} (hd : 5 ≤ d) (hP : GP n one) (h : SpM X d f n m nl cQ cK 310 w one) : SpM X (d + 1) f n m nl cQ cK 309 w (jn f n m 12 3 one) := by
  intro V p K hA hS hk ho hl h0 h1
  unfold jn at h0 h1
  refine CI_of mk_X13_readOr.2.2 rfl (B_M_readOr_0 ?_)
  refine h V p _ hA hS hk ho hl (fun e he V' v1 v2 => ⟨fun z => absurd rfl z, fun _ => ?_⟩) (fun q he V' v1 v2 v3 => ⟨fun _ => ?_, fun z => absurd z (by decide)⟩)
  · rw [he] at h0
    exact h0 e rfl V' v1 v2
  · rw [he] at h0 h1
    dsimp only [bd] at h0 h1
    have hq := hP p q hk ho hl he
    rw [v3]
    suffices hz : ∀ g i (q : PS) (V' : Mm), g + i = 20 → i < q.2.1 → PG n p q → FrU V V' → StM V' f n m q w → (∀ e, jnL f n m 12 3 one g q = .inl e → ∀ V', FrU V V' → FtM V' e → K 0 V') → (∀ p', jnL f n m 12 3 one g q = .inr p' → ∀ V', FrU V V' → StM V' f n m p' w → V'.1 234 60 = nI (p'.2.2.length - 1) → K 1 V') → VI X d 309 K 14 [some (.ref 234), some (.int (nI (q.2.2.length - 1)))] [] V' from hz 20 0 q V' rfl (by have := hq.2.1; omega) hq v1 v2 h0 h1
    clear h0 h1 he v3 v2 v1 hq
    intro g
    induction g with
    | zero =>
      intro i q V' hg hi hpg
      have := hpg.2.2.1
      omega
    | succ g ih =>
      intro i q V' hg hi hpg v1 v2 h0 h1
      have hpg' := hpg
      obtain ⟨a1, a2, a3, r, a4, a5, a6, -⟩ := hpg'
      have hql : q.2.2.length = p.2.2.length + r.length := by rw [a4, List.length_append]
      have hA' := hA.fr v1
      rw [jnL] at h0 h1
      refine B_M_readOr_14 ?_
      refine c_misWd (w := 12) (by omega) (by omega) v2.1 a1 (fun z => ⟨fun y => absurd y (by decide), fun _ => ?_⟩) (fun z => ⟨fun _ => ?_, fun y => absurd rfl y⟩)
      · rw [if_pos z] at h0 h1
        refine c_mgo (by omega) hA'.1.1 hA'.1.2.1 hA'.1.2.2 v2.1 (by omega) fun V2 w1 w2 => ?_
        have f2 := v1.tr w1.t.u
        obtain ⟨k1, -⟩ := nx1 (f := f) hA'.1.1 hA'.1.2.1 a1 rfl
        refine h V2 (nxt f n m q.1, q.2) _ (hA.fr f2) (v2.frT w1.t w2) k1 a3 (by dsimp only; omega) (fun e he V3 x1 x2 => ⟨fun y => absurd rfl y, fun _ => ?_⟩) (fun r' he V3 x1 x2 x3 => ⟨fun _ => ?_, fun y => absurd y (by decide)⟩)
        · rw [he] at h0
          exact h0 e rfl V3 (f2.tr x1) x2
        · have hr := hP (nxt f n m q.1, q.2) r' k1 a3 (by dsimp only; omega) he
          obtain ⟨b1, b2, b3, rs, b4, b5, b6, -⟩ := hr
          dsimp only at b2 b4 b5
          have hrl : r'.2.2.length = q.2.2.length + rs.length := by rw [b4, List.length_append]
          have hpg2 : PG n p (r'.1, r'.2.1, r'.2.2 ++ [(nI 3, nI (q.2.2.length - 1), nI (r'.2.2.length - 1), 0)]) := jnL_ok (f := f) (m := m) (wd := 12) (nd := 3) hA'.1.1 hA'.1.2.1 (by omega) hP hl 1 q _ hk hpg (by rw [jnL, if_pos z, he]; rfl)
          rw [he] at h0 h1
          dsimp only [bd] at h0 h1
          rw [x3]
          refine j_says (by omega) x2 (by omega) fun V4 y1 y2 => ?_
          have := ih (i + 1) (r'.1, r'.2.1, r'.2.2 ++ [(nI 3, nI (q.2.2.length - 1), nI (r'.2.2.length - 1), 0)]) V4 (by omega) (by dsimp only; omega) hpg2 ((f2.tr x1).tr y1) y2 h0 h1
          dsimp only at this
          rw [List.length_append, List.length_singleton, Nat.add_sub_cancel] at this
          exact this
      · rw [if_neg z] at h1
        exact h1 _ rfl _ (v1.mI (by omega)) v2.top mI_s
theorem j_bad {K : Int32 → Mm → Prop} {k : Nat} {p : PS} {w : Nat} (hd : 1 ≤ d) (hS : StM u f n m p w) (hk : tkOk p.1 n) (h1 : k = 1 ∨ p.1.2.1 ≠ 1) (hK : ∀ V, FrU u V → FtM V (k, p.1.1) → K 0 V) : CI X d 202 [.ref 234, .int (nI k)] u (fun w1 u1 => bz w1 ∧ K w1 u1) := c_mbad hd hS.1 hk h1 fun V v1 v2 => ⟨Or.inl rfl, hK V v1.u v2⟩
theorem j_of {K : Int32 → Mm → Prop} {p : PS} {w v : Nat} (hd : 6 ≤ d) (hA : AmM u f n m nl cQ cK) (hS : StM u f n m p w) (hk : tkOk p.1 n) (hv : v = 18 ∨ v = 19) (hl : p.2.2.length < 40) (h0 : ∀ e, snLeaf f n m nl cQ cK v p = .inl e → ∀ V', FrU u V' → FtM V' e → K 0 V') (h1 : ∀ p', snLeaf f n m nl cQ cK v p = .inr p' → ∀ V', FrU u V' → StM V' f n m p' w → V'.1 234 60 = nI (p'.2.2.length - 1) → K 1 V') : CI X d 314 [.ref 234, .int (nI v)] u K := by
  obtain ⟨d, rfl, hd1⟩ := dpos hd
  refine CI_of mk_X13_readOf.2.2 rfl (B_M_readOf_0 ?_)
  unfold snLeaf at h0 h1
  rw [hA.2.2.2.1, hA.2.2.2.2]
  rcases hv with rfl | rfl
  · rw [if_pos rfl] at h0 h1
    refine ⟨fun z => absurd rfl z, fun _ => ⟨fun z => absurd rfl z, fun _ => ?_⟩⟩
    refine c_mrNamed (base := 8) (by omega) hA.1.1 hA.1.2.1 hA.1.2.2 hA.2.2.1 hS.1 hk (fun e he V3 x1 x2 => ⟨fun y => absurd rfl y, fun _ => ?_⟩) (fun j ρ' hj he V3 x1 x2 x3 => ⟨fun _ => ?_, fun y => absurd y (by decide)⟩)
    · rw [he] at h0
      exact h0 e rfl V3 x1.u x2
    · rw [he] at h1
      rw [x3]
      refine j_says (by omega) (hS.frT x1 x2) hl fun V4 y1 y2 => h1 _ rfl _ ((x1.u.tr y1).mI (by omega)) y2.top ?_
      dsimp only
      rw [mI_s, List.length_append, List.length_singleton, Nat.add_sub_cancel]
  · rw [if_neg (by omega), if_pos rfl] at h0 h1
    refine ⟨fun _ => ⟨fun _ => ?_, fun z => absurd z (by decide)⟩, fun z => absurd z (by decide)⟩
    refine c_mrNamed (base := 0) (by omega) hA.1.1 hA.1.2.1 hA.1.2.2 hA.2.1 hS.1 hk (fun e he V3 x1 x2 => ⟨fun y => absurd rfl y, fun _ => ?_⟩) (fun j ρ' hj he V3 x1 x2 x3 => ⟨fun _ => ?_, fun y => absurd y (by decide)⟩)
    · rw [he] at h0
      exact h0 e rfl V3 x1.u x2
    · rw [he] at h1
      rw [x3]
      refine j_says (by omega) (hS.frT x1 x2) hl fun V4 y1 y2 => h1 _ rfl _ ((x1.u.tr y1).mI (by omega)) y2.top ?_
      dsimp only
      rw [mI_s, List.length_append, List.length_singleton, Nat.add_sub_cancel]
theorem j_cmpT {K : Int32 → Mm → Prop} {p : PS} {w v c : Nat} (hd : 5 ≤ d) (hA : AmM u f n m nl cQ cK) (hS : StM u f n m p w) (hk : tkOk p.1 n) (hv : 20 ≤ v) (hl : p.2.2.length < 40) (hc : p.1.2.1 = 4 ∧ p.1.2.2.1 = c) (hcc : c = 60 ∨ c = 61 ∨ c = 62) (h0 : ∀ e, snLeaf f n m nl cQ cK v p = .inl e → ∀ V', FrU u V' → FtM V' e → K 0 V') (h1 : ∀ p', snLeaf f n m nl cQ cK v p = .inr p' → ∀ V', FrU u V' → StM V' f n m p' w → V'.1 234 60 = nI (p'.2.2.length - 1) → K 1 V') : CV X d 196 [.ref 234] u (fun u2 => CI X d 203 [.ref 234, .int (0 : Int32), .int (999 : Int32)] u2 (fun w3 u3 => (¬ w3 = 0 → CI X d 308 [.ref 234, .int ((50 : Int32) + nI v), .int (0 : Int32), .int (u3.1 234 13), .int (u.1 234 9)] u3 (fun w4 u4 => K 1 (mI u4 234 60 w4))) ∧ (w3 = 0 → K 0 u3))) := by
  unfold snLeaf at h0 h1
  have hr : rCmp f n m p.1 = .inr (p.1.2.2.1, nxt f n m p.1) := by unfold rCmp; rw [if_pos (by omega)]
  rw [if_neg (by omega), if_neg (by omega), if_pos hv, hr] at h0 h1
  dsimp only [bd] at h0 h1
  obtain ⟨k1, -⟩ := nx1 (f := f) (m := m) hA.1.1 hA.1.2.1 hk rfl
  refine c_mgo (by omega) hA.1.1 hA.1.2.1 hA.1.2.2 hS.1 (by omega) fun V2 w1 w2 => ?_
  have hA2 := hA.fr w1.t.u
  rw [hS.1.2.2.2.2.1.2.2.2 hc.1, la1]
  refine c_mrNum (a := 0) (b := 999) (by omega) hA.1.1 hA.1.2.1 hA2.1.2.2 w2 k1 (by omega) (by omega) (fun e he V3 x1 x2 => ⟨fun y => absurd rfl y, fun _ => ?_⟩) (fun x ρ' he V3 x1 x2 x3 => ⟨fun _ => ?_, fun y => absurd y (by decide)⟩)
  · rw [he] at h0
    exact h0 e rfl V3 (w1.t.u.tr x1.u) x2
  · rw [he] at h1
    rw [x3]
    refine j_says (p := (ρ', p.2)) (by omega) ((hS.frT w1.t w2).frT x1 x2) hl fun V4 y1 y2 => h1 _ rfl _ (((w1.t.u.tr x1.u).tr y1).mI (by omega)) y2.top ?_
    dsimp only
    rw [mI_s, List.length_append, List.length_singleton, Nat.add_sub_cancel]
theorem j_cmp {K : Int32 → Mm → Prop} {p : PS} {w v : Nat} (hd : 6 ≤ d) (hA : AmM u f n m nl cQ cK) (hS : StM u f n m p w) (hk : tkOk p.1 n) (hv : 20 ≤ v) (hl : p.2.2.length < 40) (h0 : ∀ e, snLeaf f n m nl cQ cK v p = .inl e → ∀ V', FrU u V' → FtM V' e → K 0 V') (h1 : ∀ p', snLeaf f n m nl cQ cK v p = .inr p' → ∀ V', FrU u V' → StM V' f n m p' w → V'.1 234 60 = nI (p'.2.2.length - 1) → K 1 V') : CI X d 315 [.ref 234, .int (nI v)] u K := by
  obtain ⟨d, rfl, hd1⟩ := dpos hd
  refine CI_of mk_X13_readCompare.2.2 rfl (B_M_readCompare_0 ?_)
  refine c_misSn (c := 60) (by omega) (by omega) hS.1 hk (fun q => ⟨fun _ => j_cmpT hd1 hA hS hk hv hl q (by omega) h0 h1, fun y => absurd y (by decide)⟩) (fun q1 => ⟨fun y => absurd rfl y, fun _ => ?_⟩)
  refine c_misSn (c := 61) (by omega) (by omega) hS.1 hk (fun q => ⟨fun _ => j_cmpT hd1 hA hS hk hv hl q (by omega) h0 h1, fun y => absurd y (by decide)⟩) (fun q2 => ⟨fun y => absurd rfl y, fun _ => ?_⟩)
  refine c_misSn (c := 62) (by omega) (by omega) hS.1 hk (fun q => ⟨fun _ => j_cmpT hd1 hA hS hk hv hl q (by omega) h0 h1, fun y => absurd y (by decide)⟩) (fun q3 => ⟨fun y => absurd rfl y, fun _ => ?_⟩)
  refine j_bad (k := 1) (by omega) hS hk (Or.inl rfl) fun V v1 v2 => h0 _ ?_ V v1 v2
  unfold snLeaf
  have hr : rCmp f n m p.1 = .inl (1, p.1.1) := by unfold rCmp; rw [if_neg (by omega)]
  rw [if_neg (by omega), if_neg (by omega), if_pos hv, hr]
  rfl
def rsTL (X : Xc) (d : Nat) (K : Int32 → Mm → Prop) (v1 v2 : Int32) (U : Mm) : Prop := ((U.1 234 58) = (20 : Int32) → CI X d 202 [.ref 234, .int (4 : Int32)] U (fun w1 u1 => bz w1 ∧ K w1 u1)) ∧ (¬ (U.1 234 58) = (20 : Int32) → (¬ (U.1 234 59) = (8 : Int32) → CV X d 196 [.ref 234] (mI (mI U 234 58 ((U.1 234 58) + 1)) 234 59 (((mI U 234 58 ((U.1 234 58) + 1)).1 234 59) + 1)) (fun u2 => (v1 = 0 → (¬ v2 = (14 : Int32) → ((18 : Int32) ≤ v2 → ((20 : Int32) ≤ v2 → CI X d 315 [.ref 234, .int v2] u2 (fun w3 u3 => bz w3 ∧ K w3 (mI u3 234 59 ((u3.1 234 59) - 1)))) ∧ (¬ (20 : Int32) ≤ v2 → CI X d 314 [.ref 234, .int v2] u2 (fun w4 u4 => bz w4 ∧ K w4 (mI u4 234 59 ((u4.1 234 59) - 1))))) ∧ (¬ (18 : Int32) ≤ v2 → CI X d 308 [.ref 234, .int ((50 : Int32) + v2), .int 0, .int 0, .int 0] u2 (fun w5 u5 => K 1 (mI (mI u5 234 60 w5) 234 59 (((mI u5 234 60 w5).1 234 59) - 1))))) ∧ (v2 = (14 : Int32) → CI X d 312 [.ref 234] u2 (fun w6 u6 => bz w6 ∧ K w6 (mI u6 234 59 ((u6.1 234 59) - 1))))) ∧ (¬ v1 = 0 → CI X d 313 [.ref 234] u2 (fun w7 u7 => bz w7 ∧ K w7 (mI u7 234 59 ((u7.1 234 59) - 1)))))) ∧ ((U.1 234 59) = (8 : Int32) → CI X d 202 [.ref 234, .int (4 : Int32)] U (fun w8 u8 => bz w8 ∧ K w8 u8)))
/-- how a one is found, once its tails are known -/
theorem j_said {K : Int32 → Mm → Prop} {p : PS} {w : Nat} (hd : 5 ≤ d) (hS : StM u f n m p w) (hk : tkOk p.1 n) (hno : begB p.1 = false → ∀ V', FrU u V' → FtM V' (1, p.1.1) → K 0 V')
    (hbr : p.1.2.1 = 4 ∧ p.1.2.2.1 = 40 → rsTL X d K 1 (nI 24) u) (hwd : ∀ v, 14 ≤ v → v ≤ 23 → p.1.2.1 = 2 ∧ wix p.1.2.2.2.1 = v → rsTL X d K 0 (nI v) u) : CI X (d + 1) 311 [.ref 234] u K := by
  refine CI_of mk_X13_readSaid.2.2 rfl (B_M_readSaid_0 ?_)
  refine c_misSn (c := 40) (by omega) (by omega) hS.1 hk (fun q => ?_) (fun q => ?_)
  · suffices hz : VI X d 311 K 10 [some (.ref 234), some (.int 1), some (.int (nI (14 + 0))), none] [] u from hz
    refine lup (n := 10) (W := fun j => VI X d 311 K 10 [some (.ref 234), some (.int 1), some (.int (nI (14 + j))), none] [] u) ?_
    intro j hj ih
    refine B_M_readSaid_10 ⟨fun z => ?_, fun z => ?_⟩
    · have z : 23 < 14 + j := (ll4 (n := 23) (by omega) (by decide)).mp z
      rw [show 14 + j = 24 by omega]
      exact ⟨fun _ => hbr q, fun y => absurd y (by decide)⟩
    · have z : ¬ 23 < 14 + j := mt (ll4 (n := 23) (m := 14 + j) (by omega) (by decide)).mpr z
      refine c_misWd (w := 14 + j) (by omega) (by omega) hS.1 hk (fun y => ?_) (fun y => ⟨fun x => absurd rfl x, fun _ => ?_⟩)
      · omega
      · rw [nI_1]
        exact ih (by omega)
  · suffices hz : (∀ i, i < 0 → ¬ (p.1.2.1 = 2 ∧ wix p.1.2.2.2.1 = 14 + i)) → VI X d 311 K 10 [some (.ref 234), some (.int 0), some (.int (nI (14 + 0))), none] [] u from hz (fun i hi => absurd hi (by omega))
    refine lup (n := 10) (W := fun j => (∀ i, i < j → ¬ (p.1.2.1 = 2 ∧ wix p.1.2.2.2.1 = 14 + i)) → VI X d 311 K 10 [some (.ref 234), some (.int 0), some (.int (nI (14 + j))), none] [] u) ?_
    intro j hj ih hp
    refine B_M_readSaid_10 ⟨fun z => ?_, fun z => ?_⟩
    · have z : 23 < 14 + j := (ll4 (n := 23) (by omega) (by decide)).mp z
      rw [show 14 + j = 24 by omega]
      refine ⟨fun y => absurd rfl y, fun _ => ⟨fun y => absurd y (by decide), fun _ => j_bad (k := 1) (by omega) hS hk (Or.inl rfl) (hno ?_)⟩⟩
      unfold begB
      rw [decide_eq_false q, decide_eq_false]
      · rfl
      · rintro ⟨y1, y2, y3⟩
        exact hp (wix p.1.2.2.2.1 - 14) (by omega) ⟨y1, by omega⟩
    · have z : ¬ 23 < 14 + j := mt (ll4 (n := 23) (m := 14 + j) (by omega) (by decide)).mpr z
      refine c_misWd (w := 14 + j) (by omega) (by omega) hS.1 hk (fun y => ⟨fun _ => ⟨fun x => absurd rfl x, fun _ => ⟨fun _ => hwd (14 + j) (by omega) (by omega) y, fun x => absurd (nI_le (a := 14 + j) (b := 23) (by omega) (by omega)) x⟩⟩, fun x => absurd x (by decide)⟩) (fun y => ⟨fun x => absurd rfl x, fun _ => ?_⟩)
      rw [nI_1]
      refine ih (by omega) fun i hi => ?_
      by_cases e : i = j
      · subst e; exact y
      · exact hp i (by omega)
theorem m_one (hQ : cQ < 1000) (hKK : cK < 1000) : ∀ L w d, w + L = 8 → 9 + 4 * L ≤ d → SpM X d f n m nl cQ cK 311 w (oneF f n m nl cQ cK L) := by
  intro L
  induction L with
  | zero =>
    intro w d hw hd V p K hA hS hk ho hl h0 h1
    obtain ⟨d, rfl, hd1⟩ := dpos (n := 8) (by omega)
    rw [oneF_0] at h0
    unfold one0 at h0
    have tl : ∀ v1 v2, begB p.1 = true → p.1.2.1 ≠ 1 → rsTL X d K v1 v2 V := by
      intro v1 v2 hb hne
      rw [if_pos hb] at h0
      unfold rsTL
      rw [hS.2.2.2.1, show w = 8 by omega]
      exact ⟨fun _ => j_bad (k := 4) (by omega) hS hk (Or.inr hne) (h0 _ rfl), fun _ => ⟨fun z => absurd rfl z, fun _ => j_bad (k := 4) (by omega) hS hk (Or.inr hne) (h0 _ rfl)⟩⟩
    refine j_said (by omega) hS hk (fun hb => ?_) (fun q => tl _ _ ?_ (by omega)) (fun v v1 v2 q => tl _ _ ?_ (by omega))
    · rw [if_neg (by rw [hb]; decide)] at h0
      exact h0 _ rfl
    · unfold begB; rw [decide_eq_true q]; rfl
    · unfold begB; rw [decide_eq_true (show p.1.2.1 = 2 ∧ 14 ≤ wix p.1.2.2.2.1 ∧ wix p.1.2.2.2.1 ≤ 23 by omega), Bool.or_true]
  | succ L ih =>
    intro w d hw hd V p K hA hS hk ho hl h0 h1
    obtain ⟨d, rfl, hd1⟩ := dpos (d := d) (n := 12 + 4 * L) (by omega)
    have hGP := oneF_ok (f := f) (n := n) (m := m) (nl := nl) (cQ := cQ) (cK := cK) hA.1.1 hA.1.2.1 hQ hKK L
    obtain ⟨k1, -⟩ := nx1 (f := f) (m := m) hA.1.1 hA.1.2.1 hk rfl
    rw [oneF_s] at h0 h1
    unfold oneS at h0 h1
    /- the tail: v1 tells a bracket, v the word -/
    have tl : ∀ (v1 : Int32) (v : Nat), begB p.1 = true → p.1.2.1 ≠ 1 → v ≤ 24 → (¬ p.2.1 = 20 → ∀ V2, FrU V V2 → StM V2 f n m (nxt f n m p.1, p.2.1 + 1, p.2.2) (w + 1) → (v1 = 0 → (¬ nI v = (14 : Int32) → ((18 : Int32) ≤ nI v → ((20 : Int32) ≤ nI v → CI X d 315 [.ref 234, .int (nI v)] V2 (fun w3 u3 => bz w3 ∧ K w3 (mI u3 234 59 ((u3.1 234 59) - 1)))) ∧ (¬ (20 : Int32) ≤ nI v → CI X d 314 [.ref 234, .int (nI v)] V2 (fun w4 u4 => bz w4 ∧ K w4 (mI u4 234 59 ((u4.1 234 59) - 1))))) ∧ (¬ (18 : Int32) ≤ nI v → CI X d 308 [.ref 234, .int ((50 : Int32) + nI v), .int 0, .int 0, .int 0] V2 (fun w5 u5 => K 1 (mI (mI u5 234 60 w5) 234 59 (((mI u5 234 60 w5).1 234 59) - 1))))) ∧ (nI v = (14 : Int32) → CI X d 312 [.ref 234] V2 (fun w6 u6 => bz w6 ∧ K w6 (mI u6 234 59 ((u6.1 234 59) - 1))))) ∧ (¬ v1 = 0 → CI X d 313 [.ref 234] V2 (fun w7 u7 => bz w7 ∧ K w7 (mI u7 234 59 ((u7.1 234 59) - 1))))) → rsTL X d K v1 (nI v) V := by
      intro v1 v hb hne hv hT
      rw [if_pos hb] at h0
      unfold rsTL
      rw [hS.2.2.1, hS.2.2.2.1, nI_1]
      refine ⟨fun z => ?_, fun z => ⟨fun z2 => ?_, fun z2 => ?_⟩⟩
      · have z : p.2.1 = 20 := (le1 (n := 20) (by omega) (by decide)).mp z
        rw [if_pos z] at h0
        exact j_bad (k := 4) (by omega) hS hk (Or.inr hne) (h0 _ rfl)
      · have z : ¬ p.2.1 = 20 := fun q => z (by rw [q]; rfl)
        have e9 : (mI V 234 58 (nI (p.2.1 + 1))).1 234 59 = nI w := by rw [mI_n (by omega)]; exact hS.2.2.2.1
        rw [e9, nI_1]
        have f1 : FrU V (mI (mI V 234 58 (nI (p.2.1 + 1))) 234 59 (nI (w + 1))) := (FrU.rf.mI (by omega)).mI (by omega)
        have hS1 : StM (mI (mI V 234 58 (nI (p.2.1 + 1))) 234 59 (nI (w + 1))) f n m (p.1, p.2.1 + 1, p.2.2) (w + 1) := by
          refine ⟨hS.1.cg (fun j hj => ?_) rfl, ?_, ?_, mI_s, fun i hi => ?_⟩
          · rw [mI_n (by omega), mI_n (by omega)]
          · rw [mI_n (by omega), mI_n (by omega)]; exact hS.2.1
          · rw [mI_n (by omega), mI_s]
          · unfold ndM; rw [mI_r (by omega), mI_r (by omega)]; exact hS.2.2.2.2 i hi
        have hA1 := hA.fr f1
        refine c_mgo (by omega) hA.1.1 hA.1.2.1 hA1.1.2.2 hS1.1 hne fun V2 y1 y2 => ?_
        exact hT z V2 (f1.tr y1.t.u) (hS1.frT y1.t y2)
      · have z2 : w = 8 := (le1 (n := 8) (by omega) (by decide)).mp z2
        omega
    have wm : ∀ (V3 : Mm) (p' : PS), StM V3 f n m p' (w + 1) → (V3.1 234 59) - 1 = nI w := fun V3 p' h3 => by rw [h3.2.2.2.1, nI_pred]
    have wmF : ∀ (V3 : Mm) (e : FT) (x : Int32), FtM V3 e → FtM (mI V3 234 59 x) e := fun V3 e x h3 => ⟨by rw [mI_n (by omega)]; exact h3.1, by rw [mI_n (by omega)]; exact h3.2⟩
    refine j_said (by omega) hS hk (fun hb => ?_) (fun q => ?_) (fun v v1 v2 q => ?_)
    · rw [if_neg (by rw [hb]; decide)] at h0
      exact h0 _ rfl
    · have hb : begB p.1 = true := by unfold begB; rw [decide_eq_true q]; rfl
      refine tl 1 24 hb (by omega) (by omega) fun z V2 f2 s2 => ⟨fun y => absurd y (by decide), fun _ => ?_⟩
      rw [if_pos hb, if_neg z, if_pos q.1] at h0 h1
      obtain ⟨d1, rfl, hd2⟩ := dpos (d := d) (n := 11 + 4 * L) (by omega)
      obtain ⟨d2, rfl, hd3⟩ := dpos (d := d1) (n := 10 + 4 * L) (by omega)
      obtain ⟨d3, rfl, hd4⟩ := dpos (d := d2) (n := 9 + 4 * L) (by omega)
      have hc := condF_ok (f := f) (m := m) hA.1.1 hA.1.2.1 hGP
      have hsp := m_readOr (X := X) (d := d3 + 1) (w := w + 1) (by omega) (jn_ok (f := f) (m := m) (wd := 13) (nd := 2) hA.1.1 hA.1.2.1 (Or.inl rfl) hGP) (m_readAnd (X := X) (d := d3) (nl := nl) (cQ := cQ) (cK := cK) (w := w + 1) (by omega) hGP (ih (w + 1) d3 (by omega) hd4))
      refine CI_of mk_X13_readBracket.2.2 rfl (B_M_readBracket_0 ?_)
      refine hsp V2 (nxt f n m p.1, p.2.1 + 1, p.2.2) _ (hA.fr f2) s2 k1 (by dsimp only; omega) (by dsimp only; omega) (fun e he V3 x1 x2 => ⟨fun y => absurd rfl y, fun _ => ?_⟩) (fun q' he V3 x1 x2 x3 => ⟨fun _ => ?_, fun y => absurd y (by decide)⟩)
      · have he : condF f n m (oneF f n m nl cQ cK L) (nxt f n m p.1, p.2.1 + 1, p.2.2) = .inl e := he
        rw [he] at h0
        exact ⟨Or.inl rfl, h0 e rfl _ ((f2.tr x1).mI (by omega)) (wmF _ _ _ x2)⟩
      · have he : condF f n m (oneF f n m nl cQ cK L) (nxt f n m p.1, p.2.1 + 1, p.2.2) = .inr q' := he
        obtain ⟨b1, b2, b3, rs, b4, b5, b6, -⟩ := hc _ q' k1 (by dsimp only; omega) (by dsimp only; omega) he
        rw [he] at h0 h1
        dsimp only [bd] at h0 h1
        have f3 := f2.tr x1
        have hA3 := hA.fr f3
        unfold rSgn at h0 h1
        refine c_misSn (c := 41) (by omega) (by omega) x2.1 b1 (fun y => ⟨fun _ => ?_, fun x => absurd x (by decide)⟩) (fun y => ⟨fun x => absurd rfl x, fun _ => ?_⟩)
        · rw [if_pos y] at h1
          refine c_mgo (by omega) hA.1.1 hA.1.2.1 hA3.1.2.2 x2.1 (by omega) fun V4 y1 y2 => ⟨Or.inr rfl, ?_⟩
          have s4 := x2.frT y1.t y2
          rw [wm V4 _ s4]
          refine h1 _ rfl _ ((f3.tr y1.t.u).mI (by omega)) s4.wi ?_
          rw [mI_n (by omega), y1.2.2 60 (by omega)]; exact x3
        · rw [if_neg y] at h0
          refine c_mbad (k := 1) (by omega) x2.1 b1 (Or.inl rfl) fun V4 y1 y2 => ⟨Or.inl rfl, Or.inl rfl, h0 _ rfl _ ((f3.tr y1.u).mI (by omega)) (wmF _ _ _ y2)⟩
    · have hb : begB p.1 = true := by unfold begB; rw [decide_eq_true (show p.1.2.1 = 2 ∧ 14 ≤ wix p.1.2.2.2.1 ∧ wix p.1.2.2.2.1 ≤ 23 by omega), Bool.or_true]
      refine tl 0 v hb (by omega) (by omega) fun z V2 f2 s2 => ⟨fun _ => ?_, fun y => absurd rfl y⟩
      rw [if_pos hb, if_neg z, if_neg (by omega), q.2] at h0 h1
      refine ⟨fun y => ?_, fun y => ?_⟩
      · have y : ¬ v = 14 := fun x => y (by rw [x]; rfl)
        rw [if_neg y] at h0 h1
        refine ⟨fun y2 => ⟨fun y3 => ?_, fun y3 => ?_⟩, fun y2 => ?_⟩
        · have y3 : 20 ≤ v := (ll2 (n := 20) (by omega) (by decide)).mp y3
          refine j_cmp (p := (nxt f n m p.1, p.2.1 + 1, p.2.2)) (by omega) (hA.fr f2) s2 k1 y3 (by dsimp only; omega) (fun e he V3 x1 x2 => ⟨Or.inl rfl, h0 e he _ ((f2.tr x1).mI (by omega)) (wmF _ _ _ x2)⟩) (fun p' he V3 x1 x2 x3 => ⟨Or.inr rfl, ?_⟩)
          rw [wm V3 _ x2]
          exact h1 p' he _ ((f2.tr x1).mI (by omega)) x2.wi (by rw [mI_n (by omega)]; exact x3)
        · have y2 : 18 ≤ v := (ll2 (n := 18) (by omega) (by decide)).mp y2
          have y3 : ¬ 20 ≤ v := mt (ll2 (n := 20) (m := v) (by omega) (by decide)).mpr y3
          refine j_of (p := (nxt f n m p.1, p.2.1 + 1, p.2.2)) (by omega) (hA.fr f2) s2 k1 (by omega) (by dsimp only; omega) (fun e he V3 x1 x2 => ⟨Or.inl rfl, h0 e he _ ((f2.tr x1).mI (by omega)) (wmF _ _ _ x2)⟩) (fun p' he V3 x1 x2 x3 => ⟨Or.inr rfl, ?_⟩)
          rw [wm V3 _ x2]
          exact h1 p' he _ ((f2.tr x1).mI (by omega)) x2.wi (by rw [mI_n (by omega)]; exact x3)
        · have y2 : ¬ 18 ≤ v := mt (ll2 (n := 18) (m := v) (by omega) (by decide)).mpr y2
          unfold snLeaf at h1
          rw [if_neg (by omega), if_neg (by omega), if_neg (by omega)] at h1
          rw [la1]
          refine j_says (by omega) s2 (by dsimp only; omega) fun V4 y1 y4 => ?_
          rw [wm _ _ (y4.top (x := nI p.2.2.length))]
          refine h1 _ rfl _ (((f2.tr y1).mI (by omega)).mI (by omega)) y4.top.wi ?_
          dsimp only
          rw [mI_n (by omega), mI_s, List.length_append, List.length_singleton, Nat.add_sub_cancel]
      · have y : v = 14 := (le1 (n := 14) (by omega) (by decide)).mp y
        rw [if_pos y] at h0 h1
        obtain ⟨d1, rfl, hd2⟩ := dpos (d := d) (n := 11 + 4 * L) (by omega)
        refine CI_of mk_X13_readNot.2.2 rfl (B_M_readNot_0 ?_)
        refine ih (w + 1) d1 (by omega) (by omega) V2 (nxt f n m p.1, p.2.1 + 1, p.2.2) _ (hA.fr f2) s2 k1 (by dsimp only; omega) (by dsimp only; omega) (fun e he V3 x1 x2 => ⟨fun y => absurd rfl y, fun _ => ?_⟩) (fun q' he V3 x1 x2 x3 => ⟨fun _ => ?_, fun y => absurd y (by decide)⟩)
        · rw [he] at h0
          exact ⟨Or.inl rfl, h0 e rfl _ ((f2.tr x1).mI (by omega)) (wmF _ _ _ x2)⟩
        · obtain ⟨b1, b2, b3, rs, b4, b5, b6, -⟩ := hGP _ q' k1 (by dsimp only; omega) (by dsimp only; omega) he
          dsimp only at b2 b4 b5
          have hrl : q'.2.2.length = p.2.2.length + rs.length := by rw [b4, List.length_append]
          rw [he] at h1
          rw [x3]
          refine j_says (by omega) x2 (by omega) fun V4 y1 y4 => ⟨Or.inr rfl, ?_⟩
          rw [wm _ _ (y4.top (x := nI q'.2.2.length))]
          refine h1 _ rfl _ ((((f2.tr x1).tr y1).mI (by omega)).mI (by omega)) y4.top.wi ?_
          dsimp only
          rw [mI_n (by omega), mI_s, List.length_append, List.length_singleton, Nat.add_sub_cancel]
end SnM
