/-! the system reads a sentence -/
def encN (x : ND) : Int32 × Int32 × Int32 := if x.1 = 1 then (14, 0, 0) else if x.1 = 2 then (13, 0, 0) else if x.1 = 3 then (12, 0, 0) else (x.1 - 50, if x.1 < 70 then x.2.1 else x.2.2.2, x.2.2.1)
theorem enc_lf {w : Nat} {a b r : Int32} (h1 : 65 ≤ w) (h2 : w ≤ 73) : encN (nI w, a, b, r) = (nI (w - 50), if w < 70 then a else r, b) := by
  unfold encN
  dsimp only
  rw [if_neg (fun q => absurd ((le1 (n := 1) (by omega) (by decide)).mp q) (by show ¬ w = 1; omega)), if_neg (fun q => absurd ((le1 (n := 2) (by omega) (by decide)).mp q) (by show ¬ w = 2; omega)), if_neg (fun q => absurd ((le1 (n := 3) (by omega) (by decide)).mp q) (by show ¬ w = 3; omega)), show nI w - (50 : Int32) = nI (w - 50) from pk_sub (b := 50) (by omega)]
  by_cases h : w < 70
  · rw [if_pos h, if_pos ((ll3 (n := 70) (by omega) (by decide)).mpr h)]
  · rw [if_neg h, if_neg (mt (ll3 (n := 70) (m := w) (by omega) (by decide)).mp h)]
def FrS (u V : Mm) : Prop := (∀ b, b ≠ 1 → ¬ (154 ≤ b ∧ b ≤ 158) → V.1 b = u.1 b) ∧ ∀ b, b ≠ 1 → V.2 b = u.2 b
theorem FrS.rf {u : Mm} : FrS u u := ⟨fun _ _ _ => rfl, fun _ _ => rfl⟩
theorem FrS.tr {u v w : Mm} (h : FrS u v) (h2 : FrS v w) : FrS u w := ⟨fun b x1 x2 => (h2.1 b x1 x2).trans (h.1 b x1 x2), fun b x => (h2.2 b x).trans (h.2 b x)⟩
theorem Fr1.s {u V : Mm} (h : Fr1 u V) : FrS u V := ⟨fun b x _ => h.1 b x, h.2⟩
theorem FrS.mI {u v : Mm} {a j : Nat} {x : Int32} (h : FrS u v) (ha : 154 ≤ a ∧ a ≤ 158) : FrS u (mI v a j x) := ⟨fun b x1 x2 => by rw [mI_r (by omega)]; exact h.1 b x1 x2, h.2⟩
section SnC
variable {X : Xc} {d : Nat} {u : Mm} {f : Nat → Nat} {n m : Nat} {nl : Nat → List Nat} {cQ cK : Nat}
def AmC (V : Mm) (f : Nat → Nat) (n m : Nat) (nl : Nat → List Nat) (cQ cK : Nat) : Prop := En V f n m ∧ NmC V 5 0 0 cQ nl ∧ NmC V 5 1 8 cK nl
theorem AmC.fr {V : Mm} (h : AmC u f n m nl cQ cK) (g : FrS u V) : AmC V f n m nl cQ cK := ⟨⟨h.1.1, h.1.2.1, h.1.2.2.1.cg (g.1 2 (by omega) (by omega)), h.1.2.2.2.congr (g.2 3 (by omega))⟩, h.2.1.cg (g.1 7 (by omega) (by omega)) (g.2 6 (by omega)), h.2.2.cg (g.1 7 (by omega) (by omega)) (g.2 6 (by omega))⟩
def StC (V : Mm) (f : Nat → Nat) (n m : Nat) (p : PS) : Prop := RdC V f n m p.1 ∧ V.1 154 3 = nI p.2.1 ∧ V.1 155 0 = nI p.2.2.length ∧ ∀ i, i < p.2.2.length → (V.1 156 i, V.1 157 i, V.1 158 i) = encN (gN p.2.2 i)
def DdC (V : Mm) (e : FT) : Prop := FtC V e ∧ (∃ j, j ≤ 40 ∧ V.1 155 0 = nI j)
theorem StC.fr1 {V : Mm} {p : PS} {ρ : RDS} (h : StC u f n m p) (g : Fr1 u V) (hr : RdC V f n m ρ) : StC V f n m (ρ, p.2) := ⟨hr, by rw [g.1 154 (by omega)]; exact h.2.1, by rw [g.1 155 (by omega)]; exact h.2.2.1, fun i hi => by rw [g.1 156 (by omega), g.1 157 (by omega), g.1 158 (by omega)]; exact h.2.2.2 i hi⟩
theorem StC.dd {V : Mm} {p : PS} {e : FT} (h : StC u f n m p) (hl : p.2.2.length ≤ 40) (g : Fr1 u V) (hf : FtC V e) : DdC V e := ⟨hf, p.2.2.length, hl, by rw [g.1 155 (by omega)]; exact h.2.2.1⟩
theorem c_addC {K : Mm → Prop} {p1 p2 p3 : Int32} {j : Nat} (hd : 1 ≤ d) (e : u.1 155 0 = nI j) (hj : j < 40) (hK : K (mI (mI (mI (mI u 156 j p1) 157 j p2) 158 j p3) 155 0 (nI (j + 1)))) : CV X d 88 [.ref 155, .int p1, .int p2, .int p3] u K := by
  obtain ⟨d, rfl, -⟩ := dpos hd
  refine CV_of mk_X8_add.2.2 rfl (B_Z155_add_0 ?_)
  have cj : (nI j).toNatClampNeg = j := nI_clamp (by omega)
  have vj : vp_in (nI j) 40 := vp_in_nI hj (by decide)
  rw [e, cj]
  have e1 : (mI u 156 j p1).1 155 0 = nI j := by rw [mI_r (by omega)]; exact e
  rw [e1, cj]
  have e2 : (mI (mI u 156 j p1) 157 j p2).1 155 0 = nI j := by rw [mI_r (by omega)]; exact e1
  rw [e2, cj]
  have e3 : (mI (mI (mI u 156 j p1) 157 j p2) 158 j p3).1 155 0 = nI j := by rw [mI_r (by omega)]; exact e2
  rw [e3, nI_1]
  exact ⟨fun z => absurd z (nI_ge (a := j) (b := 40) hj (by omega)), fun _ => ⟨vj, vj, vj, hK⟩⟩
theorem k_add {K : Mm → Prop} {p1 p2 p3 : Int32} {p : PS} {x : ND} (hd : 1 ≤ d) (h : StC u f n m p) (hl : p.2.2.length < 40) (hx : encN x = (p1, p2, p3)) (hK : ∀ V, FrS u V → StC V f n m (p.1, p.2.1, p.2.2 ++ [x]) → K V) : CV X d 88 [.ref 155, .int p1, .int p2, .int p3] u K := by
  refine c_addC hd h.2.2.1 hl (hK _ ((((FrS.rf.mI (by omega)).mI (by omega)).mI (by omega)).mI (by omega)) ⟨h.1.cg ?_ rfl, ?_, ?_, fun i hi => ?_⟩)
  · simp (disch := omega) only [mI_r]
  · rw [mI_r (by omega), mI_r (by omega), mI_r (by omega), mI_r (by omega)]; exact h.2.1
  · rw [mI_s, List.length_append, List.length_singleton]
  · rw [List.length_append, List.length_singleton] at hi
    by_cases e : i = p.2.2.length
    · subst e
      rw [gN_last, hx]
      simp (disch := omega) only [mI_r, mI_s]
    · rw [gN_app (by omega), ← h.2.2.2 i (by omega)]
      simp (disch := omega) only [mI_r, mI_n]
theorem f_add {K : Mm → Prop} {p1 p2 p3 : Int32} {e : FT} (hd : 1 ≤ d) (h : DdC u e) (hK : ∀ V, FrS u V → DdC V e → K V) : CV X d 88 [.ref 155, .int p1, .int p2, .int p3] u K := by
  obtain ⟨hf, j, hj, ej⟩ := h
  by_cases h40 : j < 40
  · refine c_addC hd ej h40 (hK _ ((((FrS.rf.mI (by omega)).mI (by omega)).mI (by omega)).mI (by omega)) ⟨hf.cg ?_, j + 1, by omega, mI_s⟩)
    simp (disch := omega) only [mI_r]
  · obtain ⟨d, rfl, -⟩ := dpos hd
    refine CV_of mk_X8_add.2.2 rfl (B_Z155_add_0 ?_)
    rw [ej]
    exact ⟨fun _ => hK u FrS.rf ⟨hf, j, hj, ej⟩, fun z => absurd (nI_le (a := 40) (b := j) (by omega) (by omega)) z⟩
/-- a method that reads by P -/
def SpC (X : Xc) (d : Nat) (f : Nat → Nat) (n m : Nat) (nl : Nat → List Nat) (cQ cK M w : Nat) (P : PS → FT ⊕ PS) : Prop := ∀ (V : Mm) (p : PS) (K : Mm → Prop), AmC V f n m nl cQ cK → StC V f n m p → tkOk p.1 n → p.2.1 ≤ 20 → p.2.2.length ≤ 2 * p.2.1 → (∀ e, P p = .inl e → ∀ V', FrS V V' → DdC V' e → K V') → (∀ p', P p = .inr p' → ∀ V', FrS V V' → StC V' f n m p' → K V') → CV X d M [.ref 154, .int (nI w)] V K
theorem k_readAll {w : Nat} {one : PS → FT ⊕ PS} (hd : 5 ≤ d) (hP : GP n one) (h : SpC X d f n m nl cQ cK 97 w one) : SpC X (d + 1) f n m nl cQ cK 96 w (jn f n m 13 2 one) := by
  intro V p K hA hS hk ho hl h0 h1
  unfold jn at h0 h1
  refine CV_of mk_X9_readAll.2.2 rfl (B_SR_readAll_0 ?_)
  have dead : ∀ (e : FT) (i : Int32) (V' : Mm), (∀ V', FrS V V' → DdC V' e → K V') → FrS V V' → DdC V' e → VV X d 96 K 7 [some (.ref 154), some (.int (nI w)), some (.int i)] [] V' := by
    intro e i V' hh x1 x2
    exact B_SR_readAll_7 ⟨fun _ => hh V' x1 x2, fun _ => ⟨fun _ => hh V' x1 x2, fun q => absurd q x2.1.ne⟩⟩
  refine h V p _ hA hS hk ho hl (fun e he V' v1 v2 => ?_) (fun q he V' v1 v2 => ?_)
  · rw [he] at h0
    exact dead e 0 V' (h0 e rfl) v1 v2
  · rw [he] at h0 h1
    dsimp only [bd] at h0 h1
    have hq := hP p q hk ho hl he
    suffices hz : ∀ g i (q : PS) (V' : Mm), g + i = 20 → i < q.2.1 → PG n p q → FrS V V' → StC V' f n m q → (∀ e, jnL f n m 13 2 one g q = .inl e → ∀ V', FrS V V' → DdC V' e → K V') → (∀ p', jnL f n m 13 2 one g q = .inr p' → ∀ V', FrS V V' → StC V' f n m p' → K V') → VV X d 96 K 7 [some (.ref 154), some (.int (nI w)), some (.int (nI i))] [] V' from hz 20 0 q V' rfl (by have := hq.2.1; omega) hq v1 v2 h0 h1
    clear h0 h1 he v2 v1 hq
    intro g
    induction g with
    | zero =>
      intro i q V' hg hi hpg
      have := hpg.2.2.1
      omega
    | succ g ih =>
      intro i q V' hg hi hpg v1 v2 h0 h1
      have hpg' := hpg
      obtain ⟨a1, a2, a3, r, a4, a5, a6, -⟩ := hpg'
      have hql : q.2.2.length = p.2.2.length + r.length := by rw [a4, List.length_append]
      have hA' := hA.fr v1
      rw [jnL] at h0 h1
      refine B_SR_readAll_7 ?_
      rw [v2.1.2.1]
      refine ⟨fun z => absurd z (nI_ge (a := i) (b := 20) (by omega) (by omega)), fun _ => ⟨fun z => absurd rfl z, fun _ => ?_⟩⟩
      refine c_isWd (c := 13) (by omega) v2.1 a1 (by omega) (fun z => ⟨fun y => absurd y (by decide), fun _ => ?_⟩) (fun z => ⟨fun _ => ?_, fun y => absurd rfl y⟩)
      · rw [if_pos z] at h0 h1
        refine c_step (by omega) hA'.1.1 hA'.1.2.1 hA'.1.2.2.1 hA'.1.2.2.2 v2.1 (by omega) fun V2 w1 w2 => ?_
        have f2 := v1.tr w1.s
        obtain ⟨k1, -⟩ := nx1 (f := f) hA'.1.1 hA'.1.2.1 a1 rfl
        refine h V2 (nxt f n m q.1, q.2) _ (hA.fr f2) (v2.fr1 w1 w2) k1 a3 (by dsimp only; omega) (fun e he V3 x1 x2 => ?_) (fun r' he V3 x1 x2 => ?_)
        · rw [he] at h0
          exact f_add (by omega) x2 fun V4 y1 y2 => dead e _ V4 (h0 e rfl) ((f2.tr x1).tr y1) y2
        · have hr := hP (nxt f n m q.1, q.2) r' k1 a3 (by dsimp only; omega) he
          obtain ⟨b1, b2, b3, rs, b4, b5, b6, -⟩ := hr
          dsimp only at b2 b4 b5
          have hrl : r'.2.2.length = q.2.2.length + rs.length := by rw [b4, List.length_append]
          have hpg2 : PG n p (r'.1, r'.2.1, r'.2.2 ++ [(nI 2, nI (q.2.2.length - 1), nI (r'.2.2.length - 1), 0)]) := jnL_ok (f := f) (m := m) (wd := 13) (nd := 2) hA'.1.1 hA'.1.2.1 (by omega) hP hl 1 q _ hk hpg (by rw [jnL, if_pos z, he]; rfl)
          rw [he] at h0 h1
          dsimp only [bd] at h0 h1
          refine k_add (x := (nI 2, nI (q.2.2.length - 1), nI (r'.2.2.length - 1), 0)) (by omega) x2 (by omega) rfl fun V4 y1 y2 => ?_
          rw [nI_1]
          exact ih (i + 1) _ V4 (by omega) (by dsimp only; omega) hpg2 ((f2.tr x1).tr y1) y2 h0 h1
      · rw [if_neg z] at h1
        exact h1 _ rfl V' v1 v2
theorem k_readCond {w : Nat} {one : PS → FT ⊕ PS} (hd : 5 ≤ d) (hP : GP n one) (h : SpC X d f n m nl cQ cK 96 w one) : SpC X (d + 1) f n m nl cQ cK 95 w (jn f n m 12 3 one) := by
  intro V p K hA hS hk ho hl h0 h1
  unfold jn at h0 h1
  refine CV_of mk_X9_readCond.2.2 rfl (B_SR_readCond_0 ?_)
  have dead : ∀ (e : FT) (i : Int32) (V' : Mm), (∀ V', FrS V V' → DdC V' e → K V') → FrS V V' → DdC V' e → VV X d 95 K 7 [some (.ref 154), some (.int (nI w)), some (.int i)] [] V' := by
    intro e i V' hh x1 x2
    exact B_SR_readCond_7 ⟨fun _ => hh V' x1 x2, fun _ => ⟨fun _ => hh V' x1 x2, fun q => absurd q x2.1.ne⟩⟩
  refine h V p _ hA hS hk ho hl (fun e he V' v1 v2 => ?_) (fun q he V' v1 v2 => ?_)
  · rw [he] at h0
    exact dead e 0 V' (h0 e rfl) v1 v2
  · rw [he] at h0 h1
    dsimp only [bd] at h0 h1
    have hq := hP p q hk ho hl he
    suffices hz : ∀ g i (q : PS) (V' : Mm), g + i = 20 → i < q.2.1 → PG n p q → FrS V V' → StC V' f n m q → (∀ e, jnL f n m 12 3 one g q = .inl e → ∀ V', FrS V V' → DdC V' e → K V') → (∀ p', jnL f n m 12 3 one g q = .inr p' → ∀ V', FrS V V' → StC V' f n m p' → K V') → VV X d 95 K 7 [some (.ref 154), some (.int (nI w)), some (.int (nI i))] [] V' from hz 20 0 q V' rfl (by have := hq.2.1; omega) hq v1 v2 h0 h1
    clear h0 h1 he v2 v1 hq
    intro g
    induction g with
    | zero =>
      intro i q V' hg hi hpg
      have := hpg.2.2.1
      omega
    | succ g ih =>
      intro i q V' hg hi hpg v1 v2 h0 h1
      have hpg' := hpg
      obtain ⟨a1, a2, a3, r, a4, a5, a6, -⟩ := hpg'
      have hql : q.2.2.length = p.2.2.length + r.length := by rw [a4, List.length_append]
      have hA' := hA.fr v1
      rw [jnL] at h0 h1
      refine B_SR_readCond_7 ?_
      rw [v2.1.2.1]
      refine ⟨fun z => absurd z (nI_ge (a := i) (b := 20) (by omega) (by omega)), fun _ => ⟨fun z => absurd rfl z, fun _ => ?_⟩⟩
      refine c_isWd (c := 12) (by omega) v2.1 a1 (by omega) (fun z => ⟨fun y => absurd y (by decide), fun _ => ?_⟩) (fun z => ⟨fun _ => ?_, fun y => absurd rfl y⟩)
      · rw [if_pos z] at h0 h1
        refine c_step (by omega) hA'.1.1 hA'.1.2.1 hA'.1.2.2.1 hA'.1.2.2.2 v2.1 (by omega) fun V2 w1 w2 => ?_
        have f2 := v1.tr w1.s
        obtain ⟨k1, -⟩ := nx1 (f := f) hA'.1.1 hA'.1.2.1 a1 rfl
        refine h V2 (nxt f n m q.1, q.2) _ (hA.fr f2) (v2.fr1 w1 w2) k1 a3 (by dsimp only; omega) (fun e he V3 x1 x2 => ?_) (fun r' he V3 x1 x2 => ?_)
        · rw [he] at h0
          exact f_add (by omega) x2 fun V4 y1 y2 => dead e _ V4 (h0 e rfl) ((f2.tr x1).tr y1) y2
        · have hr := hP (nxt f n m q.1, q.2) r' k1 a3 (by dsimp only; omega) he
          obtain ⟨b1, b2, b3, rs, b4, b5, b6, -⟩ := hr
          dsimp only at b2 b4 b5
          have hrl : r'.2.2.length = q.2.2.length + rs.length := by rw [b4, List.length_append]
          have hpg2 : PG n p (r'.1, r'.2.1, r'.2.2 ++ [(nI 3, nI (q.2.2.length - 1), nI (r'.2.2.length - 1), 0)]) := jnL_ok (f := f) (m := m) (wd := 12) (nd := 3) hA'.1.1 hA'.1.2.1 (by omega) hP hl 1 q _ hk hpg (by rw [jnL, if_pos z, he]; rfl)
          rw [he] at h0 h1
          dsimp only [bd] at h0 h1
          refine k_add (x := (nI 3, nI (q.2.2.length - 1), nI (r'.2.2.length - 1), 0)) (by omega) x2 (by omega) rfl fun V4 y1 y2 => ?_
          rw [nI_1]
          exact ih (i + 1) _ V4 (by omega) (by dsimp only; omega) hpg2 ((f2.tr x1).tr y1) y2 h0 h1
      · rw [if_neg z] at h1
        exact h1 _ rfl V' v1 v2
theorem k_begins {K : Int32 → Mm → Prop} {ρ : RDS} (hd : 2 ≤ d) (hr : RdC u f n m ρ) (hk : tkOk ρ n) (h1 : begB ρ = true → K 1 u) (h0 : begB ρ = false → K 0 u) : CI X d 98 [.ref 154] u K := by
  obtain ⟨d, rfl, hd1⟩ := dpos hd
  obtain ⟨-, -, -, -, t3, t6⟩ := ty_k hk.2.1
  refine CI_of mk_X9_beginsOne.2.2 rfl (B_SR_beginsOne_0 ?_)
  refine c_isSn (c := 40) hd1 hr hk (by omega) (fun z => ⟨fun _ => h1 ?_, fun y => absurd y (by decide)⟩) (fun z => ⟨fun y => absurd rfl y, fun _ => ?_⟩)
  · unfold begB; rw [decide_eq_true z]; rfl
  · rw [hr.2.2.2.2.1.1]
    have no : ¬ (ρ.2.1 = 2 ∧ 14 ≤ wix ρ.2.2.2.1 ∧ wix ρ.2.2.2.1 ≤ 23) → begB ρ = false := fun q => by unfold begB; rw [decide_eq_false z, decide_eq_false q]; rfl
    refine ⟨fun y => h0 (no fun q => y ?_), fun y => ?_⟩
    · rw [t3.mpr ⟨q.1, by omega⟩]; rfl
    · have y : ty ρ = 3 := (nI_eq (a := ty ρ) (b := 3) (by omega) (by omega)).mp y
      obtain ⟨y1, y2⟩ := t3.mp y
      rw [hr.2.2.2.2.1.2.1 y]
      refine ⟨fun x => h0 (no fun q => ?_), fun x => ⟨fun x2 => h0 (no fun q => ?_), fun x2 => h1 ?_⟩⟩
      · have x : wix ρ.2.2.2.1 < 14 := (ll3 (n := 14) (by omega) (by decide)).mp x
        omega
      · have x2 : 23 < wix ρ.2.2.2.1 := (ll4 (n := 23) (by omega) (by decide)).mp x2
        omega
      · have x : ¬ wix ρ.2.2.2.1 < 14 := mt (ll3 (n := 14) (m := wix ρ.2.2.2.1) (by omega) (by decide)).mpr x
        unfold begB
        rw [decide_eq_true (show ρ.2.1 = 2 ∧ 14 ≤ wix ρ.2.2.2.1 ∧ wix ρ.2.2.2.1 ≤ 23 by omega), Bool.or_true]
theorem k_plain {K : Mm → Prop} {p : PS} {w : Nat} (hd : 6 ≤ d) (hA : AmC u f n m nl cQ cK) (hS : StC u f n m p) (hk : tkOk p.1 n) (h2 : p.1.2.1 = 2) (w1 : 15 ≤ w) (w2 : w ≤ 23) (hl : p.2.2.length < 40) (h0 : ∀ e, snLeaf f n m nl cQ cK w (nxt f n m p.1, p.2) = .inl e → ∀ V', FrS u V' → DdC V' e → K V') (h1 : ∀ p', snLeaf f n m nl cQ cK w (nxt f n m p.1, p.2) = .inr p' → ∀ V', FrS u V' → StC V' f n m p' → K V') : CV X d 99 [.ref 154, .int (nI w)] u K := by
  obtain ⟨d, rfl, hd1⟩ := dpos hd
  obtain ⟨k1, -⟩ := nx1 (f := f) (m := m) hA.1.1 hA.1.2.1 hk rfl
  refine CV_of mk_X9_readPlainOne.2.2 rfl (B_SR_readPlainOne_0 ?_)
  refine c_step (by omega) hA.1.1 hA.1.2.1 hA.1.2.2.1 hA.1.2.2.2 hS.1 (by omega) fun V v1 v2 => ?_
  have hS1 := hS.fr1 v1 v2
  have hA1 := hA.fr v1.s
  unfold snLeaf at h0 h1
  dsimp only at h0 h1
  refine ⟨fun z => ⟨fun z2 => ⟨fun z3 => ?_, fun z3 => ?_⟩, fun z2 => ?_⟩, fun z => ?_⟩
  · have z3 : w < 20 := (ll3 (n := 20) (by omega) (by decide)).mp z3
    rw [if_neg (fun q => z (by rw [q]; rfl)), if_neg (fun q => z2 (by rw [q]; rfl)), if_neg (by omega)] at h1
    refine k_add (x := (nI (50 + w), 0, 0, 0)) (by omega) hS1 hl ?_ fun V4 y1 y2 => h1 _ rfl V4 (v1.s.tr y1) y2
    rw [enc_lf (by omega) (by omega), show 50 + w - 50 = w by omega]
    split <;> rfl
  · have z3 : ¬ w < 20 := mt (ll3 (n := 20) (m := w) (by omega) (by decide)).mpr z3
    rw [if_neg (fun q => z (by rw [q]; rfl)), if_neg (fun q => z2 (by rw [q]; rfl)), if_pos (by omega)] at h0 h1
    refine c_takeCmp (by omega) hA.1.1 hA.1.2.1 hA1.1.2.2.1 hA1.1.2.2.2 v2 k1 (fun e he x V3 x1 x2 => ?_) (fun c ρ' he V3 x1 x2 => ?_)
    · rw [he] at h0
      refine f_takeNum (by omega) x2 fun y => ?_
      exact f_add (by omega) (hS1.dd (by dsimp only; omega) x1 x2) fun V4 y1 y2 => h0 e rfl V4 ((v1.s.tr x1.s).tr y1) y2
    · rw [he] at h0 h1
      dsimp only [bd] at h0 h1
      obtain ⟨k2, -⟩ := nx1 hA.1.1 hA.1.2.1 k1 (rCmp_inr he).1
      have hS2 := hS1.fr1 x1 x2
      have hA2 := hA1.fr x1.s
      refine c_takeNum (a := 0) (b := 999) (by omega) hA.1.1 hA.1.2.1 hA2.1.2.2.1 hA2.1.2.2.2 x2 k2 (by omega) (by omega) (fun e he2 x V4 y1 y2 => ?_) (fun v ρ2 he2 V4 y1 y2 => ?_)
      · rw [he2] at h0
        exact f_add (by omega) (hS2.dd (by dsimp only; omega) y1 y2) fun V5 y3 y4 => h0 e rfl V5 (((v1.s.tr x1.s).tr y1.s).tr y3) y4
      · rw [he2] at h1
        refine k_add (x := (nI (50 + w), 0, nI v, nI c)) (by omega) (hS2.fr1 y1 y2) hl ?_ fun V5 y3 y4 => h1 _ rfl V5 (((v1.s.tr x1.s).tr y1.s).tr y3) y4
        rw [enc_lf (by omega) (by omega), show 50 + w - 50 = w by omega, if_neg (by omega)]
  · have z2 : w = 19 := (le1 (n := 19) (by omega) (by decide)).mp z2
    rw [if_neg (by omega), if_pos z2] at h0 h1
    refine c_named5 (s := 0) (base := 0) (by omega) hA.1.1 hA.1.2.1 hA1.1.2.2.1 hA1.1.2.2.2 (by omega) hA1.2.1 v2 k1 (fun e he V3 x1 x2 => ?_) (fun j ρ' hj he V3 x1 x2 => ?_)
    · rw [he] at h0
      exact f_add (by omega) (hS1.dd (by dsimp only; omega) x1 x2) fun V4 y1 y2 => h0 e rfl V4 ((v1.s.tr x1.s).tr y1) y2
    · rw [he] at h1
      refine k_add (x := (nI 69, nI j, 0, 0)) (by omega) (hS1.fr1 x1 x2) hl ?_ fun V4 y1 y2 => h1 _ rfl V4 ((v1.s.tr x1.s).tr y1) y2
      rw [enc_lf (by omega) (by omega), if_pos (by omega), z2]
  · have z : w = 18 := (le1 (n := 18) (by omega) (by decide)).mp z
    rw [if_pos z] at h0 h1
    refine c_named5 (s := 1) (base := 8) (by omega) hA.1.1 hA.1.2.1 hA1.1.2.2.1 hA1.1.2.2.2 (by omega) hA1.2.2 v2 k1 (fun e he V3 x1 x2 => ?_) (fun j ρ' hj he V3 x1 x2 => ?_)
    · rw [he] at h0
      exact f_add (by omega) (hS1.dd (by dsimp only; omega) x1 x2) fun V4 y1 y2 => h0 e rfl V4 ((v1.s.tr x1.s).tr y1) y2
    · rw [he] at h1
      refine k_add (x := (nI 68, nI j, 0, 0)) (by omega) (hS1.fr1 x1 x2) hl ?_ fun V4 y1 y2 => h1 _ rfl V4 ((v1.s.tr x1.s).tr y1) y2
      rw [enc_lf (by omega) (by omega), if_pos (by omega), z]
/-- behind the checks of a one -/
def roTL (X : Xc) (d : Nat) (K : Mm → Prop) (p1 : Int32) (U : Mm) : Prop := ((U.1 1 2) = 0 → CI X d 112 [.ref 1, .int (40 : Int32)] (mI U 154 3 ((U.1 154 3) + 1)) (fun w3 u3 => (w3 = 0 → CI X d 113 [.ref 1, .int (14 : Int32)] u3 (fun w4 u4 => (w4 = 0 → CV X d 99 [.ref 154, .int (u4.1 1 5)] u4 (fun u5 => K u5)) ∧ (¬ w4 = 0 → CV X d 104 [.ref 1] u4 (fun u6 => CV X d 97 [.ref 154, .int (p1 + 1)] u6 (fun u7 => CV X d 88 [.ref 155, .int (14 : Int32), .int 0, .int 0] u7 (fun u8 => K u8)))))) ∧ (¬ w3 = 0 → CV X d 104 [.ref 1] u3 (fun u9 => CV X d 95 [.ref 154, .int (p1 + 1)] u9 (fun u10 => CV X d 114 [.ref 1, .int (41 : Int32)] u10 (fun u11 => K u11)))))) ∧ (¬ (U.1 1 2) = 0 → K U)
theorem roDead {K : Mm → Prop} {p1 : Int32} {e : FT} (h : FtC u e) (hK : K u) : roTL X d K p1 u := ⟨fun z => absurd z h.ne, fun _ => hK⟩
theorem k_one (hQ : cQ < 1000) (hKK : cK < 1000) : ∀ L w d, w + L = 9 → 8 + 3 * L ≤ d → SpC X d f n m nl cQ cK 97 w (oneF f n m nl cQ cK L) := by
  intro L
  induction L with
  | zero =>
    intro w d hw hd V p K hA hS hk ho hl h0 h1
    obtain ⟨d, rfl, hd1⟩ := dpos (n := 7) (by omega)
    rw [oneF_0] at h0
    unfold one0 at h0
    have bl : ∀ k, 1 ≤ k → k ≤ 4 → (∀ V', FrS V V' → DdC V' (k, p.1.1) → K V') → CV X d 111 [.ref 1, .int (nI k)] V (fun u2 => roTL X d K (nI w) u2) := by
      intro k q1 q2 hh
      have ft : FtC (mI V 1 2 (nI k)) (k, p.1.1) := FtC.of hS.1 q1 q2
      exact c_blame (by omega) hS.1.2.1 (roDead ft (hh _ (Fr1.rf.mI (j := 2)).s (hS.dd (by omega) (Fr1.rf.mI (j := 2)) ft)))
    refine CV_of mk_X9_readOne.2.2 rfl (B_SR_readOne_0 ?_)
    refine k_begins (by omega) hS.1 hk (fun z => ⟨fun _ => ?_, fun y => absurd y (by decide)⟩) (fun z => ⟨fun y => absurd rfl y, fun _ => ?_⟩)
    · rw [if_pos z] at h0
      exact ⟨fun _ => bl 4 (by omega) (by omega) (h0 _ rfl), fun _ => ⟨fun y => absurd (show w ≤ 8 from (ll1 (n := 8) (by omega) (by decide)).mp y) (by omega), fun _ => bl 4 (by omega) (by omega) (h0 _ rfl)⟩⟩
    · rw [if_neg (by rw [z]; decide)] at h0
      exact bl 1 (by omega) (by omega) (h0 _ rfl)
  | succ L ih =>
    intro w d hw hd V p K hA hS hk ho hl h0 h1
    obtain ⟨d, rfl, hd1⟩ := dpos (d := d) (n := 10 + 3 * L) (by omega)
    have hGP := oneF_ok (f := f) (n := n) (m := m) (nl := nl) (cQ := cQ) (cK := cK) hA.1.1 hA.1.2.1 hQ hKK L
    rw [oneF_s] at h0 h1
    unfold oneS at h0 h1
    have bl : ∀ k, 1 ≤ k → k ≤ 4 → (∀ V', FrS V V' → DdC V' (k, p.1.1) → K V') → CV X d 111 [.ref 1, .int (nI k)] V (fun u2 => roTL X d K (nI w) u2) := by
      intro k q1 q2 hh
      have ft : FtC (mI V 1 2 (nI k)) (k, p.1.1) := FtC.of hS.1 q1 q2
      exact c_blame (by omega) hS.1.2.1 (roDead ft (hh _ (Fr1.rf.mI (j := 2)).s (hS.dd (by omega) (Fr1.rf.mI (j := 2)) ft)))
    refine CV_of mk_X9_readOne.2.2 rfl (B_SR_readOne_0 ?_)
    refine k_begins (by omega) hS.1 hk (fun z => ⟨fun _ => ?_, fun y => absurd y (by decide)⟩) (fun z => ⟨fun y => absurd rfl y, fun _ => ?_⟩)
    · rw [if_pos z] at h0 h1
      rw [hS.2.1]
      refine ⟨fun y => ?_, fun y => ⟨fun y2 => ?_, fun y2 => absurd (nI_le (a := w) (b := 8) (by omega) (by omega)) y2⟩⟩
      · have y : 20 ≤ p.2.1 := (ll2 (n := 20) (by omega) (by decide)).mp y
        rw [if_pos (by omega)] at h0
        exact bl 4 (by omega) (by omega) (h0 _ rfl)
      · have y : ¬ 20 ≤ p.2.1 := mt (ll2 (n := 20) (m := p.2.1) (by omega) (by decide)).mpr y
        rw [if_neg (by omega)] at h0 h1
        refine ⟨fun _ => ?_, fun x => absurd hS.1.2.1 x⟩
        rw [nI_1, nI_1]
        have f1 : FrS V (mI V 154 3 (nI (p.2.1 + 1))) := FrS.rf.mI (by omega)
        have hS1 : StC (mI V 154 3 (nI (p.2.1 + 1))) f n m (p.1, p.2.1 + 1, p.2.2) := by
          refine ⟨hS.1.cg (mI_r (by omega)) rfl, mI_s, ?_, fun i hi => ?_⟩
          · rw [mI_r (by omega)]; exact hS.2.2.1
          · rw [mI_r (by omega), mI_r (by omega), mI_r (by omega)]; exact hS.2.2.2 i hi
        generalize mI V 154 3 (nI (p.2.1 + 1)) = U at f1 hS1
        have hA1 := hA.fr f1
        obtain ⟨k1, -⟩ := nx1 (f := f) (m := m) hA.1.1 hA.1.2.1 hk rfl
        refine c_isSn (c := 40) (by omega) hS1.1 hk (by omega) (fun q => ⟨fun x => absurd x (by decide), fun _ => ?_⟩) (fun q => ⟨fun _ => ?_, fun x => absurd rfl x⟩)
        · rw [if_pos q.1] at h0 h1
          refine c_step (by omega) hA.1.1 hA.1.2.1 hA1.1.2.2.1 hA1.1.2.2.2 hS1.1 (by have q1 : p.1.2.1 = 4 := q.1; show p.1.2.1 ≠ 1; omega) fun V2 v1 v2 => ?_
          have f2 := f1.tr v1.s
          have hc := condF_ok (f := f) (m := m) hA.1.1 hA.1.2.1 hGP
          obtain ⟨d', rfl, hd2⟩ := dpos (d := d) (n := 9 + 3 * L) (by omega)
          obtain ⟨d'', rfl, hd3⟩ := dpos (d := d') (n := 8 + 3 * L) (by omega)
          have hsp := k_readCond (X := X) (d := d'' + 1) (w := w + 1) (by omega) (jn_ok (f := f) (m := m) (wd := 13) (nd := 2) hA.1.1 hA.1.2.1 (Or.inl rfl) hGP) (k_readAll (X := X) (d := d'') (nl := nl) (cQ := cQ) (cK := cK) (w := w + 1) (by omega) hGP (ih (w + 1) d'' (by omega) hd3))
          refine hsp V2 (nxt f n m p.1, p.2.1 + 1, p.2.2) _ (hA.fr f2) (hS1.fr1 v1 v2) k1 (by dsimp only; omega) (by dsimp only; omega) (fun e he V3 x1 x2 => ?_) (fun q' he V3 x1 x2 => ?_)
          · have he : condF f n m (oneF f n m nl cQ cK L) (nxt f n m p.1, p.2.1 + 1, p.2.2) = .inl e := he
            rw [he] at h0
            exact f_takeSgn (by omega) x2.1 (h0 e rfl V3 (f2.tr x1) x2)
          · have he : condF f n m (oneF f n m nl cQ cK L) (nxt f n m p.1, p.2.1 + 1, p.2.2) = .inr q' := he
            obtain ⟨b1, b2, b3, rs, b4, b5, b6, -⟩ := hc _ q' k1 (by dsimp only; omega) (by dsimp only; omega) he
            dsimp only at b2 b4 b5
            have hrl : q'.2.2.length = p.2.2.length + rs.length := by rw [b4, List.length_append]
            rw [he] at h0 h1
            dsimp only [bd] at h0 h1
            have f3 := f2.tr x1
            have hA3 := hA.fr f3
            refine c_takeSgn (c := 41) (by omega) hA.1.1 hA.1.2.1 hA3.1.2.2.1 hA3.1.2.2.2 x2.1 b1 (by omega) (fun e he2 V4 y1 y2 => ?_) (fun ρ' he2 V4 y1 y2 => ?_)
            · rw [he2] at h0
              exact h0 e rfl V4 (f3.tr y1.s) (x2.dd (by omega) y1 y2)
            · rw [he2] at h1
              exact h1 _ rfl V4 (f3.tr y1.s) (x2.fr1 y1 y2)
        · have hb : p.1.2.1 = 2 ∧ 14 ≤ wix p.1.2.2.2.1 ∧ wix p.1.2.2.2.1 ≤ 23 := by
            unfold begB at z
            simp only [Bool.or_eq_true, decide_eq_true_eq] at z
            exact z.resolve_left q
          rw [if_neg (by omega)] at h0 h1
          refine c_isWd (c := 14) (by omega) hS1.1 hk (by omega) (fun q2 => ⟨fun x => absurd x (by decide), fun _ => ?_⟩) (fun q2 => ⟨fun _ => ?_, fun x => absurd rfl x⟩)
          · rw [if_pos q2.2] at h0 h1
            refine c_step (by omega) hA.1.1 hA.1.2.1 hA1.1.2.2.1 hA1.1.2.2.2 hS1.1 (by dsimp only; omega) fun V2 v1 v2 => ?_
            have f2 := f1.tr v1.s
            refine ih (w + 1) d (by omega) (by omega) V2 (nxt f n m p.1, p.2.1 + 1, p.2.2) _ (hA.fr f2) (hS1.fr1 v1 v2) k1 (by dsimp only; omega) (by dsimp only; omega) (fun e he V3 x1 x2 => ?_) (fun q' he V3 x1 x2 => ?_)
            · rw [he] at h0
              exact f_add (by omega) x2 fun V4 y1 y2 => h0 e rfl V4 ((f2.tr x1).tr y1) y2
            · obtain ⟨b1, b2, b3, rs, b4, b5, b6, -⟩ := hGP _ q' k1 (by dsimp only; omega) (by dsimp only; omega) he
              dsimp only at b2 b4 b5
              have hrl : q'.2.2.length = p.2.2.length + rs.length := by rw [b4, List.length_append]
              rw [he] at h1
              refine k_add (x := (1, nI (q'.2.2.length - 1), 0, 0)) (by omega) x2 (by omega) rfl fun V4 y1 y2 => h1 _ rfl V4 ((f2.tr x1).tr y1) y2
          · rw [if_neg (fun x => q2 ⟨hb.1, x⟩)] at h0 h1
            have hty : ty p.1 = 3 := (ty_k hk.2.1).2.2.2.2.1.mpr ⟨hb.1, by omega⟩
            rw [hS1.1.2.2.2.2.1.2.1 hty]
            refine k_plain (p := (p.1, p.2.1 + 1, p.2.2)) (by omega) hA1 hS1 hk hb.1 (by have : wix p.1.2.2.2.1 ≠ 14 := fun x => q2 ⟨hb.1, x⟩; dsimp only; omega) hb.2.2 (by dsimp only; omega) (fun e he V3 x1 x2 => h0 e he V3 (f1.tr x1) x2) (fun p' he V3 x1 x2 => h1 p' he V3 (f1.tr x1) x2)
    · rw [if_neg (by rw [z]; decide)] at h0
      exact bl 1 (by omega) (by omega) (h0 _ rfl)
def snTxt (f : Nat → Nat) (n : Nat) (nl : Nat → List Nat) (cQ cK : Nat) : FT ⊕ PS := bd (condF f n 200 (oneF f n 200 nl cQ cK 8) (tokF f n 200 (sk f n 0), 0, [])) fun p => if p.1.2.1 = 0 then .inr p else .inl (1, p.1.1)
theorem c_readSent {K : Int32 → Mm → Prop} (hd : 40 ≤ d) (hn : n ≤ 940) (hb : TBy u f) (hw : WordsR u) (e1 : u.1 1 1 = nI n) (hN0 : NmC u 5 0 0 cQ nl) (hN1 : NmC u 5 1 8 cK nl)
    (h0 : ∀ e, snTxt f n nl cQ cK = .inl e → ∀ w V, FrS u V → FtC V e → K w V) (h1 : ∀ p, snTxt f n nl cQ cK = .inr p → ∀ V, FrS u V → StC V f n 200 p → K (nI p.2.1) V) : CI X d 94 [.ref 154] u K := by
  obtain ⟨d, rfl, hd1⟩ := dpos (n := 39) (by omega)
  refine CI_of mk_X9_readSentence.2.2 rfl (B_SR_readSentence_0 ?_)
  have f1 : FrS u (mI (mI u 155 0 0) 154 3 0) := (FrS.rf.mI (by omega)).mI (by omega)
  have hA : AmC u f n 200 nl cQ cK := ⟨⟨hn, by omega, hb, hw⟩, hN0, hN1⟩
  have hA1 := hA.fr f1
  have hQ : cQ < 1000 := by have := hN0.1; omega
  have hKK : cK < 1000 := by have := hN1.1; omega
  refine c_begin (f := f) (n := n) (m := 200) (by omega) hn (by omega) hA1.1.2.2.1 hA1.1.2.2.2 (by rw [mI_r (by omega), mI_r (by omega)]; exact e1) fun V2 w1 w2 => ?_
  obtain ⟨k0, -⟩ := tk0 (f := f) (n := n) (m := 200) hn (by omega)
  have hGP := oneF_ok (f := f) (n := n) (m := 200) (nl := nl) (cQ := cQ) (cK := cK) hn (by omega) hQ hKK 8
  obtain ⟨d', rfl, hd2⟩ := dpos (d := d) (n := 38) (by omega)
  obtain ⟨d'', rfl, hd3⟩ := dpos (d := d') (n := 37) (by omega)
  have hsp := k_readCond (X := X) (d := d'' + 1) (w := 1) (by omega) (jn_ok (f := f) (m := 200) (wd := 13) (nd := 2) hn (by omega) (Or.inl rfl) hGP) (k_readAll (X := X) (d := d'') (nl := nl) (cQ := cQ) (cK := cK) (w := 1) (by omega) hGP (k_one hQ hKK 8 1 d'' (by omega) (by omega)))
  have hS : StC V2 f n 200 (tokF f n 200 (sk f n 0), 0, []) := ⟨w2, by rw [w1.1 154 (by omega), mI_s]; rfl, by rw [w1.1 155 (by omega), mI_r (by omega), mI_s]; rfl, fun i hi => absurd hi (by simp)⟩
  have f2 := f1.tr w1.s
  unfold snTxt at h0 h1
  refine hsp V2 _ _ (hA.fr f2) hS k0 (Nat.zero_le _) (by simp) (fun e he V3 x1 x2 => ?_) (fun p he V3 x1 x2 => ?_)
  · have he : condF f n 200 (oneF f n 200 nl cQ cK 8) (tokF f n 200 (sk f n 0), 0, []) = .inl e := he
    rw [he] at h0
    exact ⟨fun _ => h0 e rfl _ V3 (f2.tr x1) x2.1, fun _ => f_blame (by omega) x2.1 (h0 e rfl _ V3 (f2.tr x1) x2.1)⟩
  · have he : condF f n 200 (oneF f n 200 nl cQ cK 8) (tokF f n 200 (sk f n 0), 0, []) = .inr p := he
    obtain ⟨b1, -⟩ := condF_ok hn (by omega) hGP _ p k0 (Nat.zero_le _) (by simp) he
    rw [he] at h0 h1
    dsimp only [bd] at h0 h1
    obtain ⟨-, -, -, t0, -, t6⟩ := ty_k b1.2.1
    rw [x2.1.2.2.2.2.1.1]
    refine ⟨fun z => ?_, fun z => ?_⟩
    · have z : p.1.2.1 = 0 := t0.mp ((nI_eq (a := ty p.1) (b := 0) (by omega) (by omega)).mp z)
      rw [if_pos z] at h1
      rw [x2.2.1]
      exact h1 p rfl V3 (f2.tr x1) x2
    · have z : ¬ p.1.2.1 = 0 := fun q => z (by rw [t0.mpr q]; rfl)
      rw [if_neg z] at h0
      refine c_blame (by omega) x2.1.2.1 ?_
      have ft : FtC (mI V3 1 2 (nI 1)) (1, p.1.1) := FtC.of x2.1 (by omega) (by omega)
      exact h0 _ rfl _ _ ((f2.tr x1).tr (Fr1.rf.mI (j := 2)).s) ft
end SnC
