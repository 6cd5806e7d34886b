/-! routes: the search as a function -/
abbrev RS : Type := Option (Nat × List Nat × Nat)
def foF {σ : Type} (st : Nat → σ → σ) (R : σ) : Nat → σ
  | 0 => R
  | n + 1 => st n (foF st R n)
def brQ (g : Nat → Int32) (bv : Nat → Nat) (q : Nat) : Nat := if stAt g g (nI q) = -1 then 0 else bv (stAt g g (nI q)).toNatClampNeg
def visF (tr : List Nat) (t w : Nat) (R : RS) : RS := match R with
  | none => some (w, tr, t)
  | some z => if z.1 < w ∨ w = z.1 ∧ tr.length < z.2.1.length then some (w, tr, t) else some z
def bodF (g : Nat → Int32) (bv : Nat → Nat) : Nat → Nat → List Nat → Nat → Nat → RS → RS
  | 0, _, tr, t, w, R => visF tr t w R
  | f + 1, q, tr, t, w, R => foF (fun p R => if tb (g (14 + q)) p = true ∧ t.testBit p = false then bodF g bv f p (tr ++ [p]) (t ||| 2 ^ p) (w + brQ g bv p) R else R) (visF tr t w R) (nQ g)
/-- the trail is well -/
def trOk (tr : List Nat) (t w : Nat) : Prop := t < 256 ∧ w ≤ 200 * tr.length ∧ tr.length ≤ 8 ∧ ∀ q, q < 8 → (t.testBit q = true ↔ q ∈ tr)
def rsOk (R : RS) : Prop := ∀ z, R = some z → trOk z.2.1 z.2.2 z.1
theorem or_tb : ∀ t, t < 256 → ∀ q, q < 8 → ∀ p, p < 8 → ((t ||| 2 ^ q).testBit p = true ↔ t.testBit p = true ∨ p = q) := by decide +kernel
theorem trOk_add {tr : List Nat} {t w q b : Nat} (h : trOk tr t w) (hq : q < 8) (hb : b ≤ 200) (hl : tr.length < 8) : trOk (tr ++ [q]) (t ||| 2 ^ q) (w + b) := by
  obtain ⟨h1, h2, h3, h4⟩ := h
  refine ⟨(or_bit t h1 q hq).2.1, ?_, ?_, fun p hp => ?_⟩
  · rw [List.length_append, List.length_singleton]; omega
  · rw [List.length_append, List.length_singleton]; omega
  · rw [or_tb t h1 q hq p hp, h4 p hp, List.mem_append, List.mem_singleton]
theorem rsOk_vis {tr : List Nat} {t w : Nat} {R : RS} (h : trOk tr t w) (hR : rsOk R) : rsOk (visF tr t w R) := by
  unfold visF
  split
  · intro z hz; cases hz; exact h
  · rename_i z
    split
    · intro y hy; cases hy; exact h
    · exact hR
theorem brQ_le {g : Nat → Int32} {bv : Nat → Nat} {q : Nat} (hA : nA g ≤ 8) (hb : ∀ a, a < nA g → bv a ≤ 200) : brQ g bv q ≤ 200 := by
  unfold brQ
  split
  · omega
  · rename_i e
    rcases stAt_cases (g := g) (s := g) (q := q) hA with ⟨h, -⟩ | ⟨a, ha, h, -⟩
    · exact absurd h e
    · rw [h, nI_clamp (by omega)]; exact hb a ha
theorem rsOk_bod {g : Nat → Int32} {bv : Nat → Nat} (hA : nA g ≤ 8) (hQ : nQ g ≤ 8) (hb : ∀ a, a < nA g → bv a ≤ 200) : ∀ f q tr t w R, trOk tr t w → tr.length + f ≤ 8 → rsOk R → rsOk (bodF g bv f q tr t w R)
  | 0, q, tr, t, w, R, h, _, hR => rsOk_vis h hR
  | f + 1, q, tr, t, w, R, h, hl, hR => by
    rw [bodF]
    have : ∀ n, n ≤ nQ g → rsOk (foF (fun p R => if tb (g (14 + q)) p = true ∧ t.testBit p = false then bodF g bv f p (tr ++ [p]) (t ||| 2 ^ p) (w + brQ g bv p) R else R) (visF tr t w R) n) := by
      intro n hn
      induction n with
      | zero => exact rsOk_vis h hR
      | succ n ih =>
        rw [foF]
        have ih := ih (by omega)
        split
        · refine rsOk_bod hA hQ hb f n _ _ _ _ (trOk_add h (by omega) (brQ_le hA hb) (by omega)) ?_ ih
          rw [List.length_append, List.length_singleton]
          omega
        · exact ih
    exact this (nQ g) (Nat.le_refl _)
theorem bodF_some {g : Nat → Int32} {bv : Nat → Nat} : ∀ f q tr t w R, bodF g bv f q tr t w R ≠ none
  | 0, q, tr, t, w, R => by
    rw [bodF]
    unfold visF
    split
    · simp
    · split <;> simp
  | f + 1, q, tr, t, w, R => by
    rw [bodF]
    have : ∀ n, foF (fun p R => if tb (g (14 + q)) p = true ∧ t.testBit p = false then bodF g bv f p (tr ++ [p]) (t ||| 2 ^ p) (w + brQ g bv p) R else R) (visF tr t w R) n ≠ none := by
      intro n
      induction n with
      | zero =>
        rw [foF]
        unfold visF
        split
        · simp
        · split <;> simp
      | succ n ih =>
        rw [foF]
        split
        · exact bodF_some f n _ _ _ _
        · exact ih
    exact this (nQ g)
def nxS (g : Nat → Int32) (bv : Nat → Nat) (f q : Nat) (tr : List Nat) (t w : Nat) (R : RS) (n : Nat) : RS := match f with
  | 0 => visF tr t w R
  | f' + 1 => foF (fun p R => if tb (g (14 + q)) p = true ∧ t.testBit p = false then bodF g bv f' p (tr ++ [p]) (t ||| 2 ^ p) (w + brQ g bv p) R else R) (visF tr t w R) n
def goF (g : Nat → Int32) (bv : Nat → Nat) (F q : Nat) (tr : List Nat) (t w : Nat) (R : RS) : RS := match F with
  | 0 => R
  | f + 1 => bodF g bv f q (tr ++ [q]) (t ||| 2 ^ q) (w + brQ g bv q) R
/-- what each keeps -/
def rcR (V : Mm) (R : RS) : Prop := match R with
  | none => V.1 165 6 = 0 ∧ V.1 165 7 = -1
  | some z => V.1 165 6 = nI z.2.1.length ∧ V.1 165 7 = nI z.1 ∧ V.1 165 8 = nI z.2.2 ∧ ∀ i, i < z.2.1.length → V.1 168 i = nI (z.2.1.getD i 0)
def rmR (V : Mm) (R : RS) : Prop := match R with
  | none => V.1 234 37 = 0 ∧ V.1 234 38 = -1
  | some z => V.1 234 37 = nI z.2.1.length ∧ V.1 234 38 = nI z.1 ∧ ∀ i, i < z.2.1.length → V.1 252 i = nI (z.2.1.getD i 0)
theorem getD_app1 {tr : List Nat} {q i : Nat} (h : i < tr.length) : (tr ++ [q]).getD i 0 = tr.getD i 0 := by
  simp [List.getD, List.getElem?_append_left h]
theorem getD_app2 {tr : List Nat} {q : Nat} : (tr ++ [q]).getD tr.length 0 = q := by
  simp [List.getD]
theorem mC_o {u : Mm} {s a n b : Nat} (hb : b ≠ a) : (mC u s 0 a 0 n).1 b = u.1 b := funext fun k => if_neg hb
theorem mC_s {u : Mm} {s a n k : Nat} (hk : k < n) : (mC u s 0 a 0 n).1 a k = u.1 s k := by
  show (if a = a then va_cpy (u.1 s) (u.1 a) 0 0 n k else u.1 a k) = _
  rw [if_pos rfl, cpy_lt hk]
section RouteC
variable {X : Xc} {u : Mm} {g : Nat → Int32} {nm : Nat → Int64} {bv : Nat → Nat} {most : Nat}
/-- what stands while the system seeks -/
def SkC (u : Mm) (g : Nat → Int32) (bv : Nat → Nat) (most : Nat) (V : Mm) : Prop := (∀ b, b ≠ 165 → b ≠ 167 → b ≠ 168 → V.1 b = u.1 b) ∧ V.2 = u.2 ∧ (∀ k, k ≠ 6 → k ≠ 7 → k ≠ 8 → V.1 165 k = u.1 165 k) ∧ u.1 165 3 = nI most ∧ ∀ a, a < nA g → u.1 166 a = nI (bv a)
theorem c_goOn (h : Wd u g nm) (hb : ∀ a, a < nA g → bv a ≤ 200) (hm : most ≤ 8) : ∀ F d q tr t w V R (K : Mm → Prop), F + 2 ≤ d → q < nQ g → tr.length + F = most → trOk tr t w → rsOk R → SkC u g bv most V → rcR V R → (∀ i, i < tr.length → V.1 167 i = nI (tr.getD i 0)) →
    (∀ V', SkC u g bv most V' → rcR V' (goF g bv F q tr t w R) → (∀ i, i < tr.length → V'.1 167 i = nI (tr.getD i 0)) → K V') → CV X d 36 [.ref 165, .int (nI q), .int (nI tr.length), .int (nI w), .int (nI t)] V K := by
  have hA := h.1.1.2.2.2.2.2.1
  have hQ := h.1.1.2.1
  obtain ⟨cq, ck, ca, cw⟩ := cityN h.1 h.2.1
  intro F
  induction F with
  | zero =>
    intro d q tr t w V R K hd hq hl ht hR hs hrc htr hK
    obtain ⟨d, rfl, hd1⟩ := dpos hd
    refine CV_of mk_X3_goOn.2.2 rfl (B_GD_goOn_0 ?_)
    rw [hs.2.2.1 3 (by omega) (by omega) (by omega), hs.2.2.2.1]
    refine ⟨fun _ => hK V hs hrc htr, fun z => absurd (nI_le (by omega) (by omega)) z⟩
  | succ f ih =>
    intro d q tr t w V R K hd hq hl ht hR hs hrc htr hK
    obtain ⟨d, rfl, hd1⟩ := dpos hd
    obtain ⟨o1, o2, o3⟩ := or_bit t ht.1 q (by omega)
    have hbq := brQ_le (g := g) (bv := bv) (q := q) hA hb
    have ht' := trOk_add ht (show q < 8 by omega) hbq (by omega)
    have hlen : (tr ++ [q]).length = tr.length + 1 := by rw [List.length_append, List.length_singleton]
    have hwb := ht.2.1
    have hlb := ht.2.2.1
    have e165 : ∀ k, (mI V 167 tr.length (nI q)).1 165 k = V.1 165 k := fun k => by rw [mI_r (by omega)]
    have htr1 : ∀ i, i < (tr ++ [q]).length → (mI V 167 tr.length (nI q)).1 167 i = nI ((tr ++ [q]).getD i 0) := by
      intro i hi
      rw [hlen] at hi
      by_cases e : i = tr.length
      · subst e; rw [mI_s, getD_app2]
      · rw [mI_n (by omega), getD_app1 (by omega)]; exact htr i (by omega)
    have hs1 : SkC u g bv most (mI V 167 tr.length (nI q)) := ⟨fun b b1 b2 b3 => by rw [mI_r b2]; exact hs.1 b b1 b2 b3, hs.2.1, fun k k1 k2 k3 => by rw [e165]; exact hs.2.2.1 k k1 k2 k3, hs.2.2.2⟩
    have hrc1 : rcR (mI V 167 tr.length (nI q)) R := by
      unfold rcR at hrc ⊢
      cases R with
      | none => exact ⟨by rw [e165]; exact hrc.1, by rw [e165]; exact hrc.2⟩
      | some z => exact ⟨by rw [e165]; exact hrc.1, by rw [e165]; exact hrc.2.1, by rw [e165]; exact hrc.2.2.1, fun i hi => by rw [mI_r (by omega)]; exact hrc.2.2.2 i hi⟩
    have e23 : (mI V 167 tr.length (nI q)).1 23 q = stAt g g (nI q) := by rw [hs1.1 23 (by omega) (by omega) (by omega)]; exact h.2.2.2.2.2.1 q hq
    /- the loop over the squares, from what was visited -/
    have loop : ∀ (V1 : Mm) (v5 : Int32), SkC u g bv most V1 → rcR V1 (visF (tr ++ [q]) (t ||| 2 ^ q) (w + brQ g bv q) R) → (∀ i, i < (tr ++ [q]).length → V1.1 167 i = nI ((tr ++ [q]).getD i 0)) → VV X d 36 K 126 [some (.ref 165), some (.int (nI q)), some (.int (nI tr.length)), some (.int (nI w)), some (.int (nI t)), some (.int v5), some (.int (nI (w + brQ g bv q))), some (.int (nI (t ||| 2 ^ q))), some (.int (nI (tr.length + 1))), some (.int (nI 0))] [] V1 := by
      intro V1 v5 hs' hrc' htr'
      have hRok : ∀ n, n ≤ nQ g → rsOk (nxS g bv f q (tr ++ [q]) (t ||| 2 ^ q) (w + brQ g bv q) R n) := by
        intro n hn
        cases f with
        | zero => exact rsOk_vis ht' hR
        | succ f' =>
          unfold nxS
          dsimp only
          induction n with
          | zero => exact rsOk_vis ht' hR
          | succ n ih3 =>
            rw [foF]
            have ih3 := ih3 (by omega)
            split
            · refine rsOk_bod hA hQ hb f' n _ _ _ _ (trOk_add ht' (by omega) (brQ_le hA hb) (by rw [hlen]; omega)) ?_ ih3
              rw [List.length_append, List.length_singleton, hlen]
              omega
            · exact ih3
      refine lupR (n := nQ g) (W := fun p (V1 : Mm) => VV X d 36 K 126 [some (.ref 165), some (.int (nI q)), some (.int (nI tr.length)), some (.int (nI w)), some (.int (nI t)), some (.int v5), some (.int (nI (w + brQ g bv q))), some (.int (nI (t ||| 2 ^ q))), some (.int (nI (tr.length + 1))), some (.int (nI p))] [] V1)
        (I := fun p V1 => SkC u g bv most V1 ∧ rcR V1 (nxS g bv f q (tr ++ [q]) (t ||| 2 ^ q) (w + brQ g bv q) R p) ∧ ∀ i, i < (tr ++ [q]).length → V1.1 167 i = nI ((tr ++ [q]).getD i 0)) ?_ V1 ⟨hs', ?_, htr'⟩
      · rintro p V2 hp ⟨i1, i2, i3⟩ ih2
        have e9 : V2.1 9 q = g (14 + q) := by rw [i1.1 9 (by omega) (by omega) (by omega)]; exact (h.2.1.2.1 q hq).2.1
        refine B_GD_goOn_126 ?_
        rw [i1.1 7 (by omega) (by omega) (by omega), cq]
        simp (disch := omega) only [la1, la2, lt1, lt2, nI_add, pk_mul, nI_clamp, vpn, nI_leI, nI_ltI, nI_eq, ll1, ll2, ll3, ll4, le1, le2, true_and, and_true, not_true_eq_false, not_false_eq_true, forall_const, false_implies, implies_true, if_true, if_false, ite_true, ite_false, and_self, false_and, and_false, e9]
        refine ⟨fun z => ?_, fun z => ⟨by omega, ?_⟩⟩
        · refine hK V2 i1 ?_ (fun i hi => by rw [i3 i (by rw [hlen]; omega), getD_app1 hi])
          rw [show p = nQ g by omega] at i2
          cases f with
          | zero => exact i2
          | succ f' => exact i2
        · have ih2 := ih2 (by omega)
          refine c_bit (by omega) (by omega) (fun y => ?_) (fun y => ?_)
          · refine ⟨fun x => absurd x (by decide), fun _ => c_bit (by omega) (by omega) (fun y2 => ?_) (fun y2 => ?_)⟩
            · rw [tb_bit _ o2 p (by omega)] at y2
              refine ⟨fun _ => ih2 V2 ⟨i1, ?_, i3⟩, fun x => absurd x (by decide)⟩
              cases f with
              | zero => exact i2
              | succ f' =>
                unfold nxS at i2 ⊢
                dsimp only at i2 ⊢
                rw [foF, if_neg (by rw [y2]; simp)]
                exact i2
            · rw [tb_bit _ o2 p (by omega)] at y2
              refine ⟨fun x => absurd rfl x, fun _ => ?_⟩
              rw [← hlen]
              refine ih d p (tr ++ [q]) (t ||| 2 ^ q) (w + brQ g bv q) V2 _ _ (by omega) (by omega) (by rw [hlen]; omega) ht' (hRok p (by omega)) i1 i2 i3 fun V3 x1 x2 x3 => ?_
              rw [hlen]
              refine ih2 V3 ⟨x1, ?_, x3⟩
              cases f with
              | zero => exact x2
              | succ f' =>
                unfold nxS goF at *
                dsimp only at x2 ⊢
                rw [foF, if_pos ⟨y, y2⟩]
                exact x2
          · refine ⟨fun _ => ih2 V2 ⟨i1, ?_, i3⟩, fun x => absurd rfl x⟩
            cases f with
            | zero => exact i2
            | succ f' =>
              unfold nxS at i2 ⊢
              dsimp only at i2 ⊢
              rw [foF, if_neg (by rw [y]; simp)]
              exact i2
      · cases f with
        | zero => exact hrc'
        | succ f' => exact hrc'
    /- better or not -/
    have better : ∀ v5 : Int32, (R = none ∨ ∃ z, R = some z ∧ (z.1 < w + brQ g bv q ∨ w + brQ g bv q = z.1 ∧ tr.length + 1 < z.2.1.length)) → CV X d 179 [.ref 167, .ref 168] (mI V 167 tr.length (nI q)) (fun u1 => VV X d 36 K 126 [some (.ref 165), some (.int (nI q)), some (.int (nI tr.length)), some (.int (nI w)), some (.int (nI t)), some (.int v5), some (.int (nI (w + brQ g bv q))), some (.int (nI (t ||| 2 ^ q))), some (.int (nI (tr.length + 1))), some (.int (0))] [] (mI (mI (mI u1 165 6 (nI (tr.length + 1))) 165 7 (nI (w + brQ g bv q))) 165 8 (nI (t ||| 2 ^ q)))) := by
      intro v5 hbt
      refine c_copy (n := 8) (by omega) ⟨rfl, _, rfl⟩ ⟨rfl, _, rfl⟩ (by omega) ?_
      have ev : visF (tr ++ [q]) (t ||| 2 ^ q) (w + brQ g bv q) R = some (w + brQ g bv q, tr ++ [q], t ||| 2 ^ q) := by
        rcases hbt with rfl | ⟨z, rfl, hz⟩
        · rfl
        · unfold visF
          dsimp only
          rw [if_pos (by rw [hlen]; exact hz)]
      have mo : ∀ b, b ≠ 168 → (mC (mI V 167 tr.length (nI q)) 167 0 168 0 8).1 b = (mI V 167 tr.length (nI q)).1 b := fun b hb => funext fun k => if_neg hb
      refine loop _ v5 ⟨fun b b1 b2 b3 => ?_, hs.2.1, fun k k1 k2 k3 => ?_, hs.2.2.2⟩ ?_ (fun i hi => ?_)
      · rw [mI_r b1, mI_r b1, mI_r b1, mo b b3]; exact hs1.1 b b1 b2 b3
      · rw [mI_n (by omega), mI_n (by omega), mI_n (by omega), mo 165 (by omega)]; exact hs1.2.2.1 k k1 k2 k3
      · rw [ev]
        refine ⟨?_, ?_, mI_s, fun i hi => ?_⟩
        · rw [mI_n (by omega), mI_n (by omega), mI_s, hlen]
        · rw [mI_n (by omega), mI_s]
        · dsimp only at hi ⊢
          rw [mI_r (by omega), mI_r (by omega), mI_r (by omega)]
          rw [mC_s (by rw [hlen] at hi; omega)]
          exact htr1 i hi
      · rw [mI_r (by omega), mI_r (by omega), mI_r (by omega), mo 167 (by omega)]; exact htr1 i hi
    have worse : ∀ (v5 : Int32) z, R = some z → ¬ (z.1 < w + brQ g bv q ∨ w + brQ g bv q = z.1 ∧ tr.length + 1 < z.2.1.length) → VV X d 36 K 126 [some (.ref 165), some (.int (nI q)), some (.int (nI tr.length)), some (.int (nI w)), some (.int (nI t)), some (.int v5), some (.int (nI (w + brQ g bv q))), some (.int (nI (t ||| 2 ^ q))), some (.int (nI (tr.length + 1))), some (.int (0))] [] (mI V 167 tr.length (nI q)) := by
      intro v5 z hz hn
      refine loop _ v5 hs1 ?_ htr1
      subst hz
      unfold visF
      dsimp only
      rw [if_neg (by rw [hlen]; exact hn)]
      exact hrc1
    have cmp : ∀ (W : Int32) (v5 : Int32), W = nI (w + brQ g bv q) → (((mI V 167 tr.length (nI q)).1 165 7 < W → CV X d 179 [.ref 167, .ref 168] (mI V 167 tr.length (nI q)) (fun u1 => VV X d 36 K 126 [some (.ref 165), some (.int (nI q)), some (.int (nI tr.length)), some (.int (nI w)), some (.int (nI t)), some (.int v5), some (.int W), some (.int (nI (t ||| 2 ^ q))), some (.int (nI (tr.length + 1))), some (.int (0))] [] (mI (mI (mI u1 165 6 (nI (tr.length + 1))) 165 7 W) 165 8 (nI (t ||| 2 ^ q))))) ∧ (¬ (mI V 167 tr.length (nI q)).1 165 7 < W → (¬ W = (mI V 167 tr.length (nI q)).1 165 7 → VV X d 36 K 126 [some (.ref 165), some (.int (nI q)), some (.int (nI tr.length)), some (.int (nI w)), some (.int (nI t)), some (.int v5), some (.int W), some (.int (nI (t ||| 2 ^ q))), some (.int (nI (tr.length + 1))), some (.int (0))] [] (mI V 167 tr.length (nI q))) ∧ (W = (mI V 167 tr.length (nI q)).1 165 7 → ((mI V 167 tr.length (nI q)).1 165 6 ≤ nI (tr.length + 1) → VV X d 36 K 126 [some (.ref 165), some (.int (nI q)), some (.int (nI tr.length)), some (.int (nI w)), some (.int (nI t)), some (.int v5), some (.int W), some (.int (nI (t ||| 2 ^ q))), some (.int (nI (tr.length + 1))), some (.int (0))] [] (mI V 167 tr.length (nI q))) ∧ (¬ (mI V 167 tr.length (nI q)).1 165 6 ≤ nI (tr.length + 1) → CV X d 179 [.ref 167, .ref 168] (mI V 167 tr.length (nI q)) (fun u1 => VV X d 36 K 126 [some (.ref 165), some (.int (nI q)), some (.int (nI tr.length)), some (.int (nI w)), some (.int (nI t)), some (.int v5), some (.int W), some (.int (nI (t ||| 2 ^ q))), some (.int (nI (tr.length + 1))), some (.int (0))] [] (mI (mI (mI u1 165 6 (nI (tr.length + 1))) 165 7 W) 165 8 (nI (t ||| 2 ^ q)))))))) := by
      intro W v5 hW
      subst hW
      rw [e165, e165]
      cases hR' : R with
      | none =>
        rw [hR'] at hrc
        obtain ⟨r6, r7⟩ := hrc
        rw [r7]
        refine ⟨fun _ => better v5 (Or.inl hR'), fun x => absurd ?_ x⟩
        rw [Int32.lt_iff_toInt_lt, nI_toInt (by omega)]
        have : (-1 : Int32).toInt = -1 := rfl
        omega
      | some z =>
        have hz := hR z hR'
        have hz1 := hz.2.1
        have hz2 := hz.2.2.1
        rw [hR'] at hrc
        obtain ⟨r6, r7, r8, r9⟩ := hrc
        rw [r6, r7]
        simp (disch := omega) only [la1, la2, lt1, lt2, nI_add, pk_mul, nI_clamp, vpn, nI_leI, nI_ltI, nI_eq, ll1, ll2, ll3, ll4, le1, le2, true_and, and_true, not_true_eq_false, not_false_eq_true, forall_const, false_implies, implies_true, if_true, if_false, ite_true, ite_false, and_self, false_and, and_false]
        refine ⟨fun x => better v5 (Or.inr ⟨z, hR', Or.inl x⟩), fun x => ⟨fun x2 => worse v5 z hR' (by omega), fun x2 => ⟨fun x3 => worse v5 z hR' (by omega), fun x3 => better v5 (Or.inr ⟨z, hR', Or.inr ⟨x2, by omega⟩⟩)⟩⟩⟩
    refine CV_of mk_X3_goOn.2.2 rfl (B_GD_goOn_0 ?_)
    rw [hs.2.2.1 3 (by omega) (by omega) (by omega), hs.2.2.2.1, o1]
    rw [nI_clamp (show tr.length < 2 ^ 31 by omega), nI_clamp (show q < 2 ^ 31 by omega), e23, nI_1]
    refine ⟨fun x => absurd x (nI_ge (by omega) (by omega)), fun _ => ⟨fun _ => ⟨vp_in_nI (by omega) (by decide), vp_in_nI (by omega) (by decide), fun x => ?_, fun x => ?_⟩, fun x => absurd (nI_lt (a := tr.length) (b := 8) (by omega) (by omega)) x⟩⟩
    · rcases stAt_cases (g := g) (s := g) (q := q) hA with ⟨e, -⟩ | ⟨a, ha, e, -⟩
      · exact absurd e x
      · have eb : brQ g bv q = bv a := by unfold brQ; rw [e, if_neg (nI_m1 (by omega)), nI_clamp (by omega)]
        have e166 : (mI V 167 tr.length (nI q)).1 166 a = nI (bv a) := by rw [hs1.1 166 (by omega) (by omega) (by omega)]; exact hs.2.2.2.2 a ha
        rw [e, nI_clamp (by omega), e166]
        exact ⟨vp_in_nI (by omega) (by decide), cmp _ _ (by rw [nI_add, eb])⟩
    · have eb : brQ g bv q = 0 := by unfold brQ; rw [if_pos x]
      rw [x]
      exact cmp _ _ (by rw [eb]; rfl)
end RouteC
