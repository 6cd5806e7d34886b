/-! what is read of the tokens: the model -/
def spS (v : Int64) (p : Int32) : Int64 := if p ≤ 0 then v else lN 27 * v + p.toInt64 - lN 96
def spF (p1 p2 p3 p4 p5 p6 p7 : Int32) : Int64 := spS (spS (spS (spS (spS (lN 27 * (p1.toInt64 - lN 96) + p2.toInt64 - lN 96) p3) p4) p5) p6) p7
def FtM (V : Mm) (e : FT) : Prop := V.1 234 10 = nI e.1 ∧ V.1 234 11 = nI e.2
/-- nothing but the token, the fault and what was told has changed -/
def FrT (u V : Mm) : Prop := (∀ b, b ≠ 234 → V.1 b = u.1 b) ∧ (∀ b, b ≠ 234 → V.2 b = u.2 b) ∧ ∀ k, k < 5 ∨ 13 < k → V.1 234 k = u.1 234 k
theorem FrT.rf {u : Mm} : FrT u u := ⟨fun _ _ => rfl, fun _ _ => rfl, fun _ _ => rfl⟩
theorem FrT.tr {u v w : Mm} (h : FrT u v) (h2 : FrT v w) : FrT u w := ⟨fun b hb => (h2.1 b hb).trans (h.1 b hb), fun b hb => (h2.2.1 b hb).trans (h.2.1 b hb), fun k hk => (h2.2.2 k hk).trans (h.2.2 k hk)⟩
theorem FrT.mI {u v : Mm} {j : Nat} {x : Int32} (h : FrT u v) (hj : 5 ≤ j ∧ j ≤ 13) : FrT u (mI v 234 j x) := ⟨fun b hb => by rw [mI_r hb]; exact h.1 b hb, h.2.1, fun k hk => by rw [mI_n (by omega)]; exact h.2.2 k hk⟩
theorem FrM.t {u v : Mm} (h : FrM u v) : FrT u v := ⟨h.1, h.2.1, fun k hk => h.2.2 k (by omega)⟩
theorem RdM.cg {V V' : Mm} {f : Nat → Nat} {n m : Nat} {ρ : RDS} (h : RdM V f n m ρ) (h1 : ∀ k, k ≤ 10 → V'.1 234 k = V.1 234 k) (h2 : V'.2 234 = V.2 234) : RdM V' f n m ρ := by
  unfold RdM tokM
  rw [h1 3 (by omega), h1 4 (by omega), h1 10 (by omega), h1 6 (by omega), h1 7 (by omega), h1 8 (by omega), h1 9 (by omega), h1 5 (by omega), h2]
  exact h
theorem TBm.cg {u V : Mm} {f : Nat → Nat} (h : TBm u f) (e : V.1 235 = u.1 235) : TBm V f := fun i hi => by rw [e]; exact h i hi
theorem FrT.tb {u V : Mm} {f : Nat → Nat} (h : FrT u V) (hb : TBm u f) : TBm V f := hb.cg (h.1 235 (by omega))
section RdM
variable {X : Xc} {d : Nat} {u : Mm} {f : Nat → Nat} {n m : Nat} {ρ : RDS}
theorem c_spelt {K : Int64 → Mm → Prop} {p1 p2 p3 p4 p5 p6 p7 : Int32} (hd : 1 ≤ d) (hK : K (spF p1 p2 p3 p4 p5 p6 p7) u) : CJ X d 197 [.int p1, .int p2, .int p3, .int p4, .int p5, .int p6, .int p7] u K := by
  obtain ⟨d, rfl, -⟩ := dpos hd
  refine CJ_of mk_X13_spelt.2.2 rfl (B_M_spelt_0 ?_)
  unfold spF spS at hK
  by_cases h3 : p3 ≤ 0 <;> by_cases h4 : p4 ≤ 0 <;> by_cases h5 : p5 ≤ 0 <;> by_cases h6 : p6 ≤ 0 <;> by_cases h7 : p7 ≤ 0 <;> simp only [h3, h4, h5, h6, h7, if_true, if_false, true_implies, false_implies, not_true_eq_false, not_false_eq_true, and_true, true_and] at hK ⊢ <;> exact hK
theorem c_mwordOf {K : Int64 → Mm → Prop} {w : Nat} (hd : 2 ≤ d) (hw : w < 24) (hK : K (lN (e27 (wrds.getD w []))) u) : CJ X d 198 [.int (nI w)] u K := by
  obtain ⟨d, rfl, hd1⟩ := dpos hd
  have wq : ∀ k, k < 24 → nI w = nI k → w = k := fun k hk q => (nI_eq (by omega) (by omega)).mp q
  have w23 : ((nI w).toInt < 0 ∨ 22 < (nI w).toInt) → w = 23 := fun q => by rw [nI_toInt (by omega)] at q; omega
  exact CJ_of mk_X13_wordOf.2.2 rfl (B_M_wordOf_0 ⟨⟨fun q => c_spelt hd1 (by rw [show spF 115 113 117 97 114 101 0 = lN (e27 (wrds.getD 0 [])) by decide +kernel, ← wq 0 (by omega) q]; exact hK), fun q => c_spelt hd1 (by rw [show spF 112 97 116 104 0 0 0 = lN (e27 (wrds.getD 1 [])) by decide +kernel, ← wq 1 (by omega) q]; exact hK), fun q => c_spelt hd1 (by rw [show spF 107 105 110 100 0 0 0 = lN (e27 (wrds.getD 2 [])) by decide +kernel, ← wq 2 (by omega) q]; exact hK), fun q => c_spelt hd1 (by rw [show spF 115 116 97 116 117 101 0 = lN (e27 (wrds.getD 3 [])) by decide +kernel, ← wq 3 (by omega) q]; exact hK), fun q => c_spelt hd1 (by rw [show spF 119 97 108 107 101 114 0 = lN (e27 (wrds.getD 4 [])) by decide +kernel, ← wq 4 (by omega) q]; exact hK), fun q => c_spelt hd1 (by rw [show spF 108 105 107 101 115 0 0 = lN (e27 (wrds.getD 5 [])) by decide +kernel, ← wq 5 (by omega) q]; exact hK), fun q => c_spelt hd1 (by rw [show spF 97 114 114 101 97 114 115 = lN (e27 (wrds.getD 6 [])) by decide +kernel, ← wq 6 (by omega) q]; exact hK), fun q => c_spelt hd1 (by rw [show spF 109 111 118 101 115 0 0 = lN (e27 (wrds.getD 7 [])) by decide +kernel, ← wq 7 (by omega) q]; exact hK), fun q => c_spelt hd1 (by rw [show spF 99 108 101 97 110 115 0 = lN (e27 (wrds.getD 8 [])) by decide +kernel, ← wq 8 (by omega) q]; exact hK), fun q => c_spelt hd1 (by rw [show spF 115 104 111 119 115 0 0 = lN (e27 (wrds.getD 9 [])) by decide +kernel, ← wq 9 (by omega) q]; exact hK), fun q => c_spelt hd1 (by rw [show spF 108 101 110 100 115 0 0 = lN (e27 (wrds.getD 10 [])) by decide +kernel, ← wq 10 (by omega) q]; exact hK), fun q => c_spelt hd1 (by rw [show spF 100 97 121 0 0 0 0 = lN (e27 (wrds.getD 11 [])) by decide +kernel, ← wq 11 (by omega) q]; exact hK), fun q => c_spelt hd1 (by rw [show spF 111 114 0 0 0 0 0 = lN (e27 (wrds.getD 12 [])) by decide +kernel, ← wq 12 (by omega) q]; exact hK), fun q => c_spelt hd1 (by rw [show spF 97 110 100 0 0 0 0 = lN (e27 (wrds.getD 13 [])) by decide +kernel, ← wq 13 (by omega) q]; exact hK), fun q => c_spelt hd1 (by rw [show spF 110 111 116 0 0 0 0 = lN (e27 (wrds.getD 14 [])) by decide +kernel, ← wq 14 (by omega) q]; exact hK), fun q => c_spelt hd1 (by rw [show spF 101 118 105 99 116 101 100 = lN (e27 (wrds.getD 15 [])) by decide +kernel, ← wq 15 (by omega) q]; exact hK), fun q => c_spelt hd1 (by rw [show spF 115 116 97 105 110 101 100 = lN (e27 (wrds.getD 16 [])) by decide +kernel, ← wq 16 (by omega) q]; exact hK), fun q => c_spelt hd1 (by rw [show spF 115 111 108 118 101 110 116 = lN (e27 (wrds.getD 17 [])) by decide +kernel, ← wq 17 (by omega) q]; exact hK), fun q => c_spelt hd1 (by rw [show spF 111 102 0 0 0 0 0 = lN (e27 (wrds.getD 18 [])) by decide +kernel, ← wq 18 (by omega) q]; exact hK), fun q => c_spelt hd1 (by rw [show spF 97 116 0 0 0 0 0 = lN (e27 (wrds.getD 19 [])) by decide +kernel, ← wq 19 (by omega) q]; exact hK), fun q => c_spelt hd1 (by rw [show spF 112 117 114 115 101 0 0 = lN (e27 (wrds.getD 20 [])) by decide +kernel, ← wq 20 (by omega) q]; exact hK), fun q => c_spelt hd1 (by rw [show spF 111 119 101 115 0 0 0 = lN (e27 (wrds.getD 21 [])) by decide +kernel, ← wq 21 (by omega) q]; exact hK), fun q => c_spelt hd1 (by rw [show spF 103 108 97 110 99 101 115 = lN (e27 (wrds.getD 22 [])) by decide +kernel, ← wq 22 (by omega) q]; exact hK)⟩, fun q => c_spelt hd1 (by rw [show spF 110 117 109 98 101 114 0 = lN (e27 (wrds.getD 23 [])) by decide +kernel, ← w23 q]; exact hK)⟩)
theorem c_misWd {K : Int32 → Mm → Prop} {w : Nat} (hd : 3 ≤ d) (hw : w < 24) (hr : RdM u f n m ρ) (hk : tkOk ρ n) (h1 : ρ.2.1 = 2 ∧ wix ρ.2.2.2.1 = w → K 1 u) (h0 : ¬ (ρ.2.1 = 2 ∧ wix ρ.2.2.2.1 = w) → K 0 u) : CI X d 199 [.ref 234, .int (nI w)] u K := by
  obtain ⟨d, rfl, hd1⟩ := dpos hd
  have hk4 := hk.2.1
  refine CI_of mk_X13_isWord.2.2 rfl (B_M_isWord_0 ?_)
  rw [hr.2.2.2.2.1.1]
  refine ⟨fun q => h0 fun z => q (by rw [z.1]; rfl), fun q => ?_⟩
  have q : ρ.2.1 = 2 := (nI_eq (a := ρ.2.1) (b := 2) (by omega) (by omega)).mp q
  rw [hr.2.2.2.2.1.2.1 q]
  refine c_mwordOf hd1 hw ?_
  have hx : lN (e27 ρ.2.2.2.1) = lN (e27 (wrds.getD w [])) ↔ wix ρ.2.2.2.1 = w := by
    rw [e27_iff (hk.2.2.2.1 q) (wrds_ok w hw), wix_iff hw]
    exact ⟨fun e => e.symm, fun e => e.symm⟩
  exact ⟨fun y => h0 fun z => y ((lg_cmp_eq _ _).mpr (hx.mpr z.2)), fun y => h1 ⟨q, hx.mp ((lg_cmp_eq _ _).mp y)⟩⟩
theorem c_misNm {K : Int32 → Mm → Prop} (hd : 3 ≤ d) (hr : RdM u f n m ρ) (hk : tkOk ρ n) (h1 : isNm ρ = true → K 1 u) (h0 : isNm ρ = false → K 0 u) : CI X d 201 [.ref 234] u K := by
  obtain ⟨d, rfl, hd1⟩ := dpos hd
  have hk4 := hk.2.1
  refine CI_of mk_X13_isName.2.2 rfl (B_M_isName_0 ?_)
  rw [hr.2.2.2.2.1.1]
  refine ⟨fun q => ?_, fun q => h0 ?_⟩
  · have q : ρ.2.1 = 2 := (nI_eq (a := ρ.2.1) (b := 2) (by omega) (by omega)).mp q
    suffices hz : (∀ k, k < 0 → wix ρ.2.2.2.1 ≠ k) → VI X d 201 K 12 [some (.ref 234), some (.int (nI 0))] [] u from hz (fun k h => absurd h (by omega))
    refine lup (n := 24) (W := fun w => (∀ k, k < w → wix ρ.2.2.2.1 ≠ k) → VI X d 201 K 12 [some (.ref 234), some (.int (nI w))] [] u) ?_
    intro w hw ih hp
    refine B_M_isName_12 ?_
    rw [nI_1, hr.2.2.2.2.1.2.1 q]
    refine ⟨fun z => h1 ?_, fun z => ?_⟩
    · have z := (ll4 (n := 23) (m := w) (by omega) (by decide)).mp z
      have z : 23 < w := z
      unfold isNm
      have : 24 ≤ wix ρ.2.2.2.1 := Nat.le_of_not_lt fun q => hp _ (by omega) rfl
      simp [q, this]
    · have z : ¬ 23 < w := mt (ll4 (n := 23) (m := w) (by omega) (by decide)).mpr z
      have hw : w < 24 := by omega
      refine c_mwordOf hd1 hw ?_
      have hx : lN (e27 ρ.2.2.2.1) = lN (e27 (wrds.getD w [])) ↔ wix ρ.2.2.2.1 = w := by
        rw [e27_iff (hk.2.2.2.1 q) (wrds_ok w hw), wix_iff hw]
        exact ⟨fun e => e.symm, fun e => e.symm⟩
      refine ⟨fun y => ih hw fun k hk => ?_, fun y => h0 ?_⟩
      · by_cases e : k = w
        · subst e; exact fun z => y ((lg_cmp_eq _ _).mpr (hx.mpr z))
        · exact hp k (by omega)
      · have := hx.mp ((lg_cmp_eq _ _).mp y)
        unfold isNm
        have h2 : ¬ 24 ≤ wix ρ.2.2.2.1 := by omega
        simp [h2]
  · have q : ¬ ρ.2.1 = 2 := fun z => q (by rw [z]; rfl)
    unfold isNm
    simp [q]
theorem c_misSn {K : Int32 → Mm → Prop} {c : Nat} (hd : 1 ≤ d) (hc : c < 1000) (hr : RdM u f n m ρ) (hk : tkOk ρ n) (h1 : ρ.2.1 = 4 ∧ ρ.2.2.1 = c → K 1 u) (h0 : ¬ (ρ.2.1 = 4 ∧ ρ.2.2.1 = c) → K 0 u) : CI X d 200 [.ref 234, .int (nI c)] u K := by
  obtain ⟨d, rfl, hd1⟩ := dpos hd
  have hk4 := hk.2.1
  have hv := hk.2.2.1
  refine CI_of mk_X13_isSign.2.2 rfl (B_M_isSign_0 ?_)
  rw [hr.2.2.2.2.1.1]
  refine ⟨fun q => h0 fun z => q (by rw [z.1]; rfl), fun q => ?_⟩
  have q : ρ.2.1 = 4 := (nI_eq (a := ρ.2.1) (b := 4) (by omega) (by omega)).mp q
  rw [hr.2.2.2.2.1.2.2.2 q]
  exact ⟨fun y => h0 fun z => y (by rw [z.2]), fun y => h1 ⟨q, (nI_eq (by omega) (by omega)).mp y⟩⟩
theorem c_mbad {K : Int32 → Mm → Prop} {k : Nat} (hd : 1 ≤ d) (hr : RdM u f n m ρ) (hk : tkOk ρ n) (h1 : k = 1 ∨ ρ.2.1 ≠ 1) (hK : ∀ V, FrT u V → FtM V (k, ρ.1) → K 0 V) : CI X d 202 [.ref 234, .int (nI k)] u K := by
  obtain ⟨d, rfl, hd1⟩ := dpos hd
  have hk4 := hk.2.1
  have fin : K 0 (mI (mI u 234 10 (nI k)) 234 11 ((mI u 234 10 (nI k)).1 234 6)) := hK _ ((FrT.rf.mI (by omega)).mI (by omega)) ⟨by rw [mI_n (by omega), mI_s], by rw [mI_s, mI_n (by omega)]; exact hr.2.2.2.1⟩
  refine CI_of mk_X13_bad.2.2 rfl (B_M_bad_0 ⟨fun _ => fin, fun q => ?_⟩)
  rw [hr.2.2.2.2.1.1] at q
  have q : ρ.2.1 = 1 := (nI_eq (a := ρ.2.1) (b := 1) (by omega) (by omega)).mp q
  have e : k = 1 := h1.resolve_right (fun z => z q)
  subst e
  exact fin
theorem c_mrNum {K : Int32 → Mm → Prop} {a b : Nat} (hd : 4 ≤ d) (hn : n ≤ 940) (hm : m ≤ 940) (hb : TBm u f) (hr : RdM u f n m ρ) (hk : tkOk ρ n) (ha : a < 1000) (hbb : b < 1000) (h0 : ∀ e, rNum f n m ρ a b = .inl e → ∀ V, FrT u V → FtM V e → K 0 V) (h1 : ∀ v ρ', rNum f n m ρ a b = .inr (v, ρ') → ∀ V, FrT u V → RdM V f n m ρ' → V.1 234 13 = nI v → K 1 V) : CI X d 203 [.ref 234, .int (nI a), .int (nI b)] u K := by
  obtain ⟨d, rfl, hd1⟩ := dpos hd
  have hk4 := hk.2.1
  have hv := hk.2.2.1
  unfold rNum at h0 h1
  refine CI_of mk_X13_readNumber.2.2 rfl (B_M_readNumber_0 ?_)
  rw [hr.2.2.2.2.1.1]
  refine ⟨fun q => ?_, fun q => ?_⟩
  · have q : ρ.2.1 = 3 := (nI_eq (a := ρ.2.1) (b := 3) (by omega) (by omega)).mp q
    rw [if_pos q] at h0 h1
    rw [hr.2.2.2.2.1.2.2.1 q]
    refine c_misIn (by omega) (fun y1 y2 => ⟨fun _ => ?_, fun z => absurd z (by decide)⟩) (fun y => ⟨fun z => absurd rfl z, fun _ => ?_⟩)
    · have y1 := mt (nI_ltI (a := ρ.2.2.1) (b := a) (by omega) (by omega)).mpr y1
      have y2 := mt (nI_ltI (a := b) (b := ρ.2.2.1) (by omega) (by omega)).mpr y2
      rw [if_pos (by omega)] at h1
      rw [hr.2.2.2.2.1.2.2.1 q]
      refine c_mgo hd1 hn hm (fun i hi => by rw [mI_r (by omega)]; exact hb i hi) (hr.cg (fun k hk => mI_n (by omega)) rfl) (by omega) fun V v1 v2 => h1 _ _ rfl V ((FrT.rf.mI (by omega)).tr v1.t) v2 (by rw [v1.2.2 13 (by omega), mI_s])
    · have y : ¬ (a ≤ ρ.2.2.1 ∧ ρ.2.2.1 ≤ b) := by
        rcases y with y | y
        · have := (nI_ltI (by omega) (by omega)).mp y; omega
        · have := (nI_ltI (by omega) (by omega)).mp y; omega
      rw [if_neg y] at h0
      exact c_mbad (k := 2) (by omega) hr hk (Or.inr (by omega)) fun V v1 v2 => ⟨Or.inl rfl, h0 _ rfl V v1 v2⟩
  · have q : ¬ ρ.2.1 = 3 := fun z => q (by rw [z]; rfl)
    rw [if_neg q] at h0
    exact c_mbad (k := 1) (by omega) hr hk (Or.inl rfl) fun V v1 v2 => ⟨Or.inl rfl, h0 _ rfl V v1 v2⟩
theorem c_mrEnd {K : Int32 → Mm → Prop} (hd : 4 ≤ d) (hn : n ≤ 940) (hm : m ≤ 940) (hb : TBm u f) (hr : RdM u f n m ρ) (hk : tkOk ρ n) (h0 : ∀ e, rSgn f n m ρ 59 = .inl e → ∀ V, FrT u V → FtM V e → K 0 V) (h1 : ∀ ρ', rSgn f n m ρ 59 = .inr ρ' → ∀ V, FrT u V → RdM V f n m ρ' → K 1 V) : CI X d 204 [.ref 234] u K := by
  obtain ⟨d, rfl, hd1⟩ := dpos hd
  unfold rSgn at h0 h1
  refine CI_of mk_X13_readEnd.2.2 rfl (B_M_readEnd_0 (c_misSn (c := 59) (by omega) (by omega) hr hk (fun q => ⟨fun _ => ?_, fun z => absurd z (by decide)⟩) (fun q => ⟨fun z => absurd rfl z, fun _ => ?_⟩)))
  · rw [if_pos q] at h1
    exact c_mgo hd1 hn hm hb hr (by omega) fun V v1 v2 => h1 _ rfl V v1.t v2
  · rw [if_neg q] at h0
    exact c_mbad (k := 1) (by omega) hr hk (Or.inl rfl) fun V v1 v2 => ⟨Or.inl rfl, h0 _ rfl V v1 v2⟩
/-- the model's names, as letters -/
def NmM (u : Mm) (N base cnt : Nat) (nl : Nat → List Nat) : Prop := cnt ≤ 8 ∧ base + cnt ≤ 29 ∧ ∀ i, i < cnt → lOk (nl (base + i)) ∧ u.2 N (base + i) = lN (e27 (nl (base + i)))
theorem NmM.cg {V : Mm} {N base cnt : Nat} {nl : Nat → List Nat} (h : NmM u N base cnt nl) (e2 : V.2 N = u.2 N) : NmM V N base cnt nl := by
  unfold NmM; rw [e2]; exact h
theorem c_mfind241 {K : Int32 → Mm → Prop} {nl : Nat → List Nat} {l : List Nat} {base cnt : Nat} (hd : 1 ≤ d) (h : NmM u 241 base cnt nl) (hl : lOk l) (hK : K (match fnd nl base cnt l with | none => -1 | some j => nI j) u) : CI X d 208 [.ref 241, .int (nI base), .int (nI cnt), .long (lN (e27 l))] u K := by
  obtain ⟨d, rfl, -⟩ := dpos hd
  obtain ⟨hc, hb, hn⟩ := h
  have hK : K (fstI (fun i => decide (nl (base + i) = l)) cnt) u := by rw [(fO_eq (by omega)).1]; exact hK
  refine CI_of mk_X13_findIn.2.2 rfl (B_M_findIn241_0 ?_)
  suffices hz : (∀ i, i < 0 → nl (base + i) ≠ l) → VI X d 208 K 3 [some (.ref 241), some (.int (nI base)), some (.int (nI cnt)), some (.long (lN (e27 l))), none, some (.int (nI 0))] [] u from hz (fun i h => absurd h (by omega))
  refine lup (n := cnt) (W := fun j => (∀ i, i < j → nl (base + i) ≠ l) → VI X d 208 K 3 [some (.ref 241), some (.int (nI base)), some (.int (nI cnt)), some (.long (lN (e27 l))), none, some (.int (nI j))] [] u) ?_
  intro j hj ih hp
  refine B_M_findIn241_3 ?_
  rw [nI_add, nI_1, nI_clamp (by omega)]
  refine ⟨fun z => ?_, fun z => ?_⟩
  · have z := (nI_leI (by omega) (by omega)).mp z
    rw [fstI_none (fun k hk => decide_eq_false (hp k (by omega)))] at hK
    exact hK
  · have z := mt (nI_leI (a := cnt) (b := j) (by omega) (by omega)).mpr z
    obtain ⟨h1, h2⟩ := hn j (by omega)
    rw [h2]
    refine ⟨vp_in_nI (by omega) (by decide), fun y => ih (by omega) fun i hi => ?_, fun y => ?_⟩
    · by_cases e : i = j
      · subst e; exact fun q => y ((lg_cmp_eq _ _).mpr (by rw [q]))
      · exact hp i (by omega)
    · rw [fstI_some (j := j) (decide_eq_true ((e27_iff h1 hl).mp ((lg_cmp_eq _ _).mp y))) (fun k hk => decide_eq_false (hp k (by omega))) (by omega) (by omega)] at hK
      exact hK
theorem c_mfind242 {K : Int32 → Mm → Prop} {nl : Nat → List Nat} {l : List Nat} {base cnt : Nat} (hd : 1 ≤ d) (h : NmM u 242 base cnt nl) (hl : lOk l) (hK : K (match fnd nl base cnt l with | none => -1 | some j => nI j) u) : CI X d 208 [.ref 242, .int (nI base), .int (nI cnt), .long (lN (e27 l))] u K := by
  obtain ⟨d, rfl, -⟩ := dpos hd
  obtain ⟨hc, hb, hn⟩ := h
  have hK : K (fstI (fun i => decide (nl (base + i) = l)) cnt) u := by rw [(fO_eq (by omega)).1]; exact hK
  refine CI_of mk_X13_findIn.2.2 rfl (B_M_findIn242_0 ?_)
  suffices hz : (∀ i, i < 0 → nl (base + i) ≠ l) → VI X d 208 K 3 [some (.ref 242), some (.int (nI base)), some (.int (nI cnt)), some (.long (lN (e27 l))), none, some (.int (nI 0))] [] u from hz (fun i h => absurd h (by omega))
  refine lup (n := cnt) (W := fun j => (∀ i, i < j → nl (base + i) ≠ l) → VI X d 208 K 3 [some (.ref 242), some (.int (nI base)), some (.int (nI cnt)), some (.long (lN (e27 l))), none, some (.int (nI j))] [] u) ?_
  intro j hj ih hp
  refine B_M_findIn242_3 ?_
  rw [nI_add, nI_1, nI_clamp (by omega)]
  refine ⟨fun z => ?_, fun z => ?_⟩
  · have z := (nI_leI (by omega) (by omega)).mp z
    rw [fstI_none (fun k hk => decide_eq_false (hp k (by omega)))] at hK
    exact hK
  · have z := mt (nI_leI (a := cnt) (b := j) (by omega) (by omega)).mpr z
    obtain ⟨h1, h2⟩ := hn j (by omega)
    rw [h2]
    refine ⟨vp_in_nI (by omega) (by decide), fun y => ih (by omega) fun i hi => ?_, fun y => ?_⟩
    · by_cases e : i = j
      · subst e; exact fun q => y ((lg_cmp_eq _ _).mpr (by rw [q]))
      · exact hp i (by omega)
    · rw [fstI_some (j := j) (decide_eq_true ((e27_iff h1 hl).mp ((lg_cmp_eq _ _).mp y))) (fun k hk => decide_eq_false (hp k (by omega))) (by omega) (by omega)] at hK
      exact hK
theorem nm_k {ρ : RDS} (h : isNm ρ = true) : ρ.2.1 = 2 := by unfold isNm at h; simp at h; exact h.1
theorem c_misOne {K : Int32 → Mm → Prop} {nl : Nat → List Nat} {base cnt : Nat} (hd : 4 ≤ d) (h : NmM u 242 base cnt nl) (hr : RdM u f n m ρ) (hk : tkOk ρ n) (h0 : ∀ e, rLook nl base cnt ρ = .inl e → ∀ V, FrT u V → FtM V e → K 0 V) (h1 : ∀ j, j < cnt → rLook nl base cnt ρ = .inr j → ∀ V, FrT u V → RdM V f n m ρ → V.1 234 13 = nI j → K 1 V) : CI X d 210 [.ref 234, .int (nI base), .int (nI cnt)] u K := by
  obtain ⟨d, rfl, hd1⟩ := dpos hd
  unfold rLook at h0 h1
  refine CI_of mk_X13_isOne.2.2 rfl (B_M_isOne_0 (c_misNm (by omega) hr hk (fun q => ⟨fun _ => ?_, fun z => absurd z (by decide)⟩) (fun q => ⟨fun z => absurd rfl z, fun _ => ?_⟩)))
  · rw [if_pos q] at h0 h1
    have q2 := nm_k q
    rw [hr.2.2.2.2.1.2.1 q2]
    refine c_mfind242 (by omega) h (hk.2.2.2.1 q2) ?_
    rw [mI_s]
    cases hf : fnd nl base cnt ρ.2.2.2.1 with
    | none =>
      rw [hf] at h0
      refine ⟨fun z => absurd rfl z, fun _ => c_mbad (k := 3) (by omega) (hr.cg (fun k hk => mI_n (by omega)) rfl) hk (Or.inr (by omega)) fun V v1 v2 => ⟨fun _ => h0 _ rfl V ((FrT.rf.mI (by omega)).tr v1) v2, fun z => absurd rfl z⟩⟩
    | some j =>
      rw [hf] at h1
      have hc := h.1
      have hj := ((fO_eq (n := cnt) (by omega)).2 j hf).1
      exact ⟨fun _ => h1 j hj rfl _ (FrT.rf.mI (by omega)) (hr.cg (fun k hk => mI_n (by omega)) rfl) mI_s, fun z => absurd z (nI_m1 (by omega))⟩
  · rw [if_neg (by rw [q]; decide)] at h0
    exact c_mbad (k := 1) (by omega) hr hk (Or.inl rfl) fun V v1 v2 => ⟨Or.inl rfl, h0 _ rfl V v1 v2⟩
theorem rLook_k {nl : Nat → List Nat} {base cnt j : Nat} (h : rLook nl base cnt ρ = .inr j) : ρ.2.1 = 2 := by
  unfold rLook at h
  split at h
  · exact nm_k (by assumption)
  · cases h
theorem c_mrOne {K : Int32 → Mm → Prop} {nl : Nat → List Nat} {base cnt : Nat} (hd : 5 ≤ d) (hn : n ≤ 940) (hm : m ≤ 940) (hb : TBm u f) (h : NmM u 242 base cnt nl) (hr : RdM u f n m ρ) (hk : tkOk ρ n) (h0 : ∀ e, rNamed f n m nl base cnt ρ = .inl e → ∀ V, FrT u V → FtM V e → K 0 V) (h1 : ∀ j ρ', j < cnt → rNamed f n m nl base cnt ρ = .inr (j, ρ') → ∀ V, FrT u V → RdM V f n m ρ' → V.1 234 13 = nI j → K 1 V) : CI X d 211 [.ref 234, .int (nI base), .int (nI cnt)] u K := by
  obtain ⟨d, rfl, hd1⟩ := dpos hd
  unfold rNamed at h0 h1
  refine CI_of mk_X13_readOne.2.2 rfl (B_M_readOne_0 (c_misOne hd1 h hr hk (fun e he V v1 v2 => ⟨fun z => absurd rfl z, fun _ => ?_⟩) (fun j hj he V v1 v2 v3 => ⟨fun _ => ?_, fun z => absurd z (by decide)⟩)))
  · rw [he] at h0
    exact h0 e rfl V v1 v2
  · rw [he] at h1
    exact c_mgo (by omega) hn hm (v1.tb hb) v2 (by rw [rLook_k he]; omega) fun V' x1 x2 => h1 j _ hj rfl V' (v1.tr x1.t) x2 (by rw [x1.2.2 13 (by omega)]; exact v3)
/-- of the names that stand -/
theorem c_mrNamed {K : Int32 → Mm → Prop} {nl : Nat → List Nat} {base cnt : Nat} (hd : 4 ≤ d) (hn : n ≤ 940) (hm : m ≤ 940) (hb : TBm u f) (h : NmM u 241 base cnt nl) (hr : RdM u f n m ρ) (hk : tkOk ρ n) (h0 : ∀ e, rNamed f n m nl base cnt ρ = .inl e → ∀ V, FrT u V → FtM V e → K 0 V) (h1 : ∀ j ρ', j < cnt → rNamed f n m nl base cnt ρ = .inr (j, ρ') → ∀ V, FrT u V → RdM V f n m ρ' → V.1 234 13 = nI j → K 1 V) : CI X d 301 [.ref 234, .int (nI base), .int (nI cnt)] u K := by
  obtain ⟨d, rfl, hd1⟩ := dpos hd
  unfold rNamed rLook at h0 h1
  refine CI_of mk_X13_readNamed.2.2 rfl (B_M_readNamed_0 (c_misNm (by omega) hr hk (fun q => ⟨fun _ => ?_, fun z => absurd z (by decide)⟩) (fun q => ⟨fun z => absurd rfl z, fun _ => ?_⟩)))
  · rw [if_pos q] at h0 h1
    have q2 := nm_k q
    rw [hr.2.2.2.2.1.2.1 q2]
    refine c_mfind241 (by omega) h (hk.2.2.2.1 q2) ?_
    rw [mI_s]
    cases hf : fnd nl base cnt ρ.2.2.2.1 with
    | none =>
      rw [hf] at h0
      refine ⟨fun z => absurd rfl z, fun _ => c_mbad (k := 3) (by omega) (hr.cg (fun k hk => mI_n (by omega)) rfl) hk (Or.inr (by omega)) fun V v1 v2 => ⟨Or.inl rfl, h0 _ rfl V ((FrT.rf.mI (by omega)).tr v1) v2⟩⟩
    | some j =>
      rw [hf] at h1
      have hc := h.1
      have hj := ((fO_eq (n := cnt) (by omega)).2 j hf).1
      refine ⟨fun _ => c_mgo (by omega) hn hm (fun i hi => by rw [mI_r (by omega)]; exact hb i hi) (hr.cg (fun k hk => mI_n (by omega)) rfl) (by omega) fun V v1 v2 => h1 j _ hj rfl V ((FrT.rf.mI (by omega)).tr v1.t) v2 (by rw [v1.2.2 13 (by omega), mI_s]), fun z => absurd z (nI_m1 (by omega))⟩
  · rw [if_neg (by rw [q]; decide)] at h0
    exact c_mbad (k := 1) (by omega) hr hk (Or.inl rfl) fun V v1 v2 => ⟨Or.inl rfl, h0 _ rfl V v1 v2⟩
end RdM
/-! tokens go on -/
def Adv (ρ ρ' : RDS) : Prop := ρ.2.2.2.2 ≤ ρ'.2.2.2.2 ∧ (ρ'.2.1 ≠ 0 → ρ'.2.1 ≠ 1 → ρ.2.2.2.2 + 1 ≤ ρ'.2.2.2.2)
theorem Adv.tr {a b c : RDS} (h : Adv a b) (h2 : Adv b c) : Adv a c := ⟨Nat.le_trans h.1 h2.1, fun q1 q2 => Nat.le_trans (by have := h.1; omega) (h2.2 q1 q2)⟩
theorem nxt_ok {f : Nat → Nat} {n m : Nat} {ρ : RDS} (hn : n ≤ 940) (hm : m ≤ 940) (h : tkOk ρ n) : tkOk (nxt f n m ρ) n ∧ Adv ρ (nxt f n m ρ) := by
  refine ⟨tokF_ok h.2.2.2.2 hn hm, ?_⟩
  have hs := h.2.2.2.2
  unfold nxt Adv
  generalize ρ.2.2.2.2 = s at hs
  have hr := rb_le' (f := f) hs
  unfold tokF
  by_cases h1 : m < n ∧ m ≤ s
  · rw [if_pos h1]; exact ⟨Nat.le_refl _, fun _ q => absurd rfl q⟩
  · rw [if_neg h1]
    by_cases h2 : n ≤ s
    · rw [if_pos h2]; exact ⟨Nat.le_refl _, fun q => absurd rfl q⟩
    · rw [if_neg h2]
      by_cases h3 : isLD (f s) = true
      · rw [if_pos h3]
        have hne : 1 ≤ (rb f n s).length := by rw [tk_rb (by omega) h3, List.length_cons]; omega
        have hk := (sk_le' (f := f) hr.1).1
        split
        · exact ⟨by show s ≤ sk f n (s + (rb f n s).length); omega, fun _ _ => by show s + 1 ≤ sk f n (s + (rb f n s).length); omega⟩
        · split
          · exact ⟨by show s ≤ sk f n (s + (rb f n s).length); omega, fun _ _ => by show s + 1 ≤ sk f n (s + (rb f n s).length); omega⟩
          · exact ⟨by show s ≤ sk f n (s + (rb f n s).length); omega, fun _ _ => by show s + 1 ≤ sk f n (s + (rb f n s).length); omega⟩
      · rw [if_neg h3]
        have hk := (sk_le' (f := f) (show s + 1 ≤ n by omega)).1
        split
        · exact ⟨by show s ≤ sk f n (s + 1); omega, fun _ _ => by show s + 1 ≤ sk f n (s + 1); omega⟩
        · exact ⟨by show s ≤ sk f n (s + 1); omega, fun _ _ => by show s + 1 ≤ sk f n (s + 1); omega⟩
