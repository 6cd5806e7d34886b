/-! a city's lines: the model -/
def NmsM (V : Mm) (D : DR) : Prop := (∀ i, i < nQ D.1 → V.2 242 i = lN (e27 (D.2.1 i))) ∧ (∀ k, k < nK D.1 → V.2 242 (8 + k) = lN (e27 (D.2.1 (8 + k)))) ∧ (∀ a, a < nA D.1 → V.2 242 (13 + a) = lN (e27 (D.2.1 (13 + a)))) ∧ ∀ w, w < nW' D.1 → V.2 242 (21 + w) = lN (e27 (D.2.1 (21 + w)))
def DrX (V : Mm) (R : Nat → Int32) (D : DR) : Prop := (∀ i, i < 198 → V.1 237 i = R i) ∧ NmsM V D ∧ (∀ i, i < 40 → V.1 245 i = if D.2.2.1 i then 1 else 0) ∧ V.1 234 25 = (if D.2.2.2 then 1 else 0)
abbrev DrM (V : Mm) (D : DR) : Prop := DrX V D.1 D
def FrE (u V : Mm) : Prop := (∀ b, b ≠ 234 → b ≠ 237 → b ≠ 245 → V.1 b = u.1 b) ∧ (∀ b, b ≠ 234 → b ≠ 242 → V.2 b = u.2 b) ∧ ∀ k, k < 5 ∨ (13 < k ∧ k ≠ 25) → V.1 234 k = u.1 234 k
theorem FrT.e {u V : Mm} (h : FrT u V) : FrE u V := ⟨fun b h1 _ _ => h.1 b h1, fun b h1 _ => h.2.1 b h1, fun k hk => h.2.2 k (by omega)⟩
theorem FrE.rf {u : Mm} : FrE u u := ⟨fun _ _ _ _ => rfl, fun _ _ _ => rfl, fun _ _ => rfl⟩
theorem FrE.tr {u v w : Mm} (h : FrE u v) (h2 : FrE v w) : FrE u w := ⟨fun b a1 a2 a3 => (h2.1 b a1 a2 a3).trans (h.1 b a1 a2 a3), fun b a1 a2 => (h2.2.1 b a1 a2).trans (h.2.1 b a1 a2), fun k hk => (h2.2.2 k hk).trans (h.2.2 k hk)⟩
theorem FrE.mI {u v : Mm} {a j : Nat} {x : Int32} (h : FrE u v) (ha : a = 237 ∨ a = 245 ∨ (a = 234 ∧ j = 25)) : FrE u (mI v a j x) := by
  refine ⟨fun b h1 h2 h3 => ?_, h.2.1, fun k hk => ?_⟩
  · rw [mI_r (by omega)]; exact h.1 b h1 h2 h3
  · rw [mI_n (by omega)]; exact h.2.2 k hk
theorem FrE.mJ {u v : Mm} {j : Nat} {x : Int64} (h : FrE u v) : FrE u (mJ v 242 j x) := ⟨h.1, fun b h1 h2 => by rw [mJ_r h2]; exact h.2.1 b h1 h2, h.2.2⟩
theorem DrX.cg {u V : Mm} {R : Nat → Int32} {D : DR} (h : DrX u R D) (h1 : V.1 237 = u.1 237) (h2 : V.1 245 = u.1 245) (h3 : V.2 242 = u.2 242) (h4 : V.1 234 25 = u.1 234 25) : DrX V R D := by
  unfold DrX NmsM; rw [h1, h2, h3, h4]; exact h
theorem FrT.dx {u V : Mm} {R : Nat → Int32} {D : DR} (h : FrT u V) (hx : DrX u R D) : DrX V R D := hx.cg (h.1 237 (by omega)) (h.1 245 (by omega)) (h.2.1 242 (by omega)) (h.2.2 25 (by omega))
theorem DrX.row {u : Mm} {R : Nat → Int32} {D : DR} {j : Nat} {x : Int32} (h : DrX u R D) : DrX (mI u 237 j x) (upd R j x) D := by
  refine ⟨fun i hi => ?_, h.2.1, fun i hi => by rw [mI_r (by omega)]; exact h.2.2.1 i hi, by rw [mI_r (by omega)]; exact h.2.2.2⟩
  by_cases e : i = j
  · subst e; rw [mI_s, pk_us]
  · rw [mI_n (by omega), pk_un e]; exact h.1 i hi
theorem DrX.nm {u : Mm} {R : Nat → Int32} {D : DR} (h : DrX u R D) (ho : DOk D) : NmM u 242 0 (nQ D.1) D.2.1 ∧ NmM u 242 8 (nK D.1) D.2.1 ∧ NmM u 242 13 (nA D.1) D.2.1 ∧ NmM u 242 21 (nW' D.1) D.2.1 := by
  obtain ⟨-, ⟨q1, q2, q3, q4⟩, -, -⟩ := h
  obtain ⟨⟨a1, a2, a3, a4, a5, a6, a7, a8, a9, a10, a11⟩, b, c, d, e, e2, g, h1, h2⟩ := ho
  refine ⟨⟨a2, by omega, fun i hi => ⟨?_, ?_⟩⟩, ⟨by omega, by omega, fun i hi => ⟨d i hi, q2 i hi⟩⟩, ⟨a6, by omega, fun i hi => ⟨(e i hi).2.2.2, q3 i hi⟩⟩, ⟨a8, by omega, fun i hi => ⟨(g i hi).2.2.2.2.2, q4 i hi⟩⟩⟩
  · rw [Nat.zero_add]; exact (b i hi).2
  · rw [Nat.zero_add]; exact q1 i hi
/-- a name in a place that isn't used yet -/
theorem NmsM.mJ {u : Mm} {D : DR} {j : Nat} {x : Int64} (h : NmsM u D) (hj : ¬ (j < nQ D.1 ∨ (8 ≤ j ∧ j < 8 + nK D.1) ∨ (13 ≤ j ∧ j < 13 + nA D.1) ∨ (21 ≤ j ∧ j < 21 + nW' D.1))) : NmsM (mJ u 242 j x) D := by
  obtain ⟨q1, q2, q3, q4⟩ := h
  exact ⟨fun i hi => by rw [mJ_n (by omega)]; exact q1 i hi, fun i hi => by rw [mJ_n (by omega)]; exact q2 i hi, fun i hi => by rw [mJ_n (by omega)]; exact q3 i hi, fun i hi => by rw [mJ_n (by omega)]; exact q4 i hi⟩
section ML
variable {X : Xc} {d : Nat} {u : Mm} {f : Nat → Nat} {n m : Nat} {ρ : RDS} {D : DR} {R : Nat → Int32}
def EnM (u : Mm) (f : Nat → Nat) (n m : Nat) : Prop := n ≤ 940 ∧ m ≤ 940 ∧ TBm u f
theorem EnM.fr {V : Mm} (h : EnM u f n m) (h1 : FrE u V) : EnM V f n m := ⟨h.1, h.2.1, h.2.2.cg (h1.1 235 (by omega) (by omega) (by omega))⟩
theorem c_mrFst {K : Int32 → Mm → Prop} {j M : Nat} {b : Bool} (hd : 4 ≤ d) (hE : EnM u f n m) (hj : j < 198) (hb : u.1 237 j = nI M ↔ b = true) (hr : RdM u f n m ρ) (hk : tkOk ρ n) (h2 : ρ.2.1 = 2) (h0 : ∀ e, rFst f n m b ρ = .inl e → ∀ V, FrT u V → FtM V e → K 0 V) (h1 : ∀ ρ', rFst f n m b ρ = .inr ρ' → b = false → ∀ V, FrT u V → RdM V f n m ρ' → K 1 V) : CI X d 212 [.ref 234, .int (nI j), .int (nI M)] u K := by
  obtain ⟨d, rfl, hd1⟩ := dpos hd
  unfold rFst at h0 h1
  refine CI_of mk_X13_readFirst.2.2 rfl (B_M_readFirst_0 ?_)
  rw [nI_clamp (by omega)]
  refine ⟨vp_in_nI hj (by decide), fun q => ?_, fun q => ?_⟩
  · have q : b = false := Bool.eq_false_iff.mpr fun z => q (hb.mpr z)
    rw [if_neg (by rw [q]; decide)] at h1
    exact c_mgo hd1 hE.1 hE.2.1 hE.2.2 hr (by omega) fun V v1 v2 => h1 _ rfl q V v1.t v2
  · rw [if_pos (hb.mp q)] at h0
    exact c_mbad (k := 4) (by omega) hr hk (Or.inr (by omega)) fun V v1 v2 => ⟨Or.inl rfl, h0 _ rfl V v1 v2⟩
theorem c_mput1 {K : Int32 → Mm → Prop} {j : Nat} (hd : 1 ≤ d) (hj : j < 198) (hK : K 1 (mI u 237 j (u.1 234 13))) : CI X d 213 [.ref 234, .int (nI j), .int 1] u K := by
  obtain ⟨d, rfl, hd1⟩ := dpos hd
  refine CI_of mk_X13_put.2.2 rfl (B_M_put_0 ⟨fun z => absurd z (by decide), fun _ => ?_⟩)
  rw [nI_clamp (by omega)]
  exact ⟨vp_in_nI hj (by decide), Or.inr rfl, hK⟩
theorem c_mput0 {K : Int32 → Mm → Prop} {x : Int32} (hd : 1 ≤ d) (hK : K 0 u) : CI X d 213 [.ref 234, .int x, .int 0] u K := by
  obtain ⟨d, rfl, hd1⟩ := dpos hd
  exact CI_of mk_X13_put.2.2 rfl (B_M_put_0 ⟨fun _ => ⟨Or.inl rfl, hK⟩, fun z => absurd rfl z⟩)
theorem c_mrNew {K : Int32 → Mm → Prop} {slot : Nat} (hd : 4 ≤ d) (hE : EnM u f n m) (hs : slot < 29) (ho : DOk D) (hx : DrX u D.1 D) (hr : RdM u f n m ρ) (hk : tkOk ρ n) (h0 : ∀ e, rNew f n m D ρ = .inl e → ∀ V, FrT u V → FtM V e → K 0 V) (h1 : ∀ ρ', rNew f n m D ρ = .inr ρ' → lOk ρ.2.2.2.1 → ∀ V, FrT (mJ u 242 slot (lN (e27 ρ.2.2.2.1))) V → RdM V f n m ρ' → K 1 V) : CI X d 209 [.ref 234, .int (nI slot)] u K := by
  obtain ⟨d, rfl, hd1⟩ := dpos hd
  obtain ⟨⟨a1, a2, a3, a4, a5, a6, a7, a8, -⟩, -⟩ := id ho
  obtain ⟨m0, m1, m2, m3⟩ := hx.nm ho
  have hrow := hx.1
  unfold rNew at h0 h1
  refine CI_of mk_X13_readNew.2.2 rfl (B_M_readNew_0 (c_misNm (by omega) hr hk (fun q => ⟨fun _ => ?_, fun z => absurd z (by decide)⟩) (fun q => ⟨fun z => absurd rfl z, fun _ => ?_⟩)))
  · rw [if_pos q] at h0 h1
    have q2 := nm_k q
    have hl := hk.2.2.2.1 q2
    have ew := hr.2.2.2.2.1.2.1 q2
    have bad : told D ρ.2.2.2.1 = true → CI X d 202 [.ref 234, .int (3 : Int32)] u (fun w3 u3 => bz w3 ∧ K w3 u3) := by
      intro ht
      rw [if_pos ht] at h0
      exact c_mbad (k := 3) (by omega) hr hk (Or.inr (by omega)) fun V v1 v2 => ⟨Or.inl rfl, h0 _ rfl V v1 v2⟩
    have jn : ∀ {base cnt j : Nat}, NmM u 242 base cnt D.2.1 → fnd D.2.1 base cnt ρ.2.2.2.1 = some j → ¬ nI j = -1 := by
      intro base cnt j hn hf
      have := hn.1
      have := ((fO_eq (n := cnt) (by omega)).2 j hf).1
      exact nI_m1 (by omega)
    rw [ew, hrow 0 (by omega), a1]
    unfold told at h1 bad
    refine c_mfind242 (base := 0) (by omega) m0 hl ?_
    cases f0 : fnd D.2.1 0 (nQ D.1) ρ.2.2.2.1 with
    | some j => exact ⟨fun _ => bad (by rw [f0]; rfl), fun z => absurd z (jn m0 f0)⟩
    | none =>
      refine ⟨fun z => absurd rfl z, fun _ => ?_⟩
      rw [ew, hrow 2 (by omega), a3]
      refine c_mfind242 (base := 8) (by omega) m1 hl ?_
      cases f1 : fnd D.2.1 8 (nK D.1) ρ.2.2.2.1 with
      | some j => exact ⟨fun _ => bad (by rw [f1]; simp), fun z => absurd z (jn m1 f1)⟩
      | none =>
        refine ⟨fun z => absurd rfl z, fun _ => ?_⟩
        rw [ew, hrow 3 (by omega), a5]
        refine c_mfind242 (base := 13) (by omega) m2 hl ?_
        cases f2 : fnd D.2.1 13 (nA D.1) ρ.2.2.2.1 with
        | some j => exact ⟨fun _ => bad (by rw [f2]; simp), fun z => absurd z (jn m2 f2)⟩
        | none =>
          refine ⟨fun z => absurd rfl z, fun _ => ?_⟩
          rw [ew, hrow 4 (by omega), a7]
          refine c_mfind242 (base := 21) (by omega) m3 hl ?_
          cases f3 : fnd D.2.1 21 (nW' D.1) ρ.2.2.2.1 with
          | some j => exact ⟨fun z => absurd z (jn m3 f3), fun _ => bad (by rw [f3]; simp)⟩
          | none =>
            rw [f0, f1, f2, f3] at h1
            refine ⟨fun _ => ⟨vp_in_nI hs (by decide), ?_⟩, fun z => absurd rfl z⟩
            rw [nI_clamp (by omega), ew]
            refine c_mgo hd1 hE.1 hE.2.1 hE.2.2 (hr.cg (fun k hk => rfl) (mJ_r (by omega))) (by omega) fun V v1 v2 => h1 _ rfl hl V v1.t v2
  · rw [if_neg (by rw [q]; decide)] at h0
    exact c_mbad (k := 1) (by omega) hr hk (Or.inl rfl) fun V v1 v2 => ⟨Or.inl rfl, h0 _ rfl V v1 v2⟩
theorem jSq {K : Int32 → Mm → Prop} (hd : 6 ≤ d) (hE : EnM u f n m) (hx : DrM u D) (ho : DOk D) (hr : RdM u f n m ρ) (hk : tkOk ρ n) (h2 : ρ.2.1 = 2) (h0 : ∀ e, lnSq f n m D ρ = .inl e → ∀ V, FrE u V → FtM V e → K 0 V) (h1 : ∀ D' ρ', lnSq f n m D ρ = .inr (D', ρ') → ∀ V, FrE u V → RdM V f n m ρ' → DrM V D' → K 1 V) : CI X d 214 [.ref 234] u K := by
  obtain ⟨d, rfl, hd1⟩ := dpos hd
  obtain ⟨⟨a1, a2, a3, a4, a5, a6, a7, a8, -⟩, -⟩ := id ho
  refine CI_of mk_X13_readSquare.2.2 rfl (B_M_readSquare_0 ?_)
  unfold lnSq at h0 h1
  refine c_mrFst (j := 0) (M := 8) (b := nQ D.1 == 8) (by omega) hE (by omega) (by rw [hx.1 0 (by omega), a1, nI_eq (by omega) (by omega)]; simp) hr hk h2 (fun e he V v1 v2 => ?_) (fun ρ1 he hb V v1 v2 => ?_)
  · rw [he] at h0
    exact ⟨fun z => absurd rfl z, fun _ => h0 e rfl V v1.e v2⟩
  · rw [he] at h0 h1
    dsimp only [bd] at h0 h1
    have hlt : nQ D.1 < 8 := by simp at hb; omega
    have hρ1 := rFst_inr he
    have k1 := (nxt_ok (f := f) (n := n) (m := m) (ρ := ρ) hE.1 hE.2.1 hk).1
    rw [← hρ1] at k1
    have x1 := v1.dx hx
    refine ⟨fun _ => ?_, fun z => absurd z (by decide)⟩
    rw [x1.1 0 (by omega), a1]
    refine c_mrNew (slot := nQ D.1) (by omega) (hE.fr v1.e) (by omega) ho x1 v2 k1 (fun e he V2 w1 w2 => ?_) (fun ρ2 he hl V2 w1 w2 => ?_)
    · rw [he] at h0
      exact ⟨fun _ => h0 e rfl V2 (v1.tr w1).e w2, fun z => absurd rfl z⟩
    · rw [he] at h0 h1
      dsimp only [bd] at h0 h1
      have hρ2 := rNew_inr he
      have k2 := (nxt_ok (f := f) (n := n) (m := m) (ρ := ρ1) hE.1 hE.2.1 k1).1
      rw [← hρ2] at k2
      have e2 : FrE u V2 := (v1.e.mJ).tr w1.e
      have x2 : DrX V2 D.1 D := w1.dx ⟨x1.1, x1.2.1.mJ (by omega), x1.2.2⟩
      have s2 : V2.2 242 (nQ D.1) = lN (e27 ρ1.2.2.2.1) := by rw [w1.2.1 242 (by omega), mJ_s]
      have hE2 := hE.fr e2
      refine ⟨fun z => absurd z (by decide), fun _ => c_mrNum (a := 0) (b := 99) (by omega) hE.1 hE.2.1 hE2.2.2 w2 k2 (by omega) (by omega) (fun e he V3 y1 y2 => ?_) (fun v ρ3 he V3 y1 y2 y3 => ?_)⟩
      · rw [he] at h0
        exact c_mput0 (by omega) ⟨fun z => absurd rfl z, fun _ => h0 e rfl V3 (e2.tr y1.e) y2⟩
      · rw [he] at h1
        dsimp only [bd] at h1
        rw [la1]
        have x3 := y1.dx x2
        refine c_mput1 (by omega) (by omega) ⟨fun _ => ?_, fun z => absurd z (by decide)⟩
        rw [y3]
        have x4 := x3.row (j := 6 + nQ D.1) (x := nI v)
        have x5 := x4.row (j := 0) (x := nI (nQ D.1 + 1))
        rw [x4.1 0 (by omega), pk_un (by omega), a1, nI_1]
        refine h1 _ _ rfl _ (((e2.tr y1.e).mI (by omega)).mI (by omega)) (y2.cg (fun k hk => by rw [mI_r (by omega), mI_r (by omega)]) rfl) ⟨x5.1, ?_, x5.2.2⟩
        have s3 : V3.2 242 (nQ D.1) = lN (e27 ρ1.2.2.2.1) := by rw [y1.2.1 242 (by omega)]; exact s2
        obtain ⟨n1, n2, n3, n4⟩ := dSq_n (l := ρ1.2.2.2.1) (v := v) ho hlt
        obtain ⟨q1, q2, q3, q4⟩ := x3.2.1
        unfold NmsM
        rw [n1, n2, n3, n4]
        unfold dSq
        dsimp only
        refine ⟨fun i hi => ?_, fun k hk => ?_, fun a ha => ?_, fun w hw => ?_⟩
        · by_cases e : i = nQ D.1
          · subst e; rw [uLs]; exact s3
          · rw [uLn e]; exact q1 i (by omega)
        · rw [uLn (by omega)]; exact q2 k hk
        · rw [uLn (by omega)]; exact q3 a ha
        · rw [uLn (by omega)]; exact q4 w hw
theorem jKi {K : Int32 → Mm → Prop} (hd : 6 ≤ d) (hE : EnM u f n m) (hx : DrM u D) (ho : DOk D) (hr : RdM u f n m ρ) (hk : tkOk ρ n) (h2 : ρ.2.1 = 2) (h0 : ∀ e, lnKi f n m D ρ = .inl e → ∀ V, FrE u V → FtM V e → K 0 V) (h1 : ∀ D' ρ', lnKi f n m D ρ = .inr (D', ρ') → ∀ V, FrE u V → RdM V f n m ρ' → DrM V D' → K 1 V) : CI X d 216 [.ref 234] u K := by
  obtain ⟨d, rfl, hd1⟩ := dpos hd
  obtain ⟨⟨a1, a2, a3, a4, a5, a6, a7, a8, -⟩, -⟩ := id ho
  refine CI_of mk_X13_readKind.2.2 rfl (B_M_readKind_0 ?_)
  unfold lnKi at h0 h1
  refine c_mrFst (j := 2) (M := 5) (b := nK D.1 == 5) (by omega) hE (by omega) (by rw [hx.1 2 (by omega), a3, nI_eq (by omega) (by omega)]; simp) hr hk h2 (fun e he V v1 v2 => ?_) (fun ρ1 he hb V v1 v2 => ?_)
  · rw [he] at h0
    exact ⟨fun _ => h0 e rfl V v1.e v2, fun z => absurd rfl z⟩
  · rw [he] at h0 h1
    dsimp only [bd] at h0 h1
    have hlt : nK D.1 < 5 := by simp at hb; omega
    have hρ1 := rFst_inr he
    have k1 := (nxt_ok (f := f) (n := n) (m := m) (ρ := ρ) hE.1 hE.2.1 hk).1
    rw [← hρ1] at k1
    have x1 := v1.dx hx
    refine ⟨fun z => absurd z (by decide), fun _ => ?_⟩
    rw [x1.1 2 (by omega), a3, la1]
    refine c_mrNew (slot := 8 + nK D.1) (by omega) (hE.fr v1.e) (by omega) ho x1 v2 k1 (fun e he V2 w1 w2 => ?_) (fun ρ2 he hl V2 w1 w2 => ?_)
    · rw [he] at h0
      exact ⟨fun z => absurd rfl z, fun _ => h0 e rfl V2 (v1.tr w1).e w2⟩
    · rw [he] at h1
      dsimp only [bd] at h1
      have e2 : FrE u V2 := (v1.e.mJ).tr w1.e
      have x2 : DrX V2 D.1 D := w1.dx ⟨x1.1, x1.2.1.mJ (by omega), x1.2.2⟩
      have s3 : V2.2 242 (8 + nK D.1) = lN (e27 ρ1.2.2.2.1) := by rw [w1.2.1 242 (by omega), mJ_s]
      have x5 := x2.row (j := 2) (x := nI (nK D.1 + 1))
      refine ⟨fun _ => ?_, fun z => absurd z (by decide)⟩
      rw [x2.1 2 (by omega), a3, nI_1]
      refine h1 _ _ rfl _ (e2.mI (by omega)) (w2.cg (fun k hk => by rw [mI_r (by omega)]) rfl) ⟨x5.1, ?_, x5.2.2⟩
      obtain ⟨n1, n2, n3, n4⟩ := dKi_n (D := D) (l := ρ1.2.2.2.1) hlt
      obtain ⟨q1, q2, q3, q4⟩ := x2.2.1
      unfold NmsM
      rw [n1, n2, n3, n4]
      unfold dKi
      dsimp only
      refine ⟨fun i hi => ?_, fun k hk => ?_, fun a ha => ?_, fun w hw => ?_⟩
      · rw [uLn (by omega)]; exact q1 i hi
      · by_cases e : k = nK D.1
        · subst e; rw [uLs]; exact s3
        · rw [uLn (by omega)]; exact q2 k (by omega)
      · rw [uLn (by omega)]; exact q3 a ha
      · rw [uLn (by omega)]; exact q4 w hw
theorem jAr {K : Int32 → Mm → Prop} (hd : 4 ≤ d) (hE : EnM u f n m) (hx : DrM u D) (ho : DOk D) (hr : RdM u f n m ρ) (hk : tkOk ρ n) (h2 : ρ.2.1 = 2) (h0 : ∀ e, lnAr f n m D ρ = .inl e → ∀ V, FrE u V → FtM V e → K 0 V) (h1 : ∀ D' ρ', lnAr f n m D ρ = .inr (D', ρ') → ∀ V, FrE u V → RdM V f n m ρ' → DrM V D' → K 1 V) : ((u.1 234 25) = 0 → CV X d 196 [.ref 234] (mI u 234 25 (1 : Int32)) (fun u8 => CI X d 203 [.ref 234, .int (1 : Int32), .int (9 : Int32)] u8 (fun w9 u9 => CI X d 213 [.ref 234, .int (5 : Int32), .int w9] u9 (fun w10 u10 => bz w10 ∧ K w10 u10)))) ∧ (¬ (u.1 234 25) = 0 → CI X d 202 [.ref 234, .int (3 : Int32)] u (fun w11 u11 => bz w11 ∧ K w11 u11)) := by
  rw [hx.2.2.2]
  unfold lnAr at h0 h1
  cases hha : D.2.2.2 with
  | true =>
    rw [hha, if_pos rfl] at h0
    refine ⟨fun z => absurd z (by decide), fun _ => c_mbad (k := 3) (by omega) hr hk (Or.inr (by omega)) fun V v1 v2 => ⟨Or.inl rfl, h0 _ rfl V v1.e v2⟩⟩
  | false =>
    rw [hha, if_neg (by decide)] at h0 h1
    have k1 := (nxt_ok (f := f) (n := n) (m := m) (ρ := ρ) hE.1 hE.2.1 hk).1
    have e1 : FrE u (mI u 234 25 1) := FrE.rf.mI (by omega)
    refine ⟨fun _ => c_mgo (by omega) hE.1 hE.2.1 (hE.fr e1).2.2 (hr.cg (fun k hk => mI_n (by omega)) rfl) (by omega) fun V v1 v2 => ?_, fun z => absurd rfl z⟩
    have e2 := e1.tr v1.t.e
    refine c_mrNum (a := 1) (b := 9) (by omega) hE.1 hE.2.1 (hE.fr e2).2.2 v2 k1 (by omega) (by omega) (fun e he V3 y1 y2 => ?_) (fun v ρ3 he V3 y1 y2 y3 => ?_)
    · rw [he] at h0
      exact c_mput0 (by omega) ⟨Or.inl rfl, h0 e rfl V3 (e2.tr y1.e) y2⟩
    · rw [he] at h1
      dsimp only [bd] at h1
      have e3 := e2.tr y1.e
      obtain ⟨-, hv1, hv9⟩ := rNum_inr he
      obtain ⟨-, n1, n2, n3, n4⟩ := dAr_ok (D := D) (v := v) ho hv1 hv9
      have x3 : DrX V3 D.1 (dAr D v) := by
        refine ⟨fun i hi => ?_, ?_, fun i hi => ?_, ?_⟩
        · rw [y1.1 237 (by omega), v1.1 237 (by omega), mI_r (by omega)]; exact hx.1 i hi
        · unfold NmsM
          rw [n1, n2, n3, n4, y1.2.1 242 (by omega), v1.2.1 242 (by omega)]
          exact hx.2.1
        · rw [y1.1 245 (by omega), v1.1 245 (by omega), mI_r (by omega)]; exact hx.2.2.1 i hi
        · rw [y1.2.2 25 (by omega), v1.2.2 25 (by omega), mI_s]; rfl
      refine c_mput1 (j := 5) (by omega) (by omega) ⟨Or.inr rfl, ?_⟩
      rw [y3]
      exact h1 _ _ rfl _ (e3.mI (by omega)) (y2.cg (fun k hk => by rw [mI_r (by omega)]) rfl) x3.row
theorem jSt {K : Int32 → Mm → Prop} (hd : 7 ≤ d) (hE : EnM u f n m) (hx : DrM u D) (ho : DOk D) (hr : RdM u f n m ρ) (hk : tkOk ρ n) (h2 : ρ.2.1 = 2) (h0 : ∀ e, lnSt f n m D ρ = .inl e → ∀ V, FrE u V → FtM V e → K 0 V) (h1 : ∀ D' ρ', lnSt f n m D ρ = .inr (D', ρ') → ∀ V, FrE u V → RdM V f n m ρ' → DrM V D' → K 1 V) : CI X d 217 [.ref 234] u K := by
  obtain ⟨d, rfl, hd1⟩ := dpos hd
  obtain ⟨⟨a1, a2, a3, a4, a5, a6, a7, a8, -⟩, -⟩ := id ho
  refine CI_of mk_X13_readStatue.2.2 rfl (B_M_readStatue_0 ?_)
  unfold lnSt at h0 h1
  refine c_mrFst (j := 3) (M := 8) (b := nA D.1 == 8) (by omega) hE (by omega) (by rw [hx.1 3 (by omega), a5, nI_eq (by omega) (by omega)]; simp) hr hk h2 (fun e he V v1 v2 => ?_) (fun ρ1 he hb V v1 v2 => ?_)
  · rw [he] at h0
    exact ⟨fun z => absurd rfl z, fun _ => h0 e rfl V v1.e v2⟩
  · rw [he] at h0 h1
    dsimp only [bd] at h0 h1
    have hlt : nA D.1 < 8 := by simp at hb; omega
    have hρ1 := rFst_inr he
    have k1 := (nxt_ok (f := f) (n := n) (m := m) (ρ := ρ) hE.1 hE.2.1 hk).1
    rw [← hρ1] at k1
    have x1 := v1.dx hx
    refine ⟨fun _ => ?_, fun z => absurd z (by decide)⟩
    rw [x1.1 3 (by omega), a5, la1, la1]
    refine c_mrNew (slot := 13 + nA D.1) (by omega) (hE.fr v1.e) (by omega) ho x1 v2 k1 (fun e he V2 w1 w2 => ?_) (fun ρ2 he hl V2 w1 w2 => ?_)
    · rw [he] at h0
      exact ⟨fun _ => h0 e rfl V2 (v1.tr w1).e w2, fun z => absurd rfl z⟩
    · rw [he] at h0 h1
      dsimp only [bd] at h0 h1
      have hρ2 := rNew_inr he
      have k2 := (nxt_ok (f := f) (n := n) (m := m) (ρ := ρ1) hE.1 hE.2.1 k1).1
      rw [← hρ2] at k2
      have e2 : FrE u V2 := (v1.e.mJ).tr w1.e
      have x2 : DrX V2 D.1 D := w1.dx ⟨x1.1, x1.2.1.mJ (by omega), x1.2.2⟩
      have s2 : V2.2 242 (13 + nA D.1) = lN (e27 ρ1.2.2.2.1) := by rw [w1.2.1 242 (by omega), mJ_s]
      refine ⟨fun z => absurd z (by decide), fun _ => ?_⟩
      rw [x2.1 2 (by omega), a3]
      refine c_mrOne (base := 8) (by omega) hE.1 hE.2.1 (hE.fr e2).2.2 (x2.nm ho).2.1 w2 k2 (fun e he V3 y1 y2 => ?_) (fun kd ρ3 hkd he V3 y1 y2 y3 => ?_)
      · rw [he] at h0
        exact c_mput0 (by omega) ⟨fun _ => h0 e rfl V3 (e2.tr y1.e) y2, fun z => absurd rfl z⟩
      · rw [he] at h0 h1
        dsimp only [bd] at h0 h1
        have hρ3 := rNamed_inr he
        have k3 := (nxt_ok (f := f) (n := n) (m := m) (ρ := ρ2) hE.1 hE.2.1 k2).1
        rw [← hρ3] at k3
        have x3 := y1.dx x2
        refine c_mput1 (by omega) (by omega) ⟨fun z => absurd z (by decide), fun _ => ?_⟩
        rw [y3]
        have x4 := x3.row (j := 22 + nA D.1) (x := nI kd)
        have e4 : FrE u (mI V3 237 (22 + nA D.1) (nI kd)) := (e2.tr y1.e).mI (by omega)
        have r4 : RdM (mI V3 237 (22 + nA D.1) (nI kd)) f n m ρ3 := y2.cg (fun k hk => by rw [mI_r (by omega)]) rfl
        have s4 : (mI V3 237 (22 + nA D.1) (nI kd)).2 242 (13 + nA D.1) = lN (e27 ρ1.2.2.2.1) := by rw [mI_2, y1.2.1 242 (by omega)]; exact s2
        generalize mI V3 237 (22 + nA D.1) (nI kd) = W4 at x4 e4 r4 s4
        rw [x4.1 0 (by omega), pk_un (by omega), a1]
        refine c_misOne (base := 0) (by omega) (x4.nm ho).1 r4 k3 (fun e he V5 z1 z2 => ?_) (fun q hq he V5 z1 z2 z3 => ?_)
        · rw [he] at h0
          exact ⟨fun z => absurd rfl z, fun _ => h0 e rfl V5 (e4.tr z1.e) z2⟩
        · rw [he] at h0 h1
          dsimp only [bd] at h0 h1
          have x5 := z1.dx x4
          have e5 := e4.tr z1.e
          have s5 : V5.2 242 (13 + nA D.1) = lN (e27 ρ1.2.2.2.1) := by rw [z1.2.1 242 (by omega)]; exact s4
          refine ⟨fun _ => ?_, fun z => absurd z (by decide)⟩
          have row5 : ∀ b, b < nA D.1 → V5.1 237 (30 + b) = D.1 (30 + b) := fun b hb => by rw [x5.1 _ (by omega), pk_un (by omega)]
          suffices hz : (∀ b, b < 0 → D.1 (30 + b) ≠ nI q) → VI X d 217 K 71 [some (.ref 234), some (.int (nI (nA D.1))), some (.int (nI 0))] [] V5 from hz (fun b h => absurd h (by omega))
          refine lup (n := nA D.1) (W := fun b => (∀ b', b' < b → D.1 (30 + b') ≠ nI q) → VI X d 217 K 71 [some (.ref 234), some (.int (nI (nA D.1))), some (.int (nI b))] [] V5) ?_
          intro b hb ih hp
          refine B_M_readStatue_71 ?_
          rw [la1, la1, la1, la1, nI_1, nI_clamp (show 30 + nA D.1 < 2 ^ 31 by omega), nI_clamp (show 30 + b < 2 ^ 31 by omega), z3]
          refine ⟨fun hz => ⟨vp_in_nI (by omega) (by decide), ?_⟩, fun hz => ?_⟩
          · have hz := (nI_leI (by omega) (by omega)).mp hz
            have hst : stF D q = -1 := fstI_none fun b hb => decide_eq_false (hp b (by omega))
            rw [if_pos hst] at h0 h1
            have k4 := (nxt_ok (f := f) (n := n) (m := m) (ρ := ρ3) hE.1 hE.2.1 k3).1
            have x6 := x5.row (j := 30 + nA D.1) (x := nI q)
            have e6 : FrE u (mI V5 237 (30 + nA D.1) (nI q)) := e5.mI (by omega)
            refine c_mgo (by omega) hE.1 hE.2.1 (hE.fr e6).2.2 (z2.cg (fun k hk => by rw [mI_r (by omega)]) rfl) (by rw [rLook_k he]; omega) fun V7 t1 t2 => ?_
            have x7 := t1.t.dx x6
            have e7 := e6.tr t1.t.e
            refine c_mrNum (a := 0) (b := 999) (by omega) hE.1 hE.2.1 (hE.fr e7).2.2 t2 k4 (by omega) (by omega) (fun e he V8 p1 p2 => ?_) (fun pv ρ8 he V8 p1 p2 p3 => ?_)
            · rw [he] at h0
              exact c_mput0 (by omega) ⟨fun _ => h0 e rfl V8 (e7.tr p1.e) p2, fun z => absurd rfl z⟩
            · rw [he] at h0 h1
              dsimp only [bd] at h0 h1
              obtain ⟨hρ8, -, -⟩ := rNum_inr he
              have k8 := (nxt_ok (f := f) (n := n) (m := m) (ρ := nxt f n m ρ3) hE.1 hE.2.1 k4).1
              rw [← hρ8] at k8
              refine c_mput1 (by omega) (by omega) ⟨fun z => absurd z (by decide), fun _ => ?_⟩
              rw [p3]
              have x9 := (p1.dx x7).row (j := 38 + nA D.1) (x := nI pv)
              have e9 : FrE u (mI V8 237 (38 + nA D.1) (nI pv)) := (e7.tr p1.e).mI (by omega)
              refine c_mrNum (a := 0) (b := 99) (by omega) hE.1 hE.2.1 (hE.fr e9).2.2 (p2.cg (fun k hk => by rw [mI_r (by omega)]) rfl) k8 (by omega) (by omega) (fun e he V9 g1 g2 => ?_) (fun bv ρ9 he V9 g1 g2 g3 => ?_)
              · rw [he] at h0
                exact c_mput0 (by omega) ⟨fun z => absurd rfl z, fun _ => h0 e rfl V9 (e9.tr g1.e) g2⟩
              · rw [he] at h1
                dsimp only [bd] at h1
                refine c_mput1 (by omega) (by omega) ⟨fun _ => ?_, fun z => absurd z (by decide)⟩
                rw [g3]
                have x10 := (g1.dx x9).row (j := 46 + nA D.1) (x := nI bv)
                have x11 := x10.row (j := 3) (x := nI (nA D.1 + 1))
                rw [x10.1 3 (by omega)]
                simp (disch := omega) only [pk_un]
                rw [a5, nI_1]
                refine h1 _ _ rfl _ (((e9.tr g1.e).mI (by omega)).mI (by omega)) (g2.cg (fun k hk => by rw [mI_r (by omega), mI_r (by omega)]) rfl) ⟨x11.1, ?_, x11.2.2⟩
                have s9 : V9.2 242 (13 + nA D.1) = lN (e27 ρ1.2.2.2.1) := by
                  rw [g1.2.1 242 (by omega), mI_2, p1.2.1 242 (by omega), t1.2.1 242 (by omega), mI_2]; exact s5
                obtain ⟨n1, n2, n3, n4⟩ := dSt_n (D := D) (l := ρ1.2.2.2.1) (k := kd) (q := q) (v := pv) (b := bv) hlt
                obtain ⟨q1, q2, q3, q4⟩ := (g1.dx x9).2.1
                unfold NmsM
                rw [n1, n2, n3, n4]
                unfold dSt
                dsimp only
                refine ⟨fun i hi => ?_, fun k hk => ?_, fun a ha => ?_, fun w hw => ?_⟩
                · rw [uLn (by omega)]; exact q1 i hi
                · rw [uLn (by omega)]; exact q2 k hk
                · by_cases e : a = nA D.1
                  · subst e; rw [uLs]; exact s9
                  · rw [uLn (by omega)]; exact q3 a (by omega)
                · rw [uLn (by omega)]; exact q4 w hw
          · have hz := mt (nI_leI (a := nA D.1) (b := b) (by omega) (by omega)).mpr hz
            rw [row5 b (by omega)]
            refine ⟨vp_in_nI (by omega) (by decide), fun y => ih (by omega) fun b' hb' => ?_, fun y => ?_⟩
            · by_cases e : b' = b
              · subst e; exact y
              · exact hp b' (by omega)
            · have hst : ¬ stF D q = -1 := by
                intro z
                exact stF_free (by omega) z b (by omega) y
              rw [if_neg hst] at h0
              exact c_mbad (k := 3) (by omega) z2 k3 (Or.inr (by rw [rLook_k he]; omega)) fun V6 t1 t2 => ⟨Or.inl rfl, h0 _ rfl V6 (e5.tr t1.e) t2⟩
end ML
