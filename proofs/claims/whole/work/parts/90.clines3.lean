section CL3
variable {X : Xc} {d : Nat} {u : Mm} {f : Nat → Nat} {n m : Nat} {ρ : RDS} {D : DR}
theorem kLi {K : Mm → Prop} (hd : 6 ≤ d) (hE : En u f n m) (hc : DrC u D) (ho : DOk D) (hr : RdC u f n m ρ) (hk : tkOk ρ n) (h2 : ρ.2.1 = 2) (h0 : ∀ e, lnLi f n m D ρ = .inl e → ∀ V, FrG u V → FtC V e → K V) (h1 : ∀ D' ρ', lnLi f n m D ρ = .inr (D', ρ') → DOk D' → tkOk ρ' n → Adv ρ ρ' → ∀ V, FrD u V → RdC V f n m ρ' → DrC V D' → K V) : CV X d 23 [.ref 118] u K := by
  obtain ⟨d, rfl, hd1⟩ := dpos hd
  obtain ⟨⟨a1, a2, a3, a4, a5, a6, a7, a8, -⟩, -⟩ := id ho
  refine CV_of mk_X1_readLikes.2.2 rfl (B_CR_readLikes_0 ?_)
  unfold lnLi at h0 h1
  have mm : ∀ V, Fr1 u V → NmC V 120 3 21 (nW' D.1) D.2.1 ∧ NmC V 120 1 8 (nK D.1) D.2.1 := fun V v1 => ⟨((v1.dr hc).nm ho).2.2.2, ((v1.dr hc).nm ho).2.1⟩
  obtain ⟨k1, ad1⟩ := nxt_ok (f := f) (n := n) (m := m) (ρ := ρ) hE.1 hE.2.1 hk
  refine c_step (by omega) hE.1 hE.2.1 hE.2.2.1 hE.2.2.2 hr (by omega) fun V v1 v2 => ?_
  refine c_named120 (s := 3) hd1 hE.1 hE.2.1 (hE.fr v1).2.2.1 (hE.fr v1).2.2.2 (by omega) (mm V v1).1 v2 k1 (fun e he V2 w1 w2 => ?_) (fun wj ρ2 hwj he V2 w1 w2 => ?_)
  · rw [he] at h0
    have v12 := v1.tr w1
    exact f_look120 (s := 1) (cnt := nK D.1) (by omega) (by omega) (mm V2 v12).2.1 (mm V2 v12).2.2.1 w2 ⟨fun z => absurd z w2.ne, fun _ => h0 e rfl V2 v12.g w2⟩ (fun j hj => ⟨fun z => absurd z w2.ne, fun _ => h0 e rfl V2 v12.g w2⟩)
  · rw [he] at h0 h1
    dsimp only [bd] at h0 h1
    have hρ2 := rNamed_inr he
    obtain ⟨k2, ad2⟩ := nxt_ok (f := f) (n := n) (m := m) (ρ := nxt f n m ρ) hE.1 hE.2.1 k1
    rw [← hρ2] at k2 ad2
    have v12 := v1.tr w1
    refine c_look120 (s := 1) (by omega) (by omega) (mm V2 v12).2 w2 k2 (fun e he V3 x1 x2 => ?_) (fun kj hkj he => ?_)
    · rw [he] at h0
      exact ⟨fun z => absurd z x2.ne, fun _ => h0 e rfl V3 (v12.tr x1).g x2⟩
    · rw [he] at h0 h1
      dsimp only [bd] at h0 h1
      have hc2 := v12.dr hc
      have hi40 : 5 * wj + kj < 40 := by omega
      have ei : nI wj * (5 : Int32) + nI kj = nI (5 * wj + kj) := by rw [lt2, nI_add]
      rw [ei, nI_clamp (by omega), hc2.2.2.2.2.2.2.1 _ hi40]
      refine ⟨fun _ => ⟨vp_in_nI hi40 (by decide), fun q => ?_, fun q => ?_⟩, fun z => absurd w2.2.1 z⟩
      · have hf : D.2.2.1 (5 * wj + kj) = false := by
          cases hb : D.2.2.1 (5 * wj + kj) with
          | false => rfl
          | true =>
            rw [hb, if_pos rfl] at q
            obtain ⟨v, hv, ev⟩ := (ho.2.2.2.2.2.2.1 wj hwj).2.2.2.2.1 kj (by omega)
            rw [show 86 + (5 * wj + kj) = 86 + 5 * wj + kj by omega, ev] at q
            exact absurd q (nI_m1 (by omega))
        rw [hf, if_neg (by decide)] at h0 h1
        obtain ⟨k3, ad3⟩ := nxt_ok (f := f) (n := n) (m := m) (ρ := ρ2) hE.1 hE.2.1 k2
        refine c_step (by omega) hE.1 hE.2.1 (hE.fr v12).2.2.1 (hE.fr v12).2.2.2 w2 (by rw [rLook_k he]; omega) fun V3 x1 x2 => ?_
        have v3 := v12.tr x1
        refine c_takeNum (a := 0) (b := 12) hd1 hE.1 hE.2.1 (hE.fr v3).2.2.1 (hE.fr v3).2.2.2 x2 k3 (by omega) (by omega) (fun e he w V4 y1 y2 => ?_) (fun v ρ4 he V4 y1 y2 => ?_)
        · rw [he] at h0
          exact ⟨vp_in_nI hi40 (by decide), h0 e rfl _ ((v3.tr y1).g.mI) (y2.cg (mI_r (by omega)))⟩
        · rw [he] at h1
          dsimp only [bd] at h1
          obtain ⟨hρ4, -, hv⟩ := rNum_inr he
          obtain ⟨k4, ad4⟩ := nxt_ok (f := f) (n := n) (m := m) (ρ := nxt f n m ρ2) hE.1 hE.2.1 k3
          rw [← hρ4] at k4 ad4
          have v4 := v3.tr y1
          obtain ⟨o', n1, n2, n3, n4⟩ := dLi_ok (D := D) (i := 5 * wj + kj) (v := v) ho (by omega) hv
          refine ⟨vp_in_nI hi40 (by decide), h1 _ _ rfl o' k4 (ad1.tr (ad2.tr (ad3.tr ad4))) _ (v4.d.mI (by omega)) (y2.cg (mI_r (by omega)) rfl) ?_⟩
          obtain ⟨⟨c1, c2, c3, c4, c5, c6⟩, s, ns, k, a, w, li, z⟩ := v4.dr hc
          have po : ∀ i, i < 86 → (dLi D (5 * wj + kj) v).1 i = D.1 i := fun i hi => pk_un (by omega)
          have nm' : (dLi D (5 * wj + kj) v).2.1 = D.2.1 := rfl
          have hh : (dLi D (5 * wj + kj) v).2.2.2 = D.2.2.2 := rfl
          have st' : ∀ q, stF (dLi D (5 * wj + kj) v) q = stF D q := fun q => by
            unfold stF
            rw [n3]
            exact fstI_congr fun a ha => by rw [po _ (by omega)]
          unfold DrC
          rw [n1, n2, n3, n4, nm', hh, po 0 (by omega), po 1 (by omega), po 2 (by omega), po 3 (by omega), po 4 (by omega), po 5 (by omega)]
          simp (disch := omega) only [mI_r, mI_2]
          refine ⟨⟨c1, c2, c3, c4, c5, c6⟩, fun q hq => ?_, fun q hq => ?_, k, fun a' ha' => ?_, fun w' hw' => ?_, fun j hj => ?_, z⟩
          · rw [po _ (by omega)]; exact s q hq
          · rw [po _ (by omega), st']; exact ns q hq
          · rw [po _ (by omega), po _ (by omega), po _ (by omega), po _ (by omega)]; exact a a' ha'
          · rw [po _ (by omega), po _ (by omega), po _ (by omega), po _ (by omega)]; exact w w' hw'
          · by_cases e : j = 5 * wj + kj
            · subst e
              have hb : (dLi D (5 * wj + kj) v).2.2.1 (5 * wj + kj) = true := uBs
              rw [if_pos hb, mI_s]
              exact pk_us.symm
            · have hb : (dLi D (5 * wj + kj) v).2.2.1 j = D.2.2.1 j := uBn e
              have hv' : (dLi D (5 * wj + kj) v).1 (86 + j) = D.1 (86 + j) := pk_un (by omega)
              rw [mI_n (by omega), hb, hv']; exact li j hj
      · have hf : D.2.2.1 (5 * wj + kj) = true := by
          cases hb : D.2.2.1 (5 * wj + kj) with
          | true => rfl
          | false => rw [hb] at q; exact absurd rfl q
        rw [hf, if_pos rfl] at h0
        exact c_blame (by omega) w2.2.1 (h0 _ rfl _ v12.mI.g (FtC.of (k := 3) w2 (by omega) (by omega)))
theorem kPa {K : Mm → Prop} (hd : 6 ≤ d) (hE : En u f n m) (hc : DrC u D) (ho : DOk D) (hr : RdC u f n m ρ) (hk : tkOk ρ n) (h2 : ρ.2.1 = 2) (h0 : ∀ e, lnPa f n m D ρ = .inl e → ∀ V, FrG u V → FtC V e → K V) (h1 : ∀ D' ρ', lnPa f n m D ρ = .inr (D', ρ') → DOk D' → tkOk ρ' n → Adv ρ ρ' → ∀ V, FrD u V → RdC V f n m ρ' → DrC V D' → K V) : CV X d 19 [.ref 118] u K := by
  obtain ⟨d, rfl, hd1⟩ := dpos hd
  obtain ⟨⟨a1, a2, a3, a4, a5, a6, a7, a8, ⟨pv, hpv, epv⟩, -⟩, -⟩ := id ho
  refine CV_of mk_X1_readPath.2.2 rfl (B_CR_readPath_0 ?_)
  unfold lnPa at h0 h1
  have mm : ∀ V, Fr1 u V → NmC V 120 0 0 (nQ D.1) D.2.1 := fun V v1 => ((v1.dr hc).nm ho).1
  rw [hc.1.2.2.2.2.1, epv]
  refine ⟨fun q => ?_, fun q => ?_⟩
  · have q := (ll3 (n := 16) (m := pv) (by omega) (by decide)).mp q
    have q : pv < 16 := q
    have hne : D.1 1 ≠ 16 := fun z => by
      rw [epv] at z
      have := (le1 (n := 16) (m := pv) (by omega) (by decide)).mp z
      have : pv = 16 := this
      omega
    rw [decide_eq_false hne] at h0 h1
    unfold rFst at h0 h1
    rw [if_neg (by decide)] at h0 h1
    dsimp only [bd] at h0 h1
    obtain ⟨k1, ad1⟩ := nxt_ok (f := f) (n := n) (m := m) (ρ := ρ) hE.1 hE.2.1 hk
    refine c_step (by omega) hE.1 hE.2.1 hE.2.2.1 hE.2.2.2 hr (by omega) fun V v1 v2 => ?_
    refine c_named120 (s := 0) hd1 hE.1 hE.2.1 (hE.fr v1).2.2.1 (hE.fr v1).2.2.2 (by omega) (mm V v1) v2 k1 (fun e he V2 w1 w2 => ?_) (fun pa ρ2 hpa he V2 w1 w2 => ?_)
    · rw [he] at h0
      have v12 := v1.tr w1
      exact f_look120 (s := 0) (cnt := nQ D.1) (by omega) (by omega) (mm V2 v12).1 (mm V2 v12).2.1 w2 ⟨fun z => absurd z w2.ne, fun _ => h0 e rfl V2 v12.g w2⟩ (fun j hj => ⟨fun z => absurd z w2.ne, fun _ => h0 e rfl V2 v12.g w2⟩)
    · rw [he] at h0 h1
      dsimp only [bd] at h0 h1
      have hρ2 := rNamed_inr he
      obtain ⟨k2, ad2⟩ := nxt_ok (f := f) (n := n) (m := m) (ρ := nxt f n m ρ) hE.1 hE.2.1 k1
      rw [← hρ2] at k2 ad2
      have v12 := v1.tr w1
      refine c_look120 (s := 0) (by omega) (by omega) (mm V2 v12) w2 k2 (fun e he V3 x1 x2 => ?_) (fun pb hpb he => ?_)
      · rw [he] at h0
        exact ⟨fun z => absurd z x2.ne, fun _ => h0 e rfl V3 (v12.tr x1).g x2⟩
      · rw [he] at h0 h1
        dsimp only [bd] at h0 h1
        have hc2 := v12.dr hc
        have bl : (pa = pb ∨ tb (D.1 (14 + pa)) pb = true) → CV X d 111 [.ref 1, .int (3 : Int32)] V2 (fun u4 => K u4) := by
          intro hz
          rw [if_pos hz] at h0
          exact c_blame (by omega) w2.2.1 (h0 _ rfl _ v12.mI.g (FtC.of (k := 3) w2 (by omega) (by omega)))
        refine ⟨fun _ => ⟨fun z => bl (Or.inl ((nI_eq (by omega) (by omega)).mp z)), fun z => ⟨vp_in_nI (by omega) (by decide), ?_⟩⟩, fun z => absurd w2.2.1 z⟩
        have hab : pa ≠ pb := fun q => z (by rw [q])
        rw [nI_clamp (by omega), (hc2.2.2.1 pa (by omega)).1]
        refine c_bit (by omega) (by omega) (fun y => ⟨fun z => absurd z (by decide), fun _ => bl (Or.inr y)⟩) (fun y => ⟨fun _ => ?_, fun z => absurd rfl z⟩)
        rw [if_neg (fun z => z.elim hab (fun q => by rw [y] at q; cases q))] at h1
        obtain ⟨o', n1, n2, n3, n4⟩ := dPa_ok (D := D) ho hab hpa hpb hne
        obtain ⟨d, rfl, hd2⟩ := dpos hd1
        refine CV_of mk_X0_join.2.2 rfl (B_C120_join_0 ?_)
        rw [nI_clamp (show pa < 2 ^ 31 by omega), nI_clamp (show pb < 2 ^ 31 by omega)]
        refine ⟨vp_in_nI (by omega) (by decide), vp_in_nI (by omega) (by decide), vp_in_nI (by omega) (by decide), vp_in_nI (by omega) (by decide), ?_⟩
        have e124 := (hc2.2.2.1 pa (by omega)).1
        have e124b := (hc2.2.2.1 pb (by omega)).1
        have e120 : V2.1 120 2 = D.1 1 := hc2.1.2.2.2.2.1
        rw [mI_r (b := 120) (by omega), mI_r (b := 120) (by omega), mI_n (show ¬ (124 = 124 ∧ pb = pa) by omega), e124, e124b, e120]
        obtain ⟨k3, ad3⟩ := nxt_ok (f := f) (n := n) (m := m) (ρ := ρ2) hE.1 hE.2.1 k2
        have hE3 : En (mI (mI (mI V2 124 pa (bitOr (D.1 (14 + pa)) pb)) 124 pb (bitOr (D.1 (14 + pb)) pa)) 120 2 (D.1 1 + 1)) f n m := ⟨hE.1, hE.2.1, (hE.fr v12).2.2.1.cg (by simp (disch := omega) only [mI_r]), (hE.fr v12).2.2.2.congr rfl⟩
        refine c_step (by omega) hE.1 hE.2.1 hE3.2.2.1 hE3.2.2.2 (w2.cg (by simp (disch := omega) only [mI_r]) rfl) (by rw [rLook_k he]; omega) fun V3 x1 x2 => ?_
        refine h1 _ _ rfl o' k3 (ad1.tr (ad2.tr ad3)) V3 ((((v12.d.mI (by omega)).mI (by omega)).mI (by omega)).tr x1.d) x2 (x1.dr ?_)
        obtain ⟨⟨c1, c2, c3, c4, c5, c6⟩, s, ns, k, a, w, li, z⟩ := hc2
        have po : ∀ i, i < 14 ∨ 22 ≤ i → i ≠ 1 → (dPa D pa pb).1 i = D.1 i := fun i hi h1 => dPa_o hi (by omega) (by omega) h1
        have nm' : (dPa D pa pb).2 = D.2 := rfl
        have st' : ∀ q, stF (dPa D pa pb) q = stF D q := fun q => by
          unfold stF
          rw [n3]
          exact fstI_congr fun a ha => by rw [po _ (by omega) (by omega)]
        unfold DrC
        rw [n1, n2, n3, n4, nm', po 0 (by omega) (by omega), po 2 (by omega) (by omega), po 3 (by omega) (by omega), po 4 (by omega) (by omega), po 5 (by omega) (by omega)]
        simp (disch := omega) only [mI_n, mI_s, mI_r, mI_2]
        refine ⟨⟨c1, c2, c3, c4, by unfold dPa; dsimp only; rw [pk_us], c6⟩, fun q hq => ?_, fun q hq => ?_, k, fun a' ha' => ?_, fun w' hw' => ?_, fun i hi => ?_, z⟩
        · rw [po _ (by omega) (by omega)]; exact s q hq
        · rw [st', dPa_at hab hq]
          refine ⟨?_, (ns q hq).2⟩
          by_cases e1 : q = pb
          · subst e1; rw [mI_s, if_neg (by omega), if_pos rfl]; rfl
          · rw [mI_n (by omega)]
            by_cases e2 : q = pa
            · subst e2; rw [mI_s, if_pos rfl]; rfl
            · rw [mI_n (by omega), if_neg e2, if_neg e1]; exact (ns q hq).1
        · rw [po _ (by omega) (by omega), po _ (by omega) (by omega), po _ (by omega) (by omega), po _ (by omega) (by omega)]; exact a a' ha'
        · rw [po _ (by omega) (by omega), po _ (by omega) (by omega), po _ (by omega) (by omega), po _ (by omega) (by omega)]; exact w w' hw'
        · rw [po _ (by omega) (by omega)]; exact li i hi
  · have q : ¬ pv < 16 := mt (ll3 (n := 16) (m := pv) (by omega) (by decide)).mpr q
    have hpv16 : D.1 1 = 16 := by rw [epv, show pv = 16 by omega]; rfl
    rw [decide_eq_true hpv16] at h0
    unfold rFst at h0
    rw [if_pos rfl] at h0
    dsimp only [bd] at h0
    refine c_bl_st (k := 4) (by omega) hr (by omega) (by omega) fun V v1 v2 => ?_
    have fin : ∀ w : Int32, ∀ w' : Int32, K V := fun _ _ => h0 _ rfl V v1.g v2
    refine f_named120 (s := 0) (cnt := nQ D.1) (by omega) (by omega) (mm V v1).1 (mm V v1).2.1 v2 ?_ (fun j hj => ?_)
    · exact f_look120 (s := 0) (cnt := nQ D.1) (by omega) (by omega) (mm V v1).1 (mm V v1).2.1 v2 ⟨fun z => absurd z v2.ne, fun _ => fin 0 0⟩ (fun j hj => ⟨fun z => absurd z v2.ne, fun _ => fin 0 0⟩)
    · exact f_look120 (s := 0) (cnt := nQ D.1) (by omega) (by omega) (mm V v1).1 (mm V v1).2.1 v2 ⟨fun z => absurd z v2.ne, fun _ => fin 0 0⟩ (fun j hj => ⟨fun z => absurd z v2.ne, fun _ => fin 0 0⟩)
theorem kLine {K : Mm → Prop} (hd : 7 ≤ d) (hE : En u f n m) (hc : DrC u D) (ho : DOk D) (hr : RdC u f n m ρ) (hk : tkOk ρ n) (h0 : ∀ e, lnAny f n m D ρ = .inl e → ∀ V, FrG u V → FtC V e → K V) (h1 : ∀ D' ρ', lnAny f n m D ρ = .inr (D', ρ') → DOk D' → tkOk ρ' n → Adv ρ ρ' → ∀ V, FrD u V → RdC V f n m ρ' → DrC V D' → K V) : CV X d 16 [.ref 118] u K := by
  obtain ⟨d, rfl, hd1⟩ := dpos hd
  obtain ⟨-, -, -, -, t3, t6⟩ := ty_k hk.2.1
  refine CV_of mk_X1_readLine.2.2 rfl (B_CR_readLine_0 ?_)
  rw [hr.2.2.2.2.1.1]
  unfold lnAny at h0 h1
  have bl : (∀ e, (Sum.inl (1, ρ.1) : FT ⊕ (DR × RDS)) = .inl e → ∀ V, FrG u V → FtC V e → K V) → CV X d 111 [.ref 1, .int (1 : Int32)] u (fun u8 => K u8) := fun h => c_blame (by omega) hr.2.1 (h _ rfl _ Fr1.rf.mI.g (FtC.of (k := 1) hr (by omega) (by omega)))
  refine ⟨fun q => ⟨⟨fun z => absurd z (by decide), fun z => absurd z (by decide), fun z => absurd z (by decide), fun z => absurd z (by decide), fun z => absurd z (by decide), fun z => absurd z (by decide), fun z => absurd z (by decide)⟩, fun _ => bl ?_⟩, fun q => ?_⟩
  · have q : ¬ (ρ.2.1 = 2 ∧ wix ρ.2.2.2.1 < 24) := fun z => q (by rw [t3.mpr z]; rfl)
    by_cases h2 : ρ.2.1 = 2
    · have hw : 24 ≤ wix ρ.2.2.2.1 := Nat.le_of_not_lt fun z => q ⟨h2, z⟩
      rw [if_pos h2, if_neg (by omega), if_neg (by omega), if_neg (by omega), if_neg (by omega), if_neg (by omega), if_neg (by omega), if_neg (by omega)] at h0
      exact h0
    · rw [if_neg h2] at h0
      exact h0
  · have q0 : ty ρ = 3 := (nI_eq (a := ty ρ) (b := 3) (by omega) (by omega)).mp q
    obtain ⟨h2, hw⟩ := t3.mp q0
    rw [hr.2.2.2.2.1.2.1 q0]
    rw [if_pos h2] at h0 h1
    have wq : ∀ k, k < 24 → nI (wix ρ.2.2.2.1) = nI k → wix ρ.2.2.2.1 = k := fun k hk q => (nI_eq (by omega) (by omega)).mp q
    refine ⟨⟨fun z => ?_, fun z => ?_, fun z => ?_, fun z => ?_, fun z => ?_, fun z => ?_, fun z => ?_⟩, fun z => bl ?_⟩
    · have z := wq 0 (by omega) z
      rw [if_pos z] at h0 h1
      exact kSq hd1 hE hc ho hr hk h2 h0 h1
    · have z := wq 1 (by omega) z
      rw [if_neg (by omega), if_pos z] at h0 h1
      exact kPa hd1 hE hc ho hr hk h2 h0 h1
    · have z := wq 2 (by omega) z
      rw [if_neg (by omega), if_neg (by omega), if_pos z] at h0 h1
      exact kKi hd1 hE hc ho hr hk h2 h0 h1
    · have z := wq 3 (by omega) z
      rw [if_neg (by omega), if_neg (by omega), if_neg (by omega), if_pos z] at h0 h1
      exact kSt hd1 hE hc ho hr hk h2 h0 h1
    · have z := wq 4 (by omega) z
      rw [if_neg (by omega), if_neg (by omega), if_neg (by omega), if_neg (by omega), if_pos z] at h0 h1
      exact kWa hd1 hE hc ho hr hk h2 h0 h1
    · have z := wq 5 (by omega) z
      rw [if_neg (by omega), if_neg (by omega), if_neg (by omega), if_neg (by omega), if_neg (by omega), if_pos z] at h0 h1
      exact kLi hd1 hE hc ho hr hk h2 h0 h1
    · have z := wq 6 (by omega) z
      rw [if_neg (by omega), if_neg (by omega), if_neg (by omega), if_neg (by omega), if_neg (by omega), if_neg (by omega), if_pos z] at h0 h1
      exact kAr hd1 hE hc ho hr hk h2 h0 h1
    · rw [nI_toInt (by omega)] at z
      rw [if_neg (by omega), if_neg (by omega), if_neg (by omega), if_neg (by omega), if_neg (by omega), if_neg (by omega), if_neg (by omega)] at h0
      exact h0
theorem FrD.en {V : Mm} (hE : En u f n m) (h : FrD u V) : En V f n m := ⟨hE.1, hE.2.1, hE.2.2.1.cg (h.1 2 (by omega) (by omega)), hE.2.2.2.congr (h.2 3 (by omega) (by omega))⟩
/-- all lines; what comes behind them is cmp -/
theorem kLines {K : Int32 → Mm → Prop} (hd : 8 ≤ d) (hm : m = 900) : ∀ g k (D : DR) (ρ : RDS) (V : Mm), g + k = 500 → 2 * k ≤ ρ.2.2.2.2 → (ρ.2.1 ≠ 0 → ρ.2.1 ≠ 1 → 2 * k + 1 ≤ ρ.2.2.2.2) → En u f n m → FrD u V → DrC V D → DOk D → RdC V f n m ρ → tkOk ρ n →
    (∀ e, lnAll f n m g k D ρ = .inl e → ∀ D'', DOk D'' → ∀ w V', FrD u V' → DrF V' D'' → FtC V' e → CV X d 2 [.ref 120] V' (fun u1 => K w u1)) → (∀ k' D', lnAll f n m g k D ρ = .inr (k', D') → DOk D' → ∀ V', FrD u V' → V'.1 1 2 = 0 → DrC V' D' → CV X d 2 [.ref 120] V' (fun u1 => K (nI k') u1)) → VI X d 15 K 19 [some (.ref 118), some (.int (nI k))] [] V := by
  intro g
  induction g with
  | zero =>
    intro k D ρ V hg h2k h2k1 hE v1 hc ho hr hk h0 h1
    exfalso
    have h := hk.2.2.2.2
    have h' := hE.1
    omega
  | succ g ih =>
    intro k D ρ V hg h2k h2k1 hE v1 hc ho hr hk h0 h1
    have hsp := hk.2.2.2.2
    have hn9 := hE.1
    have hEV := FrD.en hE v1
    obtain ⟨-, -, -, t0, -, t6⟩ := ty_k hk.2.1
    rw [lnAll] at h0 h1
    refine B_CR_readCity_19 ?_
    rw [hr.2.1, hr.2.2.2.2.1.1]
    refine ⟨fun z => absurd z (nI_ge (a := k) (b := 900) (by omega) (by omega)), fun _ => ⟨fun z => absurd rfl z, fun _ => ⟨fun z => ?_, fun z => ?_⟩⟩⟩
    · have z : ρ.2.1 = 0 := t0.mp ((nI_eq (a := ty ρ) (b := 0) (by omega) (by omega)).mp z)
      rw [if_pos z] at h1
      exact h1 _ _ rfl ho V v1 hr.2.1 hc
    · have z : ¬ ρ.2.1 = 0 := fun q => z (by rw [t0.mpr q]; rfl)
      rw [if_neg z] at h0 h1
      have dead : ∀ (e : FT) (V' : Mm) (D'' : DR), DOk D'' → (∀ D'', DOk D'' → ∀ w V', FrD u V' → DrF V' D'' → FtC V' e → CV X d 2 [.ref 120] V' (fun u1 => K w u1)) → FrD u V' → DrF V' D'' → FtC V' e → VI X d 15 K 19 [some (.ref 118), some (.int (nI k + 1))] [] V' := by
        intro e V' D'' o'' hh x1 xf x2
        refine B_CR_readCity_19 ⟨fun _ => hh D'' o'' _ V' x1 xf x2, fun _ => ⟨fun _ => hh D'' o'' _ V' x1 xf x2, fun q => absurd q x2.ne⟩⟩
      refine kLine (by omega) hEV hc ho hr hk (fun e he V2 w1 w2 => ?_) (fun D' ρ' he o' k' ad V2 w1 w2 w3 => ?_)
      · rw [he] at h0
        exact f_takeSgn (by omega) w2 (dead e V2 D ho (h0 e rfl) (v1.tr w1.1) (hc.f w1) w2)
      · rw [he] at h0 h1
        dsimp only [bd] at h0 h1
        have v2 := v1.tr w1
        have hE2 := FrD.en hE v2
        refine c_takeSgn (c := 59) (by omega) hE.1 hE.2.1 hE2.2.2.1 hE2.2.2.2 w2 k' (by omega) (fun e he V3 x1 x2 => ?_) (fun ρ3 he V3 x1 x2 => ?_)
        · rw [he] at h0
          exact dead e V3 D' o' (h0 e rfl) (v2.tr x1.d) (w3.f x1.g) x2
        · rw [he] at h0 h1
          dsimp only [bd] at h0 h1
          have hs : ρ3 = nxt f n m ρ' ∧ ρ'.2.1 = 4 := by unfold rSgn at he; split at he <;> cases he; rename_i q; exact ⟨rfl, q.1⟩
          obtain ⟨k3, ad3⟩ := nxt_ok (f := f) (n := n) (m := m) (ρ := ρ') hE.1 hE.2.1 k'
          rw [← hs.1] at k3 ad3
          have b1 := ad.2 (by omega) (by omega)
          have b2 := ad3.1
          have b3 := ad3.2
          rw [nI_1]
          have hz1 : ρ.2.1 = 1 ∨ ρ.2.1 ≠ 1 := by omega
          rcases hz1 with hz1 | hz1
          · exfalso
            have : lnAny f n m D ρ = .inl (1, ρ.1) := by unfold lnAny; rw [if_neg (by omega)]
            rename_i he1
            rw [this] at he1
            cases he1
          · have := h2k1 z hz1
            exact ih (k + 1) D' ρ3 V3 (by omega) (by omega) (fun q1 q2 => by have := b3 q1 q2; omega) hE (v2.tr x1.d) (x1.dr w3) o' x2 k3 h0 h1
end CL3
