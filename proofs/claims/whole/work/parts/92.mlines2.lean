section ML2
variable {X : Xc} {d : Nat} {u : Mm} {f : Nat → Nat} {n m : Nat} {ρ : RDS} {D : DR} {R : Nat → Int32}
theorem jWa {K : Int32 → Mm → Prop} (hd : 7 ≤ d) (hE : EnM u f n m) (hx : DrM u D) (ho : DOk D) (hr : RdM u f n m ρ) (hk : tkOk ρ n) (h2 : ρ.2.1 = 2) (h0 : ∀ e, lnWa f n m D ρ = .inl e → ∀ V, FrE u V → FtM V e → K 0 V) (h1 : ∀ D' ρ', lnWa f n m D ρ = .inr (D', ρ') → ∀ V, FrE u V → RdM V f n m ρ' → DrM V D' → K 1 V) : CI X d 218 [.ref 234] u K := by
  obtain ⟨d, rfl, hd1⟩ := dpos hd
  obtain ⟨⟨a1, a2, a3, a4, a5, a6, a7, a8, -⟩, -⟩ := id ho
  refine CI_of mk_X13_readWalker.2.2 rfl (B_M_readWalker_0 ?_)
  unfold lnWa at h0 h1
  refine c_mrFst (j := 4) (M := 8) (b := nW' D.1 == 8) (by omega) hE (by omega) (by rw [hx.1 4 (by omega), a7, nI_eq (by omega) (by omega)]; simp) hr hk h2 (fun e he V v1 v2 => ?_) (fun ρ1 he hb V v1 v2 => ?_)
  · rw [he] at h0
    exact ⟨fun z => absurd rfl z, fun _ => h0 e rfl V v1.e v2⟩
  · rw [he] at h0 h1
    dsimp only [bd] at h0 h1
    have hlt : nW' D.1 < 8 := by simp at hb; omega
    have hρ1 := rFst_inr he
    have k1 := (nxt_ok (f := f) (n := n) (m := m) (ρ := ρ) hE.1 hE.2.1 hk).1
    rw [← hρ1] at k1
    have x1 := v1.dx hx
    refine ⟨fun _ => ?_, fun z => absurd z (by decide)⟩
    rw [x1.1 4 (by omega), a7, la1, la1, la1, la1, la1]
    refine c_mrNew (slot := 21 + nW' D.1) (by omega) (hE.fr v1.e) (by omega) ho x1 v2 k1 (fun e he V2 w1 w2 => ?_) (fun ρ2 he hl V2 w1 w2 => ?_)
    · rw [he] at h0
      exact ⟨fun _ => h0 e rfl V2 (v1.tr w1).e w2, fun z => absurd rfl z⟩
    · rw [he] at h0 h1
      dsimp only [bd] at h0 h1
      have hρ2 := rNew_inr he
      have k2 := (nxt_ok (f := f) (n := n) (m := m) (ρ := ρ1) hE.1 hE.2.1 k1).1
      rw [← hρ2] at k2
      have e2 : FrE u V2 := (v1.e.mJ).tr w1.e
      have x2 : DrX V2 D.1 D := w1.dx ⟨x1.1, x1.2.1.mJ (by omega), x1.2.2⟩
      have s2 : V2.2 242 (21 + nW' D.1) = lN (e27 ρ1.2.2.2.1) := by rw [w1.2.1 242 (by omega), mJ_s]
      refine ⟨fun z => absurd z (by decide), fun _ => ?_⟩
      rw [x2.1 0 (by omega), a1]
      refine c_mrOne (base := 0) (by omega) hE.1 hE.2.1 (hE.fr e2).2.2 (x2.nm ho).1 w2 k2 (fun e he V3 y1 y2 => ?_) (fun fa ρ3 hfa he V3 y1 y2 y3 => ?_)
      · rw [he] at h0
        exact c_mput0 (by omega) ⟨fun _ => h0 e rfl V3 (e2.tr y1.e) y2, fun z => absurd rfl z⟩
      · rw [he] at h0 h1
        dsimp only [bd] at h0 h1
        have hρ3 := rNamed_inr he
        have k3 := (nxt_ok (f := f) (n := n) (m := m) (ρ := ρ2) hE.1 hE.2.1 k2).1
        rw [← hρ3] at k3
        refine c_mput1 (by omega) (by omega) ⟨fun z => absurd z (by decide), fun _ => ?_⟩
        rw [y3]
        have x4 := (y1.dx x2).row (j := 54 + nW' D.1) (x := nI fa)
        have e4 : FrE u (mI V3 237 (54 + nW' D.1) (nI fa)) := (e2.tr y1.e).mI (by omega)
        have r4 : RdM (mI V3 237 (54 + nW' D.1) (nI fa)) f n m ρ3 := y2.cg (fun k hk => by rw [mI_r (by omega)]) rfl
        have s4 : (mI V3 237 (54 + nW' D.1) (nI fa)).2 242 (21 + nW' D.1) = lN (e27 ρ1.2.2.2.1) := by rw [mI_2, y1.2.1 242 (by omega)]; exact s2
        generalize mI V3 237 (54 + nW' D.1) (nI fa) = W4 at x4 e4 r4 s4
        rw [x4.1 0 (by omega), pk_un (by omega), a1]
        refine c_mrOne (base := 0) (by omega) hE.1 hE.2.1 (hE.fr e4).2.2 (x4.nm ho).1 r4 k3 (fun e he V5 y1 y2 => ?_) (fun ta ρ5 hta he V5 y1 y2 y3 => ?_)
        · rw [he] at h0
          exact c_mput0 (by omega) ⟨fun z => absurd rfl z, fun _ => h0 e rfl V5 (e4.tr y1.e) y2⟩
        · rw [he] at h0 h1
          dsimp only [bd] at h0 h1
          have hρ5 := rNamed_inr he
          have k5 := (nxt_ok (f := f) (n := n) (m := m) (ρ := ρ3) hE.1 hE.2.1 k3).1
          rw [← hρ5] at k5
          refine c_mput1 (by omega) (by omega) ⟨fun _ => ?_, fun z => absurd z (by decide)⟩
          rw [y3]
          have x6 := (y1.dx x4).row (j := 62 + nW' D.1) (x := nI ta)
          have e6 : FrE u (mI V5 237 (62 + nW' D.1) (nI ta)) := (e4.tr y1.e).mI (by omega)
          have r6 : RdM (mI V5 237 (62 + nW' D.1) (nI ta)) f n m ρ5 := y2.cg (fun k hk => by rw [mI_r (by omega)]) rfl
          have s6 : (mI V5 237 (62 + nW' D.1) (nI ta)).2 242 (21 + nW' D.1) = lN (e27 ρ1.2.2.2.1) := by rw [mI_2, y1.2.1 242 (by omega)]; exact s4
          generalize mI V5 237 (62 + nW' D.1) (nI ta) = W6 at x6 e6 r6 s6
          refine c_mrNum (a := 1) (b := 7) (by omega) hE.1 hE.2.1 (hE.fr e6).2.2 r6 k5 (by omega) (by omega) (fun e he V7 p1 p2 => ?_) (fun ev ρ7 he V7 p1 p2 p3 => ?_)
          · rw [he] at h0
            exact c_mput0 (by omega) ⟨fun _ => h0 e rfl V7 (e6.tr p1.e) p2, fun z => absurd rfl z⟩
          · rw [he] at h0 h1
            dsimp only [bd] at h0 h1
            obtain ⟨hρ7, -, -⟩ := rNum_inr he
            have k7 := (nxt_ok (f := f) (n := n) (m := m) (ρ := ρ5) hE.1 hE.2.1 k5).1
            rw [← hρ7] at k7
            refine c_mput1 (by omega) (by omega) ⟨fun z => absurd z (by decide), fun _ => ?_⟩
            rw [p3]
            have x8 := (p1.dx x6).row (j := 70 + nW' D.1) (x := nI ev)
            have e8 : FrE u (mI V7 237 (70 + nW' D.1) (nI ev)) := (e6.tr p1.e).mI (by omega)
            have s8 : (mI V7 237 (70 + nW' D.1) (nI ev)).2 242 (21 + nW' D.1) = lN (e27 ρ1.2.2.2.1) := by rw [mI_2, p1.2.1 242 (by omega)]; exact s6
            refine c_mrNum (a := 0) (b := 9) (by omega) hE.1 hE.2.1 (hE.fr e8).2.2 (p2.cg (fun k hk => by rw [mI_r (by omega)]) rfl) k7 (by omega) (by omega) (fun e he V9 g1 g2 => ?_) (fun wv ρ9 he V9 g1 g2 g3 => ?_)
            · rw [he] at h0
              exact c_mput0 (by omega) ⟨fun z => absurd rfl z, fun _ => h0 e rfl V9 (e8.tr g1.e) g2⟩
            · rw [he] at h1
              dsimp only [bd] at h1
              refine c_mput1 (by omega) (by omega) ⟨fun _ => ?_, fun z => absurd z (by decide)⟩
              rw [g3]
              have x10 := (g1.dx x8).row (j := 78 + nW' D.1) (x := nI wv)
              have e10 : FrE u (mI V9 237 (78 + nW' D.1) (nI wv)) := (e8.tr g1.e).mI (by omega)
              have r10 : RdM (mI V9 237 (78 + nW' D.1) (nI wv)) f n m ρ9 := g2.cg (fun k hk => by rw [mI_r (by omega)]) rfl
              have s10 : (mI V9 237 (78 + nW' D.1) (nI wv)).2 242 (21 + nW' D.1) = lN (e27 ρ1.2.2.2.1) := by rw [mI_2, g1.2.1 242 (by omega)]; exact s8
              generalize hRR : upd (upd (upd (upd D.1 (54 + nW' D.1) (nI fa)) (62 + nW' D.1) (nI ta)) (70 + nW' D.1) (nI ev)) (78 + nW' D.1) (nI wv) = RR at x10
              generalize mI V9 237 (78 + nW' D.1) (nI wv) = W10 at x10 e10 r10 s10
              refine lupR (n := 5) (W := fun i (V : Mm) => VI X d 218 K 116 [some (.ref 234), some (.int (nI (nW' D.1))), some (.int (nI i))] [] V)
                (I := fun i V => FrE u V ∧ RdM V f n m ρ9 ∧ V.2 242 (21 + nW' D.1) = lN (e27 ρ1.2.2.2.1) ∧ DrX V (fun j => if 86 + 5 * nW' D.1 ≤ j ∧ j < 86 + 5 * nW' D.1 + i then 6 else RR j) D) ?_ W10 ⟨e10, r10, s10, ?_⟩
              · rintro i V hi ⟨i1, i2, i3, i4⟩ ih
                refine B_M_readWalker_116 ?_
                rw [lt1, la1, nI_add, nI_1, nI_clamp (by omega)]
                refine ⟨fun z => ?_, fun z => ?_⟩
                · have z : 5 ≤ i := (ll2 (n := 5) (by omega) (by decide)).mp z
                  have ei : i = 5 := by omega
                  subst ei
                  have x11 := i4.row (j := 4) (x := nI (nW' D.1 + 1))
                  have e44 : V.1 237 4 = nI (nW' D.1) := by
                    rw [i4.1 4 (by omega)]
                    dsimp only
                    rw [if_neg (by omega), ← hRR]
                    simp (disch := omega) only [pk_un]
                    exact a7
                  rw [e44, nI_1]
                  refine h1 _ _ rfl _ (i1.mI (by omega)) (i2.cg (fun k hk => by rw [mI_r (by omega)]) rfl) ⟨fun j hj => ?_, ?_, x11.2.2⟩
                  · rw [x11.1 j hj, ← hRR]
                    unfold dWa
                    dsimp only
                    by_cases e : j = 4
                    · subst e; rw [pk_us, pk_us]
                    · rw [pk_un e, pk_un e]
                      by_cases e2 : 86 + 5 * nW' D.1 ≤ j ∧ j < 86 + 5 * nW' D.1 + 5
                      · rw [if_pos e2, if_pos (by omega)]
                      · rw [if_neg e2, if_neg (by omega)]
                  · obtain ⟨n1, n2, n3, n4⟩ := dWa_n (D := D) (l := ρ1.2.2.2.1) (a := fa) (b := ta) (e := ev) (v := wv) hlt
                    obtain ⟨q1, q2, q3, q4⟩ := i4.2.1
                    unfold NmsM
                    rw [n1, n2, n3, n4]
                    unfold dWa
                    dsimp only
                    refine ⟨fun i hi => ?_, fun k hk => ?_, fun a ha => ?_, fun w hw => ?_⟩
                    · rw [uLn (by omega)]; exact q1 i hi
                    · rw [uLn (by omega)]; exact q2 k hk
                    · rw [uLn (by omega)]; exact q3 a ha
                    · by_cases e : w = nW' D.1
                      · subst e; rw [uLs]; exact i3
                      · rw [uLn (by omega)]; exact q4 w (by omega)
                · have z : ¬ 5 ≤ i := mt (ll2 (n := 5) (m := i) (by omega) (by decide)).mpr z
                  refine ⟨vp_in_nI (by omega) (by decide), ih (by omega) _ ⟨i1.mI (by omega), i2.cg (fun k hk => by rw [mI_r (by omega)]) rfl, i3, ?_⟩⟩
                  have := i4.row (j := 86 + 5 * nW' D.1 + i) (x := 6)
                  refine ⟨fun j hj => ?_, this.2⟩
                  rw [this.1 j hj, upd_at]
                  dsimp only
                  by_cases e : j = 86 + 5 * nW' D.1 + i
                  · rw [if_pos e, if_pos (by omega)]
                  · rw [if_neg e]
                    by_cases e2 : 86 + 5 * nW' D.1 ≤ j ∧ j < 86 + 5 * nW' D.1 + i
                    · rw [if_pos e2, if_pos (by omega)]
                    · rw [if_neg e2, if_neg (by omega)]
              · exact ⟨fun j hj => by rw [x10.1 j hj]; dsimp only; rw [if_neg (by omega)], x10.2⟩
theorem jLi {K : Int32 → Mm → Prop} (hd : 7 ≤ d) (hE : EnM u f n m) (hx : DrM u D) (ho : DOk D) (hr : RdM u f n m ρ) (hk : tkOk ρ n) (h2 : ρ.2.1 = 2) (h0 : ∀ e, lnLi f n m D ρ = .inl e → ∀ V, FrE u V → FtM V e → K 0 V) (h1 : ∀ D' ρ', lnLi f n m D ρ = .inr (D', ρ') → ∀ V, FrE u V → RdM V f n m ρ' → DrM V D' → K 1 V) : CI X d 219 [.ref 234] u K := by
  obtain ⟨d, rfl, hd1⟩ := dpos hd
  obtain ⟨⟨a1, a2, a3, a4, a5, a6, a7, a8, -⟩, -⟩ := id ho
  refine CI_of mk_X13_readLikes.2.2 rfl (B_M_readLikes_0 ?_)
  unfold lnLi at h0 h1
  have k1 := (nxt_ok (f := f) (n := n) (m := m) (ρ := ρ) hE.1 hE.2.1 hk).1
  refine c_mgo (by omega) hE.1 hE.2.1 hE.2.2 hr (by omega) fun V v1 v2 => ?_
  have x1 := v1.t.dx hx
  have e1 := v1.t.e
  rw [x1.1 4 (by omega), a7]
  refine c_mrOne (base := 21) (by omega) hE.1 hE.2.1 (hE.fr e1).2.2 (x1.nm ho).2.2.2 v2 k1 (fun e he V2 w1 w2 => ?_) (fun wj ρ2 hwj he V2 w1 w2 w3 => ?_)
  · rw [he] at h0
    exact ⟨fun z => absurd rfl z, fun _ => h0 e rfl V2 (e1.tr w1.e) w2⟩
  · rw [he] at h0 h1
    dsimp only [bd] at h0 h1
    have hρ2 := rNamed_inr he
    have k2 := (nxt_ok (f := f) (n := n) (m := m) (ρ := nxt f n m ρ) hE.1 hE.2.1 k1).1
    rw [← hρ2] at k2
    have x2 := w1.dx x1
    have e2 := e1.tr w1.e
    refine ⟨fun _ => ?_, fun z => absurd z (by decide)⟩
    rw [x2.1 2 (by omega), a3]
    refine c_misOne (base := 8) (by omega) (x2.nm ho).2.1 w2 k2 (fun e he V3 y1 y2 => ?_) (fun kj hkj he V3 y1 y2 y3 => ?_)
    · rw [he] at h0
      exact ⟨fun z => absurd rfl z, fun _ => h0 e rfl V3 (e2.tr y1.e) y2⟩
    · rw [he] at h0 h1
      dsimp only [bd] at h0 h1
      have x3 := y1.dx x2
      have e3 := e2.tr y1.e
      have hi40 : 5 * wj + kj < 40 := by omega
      rw [w3, y3, lt1, nI_add, la1, nI_clamp (show 5 * wj + kj < 2 ^ 31 by omega), x3.2.2.1 _ hi40]
      refine ⟨fun _ => ⟨vp_in_nI hi40 (by decide), fun q => ⟨vp_in_nI hi40 (by decide), ?_⟩, fun q => ?_⟩, fun z => absurd z (by decide)⟩
      · have hf : D.2.2.1 (5 * wj + kj) = false := by
          cases hb : D.2.2.1 (5 * wj + kj) with
          | false => rfl
          | true => rw [hb] at q; exact absurd q (by decide)
        rw [hf, if_neg (by decide)] at h0 h1
        have k3 := (nxt_ok (f := f) (n := n) (m := m) (ρ := ρ2) hE.1 hE.2.1 k2).1
        have e4 : FrE u (mI V3 245 (5 * wj + kj) (vp_nar .boolean 1)) := e3.mI (by omega)
        refine c_mgo (by omega) hE.1 hE.2.1 (hE.fr e4).2.2 (y2.cg (fun k hk => by rw [mI_r (by omega)]) rfl) (by rw [rLook_k he]; omega) fun V4 z1 z2 => ?_
        have e5 := e4.tr z1.t.e
        refine c_mrNum (a := 0) (b := 12) (by omega) hE.1 hE.2.1 (hE.fr e5).2.2 z2 k3 (by omega) (by omega) (fun e he V5 p1 p2 => ?_) (fun v ρ5 he V5 p1 p2 p3 => ?_)
        · rw [he] at h0
          exact c_mput0 (by omega) ⟨Or.inl rfl, h0 e rfl V5 (e5.tr p1.e) p2⟩
        · rw [he] at h1
          dsimp only [bd] at h1
          obtain ⟨-, -, hv⟩ := rNum_inr he
          refine c_mput1 (by omega) (by omega) ⟨Or.inr rfl, ?_⟩
          rw [p3]
          obtain ⟨-, n1, n2, n3, n4⟩ := dLi_ok (D := D) (i := 5 * wj + kj) (v := v) ho (by omega) hv
          have x5 : DrX V5 D.1 (dLi D (5 * wj + kj) v) := by
            refine ⟨fun i hi => ?_, ?_, fun i hi => ?_, ?_⟩
            · rw [p1.1 237 (by omega), z1.1 237 (by omega), mI_r (by omega)]; exact x3.1 i hi
            · unfold NmsM
              rw [n1, n2, n3, n4, p1.2.1 242 (by omega), z1.2.1 242 (by omega)]
              exact x3.2.1
            · rw [p1.1 245 (by omega), z1.1 245 (by omega)]
              by_cases e : i = 5 * wj + kj
              · subst e
                have hb : (dLi D (5 * wj + kj) v).2.2.1 (5 * wj + kj) = true := uBs
                rw [if_pos hb, mI_s]; rfl
              · have hb : (dLi D (5 * wj + kj) v).2.2.1 i = D.2.2.1 i := uBn e
                rw [mI_n (by omega), hb]; exact x3.2.2.1 i hi
            · rw [p1.2.2 25 (by omega), z1.2.2 25 (by omega), mI_r (by omega)]; exact x3.2.2.2
          exact h1 _ _ rfl _ ((e5.tr p1.e).mI (by omega)) (p2.cg (fun k hk => by rw [mI_r (by omega)]) rfl) x5.row
      · have hf : D.2.2.1 (5 * wj + kj) = true := by
          cases hb : D.2.2.1 (5 * wj + kj) with
          | true => rfl
          | false => rw [hb] at q; exact absurd rfl q
        rw [hf, if_pos rfl] at h0
        exact c_mbad (k := 3) (by omega) y2 k2 (Or.inr (by rw [rLook_k he]; omega)) fun V4 z1 z2 => ⟨Or.inl rfl, h0 _ rfl V4 (e3.tr z1.e) z2⟩
theorem jPa {K : Int32 → Mm → Prop} (hd : 7 ≤ d) (hE : EnM u f n m) (hx : DrM u D) (ho : DOk D) (hr : RdM u f n m ρ) (hk : tkOk ρ n) (h2 : ρ.2.1 = 2) (h0 : ∀ e, lnPa f n m D ρ = .inl e → ∀ V, FrE u V → FtM V e → K 0 V) (h1 : ∀ D' ρ', lnPa f n m D ρ = .inr (D', ρ') → ∀ V, FrE u V → RdM V f n m ρ' → DrM V D' → K 1 V) : CI X d 215 [.ref 234] u K := by
  obtain ⟨d, rfl, hd1⟩ := dpos hd
  obtain ⟨⟨a1, a2, a3, a4, a5, a6, a7, a8, -⟩, -⟩ := id ho
  refine CI_of mk_X13_readPath.2.2 rfl (B_M_readPath_0 ?_)
  unfold lnPa at h0 h1
  refine c_mrFst (j := 1) (M := 16) (b := decide (D.1 1 = 16)) (by omega) hE (by omega) (by rw [hx.1 1 (by omega), decide_eq_true_eq]; exact Iff.rfl) hr hk h2 (fun e he V v1 v2 => ?_) (fun ρ1 he hb V v1 v2 => ?_)
  · rw [he] at h0
    exact ⟨fun _ => h0 e rfl V v1.e v2, fun z => absurd rfl z⟩
  · rw [he] at h0 h1
    dsimp only [bd] at h0 h1
    have hne : D.1 1 ≠ 16 := of_decide_eq_false hb
    have hρ1 := rFst_inr he
    have k1 := (nxt_ok (f := f) (n := n) (m := m) (ρ := ρ) hE.1 hE.2.1 hk).1
    rw [← hρ1] at k1
    have x1 := v1.dx hx
    have e1 := v1.e
    refine ⟨fun z => absurd z (by decide), fun _ => ?_⟩
    rw [x1.1 0 (by omega), a1]
    refine c_mrOne (base := 0) (by omega) hE.1 hE.2.1 (hE.fr e1).2.2 (x1.nm ho).1 v2 k1 (fun e he V2 w1 w2 => ?_) (fun pa ρ2 hpa he V2 w1 w2 w3 => ?_)
    · rw [he] at h0
      exact ⟨fun z => absurd rfl z, fun _ => h0 e rfl V2 (e1.tr w1.e) w2⟩
    · rw [he] at h0 h1
      dsimp only [bd] at h0 h1
      have hρ2 := rNamed_inr he
      have k2 := (nxt_ok (f := f) (n := n) (m := m) (ρ := ρ1) hE.1 hE.2.1 k1).1
      rw [← hρ2] at k2
      have x2 := w1.dx x1
      have e2 := e1.tr w1.e
      refine ⟨fun _ => ?_, fun z => absurd z (by decide)⟩
      rw [x2.1 0 (by omega), a1]
      refine c_misOne (base := 0) (by omega) (x2.nm ho).1 w2 k2 (fun e he V3 y1 y2 => ?_) (fun pb hpb he V3 y1 y2 y3 => ?_)
      · rw [he] at h0
        exact ⟨fun z => absurd rfl z, fun _ => h0 e rfl V3 (e2.tr y1.e) y2⟩
      · rw [he] at h0 h1
        dsimp only [bd] at h0 h1
        have x3 := y1.dx x2
        have e3 := e2.tr y1.e
        have bl : (pa = pb ∨ tb (D.1 (14 + pa)) pb = true) → CI X d 202 [.ref 234, .int (3 : Int32)] V3 (fun w4 u4 => bz w4 ∧ K w4 u4) := by
          intro hz
          rw [if_pos hz] at h0
          exact c_mbad (k := 3) (by omega) y2 k2 (Or.inr (by rw [rLook_k he]; omega)) fun V4 z1 z2 => ⟨Or.inl rfl, h0 _ rfl V4 (e3.tr z1.e) z2⟩
        rw [w3, y3, la1, la1, nI_clamp (show 14 + pa < 2 ^ 31 by omega), nI_clamp (show 14 + pb < 2 ^ 31 by omega), x3.1 _ (by omega)]
        refine ⟨fun _ => ⟨fun z => bl (Or.inl ((nI_eq (by omega) (by omega)).mp z)), fun z => ⟨vp_in_nI (by omega) (by decide), ?_⟩⟩, fun z => absurd z (by decide)⟩
        have hab : pa ≠ pb := fun q => z (by rw [q])
        refine c_mhas (by omega) (by omega) (fun y => ⟨fun z => absurd z (by decide), fun _ => bl (Or.inr y)⟩) (fun y => ⟨fun _ => ?_, fun z => absurd rfl z⟩)
        rw [if_neg (fun z => z.elim hab (fun q => by rw [y] at q; cases q))] at h1
        refine c_mgo (by omega) hE.1 hE.2.1 (hE.fr e3).2.2 y2 (by rw [rLook_k he]; omega) fun V4 z1 z2 => ?_
        have x4 := z1.t.dx x3
        refine ⟨vp_in_nI (by omega) (by decide), vp_in_nI (by omega) (by decide), vp_in_nI (by omega) (by decide), vp_in_nI (by omega) (by decide), ?_⟩
        obtain ⟨-, n1, n2, n3, n4⟩ := dPa_ok (D := D) ho hab hpa hpb hne
        have x5 := x4.row (j := 14 + pa) (x := bitOr (D.1 (14 + pa)) pb)
        have x6 := x5.row (j := 14 + pb) (x := bitOr (upd D.1 (14 + pa) (bitOr (D.1 (14 + pa)) pb) (14 + pb)) pa)
        have x7 := x6.row (j := 1) (x := D.1 1 + 1)
        have m1 : V4.1 237 (14 + pa) ||| ((1 : Int32) <<< (nI pb &&& 31)) = bitOr (D.1 (14 + pa)) pb := by rw [x4.1 _ (by omega)]; rfl
        rw [m1]
        have m2 : (mI V4 237 (14 + pa) (bitOr (D.1 (14 + pa)) pb)).1 237 (14 + pb) ||| ((1 : Int32) <<< (nI pa &&& 31)) = bitOr (upd D.1 (14 + pa) (bitOr (D.1 (14 + pa)) pb) (14 + pb)) pa := by rw [x5.1 _ (by omega)]; rfl
        rw [m2]
        have m3 : (mI (mI V4 237 (14 + pa) (bitOr (D.1 (14 + pa)) pb)) 237 (14 + pb) (bitOr (upd D.1 (14 + pa) (bitOr (D.1 (14 + pa)) pb) (14 + pb)) pa)).1 237 1 = D.1 1 := by rw [x6.1 1 (by omega), pk_un (by omega), pk_un (by omega)]
        rw [m3]
        refine h1 _ _ rfl _ ((((e3.tr z1.t.e).mI (by omega)).mI (by omega)).mI (by omega)) (z2.cg (fun k hk => by simp (disch := omega) only [mI_r]) rfl) ⟨x7.1, ?_, x7.2.2⟩
        unfold NmsM
        rw [n1, n2, n3, n4]
        exact x7.2.1
theorem jLine {K : Int32 → Mm → Prop} (hd : 8 ≤ d) (hE : EnM u f n m) (hx : DrM u D) (ho : DOk D) (hr : RdM u f n m ρ) (hk : tkOk ρ n) (h0 : ∀ e, lnAny f n m D ρ = .inl e → ∀ V, FrE u V → FtM V e → K 0 V) (h1 : ∀ D' ρ', lnAny f n m D ρ = .inr (D', ρ') → ∀ V, FrE u V → RdM V f n m ρ' → DrM V D' → K 1 V) : CI X d 220 [.ref 234] u K := by
  obtain ⟨d, rfl, hd1⟩ := dpos hd
  refine CI_of mk_X13_readLine.2.2 rfl (B_M_readLine_0 ?_)
  unfold lnAny at h0 h1
  refine c_misWd (w := 0) (by omega) (by omega) hr hk (fun q => ⟨fun z => absurd z (by decide), fun _ => ?_⟩) (fun q0 => ⟨fun _ => ?_, fun z => absurd rfl z⟩)
  · rw [if_pos q.1, if_pos q.2] at h0 h1
    exact jSq (by omega) hE hx ho hr hk q.1 (fun e he V a b => ⟨Or.inl rfl, h0 e he V a b⟩) (fun D' ρ' he V a b c => ⟨Or.inr rfl, h1 D' ρ' he V a b c⟩)
  refine c_misWd (w := 1) (by omega) (by omega) hr hk (fun q => ⟨fun z => absurd z (by decide), fun _ => ?_⟩) (fun q1 => ⟨fun _ => ?_, fun z => absurd rfl z⟩)
  · rw [if_pos q.1, if_neg (by omega), if_pos q.2] at h0 h1
    exact jPa (by omega) hE hx ho hr hk q.1 (fun e he V a b => ⟨Or.inl rfl, h0 e he V a b⟩) (fun D' ρ' he V a b c => ⟨Or.inr rfl, h1 D' ρ' he V a b c⟩)
  refine c_misWd (w := 2) (by omega) (by omega) hr hk (fun q => ⟨fun z => absurd z (by decide), fun _ => ?_⟩) (fun q2 => ⟨fun _ => ?_, fun z => absurd rfl z⟩)
  · rw [if_pos q.1, if_neg (by omega), if_neg (by omega), if_pos q.2] at h0 h1
    exact jKi (by omega) hE hx ho hr hk q.1 (fun e he V a b => ⟨Or.inl rfl, h0 e he V a b⟩) (fun D' ρ' he V a b c => ⟨Or.inr rfl, h1 D' ρ' he V a b c⟩)
  refine c_misWd (w := 3) (by omega) (by omega) hr hk (fun q => ⟨fun z => absurd z (by decide), fun _ => ?_⟩) (fun q3 => ⟨fun _ => ?_, fun z => absurd rfl z⟩)
  · rw [if_pos q.1, if_neg (by omega), if_neg (by omega), if_neg (by omega), if_pos q.2] at h0 h1
    exact jSt (by omega) hE hx ho hr hk q.1 (fun e he V a b => ⟨Or.inl rfl, h0 e he V a b⟩) (fun D' ρ' he V a b c => ⟨Or.inr rfl, h1 D' ρ' he V a b c⟩)
  refine c_misWd (w := 4) (by omega) (by omega) hr hk (fun q => ⟨fun z => absurd z (by decide), fun _ => ?_⟩) (fun q4 => ⟨fun _ => ?_, fun z => absurd rfl z⟩)
  · rw [if_pos q.1, if_neg (by omega), if_neg (by omega), if_neg (by omega), if_neg (by omega), if_pos q.2] at h0 h1
    exact jWa (by omega) hE hx ho hr hk q.1 (fun e he V a b => ⟨Or.inl rfl, h0 e he V a b⟩) (fun D' ρ' he V a b c => ⟨Or.inr rfl, h1 D' ρ' he V a b c⟩)
  refine c_misWd (w := 5) (by omega) (by omega) hr hk (fun q => ⟨fun z => absurd z (by decide), fun _ => ?_⟩) (fun q5 => ⟨fun _ => ?_, fun z => absurd rfl z⟩)
  · rw [if_pos q.1, if_neg (by omega), if_neg (by omega), if_neg (by omega), if_neg (by omega), if_neg (by omega), if_pos q.2] at h0 h1
    exact jLi (by omega) hE hx ho hr hk q.1 (fun e he V a b => ⟨Or.inl rfl, h0 e he V a b⟩) (fun D' ρ' he V a b c => ⟨Or.inr rfl, h1 D' ρ' he V a b c⟩)
  refine c_misWd (w := 6) (by omega) (by omega) hr hk (fun q => ⟨fun _ => ?_, fun z => absurd z (by decide)⟩) (fun q6 => ⟨fun z => absurd rfl z, fun _ => ?_⟩)
  · rw [if_pos q.1, if_neg (by omega), if_neg (by omega), if_neg (by omega), if_neg (by omega), if_neg (by omega), if_neg (by omega), if_pos q.2] at h0 h1
    exact jAr (by omega) hE hx ho hr hk q.1 h0 h1
  · by_cases h2 : ρ.2.1 = 2
    · rw [if_pos h2, if_neg (fun z => q0 ⟨h2, z⟩), if_neg (fun z => q1 ⟨h2, z⟩), if_neg (fun z => q2 ⟨h2, z⟩), if_neg (fun z => q3 ⟨h2, z⟩), if_neg (fun z => q4 ⟨h2, z⟩), if_neg (fun z => q5 ⟨h2, z⟩), if_neg (fun z => q6 ⟨h2, z⟩)] at h0
      exact c_mbad (k := 1) (by omega) hr hk (Or.inl rfl) fun V v1 v2 => ⟨Or.inl rfl, h0 _ rfl V v1.e v2⟩
    · rw [if_neg h2] at h0
      exact c_mbad (k := 1) (by omega) hr hk (Or.inl rfl) fun V v1 v2 => ⟨Or.inl rfl, h0 _ rfl V v1.e v2⟩
end ML2
