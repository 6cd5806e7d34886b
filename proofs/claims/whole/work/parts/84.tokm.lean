/-! the model's tokens -/
def TBm (u : Mm) (f : Nat → Nat) : Prop := ∀ i, i < 940 → u.1 235 i = nI (f i) ∧ f i < 256
def tokM (V : Mm) (ρ : RDS) : Prop := V.1 234 7 = nI ρ.2.1 ∧ (ρ.2.1 = 2 → V.2 234 12 = lN (e27 ρ.2.2.2.1)) ∧ (ρ.2.1 = 3 → V.1 234 8 = nI ρ.2.2.1) ∧ (ρ.2.1 = 4 → V.1 234 9 = nI ρ.2.2.1)
def RdM (V : Mm) (f : Nat → Nat) (n m : Nat) (ρ : RDS) : Prop := V.1 234 3 = nI n ∧ V.1 234 4 = nI m ∧ V.1 234 10 = 0 ∧ V.1 234 6 = nI ρ.1 ∧ tokM V ρ ∧ ∃ p, p ≤ n ∧ V.1 234 5 = nI p ∧ (ρ.2.1 ≠ 1 → sk f n p = ρ.2.2.2.2)
/-- nothing but the token has changed -/
def FrM (u V : Mm) : Prop := (∀ b, b ≠ 234 → V.1 b = u.1 b) ∧ (∀ b, b ≠ 234 → V.2 b = u.2 b) ∧ ∀ k, k < 5 ∨ 9 < k → V.1 234 k = u.1 234 k
theorem FrM.rf {u : Mm} : FrM u u := ⟨fun _ _ => rfl, fun _ _ => rfl, fun _ _ => rfl⟩
theorem FrM.tr {u v w : Mm} (h : FrM u v) (h2 : FrM v w) : FrM u w := ⟨fun b hb => (h2.1 b hb).trans (h.1 b hb), fun b hb => (h2.2.1 b hb).trans (h.2.1 b hb), fun k hk => (h2.2.2 k hk).trans (h.2.2 k hk)⟩
theorem FrM.mI {u v : Mm} {j : Nat} {x : Int32} (h : FrM u v) (hj : 5 ≤ j ∧ j ≤ 9) : FrM u (mI v 234 j x) := ⟨fun b hb => by rw [mI_r hb]; exact h.1 b hb, h.2.1, fun k hk => by rw [mI_n (by omega)]; exact h.2.2 k hk⟩
theorem FrM.mJ {u v : Mm} {j : Nat} {x : Int64} (h : FrM u v) : FrM u (mJ v 234 j x) := ⟨h.1, fun b hb => by rw [mJ_r hb]; exact h.2.1 b hb, h.2.2⟩
def goT2 (X : Xc) (d : Nat) (K : Mm → Prop) (U : Mm) : Prop := ((U.1 234 5) < (U.1 234 3) → vp_in (U.1 234 5) 940 ∧ CI X d 195 [.int (U.1 235 (U.1 234 5).toNatClampNeg)] U (fun w1 u1 => (¬ w1 = 0 → CI X d 195 [.int (U.1 235 (U.1 234 5).toNatClampNeg)] u1 (fun w2 u2 => VV X d 196 K 215 [some (.ref 234), some (.int (U.1 235 (U.1 234 5).toNatClampNeg)), some (.int w2), some (.int (1 : Int32)), none] [] (mI (mJ u2 234 12 (lN 0)) 234 8 (0 : Int32)))) ∧ (w1 = 0 → CI X d 194 [.int (U.1 235 (U.1 234 5).toNatClampNeg)] u1 (fun w3 u3 => (¬ w3 = 0 → CI X d 195 [.int (U.1 235 (U.1 234 5).toNatClampNeg)] u3 (fun w4 u4 => VV X d 196 K 215 [some (.ref 234), some (.int (U.1 235 (U.1 234 5).toNatClampNeg)), some (.int w4), some (.int (1 : Int32)), none] [] (mI (mJ u4 234 12 (lN 0)) 234 8 (0 : Int32)))) ∧ (w3 = 0 → ((U.1 235 (U.1 234 5).toNatClampNeg) = (59 : Int32) → K (mI (mI (mI u3 234 7 (4 : Int32)) 234 9 (U.1 235 (U.1 234 5).toNatClampNeg)) 234 5 (((mI (mI u3 234 7 (4 : Int32)) 234 9 (U.1 235 (U.1 234 5).toNatClampNeg)).1 234 5) + (1 : Int32)))) ∧ (¬ (U.1 235 (U.1 234 5).toNatClampNeg) = (59 : Int32) → ((U.1 235 (U.1 234 5).toNatClampNeg) = (60 : Int32) → K (mI (mI (mI u3 234 7 (4 : Int32)) 234 9 (U.1 235 (U.1 234 5).toNatClampNeg)) 234 5 (((mI (mI u3 234 7 (4 : Int32)) 234 9 (U.1 235 (U.1 234 5).toNatClampNeg)).1 234 5) + (1 : Int32)))) ∧ (¬ (U.1 235 (U.1 234 5).toNatClampNeg) = (60 : Int32) → ((U.1 235 (U.1 234 5).toNatClampNeg) = (61 : Int32) → K (mI (mI (mI u3 234 7 (4 : Int32)) 234 9 (U.1 235 (U.1 234 5).toNatClampNeg)) 234 5 (((mI (mI u3 234 7 (4 : Int32)) 234 9 (U.1 235 (U.1 234 5).toNatClampNeg)).1 234 5) + (1 : Int32)))) ∧ (¬ (U.1 235 (U.1 234 5).toNatClampNeg) = (61 : Int32) → ((U.1 235 (U.1 234 5).toNatClampNeg) = (62 : Int32) → K (mI (mI (mI u3 234 7 (4 : Int32)) 234 9 (U.1 235 (U.1 234 5).toNatClampNeg)) 234 5 (((mI (mI u3 234 7 (4 : Int32)) 234 9 (U.1 235 (U.1 234 5).toNatClampNeg)).1 234 5) + (1 : Int32)))) ∧ (¬ (U.1 235 (U.1 234 5).toNatClampNeg) = (62 : Int32) → ((U.1 235 (U.1 234 5).toNatClampNeg) = (40 : Int32) → K (mI (mI (mI u3 234 7 (4 : Int32)) 234 9 (U.1 235 (U.1 234 5).toNatClampNeg)) 234 5 (((mI (mI u3 234 7 (4 : Int32)) 234 9 (U.1 235 (U.1 234 5).toNatClampNeg)).1 234 5) + (1 : Int32)))) ∧ (¬ (U.1 235 (U.1 234 5).toNatClampNeg) = (40 : Int32) → (¬ (U.1 235 (U.1 234 5).toNatClampNeg) = (41 : Int32) → K (mI (mI (mI u3 234 7 (1 : Int32)) 234 9 (U.1 235 (U.1 234 5).toNatClampNeg)) 234 5 (((mI (mI u3 234 7 (1 : Int32)) 234 9 (U.1 235 (U.1 234 5).toNatClampNeg)).1 234 5) + (1 : Int32)))) ∧ ((U.1 235 (U.1 234 5).toNatClampNeg) = (41 : Int32) → K (mI (mI (mI u3 234 7 (4 : Int32)) 234 9 (U.1 235 (U.1 234 5).toNatClampNeg)) 234 5 (((mI (mI u3 234 7 (4 : Int32)) 234 9 (U.1 235 (U.1 234 5).toNatClampNeg)).1 234 5) + (1 : Int32)))))))))))))) ∧ (¬ (U.1 234 5) < (U.1 234 3) → K (mI U 234 7 (0 : Int32)))
def goTL (X : Xc) (d : Nat) (K : Mm → Prop) (U : Mm) : Prop := ((U.1 234 3) ≤ (U.1 234 4) → goT2 X d K U) ∧ (¬ (U.1 234 3) ≤ (U.1 234 4) → ((U.1 234 6) < (U.1 234 4) → goT2 X d K U) ∧ (¬ (U.1 234 6) < (U.1 234 4) → K (mI (mI U 234 6 (U.1 234 4)) 234 7 (1 : Int32))))
def go4 (X : Xc) (d : Nat) (K : Mm → Prop) (v1 v2 G B : Int32) (u : Mm) : Prop := ((7 : Int32) ≤ ((u.1 234 5) - (u.1 234 6)) → ((3 : Int32) ≤ ((u.1 234 5) - (u.1 234 6)) → VV X d 196 K 215 [some (.ref 234), some (.int v1), some (.int v2), some (.int G), none] [] (mI u 234 5 ((u.1 234 5) + (1 : Int32)))) ∧ (¬ (3 : Int32) ≤ ((u.1 234 5) - (u.1 234 6)) → VV X d 196 K 215 [some (.ref 234), some (.int v1), some (.int v2), some (.int G), none] [] (mI (mI u 234 8 ((((10 : Int32) * (u.1 234 8)) + B) - (48 : Int32))) 234 5 (((mI u 234 8 ((((10 : Int32) * (u.1 234 8)) + B) - (48 : Int32))).1 234 5) + (1 : Int32))))) ∧ (¬ (7 : Int32) ≤ ((u.1 234 5) - (u.1 234 6)) → ((3 : Int32) ≤ (((mJ u 234 12 ((((lN 27) * (u.2 234 12)) + (B.toInt64)) - (lN 96))).1 234 5) - ((mJ u 234 12 ((((lN 27) * (u.2 234 12)) + (B.toInt64)) - (lN 96))).1 234 6)) → VV X d 196 K 215 [some (.ref 234), some (.int v1), some (.int v2), some (.int G), none] [] (mI (mJ u 234 12 ((((lN 27) * (u.2 234 12)) + (B.toInt64)) - (lN 96))) 234 5 (((mJ u 234 12 ((((lN 27) * (u.2 234 12)) + (B.toInt64)) - (lN 96))).1 234 5) + (1 : Int32)))) ∧ (¬ (3 : Int32) ≤ (((mJ u 234 12 ((((lN 27) * (u.2 234 12)) + (B.toInt64)) - (lN 96))).1 234 5) - ((mJ u 234 12 ((((lN 27) * (u.2 234 12)) + (B.toInt64)) - (lN 96))).1 234 6)) → VV X d 196 K 215 [some (.ref 234), some (.int v1), some (.int v2), some (.int G), none] [] (mI (mI (mJ u 234 12 ((((lN 27) * (u.2 234 12)) + (B.toInt64)) - (lN 96))) 234 8 ((((10 : Int32) * ((mJ u 234 12 ((((lN 27) * (u.2 234 12)) + (B.toInt64)) - (lN 96))).1 234 8)) + B) - (48 : Int32))) 234 5 (((mI (mJ u 234 12 ((((lN 27) * (u.2 234 12)) + (B.toInt64)) - (lN 96))) 234 8 ((((10 : Int32) * ((mJ u 234 12 ((((lN 27) * (u.2 234 12)) + (B.toInt64)) - (lN 96))).1 234 8)) + B) - (48 : Int32))).1 234 5) + (1 : Int32)))))
def goBd (X : Xc) (d : Nat) (K : Mm → Prop) (v1 v2 v3 : Int32) (u : Mm) : Prop := vp_in (u.1 234 5) 940 ∧ (v3 = 0 → go4 X d K v1 v2 0 (u.1 235 (u.1 234 5).toNatClampNeg) u) ∧ (¬ v3 = 0 → CI X d 195 [.int (u.1 235 (u.1 234 5).toNatClampNeg)] u (fun w3 u3 => (¬ w3 = v2 → go4 X d K v1 v2 0 (u.1 235 (u.1 234 5).toNatClampNeg) u3) ∧ (w3 = v2 → go4 X d K v1 v2 1 (u.1 235 (u.1 234 5).toNatClampNeg) u3)))
def goEn (K : Mm → Prop) (v2 v3 : Int32) (u : Mm) : Prop := (v3 = 0 → K (mI u 234 7 (1 : Int32))) ∧ (¬ v3 = 0 → (v2 = 0 → (((u.1 234 5) - (u.1 234 6)) ≤ (3 : Int32) → (v2 = 0 → K (mI u 234 7 (3 : Int32))) ∧ (¬ v2 = 0 → K (mI u 234 7 (2 : Int32)))) ∧ (¬ ((u.1 234 5) - (u.1 234 6)) ≤ (3 : Int32) → K (mI u 234 7 (1 : Int32)))) ∧ (¬ v2 = 0 → (((u.1 234 5) - (u.1 234 6)) ≤ (7 : Int32) → (v2 = 0 → K (mI u 234 7 (3 : Int32))) ∧ (¬ v2 = 0 → K (mI u 234 7 (2 : Int32)))) ∧ (¬ ((u.1 234 5) - (u.1 234 6)) ≤ (7 : Int32) → K (mI u 234 7 (1 : Int32)))))
section TokM
variable {X : Xc} {d : Nat} {u : Mm} {f : Nat → Nat}
theorem c_mtapeAt {K : Int32 → Mm → Prop} {n p : Nat} (hd : 1 ≤ d) (hn : n ≤ 940) (hp : p ≤ n) (hb : TBm u f) (e3 : u.1 234 3 = nI n) (hK : K (nI (if p < n then f p else 0)) u) : CI X d 193 [.ref 234, .int (nI p)] u K := by
  obtain ⟨d, rfl, -⟩ := dpos hd
  refine CI_of mk_X13_tapeAt.2.2 rfl (B_M_tapeAt_0 ?_)
  rw [e3, nI_clamp (show p < 2 ^ 31 by omega)]
  refine ⟨fun z => ?_, fun z => ?_⟩
  · have z := (nI_leI (by omega) (by omega)).mp z
    rw [if_neg (by omega)] at hK
    exact hK
  · have z := mt (nI_leI (a := n) (b := p) (by omega) (by omega)).mpr z
    rw [if_pos (by omega)] at hK
    rw [(hb p (by omega)).1]
    exact ⟨vp_in_nI (by omega) (by decide), hK⟩
theorem m_go4 {K : Mm → Prop} {s c : Nat} {pre : List Nat} {V : Mm} {v1 v2 G : Int32} (hs : s + pre.length < 1000) (v3 : V.1 234 5 = nI (s + pre.length)) (v4 : V.1 234 6 = nI s) (v5 : V.2 234 12 = wdM pre) (v6 : V.1 234 8 = nbM pre) (hfr : FrM u V)
    (hV : ∀ V', FrM u V' → V'.1 234 5 = nI (s + pre.length + 1) → V'.1 234 6 = nI s → V'.2 234 12 = wdM (pre ++ [c]) → V'.1 234 8 = nbM (pre ++ [c]) → VV X d 196 K 215 [some (.ref 234), some (.int v1), some (.int v2), some (.int G), none] [] V') : go4 X d K v1 v2 G (nI c) V := by
  unfold go4
  have ed : nI (s + pre.length) - nI s = nI pre.length := by rw [pk_sub (by omega)]; congr 1; omega
  rw [wdM_app, nbM_app] at hV
  simp only [mJ_1, v3, v4, ed]
  refine ⟨fun z => ⟨fun z2 => ?_, fun z2 => ?_⟩, fun z => ⟨fun z2 => ?_, fun z2 => ?_⟩⟩
  · have z := (ll2 (n := 7) (by omega) (by decide)).mp z
    have z : 7 ≤ pre.length := z
    rw [if_neg (by omega), if_neg (by omega)] at hV
    exact hV _ (hfr.mI (by omega)) (by rw [mI_s, nI_1]) (by rw [mI_n (by omega)]; exact v4) v5 (by rw [mI_n (by omega)]; exact v6)
  · have z := (ll2 (n := 7) (by omega) (by decide)).mp z
    have z2 := mt (ll2 (n := 3) (m := pre.length) (by omega) (by decide)).mpr z2
    exact absurd (Nat.le_trans (show 3 ≤ 7 by omega) z) z2
  · have z : ¬ 7 ≤ pre.length := mt (ll2 (n := 7) (m := pre.length) (by omega) (by decide)).mpr z
    have z2 : 3 ≤ pre.length := (ll2 (n := 3) (by omega) (by decide)).mp z2
    rw [if_pos (by omega), if_neg (by omega)] at hV
    exact hV _ (hfr.mJ.mI (by omega)) (by rw [mI_s, nI_1]) (by rw [mI_n (by omega), mJ_1]; exact v4) (by rw [mI_2, mJ_s, v5]) (by rw [mI_n (by omega), mJ_1]; exact v6)
  · have z : ¬ 7 ≤ pre.length := mt (ll2 (n := 7) (m := pre.length) (by omega) (by decide)).mpr z
    have z2 : ¬ 3 ≤ pre.length := mt (ll2 (n := 3) (m := pre.length) (by omega) (by decide)).mpr z2
    rw [if_pos (by omega), if_pos (by omega)] at hV
    exact hV _ ((hfr.mJ.mI (by omega)).mI (by omega)) (by rw [mI_s, mI_n (by omega), mJ_1, v3, nI_1]) (by rw [mI_n (by omega), mI_n (by omega), mJ_1]; exact v4) (by rw [mI_2, mI_2, mJ_s, v5]) (by rw [mI_n (by omega), mI_s, v6])
theorem c_mrun {K : Mm → Prop} {n m s : Nat} (hd : 2 ≤ d) (hs : s < n) (hn : n ≤ 940) (hm : ¬ (m < n ∧ m ≤ s)) (hb : TBm u f) (e3 : u.1 234 3 = nI n) (e4 : u.1 234 4 = nI m) (e10 : u.1 234 10 = 0) (hLD : isLD (f s) = true) (hK : ∀ V, FrM u V → RdM V f n m (tokF f n m s) → K V) : ∀ k (pre : List Nat) (V : Mm), s + pre.length + k = n → rb f n s = pre ++ rb f n (s + pre.length) → FrM u V → V.1 234 5 = nI (s + pre.length) → V.1 234 6 = nI s → V.2 234 12 = wdM pre → V.1 234 8 = nbM pre → VV X d 196 K 215 [some (.ref 234), some (.int (nI (f s))), some (.int (if isLt (f s) then 1 else 0)), some (.int (if pre.all (fun c => isLt c == isLt (f s)) then 1 else 0)), none] [] V := by
  obtain ⟨hrl, hrm⟩ := rb_le' (f := f) (n := n) (p := s) (by omega)
  have hcons := tk_rb hs hLD
  have hne : 1 ≤ (rb f n s).length := by rw [hcons, List.length_cons]; omega
  have tail : ∀ V : Mm, FrM u V → V.1 234 5 = nI (s + (rb f n s).length) → V.1 234 6 = nI s → V.2 234 12 = wdM (rb f n s) → V.1 234 8 = nbM (rb f n s) → goEn K (if isLt (f s) then 1 else 0) (if (rb f n s).all (fun c => isLt c == isLt (f s)) then 1 else 0) V := by
    intro V v1 v3 v4 v5 v6
    have fin : ∀ (x : Nat) (ρ : RDS), tokF f n m s = ρ → ρ.2.1 = x → ρ.1 = s → ρ.2.2.2.2 = sk f n (s + (rb f n s).length) → (x = 2 → wdM (rb f n s) = lN (e27 ρ.2.2.2.1)) → (x = 3 → nbM (rb f n s) = nI ρ.2.2.1) → x ≠ 4 → K (mI V 234 7 (nI x)) := by
      intro x ρ hρ h1 h2 h3 h4 h5 h6
      refine hK _ (v1.mI (by omega)) ?_
      rw [hρ]
      refine ⟨?_, ?_, ?_, ?_, ⟨?_, fun q => ?_, fun q => ?_, fun q => absurd (h1.symm.trans q) h6⟩, s + (rb f n s).length, hrl, ?_, fun _ => h3.symm⟩
      · rw [mI_n (by omega), v1.2.2 3 (by omega)]; exact e3
      · rw [mI_n (by omega), v1.2.2 4 (by omega)]; exact e4
      · rw [mI_n (by omega), v1.2.2 10 (by omega)]; exact e10
      · rw [mI_n (by omega), v4, h2]
      · rw [mI_s, h1]
      · rw [mI_2, v5]; exact h4 (h1.symm.trans q)
      · rw [mI_n (by omega), v6]; exact h5 (h1.symm.trans q)
      · rw [mI_n (by omega)]; exact v3
    have wrong : ¬ ((rb f n s).all isLt = true ∧ (rb f n s).length ≤ 7) → ¬ ((rb f n s).all isDg = true ∧ (rb f n s).length ≤ 3) → K (mI V 234 7 1) := by
      intro h1 h2
      refine fin 1 (s, 1, 0, [], sk f n (s + (rb f n s).length)) ?_ rfl rfl rfl (fun q => by cases q) (fun q => by cases q) (by omega)
      rw [tokF_LD hs hm hLD, if_neg h1, if_neg h2]
    have ed : nI (s + (rb f n s).length) - nI s = nI (rb f n s).length := by rw [pk_sub (by omega)]; congr 1; omega
    unfold goEn
    simp only [v3, v4, ed]
    cases hl : isLt (f s) with
    | true =>
      have hnd : ¬ (rb f n s).all isDg = true := by
        rw [hcons]
        intro q
        have h1 := isDg_b.mp (List.all_eq_true.mp q (f s) (by simp))
        have h2 := isLt_b.mp hl
        omega
      have hal : (rb f n s).all (fun c => isLt c == true) = (rb f n s).all isLt := by congr 1; funext c; simp
      rw [hal]
      cases ha : (rb f n s).all isLt with
      | true =>
        simp only [if_true]
        refine ⟨fun q => absurd q (by decide), fun _ => ⟨fun q => absurd q (by decide), fun _ => ⟨fun q2 => ⟨fun q => absurd q (by decide), fun _ => ?_⟩, fun q2 => ?_⟩⟩⟩
        · have q2 : (rb f n s).length ≤ 7 := (ll1 (n := 7) (by omega) (by decide)).mp q2
          obtain ⟨n1, n2⟩ := nm_eq _ ha q2
          refine fin 2 (s, 2, 0, l96 (rb f n s), sk f n (s + (rb f n s).length)) ?_ rfl rfl rfl (fun _ => n2) (fun q => by cases q) (by omega)
          rw [tokF_LD hs hm hLD, if_pos ⟨ha, q2⟩]
        · have q2 : ¬ (rb f n s).length ≤ 7 := mt (ll1 (n := 7) (m := (rb f n s).length) (by omega) (by decide)).mpr q2
          exact wrong (fun z => q2 z.2) (fun z => hnd z.1)
      | false =>
        refine ⟨fun _ => wrong (fun z => by rw [ha] at z; cases z.1) (fun z => hnd z.1), fun q => absurd rfl q⟩
    | false =>
      have hnl : ¬ (rb f n s).all isLt = true := by
        rw [hcons]
        intro q
        have h1 := List.all_eq_true.mp q (f s) (by simp)
        rw [hl] at h1; cases h1
      have hal : (rb f n s).all (fun c => isLt c == false) = (rb f n s).all isDg := by
        rw [Bool.eq_iff_iff, List.all_eq_true, List.all_eq_true]
        constructor
        · intro h x hx
          have h1 := h x hx
          have h2 := hrm x hx
          unfold isLD at h2
          have h3 : isLt x = false := by simpa using h1
          rw [h3] at h2
          simpa using h2
        · intro h x hx
          have h1 := isDg_b.mp (h x hx)
          rw [isLt_f (by omega)]
          rfl
      rw [hal]
      cases ha : (rb f n s).all isDg with
      | true =>
        refine ⟨fun q => absurd q (by decide), fun _ => ⟨fun _ => ⟨fun q2 => ⟨fun _ => ?_, fun q => absurd rfl q⟩, fun q2 => ?_⟩, fun q => absurd rfl q⟩⟩
        · have q2 : (rb f n s).length ≤ 3 := (ll1 (n := 3) (by omega) (by decide)).mp q2
          obtain ⟨n1, n2⟩ := nb_eq _ ha q2
          refine fin 3 (s, 3, num (rb f n s), [], sk f n (s + (rb f n s).length)) ?_ rfl rfl rfl (fun q => by cases q) (fun _ => n2) (by omega)
          rw [tokF_LD hs hm hLD, if_neg (fun z => hnl z.1), if_pos ⟨ha, q2⟩]
        · have q2 : ¬ (rb f n s).length ≤ 3 := mt (ll1 (n := 3) (m := (rb f n s).length) (by omega) (by decide)).mpr q2
          exact wrong (fun z => hnl z.1) (fun z => q2 z.2)
      | false =>
        refine ⟨fun _ => wrong (fun z => hnl z.1) (fun z => by rw [ha] at z; cases z.1), fun q => absurd rfl q⟩
  intro k
  induction k with
  | zero =>
    intro pre V hk hpre v1 v3 v4 v5 v6
    have hnil : rb f n (s + pre.length) = [] := rb_nil (Or.inl (by omega))
    rw [hnil, List.append_nil] at hpre
    have hbV : TBm V f := fun i hi => by rw [v1.1 235 (by omega)]; exact hb i hi
    have e3V : V.1 234 3 = nI n := by rw [v1.2.2 3 (by omega)]; exact e3
    refine B_M_go_215 ?_
    rw [v3]
    refine c_mtapeAt (by omega) hn (by omega) hbV e3V ?_
    rw [if_neg (by omega)]
    refine c_mLt (by omega) (by omega) (fun q => absurd q (by decide)) (fun _ => ⟨fun z => absurd rfl z, fun _ => ?_⟩)
    rw [v3]
    refine c_mtapeAt (by omega) hn (by omega) hbV e3V ?_
    rw [if_neg (by omega)]
    refine c_mDg (by omega) (by omega) (fun q => absurd q (by decide)) (fun _ => ⟨fun _ => ?_, fun z => absurd rfl z⟩)
    rw [hpre] at tail
    exact tail V v1 v3 v4 v5 v6
  | succ k ih =>
    intro pre V hk hpre v1 v3 v4 v5 v6
    have hp : s + pre.length < n := by omega
    have hbV : TBm V f := fun i hi => by rw [v1.1 235 (by omega)]; exact hb i hi
    have e3V : V.1 234 3 = nI n := by rw [v1.2.2 3 (by omega)]; exact e3
    obtain ⟨hby, hb256⟩ := hbV (s + pre.length) (by omega)
    have body : isLD (f (s + pre.length)) = true → goBd X d K (nI (f s)) (if isLt (f s) then 1 else 0) (if pre.all (fun c => isLt c == isLt (f s)) then 1 else 0) V := by
      intro hLD2
      have nx : ∀ G : Int32, G = (if (pre ++ [f (s + pre.length)]).all (fun c => isLt c == isLt (f s)) then 1 else 0) → go4 X d K (nI (f s)) (if isLt (f s) then 1 else 0) G (nI (f (s + pre.length))) V := by
        intro G hG
        subst hG
        refine m_go4 (u := u) (by omega) v3 v4 v5 v6 v1 fun V' x1 x2 x3 x4 x5 => ?_
        refine ih (pre ++ [f (s + pre.length)]) V' (by rw [List.length_append, List.length_singleton]; omega) (by rw [hpre, tk_rb hp hLD2, List.append_assoc, List.length_append, List.length_singleton]; rfl) x1 (by rw [x2, List.length_append, List.length_singleton]; rfl) x3 x4 x5
      unfold goBd
      rw [v3, nI_clamp (show s + pre.length < 2 ^ 31 by omega), hby]
      refine ⟨vp_in_nI (by omega) (by decide), fun q => nx 0 ?_, fun q => ?_⟩
      · cases ha : pre.all (fun c => isLt c == isLt (f s)) with
        | true => rw [ha] at q; exact absurd q (by decide)
        | false => rw [List.all_append, ha]; rfl
      · have ha : pre.all (fun c => isLt c == isLt (f s)) = true := by
          cases ha : pre.all (fun c => isLt c == isLt (f s)) with
          | true => rfl
          | false => rw [ha] at q; exact absurd rfl q
        refine c_mLt (by omega) hb256 (fun hl => ?_) (fun hl => ?_)
        · cases hls : isLt (f s) with
          | true => 
            rw [hls] at nx
            refine ⟨fun z => absurd rfl z, fun _ => nx 1 ?_⟩
            rw [hls] at ha
            rw [List.all_append, ha]; simp [hl]
          | false => 
            rw [hls] at nx
            refine ⟨fun _ => nx 0 ?_, fun z => absurd z (by decide)⟩
            rw [List.all_append]; simp [hl]
        · cases hls : isLt (f s) with
          | true => 
            rw [hls] at nx
            refine ⟨fun _ => nx 0 ?_, fun z => absurd z (by decide)⟩
            rw [List.all_append]; simp [hl]
          | false => 
            rw [hls] at nx
            refine ⟨fun z => absurd rfl z, fun _ => nx 1 ?_⟩
            rw [hls] at ha
            rw [List.all_append, ha]; simp [hl]
    refine B_M_go_215 ?_
    rw [v3]
    refine c_mtapeAt (by omega) hn (by omega) hbV e3V ?_
    rw [if_pos hp]
    refine c_mLt (by omega) hb256 (fun hl => ⟨fun _ => body (by unfold isLD; rw [hl]; rfl), fun z => absurd z (by decide)⟩) (fun hl => ⟨fun z => absurd rfl z, fun _ => ?_⟩)
    rw [v3]
    refine c_mtapeAt (by omega) hn (by omega) hbV e3V ?_
    rw [if_pos hp]
    refine c_mDg (by omega) hb256 (fun hg => ⟨fun z => absurd z (by decide), fun _ => body (by unfold isLD; rw [hl, hg]; rfl)⟩) (fun hg => ⟨fun _ => ?_, fun z => absurd rfl z⟩)
    have hnil : rb f n (s + pre.length) = [] := rb_nil (Or.inr (by unfold isLD; rw [hl, hg]; rfl))
    rw [hnil, List.append_nil] at hpre
    rw [hpre] at tail
    exact tail V v1 v3 v4 v5 v6
theorem g_tail {K : Mm → Prop} {n m s : Nat} (hd : 2 ≤ d) (hs : s ≤ n) (hn : n ≤ 940) (hm9 : m ≤ 940) (hss : sk f n s = s) (hb : TBm u f) (e3 : u.1 234 3 = nI n) (e4 : u.1 234 4 = nI m) (e10 : u.1 234 10 = 0) (e5 : u.1 234 5 = nI s) (e6 : u.1 234 6 = nI s) (hK : ∀ V, FrM u V → RdM V f n m (tokF f n m s) → K V) : goTL X d K u := by
  have t2 : ¬ (m < n ∧ m ≤ s) → goT2 X d K u := by
    intro hm
    unfold goT2
    rw [e3, e5, nI_clamp (show s < 2 ^ 31 by omega)]
    refine ⟨fun z => ?_, fun z => ?_⟩
    · have z := (nI_ltI (by omega) (by omega)).mp z
      obtain ⟨hby, hb256⟩ := hb s (by omega)
      have rd : isLD (f s) = true → VV X d 196 K 215 [some (.ref 234), some (.int (nI (f s))), some (.int (if isLt (f s) then 1 else 0)), some (.int 1), none] [] (mI (mJ u 234 12 (lN 0)) 234 8 0) := by
        intro hLD
        refine c_mrun (u := u) (by omega) z hn hm hb e3 e4 e10 hLD hK (n - s) [] _ (by simp; omega) rfl (FrM.rf.mJ.mI (by omega)) ?_ ?_ ?_ ?_
        · rw [mI_n (by omega), mJ_1]; exact e5
        · rw [mI_n (by omega), mJ_1]; exact e6
        · rw [mI_2, mJ_s]; rfl
        · rw [mI_s]; rfl
      rw [hby]
      refine ⟨vp_in_nI (by omega) (by decide), c_mLt (by omega) hb256 (fun hl => ⟨fun _ => c_mLt (by omega) hb256 (fun _ => ?_) (fun q => by rw [hl] at q; cases q), fun z => absurd z (by decide)⟩) (fun hl => ⟨fun z => absurd rfl z, fun _ => ?_⟩)⟩
      · have := rd (by unfold isLD; rw [hl]; rfl)
        rw [hl] at this
        exact this
      · refine c_mDg (by omega) hb256 (fun hg => ⟨fun _ => c_mLt (by omega) hb256 (fun q => by rw [hl] at q; cases q) (fun _ => ?_), fun z => absurd z (by decide)⟩) (fun hg => ⟨fun z => absurd rfl z, fun _ => ?_⟩)
        · have := rd (by unfold isLD; rw [hl, hg]; rfl)
          rw [hl] at this
          exact this
        · have hLD : isLD (f s) = false := by unfold isLD; rw [hl, hg]; rfl
          have tk : tokF f n m s = if isSg (f s) = true then (s, 4, f s, [], sk f n (s + 1)) else (s, 1, 0, [], sk f n (s + 1)) := by
            unfold tokF
            rw [if_neg hm, if_neg (by omega), if_neg (by rw [hLD]; decide)]
          have sgn : ∀ x : Nat, (∀ ρ, ρ = tokF f n m s → ρ.1 = s ∧ ρ.2.2.2.2 = sk f n (s + 1) ∧ ρ.2.1 = x ∧ (ρ.2.1 = 4 → ρ.2.2.1 = f s)) → x ≠ 2 → x ≠ 3 → K (mI (mI (mI u 234 7 (nI x)) 234 9 (nI (f s))) 234 5 ((mI (mI u 234 7 (nI x)) 234 9 (nI (f s))).1 234 5 + 1)) := by
            intro x hx hx2 hx3
            obtain ⟨h1, h2, h4, h6⟩ := hx _ rfl
            refine hK _ (((FrM.rf.mI (by omega)).mI (by omega)).mI (by omega)) ⟨?_, ?_, ?_, ?_, ⟨?_, fun q => absurd (h4.symm.trans q) hx2, fun q => absurd (h4.symm.trans q) hx3, fun q => ?_⟩, s + 1, by omega, ?_, fun _ => h2.symm⟩
            · rw [mI_n (by omega), mI_n (by omega), mI_n (by omega)]; exact e3
            · rw [mI_n (by omega), mI_n (by omega), mI_n (by omega)]; exact e4
            · rw [mI_n (by omega), mI_n (by omega), mI_n (by omega)]; exact e10
            · rw [mI_n (by omega), mI_n (by omega), mI_n (by omega), h1]; exact e6
            · rw [mI_n (by omega), mI_n (by omega), mI_s, h4]
            · rw [mI_n (by omega), mI_s, h6 q]
            · rw [mI_s, mI_n (by omega), mI_n (by omega), e5, nI_1]
          have yes : isSg (f s) = true → K (mI (mI (mI u 234 7 4) 234 9 (nI (f s))) 234 5 ((mI (mI u 234 7 4) 234 9 (nI (f s))).1 234 5 + 1)) := fun hg => sgn 4 (fun ρ hρ => by
            rw [tk, if_pos hg] at hρ
            subst hρ
            exact ⟨rfl, rfl, rfl, fun _ => rfl⟩) (by omega) (by omega)
          have no : isSg (f s) = false → K (mI (mI (mI u 234 7 1) 234 9 (nI (f s))) 234 5 ((mI (mI u 234 7 1) 234 9 (nI (f s))).1 234 5 + 1)) := fun hg => sgn 1 (fun ρ hρ => by
            rw [tk, if_neg (by rw [hg]; decide)] at hρ
            subst hρ
            exact ⟨rfl, rfl, rfl, fun q => by cases q⟩) (by omega) (by omega)
          have hs : isSg (f s) = decide (f s = 59 ∨ f s = 60 ∨ f s = 61 ∨ f s = 62 ∨ f s = 40 ∨ f s = 41) := by
            rw [Bool.eq_iff_iff]; simp [isSg]; omega
          rw [hs] at yes no
          have t : ∀ x, x < 100 → (nI (f s) = nI x ↔ f s = x) := fun x hx => nI_eq (by omega) (by omega)
          have t1 : nI (f s) = 59 ↔ f s = 59 := t 59 (by omega)
          have t2 : nI (f s) = 60 ↔ f s = 60 := t 60 (by omega)
          have t3 : nI (f s) = 61 ↔ f s = 61 := t 61 (by omega)
          have t4 : nI (f s) = 62 ↔ f s = 62 := t 62 (by omega)
          have t5 : nI (f s) = 40 ↔ f s = 40 := t 40 (by omega)
          have t6 : nI (f s) = 41 ↔ f s = 41 := t 41 (by omega)
          exact ⟨fun q => yes (decide_eq_true (by rw [t1] at q; omega)), fun q1 => ⟨fun q => yes (decide_eq_true (by rw [t2] at q; omega)), fun q2 => ⟨fun q => yes (decide_eq_true (by rw [t3] at q; omega)), fun q3 => ⟨fun q => yes (decide_eq_true (by rw [t4] at q; omega)), fun q4 => ⟨fun q => yes (decide_eq_true (by rw [t5] at q; omega)), fun q5 => ⟨fun q => no (decide_eq_false (by rw [t1] at q1; rw [t2] at q2; rw [t3] at q3; rw [t4] at q4; rw [t5] at q5; rw [t6] at q; omega)), fun q => yes (decide_eq_true (by rw [t6] at q; omega))⟩⟩⟩⟩⟩⟩
    · have z := mt (nI_ltI (a := s) (b := n) (by omega) (by omega)).mpr z
      have tk : tokF f n m s = (s, 0, 0, [], s) := by
        unfold tokF
        rw [if_neg hm, if_pos (by omega)]
      refine hK _ (FrM.rf.mI (by omega)) ?_
      rw [tk]
      refine ⟨?_, ?_, ?_, ?_, ⟨by rw [mI_s]; rfl, fun q => (by cases q), fun q => (by cases q), fun q => (by cases q)⟩, s, hs, ?_, fun _ => hss⟩
      · rw [mI_n (by omega)]; exact e3
      · rw [mI_n (by omega)]; exact e4
      · rw [mI_n (by omega)]; exact e10
      · rw [mI_n (by omega)]; exact e6
      · rw [mI_n (by omega)]; exact e5
  unfold goTL
  rw [e3, e4, e6]
  refine ⟨fun z => t2 (fun q => ?_), fun z => ⟨fun z2 => t2 (fun q => ?_), fun z2 => ?_⟩⟩
  · have z := (nI_leI (by omega) (by omega)).mp z; omega
  · have z2 := (nI_ltI (by omega) (by omega)).mp z2; omega
  · have z := mt (nI_leI (a := n) (b := m) (by omega) (by omega)).mpr z
    have z2 := mt (nI_ltI (a := s) (b := m) (by omega) (by omega)).mpr z2
    have tk : tokF f n m s = (m, 1, 0, [], s) := by
      unfold tokF
      rw [if_pos (by omega)]
    refine hK _ ((FrM.rf.mI (by omega)).mI (by omega)) ?_
    rw [tk]
    refine ⟨?_, ?_, ?_, ?_, ⟨by rw [mI_s]; rfl, fun q => (by cases q), fun q => (by cases q), fun q => (by cases q)⟩, s, hs, ?_, fun q => absurd rfl q⟩
    · rw [mI_n (by omega), mI_n (by omega)]; exact e3
    · rw [mI_n (by omega), mI_n (by omega)]; exact e4
    · rw [mI_n (by omega), mI_n (by omega)]; exact e10
    · rw [mI_n (by omega), mI_s]
    · rw [mI_n (by omega), mI_n (by omega)]; exact e5
theorem l_go {K : Mm → Prop} {n m s : Nat} (hd : 2 ≤ d) (hn : n ≤ 940) (hm9 : m ≤ 940) (hb : TBm u f) (e3 : u.1 234 3 = nI n) (e4 : u.1 234 4 = nI m) (e10 : u.1 234 10 = 0) (hK : ∀ V, FrM u V → RdM V f n m (tokF f n m s) → K V) : ∀ k p V, p + k = n → sk f n p = s → FrM u V → V.1 234 5 = nI p → VV X d 196 K 0 [some (.ref 234), none, none, none, none] [] V := by
  have tl : ∀ p (V : Mm), p ≤ n → sk f n p = s → (n ≤ p ∨ isBl (f p) = false) → FrM u V → V.1 234 5 = nI p → goTL X d K (mI V 234 6 (V.1 234 5)) := by
    intro p V hp hs h v1 v5
    have hss := hs
    rw [sk_st h] at hs
    subst hs
    refine g_tail hd hp hn hm9 hss (fun i hi => by rw [mI_r (by omega), v1.1 235 (by omega)]; exact hb i hi) (by rw [mI_n (by omega), v1.2.2 3 (by omega)]; exact e3) (by rw [mI_n (by omega), v1.2.2 4 (by omega)]; exact e4) (by rw [mI_n (by omega), v1.2.2 10 (by omega)]; exact e10) (by rw [mI_n (by omega)]; exact v5) (by rw [mI_s]; exact v5) fun V' x1 x2 => hK V' ((v1.mI (by omega)).tr x1) x2
  intro k
  induction k with
  | zero =>
    intro p V hp hs v1 v5
    refine B_M_go_0 ⟨fun _ => tl p V (by omega) hs (Or.inl (by omega)) v1 v5, fun z => ?_⟩
    rw [v5, v1.2.2 3 (by omega), e3] at z
    exact absurd (nI_le (by omega) (by omega)) z
  | succ k ih =>
    intro p V hp hs v1 v5
    obtain ⟨hby, hb256⟩ := hb p (by omega)
    refine B_M_go_0 ⟨fun z => ?_, fun z => ?_⟩
    · rw [v5, v1.2.2 3 (by omega), e3] at z
      exact absurd z (nI_ge (by omega) (by omega))
    · have lp : isBl (f p) = true → VV X d 196 K 0 [some (.ref 234), none, none, none, none] [] (mI V 234 5 (V.1 234 5 + 1)) := by
        intro hbl
        exact ih (p + 1) _ (by omega) (by rw [← sk_bl (by omega) hbl]; exact hs) (v1.mI (by omega)) (by rw [mI_s, v5, nI_1])
      have vi : vp_in (V.1 234 5) 940 := by rw [v5]; exact vp_in_nI (by omega) (by decide)
      have by' : V.1 235 (V.1 234 5).toNatClampNeg = nI (f p) := by rw [v5, nI_clamp (by omega), v1.1 235 (by omega)]; exact hby
      refine ⟨vi, fun q => lp ?_, fun q => ⟨vi, fun q2 => tl p V (by omega) hs (Or.inr ?_) v1 v5, fun q2 => lp ?_⟩⟩
      · rw [by'] at q
        exact isBl_iff.mpr (Or.inl ((le1 (n := 32) (by omega) (by decide)).mp q))
      · rw [by'] at q q2
        cases hbl : isBl (f p)
        · rfl
        · rcases isBl_iff.mp hbl with h | h
          · rw [h] at q; exact absurd rfl q
          · rw [h] at q2; exact absurd rfl q2
      · rw [by'] at q2
        exact isBl_iff.mpr (Or.inr ((le1 (n := 10) (by omega) (by decide)).mp q2))
theorem c_mgo {K : Mm → Prop} {n m : Nat} {ρ : RDS} (hd : 3 ≤ d) (hn : n ≤ 940) (hm9 : m ≤ 940) (hb : TBm u f) (hr : RdM u f n m ρ) (h1 : ρ.2.1 ≠ 1) (hK : ∀ V, FrM u V → RdM V f n m (nxt f n m ρ) → K V) : CV X d 196 [.ref 234] u K := by
  obtain ⟨d, rfl, hd1⟩ := dpos hd
  obtain ⟨e3, e4, e10, e6, et, p, p1, p2, p3⟩ := hr
  exact CV_of mk_X13_go.2.2 rfl (l_go hd1 hn hm9 hb e3 e4 e10 hK (n - p) p u (by omega) (p3 h1) FrM.rf p2)
theorem c_mbegin {K : Mm → Prop} {n m : Nat} (hd : 4 ≤ d) (hn : n ≤ 940) (hm9 : m ≤ 940) (hb : TBm u f) (e2 : u.1 234 2 = nI n) (hK : ∀ V : Mm, (∀ b, b ≠ 234 → V.1 b = u.1 b) → (∀ b, b ≠ 234 → V.2 b = u.2 b) → (∀ k, 10 < k → V.1 234 k = u.1 234 k) → V.1 234 2 = 0 → V.1 234 0 = 0 → RdM V f n m (tokF f n m (sk f n 0)) → K V) : CV X d 205 [.ref 234, .int (nI m)] u K := by
  obtain ⟨d, rfl, hd1⟩ := dpos hd
  refine CV_of mk_X13_begin.2.2 rfl (B_M_begin_0 ?_)
  obtain ⟨d, rfl, hd2⟩ := dpos hd1
  refine CI_of mk_X13_take.2.2 rfl (B_M_take_0 ?_)
  rw [show (mI u 234 0 0).1 234 2 = nI n by rw [mI_n (by omega)]; exact e2]
  refine CV_of mk_X13_go.2.2 rfl (l_go (u := mI (mI (mI (mI (mI (mI u 234 0 0) 234 2 0) 234 3 (nI n)) 234 4 (nI m)) 234 10 0) 234 5 0) hd2 hn hm9 (fun i hi => by simp (disch := omega) only [mI_r]; exact hb i hi) (by simp (disch := omega) only [mI_n, mI_s]) (by simp (disch := omega) only [mI_n, mI_s]) (by simp (disch := omega) only [mI_n, mI_s]) (fun V v1 v2 => hK V (fun b b1 => by rw [v1.1 b b1]; simp (disch := omega) only [mI_r]) (fun b b1 => by rw [v1.2.1 b b1]; rfl) (fun k hk => by rw [v1.2.2 k (by omega)]; simp (disch := omega) only [mI_n]) (by rw [v1.2.2 2 (by omega)]; simp (disch := omega) only [mI_n, mI_s]) (by rw [v1.2.2 0 (by omega)]; simp (disch := omega) only [mI_n, mI_s]) v2) n 0 _ (by omega) rfl FrM.rf mI_s)
end TokM
