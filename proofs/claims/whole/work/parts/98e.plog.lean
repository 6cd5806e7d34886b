/-! log -/
section Nmx
variable {u : Mm} {g : Nat → Int32} {nm : Nat → Int64}
theorem names_ex (hg : HeadOk g) (hc : CityR u 5 g (u.2 241)) (e0 : u.1 236 = g) : ∃ nl, Nms u nl (nQ g) (nK g) (nA g) ∧ NmsN u nl (nQ g) (nK g) (nA g) := by
  obtain ⟨⟨a1, a2, a3, a4, a5, a6, a7, a8⟩, -⟩ := hg
  obtain ⟨⟨c0, c1, c2, c3, -⟩, s, k, a, -⟩ := hc
  have hex : ∀ j, ∃ l : List Nat, ∀ x : Int64, nameR x (u.2 241 j) → lOk l ∧ x = lN (e5 l) ∧ u.2 241 j = lN (e27 l) := by
    intro j
    by_cases h : ∃ x, nameR x (u.2 241 j)
    · obtain ⟨x, l, h1, h2, h3, h4, h5⟩ := h
      refine ⟨l, fun y hy => ?_⟩
      obtain ⟨l', k1, k2, k3, k4, k5⟩ := hy
      have : l = l' := (e27_iff ⟨h1, h2, h3⟩ ⟨k1, k2, k3⟩).mp (h5.symm.trans k5)
      subst this
      exact ⟨⟨h1, h2, h3⟩, k4, h5⟩
    · exact ⟨[], fun x hx => absurd ⟨x, hx⟩ h⟩
  obtain ⟨nl, key⟩ := Classical.axiomOfChoice hex
  refine ⟨nl, ?_⟩
  refine ⟨⟨⟨a2, c0.trans a1, fun i hi => ?_⟩, ⟨by omega, c1.trans a3, fun i hi => ?_⟩, ⟨a6, c2.trans a5, fun i hi => ?_⟩⟩, ⟨a2, by omega, fun i hi => ?_⟩, ⟨by omega, by omega, fun i hi => ?_⟩, ⟨a6, by omega, fun i hi => ?_⟩, by rw [e0]; exact a1, by rw [e0]; exact a3, by rw [e0]; exact a5⟩
  · have := key i _ (s i hi).2.2
    rw [Nat.mul_zero, Nat.zero_add]
    exact ⟨this.1, this.2.1⟩
  · have := key (8 + i) _ (k i hi)
    exact ⟨this.1, this.2.1⟩
  · have := key (13 + i) _ (a i hi).2.1
    exact ⟨this.1, this.2.1⟩
  · have := key i _ (s i hi).2.2
    rw [Nat.zero_add]
    exact ⟨this.1, this.2.2⟩
  · have := key (8 + i) _ (k i hi)
    exact ⟨this.1, this.2.2⟩
  · have := key (13 + i) _ (a i hi).2.1
    exact ⟨this.1, this.2.2⟩
end Nmx
section PLog
variable {X : Xc} {d : Nat} {u : Mm} {g : Nat → Int32} {f : Nat → Nat} {n : Nat} {nl : Nat → List Nat}
/-- where the model may have written -/
def FrO (u V : Mm) : Prop := (∀ b, b ≠ 234 → b ≠ 236 → b ≠ 239 → b ≠ 240 → b ≠ 247 → b ≠ 258 → b ≠ 259 → V.1 b = u.1 b) ∧ (∀ b, b ≠ 234 → V.2 b = u.2 b) ∧ ∀ j, 13 < j → j ≠ 24 → j ≠ 27 → j ≠ 28 → j ≠ 54 → j ≠ 55 → V.1 234 j = u.1 234 j
def rsM (V : Mm) (w : Int32) (k : Nat) (s : Nat → Int32) : Prop := V.1 234 55 = 1 ∧ V.1 259 0 = w ∧ V.1 259 1 = nI k ∧ V.1 259 2 = s 198 ∧ V.1 259 3 = s 201
theorem c_mlog {K : Int32 → Mm → Prop} {lv pn : Nat} (hd : 9 ≤ d) (hn : n ≤ 940) (hb : TBm u f) (e2 : u.1 234 2 = nI n) (e6 : u.1 236 = g) (hg : HeadOk g) (hs : Stt g g) (hN : NmsN u nl (nQ g) (nK g) (nA g)) (hlv : lv ≤ 1) (e24 : u.1 234 24 = nI pn) (hpn : pn ≤ 8)
    (h0 : ∀ e, lgTxt f n nl (nQ g) (nK g) (nA g) = .inl e → ∀ V, FrO u V → V.1 236 = g → V.1 239 = u.1 239 → V.1 259 = u.1 259 → V.1 234 55 = u.1 234 55 → V.1 234 24 = u.1 234 24 → V.1 234 2 = 0 → FtM V e → K (-2 - nI e.2) V)
    (h1 : ∀ ls, lgTxt f n nl (nQ g) (nK g) (nA g) = .inr ls → (∀ c ∈ ls, llOk (nQ g) (nK g) (nA g) c) → ls.length ≤ 40 → ∀ V, FrO u V → V.1 234 2 = 0 → V.1 234 10 = 0 → rsM V (lvAll g ls 0 g).1 (lvAll g ls 0 g).2.1 (lvAll g ls 0 g).2.2 →
      (lv = 1 ∧ 0 < (lvAll g ls 0 g).2.1 → V.1 236 = (lvAll g ls 0 g).2.2 ∧ V.1 239 = snF (u.1 239) g pn ∧ V.1 234 24 = nI (mn8 pn)) → (¬ (lv = 1 ∧ 0 < (lvAll g ls 0 g).2.1) → V.1 236 = g ∧ V.1 239 = u.1 239 ∧ V.1 234 24 = u.1 234 24) → K (if (lvAll g ls 0 g).1 = 0 then -1 else nI (lvAll g ls 0 g).2.1) V) : CI X d 305 [.ref 234, .int (nI lv)] u K := by
  obtain ⟨d, rfl, hd1⟩ := dpos hd
  have hQ := hg.1.2.1
  have hA := hg.1.2.2.2.2.2.1
  have hKK := hg.1.2.2.2.1
  refine CI_of mk_X13_log.2.2 rfl (B_M_log_0 ?_)
  refine c_misIn (by omega) (fun _ _ => ⟨fun _ => ?_, fun z => absurd z (by decide)⟩) (fun z => ?_)
  · refine c_mbegin (f := f) (n := n) (m := 400) (by omega) hn (by omega) (hb.cg (mI_r (by omega))) (by rw [mI_n (by omega)]; exact e2) fun V v1 v2 v3 v4 v5 v6 => ?_
    have o1 : ∀ b, b ≠ 234 → (mI V 234 54 0).1 b = u.1 b := fun b hb => by rw [mI_r hb, v1 b hb, mI_r hb]
    have o2 : ∀ b, b ≠ 234 → (mI V 234 54 0).2 b = u.2 b := fun b hb => v2 b hb
    have o3 : ∀ k, 10 < k → k ≠ 54 → (mI V 234 54 0).1 234 k = u.1 234 k := fun k h1 h2 => by rw [mI_n (by omega), v3 k h1, mI_n (by omega)]
    have hE : EnM (mI V 234 54 0) f n 400 := ⟨hn, by omega, hb.cg (o1 235 (by omega))⟩
    have hN1 : NmsN (mI V 234 54 0) nl (nQ g) (nK g) (nA g) := hN.cg (o1 236 (by omega)) (o2 241 (by omega))
    obtain ⟨k0, -⟩ := tk0 (f := f) (n := n) (m := 400) hn (by omega)
    refine jLogLines (u := mI V 234 54 0) (by omega) hE hN1 (by omega) (by omega) (by omega) 41 [] _ _ rfl (by simp) (FrN.g (k := 0) (FrT.rf.n)) ⟨by rw [mI_s]; rfl, fun i hi => absurd hi (by simp)⟩ (v6.cg (fun j hj => by rw [mI_n (by omega)]) rfl) k0 (fun e he V' x1 x2 => ?_) (fun ls he hol h40 V' x1 x2 x3 => ?_)
    · refine h0 e he V' ⟨fun b b1 b2 b3 b4 b5 b6 b7 => by rw [x1.1 b b1 b6]; exact o1 b b1, fun b b1 => by rw [x1.2.1 b b1]; exact o2 b b1, fun j j1 j2 j3 j4 j5 j6 => by rw [x1.2.2 j (by omega)]; exact o3 j (by omega) j5⟩ (by rw [x1.1 236 (by omega) (by omega), o1 236 (by omega)]; exact e6) (by rw [x1.1 239 (by omega) (by omega), o1 239 (by omega)]) (by rw [x1.1 259 (by omega) (by omega), o1 259 (by omega)]) (by rw [x1.2.2 55 (by omega), o3 55 (by omega) (by omega)]) (by rw [x1.2.2 24 (by omega), o3 24 (by omega) (by omega)]) (by rw [x1.2.2 2 (by omega), mI_n (by omega)]; exact v4) x2
    · have hol : ∀ c ∈ ls, llOk (nQ g) (nK g) (nA g) c := fun c hc => (hol c hc).resolve_left (by simp)
      have h1 := h1 ls he hol h40
      have x6 : V'.1 236 = g := by rw [x1.1 236 (by omega) (by omega), o1 236 (by omega)]; exact e6
      refine c_mlay (by omega) ?_
      generalize hU : mR V' 240 (fun k => if k < 92 then V'.1 236 (198 + k) else V'.1 240 k) = U
      have u6 : U.1 236 = g := by rw [← hU, mR_n (by omega)]; exact x6
      have u0 : ∀ k, k < 92 → U.1 240 k = g (198 + k) := fun k hk => by rw [← hU, mR_s, if_pos hk, x6]
      have uo : ∀ b, b ≠ 240 → U.1 b = V'.1 b := fun b hb => by rw [← hU, mR_n hb]
      have uL : LgM U ls := by
        refine ⟨by rw [uo 234 (by omega)]; exact x3.1, fun i hi => (x3.2 i hi).cg fun j _ _ => by rw [uo 258 (by omega)]⟩
      have u2 : U.2 = V'.2 := by rw [← hU]; rfl
      obtain ⟨z1, z2, z3, z4, z5⟩ := lvAll_ok hg ls 0 g hs hol
      /- the end -/
      have fin : ∀ (w : Int32) (k : Nat) (s' : Nat → Int32) (W : Mm), lvAll g ls 0 g = (w, k, s') → FrV U W → W.1 236 = s' →
          (¬ nI lv = (1 : Int32) → CV X d 306 [.ref 234, .int 0] (mI (mI (mI (mI (mI W 259 0 w) 259 1 (nI k)) 259 2 ((mI (mI W 259 0 w) 259 1 (nI k)).1 236 198)) 259 3 ((mI (mI (mI W 259 0 w) 259 1 (nI k)) 259 2 ((mI (mI W 259 0 w) 259 1 (nI k)).1 236 198)).1 236 201)) 234 55 1) (fun u1 => (¬ w = 0 → K (nI k) u1) ∧ (w = 0 → K (-1) u1))) ∧ (nI lv = (1 : Int32) → (nI k ≤ 0 → CV X d 306 [.ref 234, .int 0] (mI (mI (mI (mI (mI W 259 0 w) 259 1 (nI k)) 259 2 ((mI (mI W 259 0 w) 259 1 (nI k)).1 236 198)) 259 3 ((mI (mI (mI W 259 0 w) 259 1 (nI k)) 259 2 ((mI (mI W 259 0 w) 259 1 (nI k)).1 236 198)).1 236 201)) 234 55 1) (fun u2 => (¬ w = 0 → K (nI k) u2) ∧ (w = 0 → K (-1) u2))) ∧ (¬ nI k ≤ 0 → CV X d 306 [.ref 234, .int 1] (mI (mI (mI (mI (mI W 259 0 w) 259 1 (nI k)) 259 2 ((mI (mI W 259 0 w) 259 1 (nI k)).1 236 198)) 259 3 ((mI (mI (mI W 259 0 w) 259 1 (nI k)) 259 2 ((mI (mI W 259 0 w) 259 1 (nI k)).1 236 198)).1 236 201)) 234 55 1) (fun u3 => (¬ w = 0 → K (nI k) u3) ∧ (w = 0 → K (-1) u3)))) := by
        intro w k s' W ew hW w6
        rw [ew] at h1 z2 z4 z5
        dsimp only at h1 z2 z4 z5
        rw [Nat.zero_add] at z4
        have eq1 : (mI (mI W 259 0 w) 259 1 (nI k)).1 236 198 = s' 198 := by rw [mI_r (by omega), mI_r (by omega), w6]
        rw [eq1]
        have eq2 : (mI (mI (mI W 259 0 w) 259 1 (nI k)) 259 2 (s' 198)).1 236 201 = s' 201 := by rw [mI_r (by omega), mI_r (by omega), mI_r (by omega), w6]
        rw [eq2]
        generalize hY : mI (mI (mI (mI (mI W 259 0 w) 259 1 (nI k)) 259 2 (s' 198)) 259 3 (s' 201)) 234 55 1 = Y
        have y6 : Y.1 236 = s' := by rw [← hY]; simp (disch := omega) only [mI_r]; exact w6
        have y0 : Y.1 240 = U.1 240 := by rw [← hY]; simp (disch := omega) only [mI_r]; exact hW.1 240 (by omega) (by omega) (by omega)
        have y9 : Y.1 239 = u.1 239 := by rw [← hY]; simp (disch := omega) only [mI_r]; rw [hW.1 239 (by omega) (by omega) (by omega), uo 239 (by omega), x1.1 239 (by omega) (by omega), o1 239 (by omega)]
        have yo : ∀ b, b ≠ 234 → b ≠ 236 → b ≠ 240 → b ≠ 247 → b ≠ 258 → b ≠ 259 → Y.1 b = u.1 b := fun b b1 b2 b3 b4 b5 b6 => by
          rw [← hY, mI_r b1, mI_r b6, mI_r b6, mI_r b6, mI_r b6, hW.1 b b1 b2 b4, uo b b3, x1.1 b b1 b5, o1 b b1]
        have y4 : ∀ j, j ≠ 27 → j ≠ 28 → j ≠ 55 → Y.1 234 j = V'.1 234 j := fun j j1 j2 j3 => by
          rw [← hY, mI_n (by omega), mI_r (by omega), mI_r (by omega), mI_r (by omega), mI_r (by omega), hW.2.2 j j1 j2, uo 234 (by omega)]
        have y2 : ∀ b, b ≠ 234 → Y.2 b = u.2 b := fun b b1 => by
          rw [← hY]
          show W.2 b = _
          rw [hW.2.1, u2, x1.2.1 b b1]; exact o2 b b1
        have yr : rsM Y w k s' := by
          rw [← hY]
          refine ⟨mI_s, ?_, ?_, ?_, ?_⟩ <;> simp (disch := omega) only [mI_r, mI_n, mI_s]
        have y24 : Y.1 234 24 = nI pn := by rw [y4 24 (by omega) (by omega) (by omega), x1.2.2 24 (by omega), o3 24 (by omega) (by omega)]; exact e24
        have ansW : ∀ V, K (if w = 0 then -1 else nI k) V → (¬ w = 0 → K (nI k) V) ∧ (w = 0 → K (-1) V) := fun V hV => ⟨fun z => by rw [if_neg z] at hV; exact hV, fun z => by rw [if_pos z] at hV; exact hV⟩
        /- the row that comes back -/
        have r6 : rst (Y.1 240) (Y.1 236) = g := by
          funext j
          unfold rst
          split
          · rename_i q
            rw [y0, u0 _ (by omega), show 198 + (j - 198) = j by omega]
          · rename_i q
            rw [y6]; exact z2 j (by omega)
        have st0 : ¬ (lv = 1 ∧ 0 < k) → CV X d 306 [.ref 234, .int 0] Y (fun u1 => (¬ w = 0 → K (nI k) u1) ∧ (w = 0 → K (-1) u1)) := by
          intro hns
          refine c_mstay (by omega) (fun _ => ?_) (fun z => absurd rfl z)
          rw [r6]
          refine ansW _ (h1 _ ⟨fun b b1 b2 b3 b4 b5 b6 b7 => by rw [mR_n b4, mR_n b2]; exact yo b b1 b2 b4 b5 b6 b7, fun b b1 => y2 b b1, fun j j1 j2 j3 j4 j5 j6 => ?_⟩ ?_ ?_ ?_ (fun q => absurd q hns) (fun _ => ⟨?_, ?_, ?_⟩))
          · rw [mR_n (by omega), mR_n (by omega), y4 j j3 j4 j6, x1.2.2 j (by omega), o3 j (by omega) j5]
          · rw [mR_n (by omega), mR_n (by omega), y4 2 (by omega) (by omega) (by omega), x1.2.2 2 (by omega), mI_n (by omega)]; exact v4
          · rw [mR_n (by omega), mR_n (by omega), y4 10 (by omega) (by omega) (by omega)]; exact x2
          · obtain ⟨q0, q1, q2, q3, q4⟩ := yr
            refine ⟨?_, ?_, ?_, ?_, ?_⟩ <;> rw [mR_n (by omega), mR_n (by omega)] <;> assumption
          · rw [mR_n (by omega), mR_s]
          · rw [mR_n (by omega), mR_n (by omega)]; exact y9
          · rw [mR_n (by omega), mR_n (by omega), y24, e24]
        refine ⟨fun z => st0 fun q => z (by rw [q.1]; rfl), fun z => ⟨fun zk => st0 fun q => ?_, fun zk => ?_⟩⟩
        · have := (nI_leI (a := k) (b := 0) (by omega) (by omega)).mp zk
          omega
        · have hk0 : ¬ k ≤ 0 := fun q => zk (nI_le (a := k) (b := 0) q (by omega))
          have hl1 : lv = 1 := (nI_eq (a := lv) (b := 1) (by omega) (by omega)).mp z
          refine c_mstay (by omega) (fun z => absurd z (by decide)) (fun _ => ?_)
          rw [r6]
          refine c_msnap (n := pn) (by omega) (by rw [mR_n (by omega), mR_n (by omega)]; exact y24) hpn ?_
          refine c_mback (by omega) ?_
          have e9 : (mR (mR Y 236 g) 240 (fun k => if k < 92 then Y.1 236 (198 + k) else Y.1 240 k)).1 239 = u.1 239 := by rw [mR_n (by omega), mR_n (by omega)]; exact y9
          have e66 : (mR (mR Y 236 g) 240 (fun k => if k < 92 then Y.1 236 (198 + k) else Y.1 240 k)).1 236 = g := by rw [mR_n (by omega), mR_s]
          rw [e9, e66]
          generalize hZ : mI (mR (mR (mR Y 236 g) 240 (fun k => if k < 92 then Y.1 236 (198 + k) else Y.1 240 k)) 239 (snF (u.1 239) g pn)) 234 24 (nI (mn8 pn)) = Z
          have zo : ∀ b, b ≠ 234 → b ≠ 236 → b ≠ 239 → b ≠ 240 → Z.1 b = Y.1 b := fun b b1 b2 b3 b4 => by rw [← hZ, mI_r b1, mR_n b3, mR_n b4, mR_n b2]
          have z6 : Z.1 236 = g := by rw [← hZ, mI_r (by omega), mR_n (by omega), mR_n (by omega), mR_s]
          have z0 : ∀ k, k < 92 → Z.1 240 k = s' (198 + k) := fun k hk => by rw [← hZ, mI_r (by omega), mR_n (by omega), mR_s, if_pos hk, y6]
          have z9 : Z.1 239 = snF (u.1 239) g pn := by rw [← hZ, mI_r (by omega), mR_s]
          have z4' : ∀ j, j ≠ 24 → Z.1 234 j = Y.1 234 j := fun j hj => by rw [← hZ, mI_n (by omega), mR_n (by omega), mR_n (by omega), mR_n (by omega)]
          have rr6 : rst (Z.1 240) (Z.1 236) = s' := by
            funext j
            unfold rst
            split
            · rename_i q
              rw [z0 _ (by omega), show 198 + (j - 198) = j by omega]
            · rename_i q
              rw [z6]; exact (z2 j (by omega)).symm
          rw [rr6]
          refine ansW _ (h1 _ ⟨fun b b1 b2 b3 b4 b5 b6 b7 => by rw [mR_n b2, zo b b1 b2 b3 b4]; exact yo b b1 b2 b4 b5 b6 b7, fun b b1 => by rw [mR_2, ← hZ]; exact y2 b b1, fun j j1 j2 j3 j4 j5 j6 => ?_⟩ ?_ ?_ ?_ (fun _ => ⟨mR_s, ?_, ?_⟩) (fun q => absurd ⟨hl1, by omega⟩ q))
          · rw [mR_n (by omega), z4' j j2, y4 j j3 j4 j6, x1.2.2 j (by omega), o3 j (by omega) j5]
          · rw [mR_n (by omega), z4' 2 (by omega), y4 2 (by omega) (by omega) (by omega), x1.2.2 2 (by omega), mI_n (by omega)]; exact v4
          · rw [mR_n (by omega), z4' 10 (by omega), y4 10 (by omega) (by omega) (by omega)]; exact x2
          · obtain ⟨q0, q1, q2, q3, q4⟩ := yr
            refine ⟨?_, ?_, ?_, ?_, ?_⟩
            · rw [mR_n (by omega), z4' 55 (by omega)]; exact q0
            · rw [mR_n (by omega), zo 259 (by omega) (by omega) (by omega) (by omega)]; exact q1
            · rw [mR_n (by omega), zo 259 (by omega) (by omega) (by omega) (by omega)]; exact q2
            · rw [mR_n (by omega), zo 259 (by omega) (by omega) (by omega) (by omega)]; exact q3
            · rw [mR_n (by omega), zo 259 (by omega) (by omega) (by omega) (by omega)]; exact q4
          · rw [mR_n (by omega)]; exact z9
          · rw [mR_n (by omega), ← hZ, mI_s]
      suffices hz : ∀ (r pre : List LL) (W : Mm), pre ++ r = ls → FrV U W → lvAll g r pre.length (W.1 236) = lvAll g ls 0 g → Stt g (W.1 236) → VI X d 305 K 73 [some (.ref 234), some (.int (nI lv)), some (.int (nI pre.length)), some (.int 0)] [] W from hz ls [] U rfl FrV.rf (by rw [u6]; rfl) (by rw [u6]; exact hs)
      intro r
      induction r with
      | nil =>
        intro pre W hp hW he' hs'
        rw [List.append_nil] at hp
        subst hp
        refine B_M_log_73 ?_
        rw [show W.1 234 54 = nI pre.length by rw [hW.2.2 54 (by omega) (by omega)]; exact uL.1]
        exact ⟨fun _ => fin 0 pre.length (W.1 236) W he'.symm hW rfl, fun z => absurd (nI_le (Nat.le_refl _) (by omega)) z⟩
      | cons c r ih =>
        intro pre W hp hW he' hs'
        have hlen : pre.length < ls.length := by rw [← hp, List.length_append, List.length_cons]; omega
        have hcm : c ∈ ls := by rw [← hp]; simp
        have hln : lnM W pre.length c := by
          have := uL.2 pre.length hlen
          rw [← hp, lgc] at this
          exact this.cg fun j _ _ => by rw [hW.1 258 (by omega) (by omega) (by omega)]
        obtain ⟨p1, p2, p3⟩ := lvLine_ok hg hs' (hol c hcm)
        refine B_M_log_73 ?_
        rw [show W.1 234 54 = nI ls.length by rw [hW.2.2 54 (by omega) (by omega)]; exact uL.1, lt1]
        refine ⟨fun z => absurd ((nI_leI (by omega) (by omega)).mp z) (by omega), fun _ => ⟨fun z => absurd rfl z, fun _ => ?_⟩⟩
        refine c_mlive (by omega) hg hs' (by omega) hln (hol c hcm) fun W2 f2 w6 => ⟨fun z => ?_, fun z => ?_⟩
        · rw [lvAll, if_neg z] at he'
          rw [p3 z] at w6
          refine B_M_log_73 ?_
          have ff := fin _ _ (W.1 236) W2 he'.symm (hW.tr f2) w6
          exact ⟨fun _ => ff, fun _ => ⟨fun _ => ff, fun y => absurd y z⟩⟩
        · rw [lvAll, if_pos z] at he'
          rw [z, nI_1]
          have hp' : (pre ++ [c]).length = pre.length + 1 := by simp
          have := ih (pre ++ [c]) W2 (by rw [List.append_assoc]; exact hp) (hW.tr f2) (by rw [hp', w6]; exact he') (by rw [w6]; exact p1)
          rw [hp'] at this
          exact this
  · rcases z with z | z
    · exact absurd z (nI_pos (by omega))
    · exact absurd ((nI_ltI (a := 1) (b := lv) (by omega) (by omega)).mp z) (by omega)
end PLog
