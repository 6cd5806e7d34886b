/-! pairs of calls: the system's answer is the model's, and the relation holds again -/
def PairI (X : Xc) (d kx km : Nat) (as : List Value) (u : Mm) : Prop := ∀ K : Int32 → Int32 → Mm → Prop, (∀ w v, Rl v → K w w v) → CI X d kx (.ref 0 :: as) u (fun w1 u1 => CI X d km (.ref 234 :: as) u1 (fun w2 u2 => K w1 w2 u2))
theorem in1 {p : Int32} {n : Nat} (hn : n < 1000000) : (nI n - 1) < p ↔ nI n ≤ p := by
  have h1 : (nI n - 1).toInt = (n : Int) - 1 := pk_sub_toInt (b := 1) (by omega) (by omega)
  rw [Int32.lt_iff_toInt_lt, Int32.le_iff_toInt_le, h1, nI_toInt (by omega)]
  omega
theorem nlt_m {p : Int32} {n : Nat} (hn : n < 1000000) (h : nI n ≤ p) : ¬ p < 0 := by
  rw [Int32.lt_iff_toInt_lt]
  rw [Int32.le_iff_toInt_le, nI_toInt (by omega)] at h
  have : (0 : Int32).toInt = 0 := rfl
  omega
theorem nlt_l {p : Int32} {n : Nat} (hn : n < 1000000) (h : nI n ≤ p) : ¬ p < nI n := by
  rw [Int32.lt_iff_toInt_lt]
  rw [Int32.le_iff_toInt_le] at h
  omega
section Pairs
variable {X : Xc} {d : Nat} {u : Mm}
theorem p_fault (hd : 1 ≤ d) (h : Rl u) : PairI X d 127 224 [] u := by
  intro K hK
  obtain ⟨d, rfl, -⟩ := dpos hd
  refine CI_of mk_X12_fault.2.2 rfl (B_S_fault_0 ?_)
  refine CI_of mk_X13_fault.2.2 rfl (B_M_fault_0 ?_)
  rw [show (mI u 234 0 0).1 234 10 = u.1 1 2 from h.1.2.2.symm]
  exact hK _ _ h.th
theorem p_surely (hd : 1 ≤ d) (h : Rl u) : PairI X d 153 284 [] u := by
  intro K hK
  obtain ⟨d, rfl, -⟩ := dpos hd
  refine CI_of mk_X12_surely.2.2 rfl (B_S_surely_0 ?_)
  refine CI_of mk_X13_surely.2.2 rfl (B_M_surely_0 ?_)
  rw [show (mI u 234 0 0).1 234 45 = u.1 171 3 from h.2.2.1.2.1.symm]
  exact hK _ _ h.th
theorem p_tells (hd : 1 ≤ d) (h : Rl u) : PairI X d 154 285 [] u := by
  intro K hK
  obtain ⟨d, rfl, -⟩ := dpos hd
  refine CI_of mk_X12_tells.2.2 rfl (B_S_tells_0 ?_)
  refine CI_of mk_X13_tells.2.2 rfl (B_M_tells_0 ?_)
  rw [show (mI u 234 0 0).1 234 46 = u.1 171 4 from h.2.2.1.2.2.1.symm]
  exact hK _ _ h.th
theorem p_plotters (hd : 1 ≤ d) (h : Rl u) : PairI X d 156 287 [] u := by
  intro K hK
  obtain ⟨d, rfl, -⟩ := dpos hd
  refine CI_of mk_X12_plotters.2.2 rfl (B_S_plotters_0 ?_)
  refine CI_of mk_X13_plotters.2.2 rfl (B_M_plotters_0 ?_)
  rw [show (mI u 234 0 0).1 234 47 = u.1 160 9 from h.2.2.1.2.2.2.1.symm]
  exact hK _ _ h.th
theorem p_trodden (hd : 1 ≤ d) (h : Rl u) : PairI X d 160 290 [] u := by
  intro K hK
  obtain ⟨d, rfl, -⟩ := dpos hd
  refine CI_of mk_X12_trodden.2.2 rfl (B_S_trodden_0 ?_)
  refine CI_of mk_X13_trodden.2.2 rfl (B_M_trodden_0 ?_)
  rw [show (mI u 234 0 0).1 234 48 = u.1 171 5 from h.2.2.1.2.2.2.2.1.symm]
  exact hK _ _ h.th
theorem p_cured {p : Int32} (hd : 1 ≤ d) (h : Rl u) : PairI X d 151 281 [.int p] u := by
  intro K hK
  obtain ⟨d, rfl, -⟩ := dpos hd
  have hc := h.2.2.1.1
  have hk : ∀ w, K w w (mI u 234 0 0) := fun w => hK w _ h.th
  refine CI_of mk_X12_cured.2.2 rfl (B_S_cured_0 ?_)
  have m : ∀ w, (u.1 234 42 = -1 → w = -1) → (p = 0 → u.1 234 42 ≠ -1 → w = u.1 234 42) → (p = 1 → u.1 234 42 ≠ -1 → w = u.1 234 43) → (p = 2 → u.1 234 42 ≠ -1 → w = u.1 234 44) → ((p.toInt < 0 ∨ 2 < p.toInt) → w = -1) → CI X (d + 1) 281 [.ref 234, .int p] u (fun w2 u2 => K w w2 u2) := by
    intro w a0 a1 a2 a3 a4
    refine CI_of mk_X13_cured.2.2 rfl (B_M_cured_0 ?_)
    rw [show (mI u 234 0 0).1 234 42 = u.1 234 42 from rfl, show (mI u 234 0 0).1 234 43 = u.1 234 43 from rfl, show (mI u 234 0 0).1 234 44 = u.1 234 44 from rfl]
    exact ⟨fun q => ⟨⟨fun r => by rw [← a1 r q]; exact hk w, fun r => by rw [← a2 r q]; exact hk w, fun r => by rw [← a3 r q]; exact hk w⟩, fun r => by rw [← a4 r]; exact hk w⟩, fun q => by rw [← a0 q]; exact hk w⟩
  have t0 : (0 : Int32).toInt = 0 := rfl
  have t1 : (1 : Int32).toInt = 1 := rfl
  have t2 : (2 : Int32).toInt = 2 := rfl
  refine ⟨⟨fun q => ?_, fun q => ?_, fun q => ?_⟩, fun q => ?_⟩
  · subst q
    exact m _ (by grind) (by grind) (fun r => absurd r (by decide)) (fun r => absurd r (by decide)) (fun r => by rw [t0] at r; omega)
  · subst q
    exact m _ (by grind) (fun r => absurd r (by decide)) (by grind) (fun r => absurd r (by decide)) (fun r => by rw [t1] at r; omega)
  · subst q
    exact m _ (by grind) (fun r => absurd r (by decide)) (fun r => absurd r (by decide)) (by grind) (fun r => by rw [t2] at r; omega)
  · exact m _ (fun _ => rfl) (fun r => by subst r; rw [t0] at q; omega) (fun r => by subst r; rw [t1] at q; omega) (fun r => by subst r; rw [t2] at q; omega) (fun _ => rfl)
theorem p_routeAt {p : Int32} (hd : 2 ≤ d) (h : Rl u) : PairI X d 147 275 [.int p] u := by
  intro K hK
  obtain ⟨d, rfl, hd1⟩ := dpos hd
  obtain ⟨n, hn, e1, e2, e3⟩ := h.2.2.1.2.2.2.2.2.1
  have hk : ∀ w, K w w (mI u 234 0 0) := fun w => hK w _ h.th
  refine CI_of mk_X12_routeAt.2.2 rfl (B_S_routeAt_0 ?_)
  have m : ∀ w, (p < 0 ∨ nI n ≤ p → w = -1) → (∀ j, j < n → p = nI j → w = u.1 255 j) → CI X (d + 1) 275 [.ref 234, .int p] u (fun w2 u2 => K w w2 u2) := by
    intro w a1 a2
    refine CI_of mk_X13_routeAt.2.2 rfl (B_M_routeAt_0 (c_misIn hd1 (fun q1 q2 => ?_) (fun q => ?_)))
    · rw [show (mI u 234 0 0).1 234 41 = nI n from e2, in1 (by omega)] at q2
      obtain ⟨j, hj, rfl⟩ := nI_two' q1 q2 (by omega)
      refine ⟨fun r => absurd r (by decide), fun _ => ⟨vp_in_nI (by omega) (by decide), ?_⟩⟩
      rw [nI_clamp (by omega), show (mI u 234 0 0).1 255 j = u.1 255 j from rfl, ← a2 j hj rfl]
      exact hk w
    · rw [show (mI u 234 0 0).1 234 41 = nI n from e2, in1 (by omega)] at q
      exact ⟨fun _ => by rw [← a1 q]; exact hk w, fun r => absurd rfl r⟩
  rw [e1]
  refine ⟨fun q => m _ (fun _ => rfl) (fun j hj e => absurd q (by rw [e]; exact nI_pos (by omega))), fun q => ⟨fun q2 => ?_, fun q2 => m _ (fun _ => rfl) (fun j hj e => absurd (by rw [e]; exact nI_lt hj (by omega)) q2)⟩⟩
  obtain ⟨j, hj, rfl⟩ := nI_two q q2 (by omega)
  refine ⟨vp_in_nI (by omega) (by decide), m _ (fun r => ?_) (fun i hi e => ?_)⟩
  · rcases r with r | r
    · exact absurd r q
    · exact absurd q2 (nlt_l (by omega) r)
  · rw [nI_clamp (by omega), (nI_eq (by omega) (by omega)).mp e, e3 _ hi]
theorem p_bid {p : Int32} (hd : 2 ≤ d) (h : Rl u) : PairI X d 149 279 [.int p] u := by
  intro K hK
  obtain ⟨d, rfl, hd1⟩ := dpos hd
  obtain ⟨n, hn, e1, e2, e3⟩ := h.2.2.1.2.2.2.2.2.2.1
  have hk : ∀ w, K w w (mI u 234 0 0) := fun w => hK w _ h.th
  refine CI_of mk_X12_bid.2.2 rfl (B_S_bid_0 ?_)
  have m : ∀ w, (p < 0 ∨ nI n ≤ p → w = -1) → (∀ j, j < n → p = nI j → w = u.1 254 j) → CI X (d + 1) 279 [.ref 234, .int p] u (fun w2 u2 => K w w2 u2) := by
    intro w a1 a2
    refine CI_of mk_X13_bid.2.2 rfl (B_M_bid_0 (c_misIn hd1 (fun q1 q2 => ?_) (fun q => ?_)))
    · rw [show (mI u 234 0 0).1 234 39 = nI n from e2, in1 (by omega)] at q2
      obtain ⟨j, hj, rfl⟩ := nI_two' q1 q2 (by omega)
      refine ⟨fun r => absurd r (by decide), fun _ => ⟨vp_in_nI (by omega) (by decide), ?_⟩⟩
      rw [nI_clamp (by omega), show (mI u 234 0 0).1 254 j = u.1 254 j from rfl, ← a2 j hj rfl]
      exact hk w
    · rw [show (mI u 234 0 0).1 234 39 = nI n from e2, in1 (by omega)] at q
      exact ⟨fun _ => by rw [← a1 q]; exact hk w, fun r => absurd rfl r⟩
  rw [e1]
  refine ⟨fun q => m _ (fun _ => rfl) (fun j hj e => absurd q (by rw [e]; exact nI_pos (by omega))), fun q => ⟨fun q2 => ?_, fun q2 => m _ (fun _ => rfl) (fun j hj e => absurd (by rw [e]; exact nI_lt hj (by omega)) q2)⟩⟩
  obtain ⟨j, hj, rfl⟩ := nI_two q q2 (by omega)
  refine ⟨vp_in_nI (by omega) (by decide), m _ (fun r => ?_) (fun i hi e => ?_)⟩
  · rcases r with r | r
    · exact absurd r q
    · exact absurd q2 (nlt_l (by omega) r)
  · rw [nI_clamp (by omega), (nI_eq (by omega) (by omega)).mp e, e3 _ hi]
theorem p_byteAt {p : Int32} (hd : 2 ≤ d) (h : Rl u) : PairI X d 167 300 [.int p] u := by
  intro K hK
  obtain ⟨d, rfl, hd1⟩ := dpos hd
  obtain ⟨n, hn, e1, e2, e3⟩ := h.2.2.1.2.2.2.2.2.2.2.1
  have hk : ∀ w, K w w (mI u 234 0 0) := fun w => hK w _ h.th
  refine CI_of mk_X12_byteAt.2.2 rfl (B_S_byteAt_0 ?_)
  have m : ∀ w, (p < 0 ∨ nI n ≤ p → w = -1) → (∀ j, j < n → p = nI j → w = u.1 257 j) → CI X (d + 1) 300 [.ref 234, .int p] u (fun w2 u2 => K w w2 u2) := by
    intro w a1 a2
    refine CI_of mk_X13_byteAt.2.2 rfl (B_M_byteAt_0 (c_misIn hd1 (fun q1 q2 => ?_) (fun q => ?_)))
    · rw [show (mI u 234 0 0).1 234 51 = nI n from e2, in1 (by omega)] at q2
      obtain ⟨j, hj, rfl⟩ := nI_two' q1 q2 (by omega)
      refine ⟨fun r => absurd r (by decide), fun _ => ⟨vp_in_nI (by omega) (by decide), ?_⟩⟩
      rw [nI_clamp (by omega), show (mI u 234 0 0).1 257 j = u.1 257 j from rfl, ← a2 j hj rfl]
      exact hk w
    · rw [show (mI u 234 0 0).1 234 51 = nI n from e2, in1 (by omega)] at q
      exact ⟨fun _ => by rw [← a1 q]; exact hk w, fun r => absurd rfl r⟩
  rw [e1]
  refine ⟨fun q => m _ (fun _ => rfl) (fun j hj e => absurd q (by rw [e]; exact nI_pos (by omega))), fun q => ⟨fun q2 => ?_, fun q2 => m _ (fun _ => rfl) (fun j hj e => absurd (by rw [e]; exact nI_lt hj (by omega)) q2)⟩⟩
  obtain ⟨j, hj, rfl⟩ := nI_two q q2 (by omega)
  refine ⟨vp_in_nI (by omega) (by decide), m _ (fun r => ?_) (fun i hi e => ?_)⟩
  · rcases r with r | r
    · exact absurd r q
    · exact absurd q2 (nlt_l (by omega) r)
  · rw [nI_clamp (by omega), (nI_eq (by omega) (by omega)).mp e, e3 _ hi]
end Pairs
section Pairs2
variable {X : Xc} {d : Nat} {u : Mm}
theorem p_end {p : Int32} (hd : 1 ≤ d) (h : Rl u) : PairI X d 125 185 [.int p] u := by
  intro K hK
  obtain ⟨d, rfl, -⟩ := dpos hd
  obtain ⟨n, hn, e1, e2⟩ := h.1.1
  refine CI_of mk_X12_end.2.2 rfl (B_S_end_0 ?_)
  rw [e1]
  refine ⟨fun q => ?_, fun q => ⟨fun q2 => ?_, fun q2 => ?_⟩⟩
  · refine CI_of mk_X13_end.2.2 rfl (B_M_end_0 ⟨fun _ => hK _ _ h.th, fun r => absurd q r⟩)
  · refine CI_of mk_X13_end.2.2 rfl (B_M_end_0 ⟨fun r => absurd r q, fun _ => ?_⟩)
    rw [show (mI (mI u 1 1 p) 234 0 0).1 234 2 = nI n from e2]
    refine ⟨fun _ => hK _ _ ?_, fun r => absurd q2 r⟩
    obtain ⟨j, hj, rfl⟩ := nI_of q
    have hj2 : j ≤ n := (nI_leI hj (by omega)).mp q2
    refine h.tape ⟨⟨j, by omega, rfl, rfl⟩, h.1.2.1, h.1.2.2⟩ ?_ ?_ ?_ ?_ rfl
    all_goals exact ((AG.rf.mI rfl).mI rfl).mI rfl
  · refine CI_of mk_X13_end.2.2 rfl (B_M_end_0 ⟨fun r => absurd r q, fun _ => ?_⟩)
    rw [show (mI u 234 0 0).1 234 2 = nI n from e2]
    exact ⟨fun r => absurd r q2, fun _ => hK _ _ h.th⟩
theorem p_logged {p : Int32} (hd : 2 ≤ d) (h : Rl u) : PairI X d 169 307 [.int p] u := by
  intro K hK
  obtain ⟨d, rfl, hd1⟩ := dpos hd
  have hk : ∀ w, K w w (mI u 234 0 0) := fun w => hK w _ h.th
  have t0 : (0 : Int32).toInt = 0 := rfl
  have t1 : (1 : Int32).toInt = 1 := rfl
  have t2 : (2 : Int32).toInt = 2 := rfl
  have t3 : (3 : Int32).toInt = 3 := rfl
  refine CI_of mk_X12_logged.2.2 rfl (B_S_logged_0 ?_)
  rcases h.2.2.1.2.2.2.2.2.2.2.2 with ⟨a, b⟩ | ⟨a, b, c0, c1, c2, c3⟩
  · rw [a]
    refine ⟨fun q => absurd rfl q, fun _ => CI_of mk_X13_logged.2.2 rfl (B_M_logged_0 ⟨fun _ => hk _, fun q => absurd b q⟩)⟩
  · rw [a]
    have m : ∀ w, (p < 0 ∨ 3 < p → w = -1) → (∀ j, j < 4 → p = nI j → w = u.1 259 j) → CI X (d + 1) 307 [.ref 234, .int p] u (fun w2 u2 => K w w2 u2) := by
      intro w a1 a2
      refine CI_of mk_X13_logged.2.2 rfl (B_M_logged_0 ⟨fun q => absurd (b.symm.trans q) (by decide), fun _ => c_misIn hd1 (fun q1 q2 => ?_) (fun q => ?_)⟩)
      · obtain ⟨j, hj, rfl⟩ := nI_of2 (M := 3) (n := 3) rfl q1 (Int32.not_lt.mp q2)
        refine ⟨fun r => absurd r (by decide), fun _ => ⟨vp_in_nI (by omega) (by decide), ?_⟩⟩
        rw [nI_clamp (by omega), show (mI u 234 0 0).1 259 j = u.1 259 j from rfl, ← a2 j (by omega) rfl]
        exact hk w
      · exact ⟨fun _ => by rw [← a1 q]; exact hk w, fun r => absurd rfl r⟩
    refine ⟨fun _ => ⟨⟨fun q => ?_, fun q => ?_, fun q => ?_, fun q => ?_⟩, fun q => ?_⟩, fun q => absurd q (by decide)⟩
    · subst q
      exact m _ (fun r => absurd r (by decide)) (fun j hj e => by rw [← (nI_eq (a := 0) (by omega) (by omega)).mp e]; exact c0)
    · subst q
      exact m _ (fun r => absurd r (by decide)) (fun j hj e => by rw [← (nI_eq (a := 1) (by omega) (by omega)).mp e]; exact c1)
    · subst q
      exact m _ (fun r => absurd r (by decide)) (fun j hj e => by rw [← (nI_eq (a := 2) (by omega) (by omega)).mp e]; exact c2)
    · subst q
      exact m _ (fun r => absurd r (by decide)) (fun j hj e => by rw [← (nI_eq (a := 3) (by omega) (by omega)).mp e]; exact c3)
    · exact m _ (fun _ => rfl) (fun j hj e => by rw [e, nI_toInt (by omega)] at q; omega)
theorem p_count {p : Int32} (hd : 1 ≤ d) (h : Rl u) : PairI X d 174 321 [.int p] u := by
  intro K hK
  obtain ⟨d, rfl, -⟩ := dpos hd
  have hk : ∀ w, K w w (mI u 234 0 0) := fun w => hK w _ h.th
  obtain ⟨c0, c1, c2, c3, c4, c5⟩ := h.2.2.2.1.2.1.1
  obtain ⟨n, hn, e1, e2⟩ := h.1.1
  have t0 : (0 : Int32).toInt = 0 := rfl
  have t1 : (1 : Int32).toInt = 1 := rfl
  have t2 : (2 : Int32).toInt = 2 := rfl
  have t3 : (3 : Int32).toInt = 3 := rfl
  have t4 : (4 : Int32).toInt = 4 := rfl
  have t5 : (5 : Int32).toInt = 5 := rfl
  have t6 : (6 : Int32).toInt = 6 := rfl
  have m : ∀ w, (p = 0 → w = u.1 236 0) → (p = 1 → w = u.1 236 1) → (p = 2 → w = u.1 236 2) → (p = 3 → w = u.1 236 3) → (p = 4 → w = u.1 236 4) → (p = 5 → w = u.1 236 5) → (p = 6 → w = u.1 234 2) → ((p.toInt < 0 ∨ 6 < p.toInt) → w = -1) → CI X (d + 1) 321 [.ref 234, .int p] u (fun w2 u2 => K w w2 u2) := by
    intro w a0 a1 a2 a3 a4 a5 a6 a7
    refine CI_of mk_X13_count.2.2 rfl (B_M_count_0 ?_)
    exact ⟨⟨fun q => a0 q ▸ hk w, fun q => a1 q ▸ hk w, fun q => a2 q ▸ hk w, fun q => a3 q ▸ hk w, fun q => a4 q ▸ hk w, fun q => a5 q ▸ hk w, fun q => a6 q ▸ hk w⟩, fun q => a7 q ▸ hk w⟩
  refine CI_of mk_X12_count.2.2 rfl (B_S_count_0 ⟨⟨fun q => ?_, fun q => ?_, fun q => ?_, fun q => ?_, fun q => ?_, fun q => ?_, fun q => ?_⟩, fun q => ?_⟩)
  all_goals first | subst q | skip
  · exact m _ (fun _ => c0) (fun r => absurd r (by decide)) (fun r => absurd r (by decide)) (fun r => absurd r (by decide)) (fun r => absurd r (by decide)) (fun r => absurd r (by decide)) (fun r => absurd r (by decide)) (fun r => by rw [t0] at r; omega)
  · exact m _ (fun r => absurd r (by decide)) (fun _ => c4) (fun r => absurd r (by decide)) (fun r => absurd r (by decide)) (fun r => absurd r (by decide)) (fun r => absurd r (by decide)) (fun r => absurd r (by decide)) (fun r => by rw [t1] at r; omega)
  · exact m _ (fun r => absurd r (by decide)) (fun r => absurd r (by decide)) (fun _ => c1) (fun r => absurd r (by decide)) (fun r => absurd r (by decide)) (fun r => absurd r (by decide)) (fun r => absurd r (by decide)) (fun r => by rw [t2] at r; omega)
  · exact m _ (fun r => absurd r (by decide)) (fun r => absurd r (by decide)) (fun r => absurd r (by decide)) (fun _ => c2) (fun r => absurd r (by decide)) (fun r => absurd r (by decide)) (fun r => absurd r (by decide)) (fun r => by rw [t3] at r; omega)
  · exact m _ (fun r => absurd r (by decide)) (fun r => absurd r (by decide)) (fun r => absurd r (by decide)) (fun r => absurd r (by decide)) (fun _ => c3) (fun r => absurd r (by decide)) (fun r => absurd r (by decide)) (fun r => by rw [t4] at r; omega)
  · exact m _ (fun r => absurd r (by decide)) (fun r => absurd r (by decide)) (fun r => absurd r (by decide)) (fun r => absurd r (by decide)) (fun r => absurd r (by decide)) (fun _ => c5) (fun r => absurd r (by decide)) (fun r => by rw [t5] at r; omega)
  · exact m _ (fun r => absurd r (by decide)) (fun r => absurd r (by decide)) (fun r => absurd r (by decide)) (fun r => absurd r (by decide)) (fun r => absurd r (by decide)) (fun r => absurd r (by decide)) (fun _ => e1.trans e2.symm) (fun r => by rw [t6] at r; omega)
  · refine m _ (fun r => ?_) (fun r => ?_) (fun r => ?_) (fun r => ?_) (fun r => ?_) (fun r => ?_) (fun r => ?_) (fun _ => rfl) <;> (subst r; simp only [t0, t1, t2, t3, t4, t5, t6] at q; omega)
end Pairs2
