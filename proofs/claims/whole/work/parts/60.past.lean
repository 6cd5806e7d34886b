/-! the past: the system's ring, the model's row of snaps -/
def mn8 (n : Nat) : Nat := if n = 8 then 8 else n + 1
def snF (a h : Nat → Int32) (n k : Nat) : Int32 :=
  if n = 8 then (if 644 ≤ k ∧ k < 736 then h (198 + (k - 644)) else if k < 644 then a (k + 92) else a k)
  else if 92 * n ≤ k ∧ k < 92 * n + 92 then h (198 + (k - 92 * n)) else a k
theorem nI_8 {n : Nat} (hn : n ≤ 8) : (if nI n + 1 < 8 then nI n + 1 else 8) = nI (mn8 n) := by
  rcases (show n = 0 ∨ n = 1 ∨ n = 2 ∨ n = 3 ∨ n = 4 ∨ n = 5 ∨ n = 6 ∨ n = 7 ∨ n = 8 by omega) with rfl | rfl | rfl | rfl | rfl | rfl | rfl | rfl | rfl <;> decide
theorem Same.cg {u v : Mm} {L : Nat} {l : Nat → Nat → Int32} (h : Same u L l) (e : ∀ c, c ≤ 8 → u.1 (L + c) = v.1 (L + c)) : Same v L l := by
  obtain ⟨⟨a1, a2, a3, a4⟩, b⟩ := h
  have e0 : u.1 L = v.1 L := e 0 (by omega)
  refine ⟨?_, fun c h1 h2 k hk => ?_⟩
  · rw [← e0]; exact ⟨a1, a2, a3, a4⟩
  · rw [← e c h2]; exact b c h1 h2 k hk
section Past
variable {X : Xc} {d : Nat} {u : Mm}
theorem l_snap51 {K : Mm → Prop} {m : Nat} (e : u.1 234 24 = nI m) (hm : m ≤ 7) (hK : K (mI (mR u 239 (fun k => if 92 * m ≤ k ∧ k < 92 * m + 92 then u.1 236 (198 + (k - 92 * m)) else u.1 239 k)) 234 24 (nI (m + 1)))) : VV X d 240 K 51 [some (.ref 234), some (.int (0))] [] u := by
  have e0 : mR u 239 (fun k => if 92 * m ≤ k ∧ k < 92 * m + 0 then u.1 236 (198 + (k - 92 * m)) else u.1 239 k) = u := by
    refine mm_ext (fun b k => ?_) rfl
    rw [mR_at]
    split
    · rename_i q
      rw [if_neg (by omega), q]
    · rfl
  suffices hz : VV X d 240 K 51 [some (.ref 234), some (.int (nI 0))] [] (mR u 239 (fun k => if 92 * m ≤ k ∧ k < 92 * m + 0 then u.1 236 (198 + (k - 92 * m)) else u.1 239 k)) by rwa [e0] at hz
  refine lup (n := 92) (W := fun j => VV X d 240 K 51 [some (.ref 234), some (.int (nI j))] [] (mR u 239 (fun k => if 92 * m ≤ k ∧ k < 92 * m + j then u.1 236 (198 + (k - 92 * m)) else u.1 239 k))) ?_
  intro j hj ih
  refine B_M_snap_51 ?_
  simp (disch := omega) only [la1, la2, lt1, lt2, nI_add, pk_mul, nI_clamp, vpn, nI_leI, nI_ltI, nI_eq, ll1, ll2, ll3, ll4, le1, le2, true_and, and_true, not_true_eq_false, not_false_eq_true, forall_const, false_implies, implies_true, if_true, if_false, ite_true, ite_false, and_self, false_and, and_false, mR_n, e, mR_w]
  refine ⟨fun q => ?_, fun q => ⟨by omega, by omega, ?_⟩⟩
  · rw [show j = 92 by omega]; exact hK
  · have ih := ih (by omega)
    have ex : upd (fun k => if 92 * m ≤ k ∧ k < 92 * m + j then u.1 236 (198 + (k - 92 * m)) else u.1 239 k) (92 * m + j) (u.1 236 (198 + j)) = fun k => if 92 * m ≤ k ∧ k < 92 * m + (j + 1) then u.1 236 (198 + (k - 92 * m)) else u.1 239 k := by
      funext k
      rw [upd_at]
      by_cases q1 : k = 92 * m + j
      · subst q1
        rw [if_pos rfl, if_pos (by omega), show 92 * m + j - 92 * m = j by omega]
      · rw [if_neg q1]
        by_cases q2 : 92 * m ≤ k ∧ k < 92 * m + j
        · rw [if_pos q2, if_pos (by omega)]
        · rw [if_neg q2, if_neg (by omega)]
    rw [ex]
    exact ih
theorem c_msnap {K : Mm → Prop} {n : Nat} (hd : 1 ≤ d) (e : u.1 234 24 = nI n) (hn : n ≤ 8) (hK : K (mI (mR u 239 (snF (u.1 239) (u.1 236) n)) 234 24 (nI (mn8 n)))) : CV X d 240 [.ref 234] u K := by
  obtain ⟨d, rfl, hd1⟩ := dpos hd
  refine CV_of mk_X13_snap.2.2 rfl (B_M_snap_0 ?_)
  rw [e]
  simp (disch := omega) only [la1, la2, lt1, lt2, nI_add, pk_mul, nI_clamp, vpn, nI_leI, nI_ltI, nI_eq, ll1, ll2, ll3, ll4, le1, le2, true_and, and_true, not_true_eq_false, not_false_eq_true, forall_const, false_implies, implies_true, if_true, if_false, ite_true, ite_false, and_self, false_and, and_false]
  refine ⟨fun q => ?_, fun q => ?_⟩
  · refine l_snap51 e (by omega) ?_
    rw [mn8, if_neg q] at hK
    have ex : (fun k => if 92 * n ≤ k ∧ k < 92 * n + 92 then u.1 236 (198 + (k - 92 * n)) else u.1 239 k) = snF (u.1 239) (u.1 236) n := funext fun k => by rw [snF, if_neg q]
    rw [ex]
    exact hK
  · subst q
    have e0 : mR u 239 (fun k => if k < 0 then u.1 239 (k + 92) else u.1 239 k) = u := by
      refine mm_ext (fun b k => ?_) rfl
      rw [mR_at]
      split
      · rename_i q
        rw [if_neg (by omega), q]
      · rfl
    suffices hz : VV X d 240 K 11 [some (.ref 234), some (.int (nI 0))] [] (mR u 239 (fun k => if k < 0 then u.1 239 (k + 92) else u.1 239 k)) by rwa [e0] at hz
    refine lup (n := 644) (W := fun j => VV X d 240 K 11 [some (.ref 234), some (.int (nI j))] [] (mR u 239 (fun k => if k < j then u.1 239 (k + 92) else u.1 239 k))) ?_
    intro j hj ih
    refine B_M_snap_11 ?_
    simp (disch := omega) only [la1, la2, lt1, lt2, nI_add, pk_mul, nI_clamp, vpn, nI_leI, nI_ltI, nI_eq, ll1, ll2, ll3, ll4, le1, le2, true_and, and_true, not_true_eq_false, not_false_eq_true, forall_const, false_implies, implies_true, if_true, if_false, ite_true, ite_false, and_self, false_and, and_false, mR_n, mR_s, mR_o, e, mR_w]
    refine ⟨fun q => ?_, fun q => ⟨by omega, by omega, ?_⟩⟩
    · have ej : j = 644 := by omega
      subst ej
      refine l_snap51 (m := 7) (by rw [mR_n (by omega), mI_at, if_pos ⟨rfl, rfl⟩]; rfl) (by omega) ?_
      rw [show mn8 8 = 7 + 1 from rfl] at hK
      have ex : mI (mR (mR (mI u 234 24 (nI 8 - 1)) 239 fun k => if k < 644 then u.1 239 (k + 92) else u.1 239 k) 239 (fun k => if 92 * 7 ≤ k ∧ k < 92 * 7 + 92 then (mR (mI u 234 24 (nI 8 - 1)) 239 fun k => if k < 644 then u.1 239 (k + 92) else u.1 239 k).1 236 (198 + (k - 92 * 7)) else (mR (mI u 234 24 (nI 8 - 1)) 239 fun k => if k < 644 then u.1 239 (k + 92) else u.1 239 k).1 239 k)) 234 24 (nI (7 + 1)) = mI (mR u 239 (snF (u.1 239) (u.1 236) 8)) 234 24 (nI (7 + 1)) := by
        refine mm_ext (fun b k => ?_) rfl
        simp only [mI_at, mR_at]
        by_cases q1 : b = 234 ∧ k = 24
        · rw [if_pos q1, if_pos q1]
        · rw [if_neg q1, if_neg q1]
          by_cases q2 : b = 239
          · subst q2
            rw [if_pos rfl, if_pos rfl, snF, if_pos rfl]
            simp
          · rw [if_neg q2, if_neg q2, if_neg q2, if_neg q1]
      rw [ex]
      exact hK
    · have ih := ih (by omega)
      have ex : upd (fun k => if k < j then u.1 239 (k + 92) else u.1 239 k) j (if j + 92 < j then u.1 239 (j + 92 + 92) else u.1 239 (j + 92)) = fun k => if k < j + 1 then u.1 239 (k + 92) else u.1 239 k := by
        funext k
        rw [upd_at]
        by_cases q1 : k = j
        · subst q1
          rw [if_pos rfl, if_neg (by omega), if_pos (by omega)]
        · rw [if_neg q1]
          by_cases q2 : k < j
          · rw [if_pos q2, if_pos (by omega)]
          · rw [if_neg q2, if_neg (by omega)]
      rw [ex]
      exact ih
theorem c_keep_0 {K : Mm → Prop} {n : Nat} (hd : 3 ≤ d) (e3 : u.1 44 3 = nI 0) (e2 : u.1 44 2 = nI n) (hn : n ≤ 8) (hK : ∀ l', Same u 35 l' → K (mI (mI (lm u 46 l') 44 3 (nI 1)) 44 2 (nI (mn8 n)))) : CV X d 70 [.ref 44, .ref 35] u K := by
  obtain ⟨d, rfl, hd1⟩ := dpos hd
  refine CV_of mk_X6_keep.2.2 rfl (B_P_keep_0 ?_)
  rw [e3]
  refine ⟨vp_in_nI (by decide) (by decide), ?_⟩
  change CV X d 42 [.ref 46, .ref 35] u _
  rw [← lm_eta u 46]
  refine c_lcopy46_35 hd1 fun l' hl => ?_
  have := hK l' hl
  rw [← nI_8 hn] at this
  have e8 : nI 0 + 1 - (nI 0 + 1) / 8 * 8 = nI 1 := by decide
  simp (disch := omega) only [lm_o, mI_n, e3, e2, e8]
  exact this
theorem c_tb_0 {K : Int32 → Mm → Prop} {n : Nat} (hd : 3 ≤ d) (e3 : u.1 44 3 = nI 1) (e2 : u.1 44 2 = nI (n + 1)) (hn : n < 8) (hK : ∀ l', Same u 46 l' → K (nI n) (lm (mI (mI u 44 3 (nI 0)) 44 2 (nI n)) 20 l')) : CI X d 71 [.ref 44] u K := by
  obtain ⟨d, rfl, hd1⟩ := dpos hd
  refine CI_of mk_X6_takeBack.2.2 rfl (B_P_takeBack_0 ?_)
  have e2' : nI (n + 1) - 1 = nI n := nI_pred n
  have e8 : nI 1 + 8 - 1 - (nI 1 + 8 - 1) / 8 * 8 = nI 0 := by decide
  simp (disch := omega) only [mI_s, mI_n, e3, e2, e2', e8]
  refine ⟨fun _ => ⟨vp_in_nI (n := 0) (by decide) (by decide), ?_⟩, fun q => absurd q (nI_ne0 (by omega) (by omega))⟩
  change CV X d 42 [.ref 20, .ref 46] (mI (mI u 44 3 (nI 0)) 44 2 (nI n)) _
  rw [← lm_eta (mI (mI u 44 3 (nI 0)) 44 2 (nI n)) 20]
  exact c_lcopy20_46 hd1 fun l' hl => hK l' (hl.cg fun c hc => by rw [mI_r (by omega), mI_r (by omega)])
theorem c_keep_1 {K : Mm → Prop} {n : Nat} (hd : 3 ≤ d) (e3 : u.1 44 3 = nI 1) (e2 : u.1 44 2 = nI n) (hn : n ≤ 8) (hK : ∀ l', Same u 35 l' → K (mI (mI (lm u 55 l') 44 3 (nI 2)) 44 2 (nI (mn8 n)))) : CV X d 70 [.ref 44, .ref 35] u K := by
  obtain ⟨d, rfl, hd1⟩ := dpos hd
  refine CV_of mk_X6_keep.2.2 rfl (B_P_keep_0 ?_)
  rw [e3]
  refine ⟨vp_in_nI (by decide) (by decide), ?_⟩
  change CV X d 42 [.ref 55, .ref 35] u _
  rw [← lm_eta u 55]
  refine c_lcopy55_35 hd1 fun l' hl => ?_
  have := hK l' hl
  rw [← nI_8 hn] at this
  have e8 : nI 1 + 1 - (nI 1 + 1) / 8 * 8 = nI 2 := by decide
  simp (disch := omega) only [lm_o, mI_n, e3, e2, e8]
  exact this
theorem c_tb_1 {K : Int32 → Mm → Prop} {n : Nat} (hd : 3 ≤ d) (e3 : u.1 44 3 = nI 2) (e2 : u.1 44 2 = nI (n + 1)) (hn : n < 8) (hK : ∀ l', Same u 55 l' → K (nI n) (lm (mI (mI u 44 3 (nI 1)) 44 2 (nI n)) 20 l')) : CI X d 71 [.ref 44] u K := by
  obtain ⟨d, rfl, hd1⟩ := dpos hd
  refine CI_of mk_X6_takeBack.2.2 rfl (B_P_takeBack_0 ?_)
  have e2' : nI (n + 1) - 1 = nI n := nI_pred n
  have e8 : nI 2 + 8 - 1 - (nI 2 + 8 - 1) / 8 * 8 = nI 1 := by decide
  simp (disch := omega) only [mI_s, mI_n, e3, e2, e2', e8]
  refine ⟨fun _ => ⟨vp_in_nI (n := 1) (by decide) (by decide), ?_⟩, fun q => absurd q (nI_ne0 (by omega) (by omega))⟩
  change CV X d 42 [.ref 20, .ref 55] (mI (mI u 44 3 (nI 1)) 44 2 (nI n)) _
  rw [← lm_eta (mI (mI u 44 3 (nI 1)) 44 2 (nI n)) 20]
  exact c_lcopy20_55 hd1 fun l' hl => hK l' (hl.cg fun c hc => by rw [mI_r (by omega), mI_r (by omega)])
theorem c_keep_2 {K : Mm → Prop} {n : Nat} (hd : 3 ≤ d) (e3 : u.1 44 3 = nI 2) (e2 : u.1 44 2 = nI n) (hn : n ≤ 8) (hK : ∀ l', Same u 35 l' → K (mI (mI (lm u 64 l') 44 3 (nI 3)) 44 2 (nI (mn8 n)))) : CV X d 70 [.ref 44, .ref 35] u K := by
  obtain ⟨d, rfl, hd1⟩ := dpos hd
  refine CV_of mk_X6_keep.2.2 rfl (B_P_keep_0 ?_)
  rw [e3]
  refine ⟨vp_in_nI (by decide) (by decide), ?_⟩
  change CV X d 42 [.ref 64, .ref 35] u _
  rw [← lm_eta u 64]
  refine c_lcopy64_35 hd1 fun l' hl => ?_
  have := hK l' hl
  rw [← nI_8 hn] at this
  have e8 : nI 2 + 1 - (nI 2 + 1) / 8 * 8 = nI 3 := by decide
  simp (disch := omega) only [lm_o, mI_n, e3, e2, e8]
  exact this
theorem c_tb_2 {K : Int32 → Mm → Prop} {n : Nat} (hd : 3 ≤ d) (e3 : u.1 44 3 = nI 3) (e2 : u.1 44 2 = nI (n + 1)) (hn : n < 8) (hK : ∀ l', Same u 64 l' → K (nI n) (lm (mI (mI u 44 3 (nI 2)) 44 2 (nI n)) 20 l')) : CI X d 71 [.ref 44] u K := by
  obtain ⟨d, rfl, hd1⟩ := dpos hd
  refine CI_of mk_X6_takeBack.2.2 rfl (B_P_takeBack_0 ?_)
  have e2' : nI (n + 1) - 1 = nI n := nI_pred n
  have e8 : nI 3 + 8 - 1 - (nI 3 + 8 - 1) / 8 * 8 = nI 2 := by decide
  simp (disch := omega) only [mI_s, mI_n, e3, e2, e2', e8]
  refine ⟨fun _ => ⟨vp_in_nI (n := 2) (by decide) (by decide), ?_⟩, fun q => absurd q (nI_ne0 (by omega) (by omega))⟩
  change CV X d 42 [.ref 20, .ref 64] (mI (mI u 44 3 (nI 2)) 44 2 (nI n)) _
  rw [← lm_eta (mI (mI u 44 3 (nI 2)) 44 2 (nI n)) 20]
  exact c_lcopy20_64 hd1 fun l' hl => hK l' (hl.cg fun c hc => by rw [mI_r (by omega), mI_r (by omega)])
theorem c_keep_3 {K : Mm → Prop} {n : Nat} (hd : 3 ≤ d) (e3 : u.1 44 3 = nI 3) (e2 : u.1 44 2 = nI n) (hn : n ≤ 8) (hK : ∀ l', Same u 35 l' → K (mI (mI (lm u 73 l') 44 3 (nI 4)) 44 2 (nI (mn8 n)))) : CV X d 70 [.ref 44, .ref 35] u K := by
  obtain ⟨d, rfl, hd1⟩ := dpos hd
  refine CV_of mk_X6_keep.2.2 rfl (B_P_keep_0 ?_)
  rw [e3]
  refine ⟨vp_in_nI (by decide) (by decide), ?_⟩
  change CV X d 42 [.ref 73, .ref 35] u _
  rw [← lm_eta u 73]
  refine c_lcopy73_35 hd1 fun l' hl => ?_
  have := hK l' hl
  rw [← nI_8 hn] at this
  have e8 : nI 3 + 1 - (nI 3 + 1) / 8 * 8 = nI 4 := by decide
  simp (disch := omega) only [lm_o, mI_n, e3, e2, e8]
  exact this
theorem c_tb_3 {K : Int32 → Mm → Prop} {n : Nat} (hd : 3 ≤ d) (e3 : u.1 44 3 = nI 4) (e2 : u.1 44 2 = nI (n + 1)) (hn : n < 8) (hK : ∀ l', Same u 73 l' → K (nI n) (lm (mI (mI u 44 3 (nI 3)) 44 2 (nI n)) 20 l')) : CI X d 71 [.ref 44] u K := by
  obtain ⟨d, rfl, hd1⟩ := dpos hd
  refine CI_of mk_X6_takeBack.2.2 rfl (B_P_takeBack_0 ?_)
  have e2' : nI (n + 1) - 1 = nI n := nI_pred n
  have e8 : nI 4 + 8 - 1 - (nI 4 + 8 - 1) / 8 * 8 = nI 3 := by decide
  simp (disch := omega) only [mI_s, mI_n, e3, e2, e2', e8]
  refine ⟨fun _ => ⟨vp_in_nI (n := 3) (by decide) (by decide), ?_⟩, fun q => absurd q (nI_ne0 (by omega) (by omega))⟩
  change CV X d 42 [.ref 20, .ref 73] (mI (mI u 44 3 (nI 3)) 44 2 (nI n)) _
  rw [← lm_eta (mI (mI u 44 3 (nI 3)) 44 2 (nI n)) 20]
  exact c_lcopy20_73 hd1 fun l' hl => hK l' (hl.cg fun c hc => by rw [mI_r (by omega), mI_r (by omega)])
theorem c_keep_4 {K : Mm → Prop} {n : Nat} (hd : 3 ≤ d) (e3 : u.1 44 3 = nI 4) (e2 : u.1 44 2 = nI n) (hn : n ≤ 8) (hK : ∀ l', Same u 35 l' → K (mI (mI (lm u 82 l') 44 3 (nI 5)) 44 2 (nI (mn8 n)))) : CV X d 70 [.ref 44, .ref 35] u K := by
  obtain ⟨d, rfl, hd1⟩ := dpos hd
  refine CV_of mk_X6_keep.2.2 rfl (B_P_keep_0 ?_)
  rw [e3]
  refine ⟨vp_in_nI (by decide) (by decide), ?_⟩
  change CV X d 42 [.ref 82, .ref 35] u _
  rw [← lm_eta u 82]
  refine c_lcopy82_35 hd1 fun l' hl => ?_
  have := hK l' hl
  rw [← nI_8 hn] at this
  have e8 : nI 4 + 1 - (nI 4 + 1) / 8 * 8 = nI 5 := by decide
  simp (disch := omega) only [lm_o, mI_n, e3, e2, e8]
  exact this
theorem c_tb_4 {K : Int32 → Mm → Prop} {n : Nat} (hd : 3 ≤ d) (e3 : u.1 44 3 = nI 5) (e2 : u.1 44 2 = nI (n + 1)) (hn : n < 8) (hK : ∀ l', Same u 82 l' → K (nI n) (lm (mI (mI u 44 3 (nI 4)) 44 2 (nI n)) 20 l')) : CI X d 71 [.ref 44] u K := by
  obtain ⟨d, rfl, hd1⟩ := dpos hd
  refine CI_of mk_X6_takeBack.2.2 rfl (B_P_takeBack_0 ?_)
  have e2' : nI (n + 1) - 1 = nI n := nI_pred n
  have e8 : nI 5 + 8 - 1 - (nI 5 + 8 - 1) / 8 * 8 = nI 4 := by decide
  simp (disch := omega) only [mI_s, mI_n, e3, e2, e2', e8]
  refine ⟨fun _ => ⟨vp_in_nI (n := 4) (by decide) (by decide), ?_⟩, fun q => absurd q (nI_ne0 (by omega) (by omega))⟩
  change CV X d 42 [.ref 20, .ref 82] (mI (mI u 44 3 (nI 4)) 44 2 (nI n)) _
  rw [← lm_eta (mI (mI u 44 3 (nI 4)) 44 2 (nI n)) 20]
  exact c_lcopy20_82 hd1 fun l' hl => hK l' (hl.cg fun c hc => by rw [mI_r (by omega), mI_r (by omega)])
theorem c_keep_5 {K : Mm → Prop} {n : Nat} (hd : 3 ≤ d) (e3 : u.1 44 3 = nI 5) (e2 : u.1 44 2 = nI n) (hn : n ≤ 8) (hK : ∀ l', Same u 35 l' → K (mI (mI (lm u 91 l') 44 3 (nI 6)) 44 2 (nI (mn8 n)))) : CV X d 70 [.ref 44, .ref 35] u K := by
  obtain ⟨d, rfl, hd1⟩ := dpos hd
  refine CV_of mk_X6_keep.2.2 rfl (B_P_keep_0 ?_)
  rw [e3]
  refine ⟨vp_in_nI (by decide) (by decide), ?_⟩
  change CV X d 42 [.ref 91, .ref 35] u _
  rw [← lm_eta u 91]
  refine c_lcopy91_35 hd1 fun l' hl => ?_
  have := hK l' hl
  rw [← nI_8 hn] at this
  have e8 : nI 5 + 1 - (nI 5 + 1) / 8 * 8 = nI 6 := by decide
  simp (disch := omega) only [lm_o, mI_n, e3, e2, e8]
  exact this
theorem c_tb_5 {K : Int32 → Mm → Prop} {n : Nat} (hd : 3 ≤ d) (e3 : u.1 44 3 = nI 6) (e2 : u.1 44 2 = nI (n + 1)) (hn : n < 8) (hK : ∀ l', Same u 91 l' → K (nI n) (lm (mI (mI u 44 3 (nI 5)) 44 2 (nI n)) 20 l')) : CI X d 71 [.ref 44] u K := by
  obtain ⟨d, rfl, hd1⟩ := dpos hd
  refine CI_of mk_X6_takeBack.2.2 rfl (B_P_takeBack_0 ?_)
  have e2' : nI (n + 1) - 1 = nI n := nI_pred n
  have e8 : nI 6 + 8 - 1 - (nI 6 + 8 - 1) / 8 * 8 = nI 5 := by decide
  simp (disch := omega) only [mI_s, mI_n, e3, e2, e2', e8]
  refine ⟨fun _ => ⟨vp_in_nI (n := 5) (by decide) (by decide), ?_⟩, fun q => absurd q (nI_ne0 (by omega) (by omega))⟩
  change CV X d 42 [.ref 20, .ref 91] (mI (mI u 44 3 (nI 5)) 44 2 (nI n)) _
  rw [← lm_eta (mI (mI u 44 3 (nI 5)) 44 2 (nI n)) 20]
  exact c_lcopy20_91 hd1 fun l' hl => hK l' (hl.cg fun c hc => by rw [mI_r (by omega), mI_r (by omega)])
theorem c_keep_6 {K : Mm → Prop} {n : Nat} (hd : 3 ≤ d) (e3 : u.1 44 3 = nI 6) (e2 : u.1 44 2 = nI n) (hn : n ≤ 8) (hK : ∀ l', Same u 35 l' → K (mI (mI (lm u 100 l') 44 3 (nI 7)) 44 2 (nI (mn8 n)))) : CV X d 70 [.ref 44, .ref 35] u K := by
  obtain ⟨d, rfl, hd1⟩ := dpos hd
  refine CV_of mk_X6_keep.2.2 rfl (B_P_keep_0 ?_)
  rw [e3]
  refine ⟨vp_in_nI (by decide) (by decide), ?_⟩
  change CV X d 42 [.ref 100, .ref 35] u _
  rw [← lm_eta u 100]
  refine c_lcopy100_35 hd1 fun l' hl => ?_
  have := hK l' hl
  rw [← nI_8 hn] at this
  have e8 : nI 6 + 1 - (nI 6 + 1) / 8 * 8 = nI 7 := by decide
  simp (disch := omega) only [lm_o, mI_n, e3, e2, e8]
  exact this
theorem c_tb_6 {K : Int32 → Mm → Prop} {n : Nat} (hd : 3 ≤ d) (e3 : u.1 44 3 = nI 7) (e2 : u.1 44 2 = nI (n + 1)) (hn : n < 8) (hK : ∀ l', Same u 100 l' → K (nI n) (lm (mI (mI u 44 3 (nI 6)) 44 2 (nI n)) 20 l')) : CI X d 71 [.ref 44] u K := by
  obtain ⟨d, rfl, hd1⟩ := dpos hd
  refine CI_of mk_X6_takeBack.2.2 rfl (B_P_takeBack_0 ?_)
  have e2' : nI (n + 1) - 1 = nI n := nI_pred n
  have e8 : nI 7 + 8 - 1 - (nI 7 + 8 - 1) / 8 * 8 = nI 6 := by decide
  simp (disch := omega) only [mI_s, mI_n, e3, e2, e2', e8]
  refine ⟨fun _ => ⟨vp_in_nI (n := 6) (by decide) (by decide), ?_⟩, fun q => absurd q (nI_ne0 (by omega) (by omega))⟩
  change CV X d 42 [.ref 20, .ref 100] (mI (mI u 44 3 (nI 6)) 44 2 (nI n)) _
  rw [← lm_eta (mI (mI u 44 3 (nI 6)) 44 2 (nI n)) 20]
  exact c_lcopy20_100 hd1 fun l' hl => hK l' (hl.cg fun c hc => by rw [mI_r (by omega), mI_r (by omega)])
theorem c_keep_7 {K : Mm → Prop} {n : Nat} (hd : 3 ≤ d) (e3 : u.1 44 3 = nI 7) (e2 : u.1 44 2 = nI n) (hn : n ≤ 8) (hK : ∀ l', Same u 35 l' → K (mI (mI (lm u 109 l') 44 3 (nI 0)) 44 2 (nI (mn8 n)))) : CV X d 70 [.ref 44, .ref 35] u K := by
  obtain ⟨d, rfl, hd1⟩ := dpos hd
  refine CV_of mk_X6_keep.2.2 rfl (B_P_keep_0 ?_)
  rw [e3]
  refine ⟨vp_in_nI (by decide) (by decide), ?_⟩
  change CV X d 42 [.ref 109, .ref 35] u _
  rw [← lm_eta u 109]
  refine c_lcopy109_35 hd1 fun l' hl => ?_
  have := hK l' hl
  rw [← nI_8 hn] at this
  have e8 : nI 7 + 1 - (nI 7 + 1) / 8 * 8 = nI 0 := by decide
  simp (disch := omega) only [lm_o, mI_n, e3, e2, e8]
  exact this
theorem c_tb_7 {K : Int32 → Mm → Prop} {n : Nat} (hd : 3 ≤ d) (e3 : u.1 44 3 = nI 0) (e2 : u.1 44 2 = nI (n + 1)) (hn : n < 8) (hK : ∀ l', Same u 109 l' → K (nI n) (lm (mI (mI u 44 3 (nI 7)) 44 2 (nI n)) 20 l')) : CI X d 71 [.ref 44] u K := by
  obtain ⟨d, rfl, hd1⟩ := dpos hd
  refine CI_of mk_X6_takeBack.2.2 rfl (B_P_takeBack_0 ?_)
  have e2' : nI (n + 1) - 1 = nI n := nI_pred n
  have e8 : nI 0 + 8 - 1 - (nI 0 + 8 - 1) / 8 * 8 = nI 7 := by decide
  simp (disch := omega) only [mI_s, mI_n, e3, e2, e2', e8]
  refine ⟨fun _ => ⟨vp_in_nI (n := 7) (by decide) (by decide), ?_⟩, fun q => absurd q (nI_ne0 (by omega) (by omega))⟩
  change CV X d 42 [.ref 20, .ref 109] (mI (mI u 44 3 (nI 7)) 44 2 (nI n)) _
  rw [← lm_eta (mI (mI u 44 3 (nI 7)) 44 2 (nI n)) 20]
  exact c_lcopy20_109 hd1 fun l' hl => hK l' (hl.cg fun c hc => by rw [mI_r (by omega), mI_r (by omega)])
theorem c_keep {K : Mm → Prop} {n t : Nat} (hd : 3 ≤ d) (ht : t < 8) (e3 : u.1 44 3 = nI t) (e2 : u.1 44 2 = nI n) (hn : n ≤ 8) (hK : ∀ l', Same u 35 l' → K (mI (mI (lm u (46 + 9 * t) l') 44 3 (nI ((t + 1) % 8))) 44 2 (nI (mn8 n)))) : CV X d 70 [.ref 44, .ref 35] u K := by
  rcases (show t = 0 ∨ t = 1 ∨ t = 2 ∨ t = 3 ∨ t = 4 ∨ t = 5 ∨ t = 6 ∨ t = 7 by omega) with rfl | rfl | rfl | rfl | rfl | rfl | rfl | rfl
  · exact c_keep_0 hd e3 e2 hn hK
  · exact c_keep_1 hd e3 e2 hn hK
  · exact c_keep_2 hd e3 e2 hn hK
  · exact c_keep_3 hd e3 e2 hn hK
  · exact c_keep_4 hd e3 e2 hn hK
  · exact c_keep_5 hd e3 e2 hn hK
  · exact c_keep_6 hd e3 e2 hn hK
  · exact c_keep_7 hd e3 e2 hn hK
theorem c_tb {K : Int32 → Mm → Prop} {n t : Nat} (hd : 3 ≤ d) (ht : t < 8) (e3 : u.1 44 3 = nI t) (e2 : u.1 44 2 = nI (n + 1)) (hn : n < 8) (hK : ∀ l', Same u (46 + 9 * ((t + 7) % 8)) l' → K (nI n) (lm (mI (mI u 44 3 (nI ((t + 7) % 8))) 44 2 (nI n)) 20 l')) : CI X d 71 [.ref 44] u K := by
  rcases (show t = 0 ∨ t = 1 ∨ t = 2 ∨ t = 3 ∨ t = 4 ∨ t = 5 ∨ t = 6 ∨ t = 7 by omega) with rfl | rfl | rfl | rfl | rfl | rfl | rfl | rfl
  · exact c_tb_7 hd e3 e2 hn hK
  · exact c_tb_0 hd e3 e2 hn hK
  · exact c_tb_1 hd e3 e2 hn hK
  · exact c_tb_2 hd e3 e2 hn hK
  · exact c_tb_3 hd e3 e2 hn hK
  · exact c_tb_4 hd e3 e2 hn hK
  · exact c_tb_5 hd e3 e2 hn hK
  · exact c_tb_6 hd e3 e2 hn hK
end Past
/-- one more is kept -/
theorem PastR_keep {u v : Mm} {n t : Nat} {s : Nat → Int32} (hA : nA (u.1 236) ≤ 8) (hW : nW' (u.1 236) ≤ 8) (hn : n ≤ 8) (ht : t < 8) (p4 : ∀ i, i < n → LifeOk (u.1 236) (fun k => u.1 239 (92 * i + k - 198)) ∧ LifeR u (46 + 9 * ((t + 8 - n + i) % 8)) (u.1 236) (fun k => u.1 239 (92 * i + k - 198)))
    (v2 : v.1 44 2 = nI (mn8 n)) (v3 : v.1 44 3 = nI ((t + 1) % 8)) (v24 : v.1 234 24 = nI (mn8 n)) (vh : Out (u.1 236) (v.1 236)) (vo : ∀ x c, x < 8 → x ≠ t → c ≤ 8 → v.1 (46 + 9 * x + c) = u.1 (46 + 9 * x + c)) (vs : v.1 239 = snF (u.1 239) s n) (hs : LifeOk (u.1 236) s) (hr : LifeR v (46 + 9 * t) (u.1 236) s) : PastR v := by
  refine ⟨mn8 n, (t + 1) % 8, by unfold mn8; split <;> omega, Nat.mod_lt _ (by omega), v2, v3, v24, fun i hi => ?_⟩
  suffices hz : LifeOk (u.1 236) (fun k => v.1 239 (92 * i + k - 198)) ∧ LifeR v (46 + 9 * (((t + 1) % 8 + 8 - mn8 n + i) % 8)) (u.1 236) (fun k => v.1 239 (92 * i + k - 198)) from ⟨hz.1.gcongr vh.eA vh.eQ vh.eK vh.eW, hz.2.gcongr vh.eA vh.eQ vh.eW⟩
  rw [vs]
  have old : ∀ i', i' < n → (t + 8 - n + i') % 8 ≠ t → LifeR v (46 + 9 * ((t + 8 - n + i') % 8)) (u.1 236) (fun k => u.1 239 (92 * i' + k - 198)) := by
    intro i' h1 h2
    refine (p4 i' h1).2.congr (fun j _ _ => ?_) (fun k _ hk => vo _ k (Nat.mod_lt _ (by omega)) h2 hk)
    have := vo ((t + 8 - n + i') % 8) 0 (Nat.mod_lt _ (by omega)) h2 (by omega)
    exact congrFun this j
  by_cases h8 : n = 8
  · subst h8
    rw [show mn8 8 = 8 from rfl] at hi ⊢
    by_cases hl : i = 7
    · subst hl
      have e1 : ∀ k, 198 ≤ k → k < 290 → snF (u.1 239) s 8 (92 * 7 + k - 198) = s k := by
        intro k h1 h2
        rw [snF, if_pos rfl, if_pos (by omega)]
        exact congrArg s (by omega)
      rw [show ((t + 1) % 8 + 8 - 8 + 7) % 8 = t by omega]
      exact ⟨hs.scongr hA hW e1, hr.scongr hA hW e1⟩
    · have e1 : ∀ k, 198 ≤ k → k < 290 → snF (u.1 239) s 8 (92 * i + k - 198) = u.1 239 (92 * (i + 1) + k - 198) := by
        intro k h1 h2
        rw [snF, if_pos rfl, if_neg (by omega), if_pos (by omega)]
        exact congrArg (u.1 239) (by omega)
      have e2 : ((t + 1) % 8 + 8 - 8 + i) % 8 = (t + 8 - 8 + (i + 1)) % 8 := by omega
      rw [e2]
      exact ⟨(p4 (i + 1) (by omega)).1.scongr hA hW e1, (old (i + 1) (by omega) (by omega)).scongr hA hW e1⟩
  · rw [mn8, if_neg h8] at hi ⊢
    by_cases hl : i = n
    · subst hl
      have e1 : ∀ k, 198 ≤ k → k < 290 → snF (u.1 239) s i (92 * i + k - 198) = s k := by
        intro k h1 h2
        rw [snF, if_neg h8, if_pos (by omega)]
        exact congrArg s (by omega)
      rw [show ((t + 1) % 8 + 8 - (i + 1) + i) % 8 = t by omega]
      exact ⟨hs.scongr hA hW e1, hr.scongr hA hW e1⟩
    · have e1 : ∀ k, 198 ≤ k → k < 290 → snF (u.1 239) s n (92 * i + k - 198) = u.1 239 (92 * i + k - 198) := by
        intro k h1 h2
        rw [snF, if_neg h8, if_neg (by omega)]
      have e2 : ((t + 1) % 8 + 8 - (n + 1) + i) % 8 = (t + 8 - n + i) % 8 := by omega
      rw [e2]
      exact ⟨(p4 i (by omega)).1.scongr hA hW e1, (old i (by omega) (by omega)).scongr hA hW e1⟩
