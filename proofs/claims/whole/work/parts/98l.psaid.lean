/-! said -/
def cntB (p : Nat → Bool) : Nat → Nat
  | 0 => 0
  | n + 1 => cntB p n + if p n then 1 else 0
theorem cnt_le {p : Nat → Bool} : ∀ n, cntB p n ≤ n
  | 0 => Nat.le_refl _
  | n + 1 => by have := cnt_le (p := p) n; rw [cntB]; split <;> omega
theorem cnt_congr {p q : Nat → Bool} : ∀ n, (∀ i, i < n → p i = q i) → cntB p n = cntB q n
  | 0, _ => rfl
  | n + 1, h => by rw [cntB, cntB, cnt_congr n (fun i hi => h i (by omega)), h n (by omega)]
theorem cnt_out {p : Nat → Bool} {n : Nat} : ∀ m, n ≤ m → (∀ i, n ≤ i → i < m → p i = false) → cntB p m = cntB p n
  | 0, h, _ => by rw [show n = 0 by omega]
  | m + 1, h, hf => by
    by_cases e : n = m + 1
    · rw [e]
    · rw [cntB, hf m (by omega) (by omega), cnt_out m (by omega) (fun i h1 h2 => hf i h1 (by omega))]
      simp
theorem fst_out {p q : Nat → Bool} {n : Nat} (hpq : ∀ i, i < n → p i = q i) : ∀ m, n ≤ m → (∀ i, n ≤ i → i < m → q i = false) → fstI q m = fstI p n
  | 0, h, _ => by rw [show n = 0 by omega]; rfl
  | m + 1, h, hf => by
    by_cases e : n = m + 1
    · subst e; exact (fstI_congr hpq).symm
    · rw [fstI, hf m (by omega) (by omega), fst_out hpq m (by omega) (fun i h1 h2 => hf i h1 (by omega))]
      by_cases q1 : fstI p n = -1
      · rw [if_pos q1, q1]; rfl
      · rw [if_neg q1]
/-- the set as a number -/
def bsN (p : Nat → Bool) : Nat → Nat
  | 0 => 0
  | n + 1 => if p n then bsN p n ||| 2 ^ n else bsN p n
theorem pop_or : ∀ t, t < 256 → ∀ q, q < 8 → t < 2 ^ q → popN (t ||| 2 ^ q) = popN t + 1 ∧ t ||| 2 ^ q < 2 ^ (q + 1) := by decide +kernel
theorem bsN_ok {p : Nat → Bool} : ∀ n, n ≤ 8 → bset p n = nI (bsN p n) ∧ bsN p n < 2 ^ n ∧ popN (bsN p n) = cntB p n
  | 0, _ => ⟨rfl, show 0 < 2 ^ 0 by decide, show popN 0 = 0 by decide⟩
  | n + 1, hn => by
    obtain ⟨i1, i2, i3⟩ := bsN_ok (p := p) n (by omega)
    have h256 : bsN p n < 256 := Nat.lt_of_lt_of_le i2 (pow_le (by omega))
    rw [bset, bsN, cntB]
    split
    · obtain ⟨j1, j2⟩ := pop_or _ h256 n (by omega) i2
      rw [i1, (or_bit _ h256 n (by omega)).1]
      exact ⟨rfl, j2, by rw [j1, i3]⟩
    · exact ⟨i1, Nat.lt_of_lt_of_le i2 (Nat.pow_le_pow_right (by omega) (by omega)), by rw [i3]; rfl⟩
section PSaid
variable {X : Xc} {d : Nat} {u : Mm}
theorem c_nth {K : Int32 → Mm → Prop} {x : Int32} {k : Nat} (hd : 2 ≤ d) (hk : k < 2147483648) (hK : K (fstI (fun i => tb x i && decide (cntB (tb x) i = k)) 8) u) : CI X d 176 [.int x, .int (nI k)] u K := by
  obtain ⟨d, rfl, hd1⟩ := dpos hd
  refine CI_of mk_X12_nth.2.2 rfl (B_S_nth_0 ?_)
  suffices hz : cntB (tb x) 0 ≤ k → (∀ i, i < 0 → (tb x i && decide (cntB (tb x) i = k)) = false) → VI X d 176 K 4 [some (.int x), some (.int (nI k)), some (.int (nI (k - cntB (tb x) 0))), some (.int (nI 0))] [] u from hz (Nat.zero_le _) (fun i h => absurd h (by omega))
  refine lup (n := 8) (W := fun j => cntB (tb x) j ≤ k → (∀ i, i < j → (tb x i && decide (cntB (tb x) i = k)) = false) → VI X d 176 K 4 [some (.int x), some (.int (nI k)), some (.int (nI (k - cntB (tb x) j))), some (.int (nI j))] [] u) ?_
  intro j hj ih hc hp
  refine B_S_nth_4 ?_
  rw [nI_1]
  refine ⟨fun z => ?_, fun z => ?_⟩
  · have z : 8 ≤ j := (ll2 (n := 8) (by omega) (by decide)).mp z
    rw [fstI_none (fun i hi => hp i (by omega))] at hK
    exact hK
  · have z : ¬ 8 ≤ j := mt (ll2 (n := 8) (m := j) (by omega) (by decide)).mpr z
    refine c_bit hd1 (by omega) (fun y => ⟨fun q => absurd q (by decide), fun _ => ⟨fun q => ?_, fun q => ?_⟩⟩) (fun y => ⟨fun _ => ?_, fun q => absurd rfl q⟩)
    · have q : ¬ k - cntB (tb x) j = 0 := fun e => q (by rw [e]; rfl)
      have e1 : cntB (tb x) (j + 1) = cntB (tb x) j + 1 := by rw [cntB, if_pos y]
      have := ih (by omega) (by omega) (fun i hi => by
        by_cases e : i = j
        · subst e; rw [decide_eq_false (by omega), Bool.and_false]
        · exact hp i (by omega))
      rw [show k - cntB (tb x) j = (k - cntB (tb x) (j + 1)) + 1 by omega, nI_m]
      exact this
    · have q : k - cntB (tb x) j = 0 := (nI_eq (a := k - cntB (tb x) j) (b := 0) (by omega) (by omega)).mp q
      rw [fstI_some (j := j) (by rw [y, decide_eq_true (by omega)]; rfl) hp (by omega) (by omega)] at hK
      exact hK
    · have e1 : cntB (tb x) (j + 1) = cntB (tb x) j := by rw [cntB, y]; simp
      have := ih (by omega) (by omega) (fun i hi => by
        by_cases e : i = j
        · subst e; rw [y]; rfl
        · exact hp i (by omega))
      rw [e1] at this
      exact this
theorem m_said {K : Int32 → Mm → Prop} {p1 : Int32} {t : Nat} (hd : 67 ≤ d) (hg : HeadOk (u.1 236)) (hok : LifeOk (u.1 236) (u.1 236)) (hk : NdOk (u.1 236) t) (h290 : u.1 236 290 = 1) (h291 : u.1 236 291 = nI t)
    (h1 : ∀ a, a < nA (u.1 236) → ev (u.1 236) 60 (nI t) a = true → nI (cntB (ev (u.1 236) 60 (nI t)) a) = p1 → (∀ i, i < a → ev (u.1 236) 60 (nI t) i = true → nI (cntB (ev (u.1 236) 60 (nI t)) i) ≠ p1) → K (nI a) (mI u 234 0 0)) (h0 : (∀ i, i < nA (u.1 236) → ev (u.1 236) 60 (nI t) i = true → nI (cntB (ev (u.1 236) 60 (nI t)) i) ≠ p1) → (¬ p1 = -1 → K (-1) (mI u 234 0 0)) ∧ (p1 = -1 → K (nI (cntB (ev (u.1 236) 60 (nI t)) (nA (u.1 236)))) (mI u 234 0 0))) : CI X d 318 [.ref 234, .int p1] u K := by
  obtain ⟨d, rfl, hd1⟩ := dpos (d := d) (n := 66) (by omega)
  have hA := hg.1.2.2.2.2.2.1
  have e6 : (mI u 234 0 0).1 236 = u.1 236 := mI_r (by omega)
  refine CI_of mk_X13_said.2.2 rfl (B_M_said_0 ?_)
  rw [e6, h290]
  refine ⟨fun _ => ?_, fun z => absurd z (by decide)⟩
  suffices hz : (∀ i, i < 0 → ev (u.1 236) 60 (nI t) i = true → nI (cntB (ev (u.1 236) 60 (nI t)) i) ≠ p1) → VI X d 318 K 22 [some (.ref 234), some (.int p1), some (.int (nI (cntB (ev (u.1 236) 60 (nI t)) 0))), some (.int (nI 0))] [] (mI u 234 0 0) from hz (fun i h => absurd h (by omega))
  refine lup (n := nA (u.1 236)) (W := fun j => (∀ i, i < j → ev (u.1 236) 60 (nI t) i = true → nI (cntB (ev (u.1 236) 60 (nI t)) i) ≠ p1) → VI X d 318 K 22 [some (.ref 234), some (.int p1), some (.int (nI (cntB (ev (u.1 236) 60 (nI t)) j))), some (.int (nI j))] [] (mI u 234 0 0)) ?_
  intro j hj ih hp
  refine B_M_said_22 ?_
  rw [e6, hg.1.2.2.2.2.1, h291, nI_1, nI_1]
  refine ⟨fun z => ?_, fun z => ?_⟩
  · have z := (nI_leI (by omega) (by omega)).mp z
    have ej : j = nA (u.1 236) := by omega
    subst ej
    exact h0 hp
  · have z := mt (nI_leI (a := nA (u.1 236)) (b := j) (by omega) (by omega)).mpr z
    have ih := ih (by omega)
    have hh := c_mholds (X := X) (u := mI u 234 0 0) (t := t) (a := j) (by rw [e6]; exact hg) (by rw [e6]; exact hok) (by rw [e6]; exact hk) (by rw [e6]; omega) 60 t d
    rw [e6] at hh
    refine hh _ (Nat.le_refl _) (by have := hk.1; omega) (by omega) (fun y => ⟨fun _ => ⟨fun q => ?_, fun q => h1 j (by omega) y q hp⟩, fun q => absurd q (by decide)⟩) (fun y => ⟨fun q => absurd rfl q, fun _ => ?_⟩)
    · have e1 : cntB (ev (u.1 236) 60 (nI t)) (j + 1) = cntB (ev (u.1 236) 60 (nI t)) j + 1 := by rw [cntB, if_pos y]
      rw [e1] at ih
      refine ih fun i hi hy => ?_
      by_cases e : i = j
      · subst e; exact q
      · exact hp i (by omega) hy
    · have e1 : cntB (ev (u.1 236) 60 (nI t)) (j + 1) = cntB (ev (u.1 236) 60 (nI t)) j := by rw [cntB, y]; simp
      rw [e1] at ih
      refine ih fun i hi hy => ?_
      by_cases e : i = j
      · subst e; rw [y] at hy; cases hy
      · exact hp i (by omega) hy
theorem Rl_33 {f : Nat → Int32} (h : Rl u) : Rl (mR u 33 f) := by
  refine h.congr (fun a j ha => ?_) rfl
  rw [mR_at]
  split
  · rename_i q; subst q; exact absurd (show (false : Bool) = true from ha) (by decide)
  · rfl
theorem p_said {p1 : Int32} (hd : 68 ≤ d) (h : Rl u) : PairI X d 171 318 [.int p1] u := by
  intro K hK
  obtain ⟨d, rfl, hd1⟩ := dpos (d := d) (n := 67) (by omega)
  obtain ⟨hg, hc, hok, hr, ho, hsr⟩ := h.2.2.2.1
  have hA := hg.1.2.2.2.2.2.1
  refine CI_of mk_X12_said.2.2 rfl (B_S_said_0 ?_)
  rcases hsr with ⟨s0, z0⟩ | ⟨s1, n0, n40, z0, hz⟩
  · rw [z0]
    refine ⟨fun z => absurd rfl z, fun _ => ?_⟩
    refine CI_of mk_X13_said.2.2 rfl (B_M_said_0 ?_)
    rw [show (mI u 234 0 0).1 236 = u.1 236 from mI_r (by omega), s0]
    exact ⟨fun z => absurd rfl z, fun _ => hK _ _ h.th⟩
  · rcases ho with q | ⟨-, t, ht, e291, hn⟩
    · rw [q] at s1; exact absurd s1 (by decide)
    have hk : NdOk (u.1 236) t := ⟨ht, hn⟩
    rw [e291] at n0 n40 z0 hz
    generalize hN : (sEnc (u.1 236) 60 (nI t)).length = N at n0 n40 z0 hz
    rw [z0]
    refine ⟨fun _ => ?_, fun z => absurd z (nI_ne0 (by omega) (by omega))⟩
    refine c_allSolv (by omega) h.Wd (c_trueOf (by omega) h.Wd hk z0 n40 hN hz fun V v1 v2 => ?_)
    have hV : V = mR u 33 (V.1 33) := mm_ext (fun b k => by
      rw [mR_at]
      split
      · rename_i q; rw [q]
      · rename_i q; rw [v1 b q]) v2
    have hRV : Rl V := by rw [hV]; exact Rl_33 h
    have e6 : V.1 236 = u.1 236 := v1 236 (by omega)
    generalize hP : ev (u.1 236) 60 (nI t) = P
    obtain ⟨b1, b2, b3⟩ := bsN_ok (p := P) (nA (u.1 236)) hA
    have b256 : bsN P (nA (u.1 236)) < 256 := Nat.lt_of_lt_of_le b2 (pow_le hA)
    have ms : ∀ (w : Int32), (∀ a, a < nA (u.1 236) → P a = true → nI (cntB P a) = p1 → (∀ i, i < a → P i = true → nI (cntB P i) ≠ p1) → w = nI a) → ((∀ i, i < nA (u.1 236) → P i = true → nI (cntB P i) ≠ p1) → (¬ p1 = -1 → w = -1) ∧ (p1 = -1 → w = nI (cntB P (nA (u.1 236))))) → CI X (d + 1) 318 [.ref 234, .int p1] V (fun w2 u2 => K w w2 u2) := by
      intro w h1 h0
      refine m_said (u := V) (t := t) (by omega) (by rw [e6]; exact hg) (by rw [e6]; exact hok) (by rw [e6]; exact hk) (by rw [e6]; exact s1) (by rw [e6]; exact e291) ?_ ?_
      · rw [e6, hP]
        intro a ha hPa hc hi
        rw [← h1 a ha hPa hc hi]
        exact hK _ _ hRV.th
      · rw [e6, hP]
        intro hi
        obtain ⟨x1, x2⟩ := h0 hi
        exact ⟨fun q => by rw [← x1 q]; exact hK _ _ hRV.th, fun q => by rw [← x2 q]; exact hK _ _ hRV.th⟩
    refine ⟨fun z => ⟨fun z2 => ?_, fun z2 => ?_⟩, fun z => ?_⟩
    · obtain ⟨k, hk', rfl⟩ := nI_of (x := p1) (Int32.not_lt.mpr z2)
      refine c_nth (by omega) hk' (ms _ (fun a ha hPa hc hi => ?_) (fun hi => ⟨fun _ => ?_, fun q => absurd q z⟩))
      · have hc' : cntB P a = k := (nI_eq (by have := cnt_le (p := P) a; omega) (by omega)).mp hc
        have tbx : ∀ i, i < 32 → tb (bset P (nA (u.1 236))) i = (decide (i < nA (u.1 236)) && P i) := fun i hi => tb_bset (by omega) i hi
        have cn : ∀ i, i ≤ nA (u.1 236) → cntB (tb (bset P (nA (u.1 236)))) i = cntB P i := fun i hi => cnt_congr i fun j hj => by rw [tbx j (by omega), decide_eq_true (by omega)]; rfl
        refine fstI_some (j := a) ?_ (fun i hi' => ?_) (by omega) (by omega)
        · rw [tbx a (by omega), decide_eq_true ha, hPa, cn a (by omega), decide_eq_true hc']; rfl
        · rw [tbx i (by omega), decide_eq_true (by omega), cn i (by omega)]
          cases hPi : P i with
          | false => rfl
          | true =>
            have := hi i hi' hPi
            rw [decide_eq_false (fun q => this (by rw [q]))]; rfl
      · refine fstI_none fun i hi' => ?_
        rw [tb_bset (by omega) i (by omega)]
        by_cases q : i < nA (u.1 236)
        · have cn : cntB (tb (bset P (nA (u.1 236)))) i = cntB P i := cnt_congr i fun j hj => by rw [tb_bset (by omega) j (by omega), decide_eq_true (by omega)]; rfl
          rw [decide_eq_true q, cn]
          cases hPi : P i with
          | false => rfl
          | true =>
            have := hi i q hPi
            rw [decide_eq_false (fun q => this (by rw [q]))]; rfl
        · rw [decide_eq_false q]; rfl
    · refine ms _ (fun a ha hPa hc hi => ?_) (fun hi => ⟨fun _ => rfl, fun q => absurd q z⟩)
      exfalso
      rw [← hc] at z2
      exact z2 (nI_le (a := 0) (b := cntB P a) (by omega) (by have := cnt_le (p := P) a; omega))
    · rw [b1]
      refine c_bitc (by omega) b256 ?_
      rw [b3]
      refine ms _ (fun a ha hPa hc hi => ?_) (fun hi => ⟨fun q => absurd z q, fun _ => rfl⟩)
      rw [z] at hc
      exact absurd hc (nI_m1 (by have := cnt_le (p := P) a; omega))
end PSaid
