/-! reads of the city and of what is so -/
def sm (f : Nat → Int32) : Nat → Int32
  | 0 => 0
  | n + 1 => sm f n + f n
def bset (p : Nat → Bool) : Nat → Int32
  | 0 => 0
  | n + 1 => if p n then bset p n ||| ((1 : Int32) <<< (nI n &&& 31)) else bset p n
theorem sm_congr {f g : Nat → Int32} : ∀ {n : Nat}, (∀ k, k < n → f k = g k) → sm f n = sm g n
  | 0, _ => rfl
  | n + 1, h => by rw [sm, sm, sm_congr (fun k hk => h k (by omega)), h n (by omega)]
theorem bset_congr {f g : Nat → Bool} : ∀ {n : Nat}, (∀ k, k < n → f k = g k) → bset f n = bset g n
  | 0, _ => rfl
  | n + 1, h => by rw [bset, bset, bset_congr (fun k hk => h k (by omega)), h n (by omega)]
theorem fstI_congr {f g : Nat → Bool} : ∀ {n : Nat}, (∀ k, k < n → f k = g k) → fstI f n = fstI g n
  | 0, _ => rfl
  | n + 1, h => by rw [fstI, fstI, fstI_congr (fun k hk => h k (by omega)), h n (by omega)]
theorem nI_m1 {n : Nat} (h : n < 1000000) : ¬ nI n = -1 := by
  intro e
  have h1 := nI_toInt (n := n) (by omega)
  rw [e] at h1
  have h2 : (-1 : Int32).toInt = -1 := rfl
  omega
theorem fstI_none {p : Nat → Bool} : ∀ {n : Nat}, (∀ k, k < n → p k = false) → fstI p n = -1
  | 0, _ => rfl
  | n + 1, h => by rw [fstI, fstI_none (fun k hk => h k (by omega)), if_pos rfl, h n (by omega)]; rfl
theorem fstI_some {p : Nat → Bool} {j : Nat} (hj : p j = true) (hb : ∀ k, k < j → p k = false) : ∀ {n : Nat}, j < n → n < 1000000 → fstI p n = nI j
  | 0, h, _ => absurd h (by omega)
  | n + 1, h, hn => by
    rw [fstI]
    by_cases e : j = n
    · subst e
      rw [fstI_none hb, if_pos rfl, hj]; rfl
    · rw [fstI_some hj hb (by omega) (by omega), if_neg (nI_m1 (by omega))]
/-- what the search tells -/
theorem fstI_cases (p : Nat → Bool) {n : Nat} (hn : n < 1000000) : (fstI p n = -1 ∧ ∀ k, k < n → p k = false) ∨ ∃ j, j < n ∧ fstI p n = nI j ∧ p j = true ∧ ∀ k, k < j → p k = false := by
  by_cases h : ∃ j, j < n ∧ p j = true
  · obtain ⟨j, ⟨h1, h2⟩, h3⟩ := pk_least (fun j => j < n ∧ p j = true) h
    have hb : ∀ k, k < j → p k = false := fun k hk => Bool.eq_false_iff.mpr fun q => h3 k hk ⟨by omega, q⟩
    exact Or.inr ⟨j, h1, fstI_some h2 hb h1 hn, h2, hb⟩
  · have hb : ∀ k, k < n → p k = false := fun k hk => Bool.eq_false_iff.mpr fun q => h ⟨k, hk, q⟩
    exact Or.inl ⟨fstI_none hb, hb⟩
theorem ix3 {p : Int32} {n : Nat} (hn : n < 1000000) : (p < 0 ∨ nI n ≤ p) ∨ ∃ j, j < n ∧ p = nI j := by
  rcases pk_ix p (n := n) (by omega) with h | h | h
  · exact Or.inl (Or.inl h)
  · exact Or.inl (Or.inr h)
  · exact Or.inr h
section Reads
variable {X : Xc} {d : Nat} {u : Mm} {K : Int32 → Mm → Prop}
theorem c_has5 {p a : Int32} {s n : Nat} (hd : 1 ≤ d) (ha : a = nI s) (hs : s < 4) (e : u.1 7 s = nI n) (hn : n < 1000) (h1 : ∀ j, j < n → p = nI j → K 1 u) (h0 : p < 0 ∨ nI n ≤ p → K 0 u) : CI X d 4 [.ref 5, .int a, .int p] u K := by
  obtain ⟨d, rfl, -⟩ := dpos hd
  subst ha
  refine CI_of mk_X0_has.2.2 rfl (B_C5_has_0 ⟨fun q => h0 (Or.inl q), fun q => ⟨vp_in_nI hs (by decide), ?_⟩⟩)
  rw [nI_clamp (by omega), e]
  refine ⟨fun r => ?_, fun r => ?_⟩
  all_goals first
    | exact h0 (Or.inr (by assumption))
    | (obtain ⟨j, hj, rfl⟩ := nI_two q (by assumption) (by omega); exact h1 j hj rfl)
    | (obtain ⟨j, hj, rfl⟩ := nI_two' q (by assumption) (by omega); exact h1 j hj rfl)
    | exact h0 (Or.inr (Int32.not_lt.mp (by assumption)))
theorem c_misCnt {p : Int32} {n : Nat} (hd : 1 ≤ d) (hn : n < 1000) (h1 : ∀ j, j < n → p = nI j → K 1 u) (h0 : p < 0 ∨ nI n ≤ p → K 0 u) : CI X d 187 [.int p, .int 0, .int (nI n - 1)] u K := by
  refine c_misIn hd (fun q1 q2 => ?_) (fun q => ?_)
  · rw [in1 (by omega)] at q2
    obtain ⟨j, hj, rfl⟩ := nI_two' q1 q2 (by omega)
    exact h1 j hj rfl
  · rw [in1 (by omega)] at q
    exact h0 q
theorem c_misSquare {p : Int32} {n : Nat} (hd : 2 ≤ d) (e : u.1 236 0 = nI n) (hn : n < 1000) (h1 : ∀ j, j < n → p = nI j → K 1 u) (h0 : p < 0 ∨ nI n ≤ p → K 0 u) : CI X d 225 [.ref 234, .int p] u K := by
  obtain ⟨d, rfl, hd1⟩ := dpos hd
  refine CI_of mk_X13_isSquare.2.2 rfl (B_M_isSquare_0 ?_)
  rw [e]
  exact c_misCnt hd1 hn (fun j hj r => ⟨Or.inr rfl, h1 j hj r⟩) (fun r => ⟨Or.inl rfl, h0 r⟩)
theorem c_misStatue {p : Int32} {n : Nat} (hd : 2 ≤ d) (e : u.1 236 3 = nI n) (hn : n < 1000) (h1 : ∀ j, j < n → p = nI j → K 1 u) (h0 : p < 0 ∨ nI n ≤ p → K 0 u) : CI X d 226 [.ref 234, .int p] u K := by
  obtain ⟨d, rfl, hd1⟩ := dpos hd
  refine CI_of mk_X13_isStatue.2.2 rfl (B_M_isStatue_0 ?_)
  rw [e]
  exact c_misCnt hd1 hn (fun j hj r => ⟨Or.inr rfl, h1 j hj r⟩) (fun r => ⟨Or.inl rfl, h0 r⟩)
theorem c_misWalker {p : Int32} {n : Nat} (hd : 2 ≤ d) (e : u.1 236 4 = nI n) (hn : n < 1000) (h1 : ∀ j, j < n → p = nI j → K 1 u) (h0 : p < 0 ∨ nI n ≤ p → K 0 u) : CI X d 227 [.ref 234, .int p] u K := by
  obtain ⟨d, rfl, hd1⟩ := dpos hd
  refine CI_of mk_X13_isWalker.2.2 rfl (B_M_isWalker_0 ?_)
  rw [e]
  exact c_misCnt hd1 hn (fun j hj r => ⟨Or.inr rfl, h1 j hj r⟩) (fun r => ⟨Or.inl rfl, h0 r⟩)
theorem c_misKind {p : Int32} {n : Nat} (hd : 2 ≤ d) (e : u.1 236 2 = nI n) (hn : n < 1000) (h1 : ∀ j, j < n → p = nI j → K 1 u) (h0 : p < 0 ∨ nI n ≤ p → K 0 u) : CI X d 228 [.ref 234, .int p] u K := by
  obtain ⟨d, rfl, hd1⟩ := dpos hd
  refine CI_of mk_X13_isKind.2.2 rfl (B_M_isKind_0 ?_)
  rw [e]
  exact c_misCnt hd1 hn (fun j hj r => ⟨Or.inr rfl, h1 j hj r⟩) (fun r => ⟨Or.inl rfl, h0 r⟩)
theorem c_misEvicted {j : Nat} (hd : 2 ≤ d) (hj : j < 32) (h1 : tb (u.1 236 201) j = true → K 1 u) (h0 : tb (u.1 236 201) j = false → K 0 u) : CI X d 229 [.ref 234, .int (nI j)] u K := by
  obtain ⟨d, rfl, hd1⟩ := dpos hd
  refine CI_of mk_X13_isEvicted.2.2 rfl (B_M_isEvicted_0 ?_)
  exact c_mhas hd1 hj (fun r => ⟨Or.inr rfl, h1 r⟩) (fun r => ⟨Or.inl rfl, h0 r⟩)
theorem l_mstandsAt {q : Int32} {n : Nat} (e : u.1 236 3 = nI n) (hn : n ≤ 8) (h : K (fstI (fun a => decide (u.1 236 (210 + a) = q)) n) u) : ∀ k j, j + k = n → (∀ i, i < j → u.1 236 (210 + i) ≠ q) → VI X d 230 K 2 [some (.ref 234), some (.int q), some (.int (nI j))] [] u
  | 0, j, hj, hb => by
    have e2 : j = n := by omega
    subst e2
    refine B_M_standsAt_2 ?_
    rw [e]
    refine ⟨fun _ => ?_, fun r => absurd (nI_le (Nat.le_refl j) (by omega)) r⟩
    rwa [fstI_none (fun k hk => by simpa using hb k hk)] at h
  | k + 1, j, hj, hb => by
    refine B_M_standsAt_2 ?_
    rw [e]
    refine ⟨fun r => absurd r (nI_ge (by omega) (by omega)), fun _ => ?_⟩
    have ei : (210 : Int32) + nI j = nI (210 + j) := nI_add 210 j
    rw [ei, nI_clamp (by omega)]
    refine ⟨vp_in_nI (by omega) (by decide), fun r => ?_, fun r => ?_⟩
    · have := l_mstandsAt e hn h k (j + 1) (by omega) (fun i hi => by
        by_cases e3 : i = j
        · subst e3; exact r
        · exact hb i (by omega))
      rwa [← nI_1] at this
    · rwa [fstI_some (j := j) (by simpa using r) (fun i hi => by simpa using hb i hi) (by omega) (by omega)] at h
theorem c_mstandsAt {q : Int32} {n : Nat} (hd : 1 ≤ d) (e : u.1 236 3 = nI n) (hn : n ≤ 8) (h : K (fstI (fun a => decide (u.1 236 (210 + a) = q)) n) u) : CI X d 230 [.ref 234, .int q] u K := by
  obtain ⟨d, rfl, hd1⟩ := dpos hd
  exact CI_of mk_X13_standsAt.2.2 rfl (B_M_standsAt_0 (l_mstandsAt e hn h n 0 (by omega) (fun i hi => absurd hi (by omega))))
theorem l_mcomes {w : Nat} {q : Int32} {n : Nat} (hw : w < 8) (e : u.1 236 (126 + w) = nI n) (hn : n ≤ 8) (h1 : (∃ i, i < n ∧ u.1 236 (134 + 8 * w + i) = q) → K 1 u) (h0 : (∀ i, i < n → u.1 236 (134 + 8 * w + i) ≠ q) → K 0 u) : ∀ k j, j + k = n → (∀ i, i < j → u.1 236 (134 + 8 * w + i) ≠ q) → VI X d 231 K 2 [some (.ref 234), some (.int (nI w)), some (.int q), some (.int (nI j))] [] u
  | 0, j, hj, hb => by
    have e2 : j = n := by omega
    subst e2
    refine B_M_comes_2 ?_
    rw [show (126 : Int32) + nI w = nI (126 + w) from nI_add 126 w, nI_clamp (by omega), e]
    exact ⟨vp_in_nI (by omega) (by decide), fun _ => h0 hb, fun r => absurd (nI_le (Nat.le_refl j) (by omega)) r⟩
  | k + 1, j, hj, hb => by
    refine B_M_comes_2 ?_
    rw [show (126 : Int32) + nI w = nI (126 + w) from nI_add 126 w, nI_clamp (by omega), e]
    refine ⟨vp_in_nI (by omega) (by decide), fun r => absurd r (nI_ge (by omega) (by omega)), fun _ => ?_⟩
    have ei : (134 : Int32) + (8 : Int32) * nI w + nI j = nI (134 + 8 * w + j) := by
      rw [show (8 : Int32) * nI w = nI (8 * w) from pk_mul 8 w, show (134 : Int32) + nI (8 * w) = nI (134 + 8 * w) from nI_add 134 _, nI_add]
    rw [ei, nI_clamp (by omega)]
    refine ⟨vp_in_nI (by omega) (by decide), fun r => ?_, fun r => h1 ⟨j, by omega, r⟩⟩
    have := l_mcomes hw e hn h1 h0 k (j + 1) (by omega) (fun i hi => by
      by_cases e3 : i = j
      · subst e3; exact r
      · exact hb i (by omega))
    rwa [← nI_1] at this
theorem c_mcomes {w : Nat} {q : Int32} (hd : 1 ≤ d) (hw : w < 8) (e : u.1 236 (126 + w) = nI (nLen (u.1 236) w)) (hn : nLen (u.1 236) w ≤ 8) (h1 : cm (u.1 236) w q = true → K 1 u) (h0 : cm (u.1 236) w q = false → K 0 u) : CI X d 231 [.ref 234, .int (nI w), .int q] u K := by
  obtain ⟨d, rfl, hd1⟩ := dpos hd
  refine CI_of mk_X13_comes.2.2 rfl (B_M_comes_0 (l_mcomes hw e hn (fun r => h1 ?_) (fun r => h0 ?_) _ 0 (Nat.zero_add _) (fun i hi => absurd hi (by omega))))
  · obtain ⟨i, hi, hq⟩ := r
    unfold cm
    exact List.any_eq_true.mpr ⟨i, List.mem_range.mpr hi, by simpa using hq⟩
  · unfold cm
    exact List.any_eq_false.mpr fun i hi => by simpa using r i (List.mem_range.mp hi)
theorem c_mchance {w k : Nat} (hd : 1 ≤ d) (hw : w < 8) (hk : k < 5) (h : K (u.1 236 (86 + 5 * w + k) >>> (u.1 236 (250 + 5 * w + k) &&& 31)) u) : CI X d 232 [.ref 234, .int (nI w), .int (nI k)] u K := by
  obtain ⟨d, rfl, hd1⟩ := dpos hd
  refine CI_of mk_X13_chance.2.2 rfl (B_M_chance_0 ?_)
  have e1 : (86 : Int32) + (5 : Int32) * nI w + nI k = nI (86 + 5 * w + k) := by
    rw [show (5 : Int32) * nI w = nI (5 * w) from pk_mul 5 w, show (86 : Int32) + nI (5 * w) = nI (86 + 5 * w) from nI_add 86 _, nI_add]
  have e2 : (250 : Int32) + (5 : Int32) * nI w + nI k = nI (250 + 5 * w + k) := by
    rw [show (5 : Int32) * nI w = nI (5 * w) from pk_mul 5 w, show (250 : Int32) + nI (5 * w) = nI (250 + 5 * w) from nI_add 250 _, nI_add]
  rw [e1, e2, nI_clamp (by omega), nI_clamp (by omega)]
  exact ⟨vp_in_nI (by omega) (by decide), vp_in_nI (by omega) (by decide), h⟩
theorem c_chance20 {w k : Nat} (hd : 1 ≤ d) (hw : w < 8) (hk : k < 5) (h : K (u.1 15 (5 * w + k) >>> (u.1 28 (5 * w + k) &&& 31)) u) : CI X d 46 [.ref 20, .int (nI w), .int (nI k)] u K := by
  obtain ⟨d, rfl, hd1⟩ := dpos hd
  refine CI_of mk_X4_chance.2.2 rfl (B_L20_chance_0 ?_)
  have e1 : nI w * (5 : Int32) + nI k = nI (5 * w + k) := by
    rw [show nI w * (5 : Int32) = nI (w * 5) from pk_mul w 5, nI_add, Nat.mul_comm]
  rw [e1, nI_clamp (by omega)]
  exact ⟨vp_in_nI (by omega) (by decide), vp_in_nI (by omega) (by decide), h⟩
theorem c_statues20 (hd : 1 ≤ d) (h : K (u.1 7 2) u) : CI X d 43 [.ref 20] u K := by
  obtain ⟨d, rfl, hd1⟩ := dpos hd
  exact CI_of mk_X4_statues.2.2 rfl (B_L20_statues_0 h)
theorem l_msum {r n : Nat} (e : u.1 236 3 = nI n) (hn : n ≤ 8) (hr : r ≤ 500) (h : K (sm (fun a => u.1 236 (r + a)) n) u) : ∀ k j, j + k = n → VI X d 238 K 4 [some (.ref 234), some (.int (nI r)), some (.int (sm (fun a => u.1 236 (r + a)) j)), some (.int (nI j))] [] u
  | 0, j, hj => by
    have e2 : j = n := by omega
    subst e2
    refine B_M_sum_4 ?_
    rw [e]
    exact ⟨fun _ => h, fun q => absurd (nI_le (Nat.le_refl j) (by omega)) q⟩
  | k + 1, j, hj => by
    refine B_M_sum_4 ?_
    rw [e, nI_add, nI_clamp (by omega)]
    refine ⟨fun q => absurd q (nI_ge (by omega) (by omega)), fun _ => ⟨vp_in_nI (by omega) (by decide), ?_⟩⟩
    have := l_msum e hn hr h k (j + 1) (by omega)
    rwa [← nI_1, sm] at this
theorem c_msum {r n : Nat} {a : Int32} (hd : 1 ≤ d) (ha : a = nI r) (e : u.1 236 3 = nI n) (hn : n ≤ 8) (hr : r ≤ 500) (h : K (sm (fun a => u.1 236 (r + a)) n) u) : CI X d 238 [.ref 234, .int a] u K := by
  obtain ⟨d, rfl, hd1⟩ := dpos hd
  subst ha
  exact CI_of mk_X13_sum.2.2 rfl (B_M_sum_0 (l_msum e hn hr h n 0 (by omega)))
end Reads
theorem l_allOf24 {X : Xc} {d : Nat} {u : Mm} {K : Int32 → Mm → Prop} {n : Nat} (hd : 1 ≤ d) (e : u.1 7 2 = nI n) (hn : n ≤ 8) (h : K (sm (u.1 24) n) u) : ∀ k j, j + k = n → VI X d 44 K 4 [some (.ref 20), some (.ref 24), some (.int (sm (u.1 24) j)), some (.int (nI j))] [] u
  | 0, j, hj => by
    have e2 : j = n := by omega
    subst e2
    refine B_L20_allOf24_4 (c_statues20 hd ?_)
    rw [e]
    exact ⟨fun _ => h, fun q => absurd (nI_le (Nat.le_refl j) (by omega)) q⟩
  | k + 1, j, hj => by
    refine B_L20_allOf24_4 (c_statues20 hd ?_)
    rw [e, nI_clamp (by omega)]
    refine ⟨fun q => absurd q (nI_ge (by omega) (by omega)), fun _ => ⟨vp_in_nI (by omega) (by decide), ?_⟩⟩
    have := l_allOf24 (X := X) hd e hn h k (j + 1) (by omega)
    rwa [← nI_1, sm] at this
theorem c_allOf24 {X : Xc} {d : Nat} {u : Mm} {K : Int32 → Mm → Prop} {n : Nat} (hd : 2 ≤ d) (e : u.1 7 2 = nI n) (hn : n ≤ 8) (h : K (sm (u.1 24) n) u) : CI X d 44 [.ref 20, .ref 24] u K := by
  obtain ⟨d, rfl, hd1⟩ := dpos hd
  exact CI_of mk_X4_allOf.2.2 rfl (B_L20_allOf24_0 (l_allOf24 hd1 e hn h n 0 (by omega)))
theorem l_allOf25 {X : Xc} {d : Nat} {u : Mm} {K : Int32 → Mm → Prop} {n : Nat} (hd : 1 ≤ d) (e : u.1 7 2 = nI n) (hn : n ≤ 8) (h : K (sm (u.1 25) n) u) : ∀ k j, j + k = n → VI X d 44 K 4 [some (.ref 20), some (.ref 25), some (.int (sm (u.1 25) j)), some (.int (nI j))] [] u
  | 0, j, hj => by
    have e2 : j = n := by omega
    subst e2
    refine B_L20_allOf25_4 (c_statues20 hd ?_)
    rw [e]
    exact ⟨fun _ => h, fun q => absurd (nI_le (Nat.le_refl j) (by omega)) q⟩
  | k + 1, j, hj => by
    refine B_L20_allOf25_4 (c_statues20 hd ?_)
    rw [e, nI_clamp (by omega)]
    refine ⟨fun q => absurd q (nI_ge (by omega) (by omega)), fun _ => ⟨vp_in_nI (by omega) (by decide), ?_⟩⟩
    have := l_allOf25 (X := X) hd e hn h k (j + 1) (by omega)
    rwa [← nI_1, sm] at this
theorem c_allOf25 {X : Xc} {d : Nat} {u : Mm} {K : Int32 → Mm → Prop} {n : Nat} (hd : 2 ≤ d) (e : u.1 7 2 = nI n) (hn : n ≤ 8) (h : K (sm (u.1 25) n) u) : CI X d 44 [.ref 20, .ref 25] u K := by
  obtain ⟨d, rfl, hd1⟩ := dpos hd
  exact CI_of mk_X4_allOf.2.2 rfl (B_L20_allOf25_0 (l_allOf25 hd1 e hn h n 0 (by omega)))
theorem l_allOf26 {X : Xc} {d : Nat} {u : Mm} {K : Int32 → Mm → Prop} {n : Nat} (hd : 1 ≤ d) (e : u.1 7 2 = nI n) (hn : n ≤ 8) (h : K (sm (u.1 26) n) u) : ∀ k j, j + k = n → VI X d 44 K 4 [some (.ref 20), some (.ref 26), some (.int (sm (u.1 26) j)), some (.int (nI j))] [] u
  | 0, j, hj => by
    have e2 : j = n := by omega
    subst e2
    refine B_L20_allOf26_4 (c_statues20 hd ?_)
    rw [e]
    exact ⟨fun _ => h, fun q => absurd (nI_le (Nat.le_refl j) (by omega)) q⟩
  | k + 1, j, hj => by
    refine B_L20_allOf26_4 (c_statues20 hd ?_)
    rw [e, nI_clamp (by omega)]
    refine ⟨fun q => absurd q (nI_ge (by omega) (by omega)), fun _ => ⟨vp_in_nI (by omega) (by decide), ?_⟩⟩
    have := l_allOf26 (X := X) hd e hn h k (j + 1) (by omega)
    rwa [← nI_1, sm] at this
theorem c_allOf26 {X : Xc} {d : Nat} {u : Mm} {K : Int32 → Mm → Prop} {n : Nat} (hd : 2 ≤ d) (e : u.1 7 2 = nI n) (hn : n ≤ 8) (h : K (sm (u.1 26) n) u) : CI X d 44 [.ref 20, .ref 26] u K := by
  obtain ⟨d, rfl, hd1⟩ := dpos hd
  exact CI_of mk_X4_allOf.2.2 rfl (B_L20_allOf26_0 (l_allOf26 hd1 e hn h n 0 (by omega)))
section Reads2
variable {X : Xc} {d : Nat} {u : Mm} {K : Int32 → Mm → Prop}
theorem l_walkersThrough {q n : Nat} (hd : 1 ≤ d) (hq : q < 32) (e : u.1 7 3 = nI n) (hn : n ≤ 8) (h : K (bset (fun w => tb (u.1 18 w) q) n) u) : ∀ k j, j + k = n → VI X d 9 K 4 [some (.ref 5), some (.int (nI q)), some (.int (bset (fun w => tb (u.1 18 w) q) j)), some (.int (nI j))] [] u
  | 0, j, hj => by
    have e2 : j = n := by omega
    subst e2
    refine B_C5_walkersThrough_4 ?_
    rw [e]
    exact ⟨fun _ => h, fun q => absurd (nI_le (Nat.le_refl j) (by omega)) q⟩
  | k + 1, j, hj => by
    refine B_C5_walkersThrough_4 ?_
    rw [e, nI_clamp (by omega)]
    have ih := l_walkersThrough hd hq e hn h k (j + 1) (by omega)
    rw [← nI_1, bset] at ih
    refine ⟨fun q => absurd q (nI_ge (by omega) (by omega)), fun _ => ⟨vp_in_nI (by omega) (by decide), c_bit hd hq (fun r => ⟨fun z => absurd z (by decide), fun _ => ?_⟩) (fun r => ⟨fun _ => ?_, fun z => absurd rfl z⟩)⟩⟩
    · rwa [if_pos r] at ih
    · rwa [if_neg (by rw [r]; decide)] at ih
theorem c_walkersThrough {q n : Nat} (hd : 2 ≤ d) (hq : q < 32) (e : u.1 7 3 = nI n) (hn : n ≤ 8) (h : K (bset (fun w => tb (u.1 18 w) q) n) u) : CI X d 9 [.ref 5, .int (nI q)] u K := by
  obtain ⟨d, rfl, hd1⟩ := dpos hd
  exact CI_of mk_X0_walkersThrough.2.2 rfl (B_C5_walkersThrough_0 (l_walkersThrough hd1 hq e hn h n 0 (by omega)))
theorem l_kindsTiredOf {w n : Nat} (hw : w < 8) (e : u.1 7 1 = nI n) (hn : n ≤ 5) (h : K (bset (fun k => decide (0 < u.1 28 (5 * w + k))) n) u) : ∀ k j, j + k = n → VI X d 45 K 4 [some (.ref 20), some (.int (nI w)), some (.int (bset (fun k => decide (0 < u.1 28 (5 * w + k))) j)), some (.int (nI j))] [] u
  | 0, j, hj => by
    have e2 : j = n := by omega
    subst e2
    refine B_L20_kindsTiredOf_4 ?_
    rw [e]
    exact ⟨fun _ => h, fun q => absurd (nI_le (Nat.le_refl j) (by omega)) q⟩
  | k + 1, j, hj => by
    refine B_L20_kindsTiredOf_4 ?_
    have e1 : nI w * (5 : Int32) + nI j = nI (5 * w + j) := by
      rw [show nI w * (5 : Int32) = nI (w * 5) from pk_mul w 5, nI_add, Nat.mul_comm]
    rw [e, e1, nI_clamp (by omega)]
    have ih := l_kindsTiredOf hw e hn h k (j + 1) (by omega)
    rw [← nI_1, bset] at ih
    refine ⟨fun q => absurd q (nI_ge (by omega) (by omega)), fun _ => ⟨vp_in_nI (by omega) (by decide), fun r => ?_, fun r => ?_⟩⟩
    · rwa [if_neg (by simpa using Int32.not_lt.mpr r)] at ih
    · rwa [if_pos (by simpa using Int32.not_le.mp r)] at ih
theorem c_kindsTiredOf {w n : Nat} (hd : 1 ≤ d) (hw : w < 8) (e : u.1 7 1 = nI n) (hn : n ≤ 5) (h : K (bset (fun k => decide (0 < u.1 28 (5 * w + k))) n) u) : CI X d 45 [.ref 20, .int (nI w)] u K := by
  obtain ⟨d, rfl, hd1⟩ := dpos hd
  exact CI_of mk_X4_kindsTiredOf.2.2 rfl (B_L20_kindsTiredOf_0 (l_kindsTiredOf hw e hn h n 0 (by omega)))
theorem l_msquare {q n : Nat} {p2 : Int32} (hd : 1 ≤ d) (e : u.1 236 4 = nI n) (hn : n ≤ 8) (hw : ∀ w, w < n → u.1 236 (126 + w) = nI (nLen (u.1 236) w) ∧ nLen (u.1 236) w ≤ 8) (h : K (bset (fun w => cm (u.1 236) w (nI q)) n) u) : ∀ k j, j + k = n → VI X d 233 K 79 [some (.ref 234), some (.int (nI q)), some (.int p2), some (.int (bset (fun w => cm (u.1 236) w (nI q)) j)), some (.int (nI j))] [] u
  | 0, j, hj => by
    have e2 : j = n := by omega
    subst e2
    refine B_M_square_79 ?_
    rw [e]
    exact ⟨fun _ => h, fun q => absurd (nI_le (Nat.le_refl j) (by omega)) q⟩
  | k + 1, j, hj => by
    refine B_M_square_79 ?_
    rw [e]
    have ih := l_msquare (p2 := p2) hd e hn hw h k (j + 1) (by omega)
    rw [← nI_1, bset] at ih
    refine ⟨fun q => absurd q (nI_ge (by omega) (by omega)), fun _ => c_mcomes hd (by omega) (hw j (by omega)).1 (hw j (by omega)).2 (fun r => ⟨fun z => absurd z (by decide), fun _ => ?_⟩) (fun r => ⟨fun _ => ?_, fun z => absurd rfl z⟩)⟩
    · rwa [if_pos r] at ih
    · rwa [if_neg (by rw [r]; decide)] at ih
end Reads2
