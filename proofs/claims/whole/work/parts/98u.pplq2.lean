theorem PlS.nil {u : Mm} : PlS u (mI u 0 15 0) [] := ⟨rfl, fun b j _ q => by rw [mI_at, if_neg q], by rw [mI_at, if_pos ⟨rfl, rfl⟩]; rfl, fun i hi => absurd hi (Nat.not_lt_zero _)⟩
theorem PlM.nil {u : Mm} : PlM u (mI u 234 51 0) [] := ⟨rfl, fun b j _ q => by rw [mI_at, if_neg q], by rw [mI_at, if_pos ⟨rfl, rfl⟩]; rfl, fun i hi => absurd hi (Nat.not_lt_zero _)⟩
theorem plq_rl {u v : Mm} (h : Rl u) (e2 : v.2 = u.2) (E : ∀ b j, b ≠ 173 → b ≠ 257 → ¬ (b = 0 ∧ j = 15) → ¬ (b = 234 ∧ j = 51) → ¬ (b = 234 ∧ j = 0) → v.1 b j = u.1 b j)
    (hn : ∃ n, n ≤ 32 ∧ v.1 0 15 = nI n ∧ v.1 234 51 = nI n ∧ ∀ k, k < n → v.1 173 k = v.1 257 k) : Rl v := by
  have ag : ∀ rel : Nat → Nat → Bool, (∀ j, rel 173 j = false) → (∀ j, rel 257 j = false) → rel 0 15 = false → rel 234 51 = false → rel 234 0 = false → AG rel u v := by
    intro rel r1 r2 r3 r4 r5 a j hr
    refine E a j (fun z => ?_) (fun z => ?_) (fun z => ?_) (fun z => ?_) (fun z => ?_)
    · rw [z, r1] at hr; cases hr
    · rw [z, r2] at hr; cases hr
    · rw [z.1, z.2, r3] at hr; cases hr
    · rw [z.1, z.2, r4] at hr; cases hr
    · rw [z.1, z.2, r5] at hr; cases hr
  obtain ⟨t, w, k, wo, p, im⟩ := h
  refine ⟨t.congr (ag _ (fun _ => rfl) (fun _ => rfl) rfl rfl rfl), w.congr (by rw [e2]), ?_, World5.congr wo (ag _ (fun _ => rfl) (fun _ => rfl) rfl rfl rfl) (by rw [e2]) (by rw [e2]), p.congr (ag _ (fun _ => rfl) (fun _ => rfl) rfl rfl rfl), im.congr (ag _ (fun _ => rfl) (fun _ => rfl) rfl rfl rfl) (by rw [e2]) (by rw [e2]) (by rw [e2])⟩
  have F : ∀ b j, b ≠ 173 → b ≠ 257 → b ≠ 0 → (b = 234 → j ≠ 51 ∧ j ≠ 0) → v.1 b j = u.1 b j := fun b j q1 q2 q3 q4 => E b j q1 q2 (fun z => q3 z.1) (fun z => (q4 z.1).1 z.2) (fun z => (q4 z.1).2 z.2)
  obtain ⟨k1, k2, k3, k4, k5, k6, k7, -, k9⟩ := k
  refine ⟨?_, ?_, ?_, ?_, ?_, ?_, ?_, hn, ?_⟩
  · rw [F 234 42 (by decide) (by decide) (by decide) (by decide), F 234 43 (by decide) (by decide) (by decide) (by decide), F 234 44 (by decide) (by decide) (by decide) (by decide), F 160 6 (by decide) (by decide) (by decide) (by decide), F 160 7 (by decide) (by decide) (by decide) (by decide), F 160 8 (by decide) (by decide) (by decide) (by decide)]
    exact k1
  · rw [F 171 3 (by decide) (by decide) (by decide) (by decide), F 234 45 (by decide) (by decide) (by decide) (by decide)]
    exact k2
  · rw [F 171 4 (by decide) (by decide) (by decide) (by decide), F 234 46 (by decide) (by decide) (by decide) (by decide)]
    exact k3
  · rw [F 160 9 (by decide) (by decide) (by decide) (by decide), F 234 47 (by decide) (by decide) (by decide) (by decide)]
    exact k4
  · rw [F 171 5 (by decide) (by decide) (by decide) (by decide), F 234 48 (by decide) (by decide) (by decide) (by decide)]
    exact k5
  · obtain ⟨n, h1, h2, h3, h4⟩ := k6
    refine ⟨n, h1, ?_, ?_, fun k hk => ?_⟩
    · rw [F 165 10 (by decide) (by decide) (by decide) (by decide)]; exact h2
    · rw [F 234 41 (by decide) (by decide) (by decide) (by decide)]; exact h3
    · rw [F 169 k (by decide) (by decide) (by decide) (fun z => absurd z (by decide)), F 255 k (by decide) (by decide) (by decide) (fun z => absurd z (by decide))]; exact h4 k hk
  · obtain ⟨n, h1, h2, h3, h4⟩ := k7
    refine ⟨n, h1, ?_, ?_, fun k hk => ?_⟩
    · rw [F 165 12 (by decide) (by decide) (by decide) (by decide)]; exact h2
    · rw [F 234 39 (by decide) (by decide) (by decide) (by decide)]; exact h3
    · rw [F 170 k (by decide) (by decide) (by decide) (fun z => absurd z (by decide)), F 254 k (by decide) (by decide) (by decide) (fun z => absurd z (by decide))]; exact h4 k hk
  · rw [F 149 7 (by decide) (by decide) (by decide) (by decide), F 149 8 (by decide) (by decide) (by decide) (by decide), F 149 9 (by decide) (by decide) (by decide) (by decide), F 149 10 (by decide) (by decide) (by decide) (by decide), F 149 11 (by decide) (by decide) (by decide) (by decide), F 234 55 (by decide) (by decide) (by decide) (by decide), F 259 0 (by decide) (by decide) (by decide) (by decide), F 259 1 (by decide) (by decide) (by decide) (by decide), F 259 2 (by decide) (by decide) (by decide) (by decide), F 259 3 (by decide) (by decide) (by decide) (by decide)]
    exact k9
theorem plit1 : lit 1 = [32] ++ bts [15, 23, 5, 19] ++ [32] := by decide +kernel
theorem plit2 : lit 2 = [32] ++ bts [9, 19] ++ [32] ++ bts [1, 20] ++ [32] := by decide +kernel
theorem plit3 : lit 3 = bts [14, 15, 23, 8, 5, 18, 5] := by decide +kernel
section
variable {X : Xc} {d : Nat} {u : Mm}
/-- what a plaque says -/
def plqT (g : Nat → Int32) (nm : Nat → Int64) (a : Nat) (L : List Int32) : Prop := ∃ ls : List Nat, 1 ≤ ls.length ∧ ls.length ≤ 7 ∧ (∀ x ∈ ls, 1 ≤ x ∧ x ≤ 26) ∧ nm (13 + a) = lN (e27 ls) ∧
  ((g (226 + a) ≤ 0 ∧ tb (g 201) a = true ∧ L = bts ls ++ lit 2 ++ lit 3) ∨
   (g (226 + a) ≤ 0 ∧ tb (g 201) a = false ∧ ∃ q ks, q < 8 ∧ g (210 + a) = nI q ∧ 1 ≤ ks.length ∧ ks.length ≤ 7 ∧ (∀ x ∈ ks, 1 ≤ x ∧ x ≤ 26) ∧ nm q = lN (e27 ks) ∧ L = bts ls ++ lit 2 ++ bts ks) ∨
   (∃ n, n ≠ 0 ∧ n < 2 ^ 31 ∧ g (226 + a) = nI n ∧ L = bts ls ++ lit 1 ++ dbt (dgs 9 n)))
theorem c_mplaque {a : Nat} {L : List Int32} {K : Int32 → Mm → Prop} (hd : 13 ≤ d) (hg : HeadOk (u.1 236)) (ha : a < nA (u.1 236)) (hT : plqT (u.1 236) (u.2 241) a L) (hK : ∀ V, PlM (mI u 234 0 0) V L → K (nI L.length) V) : CI X d 299 [.ref 234, .int (nI a)] u K := by
  obtain ⟨d, rfl, hd1⟩ := dpos hd
  obtain ⟨ls, l1, l7, lx, ln, hT⟩ := hT
  have hA := hg.1.2.2.2.2.2.1
  have m3 := hg.1.2.2.2.2.1
  have fin : ∀ V, PlM (mI u 234 0 0) V L → K (V.1 234 51) V := fun V hV => by rw [hV.2.2.1]; exact hK V hV
  have rd : ∀ {V : Mm} {M : List Int32}, PlM (mI u 234 0 0) V M → (∀ j, V.1 236 j = u.1 236 j) ∧ V.2 = u.2 := fun {V M} hV => ⟨fun j => (hV.2.1 236 j (by decide) (fun z => absurd z.1 (by decide))).trans (by rw [mI_at, if_neg (fun z => absurd z.1 (by decide))]), hV.1⟩
  refine CI_of mk_X13_plaque.2.2 rfl (B_M_plaque_0 (c_misStatue (n := nA (u.1 236)) (by omega) m3 (by omega) (fun _ _ _ => ⟨fun _ => ?_, fun z => absurd z (by decide)⟩) (fun z => (no2 ha (by omega) z).elim)))
  rw [show (13 : Int32) + nI a = nI (13 + a) from nI_add 13 a, show (226 : Int32) + nI a = nI (226 + a) from nI_add 226 a, show (210 : Int32) + nI a = nI (210 + a) from nI_add 210 a, nI_clamp (show 13 + a < 2 ^ 31 by omega), nI_clamp (show 226 + a < 2 ^ 31 by omega), nI_clamp (show 210 + a < 2 ^ 31 by omega)]
  refine ⟨vp_in_nI (by omega) (by decide), ?_⟩
  rw [show (mI (mI u 234 0 0) 234 51 0).2 241 (13 + a) = lN (e27 ls) from ln]
  obtain ⟨n0, hn0⟩ : ∃ n, ls.length = n + 1 := ⟨ls.length - 1, by omega⟩
  refine c_mword (X := X) (u0 := mI u 234 0 0) (l := []) n0 (by omega) hn0 (by omega) PlM.nil lx (by simp) (fun V1 h1 => ?_)
  rw [List.nil_append] at h1
  have b1 : (bts ls).length ≤ 7 := by rw [bts_len]; exact l7
  refine c_mw (by omega) h1 (by omega) (fun V2 h2 => ⟨vp_in_nI (by omega) (by decide), ?_⟩)
  rw [(rd h2).1]
  have wd : ∀ (ws : List Nat) (n : Nat) {V : Mm} {M : List Int32} {K' : Mm → Prop}, ws.length = n + 1 → n ≤ 6 → (∀ x ∈ ws, 1 ≤ x ∧ x ≤ 26) → PlM (mI u 234 0 0) V M → M.length ≤ 50 → (∀ V', PlM (mI u 234 0 0) V' (M ++ bts ws) → K' V') → CV X d 297 [.ref 234, .long (lN (e27 ws))] V K' := fun ws n {V M K'} h1 h2 h3 h4 h5 h6 => c_mword n (by omega) h1 h2 h4 h3 (by omega) h6
  refine ⟨fun z => ?_, fun z => ?_⟩
  · refine c_spelt (by omega) ?_
    rw [show spF 105 115 0 0 0 0 0 = lN (e27 [9, 19]) by decide +kernel]
    refine wd [9, 19] 1 rfl (by omega) (by decide) h2 (by simp; omega) (fun V3 h3 => ?_)
    refine c_mw (by omega) h3 (by simp [bts_len]; omega) (fun V4 h4 => ?_)
    refine c_mwordOf (w := 19) (by omega) (by omega) ?_
    refine wd [1, 20] 1 rfl (by omega) (by decide) h4 (by simp [bts_len]; omega) (fun V5 h5 => ?_)
    refine c_mw (by omega) h5 (by simp [bts_len]; omega) (fun V6 h6 => ?_)
    have e6 : bts ls ++ [32] ++ bts [9, 19] ++ [32] ++ bts [1, 20] ++ [32] = bts ls ++ lit 2 := by rw [plit2]; simp [List.append_assoc]
    rw [e6] at h6
    have b2 : (bts ls ++ lit 2).length ≤ 14 := by rw [List.length_append, show (lit 2).length = 7 by decide +kernel]; omega
    refine c_misEvicted (by omega) (by omega) (fun y => ⟨fun z => absurd z (by decide), fun _ => ?_⟩) (fun y => ⟨fun _ => ?_, fun z => absurd rfl z⟩)
    · rw [(rd h6).1] at y
      refine c_spelt (by omega) ?_
      rw [show spF 110 111 119 104 101 114 101 = lN (e27 [14, 15, 23, 8, 5, 18, 5]) by decide +kernel]
      refine wd [14, 15, 23, 8, 5, 18, 5] 6 rfl (by omega) (by decide) h6 (by omega) (fun V7 h7 => ?_)
      rw [← plit3] at h7
      rcases hT with ⟨-, -, rfl⟩ | ⟨-, y', -⟩ | ⟨n, n0, n1, en, -⟩
      · exact fin _ h7
      · rw [y] at y'; cases y'
      · rw [en] at z
        exact absurd z (nI_nle (by omega) n1)
    · rw [(rd h6).1] at y
      rcases hT with ⟨-, y', -⟩ | ⟨-, -, q, ks, hq, eq, k1, k7, kx, kn, rfl⟩ | ⟨n, n0, n1, en, -⟩
      · rw [y] at y'; cases y'
      · rw [(rd h6).1, eq, (rd h6).2, nI_clamp (by omega), kn]
        obtain ⟨n1, hn1⟩ : ∃ n, ks.length = n + 1 := ⟨ks.length - 1, by omega⟩
        exact ⟨vp_in_nI (by omega) (by decide), vp_in_nI (by omega) (by decide), wd ks n1 hn1 (by omega) kx h6 (by omega) (fun V7 h7 => fin _ h7)⟩
      · rw [en] at z
        exact absurd z (nI_nle (by omega) n1)
  · refine c_mwordOf (w := 21) (by omega) (by omega) ?_
    refine wd [15, 23, 5, 19] 3 rfl (by omega) (by decide) h2 (by simp; omega) (fun V3 h3 => ?_)
    refine c_mw (by omega) h3 (by simp [bts_len]; omega) (fun V4 h4 => ⟨vp_in_nI (by omega) (by decide), ?_⟩)
    rw [(rd h4).1]
    have e4 : bts ls ++ [32] ++ bts [15, 23, 5, 19] ++ [32] = bts ls ++ lit 1 := by rw [plit1]; simp [List.append_assoc]
    rw [e4] at h4
    have b2 : (bts ls ++ lit 1).length ≤ 13 := by rw [List.length_append, show (lit 1).length = 6 by decide +kernel]; omega
    rcases hT with ⟨z', -⟩ | ⟨z', -⟩ | ⟨n, n0, n1, en, rfl⟩
    · exact absurd z' z
    · exact absurd z' z
    · rw [en]
      exact c_mnum 9 (by omega) (Nat.lt_trans n1 (by decide)) n1 h4 (by omega) (fun V5 h5 => fin _ h5)
theorem p_plaque {p1 : Int32} (hd : 14 ≤ d) (h : Rl u) : PairI X d 162 299 [.int p1] u := by
  intro K hK
  obtain ⟨d, rfl, hd1⟩ := dpos hd
  obtain ⟨hg, hc, hok, hr⟩ := h.Wd
  have hA := hg.1.2.2.2.2.2.1
  have hQ := hg.1.2.1
  have m3 := hg.1.2.2.2.2.1
  obtain ⟨cq, ck, ca, cw⟩ := cityN hg hc
  refine CI_of mk_X12_plaque.2.2 rfl (B_S_plaque_0 (c_has5 (s := 2) (n := nA (u.1 236)) (by omega) rfl (by omega) ca (by omega) (fun a ha e => ⟨fun _ => ?_, fun z => absurd z (by decide)⟩) (fun z => ⟨fun y => absurd rfl y, fun _ => ?_⟩)))
  · subst e
    obtain ⟨ls, l1, l7, lx, lc, lm⟩ := (hc.2.2.2.1 a ha).2.1
    have lc : u.2 6 (16 + a) = lN (e5 ls) := lc
    have b1 : (bts ls).length ≤ 7 := by rw [bts_len]; exact l7
    have rd : ∀ {V : Mm} {M : List Int32}, PlS u V M → ∀ b j, b ≠ 173 → b ≠ 0 → V.1 b j = u.1 b j := fun {V M} hV b j q1 q2 => hV.2.1 b j q1 (fun z => q2 z.1)
    have end_ : ∀ (V : Mm) (L : List Int32), PlS u V L → L.length ≤ 32 → plqT (u.1 236) (u.2 241) a L → CI X (d + 1) 299 [.ref 234, .int (nI a)] V (fun w2 u2 => K (V.1 0 15) w2 u2) := by
      intro V L hV hL hT
      have e236 : V.1 236 = u.1 236 := funext fun j => rd hV 236 j (by decide) (by decide)
      refine c_mplaque (L := L) (by omega) (by rw [e236]; exact hg) (by rw [e236]; exact ha) (by rw [e236, hV.1]; exact hT) (fun V2 h2 => ?_)
      rw [hV.2.2.1]
      refine hK _ _ (plq_rl h (h2.1.trans hV.1) (fun b j q1 q2 q3 q4 q5 => ?_) ⟨L.length, hL, ?_, h2.2.2.1, fun k hk => ?_⟩)
      · rw [h2.2.1 b j q2 q4, mI_at, if_neg q5]
        exact hV.2.1 b j q1 q3
      · rw [h2.2.1 0 15 (by decide) (fun z => absurd z.1 (by decide)), mI_at, if_neg (fun z => absurd z.1 (by decide))]
        exact hV.2.2.1
      · rw [h2.2.1 173 k (by decide) (fun z => absurd z.1 (by decide)), mI_at, if_neg (fun z => absurd z.1 (by decide)), h2.2.2.2 k hk]
        exact hV.2.2.2 k hk
    rw [show (16 : Int32) + nI a = nI (16 + a) from nI_add 16 a, nI_clamp (show 16 + a < 2 ^ 31 by omega), nI_clamp (show a < 2 ^ 31 by omega)]
    refine ⟨vp_in_nI (by omega) (by decide), ?_⟩
    rw [show (mI u 0 15 0).2 6 (16 + a) = lN (e5 ls) from lc]
    refine c_ename (u0 := u) (l := []) (by omega) PlS.nil l7 lx (by simp) (fun V1 h1 => ⟨vp_in_nI (by omega) (by decide), ?_⟩)
    rw [List.nil_append] at h1
    have e25 : ∀ {V : Mm} {M : List Int32}, PlS u V M → V.1 25 a = u.1 236 (226 + a) := fun {V M} hV => (rd hV 25 a (by decide) (by decide)).trans (hr.2.1 a ha).2.2.2.1
    have e22 : ∀ {V : Mm} {M : List Int32}, PlS u V M → V.1 22 a = u.1 236 (210 + a) := fun {V M} hV => (rd hV 22 a (by decide) (by decide)).trans (hr.2.1 a ha).2.1
    rw [e25 h1]
    refine ⟨fun z => Q_isat (B_S_plaque_76 (c_engrave (k := 2) (by omega) (by omega) h1 (by rw [show jln 2 = 7 by decide]; omega) (fun V2 h2 => ⟨vp_in_nI (by omega) (by decide), ?_⟩))), fun z => Q_owes (B_S_plaque_51 (c_engrave (k := 1) (by omega) (by omega) h1 (by rw [show jln 1 = 6 by decide]; omega) (fun V2 h2 => ⟨vp_in_nI (by omega) (by decide), ?_⟩)))⟩
    · have b2 : (bts ls ++ lit 2).length ≤ 14 := by rw [List.length_append, show (lit 2).length = 7 by decide +kernel]; omega
      rw [nI_clamp (show a < 2 ^ 31 by omega), e22 h2]
      rcases (hok.2.2.2.1 a ha).2 with ⟨ev, em⟩ | ⟨ev, q, hq, eq⟩
      · rw [em]
        refine ⟨fun y => absurd rfl y, fun _ => Q_nowh (B_S_plaque_98 (c_engrave (k := 3) (by omega) (by omega) h2 (by rw [show jln 3 = 7 by decide]; omega) (fun V3 h3 => end_ V3 _ h3 ?_ ⟨ls, l1, l7, lx, lm, Or.inl ⟨z, ev, rfl⟩⟩)))⟩
        rw [List.length_append, show (lit 3).length = 7 by decide +kernel]; omega
      · rw [eq]
        obtain ⟨ks, k1, k7, kx, kc, km⟩ := (hc.2.1 q hq).2.2
        refine ⟨fun _ => ?_, fun y => absurd y (nI_m1 (by omega))⟩
        rw [show (0 : Int32) + nI q = nI q by simp, nI_clamp (by omega), h2.1, show u.2 6 q = lN (e5 ks) from kc]
        refine ⟨vp_in_nI (by omega) (by decide), c_ename (by omega) h2 k7 kx (by omega) (fun V3 h3 => end_ V3 _ h3 ?_ ⟨ls, l1, l7, lx, lm, Or.inr (Or.inl ⟨z, ev, q, ks, by omega, eq, k1, k7, kx, km, rfl⟩)⟩)⟩
        rw [List.length_append, bts_len]; omega
    · have b2 : (bts ls ++ lit 1).length ≤ 13 := by rw [List.length_append, show (lit 1).length = 6 by decide +kernel]; omega
      rw [nI_clamp (show a < 2 ^ 31 by omega), e25 h2]
      obtain ⟨n, hn, en⟩ := nI_of (x := u.1 236 (226 + a)) (fun y => z (Int32.le_of_lt y))
      have n0 : n ≠ 0 := fun y => by
        subst y
        rw [en] at z
        exact z (by decide)
      rw [en]
      refine c_enum (by omega) h2 hn n0 (by omega) (fun V3 h3 => end_ V3 _ h3 ?_ ⟨ls, l1, l7, lx, lm, Or.inr (Or.inr ⟨n, n0, hn, en, rfl⟩)⟩)
      have := dgs_len 9 n
      rw [List.length_append, dbt_len]; omega
  · refine CI_of mk_X13_plaque.2.2 rfl (B_M_plaque_0 (c_misStatue (n := nA (u.1 236)) (by omega) m3 (by omega) (fun a' ha' e => ?_) (fun _ => ⟨fun y => absurd rfl y, fun _ => hK _ _ h.th⟩)))
    subst e
    exact (no2 ha' (by omega) z).elim
end
