/-! sentence -/
def seg (ns : List ND) (lo hi : Nat) : List (Int32 × Int32 × Int32) := (List.range (hi - lo)).map fun i => encN (gN ns (lo + i))
theorem seg_app {ns : List ND} {lo mid hi : Nat} (h1 : lo ≤ mid) (h2 : mid ≤ hi) : seg ns lo mid ++ seg ns mid hi = seg ns lo hi := by
  unfold seg
  have e : hi - lo = (mid - lo) + (hi - mid) := by omega
  rw [e, List.range_add, List.map_append]
  congr 1
  rw [List.map_map]
  refine List.map_congr_left fun i _ => ?_
  simp only [Function.comp]
  rw [show lo + (mid - lo + i) = mid + i by omega]
theorem seg_one {ns : List ND} {lo hi : Nat} (h : lo + 1 = hi) : seg ns lo hi = [encN (gN ns lo)] := by
  unfold seg
  rw [show hi - lo = 1 by omega]
  simp
/-- the nodes as they stand in a row -/
def NdR (s : Nat → Int32) (ns : List ND) : Prop := ∀ i, i < ns.length → s (292 + 4 * i) = (gN ns i).1 ∧ s (293 + 4 * i) = (gN ns i).2.1 ∧ s (294 + 4 * i) = (gN ns i).2.2.1 ∧ s (295 + 4 * i) = (gN ns i).2.2.2
theorem lf_ne {x : Int32} {w : Nat} (h1 : 65 ≤ w) (h2 : w ≤ 73) (h : x = nI w) : x ≠ 1 ∧ x ≠ 2 ∧ x ≠ 3 := by
  subst h
  exact ⟨fun q => absurd (show w = 1 from (le1 (n := 1) (by omega) (by decide)).mp q) (by omega), fun q => absurd (show w = 2 from (le1 (n := 2) (by omega) (by decide)).mp q) (by omega), fun q => absurd (show w = 3 from (le1 (n := 3) (by omega) (by decide)).mp q) (by omega)⟩
theorem sEnc_tr {s : Nat → Int32} {ns : List ND} (hl : ns.length < 1000) (hs : NdR s ns) : ∀ F G lo hi, F ≤ G → trB ns F lo hi → sEnc s G (nI (hi - 1)) = seg ns lo hi := by
  intro F
  induction F with
  | zero => intro G lo hi _ h; exact h.elim
  | succ F ih =>
    intro G lo hi hG h
    obtain ⟨G, rfl⟩ : ∃ G', G = G' + 1 := ⟨G - 1, by omega⟩
    obtain ⟨h1, h2, h3⟩ := h
    obtain ⟨n1, n2, n3, n4⟩ := hs (hi - 1) (by omega)
    rw [sEnc, nI_clamp (show hi - 1 < 2 ^ 31 by omega), n1, n2, n3, n4]
    rcases h3 with ⟨⟨w, w1, w2, w3, -⟩, h3⟩ | ⟨a, b, c⟩ | ⟨mid, a, b, c, e, g⟩
    · obtain ⟨x1, x2, x3⟩ := lf_ne w1 w2 w3
      rw [if_neg x1, if_neg x2, if_neg x3, seg_one h3, show hi - 1 = lo by omega]
      rw [show hi - 1 = lo by omega] at x1 x2 x3
      unfold encN
      rw [if_neg x1, if_neg x2, if_neg x3]
    · have t := trB_lt c
      rw [if_pos a, b, show hi - 2 = hi - 1 - 1 by omega, ih G lo (hi - 1) (by omega) c, ← seg_app (lo := lo) (mid := hi - 1) (hi := hi) (by omega) (by omega), seg_one (lo := hi - 1) (hi := hi) (by omega)]
      unfold encN
      rw [if_pos a]
    · have t1 := trB_lt e
      have t2 := trB_lt g
      rw [b, c, show hi - 2 = hi - 1 - 1 by omega, ih G lo mid (by omega) e, ih G mid (hi - 1) (by omega) g, seg_app (by omega) (by omega), ← seg_app (lo := lo) (mid := hi - 1) (hi := hi) (by omega) (by omega), seg_one (lo := hi - 1) (hi := hi) (by omega)]
      unfold encN
      rcases a with a | a
      · rw [if_neg (by rw [a]; decide), if_pos a, if_neg (by rw [a]; decide), if_pos a]
      · rw [if_neg (by rw [a]; decide), if_neg (by rw [a]; decide), if_pos a, if_neg (by rw [a]; decide), if_neg (by rw [a]; decide), if_pos a]
theorem tr_nodes {ns : List ND} : ∀ F lo hi, trB ns F lo hi → ∀ k, lo ≤ k → k < hi → ((gN ns k).1 = 1 ∧ ∃ x, x < k ∧ (gN ns k).2.1 = nI x) ∨ (((gN ns k).1 = 2 ∨ (gN ns k).1 = 3) ∧ (∃ x, x < k ∧ (gN ns k).2.1 = nI x) ∧ ∃ y, y < k ∧ (gN ns k).2.2.1 = nI y) ∨ ∃ w, 65 ≤ w ∧ w ≤ 73 ∧ (gN ns k).1 = nI w ∧ (70 ≤ w → (gN ns k).2.2.2 = 60 ∨ (gN ns k).2.2.2 = 61 ∨ (gN ns k).2.2.2 = 62) := by
  intro F
  induction F with
  | zero => intro lo hi h; exact h.elim
  | succ F ih =>
    intro lo hi h k k1 k2
    obtain ⟨h1, h2, h3⟩ := h
    rcases h3 with ⟨w, h3⟩ | ⟨a, b, c⟩ | ⟨mid, a, b, c, e, g⟩
    · rw [show k = hi - 1 by omega]
      exact Or.inr (Or.inr w)
    · have t := trB_lt c
      by_cases q : k = hi - 1
      · rw [q]
        exact Or.inl ⟨a, hi - 2, by omega, b⟩
      · exact ih lo (hi - 1) c k k1 (by omega)
    · have t1 := trB_lt e
      have t2 := trB_lt g
      by_cases q : k = hi - 1
      · rw [q]
        exact Or.inr (Or.inl ⟨a, ⟨mid - 1, by omega, b⟩, hi - 2, by omega, c⟩)
      · by_cases q2 : k < mid
        · exact ih lo mid e k k1 q2
        · exact ih mid (hi - 1) g k (by omega) (by omega)
/-- what a sentence that was read is -/
theorem Sent_of {s : Nat → Int32} {ns : List ND} {v : Mm} {Z : Nat} (hl : ns.length ≤ 39) (ht : trB ns 60 0 ns.length) (h0 : s 290 = 1) (h1 : s 291 = nI (ns.length - 1)) (hs : NdR s ns) (z0 : v.1 Z 0 = nI ns.length) (hz : ∀ i, i < ns.length → (v.1 (Z + 1) i, v.1 (Z + 2) i, v.1 (Z + 3) i) = encN (gN ns i)) : SentOk s ∧ SentR v Z s := by
  have t := trB_lt ht
  have he : sEnc s 60 (s 291) = seg ns 0 ns.length := by rw [h1]; exact sEnc_tr (by omega) hs 60 60 0 ns.length (Nat.le_refl _) ht
  have hlen : (seg ns 0 ns.length).length = ns.length := by unfold seg; simp
  refine ⟨Or.inr ⟨h0, ns.length - 1, by omega, h1, fun k hk => ?_⟩, Or.inr ⟨h0, ?_⟩⟩
  · obtain ⟨n1, n2, n3, n4⟩ := hs k (by omega)
    rw [n1, n2, n3, n4]
    exact tr_nodes 60 0 ns.length ht k (by omega) (by omega)
  · rw [he, hlen]
    refine ⟨by omega, by omega, z0, fun i hi => ?_⟩
    rw [hz i hi]
    unfold seg
    rw [List.getElem?_map, List.getElem?_range (by omega)]
    simp
section PSent
variable {X : Xc} {d : Nat} {u : Mm} {f : Nat → Nat} {n m : Nat} {nl : Nat → List Nat} {cQ cK : Nat}
def FrW (u V : Mm) : Prop := (∀ b, b ≠ 234 → b ≠ 236 → b ≠ 260 → V.1 b = u.1 b) ∧ (∀ b, b ≠ 234 → V.2 b = u.2 b) ∧ (∀ j, (13 < j ∧ j < 57) ∨ 60 < j → V.1 234 j = u.1 234 j) ∧ ∀ j, j < 290 ∨ 532 ≤ j → V.1 236 j = u.1 236 j
theorem c_msent {K : Int32 → Mm → Prop} (hd : 60 ≤ d) (hn : n ≤ 940) (hb : TBm u f) (e2 : u.1 234 2 = nI n) (hQ : cQ ≤ 8) (hKK : cK ≤ 8) (hN0 : NmM u 241 0 cQ nl) (hN1 : NmM u 241 8 cK nl) (e60 : u.1 236 0 = nI cQ) (e62 : u.1 236 2 = nI cK)
    (h0 : ∀ e, snTxt f n nl cQ cK = .inl e → ∀ V, FrW u V → V.1 236 = u.1 236 → V.1 234 2 = 0 → FtM V e → K (-1 - nI e.2) V) (h1 : ∀ p, snTxt f n nl cQ cK = .inr p → PG n (tokF f n 200 (sk f n 0), 0, []) p → ∀ V, FrW u V → V.1 234 2 = 0 → V.1 234 10 = 0 → V.1 236 290 = 1 → V.1 236 291 = nI (p.2.2.length - 1) → NdR (V.1 236) p.2.2 → K (nI p.2.1) V) : CI X d 316 [.ref 234] u K := by
  obtain ⟨d, rfl, hd1⟩ := dpos (n := 59) (by omega)
  refine CI_of mk_X13_sentence.2.2 rfl (B_M_sentence_0 ?_)
  refine c_mbegin (f := f) (n := n) (m := 200) (by omega) hn (by omega) hb e2 fun V v1 v2 v3 v4 v5 v6 => ?_
  generalize hU : mI (mI (mI V 234 57 0) 234 58 0) 234 59 0 = U
  have o1 : ∀ b, b ≠ 234 → U.1 b = u.1 b := fun b hb => by rw [← hU, mI_r hb, mI_r hb, mI_r hb]; exact v1 b hb
  have o2 : ∀ b, b ≠ 234 → U.2 b = u.2 b := fun b hb => by rw [← hU]; exact v2 b hb
  have o3 : ∀ k, 10 < k → k < 57 ∨ 60 < k → U.1 234 k = u.1 234 k := fun k h1 h2 => by rw [← hU, mI_n (by omega), mI_n (by omega), mI_n (by omega)]; exact v3 k h1
  have o4 : ∀ k, k ≤ 10 → U.1 234 k = V.1 234 k := fun k h1 => by rw [← hU, mI_n (by omega), mI_n (by omega), mI_n (by omega)]
  have hA : AmM U f n 200 nl cQ cK := ⟨⟨hn, by omega, hb.cg (o1 235 (by omega))⟩, hN0.cg (o2 241 (by omega)), hN1.cg (o2 241 (by omega)), by rw [o1 236 (by omega)]; exact e60, by rw [o1 236 (by omega)]; exact e62⟩
  have hS : StM U f n 200 (tokF f n 200 (sk f n 0), 0, []) 0 := ⟨v6.cg o4 (by rw [← hU]; rfl), by rw [← hU, mI_n (by omega), mI_n (by omega), mI_s]; rfl, by rw [← hU, mI_n (by omega), mI_s]; rfl, by rw [← hU, mI_s]; rfl, fun i hi => absurd hi (by simp)⟩
  obtain ⟨k0, -⟩ := tk0 (f := f) (n := n) (m := 200) hn (by omega)
  have hGP := oneF_ok (f := f) (n := n) (m := 200) (nl := nl) (cQ := cQ) (cK := cK) hn (by omega) (by omega) (by omega) 8
  obtain ⟨d', rfl, hd2⟩ := dpos (d := d) (n := 58) (by omega)
  obtain ⟨d'', rfl, hd3⟩ := dpos (d := d') (n := 57) (by omega)
  have hsp := m_readOr (X := X) (d := d'' + 1) (w := 0) (by omega) (jn_ok (f := f) (m := 200) (wd := 13) (nd := 2) hn (by omega) (Or.inl rfl) hGP) (m_readAnd (X := X) (d := d'') (nl := nl) (cQ := cQ) (cK := cK) (w := 0) (by omega) hGP (m_one (by omega) (by omega) 8 0 d'' (by omega) (by omega)))
  unfold snTxt at h0 h1
  refine hsp U _ _ hA hS k0 (Nat.zero_le _) (by simp) (fun e he V3 x1 x2 => ⟨fun y => absurd rfl y, fun _ => ?_⟩) (fun p he V3 x1 x2 x3 => ⟨fun _ => ?_, fun y => absurd y (by decide)⟩)
  · have he : condF f n 200 (oneF f n 200 nl cQ cK 8) (tokF f n 200 (sk f n 0), 0, []) = .inl e := he
    rw [he] at h0
    rw [x2.2]
    exact h0 e rfl V3 ⟨fun b b1 b2 b3 => by rw [x1.1 b b1 b3]; exact o1 b b1, fun b b1 => by rw [x1.2.1 b b1]; exact o2 b b1, fun j hj => by rw [x1.2.2 j (by omega)]; exact o3 j (by omega) (by omega), fun j hj => by rw [x1.1 236 (by omega) (by omega), o1 236 (by omega)]⟩ (by rw [x1.1 236 (by omega) (by omega), o1 236 (by omega)]) (by rw [x1.2.2 2 (by omega), o4 2 (by omega)]; exact v4) x2
  · have he : condF f n 200 (oneF f n 200 nl cQ cK 8) (tokF f n 200 (sk f n 0), 0, []) = .inr p := he
    have hpg := condF_ok hn (by omega) hGP _ p k0 (Nat.zero_le _) (by simp) he
    have b1 := hpg.1
    have w3 : FrW u V3 := ⟨fun b b1 b2 b3 => by rw [x1.1 b b1 b3]; exact o1 b b1, fun b b1 => by rw [x1.2.1 b b1]; exact o2 b b1, fun j hj => by rw [x1.2.2 j (by omega)]; exact o3 j (by omega) (by omega), fun j hj => by rw [x1.1 236 (by omega) (by omega), o1 236 (by omega)]⟩
    have w2 : V3.1 234 2 = 0 := by rw [x1.2.2 2 (by omega), o4 2 (by omega)]; exact v4
    rw [he] at h0 h1
    dsimp only [bd] at h0 h1
    rw [x2.1.2.2.2.2.1.1]
    refine ⟨fun z => ?_, fun z => ?_⟩
    · have z : p.1.2.1 = 0 := (nI_eq (a := p.1.2.1) (b := 0) (by have := b1.2.1; omega) (by omega)).mp z
      rw [if_pos z] at h1
      have h1 := h1 p rfl hpg
      have e60' : (mI V3 236 290 1).1 234 60 = nI (p.2.2.length - 1) := by rw [mI_r (by omega)]; exact x3
      rw [e60']
      refine lupR (n := 240) (W := fun i (V : Mm) => VI X (d'' + 1 + 1) 316 K 79 [some (.ref 234), some (.int (nI i))] [] V)
        (I := fun i V' => (∀ b, b ≠ 236 → V'.1 b = V3.1 b) ∧ V'.2 = V3.2 ∧ V'.1 236 290 = 1 ∧ V'.1 236 291 = nI (p.2.2.length - 1) ∧ (∀ j, j < 290 ∨ 532 ≤ j → V'.1 236 j = V3.1 236 j) ∧ ∀ j, j < i → V'.1 236 (292 + j) = V3.1 260 j) ?_ _ ⟨fun b hb => by rw [mI_r hb, mI_r hb], rfl, by rw [mI_n (by omega), mI_s], mI_s, fun j hj => by rw [mI_n (by omega), mI_n (by omega)], fun j hj => absurd hj (by omega)⟩
      rintro i V4 hi ⟨c1, c2, c3, c4, c5, c6⟩ ih
      refine B_M_sentence_79 ?_
      rw [nI_1, la1, nI_clamp (show i < 2 ^ 31 by omega), nI_clamp (show 292 + i < 2 ^ 31 by omega), c1 234 (by omega), x2.2.2.1]
      refine ⟨fun y => ?_, fun y => ?_⟩
      · have y : 240 ≤ i := (ll2 (n := 240) (by omega) (by decide)).mp y
        refine h1 V4 ⟨fun b b1 b2 b3 => by rw [c1 b b2]; exact w3.1 b b1 b2 b3, fun b b1 => by rw [c2]; exact w3.2.1 b b1, fun j hj => by rw [c1 234 (by omega)]; exact w3.2.2.1 j hj, fun j hj => by rw [c5 j hj]; exact w3.2.2.2 j hj⟩ (by rw [c1 234 (by omega)]; exact w2) (by rw [c1 234 (by omega)]; exact x2.1.2.2.1) c3 c4 fun k hk => ?_
        have hl : p.2.2.length ≤ 39 := by
          obtain ⟨-, -, q3, r, q4, q5, -⟩ := hpg
          dsimp only at q4 q5
          rw [List.nil_append] at q4
          rw [q4]
          omega
        obtain ⟨q1, q2, q3, q4⟩ := x2.2.2.2.2 k hk
        rw [show 293 + 4 * k = 292 + (4 * k + 1) by omega, show 294 + 4 * k = 292 + (4 * k + 2) by omega, show 295 + 4 * k = 292 + (4 * k + 3) by omega, c6 _ (by omega), c6 _ (by omega), c6 _ (by omega), c6 _ (by omega)]
        exact ⟨q1, q2, q3, q4⟩
      · have y : ¬ 240 ≤ i := mt (ll2 (n := 240) (m := i) (by omega) (by decide)).mpr y
        refine ⟨vp_in_nI (by omega) (by decide), vp_in_nI (by omega) (by decide), ih (by omega) _ ⟨fun b hb => by rw [mI_r hb]; exact c1 b hb, c2, by rw [mI_n (by omega)]; exact c3, by rw [mI_n (by omega)]; exact c4, fun j hj => by rw [mI_n (by omega)]; exact c5 j hj, fun j hj => ?_⟩⟩
        by_cases e : j = i
        · subst e; rw [mI_s, c1 260 (by omega)]
        · rw [mI_n (by omega)]; exact c6 j (by omega)
    · have z : ¬ p.1.2.1 = 0 := fun q => z (by rw [q]; rfl)
      rw [if_neg z] at h0
      refine c_mbad (k := 1) (by omega) x2.1 b1 (Or.inl rfl) fun V4 y1 y2 => ?_
      rw [y2.2]
      exact h0 _ rfl V4 ⟨fun b b1 b2 b3 => by rw [y1.1 b b1]; exact w3.1 b b1 b2 b3, fun b b1 => by rw [y1.2.1 b b1]; exact w3.2.1 b b1, fun j hj => by rw [y1.2.2 j (by omega)]; exact w3.2.2.1 j hj, fun j hj => by rw [y1.1 236 (by omega)]; exact w3.2.2.2 j hj⟩ (by rw [y1.1 236 (by omega), x1.1 236 (by omega) (by omega), o1 236 (by omega)]) (by rw [y1.2.2 2 (by omega)]; exact w2) y2
theorem p_sentence (hd : 61 ≤ d) (h : Rl u) : PairI X d 170 316 [] u := by
  intro K hK
  obtain ⟨d, rfl, hd1⟩ := dpos (n := 60) (by omega)
  obtain ⟨hg, hc, hok, hr, -⟩ := h.2.2.2.1
  obtain ⟨f, n, hn, e1, e2, hb, hbm⟩ := h.1.f
  obtain ⟨nl, hN, hNN⟩ := names_ex hg hc rfl
  have hA := hg.1.2.2.2.2.2.1
  have hQ := hg.1.2.1
  have hKK := hg.1.2.2.2.1
  have hW := hg.1.2.2.2.2.2.2.2
  /- all that both cases share -/
  have rel : ∀ (U V : Mm), (∀ b, b ≠ 1 → ¬ (29 ≤ b ∧ b ≤ 32) → ¬ (154 ≤ b ∧ b ≤ 158) → U.1 b = u.1 b) → (∀ b, b ≠ 1 → U.2 b = u.2 b) → FrW U V → U.1 1 1 = 0 → V.1 234 2 = 0 → U.1 1 2 = V.1 234 10 → (SentOk (V.1 236) ∧ SentR V 29 (V.1 236)) → Rl V := by
    intro U V c1 c2 fw u11 m2 hfa hse
    have o : ∀ b, b ≠ 1 → ¬ (29 ≤ b ∧ b ≤ 32) → ¬ (154 ≤ b ∧ b ≤ 158) → b ≠ 234 → b ≠ 236 → b ≠ 260 → V.1 b = u.1 b := fun b x1 x2 x3 x4 x5 x6 => by rw [fw.1 b x4 x5 x6]; exact c1 b x1 x2 x3
    have o2 : ∀ b, b ≠ 1 → b ≠ 234 → V.2 b = u.2 b := fun b x1 x2 => by rw [fw.2.1 b x2]; exact c2 b x1
    have o4 : ∀ j, (13 < j ∧ j < 57) ∨ 60 < j → V.1 234 j = u.1 234 j := fun j hj => by rw [fw.2.2.1 j hj, c1 234 (by omega) (by omega) (by omega)]
    have o6 : ∀ j, j < 290 → V.1 236 j = u.1 236 j := fun j hj => by rw [fw.2.2.2 j (by omega), c1 236 (by omega) (by omega) (by omega)]
    have v1 : ∀ j, V.1 1 j = U.1 1 j := fun j => by rw [fw.1 1 (by omega) (by omega) (by omega)]
    have hd : Hd (u.1 236) (V.1 236) := fun k hk => o6 k (by omega)
    have ag : ∀ rel : Nat → Nat → Bool, (∀ j, rel 1 j = false) → (∀ b j, 29 ≤ b → b ≤ 32 → rel b j = false) → (∀ b j, 154 ≤ b → b ≤ 158 → rel b j = false) → (∀ j, j ≤ 13 ∨ (57 ≤ j ∧ j ≤ 60) → rel 234 j = false) → (∀ j, rel 236 j = false) → (∀ j, rel 260 j = false) → AG rel u V := by
      intro rel r1 r2 r3 r4 r5 r6 a j ha
      by_cases ea : a = 234
      · subst ea
        refine o4 j ?_
        by_cases q : j ≤ 13 ∨ (57 ≤ j ∧ j ≤ 60)
        · rw [r4 j q] at ha; cases ha
        · omega
      · exact congrFun (o a (by rintro rfl; rw [r1] at ha; cases ha) (fun q => by rw [r2 a j q.1 q.2] at ha; cases ha) (fun q => by rw [r3 a j q.1 q.2] at ha; cases ha) ea (by rintro rfl; rw [r5] at ha; cases ha) (by rintro rfl; rw [r6] at ha; cases ha)) j
    have k4 : ∀ j, j ≤ 13 ∨ (57 ≤ j ∧ j ≤ 60) → relK 234 j = false := by
      intro j hj
      unfold relK
      simp
      omega
    have i4 : ∀ j, j ≤ 13 ∨ (57 ≤ j ∧ j ≤ 60) → relI 234 j = false := by
      intro j hj
      unfold relI
      simp
    refine ⟨⟨⟨0, by omega, by rw [v1]; exact u11, m2⟩, fun i hi => ?_, by rw [v1]; exact hfa⟩, h.2.1.congr (o2 3 (by omega) (by omega)), h.2.2.1.congr (ag _ (fun _ => rfl) (fun b j b1 b2 => ?_) (fun b j b1 b2 => ?_) k4 (fun _ => rfl) (fun _ => rfl)), ⟨hg.congr_h hd, ?_, ?_, ?_, hse.1, hse.2⟩, ?_, h.2.2.2.2.2.congr (ag _ (fun _ => rfl) (fun b j b1 b2 => ?_) (fun b j b1 b2 => ?_) i4 (fun _ => rfl) (fun _ => rfl)) (o2 _ (by omega) (by omega)) (o2 _ (by omega) (by omega)) (o2 _ (by omega) (by omega))⟩
    · rw [o 2 (by omega) (by omega) (by omega) (by omega) (by omega) (by omega), o 235 (by omega) (by omega) (by omega) (by omega) (by omega) (by omega)]; exact h.1.2.1 i hi
    · unfold relK; split <;> first | omega | rfl
    · unfold relK; split <;> first | omega | rfl
    · rw [o2 241 (by omega) (by omega)]
      refine CityR.gcongr_h hg ?_ hd
      exact hc.congr (by rw [o 5 (by omega) (by omega) (by omega) (by omega) (by omega) (by omega)]) (by rw [o 5 (by omega) (by omega) (by omega) (by omega) (by omega) (by omega)]) (fun k a b => o _ (by omega) (by omega) (by omega) (by omega) (by omega) (by omega)) (o2 6 (by omega) (by omega))
    · exact (hok.scongr hA hW (fun k k1 k2 => o6 k (by omega))).gcongr hd.eA hd.eQ hd.eK hd.eW
    · refine LifeR.gcongr ?_ hd.eA hd.eQ hd.eW
      refine LifeR.scongr hA hW ?_ (fun k k1 k2 => o6 k (by omega))
      exact hr.congr (fun j a b => by rw [o 20 (by omega) (by omega) (by omega) (by omega) (by omega) (by omega)]) (fun k a b => o _ (by omega) (by omega) (by omega) (by omega) (by omega) (by omega))
    · obtain ⟨pn, t, hpn, ht, pp2, pp3, p24, p4⟩ := h.2.2.2.2.1
      refine ⟨pn, t, hpn, ht, by rw [o 44 (by omega) (by omega) (by omega) (by omega) (by omega) (by omega)]; exact pp2, by rw [o 44 (by omega) (by omega) (by omega) (by omega) (by omega) (by omega)]; exact pp3, by rw [o4 24 (by omega)]; exact p24, fun i hi => ?_⟩
      obtain ⟨x1, x2⟩ := p4 i hi
      have hb8 : (t + 8 - pn + i) % 8 < 8 := Nat.mod_lt _ (by omega)
      rw [o 239 (by omega) (by omega) (by omega) (by omega) (by omega) (by omega)]
      exact ⟨x1.gcongr hd.eA hd.eQ hd.eK hd.eW, LifeR.gcongr (x2.congr (fun j _ _ => by rw [o _ (by omega) (by omega) (by omega) (by omega) (by omega) (by omega)]) (fun k _ hk => o _ (by omega) (by omega) (by omega) (by omega) (by omega) (by omega))) hd.eA hd.eQ hd.eW⟩
    · unfold relI; split <;> first | omega | rfl | (simp; omega)
    · unfold relI; split <;> first | omega | rfl | (simp; omega)
  refine CI_of mk_X12_sentence.2.2 rfl (B_S_sentence_0 ?_)
  refine c_readSent (by omega) hn hb h.2.1 e1 hN.1 hN.2.1 (fun e he w V v1 v2 => ⟨fun z => ?_, fun _ => ?_⟩) (fun p he V v1 v2 => ⟨fun _ => ?_, fun z => ?_⟩)
  · rw [mI_n (by omega)] at z
    exact absurd z v2.ne
  · rw [mI_n (by omega), v2.2.1]
    have o : ∀ b, b ≠ 1 → ¬ (154 ≤ b ∧ b ≤ 158) → (mI V 1 1 (0 : Int32)).1 b = u.1 b := fun b x1 x2 => by rw [mI_r x1]; exact v1.1 b x1 x2
    refine c_msent (f := f) (n := n) (nl := nl) (by omega) hn (hbm.cg (o 235 (by omega) (by omega))) (by rw [o 234 (by omega) (by omega)]; exact e2) hQ (by omega) (hNN.1.cg (v1.2 241 (by omega))) (hNN.2.1.cg (v1.2 241 (by omega))) (by rw [o 236 (by omega) (by omega)]; exact hNN.2.2.2.1) (by rw [o 236 (by omega) (by omega)]; exact hNN.2.2.2.2.1) (fun e' he' V2 a1 a2 a3 a4 => ?_) (fun p he' => by rw [he] at he'; cases he')
    rw [he] at he'
    cases he'
    refine hK _ _ (rel _ V2 (fun b x1 x2 x3 => o b x1 x3) (fun b x1 => v1.2 b x1) a1 (by rw [mI_s]) a3 (by rw [mI_n (by omega), v2.1, a4.1]) ?_)
    rw [a2, o 236 (by omega) (by omega)]
    refine ⟨h.2.2.2.1.2.2.2.2.1, h.2.2.2.1.2.2.2.2.2.congr ?_ (fun k a b => ?_)⟩
    · rw [a1.1 29 (by omega) (by omega) (by omega), o 29 (by omega) (by omega)]
    · rw [a1.1 _ (by omega) (by omega) (by omega), o _ (by omega) (by omega)]
  · refine c_zcopy29_155 (by omega) fun U hz => ?_
    obtain ⟨z1, z2, z3, z4⟩ := hz
    have o : ∀ b, b ≠ 1 → ¬ (29 ≤ b ∧ b ≤ 32) → ¬ (154 ≤ b ∧ b ≤ 158) → U.1 b = u.1 b := fun b x1 x2 x3 => by rw [z1 b (by omega), mI_r x1]; exact v1.1 b x1 x3
    have oL : ∀ b, b ≠ 1 → U.2 b = u.2 b := fun b x1 => by rw [z2]; exact v1.2 b x1
    refine c_msent (f := f) (n := n) (nl := nl) (by omega) hn (hbm.cg (o 235 (by omega) (by omega) (by omega))) (by rw [o 234 (by omega) (by omega) (by omega)]; exact e2) hQ (by omega) (hNN.1.cg (oL 241 (by omega))) (hNN.2.1.cg (oL 241 (by omega))) (by rw [o 236 (by omega) (by omega) (by omega)]; exact hNN.2.2.2.1) (by rw [o 236 (by omega) (by omega) (by omega)]; exact hNN.2.2.2.2.1) (fun e' he' => by rw [he] at he'; cases he') (fun p' he' hpg V2 a1 a2 a3 a4 a5 a6 => ?_)
    rw [he] at he'
    cases he'
    obtain ⟨-, -, q3, r, q4, q5, q6, -⟩ := hpg
    dsimp only at q4 q5 q6
    rw [List.nil_append] at q4
    have hl : p.2.2.length ≤ 39 := by rw [q4]; omega
    refine hK _ _ (rel U V2 o oL a1 ?_ a2 ?_ (Sent_of hl q6 a4 a5 a6 ?_ (fun i hi => ?_)))
    · rw [z1 1 (by omega), mI_s]
    · rw [z1 1 (by omega), mI_n (by omega), v2.1.2.1, a3]
    · rw [a1.1 29 (by omega) (by omega) (by omega), z3, mI_r (by omega)]; exact v2.2.2.1
    · rw [a1.1 _ (by omega) (by omega) (by omega), a1.1 _ (by omega) (by omega) (by omega), a1.1 _ (by omega) (by omega) (by omega), z4 1 (by omega) (by omega) i (by omega), z4 2 (by omega) (by omega) i (by omega), z4 3 (by omega) (by omega) i (by omega), mI_r (by omega), mI_r (by omega), mI_r (by omega)]
      exact v2.2.2.2 i hi
  · rw [mI_n (by omega)] at z
    exact absurd v2.1.2.1 z
end PSent
