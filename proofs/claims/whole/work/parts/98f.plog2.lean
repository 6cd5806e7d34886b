theorem lgAll_ok {f : Nat → Nat} {n m : Nat} {nl : Nat → List Nat} {cQ cK cA : Nat} (hn : n ≤ 940) (hm : m ≤ 940) (hQ : cQ < 1000) (hK : cK < 1000) (hA : cA < 1000) : ∀ g (ls : List LL) (ρ : RDS) (ls' : List LL), g + ls.length = 41 → ls.length ≤ 40 → tkOk ρ n → lgAll f n m nl cQ cK cA g ls ρ = .inr ls' → (∀ c ∈ ls', c ∈ ls ∨ llOk cQ cK cA c) ∧ ls'.length ≤ 40 := by
  intro g
  induction g with
  | zero => intro ls ρ ls' hg h40; omega
  | succ g ih =>
    intro ls ρ ls' hg h40 hk h
    rw [lgAll] at h
    split at h
    · cases h
      exact ⟨fun c hc => Or.inl hc, h40⟩
    · obtain ⟨⟨c, ρ1⟩, h1, h⟩ := bd_inr h
      obtain ⟨ρ2, h2, h⟩ := bd_inr h
      obtain ⟨n40, oc, k1, -⟩ := lgLine_ok hn hm hQ hK hA hk h1
      have hs : ρ2 = nxt f n m ρ1 := by unfold rSgn at h2; split at h2 <;> cases h2; rfl
      obtain ⟨k2, -⟩ := nx1 hn hm k1 hs
      obtain ⟨g1, -⟩ := lgD (ls := ls) (c := c)
      obtain ⟨i1, i2⟩ := ih (ls ++ [c]) ρ2 ls' (by rw [g1]; omega) (by rw [g1]; omega) k2 h
      refine ⟨fun x hx => ?_, i2⟩
      rcases i1 x hx with y | y
      · rcases List.mem_append.mp y with y | y
        · exact Or.inl y
        · rw [List.mem_singleton] at y
          rw [y]; exact Or.inr oc
      · exact Or.inr y
section PLog2
variable {X : Xc} {d : Nat} {u U V : Mm}
/-- V with what acts change as it was in u -/
def bas (u V : Mm) : Mm := (fun b k => if (20 ≤ b ∧ b ≤ 28) ∨ (35 ≤ b ∧ b ≤ 44) ∨ (46 ≤ b ∧ b ≤ 117) ∨ b = 236 ∨ b = 239 ∨ (b = 234 ∧ k = 24) then u.1 b k else V.1 b k, V.2)
theorem bas_at {b k : Nat} : (bas u V).1 b k = if (20 ≤ b ∧ b ≤ 28) ∨ (35 ≤ b ∧ b ≤ 44) ∨ (46 ≤ b ∧ b ≤ 117) ∨ b = 236 ∨ b = 239 ∨ (b = 234 ∧ k = 24) then u.1 b k else V.1 b k := rfl
theorem bas_n {b : Nat} (h : ¬ ((20 ≤ b ∧ b ≤ 28) ∨ (35 ≤ b ∧ b ≤ 44) ∨ (46 ≤ b ∧ b ≤ 117) ∨ b = 236 ∨ b = 239)) (h4 : b ≠ 234) : (bas u V).1 b = V.1 b := funext fun k => if_neg (by omega)
theorem bas_s {b : Nat} (h : (20 ≤ b ∧ b ≤ 28) ∨ (35 ≤ b ∧ b ≤ 44) ∨ (46 ≤ b ∧ b ≤ 117) ∨ b = 236 ∨ b = 239) : (bas u V).1 b = u.1 b := funext fun k => if_pos (by omega)
theorem bas_4 {k : Nat} (h : k ≠ 24) : (bas u V).1 234 k = V.1 234 k := if_neg (by omega)
theorem bas_24 : (bas u V).1 234 24 = u.1 234 24 := by rw [bas_at, if_pos (by omega)]
/-- what the system did -/
def FrQ (u U : Mm) : Prop := (∀ b, b ≠ 1 → ¬ (20 ≤ b ∧ b ≤ 28) → ¬ (35 ≤ b ∧ b ≤ 44) → ¬ (46 ≤ b ∧ b ≤ 117) → ¬ (149 ≤ b ∧ b ≤ 153) → U.1 b = u.1 b) ∧ (∀ b, b ≠ 1 → U.2 b = u.2 b)
theorem fin_log {w : Int32} {k : Nat} {s' : Nat → Int32} (h : Rl u) (hf : FrQ u U) (e1 : U.1 1 1 = 0) (e2 : U.1 1 2 = 0) (q7 : U.1 149 7 = 1) (q8 : U.1 149 8 = w) (q9 : U.1 149 9 = nI k) (q10 : U.1 149 10 = s' 198) (q11 : U.1 149 11 = s' 201) (ho : FrO U V) (m2 : V.1 234 2 = 0) (m10 : V.1 234 10 = 0) (hr : rsM V w k s') : Rl (bas u V) := by
  have o : ∀ b, b ≠ 1 → ¬ (20 ≤ b ∧ b ≤ 28) → ¬ (35 ≤ b ∧ b ≤ 44) → ¬ (46 ≤ b ∧ b ≤ 117) → ¬ (149 ≤ b ∧ b ≤ 153) → b ≠ 234 → b ≠ 236 → b ≠ 239 → b ≠ 240 → b ≠ 247 → b ≠ 258 → b ≠ 259 → V.1 b = u.1 b := fun b x1 x2 x3 x4 x5 x6 x7 x8 x9 x10 x11 x12 => by rw [ho.1 b x6 x7 x8 x9 x10 x11 x12]; exact hf.1 b x1 x2 x3 x4 x5
  have o4 : ∀ j, 13 < j → j ≠ 24 → j ≠ 27 → j ≠ 28 → j ≠ 54 → j ≠ 55 → V.1 234 j = u.1 234 j := fun j x1 x2 x3 x4 x5 x6 => by rw [ho.2.2 j x1 x2 x3 x4 x5 x6, hf.1 234 (by omega) (by omega) (by omega) (by omega) (by omega)]
  have o2 : ∀ b, b ≠ 1 → b ≠ 234 → V.2 b = u.2 b := fun b x1 x2 => by rw [ho.2.1 b x2]; exact hf.2 b x1
  have v1 : ∀ j, V.1 1 j = U.1 1 j := fun j => by rw [ho.1 1 (by omega) (by omega) (by omega) (by omega) (by omega) (by omega) (by omega)]
  have v9 : ∀ j, V.1 149 j = U.1 149 j := fun j => by rw [ho.1 149 (by omega) (by omega) (by omega) (by omega) (by omega) (by omega) (by omega)]
  have o' : ∀ b, b ≠ 1 → ¬ (149 ≤ b ∧ b ≤ 153) → b ≠ 234 → b ≠ 240 → b ≠ 247 → b ≠ 258 → b ≠ 259 → (bas u V).1 b = u.1 b := by
    intro b x1 x2 x3 x4 x5 x6 x7
    by_cases e : (20 ≤ b ∧ b ≤ 28) ∨ (35 ≤ b ∧ b ≤ 44) ∨ (46 ≤ b ∧ b ≤ 117) ∨ b = 236 ∨ b = 239
    · exact bas_s e
    · rw [bas_n e x3]
      exact o b x1 (by omega) (by omega) (by omega) x2 x3 (by omega) (by omega) x4 x5 x6 x7
  have o4' : ∀ j, 13 < j → j ≠ 27 → j ≠ 28 → j ≠ 54 → j ≠ 55 → (bas u V).1 234 j = u.1 234 j := by
    intro j x1 x3 x4 x5 x6
    by_cases e : j = 24
    · subst e; exact bas_24
    · rw [bas_4 e]; exact o4 j x1 e x3 x4 x5 x6
  have ag : ∀ rel : Nat → Nat → Bool, (∀ j, rel 1 j = false) → (∀ b j, 149 ≤ b → b ≤ 153 → rel b j = false) → (∀ j, rel 240 j = false) → (∀ j, rel 247 j = false) → (∀ j, rel 258 j = false) → (∀ j, rel 259 j = false) → (∀ j, j ≤ 13 → rel 234 j = false) → rel 234 27 = false → rel 234 28 = false → rel 234 54 = false → rel 234 55 = false → AG rel u (bas u V) := by
    intro rel r1 r2 r3 r4 r5 r6 r7 r8 r9 r10 r11 a j ha
    by_cases ea : a = 234
    · subst ea
      exact o4' j (Nat.lt_of_not_le fun q => by rw [r7 j q] at ha; cases ha) (by rintro rfl; rw [r8] at ha; cases ha) (by rintro rfl; rw [r9] at ha; cases ha) (by rintro rfl; rw [r10] at ha; cases ha) (by rintro rfl; rw [r11] at ha; cases ha)
    · exact congrFun (o' a (by rintro rfl; rw [r1] at ha; cases ha) (fun q => by rw [r2 a j q.1 q.2] at ha; cases ha) ea (by rintro rfl; rw [r3] at ha; cases ha) (by rintro rfl; rw [r4] at ha; cases ha) (by rintro rfl; rw [r5] at ha; cases ha) (by rintro rfl; rw [r6] at ha; cases ha)) j
  have w4' : ∀ j, j ≤ 13 → relW 234 j = false := by decide
  have p4' : ∀ j, j ≤ 13 → relP 234 j = false := by decide
  have i4' : ∀ j, j ≤ 13 → relI 234 j = false := by decide
  refine ⟨⟨⟨0, by omega, ?_, ?_⟩, fun i hi => ?_, ?_⟩, h.2.1.congr (o2 3 (by omega) (by omega)), ?_, World5.congr h.2.2.2.1 (ag _ (fun _ => rfl) (fun b j b1 b2 => ?_) (fun _ => rfl) (fun _ => rfl) (fun _ => rfl) (fun _ => rfl) w4' rfl rfl rfl rfl) (o2 6 (by omega) (by omega)) (o2 241 (by omega) (by omega)), h.2.2.2.2.1.congr (ag _ (fun _ => rfl) (fun b j b1 b2 => ?_) (fun _ => rfl) (fun _ => rfl) (fun _ => rfl) (fun _ => rfl) p4' rfl rfl rfl rfl), h.2.2.2.2.2.congr (ag _ (fun _ => rfl) (fun b j b1 b2 => ?_) (fun _ => rfl) (fun _ => rfl) (fun _ => rfl) (fun _ => rfl) i4' rfl rfl rfl rfl) (o2 _ (by omega) (by omega)) (o2 _ (by omega) (by omega)) (o2 _ (by omega) (by omega))⟩
  · rw [bas_n (by omega) (by omega), v1]; exact e1
  · rw [bas_4 (by omega)]; exact m2
  · rw [o' 2 (by omega) (by omega) (by omega) (by omega) (by omega) (by omega) (by omega), o' 235 (by omega) (by omega) (by omega) (by omega) (by omega) (by omega) (by omega)]; exact h.1.2.1 i hi
  · rw [bas_n (by omega) (by omega), v1, bas_4 (by omega), e2, m10]
  · obtain ⟨k1, k2, k3, k4, k5, k6, k7, k8, -⟩ := h.2.2.1
    unfold KeptR
    rw [o4' 42 (by omega) (by omega) (by omega) (by omega) (by omega), o4' 43 (by omega) (by omega) (by omega) (by omega) (by omega), o4' 44 (by omega) (by omega) (by omega) (by omega) (by omega), o4' 45 (by omega) (by omega) (by omega) (by omega) (by omega), o4' 46 (by omega) (by omega) (by omega) (by omega) (by omega), o4' 47 (by omega) (by omega) (by omega) (by omega) (by omega), o4' 48 (by omega) (by omega) (by omega) (by omega) (by omega), o4' 41 (by omega) (by omega) (by omega) (by omega) (by omega), o4' 39 (by omega) (by omega) (by omega) (by omega) (by omega), o4' 51 (by omega) (by omega) (by omega) (by omega) (by omega), o' 160 (by omega) (by omega) (by omega) (by omega) (by omega) (by omega) (by omega), o' 171 (by omega) (by omega) (by omega) (by omega) (by omega) (by omega) (by omega), o' 165 (by omega) (by omega) (by omega) (by omega) (by omega) (by omega) (by omega), o' 169 (by omega) (by omega) (by omega) (by omega) (by omega) (by omega) (by omega), o' 170 (by omega) (by omega) (by omega) (by omega) (by omega) (by omega) (by omega), o' 255 (by omega) (by omega) (by omega) (by omega) (by omega) (by omega) (by omega), o' 254 (by omega) (by omega) (by omega) (by omega) (by omega) (by omega) (by omega), o' 0 (by omega) (by omega) (by omega) (by omega) (by omega) (by omega) (by omega), o' 173 (by omega) (by omega) (by omega) (by omega) (by omega) (by omega) (by omega), o' 257 (by omega) (by omega) (by omega) (by omega) (by omega) (by omega) (by omega)]
    refine ⟨k1, k2, k3, k4, k5, k6, k7, k8, Or.inr ?_⟩
    rw [bas_n (b := 149) (by omega) (by omega), bas_n (b := 259) (by omega) (by omega), bas_4 (by omega)]
    obtain ⟨r0, r1, r2, r3, r4⟩ := hr
    rw [v9, v9, v9, v9, v9, q7, q8, q9, q10, q11]
    exact ⟨rfl, r0, r1.symm, r2.symm, r3.symm, r4.symm⟩
  · unfold relW; split <;> first | omega | rfl | (simp; omega)
  · unfold relP; split <;> first | omega | rfl | (simp; omega)
  · unfold relI; split <;> first | omega | rfl | (simp; omega)
theorem fault_log {e : FT} (h : Rl u) (hf : FrLg u U) (ft : FtC U e) (ho : FrO (mI U 1 1 0) V) (a6 : V.1 236 = u.1 236) (a9 : V.1 239 = u.1 239) (a259 : V.1 259 = u.1 259) (a55 : V.1 234 55 = u.1 234 55) (a24 : V.1 234 24 = u.1 234 24) (m2 : V.1 234 2 = 0) (fm : FtM V e) : Rl V := by
  have o : ∀ b, b ≠ 1 → ¬ (149 ≤ b ∧ b ≤ 153) → b ≠ 234 → b ≠ 240 → b ≠ 247 → b ≠ 258 → V.1 b = u.1 b := by
    intro b x1 x2 x3 x4 x5 x6
    by_cases e1 : b = 236
    · subst e1; exact a6
    · by_cases e2 : b = 239
      · subst e2; exact a9
      · by_cases e3 : b = 259
        · subst e3; exact a259
        · rw [ho.1 b x3 e1 e2 x4 x5 x6 e3, mI_r x1]; exact hf.1 b x1 (by omega)
  have o4 : ∀ j, 13 < j → j ≠ 27 → j ≠ 28 → j ≠ 54 → V.1 234 j = u.1 234 j := by
    intro j x1 x2 x3 x4
    by_cases e1 : j = 24
    · subst e1; exact a24
    · by_cases e2 : j = 55
      · subst e2; exact a55
      · rw [ho.2.2 j x1 e1 x2 x3 x4 e2, mI_r (by omega), hf.1 234 (by omega) (by omega)]
  have o9 : ∀ j, j ≠ 2 → V.1 149 j = u.1 149 j := fun j hj => by rw [ho.1 149 (by omega) (by omega) (by omega) (by omega) (by omega) (by omega) (by omega), mI_r (by omega)]; exact hf.2.2 j hj
  have o2 : ∀ b, b ≠ 1 → b ≠ 234 → V.2 b = u.2 b := fun b x1 x2 => by rw [ho.2.1 b x2]; exact hf.2.1 b x1
  have v1 : ∀ j, V.1 1 j = (mI U 1 1 0).1 1 j := fun j => by rw [ho.1 1 (by omega) (by omega) (by omega) (by omega) (by omega) (by omega) (by omega)]
  have ag : ∀ rel : Nat → Nat → Bool, (∀ j, rel 1 j = false) → rel 149 2 = false → (∀ b j, 150 ≤ b → b ≤ 153 → rel b j = false) → (∀ j, rel 240 j = false) → (∀ j, rel 247 j = false) → (∀ j, rel 258 j = false) → (∀ j, j ≤ 13 → rel 234 j = false) → rel 234 27 = false → rel 234 28 = false → rel 234 54 = false → AG rel u V := by
    intro rel r1 r9 r2 r3 r4 r5 r7 r8 r10 r11 a j ha
    by_cases ea : a = 234
    · subst ea
      exact o4 j (Nat.lt_of_not_le fun q => by rw [r7 j q] at ha; cases ha) (by rintro rfl; rw [r8] at ha; cases ha) (by rintro rfl; rw [r10] at ha; cases ha) (by rintro rfl; rw [r11] at ha; cases ha)
    · by_cases eb : a = 149
      · subst eb
        exact o9 j (by rintro rfl; rw [r9] at ha; cases ha)
      · exact congrFun (o a (by rintro rfl; rw [r1] at ha; cases ha) (fun q => by rw [r2 a j (by omega) q.2] at ha; cases ha) ea (by rintro rfl; rw [r3] at ha; cases ha) (by rintro rfl; rw [r4] at ha; cases ha) (by rintro rfl; rw [r5] at ha; cases ha)) j
  have k4' : ∀ j, j ≤ 13 → relK 234 j = false := by decide
  have w4' : ∀ j, j ≤ 13 → relW 234 j = false := by decide
  have p4' : ∀ j, j ≤ 13 → relP 234 j = false := by decide
  have i4' : ∀ j, j ≤ 13 → relI 234 j = false := by decide
  refine ⟨⟨⟨0, by omega, ?_, m2⟩, fun i hi => ?_, ?_⟩, h.2.1.congr (o2 3 (by omega) (by omega)), h.2.2.1.congr (ag _ (fun _ => rfl) rfl (fun b j b1 b2 => ?_) (fun _ => rfl) (fun _ => rfl) (fun _ => rfl) k4' rfl rfl rfl), World5.congr h.2.2.2.1 (ag _ (fun _ => rfl) rfl (fun b j b1 b2 => ?_) (fun _ => rfl) (fun _ => rfl) (fun _ => rfl) w4' rfl rfl rfl) (o2 6 (by omega) (by omega)) (o2 241 (by omega) (by omega)), h.2.2.2.2.1.congr (ag _ (fun _ => rfl) rfl (fun b j b1 b2 => ?_) (fun _ => rfl) (fun _ => rfl) (fun _ => rfl) p4' rfl rfl rfl), h.2.2.2.2.2.congr (ag _ (fun _ => rfl) rfl (fun b j b1 b2 => ?_) (fun _ => rfl) (fun _ => rfl) (fun _ => rfl) i4' rfl rfl rfl) (o2 _ (by omega) (by omega)) (o2 _ (by omega) (by omega)) (o2 _ (by omega) (by omega))⟩
  · rw [v1, mI_s]; rfl
  · rw [o 2 (by omega) (by omega) (by omega) (by omega) (by omega) (by omega), o 235 (by omega) (by omega) (by omega) (by omega) (by omega) (by omega)]; exact h.1.2.1 i hi
  · rw [v1, mI_n (by omega), ft.1, fm.1]
  · unfold relK; split <;> first | omega | rfl
  · unfold relW; split <;> first | omega | rfl | (simp; omega)
  · unfold relP; split <;> first | omega | rfl | (simp; omega)
  · unfold relI; split <;> first | omega | rfl | (simp; omega)
theorem lifeP_of {g s : Nat → Int32} {L : Nat} {l : Nat → Nat → Int32} (hv : ∀ c, c ≤ 8 → V.1 (L + c) = l c) (h : LifeP g s l) : LifeP g s (fun c => V.1 (L + c)) := by
  unfold LifeP LifeQ
  dsimp only
  rw [hv 0 (by omega), hv 1 (by omega), hv 2 (by omega), hv 3 (by omega), hv 4 (by omega), hv 5 (by omega), hv 6 (by omega), hv 7 (by omega), hv 8 (by omega)]
  exact h
theorem p_log {p1 : Int32} (hd : 10 ≤ d) (h : Rl u) : PairI X d 168 305 [.int p1] u := by
  intro K hK
  obtain ⟨d, rfl, hd1⟩ := dpos hd
  obtain ⟨hg, hc, hok, hr, -⟩ := h.2.2.2.1
  obtain ⟨pn, t, hpn, ht, pp2, pp3, p24, p4⟩ := h.2.2.2.2.1
  obtain ⟨f, n, hn, e1, e2, hb, hbm⟩ := h.1.f
  obtain ⟨nl, hN, hNN⟩ := names_ex hg hc rfl
  have hA := hg.1.2.2.2.2.2.1
  have hQ := hg.1.2.1
  have hW := hg.1.2.2.2.2.2.2.2
  have hst := Stt.rf hok
  have main : ∀ lv, lv ≤ 1 → CV X d 62 [.ref 149] u (fun u1 => (((mI u1 1 1 (0 : Int32)).1 1 2) = 0 → CV X d 42 [.ref 35, .ref 20] (mI u1 1 1 (0 : Int32)) (fun u2 => (¬ nI lv = 0 → CI X d 65 [.ref 149, .ref 20] u2 (fun w3 u3 => ((u3.1 149 9) ≤ 0 → CI X (d + 1) 305 [.ref 234, .int (nI lv)] u3 (fun w2 u2 => K w3 w2 u2)) ∧ (¬ (u3.1 149 9) ≤ 0 → CV X d 70 [.ref 44, .ref 35] u3 (fun u4 => CI X (d + 1) 305 [.ref 234, .int (nI lv)] u4 (fun w2 u2 => K w3 w2 u2))))) ∧ (nI lv = 0 → CI X d 65 [.ref 149, .ref 35] u2 (fun w5 u5 => CI X (d + 1) 305 [.ref 234, .int (nI lv)] u5 (fun w2 u2 => K w5 w2 u2))))) ∧ (¬ ((mI u1 1 1 (0 : Int32)).1 1 2) = 0 → CI X (d + 1) 305 [.ref 234, .int (nI lv)] (mI u1 1 1 (0 : Int32)) (fun w2 u2 => K ((-2 : Int32) - ((mI u1 1 1 (0 : Int32)).1 1 3)) w2 u2))) := by
    intro lv hlv
    refine c_readLog (by omega) hn hb h.2.1 e1 hN (by omega) (fun e he V v1 v2 => ⟨fun z => ?_, fun _ => ?_⟩) (fun ls he V v1 v2 v3 => ⟨fun _ => ?_, fun z => ?_⟩)
    · rw [mI_n (by omega)] at z
      exact absurd z v2.ne
    · rw [mI_n (by omega), v2.2.1]
      have o : ∀ b, b ≠ 1 → b < 149 ∨ 153 < b → (mI V 1 1 (0 : Int32)).1 b = u.1 b := fun b x1 x2 => by rw [mI_r x1]; exact v1.1 b x1 x2
      refine c_mlog (f := f) (n := n) (g := u.1 236) (nl := nl) (pn := pn) (by omega) hn (hbm.cg (o 235 (by omega) (by omega))) (by rw [o 234 (by omega) (by omega)]; exact e2) (o 236 (by omega) (by omega)) hg hst (hNN.cg (o 236 (by omega) (by omega)) (v1.2.1 241 (by omega))) hlv (by rw [o 234 (by omega) (by omega)]; exact p24) hpn (fun e' he' V2 a1 a2 a3 a4 a5 a6 a7 a8 => ?_) (fun ls he' => by rw [he] at he'; cases he')
      rw [he] at he'
      cases he'
      exact hK _ _ (fault_log h v1 v2 a1 a2 (by rw [a3, o 239 (by omega) (by omega)]) (by rw [a4, o 259 (by omega) (by omega)]) (by rw [a5, o 234 (by omega) (by omega)]) (by rw [a6, o 234 (by omega) (by omega)]) a7 a8)
    · generalize hU0 : mI V 1 1 (0 : Int32) = U0
      have o : ∀ b, b ≠ 1 → b < 149 ∨ 153 < b → U0.1 b = u.1 b := fun b x1 x2 => by rw [← hU0, mI_r x1]; exact v1.1 b x1 x2
      have oL : ∀ b, b ≠ 1 → U0.2 b = u.2 b := fun b x1 => by rw [← hU0]; exact v1.2.1 b x1
      have u11 : U0.1 1 1 = 0 := by rw [← hU0, mI_s]
      have u12 : U0.1 1 2 = 0 := by rw [← hU0, mI_n (by omega)]; exact v2
      have uL : LgC U0 ls := by
        refine ⟨by rw [← hU0, mI_r (by omega)]; exact v3.1, fun i hi => (v3.2 i hi).cg fun b _ _ => by rw [← hU0, mI_r (by omega)]⟩
      have hcU : CityR U0 5 (u.1 236) (u.2 241) := hc.congr (by rw [o 5 (by omega) (by omega)]) (by rw [o 5 (by omega) (by omega)]) (fun k a b => o _ (by omega) (by omega)) (oL 6 (by omega))
      have hrU : LifeR U0 20 (u.1 236) (u.1 236) := hr.congr (fun j a b => by rw [o 20 (by omega) (by omega)]) (fun k a b => o _ (by omega) (by omega))
      have hol : (∀ c ∈ ls, llOk (nQ (u.1 236)) (nK (u.1 236)) (nA (u.1 236)) c) ∧ ls.length ≤ 40 := by
        obtain ⟨k0, -⟩ := tk0 (f := f) (n := n) (m := 400) hn (by omega)
        obtain ⟨y1, y2⟩ := lgAll_ok hn (by omega) (by omega) (by have := hg.1.2.2.2.1; omega) (by omega) 41 [] _ ls rfl (by simp) k0 he
        exact ⟨fun c hc => (y1 c hc).resolve_left (by simp), y2⟩
      obtain ⟨z1, z2, z3, z4, z5⟩ := lvAll_ok hg ls 0 _ hst hol.1
      have e35 : U0 = lm U0 35 (fun c => U0.1 (35 + c)) := (lm_eta U0 35).symm
      suffices hz : CV X d 42 [.ref 35, .ref 20] (lm U0 35 (fun c => U0.1 (35 + c))) (fun u2 => (¬ nI lv = 0 → CI X d 65 [.ref 149, .ref 20] u2 (fun w3 u3 => ((u3.1 149 9) ≤ 0 → CI X (d + 1) 305 [.ref 234, .int (nI lv)] u3 (fun w2 u2 => K w3 w2 u2)) ∧ (¬ (u3.1 149 9) ≤ 0 → CV X d 70 [.ref 44, .ref 35] u3 (fun u4 => CI X (d + 1) 305 [.ref 234, .int (nI lv)] u4 (fun w2 u2 => K w3 w2 u2))))) ∧ (nI lv = 0 → CI X d 65 [.ref 149, .ref 35] u2 (fun w5 u5 => CI X (d + 1) 305 [.ref 234, .int (nI lv)] u5 (fun w2 u2 => K w5 w2 u2)))) by rwa [← e35] at hz
      refine c_lcopy35_20 (by omega) fun l35 hs35 => ?_
      have q35 : LifeP (u.1 236) (u.1 236) l35 := hs35.P hA hQ hW hrU
      generalize hlv' : lvAll (u.1 236) ls 0 (u.1 236) = R at z1 z2 z3 z4 z5
      obtain ⟨w, k, s'⟩ := R
      dsimp only at z1 z2 z3 z4 z5
      have call : ∀ (W : Mm), (∀ b, b ≠ 1 → ¬ (20 ≤ b ∧ b ≤ 28) → ¬ (35 ≤ b ∧ b ≤ 44) → ¬ (46 ≤ b ∧ b ≤ 117) → ¬ (149 ≤ b ∧ b ≤ 153) → W.1 b = u.1 b) → W.2 = U0.2 → W.1 1 = U0.1 1 → W.1 149 7 = 1 → W.1 149 8 = w → W.1 149 9 = nI k → W.1 149 10 = s' 198 → W.1 149 11 = s' 201 →
          (∀ V2, FrO W V2 → Rl (bas u V2) → (lv = 1 ∧ 0 < k → V2.1 236 = s' ∧ V2.1 239 = snF (u.1 239) (u.1 236) pn ∧ V2.1 234 24 = nI (mn8 pn)) → (¬ (lv = 1 ∧ 0 < k) → V2.1 236 = u.1 236 ∧ V2.1 239 = u.1 239 ∧ V2.1 234 24 = u.1 234 24) → Rl V2) → CI X (d + 1) 305 [.ref 234, .int (nI lv)] W (fun w2 u2 => K (if w = 0 then -1 else nI k) w2 u2) := by
        intro W w1 w2 w3 x7 x8 x9 x10 x11 hfin
        refine c_mlog (f := f) (n := n) (g := u.1 236) (nl := nl) (pn := pn) (by omega) hn (hbm.cg (w1 235 (by omega) (by omega) (by omega) (by omega) (by omega))) (by rw [w1 234 (by omega) (by omega) (by omega) (by omega) (by omega)]; exact e2) (w1 236 (by omega) (by omega) (by omega) (by omega) (by omega)) hg hst (hNN.cg (w1 236 (by omega) (by omega) (by omega) (by omega) (by omega)) (by rw [w2]; exact oL 241 (by omega))) hlv (by rw [w1 234 (by omega) (by omega) (by omega) (by omega) (by omega)]; exact p24) hpn (fun e' he' => by rw [he] at he'; cases he') (fun ls' he' _ _ V2 a1 a2 a3 a4 a5 a6 => ?_)
        rw [he] at he'
        cases he'
        rw [hlv'] at a4 a5 a6 ⊢
        dsimp only at a4 a5 a6 ⊢
        refine hK _ _ (hfin V2 a1 ?_ (fun q => ?_) (fun q => ?_))
        · exact fin_log h ⟨w1, fun b hb => by rw [w2]; exact oL b hb⟩ (by rw [w3]; exact u11) (by rw [w3]; exact u12) x7 x8 x9 x10 x11 a1 a2 a3 a4
        · have := a5 q
          rw [w1 239 (by omega) (by omega) (by omega) (by omega) (by omega)] at this
          exact this
        · have := a6 q
          rw [w1 239 (by omega) (by omega) (by omega) (by omega) (by omega), w1 234 (by omega) (by omega) (by omega) (by omega) (by omega)] at this
          exact this
      have fnc : ∀ (W : Mm) (b : Nat), b ≠ 149 → (fnC W w k s').1 b = W.1 b := fun W b hb => by unfold fnC; rw [mI_r hb, mI_r hb, mI_r hb, mI_r hb, mI_r hb]
      have fn9 : ∀ (W : Mm), (fnC W w k s').1 149 7 = 1 ∧ (fnC W w k s').1 149 8 = w ∧ (fnC W w k s').1 149 9 = nI k ∧ (fnC W w k s').1 149 10 = s' 198 ∧ (fnC W w k s').1 149 11 = s' 201 := fun W => by
        unfold fnC
        refine ⟨?_, ?_, ?_, ?_, ?_⟩ <;> simp (disch := omega) only [mI_n, mI_s]
      refine ⟨fun z => ?_, fun z => ?_⟩
      · have hl1 : lv = 1 := by
          by_cases e : lv = 0
          · exact absurd (by rw [e]; rfl) z
          · omega
        have e20 : lm U0 35 l35 = lm (lm U0 35 l35) 20 (fun c => U0.1 (20 + c)) := by
          refine (lm_eta _ 20).symm.trans ?_
          refine mm_ext (fun b k => ?_) rfl
          simp only [lm_at]
          by_cases e : 20 ≤ b ∧ b ≤ 28
          · rw [if_pos e, if_pos e, if_neg (by omega)]
          · rw [if_neg e, if_neg e]
        rw [e20]
        refine c_liveAll20 (u := lm U0 35 l35) (g := u.1 236) (s := u.1 236) (nm := u.2 241) (ls := ls) (by omega) hg (hcU.congr (by rw [lm_o (by omega)]) (by rw [lm_o (by omega)]) (fun k a b => lm_o (by omega)) rfl) hol.2 ⟨by rw [lm_o (by omega)]; exact uL.1, fun i hi => (uL.2 i hi).cg fun b _ _ => by rw [lm_o (by omega)]⟩ hol.1 hst rfl hrU fun l20 hl20 => ?_
        rw [hlv'] at hl20 ⊢
        dsimp only at hl20 ⊢
        rw [show (lm (fnC (lm U0 35 l35) w k s') 20 l20).1 149 9 = nI k by rw [lm_o (by omega)]; exact (fn9 _).2.2.1]
        refine ⟨fun zk => ?_, fun zk => ?_⟩
        · have hk0 : k = 0 := by have := (nI_leI (a := k) (b := 0) (by omega) (by omega)).mp zk; omega
          obtain ⟨y7, y8, y9, y10, y11⟩ := fn9 (lm U0 35 l35)
          refine call _ (fun b b1 b2 b3 b4 b5 => ?_) rfl ?_ ?_ ?_ ?_ ?_ ?_ (fun V2 a1 a2 a3 a4 => ?_)
          · rw [lm_o (by omega), fnc _ b (by omega), lm_o (by omega)]; exact o b b1 (by omega)
          · rw [lm_o (by omega), fnc _ 1 (by omega), lm_o (by omega)]
          · rw [lm_o (by omega)]; exact y7
          · rw [lm_o (by omega)]; exact y8
          · rw [lm_o (by omega)]; exact y9
          · rw [lm_o (by omega)]; exact y10
          · rw [lm_o (by omega)]; exact y11
          · obtain ⟨c1, c2, c3⟩ := a4 (by omega)
            have hV : V2 = lm (lm (bas u V2) 35 (fun c => V2.1 (35 + c))) 20 (fun c => V2.1 (20 + c)) := by
              refine mm_ext (fun b j => ?_) rfl
              rw [lm_at, lm_at, bas_at]
              by_cases q1 : 20 ≤ b ∧ b ≤ 20 + 8
              · rw [if_pos q1, show 20 + (b - 20) = b by omega]
              · rw [if_neg q1]
                by_cases q2 : 35 ≤ b ∧ b ≤ 35 + 8
                · rw [if_pos q2, show 35 + (b - 35) = b by omega]
                · rw [if_neg q2]
                  split
                  · rename_i q3
                    rcases q3 with q3 | q3 | q3 | q3 | q3 | q3
                    · omega
                    · rw [show b = 44 by omega, a1.1 44 (by omega) (by omega) (by omega) (by omega) (by omega) (by omega) (by omega), lm_o (by omega), fnc _ 44 (by omega), lm_o (by omega), o 44 (by omega) (by omega)]
                    · rw [a1.1 b (by omega) (by omega) (by omega) (by omega) (by omega) (by omega) (by omega), lm_o (by omega), fnc _ b (by omega), lm_o (by omega), o b (by omega) (by omega)]
                    · rw [q3, c1]
                    · rw [q3, c2]
                    · rw [q3.1, q3.2, c3]
                  · rfl
            rw [hV]
            refine Rl_life (Rl_spare a2) ?_
            rw [lm_o (by omega), bas_s (by omega)]
            rw [z5 hk0] at hl20
            refine lifeP_of (fun c hc => ?_) hl20
            rw [a1.1 _ (by omega) (by omega) (by omega) (by omega) (by omega) (by omega) (by omega), lm_in (by omega) (by omega), show 20 + c - 20 = c by omega]
        · have hk0 : 0 < k := by
            apply Nat.lt_of_not_le
            intro q
            exact zk (nI_le (a := k) (b := 0) q (by omega))
          obtain ⟨y7, y8, y9, y10, y11⟩ := fn9 (lm U0 35 l35)
          refine c_keep (by omega) ht (by rw [lm_o (by omega), fnc _ 44 (by omega), lm_o (by omega), o 44 (by omega) (by omega)]; exact pp3) (by rw [lm_o (by omega), fnc _ 44 (by omega), lm_o (by omega), o 44 (by omega) (by omega)]; exact pp2) hpn fun lt hlt => ?_
          have qlt : LifeP (u.1 236) (u.1 236) lt := by
            refine hlt.P hA hQ hW (s := u.1 236) (g := u.1 236) ?_
            refine LifeR_P.mpr (lifeP_of (l := l35) (fun c hc => ?_) q35)
            rw [lm_o (by omega), fnc _ _ (by omega), lm_in (by omega) (by omega), show 35 + c - 35 = c by omega]
          refine call _ (fun b b1 b2 b3 b4 b5 => ?_) rfl ?_ ?_ ?_ ?_ ?_ ?_ (fun V2 a1 a2 a3 a4 => ?_)
          · rw [mI_r (by omega), mI_r (by omega), lm_o (by omega), lm_o (by omega), fnc _ b (by omega), lm_o (by omega)]; exact o b b1 (by omega)
          · rw [mI_r (by omega), mI_r (by omega), lm_o (by omega), lm_o (by omega), fnc _ 1 (by omega), lm_o (by omega)]
          · rw [mI_r (by omega), mI_r (by omega), lm_o (by omega), lm_o (by omega)]; exact y7
          · rw [mI_r (by omega), mI_r (by omega), lm_o (by omega), lm_o (by omega)]; exact y8
          · rw [mI_r (by omega), mI_r (by omega), lm_o (by omega), lm_o (by omega)]; exact y9
          · rw [mI_r (by omega), mI_r (by omega), lm_o (by omega), lm_o (by omega)]; exact y10
          · rw [mI_r (by omega), mI_r (by omega), lm_o (by omega), lm_o (by omega)]; exact y11
          · obtain ⟨c1, c2, c3⟩ := a3 ⟨hl1, hk0⟩
            have b6 : (bas u V2).1 236 = u.1 236 := bas_s (by omega)
            have b9 : (bas u V2).1 239 = u.1 239 := bas_s (by omega)
            have hs' : LifeOk (u.1 236) s' := z1.2
            refine fin_act (u := bas u V2) (s := s') (l20 := l20) (lt := lt) a2 hpn ht (fun i hi => ?_) ⟨rfl, fun b q1 q2 q3 q4 q5 q6 q7 q8 => ?_, fun j j1 j2 j3 j4 => (bas_4 j2).symm⟩ (fun c hc => ?_) (fun c hc => ?_) ?_ ?_ c3 c1 ?_ (by rw [b6]; exact z2) (by rw [b6]; exact hs') (by rw [b6]; exact hl20) (by rw [b6]; exact qlt)
            · rw [b6, b9]
              obtain ⟨x1, x2⟩ := p4 i hi
              have hb : (t + 8 - pn + i) % 8 < 8 := Nat.mod_lt _ (by omega)
              exact ⟨x1, x2.congr (fun j _ _ => by rw [bas_s (by omega)]) (fun k _ hk => bas_s (by omega))⟩
            · by_cases q : 46 ≤ b ∧ b ≤ 117
              · rw [bas_s (by omega), a1.1 b (by omega) (by omega) (by omega) (by omega) (by omega) (by omega) (by omega), mI_r (by omega), mI_r (by omega), lm_o (by omega), lm_o (by omega), fnc _ b (by omega), lm_o (by omega), o b (by omega) (by omega)]
              · exact (bas_n (by omega) q4).symm
            · rw [a1.1 _ (by omega) (by omega) (by omega) (by omega) (by omega) (by omega) (by omega), mI_r (by omega), mI_r (by omega), lm_o (by omega), lm_in (by omega) (by omega), show 20 + c - 20 = c by omega]
            · rw [a1.1 _ (by omega) (by omega) (by omega) (by omega) (by omega) (by omega) (by omega), mI_r (by omega), mI_r (by omega), lm_in (by omega) (by omega), show 46 + 9 * t + c - (46 + 9 * t) = c by omega]
            · rw [a1.1 44 (by omega) (by omega) (by omega) (by omega) (by omega) (by omega) (by omega), mI_s]
            · rw [a1.1 44 (by omega) (by omega) (by omega) (by omega) (by omega) (by omega) (by omega), mI_n (by omega), mI_s]
            · rw [b9, b6]; exact c2
      · have hl0 : lv = 0 := (nI_eq (a := lv) (b := 0) (by omega) (by omega)).mp z
        refine c_liveAll35 (u := U0) (g := u.1 236) (s := u.1 236) (nm := u.2 241) (ls := ls) (by omega) hg hcU hol.2 uL hol.1 hst rfl q35 fun l' hl' => ?_
        rw [hlv'] at hl' ⊢
        dsimp only at hl' ⊢
        obtain ⟨y7, y8, y9, y10, y11⟩ := fn9 U0
        refine call _ (fun b b1 b2 b3 b4 b5 => ?_) rfl ?_ ?_ ?_ ?_ ?_ ?_ (fun V2 a1 a2 a3 a4 => ?_)
        · rw [lm_o (by omega), fnc _ b (by omega)]; exact o b b1 (by omega)
        · rw [lm_o (by omega), fnc _ 1 (by omega)]
        · rw [lm_o (by omega)]; exact y7
        · rw [lm_o (by omega)]; exact y8
        · rw [lm_o (by omega)]; exact y9
        · rw [lm_o (by omega)]; exact y10
        · rw [lm_o (by omega)]; exact y11
        · obtain ⟨c1, c2, c3⟩ := a4 (by omega)
          have hV : V2 = lm (bas u V2) 35 (fun c => V2.1 (35 + c)) := by
            refine mm_ext (fun b j => ?_) rfl
            rw [lm_at, bas_at]
            by_cases q2 : 35 ≤ b ∧ b ≤ 35 + 8
            · rw [if_pos q2, show 35 + (b - 35) = b by omega]
            · rw [if_neg q2]
              split
              · rename_i q3
                rcases q3 with q3 | q3 | q3 | q3 | q3 | q3
                · rw [a1.1 b (by omega) (by omega) (by omega) (by omega) (by omega) (by omega) (by omega), lm_o (by omega), fnc _ b (by omega), o b (by omega) (by omega)]
                · rw [show b = 44 by omega, a1.1 44 (by omega) (by omega) (by omega) (by omega) (by omega) (by omega) (by omega), lm_o (by omega), fnc _ 44 (by omega), o 44 (by omega) (by omega)]
                · rw [a1.1 b (by omega) (by omega) (by omega) (by omega) (by omega) (by omega) (by omega), lm_o (by omega), fnc _ b (by omega), o b (by omega) (by omega)]
                · rw [q3, c1]
                · rw [q3, c2]
                · rw [q3.1, q3.2, c3]
              · rfl
          rw [hV]
          exact Rl_spare a2
    · rw [mI_n (by omega)] at z
      exact absurd v2 z
  refine CI_of mk_X12_log.2.2 rfl (B_S_log_0 ⟨fun z => ?_, fun z => ⟨fun z2 => ?_, fun z2 => ?_⟩⟩)
  · subst z
    exact main 0 (by omega)
  · subst z2
    exact main 1 (by omega)
  · refine CI_of mk_X13_log.2.2 rfl (B_M_log_0 (c_misIn (by omega) (fun y1 y2 => ?_) (fun _ => ⟨fun y => absurd rfl y, fun _ => hK _ _ h.th⟩)))
    exfalso
    obtain ⟨j, hj, rfl⟩ := nI_of2 (M := 1) (n := 1) rfl y1 (Int32.not_lt.mp y2)
    rcases (show j = 0 ∨ j = 1 by omega) with rfl | rfl
    · exact z rfl
    · exact z2 rfl
end PLog2
