theorem byt_in (p s : Int32) : ∃ b, b < 256 ∧ byt p s = nI b := pk_andE _ 8 (by decide)
theorem wr4_R {f g : Nat → Int32} {n i : Nat} (p : Int32) (h : f i = g i ∧ ∃ b, b < 256 ∧ g i = nI b) : wr4 f n p i = wr4 g n p i ∧ ∃ b, b < 256 ∧ wr4 g n p i = nI b := by
  simp only [wr4, upd]
  by_cases e0 : i = n + 3
  · simp only [e0, if_true]; exact ⟨trivial, byt_in _ _⟩
  · by_cases e1 : i = n + 2
    · simp only [e1, if_true, if_neg (show ¬ n + 2 = n + 3 by omega)]; exact ⟨trivial, byt_in _ _⟩
    · by_cases e2 : i = n + 1
      · simp only [e2, if_true, if_neg (show ¬ n + 1 = n + 3 by omega), if_neg (show ¬ n + 1 = n + 2 by omega)]; exact ⟨trivial, byt_in _ _⟩
      · by_cases e3 : i = n
        · simp only [e3, if_true, if_neg (show ¬ n = n + 3 by omega), if_neg (show ¬ n = n + 2 by omega), if_neg (show ¬ n = n + 1 by omega)]; exact ⟨trivial, byt_in _ _⟩
        · simp only [if_neg e0, if_neg e1, if_neg e2, if_neg e3]; exact h
theorem p_feed {X : Xc} {d : Nat} {u : Mm} {p1 p2 p3 p4 p5 : Int32} (hd : 2 ≤ d) (h : Rl u) : PairI X d 124 184 [.int p1, .int p2, .int p3, .int p4, .int p5] u := by
  intro K hK
  obtain ⟨d, rfl, hd1⟩ := dpos hd
  obtain ⟨n, hn, e1, e2⟩ := h.1.1
  refine CI_of mk_X12_feed.2.2 rfl (B_S_feed_0 ?_)
  rw [e1, show nI n + (20 : Int32) = nI (n + 20) from nI_add n 20]
  refine ⟨fun q => ?_, fun q => ?_⟩
  · have hq : n + 20 ≤ 940 := (nI_leI (b := 940) (by omega) (by omega)).mp q
    refine c_put hd1 e1 (by omega) fun v1 a1 b1 c1 l1 => ?_
    refine c_put hd1 a1 (by omega) fun v2 a2 b2 c2 l2 => ?_
    refine c_put hd1 a2 (by omega) fun v3 a3 b3 c3 l3 => ?_
    refine c_put hd1 a3 (by omega) fun v4 a4 b4 c4 l4 => ?_
    refine c_put hd1 a4 (by omega) fun v5 a5 b5 c5 l5 => ?_
    rw [a5]
    have cc : ∀ a j, a ≠ 2 → ¬ (a = 1 ∧ j = 1) → v5.1 a j = u.1 a j := fun a j x y => (c5 a j x y).trans ((c4 a j x y).trans ((c3 a j x y).trans ((c2 a j x y).trans (c1 a j x y))))
    have ll : v5.2 = u.2 := l5.trans (l4.trans (l3.trans (l2.trans l1)))
    refine CI_of mk_X13_feed.2.2 rfl (B_M_feed_0 ?_)
    have m2 : (mI v5 234 0 0).1 234 2 = nI n := (cc 234 2 (by decide) (by decide)).trans e2
    rw [m2, show nI n + (20 : Int32) = nI (n + 20) from nI_add n 20]
    refine ⟨fun _ => ?_, fun z => absurd q z⟩
    refine c_come hd1 m2 (by omega) fun x1 f1 g1 k1 y1 => ?_
    refine c_come hd1 f1 (by omega) fun x2 f2 g2 k2 y2 => ?_
    refine c_come hd1 f2 (by omega) fun x3 f3 g3 k3 y3 => ?_
    refine c_come hd1 f3 (by omega) fun x4 f4 g4 k4 y4 => ?_
    refine c_come hd1 f4 (by omega) fun x5 f5 g5 k5 y5 => ?_
    rw [f5]
    have kk : ∀ a j, a ≠ 235 → ¬ (a = 234 ∧ j = 2) → x5.1 a j = (mI v5 234 0 0).1 a j := fun a j x y => (k5 a j x y).trans ((k4 a j x y).trans ((k3 a j x y).trans ((k2 a j x y).trans (k1 a j x y))))
    have yy : x5.2 = u.2 := (y5.trans (y4.trans (y3.trans (y2.trans y1)))).trans ll
    have E2 : x5.1 2 = wr4 (wr4 (wr4 (wr4 (wr4 (u.1 2) n p1) (n + 4) p2) (n + 4 + 4) p3) (n + 4 + 4 + 4) p4) (n + 4 + 4 + 4 + 4) p5 := by
      rw [← b1, ← b2, ← b3, ← b4, ← b5]
      funext j
      exact kk 2 j (by decide) (fun q => absurd q.1 (by decide))
    have E235 : x5.1 235 = wr4 (wr4 (wr4 (wr4 (wr4 (u.1 235) n p1) (n + 4) p2) (n + 4 + 4) p3) (n + 4 + 4 + 4) p4) (n + 4 + 4 + 4 + 4) p5 := by
      have : (mI v5 234 0 0).1 235 = u.1 235 := funext fun j => cc 235 j (by decide) (fun q => absurd q.1 (by decide))
      rw [g5, g4, g3, g2, g1, this]
    have ag : ∀ rel : Nat → Nat → Bool, (∀ j, rel 2 j = false) → (∀ j, rel 235 j = false) → rel 1 1 = false → rel 234 2 = false → rel 234 0 = false → AG rel u x5 := by
      intro rel r1 r2 r3 r4 r5 a j ha
      have n1 : a ≠ 235 := by rintro rfl; rw [r2] at ha; cases ha
      have n2 : ¬ (a = 234 ∧ j = 2) := by rintro ⟨rfl, rfl⟩; rw [r4] at ha; cases ha
      have n3 : a ≠ 2 := by rintro rfl; rw [r1] at ha; cases ha
      have n4 : ¬ (a = 1 ∧ j = 1) := by rintro ⟨rfl, rfl⟩; rw [r3] at ha; cases ha
      have n5 : ¬ (a = 234 ∧ j = 0) := by rintro ⟨rfl, rfl⟩; rw [r5] at ha; cases ha
      rw [kk a j n1 n2, mI_at, if_neg n5, cc a j n3 n4]
    refine hK _ _ (h.tape ⟨⟨n + 20, hq, ?_, f5⟩, fun i hi => ?_, ?_⟩ (ag _ (fun _ => rfl) (fun _ => rfl) rfl rfl rfl) (ag _ (fun _ => rfl) (fun _ => rfl) rfl rfl rfl) (ag _ (fun _ => rfl) (fun _ => rfl) rfl rfl rfl) (ag _ (fun _ => rfl) (fun _ => rfl) rfl rfl rfl) yy)
    · exact (kk 1 1 (by decide) (by decide)).trans a5
    · rw [E2, E235]
      exact wr4_R p5 (wr4_R p4 (wr4_R p3 (wr4_R p2 (wr4_R p1 (h.1.2.1 i hi)))))
    · rw [kk 1 2 (by decide) (by decide), kk 234 10 (by decide) (by decide)]
      show v5.1 1 2 = v5.1 234 10
      rw [cc 1 2 (by decide) (by decide), cc 234 10 (by decide) (by decide)]
      exact h.1.2.2
  · refine CI_of mk_X13_feed.2.2 rfl (B_M_feed_0 ?_)
    rw [show (mI u 234 0 0).1 234 2 = nI n from e2, show nI n + (20 : Int32) = nI (n + 20) from nI_add n 20]
    exact ⟨fun z => absurd z q, fun _ => hK _ _ h.th⟩
