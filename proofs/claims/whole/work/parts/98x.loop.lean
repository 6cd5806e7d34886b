/-! the law's loop -/
theorem dTS : decode cL_law 40 = .ok (.tableswitch 1697 0 45 #[200, 273, 298, 311, 324, 361, 429, 497, 534, 583, 608, 645, 670, 707, 756, 793, 806, 898, 911, 979, 1035, 1060, 1097, 1122, 1159, 1184, 1209, 1234, 1259, 1272, 1285, 1310, 1323, 1372, 1409, 1422, 1435, 1484, 1509, 1534, 1559, 1584, 1597, 1622, 1647, 1672], 200) := by decide +kernel
theorem sub_lt {L i : Nat} (hL : L ≤ 3072) (hi : i ≤ 513) : (nI L - 6 < nI (6 * i)) ↔ L < 6 * i + 6 := by
  rw [Int32.lt_iff_toInt_lt, show (6 : Int32) = nI 6 from rfl, pk_sub_toInt (by omega) (by decide), show (nI (6 * i)).toInt = ((6 * i : Nat) : Int) from Int32.toInt_ofNat_of_lt (by omega)]
  omega
set_option maxRecDepth 100000 in
theorem L_sw {X : Xc} {p : Program} {e : Env} {R : Room} {s : State} {m : MethodId} {args : Array Value} {below : List Frame} {meth : Method} {c : Code} {L i cells slots : Nat} {xs : Nat → Int32} {Z : State → Prop} {u : Mm} (g : LG X p R s m args c L i cells slots xs) (h : Rl u) (hN : ∀ u', Rl u' → Vx X p e R s m args below meth c 7 (cells + 1) (slots + 6) Z 1737 (lvL i) [] u') {v : Int32} : Vx X p e R s m args below meth c 7 cells slots Z 40 (lvL i) [.int (v &&& 63)] u := by
  obtain ⟨j, hj, ej⟩ := pk_andE v (m := 63) 6 (by decide)
  rw [ej]
  have G := g.1
  rcases (show j = 0 ∨ j = 1 ∨ j = 2 ∨ j = 3 ∨ j = 4 ∨ j = 5 ∨ j = 6 ∨ j = 7 ∨ j = 8 ∨ j = 9 ∨ j = 10 ∨ j = 11 ∨ j = 12 ∨ j = 13 ∨ j = 14 ∨ j = 15 ∨ j = 16 ∨ j = 17 ∨ j = 18 ∨ j = 19 ∨ j = 20 ∨ j = 21 ∨ j = 22 ∨ j = 23 ∨ j = 24 ∨ j = 25 ∨ j = 26 ∨ j = 27 ∨ j = 28 ∨ j = 29 ∨ j = 30 ∨ j = 31 ∨ j = 32 ∨ j = 33 ∨ j = 34 ∨ j = 35 ∨ j = 36 ∨ j = 37 ∨ j = 38 ∨ j = 39 ∨ j = 40 ∨ j = 41 ∨ j = 42 ∨ j = 43 ∨ j = 44 ∨ j = 45 ∨ 45 < j by omega) with rfl | rfl | rfl | rfl | rfl | rfl | rfl | rfl | rfl | rfl | rfl | rfl | rfl | rfl | rfl | rfl | rfl | rfl | rfl | rfl | rfl | rfl | rfl | rfl | rfl | rfl | rfl | rfl | rfl | rfl | rfl | rfl | rfl | rfl | rfl | rfl | rfl | rfl | rfl | rfl | rfl | rfl | rfl | rfl | rfl | rfl | hj
  · intro H locs ls hP hS hl
    exact lv_tableIn (tgt := 240) (off := 200) G.1 G.2.1 dTS (by decide) (by decide) (by decide) (by decide) (L_0 g h hN H locs ls hP hS hl)
  · intro H locs ls hP hS hl
    exact lv_tableIn (tgt := 313) (off := 273) G.1 G.2.1 dTS (by decide) (by decide) (by decide) (by decide) (L_1 g h hN H locs ls hP hS hl)
  · intro H locs ls hP hS hl
    exact lv_tableIn (tgt := 338) (off := 298) G.1 G.2.1 dTS (by decide) (by decide) (by decide) (by decide) (L_2 g h hN H locs ls hP hS hl)
  · intro H locs ls hP hS hl
    exact lv_tableIn (tgt := 351) (off := 311) G.1 G.2.1 dTS (by decide) (by decide) (by decide) (by decide) (L_3 g h hN H locs ls hP hS hl)
  · intro H locs ls hP hS hl
    exact lv_tableIn (tgt := 364) (off := 324) G.1 G.2.1 dTS (by decide) (by decide) (by decide) (by decide) (L_4 g h hN H locs ls hP hS hl)
  · intro H locs ls hP hS hl
    exact lv_tableIn (tgt := 401) (off := 361) G.1 G.2.1 dTS (by decide) (by decide) (by decide) (by decide) (L_5 g h hN H locs ls hP hS hl)
  · intro H locs ls hP hS hl
    exact lv_tableIn (tgt := 469) (off := 429) G.1 G.2.1 dTS (by decide) (by decide) (by decide) (by decide) (L_6 g h hN H locs ls hP hS hl)
  · intro H locs ls hP hS hl
    exact lv_tableIn (tgt := 537) (off := 497) G.1 G.2.1 dTS (by decide) (by decide) (by decide) (by decide) (L_7 g h hN H locs ls hP hS hl)
  · intro H locs ls hP hS hl
    exact lv_tableIn (tgt := 574) (off := 534) G.1 G.2.1 dTS (by decide) (by decide) (by decide) (by decide) (L_8 g h hN H locs ls hP hS hl)
  · intro H locs ls hP hS hl
    exact lv_tableIn (tgt := 623) (off := 583) G.1 G.2.1 dTS (by decide) (by decide) (by decide) (by decide) (L_9 g h hN H locs ls hP hS hl)
  · intro H locs ls hP hS hl
    exact lv_tableIn (tgt := 648) (off := 608) G.1 G.2.1 dTS (by decide) (by decide) (by decide) (by decide) (L_10 g h hN H locs ls hP hS hl)
  · intro H locs ls hP hS hl
    exact lv_tableIn (tgt := 685) (off := 645) G.1 G.2.1 dTS (by decide) (by decide) (by decide) (by decide) (L_11 g h hN H locs ls hP hS hl)
  · intro H locs ls hP hS hl
    exact lv_tableIn (tgt := 710) (off := 670) G.1 G.2.1 dTS (by decide) (by decide) (by decide) (by decide) (L_12 g h hN H locs ls hP hS hl)
  · intro H locs ls hP hS hl
    exact lv_tableIn (tgt := 747) (off := 707) G.1 G.2.1 dTS (by decide) (by decide) (by decide) (by decide) (L_13 g h hN H locs ls hP hS hl)
  · intro H locs ls hP hS hl
    exact lv_tableIn (tgt := 796) (off := 756) G.1 G.2.1 dTS (by decide) (by decide) (by decide) (by decide) (L_14 g h hN H locs ls hP hS hl)
  · intro H locs ls hP hS hl
    exact lv_tableIn (tgt := 833) (off := 793) G.1 G.2.1 dTS (by decide) (by decide) (by decide) (by decide) (L_15 g h hN H locs ls hP hS hl)
  · intro H locs ls hP hS hl
    exact lv_tableIn (tgt := 846) (off := 806) G.1 G.2.1 dTS (by decide) (by decide) (by decide) (by decide) (L_16 g h hN H locs ls hP hS hl)
  · intro H locs ls hP hS hl
    exact lv_tableIn (tgt := 938) (off := 898) G.1 G.2.1 dTS (by decide) (by decide) (by decide) (by decide) (L_17 g h hN H locs ls hP hS hl)
  · intro H locs ls hP hS hl
    exact lv_tableIn (tgt := 951) (off := 911) G.1 G.2.1 dTS (by decide) (by decide) (by decide) (by decide) (L_18 g h hN H locs ls hP hS hl)
  · intro H locs ls hP hS hl
    exact lv_tableIn (tgt := 1019) (off := 979) G.1 G.2.1 dTS (by decide) (by decide) (by decide) (by decide) (L_19 g h hN H locs ls hP hS hl)
  · intro H locs ls hP hS hl
    exact lv_tableIn (tgt := 1075) (off := 1035) G.1 G.2.1 dTS (by decide) (by decide) (by decide) (by decide) (L_20 g h hN H locs ls hP hS hl)
  · intro H locs ls hP hS hl
    exact lv_tableIn (tgt := 1100) (off := 1060) G.1 G.2.1 dTS (by decide) (by decide) (by decide) (by decide) (L_21 g h hN H locs ls hP hS hl)
  · intro H locs ls hP hS hl
    exact lv_tableIn (tgt := 1137) (off := 1097) G.1 G.2.1 dTS (by decide) (by decide) (by decide) (by decide) (L_22 g h hN H locs ls hP hS hl)
  · intro H locs ls hP hS hl
    exact lv_tableIn (tgt := 1162) (off := 1122) G.1 G.2.1 dTS (by decide) (by decide) (by decide) (by decide) (L_23 g h hN H locs ls hP hS hl)
  · intro H locs ls hP hS hl
    exact lv_tableIn (tgt := 1199) (off := 1159) G.1 G.2.1 dTS (by decide) (by decide) (by decide) (by decide) (L_24 g h hN H locs ls hP hS hl)
  · intro H locs ls hP hS hl
    exact lv_tableIn (tgt := 1224) (off := 1184) G.1 G.2.1 dTS (by decide) (by decide) (by decide) (by decide) (L_25 g h hN H locs ls hP hS hl)
  · intro H locs ls hP hS hl
    exact lv_tableIn (tgt := 1249) (off := 1209) G.1 G.2.1 dTS (by decide) (by decide) (by decide) (by decide) (L_26 g h hN H locs ls hP hS hl)
  · intro H locs ls hP hS hl
    exact lv_tableIn (tgt := 1274) (off := 1234) G.1 G.2.1 dTS (by decide) (by decide) (by decide) (by decide) (L_27 g h hN H locs ls hP hS hl)
  · intro H locs ls hP hS hl
    exact lv_tableIn (tgt := 1299) (off := 1259) G.1 G.2.1 dTS (by decide) (by decide) (by decide) (by decide) (L_28 g h hN H locs ls hP hS hl)
  · intro H locs ls hP hS hl
    exact lv_tableIn (tgt := 1312) (off := 1272) G.1 G.2.1 dTS (by decide) (by decide) (by decide) (by decide) (L_29 g h hN H locs ls hP hS hl)
  · intro H locs ls hP hS hl
    exact lv_tableIn (tgt := 1325) (off := 1285) G.1 G.2.1 dTS (by decide) (by decide) (by decide) (by decide) (L_30 g h hN H locs ls hP hS hl)
  · intro H locs ls hP hS hl
    exact lv_tableIn (tgt := 1350) (off := 1310) G.1 G.2.1 dTS (by decide) (by decide) (by decide) (by decide) (L_31 g h hN H locs ls hP hS hl)
  · intro H locs ls hP hS hl
    exact lv_tableIn (tgt := 1363) (off := 1323) G.1 G.2.1 dTS (by decide) (by decide) (by decide) (by decide) (L_32 g h hN H locs ls hP hS hl)
  · intro H locs ls hP hS hl
    exact lv_tableIn (tgt := 1412) (off := 1372) G.1 G.2.1 dTS (by decide) (by decide) (by decide) (by decide) (L_33 g h hN H locs ls hP hS hl)
  · intro H locs ls hP hS hl
    exact lv_tableIn (tgt := 1449) (off := 1409) G.1 G.2.1 dTS (by decide) (by decide) (by decide) (by decide) (L_34 g h hN H locs ls hP hS hl)
  · intro H locs ls hP hS hl
    exact lv_tableIn (tgt := 1462) (off := 1422) G.1 G.2.1 dTS (by decide) (by decide) (by decide) (by decide) (L_35 g h hN H locs ls hP hS hl)
  · intro H locs ls hP hS hl
    exact lv_tableIn (tgt := 1475) (off := 1435) G.1 G.2.1 dTS (by decide) (by decide) (by decide) (by decide) (L_36 g h hN H locs ls hP hS hl)
  · intro H locs ls hP hS hl
    exact lv_tableIn (tgt := 1524) (off := 1484) G.1 G.2.1 dTS (by decide) (by decide) (by decide) (by decide) (L_37 g h hN H locs ls hP hS hl)
  · intro H locs ls hP hS hl
    exact lv_tableIn (tgt := 1549) (off := 1509) G.1 G.2.1 dTS (by decide) (by decide) (by decide) (by decide) (L_38 g h hN H locs ls hP hS hl)
  · intro H locs ls hP hS hl
    exact lv_tableIn (tgt := 1574) (off := 1534) G.1 G.2.1 dTS (by decide) (by decide) (by decide) (by decide) (L_39 g h hN H locs ls hP hS hl)
  · intro H locs ls hP hS hl
    exact lv_tableIn (tgt := 1599) (off := 1559) G.1 G.2.1 dTS (by decide) (by decide) (by decide) (by decide) (L_40 g h hN H locs ls hP hS hl)
  · intro H locs ls hP hS hl
    exact lv_tableIn (tgt := 1624) (off := 1584) G.1 G.2.1 dTS (by decide) (by decide) (by decide) (by decide) (L_41 g h hN H locs ls hP hS hl)
  · intro H locs ls hP hS hl
    exact lv_tableIn (tgt := 1637) (off := 1597) G.1 G.2.1 dTS (by decide) (by decide) (by decide) (by decide) (L_42 g h hN H locs ls hP hS hl)
  · intro H locs ls hP hS hl
    exact lv_tableIn (tgt := 1662) (off := 1622) G.1 G.2.1 dTS (by decide) (by decide) (by decide) (by decide) (L_43 g h hN H locs ls hP hS hl)
  · intro H locs ls hP hS hl
    exact lv_tableIn (tgt := 1687) (off := 1647) G.1 G.2.1 dTS (by decide) (by decide) (by decide) (by decide) (L_44 g h hN H locs ls hP hS hl)
  · intro H locs ls hP hS hl
    exact lv_tableIn (tgt := 1712) (off := 1672) G.1 G.2.1 dTS (by decide) (by decide) (by decide) (by decide) (L_45 g h hN H locs ls hP hS hl)
  · intro H locs ls hP hS hl
    refine lv_tableOut (tgt := 1737) G.1 G.2.1 dTS (Or.inr ?_) (by decide) ((Vx_wide (hN u h)) H locs ls hP hS hl)
    rw [show (nI j).toInt = (j : Int) from Int32.toInt_ofNat_of_lt (by omega)]
    omega
theorem L_loop {X : Xc} {p : Program} {e : Env} {R : Room} {s : State} {m : MethodId} {args : Array Value} {below : List Frame} {meth : Method} {c : Code} {L : Nat} {xs : Nat → Int32} {Z : State → Prop} (G : Gx X p s m args c RL cL_law 7 (some (L, xs))) (hX : (xL X).stackTraces = false) (hf : 102 ≤ R.frames) (hlo : 64 * 102 ≤ R.locals) (hL : L ≤ 3072)
    (hE : ∀ i cells slots u, cells ≤ R.cells → slots ≤ R.slots → Rl u → Vx X p e R s m args below meth c 7 cells slots Z 1743 (lvL i) [] u) : ∀ n i cells slots u, i + n = 513 → cells + n ≤ R.cells → slots + 6 * n ≤ R.slots → Rl u → Vx X p e R s m args below meth c 7 cells slots Z 23 (lvL i) [] u := by
  intro n
  induction n with
  | zero =>
    intro i cells slots u hi hc hs h
    refine V_iload (i := 4) G (by decide +kernel) rfl <| V_aload_n (n := 0) (i := 0) (v := 1001) G (by decide +kernel) rfl rfl <| V_slen G (by decide +kernel) <| V_bipush (n := 6) (v := 6) G (by decide +kernel) rfl <| V_isub G (by decide +kernel) <| V_ic_gt (off := 1713) (x := 1743) G (by decide +kernel) (by decide) ⟨fun _ => hE i cells slots u (by omega) (by omega) h, fun z => absurd ((sub_lt hL (by omega)).mpr (by omega)) z⟩
  | succ n ih =>
    intro i cells slots u hi hc hs h
    refine V_iload (i := 4) G (by decide +kernel) rfl <| V_aload_n (n := 0) (i := 0) (v := 1001) G (by decide +kernel) rfl rfl <| V_slen G (by decide +kernel) <| V_bipush (n := 6) (v := 6) G (by decide +kernel) rfl <| V_isub G (by decide +kernel) <| V_ic_gt (off := 1713) (x := 1743) G (by decide +kernel) (by decide) ⟨fun _ => hE i cells slots u (by omega) (by omega) h, fun z => ?_⟩
    have hLi : 6 * i + 6 ≤ L := by
      have := fun y => z ((sub_lt (i := i) hL (by omega)).mpr y)
      exact Nat.le_of_not_lt this
    refine V_aload_n (n := 0) (i := 0) (v := 1001) G (by decide +kernel) rfl rfl <| V_iload (i := 4) G (by decide +kernel) rfl <| V_sald (sc' := (L, xs)) G (by decide +kernel) (vp_in_nI (by show 6 * i < L; omega) (by show L < 2 ^ 31; omega)) <| V_bipush (n := 63) (v := 63) G (by decide +kernel) rfl <| V_iand G (by decide +kernel) <| L_sw ⟨G, hX, hf, hlo, ⟨by omega, by omega⟩, hLi, hL⟩ h (fun u' h' => ?_)
    refine V_iinc (i := 4) (n := 6) (k := 6) G (by decide +kernel) rfl rfl (by decide) rfl <| V_goto (off := -1717) (x := 23) G (by decide +kernel) (by decide) ?_
    have := ih (i + 1) (cells + 1) (slots + 6) u' (by omega) (by omega) (by omega) h'
    rw [show lvL (i + 1) = stt (lvL i) 4 (some (.int (nI (6 * i) + 6))) by
      show lvL (i + 1) = [some (.ref 1001), some (.ref 0), some (.ref 234), some (.ref 261), some (.int (nI (6 * i) + 6)), none, none]
      rw [show nI (6 * i) + 6 = nI (6 * (i + 1)) from nI_add (6 * i) 6]] at this
    exact this
