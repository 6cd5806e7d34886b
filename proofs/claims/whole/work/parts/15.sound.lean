theorem tsw_use {f : Nat → Prop} {pc : Nat} {v : Int32} : ∀ (offs : List Int) (k : Int) (j : Nat) (o : Int), tsw f pc v offs k → offs[j]? = some o → v.toInt = k + (j : Int) → f ((pc : Int) + o).toNat
  | [], _, j, o, _, h, _ => by simp at h
  | q :: r, k, 0, o, h, h1, h2 => by
    simp only [List.getElem?_cons_zero, Option.some.injEq] at h1
    subst h1
    exact h.1 (by rw [show k = v.toInt by omega, Int32.ofInt_toInt])
  | q :: r, k, j + 1, o, h, h1, h2 => tsw_use r (k + 1) j o h.2 (by simpa using h1) (by omega)
theorem lsw_use {f : Nat → Prop} {pc : Nat} {d : Int} {v : Int32} : ∀ (ps : List (Int × Int)), (∀ q ∈ ps, -2147483648 ≤ q.1 ∧ q.1 < 2147483648) → lsw f pc d v ps → f ((pc : Int) + Op.lookupswitch.offset ps d v.toInt).toNat
  | [], _, h => by
    have e : Op.lookupswitch.offset [] d v.toInt = d := rfl
    rw [e]
    exact h
  | q :: r, hb, h => by
    obtain ⟨a, o⟩ := q
    rw [Op.lookupswitch.offset_cons]
    have hq := hb (a, o) List.mem_cons_self
    have e3 : ((Int32.size : Nat) : Int) = 4294967296 := rfl
    have ea : (Int32.ofInt a).toInt = a := by
      rw [Int32.toInt_ofInt]
      exact Int.bmod_eq_of_le (by simp only [] at hq ⊢; omega) (by simp only [] at hq ⊢; omega)
    split
    · rename_i e
      exact h.1 (Int32.toInt_inj.mp (by rw [ea]; exact e.symm))
    · rename_i e
      exact lsw_use r (fun q hq => hb q (List.mem_cons_of_mem _ hq)) (h.2 (fun z => e (by rw [z, ea])))
theorem bcf {b : Bool} {P : Prop} (h : bif b then False else P) : b = false ∧ P := by
  cases b
  · exact ⟨rfl, h⟩
  · exact h.elim
theorem bct {b : Bool} {P : Prop} (h : bif b then P else False) : b = true ∧ P := by
  cases b
  · exact h.elim
  · exact ⟨rfl, h⟩
theorem nlt {a b : Nat} (h : Nat.blt a b = true) : a < b := by simpa using h
theorem nle {a b : Nat} (h : Nat.ble a b = true) : a ≤ b := Nat.le_of_ble_eq_true h
theorem tswIn {pc : Nat} {lo hi : Int} {offs : Array Int} {j : Nat} (h : tswOk pc lo hi offs = true) (hj : j < offs.size) : ∃ o, offs[j]? = some o ∧ ((pc : Int) + o) = (((pc : Int) + o).toNat : Int) := by
  unfold tswOk at h
  simp only [Bool.and_eq_true, decide_eq_true_eq] at h
  refine ⟨offs[j], by simp [hj], ?_⟩
  have h1 := List.all_eq_true.mp h.2 offs[j] (by simp)
  have h2 : 0 ≤ (pc : Int) + offs[j] := by simpa using h1
  omega
section Sound
variable {X : Xc} {p : Program} {e : Env} {R : Room} {s : State} {m : MethodId} {args : Array Value} {below : List Frame} {meth : Method} {c : Code} {oc : Nat} {cc : ByteArray} {nL cells slots : Nat} {Z : State → Prop} {sc : Option (Nat × (Nat → Int32))}
variable {cd : Nat → Option TE} {RI : Int32 → Mm → Prop} {RJ : Int64 → Mm → Prop} {RV : Mm → Prop} {TH : Nat → Mm → Prop} {ih : Nat → List (Option Value) → List Value → Mm → Prop} {pc d : Nat} {lv : List (Option Value)} {st : List Value} {u : Mm}
set_option maxHeartbeats 40000000 in
set_option maxRecDepth 100000 in
theorem sxS_sound (G : Gx X p s m args c (Rc oc) cc nL sc) (hT : ∀ pc t, cd pc = some t → okI oc cc nL pc t = true)
    (hf : d + 1 ≤ R.frames) (hlo : 64 * (d + 1) ≤ R.locals) (hc : cells ≤ R.cells ∧ slots ≤ R.slots)
    (hRI : ∀ pc lv x u, decode cc pc = .ok (.ireturn, 1) → RI x u → Vx X p e R s m args below meth c nL cells slots Z pc lv [.int x] u)
    (hRJ : ∀ pc lv x u, decode cc pc = .ok (.lreturn, 1) → RJ x u → Vx X p e R s m args below meth c nL cells slots Z pc lv [.long x] u)
    (hRV : ∀ pc lv u, decode cc pc = .ok (.return_, 1) → RV u → Vx X p e R s m args below meth c nL cells slots Z pc lv [] u)
    (hTH : ∀ pc lv u, TH pc u → Vx X p e R s m args below meth c nL cells slots Z pc lv [] u)
    (hih : ∀ pc lv st u, ih pc lv st u → Vx X p e R s m args below meth c nL cells slots Z pc lv st u)
    (h : sxS cd sc RI RJ RV TH (CI X d) (CV X d) (CJ X d) ih pc lv st u) : Vx X p e R s m args below meth c nL cells slots Z pc lv st u := by
  unfold sxS at h
  cases hcd : cd pc with
  | none => rw [hcd] at h; exact h.elim
  | some t =>
    obtain ⟨i, len, x, y, z, k⟩ := t
    rw [hcd] at h
    have hk := hT pc _ hcd
    simp only [okI, Bool.and_eq_true, decide_eq_true_eq] at hk
    obtain ⟨hd, hL⟩ := hk
    have hlo2 : 64 ≤ R.locals := by omega
    have hnw : nativeFrameWords "java/lang/System" "arraycopy" 5 = 16 ∨ nativeFrameWords "java/lang/System" "arraycopy" 5 ≤ 40 := by right; decide
    cases i with
    | iconst n =>
      simp only [okL, Bool.and_eq_true, decide_eq_true_eq, Nat.beq_eq] at hL
      obtain ⟨hv, rfl⟩ := hL
      exact V_iconst G hd hv (hih _ _ _ _ h)
    | bipush n =>
      simp only [okL, Bool.and_eq_true, decide_eq_true_eq, Nat.beq_eq] at hL
      obtain ⟨hv, rfl⟩ := hL
      exact V_bipush G hd hv (hih _ _ _ _ h)
    | sipush n =>
      simp only [okL, Bool.and_eq_true, decide_eq_true_eq, Nat.beq_eq] at hL
      obtain ⟨hv, rfl⟩ := hL
      exact V_sipush G hd hv (hih _ _ _ _ h)
    | lconst n =>
      simp only [okL, Bool.and_eq_true, decide_eq_true_eq, Nat.beq_eq] at hL
      obtain ⟨hv, rfl⟩ := hL
      exact V_lconst G hd hv (hih _ _ _ _ h)
    | ldc n =>
      simp only [okL, Bool.and_eq_true, decide_eq_true_eq, Nat.beq_eq] at hL
      obtain ⟨hv, rfl⟩ := hL
      exact V_ldc G hd (lkC_ok (oc, n, k) hv) (hih _ _ _ _ h)
    | ldc_w n =>
      simp only [okL, Bool.and_eq_true, decide_eq_true_eq, Nat.beq_eq] at hL
      obtain ⟨hv, rfl⟩ := hL
      exact V_ldcw G hd (lkC_ok (oc, n, k) hv) (hih _ _ _ _ h)
    | ldc2_w n =>
      simp only [okL, Bool.and_eq_true, decide_eq_true_eq, Nat.beq_eq] at hL
      obtain ⟨hv, rfl⟩ := hL
      exact V_ldc2 G hd (lkJ_ok (oc, n, x) hv) (hih _ _ _ _ h)
    | iload_n n =>
      simp only [okL, Bool.and_eq_true, decide_eq_true_eq, Nat.beq_eq] at hL
      obtain ⟨hv, rfl⟩ := hL
      simp only [] at h
      split at h
      · rename_i hg
        exact V_iload_n G hd hv hg (hih _ _ _ _ h)
      · exact h.elim
    | iload n =>
      simp only [okL, Bool.and_eq_true, decide_eq_true_eq, Nat.beq_eq] at hL
      obtain ⟨rfl, rfl⟩ := hL
      simp only [] at h
      split at h
      · rename_i hg
        exact V_iload G hd hg (hih _ _ _ _ h)
      · exact h.elim
    | lload_n n =>
      simp only [okL, Bool.and_eq_true, decide_eq_true_eq, Nat.beq_eq] at hL
      obtain ⟨hv, rfl⟩ := hL
      simp only [] at h
      split at h
      · rename_i hg
        exact V_lload_n G hd hv hg (hih _ _ _ _ h)
      · exact h.elim
    | lload n =>
      simp only [okL, Bool.and_eq_true, decide_eq_true_eq, Nat.beq_eq] at hL
      obtain ⟨rfl, rfl⟩ := hL
      simp only [] at h
      split at h
      · rename_i hg
        exact V_lload G hd hg (hih _ _ _ _ h)
      · exact h.elim
    | aload_n n =>
      simp only [okL, Bool.and_eq_true, decide_eq_true_eq, Nat.beq_eq] at hL
      obtain ⟨hv, rfl⟩ := hL
      simp only [] at h
      split at h
      · rename_i hg
        exact V_aload_n G hd hv hg (hih _ _ _ _ h)
      · exact h.elim
    | aload n =>
      simp only [okL, Bool.and_eq_true, decide_eq_true_eq, Nat.beq_eq] at hL
      obtain ⟨rfl, rfl⟩ := hL
      simp only [] at h
      split at h
      · rename_i hg
        exact V_aload G hd hg (hih _ _ _ _ h)
      · exact h.elim
    | istore_n n =>
      simp only [okL, Bool.and_eq_true, decide_eq_true_eq, Nat.beq_eq] at hL
      obtain ⟨⟨hv, hb⟩, rfl⟩ := hL
      simp only [] at h
      split at h
      · obtain ⟨h1, h2⟩ := bcf h
        exact V_istore_n G hd hv (nlt hb) h1 (hih _ _ _ _ h2)
      · exact h.elim
    | istore n =>
      simp only [okL, Bool.and_eq_true, decide_eq_true_eq, Nat.beq_eq] at hL
      obtain ⟨⟨rfl, hb⟩, rfl⟩ := hL
      simp only [] at h
      split at h
      · obtain ⟨h1, h2⟩ := bcf h
        exact V_istore G hd (nlt hb) h1 (hih _ _ _ _ h2)
      · exact h.elim
    | lstore_n n =>
      simp only [okL, Bool.and_eq_true, decide_eq_true_eq, Nat.beq_eq] at hL
      obtain ⟨⟨hv, hb⟩, rfl⟩ := hL
      simp only [] at h
      split at h
      · obtain ⟨h1, h2⟩ := bcf h
        exact V_lstore_n G hd hv (nlt hb) h1 (hih _ _ _ _ h2)
      · exact h.elim
    | lstore n =>
      simp only [okL, Bool.and_eq_true, decide_eq_true_eq, Nat.beq_eq] at hL
      obtain ⟨⟨rfl, hb⟩, rfl⟩ := hL
      simp only [] at h
      split at h
      · obtain ⟨h1, h2⟩ := bcf h
        exact V_lstore G hd (nlt hb) h1 (hih _ _ _ _ h2)
      · exact h.elim
    | astore_n n =>
      simp only [okL, Bool.and_eq_true, decide_eq_true_eq, Nat.beq_eq] at hL
      obtain ⟨⟨hv, hb⟩, rfl⟩ := hL
      simp only [] at h
      split at h
      · obtain ⟨h1, h2⟩ := bcf h
        exact V_astore_n G hd hv (nlt hb) h1 (hih _ _ _ _ h2)
      · exact h.elim
    | astore n =>
      simp only [okL, Bool.and_eq_true, decide_eq_true_eq, Nat.beq_eq] at hL
      obtain ⟨⟨rfl, hb⟩, rfl⟩ := hL
      simp only [] at h
      split at h
      · obtain ⟨h1, h2⟩ := bcf h
        exact V_astore G hd (nlt hb) h1 (hih _ _ _ _ h2)
      · exact h.elim
    | iinc n v =>
      simp only [okL, Bool.and_eq_true, decide_eq_true_eq, Nat.beq_eq] at hL
      obtain ⟨⟨⟨rfl, hv⟩, hb⟩, rfl⟩ := hL
      simp only [] at h
      split at h
      · rename_i hg
        obtain ⟨h1, h2⟩ := bcf h
        exact V_iinc G hd hg hv (nlt hb) h1 (hih _ _ _ _ h2)
      · exact h.elim
    | iadd =>
      simp only [okL, Nat.beq_eq] at hL
      subst hL
      simp only [] at h
      split at h
      · exact V_iadd G hd (hih _ _ _ _ h)
      · exact h.elim
    | isub =>
      simp only [okL, Nat.beq_eq] at hL
      subst hL
      simp only [] at h
      split at h
      · exact V_isub G hd (hih _ _ _ _ h)
      · exact h.elim
    | imul =>
      simp only [okL, Nat.beq_eq] at hL
      subst hL
      simp only [] at h
      split at h
      · exact V_imul G hd (hih _ _ _ _ h)
      · exact h.elim
    | iand =>
      simp only [okL, Nat.beq_eq] at hL
      subst hL
      simp only [] at h
      split at h
      · exact V_iand G hd (hih _ _ _ _ h)
      · exact h.elim
    | ior =>
      simp only [okL, Nat.beq_eq] at hL
      subst hL
      simp only [] at h
      split at h
      · exact V_ior G hd (hih _ _ _ _ h)
      · exact h.elim
    | ixor =>
      simp only [okL, Nat.beq_eq] at hL
      subst hL
      simp only [] at h
      split at h
      · exact V_ixor G hd (hih _ _ _ _ h)
      · exact h.elim
    | ishl =>
      simp only [okL, Nat.beq_eq] at hL
      subst hL
      simp only [] at h
      split at h
      · exact V_ishl G hd (hih _ _ _ _ h)
      · exact h.elim
    | ishr =>
      simp only [okL, Nat.beq_eq] at hL
      subst hL
      simp only [] at h
      split at h
      · exact V_ishr G hd (hih _ _ _ _ h)
      · exact h.elim
    | iushr =>
      simp only [okL, Nat.beq_eq] at hL
      subst hL
      simp only [] at h
      split at h
      · exact V_iushr G hd (hih _ _ _ _ h)
      · exact h.elim
    | ineg =>
      simp only [okL, Nat.beq_eq] at hL
      subst hL
      simp only [] at h
      split at h
      · exact V_ineg G hd (hih _ _ _ _ h)
      · exact h.elim
    | ladd =>
      simp only [okL, Nat.beq_eq] at hL
      subst hL
      simp only [] at h
      split at h
      · exact V_ladd G hd (hih _ _ _ _ h)
      · exact h.elim
    | lsub =>
      simp only [okL, Nat.beq_eq] at hL
      subst hL
      simp only [] at h
      split at h
      · exact V_lsub G hd (hih _ _ _ _ h)
      · exact h.elim
    | lmul =>
      simp only [okL, Nat.beq_eq] at hL
      subst hL
      simp only [] at h
      split at h
      · exact V_lmul G hd (hih _ _ _ _ h)
      · exact h.elim
    | lshl =>
      simp only [okL, Nat.beq_eq] at hL
      subst hL
      simp only [] at h
      split at h
      · exact V_lshl G hd (hih _ _ _ _ h)
      · exact h.elim
    | lushr =>
      simp only [okL, Nat.beq_eq] at hL
      subst hL
      simp only [] at h
      split at h
      · exact V_lushr G hd (hih _ _ _ _ h)
      · exact h.elim
    | lcmp =>
      simp only [okL, Nat.beq_eq] at hL
      subst hL
      simp only [] at h
      split at h
      · exact V_lcmp G hd (hih _ _ _ _ h)
      · exact h.elim
    | i2l =>
      simp only [okL, Nat.beq_eq] at hL
      subst hL
      simp only [] at h
      split at h
      · exact V_i2l G hd (hih _ _ _ _ h)
      · exact h.elim
    | l2i =>
      simp only [okL, Nat.beq_eq] at hL
      subst hL
      simp only [] at h
      split at h
      · exact V_l2i G hd (hih _ _ _ _ h)
      · exact h.elim
    | i2c =>
      simp only [okL, Nat.beq_eq] at hL
      subst hL
      simp only [] at h
      split at h
      · exact V_i2c G hd (hih _ _ _ _ h)
      · exact h.elim
    | dup2 =>
      simp only [okL, Nat.beq_eq] at hL
      subst hL
      simp only [] at h
      split at h
      · exact V_dup2 G hd (hih _ _ _ _ h)
      · exact h.elim
    | pop =>
      simp only [okL, Nat.beq_eq] at hL
      subst hL
      simp only [] at h
      split at h
      · exact V_pop G hd (hih _ _ _ _ h)
      · exact h.elim
    | idiv =>
      simp only [okL, Nat.beq_eq] at hL
      subst hL
      simp only [] at h
      split at h
      · exact V_idiv G hd h.1 (hih _ _ _ _ h.2)
      · exact h.elim
    | irem =>
      simp only [okL, Nat.beq_eq] at hL
      subst hL
      simp only [] at h
      split at h
      · exact V_irem G hd h.1 (hih _ _ _ _ h.2)
      · exact h.elim
    | ldiv =>
      simp only [okL, Nat.beq_eq] at hL
      subst hL
      simp only [] at h
      split at h
      · exact V_ldiv G hd h.1 (hih _ _ _ _ h.2)
      · exact h.elim
    | lrem =>
      simp only [okL, Nat.beq_eq] at hL
      subst hL
      simp only [] at h
      split at h
      · exact V_lrem G hd h.1 (hih _ _ _ _ h.2)
      · exact h.elim
    | dup =>
      simp only [okL, Nat.beq_eq] at hL
      subst hL
      simp only [] at h
      split at h
      · exact V_dup_r G hd (hih _ _ _ _ h)
      · exact V_dup_i G hd (hih _ _ _ _ h)
      · exact h.elim
    | goto off =>
      simp only [okL, tgtOk, Bool.and_eq_true, decide_eq_true_eq, Nat.beq_eq] at hL
      obtain ⟨ht, rfl⟩ := hL
      exact V_goto G hd ht (hih _ _ _ _ h)
    | ifCond cnd off =>
      simp only [okL, tgtOk, Bool.and_eq_true, decide_eq_true_eq, Nat.beq_eq] at hL
      obtain ⟨ht, rfl⟩ := hL
      simp only [] at h
      split at h
      · cases cnd with
        | eq => exact V_if_eq G hd ht ⟨fun q => hih _ _ _ _ (h.1 q), fun q => hih _ _ _ _ (h.2 q)⟩
        | ne => exact V_if_ne G hd ht ⟨fun q => hih _ _ _ _ (h.1 q), fun q => hih _ _ _ _ (h.2 q)⟩
        | lt => exact V_if_lt G hd ht ⟨fun q => hih _ _ _ _ (h.1 q), fun q => hih _ _ _ _ (h.2 q)⟩
        | ge => exact V_if_ge G hd ht ⟨fun q => hih _ _ _ _ (h.1 q), fun q => hih _ _ _ _ (h.2 q)⟩
        | gt => exact V_if_gt G hd ht ⟨fun q => hih _ _ _ _ (h.1 q), fun q => hih _ _ _ _ (h.2 q)⟩
        | le => exact V_if_le G hd ht ⟨fun q => hih _ _ _ _ (h.1 q), fun q => hih _ _ _ _ (h.2 q)⟩
      · exact h.elim
    | if_icmp cnd off =>
      simp only [okL, tgtOk, Bool.and_eq_true, decide_eq_true_eq, Nat.beq_eq] at hL
      obtain ⟨ht, rfl⟩ := hL
      simp only [] at h
      split at h
      · cases cnd with
        | eq => exact V_ic_eq G hd ht ⟨fun q => hih _ _ _ _ (h.1 q), fun q => hih _ _ _ _ (h.2 q)⟩
        | ne => exact V_ic_ne G hd ht ⟨fun q => hih _ _ _ _ (h.1 q), fun q => hih _ _ _ _ (h.2 q)⟩
        | lt => exact V_ic_lt G hd ht ⟨fun q => hih _ _ _ _ (h.1 q), fun q => hih _ _ _ _ (h.2 q)⟩
        | ge => exact V_ic_ge G hd ht ⟨fun q => hih _ _ _ _ (h.1 q), fun q => hih _ _ _ _ (h.2 q)⟩
        | gt => exact V_ic_gt G hd ht ⟨fun q => hih _ _ _ _ (h.1 q), fun q => hih _ _ _ _ (h.2 q)⟩
        | le => exact V_ic_le G hd ht ⟨fun q => hih _ _ _ _ (h.1 q), fun q => hih _ _ _ _ (h.2 q)⟩
      · exact h.elim
    | getfield n =>
      simp only [okL, Bool.and_eq_true, decide_eq_true_eq, Nat.beq_eq] at hL
      obtain ⟨⟨⟨hm, hy⟩, hz⟩, rfl⟩ := hL
      simp only [] at h
      split at h
      · obtain ⟨ho, h⟩ := bct h
        split at h
        · refine V_getf (v := .int _) G hd (lkF_ok (oc, n, x, y) hm) (nlt hy) ho ?_ (hih _ _ _ _ h)
          simp only [Bool.or_eq_true, Nat.beq_eq] at hz
          rcases hz with hz | hz <;> simp [fld, hz, up]
        · refine V_getf (v := .long _) G hd (lkF_ok (oc, n, x, y) hm) (nlt hy) ho ?_ (hih _ _ _ _ h)
          simp only [Nat.beq_eq] at hz
          simp [fld, hz, up]
        · refine V_getf (v := .ref _) G hd (lkF_ok (oc, n, x, y) hm) (nlt hy) ho ?_ (hih _ _ _ _ h)
          split at hz
          · contradiction
          · contradiction
          · simp only [Nat.beq_eq] at hz
            simp [fld, hz, up]
      · exact h.elim
    | putfield n =>
      simp only [okL, Bool.and_eq_true, decide_eq_true_eq, Nat.beq_eq] at hL
      obtain ⟨⟨⟨⟨hm, hy⟩, hnf⟩, hz⟩, rfl⟩ := hL
      obtain ⟨hfin, hp⟩ := nfL_ok (x, y) hnf
      simp only [] at hfin hp
      rw [hz] at hp
      simp only [] at h
      split at h
      · obtain ⟨ho, h⟩ := bct h
        split at h
        · exact V_putf (v := .int _) (ty := .int) G hd (lkF_ok (oc, n, x, y) hm) (nlt hy) ho hfin hp rfl rfl (fld_mI X u _ (Or.inl hz)) (fun b hb => mI_other u _ _ hb) (fun _ _ => rfl) (hih _ _ _ _ h)
        · obtain ⟨hbz, h⟩ := h
          refine V_putf (v := .int _) (ty := .boolean) G hd (lkF_ok (oc, n, x, y) hm) (nlt hy) ho hfin hp ?_ ?_ (fld_mI X u _ (Or.inr hz)) (fun b hb => mI_other u _ _ hb) (fun _ _ => rfl) (hih _ _ _ _ h)
          · rcases hbz with e | e <;> subst e <;> rfl
          · rcases hbz with e | e <;> subst e <;> rfl
        · exact h.elim
      · obtain ⟨ho, h⟩ := bct h
        obtain ⟨hz1, h⟩ := bct h
        have hz1 : z = 1 := by simpa using hz1
        subst hz1
        exact V_putf (v := .long _) (ty := .long) G hd (lkF_ok (oc, n, x, y) hm) (nlt hy) ho hfin hp rfl rfl (fld_mJ X u _ hz) (fun _ _ => rfl) (fun b hb => mJ_other u _ _ hb) (hih _ _ _ _ h)
      · exact h.elim
    | getstatic n =>
      simp only [okL, Bool.and_eq_true, Nat.beq_eq] at hL
      obtain ⟨⟨rfl, rfl⟩, rfl⟩ := hL
      exact V_gets G hd (hih _ _ _ _ h)
    | iaload =>
      simp only [okL, Nat.beq_eq] at hL
      subst hL
      simp only [] at h
      split at h
      · rename_i i a r
        cases hb : Nat.blt a nW with
        | true =>
          rw [hb, cond_true] at h
          split at h
          · rename_i hly
            exact V_iald G hd (nlt hb) hly h.1 (hih _ _ _ _ h.2)
          · exact h.elim
        | false =>
          rw [hb, cond_false] at h
          cases hb1 : Nat.beq a 1000 with
          | true =>
            rw [hb1, cond_true] at h
            have e : a = 1000 := by simpa using hb1
            subst e
            exact V_xald G hd h.1 (hih _ _ _ _ h.2)
          | false =>
            rw [hb1, cond_false] at h
            obtain ⟨e, h⟩ := bct h
            have e : a = 1001 := by simpa using e
            subst e
            cases sc with
            | none => exact h.elim
            | some q => exact V_sald G hd h.1 (hih _ _ _ _ h.2)
      · exact h.elim
    | laload =>
      simp only [okL, Nat.beq_eq] at hL
      subst hL
      simp only [] at h
      split at h
      · obtain ⟨hb, h⟩ := bct h
        split at h
        · rename_i hly
          exact V_lald G hd (nlt hb) hly h.1 (hih _ _ _ _ h.2)
        · exact h.elim
      · exact h.elim
    | baload =>
      simp only [okL, Nat.beq_eq] at hL
      subst hL
      simp only [] at h
      split at h
      · obtain ⟨hb, h⟩ := bct h
        split at h
        · rename_i hly
          exact V_zald G hd (nlt hb) hly h.1 (hih _ _ _ _ h.2)
        · exact h.elim
      · exact h.elim
    | iastore =>
      simp only [okL, Nat.beq_eq] at hL
      subst hL
      simp only [] at h
      split at h
      · obtain ⟨hb, h⟩ := bct h
        split at h
        · rename_i hly
          exact V_iast G hd (nlt hb) hly h.1 (hih _ _ _ _ h.2)
        · exact h.elim
      · exact h.elim
    | lastore =>
      simp only [okL, Nat.beq_eq] at hL
      subst hL
      simp only [] at h
      split at h
      · obtain ⟨hb, h⟩ := bct h
        split at h
        · rename_i hly
          exact V_last G hd (nlt hb) hly h.1 (hih _ _ _ _ h.2)
        · exact h.elim
      · exact h.elim
    | bastore =>
      simp only [okL, Nat.beq_eq] at hL
      subst hL
      simp only [] at h
      split at h
      · obtain ⟨hb, h⟩ := bct h
        split at h
        · rename_i hly
          exact V_zast G hd (nlt hb) hly h.1 (hih _ _ _ _ h.2)
        · exact h.elim
      · exact h.elim
    | aaload =>
      simp only [okL, Nat.beq_eq] at hL
      subst hL
      simp only [] at h
      split at h
      · obtain ⟨hb, h⟩ := bct h
        split at h
        · rename_i hly
          obtain ⟨ht, h⟩ := bct h
          exact V_aald G hd (nlt hb) (nlt ht) hly h.1 (hih _ _ _ _ h.2)
        · exact h.elim
      · exact h.elim
    | arraylength =>
      simp only [okL, Nat.beq_eq] at hL
      subst hL
      simp only [] at h
      split at h
      · rename_i a r
        cases hb : Nat.blt a nW with
        | true =>
          rw [hb, cond_true] at h
          split at h
          · rename_i hly
            exact V_alen G hd (nlt hb) hly (hih _ _ _ _ h)
          · exact h.elim
        | false =>
          rw [hb, cond_false] at h
          obtain ⟨e, h⟩ := bct h
          have e : a = 1001 := by simpa using e
          subst e
          cases sc with
          | none => exact h.elim
          | some q => exact V_slen G hd (hih _ _ _ _ h)
      · exact h.elim
    | tableswitch dflt lo hi offs =>
      simp only [okL, Bool.and_eq_true, decide_eq_true_eq] at hL
      obtain ⟨hsw, hdf⟩ := hL
      simp only [] at h
      split at h
      · rename_i v r
        intro H locs ls hP hS hl
        by_cases hout : v.toInt < lo ∨ hi < v.toInt
        · exact lv_tableOut G.1 G.2.1 hd hout (show (pc : Int) + dflt = (((pc : Int) + dflt).toNat : Int) by omega) (hih _ _ _ _ (h.2 hout) H locs ls hP hS hl)
        · have hsz := hsw
          unfold tswOk at hsz
          simp only [Bool.and_eq_true, decide_eq_true_eq] at hsz
          obtain ⟨o, ho, ht⟩ := tswIn (j := (v.toInt - lo).toNat) hsw (by omega)
          exact lv_tableIn G.1 G.2.1 hd (fun q => hout (Or.inl q)) (fun q => hout (Or.inr q)) ho ht (hih _ _ _ _ (tsw_use offs.toList lo (v.toInt - lo).toNat o h.1 (by simpa using ho) (by omega)) H locs ls hP hS hl)
      · exact h.elim
    | lookupswitch dflt ps =>
      simp only [okL, lswOk, Bool.and_eq_true, decide_eq_true_eq] at hL
      obtain ⟨⟨⟨hs1, hs2⟩, hs3⟩, hs4⟩ := hL
      simp only [] at h
      split at h
      · rename_i v r
        intro H locs ls hP hS hl
        have hr := lsw_use ps.toList (fun q hq => by simpa using List.all_eq_true.mp hs2 q hq) h
        have ht : (pc : Int) + Op.lookupswitch.offset ps.toList dflt v.toInt = (((pc : Int) + Op.lookupswitch.offset ps.toList dflt v.toInt).toNat : Int) := by
          have : 0 ≤ (pc : Int) + Op.lookupswitch.offset ps.toList dflt v.toInt := lsw_nn ps.toList (fun q hq => by simpa using List.all_eq_true.mp hs3 q hq) hs4
          omega
        exact lv_lookup G.1 G.2.1 hd hs1 rfl ht (hih _ _ _ _ hr H locs ls hP hS hl)
      · exact h.elim
    | invokevirtual n =>
      simp only [okL, Bool.and_eq_true, decide_eq_true_eq, Nat.beq_eq, Bool.not_eq_true'] at hL
      obtain ⟨⟨⟨⟨hl, hk9⟩, hg⟩, hz⟩, rfl⟩ := hL
      have hok := gM_ok x hg
      have hl := lkV_ok (oc, n, x) hl
      simp only [] at h
      split at h
      · rename_i a as r hp
        obtain ⟨b, h1, h2, h3⟩ := pops_spec _ _ _ _ _ hp
        obtain ⟨hb, h⟩ := bct h
        rw [Bool.and_eq_true] at hb
        rw [List.append_nil] at h1
        subst h1
        subst h2
        rw [List.reverse_cons, List.append_assoc]
        have hn : as.length = aM x := by simpa using h3
        split at h
        · exact V_cvV G hok hk9 hl hf hlo hc hb.1 hn (nle hb.2) hd (CV.mono h (fun v q => hih _ _ _ _ q))
        · exact V_cvI G hok hk9 hl hf hlo hc hb.1 hn (nle hb.2) hd (CI.mono h (fun w v q => hih _ _ _ _ q))
        · exact V_cvJ G hok hk9 hl hf hlo hc hb.1 hn (nle hb.2) hd (CJ.mono h (fun w v q => hih _ _ _ _ q))
      · exact h.elim
    | invokestatic n =>
      simp only [okL, Bool.and_eq_true, Nat.beq_eq] at hL
      obtain ⟨hL, rfl⟩ := hL
      simp only [] at h
      cases h0 : Nat.beq x 900 with
      | true =>
        rw [h0, cond_true] at h hL
        simp only [decide_eq_true_eq] at hL
        split at h
        · obtain ⟨hb, h⟩ := bct h
          simp only [Bool.and_eq_true] at hb
          obtain ⟨⟨hb1, hb2⟩, hb3⟩ := hb
          have hb3 := nle hb3
          split at h
          · rename_i l0 l1
            exact V_copyi G hd ⟨lkA_ok (oc, n) hL, acW.1, acW.2.1, acW.2.2⟩ (nlt hb1) (nlt hb2) l0 l1 h.1 (by omega) (by omega) (hih _ _ _ _ h.2)
          · rename_i l0 l1
            exact V_copyl G hd ⟨lkA_ok (oc, n) hL, acW.1, acW.2.1, acW.2.2⟩ (nlt hb1) (nlt hb2) l0 l1 h.1 (by omega) (by omega) (hih _ _ _ _ h.2)
          · exact h.elim
        · exact h.elim
      | false =>
        rw [h0, cond_false] at h hL
        cases h901 : Nat.beq x 901 with
        | true =>
          rw [h901, cond_true] at h hL
          simp only [decide_eq_true_eq] at hL
          split at h
          · obtain ⟨hb, h⟩ := bct h
            have hb := nle hb
            exact V_mmin G hd (lkMn_ok (oc, n) hL) (by omega) (by omega) hc (hih _ _ _ _ h)
          · exact h.elim
        | false =>
          rw [h901, cond_false] at h hL
          cases h902 : Nat.beq x 902 with
          | true =>
            rw [h902, cond_true] at h hL
            simp only [decide_eq_true_eq] at hL
            split at h
            · obtain ⟨hb, h⟩ := bct h
              have hb := nle hb
              exact V_mmax G hd (lkMx_ok (oc, n) hL) (by omega) (by omega) hc (hih _ _ _ _ h)
            · exact h.elim
          | false =>
            rw [h902, cond_false] at h hL
            cases h903 : Nat.beq x 903 with
            | true =>
              rw [h903, cond_true] at h hL
              simp only [decide_eq_true_eq] at hL
              split at h
              · obtain ⟨hb, h⟩ := bct h
                have hb := nle hb
                exact V_mabs G hd (lkMb_ok (oc, n) hL) (by omega) (by omega) hc (hih _ _ _ _ h)
              · exact h.elim
            | false =>
              rw [h903, cond_false] at h hL
              simp only [Bool.and_eq_true, Bool.or_eq_true, decide_eq_true_eq] at hL
              obtain ⟨⟨⟨hl, hk9⟩, hg⟩, hz⟩ := hL
              have hl : Cond.methodLink (Rc oc) n (yM x) ∈ Om ∨ (∃ o2, Rc oc = Rc o2 ∧ (o2, n, x) ∈ nsL) := hl.imp (fun q => lkV_ok (oc, n, x) q) (fun q => ⟨oc, rfl, q⟩)
              have hok := gM_ok x hg
              split at h
              · rename_i as r hp
                obtain ⟨b, h1, h2, h3⟩ := pops_spec _ _ _ _ _ hp
                obtain ⟨hb, h⟩ := bct h
                rw [List.append_nil] at h1
                subst h1
                subst h2
                split at h
                · exact V_csV G hok hk9 hl hf hlo hc h3 (nle hb) hd (CV.mono h (fun v q => hih _ _ _ _ q))
                · exact V_csI G hok hk9 hl hf hlo hc h3 (nle hb) hd (CI.mono h (fun w v q => hih _ _ _ _ q))
                · exact V_csJ G hok hk9 hl hf hlo hc h3 (nle hb) hd (CJ.mono h (fun w v q => hih _ _ _ _ q))
              · exact h.elim
    | ireturn =>
      simp only [okL, Nat.beq_eq] at hL
      subst hL
      simp only [] at h
      split at h
      · exact hRI _ _ _ _ hd h
      · exact h.elim
    | lreturn =>
      simp only [okL, Nat.beq_eq] at hL
      subst hL
      simp only [] at h
      split at h
      · exact hRJ _ _ _ _ hd h
      · exact h.elim
    | return_ =>
      simp only [okL, Nat.beq_eq] at hL
      subst hL
      simp only [] at h
      split at h
      · exact hRV _ _ _ hd h
      · exact h.elim
    | new n =>
      simp only [] at h
      split at h
      · exact hTH _ _ _ h
      · exact h.elim
    | _ => exact h.elim
end Sound
