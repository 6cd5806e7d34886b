/-! a sentence, as functions: nodes in the order in which both sides lay them -/
abbrev ND : Type := Int32 × Int32 × Int32 × Int32
abbrev PS : Type := RDS × Nat × List ND
def begB (ρ : RDS) : Bool := decide (ρ.2.1 = 4 ∧ ρ.2.2.1 = 40) || decide (ρ.2.1 = 2 ∧ 14 ≤ wix ρ.2.2.2.1 ∧ wix ρ.2.2.2.1 ≤ 23)
section SnF
variable (f : Nat → Nat) (n m : Nat) (nl : Nat → List Nat) (cQ cK : Nat)
def snLeaf (w : Nat) (p : PS) : FT ⊕ PS :=
  if w = 18 then bd (rNamed f n m nl 8 cK p.1) fun z => .inr (z.2, p.2.1, p.2.2 ++ [(nI 68, nI z.1, 0, 0)])
  else if w = 19 then bd (rNamed f n m nl 0 cQ p.1) fun z => .inr (z.2, p.2.1, p.2.2 ++ [(nI 69, nI z.1, 0, 0)])
  else if 20 ≤ w then bd (rCmp f n m p.1) fun z => bd (rNum f n m z.2 0 999) fun y => .inr (y.2, p.2.1, p.2.2 ++ [(nI (50 + w), 0, nI y.1, nI z.1)])
  else .inr (p.1, p.2.1, p.2.2 ++ [(nI (50 + w), 0, 0, 0)])
/-- ones joined by a word: node j -/
def jnL (wd : Nat) (nd : Nat) (one : PS → FT ⊕ PS) : Nat → PS → FT ⊕ PS
  | 0, q => .inr q
  | g + 1, q => if q.1.2.1 = 2 ∧ wix q.1.2.2.2.1 = wd then bd (one (nxt f n m q.1, q.2)) fun r => jnL wd nd one g (r.1, r.2.1, r.2.2 ++ [(nI nd, nI (q.2.2.length - 1), nI (r.2.2.length - 1), 0)]) else .inr q
def jn (wd : Nat) (nd : Nat) (one : PS → FT ⊕ PS) (p : PS) : FT ⊕ PS := bd (one p) fun q => jnL f n m wd nd one 20 q
def condF (one : PS → FT ⊕ PS) : PS → FT ⊕ PS := jn f n m 12 3 (jn f n m 13 2 one)
def one0 (p : PS) : FT ⊕ PS := if begB p.1 = true then .inl (4, p.1.1) else .inl (1, p.1.1)
def oneS (one : PS → FT ⊕ PS) (p : PS) : FT ⊕ PS := if begB p.1 = true then (if p.2.1 = 20 then .inl (4, p.1.1) else
    if p.1.2.1 = 4 then bd (condF f n m one (nxt f n m p.1, p.2.1 + 1, p.2.2)) fun q => bd (rSgn f n m q.1 41) fun ρ => .inr (ρ, q.2)
    else if wix p.1.2.2.2.1 = 14 then bd (one (nxt f n m p.1, p.2.1 + 1, p.2.2)) fun q => .inr (q.1, q.2.1, q.2.2 ++ [(1, nI (q.2.2.length - 1), 0, 0)])
    else snLeaf f n m nl cQ cK (wix p.1.2.2.2.1) (nxt f n m p.1, p.2.1 + 1, p.2.2)) else .inl (1, p.1.1)
def oneF (L : Nat) : PS → FT ⊕ PS := Nat.rec (motive := fun _ => PS → FT ⊕ PS) one0 (fun _ ih => oneS f n m nl cQ cK ih) L
theorem oneF_0 : oneF f n m nl cQ cK 0 = one0 := rfl
theorem oneF_s {L : Nat} : oneF f n m nl cQ cK (L + 1) = oneS f n m nl cQ cK (oneF f n m nl cQ cK L) := rfl
end SnF
/-- nodes lo to hi (without it) are one tree, its root last -/
def lfB (x : ND) : Prop := ∃ w, 65 ≤ w ∧ w ≤ 73 ∧ x.1 = nI w ∧ (70 ≤ w → x.2.2.2 = 60 ∨ x.2.2.2 = 61 ∨ x.2.2.2 = 62)
def gN (ns : List ND) (k : Nat) : ND := ns.getD k (0, 0, 0, 0)
def trB (ns : List ND) : Nat → Nat → Nat → Prop
  | 0, _, _ => False
  | F + 1, lo, hi => lo < hi ∧ hi ≤ ns.length ∧ ((lfB (gN ns (hi - 1)) ∧ lo + 1 = hi) ∨ ((gN ns (hi - 1)).1 = 1 ∧ (gN ns (hi - 1)).2.1 = nI (hi - 2) ∧ trB ns F lo (hi - 1)) ∨ ∃ mid, ((gN ns (hi - 1)).1 = 2 ∨ (gN ns (hi - 1)).1 = 3) ∧ (gN ns (hi - 1)).2.1 = nI (mid - 1) ∧ (gN ns (hi - 1)).2.2.1 = nI (hi - 2) ∧ trB ns F lo mid ∧ trB ns F mid (hi - 1))
theorem trB_lt {ns : List ND} : ∀ {F lo hi : Nat}, trB ns F lo hi → lo < hi ∧ hi ≤ ns.length
  | 0, _, _, h => h.elim
  | F + 1, _, _, h => ⟨h.1, h.2.1⟩
theorem trB_mono {ns : List ND} : ∀ {F G lo hi : Nat}, F ≤ G → trB ns F lo hi → trB ns G lo hi
  | 0, _, _, _, _, h => h.elim
  | F + 1, 0, _, _, hg, _ => absurd hg (by omega)
  | F + 1, G + 1, lo, hi, hg, h => by
    obtain ⟨h1, h2, h3⟩ := h
    refine ⟨h1, h2, ?_⟩
    rcases h3 with h3 | ⟨a, b, c⟩ | ⟨mid, a, b, c, e, g⟩
    · exact Or.inl h3
    · exact Or.inr (Or.inl ⟨a, b, trB_mono (by omega) c⟩)
    · exact Or.inr (Or.inr ⟨mid, a, b, c, trB_mono (by omega) e, trB_mono (by omega) g⟩)
theorem gN_app {ns r : List ND} {k : Nat} (h : k < ns.length) : gN (ns ++ r) k = gN ns k := by
  unfold gN
  simp [List.getD, List.getElem?_append_left h]
theorem gN_last {ns : List ND} {x : ND} : gN (ns ++ [x]) ns.length = x := by
  unfold gN
  simp [List.getD]
theorem trB_app {ns r : List ND} : ∀ {F lo hi : Nat}, trB ns F lo hi → trB (ns ++ r) F lo hi
  | 0, _, _, h => h.elim
  | F + 1, lo, hi, h => by
    obtain ⟨h1, h2, h3⟩ := h
    refine ⟨h1, by rw [List.length_append]; omega, ?_⟩
    rw [gN_app (by omega)]
    rcases h3 with h3 | ⟨a, b, c⟩ | ⟨mid, a, b, c, e, g⟩
    · exact Or.inl h3
    · exact Or.inr (Or.inl ⟨a, b, trB_app c⟩)
    · exact Or.inr (Or.inr ⟨mid, a, b, c, trB_app e, trB_app g⟩)
/-- what a reading gives: a tree behind what stood, ones in their bounds -/
def PG (n : Nat) (p p' : PS) : Prop := tkOk p'.1 n ∧ p.2.1 < p'.2.1 ∧ p'.2.1 ≤ 20 ∧ ∃ r, p'.2.2 = p.2.2 ++ r ∧ r.length + 1 ≤ 2 * (p'.2.1 - p.2.1) ∧ trB p'.2.2 60 p.2.2.length p'.2.2.length ∧ ∃ F, F ≤ r.length ∧ trB p'.2.2 F p.2.2.length p'.2.2.length
def GP (n : Nat) (P : PS → FT ⊕ PS) : Prop := ∀ p p', tkOk p.1 n → p.2.1 ≤ 20 → p.2.2.length ≤ 2 * p.2.1 → P p = .inr p' → PG n p p'
section GPs
variable {f : Nat → Nat} {n m : Nat} {nl : Nat → List Nat} {cQ cK : Nat}
theorem PG.mk' {p p' : PS} {r : List ND} {F : Nat} (h1 : tkOk p'.1 n) (h2 : p.2.1 < p'.2.1) (h3 : p'.2.1 ≤ 20) (h4 : p'.2.2 = p.2.2 ++ r) (h5 : r.length + 1 ≤ 2 * (p'.2.1 - p.2.1)) (hF : F ≤ r.length) (h6 : trB p'.2.2 F p.2.2.length p'.2.2.length) : PG n p p' := ⟨h1, h2, h3, r, h4, h5, trB_mono (by omega) h6, F, hF, h6⟩
theorem jnL_ok {wd nd : Nat} {one : PS → FT ⊕ PS} (hn : n ≤ 940) (hm : m ≤ 940) (hd : nd = 2 ∨ nd = 3) (hP : GP n one) {p : PS} (hp : p.2.2.length ≤ 2 * p.2.1) : ∀ g q q', tkOk p.1 n → PG n p q → jnL f n m wd nd one g q = .inr q' → PG n p q' := by
  intro g
  induction g with
  | zero => intro q q' hk h he; cases he; exact h
  | succ g ih =>
    intro q q' hk h he
    rw [jnL] at he
    split at he
    · obtain ⟨r, h1, he⟩ := bd_inr he
      obtain ⟨a1, a2, a3, rr, a4, a5, a6, F, aF, a7⟩ := h
      obtain ⟨k1, -⟩ := nx1 (f := f) hn hm a1 rfl
      have hql : q.2.2.length = p.2.2.length + rr.length := by rw [a4, List.length_append]
      obtain ⟨b1, b2, b3, rs, b4, b5, b6, G, bG, b7⟩ := hP (nxt f n m q.1, q.2) r k1 a3 (by dsimp only; omega) h1
      dsimp only at b2 b4 b5 b7
      have hrl : r.2.2.length = q.2.2.length + rs.length := by rw [b4, List.length_append]
      have tq := trB_lt a7
      refine ih _ q' hk ?_ he
      have hlast : gN (r.2.2 ++ [(nI nd, nI (q.2.2.length - 1), nI (r.2.2.length - 1), 0)]) r.2.2.length = (nI nd, nI (q.2.2.length - 1), nI (r.2.2.length - 1), 0) := gN_last
      refine PG.mk' (r := rr ++ rs ++ [(nI nd, nI (q.2.2.length - 1), nI (r.2.2.length - 1), 0)]) (F := (if F ≤ G then G else F) + 1) b1 (by dsimp only; omega) b3 (by dsimp only; rw [b4, a4]; simp) ?_ ?_ ⟨?_, ?_, Or.inr (Or.inr ⟨q.2.2.length, ?_, ?_, ?_, ?_, ?_⟩)⟩
      · rw [List.length_append, List.length_append, List.length_singleton]; dsimp only; omega
      · rw [List.length_append, List.length_append, List.length_singleton]
        split <;> omega
      · dsimp only; rw [List.length_append, List.length_singleton]; omega
      · exact Nat.le_refl _
      · dsimp only
        rw [List.length_append, List.length_singleton, Nat.add_sub_cancel, hlast]
        rcases hd with rfl | rfl
        · exact Or.inl rfl
        · exact Or.inr rfl
      · dsimp only
        rw [List.length_append, List.length_singleton, Nat.add_sub_cancel, hlast]
      · dsimp only
        rw [List.length_append, List.length_singleton, Nat.add_sub_cancel, hlast, show r.2.2.length + 1 - 2 = r.2.2.length - 1 by omega]
      · dsimp only
        refine trB_app ?_
        rw [b4]
        refine trB_app (trB_mono ?_ a7)
        split <;> omega
      · dsimp only
        rw [List.length_append, List.length_singleton, Nat.add_sub_cancel]
        refine trB_app (trB_mono ?_ b7)
        split <;> omega
    · cases he; exact h
theorem jn_ok {wd nd : Nat} {one : PS → FT ⊕ PS} (hn : n ≤ 940) (hm : m ≤ 940) (hd : nd = 2 ∨ nd = 3) (hP : GP n one) : GP n (jn f n m wd nd one) := by
  intro p p' hk ho hl h
  unfold jn at h
  obtain ⟨q, h1, h⟩ := bd_inr h
  exact jnL_ok hn hm hd hP hl 20 q p' hk (hP p q hk ho hl h1) h
theorem condF_ok {one : PS → FT ⊕ PS} (hn : n ≤ 940) (hm : m ≤ 940) (hP : GP n one) : GP n (condF f n m one) := jn_ok hn hm (Or.inr rfl) (jn_ok hn hm (Or.inl rfl) hP)
theorem leaf1 {p p' : PS} {x : ND} (o : p.2.1 < p'.2.1) (h3 : p'.2.1 ≤ 20) (h1 : tkOk p'.1 n) (h4 : p'.2.2 = p.2.2 ++ [x]) (hx : lfB x) : PG n p p' := by
  have hlen : p'.2.2.length = p.2.2.length + 1 := by rw [h4, List.length_append, List.length_singleton]
  refine PG.mk' (r := [x]) (F := 1) h1 o h3 h4 (by rw [List.length_singleton]; omega) (by rw [List.length_singleton]; omega) ⟨by omega, Nat.le_refl _, Or.inl ⟨?_, by omega⟩⟩
  rw [hlen, Nat.add_sub_cancel, h4, gN_last]
  exact hx
theorem rCmp_inr {ρ ρ' : RDS} {v : Nat} (h : rCmp f n m ρ = .inr (v, ρ')) : ρ' = nxt f n m ρ ∧ (v = 60 ∨ v = 61 ∨ v = 62) := by
  unfold rCmp at h
  split at h
  · rename_i q; cases h; exact ⟨rfl, q.2⟩
  · cases h
theorem oneF_ok (hn : n ≤ 940) (hm : m ≤ 940) (hQ : cQ < 1000) (hK : cK < 1000) : ∀ L, GP n (oneF f n m nl cQ cK L) := by
  intro L
  induction L with
  | zero =>
    intro p p' hk ho hl h
    rw [oneF_0] at h
    unfold one0 at h
    split at h <;> cases h
  | succ L ih =>
    intro p p' hk ho hl h
    rw [oneF_s] at h
    unfold oneS at h
    obtain ⟨k0, -⟩ := nx1 (f := f) hn hm hk rfl
    split at h
    · rename_i hb
      split at h
      · cases h
      · rename_i h20
        split at h
        · obtain ⟨q, h1, h⟩ := bd_inr h
          obtain ⟨ρ, h2, h⟩ := bd_inr h
          cases h
          obtain ⟨a1, a2, a3, r, a4, a5, a6, F, aF, a7⟩ := condF_ok hn hm ih (nxt f n m p.1, p.2.1 + 1, p.2.2) q k0 (by dsimp only; omega) (by dsimp only; omega) h1
          dsimp only at a2 a4 a5 a7
          have hs : ρ = nxt f n m q.1 := by unfold rSgn at h2; split at h2 <;> cases h2; rfl
          obtain ⟨k2, -⟩ := nx1 hn hm a1 hs
          exact PG.mk' (r := r) (F := F) k2 (by dsimp only; omega) a3 a4 (by dsimp only; omega) aF a7
        split at h
        · obtain ⟨q, h1, h⟩ := bd_inr h
          cases h
          obtain ⟨a1, a2, a3, r, a4, a5, a6, F, aF, a7⟩ := ih (nxt f n m p.1, p.2.1 + 1, p.2.2) q k0 (by dsimp only; omega) (by dsimp only; omega) h1
          dsimp only at a2 a4 a5 a7
          have tq := trB_lt a7
          have hlast : gN (q.2.2 ++ [(1, nI (q.2.2.length - 1), 0, 0)]) q.2.2.length = (1, nI (q.2.2.length - 1), 0, 0) := gN_last
          refine PG.mk' (r := r ++ [(1, nI (q.2.2.length - 1), 0, 0)]) (F := F + 1) a1 (by dsimp only; omega) a3 (by dsimp only; rw [a4]; simp) (by rw [List.length_append, List.length_singleton]; dsimp only; omega) (by rw [List.length_append, List.length_singleton]; omega) ⟨?_, Nat.le_refl _, Or.inr (Or.inl ⟨?_, ?_, ?_⟩)⟩
          · dsimp only; rw [List.length_append, List.length_singleton]; omega
          · dsimp only; rw [List.length_append, List.length_singleton, Nat.add_sub_cancel, hlast]
          · dsimp only; rw [List.length_append, List.length_singleton, Nat.add_sub_cancel, hlast, show q.2.2.length + 1 - 2 = q.2.2.length - 1 by omega]
          · dsimp only; rw [List.length_append, List.length_singleton, Nat.add_sub_cancel]; exact trB_app a7
        · rename_i h4 h14
          have hw : p.1.2.1 = 2 ∧ 15 ≤ wix p.1.2.2.2.1 ∧ wix p.1.2.2.2.1 ≤ 23 := by
            unfold begB at hb
            simp only [Bool.or_eq_true, decide_eq_true_eq] at hb
            omega
          obtain ⟨-, w1, w2⟩ := hw
          generalize wix p.1.2.2.2.1 = w at h w1 w2
          unfold snLeaf at h
          split at h
          · obtain ⟨⟨j, ρ⟩, h1, h⟩ := bd_inr h
            cases h
            obtain ⟨k1, -⟩ := nx1 hn hm k0 (rNamed_inr h1)
            exact leaf1 (by dsimp only; omega) (by dsimp only; omega) k1 rfl ⟨68, by omega, by omega, rfl, fun q => absurd q (by omega)⟩
          split at h
          · obtain ⟨⟨j, ρ⟩, h1, h⟩ := bd_inr h
            cases h
            obtain ⟨k1, -⟩ := nx1 hn hm k0 (rNamed_inr h1)
            exact leaf1 (by dsimp only; omega) (by dsimp only; omega) k1 rfl ⟨69, by omega, by omega, rfl, fun q => absurd q (by omega)⟩
          split at h
          · obtain ⟨⟨c, ρ⟩, h1, h⟩ := bd_inr h
            obtain ⟨⟨v, ρ2⟩, h2, h⟩ := bd_inr h
            cases h
            obtain ⟨k1, -⟩ := nx1 hn hm k0 (rCmp_inr h1).1
            obtain ⟨k2, -⟩ := nx1 hn hm k1 (rNum_inr h2).1
            refine leaf1 (by dsimp only; omega) (by dsimp only; omega) k2 rfl ⟨50 + w, by omega, by omega, rfl, fun _ => ?_⟩
            rcases (rCmp_inr h1).2 with e | e | e
            · exact Or.inl (by dsimp only; rw [e]; rfl)
            · exact Or.inr (Or.inl (by dsimp only; rw [e]; rfl))
            · exact Or.inr (Or.inr (by dsimp only; rw [e]; rfl))
          · cases h
            exact leaf1 (by dsimp only; omega) (by dsimp only; omega) k0 rfl ⟨50 + w, by omega, by omega, rfl, fun q => absurd q (by omega)⟩
    · cases h
end GPs
