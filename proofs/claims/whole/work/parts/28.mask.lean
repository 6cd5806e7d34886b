/-- which locals are told at a place -/
def mkv : List Bool → Lv → Lv
  | b :: bs, v :: r => (bif b then v else none) :: mkv bs r
  | _, lv => lv
theorem gt_mkv : ∀ (bs : List Bool) (lv : Lv) (i : Nat) (v : Value), gt (mkv bs lv) i = some v → gt lv i = some v
  | [], _, _, _, h => h
  | b :: bs, [], _, _, h => h
  | b :: bs, w :: r, 0, v, h => by
    simp only [mkv, gt] at h ⊢
    cases b
    · cases h
    · exact h
  | b :: bs, w :: r, i + 1, v, h => by
    simp only [mkv, gt] at h ⊢
    exact gt_mkv bs r i v h
theorem VQ_mkv {X : Xc} {d k : Nat} {Qc : Array Value → State → Outcome → State → Prop} {pc : Nat} {lv : Lv} {st : List Value} {u : Mm} (bs : List Bool) (h : VQ X d k Qc pc (mkv bs lv) st u) : VQ X d k Qc pc lv st u := by
  intro p e s m args below meth c G hr hlk H locs ls hP hS hl
  refine h p e s m args below meth c G hr hlk H locs ls hP hS (lvh_mono hl (fun q hq => ?_))
  obtain ⟨i, v, rfl, hg⟩ := lvA_of _ _ _ hq
  exact lvA_in lv 0 i v (gt_mkv bs lv i v hg)
section Masked
variable {X : Xc} {d k oc : Nat} {cd : Nat → Option TE} {KI : Int32 → Mm → Prop} {KJ : Int64 → Mm → Prop} {KV : Mm → Prop} {pc : Nat} {lv : Lv} {st : List Value} {u : Mm}
abbrev nI1 (X : Xc) (d k : Nat) (cd : Nat → Option TE) (KI : Int32 → Mm → Prop) (cut : Nat → Bool) (ms : Nat → List Bool) (n : Nat) : Nat → Lv → List Value → Mm → Prop := sxN cd none (RIk k KI) (fun _ _ => False) (fun _ => False) (fun _ _ => False) (CI X d) (CV X d) (CJ X d) cut (fun pc lv st u => VI X d k KI pc (mkv (ms pc) lv) st u) n
abbrev nJ1 (X : Xc) (d k : Nat) (cd : Nat → Option TE) (KJ : Int64 → Mm → Prop) (cut : Nat → Bool) (ms : Nat → List Bool) (n : Nat) : Nat → Lv → List Value → Mm → Prop := sxN cd none (fun _ _ => False) (RJk k KJ) (fun _ => False) (fun _ _ => False) (CI X d) (CV X d) (CJ X d) cut (fun pc lv st u => VJ X d k KJ pc (mkv (ms pc) lv) st u) n
abbrev nV1 (X : Xc) (d k : Nat) (cd : Nat → Option TE) (KV : Mm → Prop) (cut : Nat → Bool) (ms : Nat → List Bool) (n : Nat) : Nat → Lv → List Value → Mm → Prop := sxN cd none (fun _ _ => False) (fun _ _ => False) (RVk k KV) (fun _ _ => False) (CI X d) (CV X d) (CJ X d) cut (fun pc lv st u => VV X d k KV pc (mkv (ms pc) lv) st u) n
theorem VI_m (hm : mOk k oc cd) (cut : Nat → Bool) (ms : Nat → List Bool) (n : Nat) (h : sxS cd none (RIk k KI) (fun _ _ => False) (fun _ => False) (fun _ _ => False) (CI X d) (CV X d) (CJ X d) (nI1 X d k cd KI cut ms n) pc lv st u) : VI X d k KI pc lv st u := by
  refine VI_step hm ?_ h
  clear h
  induction n with
  | zero => exact fun pc lv st u h => VQ_mkv (ms pc) h
  | succ n ih =>
    intro pc lv st u h
    change (bif cut pc then _ else _) at h
    cases hc : cut pc with
    | true => rw [hc, cond_true] at h; exact VQ_mkv (ms pc) h
    | false => rw [hc, cond_false] at h; exact VI_step hm ih h
theorem VJ_m (hm : mOk k oc cd) (cut : Nat → Bool) (ms : Nat → List Bool) (n : Nat) (h : sxS cd none (fun _ _ => False) (RJk k KJ) (fun _ => False) (fun _ _ => False) (CI X d) (CV X d) (CJ X d) (nJ1 X d k cd KJ cut ms n) pc lv st u) : VJ X d k KJ pc lv st u := by
  refine VJ_step hm ?_ h
  clear h
  induction n with
  | zero => exact fun pc lv st u h => VQ_mkv (ms pc) h
  | succ n ih =>
    intro pc lv st u h
    change (bif cut pc then _ else _) at h
    cases hc : cut pc with
    | true => rw [hc, cond_true] at h; exact VQ_mkv (ms pc) h
    | false => rw [hc, cond_false] at h; exact VJ_step hm ih h
theorem VV_m (hm : mOk k oc cd) (cut : Nat → Bool) (ms : Nat → List Bool) (n : Nat) (h : sxS cd none (fun _ _ => False) (fun _ _ => False) (RVk k KV) (fun _ _ => False) (CI X d) (CV X d) (CJ X d) (nV1 X d k cd KV cut ms n) pc lv st u) : VV X d k KV pc lv st u := by
  refine VV_step hm ?_ h
  clear h
  induction n with
  | zero => exact fun pc lv st u h => VQ_mkv (ms pc) h
  | succ n ih =>
    intro pc lv st u h
    change (bif cut pc then _ else _) at h
    cases hc : cut pc with
    | true => rw [hc, cond_true] at h; exact VQ_mkv (ms pc) h
    | false => rw [hc, cond_false] at h; exact VV_step hm ih h
end Masked
theorem vpd {i : Int32} {n : Nat} (h : (decide (i < 0) || decide (n ≤ i.toNatClampNeg)) = false) : vp_in i n := by
  unfold vp_in
  simpa using h
theorem bcm {b : Bool} {P Q : Prop} (h : bif b then P else False) (f : P → Q) : bif b then Q else False := by
  cases b
  · exact h
  · exact f h
