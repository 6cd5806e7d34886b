def pops : Nat → List Value → List Value → Option (List Value × List Value)
  | 0, acc, st => some (acc, st)
  | n + 1, acc, v :: st => pops n (v :: acc) st
  | _ + 1, _, [] => none
theorem pops_spec : ∀ (n : Nat) (acc st as r : List Value), pops n acc st = some (as, r) → ∃ b, as = b ++ acc ∧ st = b.reverse ++ r ∧ b.length = n
  | 0, acc, st, as, r, h => by
    simp only [pops, Option.some.injEq, Prod.mk.injEq] at h
    exact ⟨[], by rw [← h.1]; rfl, by rw [← h.2]; rfl, rfl⟩
  | n + 1, acc, [], as, r, h => by simp [pops] at h
  | n + 1, acc, v :: st, as, r, h => by
    obtain ⟨b, h1, h2, h3⟩ := pops_spec n (v :: acc) st as r (by simpa [pops] using h)
    exact ⟨b ++ [v], by rw [h1]; simp, by rw [h2]; simp, by simp [h3]⟩
def ctg : List Value → Nat
  | [] => 0
  | v :: r => v.category + ctg r
theorem ctg_sum (X : Xc) : ∀ st : List Value, ((st.map (up X)).map fun v => v.category).sum = ctg st
  | [] => rfl
  | v :: r => by
    show (up X v).category + ((r.map (up X)).map fun v => v.category).sum = v.category + ctg r
    rw [up_cat, ctg_sum X r]
def isObj (a c : Nat) : Bool := Nat.blt a nW && (match ly a with
  | (1, d, _) => Nat.beq d c
  | _ => false)
def bz (x : Int32) : Prop := x = 0 ∨ x = 1
def tsw (f : Nat → Prop) (pc : Nat) (v : Int32) : List Int → Int → Prop
  | [], _ => True
  | o :: r, k => (v = Int32.ofInt k → f ((pc : Int) + o).toNat) ∧ tsw f pc v r (k + 1)
def lsw (f : Nat → Prop) (pc : Nat) (d : Int) (v : Int32) : List (Int × Int) → Prop
  | [] => f ((pc : Int) + d).toNat
  | q :: r => (v = Int32.ofInt q.1 → f ((pc : Int) + q.2).toNat) ∧ (¬ v = Int32.ofInt q.1 → lsw f pc d v r)
/-- one instruction: what must hold so that the machine goes on; ih what holds behind it -/
def sxS (cd : Nat → Option TE) (sc : Option (Nat × (Nat → Int32))) (RI : Int32 → Mm → Prop) (RJ : Int64 → Mm → Prop) (RV : Mm → Prop) (TH : Nat → Mm → Prop) (cI : Nat → List Value → Mm → (Int32 → Mm → Prop) → Prop) (cV : Nat → List Value → Mm → (Mm → Prop) → Prop) (cJ : Nat → List Value → Mm → (Int64 → Mm → Prop) → Prop)
    (ih : Nat → List (Option Value) → List Value → Mm → Prop) (pc : Nat) (lv : List (Option Value)) (st : List Value) (u : Mm) : Prop :=
  match cd pc with
  | none => False
  | some (i, _, x, y, z, k) => match i with
    | .iconst _ => ih (pc + 1) lv (.int k :: st) u
    | .bipush _ => ih (pc + 2) lv (.int k :: st) u
    | .sipush _ => ih (pc + 3) lv (.int k :: st) u
    | .ldc _ => ih (pc + 2) lv (.int k :: st) u
    | .ldc_w _ => ih (pc + 3) lv (.int k :: st) u
    | .ldc2_w _ => ih (pc + 3) lv (.long (lN x) :: st) u
    | .lconst _ => ih (pc + 1) lv (.long (lN x) :: st) u
    | .iload_n _ => match gt lv x with
      | some (.int v) => ih (pc + 1) lv (.int v :: st) u
      | _ => False
    | .iload _ => match gt lv x with
      | some (.int v) => ih (pc + 2) lv (.int v :: st) u
      | _ => False
    | .lload_n _ => match gt lv x with
      | some (.long v) => ih (pc + 1) lv (.long v :: st) u
      | _ => False
    | .lload _ => match gt lv x with
      | some (.long v) => ih (pc + 2) lv (.long v :: st) u
      | _ => False
    | .aload_n _ => match gt lv x with
      | some (.ref v) => ih (pc + 1) lv (.ref v :: st) u
      | _ => False
    | .aload _ => match gt lv x with
      | some (.ref v) => ih (pc + 2) lv (.ref v :: st) u
      | _ => False
    | .istore_n _ => match st with
      | .int v :: r => bif cutL lv x then False else ih (pc + 1) (stt lv x (some (.int v))) r u
      | _ => False
    | .istore _ => match st with
      | .int v :: r => bif cutL lv x then False else ih (pc + 2) (stt lv x (some (.int v))) r u
      | _ => False
    | .lstore_n _ => match st with
      | .long v :: r => bif cutL lv x then False else ih (pc + 1) (stt (stt lv x (some (.long v))) (x + 1) none) r u
      | _ => False
    | .lstore _ => match st with
      | .long v :: r => bif cutL lv x then False else ih (pc + 2) (stt (stt lv x (some (.long v))) (x + 1) none) r u
      | _ => False
    | .astore_n _ => match st with
      | .ref v :: r => bif cutL lv x then False else ih (pc + 1) (stt lv x (some (.ref v))) r u
      | _ => False
    | .astore _ => match st with
      | .ref v :: r => bif cutL lv x then False else ih (pc + 2) (stt lv x (some (.ref v))) r u
      | _ => False
    | .iinc _ _ => match gt lv x with
      | some (.int v) => bif cutL lv x then False else ih (pc + 3) (stt lv x (some (.int (v + k)))) st u
      | _ => False
    | .iadd => match st with
      | .int b :: .int a :: r => ih (pc + 1) lv (.int (a + b) :: r) u
      | _ => False
    | .isub => match st with
      | .int b :: .int a :: r => ih (pc + 1) lv (.int (a - b) :: r) u
      | _ => False
    | .imul => match st with
      | .int b :: .int a :: r => ih (pc + 1) lv (.int (a * b) :: r) u
      | _ => False
    | .iand => match st with
      | .int b :: .int a :: r => ih (pc + 1) lv (.int (a &&& b) :: r) u
      | _ => False
    | .ior => match st with
      | .int b :: .int a :: r => ih (pc + 1) lv (.int (a ||| b) :: r) u
      | _ => False
    | .ixor => match st with
      | .int b :: .int a :: r => ih (pc + 1) lv (.int (a ^^^ b) :: r) u
      | _ => False
    | .ishl => match st with
      | .int b :: .int a :: r => ih (pc + 1) lv (.int (a <<< (b &&& 31)) :: r) u
      | _ => False
    | .ishr => match st with
      | .int b :: .int a :: r => ih (pc + 1) lv (.int (a >>> (b &&& 31)) :: r) u
      | _ => False
    | .iushr => match st with
      | .int b :: .int a :: r => ih (pc + 1) lv (.int (a.toUInt32 >>> (b.toUInt32 &&& Int32.toUInt32 31)).toInt32 :: r) u
      | _ => False
    | .idiv => match st with
      | .int b :: .int a :: r => ¬ b = 0 ∧ ih (pc + 1) lv (.int (a / b) :: r) u
      | _ => False
    | .irem => match st with
      | .int b :: .int a :: r => ¬ b = 0 ∧ ih (pc + 1) lv (.int (a - a / b * b) :: r) u
      | _ => False
    | .ineg => match st with
      | .int a :: r => ih (pc + 1) lv (.int (-a) :: r) u
      | _ => False
    | .ladd => match st with
      | .long b :: .long a :: r => ih (pc + 1) lv (.long (a + b) :: r) u
      | _ => False
    | .lsub => match st with
      | .long b :: .long a :: r => ih (pc + 1) lv (.long (a - b) :: r) u
      | _ => False
    | .lmul => match st with
      | .long b :: .long a :: r => ih (pc + 1) lv (.long (a * b) :: r) u
      | _ => False
    | .ldiv => match st with
      | .long b :: .long a :: r => ¬ b = 0 ∧ ih (pc + 1) lv (.long (a / b) :: r) u
      | _ => False
    | .lrem => match st with
      | .long b :: .long a :: r => ¬ b = 0 ∧ ih (pc + 1) lv (.long (a - a / b * b) :: r) u
      | _ => False
    | .lshl => match st with
      | .int b :: .long a :: r => ih (pc + 1) lv (.long (a <<< (b.toInt64 &&& 63)) :: r) u
      | _ => False
    | .lushr => match st with
      | .int b :: .long a :: r => ih (pc + 1) lv (.long (a.toUInt64 >>> (b.toInt64.toUInt64 &&& Int64.toUInt64 63)).toInt64 :: r) u
      | _ => False
    | .lcmp => match st with
      | .long b :: .long a :: r => ih (pc + 1) lv (.int (lg_cmp a b) :: r) u
      | _ => False
    | .i2l => match st with
      | .int a :: r => ih (pc + 1) lv (.long a.toInt64 :: r) u
      | _ => False
    | .l2i => match st with
      | .long a :: r => ih (pc + 1) lv (.int a.toInt32 :: r) u
      | _ => False
    | .i2c => match st with
      | .int a :: r => ih (pc + 1) lv (.int (a.toUInt32 % 65536).toInt32 :: r) u
      | _ => False
    | .dup => match st with
      | .ref a :: r => ih (pc + 1) lv (.ref a :: .ref a :: r) u
      | .int a :: r => ih (pc + 1) lv (.int a :: .int a :: r) u
      | _ => False
    | .dup2 => match st with
      | .int i :: .ref a :: r => ih (pc + 1) lv (.int i :: .ref a :: .int i :: .ref a :: r) u
      | _ => False
    | .pop => match st with
      | .int _ :: r => ih (pc + 1) lv r u
      | _ => False
    | .goto _ => ih x lv st u
    | .ifCond c _ => match st with
      | .int a :: r => match c with
        | .eq => (a = 0 → ih x lv r u) ∧ (¬ a = 0 → ih (pc + 3) lv r u)
        | .ne => (¬ a = 0 → ih x lv r u) ∧ (a = 0 → ih (pc + 3) lv r u)
        | .lt => (a < 0 → ih x lv r u) ∧ (¬ a < 0 → ih (pc + 3) lv r u)
        | .ge => (0 ≤ a → ih x lv r u) ∧ (¬ 0 ≤ a → ih (pc + 3) lv r u)
        | .gt => (0 < a → ih x lv r u) ∧ (¬ 0 < a → ih (pc + 3) lv r u)
        | .le => (a ≤ 0 → ih x lv r u) ∧ (¬ a ≤ 0 → ih (pc + 3) lv r u)
      | _ => False
    | .if_icmp c _ => match st with
      | .int b :: .int a :: r => match c with
        | .eq => (a = b → ih x lv r u) ∧ (¬ a = b → ih (pc + 3) lv r u)
        | .ne => (¬ a = b → ih x lv r u) ∧ (a = b → ih (pc + 3) lv r u)
        | .lt => (a < b → ih x lv r u) ∧ (¬ a < b → ih (pc + 3) lv r u)
        | .ge => (b ≤ a → ih x lv r u) ∧ (¬ b ≤ a → ih (pc + 3) lv r u)
        | .gt => (b < a → ih x lv r u) ∧ (¬ b < a → ih (pc + 3) lv r u)
        | .le => (a ≤ b → ih x lv r u) ∧ (¬ a ≤ b → ih (pc + 3) lv r u)
      | _ => False
    | .tableswitch d lo hi offs => match st with
      | .int v :: r => tsw (fun t => ih t lv r u) pc v offs.toList lo ∧ ((v.toInt < lo ∨ hi < v.toInt) → ih ((pc : Int) + d).toNat lv r u)
      | _ => False
    | .lookupswitch d ps => match st with
      | .int v :: r => lsw (fun t => ih t lv r u) pc d v ps.toList
      | _ => False
    | .getfield _ => match st with
      | .ref a :: r => bif isObj a x then (match z with
        | 0 => ih (pc + 3) lv (.int (u.1 a y) :: r) u
        | 1 => ih (pc + 3) lv (.long (u.2 a y) :: r) u
        | _ => ih (pc + 3) lv (.ref (rr a y) :: r) u) else False
      | _ => False
    | .putfield _ => match st with
      | .int v :: .ref a :: r => bif isObj a x then (match z with
        | 0 => ih (pc + 3) lv r (mI u a y v)
        | 2 => bz v ∧ ih (pc + 3) lv r (mI u a y v)
        | _ => False) else False
      | .long v :: .ref a :: r => bif isObj a x then (bif Nat.beq z 1 then ih (pc + 3) lv r (mJ u a y v) else False) else False
      | _ => False
    | .getstatic _ => ih (pc + 3) lv (.ref 1000 :: st) u
    | .iaload => match st with
      | .int i :: .ref a :: r => bif Nat.blt a nW then (match ly a with
          | (2, _, n) => vp_in i n ∧ ih (pc + 1) lv (.int (u.1 a i.toNatClampNeg) :: r) u
          | _ => False)
        else bif Nat.beq a 1000 then (vp_in i 4 ∧ ih (pc + 1) lv (.int (exI 1000 i.toNatClampNeg) :: r) u)
        else bif Nat.beq a 1001 then (match sc with
          | some q => vp_in i q.1 ∧ ih (pc + 1) lv (.int (q.2 i.toNatClampNeg) :: r) u
          | none => False) else False
      | _ => False
    | .laload => match st with
      | .int i :: .ref a :: r => bif Nat.blt a nW then (match ly a with
          | (3, _, n) => vp_in i n ∧ ih (pc + 1) lv (.long (u.2 a i.toNatClampNeg) :: r) u
          | _ => False) else False
      | _ => False
    | .baload => match st with
      | .int i :: .ref a :: r => bif Nat.blt a nW then (match ly a with
          | (4, _, n) => vp_in i n ∧ ih (pc + 1) lv (.int (u.1 a i.toNatClampNeg) :: r) u
          | _ => False) else False
      | _ => False
    | .aaload => match st with
      | .int i :: .ref a :: r => bif Nat.blt a nW then (match ly a with
          | (6, t, n) => bif Nat.blt t 2 then (vp_in i n ∧ ih (pc + 1) lv (.ref (rr a i.toNatClampNeg) :: r) u) else False
          | _ => False) else False
      | _ => False
    | .iastore => match st with
      | .int v :: .int i :: .ref a :: r => bif Nat.blt a nW then (match ly a with
          | (2, _, n) => vp_in i n ∧ ih (pc + 1) lv r (mI u a i.toNatClampNeg v)
          | _ => False) else False
      | _ => False
    | .lastore => match st with
      | .long v :: .int i :: .ref a :: r => bif Nat.blt a nW then (match ly a with
          | (3, _, n) => vp_in i n ∧ ih (pc + 1) lv r (mJ u a i.toNatClampNeg v)
          | _ => False) else False
      | _ => False
    | .bastore => match st with
      | .int v :: .int i :: .ref a :: r => bif Nat.blt a nW then (match ly a with
          | (4, _, n) => vp_in i n ∧ ih (pc + 1) lv r (mI u a i.toNatClampNeg (vp_nar .boolean v))
          | _ => False) else False
      | _ => False
    | .arraylength => match st with
      | .ref a :: r => bif Nat.blt a nW then (match ly a with
          | (2, _, n) => ih (pc + 1) lv (.int (nI n) :: r) u
          | _ => False)
        else bif Nat.beq a 1001 then (match sc with
          | some q => ih (pc + 1) lv (.int (nI q.1) :: r) u
          | none => False) else False
      | _ => False
    | .invokevirtual _ => match pops (aM x + 1) [] st with
      | some (.ref a :: as, r) => bif (isObj a (kM x) && Nat.ble (ctg r) 8) then (match z with
        | 0 => cV x (.ref a :: as) u (fun u' => ih (pc + 3) lv r u')
        | 1 => cI x (.ref a :: as) u (fun w u' => ih (pc + 3) lv (.int w :: r) u')
        | _ => cJ x (.ref a :: as) u (fun w u' => ih (pc + 3) lv (.long w :: r) u')) else False
      | _ => False
    | .invokestatic _ => bif Nat.beq x 900 then (match st with
        | .int n :: .int dp :: .ref d :: .int sp :: .ref s :: r => bif (Nat.blt s nW && Nat.blt d nW && Nat.ble (ctg r) 8) then (match ly s, ly d with
          | (2, _, n0), (2, _, n1) => (¬ sp < 0 ∧ ¬ dp < 0 ∧ ¬ n < 0 ∧ sp.toNatClampNeg + n.toNatClampNeg ≤ n0 ∧ dp.toNatClampNeg + n.toNatClampNeg ≤ n1) ∧ ih (pc + 3) lv r (mC u s sp.toNatClampNeg d dp.toNatClampNeg n.toNatClampNeg)
          | (3, _, n0), (3, _, n1) => (¬ sp < 0 ∧ ¬ dp < 0 ∧ ¬ n < 0 ∧ sp.toNatClampNeg + n.toNatClampNeg ≤ n0 ∧ dp.toNatClampNeg + n.toNatClampNeg ≤ n1) ∧ ih (pc + 3) lv r (mCJ u s sp.toNatClampNeg d dp.toNatClampNeg n.toNatClampNeg)
          | _, _ => False) else False
        | _ => False)
      else bif Nat.beq x 901 then (match st with
        | .int b :: .int a :: r => bif Nat.ble (ctg r) 8 then ih (pc + 3) lv (.int (if b < a then b else a) :: r) u else False
        | _ => False)
      else bif Nat.beq x 902 then (match st with
        | .int b :: .int a :: r => bif Nat.ble (ctg r) 8 then ih (pc + 3) lv (.int (if a < b then b else a) :: r) u else False
        | _ => False)
      else bif Nat.beq x 903 then (match st with
        | .int a :: r => bif Nat.ble (ctg r) 8 then ih (pc + 3) lv (.int (if 0 ≤ a then a else 0 - a) :: r) u else False
        | _ => False)
      else (match pops (aM x) [] st with
        | some (as, r) => bif Nat.ble (ctg r) 8 then (match z with
          | 0 => cV x as u (fun u' => ih (pc + 3) lv r u')
          | 1 => cI x as u (fun w u' => ih (pc + 3) lv (.int w :: r) u')
          | _ => cJ x as u (fun w u' => ih (pc + 3) lv (.long w :: r) u')) else False
        | none => False)
    | .ireturn => match st with
      | [.int v] => RI v u
      | _ => False
    | .lreturn => match st with
      | [.long v] => RJ v u
      | _ => False
    | .return_ => match st with
      | [] => RV u
      | _ => False
    | .new _ => match st with
      | [] => TH pc u
      | _ => False
    | _ => False
