/-! THE PURE MACHINE: a small interpreter over its own heap of numbered cells; later shown to be followed by the real one -/
/-- a cell: a row of numbers (its sort, its length, its contents), or an object (its class, its fields). Sorts: 0 int, 1 byte, 2 boolean, 3 int that nobody writes, 4 byte that nobody writes; class 20: a String constant; class 30: a row of references -/
abbrev ab_Ce : Type := (Nat × Nat × (Nat → Int32)) ⊕ (Nat × List Value)
abbrev ab_H : Type := Nat × (Nat → Option ab_Ce)
def ab_get (h : ab_H) (a : Nat) : Option ab_Ce := h.2 a
def ab_set (h : ab_H) (a : Nat) (c : ab_Ce) : ab_H := (h.1, fun k => if k = a then some c else h.2 k)
def ab_new (h : ab_H) (c : ab_Ce) : ab_H := (h.1 + 1, fun k => if k = h.1 then some c else h.2 k)
/-- the locals; a long takes its place and has the mark 'float 0' in the next one -/
abbrev ab_L : Type := List (Option Value)
/-- an instruction, and what was looked up for it: v (an int), w (a long), the next place, a, b, t, further places -/
abbrev ab_I : Type := Instr × Int32 × Int64 × Nat × Nat × Nat × Nat × List Nat
abbrev ab_iv (i : ab_I) : Int32 := i.2.1
abbrev ab_iw (i : ab_I) : Int64 := i.2.2.1
abbrev ab_nx (i : ab_I) : Nat := i.2.2.2.1
abbrev ab_ia (i : ab_I) : Nat := i.2.2.2.2.1
abbrev ab_ib (i : ab_I) : Nat := i.2.2.2.2.2.1
abbrev ab_it (i : ab_I) : Nat := i.2.2.2.2.2.2.1
abbrev ab_is (i : ab_I) : List Nat := i.2.2.2.2.2.2.2
def ab_in (i : Int32) (n : Nat) : Prop := 0 ≤ i ∧ i.toNatClampNeg < n
section
variable {R : Type}
def ab_ldi (L : ab_L) (i : Nat) (K : Int32 → Option R) : Option R := match L[i]? with
  | some (some (.int x)) => K x
  | _ => none
def ab_lda (L : ab_L) (i : Nat) (K : Nat → Option R) : Option R := match L[i]? with
  | some (some (.ref x)) => K x
  | _ => none
def ab_ldl (L : ab_L) (i : Nat) (K : Int64 → Option R) : Option R := match L[i]? with
  | some (some (.long x)) => (match L[i + 1]? with
    | some (some (.float _)) => K x
    | _ => none)
  | _ => none
def ab_pi (st : List Value) (K : Int32 → List Value → Option R) : Option R := match st with
  | .int x :: r => K x r
  | _ => none
def ab_pl (st : List Value) (K : Int64 → List Value → Option R) : Option R := match st with
  | .long x :: r => K x r
  | _ => none
def ab_pr (st : List Value) (K : Nat → List Value → Option R) : Option R := match st with
  | .ref x :: r => K x r
  | _ => none
/-- n values off the stack, the last one first -/
def ab_popn : Nat → List Value → List Value → (List Value → List Value → Option R) → Option R
  | 0, st, acc, K => K acc st
  | n + 1, v :: st, acc, K => ab_popn n st (v :: acc) K
  | _ + 1, [], _, _ => none
def ab_cat : List Value → Nat
  | [] => 0
  | v :: r => v.category + ab_cat r
/-- the arguments fit a method's locals -/
def ab_fit (n : Nat) (as : List Value) (K : Option R) : Option R := if ab_cat as ≤ n then K else none
def ab_few (st : List Value) (K : Option R) : Option R := if ab_cat st ≤ 8 then K else none
def ab_gfi (h : ab_H) (r c k : Nat) (K : Int32 → Option R) : Option R := match ab_get h r with
  | some (.inr q) => if q.1 = c then (match q.2[k]? with
    | some (.int x) => K x
    | _ => none) else none
  | _ => none
def ab_gfr (h : ab_H) (r c k : Nat) (K : Nat → Option R) : Option R := match ab_get h r with
  | some (.inr q) => if q.1 = c then (match q.2[k]? with
    | some (.ref x) => K x
    | _ => none) else none
  | _ => none
def ab_gfl (h : ab_H) (r c k : Nat) (K : Int64 → Option R) : Option R := match ab_get h r with
  | some (.inr q) => if q.1 = c then (match q.2[k]? with
    | some (.long x) => K x
    | _ => none) else none
  | _ => none
def ab_pf (h : ab_H) (r c k : Nat) (v : Value) (K : ab_H → Option R) : Option R := match ab_get h r with
  | some (.inr q) => if q.1 = c ∧ k < q.2.length then K (ab_set h r (.inr (q.1, q.2.set k v))) else none
  | _ => none
def ab_iald (h : ab_H) (r : Nat) (i : Int32) (K : Int32 → Option R) : Option R := match ab_get h r with
  | some (.inl q) => if (q.1 = 0 ∨ q.1 = 3) ∧ 0 ≤ i ∧ i.toNatClampNeg < q.2.1 then K (q.2.2 i.toNatClampNeg) else none
  | _ => none
def ab_bald (h : ab_H) (r : Nat) (i : Int32) (K : Int32 → Option R) : Option R := match ab_get h r with
  | some (.inl q) => if (q.1 = 1 ∨ q.1 = 2 ∨ q.1 = 4) ∧ 0 ≤ i ∧ i.toNatClampNeg < q.2.1 then K (q.2.2 i.toNatClampNeg) else none
  | _ => none
def ab_iast (h : ab_H) (r : Nat) (i x : Int32) (K : ab_H → Option R) : Option R := match ab_get h r with
  | some (.inl q) => if q.1 = 0 ∧ 0 ≤ i ∧ i.toNatClampNeg < q.2.1 then K (ab_set h r (.inl (0, q.2.1, upd q.2.2 i.toNatClampNeg x))) else none
  | _ => none
def ab_bast (h : ab_H) (r : Nat) (i x : Int32) (K : ab_H → Option R) : Option R := match ab_get h r with
  | some (.inl q) => if (q.1 = 1 ∨ q.1 = 2) ∧ 0 ≤ i ∧ i.toNatClampNeg < q.2.1 then K (ab_set h r (.inl (q.1, q.2.1, upd q.2.2 i.toNatClampNeg (if q.1 = 1 then vp_nar .byte x else vp_nar .boolean x)))) else none
  | _ => none
def ab_alen (h : ab_H) (r : Nat) (K : Int32 → Option R) : Option R := match ab_get h r with
  | some (.inl q) => K (Int32.ofNat q.2.1)
  | _ => none
def ab_aald (h : ab_H) (r : Nat) (i : Int32) (K : Nat → Option R) : Option R := match ab_get h r with
  | some (.inr q) => if q.1 = 30 ∧ 0 ≤ i then (match q.2[i.toNatClampNeg]? with
    | some (.ref x) => K x
    | _ => none) else none
  | _ => none
def ab_aast (h : ab_H) (r : Nat) (i : Int32) (v : Nat) (K : ab_H → Option R) : Option R := match ab_get h r with
  | some (.inr q) => if q.1 = 30 ∧ 0 ≤ i ∧ i.toNatClampNeg < q.2.length then (match ab_get h v with
    | some (.inr u) => if u.1 = 3 then K (ab_set h r (.inr (q.1, q.2.set i.toNatClampNeg (.ref v)))) else none
    | _ => none) else none
  | _ => none
def ab_acp (h : ab_H) (a : Nat) (sp : Int32) (d : Nat) (dp n : Int32) (K : ab_H → Option R) : Option R := match ab_get h a with
  | some (.inl q) => (match ab_get h d with
    | some (.inl u) => if q.1 = 0 ∧ u.1 = 0 ∧ 0 ≤ sp ∧ 0 ≤ dp ∧ 0 ≤ n ∧ sp.toNatClampNeg + n.toNatClampNeg ≤ q.2.1 ∧ dp.toNatClampNeg + n.toNatClampNeg ≤ u.2.1 then K (ab_set h d (.inl (0, u.2.1, va_cpy q.2.2 u.2.2 sp.toNatClampNeg dp.toNatClampNeg n.toNatClampNeg))) else none
    | _ => none)
  | _ => none
/-- the receiver is an object of that class -/
def ab_ckc (h : ab_H) (r c : Nat) (K : Option R) : Option R := match ab_get h r with
  | some (.inr q) => if q.1 = c then K else none
  | _ => none
def ab_sw : List Nat → Int32 → Int32 → Nat → (Nat → Option R) → Option R
  | [], _, _, d, K => K d
  | t :: ts, lo, x, d, K => if x = lo then K t else ab_sw ts (lo + 1) x d K
end
def ab_nar (t : Nat) (x : Int32) : Bool := if t = 0 then true else if t = 1 then decide (vp_nar .boolean x = x) else if t = 2 then decide (vp_nar .byte x = x) else decide (vp_nar .char x = x)
def ab_chk {R : Type} (t : Nat) (x : Int32) (K : Option R) : Option R := if t = 0 then K else if ab_nar t x = true then K else none
/-- the fields of a new object -/
def ab_df : Nat → List Value
  | 0 => [.null]
  | 1 => [.int 0, .null, .null]
  | 2 => [.int 0, .null, .null, .null, .null, .null, .null, .null]
  | 3 => [.null, .null, .null, .null, .int 0]
  | 4 => [.int 0, .null, .int 0, .int 0, .int 0]
  | 5 => [.null, .null, .null]
  | 6 => [.int 0, .null, .null, .null]
  | 7 => [.null]
  | 8 => [.null, .null, .null, .null]
  | 9 => [.null, .null, .null, .int 0]
  | 10 => [.null, .null, .null, .null, .null, .null, .null, .null, .null, .long 0, .long 0, .int 0, .int 0, .int 0]
  | 11 => [.null, .null, .null, .null, .long 0, .long 0, .null, .int 0, .null, .null, .int 0, .int 0, .null, .null, .null, .null, .int 0, .int 0, .int 0, .int 0, .int 0, .null, .null]
  | _ => []
section
variable {R : Type}
/-- ONE INSTRUCTION: K goes on, Rt returns, C calls -/
def ab_stp (K : Nat → ab_L → List Value → ab_H → Option R) (Rt : Option Value → ab_H → Option R) (C : Nat → List Value → ab_H → Nat → Nat → ab_L → List Value → Option R) (i : ab_I) (L : ab_L) (st : List Value) (h : ab_H) : Option R :=
  match i.1 with
  | .iconst _ => K (ab_nx i) L (.int (ab_iv i) :: st) h
  | .bipush _ => K (ab_nx i) L (.int (ab_iv i) :: st) h
  | .sipush _ => K (ab_nx i) L (.int (ab_iv i) :: st) h
  | .ldc _ => if ab_it i = 0 then K (ab_nx i) L (.int (ab_iv i) :: st) h else K (ab_nx i) L (.ref (ab_ia i) :: st) h
  | .ldc_w _ => K (ab_nx i) L (.int (ab_iv i) :: st) h
  | .lconst _ => K (ab_nx i) L (.long (ab_iw i) :: st) h
  | .ldc2_w _ => K (ab_nx i) L (.long (ab_iw i) :: st) h
  | .iload _ => ab_ldi L (ab_ia i) fun x => K (ab_nx i) L (.int x :: st) h
  | .iload_n _ => ab_ldi L (ab_ia i) fun x => K (ab_nx i) L (.int x :: st) h
  | .lload _ => ab_ldl L (ab_ia i) fun x => K (ab_nx i) L (.long x :: st) h
  | .lload_n _ => ab_ldl L (ab_ia i) fun x => K (ab_nx i) L (.long x :: st) h
  | .aload _ => ab_lda L (ab_ia i) fun x => K (ab_nx i) L (.ref x :: st) h
  | .aload_n _ => ab_lda L (ab_ia i) fun x => K (ab_nx i) L (.ref x :: st) h
  | .istore _ => ab_pi st fun x st => K (ab_nx i) (L.set (ab_ia i) (some (.int x))) st h
  | .istore_n _ => ab_pi st fun x st => K (ab_nx i) (L.set (ab_ia i) (some (.int x))) st h
  | .lstore _ => ab_pl st fun x st => K (ab_nx i) ((L.set (ab_ia i) (some (.long x))).set (ab_ia i + 1) (some (.float 0))) st h
  | .lstore_n _ => ab_pl st fun x st => K (ab_nx i) ((L.set (ab_ia i) (some (.long x))).set (ab_ia i + 1) (some (.float 0))) st h
  | .astore _ => ab_pr st fun x st => K (ab_nx i) (L.set (ab_ia i) (some (.ref x))) st h
  | .astore_n _ => ab_pr st fun x st => K (ab_nx i) (L.set (ab_ia i) (some (.ref x))) st h
  | .iinc _ _ => ab_ldi L (ab_ia i) fun x => K (ab_nx i) (L.set (ab_ia i) (some (.int (x + ab_iv i)))) st h
  | .iadd => ab_pi st fun y st => ab_pi st fun x st => K (ab_nx i) L (.int (x + y) :: st) h
  | .isub => ab_pi st fun y st => ab_pi st fun x st => K (ab_nx i) L (.int (x - y) :: st) h
  | .imul => ab_pi st fun y st => ab_pi st fun x st => K (ab_nx i) L (.int (x * y) :: st) h
  | .iand => ab_pi st fun y st => ab_pi st fun x st => K (ab_nx i) L (.int (x &&& y) :: st) h
  | .ior => ab_pi st fun y st => ab_pi st fun x st => K (ab_nx i) L (.int (x ||| y) :: st) h
  | .ixor => ab_pi st fun y st => ab_pi st fun x st => K (ab_nx i) L (.int (x ^^^ y) :: st) h
  | .ishl => ab_pi st fun y st => ab_pi st fun x st => K (ab_nx i) L (.int (x <<< (y &&& 31)) :: st) h
  | .ishr => ab_pi st fun y st => ab_pi st fun x st => K (ab_nx i) L (.int (x >>> (y &&& 31)) :: st) h
  | .iushr => ab_pi st fun y st => ab_pi st fun x st => K (ab_nx i) L (.int (x.toUInt32 >>> (y.toUInt32 &&& Int32.toUInt32 31)).toInt32 :: st) h
  | .idiv => ab_pi st fun y st => ab_pi st fun x st => if y = 0 then none else K (ab_nx i) L (.int (x / y) :: st) h
  | .irem => ab_pi st fun y st => ab_pi st fun x st => if y = 0 then none else K (ab_nx i) L (.int (x - x / y * y) :: st) h
  | .ladd => ab_pl st fun y st => ab_pl st fun x st => K (ab_nx i) L (.long (x + y) :: st) h
  | .lmul => ab_pl st fun y st => ab_pl st fun x st => K (ab_nx i) L (.long (x * y) :: st) h
  | .ldiv => ab_pl st fun y st => ab_pl st fun x st => if y = 0 then none else K (ab_nx i) L (.long (x / y) :: st) h
  | .lrem => ab_pl st fun y st => ab_pl st fun x st => if y = 0 then none else K (ab_nx i) L (.long (x - x / y * y) :: st) h
  | .lcmp => ab_pl st fun y st => ab_pl st fun x st => K (ab_nx i) L (.int (lg_cmp x y) :: st) h
  | .i2l => ab_pi st fun x st => K (ab_nx i) L (.long x.toInt64 :: st) h
  | .l2i => ab_pl st fun x st => K (ab_nx i) L (.int x.toInt32 :: st) h
  | .i2b => ab_pi st fun x st => K (ab_nx i) L (.int x.toInt8.toInt32 :: st) h
  | .i2c => ab_pi st fun x st => K (ab_nx i) L (.int (x.toUInt32 % 65536).toInt32 :: st) h
  | .ifCond .eq _ => ab_pi st fun x st => if x = 0 then K (ab_ia i) L st h else K (ab_nx i) L st h
  | .ifCond .ne _ => ab_pi st fun x st => if x = 0 then K (ab_nx i) L st h else K (ab_ia i) L st h
  | .ifCond .lt _ => ab_pi st fun x st => if x < 0 then K (ab_ia i) L st h else K (ab_nx i) L st h
  | .ifCond .ge _ => ab_pi st fun x st => if 0 ≤ x then K (ab_ia i) L st h else K (ab_nx i) L st h
  | .ifCond .gt _ => ab_pi st fun x st => if 0 < x then K (ab_ia i) L st h else K (ab_nx i) L st h
  | .ifCond .le _ => ab_pi st fun x st => if x ≤ 0 then K (ab_ia i) L st h else K (ab_nx i) L st h
  | .if_icmp .eq _ => ab_pi st fun y st => ab_pi st fun x st => if x = y then K (ab_ia i) L st h else K (ab_nx i) L st h
  | .if_icmp .ne _ => ab_pi st fun y st => ab_pi st fun x st => if x = y then K (ab_nx i) L st h else K (ab_ia i) L st h
  | .if_icmp .lt _ => ab_pi st fun y st => ab_pi st fun x st => if x < y then K (ab_ia i) L st h else K (ab_nx i) L st h
  | .if_icmp .ge _ => ab_pi st fun y st => ab_pi st fun x st => if y ≤ x then K (ab_ia i) L st h else K (ab_nx i) L st h
  | .if_icmp .gt _ => ab_pi st fun y st => ab_pi st fun x st => if y < x then K (ab_ia i) L st h else K (ab_nx i) L st h
  | .if_icmp .le _ => ab_pi st fun y st => ab_pi st fun x st => if x ≤ y then K (ab_ia i) L st h else K (ab_nx i) L st h
  | .goto _ => K (ab_ia i) L st h
  | .dup => (match st with
    | .int x :: r => K (ab_nx i) L (.int x :: .int x :: r) h
    | .ref x :: r => K (ab_nx i) L (.ref x :: .ref x :: r) h
    | _ => none)
  | .pop => ab_pi st fun _ st => K (ab_nx i) L st h
  | .dup2 => ab_pi st fun x st => ab_pr st fun a st => K (ab_nx i) L (.int x :: .ref a :: .int x :: .ref a :: st) h
  | .getfield _ => ab_pr st fun r st => (if ab_it i = 0 then ab_gfi h r (ab_ia i) (ab_ib i) fun x => K (ab_nx i) L (.int x :: st) h
      else if ab_it i = 1 then ab_gfr h r (ab_ia i) (ab_ib i) fun x => K (ab_nx i) L (.ref x :: st) h
      else ab_gfl h r (ab_ia i) (ab_ib i) fun x => K (ab_nx i) L (.long x :: st) h)
  | .putfield _ => (if ab_it i = 0 then ab_pi st fun x st => ab_pr st fun r st => ab_pf h r (ab_ia i) (ab_ib i) (.int x) fun h => K (ab_nx i) L st h
      else if ab_it i = 1 then ab_pr st fun x st => ab_pr st fun r st => ab_pf h r (ab_ia i) (ab_ib i) (.ref x) fun h => K (ab_nx i) L st h
      else ab_pl st fun x st => ab_pr st fun r st => ab_pf h r (ab_ia i) (ab_ib i) (.long x) fun h => K (ab_nx i) L st h)
  | .getstatic _ => if ab_it i = 0 then K (ab_nx i) L (.int 1 :: st) h else K (ab_nx i) L (.ref 9 :: st) h
  | .iaload => ab_pi st fun x st => ab_pr st fun r st => ab_iald h r x fun v => K (ab_nx i) L (.int v :: st) h
  | .baload => ab_pi st fun x st => ab_pr st fun r st => ab_bald h r x fun v => K (ab_nx i) L (.int v :: st) h
  | .aaload => ab_pi st fun x st => ab_pr st fun r st => ab_aald h r x fun v => K (ab_nx i) L (.ref v :: st) h
  | .iastore => ab_pi st fun v st => ab_pi st fun x st => ab_pr st fun r st => ab_iast h r x v fun h => K (ab_nx i) L st h
  | .bastore => ab_pi st fun v st => ab_pi st fun x st => ab_pr st fun r st => ab_bast h r x v fun h => K (ab_nx i) L st h
  | .aastore => ab_pr st fun v st => ab_pi st fun x st => ab_pr st fun r st => ab_aast h r x v fun h => K (ab_nx i) L st h
  | .arraylength => ab_pr st fun r st => ab_alen h r fun v => K (ab_nx i) L (.int v :: st) h
  | .new _ => K (ab_nx i) L (.ref h.1 :: st) (ab_new h (.inr (ab_ia i, ab_df (ab_ia i))))
  | .newarray _ => ab_pi st fun n st => if 0 ≤ n ∧ n.toNatClampNeg ≤ 200 then K (ab_nx i) L (.ref h.1 :: st) (ab_new h (.inl (ab_it i, n.toNatClampNeg, fun _ => 0))) else none
  | .anewarray _ => ab_pi st fun n st => if 0 ≤ n ∧ n.toNatClampNeg ≤ 200 then K (ab_nx i) L (.ref h.1 :: st) (ab_new h (.inr (30, List.replicate n.toNatClampNeg .null))) else none
  | .invokevirtual _ => ab_popn (ab_ib i) st [] fun as st => ab_fit ((ab_is i).getD 1 0) as (ab_few st (ab_pr as fun r _ => ab_ckc h r ((ab_is i).getD 0 0) (C (ab_ia i) as h (ab_it i) (ab_nx i) L st)))
  | .invokestatic _ => if ab_it i = 8 then ab_pi st fun n st => ab_pi st fun dp st => ab_pr st fun d st => ab_pi st fun sp st => ab_pr st fun a st => ab_few st (ab_acp h a sp d dp n fun h => K (ab_nx i) L st h)
      else if ab_it i = 10 then ab_pi st fun y st => ab_pi st fun x st => ab_few st (K (ab_nx i) L (.int (if y < x then y else x) :: st) h)
      else if ab_it i = 11 then ab_pi st fun y st => ab_pi st fun x st => ab_few st (K (ab_nx i) L (.int (if x < y then y else x) :: st) h)
      else ab_popn (ab_ib i) st [] fun as st => ab_fit ((ab_is i).getD 1 0) as (ab_few st (C (ab_ia i) as h (ab_it i) (ab_nx i) L st))
  | .invokespecial _ => if ab_it i = 9 then ab_pr st fun r st => ab_few st (if 16 ≤ r then K (ab_nx i) L st h else none)
      else ab_popn (ab_ib i) st [] fun as st => ab_fit ((ab_is i).getD 1 0) as (ab_few st (ab_pr as fun r _ => if 16 ≤ r then C (ab_ia i) as h (ab_it i) (ab_nx i) L st else none))
  | .tableswitch _ _ _ _ => ab_pi st fun x st => ab_sw (ab_is i) (ab_iv i) x (ab_ia i) fun pc => K pc L st h
  | .ireturn => (match st with
    | [.int x] => ab_chk (ab_it i) x (Rt (some (.int x)) h)
    | _ => none)
  | .lreturn => (match st with
    | [.long x] => Rt (some (.long x)) h
    | _ => none)
  | .return_ => (match st with
    | [] => Rt none h
    | _ => none)
  | _ => none
end
