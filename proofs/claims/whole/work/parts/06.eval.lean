/-! ===== a pure machine: what the code of the class files does to a heap of numbered cells; 0 is null, 1 the script ===== -/
/-- (cells made, slots made); what kind and how long each is; its whole numbers; its references -/
abbrev PH : Type := (Nat × Nat) × (Nat → Nat × Nat) × (Nat → Nat → Int32) × (Nat → Nat → Nat)
abbrev LSt : Type := List (Option Value)
def nx (h : PH) : Nat := h.1.1
def sl (h : PH) : Nat := h.1.2
def tg (h : PH) (k : Nat) : Nat := (h.2.1 k).1
def ln (h : PH) (k : Nat) : Nat := (h.2.1 k).2
def gI (h : PH) (a j : Nat) : Int32 := h.2.2.1 a j
def gR (h : PH) (a j : Nat) : Nat := h.2.2.2 a j
def sI (h : PH) (a j : Nat) (x : Int32) : PH := (h.1, h.2.1, (fun b i => if b = a ∧ i = j then x else h.2.2.1 b i), h.2.2.2)
def sR (h : PH) (a j r : Nat) : PH := (h.1, h.2.1, h.2.2.1, fun b i => if b = a ∧ i = j then r else h.2.2.2 b i)
def mkc (h : PH) (t n w : Nat) : PH := ((h.1.1 + 1, h.1.2 + w), (fun k => if k = h.1.1 then (t, n) else h.2.1 k), (fun b i => if b = h.1.1 then 0 else h.2.2.1 b i), fun b i => if b = h.1.1 then 0 else h.2.2.2 b i)
def cpI (h : PH) (a b sp dp n : Nat) : PH := (h.1, h.2.1, (fun c i => if c = b ∧ dp ≤ i ∧ i < dp + n then h.2.2.1 a (sp + (i - dp)) else h.2.2.1 c i), h.2.2.2)
abbrev ix (i : Int32) : Nat := i.toNatClampNeg
def inb (i : Int32) (n : Nat) : Prop := 0 ≤ i ∧ i.toNatClampNeg < n
def lget : LSt → Nat → Option Value
  | [], _ => none
  | x :: _, 0 => x
  | _ :: l, n + 1 => lget l n
def nlong : Option Value → Option Value
  | some (.long _) => none
  | some (.double _) => none
  | x => x
def lset : LSt → Nat → Value → LSt
  | [], _, _ => []
  | _ :: l, 0, v => some v :: l
  | x :: l, n + 1, v => (match n with | 0 => nlong x | _ => x) :: lset l n v
def lclr : LSt → Nat → LSt
  | [], _ => []
  | _ :: l, 0 => none :: l
  | x :: l, n + 1 => x :: lclr l n
def entryL : Nat → List Value → LSt
  | n, [] => List.replicate n none
  | n, .long x :: l => some (.long x) :: none :: entryL (n - 2) l
  | n, v :: l => some v :: entryL (n - 1) l
abbrev Cfg : Type := PH × Nat × LSt × List Value
/-- goes on | calls: method, arguments, where it goes on | answers -/
abbrev Res : Type := Option (Cfg ⊕ (Nat × List Value × Nat × LSt × List Value) ⊕ Option Value)
def nxt (h : PH) (pc : Nat) (ls : LSt) (st : List Value) : Res := some (.inl (h, pc, ls, st))
def stk (h : PH) (pc : Nat) (ls : LSt) (o : Option (List Value)) : Res := match o with
  | some st => nxt h pc ls st
  | none => none
def ck (len k : Nat) (r : Res) : Res := if len = k then r else none
def bI (f : Int32 → Int32 → Int32) : List Value → Option (List Value)
  | .int y :: .int x :: r => some (.int (f x y) :: r)
  | _ => none
def bId (f : Int32 → Int32 → Int32) : List Value → Option (List Value)
  | .int y :: .int x :: r => if y = 0 then none else some (.int (f x y) :: r)
  | _ => none
def bL (f : Int64 → Int64 → Int64) : List Value → Option (List Value)
  | .long y :: .long x :: r => some (.long (f x y) :: r)
  | _ => none
def bLd (f : Int64 → Int64 → Int64) : List Value → Option (List Value)
  | .long y :: .long x :: r => if y = 0 then none else some (.long (f x y) :: r)
  | _ => none
def jmp (h : PH) (pc : Nat) (ls : LSt) (st : List Value) (off : Int) : Res := if 0 ≤ (pc : Int) + off then nxt h ((pc : Int) + off).toNat ls st else none
def br (h : PH) (pc : Nat) (ls : LSt) (st : List Value) (off : Int) (b : Bool) : Res := if 0 ≤ (pc : Int) + off then (match b with
  | true => nxt h ((pc : Int) + off).toNat ls st
  | false => nxt h (pc + 3) ls st) else none
def ifc (c : Jvm.ClassFile.Cond) (x y : Int32) : Bool := match c with
  | .eq => decide (x = y)
  | .ne => decide (¬ x = y)
  | .lt => decide (x < y)
  | .ge => decide (y ≤ x)
  | .gt => decide (y < x)
  | .le => decide (x ≤ y)
def ldI (h : PH) (pc : Nat) (ls : LSt) (st : List Value) (i : Nat) : Res := match lget ls i with
  | some (.int x) => nxt h pc ls (.int x :: st)
  | _ => none
def ldL (h : PH) (pc : Nat) (ls : LSt) (st : List Value) (i : Nat) : Res := match lget ls i with
  | some (.long x) => nxt h pc ls (.long x :: st)
  | _ => none
def ldA (h : PH) (pc : Nat) (ls : LSt) (st : List Value) (i : Nat) : Res := match lget ls i with
  | some (.ref x) => nxt h pc ls (.ref x :: st)
  | _ => none
def soI (M : Nat) (h : PH) (pc : Nat) (ls : LSt) (st : List Value) (i : Nat) : Res := match st with
  | .int x :: r => if i < mxl M then nxt h pc (lset ls i (.int x)) r else none
  | _ => none
def soL (M : Nat) (h : PH) (pc : Nat) (ls : LSt) (st : List Value) (i : Nat) : Res := match st with
  | .long x :: r => if i + 1 < mxl M then nxt h pc (lclr (lset ls i (.long x)) (i + 1)) r else none
  | _ => none
def soA (M : Nat) (h : PH) (pc : Nat) (ls : LSt) (st : List Value) (i : Nat) : Res := match st with
  | .ref x :: r => if i < mxl M then nxt h pc (lset ls i (.ref x)) r else none
  | _ => none
def catS (st : List Value) : Nat := (st.map fun v => v.category).sum
def popN (n : Nat) (st : List Value) : Option (List Value × List Value) := if n ≤ st.length then some ((st.take n).reverse, st.drop n) else none
def fitM (M M' : Nat) : Bool := Nat.ble (frm M' + 1) (frm M) && Nat.ble (8 + (mxl M' + 11) + lom M') (lom M)
/-- abstract values: whole numbers and references alone -/
def okV : Value → Bool
  | .int _ => true
  | .long _ => true
  | .ref _ => true
  | _ => false
def argOK (M : Nat) (as : List Value) : Bool := Nat.ble (catS as) (mxl M) && as.all okV
def goCall (M M' : Nat) (as : List Value) (pc : Nat) (ls : LSt) (r : List Value) : Res := if fitM M M' = true ∧ catS r ≤ 8 ∧ argOK M' as = true then some (.inr (.inl (M', as, pc, ls, r))) else none
def invV (M : Nat) (h : PH) (pc : Nat) (ls : LSt) (st : List Value) (i : Nat) : Res := match lk2 (ownOf M) i calL with
  | some (0, n, tgs) => match popN n st with
    | some (as, .ref a :: r) => match find1 (tg h a) tgs with
      | some M' => goCall M M' (.ref a :: as) (pc + 3) ls r
      | none => none
    | _ => none
  | _ => none
def invP (M : Nat) (h : PH) (pc : Nat) (ls : LSt) (st : List Value) (i : Nat) : Res := match lk2 (ownOf M) i calL with
  | some (6, _, _) => match st with
    | .ref a :: r => if a ≠ 0 ∧ 1 ≤ frm M ∧ catS r + 12 ≤ lom M then nxt h (pc + 3) ls r else none
    | _ => none
  | some (3, n, (_, M') :: _) => match popN n st with
    | some (as, .ref a :: r) => if 1 ≤ tg h a ∧ tg h a ≤ 12 then goCall M M' (.ref a :: as) (pc + 3) ls r else none
    | _ => none
  | some (k, n, (_, M') :: _) => if k = 1 ∨ k = 2 then (match popN n st with
    | some (as, .ref a :: r) => if a ≠ 0 then goCall M M' (.ref a :: as) (pc + 3) ls r else none
    | _ => none) else none
  | _ => none
def invS (M : Nat) (h : PH) (pc : Nat) (ls : LSt) (st : List Value) (i : Nat) : Res := match lk2 (ownOf M) i calL with
  | some (7, _, _) => match st with
    | .int y :: .int x :: r => if 1 ≤ frm M ∧ catS r + 13 ≤ lom M then nxt h (pc + 3) ls (.int (if x < y then y else x) :: r) else none
    | _ => none
  | some (8, _, _) => match st with
    | .int y :: .int x :: r => if 1 ≤ frm M ∧ catS r + 13 ≤ lom M then nxt h (pc + 3) ls (.int (if y < x then y else x) :: r) else none
    | _ => none
  | some (9, _, _) => match st with
    | .int n :: .int dp :: .ref b :: .int sp :: .ref a :: r =>
      if (tg h a = 100 ∧ tg h b = 100 ∧ a ≠ b ∧ 1 ≤ frm M ∧ catS r + 18 ≤ lom M) ∧ (0 ≤ sp ∧ 0 ≤ dp ∧ 0 ≤ n) ∧ ix sp + ix n ≤ ln h a ∧ ix dp + ix n ≤ ln h b then nxt (cpI h a b (ix sp) (ix dp) (ix n)) (pc + 3) ls r else none
    | _ => none
  | some (k, n, (_, M') :: _) => if k = 4 ∨ k = 5 then (match popN n st with
    | some (as, r) => goCall M M' as (pc + 3) ls r
    | _ => none) else none
  | _ => none
def gfld (M : Nat) (h : PH) (pc : Nat) (ls : LSt) (st : List Value) (i : Nat) : Res := match lk2 (ownOf M) i fldL with
  | some (k, ty, _, cs) => match st with
    | .ref a :: r => if memB (tg h a) cs = true then nxt h (pc + 3) ls ((if ty = 2 then .ref (gR h a k) else .int (gI h a k)) :: r) else none
    | _ => none
  | none => none
def initM (M : Nat) : Bool := decide ((yOf M).name = "<init>")
def pfld (M : Nat) (h : PH) (pc : Nat) (ls : LSt) (st : List Value) (i : Nat) : Res := match lk2 (ownOf M) i fldL with
  | some (k, ty, put, cs) => match st with
    | .int x :: .ref a :: r => if memB (tg h a) cs = true ∧ (put = 0 ∨ put = 1 ∧ initM M = true) ∧ (ty = 0 ∨ ty = 1 ∧ (x = 0 ∨ x = 1)) then nxt (sI h a k x) (pc + 3) ls r else none
    | .ref b :: .ref a :: r => if memB (tg h a) cs = true ∧ (put = 0 ∨ put = 1 ∧ initM M = true) ∧ ty = 2 then nxt (sR h a k b) (pc + 3) ls r else none
    | _ => none
  | none => none
/-- kinds: 1 .. 12 the classes, 50 the script, 100 a row of ints, 201 .. rows of references to a class -/
def asg (c t : Nat) : Bool := match c with
  | 210 => memB t [1, 2, 6, 7, 9, 10]
  | _ => Nat.beq (200 + t) c && Nat.ble 1 t && Nat.ble t 12
def stepI (M : Nat) (h : PH) (pc : Nat) (ls : LSt) (st : List Value) (i : Instr) (len : Nat) : Res := match i with
  | .iconst n => ck len 1 (nxt h (pc + 1) ls (.int (Int32.ofInt n) :: st))
  | .bipush n => ck len 2 (nxt h (pc + 2) ls (.int (Int8.ofInt n).toInt32 :: st))
  | .sipush n => ck len 3 (nxt h (pc + 3) ls (.int (Int16.ofInt n).toInt32 :: st))
  | .lconst n => ck len 1 (nxt h (pc + 1) ls (.long (Int64.ofNat (n : Nat)) :: st))
  | .aconst_null => ck len 1 (nxt h (pc + 1) ls (.ref 0 :: st))
  | .ldc i => ck len 2 (match lk2 (ownOf M) i cstIL with | some x => nxt h (pc + 2) ls (.int x :: st) | none => none)
  | .ldc_w i => ck len 3 (match lk2 (ownOf M) i cstIL with | some x => nxt h (pc + 3) ls (.int x :: st) | none => none)
  | .ldc2_w i => ck len 3 (match lk2 (ownOf M) i cstLL with | some x => nxt h (pc + 3) ls (.long x :: st) | none => none)
  | .iload i => ck len 2 (ldI h (pc + 2) ls st i)
  | .iload_n i => ck len 1 (ldI h (pc + 1) ls st i)
  | .lload i => ck len 2 (ldL h (pc + 2) ls st i)
  | .lload_n i => ck len 1 (ldL h (pc + 1) ls st i)
  | .aload i => ck len 2 (ldA h (pc + 2) ls st i)
  | .aload_n i => ck len 1 (ldA h (pc + 1) ls st i)
  | .istore i => ck len 2 (soI M h (pc + 2) ls st i)
  | .istore_n i => ck len 1 (soI M h (pc + 1) ls st i)
  | .lstore i => ck len 2 (soL M h (pc + 2) ls st i)
  | .lstore_n i => ck len 1 (soL M h (pc + 1) ls st i)
  | .astore i => ck len 2 (soA M h (pc + 2) ls st i)
  | .astore_n i => ck len 1 (soA M h (pc + 1) ls st i)
  | .iinc i n => ck len 3 (match lget ls i with | some (.int x) => (if i < mxl M then nxt h (pc + 3) (lset ls i (.int (x + Int32.ofInt n))) st else none) | _ => none)
  | .iadd => ck len 1 (stk h (pc + 1) ls (bI (fun x y => x + y) st))
  | .isub => ck len 1 (stk h (pc + 1) ls (bI (fun x y => x - y) st))
  | .imul => ck len 1 (stk h (pc + 1) ls (bI (fun x y => x * y) st))
  | .iand => ck len 1 (stk h (pc + 1) ls (bI (fun x y => x &&& y) st))
  | .ior => ck len 1 (stk h (pc + 1) ls (bI (fun x y => x ||| y) st))
  | .ixor => ck len 1 (stk h (pc + 1) ls (bI (fun x y => x ^^^ y) st))
  | .ishl => ck len 1 (stk h (pc + 1) ls (bI (fun x y => x <<< (y &&& 31)) st))
  | .ishr => ck len 1 (stk h (pc + 1) ls (bI (fun x y => x >>> (y &&& 31)) st))
  | .idiv => ck len 1 (stk h (pc + 1) ls (bId (fun x y => x / y) st))
  | .irem => ck len 1 (stk h (pc + 1) ls (bId (fun x y => x % y) st))
  | .ineg => ck len 1 (match st with | .int x :: r => nxt h (pc + 1) ls (.int (-x) :: r) | _ => none)
  | .ladd => ck len 1 (stk h (pc + 1) ls (bL (fun x y => x + y) st))
  | .lsub => ck len 1 (stk h (pc + 1) ls (bL (fun x y => x - y) st))
  | .lmul => ck len 1 (stk h (pc + 1) ls (bL (fun x y => x * y) st))
  | .ldiv => ck len 1 (stk h (pc + 1) ls (bLd (fun x y => x / y) st))
  | .lrem => ck len 1 (stk h (pc + 1) ls (bLd (fun x y => x - x / y * y) st))
  | .lcmp => ck len 1 (match st with | .long y :: .long x :: r => nxt h (pc + 1) ls (.int (lg_cmp x y) :: r) | _ => none)
  | .i2l => ck len 1 (match st with | .int x :: r => nxt h (pc + 1) ls (.long x.toInt64 :: r) | _ => none)
  | .l2i => ck len 1 (match st with | .long x :: r => nxt h (pc + 1) ls (.int x.toInt32 :: r) | _ => none)
  | .dup => ck len 1 (match st with | .int x :: r => nxt h (pc + 1) ls (.int x :: .int x :: r) | .ref x :: r => nxt h (pc + 1) ls (.ref x :: .ref x :: r) | _ => none)
  | .dup2 => ck len 1 (match st with | .int x :: .ref y :: r => nxt h (pc + 1) ls (.int x :: .ref y :: .int x :: .ref y :: r) | _ => none)
  | .ifCond c off => ck len 3 (match st with | .int x :: r => br h pc ls r off (ifc c x 0) | _ => none)
  | .if_icmp c off => ck len 3 (match st with | .int y :: .int x :: r => br h pc ls r off (ifc c x y) | _ => none)
  | .ifnull off => ck len 3 (match st with | .ref x :: r => br h pc ls r off (Nat.beq x 0) | _ => none)
  | .ifnonnull off => ck len 3 (match st with | .ref x :: r => br h pc ls r off (!Nat.beq x 0) | _ => none)
  | .goto off => ck len 3 (jmp h pc ls st off)
  | .tableswitch d lo hi offs => (match st with
    | .int x :: r => if x.toInt < lo ∨ hi < x.toInt then jmp h pc ls r d else (match offs[(x.toInt - lo).toNat]? with | some off => jmp h pc ls r off | none => none)
    | _ => none)
  | .lookupswitch d ps => (match st with
    | .int x :: r => if (ps.toList.zip (ps.toList.drop 1)).all (fun (a, next) => a.1 < next.1) = true then jmp h pc ls r (Op.lookupswitch.offset ps.toList d x.toInt) else none
    | _ => none)
  | .getfield i => ck len 3 (gfld M h pc ls st i)
  | .putfield i => ck len 3 (pfld M h pc ls st i)
  | .iaload => ck len 1 (match st with | .int i :: .ref a :: r => (if (tg h a = 100 ∨ tg h a = 50) ∧ (0 ≤ i ∧ ix i < ln h a) then nxt h (pc + 1) ls (.int (gI h a (ix i)) :: r) else none) | _ => none)
  | .aaload => ck len 1 (match st with | .int i :: .ref a :: r => (if (201 ≤ tg h a ∧ tg h a ≤ 212) ∧ (0 ≤ i ∧ ix i < ln h a) then nxt h (pc + 1) ls (.ref (gR h a (ix i)) :: r) else none) | _ => none)
  | .iastore => ck len 1 (match st with | .int x :: .int i :: .ref a :: r => (if tg h a = 100 ∧ (0 ≤ i ∧ ix i < ln h a) then nxt (sI h a (ix i) x) (pc + 1) ls r else none) | _ => none)
  | .aastore => ck len 1 (match st with | .ref b :: .int i :: .ref a :: r => (if (201 ≤ tg h a ∧ tg h a ≤ 212) ∧ (0 ≤ i ∧ ix i < ln h a) ∧ (b = 0 ∨ asg (tg h a) (tg h b) = true) then nxt (sR h a (ix i) b) (pc + 1) ls r else none) | _ => none)
  | .arraylength => ck len 1 (match st with | .ref a :: r => (if 50 ≤ tg h a then nxt h (pc + 1) ls (.int (Int32.ofNat (ln h a)) :: r) else none) | _ => none)
  | .new i => ck len 3 (match lk2 (ownOf M) i clsL with | some c => (if c < 12 then nxt (mkc h (c + 1) 0 (nslL.getD c 0)) (pc + 3) ls (.ref (nx h) :: st) else none) | none => none)
  | .newarray t => ck len 2 (match t, st with | .int, .int n :: r => (if 0 ≤ n ∧ ix n ≤ 1000 then nxt (mkc h 100 (ix n) (ix n)) (pc + 2) ls (.ref (nx h) :: r) else none) | _, _ => none)
  | .anewarray i => ck len 3 (match lk2 (ownOf M) i clsL, st with | some c, .int n :: r => (if (c = 2 ∨ c = 3 ∨ c = 9) ∧ 0 ≤ n ∧ ix n ≤ 1000 then nxt (mkc h (201 + c) (ix n) (ix n)) (pc + 3) ls (.ref (nx h) :: r) else none) | _, _ => none)
  | .invokevirtual i => ck len 3 (invV M h pc ls st i)
  | .invokespecial i => ck len 3 (invP M h pc ls st i)
  | .invokestatic i => ck len 3 (invS M h pc ls st i)
  | .return_ => ck len 1 (match st, retOf M with | [], none => some (.inr (.inr none)) | _, _ => none)
  | .ireturn => ck len 1 (match st, retOf M with
    | [.int x], some .int => some (.inr (.inr (some (.int x))))
    | [.int x], some .boolean => (if x = 0 ∨ x = 1 then some (.inr (.inr (some (.int x)))) else none)
    | _, _ => none)
  | .lreturn => ck len 1 (match st, retOf M with | [.long x], some .long => some (.inr (.inr (some (.long x)))) | _, _ => none)
  | .areturn => ck len 1 (match st, retOf M with | [.ref x], some (.object _) => some (.inr (.inr (some (.ref x)))) | _, _ => none)
  | _ => none
def step (M : Nat) (h : PH) (pc : Nat) (ls : LSt) (st : List Value) : Res := match decode (codeOf M) pc with
  | .ok (i, len) => stepI M h pc ls st i len
  | .error _ => none
/-- what a call leaves on the stack, by its kind -/
def aft (k : Nat) (v : Option Value) (st : List Value) : Option (List Value) := match k, v with
  | 0, none => some st
  | 1, some (.int x) => some (.int x :: st)
  | 2, some (.long x) => some (.long x :: st)
  | 3, some (.ref x) => some (.ref x :: st)
  | _, _ => none
def run : Nat → Nat → PH → Nat → LSt → List Value → Option (PH × Option Value)
  | 0, _, _, _, _, _ => none
  | n + 1, M, h, pc, ls, st => match step M h pc ls st with
    | some (.inl (h', pc', ls', st')) => run n M h' pc' ls' st'
    | some (.inr (.inl (M', as, pc', ls', st'))) => match run n M' h 0 (entryL (mxl M') as) [] with
      | some (h', v) => match aft (rkOf M') v st' with
        | some st'' => run n M h' pc' ls' st''
        | none => none
      | none => none
    | some (.inr (.inr v)) => some (h, v)
    | none => none
theorem run_succ : ∀ (n M : Nat) (h : PH) (pc : Nat) (ls : LSt) (st : List Value) (r : PH × Option Value), run n M h pc ls st = some r → run (n + 1) M h pc ls st = some r := by
  intro n
  induction n with
  | zero => intro M h pc ls st r hr; simp [run] at hr
  | succ n ih =>
    intro M h pc ls st r hr
    rw [run] at hr ⊢
    generalize step M h pc ls st = s0 at hr ⊢
    rcases s0 with _ | (⟨h', pc', ls', st'⟩ | ⟨M', as, pc', ls', st'⟩ | v)
    · exact hr
    · exact ih _ _ _ _ _ _ hr
    · dsimp only at hr ⊢
      cases hc : run n M' h 0 (entryL (mxl M') as) [] with
      | none => rw [hc] at hr; cases hr
      | some q =>
        obtain ⟨h', v⟩ := q
        rw [hc] at hr
        rw [ih _ _ _ _ _ _ hc]
        dsimp only at hr ⊢
        cases ha : aft (rkOf M') v st' with
        | none => rw [ha] at hr; cases hr
        | some st'' => rw [ha] at hr; exact ih _ _ _ _ _ _ hr
    · exact hr
theorem run_le {n m M : Nat} {h : PH} {pc : Nat} {ls : LSt} {st : List Value} {r : PH × Option Value} (hnm : n ≤ m) (hr : run n M h pc ls st = some r) : run m M h pc ls st = some r := by
  obtain ⟨k, rfl⟩ := Nat.le.dest hnm
  induction k with
  | zero => exact hr
  | succ k ih => exact run_succ _ _ _ _ _ _ _ (ih (Nat.le_add_right _ _))
/-- the code of method M, from there, comes to its end with K of the heap and the answer -/
def wp (M : Nat) (h : PH) (pc : Nat) (ls : LSt) (st : List Value) (K : PH → Option Value → Prop) : Prop := ∃ (n : Nat) (h' : PH) (v : Option Value), run n M h pc ls st = some (h', v) ∧ K h' v
def cw (M : Nat) (h : PH) (as : List Value) (K : PH → Option Value → Prop) : Prop := wp M h 0 (entryL (mxl M) as) [] K
def tyV (K : PH → Prop) : PH → Option Value → Prop := fun h' v => match v with
  | none => K h'
  | _ => False
def tyI (K : PH → Int32 → Prop) : PH → Option Value → Prop := fun h' v => match v with
  | some (.int x) => K h' x
  | _ => False
def tyL (K : PH → Int64 → Prop) : PH → Option Value → Prop := fun h' v => match v with
  | some (.long x) => K h' x
  | _ => False
def tyA (K : PH → Nat → Prop) : PH → Option Value → Prop := fun h' v => match v with
  | some (.ref x) => K h' x
  | _ => False
def ccV (M : Nat) (h : PH) (as : List Value) (K : PH → Prop) : Prop := cw M h as (tyV K)
def ccI (M : Nat) (h : PH) (as : List Value) (K : PH → Int32 → Prop) : Prop := cw M h as (tyI K)
def ccL (M : Nat) (h : PH) (as : List Value) (K : PH → Int64 → Prop) : Prop := cw M h as (tyL K)
def ccA (M : Nat) (h : PH) (as : List Value) (K : PH → Nat → Prop) : Prop := cw M h as (tyA K)
section Wp
variable {M : Nat} {h : PH} {pc : Nat} {ls : LSt} {st : List Value} {K : PH → Option Value → Prop}
theorem wp_next {h' : PH} {pc' : Nat} {ls' : LSt} {st' : List Value} (hs : step M h pc ls st = nxt h' pc' ls' st') : wp M h pc ls st K = wp M h' pc' ls' st' K := by
  refine propext ⟨fun ⟨n, a, v, hr, hK⟩ => ?_, fun ⟨n, a, v, hr, hK⟩ => ⟨n + 1, a, v, ?_, hK⟩⟩
  · cases n with
    | zero => simp [run] at hr
    | succ n =>
      rw [run, hs] at hr
      exact ⟨n, a, v, hr, hK⟩
  · rw [run, hs]
    exact hr
theorem wp_done {v : Option Value} (hs : step M h pc ls st = some (.inr (.inr v))) : wp M h pc ls st K = K h v := by
  refine propext ⟨fun ⟨n, a, w, hr, hK⟩ => ?_, fun hK => ⟨1, h, v, ?_, hK⟩⟩
  · cases n with
    | zero => simp [run] at hr
    | succ n =>
      rw [run, hs] at hr
      cases hr
      exact hK
  · rw [run, hs]
theorem wp_stuck (hs : step M h pc ls st = none) : wp M h pc ls st K = False := by
  refine propext ⟨fun ⟨n, a, w, hr, hK⟩ => ?_, fun hK => hK.elim⟩
  cases n with
  | zero => simp [run] at hr
  | succ n => rw [run, hs] at hr; cases hr
theorem wp_call {M' : Nat} {as : List Value} {pc' : Nat} {ls' : LSt} {st' : List Value} (hs : step M h pc ls st = some (.inr (.inl (M', as, pc', ls', st')))) :
    wp M h pc ls st K = cw M' h as fun h' v => ∃ st'', aft (rkOf M') v st' = some st'' ∧ wp M h' pc' ls' st'' K := by
  refine propext ⟨fun ⟨n, a, w, hr, hK⟩ => ?_, fun ⟨n, h', v, hr, st'', ha, m, a, w, hr2, hK⟩ => ⟨max n m + 1, a, w, ?_, hK⟩⟩
  · cases n with
    | zero => simp [run] at hr
    | succ n =>
      rw [run, hs] at hr
      dsimp only at hr
      split at hr
      · next h' v hc =>
        split at hr
        · next st'' ha => exact ⟨n, h', v, hc, st'', ha, n, a, w, hr, hK⟩
        · cases hr
      · cases hr
  · rw [run, hs]
    dsimp only
    rw [run_le (Nat.le_max_left n m) hr]
    dsimp only
    rw [ha]
    exact run_le (Nat.le_max_right n m) hr2
/-- what a method comes to is one thing -/
theorem cw_one {as : List Value} {h1 : PH} {v1 : Option Value} (hc : cw M h as fun h' v => h' = h1 ∧ v = v1) (K : PH → Option Value → Prop) : cw M h as K = K h1 v1 := by
  obtain ⟨n, a, v, hr, rfl, rfl⟩ := hc
  refine propext ⟨fun ⟨m, a', v', hr', hK⟩ => ?_, fun hK => ⟨n, a, v, hr, hK⟩⟩
  have e1 := run_le (Nat.le_max_left n m) hr
  have e2 := run_le (Nat.le_max_right n m) hr'
  rw [e1] at e2
  cases e2
  exact hK
theorem cw_imp {as : List Value} {K K' : PH → Option Value → Prop} (hc : cw M h as K) (hi : ∀ h' v, K h' v → K' h' v) : cw M h as K' := by
  obtain ⟨n, a, v, hr, hK⟩ := hc
  exact ⟨n, a, v, hr, hi _ _ hK⟩
theorem wp_imp {K K' : PH → Option Value → Prop} (hc : wp M h pc ls st K) (hi : ∀ h' v, K h' v → K' h' v) : wp M h pc ls st K' := by
  obtain ⟨n, a, v, hr, hK⟩ := hc
  exact ⟨n, a, v, hr, hi _ _ hK⟩
end Wp
