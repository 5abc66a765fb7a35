/-! A small machine beside the JVM: the same instructions over a plain heap (numbers, longs and references by address and place). Its runs are tied to the JVM's in 03; all else is said of it. -/
abbrev MH : Type := Nat × Nat × (Nat → Nat) × (Nat → Nat) × (Nat → Nat → Int32) × (Nat → Nat → Int64) × (Nat → Nat → Option Nat)
/-- how many cells there are; how many slots were made; the kind of a cell; its length; its numbers, longs, references -/
def hT (h : MH) : Nat := h.1
def hS (h : MH) : Nat := h.2.1
def hC (h : MH) : Nat → Nat := h.2.2.1
def hN (h : MH) : Nat → Nat := h.2.2.2.1
def hI (h : MH) : Nat → Nat → Int32 := h.2.2.2.2.1
def hL (h : MH) : Nat → Nat → Int64 := h.2.2.2.2.2.1
def hR (h : MH) : Nat → Nat → Option Nat := h.2.2.2.2.2.2
def up2 {α : Type} (f : Nat → Nat → α) (a k : Nat) (v : α) : Nat → Nat → α := fun b j => if b = a then (if j = k then v else f b j) else f b j
def up1 {α : Type} (f : Nat → α) (a : Nat) (v : α) : Nat → α := fun b => if b = a then v else f b
def sI (h : MH) (a k : Nat) (v : Int32) : MH := (hT h, hS h, hC h, hN h, up2 (hI h) a k v, hL h, hR h)
def sL (h : MH) (a k : Nat) (v : Int64) : MH := (hT h, hS h, hC h, hN h, hI h, up2 (hL h) a k v, hR h)
def sR (h : MH) (a k : Nat) (v : Nat) : MH := (hT h, hS h, hC h, hN h, hI h, hL h, up2 (hR h) a k (some v))
/-- a new cell: a kind, a length -/
def nw (h : MH) (tag n : Nat) : MH := (hT h + 1, hS h + n, up1 (hC h) (hT h) tag, up1 (hN h) (hT h) n, up1 (hI h) (hT h) (fun _ => 0), up1 (hL h) (hT h) (fun _ => 0), up1 (hR h) (hT h) (fun _ => none))
/-- an array's numbers copied over another's -/
def cpI (h : MH) (a sp b dp n : Nat) : MH := (hT h, hS h, hC h, hN h, up1 (hI h) b (va_cpy (hI h a) (hI h b) sp dp n), hL h, hR h)
/-- an outer array of n rows, each of k numbers -/
def nwRows (h : MH) (tag n k : Nat) : MH := (hT h + 1 + n, hS h + n + n * k, fun a => if a = hT h then tag else if hT h < a ∧ a < hT h + 1 + n then 20 else hC h a, fun a => if a = hT h then n else if hT h < a ∧ a < hT h + 1 + n then k else hN h a, fun a => if hT h ≤ a ∧ a < hT h + 1 + n then (fun _ => 0) else hI h a, fun a => if hT h ≤ a ∧ a < hT h + 1 + n then (fun _ => 0) else hL h a, fun a => if a = hT h then (fun i => if i < n then some (hT h + 1 + i) else none) else if hT h < a ∧ a < hT h + 1 + n then (fun _ => none) else hR h a)

abbrev Ent : Type := Instr × Nat × List Nat
abbrev MRes : Type := Option (Option Value × MH)
abbrev MLoc : Type := List (Option Value)
abbrev MRec : Type := Nat → Nat → Nat → MLoc → List Value → MH → MRes
def mI (n : Nat) : Int32 := Int32.ofInt (-(n : Int))
def kc : List Nat → Int32
  | 1 :: n :: _ => nI n
  | 0 :: n :: _ => mI n
  | _ => 0
def cI (v : Int) : Int32 := match v with
  | .ofNat n => nI n
  | .negSucc n => mI (n + 1)
def nth {α : Type} : List α → Nat → Option α
  | [], _ => none
  | x :: _, 0 => some x
  | _ :: l, n + 1 => nth l n
def dlg (x : Option Value) : Option Value := match x with
  | some (.long _) => none
  | some (.double _) => none
  | y => y
def st1 : MLoc → Nat → Value → MLoc
  | [], _, _ => []
  | _ :: l, 0, v => some v :: l
  | x :: l, 1, v => dlg x :: st1 l 0 v
  | x :: l, n + 2, v => x :: st1 l (n + 1) v
def st2 : MLoc → Nat → Value → MLoc
  | _ :: _ :: l, 0, v => some v :: none :: l
  | x :: l, 1, v => dlg x :: st2 l 0 v
  | x :: l, n + 2, v => x :: st2 l (n + 1) v
  | _, _, _ => []
def msk : List Nat → MLoc → MLoc
  | 0 :: m, _ :: l => none :: msk m l
  | _ :: m, x :: l => x :: msk m l
  | _, l => l
def entl : List Value → Nat → MLoc
  | [], n => List.replicate n none
  | .long x :: vs, n => some (.long x) :: none :: entl vs (n - 2)
  | .double x :: vs, n => some (.double x) :: none :: entl vs (n - 2)
  | v :: vs, n => some v :: entl vs (n - 1)
def popn : Nat → List Value → List Value → Option (List Value × List Value)
  | 0, st, acc => some (acc, st)
  | n + 1, v :: st, acc => popn n st (v :: acc)
  | _, [], _ => none
def csum : List Value → Nat
  | [] => 0
  | v :: l => v.category + csum l
def pI (st : List Value) (k : Int32 → List Value → MRes) : MRes := match st with
  | .int x :: s => k x s
  | _ => none
def pL (st : List Value) (k : Int64 → List Value → MRes) : MRes := match st with
  | .long x :: s => k x s
  | _ => none
def pR (st : List Value) (k : Nat → List Value → MRes) : MRes := match st with
  | .ref x :: s => k x s
  | _ => none
def lI (ls : MLoc) (i : Nat) (k : Int32 → MRes) : MRes := match nth ls i with
  | some (some (.int x)) => k x
  | _ => none
def lL (ls : MLoc) (i : Nat) (k : Int64 → MRes) : MRes := match nth ls i with
  | some (some (.long x)) => k x
  | _ => none
def lR (ls : MLoc) (i : Nat) (k : Nat → MRes) : MRes := match nth ls i with
  | some (some (.ref x)) => k x
  | _ => none
/-- a cell is of a kind; an index lies in it; a reference isn't null; a divisor isn't 0; the stack is low -/
def isC (h : MH) (a tag : Nat) (k : MRes) : MRes := if hC h a = tag then k else none
/-- a text constant's bytes: they lie at 100 and on -/
def isB (h : MH) (a : Nat) (k : MRes) : MRes := if 30 ≤ hC h a ∧ hR h a 77 = some 1 then k else none
def inA (h : MH) (a : Nat) (i : Int32) (k : MRes) : MRes := if i < 0 ∨ hN h a ≤ i.toNatClampNeg then none else k
def nnR (r : Option Nat) (k : Nat → MRes) : MRes := match r with
  | some x => k x
  | none => none
def nz (y : Int32) (k : MRes) : MRes := if y = 0 then none else k
def isZ (x : Int32) (k : MRes) : MRes := if x &&& 1 = x then k else none
def low (n : Nat) (k : MRes) : MRes := match Nat.ble n 8 with
  | true => k
  | false => none
def okN (n : Int32) (k : Nat → MRes) : MRes := if n < 0 ∨ 4096 < n.toNatClampNeg then none else k n.toNatClampNeg
/-- what a call gives back: nothing, a number, a long, a reference -/
def rV (r : MRes) (k : MH → MRes) : MRes := match r with
  | some (none, h) => k h
  | _ => none
def rI (r : MRes) (k : Int32 → MH → MRes) : MRes := match r with
  | some (some (.int x), h) => k x h
  | _ => none
def rR (r : MRes) (k : Nat → MH → MRes) : MRes := match r with
  | some (some (.ref x), h) => k x h
  | _ => none
def br (c : Prop) [Decidable c] (a b : MRes) : MRes := if c then a else b
def jsw : List (Int × Nat) → Int32 → Nat → (Nat → MRes) → MRes
  | [], _, d, k => k d
  | (v, t) :: l, x, d, k => br (x = cI v) (k t) (jsw l x d k)
def tbk (lo : Int) : List Nat → List (Int × Nat)
  | [] => []
  | t :: l => (lo, t) :: tbk (lo + 1) l
def lkk : List (Int × Int) → List Nat → List (Int × Nat)
  | p :: ps, t :: l => (p.1, t) :: lkk ps l
  | _, _ => []
def jmp (K : Nat → MLoc → List Value → MH → MRes) (rec : MRec) (M d : Nat) (inf : List Nat) (ls : MLoc) (st : List Value) (h : MH) : MRes := match inf with
  | 1 :: s :: _ => K s ls st h
  | 0 :: t :: m => rec M d t (msk m ls) st h
  | _ => none
def ccond (c : ClassFile.Cond) (x y : Int32) (a b : MRes) : MRes := match c with
  | .eq => br (x = y) a b
  | .ne => br (x = y) b a
  | .lt => br (x < y) a b
  | .ge => br (x < y) b a
  | .gt => br (y < x) a b
  | .le => br (y < x) b a
def narI (k : Nat) (x : Int32) (c : MRes) : MRes := match k with
  | 0 => c
  | 1 => isZ x c
  | 2 => if x.toInt8.toInt32 = x then c else none
  | _ => if x.toUInt32.toUInt16.toUInt32.toInt32 = x then c else none
def anyR (r : Option Nat) (k : Value → MRes) : MRes := match r with
  | some x => k (.ref x)
  | none => k .null
def getF (h : MH) (a tag k kd : Nat) (c : Value → MRes) : MRes := isC h a tag (match kd with
  | 0 => c (.int (hI h a k))
  | 1 => c (.long (hL h a k))
  | _ => nnR (hR h a k) (fun r => c (.ref r)))
def putF (h : MH) (tag k kd : Nat) (st : List Value) (c : List Value → MH → MRes) : MRes := match kd with
  | 0 => pI st fun x st => pR st fun a st => isC h a tag (c st (sI h a k x))
  | 1 => pL st fun x st => pR st fun a st => isC h a tag (c st (sL h a k x))
  | 2 => pR st fun r st => pR st fun a st => isC h a tag (c st (sR h a k r))
  | _ => pI st fun x st => pR st fun a st => isC h a tag (isZ x (c st (sI h a k x)))
def aldF (h : MH) (tag : Nat) (st : List Value) (c : Nat → Nat → List Value → MRes) : MRes :=
  pI st fun i st => pR st fun a st => isC h a tag (inA h a i (c a i.toNatClampNeg st))
/-- a call: its kind (0 static, 1 virtual, 2 a constructor), the method, how many arguments, what comes back, the callee's locals, the receiver's kind -/
def rtn (rk : Nat) (r : MRes) (st : List Value) (c : List Value → MH → MRes) : MRes := match rk with
  | 0 => rV r (fun h => c st h)
  | 1 => rI r (fun x h => c (.int x :: st) h)
  | _ => rR r (fun x h => c (.ref x :: st) h)
def dth (dd d : Nat) (k : Nat → MRes) : MRes := match dd with
  | 0 => k 0
  | 1 => k d
  | _ => if d < 8 then k (d + 1) else none
def fit (n m : Nat) (k : MRes) : MRes := match Nat.ble n m with
  | true => k
  | false => none
def callF (rec : MRec) (d : Nat) (inf : List Nat) (st : List Value) (h : MH) (c : List Value → MH → MRes) : MRes := match inf with
  | kd :: mid :: n :: rk :: nl :: tag :: dd :: _ => match popn n st [] with
    | some (as, st) => match kd with
      | 0 => fit (csum as) nl (low (csum st) (dth dd d fun e => rtn rk (rec mid e 0 (entl as nl) [] h) st c))
      | 1 => pR st fun a st => isC h a tag (fit (1 + csum as) nl (low (csum st) (dth dd d fun e => rtn rk (rec mid e 0 (entl (.ref a :: as) nl) [] h) st c)))
      | 2 => pR st fun a st => fit (1 + csum as) nl (low (csum st) (dth dd d fun e => rtn rk (rec mid e 0 (entl (.ref a :: as) nl) [] h) st c))
      | _ => none
    | none => none
  | _ => none
def copyF (h : MH) (st : List Value) (c : List Value → MH → MRes) : MRes :=
  pI st fun n st => pI st fun dp st => pR st fun b st => pI st fun sp st => pR st fun a st =>
    isC h a 20 (isC h b 20 (low (csum st) (if n < 0 ∨ dp < 0 ∨ sp < 0 ∨ hN h a < sp.toNatClampNeg + n.toNatClampNeg ∨ hN h b < dp.toNatClampNeg + n.toNatClampNeg then none else c st (cpI h a sp.toNatClampNeg b dp.toNatClampNeg n.toNatClampNeg))))
def newsF (h : MH) (tag : Nat) (st : List Value) (c : List Value → MH → MRes) : MRes := pI st fun n st => okN n fun N => c (.ref (hT h) :: st) (nw h tag N)
def dup2F (st : List Value) (c : List Value → MRes) : MRes := match st with
  | .int x :: .ref a :: s => c (.int x :: .ref a :: .int x :: .ref a :: s)
  | _ => none
def dupF (st : List Value) (c : List Value → MRes) : MRes := match st with
  | .int x :: s => c (.int x :: .int x :: s)
  | .ref x :: s => c (.ref x :: .ref x :: s)
  | _ => none
def popF (st : List Value) (c : List Value → MRes) : MRes := match st with
  | .int _ :: s => c s
  | .ref _ :: s => c s
  | _ => none
/-- one instruction; K goes on behind it (so many entries further) -/
def stp (K : Nat → MLoc → List Value → MH → MRes) (rec : MRec) (M d : Nat) (ins : Instr) (inf : List Nat) (ls : MLoc) (st : List Value) (h : MH) : MRes := match ins with
  | .nop => match inf with
    | t :: m => rec M d t (msk m ls) st h
    | [] => none
  | .iconst _ => K 0 ls (.int (kc inf) :: st) h
  | .bipush _ => K 0 ls (.int (kc inf) :: st) h
  | .sipush _ => K 0 ls (.int (kc inf) :: st) h
  | .ldc _ => match inf with
    | 98 :: k :: _ => nnR (hR h 0 k) fun a => K 0 ls (.ref a :: st) h
    | l => K 0 ls (.int (kc l) :: st) h
  | .ldc_w _ => K 0 ls (.int (kc inf) :: st) h
  | .ldc2_w _ => match inf with
    | n :: _ => K 0 ls (.long (lN n) :: st) h
    | [] => none
  | .lconst n => K 0 ls (.long (lN n) :: st) h
  | .iload_n n => lI ls n fun x => K 0 ls (.int x :: st) h
  | .iload n => lI ls n fun x => K 0 ls (.int x :: st) h
  | .lload_n n => lL ls n fun x => K 0 ls (.long x :: st) h
  | .lload n => lL ls n fun x => K 0 ls (.long x :: st) h
  | .aload_n n => lR ls n fun x => K 0 ls (.ref x :: st) h
  | .aload n => lR ls n fun x => K 0 ls (.ref x :: st) h
  | .istore_n n => pI st fun x st => K 0 (st1 ls n (.int x)) st h
  | .istore n => pI st fun x st => K 0 (st1 ls n (.int x)) st h
  | .astore_n n => pR st fun x st => K 0 (st1 ls n (.ref x)) st h
  | .astore n => pR st fun x st => K 0 (st1 ls n (.ref x)) st h
  | .lstore_n n => pL st fun x st => K 0 (st2 ls n (.long x)) st h
  | .lstore n => pL st fun x st => K 0 (st2 ls n (.long x)) st h
  | .iinc n _ => lI ls n fun x => K 0 (st1 ls n (.int (x + kc inf))) st h
  | .iadd => pI st fun y st => pI st fun x st => K 0 ls (.int (x + y) :: st) h
  | .isub => pI st fun y st => pI st fun x st => K 0 ls (.int (x - y) :: st) h
  | .imul => pI st fun y st => pI st fun x st => K 0 ls (.int (x * y) :: st) h
  | .idiv => pI st fun y st => pI st fun x st => nz y (K 0 ls (.int (x / y) :: st) h)
  | .irem => pI st fun y st => pI st fun x st => nz y (K 0 ls (.int (x - x / y * y) :: st) h)
  | .iand => pI st fun y st => pI st fun x st => K 0 ls (.int (x &&& y) :: st) h
  | .ior => pI st fun y st => pI st fun x st => K 0 ls (.int (x ||| y) :: st) h
  | .ixor => pI st fun y st => pI st fun x st => K 0 ls (.int (x ^^^ y) :: st) h
  | .ishl => pI st fun y st => pI st fun x st => K 0 ls (.int (x <<< (y &&& 31)) :: st) h
  | .ishr => pI st fun y st => pI st fun x st => K 0 ls (.int (x >>> (y &&& 31)) :: st) h
  | .iushr => pI st fun y st => pI st fun x st => K 0 ls (.int (x.toUInt32 >>> (y.toUInt32 &&& Int32.toUInt32 31)).toInt32 :: st) h
  | .i2b => pI st fun x st => K 0 ls (.int x.toInt8.toInt32 :: st) h
  | .i2c => pI st fun x st => K 0 ls (.int (x.toUInt32 % 65536).toInt32 :: st) h
  | .i2l => pI st fun x st => K 0 ls (.long x.toInt64 :: st) h
  | .lshl => pI st fun y st => pL st fun x st => K 0 ls (.long (x <<< (y.toInt64 &&& 63)) :: st) h
  | .lor => pL st fun y st => pL st fun x st => K 0 ls (.long (x ||| y) :: st) h
  | .lcmp => pL st fun y st => pL st fun x st => K 0 ls (.int (lg_cmp x y) :: st) h
  | .dup => dupF st fun st => K 0 ls st h
  | .pop => popF st fun st => K 0 ls st h
  | .dup2 => dup2F st fun st => K 0 ls st h
  | .goto _ => jmp K rec M d inf ls st h
  | .ifCond c _ => pI st fun x st => ccond c x (nI 0) (jmp K rec M d inf ls st h) (K 0 ls st h)
  | .if_icmp c _ => pI st fun y st => pI st fun x st => ccond c x y (jmp K rec M d inf ls st h) (K 0 ls st h)
  | .ifnull _ => pR st fun _ st => K 0 ls st h
  | .ifnonnull _ => pR st fun _ st => jmp K rec M d inf ls st h
  | .tableswitch _ lo _ _ => match inf with
    | df :: ts => pI st fun x st => jsw (tbk lo ts) x df fun t => K t ls st h
    | [] => none
  | .lookupswitch _ ps => match inf with
    | df :: ts => pI st fun x st => jsw (lkk ps.toList ts) x df fun t => K t ls st h
    | [] => none
  | .getfield _ => match inf with
    | tag :: k :: kd :: _ => pR st fun a st => getF h a tag k kd fun v => K 0 ls (v :: st) h
    | _ => none
  | .getstatic _ => match inf with
    | 98 :: k :: _ => anyR (hR h 0 k) fun v => K 0 ls (v :: st) h
    | l => K 0 ls (.int (kc l) :: st) h
  | .putfield _ => match inf with
    | tag :: k :: kd :: _ => putF h tag k kd st fun st h => K 0 ls st h
    | _ => none
  | .new _ => match inf with
    | tag :: n :: _ => K 0 ls (.ref (hT h) :: st) (nw h tag n)
    | _ => none
  | .newarray _ => match inf with
    | tag :: _ => newsF h tag st fun st h => K 0 ls st h
    | _ => none
  | .anewarray _ => match inf with
    | tag :: _ => newsF h tag st fun st h => K 0 ls st h
    | _ => none
  | .multianewarray _ _ => match inf with
    | tag :: _ => pI st fun k st => pI st fun n st => okN k fun K' => okN n fun N => K 0 ls (.ref (hT h) :: st) (nwRows h tag N K')
    | _ => none
  | .arraylength => match inf with
    | 31 :: _ => pR st fun a st => isB h a (K 0 ls (.int (nI (hN h a)) :: st) h)
    | tag :: _ => pR st fun a st => isC h a tag (K 0 ls (.int (nI (hN h a)) :: st) h)
    | _ => none
  | .iaload => match inf with
    | tag :: _ => aldF h tag st fun a i st => K 0 ls (.int (hI h a i) :: st) h
    | _ => none
  | .baload => match inf with
    | 31 :: _ => pI st fun i st => pR st fun a st => isB h a (inA h a i (K 0 ls (.int (hI h a (100 + i.toNatClampNeg)) :: st) h))
    | tag :: _ => aldF h tag st fun a i st => K 0 ls (.int (hI h a i) :: st) h
    | _ => none
  | .laload => aldF h 22 st fun a i st => K 0 ls (.long (hL h a i) :: st) h
  | .aaload => match inf with
    | tag :: _ => aldF h tag st fun a i st => nnR (hR h a i) fun r => K 0 ls (.ref r :: st) h
    | _ => none
  | .iastore => pI st fun x st => aldF h 20 st fun a i st => K 0 ls st (sI h a i x)
  | .bastore => match inf with
    | 21 :: _ => pI st fun x st => aldF h 21 st fun a i st => K 0 ls st (sI h a i x.toInt8.toInt32)
    | _ => pI st fun x st => aldF h 23 st fun a i st => K 0 ls st (sI h a i (x &&& 1))
  | .lastore => pL st fun x st => aldF h 22 st fun a i st => K 0 ls st (sL h a i x)
  | .aastore => match inf with
    | tag :: ct :: _ => pR st fun x st => aldF h tag st fun a i st => isC h x ct (K 0 ls st (sR h a i x))
    | _ => none
  | .invokestatic _ => match inf with
    | 6 :: _ => copyF h st fun st h => K 0 ls st h
    | 4 :: _ => pI st fun y st => pI st fun x st => low (csum st) (K 0 ls (.int (if x < y then y else x) :: st) h)
    | 5 :: _ => pI st fun y st => pI st fun x st => low (csum st) (K 0 ls (.int (if y < x then y else x) :: st) h)
    | l => callF rec d l st h fun st h => K 0 ls st h
  | .invokevirtual _ => callF rec d inf st h fun st h => K 0 ls st h
  | .invokespecial _ => match inf with
    | 3 :: _ => pR st fun _ st => low (csum st) (K 0 ls st h)
    | l => callF rec d l st h fun st h => K 0 ls st h
  | .ireturn => match inf with
    | k :: _ => pI st fun x st => match st with
      | [] => narI k x (some (some (.int x), h))
      | _ => none
    | _ => none
  | .areturn => pR st fun x st => match st with
    | [] => some (some (.ref x), h)
    | _ => none
  | .return_ => match st with
    | [] => some (none, h)
    | _ => none
  | _ => none
def blk (rec : MRec) (M d : Nat) : Nat → List Ent → MLoc → List Value → MH → MRes
  | _, [], _, _, _ => none
  | s + 1, _ :: c, ls, st, h => blk rec M d s c ls st h
  | 0, e :: c, ls, st, h => stp (fun s ls st h => blk rec M d s c ls st h) rec M d e.1 e.2.2 ls st h
/-- a method: its name, its bytes, its locals, what comes back, its level, the step of its levels, places of its words, its code -/
abbrev Mth : Type := MethodName × ByteArray × Nat × Option FieldType × Nat × Nat × List Nat × List Ent
abbrev Mth.code (t : Mth) : List Ent := t.2.2.2.2.2.2.2
def blkM (Pg : Nat → Option Mth) (rec : MRec) (M d i : Nat) (ls : MLoc) (st : List Value) (h : MH) : MRes := match Pg M with
  | some t => blk rec M d i t.code ls st h
  | none => none
def runM (Pg : Nat → Option Mth) : Nat → MRec
  | 0, _, _, _, _, _, _ => none
  | n + 1, M, d, i, ls, st, h => blkM Pg (runM Pg n) M d i ls st h
/-- what comes of a run that ends -/
noncomputable def evM (Pg : Nat → Option Mth) (M d i : Nat) (ls : MLoc) (st : List Value) (h : MH) : MRes :=
  @dite _ (∃ n r, runM Pg n M d i ls st h = some r) (Classical.propDecidable _) (fun e => some e.choose_spec.choose) (fun _ => none)
/-- a word of the tables, by its place; the bytes that one tells -/
def wd (j i : Nat) : Option Cond := match j with
  | 0 => (k2_sels lw_privs)[i]?
  | 1 => tables_1_1[i]?
  | 2 => tables_1_2[i]?
  | 3 => tables_1_3[i]?
  | 4 => tables_1_4[i]?
  | 5 => tables_1_5[i]?
  | 6 => tables_1_6[i]?
  | 7 => tables_1_7[i]?
  | 8 => tables_1_8[i]?
  | 9 => tables_1_9[i]?
  | _ => none
def bw (j i : Nat) : ByteArray := match wd j i with
  | some (.code _ b _ _) => b
  | _ => ⟨#[]⟩
