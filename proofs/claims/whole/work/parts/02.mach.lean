/-! ===== THE ABSTRACT MACHINE: what a frame of this program does, over a list of cells (a reference is a place in the list).
Cells: .inl (kind of array, length, contents), .inr (class, fields). .float k stands for a reference that is older than the law's entry (0: the script; 1 + i: String constant i); .retAddr 0 in a local: nothing is known of it. ===== -/
abbrev xA : Type := (Nat × Nat × ((Nat → Int32) ⊕ (Nat → Int64) ⊕ (Nat → Option Nat))) ⊕ (Nat × List Value)
abbrev xH : Type := List xA
abbrev xO : Type := Option (Option Value × xH)
/-- a row of code: pc, instruction, link, locals that are dead there -/
abbrev xR : Type := Nat × Instr × Nat × List Nat
/-- a method: its class, its return kind (0 void, 1 int, 2 boolean, 3 long, 4 reference), 1 if it is static, locals, rows -/
abbrev xM : Type := Nat × Nat × Nat × Nat × List xR
abbrev xJ : Value := .retAddr 0
def xg : List Value → Nat → Value
  | [], _ => xJ
  | v :: _, 0 => v
  | _ :: l, n + 1 => xg l n
def xs : List Value → Nat → Value → List Value
  | [], _, _ => []
  | _ :: l, 0, v => v :: l
  | a :: l, n + 1, v => a :: xs l n v
def xmask : List Nat → List Value → List Value
  | [], l => l
  | i :: is, l => xmask is (xs l i xJ)
def xfind : List xR → Nat → Option xR
  | [], _ => none
  | r :: l, pc => if r.1 = pc then some r else xfind l pc
def xpop : Nat → List Value → List Value → Option (List Value × List Value)
  | 0, acc, st => some (acc, st)
  | _ + 1, _, [] => none
  | n + 1, acc, v :: st => xpop n (v :: acc) st
def xcat : List Value → Nat
  | [] => 0
  | v :: l => v.category + xcat l
def xspread : List Value → List Value
  | [] => []
  | v :: l => match v with
    | .long x => .long x :: xJ :: xspread l
    | .double _ => xJ :: xJ :: xspread l
    | w => w :: xspread l
def xpad : Nat → List Value → List Value
  | 0, l => l
  | n + 1, [] => xJ :: xpad n []
  | n + 1, v :: l => v :: xpad n l
/-- the heap's reads and writes -/
def gV (A : xH) (a ci k : Nat) : Option Value := match A[a]? with
  | some (.inr (c, fs)) => if c = ci then fs[k]? else none
  | _ => none
def gI (A : xH) (a ci k : Nat) : Option Int32 := match gV A a ci k with
  | some (.int x) => some x
  | _ => none
def gN (A : xH) (a ci k : Nat) : Option Nat := match gV A a ci k with
  | some (.ref b) => some b
  | _ => none
def gO (A : xH) (a ci k : Nat) : Option (Option Nat) := match gV A a ci k with
  | some (.ref b) => some (some b)
  | some .null => some none
  | _ => none
def pF (A : xH) (a ci k : Nat) (v : Value) : Option xH := match A[a]? with
  | some (.inr (c, fs)) => if c = ci ∧ k < fs.length then some (A.set a (.inr (c, fs.set k v))) else none
  | _ => none
def lA (A : xH) (a : Nat) : Option Int32 := match A[a]? with
  | some (.inl (_, n, _)) => some (Int32.ofNat n)
  | _ => none
def aI (t : Nat) (A : xH) (a : Nat) (i : Int32) : Option Int32 := match A[a]? with
  | some (.inl (t', n, .inl f)) => if t' = t then (if i < 0 ∨ n ≤ i.toNatClampNeg then none else some (f i.toNatClampNeg)) else none
  | _ => none
def xnar (t : Nat) (x : Int32) : Int32 := match t with
  | 0 => x
  | 1 => vp_nar .byte x
  | _ => vp_nar .boolean x
def sI (t : Nat) (A : xH) (a : Nat) (i x : Int32) : Option xH := match A[a]? with
  | some (.inl (t', n, .inl f)) => if t' = t then (if i < 0 ∨ n ≤ i.toNatClampNeg then none else some (A.set a (.inl (t', n, .inl (upd f i.toNatClampNeg (xnar t x)))))) else none
  | _ => none
def aL (A : xH) (a : Nat) (i : Int32) : Option Int64 := match A[a]? with
  | some (.inl (t', n, .inr (.inl f))) => if t' = 3 then (if i < 0 ∨ n ≤ i.toNatClampNeg then none else some (f i.toNatClampNeg)) else none
  | _ => none
def sL (A : xH) (a : Nat) (i : Int32) (x : Int64) : Option xH := match A[a]? with
  | some (.inl (t', n, .inr (.inl f))) => if t' = 3 then (if i < 0 ∨ n ≤ i.toNatClampNeg then none else some (A.set a (.inl (t', n, .inr (.inl (vp_updL f i.toNatClampNeg x)))))) else none
  | _ => none
/-- arrays of references: kind 4 of Text (class 7), 5 of Store (class 5), 6 of Image (class 1) -/
def xelem (t : Nat) : Nat := match t with
  | 4 => 7
  | 5 => 5
  | _ => 1
def aR (t : Nat) (A : xH) (a : Nat) (i : Int32) : Option (Option Nat) := match A[a]? with
  | some (.inl (t', n, .inr (.inr f))) => if t' = t then (if i < 0 ∨ n ≤ i.toNatClampNeg then none else some (f i.toNatClampNeg)) else none
  | _ => none
def xcls (A : xH) (b : Nat) : Option Nat := match A[b]? with
  | some (.inr (c, _)) => some c
  | _ => none
def xelok (A : xH) (t : Nat) (o : Option Nat) : Bool := match o with
  | none => true
  | some b => xcls A b == some (xelem t)
def sR (t : Nat) (A : xH) (a : Nat) (i : Int32) (o : Option Nat) : Option xH := match A[a]? with
  | some (.inl (t', n, .inr (.inr f))) => if t' = t ∧ xelok A t o = true then (if i < 0 ∨ n ≤ i.toNatClampNeg then none else some (A.set a (.inl (t', n, .inr (.inr (va_up f i.toNatClampNeg o)))))) else none
  | _ => none
/-- System.arraycopy of two int arrays -/
def xcopy (A : xH) (a : Nat) (sp : Int32) (b : Nat) (dp n : Int32) : Option xH := match A[a]?, A[b]? with
  | some (.inl (t, n0, .inl f)), some (.inl (t', n1, .inl g)) => if t = 0 ∧ t' = 0 ∧ ¬ sp < 0 ∧ ¬ dp < 0 ∧ ¬ n < 0 ∧ sp.toNatClampNeg + n.toNatClampNeg ≤ n0 ∧ dp.toNatClampNeg + n.toNatClampNeg ≤ n1 then some (A.set b (.inl (0, n1, .inl (va_cpy f g sp.toNatClampNeg dp.toNatClampNeg n.toNatClampNeg)))) else none
  | _, _ => none
/-- clone of an int array -/
def xclone (A : xH) (a : Nat) : Option xH := match A[a]? with
  | some (.inl (t, n, .inl f)) => if t = 0 then some (A ++ [.inl (t, n, .inl f)]) else none
  | _ => none
def xstr (S : List (List Int32)) (k : UInt32) : Option (List Int32) := if k = 0 then none else S[k.toNat - 1]?
def xslen (S : List (List Int32)) (k : UInt32) : Option Int32 := (xstr S k).map fun l => Int32.ofNat l.length
def xsat (S : List (List Int32)) (k : UInt32) (i : Int32) : Option Int32 := (xstr S k).bind fun l => if i < 0 ∨ l.length ≤ i.toNatClampNeg then none else some (l.getD i.toNatClampNeg 0)
def xrem (x y : Int32) : Int32 := x - x / y * y
def xlrem (x y : Int64) : Int64 := x - x / y * y
def xushr (x y : Int32) : Int32 := (x.toUInt32 >>> (y.toUInt32 &&& Int32.toUInt32 31)).toInt32
def xmax (x y : Int32) : Int32 := if x < y then y else x
def xmin (x y : Int32) : Int32 := if y < x then y else x
/-- the tables that links are looked up in: fields (own, index, class, place, kind: 0 int, 1 boolean, 2 a reference that must be there, 3 one that may be null), methods (own, index, kind of call, method, arguments, kind of answer), constants, classes (own, index, class or kind of array), texts -/
abbrev xT : Type := List (Nat × Nat × Nat × Nat × Nat) × List (Nat × Nat × Nat × Nat × Nat × Nat) × List (Nat × Nat × Int32) × List (Nat × Nat × Int64) × List (Nat × Nat × Nat × List Value) × List (Nat × Nat × Nat) × List (List Int32)
def xti (pc : Nat) (off : Int) : Nat := ((pc : Int) + off).toNat
def xsw {β : Type} (go : Nat → Option β) (pc dflt : Nat) (x : Int32) : Int → List Int → Option β
  | _, [] => go dflt
  | c, o :: l => if x = Int32.ofInt c then go (xti pc o) else xsw go pc dflt x (c + 1) l
def x01 (x : Int32) : Bool := x == 0 || x == 1
def xtag (A : xH) (a : Nat) : Option Nat := match A[a]? with
  | some (.inl (t, _, _)) => some t
  | _ => none
/-- which instruction may bear which kind of call: 0 virtual, 1 static, 2 <init>, 3, 4, 5 the same of a nest mate, 6 Object.<init>, 7 max, 8 min, 9 arraycopy, 10 length, 11 charAt, 12 clone -/
def xkd (ik kd : Nat) : Bool := match ik with
  | 0 => kd == 0 || kd == 3 || kd == 10 || kd == 11 || kd == 12
  | 1 => kd == 2 || kd == 5 || kd == 6
  | _ => kd == 1 || kd == 4 || kd == 7 || kd == 8 || kd == 9
section XG
variable {β : Type} (T : xT) (E : Nat × (Nat → Int32)) (own rt ini : Nat) (go : Nat → List Value → List Value → xH → Option β) (cl : Nat → List Value → Nat → Nat → List Value → List Value → xH → Option β) (rn : Option Value → xH → Option β)
def xinv (ik idx lk pc : Nat) (ls st : List Value) (A : xH) : Option β := match T.2.1[lk]? with
  | none => none
  | some (o, i, kd, mid, na, rk) => if o = own ∧ i = idx ∧ xkd ik kd = true then (match kd with
    | 6 => match st with
      | .ref _ :: s => if xcat s ≤ 8 then go (pc + 3) ls s A else none
      | _ => none
    | 7 => match st with
      | .int y :: .int x :: s => if xcat s ≤ 8 then go (pc + 3) ls (.int (xmax x y) :: s) A else none
      | _ => none
    | 8 => match st with
      | .int y :: .int x :: s => if xcat s ≤ 8 then go (pc + 3) ls (.int (xmin x y) :: s) A else none
      | _ => none
    | 9 => match st with
      | .int n :: .int dp :: .ref b :: .int sp :: .ref a :: s => if xcat s ≤ 8 then (xcopy A a sp b dp n).bind fun B => go (pc + 3) ls s B else none
      | _ => none
    | 10 => match st with
      | .float k :: s => if xcat s ≤ 8 then (xslen T.2.2.2.2.2.2 k).bind fun x => go (pc + 3) ls (.int x :: s) A else none
      | _ => none
    | 11 => match st with
      | .int i :: .float k :: s => if xcat s ≤ 8 then (xsat T.2.2.2.2.2.2 k i).bind fun x => go (pc + 3) ls (.int x :: s) A else none
      | _ => none
    | 12 => match st with
      | .ref a :: s => if xcat s ≤ 8 then (xclone A a).bind fun B => go (pc + 3) ls (.ref A.length :: s) B else none
      | _ => none
    | _ => match xpop na [] st with
      | none => none
      | some (args, s) => if xcat s ≤ 8 then cl mid args rk (pc + 3) ls s A else none) else none
def xst1 (ls : List Value) (i : Nat) (v : Value) (k : List Value → Option β) : Option β :=
  if i < ls.length then (match i with
    | 0 => k (xs ls 0 v)
    | j + 1 => if (xg ls j).category = 2 then none else k (xs ls (j + 1) v)) else none
def xst2 (ls : List Value) (i : Nat) (v : Value) (k : List Value → Option β) : Option β :=
  if i + 1 < ls.length then (match i with
    | 0 => k (xs (xs ls 0 v) 1 xJ)
    | j + 1 => if (xg ls j).category = 2 then none else k (xs (xs ls (j + 1) v) (j + 2) xJ)) else none
def xldI (v : Value) (k : Value → Option β) : Option β := match v with
  | .int x => k (.int x)
  | _ => none
def xldL (v : Value) (k : Value → Option β) : Option β := match v with
  | .long x => k (.long x)
  | _ => none
def xldA (v : Value) (k : Value → Option β) : Option β := match v with
  | .ref x => k (.ref x)
  | .null => k .null
  | .float x => k (.float x)
  | _ => none
def xicmp (c : ClassFile.Cond) (x y : Int32) (a b : Option β) : Option β := match c with
  | .eq => if x = y then a else b
  | .ne => if x = y then b else a
  | .lt => if x < y then a else b
  | .ge => if y ≤ x then a else b
  | .gt => if y < x then a else b
  | .le => if x ≤ y then a else b
def xget (lk idx pc : Nat) (ls st : List Value) (A : xH) : Option β := match T.1[lk]? with
  | none => none
  | some (o, i, ci, k, kd) => if o = own ∧ i = idx then (match st with
    | .ref a :: s => (match kd with
      | 0 => (gI A a ci k).bind fun x => go (pc + 3) ls (.int x :: s) A
      | 1 => (gI A a ci k).bind fun x => go (pc + 3) ls (.int x :: s) A
      | 3 => (gO A a ci k).bind fun q => match q with
        | none => go (pc + 3) ls (.null :: s) A
        | some b => go (pc + 3) ls (.ref b :: s) A
      | _ => (gN A a ci k).bind fun b => go (pc + 3) ls (.ref b :: s) A)
    | _ => none) else none
def xput (lk idx pc : Nat) (ls st : List Value) (A : xH) : Option β := match T.1[lk]? with
  | none => none
  | some (o, i, ci, k, kd) => if o = own ∧ i = idx then (match st with
    | v :: .ref a :: s => (match kd with
      | 0 => match v with
        | .int x => (pF A a ci k (.int x)).bind fun B => go (pc + 3) ls s B
        | _ => none
      | 1 => match v with
        | .int x => if x01 x = true then (pF A a ci k (.int x)).bind fun B => go (pc + 3) ls s B else none
        | _ => none
      | 2 => if ini = 2 ∧ ci = own then (match v with
        | .ref b => (pF A a ci k (.ref b)).bind fun B => go (pc + 3) ls s B
        | _ => none) else none
      | 3 => match v with
        | .ref b => (pF A a ci k (.ref b)).bind fun B => go (pc + 3) ls s B
        | .null => (pF A a ci k .null).bind fun B => go (pc + 3) ls s B
        | _ => none
      | _ => none)
    | _ => none) else none
def xnewa (t : ArrayType) (pc : Nat) (ls st : List Value) (A : xH) : Option β := match st with
  | .int n :: s => if n < 0 ∨ 100000 < n.toNatClampNeg then none else (match t with
    | .int => go (pc + 2) ls (.ref A.length :: s) (A ++ [.inl (0, n.toNatClampNeg, .inl fun _ => 0)])
    | .byte => go (pc + 2) ls (.ref A.length :: s) (A ++ [.inl (1, n.toNatClampNeg, .inl fun _ => 0)])
    | .boolean => go (pc + 2) ls (.ref A.length :: s) (A ++ [.inl (2, n.toNatClampNeg, .inl fun _ => 0)])
    | .long => go (pc + 2) ls (.ref A.length :: s) (A ++ [.inl (3, n.toNatClampNeg, .inr (.inl fun _ => 0))])
    | _ => none)
  | _ => none
def xbin (pc : Nat) (ls st : List Value) (A : xH) (f : Int32 → Int32 → Int32) : Option β := match st with
  | .int y :: .int x :: s => go (pc + 1) ls (.int (f x y) :: s) A
  | _ => none
def xlbin (pc : Nat) (ls st : List Value) (A : xH) (f : Int64 → Int64 → Int64) : Option β := match st with
  | .long y :: .long x :: s => go (pc + 1) ls (.long (f x y) :: s) A
  | _ => none
def xbinz (pc : Nat) (ls st : List Value) (A : xH) (f : Int32 → Int32 → Int32) : Option β := match st with
  | .int y :: .int x :: s => if y = 0 then none else go (pc + 1) ls (.int (f x y) :: s) A
  | _ => none
def xlbinz (pc : Nat) (ls st : List Value) (A : xH) (f : Int64 → Int64 → Int64) : Option β := match st with
  | .long y :: .long x :: s => if y = 0 then none else go (pc + 1) ls (.long (f x y) :: s) A
  | _ => none
def xiald (t pc : Nat) (ls st : List Value) (A : xH) : Option β := match st with
  | .int i :: .ref a :: s => (aI t A a i).bind fun x => go (pc + 1) ls (.int x :: s) A
  | .int i :: .float b :: s => if b = 0 ∧ t = 0 then (if i < 0 ∨ E.1 ≤ i.toNatClampNeg then none else go (pc + 1) ls (.int (E.2 i.toNatClampNeg) :: s) A) else none
  | _ => none
def xiast (t pc : Nat) (ls st : List Value) (A : xH) : Option β := match st with
  | .int x :: .int i :: .ref a :: s => (sI t A a i x).bind fun B => go (pc + 1) ls s B
  | _ => none
def xldc (w lk idx pc : Nat) (ls st : List Value) (A : xH) : Option β := match T.2.2.1[lk]? with
  | some (o, i, v) => if o = own ∧ i = idx then go (pc + w) ls (.int v :: st) A else none
  | none => match T.2.2.2.2.2.1[lk - 1000]? with
    | some (o, i, k) => if o = own ∧ i = idx ∧ w = 2 then go (pc + w) ls (.float (UInt32.ofNat k) :: st) A else none
    | none => none
def xG (r : xR) (ls st : List Value) (A : xH) : Option β := match r with
  | (pc, ins, lk, _) => match ins with
    | .aload_n n => xldA (xg ls n.val) fun v => go (pc + 1) ls (v :: st) A
    | .aload i => xldA (xg ls i) fun v => go (pc + 2) ls (v :: st) A
    | .iload_n n => xldI (xg ls n.val) fun v => go (pc + 1) ls (v :: st) A
    | .iload i => xldI (xg ls i) fun v => go (pc + 2) ls (v :: st) A
    | .lload_n n => xldL (xg ls n.val) fun v => go (pc + 1) ls (v :: st) A
    | .lload i => xldL (xg ls i) fun v => go (pc + 2) ls (v :: st) A
    | .iconst n => go (pc + 1) ls (.int (Int32.ofInt n) :: st) A
    | .bipush n => go (pc + 2) ls (.int (Int8.ofInt n).toInt32 :: st) A
    | .sipush n => go (pc + 3) ls (.int (Int16.ofInt n).toInt32 :: st) A
    | .lconst n => go (pc + 1) ls (.long (Int64.ofNat n.val) :: st) A
    | .aconst_null => go (pc + 1) ls (.null :: st) A
    | .getfield idx => xget T own go lk idx pc ls st A
    | .putfield idx => xput T own ini go lk idx pc ls st A
    | .invokevirtual idx => xinv T own go cl 0 idx lk pc ls st A
    | .invokespecial idx => xinv T own go cl 1 idx lk pc ls st A
    | .invokestatic idx => xinv T own go cl 2 idx lk pc ls st A
    | .ireturn => match st with
      | [.int x] => (match rt with
        | 1 => rn (some (.int x)) A
        | 2 => if x01 x = true then rn (some (.int x)) A else none
        | _ => none)
      | _ => none
    | .lreturn => match st with
      | [.long x] => if rt = 3 then rn (some (.long x)) A else none
      | _ => none
    | .areturn => match st with
      | [.ref a] => if rt = 4 then rn (some (.ref a)) A else none
      | [.null] => if rt = 4 then rn (some .null) A else none
      | _ => none
    | .return_ => match st with
      | [] => if rt = 0 then rn none A else none
      | _ => none
    | .if_icmp c off => match st with
      | .int y :: .int x :: s => xicmp c x y (go (xti pc off) ls s A) (go (pc + 3) ls s A)
      | _ => none
    | .ifCond c off => match st with
      | .int x :: s => xicmp c x 0 (go (xti pc off) ls s A) (go (pc + 3) ls s A)
      | _ => none
    | .ifnonnull off => match st with
      | .ref _ :: s => go (xti pc off) ls s A
      | .null :: s => go (pc + 3) ls s A
      | _ => none
    | .goto off => go (xti pc off) ls st A
    | .tableswitch d lo _ offs => match st with
      | .int x :: s => xsw (fun q => go q ls s A) pc (xti pc d) x lo offs.toList
      | _ => none
    | .istore_n n => match st with
      | .int x :: s => xst1 ls n.val (.int x) fun l => go (pc + 1) l s A
      | _ => none
    | .istore i => match st with
      | .int x :: s => xst1 ls i (.int x) fun l => go (pc + 2) l s A
      | _ => none
    | .lstore_n n => match st with
      | .long x :: s => xst2 ls n.val (.long x) fun l => go (pc + 1) l s A
      | _ => none
    | .lstore i => match st with
      | .long x :: s => xst2 ls i (.long x) fun l => go (pc + 2) l s A
      | _ => none
    | .astore_n n => match st with
      | v :: s => xldA v fun w => xst1 ls n.val w fun l => go (pc + 1) l s A
      | _ => none
    | .astore i => match st with
      | v :: s => xldA v fun w => xst1 ls i w fun l => go (pc + 2) l s A
      | _ => none
    | .iinc i n => match xg ls i with
      | .int x => xst1 ls i (.int (x + Int32.ofInt n)) fun l => go (pc + 3) l st A
      | _ => none
    | .iadd => xbin go pc ls st A (· + ·)
    | .isub => xbin go pc ls st A (· - ·)
    | .imul => xbin go pc ls st A (· * ·)
    | .iand => xbin go pc ls st A (· &&& ·)
    | .ior => xbin go pc ls st A (· ||| ·)
    | .ixor => xbin go pc ls st A (· ^^^ ·)
    | .ishl => xbin go pc ls st A (fun x y => x <<< (y &&& 31))
    | .ishr => xbin go pc ls st A (fun x y => x >>> (y &&& 31))
    | .iushr => xbin go pc ls st A xushr
    | .idiv => xbinz go pc ls st A (· / ·)
    | .irem => xbinz go pc ls st A xrem
    | .ineg => match st with
      | .int x :: s => go (pc + 1) ls (.int (-x) :: s) A
      | _ => none
    | .ladd => xlbin go pc ls st A (· + ·)
    | .lsub => xlbin go pc ls st A (· - ·)
    | .lmul => xlbin go pc ls st A (· * ·)
    | .ldiv => xlbinz go pc ls st A (· / ·)
    | .lrem => xlbinz go pc ls st A xlrem
    | .lcmp => match st with
      | .long y :: .long x :: s => go (pc + 1) ls (.int (lg_cmp x y) :: s) A
      | _ => none
    | .i2l => match st with
      | .int x :: s => go (pc + 1) ls (.long x.toInt64 :: s) A
      | _ => none
    | .l2i => match st with
      | .long x :: s => go (pc + 1) ls (.int x.toInt32 :: s) A
      | _ => none
    | .i2b => match st with
      | .int x :: s => go (pc + 1) ls (.int x.toInt8.toInt32 :: s) A
      | _ => none
    | .dup => match st with
      | v :: s => if v.category = 1 then go (pc + 1) ls (v :: v :: s) A else none
      | _ => none
    | .pop => match st with
      | v :: s => if v.category = 1 then go (pc + 1) ls s A else none
      | _ => none
    | .dup2 => match st with
      | v :: w :: s => if v.category = 1 ∧ w.category = 1 then go (pc + 1) ls (v :: w :: v :: w :: s) A else none
      | _ => none
    | .iaload => xiald E go 0 pc ls st A
    | .baload => xiald E go lk pc ls st A
    | .iastore => xiast go 0 pc ls st A
    | .bastore => xiast go lk pc ls st A
    | .laload => match st with
      | .int i :: .ref a :: s => (aL A a i).bind fun x => go (pc + 1) ls (.long x :: s) A
      | _ => none
    | .lastore => match st with
      | .long x :: .int i :: .ref a :: s => (sL A a i x).bind fun B => go (pc + 1) ls s B
      | _ => none
    | .aaload => match st with
      | .int i :: .ref a :: s => (aR lk A a i).bind fun q => match q with
        | none => go (pc + 1) ls (.null :: s) A
        | some b => go (pc + 1) ls (.ref b :: s) A
      | _ => none
    | .aastore => match st with
      | .ref b :: .int i :: .ref a :: s => (sR lk A a i (some b)).bind fun B => go (pc + 1) ls s B
      | .null :: .int i :: .ref a :: s => (sR lk A a i none).bind fun B => go (pc + 1) ls s B
      | _ => none
    | .arraylength => match st with
      | .ref a :: s => (lA A a).bind fun x => go (pc + 1) ls (.int x :: s) A
      | .float b :: s => if b = 0 then go (pc + 1) ls (.int (Int32.ofNat E.1) :: s) A else none
      | _ => none
    | .newarray t => xnewa go t pc ls st A
    | .anewarray idx => match T.2.2.2.2.1[lk]?, st with
      | some (o, i, t, _), .int n :: s => if o = own ∧ i = idx ∧ 4 ≤ t ∧ t ≤ 6 then (if n < 0 ∨ 100000 < n.toNatClampNeg then none else go (pc + 3) ls (.ref A.length :: s) (A ++ [.inl (t, n.toNatClampNeg, .inr (.inr fun _ => none))])) else none
      | _, _ => none
    | .new idx => match T.2.2.2.2.1[lk]? with
      | some (o, i, ci, fs) => if o = own ∧ i = idx then go (pc + 3) ls (.ref A.length :: st) (A ++ [.inr (ci - 100, fs)]) else none
      | none => none
    | .checkcast idx => match T.2.2.2.2.1[lk]?, st with
      | some (o, i, t, _), .ref a :: s => if o = own ∧ i = idx ∧ t = 0 then (xtag A a).bind fun q => (if q = 0 then go (pc + 3) ls (.ref a :: s) A else none) else none
      | _, _ => none
    | .ldc idx => xldc T own go 2 lk idx pc ls st A
    | .ldc_w idx => xldc T own go 3 lk idx pc ls st A
    | .ldc2_w idx => match T.2.2.2.1[lk]? with
      | some (o, i, v) => if o = own ∧ i = idx then go (pc + 3) ls (.long v :: st) A else none
      | none => none
    | _ => none
end XG
/-- what one instruction does, as data: it goes on, it calls, it returns -/
abbrev xN : Type := (Nat × List Value × List Value × xH) ⊕ (((Nat × List Value × Nat) × (Nat × List Value × List Value × xH)) ⊕ (Option Value × xH))
def xeff (T : xT) (E : Nat × (Nat → Int32)) (own rt ini : Nat) (r : xR) (ls st : List Value) (A : xH) : Option xN :=
  xG T E own rt ini (fun pc ls st A => some (.inl (pc, ls, st, A))) (fun mid args rk pc ls st A => some (.inr (.inl ((mid, args, rk), (pc, ls, st, A))))) (fun v A => some (.inr (.inr (v, A)))) r ls st A
/-- answers by their kinds -/
def xV (o : xO) : Option xH := o.bind fun q => match q.1 with
  | none => some q.2
  | _ => none
def xI (o : xO) : Option (Int32 × xH) := o.bind fun q => match q.1 with
  | some (.int x) => some (x, q.2)
  | _ => none
def xLo (o : xO) : Option (Int64 × xH) := o.bind fun q => match q.1 with
  | some (.long x) => some (x, q.2)
  | _ => none
def xNn (o : xO) : Option (Nat × xH) := o.bind fun q => match q.1 with
  | some (.ref x) => some (x, q.2)
  | _ => none
def xOp (o : xO) : Option (Option Nat × xH) := o.bind fun q => match q.1 with
  | some (.ref x) => some (some x, q.2)
  | some .null => some (none, q.2)
  | _ => none
def xcl (call : Nat → List Value → xH → xO) (K : Nat → List Value → List Value → xH → xO) (mid : Nat) (args : List Value) (rk pc : Nat) (ls s : List Value) (A : xH) : xO := match rk with
  | 0 => (xV (call mid args A)).bind fun B => K pc ls s B
  | 1 => (xI (call mid args A)).bind fun q => K pc ls (.int q.1 :: s) q.2
  | 3 => (xLo (call mid args A)).bind fun q => K pc ls (.long q.1 :: s) q.2
  | 4 => (xNn (call mid args A)).bind fun q => K pc ls (.ref q.1 :: s) q.2
  | _ => (xOp (call mid args A)).bind fun q => match q.1 with
    | none => K pc ls (.null :: s) q.2
    | some b => K pc ls (.ref b :: s) q.2
/-- one instruction, by what calls answer and what goes on -/
def xstep (T : xT) (E : Nat × (Nat → Int32)) (call : Nat → List Value → xH → xO) (M : xM) (K : Nat → List Value → List Value → xH → xO) (pc : Nat) (ls st : List Value) (A : xH) : xO := match xfind M.2.2.2.2 pc with
  | none => none
  | some r => xG T E M.1 M.2.1 M.2.2.1 K (xcl call K) (fun v A => some (v, A)) r (xmask r.2.2.2 ls) st A
/-- some steps, until one of the stops -/
def xbex (T : xT) (E : Nat × (Nat → Int32)) (call : Nat → List Value → xH → xO) (M : xM) (K : Nat → List Value → List Value → xH → xO) (stops : List Nat) : Nat → Nat → List Value → List Value → xH → xO
  | 0 => K
  | n + 1 => fun pc ls st A => xstep T E call M (fun pc ls st A => if stops.elem pc = true then K pc ls st A else xbex T E call M K stops n pc ls st A) pc ls st A
/-- a call's start: the receiver's class, the locals -/
def xrecv (M : xM) (args : List Value) (A : xH) : Bool := match M.2.2.1 with
  | 1 => true
  | _ => match args with
    | .ref a :: _ => xcls A a == some M.1
    | _ => false
def xinto (P : List xM) (mid : Nat) (args : List Value) (A : xH) (k : List Value → xO) : xO := match P[mid]? with
  | none => none
  | some M => if xrecv M args A = true ∧ (xspread args).length ≤ M.2.2.2.1 then k (xpad M.2.2.2.1 (xspread args)) else none
def xexec (P : List xM) (T : xT) (E : Nat × (Nat → Int32)) : Nat → Nat → Nat → Nat → List Value → List Value → xH → xO
  | 0 => fun _ _ _ _ _ _ => none
  | n + 1 => fun d m pc ls st A => match P[m]? with
    | none => none
    | some M => xstep T E (fun mid args B => match d with
      | 0 => none
      | e + 1 => xinto P mid args B fun l => xexec P T E n e mid 0 l [] B) M (fun pc ls st A => xexec P T E n d m pc ls st A) pc ls st A
