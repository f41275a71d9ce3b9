section
/-! ===== THE ABSTRACT MACHINE: what a frame of this program does, over a list of cells (a reference is a place in the list).
Cells: .inl (kind of array, length, contents), .inr (class, fields). .float k stands for a reference that is older than the law's entry (0: the script; 1 + i: String constant i); .retAddr 0 in a local: nothing is known of it. ===== -/
abbrev xA : Type := (Nat × Nat × ((Nat → Int32) ⊕ (Nat → Int64) ⊕ (Nat → Option Nat))) ⊕ (Nat × List Value)
abbrev xH : Type := List xA
abbrev xO : Type := Option (Option Value × xH)
/-- a row of code: pc, instruction, link, locals that are dead there -/
abbrev xR : Type := Nat × Instr × Nat × List Nat
/-- a method: its class, its return kind (0 void, 1 int, 2 boolean, 3 long, 4 reference), 1 if it is static, locals, rows -/
abbrev xM : Type := Nat × Nat × Nat × Nat × List xR
abbrev xJ : Value := .retAddr 0
def xg : List Value → Nat → Value
  | [], _ => xJ
  | v :: _, 0 => v
  | _ :: l, n + 1 => xg l n
def xs : List Value → Nat → Value → List Value
  | [], _, _ => []
  | _ :: l, 0, v => v :: l
  | a :: l, n + 1, v => a :: xs l n v
def xmask : List Nat → List Value → List Value
  | [], l => l
  | i :: is, l => xmask is (xs l i xJ)
def xfind : List xR → Nat → Option xR
  | [], _ => none
  | r :: l, pc => if r.1 = pc then some r else xfind l pc
def xpop : Nat → List Value → List Value → Option (List Value × List Value)
  | 0, acc, st => some (acc, st)
  | _ + 1, _, [] => none
  | n + 1, acc, v :: st => xpop n (v :: acc) st
def xcat : List Value → Nat
  | [] => 0
  | v :: l => v.category + xcat l
def xspread : List Value → List Value
  | [] => []
  | v :: l => match v with
    | .long x => .long x :: xJ :: xspread l
    | .double _ => xJ :: xJ :: xspread l
    | w => w :: xspread l
def xpad : Nat → List Value → List Value
  | 0, l => l
  | n + 1, [] => xJ :: xpad n []
  | n + 1, v :: l => v :: xpad n l
/-- the heap's reads and writes -/
def gV (A : xH) (a ci k : Nat) : Option Value := match A[a]? with
  | some (.inr (c, fs)) => if c = ci then fs[k]? else none
  | _ => none
def gI (A : xH) (a ci k : Nat) : Option Int32 := match gV A a ci k with
  | some (.int x) => some x
  | _ => none
def gN (A : xH) (a ci k : Nat) : Option Nat := match gV A a ci k with
  | some (.ref b) => some b
  | _ => none
def gO (A : xH) (a ci k : Nat) : Option (Option Nat) := match gV A a ci k with
  | some (.ref b) => some (some b)
  | some .null => some none
  | _ => none
def pF (A : xH) (a ci k : Nat) (v : Value) : Option xH := match A[a]? with
  | some (.inr (c, fs)) => if c = ci ∧ k < fs.length then some (A.set a (.inr (c, fs.set k v))) else none
  | _ => none
def lA (A : xH) (a : Nat) : Option Int32 := match A[a]? with
  | some (.inl (_, n, _)) => some (Int32.ofNat n)
  | _ => none
def aI (t : Nat) (A : xH) (a : Nat) (i : Int32) : Option Int32 := match A[a]? with
  | some (.inl (t', n, .inl f)) => if t' = t then (if i < 0 ∨ n ≤ i.toNatClampNeg then none else some (f i.toNatClampNeg)) else none
  | _ => none
def xnar (t : Nat) (x : Int32) : Int32 := match t with
  | 0 => x
  | 1 => vp_nar .byte x
  | _ => vp_nar .boolean x
def sI (t : Nat) (A : xH) (a : Nat) (i x : Int32) : Option xH := match A[a]? with
  | some (.inl (t', n, .inl f)) => if t' = t then (if i < 0 ∨ n ≤ i.toNatClampNeg then none else some (A.set a (.inl (t', n, .inl (upd f i.toNatClampNeg (xnar t x)))))) else none
  | _ => none
def aL (A : xH) (a : Nat) (i : Int32) : Option Int64 := match A[a]? with
  | some (.inl (t', n, .inr (.inl f))) => if t' = 3 then (if i < 0 ∨ n ≤ i.toNatClampNeg then none else some (f i.toNatClampNeg)) else none
  | _ => none
def sL (A : xH) (a : Nat) (i : Int32) (x : Int64) : Option xH := match A[a]? with
  | some (.inl (t', n, .inr (.inl f))) => if t' = 3 then (if i < 0 ∨ n ≤ i.toNatClampNeg then none else some (A.set a (.inl (t', n, .inr (.inl (vp_updL f i.toNatClampNeg x)))))) else none
  | _ => none
/-- arrays of references: kind 4 of Text (class 7), 5 of Store (class 5), 6 of Image (class 1) -/
def xelem (t : Nat) : Nat := match t with
  | 4 => 7
  | 5 => 5
  | _ => 1
def aR (t : Nat) (A : xH) (a : Nat) (i : Int32) : Option (Option Nat) := match A[a]? with
  | some (.inl (t', n, .inr (.inr f))) => if t' = t then (if i < 0 ∨ n ≤ i.toNatClampNeg then none else some (f i.toNatClampNeg)) else none
  | _ => none
def xcls (A : xH) (b : Nat) : Option Nat := match A[b]? with
  | some (.inr (c, _)) => some c
  | _ => none
def xelok (A : xH) (t : Nat) (o : Option Nat) : Bool := match o with
  | none => true
  | some b => xcls A b == some (xelem t)
def sR (t : Nat) (A : xH) (a : Nat) (i : Int32) (o : Option Nat) : Option xH := match A[a]? with
  | some (.inl (t', n, .inr (.inr f))) => if t' = t ∧ xelok A t o = true then (if i < 0 ∨ n ≤ i.toNatClampNeg then none else some (A.set a (.inl (t', n, .inr (.inr (va_up f i.toNatClampNeg o)))))) else none
  | _ => none
/-- System.arraycopy of two int arrays -/
def xcopy (A : xH) (a : Nat) (sp : Int32) (b : Nat) (dp n : Int32) : Option xH := match A[a]?, A[b]? with
  | some (.inl (t, n0, .inl f)), some (.inl (t', n1, .inl g)) => if t = 0 ∧ t' = 0 ∧ ¬ sp < 0 ∧ ¬ dp < 0 ∧ ¬ n < 0 ∧ sp.toNatClampNeg + n.toNatClampNeg ≤ n0 ∧ dp.toNatClampNeg + n.toNatClampNeg ≤ n1 then some (A.set b (.inl (0, n1, .inl (va_cpy f g sp.toNatClampNeg dp.toNatClampNeg n.toNatClampNeg)))) else none
  | _, _ => none
/-- clone of an int array -/
def xclone (A : xH) (a : Nat) : Option xH := match A[a]? with
  | some (.inl (t, n, .inl f)) => if t = 0 then some (A ++ [.inl (t, n, .inl f)]) else none
  | _ => none
def xstr (S : List (List Int32)) (k : UInt32) : Option (List Int32) := if k = 0 then none else S[k.toNat - 1]?
def xslen (S : List (List Int32)) (k : UInt32) : Option Int32 := (xstr S k).map fun l => Int32.ofNat l.length
def xsat (S : List (List Int32)) (k : UInt32) (i : Int32) : Option Int32 := (xstr S k).bind fun l => if i < 0 ∨ l.length ≤ i.toNatClampNeg then none else some (l.getD i.toNatClampNeg 0)
def xrem (x y : Int32) : Int32 := x - x / y * y
def xlrem (x y : Int64) : Int64 := x - x / y * y
def xushr (x y : Int32) : Int32 := (x.toUInt32 >>> (y.toUInt32 &&& Int32.toUInt32 31)).toInt32
def xmax (x y : Int32) : Int32 := if x < y then y else x
def xmin (x y : Int32) : Int32 := if y < x then y else x
/-- the tables that links are looked up in: fields (own, index, class, place, kind: 0 int, 1 boolean, 2 a reference that must be there, 3 one that may be null), methods (own, index, kind of call, method, arguments, kind of answer), constants, classes (own, index, class or kind of array), texts -/
abbrev xT : Type := List (Nat × Nat × Nat × Nat × Nat) × List (Nat × Nat × Nat × Nat × Nat × Nat) × List (Nat × Nat × Int32) × List (Nat × Nat × Int64) × List (Nat × Nat × Nat × List Value) × List (Nat × Nat × Nat) × List (List Int32)
def xti (pc : Nat) (off : Int) : Nat := ((pc : Int) + off).toNat
def xsw {β : Type} (go : Nat → Option β) (pc dflt : Nat) (x : Int32) : Int → List Int → Option β
  | _, [] => go dflt
  | c, o :: l => if x = Int32.ofInt c then go (xti pc o) else xsw go pc dflt x (c + 1) l
def x01 (x : Int32) : Bool := x == 0 || x == 1
def xtag (A : xH) (a : Nat) : Option Nat := match A[a]? with
  | some (.inl (t, _, _)) => some t
  | _ => none
/-- which instruction may bear which kind of call: 0 virtual, 1 static, 2 <init>, 3, 4, 5 the same of a nest mate, 6 Object.<init>, 7 max, 8 min, 9 arraycopy, 10 length, 11 charAt, 12 clone -/
def xkd (ik kd : Nat) : Bool := match ik with
  | 0 => kd == 0 || kd == 3 || kd == 10 || kd == 11 || kd == 12
  | 1 => kd == 2 || kd == 5 || kd == 6
  | _ => kd == 1 || kd == 4 || kd == 7 || kd == 8 || kd == 9
section XG
variable {β : Type} (T : xT) (E : Nat × (Nat → Int32)) (own rt ini : Nat) (go : Nat → List Value → List Value → xH → Option β) (cl : Nat → List Value → Nat → Nat → List Value → List Value → xH → Option β) (rn : Option Value → xH → Option β)
def xinv (ik idx lk pc : Nat) (ls st : List Value) (A : xH) : Option β := match T.2.1[lk]? with
  | none => none
  | some (o, i, kd, mid, na, rk) => if o = own ∧ i = idx ∧ xkd ik kd = true then (match kd with
    | 6 => match st with
      | .ref _ :: s => if xcat s ≤ 8 then go (pc + 3) ls s A else none
      | _ => none
    | 7 => match st with
      | .int y :: .int x :: s => if xcat s ≤ 8 then go (pc + 3) ls (.int (xmax x y) :: s) A else none
      | _ => none
    | 8 => match st with
      | .int y :: .int x :: s => if xcat s ≤ 8 then go (pc + 3) ls (.int (xmin x y) :: s) A else none
      | _ => none
    | 9 => match st with
      | .int n :: .int dp :: .ref b :: .int sp :: .ref a :: s => if xcat s ≤ 8 then (xcopy A a sp b dp n).bind fun B => go (pc + 3) ls s B else none
      | _ => none
    | 10 => match st with
      | .float k :: s => if xcat s ≤ 8 then (xslen T.2.2.2.2.2.2 k).bind fun x => go (pc + 3) ls (.int x :: s) A else none
      | _ => none
    | 11 => match st with
      | .int i :: .float k :: s => if xcat s ≤ 8 then (xsat T.2.2.2.2.2.2 k i).bind fun x => go (pc + 3) ls (.int x :: s) A else none
      | _ => none
    | 12 => match st with
      | .ref a :: s => if xcat s ≤ 8 then (xclone A a).bind fun B => go (pc + 3) ls (.ref A.length :: s) B else none
      | _ => none
    | _ => match xpop na [] st with
      | none => none
      | some (args, s) => if xcat s ≤ 8 then cl mid args rk (pc + 3) ls s A else none) else none
def xst1 (ls : List Value) (i : Nat) (v : Value) (k : List Value → Option β) : Option β :=
  if i < ls.length then (match i with
    | 0 => k (xs ls 0 v)
    | j + 1 => if (xg ls j).category = 2 then none else k (xs ls (j + 1) v)) else none
def xst2 (ls : List Value) (i : Nat) (v : Value) (k : List Value → Option β) : Option β :=
  if i + 1 < ls.length then (match i with
    | 0 => k (xs (xs ls 0 v) 1 xJ)
    | j + 1 => if (xg ls j).category = 2 then none else k (xs (xs ls (j + 1) v) (j + 2) xJ)) else none
def xldI (v : Value) (k : Value → Option β) : Option β := match v with
  | .int x => k (.int x)
  | _ => none
def xldL (v : Value) (k : Value → Option β) : Option β := match v with
  | .long x => k (.long x)
  | _ => none
def xldA (v : Value) (k : Value → Option β) : Option β := match v with
  | .ref x => k (.ref x)
  | .null => k .null
  | .float x => k (.float x)
  | _ => none
def xicmp (c : ClassFile.Cond) (x y : Int32) (a b : Option β) : Option β := match c with
  | .eq => if x = y then a else b
  | .ne => if x = y then b else a
  | .lt => if x < y then a else b
  | .ge => if y ≤ x then a else b
  | .gt => if y < x then a else b
  | .le => if x ≤ y then a else b
def xget (lk idx pc : Nat) (ls st : List Value) (A : xH) : Option β := match T.1[lk]? with
  | none => none
  | some (o, i, ci, k, kd) => if o = own ∧ i = idx then (match st with
    | .ref a :: s => (match kd with
      | 0 => (gI A a ci k).bind fun x => go (pc + 3) ls (.int x :: s) A
      | 1 => (gI A a ci k).bind fun x => go (pc + 3) ls (.int x :: s) A
      | 3 => (gO A a ci k).bind fun q => match q with
        | none => go (pc + 3) ls (.null :: s) A
        | some b => go (pc + 3) ls (.ref b :: s) A
      | _ => (gN A a ci k).bind fun b => go (pc + 3) ls (.ref b :: s) A)
    | _ => none) else none
def xput (lk idx pc : Nat) (ls st : List Value) (A : xH) : Option β := match T.1[lk]? with
  | none => none
  | some (o, i, ci, k, kd) => if o = own ∧ i = idx then (match st with
    | v :: .ref a :: s => (match kd with
      | 0 => match v with
        | .int x => (pF A a ci k (.int x)).bind fun B => go (pc + 3) ls s B
        | _ => none
      | 1 => match v with
        | .int x => if x01 x = true then (pF A a ci k (.int x)).bind fun B => go (pc + 3) ls s B else none
        | _ => none
      | 2 => if ini = 2 ∧ ci = own then (match v with
        | .ref b => (pF A a ci k (.ref b)).bind fun B => go (pc + 3) ls s B
        | _ => none) else none
      | 3 => match v with
        | .ref b => (pF A a ci k (.ref b)).bind fun B => go (pc + 3) ls s B
        | .null => (pF A a ci k .null).bind fun B => go (pc + 3) ls s B
        | _ => none
      | _ => none)
    | _ => none) else none
def xnewa (t : ArrayType) (pc : Nat) (ls st : List Value) (A : xH) : Option β := match st with
  | .int n :: s => if n < 0 ∨ 100000 < n.toNatClampNeg then none else (match t with
    | .int => go (pc + 2) ls (.ref A.length :: s) (A ++ [.inl (0, n.toNatClampNeg, .inl fun _ => 0)])
    | .byte => go (pc + 2) ls (.ref A.length :: s) (A ++ [.inl (1, n.toNatClampNeg, .inl fun _ => 0)])
    | .boolean => go (pc + 2) ls (.ref A.length :: s) (A ++ [.inl (2, n.toNatClampNeg, .inl fun _ => 0)])
    | .long => go (pc + 2) ls (.ref A.length :: s) (A ++ [.inl (3, n.toNatClampNeg, .inr (.inl fun _ => 0))])
    | _ => none)
  | _ => none
def xbin (pc : Nat) (ls st : List Value) (A : xH) (f : Int32 → Int32 → Int32) : Option β := match st with
  | .int y :: .int x :: s => go (pc + 1) ls (.int (f x y) :: s) A
  | _ => none
def xlbin (pc : Nat) (ls st : List Value) (A : xH) (f : Int64 → Int64 → Int64) : Option β := match st with
  | .long y :: .long x :: s => go (pc + 1) ls (.long (f x y) :: s) A
  | _ => none
def xbinz (pc : Nat) (ls st : List Value) (A : xH) (f : Int32 → Int32 → Int32) : Option β := match st with
  | .int y :: .int x :: s => if y = 0 then none else go (pc + 1) ls (.int (f x y) :: s) A
  | _ => none
def xlbinz (pc : Nat) (ls st : List Value) (A : xH) (f : Int64 → Int64 → Int64) : Option β := match st with
  | .long y :: .long x :: s => if y = 0 then none else go (pc + 1) ls (.long (f x y) :: s) A
  | _ => none
def xiald (t pc : Nat) (ls st : List Value) (A : xH) : Option β := match st with
  | .int i :: .ref a :: s => (aI t A a i).bind fun x => go (pc + 1) ls (.int x :: s) A
  | .int i :: .float b :: s => if b = 0 ∧ t = 0 then (if i < 0 ∨ E.1 ≤ i.toNatClampNeg then none else go (pc + 1) ls (.int (E.2 i.toNatClampNeg) :: s) A) else none
  | _ => none
def xiast (t pc : Nat) (ls st : List Value) (A : xH) : Option β := match st with
  | .int x :: .int i :: .ref a :: s => (sI t A a i x).bind fun B => go (pc + 1) ls s B
  | _ => none
def xldc (w lk idx pc : Nat) (ls st : List Value) (A : xH) : Option β := match T.2.2.1[lk]? with
  | some (o, i, v) => if o = own ∧ i = idx then go (pc + w) ls (.int v :: st) A else none
  | none => match T.2.2.2.2.2.1[lk - 1000]? with
    | some (o, i, k) => if o = own ∧ i = idx ∧ w = 2 then go (pc + w) ls (.float (UInt32.ofNat k) :: st) A else none
    | none => none
def xG (r : xR) (ls st : List Value) (A : xH) : Option β := match r with
  | (pc, ins, lk, _) => match ins with
    | .aload_n n => xldA (xg ls n.val) fun v => go (pc + 1) ls (v :: st) A
    | .aload i => xldA (xg ls i) fun v => go (pc + 2) ls (v :: st) A
    | .iload_n n => xldI (xg ls n.val) fun v => go (pc + 1) ls (v :: st) A
    | .iload i => xldI (xg ls i) fun v => go (pc + 2) ls (v :: st) A
    | .lload_n n => xldL (xg ls n.val) fun v => go (pc + 1) ls (v :: st) A
    | .lload i => xldL (xg ls i) fun v => go (pc + 2) ls (v :: st) A
    | .iconst n => go (pc + 1) ls (.int (Int32.ofInt n) :: st) A
    | .bipush n => go (pc + 2) ls (.int (Int8.ofInt n).toInt32 :: st) A
    | .sipush n => go (pc + 3) ls (.int (Int16.ofInt n).toInt32 :: st) A
    | .lconst n => go (pc + 1) ls (.long (Int64.ofNat n.val) :: st) A
    | .aconst_null => go (pc + 1) ls (.null :: st) A
    | .getfield idx => xget T own go lk idx pc ls st A
    | .putfield idx => xput T own ini go lk idx pc ls st A
    | .invokevirtual idx => xinv T own go cl 0 idx lk pc ls st A
    | .invokespecial idx => xinv T own go cl 1 idx lk pc ls st A
    | .invokestatic idx => xinv T own go cl 2 idx lk pc ls st A
    | .ireturn => match st with
      | [.int x] => (match rt with
        | 1 => rn (some (.int x)) A
        | 2 => if x01 x = true then rn (some (.int x)) A else none
        | _ => none)
      | _ => none
    | .lreturn => match st with
      | [.long x] => if rt = 3 then rn (some (.long x)) A else none
      | _ => none
    | .areturn => match st with
      | [.ref a] => if rt = 4 then rn (some (.ref a)) A else none
      | [.null] => if rt = 4 then rn (some .null) A else none
      | _ => none
    | .return_ => match st with
      | [] => if rt = 0 then rn none A else none
      | _ => none
    | .if_icmp c off => match st with
      | .int y :: .int x :: s => xicmp c x y (go (xti pc off) ls s A) (go (pc + 3) ls s A)
      | _ => none
    | .ifCond c off => match st with
      | .int x :: s => xicmp c x 0 (go (xti pc off) ls s A) (go (pc + 3) ls s A)
      | _ => none
    | .ifnonnull off => match st with
      | .ref _ :: s => go (xti pc off) ls s A
      | .null :: s => go (pc + 3) ls s A
      | _ => none
    | .goto off => go (xti pc off) ls st A
    | .tableswitch d lo _ offs => match st with
      | .int x :: s => xsw (fun q => go q ls s A) pc (xti pc d) x lo offs.toList
      | _ => none
    | .istore_n n => match st with
      | .int x :: s => xst1 ls n.val (.int x) fun l => go (pc + 1) l s A
      | _ => none
    | .istore i => match st with
      | .int x :: s => xst1 ls i (.int x) fun l => go (pc + 2) l s A
      | _ => none
    | .lstore_n n => match st with
      | .long x :: s => xst2 ls n.val (.long x) fun l => go (pc + 1) l s A
      | _ => none
    | .lstore i => match st with
      | .long x :: s => xst2 ls i (.long x) fun l => go (pc + 2) l s A
      | _ => none
    | .astore_n n => match st with
      | v :: s => xldA v fun w => xst1 ls n.val w fun l => go (pc + 1) l s A
      | _ => none
    | .astore i => match st with
      | v :: s => xldA v fun w => xst1 ls i w fun l => go (pc + 2) l s A
      | _ => none
    | .iinc i n => match xg ls i with
      | .int x => xst1 ls i (.int (x + Int32.ofInt n)) fun l => go (pc + 3) l st A
      | _ => none
    | .iadd => xbin go pc ls st A (· + ·)
    | .isub => xbin go pc ls st A (· - ·)
    | .imul => xbin go pc ls st A (· * ·)
    | .iand => xbin go pc ls st A (· &&& ·)
    | .ior => xbin go pc ls st A (· ||| ·)
    | .ixor => xbin go pc ls st A (· ^^^ ·)
    | .ishl => xbin go pc ls st A (fun x y => x <<< (y &&& 31))
    | .ishr => xbin go pc ls st A (fun x y => x >>> (y &&& 31))
    | .iushr => xbin go pc ls st A xushr
    | .idiv => xbinz go pc ls st A (· / ·)
    | .irem => xbinz go pc ls st A xrem
    | .ineg => match st with
      | .int x :: s => go (pc + 1) ls (.int (-x) :: s) A
      | _ => none
    | .ladd => xlbin go pc ls st A (· + ·)
    | .lsub => xlbin go pc ls st A (· - ·)
    | .lmul => xlbin go pc ls st A (· * ·)
    | .ldiv => xlbinz go pc ls st A (· / ·)
    | .lrem => xlbinz go pc ls st A xlrem
    | .lcmp => match st with
      | .long y :: .long x :: s => go (pc + 1) ls (.int (lg_cmp x y) :: s) A
      | _ => none
    | .i2l => match st with
      | .int x :: s => go (pc + 1) ls (.long x.toInt64 :: s) A
      | _ => none
    | .l2i => match st with
      | .long x :: s => go (pc + 1) ls (.int x.toInt32 :: s) A
      | _ => none
    | .i2b => match st with
      | .int x :: s => go (pc + 1) ls (.int x.toInt8.toInt32 :: s) A
      | _ => none
    | .dup => match st with
      | v :: s => if v.category = 1 then go (pc + 1) ls (v :: v :: s) A else none
      | _ => none
    | .pop => match st with
      | v :: s => if v.category = 1 then go (pc + 1) ls s A else none
      | _ => none
    | .dup2 => match st with
      | v :: w :: s => if v.category = 1 ∧ w.category = 1 then go (pc + 1) ls (v :: w :: v :: w :: s) A else none
      | _ => none
    | .iaload => xiald E go 0 pc ls st A
    | .baload => xiald E go lk pc ls st A
    | .iastore => xiast go 0 pc ls st A
    | .bastore => xiast go lk pc ls st A
    | .laload => match st with
      | .int i :: .ref a :: s => (aL A a i).bind fun x => go (pc + 1) ls (.long x :: s) A
      | _ => none
    | .lastore => match st with
      | .long x :: .int i :: .ref a :: s => (sL A a i x).bind fun B => go (pc + 1) ls s B
      | _ => none
    | .aaload => match st with
      | .int i :: .ref a :: s => (aR lk A a i).bind fun q => match q with
        | none => go (pc + 1) ls (.null :: s) A
        | some b => go (pc + 1) ls (.ref b :: s) A
      | _ => none
    | .aastore => match st with
      | .ref b :: .int i :: .ref a :: s => (sR lk A a i (some b)).bind fun B => go (pc + 1) ls s B
      | .null :: .int i :: .ref a :: s => (sR lk A a i none).bind fun B => go (pc + 1) ls s B
      | _ => none
    | .arraylength => match st with
      | .ref a :: s => (lA A a).bind fun x => go (pc + 1) ls (.int x :: s) A
      | .float b :: s => if b = 0 then go (pc + 1) ls (.int (Int32.ofNat E.1) :: s) A else none
      | _ => none
    | .newarray t => xnewa go t pc ls st A
    | .anewarray idx => match T.2.2.2.2.1[lk]?, st with
      | some (o, i, t, _), .int n :: s => if o = own ∧ i = idx ∧ 4 ≤ t ∧ t ≤ 6 then (if n < 0 ∨ 100000 < n.toNatClampNeg then none else go (pc + 3) ls (.ref A.length :: s) (A ++ [.inl (t, n.toNatClampNeg, .inr (.inr fun _ => none))])) else none
      | _, _ => none
    | .new idx => match T.2.2.2.2.1[lk]? with
      | some (o, i, ci, fs) => if o = own ∧ i = idx then go (pc + 3) ls (.ref A.length :: st) (A ++ [.inr (ci - 100, fs)]) else none
      | none => none
    | .checkcast idx => match T.2.2.2.2.1[lk]?, st with
      | some (o, i, t, _), .ref a :: s => if o = own ∧ i = idx ∧ t = 0 then (xtag A a).bind fun q => (if q = 0 then go (pc + 3) ls (.ref a :: s) A else none) else none
      | _, _ => none
    | .ldc idx => xldc T own go 2 lk idx pc ls st A
    | .ldc_w idx => xldc T own go 3 lk idx pc ls st A
    | .ldc2_w idx => match T.2.2.2.1[lk]? with
      | some (o, i, v) => if o = own ∧ i = idx then go (pc + 3) ls (.long v :: st) A else none
      | none => none
    | _ => none
end XG
/-- what one instruction does, as data: it goes on, it calls, it returns -/
abbrev xN : Type := (Nat × List Value × List Value × xH) ⊕ (((Nat × List Value × Nat) × (Nat × List Value × List Value × xH)) ⊕ (Option Value × xH))
def xeff (T : xT) (E : Nat × (Nat → Int32)) (own rt ini : Nat) (r : xR) (ls st : List Value) (A : xH) : Option xN :=
  xG T E own rt ini (fun pc ls st A => some (.inl (pc, ls, st, A))) (fun mid args rk pc ls st A => some (.inr (.inl ((mid, args, rk), (pc, ls, st, A))))) (fun v A => some (.inr (.inr (v, A)))) r ls st A
/-- answers by their kinds -/
def xV (o : xO) : Option xH := o.bind fun q => match q.1 with
  | none => some q.2
  | _ => none
def xI (o : xO) : Option (Int32 × xH) := o.bind fun q => match q.1 with
  | some (.int x) => some (x, q.2)
  | _ => none
def xLo (o : xO) : Option (Int64 × xH) := o.bind fun q => match q.1 with
  | some (.long x) => some (x, q.2)
  | _ => none
def xNn (o : xO) : Option (Nat × xH) := o.bind fun q => match q.1 with
  | some (.ref x) => some (x, q.2)
  | _ => none
def xOp (o : xO) : Option (Option Nat × xH) := o.bind fun q => match q.1 with
  | some (.ref x) => some (some x, q.2)
  | some .null => some (none, q.2)
  | _ => none
def xcl (call : Nat → List Value → xH → xO) (K : Nat → List Value → List Value → xH → xO) (mid : Nat) (args : List Value) (rk pc : Nat) (ls s : List Value) (A : xH) : xO := match rk with
  | 0 => (xV (call mid args A)).bind fun B => K pc ls s B
  | 1 => (xI (call mid args A)).bind fun q => K pc ls (.int q.1 :: s) q.2
  | 3 => (xLo (call mid args A)).bind fun q => K pc ls (.long q.1 :: s) q.2
  | 4 => (xNn (call mid args A)).bind fun q => K pc ls (.ref q.1 :: s) q.2
  | _ => (xOp (call mid args A)).bind fun q => match q.1 with
    | none => K pc ls (.null :: s) q.2
    | some b => K pc ls (.ref b :: s) q.2
/-- one instruction, by what calls answer and what goes on -/
def xstep (T : xT) (E : Nat × (Nat → Int32)) (call : Nat → List Value → xH → xO) (M : xM) (K : Nat → List Value → List Value → xH → xO) (pc : Nat) (ls st : List Value) (A : xH) : xO := match xfind M.2.2.2.2 pc with
  | none => none
  | some r => xG T E M.1 M.2.1 M.2.2.1 K (xcl call K) (fun v A => some (v, A)) r (xmask r.2.2.2 ls) st A
/-- some steps, until one of the stops -/
def xbex (T : xT) (E : Nat × (Nat → Int32)) (call : Nat → List Value → xH → xO) (M : xM) (K : Nat → List Value → List Value → xH → xO) (stops : List Nat) : Nat → Nat → List Value → List Value → xH → xO
  | 0 => K
  | n + 1 => fun pc ls st A => xstep T E call M (fun pc ls st A => if stops.elem pc = true then K pc ls st A else xbex T E call M K stops n pc ls st A) pc ls st A
/-- a call's start: the receiver's class, the locals -/
def xrecv (M : xM) (args : List Value) (A : xH) : Bool := match M.2.2.1 with
  | 1 => true
  | _ => match args with
    | .ref a :: _ => xcls A a == some M.1
    | _ => false
def xinto (P : List xM) (mid : Nat) (args : List Value) (A : xH) (k : List Value → xO) : xO := match P[mid]? with
  | none => none
  | some M => if xrecv M args A = true ∧ (xspread args).length ≤ M.2.2.2.1 then k (xpad M.2.2.2.1 (xspread args)) else none
def xexec (P : List xM) (T : xT) (E : Nat × (Nat → Int32)) : Nat → Nat → Nat → Nat → List Value → List Value → xH → xO
  | 0 => fun _ _ _ _ _ _ => none
  | n + 1 => fun d m pc ls st A => match P[m]? with
    | none => none
    | some M => xstep T E (fun mid args B => match d with
      | 0 => none
      | e + 1 => xinto P mid args B fun l => xexec P T E n e mid 0 l [] B) M (fun pc ls st A => xexec P T E n d m pc ls st A) pc ls st A
end
section
/-! ===== THE PROGRAM, as the abstract machine reads it (printed by wip/whole/gen.py out of the decoded rows and the words of the tables) ===== -/
def xSTR : List (List Int32) := [[112, 117, 116], [118, 97, 108, 117, 101], [109, 97, 110, 121], [116, 105, 109, 101], [100, 111, 110, 101], [108, 97, 116, 101, 115, 116], [100, 101, 101, 112], [119, 97, 105, 116, 115], [107, 101, 121, 115], [98, 117, 99, 107, 101, 116], [100, 101, 112, 116, 104], [107, 101, 121], [104, 97, 115, 104], [109, 111, 111, 100], [97, 115], [100, 114, 111, 112], [102, 108, 117, 115, 104], [99, 114, 97, 115, 104], [116, 105, 109, 101, 115], [98, 97, 114, 115], [99, 111, 115, 116, 115], [105, 102], [110, 111, 116], [97, 110, 100], [111, 114]]
def xFL : List (Nat × Nat × Nat × Nat × Nat) := [(2, 9, 2, 0, 2), (5, 161, 2, 0, 2), (5, 12, 5, 0, 2), (8, 98, 5, 0, 2), (4, 28, 5, 0, 2), (3, 44, 5, 0, 2), (5, 18, 5, 1, 2), (8, 108, 5, 1, 2), (5, 21, 5, 2, 2), (8, 118, 5, 2, 2), (4, 48, 5, 2, 2), (5, 25, 5, 3, 2), (5, 28, 5, 4, 0), (5, 32, 5, 5, 0), (8, 313, 5, 5, 0), (5, 35, 5, 6, 0), (8, 310, 5, 6, 0), (5, 38, 5, 7, 0), (3, 63, 5, 7, 0), (8, 317, 5, 7, 0), (3, 11, 3, 0, 2), (3, 17, 3, 1, 2), (3, 21, 3, 2, 2), (8, 350, 3, 2, 2), (3, 24, 3, 3, 0), (8, 179, 3, 3, 0), (3, 28, 3, 4, 0), (5, 148, 3, 4, 0), (8, 214, 3, 4, 0), (3, 31, 3, 5, 0), (8, 320, 3, 5, 0), (3, 34, 3, 6, 0), (8, 323, 3, 6, 0), (3, 37, 3, 7, 0), (8, 326, 3, 7, 0), (4, 9, 4, 0, 2), (4, 15, 4, 1, 2), (4, 18, 4, 2, 0), (8, 257, 4, 2, 0), (0, 11, 0, 0, 2), (0, 17, 0, 1, 2), (0, 21, 0, 2, 3), (0, 25, 0, 3, 0), (8, 316, 0, 3, 0), (7, 21, 7, 0, 2), (7, 25, 7, 1, 2), (7, 28, 7, 2, 2), (7, 31, 7, 3, 2), (6, 167, 7, 3, 2), (8, 361, 7, 3, 2), (7, 9, 7, 4, 0), (6, 92, 7, 4, 0), (7, 15, 7, 5, 0), (3, 74, 7, 5, 0), (6, 99, 7, 5, 0), (8, 203, 7, 5, 0), (7, 18, 7, 6, 0), (6, 170, 7, 6, 0), (8, 358, 7, 6, 0), (6, 12, 6, 0, 2), (8, 188, 6, 0, 2), (6, 18, 6, 1, 2), (8, 172, 6, 1, 2), (6, 22, 6, 2, 0), (8, 162, 6, 2, 0), (6, 26, 6, 3, 0), (6, 29, 6, 4, 1), (6, 33, 6, 5, 0), (6, 36, 6, 6, 0), (6, 39, 6, 7, 0), (6, 42, 6, 8, 0), (6, 45, 6, 9, 0), (8, 12, 8, 0, 2), (8, 16, 8, 1, 2), (8, 19, 8, 2, 2), (8, 25, 8, 3, 2), (8, 32, 8, 4, 2), (8, 39, 8, 5, 2), (8, 43, 8, 6, 2), (8, 48, 8, 7, 2), (8, 55, 8, 8, 2), (8, 59, 8, 9, 2), (8, 63, 8, 10, 2), (8, 66, 8, 11, 2), (8, 69, 8, 12, 2), (8, 72, 8, 13, 2), (8, 76, 8, 14, 0), (8, 80, 8, 15, 0), (8, 83, 8, 16, 0), (8, 86, 8, 17, 0), (1, 10, 1, 0, 2), (8, 299, 1, 0, 2), (1, 19, 1, 1, 2), (8, 302, 1, 1, 2), (1, 26, 1, 2, 2), (8, 306, 1, 2, 2), (9, 3, 9, 0, 0), (9, 7, 9, 1, 2), (9, 28, 9, 2, 2), (9, 31, 9, 3, 2), (9, 34, 9, 4, 2), (9, 38, 9, 5, 2), (9, 155, 9, 6, 0), (9, 41, 9, 7, 2), (9, 233, 9, 8, 0), (9, 236, 9, 9, 0), (9, 207, 9, 10, 1), (9, 45, 9, 11, 2), (9, 48, 9, 12, 2), (9, 152, 9, 13, 0), (9, 51, 9, 14, 0), (9, 54, 9, 15, 2), (9, 57, 9, 16, 2), (9, 60, 9, 17, 2), (9, 161, 9, 18, 0), (9, 181, 9, 19, 0), (9, 190, 9, 20, 0), (9, 174, 9, 21, 0), (9, 264, 9, 22, 0), (9, 261, 9, 23, 0), (9, 274, 9, 24, 1), (9, 294, 9, 25, 1), (9, 63, 9, 26, 2), (9, 300, 9, 27, 0), (9, 303, 9, 28, 0), (9, 66, 9, 29, 2), (9, 69, 9, 30, 2), (9, 72, 9, 31, 2), (9, 11, 9, 32, 0), (9, 75, 9, 33, 2), (9, 78, 9, 34, 2), (9, 81, 9, 35, 2), (9, 85, 9, 36, 0), (9, 444, 9, 37, 0), (9, 456, 9, 38, 0), (9, 450, 9, 39, 0), (9, 453, 9, 40, 1), (9, 459, 9, 41, 1), (9, 88, 9, 42, 2), (9, 91, 9, 43, 2), (9, 487, 9, 44, 1), (9, 477, 9, 45, 0)]
def xML : List (Nat × Nat × Nat × Nat × Nat × Nat) := [(10, 9, 2, 98, 1, 0), (8, 3, 6, 0, 0, 0), (8, 11, 5, 40, 1, 0), (5, 3, 6, 0, 0, 0), (5, 11, 5, 8, 1, 0), (2, 3, 6, 0, 0, 0), (8, 24, 5, 26, 1, 0), (3, 3, 6, 0, 0, 0), (8, 31, 5, 35, 1, 0), (4, 3, 6, 0, 0, 0), (8, 38, 5, 0, 1, 0), (0, 3, 6, 0, 0, 0), (8, 54, 5, 68, 1, 0), (6, 3, 6, 0, 0, 0), (6, 11, 2, 89, 1, 0), (7, 3, 6, 0, 0, 0), (8, 89, 0, 41, 1, 0), (5, 41, 0, 18, 4, 0), (8, 92, 1, 297, 2, 0), (10, 13, 0, 99, 3, 1), (8, 102, 0, 10, 3, 1), (2, 21, 4, 140, 1, 1), (2, 25, 0, 11, 2, 1), (2, 28, 0, 14, 2, 1), (10, 18, 0, 100, 3, 1), (10, 22, 0, 101, 3, 1), (8, 111, 0, 58, 3, 1), (5, 158, 0, 56, 2, 1), (10, 26, 0, 102, 2, 1), (8, 114, 0, 43, 1, 1), (10, 31, 0, 103, 3, 1), (8, 121, 1, 139, 1, 1), (8, 125, 0, 29, 2, 1), (3, 40, 1, 28, 2, 1), (8, 129, 0, 46, 3, 1), (5, 64, 0, 45, 3, 1), (5, 59, 0, 29, 2, 1), (5, 68, 0, 20, 3, 1), (2, 38, 0, 15, 3, 1), (5, 72, 0, 16, 3, 1), (8, 133, 0, 45, 3, 1), (8, 136, 0, 47, 3, 1), (5, 75, 0, 34, 4, 1), (3, 66, 0, 31, 2, 5), (3, 93, 0, 29, 2, 1), (3, 70, 0, 32, 5, 0), (3, 50, 0, 11, 2, 1), (3, 56, 0, 12, 2, 1), (3, 60, 0, 14, 2, 1), (3, 77, 0, 92, 3, 1), (3, 80, 0, 96, 5, 1), (7, 40, 0, 92, 3, 1), (7, 45, 7, 0, 0, 0), (7, 50, 1, 97, 3, 1), (10, 35, 0, 104, 3, 1), (8, 140, 1, 144, 1, 1), (8, 143, 0, 141, 2, 1), (8, 146, 0, 44, 1, 1), (5, 55, 0, 14, 2, 1), (8, 149, 0, 145, 2, 1), (8, 152, 0, 146, 3, 0), (8, 156, 0, 1, 1, 0), (8, 159, 0, 142, 2, 1), (10, 39, 0, 105, 6, 1), (8, 165, 0, 69, 2, 0), (10, 44, 0, 106, 2, 1), (10, 48, 0, 107, 1, 1), (8, 169, 0, 70, 1, 1), (8, 175, 0, 48, 4, 1), (5, 79, 4, 139, 1, 1), (5, 83, 0, 17, 4, 0), (5, 86, 0, 55, 3, 0), (5, 151, 0, 33, 4, 1), (3, 85, 8, 0, 0, 0), (3, 90, 7, 0, 0, 0), (5, 155, 0, 57, 1, 0), (5, 49, 9, 0, 0, 0), (5, 164, 8, 0, 0, 0), (5, 90, 0, 47, 3, 1), (5, 94, 0, 49, 4, 1), (5, 104, 0, 15, 3, 1), (5, 107, 0, 12, 2, 1), (5, 110, 0, 23, 1, 1), (5, 98, 0, 50, 3, 1), (5, 114, 0, 24, 1, 1), (5, 117, 0, 13, 2, 1), (5, 120, 0, 19, 2, 0), (2, 32, 1, 298, 4, 0), (11, 13, 1, 295, 3, 0), (5, 101, 0, 21, 4, 0), (5, 124, 0, 22, 3, 0), (2, 42, 0, 16, 3, 1), (5, 128, 0, 51, 3, 0), (5, 131, 7, 0, 0, 0), (10, 53, 0, 108, 1, 1), (10, 57, 0, 109, 1, 1), (8, 182, 0, 71, 2, 1), (6, 48, 0, 91, 1, 0), (6, 51, 0, 72, 1, 0), (6, 58, 8, 0, 0, 0), (6, 54, 0, 76, 1, 1), (6, 77, 0, 93, 3, 0), (6, 81, 0, 78, 1, 1), (6, 89, 0, 74, 2, 1), (6, 73, 0, 73, 2, 1), (6, 64, 10, 0, 0, 0), (6, 69, 11, 0, 0, 0), (6, 106, 0, 79, 2, 1), (6, 121, 0, 83, 2, 1), (6, 147, 0, 84, 2, 1), (6, 150, 0, 85, 2, 1), (6, 143, 0, 75, 2, 1), (6, 129, 0, 94, 3, 0), (6, 155, 0, 86, 3, 1), (6, 161, 0, 88, 1, 1), (6, 164, 0, 87, 1, 1), (6, 84, 0, 77, 1, 1), (6, 95, 0, 80, 2, 1), (6, 124, 0, 81, 2, 1), (6, 136, 0, 82, 2, 1), (6, 132, 0, 95, 2, 0), (8, 192, 2, 90, 2, 0), (7, 34, 1, 299, 2, 4), (11, 316, 12, 0, 0, 0), (11, 304, 8, 0, 0, 0), (11, 150, 9, 0, 0, 0), (8, 195, 0, 30, 2, 1), (10, 61, 0, 110, 1, 1), (8, 199, 0, 42, 2, 0), (5, 45, 0, 9, 2, 0), (2, 15, 9, 0, 0, 0), (8, 206, 0, 148, 3, 1), (8, 344, 0, 92, 3, 1), (8, 347, 0, 149, 2, 0), (8, 353, 0, 96, 5, 1), (8, 217, 0, 147, 5, 1), (8, 329, 0, 2, 2, 0), (0, 29, 5, 40, 1, 0), (0, 30, 0, 42, 2, 0), (8, 332, 0, 52, 3, 1), (5, 136, 0, 53, 2, 1), (5, 145, 0, 11, 2, 1), (5, 139, 0, 54, 3, 0), (5, 142, 0, 25, 1, 1), (2, 45, 0, 12, 2, 1), (2, 48, 7, 0, 0, 0), (8, 335, 0, 60, 2, 1), (8, 338, 0, 61, 3, 1), (5, 167, 0, 60, 2, 1), (5, 170, 0, 62, 1, 0), (5, 179, 1, 297, 2, 0), (5, 173, 0, 63, 3, 0), (5, 176, 0, 44, 1, 1), (8, 341, 0, 3, 2, 0), (0, 34, 0, 4, 3, 5), (8, 210, 0, 5, 2, 0), (10, 65, 0, 111, 1, 1), (10, 69, 0, 112, 1, 1), (10, 73, 0, 113, 2, 1), (10, 77, 0, 114, 3, 1), (8, 221, 0, 143, 2, 1), (10, 81, 0, 115, 2, 1), (10, 85, 0, 116, 2, 1), (10, 89, 0, 117, 2, 1), (10, 93, 0, 118, 1, 1), (8, 224, 0, 6, 2, 1), (10, 97, 0, 119, 3, 1), (8, 228, 0, 150, 2, 1), (10, 101, 0, 120, 2, 1), (8, 231, 0, 64, 3, 1), (5, 185, 0, 46, 3, 1), (10, 105, 0, 121, 2, 1), (8, 235, 0, 65, 2, 1), (5, 188, 0, 43, 1, 1), (10, 109, 0, 122, 1, 1), (8, 238, 0, 66, 3, 1), (10, 113, 0, 123, 1, 1), (8, 241, 0, 23, 1, 1), (10, 117, 0, 124, 2, 1), (8, 244, 1, 140, 1, 1), (8, 247, 0, 53, 2, 1), (10, 121, 0, 125, 2, 1), (8, 250, 0, 67, 3, 1), (5, 191, 1, 28, 2, 1), (10, 125, 0, 126, 1, 1), (8, 254, 0, 59, 1, 1), (10, 129, 0, 127, 3, 1), (8, 260, 0, 37, 3, 1), (10, 133, 0, 128, 1, 1), (10, 137, 0, 129, 1, 1), (8, 263, 0, 38, 2, 1), (4, 34, 0, 11, 2, 1), (4, 40, 0, 39, 3, 1), (4, 44, 0, 43, 1, 1), (10, 141, 0, 130, 2, 1), (8, 266, 1, 294, 1, 1), (8, 271, 7, 0, 0, 0), (10, 145, 0, 131, 3, 3), (8, 278, 1, 296, 2, 0), (8, 283, 0, 151, 2, 0), (10, 150, 0, 132, 3, 1), (8, 286, 0, 33, 4, 1), (10, 154, 0, 133, 3, 1), (8, 291, 1, 152, 1, 1), (8, 294, 0, 153, 4, 0), (8, 372, 8, 0, 0, 0), (10, 158, 0, 134, 2, 1), (10, 162, 0, 135, 2, 1), (8, 298, 5, 7, 1, 0), (1, 1, 6, 0, 0, 0), (1, 9, 5, 40, 1, 0), (1, 18, 5, 26, 1, 0), (1, 25, 5, 35, 1, 0), (8, 303, 0, 27, 2, 0), (8, 307, 0, 36, 2, 0), (4, 22, 9, 0, 0, 0), (10, 166, 0, 136, 2, 1), (10, 170, 0, 137, 2, 1), (10, 174, 0, 138, 1, 1), (10, 12, 2, 164, 1, 0), (9, 22, 6, 0, 0, 0), (10, 165, 0, 167, 2, 1), (9, 18, 1, 154, 3, 1), (9, 94, 0, 157, 2, 1), (9, 14, 0, 158, 2, 1), (10, 169, 0, 168, 2, 1), (9, 97, 0, 159, 2, 1), (10, 17, 0, 180, 3, 1), (9, 123, 1, 162, 1, 1), (9, 100, 1, 169, 2, 1), (9, 126, 0, 179, 3, 1), (10, 21, 0, 181, 3, 1), (10, 25, 0, 183, 3, 1), (9, 129, 1, 182, 1, 1), (10, 30, 0, 184, 2, 1), (9, 114, 0, 175, 2, 1), (9, 104, 0, 170, 2, 1), (9, 108, 1, 173, 2, 1), (10, 34, 0, 185, 3, 1), (9, 132, 1, 163, 1, 1), (9, 111, 0, 174, 2, 1), (9, 135, 0, 178, 2, 1), (9, 120, 0, 177, 2, 1), (9, 117, 0, 176, 2, 1), (9, 138, 0, 234, 2, 1), (9, 320, 0, 231, 4, 0), (9, 324, 0, 232, 3, 1), (9, 267, 0, 220, 2, 1), (9, 291, 0, 223, 2, 3), (9, 277, 0, 224, 2, 3), (9, 285, 0, 225, 2, 3), (9, 223, 1, 202, 1, 1), (9, 288, 0, 221, 2, 1), (9, 297, 0, 226, 3, 1), (9, 145, 0, 172, 1, 1), (9, 281, 0, 222, 3, 3), (9, 315, 0, 227, 2, 1), (9, 306, 0, 228, 2, 1), (9, 309, 0, 229, 2, 1), (9, 312, 0, 230, 2, 1), (10, 38, 0, 188, 3, 1), (9, 141, 1, 186, 2, 1), (9, 149, 1, 187, 1, 1), (10, 52, 0, 189, 1, 1), (9, 158, 0, 243, 3, 1), (9, 351, 0, 237, 2, 0), (9, 330, 0, 236, 1, 0), (9, 327, 0, 235, 3, 0), (9, 333, 0, 233, 2, 1), (9, 336, 1, 155, 2, 1), (9, 357, 0, 165, 2, 0), (9, 360, 0, 242, 3, 1), (9, 354, 0, 241, 2, 1), (9, 339, 0, 240, 1, 1), (9, 342, 1, 160, 2, 1), (9, 345, 0, 238, 4, 0), (9, 348, 0, 239, 3, 0), (9, 363, 0, 166, 2, 0), (10, 56, 0, 190, 1, 1), (10, 43, 0, 191, 6, 1), (10, 47, 0, 192, 2, 1), (10, 60, 0, 216, 1, 1), (9, 251, 0, 214, 2, 1), (9, 248, 0, 213, 1, 1), (9, 242, 0, 196, 2, 0), (9, 164, 1, 193, 1, 1), (9, 167, 1, 194, 1, 1), (9, 170, 0, 195, 3, 1), (9, 245, 0, 206, 1, 0), (9, 211, 0, 205, 1, 0), (9, 184, 0, 199, 2, 1), (9, 177, 0, 197, 1, 1), (9, 193, 0, 210, 2, 0), (9, 227, 0, 211, 2, 0), (9, 230, 0, 212, 2, 0), (9, 187, 0, 198, 1, 0), (9, 197, 0, 200, 2, 0), (9, 239, 0, 201, 1, 0), (9, 203, 0, 203, 3, 0), (9, 200, 0, 207, 2, 0), (9, 217, 0, 208, 2, 0), (9, 220, 0, 209, 2, 0), (9, 214, 0, 204, 1, 0), (9, 255, 0, 215, 2, 0), (10, 68, 0, 217, 1, 1), (10, 76, 0, 219, 2, 1), (9, 258, 0, 218, 2, 1), (10, 96, 0, 253, 1, 1), (10, 80, 0, 260, 3, 1), (9, 399, 0, 256, 3, 1), (9, 390, 0, 255, 3, 1), (9, 387, 0, 252, 2, 0), (9, 402, 0, 254, 2, 1), (10, 84, 0, 261, 2, 1), (9, 405, 0, 257, 2, 1), (9, 393, 0, 248, 2, 1), (9, 372, 0, 245, 2, 1), (9, 366, 0, 244, 2, 1), (9, 375, 0, 246, 2, 1), (9, 378, 0, 247, 1, 1), (9, 369, 1, 156, 2, 1), (10, 88, 0, 262, 2, 1), (9, 408, 0, 258, 2, 1), (10, 92, 0, 263, 2, 1), (9, 411, 0, 259, 2, 1), (9, 396, 0, 251, 2, 0), (9, 381, 0, 249, 2, 1), (9, 384, 0, 250, 3, 0), (10, 100, 0, 264, 3, 1), (10, 104, 0, 265, 2, 1), (10, 108, 0, 266, 2, 1), (9, 414, 0, 184, 2, 1), (10, 112, 0, 268, 1, 1), (9, 417, 0, 267, 2, 1), (10, 116, 0, 269, 1, 1), (9, 420, 0, 171, 1, 1), (10, 120, 0, 270, 2, 1), (10, 124, 0, 273, 2, 1), (9, 426, 0, 272, 2, 1), (9, 423, 0, 271, 1, 0), (10, 128, 0, 274, 1, 1), (10, 132, 0, 275, 3, 1), (10, 136, 0, 276, 1, 1), (10, 140, 0, 278, 1, 1), (9, 429, 0, 277, 2, 1), (10, 144, 0, 279, 2, 1), (9, 432, 0, 278, 1, 1), (9, 435, 1, 161, 1, 1), (10, 149, 0, 280, 3, 3), (10, 153, 0, 281, 3, 1), (10, 72, 0, 282, 1, 1), (10, 64, 0, 283, 1, 1), (9, 447, 0, 287, 2, 1), (9, 468, 0, 284, 3, 0), (9, 472, 0, 286, 1, 1), (9, 464, 1, 285, 1, 1), (10, 157, 0, 290, 3, 1), (9, 490, 0, 289, 1, 0), (9, 484, 0, 288, 2, 1), (10, 161, 0, 291, 2, 1), (10, 173, 0, 292, 2, 1), (10, 177, 0, 293, 1, 1)]
def xCI : List (Nat × Nat × Int32) := [(7, 44, -2000000000), (3, 84, -2000000000), (8, 357, -2000000000), (12, 265, 1431655765), (12, 266, 858993459), (12, 267, 252645135), (8, 290, 1000000), (9, 173, 1000000)]
def xCL : List (Nat × Nat × Int64) := [(7, 54, -2000000000), (7, 56, -1000000000), (7, 58, 1000000000), (8, 276, -1), (8, 281, 1000000000000), (8, 364, 10), (8, 366, 1103), (8, 368, 12345), (8, 370, 1000003), (9, 270, 1000000000), (9, 272, -1000000000), (9, 318, 99), (9, 438, -1), (9, 440, 1000000000000), (9, 442, 10), (9, 462, 1000000), (9, 475, 1103), (9, 480, 12345), (9, 482, 1000003)]
def xKL : List (Nat × Nat × Nat × List Value) := [(10, 7, 108, [.null, .null, .null, .null, .null, .null, .null, .null, .null, .null, .null, .null, .null, .null, .int 0, .int 0, .int 0, .int 0]), (8, 9, 105, [.null, .null, .null, .null, .int 0, .int 0, .int 0, .int 0]), (8, 9, 5, []), (5, 9, 102, [.null]), (8, 22, 103, [.null, .null, .null, .int 0, .int 0, .int 0, .int 0, .int 0]), (3, 9, 107, [.null, .null, .null, .null, .int 0, .int 0, .int 0]), (3, 9, 4, []), (8, 29, 104, [.null, .null, .int 0]), (8, 36, 100, [.null, .null, .null, .int 0]), (0, 9, 105, [.null, .null, .null, .null, .int 0, .int 0, .int 0, .int 0]), (0, 9, 5, []), (8, 46, 101, [.null, .null, .null]), (8, 46, 6, []), (8, 52, 106, [.null, .null, .int 0, .int 0, .int 0, .int 0, .int 0, .int 0, .int 0, .int 0]), (6, 9, 107, [.null, .null, .null, .null, .int 0, .int 0, .int 0]), (6, 9, 4, []), (8, 186, 107, [.null, .null, .null, .null, .int 0, .int 0, .int 0]), (8, 186, 4, []), (11, 317, 0, []), (1, 7, 105, [.null, .null, .null, .null, .int 0, .int 0, .int 0, .int 0]), (1, 7, 5, []), (1, 16, 103, [.null, .null, .null, .int 0, .int 0, .int 0, .int 0, .int 0]), (1, 23, 104, [.null, .null, .int 0]), (10, 10, 109, [.int 0, .null, .null, .null, .null, .null, .int 0, .null, .int 0, .int 0, .int 0, .null, .null, .int 0, .int 0, .null, .null, .null, .int 0, .int 0, .int 0, .int 0, .int 0, .int 0, .int 0, .int 0, .null, .int 0, .int 0, .null, .null, .null, .int 0, .null, .null, .null, .int 0, .int 0, .int 0, .int 0, .int 0, .int 0, .null, .null, .int 0, .int 0])]
def xSL : List (Nat × Nat × Nat) := [(6, 109, 1), (6, 153, 2), (6, 159, 3), (6, 181, 4), (6, 185, 5), (6, 187, 6), (6, 189, 7), (6, 191, 8), (6, 193, 9), (6, 173, 10), (6, 175, 11), (6, 177, 12), (6, 179, 13), (6, 183, 14), (6, 111, 15), (6, 113, 16), (6, 115, 17), (6, 117, 18), (6, 119, 19), (6, 102, 20), (6, 104, 21), (6, 87, 22), (6, 141, 23), (6, 139, 24), (6, 127, 25)]
def xtabs : xT := (xFL, xML, xCI, xCL, xKL, xSL, xSTR)
def c_0 : List xR := [(0, .aload_n 0, 0, []), (1, .invokespecial 3, 11, []), (4, .aload_n 0, 0, []), (5, .bipush 16, 0, []), (7, .anewarray 9, 10, []), (10, .putfield 11, 39, []), (13, .aload_n 0, 0, []), (14, .bipush 16, 0, []), (16, .newarray .int, 0, []), (18, .putfield 17, 40, []), (21, .aload_n 0, 0, []), (22, .aconst_null, 0, []), (23, .putfield 21, 41, []), (26, .aload_n 0, 0, []), (27, .iconst 0, 0, []), (28, .putfield 25, 42, []), (31, .return_, 0, [])]
def M_0 : xM := (0, 0, 2, 1, c_0)
def c_1 : List xR := [(0, .aload_n 0, 0, []), (1, .iconst 0, 0, []), (2, .putfield 25, 42, []), (5, .return_, 0, [])]
def M_1 : xM := (0, 0, 0, 1, c_1)
def c_2 : List xR := [(0, .aload_n 0, 0, []), (1, .getfield 21, 41, []), (4, .ifnonnull 14, 0, []), (7, .aload_n 0, 0, []), (8, .new 9, 9, []), (11, .dup, 0, []), (12, .invokespecial 29, 137, []), (15, .putfield 21, 41, []), (18, .aload_n 0, 0, []), (19, .getfield 21, 41, []), (22, .aload_n 1, 0, []), (23, .invokevirtual 30, 138, []), (26, .return_, 0, [])]
def M_2 : xM := (0, 0, 0, 2, c_2)
def c_3 : List xR := [(0, .aload_n 0, 0, []), (1, .aload_n 0, 0, []), (2, .aload_n 0, 0, []), (3, .getfield 21, 41, []), (6, .iload_n 1, 0, []), (7, .invokevirtual 34, 154, []), (10, .putfield 21, 41, []), (13, .return_, 0, [])]
def M_3 : xM := (0, 0, 0, 2, c_3)
def c_4 : List xR := [(0, .aload_n 0, 0, []), (1, .getfield 11, 39, []), (4, .aload_n 0, 0, []), (5, .getfield 25, 42, []), (8, .bipush 16, 0, []), (10, .if_icmp .ne 7, 0, []), (13, .iconst 0, 0, []), (14, .goto 7, 0, []), (17, .aload_n 0, 0, []), (18, .getfield 25, 42, []), (21, .aaload, 5, []), (22, .astore_n 3, 0, []), (23, .aload_n 0, 0, []), (24, .getfield 25, 42, []), (27, .bipush 16, 0, []), (29, .if_icmp .ne 61, 0, []), (32, .iconst 1, 0, []), (33, .istore 4, 0, []), (35, .iload 4, 0, []), (37, .bipush 16, 0, []), (39, .if_icmp .ge 41, 0, []), (42, .aload_n 0, 0, []), (43, .getfield 11, 39, []), (46, .iload 4, 0, []), (48, .iconst 1, 0, []), (49, .isub, 0, []), (50, .aload_n 0, 0, []), (51, .getfield 11, 39, []), (54, .iload 4, 0, []), (56, .aaload, 5, []), (57, .aastore, 5, []), (58, .aload_n 0, 0, []), (59, .getfield 17, 40, []), (62, .iload 4, 0, []), (64, .iconst 1, 0, []), (65, .isub, 0, []), (66, .aload_n 0, 0, []), (67, .getfield 17, 40, []), (70, .iload 4, 0, []), (72, .iaload, 0, []), (73, .iastore, 0, []), (74, .iinc 4 1, 0, []), (77, .goto (-42), 0, []), (80, .aload_n 0, 0, []), (81, .dup, 0, []), (82, .getfield 25, 42, []), (85, .iconst 1, 0, []), (86, .isub, 0, []), (87, .putfield 25, 42, []), (90, .aload_n 0, 0, [4]), (91, .getfield 11, 39, []), (94, .aload_n 0, 0, []), (95, .getfield 25, 42, []), (98, .aload_n 1, 0, []), (99, .aastore, 5, []), (100, .aload_n 0, 0, []), (101, .getfield 17, 40, []), (104, .aload_n 0, 0, []), (105, .getfield 25, 42, []), (108, .iload_n 2, 0, []), (109, .iastore, 0, []), (110, .aload_n 0, 0, []), (111, .dup, 0, []), (112, .getfield 25, 42, []), (115, .iconst 1, 0, []), (116, .iadd, 0, []), (117, .putfield 25, 42, []), (120, .aload_n 3, 0, []), (121, .areturn, 0, [])]
def M_4 : xM := (0, 4, 0, 5, c_4)
def c_5 : List xR := [(0, .iconst 0, 0, []), (1, .istore_n 2, 0, []), (2, .iload_n 2, 0, []), (3, .aload_n 1, 0, []), (4, .getfield 25, 42, []), (7, .if_icmp .ge 31, 0, []), (10, .aload_n 1, 0, []), (11, .getfield 11, 39, []), (14, .iload_n 2, 0, []), (15, .aload_n 0, 0, []), (16, .aload_n 1, 0, []), (17, .getfield 11, 39, []), (20, .iload_n 2, 0, []), (21, .aaload, 5, []), (22, .aload_n 1, 0, []), (23, .getfield 17, 40, []), (26, .iload_n 2, 0, []), (27, .iaload, 0, []), (28, .invokevirtual 34, 154, []), (31, .aastore, 5, []), (32, .iinc 2 1, 0, []), (35, .goto (-33), 0, []), (38, .aload_n 1, 0, []), (39, .iconst 0, 0, []), (40, .putfield 25, 42, []), (43, .return_, 0, [])]
def M_5 : xM := (0, 0, 0, 3, c_5)
def c_6 : List xR := [(0, .aload_n 0, 0, []), (1, .getfield 25, 42, []), (4, .ifCond .eq 17, 0, []), (7, .aload_n 0, 0, []), (8, .getfield 11, 39, []), (11, .aload_n 0, 0, []), (12, .getfield 25, 42, []), (15, .iconst 1, 0, []), (16, .isub, 0, []), (17, .aaload, 5, []), (18, .ifnonnull 5, 0, []), (21, .iconst (-1), 0, []), (22, .ireturn, 0, []), (23, .aload_n 0, 0, []), (24, .dup, 0, []), (25, .getfield 25, 42, []), (28, .iconst 1, 0, []), (29, .isub, 0, []), (30, .putfield 25, 42, []), (33, .aload_n 1, 0, []), (34, .aload_n 0, 0, []), (35, .getfield 11, 39, []), (38, .aload_n 0, 0, []), (39, .getfield 25, 42, []), (42, .aaload, 5, []), (43, .invokevirtual 30, 138, []), (46, .aload_n 0, 0, []), (47, .getfield 17, 40, []), (50, .aload_n 0, 0, []), (51, .getfield 25, 42, []), (54, .iaload, 0, []), (55, .ireturn, 0, [])]
def M_6 : xM := (0, 1, 0, 2, c_6)
def c_7 : List xR := [(0, .aload_n 0, 0, []), (1, .invokespecial 1, 209, []), (4, .aload_n 0, 0, []), (5, .new 7, 19, []), (8, .dup, 0, []), (9, .invokespecial 9, 210, []), (12, .putfield 10, 90, []), (15, .aload_n 0, 0, []), (16, .new 16, 21, []), (19, .dup, 0, []), (20, .invokespecial 18, 211, []), (23, .putfield 19, 92, []), (26, .aload_n 0, 0, []), (27, .new 23, 22, []), (30, .dup, 0, [0]), (31, .invokespecial 25, 212, []), (34, .putfield 26, 94, []), (37, .return_, 0, [])]
def M_7 : xM := (1, 0, 2, 1, c_7)
def c_8 : List xR := [(0, .aload_n 0, 0, []), (1, .invokespecial 3, 5, []), (4, .aload_n 0, 0, []), (5, .sipush 240, 0, []), (8, .newarray .int, 0, []), (10, .putfield 9, 0, []), (13, .return_, 0, [])]
def M_8 : xM := (2, 0, 2, 1, c_8)
def c_9 : List xR := [(0, .aload_n 1, 0, []), (1, .getfield 9, 0, []), (4, .iconst 0, 0, []), (5, .aload_n 0, 0, []), (6, .getfield 9, 0, []), (9, .iconst 0, 0, []), (10, .aload_n 0, 0, []), (11, .getfield 9, 0, []), (14, .arraylength, 0, []), (15, .invokestatic 15, 130, []), (18, .return_, 0, [])]
def M_9 : xM := (2, 0, 0, 2, c_9)
def c_10 : List xR := [(0, .iload_n 1, 0, []), (1, .invokestatic 21, 21, []), (4, .ifCond .eq 13, 0, []), (7, .iload_n 2, 0, []), (8, .ifCond .lt 9, 0, []), (11, .iload_n 2, 0, []), (12, .bipush 10, 0, []), (14, .if_icmp .lt 5, 0, []), (17, .iconst (-1), 0, []), (18, .ireturn, 0, []), (19, .iload_n 2, 0, []), (20, .ifCond .ne 15, 0, []), (23, .aload_n 0, 0, []), (24, .getfield 9, 0, []), (27, .iload_n 1, 0, []), (28, .bipush 10, 0, []), (30, .imul, 0, []), (31, .iconst 0, 0, []), (32, .iadd, 0, []), (33, .iaload, 0, []), (34, .ireturn, 0, []), (35, .aload_n 0, 0, []), (36, .iload_n 1, 0, []), (37, .invokevirtual 25, 22, []), (40, .ifCond .eq 21, 0, []), (43, .iload_n 2, 0, []), (44, .iconst 4, 0, []), (45, .if_icmp .lt 18, 0, []), (48, .iload_n 2, 0, []), (49, .iconst 4, 0, []), (50, .isub, 0, []), (51, .iconst 3, 0, []), (52, .irem, 0, []), (53, .aload_n 0, 0, []), (54, .iload_n 1, 0, []), (55, .invokevirtual 28, 23, []), (58, .if_icmp .lt 5, 0, []), (61, .iconst (-1), 0, []), (62, .ireturn, 0, []), (63, .aload_n 0, 0, []), (64, .getfield 9, 0, []), (67, .iload_n 1, 0, []), (68, .bipush 10, 0, []), (70, .imul, 0, []), (71, .iload_n 2, 0, []), (72, .iadd, 0, []), (73, .iaload, 0, []), (74, .ireturn, 0, [])]
def M_10 : xM := (2, 1, 0, 3, c_10)
def c_11 : List xR := [(0, .aload_n 0, 0, []), (1, .getfield 9, 0, []), (4, .iload_n 1, 0, []), (5, .bipush 10, 0, []), (7, .imul, 0, []), (8, .iconst 0, 0, []), (9, .iadd, 0, []), (10, .iaload, 0, []), (11, .ifCond .eq 7, 0, []), (14, .iconst 1, 0, []), (15, .goto 4, 0, []), (18, .iconst 0, 0, []), (19, .ireturn, 0, [])]
def M_11 : xM := (2, 2, 0, 2, c_11)
def c_12 : List xR := [(0, .aload_n 0, 0, []), (1, .getfield 9, 0, []), (4, .iload_n 1, 0, []), (5, .bipush 10, 0, []), (7, .imul, 0, []), (8, .iconst 1, 0, []), (9, .iadd, 0, []), (10, .iaload, 0, []), (11, .ireturn, 0, [])]
def M_12 : xM := (2, 1, 0, 2, c_12)
def c_13 : List xR := [(0, .aload_n 0, 0, []), (1, .getfield 9, 0, []), (4, .iload_n 1, 0, []), (5, .bipush 10, 0, []), (7, .imul, 0, []), (8, .iconst 2, 0, []), (9, .iadd, 0, []), (10, .iaload, 0, []), (11, .ireturn, 0, [])]
def M_13 : xM := (2, 1, 0, 2, c_13)
def c_14 : List xR := [(0, .aload_n 0, 0, []), (1, .getfield 9, 0, []), (4, .iload_n 1, 0, []), (5, .bipush 10, 0, []), (7, .imul, 0, []), (8, .iconst 3, 0, []), (9, .iadd, 0, []), (10, .iaload, 0, []), (11, .ireturn, 0, [])]
def M_14 : xM := (2, 1, 0, 2, c_14)
def c_15 : List xR := [(0, .aload_n 0, 0, []), (1, .getfield 9, 0, []), (4, .iload_n 1, 0, []), (5, .bipush 10, 0, []), (7, .imul, 0, []), (8, .iconst 4, 0, []), (9, .iadd, 0, []), (10, .iload_n 2, 0, []), (11, .iadd, 0, []), (12, .iaload, 0, []), (13, .ireturn, 0, [])]
def M_15 : xM := (2, 1, 0, 3, c_15)
def c_16 : List xR := [(0, .aload_n 0, 0, []), (1, .getfield 9, 0, []), (4, .iload_n 1, 0, []), (5, .bipush 10, 0, []), (7, .imul, 0, []), (8, .bipush 7, 0, []), (10, .iadd, 0, []), (11, .iload_n 2, 0, []), (12, .iadd, 0, []), (13, .iaload, 0, []), (14, .ireturn, 0, [])]
def M_16 : xM := (2, 1, 0, 3, c_16)
def c_17 : List xR := [(0, .aload_n 0, 0, []), (1, .getfield 9, 0, []), (4, .iload_n 1, 0, []), (5, .bipush 10, 0, []), (7, .imul, 0, []), (8, .bipush 7, 0, []), (10, .iadd, 0, []), (11, .iload_n 2, 0, []), (12, .iadd, 0, []), (13, .iload_n 3, 0, []), (14, .iastore, 0, []), (15, .return_, 0, [])]
def M_17 : xM := (2, 0, 0, 4, c_17)
def c_18 : List xR := [(0, .aload_n 0, 0, []), (1, .getfield 9, 0, []), (4, .iload_n 1, 0, []), (5, .bipush 10, 0, []), (7, .imul, 0, []), (8, .iconst 0, 0, []), (9, .iadd, 0, []), (10, .iconst 1, 0, []), (11, .iastore, 0, []), (12, .aload_n 0, 0, []), (13, .getfield 9, 0, []), (16, .iload_n 1, 0, []), (17, .bipush 10, 0, []), (19, .imul, 0, []), (20, .iconst 1, 0, []), (21, .iadd, 0, []), (22, .iload_n 2, 0, []), (23, .iastore, 0, []), (24, .aload_n 0, 0, []), (25, .getfield 9, 0, []), (28, .iload_n 1, 0, []), (29, .bipush 10, 0, []), (31, .imul, 0, []), (32, .iconst 2, 0, []), (33, .iadd, 0, []), (34, .iload_n 3, 0, []), (35, .iastore, 0, []), (36, .return_, 0, [])]
def M_18 : xM := (2, 0, 0, 4, c_18)
def c_19 : List xR := [(0, .aload_n 0, 0, []), (1, .getfield 9, 0, []), (4, .iload_n 1, 0, []), (5, .bipush 10, 0, []), (7, .imul, 0, []), (8, .iload_n 1, 0, []), (9, .bipush 10, 0, []), (11, .imul, 0, []), (12, .bipush 10, 0, []), (14, .iadd, 0, []), (15, .iconst 0, 0, []), (16, .invokestatic 32, 87, []), (19, .return_, 0, [])]
def M_19 : xM := (2, 0, 0, 2, c_19)
def c_20 : List xR := [(0, .iconst 0, 0, []), (1, .istore_n 3, 0, []), (2, .iload_n 3, 0, []), (3, .aload_n 0, 0, []), (4, .iload_n 1, 0, []), (5, .invokevirtual 28, 23, []), (8, .if_icmp .ge 21, 0, []), (11, .aload_n 0, 0, []), (12, .iload_n 1, 0, []), (13, .iload_n 3, 0, []), (14, .invokevirtual 38, 38, []), (17, .iload_n 2, 0, []), (18, .if_icmp .ne 5, 0, []), (21, .iload_n 3, 0, []), (22, .ireturn, 0, []), (23, .iinc 3 1, 0, []), (26, .goto (-24), 0, []), (29, .iconst (-1), 0, []), (30, .ireturn, 0, [])]
def M_20 : xM := (2, 1, 0, 4, c_20)
def c_21 : List xR := [(0, .aload_n 0, 0, []), (1, .iload_n 1, 0, []), (2, .invokevirtual 28, 23, []), (5, .istore 4, 0, []), (7, .iload 4, 0, []), (9, .iconst 3, 0, []), (10, .if_icmp .ge 49, 0, []), (13, .aload_n 0, 0, []), (14, .getfield 9, 0, []), (17, .iload_n 1, 0, []), (18, .bipush 10, 0, []), (20, .imul, 0, []), (21, .iconst 4, 0, []), (22, .iadd, 0, []), (23, .iload 4, 0, []), (25, .iadd, 0, []), (26, .iload_n 2, 0, []), (27, .iastore, 0, []), (28, .aload_n 0, 0, []), (29, .getfield 9, 0, []), (32, .iload_n 1, 0, []), (33, .bipush 10, 0, []), (35, .imul, 0, []), (36, .bipush 7, 0, []), (38, .iadd, 0, []), (39, .iload 4, 0, []), (41, .iadd, 0, []), (42, .iload_n 3, 0, []), (43, .iastore, 0, []), (44, .aload_n 0, 0, []), (45, .getfield 9, 0, []), (48, .iload_n 1, 0, []), (49, .bipush 10, 0, []), (51, .imul, 0, []), (52, .iconst 3, 0, []), (53, .iadd, 0, []), (54, .iload 4, 0, []), (56, .iconst 1, 0, []), (57, .iadd, 0, []), (58, .iastore, 0, []), (59, .return_, 0, [])]
def M_21 : xM := (2, 0, 0, 5, c_21)
def c_22 : List xR := [(0, .aload_n 0, 0, []), (1, .iload_n 1, 0, []), (2, .invokevirtual 28, 23, []), (5, .iconst 1, 0, []), (6, .isub, 0, []), (7, .istore_n 3, 0, []), (8, .iload_n 2, 0, []), (9, .istore 4, 0, []), (11, .iload 4, 0, [2]), (13, .iload_n 3, 0, []), (14, .if_icmp .ge 56, 0, []), (17, .aload_n 0, 0, []), (18, .getfield 9, 0, []), (21, .iload_n 1, 0, []), (22, .bipush 10, 0, []), (24, .imul, 0, []), (25, .iconst 4, 0, []), (26, .iadd, 0, []), (27, .iload 4, 0, []), (29, .iadd, 0, []), (30, .aload_n 0, 0, []), (31, .iload_n 1, 0, []), (32, .iload 4, 0, []), (34, .iconst 1, 0, []), (35, .iadd, 0, []), (36, .invokevirtual 38, 38, []), (39, .iastore, 0, []), (40, .aload_n 0, 0, []), (41, .getfield 9, 0, []), (44, .iload_n 1, 0, []), (45, .bipush 10, 0, []), (47, .imul, 0, []), (48, .bipush 7, 0, []), (50, .iadd, 0, []), (51, .iload 4, 0, []), (53, .iadd, 0, []), (54, .aload_n 0, 0, []), (55, .iload_n 1, 0, []), (56, .iload 4, 0, []), (58, .iconst 1, 0, []), (59, .iadd, 0, []), (60, .invokevirtual 42, 91, []), (63, .iastore, 0, []), (64, .iinc 4 1, 0, []), (67, .goto (-56), 0, []), (70, .aload_n 0, 0, []), (71, .getfield 9, 0, []), (74, .iload_n 1, 0, []), (75, .bipush 10, 0, []), (77, .imul, 0, []), (78, .iconst 3, 0, []), (79, .iadd, 0, []), (80, .iload_n 3, 0, []), (81, .iastore, 0, []), (82, .return_, 0, [])]
def M_22 : xM := (2, 0, 0, 5, c_22)
def c_23 : List xR := [(0, .iconst 0, 0, []), (1, .istore_n 1, 0, []), (2, .iconst 0, 0, []), (3, .istore_n 2, 0, []), (4, .iload_n 2, 0, []), (5, .bipush 24, 0, []), (7, .if_icmp .ge 23, 0, []), (10, .iload_n 1, 0, []), (11, .aload_n 0, 0, []), (12, .getfield 9, 0, []), (15, .iload_n 2, 0, []), (16, .bipush 10, 0, []), (18, .imul, 0, []), (19, .iconst 0, 0, []), (20, .iadd, 0, []), (21, .iaload, 0, []), (22, .iadd, 0, []), (23, .istore_n 1, 0, []), (24, .iinc 2 1, 0, []), (27, .goto (-23), 0, []), (30, .iload_n 1, 0, []), (31, .ireturn, 0, [])]
def M_23 : xM := (2, 1, 0, 3, c_23)
def c_24 : List xR := [(0, .iconst 0, 0, []), (1, .istore_n 1, 0, []), (2, .iload_n 1, 0, []), (3, .bipush 24, 0, []), (5, .if_icmp .ge 19, 0, []), (8, .aload_n 0, 0, []), (9, .iload_n 1, 0, []), (10, .invokevirtual 25, 22, []), (13, .ifCond .ne 5, 0, []), (16, .iload_n 1, 0, []), (17, .ireturn, 0, []), (18, .iinc 1 1, 0, []), (21, .goto (-19), 0, []), (24, .iconst (-1), 0, []), (25, .ireturn, 0, [])]
def M_24 : xM := (2, 1, 0, 2, c_24)
def c_25 : List xR := [(0, .iconst 0, 0, []), (1, .istore_n 1, 0, []), (2, .iconst 0, 0, []), (3, .istore_n 2, 0, []), (4, .iload_n 2, 0, []), (5, .bipush 24, 0, []), (7, .if_icmp .ge 27, 0, []), (10, .aload_n 0, 0, []), (11, .iload_n 2, 0, []), (12, .invokevirtual 25, 22, []), (15, .ifCond .eq 13, 0, []), (18, .iload_n 1, 0, []), (19, .aload_n 0, 0, []), (20, .iload_n 2, 0, []), (21, .invokevirtual 45, 144, []), (24, .invokestatic 48, 145, []), (27, .istore_n 1, 0, []), (28, .iinc 2 1, 0, []), (31, .goto (-27), 0, []), (34, .iload_n 1, 0, []), (35, .ireturn, 0, [])]
def M_25 : xM := (2, 1, 0, 3, c_25)
def c_26 : List xR := [(0, .aload_n 0, 0, []), (1, .invokespecial 3, 7, []), (4, .aload_n 0, 0, []), (5, .bipush 6, 0, []), (7, .anewarray 9, 6, []), (10, .putfield 11, 20, []), (13, .aload_n 0, 0, []), (14, .bipush 7, 0, []), (16, .newarray .int, 0, []), (18, .putfield 17, 21, []), (21, .aload_n 0, 0, []), (22, .bipush 64, 0, []), (24, .newarray .int, 0, []), (26, .putfield 21, 22, []), (29, .aload_n 0, 0, []), (30, .iconst 0, 0, []), (31, .putfield 24, 24, []), (34, .aload_n 0, 0, []), (35, .iconst (-1), 0, []), (36, .putfield 28, 26, []), (39, .aload_n 0, 0, []), (40, .iconst 1, 0, []), (41, .putfield 31, 29, []), (44, .aload_n 0, 0, []), (45, .iconst 0, 0, []), (46, .putfield 34, 31, []), (49, .aload_n 0, 0, []), (50, .iconst 0, 0, []), (51, .putfield 37, 33, []), (54, .return_, 0, [])]
def M_26 : xM := (3, 0, 2, 1, c_26)
def c_27 : List xR := [(0, .iconst 0, 0, []), (1, .istore_n 2, 0, []), (2, .iload_n 2, 0, []), (3, .bipush 6, 0, []), (5, .if_icmp .ge 21, 0, []), (8, .aload_n 0, 0, []), (9, .getfield 11, 20, []), (12, .iload_n 2, 0, []), (13, .aload_n 1, 0, []), (14, .getfield 11, 20, []), (17, .iload_n 2, 0, []), (18, .aaload, 4, []), (19, .aastore, 4, []), (20, .iinc 2 1, 0, []), (23, .goto (-21), 0, []), (26, .aload_n 0, 0, []), (27, .aload_n 1, 0, []), (28, .getfield 24, 24, []), (31, .putfield 24, 24, []), (34, .aload_n 0, 0, []), (35, .aload_n 1, 0, []), (36, .getfield 28, 26, []), (39, .putfield 28, 26, []), (42, .aload_n 0, 0, []), (43, .aload_n 1, 0, []), (44, .getfield 31, 29, []), (47, .putfield 31, 29, []), (50, .aload_n 0, 0, []), (51, .aload_n 1, 0, []), (52, .getfield 34, 31, []), (55, .putfield 34, 31, []), (58, .aload_n 0, 0, []), (59, .aload_n 1, 0, []), (60, .getfield 37, 33, []), (63, .putfield 37, 33, []), (66, .return_, 0, [])]
def M_27 : xM := (3, 0, 0, 3, c_27)
def c_28 : List xR := [(0, .sipush 421, 0, []), (3, .iload_n 0, 0, []), (4, .imul, 0, []), (5, .iload_n 1, 0, []), (6, .iadd, 0, []), (7, .sipush 1024, 0, []), (10, .irem, 0, []), (11, .ireturn, 0, [])]
def M_28 : xM := (3, 1, 1, 2, c_28)
def c_29 : List xR := [(0, .iload_n 1, 0, []), (1, .aload_n 0, 0, []), (2, .getfield 37, 33, []), (5, .invokestatic 40, 33, []), (8, .ireturn, 0, [])]
def M_29 : xM := (3, 1, 0, 2, c_29)
def c_30 : List xR := [(0, .aload_n 0, 0, []), (1, .getfield 11, 20, []), (4, .aload_n 0, 0, []), (5, .getfield 24, 24, []), (8, .aload_n 1, 0, []), (9, .aastore, 4, []), (10, .aload_n 0, 0, []), (11, .dup, 0, []), (12, .getfield 24, 24, []), (15, .iconst 1, 0, []), (16, .iadd, 0, []), (17, .putfield 24, 24, []), (20, .aload_n 0, 0, []), (21, .getfield 24, 24, []), (24, .iconst 1, 0, []), (25, .isub, 0, []), (26, .ireturn, 0, [])]
def M_30 : xM := (3, 1, 0, 2, c_30)
def c_31 : List xR := [(0, .iload_n 1, 0, []), (1, .ifCond .lt 20, 0, []), (4, .iload_n 1, 0, []), (5, .aload_n 0, 0, []), (6, .getfield 24, 24, []), (9, .if_icmp .ge 12, 0, []), (12, .aload_n 0, 0, []), (13, .getfield 11, 20, []), (16, .iload_n 1, 0, []), (17, .aaload, 4, []), (18, .goto 4, 0, []), (21, .aconst_null, 0, []), (22, .areturn, 0, [])]
def M_31 : xM := (3, 4, 0, 2, c_31)
def c_32 : List xR := [(0, .aload_n 0, 0, []), (1, .getfield 17, 21, []), (4, .iconst 0, 0, []), (5, .iload_n 2, 0, []), (6, .iastore, 0, []), (7, .aload_n 0, 0, []), (8, .getfield 17, 21, []), (11, .iconst 1, 0, []), (12, .aload_n 1, 0, []), (13, .getfield 44, 5, []), (16, .iload_n 2, 0, []), (17, .invokevirtual 50, 46, []), (20, .ifCond .eq 14, 0, []), (23, .aload_n 1, 0, []), (24, .getfield 44, 5, []), (27, .iload_n 2, 0, []), (28, .invokevirtual 56, 47, []), (31, .goto 4, 0, []), (34, .iconst (-1), 0, []), (35, .iastore, 0, []), (36, .aload_n 0, 0, []), (37, .getfield 17, 21, []), (40, .iconst 2, 0, []), (41, .aload_n 1, 0, []), (42, .getfield 44, 5, []), (45, .iload_n 2, 0, []), (46, .invokevirtual 60, 48, []), (49, .iastore, 0, []), (50, .aload_n 0, 0, []), (51, .getfield 17, 21, []), (54, .iconst 3, 0, []), (55, .iload_n 3, 0, []), (56, .iastore, 0, []), (57, .aload_n 0, 0, []), (58, .getfield 17, 21, []), (61, .iconst 4, 0, []), (62, .iload 4, 0, []), (64, .iastore, 0, []), (65, .aload_n 0, 0, []), (66, .getfield 17, 21, []), (69, .iconst 5, 0, []), (70, .aload_n 1, 0, []), (71, .getfield 63, 18, []), (74, .iastore, 0, []), (75, .aload_n 0, 0, []), (76, .getfield 17, 21, []), (79, .bipush 6, 0, []), (81, .aload_n 0, 0, []), (82, .getfield 34, 31, []), (85, .iastore, 0, []), (86, .return_, 0, [])]
def M_32 : xM := (3, 0, 0, 5, c_32)
def c_33 : List xR := [(0, .aload_n 0, 0, []), (1, .iload_n 1, 0, []), (2, .invokevirtual 66, 43, []), (5, .astore 4, 0, []), (7, .aload 4, 0, []), (9, .ifnonnull 5, 0, []), (12, .iconst 1, 0, []), (13, .ireturn, 0, []), (14, .aload_n 0, 0, []), (15, .aload_n 2, 0, []), (16, .iload_n 3, 0, []), (17, .iconst (-1), 0, []), (18, .iconst (-1), 0, []), (19, .invokevirtual 70, 45, []), (22, .aload 4, 0, []), (24, .getfield 74, 53, []), (27, .iconst 1, 0, []), (28, .isub, 0, []), (29, .istore 5, 0, []), (31, .iload 5, 0, [1, 2, 3, 6]), (33, .ifCond .lt 79, 0, []), (36, .aload 4, 0, []), (38, .iload 5, 0, []), (40, .iconst 0, 0, []), (41, .invokevirtual 77, 49, []), (44, .iconst 4, 0, []), (45, .if_icmp .ne 61, 0, []), (48, .aload 4, 0, []), (50, .iload 5, 0, []), (52, .bipush 6, 0, []), (54, .aload_n 0, 0, []), (55, .getfield 17, 21, []), (58, .aload_n 0, 0, []), (59, .getfield 21, 22, []), (62, .invokevirtual 80, 50, []), (65, .iconst 1, 0, []), (66, .if_icmp .ne 40, 0, []), (69, .aload 4, 0, []), (71, .iload 5, 0, []), (73, .iconst 2, 0, []), (74, .aload_n 0, 0, []), (75, .getfield 17, 21, []), (78, .aload_n 0, 0, []), (79, .getfield 21, 22, []), (82, .invokevirtual 80, 50, []), (85, .istore 6, 0, []), (87, .iload 6, 0, []), (89, .ldc 84, 1, []), (91, .if_icmp .eq 15, 0, []), (94, .iconst 0, 0, []), (95, .iload 6, 0, []), (97, .bipush 99, 0, []), (99, .invokestatic 85, 73, []), (102, .invokestatic 90, 74, []), (105, .ireturn, 0, []), (106, .iinc 5 (-1), 0, []), (109, .goto (-78), 0, []), (112, .iconst 1, 0, []), (113, .ireturn, 0, [])]
def M_33 : xM := (3, 1, 0, 7, c_33)
def c_34 : List xR := [(0, .aload_n 0, 0, []), (1, .aload_n 0, 0, []), (2, .getfield 28, 26, []), (5, .invokevirtual 66, 43, []), (8, .astore 4, 0, []), (10, .aload 4, 0, []), (12, .ifnonnull 5, 0, []), (15, .iconst 0, 0, []), (16, .ireturn, 0, []), (17, .aload_n 0, 0, []), (18, .aload_n 2, 0, []), (19, .iload_n 3, 0, []), (20, .iload_n 1, 0, []), (21, .aload_n 0, 0, []), (22, .iload_n 1, 0, []), (23, .invokevirtual 93, 44, []), (26, .invokevirtual 70, 45, []), (29, .iconst 0, 0, []), (30, .istore 5, 0, []), (32, .iload 5, 0, [1, 2, 3]), (34, .aload 4, 0, []), (36, .getfield 74, 53, []), (39, .if_icmp .ge 44, 0, []), (42, .aload 4, 0, []), (44, .iload 5, 0, []), (46, .iconst 0, 0, []), (47, .invokevirtual 77, 49, []), (50, .iconst 5, 0, []), (51, .if_icmp .ne 26, 0, []), (54, .aload 4, 0, []), (56, .iload 5, 0, []), (58, .bipush 6, 0, []), (60, .aload_n 0, 0, []), (61, .getfield 17, 21, []), (64, .aload_n 0, 0, []), (65, .getfield 21, 22, []), (68, .invokevirtual 80, 50, []), (71, .iconst 1, 0, []), (72, .if_icmp .ne 5, 0, []), (75, .iconst 1, 0, []), (76, .ireturn, 0, []), (77, .iinc 5 1, 0, []), (80, .goto (-48), 0, []), (83, .iconst 0, 0, []), (84, .ireturn, 0, [])]
def M_34 : xM := (3, 2, 0, 6, c_34)
def c_35 : List xR := [(0, .aload_n 0, 0, []), (1, .invokespecial 3, 9, []), (4, .aload_n 0, 0, []), (5, .bipush 6, 0, []), (7, .newarray .int, 0, []), (9, .putfield 9, 35, []), (12, .aload_n 0, 0, []), (13, .bipush 6, 0, []), (15, .newarray .int, 0, []), (17, .putfield 15, 36, []), (20, .aload_n 0, 0, []), (21, .iconst 0, 0, []), (22, .putfield 18, 37, []), (25, .return_, 0, [])]
def M_35 : xM := (4, 0, 2, 1, c_35)
def c_36 : List xR := [(0, .aload_n 1, 0, []), (1, .getfield 9, 35, []), (4, .iconst 0, 0, []), (5, .aload_n 0, 0, []), (6, .getfield 9, 35, []), (9, .iconst 0, 0, []), (10, .bipush 6, 0, []), (12, .invokestatic 22, 215, []), (15, .aload_n 1, 0, []), (16, .getfield 15, 36, []), (19, .iconst 0, 0, []), (20, .aload_n 0, 0, []), (21, .getfield 15, 36, []), (24, .iconst 0, 0, []), (25, .bipush 6, 0, []), (27, .invokestatic 22, 215, []), (30, .aload_n 0, 0, []), (31, .aload_n 1, 0, []), (32, .getfield 18, 37, []), (35, .putfield 18, 37, []), (38, .return_, 0, [])]
def M_36 : xM := (4, 0, 0, 2, c_36)
def c_37 : List xR := [(0, .aload_n 0, 0, []), (1, .getfield 9, 35, []), (4, .aload_n 0, 0, []), (5, .getfield 18, 37, []), (8, .iload_n 1, 0, []), (9, .iastore, 0, []), (10, .aload_n 0, 0, []), (11, .getfield 15, 36, []), (14, .aload_n 0, 0, []), (15, .getfield 18, 37, []), (18, .iload_n 2, 0, []), (19, .iastore, 0, []), (20, .aload_n 0, 0, []), (21, .dup, 0, []), (22, .getfield 18, 37, []), (25, .iconst 1, 0, []), (26, .iadd, 0, []), (27, .putfield 18, 37, []), (30, .aload_n 0, 0, []), (31, .getfield 18, 37, []), (34, .ireturn, 0, [])]
def M_37 : xM := (4, 1, 0, 3, c_37)
def c_38 : List xR := [(0, .iconst 0, 0, []), (1, .istore_n 2, 0, []), (2, .iconst 0, 0, []), (3, .istore_n 3, 0, []), (4, .iload_n 3, 0, []), (5, .bipush 24, 0, []), (7, .if_icmp .ge 35, 0, []), (10, .aload_n 1, 0, []), (11, .getfield 28, 4, []), (14, .iload_n 3, 0, []), (15, .invokevirtual 34, 191, []), (18, .ifCond .eq 18, 0, []), (21, .aload_n 0, 0, []), (22, .aload_n 1, 0, []), (23, .iload_n 3, 0, []), (24, .invokevirtual 40, 192, []), (27, .ifCond .eq 9, 0, []), (30, .iload_n 2, 0, []), (31, .iconst 1, 0, []), (32, .iload_n 3, 0, []), (33, .ishl, 0, []), (34, .ior, 0, []), (35, .istore_n 2, 0, []), (36, .iinc 3 1, 0, []), (39, .goto (-35), 0, []), (42, .iload_n 2, 0, []), (43, .ireturn, 0, [])]
def M_38 : xM := (4, 1, 0, 4, c_38)
def c_39 : List xR := [(0, .iconst 0, 0, []), (1, .istore_n 3, 0, []), (2, .iload_n 3, 0, [4]), (3, .aload_n 0, 0, []), (4, .getfield 18, 37, []), (7, .if_icmp .ge 66, 0, []), (10, .aload_n 0, 0, []), (11, .getfield 9, 35, []), (14, .iload_n 3, 0, []), (15, .iaload, 0, []), (16, .aload_n 1, 0, []), (17, .invokevirtual 44, 193, []), (20, .if_icmp .ge 22, 0, []), (23, .aload_n 1, 0, []), (24, .getfield 48, 10, []), (27, .aload_n 0, 0, []), (28, .getfield 9, 35, []), (31, .iload_n 3, 0, []), (32, .iaload, 0, []), (33, .iaload, 0, []), (34, .iload_n 2, 0, []), (35, .if_icmp .ne 7, 0, []), (38, .iconst 1, 0, []), (39, .goto 4, 0, []), (42, .iconst 0, 0, []), (43, .istore 4, 0, [4]), (45, .iload 4, 0, []), (47, .aload_n 0, 0, []), (48, .getfield 15, 36, []), (51, .iload_n 3, 0, []), (52, .iaload, 0, []), (53, .iconst 1, 0, []), (54, .if_icmp .ne 7, 0, []), (57, .iconst 1, 0, []), (58, .goto 4, 0, []), (61, .iconst 0, 0, []), (62, .if_icmp .eq 5, 0, []), (65, .iconst 0, 0, []), (66, .ireturn, 0, []), (67, .iinc 3 1, 0, []), (70, .goto (-68), 0, []), (73, .iconst 1, 0, []), (74, .ireturn, 0, [])]
def M_39 : xM := (4, 2, 0, 5, c_39)
def c_40 : List xR := [(0, .aload_n 0, 0, []), (1, .invokespecial 3, 3, []), (4, .aload_n 0, 0, []), (5, .new 9, 3, []), (8, .dup, 0, []), (9, .invokespecial 11, 4, []), (12, .putfield 12, 2, []), (15, .aload_n 0, 0, []), (16, .new 9, 3, []), (19, .dup, 0, []), (20, .invokespecial 11, 4, []), (23, .putfield 18, 6, []), (26, .aload_n 0, 0, []), (27, .bipush 64, 0, []), (29, .newarray .int, 0, []), (31, .putfield 21, 8, []), (34, .aload_n 0, 0, []), (35, .sipush 480, 0, []), (38, .newarray .int, 0, []), (40, .putfield 25, 11, []), (43, .aload_n 0, 0, []), (44, .iconst 0, 0, []), (45, .putfield 28, 12, []), (48, .aload_n 0, 0, []), (49, .iconst 0, 0, []), (50, .putfield 32, 13, []), (53, .aload_n 0, 0, []), (54, .iconst 0, 0, []), (55, .putfield 35, 15, []), (58, .aload_n 0, 0, []), (59, .iconst 0, 0, []), (60, .putfield 38, 17, []), (63, .return_, 0, [])]
def M_40 : xM := (5, 0, 2, 1, c_40)
def c_41 : List xR := [(0, .aload_n 0, 0, []), (1, .getfield 12, 2, []), (4, .iconst 0, 0, []), (5, .iconst 0, 0, []), (6, .iconst 0, 0, []), (7, .invokevirtual 41, 17, []), (10, .aload_n 0, 0, []), (11, .getfield 18, 6, []), (14, .iconst 0, 0, []), (15, .iconst 0, 0, []), (16, .iconst 0, 0, []), (17, .invokevirtual 41, 17, []), (20, .return_, 0, [])]
def M_41 : xM := (5, 0, 0, 1, c_41)
def c_42 : List xR := [(0, .aload_n 0, 0, []), (1, .getfield 12, 2, []), (4, .aload_n 1, 0, []), (5, .getfield 12, 2, []), (8, .invokevirtual 45, 129, []), (11, .aload_n 0, 0, []), (12, .getfield 18, 6, []), (15, .aload_n 1, 0, []), (16, .getfield 18, 6, []), (19, .invokevirtual 45, 129, []), (22, .aload_n 1, 0, []), (23, .getfield 21, 8, []), (26, .iconst 0, 0, []), (27, .aload_n 0, 0, []), (28, .getfield 21, 8, []), (31, .iconst 0, 0, []), (32, .bipush 64, 0, []), (34, .invokestatic 49, 76, []), (37, .aload_n 1, 0, []), (38, .getfield 25, 11, []), (41, .iconst 0, 0, []), (42, .aload_n 0, 0, []), (43, .getfield 25, 11, []), (46, .iconst 0, 0, []), (47, .aload_n 0, 0, []), (48, .getfield 25, 11, []), (51, .arraylength, 0, []), (52, .invokestatic 49, 76, []), (55, .aload_n 0, 0, []), (56, .aload_n 1, 0, []), (57, .getfield 28, 12, []), (60, .putfield 28, 12, []), (63, .aload_n 0, 0, []), (64, .aload_n 1, 0, []), (65, .getfield 32, 13, []), (68, .putfield 32, 13, []), (71, .aload_n 0, 0, []), (72, .aload_n 1, 0, []), (73, .getfield 35, 15, []), (76, .putfield 35, 15, []), (79, .aload_n 0, 0, []), (80, .aload_n 1, 0, []), (81, .getfield 38, 17, []), (84, .putfield 38, 17, []), (87, .return_, 0, [])]
def M_42 : xM := (5, 0, 0, 2, c_42)
def c_43 : List xR := [(0, .iconst 1, 0, []), (1, .aload_n 0, 0, []), (2, .getfield 35, 15, []), (5, .ishl, 0, []), (6, .ireturn, 0, [])]
def M_43 : xM := (5, 1, 0, 1, c_43)
def c_44 : List xR := [(0, .iconst 0, 0, []), (1, .istore_n 1, 0, []), (2, .iconst 0, 0, []), (3, .istore_n 2, 0, []), (4, .iload_n 2, 0, []), (5, .bipush 24, 0, []), (7, .if_icmp .ge 20, 0, []), (10, .iload_n 1, 0, []), (11, .aload_n 0, 0, []), (12, .getfield 12, 2, []), (15, .iload_n 2, 0, []), (16, .invokevirtual 55, 58, []), (19, .iadd, 0, []), (20, .istore_n 1, 0, []), (21, .iinc 2 1, 0, []), (24, .goto (-20), 0, []), (27, .iload_n 1, 0, []), (28, .ireturn, 0, [])]
def M_44 : xM := (5, 1, 0, 3, c_44)
def c_45 : List xR := [(0, .aload_n 0, 0, []), (1, .getfield 21, 8, []), (4, .aload_n 2, 0, []), (5, .iload_n 1, 0, []), (6, .invokevirtual 59, 36, []), (9, .bipush 63, 0, []), (11, .iand, 0, []), (12, .iaload, 0, []), (13, .ireturn, 0, [])]
def M_45 : xM := (5, 1, 0, 3, c_45)
def c_46 : List xR := [(0, .aload_n 0, 0, []), (1, .iload_n 1, 0, []), (2, .aload_n 2, 0, []), (3, .invokevirtual 64, 35, []), (6, .istore_n 3, 0, []), (7, .aload_n 0, 0, []), (8, .getfield 12, 2, []), (11, .iload_n 3, 0, []), (12, .iload_n 1, 0, []), (13, .invokevirtual 68, 37, []), (16, .istore 4, 0, []), (18, .iload 4, 0, []), (20, .iconst (-1), 0, []), (21, .if_icmp .ne 7, 0, []), (24, .iconst (-1), 0, []), (25, .goto 13, 0, []), (28, .aload_n 0, 0, []), (29, .getfield 12, 2, []), (32, .iload_n 3, 0, []), (33, .iload 4, 0, []), (35, .invokevirtual 72, 39, []), (38, .ireturn, 0, [])]
def M_46 : xM := (5, 1, 0, 5, c_46)
def c_47 : List xR := [(0, .aload_n 2, 0, []), (1, .iload_n 1, 0, []), (2, .aload_n 0, 0, []), (3, .aload_n 0, 0, []), (4, .iload_n 1, 0, []), (5, .aload_n 2, 0, []), (6, .invokevirtual 64, 35, []), (9, .invokevirtual 75, 42, []), (12, .ireturn, 0, [])]
def M_47 : xM := (5, 2, 0, 3, c_47)
def c_48 : List xR := [(0, .iload_n 1, 0, []), (1, .invokestatic 79, 69, []), (4, .ifCond .eq 13, 0, []), (7, .iload_n 2, 0, []), (8, .ifCond .lt 9, 0, []), (11, .iload_n 2, 0, []), (12, .bipush 99, 0, []), (14, .if_icmp .le 5, 0, []), (17, .iconst (-1), 0, []), (18, .ireturn, 0, []), (19, .aload_n 0, 0, []), (20, .iload_n 1, 0, []), (21, .aload_n 3, 0, []), (22, .invokevirtual 64, 35, []), (25, .istore 4, 0, []), (27, .aload_n 0, 0, []), (28, .getfield 12, 2, []), (31, .iload 4, 0, []), (33, .iload_n 1, 0, []), (34, .invokevirtual 68, 37, []), (37, .istore 5, 0, []), (39, .iload 5, 0, []), (41, .iconst (-1), 0, []), (42, .if_icmp .eq 24, 0, []), (45, .aload_n 0, 0, []), (46, .getfield 12, 2, []), (49, .iload 4, 0, []), (51, .iload 5, 0, []), (53, .iload_n 2, 0, []), (54, .invokevirtual 83, 70, []), (57, .aload_n 0, 0, []), (58, .iload 4, 0, []), (60, .aload_n 3, 0, []), (61, .invokevirtual 86, 71, []), (64, .iconst 0, 0, []), (65, .ireturn, 0, []), (66, .aload_n 0, 0, []), (67, .iload_n 1, 0, []), (68, .aload_n 3, 0, []), (69, .invokevirtual 90, 78, []), (72, .ifCond .eq 6, 0, []), (75, .bipush (-3), 0, []), (77, .ireturn, 0, []), (78, .aload_n 0, 0, []), (79, .iload 4, 0, []), (81, .aload_n 3, 0, []), (82, .iload_n 1, 0, []), (83, .invokevirtual 59, 36, []), (86, .aload_n 3, 0, []), (87, .invokevirtual 94, 79, []), (90, .istore 6, 0, []), (92, .iload 6, 0, []), (94, .ifCond .ge 6, 0, []), (97, .bipush (-5), 0, []), (99, .ireturn, 0, []), (100, .iconst 0, 0, []), (101, .istore 7, 0, []), (103, .iload 7, 0, [4, 5, 8, 9]), (105, .iload 6, 0, []), (107, .if_icmp .ge 40, 0, []), (110, .aload_n 0, 0, []), (111, .iload_n 1, 0, []), (112, .aload_n 3, 0, []), (113, .invokevirtual 64, 35, []), (116, .istore 8, 0, []), (118, .aload_n 0, 0, []), (119, .iload 8, 0, []), (121, .aload_n 3, 0, []), (122, .invokevirtual 98, 83, []), (125, .istore 9, 0, []), (127, .aload_n 0, 0, []), (128, .iload 9, 0, []), (130, .aload_n 3, 0, []), (131, .invokevirtual 86, 71, []), (134, .aload_n 0, 0, []), (135, .iload 8, 0, []), (137, .aload_n 3, 0, []), (138, .invokevirtual 86, 71, []), (141, .iinc 7 1, 0, []), (144, .goto (-41), 0, []), (147, .aload_n 0, 0, []), (148, .iload_n 1, 0, []), (149, .aload_n 3, 0, []), (150, .invokevirtual 64, 35, []), (153, .istore 4, 0, []), (155, .aload_n 0, 0, []), (156, .getfield 12, 2, []), (159, .iload 4, 0, []), (161, .iload_n 1, 0, []), (162, .iload_n 2, 0, []), (163, .invokevirtual 101, 89, []), (166, .aload_n 0, 0, []), (167, .iload 4, 0, []), (169, .aload_n 3, 0, []), (170, .invokevirtual 86, 71, []), (173, .iload 6, 0, []), (175, .ireturn, 0, [])]
def M_48 : xM := (5, 1, 0, 10, c_48)
def c_49 : List xR := [(0, .aload_n 0, 0, []), (1, .getfield 12, 2, []), (4, .iload_n 1, 0, []), (5, .invokevirtual 55, 58, []), (8, .iconst 3, 0, []), (9, .if_icmp .ge 5, 0, []), (12, .iconst 0, 0, []), (13, .ireturn, 0, []), (14, .iconst 0, 0, []), (15, .istore 4, 0, []), (17, .iconst 0, 0, []), (18, .istore 5, 0, []), (20, .iload 5, 0, [6, 7]), (22, .iconst 3, 0, []), (23, .if_icmp .ge 30, 0, []), (26, .iload 4, 0, []), (28, .iload_n 2, 0, []), (29, .aload_n 3, 0, []), (30, .aload_n 0, 0, []), (31, .getfield 12, 2, []), (34, .iload_n 1, 0, []), (35, .iload 5, 0, []), (37, .invokevirtual 104, 80, []), (40, .invokevirtual 59, 36, []), (43, .ixor, 0, []), (44, .ior, 0, []), (45, .istore 4, 0, []), (47, .iinc 5 1, 0, []), (50, .goto (-30), 0, []), (53, .aload_n 0, 0, []), (54, .getfield 12, 2, []), (57, .iload_n 1, 0, []), (58, .invokevirtual 107, 81, []), (61, .istore 5, 0, []), (63, .iload 5, 0, []), (65, .istore 6, 0, []), (67, .iload 6, 0, [1, 2, 3, 7]), (69, .bipush 6, 0, []), (71, .if_icmp .ge 51, 0, []), (74, .iload 4, 0, []), (76, .iload 6, 0, []), (78, .ishr, 0, []), (79, .iconst 1, 0, []), (80, .iand, 0, []), (81, .ifCond .eq 35, 0, []), (84, .iload 6, 0, []), (86, .iload 5, 0, []), (88, .isub, 0, []), (89, .iconst 1, 0, []), (90, .iadd, 0, []), (91, .istore 7, 0, []), (93, .aload_n 0, 0, []), (94, .getfield 12, 2, []), (97, .invokevirtual 110, 82, []), (100, .iload 7, 0, []), (102, .iadd, 0, []), (103, .bipush 24, 0, []), (105, .if_icmp .gt 8, 0, []), (108, .iload 7, 0, []), (110, .goto 5, 0, []), (113, .bipush (-5), 0, []), (115, .ireturn, 0, []), (116, .iinc 6 1, 0, []), (119, .goto (-52), 0, []), (122, .bipush (-5), 0, []), (124, .ireturn, 0, [])]
def M_49 : xM := (5, 1, 0, 8, c_49)
def c_50 : List xR := [(0, .aload_n 0, 0, []), (1, .getfield 12, 2, []), (4, .invokevirtual 114, 84, []), (7, .istore_n 3, 0, []), (8, .iload_n 3, 0, []), (9, .iconst (-1), 0, []), (10, .if_icmp .ne 5, 0, []), (13, .iload_n 1, 0, []), (14, .ireturn, 0, []), (15, .aload_n 0, 0, []), (16, .getfield 12, 2, []), (19, .iload_n 1, 0, []), (20, .invokevirtual 107, 81, []), (23, .istore 4, 0, []), (25, .aload_n 0, 0, []), (26, .getfield 12, 2, []), (29, .iload_n 1, 0, []), (30, .invokevirtual 117, 85, []), (33, .istore 5, 0, []), (35, .aload_n 0, 0, []), (36, .getfield 12, 2, []), (39, .iload_n 3, 0, []), (40, .invokevirtual 120, 86, []), (43, .aload_n 0, 0, []), (44, .getfield 12, 2, []), (47, .iload_n 3, 0, []), (48, .iload 4, 0, []), (50, .iconst 1, 0, []), (51, .iadd, 0, []), (52, .iload 5, 0, []), (54, .iconst 1, 0, []), (55, .iload 4, 0, []), (57, .ishl, 0, []), (58, .iadd, 0, []), (59, .invokevirtual 41, 17, []), (62, .aload_n 0, 0, []), (63, .getfield 12, 2, []), (66, .iload_n 1, 0, []), (67, .iload 4, 0, []), (69, .iconst 1, 0, []), (70, .iadd, 0, []), (71, .iload 5, 0, []), (73, .invokevirtual 41, 17, []), (76, .iconst 0, 0, []), (77, .istore 6, 0, []), (79, .iconst 0, 0, []), (80, .istore 7, 0, []), (82, .iload 7, 0, [5, 8]), (84, .iconst 3, 0, []), (85, .if_icmp .ge 85, 0, []), (88, .iload 6, 0, []), (90, .aload_n 0, 0, []), (91, .getfield 12, 2, []), (94, .iload_n 1, 0, []), (95, .invokevirtual 55, 58, []), (98, .if_icmp .ge 72, 0, []), (101, .aload_n 0, 0, []), (102, .getfield 12, 2, []), (105, .iload_n 1, 0, []), (106, .iload 6, 0, []), (108, .invokevirtual 104, 80, []), (111, .istore 8, 0, []), (113, .aload_n 2, 0, []), (114, .iload 8, 0, []), (116, .invokevirtual 59, 36, []), (119, .iload 4, 0, []), (121, .ishr, 0, []), (122, .iconst 1, 0, []), (123, .iand, 0, []), (124, .iconst 1, 0, []), (125, .if_icmp .ne 36, 0, []), (128, .aload_n 0, 0, []), (129, .getfield 12, 2, []), (132, .iload_n 3, 0, []), (133, .iload 8, 0, []), (135, .aload_n 0, 0, []), (136, .getfield 12, 2, []), (139, .iload_n 1, 0, []), (140, .iload 6, 0, []), (142, .invokevirtual 72, 39, []), (145, .invokevirtual 101, 89, []), (148, .aload_n 0, 0, []), (149, .getfield 12, 2, []), (152, .iload_n 1, 0, []), (153, .iload 6, 0, []), (155, .invokevirtual 124, 90, []), (158, .goto 6, 0, []), (161, .iinc 6 1, 0, []), (164, .iinc 7 1, 0, []), (167, .goto (-85), 0, []), (170, .aload_n 0, 0, [1, 2, 5, 6, 7, 8]), (171, .iload_n 3, 0, []), (172, .iload_n 3, 0, []), (173, .invokevirtual 128, 92, []), (176, .aload_n 0, 0, []), (177, .aload_n 0, 0, []), (178, .getfield 35, 15, []), (181, .iload 4, 0, []), (183, .iconst 1, 0, []), (184, .iadd, 0, []), (185, .invokestatic 131, 93, []), (188, .putfield 35, 15, []), (191, .iload_n 3, 0, []), (192, .ireturn, 0, [])]
def M_50 : xM := (5, 1, 0, 9, c_50)
def c_51 : List xR := [(0, .iconst 1, 0, []), (1, .aload_n 0, 0, []), (2, .getfield 12, 2, []), (5, .iload_n 1, 0, []), (6, .invokevirtual 107, 81, []), (9, .ishl, 0, []), (10, .istore_n 3, 0, []), (11, .aload_n 0, 0, []), (12, .getfield 12, 2, []), (15, .iload_n 1, 0, []), (16, .invokevirtual 117, 85, []), (19, .istore 4, 0, []), (21, .iload 4, 0, [1]), (23, .bipush 64, 0, []), (25, .if_icmp .ge 20, 0, []), (28, .aload_n 0, 0, []), (29, .getfield 21, 8, []), (32, .iload 4, 0, []), (34, .iload_n 2, 0, []), (35, .iastore, 0, []), (36, .iload 4, 0, []), (38, .iload_n 3, 0, []), (39, .iadd, 0, []), (40, .istore 4, 0, []), (42, .goto (-21), 0, []), (45, .return_, 0, [])]
def M_51 : xM := (5, 0, 0, 5, c_51)
def c_52 : List xR := [(0, .iload_n 1, 0, []), (1, .invokestatic 79, 69, []), (4, .ifCond .ne 5, 0, []), (7, .iconst (-1), 0, []), (8, .ireturn, 0, []), (9, .aload_n 0, 0, []), (10, .iload_n 1, 0, []), (11, .aload_n 2, 0, []), (12, .invokevirtual 64, 35, []), (15, .istore_n 3, 0, []), (16, .aload_n 0, 0, []), (17, .getfield 12, 2, []), (20, .iload_n 3, 0, []), (21, .iload_n 1, 0, []), (22, .invokevirtual 68, 37, []), (25, .istore 4, 0, []), (27, .iload 4, 0, []), (29, .iconst (-1), 0, []), (30, .if_icmp .ne 6, 0, []), (33, .bipush (-3), 0, []), (35, .ireturn, 0, []), (36, .aload_n 0, 0, []), (37, .getfield 12, 2, []), (40, .iload_n 3, 0, []), (41, .iload 4, 0, []), (43, .invokevirtual 124, 90, []), (46, .aload_n 0, 0, []), (47, .iload_n 3, 0, []), (48, .aload_n 2, 0, []), (49, .invokevirtual 86, 71, []), (52, .iconst 0, 0, []), (53, .istore 5, 0, []), (55, .iconst 0, 0, []), (56, .istore 6, 0, []), (58, .iload 6, 0, [1, 4, 7, 8, 9, 10]), (60, .bipush 6, 0, []), (62, .if_icmp .ge 128, 0, []), (65, .aload_n 0, 0, []), (66, .iload_n 3, 0, []), (67, .invokevirtual 136, 140, []), (70, .istore 7, 0, []), (72, .iload 7, 0, []), (74, .iconst (-1), 0, []), (75, .if_icmp .eq 115, 0, []), (78, .aload_n 0, 0, []), (79, .getfield 12, 2, []), (82, .iload_n 3, 0, []), (83, .invokevirtual 55, 58, []), (86, .aload_n 0, 0, []), (87, .getfield 12, 2, []), (90, .iload 7, 0, []), (92, .invokevirtual 55, 58, []), (95, .iadd, 0, []), (96, .iconst 3, 0, []), (97, .if_icmp .le 6, 0, []), (100, .goto 90, 0, []), (103, .aload_n 0, 0, []), (104, .getfield 12, 2, []), (107, .iload_n 3, 0, []), (108, .invokevirtual 117, 85, []), (111, .aload_n 0, 0, []), (112, .getfield 12, 2, []), (115, .iload 7, 0, []), (117, .invokevirtual 117, 85, []), (120, .if_icmp .ge 7, 0, []), (123, .iconst 1, 0, []), (124, .goto 4, 0, []), (127, .iconst 0, 0, []), (128, .istore 8, 0, [1, 4, 8, 9, 10]), (130, .iload 8, 0, []), (132, .ifCond .eq 7, 0, []), (135, .iload_n 3, 0, []), (136, .goto 5, 0, []), (139, .iload 7, 0, []), (141, .istore 9, 0, []), (143, .iload 8, 0, []), (145, .ifCond .eq 8, 0, []), (148, .iload 7, 0, []), (150, .goto 4, 0, []), (153, .iload_n 3, 0, []), (154, .istore 10, 0, [1, 3, 4, 7, 8, 10]), (156, .aload_n 0, 0, []), (157, .iload 9, 0, []), (159, .iload 10, 0, []), (161, .invokevirtual 139, 142, []), (164, .aload_n 0, 0, []), (165, .iload 9, 0, []), (167, .aload_n 2, 0, []), (168, .invokevirtual 86, 71, []), (171, .aload_n 0, 0, []), (172, .iload 10, 0, []), (174, .aload_n 2, 0, []), (175, .invokevirtual 86, 71, []), (178, .iload 9, 0, []), (180, .istore_n 3, 0, []), (181, .iinc 5 1, 0, []), (184, .iinc 6 1, 0, []), (187, .goto (-129), 0, []), (190, .aload_n 0, 0, []), (191, .aload_n 0, 0, []), (192, .getfield 12, 2, []), (195, .invokevirtual 142, 143, []), (198, .putfield 35, 15, []), (201, .iload 5, 0, []), (203, .ireturn, 0, [])]
def M_52 : xM := (5, 1, 0, 11, c_52)
def c_53 : List xR := [(0, .aload_n 0, 0, []), (1, .getfield 12, 2, []), (4, .iload_n 1, 0, []), (5, .invokevirtual 107, 81, []), (8, .istore_n 2, 0, []), (9, .aload_n 0, 0, []), (10, .getfield 12, 2, []), (13, .iload_n 1, 0, []), (14, .invokevirtual 145, 141, []), (17, .ifCond .eq 7, 0, []), (20, .iload_n 2, 0, []), (21, .ifCond .ne 5, 0, []), (24, .iconst (-1), 0, []), (25, .ireturn, 0, []), (26, .aload_n 0, 0, []), (27, .getfield 21, 8, []), (30, .aload_n 0, 0, []), (31, .getfield 12, 2, []), (34, .iload_n 1, 0, []), (35, .invokevirtual 117, 85, []), (38, .iconst 1, 0, []), (39, .iload_n 2, 0, []), (40, .iconst 1, 0, []), (41, .isub, 0, []), (42, .ishl, 0, []), (43, .ixor, 0, []), (44, .iaload, 0, []), (45, .istore_n 3, 0, []), (46, .aload_n 0, 0, []), (47, .getfield 12, 2, []), (50, .iload_n 3, 0, []), (51, .invokevirtual 107, 81, []), (54, .iload_n 2, 0, []), (55, .if_icmp .ne 7, 0, []), (58, .iload_n 3, 0, []), (59, .goto 4, 0, []), (62, .iconst (-1), 0, []), (63, .ireturn, 0, [])]
def M_53 : xM := (5, 1, 0, 4, c_53)
def c_54 : List xR := [(0, .aload_n 0, 0, []), (1, .iload_n 2, 0, []), (2, .iload_n 1, 0, []), (3, .invokevirtual 128, 92, []), (6, .iconst 0, 0, []), (7, .istore_n 3, 0, []), (8, .iload_n 3, 0, []), (9, .aload_n 0, 0, []), (10, .getfield 12, 2, []), (13, .iload_n 2, 0, []), (14, .invokevirtual 55, 58, []), (17, .if_icmp .ge 35, 0, []), (20, .aload_n 0, 0, []), (21, .getfield 12, 2, []), (24, .iload_n 1, 0, []), (25, .aload_n 0, 0, []), (26, .getfield 12, 2, []), (29, .iload_n 2, 0, []), (30, .iload_n 3, 0, []), (31, .invokevirtual 104, 80, []), (34, .aload_n 0, 0, []), (35, .getfield 12, 2, []), (38, .iload_n 2, 0, []), (39, .iload_n 3, 0, []), (40, .invokevirtual 72, 39, []), (43, .invokevirtual 101, 89, []), (46, .iinc 3 1, 0, []), (49, .goto (-41), 0, []), (52, .aload_n 0, 0, []), (53, .getfield 12, 2, []), (56, .iload_n 2, 0, []), (57, .invokevirtual 120, 86, []), (60, .aload_n 0, 0, []), (61, .getfield 12, 2, []), (64, .iload_n 1, 0, []), (65, .aload_n 0, 0, []), (66, .getfield 12, 2, []), (69, .iload_n 1, 0, []), (70, .invokevirtual 107, 81, []), (73, .iconst 1, 0, []), (74, .isub, 0, []), (75, .aload_n 0, 0, []), (76, .getfield 12, 2, []), (79, .iload_n 1, 0, []), (80, .invokevirtual 117, 85, []), (83, .invokevirtual 41, 17, []), (86, .return_, 0, [])]
def M_54 : xM := (5, 0, 0, 4, c_54)
def c_55 : List xR := [(0, .aload_n 2, 0, []), (1, .aload_n 2, 0, []), (2, .getfield 148, 27, []), (5, .aload_n 0, 0, []), (6, .iload_n 1, 0, []), (7, .invokevirtual 151, 72, []), (10, .istore_n 3, 0, []), (11, .aload_n 0, 0, []), (12, .getfield 32, 13, []), (15, .bipush 40, 0, []), (17, .if_icmp .ne 7, 0, []), (20, .aload_n 0, 0, []), (21, .invokevirtual 155, 75, []), (24, .aload_n 0, 0, [2, 4]), (25, .aload_n 0, 0, []), (26, .getfield 32, 13, []), (29, .invokevirtual 158, 27, []), (32, .istore 4, 0, []), (34, .aload_n 0, 0, []), (35, .getfield 25, 11, []), (38, .iload 4, 0, []), (40, .iload_n 1, 0, []), (41, .iastore, 0, []), (42, .aload_n 0, 0, []), (43, .getfield 25, 11, []), (46, .iload 4, 0, []), (48, .iconst 1, 0, []), (49, .iadd, 0, []), (50, .iload_n 3, 0, []), (51, .iastore, 0, []), (52, .aload_n 0, 0, []), (53, .getfield 12, 2, []), (56, .getfield 161, 1, []), (59, .iload_n 1, 0, []), (60, .bipush 10, 0, []), (62, .imul, 0, []), (63, .aload_n 0, 0, []), (64, .getfield 25, 11, []), (67, .iload 4, 0, []), (69, .iconst 2, 0, []), (70, .iadd, 0, []), (71, .bipush 10, 0, []), (73, .invokestatic 49, 76, []), (76, .aload_n 0, 0, []), (77, .dup, 0, []), (78, .getfield 32, 13, []), (81, .iconst 1, 0, []), (82, .iadd, 0, []), (83, .putfield 32, 13, []), (86, .aload_n 0, 0, []), (87, .aload_n 0, 0, []), (88, .getfield 38, 17, []), (91, .iconst 1, 0, []), (92, .iadd, 0, []), (93, .sipush 999, 0, []), (96, .invokestatic 164, 77, []), (99, .putfield 38, 17, []), (102, .return_, 0, [])]
def M_55 : xM := (5, 0, 0, 5, c_55)
def c_56 : List xR := [(0, .aload_n 0, 0, []), (1, .getfield 28, 12, []), (4, .iload_n 1, 0, []), (5, .iadd, 0, []), (6, .bipush 40, 0, []), (8, .irem, 0, []), (9, .bipush 12, 0, []), (11, .imul, 0, []), (12, .ireturn, 0, [])]
def M_56 : xM := (5, 1, 0, 2, c_56)
def c_57 : List xR := [(0, .aload_n 0, 0, []), (1, .iconst 0, 0, []), (2, .invokevirtual 158, 27, []), (5, .istore_n 1, 0, []), (6, .aload_n 0, 0, []), (7, .getfield 25, 11, []), (10, .iload_n 1, 0, []), (11, .iconst 2, 0, []), (12, .iadd, 0, []), (13, .aload_n 0, 0, []), (14, .getfield 18, 6, []), (17, .getfield 161, 1, []), (20, .aload_n 0, 0, []), (21, .getfield 25, 11, []), (24, .iload_n 1, 0, []), (25, .iaload, 0, []), (26, .bipush 10, 0, []), (28, .imul, 0, []), (29, .bipush 10, 0, []), (31, .invokestatic 49, 76, []), (34, .aload_n 0, 0, []), (35, .aload_n 0, 0, []), (36, .getfield 28, 12, []), (39, .iconst 1, 0, []), (40, .iadd, 0, []), (41, .bipush 40, 0, []), (43, .irem, 0, []), (44, .putfield 28, 12, []), (47, .aload_n 0, 0, []), (48, .dup, 0, []), (49, .getfield 32, 13, []), (52, .iconst 1, 0, []), (53, .isub, 0, []), (54, .putfield 32, 13, []), (57, .return_, 0, [])]
def M_57 : xM := (5, 0, 0, 2, c_57)
def c_58 : List xR := [(0, .iload_n 1, 0, []), (1, .ifCond .lt 11, 0, []), (4, .iload_n 1, 0, []), (5, .aload_n 0, 0, []), (6, .getfield 32, 13, []), (9, .if_icmp .lt 5, 0, []), (12, .iconst (-1), 0, []), (13, .ireturn, 0, []), (14, .aload_n 0, 0, []), (15, .iload_n 1, 0, []), (16, .invokevirtual 158, 27, []), (19, .istore_n 3, 0, []), (20, .iload_n 2, 0, []), (21, .tableswitch 71 0 2 #[27, 34, 43], 0, []), (48, .aload_n 0, 0, []), (49, .getfield 25, 11, []), (52, .iload_n 3, 0, []), (53, .iaload, 0, []), (54, .ireturn, 0, []), (55, .aload_n 0, 0, []), (56, .getfield 25, 11, []), (59, .iload_n 3, 0, []), (60, .iconst 1, 0, []), (61, .iadd, 0, []), (62, .iaload, 0, []), (63, .ireturn, 0, []), (64, .aload_n 0, 0, []), (65, .getfield 25, 11, []), (68, .iload_n 3, 0, []), (69, .iconst 2, 0, []), (70, .iadd, 0, []), (71, .iconst 0, 0, []), (72, .iadd, 0, []), (73, .iaload, 0, []), (74, .ifCond .ne 7, 0, []), (77, .iconst (-1), 0, []), (78, .goto 13, 0, []), (81, .aload_n 0, 0, []), (82, .getfield 25, 11, []), (85, .iload_n 3, 0, []), (86, .iconst 2, 0, []), (87, .iadd, 0, []), (88, .iconst 3, 0, []), (89, .iadd, 0, []), (90, .iaload, 0, []), (91, .ireturn, 0, []), (92, .iconst (-1), 0, []), (93, .ireturn, 0, [])]
def M_58 : xM := (5, 1, 0, 4, c_58)
def c_59 : List xR := [(0, .iconst 0, 0, []), (1, .istore_n 1, 0, []), (2, .iconst 0, 0, []), (3, .istore_n 2, 0, []), (4, .iload_n 2, 0, []), (5, .aload_n 0, 0, []), (6, .getfield 32, 13, []), (9, .if_icmp .ge 24, 0, []), (12, .iload_n 1, 0, []), (13, .aload_n 0, 0, []), (14, .getfield 25, 11, []), (17, .aload_n 0, 0, []), (18, .iload_n 2, 0, []), (19, .invokevirtual 158, 27, []), (22, .iconst 1, 0, []), (23, .iadd, 0, []), (24, .iaload, 0, []), (25, .iadd, 0, []), (26, .istore_n 1, 0, []), (27, .iinc 2 1, 0, []), (30, .goto (-26), 0, []), (33, .iload_n 1, 0, []), (34, .ireturn, 0, [])]
def M_59 : xM := (5, 1, 0, 3, c_59)
def c_60 : List xR := [(0, .iload_n 1, 0, []), (1, .ifCond .ge 5, 0, []), (4, .iconst (-1), 0, []), (5, .ireturn, 0, []), (6, .iload_n 1, 0, []), (7, .aload_n 0, 0, []), (8, .getfield 32, 13, []), (11, .if_icmp .le 6, 0, []), (14, .bipush (-3), 0, []), (16, .ireturn, 0, []), (17, .iconst 0, 0, []), (18, .istore_n 2, 0, []), (19, .iload_n 2, 0, []), (20, .iload_n 1, 0, []), (21, .if_icmp .ge 13, 0, []), (24, .aload_n 0, 0, []), (25, .invokevirtual 155, 75, []), (28, .iinc 2 1, 0, []), (31, .goto (-12), 0, []), (34, .aload_n 0, 0, []), (35, .getfield 32, 13, []), (38, .ireturn, 0, [])]
def M_60 : xM := (5, 1, 0, 3, c_60)
def c_61 : List xR := [(0, .aload_n 0, 0, []), (1, .iload_n 1, 0, []), (2, .invokevirtual 167, 148, []), (5, .istore_n 3, 0, []), (6, .iload_n 3, 0, []), (7, .ifCond .ge 5, 0, []), (10, .iload_n 3, 0, []), (11, .ireturn, 0, []), (12, .aload_n 0, 0, []), (13, .iconst 0, 0, []), (14, .putfield 32, 13, []), (17, .aload_n 0, 0, []), (18, .invokevirtual 170, 149, []), (21, .aload_n 0, 0, []), (22, .getfield 12, 2, []), (25, .aload_n 0, 0, []), (26, .getfield 18, 6, []), (29, .invokevirtual 45, 129, []), (32, .iconst 0, 0, []), (33, .istore 4, 0, []), (35, .iload 4, 0, [1, 3]), (37, .bipush 24, 0, []), (39, .if_icmp .ge 28, 0, []), (42, .aload_n 0, 0, []), (43, .getfield 18, 6, []), (46, .iload 4, 0, []), (48, .invokevirtual 145, 141, []), (51, .ifCond .eq 10, 0, []), (54, .aload_n 0, 0, []), (55, .iload 4, 0, []), (57, .aload_n 2, 0, []), (58, .invokevirtual 173, 151, []), (61, .iinc 4 1, 0, []), (64, .goto (-29), 0, []), (67, .aload_n 0, 0, []), (68, .getfield 18, 6, []), (71, .aload_n 0, 0, []), (72, .getfield 12, 2, []), (75, .invokevirtual 45, 129, []), (78, .aload_n 0, 0, []), (79, .aload_n 0, 0, []), (80, .getfield 12, 2, []), (83, .invokevirtual 142, 143, []), (86, .putfield 35, 15, []), (89, .aload_n 0, 0, []), (90, .invokevirtual 176, 152, []), (93, .ireturn, 0, [])]
def M_61 : xM := (5, 1, 0, 5, c_61)
def c_62 : List xR := [(0, .aload_n 0, 0, []), (1, .getfield 21, 8, []), (4, .iconst (-1), 0, []), (5, .invokestatic 179, 150, []), (8, .iconst 0, 0, []), (9, .istore_n 1, 0, []), (10, .iload_n 1, 0, [2, 3]), (11, .bipush 24, 0, []), (13, .if_icmp .ge 97, 0, []), (16, .aload_n 0, 0, []), (17, .getfield 18, 6, []), (20, .iload_n 1, 0, []), (21, .invokevirtual 145, 141, []), (24, .ifCond .ne 6, 0, []), (27, .goto 77, 0, []), (30, .iconst 1, 0, []), (31, .aload_n 0, 0, []), (32, .getfield 18, 6, []), (35, .iload_n 1, 0, []), (36, .invokevirtual 107, 81, []), (39, .ishl, 0, []), (40, .istore_n 2, 0, []), (41, .aload_n 0, 0, []), (42, .getfield 18, 6, []), (45, .iload_n 1, 0, []), (46, .invokevirtual 117, 85, []), (49, .istore_n 3, 0, []), (50, .iload_n 3, 0, []), (51, .bipush 64, 0, []), (53, .if_icmp .ge 51, 0, []), (56, .aload_n 0, 0, []), (57, .getfield 21, 8, []), (60, .iload_n 3, 0, []), (61, .iaload, 0, []), (62, .iconst (-1), 0, []), (63, .if_icmp .eq 27, 0, []), (66, .aload_n 0, 0, []), (67, .getfield 18, 6, []), (70, .aload_n 0, 0, []), (71, .getfield 21, 8, []), (74, .iload_n 3, 0, []), (75, .iaload, 0, []), (76, .invokevirtual 107, 81, []), (79, .aload_n 0, 0, []), (80, .getfield 18, 6, []), (83, .iload_n 1, 0, []), (84, .invokevirtual 107, 81, []), (87, .if_icmp .ge 10, 0, []), (90, .aload_n 0, 0, []), (91, .getfield 21, 8, []), (94, .iload_n 3, 0, []), (95, .iload_n 1, 0, []), (96, .iastore, 0, []), (97, .iload_n 3, 0, []), (98, .iload_n 2, 0, []), (99, .iadd, 0, []), (100, .istore_n 3, 0, []), (101, .goto (-51), 0, []), (104, .iinc 1 1, 0, []), (107, .goto (-97), 0, []), (110, .return_, 0, [])]
def M_62 : xM := (5, 0, 0, 4, c_62)
def c_63 : List xR := [(0, .iconst (-1), 0, []), (1, .istore_n 3, 0, []), (2, .iconst 0, 0, []), (3, .istore 4, 0, []), (5, .iconst 1, 0, []), (6, .aload_n 0, 0, []), (7, .getfield 18, 6, []), (10, .iload_n 1, 0, []), (11, .invokevirtual 107, 81, []), (14, .ishl, 0, []), (15, .istore 5, 0, []), (17, .aload_n 0, 0, []), (18, .getfield 18, 6, []), (21, .iload_n 1, 0, []), (22, .invokevirtual 117, 85, []), (25, .istore 6, 0, []), (27, .iload 6, 0, [7, 8]), (29, .bipush 64, 0, []), (31, .if_icmp .ge 39, 0, []), (34, .aload_n 0, 0, []), (35, .getfield 21, 8, []), (38, .iload 6, 0, []), (40, .iaload, 0, []), (41, .iload_n 1, 0, []), (42, .if_icmp .ne 18, 0, []), (45, .iload 4, 0, []), (47, .ifCond .ne 8, 0, []), (50, .iload 6, 0, []), (52, .goto 4, 0, []), (55, .iload_n 3, 0, []), (56, .istore_n 3, 0, []), (57, .iinc 4 1, 0, []), (60, .iload 6, 0, []), (62, .iload 5, 0, []), (64, .iadd, 0, []), (65, .istore 6, 0, []), (67, .goto (-40), 0, []), (70, .aload_n 0, 0, []), (71, .getfield 12, 2, []), (74, .iload_n 1, 0, []), (75, .invokevirtual 120, 86, []), (78, .iload 4, 0, []), (80, .ifCond .ne 4, 0, []), (83, .return_, 0, []), (84, .bipush 6, 0, []), (86, .istore 6, 0, []), (88, .iconst 1, 0, []), (89, .istore 7, 0, []), (91, .iload 7, 0, [5, 8]), (93, .iload 4, 0, []), (95, .if_icmp .ge 15, 0, []), (98, .iinc 6 (-1), 0, []), (101, .iload 7, 0, []), (103, .iconst 2, 0, []), (104, .imul, 0, []), (105, .istore 7, 0, []), (107, .goto (-16), 0, []), (110, .aload_n 0, 0, []), (111, .getfield 12, 2, []), (114, .iload_n 1, 0, []), (115, .iload 6, 0, []), (117, .iload_n 3, 0, []), (118, .invokevirtual 41, 17, []), (121, .iconst 0, 0, []), (122, .istore 7, 0, []), (124, .iload 7, 0, [3, 4, 5, 6, 8]), (126, .aload_n 0, 0, []), (127, .getfield 18, 6, []), (130, .iload_n 1, 0, []), (131, .invokevirtual 55, 58, []), (134, .if_icmp .ge 52, 0, []), (137, .aload_n 0, 0, []), (138, .getfield 18, 6, []), (141, .iload_n 1, 0, []), (142, .iload 7, 0, []), (144, .invokevirtual 104, 80, []), (147, .istore 8, 0, []), (149, .aload_n 0, 0, []), (150, .iload 8, 0, []), (152, .aload_n 2, 0, []), (153, .invokevirtual 64, 35, []), (156, .iload_n 1, 0, []), (157, .if_icmp .ne 23, 0, []), (160, .aload_n 0, 0, []), (161, .getfield 12, 2, []), (164, .iload_n 1, 0, []), (165, .iload 8, 0, []), (167, .aload_n 0, 0, []), (168, .getfield 18, 6, []), (171, .iload_n 1, 0, []), (172, .iload 7, 0, []), (174, .invokevirtual 72, 39, []), (177, .invokevirtual 101, 89, []), (180, .iinc 7 1, 0, []), (183, .goto (-59), 0, []), (186, .return_, 0, [])]
def M_63 : xM := (5, 0, 0, 9, c_63)
def c_64 : List xR := [(0, .iconst 0, 0, []), (1, .istore_n 3, 0, []), (2, .iconst 0, 0, []), (3, .istore 4, 0, []), (5, .iload 4, 0, [5]), (7, .bipush 24, 0, []), (9, .if_icmp .ge 65, 0, []), (12, .iconst 0, 0, []), (13, .istore 5, 0, []), (15, .iload 5, 0, []), (17, .aload_n 0, 0, []), (18, .getfield 12, 2, []), (21, .iload 4, 0, []), (23, .invokevirtual 55, 58, []), (26, .if_icmp .ge 42, 0, []), (29, .aload_n 1, 0, []), (30, .aload_n 0, 0, []), (31, .getfield 12, 2, []), (34, .iload 4, 0, []), (36, .iload 5, 0, []), (38, .invokevirtual 104, 80, []), (41, .aload_n 2, 0, []), (42, .invokevirtual 185, 170, []), (45, .aload_n 0, 0, []), (46, .getfield 12, 2, []), (49, .iload 4, 0, []), (51, .iload 5, 0, []), (53, .invokevirtual 72, 39, []), (56, .if_icmp .eq 6, 0, []), (59, .iinc 3 1, 0, []), (62, .iinc 5 1, 0, []), (65, .goto (-50), 0, []), (68, .iinc 4 1, 0, []), (71, .goto (-66), 0, []), (74, .iload_n 3, 0, []), (75, .ireturn, 0, [])]
def M_64 : xM := (5, 1, 0, 6, c_64)
def c_65 : List xR := [(0, .aload_n 0, 0, []), (1, .invokevirtual 188, 173, []), (4, .aload_n 1, 0, []), (5, .invokevirtual 188, 173, []), (8, .invokestatic 164, 77, []), (11, .istore_n 2, 0, []), (12, .aload_n 0, 0, []), (13, .invokevirtual 188, 173, []), (16, .aload_n 1, 0, []), (17, .invokevirtual 188, 173, []), (20, .invokestatic 131, 93, []), (23, .iload_n 2, 0, []), (24, .isub, 0, []), (25, .istore_n 3, 0, []), (26, .iconst 0, 0, []), (27, .istore 4, 0, []), (29, .iload 4, 0, []), (31, .iload_n 2, 0, []), (32, .if_icmp .ge 29, 0, []), (35, .aload_n 0, 0, []), (36, .getfield 21, 8, []), (39, .iload 4, 0, []), (41, .iaload, 0, []), (42, .aload_n 1, 0, []), (43, .getfield 21, 8, []), (46, .iload 4, 0, []), (48, .iaload, 0, []), (49, .if_icmp .eq 6, 0, []), (52, .iinc 3 1, 0, []), (55, .iinc 4 1, 0, []), (58, .goto (-29), 0, []), (61, .iload_n 3, 0, []), (62, .ireturn, 0, [])]
def M_65 : xM := (5, 1, 0, 5, c_65)
def c_66 : List xR := [(0, .aload_n 0, 0, []), (1, .iload_n 1, 0, []), (2, .aload_n 2, 0, []), (3, .invokevirtual 64, 35, []), (6, .istore_n 3, 0, []), (7, .aload_n 0, 0, []), (8, .getfield 12, 2, []), (11, .iload_n 3, 0, []), (12, .iload_n 1, 0, []), (13, .invokevirtual 68, 37, []), (16, .iconst (-1), 0, []), (17, .if_icmp .ne 30, 0, []), (20, .aload_n 0, 0, []), (21, .iload_n 3, 0, []), (22, .aload_n 2, 0, []), (23, .iload_n 1, 0, []), (24, .invokevirtual 59, 36, []), (27, .aload_n 2, 0, []), (28, .invokevirtual 94, 79, []), (31, .ifCond .le 16, 0, []), (34, .aload_n 0, 0, []), (35, .iload_n 1, 0, []), (36, .aload_n 2, 0, []), (37, .invokevirtual 90, 78, []), (40, .ifCond .ne 7, 0, []), (43, .iconst 1, 0, []), (44, .goto 4, 0, []), (47, .iconst 0, 0, []), (48, .ireturn, 0, [])]
def M_66 : xM := (5, 2, 0, 4, c_66)
def c_67 : List xR := [(0, .aload_n 2, 0, []), (1, .iconst 0, 0, []), (2, .invokestatic 179, 150, []), (5, .iconst 0, 0, []), (6, .istore_n 3, 0, []), (7, .iload_n 3, 0, [4, 5]), (8, .bipush 24, 0, []), (10, .if_icmp .ge 69, 0, []), (13, .iconst 0, 0, []), (14, .istore 4, 0, []), (16, .iload 4, 0, [5]), (18, .aload_n 0, 0, []), (19, .getfield 12, 2, []), (22, .iload_n 3, 0, []), (23, .invokevirtual 55, 58, []), (26, .if_icmp .ge 47, 0, []), (29, .aload_n 0, 0, []), (30, .getfield 12, 2, []), (33, .iload_n 3, 0, []), (34, .iload 4, 0, []), (36, .invokevirtual 104, 80, []), (39, .iload_n 1, 0, []), (40, .invokestatic 191, 183, []), (43, .bipush 63, 0, []), (45, .iand, 0, []), (46, .istore 5, 0, []), (48, .aload_n 2, 0, []), (49, .iload 5, 0, []), (51, .dup2, 0, []), (52, .iaload, 0, []), (53, .iconst 1, 0, []), (54, .iadd, 0, []), (55, .iastore, 0, []), (56, .aload_n 2, 0, []), (57, .iload 5, 0, []), (59, .iaload, 0, []), (60, .iconst 3, 0, []), (61, .if_icmp .le 6, 0, []), (64, .bipush 25, 0, []), (66, .ireturn, 0, []), (67, .iinc 4 1, 0, []), (70, .goto (-54), 0, []), (73, .iinc 3 1, 0, []), (76, .goto (-69), 0, []), (79, .iconst 1, 0, []), (80, .istore_n 3, 0, []), (81, .bipush 32, 0, []), (83, .istore 4, 0, []), (85, .iload 4, 0, [0, 1, 5]), (87, .ifCond .le 58, 0, []), (90, .iconst 0, 0, []), (91, .istore 5, 0, []), (93, .iload 5, 0, [0, 1]), (95, .iload 4, 0, []), (97, .if_icmp .ge 39, 0, []), (100, .aload_n 2, 0, []), (101, .iload 5, 0, []), (103, .dup2, 0, []), (104, .iaload, 0, []), (105, .aload_n 2, 0, []), (106, .iload 5, 0, []), (108, .iload 4, 0, []), (110, .iadd, 0, []), (111, .iaload, 0, []), (112, .iadd, 0, []), (113, .iastore, 0, []), (114, .iload_n 3, 0, []), (115, .aload_n 2, 0, []), (116, .iload 5, 0, []), (118, .iaload, 0, []), (119, .iconst 3, 0, []), (120, .if_icmp .le 7, 0, []), (123, .iconst 1, 0, []), (124, .goto 4, 0, []), (127, .iconst 0, 0, []), (128, .iadd, 0, []), (129, .istore_n 3, 0, []), (130, .iinc 5 1, 0, []), (133, .goto (-40), 0, []), (136, .iload 4, 0, []), (138, .iconst 2, 0, []), (139, .idiv, 0, []), (140, .istore 4, 0, []), (142, .goto (-57), 0, []), (145, .iload_n 3, 0, []), (146, .ireturn, 0, [])]
def M_67 : xM := (5, 1, 0, 6, c_67)
def c_68 : List xR := [(0, .aload_n 0, 0, []), (1, .invokespecial 3, 13, []), (4, .aload_n 0, 0, []), (5, .new 9, 14, []), (8, .dup, 0, []), (9, .invokespecial 11, 14, []), (12, .putfield 12, 59, []), (15, .aload_n 0, 0, []), (16, .sipush 400, 0, []), (19, .newarray .int, 0, []), (21, .putfield 18, 61, []), (24, .aload_n 0, 0, []), (25, .iconst 0, 0, []), (26, .putfield 22, 63, []), (29, .aload_n 0, 0, []), (30, .iconst 0, 0, []), (31, .putfield 26, 65, []), (34, .aload_n 0, 0, []), (35, .iconst 0, 0, []), (36, .putfield 29, 66, []), (39, .aload_n 0, 0, []), (40, .iconst 0, 0, []), (41, .putfield 33, 67, []), (44, .aload_n 0, 0, []), (45, .iconst (-1), 0, []), (46, .putfield 36, 68, []), (49, .aload_n 0, 0, []), (50, .iconst 0, 0, []), (51, .putfield 39, 69, []), (54, .aload_n 0, 0, []), (55, .iconst 0, 0, []), (56, .putfield 42, 70, []), (59, .aload_n 0, 0, []), (60, .iconst 0, 0, []), (61, .putfield 45, 71, []), (64, .return_, 0, [])]
def M_68 : xM := (6, 0, 2, 1, c_68)
def c_69 : List xR := [(0, .bipush 24, 0, []), (2, .istore_n 2, 0, []), (3, .iload_n 2, 0, []), (4, .ifCond .lt 45, 0, []), (7, .aload_n 0, 0, []), (8, .getfield 22, 63, []), (11, .sipush 400, 0, []), (14, .if_icmp .ge 35, 0, []), (17, .aload_n 0, 0, []), (18, .getfield 18, 61, []), (21, .aload_n 0, 0, []), (22, .getfield 22, 63, []), (25, .iload_n 1, 0, []), (26, .iload_n 2, 0, []), (27, .iushr, 0, []), (28, .sipush 255, 0, []), (31, .iand, 0, []), (32, .iastore, 0, []), (33, .aload_n 0, 0, []), (34, .dup, 0, []), (35, .getfield 22, 63, []), (38, .iconst 1, 0, []), (39, .iadd, 0, []), (40, .putfield 22, 63, []), (43, .iinc 2 (-8), 0, []), (46, .goto (-43), 0, []), (49, .return_, 0, [])]
def M_69 : xM := (6, 0, 0, 3, c_69)
def c_70 : List xR := [(0, .aload_n 0, 0, []), (1, .aload_n 0, 0, []), (2, .getfield 22, 63, []), (5, .putfield 26, 65, []), (8, .aload_n 0, 0, []), (9, .iconst 0, 0, []), (10, .putfield 22, 63, []), (13, .aload_n 0, 0, []), (14, .getfield 26, 65, []), (17, .ireturn, 0, [])]
def M_70 : xM := (6, 1, 0, 1, c_70)
def c_71 : List xR := [(0, .aload_n 0, 0, []), (1, .iload_n 1, 0, []), (2, .putfield 29, 66, []), (5, .aload_n 0, 0, []), (6, .iconst 0, 0, []), (7, .putfield 33, 67, []), (10, .aload_n 0, 0, []), (11, .iconst 0, 0, []), (12, .putfield 42, 70, []), (15, .aload_n 0, 0, []), (16, .getfield 12, 59, []), (19, .invokevirtual 48, 97, []), (22, .aload_n 0, 0, []), (23, .invokevirtual 51, 98, []), (26, .aload_n 0, 0, []), (27, .invokevirtual 54, 100, []), (30, .istore_n 2, 0, []), (31, .iconst 1, 0, []), (32, .istore_n 3, 0, []), (33, .iload_n 2, 0, [1]), (34, .ifCond .eq 47, 0, []), (37, .aload_n 0, 0, []), (38, .getfield 36, 68, []), (41, .bipush 59, 0, []), (43, .if_icmp .ne 38, 0, []), (46, .iload_n 3, 0, []), (47, .bipush 12, 0, []), (49, .if_icmp .gt 32, 0, []), (52, .aload_n 0, 0, []), (53, .invokevirtual 51, 98, []), (56, .iload_n 3, 0, []), (57, .bipush 12, 0, []), (59, .if_icmp .ge 14, 0, []), (62, .aload_n 0, 0, []), (63, .invokevirtual 54, 100, []), (66, .ifCond .eq 7, 0, []), (69, .iconst 1, 0, []), (70, .goto 4, 0, []), (73, .iconst 0, 0, []), (74, .istore_n 2, 0, []), (75, .iinc 3 1, 0, []), (78, .goto (-45), 0, []), (81, .iload_n 2, 0, [1, 3]), (82, .ifCond .eq 15, 0, []), (85, .aload_n 0, 0, []), (86, .getfield 36, 68, []), (89, .iconst (-1), 0, []), (90, .if_icmp .ne 7, 0, []), (93, .iconst (-1), 0, []), (94, .goto 7, 0, []), (97, .aload_n 0, 0, []), (98, .getfield 39, 69, []), (101, .ireturn, 0, [])]
def M_71 : xM := (6, 1, 0, 4, c_71)
def c_72 : List xR := [(0, .aload_n 0, 0, []), (1, .aload_n 0, 0, []), (2, .getfield 42, 70, []), (5, .putfield 39, 69, []), (8, .aload_n 0, 0, []), (9, .getfield 39, 69, []), (12, .aload_n 0, 0, []), (13, .getfield 26, 65, []), (16, .if_icmp .ge 30, 0, []), (19, .aload_n 0, 0, []), (20, .getfield 18, 61, []), (23, .aload_n 0, 0, []), (24, .getfield 39, 69, []), (27, .iaload, 0, []), (28, .bipush 32, 0, []), (30, .if_icmp .ne 16, 0, []), (33, .aload_n 0, 0, []), (34, .dup, 0, []), (35, .getfield 39, 69, []), (38, .iconst 1, 0, []), (39, .iadd, 0, []), (40, .putfield 39, 69, []), (43, .goto (-35), 0, []), (46, .aload_n 0, 0, []), (47, .aload_n 0, 0, []), (48, .getfield 39, 69, []), (51, .putfield 42, 70, []), (54, .aload_n 0, 0, []), (55, .iconst 0, 0, []), (56, .putfield 45, 71, []), (59, .aload_n 0, 0, []), (60, .getfield 39, 69, []), (63, .aload_n 0, 0, []), (64, .getfield 26, 65, []), (67, .if_icmp .lt 11, 0, []), (70, .aload_n 0, 0, []), (71, .iconst (-1), 0, []), (72, .putfield 36, 68, []), (75, .goto 228, 0, []), (78, .aload_n 0, 0, []), (79, .getfield 18, 61, []), (82, .aload_n 0, 0, []), (83, .getfield 39, 69, []), (86, .iaload, 0, []), (87, .bipush 97, 0, []), (89, .if_icmp .lt 75, 0, []), (92, .aload_n 0, 0, []), (93, .getfield 18, 61, []), (96, .aload_n 0, 0, []), (97, .getfield 39, 69, []), (100, .iaload, 0, []), (101, .bipush 122, 0, []), (103, .if_icmp .gt 61, 0, []), (106, .aload_n 0, 0, []), (107, .bipush (-2), 0, []), (109, .putfield 36, 68, []), (112, .aload_n 0, 0, []), (113, .getfield 42, 70, []), (116, .aload_n 0, 0, []), (117, .getfield 26, 65, []), (120, .if_icmp .ge 183, 0, []), (123, .aload_n 0, 0, []), (124, .getfield 18, 61, []), (127, .aload_n 0, 0, []), (128, .getfield 42, 70, []), (131, .iaload, 0, []), (132, .bipush 97, 0, []), (134, .if_icmp .lt 169, 0, []), (137, .aload_n 0, 0, []), (138, .getfield 18, 61, []), (141, .aload_n 0, 0, []), (142, .getfield 42, 70, []), (145, .iaload, 0, []), (146, .bipush 122, 0, []), (148, .if_icmp .gt 155, 0, []), (151, .aload_n 0, 0, []), (152, .dup, 0, []), (153, .getfield 42, 70, []), (156, .iconst 1, 0, []), (157, .iadd, 0, []), (158, .putfield 42, 70, []), (161, .goto (-49), 0, []), (164, .aload_n 0, 0, []), (165, .getfield 18, 61, []), (168, .aload_n 0, 0, []), (169, .getfield 39, 69, []), (172, .iaload, 0, []), (173, .bipush 48, 0, []), (175, .if_icmp .lt 105, 0, []), (178, .aload_n 0, 0, []), (179, .getfield 18, 61, []), (182, .aload_n 0, 0, []), (183, .getfield 39, 69, []), (186, .iaload, 0, []), (187, .bipush 57, 0, []), (189, .if_icmp .gt 91, 0, []), (192, .aload_n 0, 0, []), (193, .bipush (-3), 0, []), (195, .putfield 36, 68, []), (198, .aload_n 0, 0, []), (199, .getfield 42, 70, []), (202, .aload_n 0, 0, []), (203, .getfield 26, 65, []), (206, .if_icmp .ge 97, 0, []), (209, .aload_n 0, 0, []), (210, .getfield 18, 61, []), (213, .aload_n 0, 0, []), (214, .getfield 42, 70, []), (217, .iaload, 0, []), (218, .bipush 48, 0, []), (220, .if_icmp .lt 83, 0, []), (223, .aload_n 0, 0, []), (224, .getfield 18, 61, []), (227, .aload_n 0, 0, []), (228, .getfield 42, 70, []), (231, .iaload, 0, []), (232, .bipush 57, 0, []), (234, .if_icmp .gt 69, 0, []), (237, .aload_n 0, 0, []), (238, .aload_n 0, 0, []), (239, .getfield 45, 71, []), (242, .bipush 10, 0, []), (244, .imul, 0, []), (245, .aload_n 0, 0, []), (246, .getfield 18, 61, []), (249, .aload_n 0, 0, []), (250, .getfield 42, 70, []), (253, .iaload, 0, []), (254, .iadd, 0, []), (255, .bipush 48, 0, []), (257, .isub, 0, []), (258, .sipush 1001, 0, []), (261, .invokestatic 58, 99, []), (264, .putfield 45, 71, []), (267, .aload_n 0, 0, []), (268, .dup, 0, []), (269, .getfield 42, 70, []), (272, .iconst 1, 0, []), (273, .iadd, 0, []), (274, .putfield 42, 70, []), (277, .goto (-79), 0, []), (280, .aload_n 0, 0, []), (281, .aload_n 0, 0, []), (282, .getfield 18, 61, []), (285, .aload_n 0, 0, []), (286, .getfield 39, 69, []), (289, .iaload, 0, []), (290, .putfield 36, 68, []), (293, .aload_n 0, 0, []), (294, .dup, 0, []), (295, .getfield 42, 70, []), (298, .iconst 1, 0, []), (299, .iadd, 0, []), (300, .putfield 42, 70, []), (303, .return_, 0, [])]
def M_72 : xM := (6, 0, 0, 1, c_72)
def c_73 : List xR := [(0, .aload_n 0, 0, []), (1, .getfield 36, 68, []), (4, .bipush (-2), 0, []), (6, .if_icmp .ne 19, 0, []), (9, .aload_n 0, 0, []), (10, .getfield 42, 70, []), (13, .aload_n 0, 0, []), (14, .getfield 39, 69, []), (17, .isub, 0, []), (18, .aload_n 1, 0, []), (19, .invokevirtual 64, 105, []), (22, .if_icmp .eq 5, 0, []), (25, .iconst 0, 0, []), (26, .ireturn, 0, []), (27, .iconst 0, 0, []), (28, .istore_n 2, 0, []), (29, .iload_n 2, 0, []), (30, .aload_n 1, 0, []), (31, .invokevirtual 64, 105, []), (34, .if_icmp .ge 30, 0, []), (37, .aload_n 0, 0, []), (38, .getfield 18, 61, []), (41, .aload_n 0, 0, []), (42, .getfield 39, 69, []), (45, .iload_n 2, 0, []), (46, .iadd, 0, []), (47, .iaload, 0, []), (48, .aload_n 1, 0, []), (49, .iload_n 2, 0, []), (50, .invokevirtual 69, 106, []), (53, .if_icmp .eq 5, 0, []), (56, .iconst 0, 0, []), (57, .ireturn, 0, []), (58, .iinc 2 1, 0, []), (61, .goto (-32), 0, []), (64, .iconst 1, 0, []), (65, .ireturn, 0, [])]
def M_73 : xM := (6, 2, 0, 3, c_73)
def c_74 : List xR := [(0, .aload_n 0, 0, []), (1, .aload_n 1, 0, []), (2, .invokevirtual 73, 104, []), (5, .istore_n 2, 0, []), (6, .iload_n 2, 0, []), (7, .ifCond .eq 7, 0, []), (10, .aload_n 0, 0, []), (11, .invokevirtual 51, 98, []), (14, .iload_n 2, 0, []), (15, .ireturn, 0, [])]
def M_74 : xM := (6, 2, 0, 3, c_74)
def c_75 : List xR := [(0, .aload_n 0, 0, []), (1, .getfield 36, 68, []), (4, .iload_n 1, 0, []), (5, .if_icmp .ne 7, 0, []), (8, .iconst 1, 0, []), (9, .goto 4, 0, []), (12, .iconst 0, 0, []), (13, .istore_n 2, 0, []), (14, .iload_n 2, 0, []), (15, .ifCond .eq 7, 0, []), (18, .aload_n 0, 0, []), (19, .invokevirtual 51, 98, []), (22, .iload_n 2, 0, []), (23, .ireturn, 0, [])]
def M_75 : xM := (6, 2, 0, 3, c_75)
def c_76 : List xR := [(0, .iconst 0, 0, []), (1, .istore_n 1, 0, []), (2, .iload_n 1, 0, []), (3, .bipush 8, 0, []), (5, .if_icmp .ge 18, 0, []), (8, .aload_n 0, 0, []), (9, .getfield 12, 59, []), (12, .iload_n 1, 0, []), (13, .iconst 0, 0, []), (14, .invokevirtual 77, 101, []), (17, .iinc 1 1, 0, []), (20, .goto (-18), 0, []), (23, .aload_n 0, 0, []), (24, .getfield 29, 66, []), (27, .ifCond .eq 10, 0, []), (30, .aload_n 0, 0, []), (31, .invokevirtual 81, 102, []), (34, .goto 7, 0, []), (37, .aload_n 0, 0, []), (38, .invokevirtual 84, 116, []), (41, .istore_n 1, 0, [1]), (42, .iload_n 1, 0, []), (43, .ifCond .eq 50, 0, []), (46, .aload_n 0, 0, []), (47, .ldc 87, 1021, []), (49, .invokevirtual 89, 103, []), (52, .ifCond .eq 41, 0, []), (55, .aload_n 0, 0, []), (56, .getfield 12, 59, []), (59, .bipush 6, 0, []), (61, .aload_n 0, 0, []), (62, .getfield 12, 59, []), (65, .getfield 92, 51, []), (68, .invokevirtual 77, 101, []), (71, .aload_n 0, 0, []), (72, .iconst 0, 0, []), (73, .invokevirtual 95, 117, []), (76, .istore_n 1, 0, []), (77, .aload_n 0, 0, []), (78, .getfield 12, 59, []), (81, .bipush 7, 0, []), (83, .aload_n 0, 0, []), (84, .getfield 12, 59, []), (87, .getfield 92, 51, []), (90, .invokevirtual 77, 101, []), (93, .iload_n 1, 0, []), (94, .ifCond .eq 16, 0, []), (97, .aload_n 0, 0, []), (98, .getfield 12, 59, []), (101, .dup, 0, []), (102, .getfield 99, 54, []), (105, .iconst 1, 0, []), (106, .iadd, 0, []), (107, .putfield 99, 54, []), (110, .iload_n 1, 0, []), (111, .ireturn, 0, [])]
def M_76 : xM := (6, 2, 0, 2, c_76)
def c_77 : List xR := [(0, .aload_n 0, 0, []), (1, .ldc 102, 1019, []), (3, .invokevirtual 89, 103, []), (6, .ifCond .eq 14, 0, []), (9, .aload_n 0, 0, []), (10, .getfield 12, 59, []), (13, .iconst 0, 0, []), (14, .iconst 5, 0, []), (15, .invokevirtual 77, 101, []), (18, .iconst 1, 0, []), (19, .ireturn, 0, []), (20, .aload_n 0, 0, []), (21, .getfield 12, 59, []), (24, .iconst 0, 0, []), (25, .iconst 4, 0, []), (26, .invokevirtual 77, 101, []), (29, .aload_n 0, 0, []), (30, .ldc 104, 1020, []), (32, .invokevirtual 89, 103, []), (35, .ifCond .eq 15, 0, []), (38, .aload_n 0, 0, []), (39, .iconst 2, 0, []), (40, .invokevirtual 106, 107, []), (43, .ifCond .eq 7, 0, []), (46, .iconst 1, 0, []), (47, .goto 4, 0, []), (50, .iconst 0, 0, []), (51, .ireturn, 0, [])]
def M_77 : xM := (6, 2, 0, 1, c_77)
def c_78 : List xR := [(0, .aload_n 0, 0, []), (1, .ldc 109, 1000, []), (3, .invokevirtual 89, 103, []), (6, .ifCond .eq 46, 0, []), (9, .aload_n 0, 0, []), (10, .getfield 12, 59, []), (13, .iconst 0, 0, []), (14, .iconst 0, 0, []), (15, .invokevirtual 77, 101, []), (18, .aload_n 0, 0, []), (19, .iconst 2, 0, []), (20, .invokevirtual 106, 107, []), (23, .ifCond .eq 24, 0, []), (26, .aload_n 0, 0, []), (27, .ldc 111, 1014, []), (29, .invokevirtual 89, 103, []), (32, .ifCond .eq 15, 0, []), (35, .aload_n 0, 0, []), (36, .iconst 4, 0, []), (37, .invokevirtual 106, 107, []), (40, .ifCond .eq 7, 0, []), (43, .iconst 1, 0, []), (44, .goto 4, 0, []), (47, .iconst 0, 0, []), (48, .istore_n 1, 0, []), (49, .goto 89, 0, []), (52, .aload_n 0, 0, []), (53, .ldc 113, 1015, []), (55, .invokevirtual 89, 103, []), (58, .ifCond .eq 21, 0, []), (61, .aload_n 0, 0, []), (62, .getfield 12, 59, []), (65, .iconst 0, 0, []), (66, .iconst 1, 0, []), (67, .invokevirtual 77, 101, []), (70, .aload_n 0, 0, []), (71, .iconst 2, 0, []), (72, .invokevirtual 106, 107, []), (75, .istore_n 1, 0, []), (76, .goto 62, 0, []), (79, .aload_n 0, 0, []), (80, .ldc 115, 1016, []), (82, .invokevirtual 89, 103, []), (85, .ifCond .eq 21, 0, []), (88, .aload_n 0, 0, []), (89, .getfield 12, 59, []), (92, .iconst 0, 0, []), (93, .iconst 2, 0, []), (94, .invokevirtual 77, 101, []), (97, .aload_n 0, 0, []), (98, .iconst 2, 0, []), (99, .invokevirtual 106, 107, []), (102, .istore_n 1, 0, []), (103, .goto 35, 0, []), (106, .aload_n 0, 0, []), (107, .getfield 12, 59, []), (110, .iconst 0, 0, []), (111, .iconst 3, 0, []), (112, .invokevirtual 77, 101, []), (115, .aload_n 0, 0, []), (116, .ldc 117, 1017, []), (118, .invokevirtual 89, 103, []), (121, .ifCond .eq 15, 0, []), (124, .aload_n 0, 0, []), (125, .iconst 2, 0, []), (126, .invokevirtual 106, 107, []), (129, .ifCond .eq 7, 0, []), (132, .iconst 1, 0, []), (133, .goto 4, 0, []), (136, .iconst 0, 0, []), (137, .istore_n 1, 0, []), (138, .aload_n 0, 0, []), (139, .getfield 12, 59, []), (142, .iconst 1, 0, []), (143, .iconst 1, 0, []), (144, .invokevirtual 77, 101, []), (147, .iload_n 1, 0, []), (148, .ifCond .eq 64, 0, []), (151, .aload_n 0, 0, []), (152, .ldc 119, 1018, []), (154, .invokevirtual 89, 103, []), (157, .ifCond .eq 55, 0, []), (160, .aload_n 0, 0, []), (161, .getfield 36, 68, []), (164, .bipush (-3), 0, []), (166, .if_icmp .ne 24, 0, []), (169, .aload_n 0, 0, []), (170, .getfield 45, 71, []), (173, .iconst 1, 0, []), (174, .if_icmp .lt 16, 0, []), (177, .aload_n 0, 0, []), (178, .getfield 45, 71, []), (181, .bipush 20, 0, []), (183, .if_icmp .gt 7, 0, []), (186, .iconst 1, 0, []), (187, .goto 4, 0, []), (190, .iconst 0, 0, []), (191, .istore_n 1, 0, [1]), (192, .aload_n 0, 0, []), (193, .getfield 12, 59, []), (196, .iconst 1, 0, []), (197, .aload_n 0, 0, []), (198, .getfield 45, 71, []), (201, .invokevirtual 77, 101, []), (204, .iload_n 1, 0, []), (205, .ifCond .eq 7, 0, []), (208, .aload_n 0, 0, []), (209, .invokevirtual 51, 98, []), (212, .iload_n 1, 0, []), (213, .ireturn, 0, [])]
def M_78 : xM := (6, 2, 0, 2, c_78)
def c_79 : List xR := [(0, .aload_n 0, 0, []), (1, .getfield 12, 59, []), (4, .iload_n 1, 0, []), (5, .aload_n 0, 0, []), (6, .getfield 12, 59, []), (9, .getfield 92, 51, []), (12, .invokevirtual 77, 101, []), (15, .aload_n 0, 0, []), (16, .iconst 0, 0, []), (17, .invokevirtual 121, 108, []), (20, .istore_n 2, 0, []), (21, .aload_n 0, 0, []), (22, .getfield 12, 59, []), (25, .iload_n 1, 0, []), (26, .iconst 1, 0, []), (27, .iadd, 0, []), (28, .aload_n 0, 0, []), (29, .getfield 12, 59, []), (32, .getfield 92, 51, []), (35, .invokevirtual 77, 101, []), (38, .iload_n 2, 0, []), (39, .ireturn, 0, [])]
def M_79 : xM := (6, 2, 0, 3, c_79)
def c_80 : List xR := [(0, .aload_n 0, 0, []), (1, .iload_n 1, 0, []), (2, .invokevirtual 124, 118, []), (5, .istore_n 2, 0, []), (6, .iconst 0, 0, []), (7, .istore_n 3, 0, []), (8, .iload_n 3, 0, [4]), (9, .sipush 400, 0, []), (12, .if_icmp .ge 55, 0, []), (15, .iload_n 2, 0, []), (16, .ifCond .eq 51, 0, []), (19, .aload_n 0, 0, []), (20, .ldc 127, 1024, []), (22, .invokevirtual 89, 103, []), (25, .ifCond .eq 42, 0, []), (28, .aload_n 0, 0, []), (29, .getfield 12, 59, []), (32, .getfield 92, 51, []), (35, .istore 4, 0, []), (37, .aload_n 0, 0, []), (38, .getfield 12, 59, []), (41, .iconst 4, 0, []), (42, .iconst 0, 0, []), (43, .invokevirtual 129, 112, []), (46, .aload_n 0, 0, []), (47, .iload_n 1, 0, []), (48, .invokevirtual 124, 118, []), (51, .istore_n 2, 0, []), (52, .aload_n 0, 0, []), (53, .getfield 12, 59, []), (56, .iload 4, 0, []), (58, .invokevirtual 132, 120, []), (61, .iinc 3 1, 0, []), (64, .goto (-56), 0, []), (67, .iload_n 2, 0, []), (68, .ireturn, 0, [])]
def M_80 : xM := (6, 2, 0, 5, c_80)
def c_81 : List xR := [(0, .aload_n 0, 0, []), (1, .iload_n 1, 0, []), (2, .invokevirtual 136, 119, []), (5, .istore_n 2, 0, []), (6, .iconst 0, 0, []), (7, .istore_n 3, 0, []), (8, .iload_n 3, 0, [4]), (9, .sipush 400, 0, []), (12, .if_icmp .ge 55, 0, []), (15, .iload_n 2, 0, []), (16, .ifCond .eq 51, 0, []), (19, .aload_n 0, 0, []), (20, .ldc 139, 1023, []), (22, .invokevirtual 89, 103, []), (25, .ifCond .eq 42, 0, []), (28, .aload_n 0, 0, []), (29, .getfield 12, 59, []), (32, .getfield 92, 51, []), (35, .istore 4, 0, []), (37, .aload_n 0, 0, []), (38, .getfield 12, 59, []), (41, .iconst 3, 0, []), (42, .iconst 0, 0, []), (43, .invokevirtual 129, 112, []), (46, .aload_n 0, 0, []), (47, .iload_n 1, 0, []), (48, .invokevirtual 136, 119, []), (51, .istore_n 2, 0, []), (52, .aload_n 0, 0, []), (53, .getfield 12, 59, []), (56, .iload 4, 0, []), (58, .invokevirtual 132, 120, []), (61, .iinc 3 1, 0, []), (64, .goto (-56), 0, []), (67, .iload_n 2, 0, []), (68, .ireturn, 0, [])]
def M_81 : xM := (6, 2, 0, 5, c_81)
def c_82 : List xR := [(0, .iconst 0, 0, []), (1, .istore_n 2, 0, []), (2, .iconst 0, 0, []), (3, .istore_n 3, 0, []), (4, .iload_n 3, 0, [4]), (5, .sipush 400, 0, []), (8, .if_icmp .ge 28, 0, []), (11, .aload_n 0, 0, []), (12, .ldc 141, 1022, []), (14, .invokevirtual 89, 103, []), (17, .ifCond .eq 19, 0, []), (20, .iload_n 2, 0, []), (21, .ifCond .ne 7, 0, []), (24, .iconst 1, 0, []), (25, .goto 4, 0, []), (28, .iconst 0, 0, []), (29, .istore_n 2, 0, []), (30, .iinc 3 1, 0, []), (33, .goto (-29), 0, []), (36, .aload_n 0, 0, [3, 4]), (37, .getfield 36, 68, []), (40, .bipush 40, 0, []), (42, .if_icmp .ne 46, 0, []), (45, .iload_n 1, 0, []), (46, .bipush 8, 0, []), (48, .if_icmp .ge 35, 0, []), (51, .aload_n 0, 0, []), (52, .bipush 40, 0, []), (54, .invokevirtual 143, 111, []), (57, .ifCond .eq 26, 0, []), (60, .aload_n 0, 0, []), (61, .iload_n 1, 0, []), (62, .iconst 1, 0, []), (63, .iadd, 0, []), (64, .invokevirtual 95, 117, []), (67, .ifCond .eq 16, 0, []), (70, .aload_n 0, 0, []), (71, .bipush 41, 0, []), (73, .invokevirtual 143, 111, []), (76, .ifCond .eq 7, 0, []), (79, .iconst 1, 0, []), (80, .goto 4, 0, []), (83, .iconst 0, 0, []), (84, .istore_n 3, 0, []), (85, .goto 96, 0, []), (88, .aload_n 0, 0, []), (89, .iload_n 1, 0, []), (90, .invokevirtual 121, 108, []), (93, .istore_n 3, 0, []), (94, .aload_n 0, 0, []), (95, .getfield 36, 68, []), (98, .bipush 60, 0, []), (100, .if_icmp .ne 8, 0, []), (103, .bipush 10, 0, []), (105, .goto 19, 0, []), (108, .aload_n 0, 0, []), (109, .getfield 36, 68, []), (112, .bipush 62, 0, []), (114, .if_icmp .ne 8, 0, []), (117, .bipush 11, 0, []), (119, .goto 5, 0, []), (122, .bipush 12, 0, []), (124, .istore 4, 0, [4]), (126, .iload_n 3, 0, []), (127, .ifCond .eq 42, 0, []), (130, .aload_n 0, 0, []), (131, .bipush 60, 0, []), (133, .invokevirtual 143, 111, []), (136, .ifCond .ne 21, 0, []), (139, .aload_n 0, 0, []), (140, .bipush 62, 0, []), (142, .invokevirtual 143, 111, []), (145, .ifCond .ne 12, 0, []), (148, .aload_n 0, 0, []), (149, .bipush 61, 0, []), (151, .invokevirtual 143, 111, []), (154, .ifCond .eq 15, 0, []), (157, .aload_n 0, 0, [3]), (158, .iload_n 1, 0, []), (159, .invokevirtual 121, 108, []), (162, .ifCond .eq 7, 0, []), (165, .iconst 1, 0, []), (166, .goto 4, 0, []), (169, .iconst 0, 0, []), (170, .istore_n 3, 0, []), (171, .aload_n 0, 0, []), (172, .getfield 12, 59, []), (175, .iload 4, 0, []), (177, .iconst 0, 0, []), (178, .invokevirtual 129, 112, []), (181, .iload_n 3, 0, [1, 4]), (182, .ifCond .eq 16, 0, []), (185, .iload_n 2, 0, []), (186, .ifCond .eq 12, 0, []), (189, .aload_n 0, 0, []), (190, .getfield 12, 59, []), (193, .iconst 2, 0, []), (194, .iconst 0, 0, []), (195, .invokevirtual 129, 112, []), (198, .iload_n 3, 0, []), (199, .ireturn, 0, [])]
def M_82 : xM := (6, 2, 0, 5, c_82)
def c_83 : List xR := [(0, .aload_n 0, 0, []), (1, .iload_n 1, 0, []), (2, .invokevirtual 147, 109, []), (5, .istore_n 2, 0, []), (6, .iconst 0, 0, []), (7, .istore_n 3, 0, []), (8, .iload_n 3, 0, [4]), (9, .sipush 400, 0, []), (12, .if_icmp .ge 68, 0, []), (15, .iload_n 2, 0, []), (16, .ifCond .eq 64, 0, []), (19, .aload_n 0, 0, []), (20, .getfield 36, 68, []), (23, .bipush 43, 0, []), (25, .if_icmp .eq 12, 0, []), (28, .aload_n 0, 0, []), (29, .getfield 36, 68, []), (32, .bipush 45, 0, []), (34, .if_icmp .ne 46, 0, []), (37, .aload_n 0, 0, []), (38, .getfield 36, 68, []), (41, .bipush 43, 0, []), (43, .if_icmp .ne 7, 0, []), (46, .iconst 5, 0, []), (47, .goto 5, 0, []), (50, .bipush 6, 0, []), (52, .istore 4, 0, [2, 4]), (54, .aload_n 0, 0, []), (55, .invokevirtual 51, 98, []), (58, .aload_n 0, 0, []), (59, .iload_n 1, 0, []), (60, .invokevirtual 147, 109, []), (63, .istore_n 2, 0, []), (64, .aload_n 0, 0, []), (65, .getfield 12, 59, []), (68, .iload 4, 0, []), (70, .iconst 0, 0, []), (71, .invokevirtual 129, 112, []), (74, .iinc 3 1, 0, []), (77, .goto (-69), 0, []), (80, .iload_n 2, 0, []), (81, .ireturn, 0, [])]
def M_83 : xM := (6, 2, 0, 5, c_83)
def c_84 : List xR := [(0, .aload_n 0, 0, []), (1, .iload_n 1, 0, []), (2, .invokevirtual 150, 110, []), (5, .istore_n 2, 0, []), (6, .iconst 0, 0, []), (7, .istore_n 3, 0, []), (8, .iload_n 3, 0, [4]), (9, .sipush 400, 0, []), (12, .if_icmp .ge 92, 0, []), (15, .iload_n 2, 0, []), (16, .ifCond .eq 88, 0, []), (19, .aload_n 0, 0, []), (20, .getfield 36, 68, []), (23, .bipush 42, 0, []), (25, .if_icmp .eq 21, 0, []), (28, .aload_n 0, 0, []), (29, .getfield 36, 68, []), (32, .bipush 47, 0, []), (34, .if_icmp .eq 12, 0, []), (37, .aload_n 0, 0, []), (38, .getfield 36, 68, []), (41, .bipush 37, 0, []), (43, .if_icmp .ne 61, 0, []), (46, .aload_n 0, 0, [2, 4]), (47, .getfield 36, 68, []), (50, .bipush 42, 0, []), (52, .if_icmp .ne 8, 0, []), (55, .bipush 7, 0, []), (57, .goto 19, 0, []), (60, .aload_n 0, 0, []), (61, .getfield 36, 68, []), (64, .bipush 47, 0, []), (66, .if_icmp .ne 8, 0, []), (69, .bipush 8, 0, []), (71, .goto 5, 0, []), (74, .bipush 9, 0, []), (76, .istore 4, 0, [2, 4]), (78, .aload_n 0, 0, []), (79, .invokevirtual 51, 98, []), (82, .aload_n 0, 0, []), (83, .iload_n 1, 0, []), (84, .invokevirtual 150, 110, []), (87, .istore_n 2, 0, []), (88, .aload_n 0, 0, []), (89, .getfield 12, 59, []), (92, .iload 4, 0, []), (94, .iconst 0, 0, []), (95, .invokevirtual 129, 112, []), (98, .iinc 3 1, 0, []), (101, .goto (-93), 0, []), (104, .iload_n 2, 0, []), (105, .ireturn, 0, [])]
def M_84 : xM := (6, 2, 0, 5, c_84)
def c_85 : List xR := [(0, .aload_n 0, 0, []), (1, .getfield 36, 68, []), (4, .bipush 91, 0, []), (6, .if_icmp .ne 43, 0, []), (9, .iload_n 1, 0, []), (10, .bipush 8, 0, []), (12, .if_icmp .ge 35, 0, []), (15, .aload_n 0, 0, []), (16, .bipush 91, 0, []), (18, .invokevirtual 143, 111, []), (21, .ifCond .eq 26, 0, []), (24, .aload_n 0, 0, []), (25, .iload_n 1, 0, []), (26, .iconst 1, 0, []), (27, .iadd, 0, []), (28, .invokevirtual 121, 108, []), (31, .ifCond .eq 16, 0, []), (34, .aload_n 0, 0, []), (35, .bipush 93, 0, []), (37, .invokevirtual 143, 111, []), (40, .ifCond .eq 7, 0, []), (43, .iconst 1, 0, []), (44, .goto 4, 0, []), (47, .iconst 0, 0, []), (48, .ireturn, 0, []), (49, .aload_n 0, 0, []), (50, .getfield 33, 67, []), (53, .bipush 50, 0, []), (55, .if_icmp .ne 5, 0, []), (58, .iconst 0, 0, []), (59, .ireturn, 0, []), (60, .aload_n 0, 0, []), (61, .dup, 0, []), (62, .getfield 33, 67, []), (65, .iconst 1, 0, []), (66, .iadd, 0, []), (67, .putfield 33, 67, []), (70, .aload_n 0, 0, []), (71, .getfield 36, 68, []), (74, .bipush (-3), 0, []), (76, .if_icmp .ne 31, 0, []), (79, .aload_n 0, 0, []), (80, .getfield 45, 71, []), (83, .sipush 1000, 0, []), (86, .if_icmp .gt 21, 0, []), (89, .aload_n 0, 0, []), (90, .getfield 12, 59, []), (93, .iconst 0, 0, []), (94, .aload_n 0, 0, []), (95, .getfield 45, 71, []), (98, .invokevirtual 129, 112, []), (101, .aload_n 0, 0, []), (102, .invokevirtual 51, 98, []), (105, .iconst 1, 0, []), (106, .ireturn, 0, []), (107, .aload_n 0, 0, [1, 2]), (108, .getfield 29, 66, []), (111, .ifCond .eq 21, 0, []), (114, .aload_n 0, 0, []), (115, .ldc 153, 1001, []), (117, .invokevirtual 89, 103, []), (120, .ifCond .eq 12, 0, []), (123, .aload_n 0, 0, []), (124, .iconst 0, 0, []), (125, .sipush 1000, 0, []), (128, .invokevirtual 155, 113, []), (131, .ireturn, 0, []), (132, .aload_n 0, 0, [1, 2]), (133, .getfield 29, 66, []), (136, .ifCond .eq 22, 0, []), (139, .aload_n 0, 0, []), (140, .ldc 159, 1002, []), (142, .invokevirtual 89, 103, []), (145, .ifCond .eq 13, 0, []), (148, .aload_n 0, 0, []), (149, .sipush 1000, 0, []), (152, .bipush 24, 0, []), (154, .invokevirtual 155, 113, []), (157, .ireturn, 0, []), (158, .aload_n 0, 0, []), (159, .getfield 29, 66, []), (162, .ifCond .eq 10, 0, []), (165, .aload_n 0, 0, []), (166, .invokevirtual 161, 114, []), (169, .goto 7, 0, []), (172, .aload_n 0, 0, []), (173, .invokevirtual 164, 115, []), (176, .istore_n 2, 0, [1, 2]), (177, .iload_n 2, 0, []), (178, .iconst (-1), 0, []), (179, .if_icmp .ne 5, 0, []), (182, .iconst 0, 0, []), (183, .ireturn, 0, []), (184, .aload_n 0, 0, []), (185, .getfield 12, 59, []), (188, .iconst 1, 0, []), (189, .iload_n 2, 0, []), (190, .invokevirtual 129, 112, []), (193, .aload_n 0, 0, []), (194, .invokevirtual 51, 98, []), (197, .iconst 1, 0, []), (198, .ireturn, 0, [])]
def M_85 : xM := (6, 2, 0, 3, c_85)
def c_86 : List xR := [(0, .aload_n 0, 0, []), (1, .getfield 36, 68, []), (4, .bipush (-3), 0, []), (6, .if_icmp .ne 11, 0, []), (9, .aload_n 0, 0, []), (10, .getfield 45, 71, []), (13, .iload_n 2, 0, []), (14, .if_icmp .lt 5, 0, []), (17, .iconst 0, 0, []), (18, .ireturn, 0, []), (19, .aload_n 0, 0, []), (20, .getfield 12, 59, []), (23, .getfield 167, 48, []), (26, .aload_n 0, 0, []), (27, .getfield 12, 59, []), (30, .getfield 170, 57, []), (33, .iload_n 1, 0, []), (34, .aload_n 0, 0, []), (35, .getfield 45, 71, []), (38, .iadd, 0, []), (39, .iastore, 0, []), (40, .aload_n 0, 0, []), (41, .getfield 12, 59, []), (44, .iconst 1, 0, []), (45, .bipush 6, 0, []), (47, .aload_n 0, 0, []), (48, .getfield 12, 59, []), (51, .getfield 170, 57, []), (54, .iadd, 0, []), (55, .invokevirtual 129, 112, []), (58, .aload_n 0, 0, []), (59, .getfield 12, 59, []), (62, .dup, 0, []), (63, .getfield 170, 57, []), (66, .iconst 1, 0, []), (67, .iadd, 0, []), (68, .putfield 170, 57, []), (71, .aload_n 0, 0, []), (72, .invokevirtual 51, 98, []), (75, .iconst 1, 0, []), (76, .ireturn, 0, [])]
def M_86 : xM := (6, 2, 0, 3, c_86)
def c_87 : List xR := [(0, .aload_n 0, 0, []), (1, .ldc 173, 1009, []), (3, .invokevirtual 73, 104, []), (6, .ifCond .eq 7, 0, []), (9, .iconst 0, 0, []), (10, .goto 83, 0, []), (13, .aload_n 0, 0, []), (14, .ldc 175, 1010, []), (16, .invokevirtual 73, 104, []), (19, .ifCond .eq 7, 0, []), (22, .iconst 1, 0, []), (23, .goto 70, 0, []), (26, .aload_n 0, 0, []), (27, .ldc 159, 1002, []), (29, .invokevirtual 73, 104, []), (32, .ifCond .eq 7, 0, []), (35, .iconst 2, 0, []), (36, .goto 57, 0, []), (39, .aload_n 0, 0, []), (40, .ldc 177, 1011, []), (42, .invokevirtual 73, 104, []), (45, .ifCond .eq 7, 0, []), (48, .iconst 3, 0, []), (49, .goto 44, 0, []), (52, .aload_n 0, 0, []), (53, .ldc 179, 1012, []), (55, .invokevirtual 73, 104, []), (58, .ifCond .eq 7, 0, []), (61, .iconst 4, 0, []), (62, .goto 31, 0, []), (65, .aload_n 0, 0, []), (66, .ldc 181, 1003, []), (68, .invokevirtual 73, 104, []), (71, .ifCond .eq 7, 0, []), (74, .iconst 5, 0, []), (75, .goto 18, 0, []), (78, .aload_n 0, 0, []), (79, .ldc 183, 1013, []), (81, .invokevirtual 73, 104, []), (84, .ifCond .eq 8, 0, []), (87, .bipush 6, 0, []), (89, .goto 4, 0, []), (92, .iconst (-1), 0, []), (93, .ireturn, 0, [])]
def M_87 : xM := (6, 1, 0, 1, c_87)
def c_88 : List xR := [(0, .aload_n 0, 0, []), (1, .ldc 181, 1003, []), (3, .invokevirtual 73, 104, []), (6, .ifCond .eq 7, 0, []), (9, .iconst 0, 0, []), (10, .goto 69, 0, []), (13, .aload_n 0, 0, []), (14, .ldc 185, 1004, []), (16, .invokevirtual 73, 104, []), (19, .ifCond .eq 7, 0, []), (22, .iconst 1, 0, []), (23, .goto 56, 0, []), (26, .aload_n 0, 0, []), (27, .ldc 187, 1005, []), (29, .invokevirtual 73, 104, []), (32, .ifCond .eq 7, 0, []), (35, .iconst 2, 0, []), (36, .goto 43, 0, []), (39, .aload_n 0, 0, []), (40, .ldc 189, 1006, []), (42, .invokevirtual 73, 104, []), (45, .ifCond .eq 7, 0, []), (48, .iconst 3, 0, []), (49, .goto 30, 0, []), (52, .aload_n 0, 0, []), (53, .ldc 191, 1007, []), (55, .invokevirtual 73, 104, []), (58, .ifCond .eq 7, 0, []), (61, .iconst 4, 0, []), (62, .goto 17, 0, []), (65, .aload_n 0, 0, []), (66, .ldc 193, 1008, []), (68, .invokevirtual 73, 104, []), (71, .ifCond .eq 7, 0, []), (74, .iconst 5, 0, []), (75, .goto 4, 0, []), (78, .iconst (-1), 0, []), (79, .ireturn, 0, [])]
def M_88 : xM := (6, 1, 0, 1, c_88)
def c_89 : List xR := [(0, .aload_n 0, 0, []), (1, .invokespecial 3, 15, []), (4, .aload_n 0, 0, []), (5, .iconst 0, 0, []), (6, .putfield 9, 50, []), (9, .aload_n 0, 0, []), (10, .iconst 0, 0, []), (11, .putfield 15, 52, []), (14, .aload_n 0, 0, []), (15, .iconst 0, 0, []), (16, .putfield 18, 56, []), (19, .aload_n 0, 0, []), (20, .sipush 400, 0, []), (23, .newarray .int, 0, []), (25, .putfield 21, 44, []), (28, .aload_n 0, 0, []), (29, .sipush 400, 0, []), (32, .newarray .int, 0, []), (34, .putfield 25, 45, []), (37, .aload_n 0, 0, []), (38, .bipush 96, 0, []), (40, .newarray .int, 0, []), (42, .putfield 28, 46, []), (45, .aload_n 0, 0, []), (46, .bipush 50, 0, []), (48, .newarray .int, 0, []), (50, .putfield 31, 47, [0]), (53, .return_, 0, [])]
def M_89 : xM := (7, 0, 2, 1, c_89)
def c_90 : List xR := [(0, .aload_n 0, 0, []), (1, .invokespecial 3, 15, []), (4, .aload_n 0, 0, []), (5, .iconst 0, 0, []), (6, .putfield 9, 50, []), (9, .aload_n 0, 0, []), (10, .iconst 0, 0, []), (11, .putfield 15, 52, []), (14, .aload_n 0, 0, []), (15, .iconst 0, 0, []), (16, .putfield 18, 56, []), (19, .aload_n 0, 0, []), (20, .aload_n 1, 0, []), (21, .getfield 21, 44, []), (24, .aload_n 1, 0, []), (25, .getfield 9, 50, []), (28, .invokestatic 34, 122, []), (31, .putfield 21, 44, []), (34, .aload_n 0, 0, []), (35, .aload_n 1, 0, []), (36, .getfield 25, 45, []), (39, .aload_n 1, 0, []), (40, .getfield 9, 50, []), (43, .invokestatic 34, 122, []), (46, .putfield 25, 45, []), (49, .aload_n 0, 0, []), (50, .aload_n 1, 0, []), (51, .getfield 28, 46, []), (54, .aload_n 1, 0, []), (55, .getfield 15, 52, []), (58, .bipush 8, 0, []), (60, .imul, 0, []), (61, .invokestatic 34, 122, []), (64, .putfield 28, 46, []), (67, .aload_n 0, 0, []), (68, .aload_n 1, 0, []), (69, .getfield 31, 47, []), (72, .aload_n 1, 0, []), (73, .getfield 18, 56, []), (76, .invokestatic 34, 122, []), (79, .putfield 31, 47, []), (82, .aload_n 0, 0, []), (83, .aload_n 1, 0, []), (84, .getfield 9, 50, []), (87, .putfield 9, 50, []), (90, .aload_n 0, 0, []), (91, .aload_n 1, 0, []), (92, .getfield 15, 52, []), (95, .putfield 15, 52, []), (98, .aload_n 0, 0, []), (99, .aload_n 1, 0, []), (100, .getfield 18, 56, []), (103, .putfield 18, 56, []), (106, .return_, 0, [])]
def M_90 : xM := (7, 0, 2, 2, c_90)
def c_91 : List xR := [(0, .aload_n 0, 0, []), (1, .iconst 0, 0, []), (2, .putfield 9, 50, []), (5, .aload_n 0, 0, []), (6, .iconst 0, 0, []), (7, .putfield 15, 52, []), (10, .aload_n 0, 0, []), (11, .iconst 0, 0, []), (12, .putfield 18, 56, []), (15, .return_, 0, [])]
def M_91 : xM := (7, 0, 0, 1, c_91)
def c_92 : List xR := [(0, .aload_n 0, 0, []), (1, .getfield 28, 46, []), (4, .iload_n 1, 0, []), (5, .bipush 8, 0, []), (7, .imul, 0, []), (8, .iload_n 2, 0, []), (9, .iadd, 0, []), (10, .iaload, 0, []), (11, .ireturn, 0, [])]
def M_92 : xM := (7, 1, 0, 3, c_92)
def c_93 : List xR := [(0, .aload_n 0, 0, []), (1, .getfield 28, 46, []), (4, .aload_n 0, 0, []), (5, .getfield 15, 52, []), (8, .bipush 8, 0, []), (10, .imul, 0, []), (11, .iload_n 1, 0, []), (12, .iadd, 0, []), (13, .iload_n 2, 0, []), (14, .iastore, 0, []), (15, .return_, 0, [])]
def M_93 : xM := (7, 0, 0, 3, c_93)
def c_94 : List xR := [(0, .aload_n 0, 0, []), (1, .getfield 9, 50, []), (4, .aload_n 0, 0, []), (5, .getfield 21, 44, []), (8, .arraylength, 0, []), (9, .if_icmp .ge 33, 0, []), (12, .aload_n 0, 0, []), (13, .getfield 21, 44, []), (16, .aload_n 0, 0, []), (17, .getfield 9, 50, []), (20, .iload_n 1, 0, []), (21, .iastore, 0, []), (22, .aload_n 0, 0, []), (23, .getfield 25, 45, []), (26, .aload_n 0, 0, []), (27, .getfield 9, 50, []), (30, .iload_n 2, 0, []), (31, .iastore, 0, []), (32, .aload_n 0, 0, []), (33, .dup, 0, []), (34, .getfield 9, 50, []), (37, .iconst 1, 0, []), (38, .iadd, 0, []), (39, .putfield 9, 50, []), (42, .return_, 0, [])]
def M_94 : xM := (7, 0, 0, 3, c_94)
def c_95 : List xR := [(0, .iload_n 1, 0, []), (1, .ifCond .lt 21, 0, []), (4, .iload_n 1, 0, []), (5, .aload_n 0, 0, []), (6, .getfield 9, 50, []), (9, .if_icmp .ge 13, 0, []), (12, .aload_n 0, 0, []), (13, .getfield 25, 45, []), (16, .iload_n 1, 0, []), (17, .aload_n 0, 0, []), (18, .getfield 9, 50, []), (21, .iastore, 0, []), (22, .return_, 0, [])]
def M_95 : xM := (7, 0, 0, 2, c_95)
def c_96 : List xR := [(0, .aload_n 0, 0, []), (1, .iload_n 1, 0, []), (2, .iload_n 2, 0, []), (3, .invokevirtual 40, 51, []), (6, .istore 5, 0, []), (8, .aload_n 0, 0, []), (9, .iload_n 1, 0, []), (10, .iload_n 2, 0, []), (11, .iconst 1, 0, []), (12, .iadd, 0, []), (13, .invokevirtual 40, 51, []), (16, .istore 6, 0, []), (18, .iconst 0, 0, []), (19, .istore 7, 0, []), (21, .iload 5, 0, []), (23, .istore 8, 0, []), (25, .iload 8, 0, [1, 2, 9, 10, 11]), (27, .iload 6, 0, []), (29, .if_icmp .ge 239, 0, []), (32, .iload 7, 0, []), (34, .aload 4, 0, []), (36, .arraylength, 0, []), (37, .if_icmp .ge 231, 0, []), (40, .aload_n 0, 0, []), (41, .getfield 21, 44, []), (44, .iload 8, 0, []), (46, .iaload, 0, []), (47, .istore 9, 0, []), (49, .aload_n 0, 0, []), (50, .getfield 25, 45, []), (53, .iload 8, 0, []), (55, .iaload, 0, []), (56, .istore 10, 0, []), (58, .iload 9, 0, []), (60, .ifCond .ne 16, 0, []), (63, .aload 4, 0, []), (65, .iload 7, 0, []), (67, .iload 10, 0, []), (69, .iastore, 0, []), (70, .iinc 7 1, 0, []), (73, .goto 189, 0, []), (76, .iload 9, 0, []), (78, .iconst 1, 0, []), (79, .if_icmp .ne 18, 0, []), (82, .aload 4, 0, []), (84, .iload 7, 0, []), (86, .aload_n 3, 0, []), (87, .iload 10, 0, []), (89, .iaload, 0, []), (90, .iastore, 0, []), (91, .iinc 7 1, 0, []), (94, .goto 168, 0, []), (97, .iload 7, 0, []), (99, .ifCond .ne 6, 0, []), (102, .ldc 44, 0, []), (104, .ireturn, 0, []), (105, .iload 9, 0, []), (107, .iconst 2, 0, []), (108, .if_icmp .ne 22, 0, []), (111, .aload 4, 0, []), (113, .iload 7, 0, []), (115, .iconst 1, 0, []), (116, .isub, 0, []), (117, .iconst 1, 0, []), (118, .aload 4, 0, []), (120, .iload 7, 0, []), (122, .iconst 1, 0, []), (123, .isub, 0, []), (124, .iaload, 0, []), (125, .isub, 0, []), (126, .iastore, 0, []), (127, .goto 135, 0, []), (130, .iload 9, 0, []), (132, .iconst 3, 0, []), (133, .if_icmp .eq 9, 0, []), (136, .iload 9, 0, []), (138, .iconst 4, 0, []), (139, .if_icmp .ne 70, 0, []), (142, .aload 4, 0, [1, 2, 11]), (144, .iload 7, 0, []), (146, .iconst 1, 0, []), (147, .isub, 0, []), (148, .iaload, 0, []), (149, .iload 9, 0, []), (151, .iconst 4, 0, []), (152, .if_icmp .ne 7, 0, []), (155, .iconst 1, 0, []), (156, .goto 4, 0, []), (159, .iconst 0, 0, []), (160, .if_icmp .ne 7, 0, [1, 2, 9, 11]), (163, .iconst 1, 0, []), (164, .goto 4, 0, []), (167, .iconst 0, 0, []), (168, .istore 11, 0, []), (170, .iload 7, 0, []), (172, .iload 11, 0, []), (174, .ifCond .eq 7, 0, []), (177, .iconst 0, 0, []), (178, .goto 4, 0, []), (181, .iconst 1, 0, []), (182, .isub, 0, [1, 2, 7, 9]), (183, .istore 7, 0, []), (185, .iload 11, 0, []), (187, .ifCond .eq 15, 0, []), (190, .iload 8, 0, []), (192, .iload 10, 0, []), (194, .iconst 1, 0, []), (195, .isub, 0, []), (196, .invokestatic 45, 52, []), (199, .goto 5, 0, []), (202, .iload 8, 0, []), (204, .istore 8, 0, []), (206, .goto 56, 0, []), (209, .iload 7, 0, []), (211, .iconst 1, 0, []), (212, .if_icmp .ne 6, 0, []), (215, .ldc 44, 0, []), (217, .ireturn, 0, []), (218, .iinc 7 (-1), 0, []), (221, .aload 4, 0, []), (223, .iload 7, 0, []), (225, .iconst 1, 0, []), (226, .isub, 0, []), (227, .iload 9, 0, []), (229, .aload 4, 0, []), (231, .iload 7, 0, []), (233, .iconst 1, 0, []), (234, .isub, 0, []), (235, .iaload, 0, []), (236, .i2l, 0, []), (237, .aload 4, 0, [1, 2, 9, 10, 11]), (239, .iload 7, 0, []), (241, .iaload, 0, []), (242, .i2l, 0, []), (243, .invokestatic 50, 53, []), (246, .iastore, 0, []), (247, .aload 4, 0, []), (249, .iload 7, 0, []), (251, .iconst 1, 0, []), (252, .isub, 0, []), (253, .iaload, 0, []), (254, .ldc 44, 0, []), (256, .if_icmp .ne 6, 0, []), (259, .ldc 44, 0, []), (261, .ireturn, 0, []), (262, .iinc 8 1, 0, []), (265, .goto (-240), 0, []), (268, .iload 5, 0, []), (270, .iload 6, 0, []), (272, .if_icmp .ne 7, 0, []), (275, .iconst 1, 0, []), (276, .goto 7, 0, []), (279, .aload 4, 0, []), (281, .iconst 0, 0, []), (282, .iaload, 0, []), (283, .ireturn, 0, [])]
def M_96 : xM := (7, 1, 0, 12, c_96)
def c_97 : List xR := [(0, .iload_n 0, 0, []), (1, .tableswitch 139 5 11 #[43, 51, 59, 67, 87, 107, 123], 0, []), (44, .lload_n 1, 0, []), (45, .lload_n 3, 0, []), (46, .ladd, 0, []), (47, .lstore 5, 0, []), (49, .goto 104, 0, []), (52, .lload_n 1, 0, []), (53, .lload_n 3, 0, []), (54, .lsub, 0, []), (55, .lstore 5, 0, []), (57, .goto 96, 0, []), (60, .lload_n 1, 0, []), (61, .lload_n 3, 0, []), (62, .lmul, 0, []), (63, .lstore 5, 0, []), (65, .goto 88, 0, []), (68, .lload_n 3, 0, []), (69, .lconst 0, 0, []), (70, .lcmp, 0, []), (71, .ifCond .ne 9, 0, []), (74, .ldc2_w 54, 0, []), (77, .goto 6, 0, []), (80, .lload_n 1, 0, []), (81, .lload_n 3, 0, []), (82, .ldiv, 0, []), (83, .lstore 5, 0, []), (85, .goto 68, 0, []), (88, .lload_n 3, 0, []), (89, .lconst 0, 0, []), (90, .lcmp, 0, []), (91, .ifCond .ne 9, 0, []), (94, .ldc2_w 54, 0, []), (97, .goto 6, 0, []), (100, .lload_n 1, 0, []), (101, .lload_n 3, 0, []), (102, .lrem, 0, []), (103, .lstore 5, 0, []), (105, .goto 48, 0, []), (108, .lload_n 1, 0, []), (109, .lload_n 3, 0, []), (110, .lcmp, 0, []), (111, .ifCond .ge 7, 0, []), (114, .lconst 1, 0, []), (115, .goto 4, 0, []), (118, .lconst 0, 0, []), (119, .lstore 5, 0, []), (121, .goto 32, 0, []), (124, .lload_n 1, 0, []), (125, .lload_n 3, 0, []), (126, .lcmp, 0, []), (127, .ifCond .le 7, 0, []), (130, .lconst 1, 0, []), (131, .goto 4, 0, []), (134, .lconst 0, 0, []), (135, .lstore 5, 0, []), (137, .goto 16, 0, []), (140, .lload_n 1, 0, []), (141, .lload_n 3, 0, []), (142, .lcmp, 0, []), (143, .ifCond .ne 7, 0, []), (146, .lconst 1, 0, []), (147, .goto 4, 0, []), (150, .lconst 0, 0, []), (151, .lstore 5, 0, []), (153, .lload 5, 0, [0, 1, 2, 3, 4]), (155, .ldc2_w 56, 1, []), (158, .lcmp, 0, []), (159, .ifCond .lt 12, 0, []), (162, .lload 5, 0, []), (164, .ldc2_w 58, 2, []), (167, .lcmp, 0, []), (168, .ifCond .le 8, 0, []), (171, .ldc 44, 0, []), (173, .goto 6, 0, []), (176, .lload 5, 0, []), (178, .l2i, 0, []), (179, .ireturn, 0, [])]
def M_97 : xM := (7, 1, 1, 7, c_97)
def c_98 : List xR := [(0, .aload_n 0, 0, []), (1, .invokespecial 3, 1, []), (4, .aload_n 0, 0, []), (5, .new 9, 1, []), (8, .dup, 0, []), (9, .invokespecial 11, 2, []), (12, .putfield 12, 72, []), (15, .aload_n 0, 0, []), (16, .new 9, 1, []), (19, .dup, 0, []), (20, .invokespecial 11, 2, []), (23, .putfield 16, 73, []), (26, .aload_n 0, 0, []), (27, .new 9, 1, []), (30, .dup, 0, []), (31, .invokespecial 11, 2, []), (34, .putfield 19, 74, []), (37, .aload_n 0, 0, []), (38, .new 22, 4, []), (41, .dup, 0, []), (42, .invokespecial 24, 6, []), (45, .putfield 25, 75, []), (48, .aload_n 0, 0, []), (49, .new 29, 7, []), (52, .dup, 0, []), (53, .invokespecial 31, 8, []), (56, .putfield 32, 76, []), (59, .aload_n 0, 0, []), (60, .new 36, 8, []), (63, .dup, 0, []), (64, .invokespecial 38, 10, []), (67, .putfield 39, 77, []), (70, .aload_n 0, 0, []), (71, .new 36, 8, []), (74, .dup, 0, []), (75, .invokespecial 38, 10, []), (78, .putfield 43, 78, []), (81, .aload_n 0, 0, []), (82, .iconst 2, 0, []), (83, .anewarray 46, 12, []), (86, .putfield 48, 79, []), (89, .aload_n 0, 0, []), (90, .new 52, 13, []), (93, .dup, 0, []), (94, .invokespecial 54, 12, []), (97, .putfield 55, 80, []), (100, .aload_n 0, 0, []), (101, .bipush 56, 0, []), (103, .newarray .int, 0, []), (105, .putfield 59, 81, []), (108, .aload_n 0, 0, []), (109, .bipush 7, 0, []), (111, .newarray .int, 0, []), (113, .putfield 63, 82, []), (116, .aload_n 0, 0, []), (117, .bipush 40, 0, []), (119, .newarray .int, 0, []), (121, .putfield 66, 83, []), (124, .aload_n 0, 0, []), (125, .bipush 64, 0, []), (127, .newarray .int, 0, []), (129, .putfield 69, 84, []), (132, .aload_n 0, 0, []), (133, .bipush 20, 0, []), (135, .newarray .long, 0, []), (137, .putfield 72, 85, []), (140, .aload_n 0, 0, []), (141, .iconst 0, 0, []), (142, .putfield 76, 86, []), (145, .aload_n 0, 0, []), (146, .iconst (-1), 0, []), (147, .putfield 80, 87, []), (150, .aload_n 0, 0, []), (151, .iconst (-1), 0, []), (152, .putfield 83, 88, []), (155, .aload_n 0, 0, []), (156, .iconst 0, 0, []), (157, .putfield 86, 89, []), (160, .aload_n 0, 0, []), (161, .getfield 12, 72, []), (164, .invokevirtual 89, 16, []), (167, .aload_n 0, 0, []), (168, .getfield 66, 83, []), (171, .iconst (-1), 0, []), (172, .invokestatic 92, 18, []), (175, .return_, 0, [])]
def M_98 : xM := (8, 0, 2, 1, c_98)
def c_99 : List xR := [(0, .aload_n 0, 0, []), (1, .getfield 12, 72, []), (4, .getfield 98, 3, []), (7, .iload_n 1, 0, []), (8, .iload_n 2, 0, []), (9, .invokevirtual 102, 20, []), (12, .ireturn, 0, [])]
def M_99 : xM := (8, 1, 0, 3, c_99)
def c_100 : List xR := [(0, .aload_n 0, 0, []), (1, .getfield 12, 72, []), (4, .getfield 108, 7, []), (7, .iload_n 1, 0, []), (8, .iload_n 2, 0, []), (9, .invokevirtual 102, 20, []), (12, .ireturn, 0, [])]
def M_100 : xM := (8, 1, 0, 3, c_100)
def c_101 : List xR := [(0, .aload_n 0, 0, []), (1, .getfield 12, 72, []), (4, .iload_n 1, 0, []), (5, .iload_n 2, 0, []), (6, .invokevirtual 111, 26, []), (9, .ireturn, 0, [])]
def M_101 : xM := (8, 1, 0, 3, c_101)
def c_102 : List xR := [(0, .iload_n 1, 0, []), (1, .ifCond .lt 26, 0, []), (4, .iload_n 1, 0, []), (5, .aload_n 0, 0, []), (6, .getfield 12, 72, []), (9, .invokevirtual 114, 29, []), (12, .if_icmp .ge 15, 0, []), (15, .aload_n 0, 0, []), (16, .getfield 12, 72, []), (19, .getfield 118, 9, []), (22, .iload_n 1, 0, []), (23, .iaload, 0, []), (24, .goto 4, 0, []), (27, .iconst (-1), 0, []), (28, .ireturn, 0, [])]
def M_102 : xM := (8, 1, 0, 2, c_102)
def c_103 : List xR := [(0, .iload_n 1, 0, []), (1, .invokestatic 121, 31, []), (4, .ifCond .ne 5, 0, []), (7, .iconst (-1), 0, []), (8, .ireturn, 0, []), (9, .iload_n 2, 0, []), (10, .tableswitch 86 0 3 #[30, 39, 52, 65], 0, []), (40, .aload_n 0, 0, []), (41, .getfield 25, 75, []), (44, .iload_n 1, 0, []), (45, .invokevirtual 125, 32, []), (48, .ireturn, 0, []), (49, .aload_n 0, 0, []), (50, .getfield 12, 72, []), (53, .iload_n 1, 0, []), (54, .aload_n 0, 0, []), (55, .getfield 25, 75, []), (58, .invokevirtual 129, 34, []), (61, .ireturn, 0, []), (62, .aload_n 0, 0, []), (63, .getfield 12, 72, []), (66, .iload_n 1, 0, []), (67, .aload_n 0, 0, []), (68, .getfield 25, 75, []), (71, .invokevirtual 133, 40, []), (74, .ireturn, 0, []), (75, .aload_n 0, 0, []), (76, .getfield 12, 72, []), (79, .iload_n 1, 0, []), (80, .aload_n 0, 0, []), (81, .getfield 25, 75, []), (84, .invokevirtual 136, 41, []), (87, .ifCond .eq 7, 0, []), (90, .iconst 1, 0, []), (91, .goto 4, 0, []), (94, .iconst 0, 0, []), (95, .ireturn, 0, []), (96, .iconst (-1), 0, []), (97, .ireturn, 0, [])]
def M_103 : xM := (8, 1, 0, 3, c_103)
def c_104 : List xR := [(0, .iload_n 2, 0, []), (1, .ifCond .lt 11, 0, []), (4, .iload_n 2, 0, []), (5, .iload_n 1, 0, []), (6, .invokestatic 140, 55, []), (9, .if_icmp .le 9, 0, []), (12, .aload_n 0, 0, []), (13, .iconst (-1), 0, []), (14, .invokevirtual 143, 56, []), (17, .ireturn, 0, []), (18, .iload_n 1, 0, []), (19, .iconst 3, 0, []), (20, .if_icmp .ne 20, 0, []), (23, .aload_n 0, 0, []), (24, .getfield 12, 72, []), (27, .invokevirtual 146, 57, []), (30, .ifCond .le 10, 0, []), (33, .aload_n 0, 0, []), (34, .bipush (-3), 0, []), (36, .invokevirtual 143, 56, []), (39, .ireturn, 0, []), (40, .aload_n 0, 0, [3]), (41, .iload_n 1, 0, []), (42, .invokevirtual 149, 59, []), (45, .istore_n 3, 0, []), (46, .aload_n 0, 0, []), (47, .iload_n 1, 0, []), (48, .iload_n 2, 0, []), (49, .invokevirtual 152, 60, []), (52, .aload_n 0, 0, []), (53, .getfield 39, 77, []), (56, .invokevirtual 156, 61, []), (59, .aload_n 0, 0, []), (60, .iload_n 3, 0, []), (61, .invokevirtual 159, 62, []), (64, .ireturn, 0, [])]
def M_104 : xM := (8, 1, 0, 4, c_104)
def c_105 : List xR := [(0, .aload_n 0, 0, []), (1, .getfield 55, 80, []), (4, .getfield 162, 64, []), (7, .bipush 20, 0, []), (9, .iadd, 0, []), (10, .sipush 400, 0, []), (13, .if_icmp .le 5, 0, []), (16, .iconst (-1), 0, []), (17, .ireturn, 0, []), (18, .aload_n 0, 0, []), (19, .getfield 55, 80, []), (22, .iload_n 1, 0, []), (23, .invokevirtual 165, 64, []), (26, .aload_n 0, 0, []), (27, .getfield 55, 80, []), (30, .iload_n 2, 0, []), (31, .invokevirtual 165, 64, []), (34, .aload_n 0, 0, []), (35, .getfield 55, 80, []), (38, .iload_n 3, 0, []), (39, .invokevirtual 165, 64, []), (42, .aload_n 0, 0, []), (43, .getfield 55, 80, []), (46, .iload 4, 0, []), (48, .invokevirtual 165, 64, []), (51, .aload_n 0, 0, []), (52, .getfield 55, 80, []), (55, .iload 5, 0, []), (57, .invokevirtual 165, 64, []), (60, .aload_n 0, 0, []), (61, .getfield 55, 80, []), (64, .getfield 162, 64, []), (67, .ireturn, 0, [])]
def M_105 : xM := (8, 1, 0, 6, c_105)
def c_106 : List xR := [(0, .iload_n 1, 0, []), (1, .ifCond .lt 14, 0, []), (4, .iload_n 1, 0, []), (5, .aload_n 0, 0, []), (6, .getfield 55, 80, []), (9, .getfield 162, 64, []), (12, .if_icmp .le 5, 0, []), (15, .iconst (-1), 0, []), (16, .ireturn, 0, []), (17, .aload_n 0, 0, []), (18, .getfield 55, 80, []), (21, .iload_n 1, 0, []), (22, .putfield 162, 64, []), (25, .iload_n 1, 0, []), (26, .ireturn, 0, [])]
def M_106 : xM := (8, 1, 0, 2, c_106)
def c_107 : List xR := [(0, .aload_n 0, 0, []), (1, .getfield 55, 80, []), (4, .invokevirtual 169, 67, []), (7, .istore_n 1, 0, []), (8, .iload_n 1, 0, []), (9, .ifCond .ne 10, 0, []), (12, .aload_n 0, 0, []), (13, .bipush (-6), 0, []), (15, .invokevirtual 143, 56, []), (18, .ireturn, 0, []), (19, .iconst 0, 0, []), (20, .istore_n 2, 0, []), (21, .iconst 0, 0, []), (22, .istore_n 3, 0, []), (23, .iload_n 3, 0, []), (24, .iconst 1, 0, []), (25, .iadd, 0, []), (26, .iload_n 1, 0, []), (27, .if_icmp .ge 46, 0, []), (30, .aload_n 0, 0, []), (31, .getfield 12, 72, []), (34, .aload_n 0, 0, []), (35, .getfield 55, 80, []), (38, .getfield 172, 62, []), (41, .iload_n 3, 0, []), (42, .iaload, 0, []), (43, .aload_n 0, 0, []), (44, .getfield 55, 80, []), (47, .getfield 172, 62, []), (50, .iload_n 3, 0, []), (51, .iconst 1, 0, []), (52, .iadd, 0, []), (53, .iaload, 0, []), (54, .aload_n 0, 0, []), (55, .getfield 25, 75, []), (58, .invokevirtual 175, 68, []), (61, .ifCond .lt 6, 0, []), (64, .iinc 2 1, 0, []), (67, .iinc 3 2, 0, []), (70, .goto (-47), 0, []), (73, .aload_n 0, 0, []), (74, .iload_n 1, 0, []), (75, .iconst 1, 0, []), (76, .iadd, 0, []), (77, .iconst 2, 0, []), (78, .idiv, 0, []), (79, .iload_n 2, 0, []), (80, .isub, 0, []), (81, .putfield 76, 86, []), (84, .aload_n 0, 0, []), (85, .getfield 39, 77, []), (88, .invokevirtual 156, 61, []), (91, .aload_n 0, 0, []), (92, .iload_n 2, 0, []), (93, .invokevirtual 159, 62, []), (96, .ireturn, 0, [])]
def M_107 : xM := (8, 1, 0, 4, c_107)
def c_108 : List xR := [(0, .aload_n 0, 0, []), (1, .getfield 76, 86, []), (4, .ireturn, 0, [])]
def M_108 : xM := (8, 1, 0, 1, c_108)
def c_109 : List xR := [(0, .aload_n 0, 0, []), (1, .getfield 55, 80, []), (4, .invokevirtual 169, 67, []), (7, .pop, 0, []), (8, .aload_n 0, 0, []), (9, .getfield 25, 75, []), (12, .getfield 179, 25, []), (15, .bipush 6, 0, []), (17, .if_icmp .lt 10, 0, []), (20, .aload_n 0, 0, []), (21, .bipush (-5), 0, []), (23, .invokevirtual 143, 56, []), (26, .ireturn, 0, []), (27, .aload_n 0, 0, []), (28, .aload_n 0, 0, []), (29, .getfield 55, 80, []), (32, .iconst 0, 0, []), (33, .invokevirtual 182, 96, []), (36, .putfield 80, 87, []), (39, .aload_n 0, 0, []), (40, .getfield 80, 87, []), (43, .iconst (-1), 0, []), (44, .if_icmp .eq 10, 0, []), (47, .aload_n 0, 0, []), (48, .bipush (-6), 0, []), (50, .invokevirtual 143, 56, []), (53, .ireturn, 0, []), (54, .aload_n 0, 0, []), (55, .aload_n 0, 0, []), (56, .getfield 25, 75, []), (59, .new 186, 16, []), (62, .dup, 0, []), (63, .aload_n 0, 0, []), (64, .getfield 55, 80, []), (67, .getfield 188, 60, []), (70, .invokespecial 192, 121, []), (73, .invokevirtual 195, 126, []), (76, .invokevirtual 159, 62, []), (79, .ireturn, 0, [])]
def M_109 : xM := (8, 1, 0, 1, c_109)
def c_110 : List xR := [(0, .aload_n 0, 0, []), (1, .getfield 55, 80, []), (4, .invokevirtual 169, 67, []), (7, .pop, 0, []), (8, .aload_n 0, 0, []), (9, .iconst (-1), 0, []), (10, .putfield 83, 88, []), (13, .aload_n 0, 0, []), (14, .aload_n 0, 0, []), (15, .getfield 55, 80, []), (18, .iconst 1, 0, []), (19, .invokevirtual 182, 96, []), (22, .putfield 80, 87, []), (25, .aload_n 0, 0, []), (26, .getfield 80, 87, []), (29, .iconst (-1), 0, []), (30, .if_icmp .eq 10, 0, []), (33, .aload_n 0, 0, []), (34, .bipush (-6), 0, []), (36, .invokevirtual 143, 56, []), (39, .ireturn, 0, []), (40, .aload_n 0, 0, []), (41, .getfield 19, 74, []), (44, .aload_n 0, 0, []), (45, .getfield 12, 72, []), (48, .invokevirtual 199, 128, []), (51, .aload_n 0, 0, []), (52, .getfield 43, 78, []), (55, .invokevirtual 156, 61, []), (58, .aload_n 0, 0, []), (59, .getfield 59, 81, []), (62, .iconst 1, 0, []), (63, .iconst 0, 0, []), (64, .iastore, 0, []), (65, .aload_n 0, 0, []), (66, .getfield 59, 81, []), (69, .iconst 2, 0, []), (70, .iconst (-1), 0, []), (71, .iastore, 0, []), (72, .iconst 0, 0, []), (73, .istore_n 1, 0, []), (74, .iload_n 1, 0, []), (75, .aload_n 0, 0, []), (76, .getfield 55, 80, []), (79, .getfield 188, 60, []), (82, .getfield 203, 55, []), (85, .if_icmp .ge 47, 0, []), (88, .aload_n 0, 0, []), (89, .aload_n 0, 0, []), (90, .getfield 55, 80, []), (93, .getfield 188, 60, []), (96, .iload_n 1, 0, []), (97, .invokevirtual 206, 131, []), (100, .ifCond .ne 26, 0, []), (103, .aload_n 0, 0, []), (104, .iload_n 1, 0, []), (105, .putfield 83, 88, []), (108, .aload_n 0, 0, []), (109, .getfield 12, 72, []), (112, .aload_n 0, 0, []), (113, .getfield 19, 74, []), (116, .invokevirtual 199, 128, []), (119, .aload_n 0, 0, []), (120, .bipush (-3), 0, []), (122, .invokevirtual 143, 56, []), (125, .ireturn, 0, []), (126, .iinc 1 1, 0, []), (129, .goto (-55), 0, []), (132, .aload_n 0, 0, []), (133, .getfield 39, 77, []), (136, .aload_n 0, 0, []), (137, .getfield 43, 78, []), (140, .invokevirtual 210, 155, []), (143, .aload_n 0, 0, []), (144, .aload_n 0, 0, []), (145, .getfield 59, 81, []), (148, .iconst 1, 0, []), (149, .iaload, 0, []), (150, .invokevirtual 159, 62, []), (153, .ireturn, 0, [])]
def M_110 : xM := (8, 1, 0, 2, c_110)
def c_111 : List xR := [(0, .aload_n 0, 0, []), (1, .getfield 80, 87, []), (4, .ireturn, 0, [])]
def M_111 : xM := (8, 1, 0, 1, c_111)
def c_112 : List xR := [(0, .aload_n 0, 0, []), (1, .getfield 83, 88, []), (4, .ireturn, 0, [])]
def M_112 : xM := (8, 1, 0, 1, c_112)
def c_113 : List xR := [(0, .iload_n 1, 0, []), (1, .iconst (-1), 0, []), (2, .if_icmp .lt 14, 0, []), (5, .iload_n 1, 0, []), (6, .aload_n 0, 0, []), (7, .getfield 25, 75, []), (10, .getfield 179, 25, []), (13, .if_icmp .lt 10, 0, []), (16, .aload_n 0, 0, []), (17, .bipush (-2), 0, []), (19, .invokevirtual 143, 56, []), (22, .ireturn, 0, []), (23, .aload_n 0, 0, []), (24, .getfield 25, 75, []), (27, .getfield 214, 28, []), (30, .istore_n 2, 0, []), (31, .aload_n 0, 0, []), (32, .getfield 25, 75, []), (35, .iload_n 1, 0, []), (36, .putfield 214, 28, []), (39, .aload_n 0, 0, []), (40, .iload_n 2, 0, []), (41, .invokevirtual 159, 62, []), (44, .ireturn, 0, [])]
def M_113 : xM := (8, 1, 0, 3, c_113)
def c_114 : List xR := [(0, .aload_n 0, 0, []), (1, .aload_n 0, 0, []), (2, .iconst 0, 0, []), (3, .iload_n 1, 0, []), (4, .iload_n 2, 0, []), (5, .aload_n 0, 0, []), (6, .getfield 39, 77, []), (9, .invokevirtual 217, 135, []), (12, .invokevirtual 221, 160, []), (15, .ireturn, 0, [])]
def M_114 : xM := (8, 1, 0, 3, c_114)
def c_115 : List xR := [(0, .aload_n 0, 0, []), (1, .aload_n 0, 0, []), (2, .iconst 1, 0, []), (3, .iload_n 1, 0, []), (4, .iconst 0, 0, []), (5, .aload_n 0, 0, []), (6, .getfield 39, 77, []), (9, .invokevirtual 217, 135, []), (12, .invokevirtual 221, 160, []), (15, .ireturn, 0, [])]
def M_115 : xM := (8, 1, 0, 2, c_115)
def c_116 : List xR := [(0, .aload_n 0, 0, []), (1, .aload_n 0, 0, []), (2, .iconst 2, 0, []), (3, .iload_n 1, 0, []), (4, .iconst 0, 0, []), (5, .aload_n 0, 0, []), (6, .getfield 39, 77, []), (9, .invokevirtual 217, 135, []), (12, .invokevirtual 221, 160, []), (15, .ireturn, 0, [])]
def M_116 : xM := (8, 1, 0, 2, c_116)
def c_117 : List xR := [(0, .aload_n 0, 0, []), (1, .aload_n 0, 0, []), (2, .iconst 3, 0, []), (3, .iload_n 1, 0, []), (4, .iconst 0, 0, []), (5, .aload_n 0, 0, []), (6, .getfield 39, 77, []), (9, .invokevirtual 217, 135, []), (12, .invokevirtual 221, 160, []), (15, .ireturn, 0, [])]
def M_117 : xM := (8, 1, 0, 2, c_117)
def c_118 : List xR := [(0, .aload_n 0, 0, []), (1, .getfield 39, 77, []), (4, .aload_n 0, 0, []), (5, .getfield 12, 72, []), (8, .invokevirtual 224, 165, []), (11, .istore_n 1, 0, []), (12, .iload_n 1, 0, []), (13, .iconst (-1), 0, []), (14, .if_icmp .ne 12, 0, []), (17, .aload_n 0, 0, []), (18, .bipush (-3), 0, []), (20, .invokevirtual 143, 56, []), (23, .goto 8, 0, []), (26, .aload_n 0, 0, []), (27, .iload_n 1, 0, []), (28, .invokevirtual 159, 62, []), (31, .ireturn, 0, [])]
def M_118 : xM := (8, 1, 0, 2, c_118)
def c_119 : List xR := [(0, .iload_n 2, 0, []), (1, .invokestatic 121, 31, []), (4, .ifCond .eq 26, 0, []), (7, .aload_n 0, 0, []), (8, .iload_n 1, 0, []), (9, .invokevirtual 228, 167, []), (12, .ifCond .eq 18, 0, []), (15, .aload_n 0, 0, []), (16, .getfield 16, 73, []), (19, .iload_n 2, 0, []), (20, .aload_n 0, 0, []), (21, .getfield 25, 75, []), (24, .invokevirtual 129, 34, []), (27, .goto 4, 0, []), (30, .iconst (-1), 0, []), (31, .ireturn, 0, [])]
def M_119 : xM := (8, 1, 0, 3, c_119)
def c_120 : List xR := [(0, .aload_n 0, 0, []), (1, .iload_n 1, 0, []), (2, .invokevirtual 228, 167, []), (5, .ifCond .eq 21, 0, []), (8, .aload_n 0, 0, []), (9, .getfield 12, 72, []), (12, .aload_n 0, 0, []), (13, .getfield 16, 73, []), (16, .aload_n 0, 0, []), (17, .getfield 25, 75, []), (20, .invokevirtual 231, 169, []), (23, .goto 4, 0, []), (26, .iconst (-1), 0, []), (27, .ireturn, 0, [])]
def M_120 : xM := (8, 1, 0, 2, c_120)
def c_121 : List xR := [(0, .aload_n 0, 0, []), (1, .iload_n 1, 0, []), (2, .invokevirtual 228, 167, []), (5, .ifCond .eq 17, 0, []), (8, .aload_n 0, 0, []), (9, .getfield 12, 72, []), (12, .aload_n 0, 0, []), (13, .getfield 16, 73, []), (16, .invokevirtual 235, 172, []), (19, .goto 4, 0, []), (22, .iconst (-1), 0, []), (23, .ireturn, 0, [])]
def M_121 : xM := (8, 1, 0, 2, c_121)
def c_122 : List xR := [(0, .iconst 0, 0, []), (1, .istore_n 1, 0, []), (2, .iconst 0, 0, []), (3, .istore_n 2, 0, []), (4, .iload_n 2, 0, []), (5, .sipush 1000, 0, []), (8, .if_icmp .ge 27, 0, []), (11, .aload_n 0, 0, []), (12, .getfield 12, 72, []), (15, .iload_n 2, 0, []), (16, .aload_n 0, 0, []), (17, .getfield 25, 75, []), (20, .invokevirtual 238, 175, []), (23, .ifCond .eq 6, 0, []), (26, .iinc 1 1, 0, []), (29, .iinc 2 1, 0, []), (32, .goto (-28), 0, []), (35, .iload_n 1, 0, []), (36, .ireturn, 0, [])]
def M_122 : xM := (8, 1, 0, 3, c_122)
def c_123 : List xR := [(0, .aload_n 0, 0, []), (1, .getfield 12, 72, []), (4, .getfield 98, 3, []), (7, .invokevirtual 241, 177, []), (10, .iconst 3, 0, []), (11, .imul, 0, []), (12, .aload_n 0, 0, []), (13, .getfield 12, 72, []), (16, .invokevirtual 146, 57, []), (19, .isub, 0, []), (20, .ireturn, 0, [])]
def M_123 : xM := (8, 1, 0, 1, c_123)
def c_124 : List xR := [(0, .iload_n 1, 0, []), (1, .invokestatic 244, 179, []), (4, .ifCond .eq 14, 0, []), (7, .aload_n 0, 0, []), (8, .getfield 12, 72, []), (11, .iload_n 1, 0, []), (12, .invokevirtual 247, 180, []), (15, .goto 4, 0, []), (18, .iconst (-1), 0, []), (19, .ireturn, 0, [])]
def M_124 : xM := (8, 1, 0, 2, c_124)
def c_125 : List xR := [(0, .iconst (-1), 0, []), (1, .istore_n 2, 0, []), (2, .bipush 25, 0, []), (4, .istore_n 3, 0, []), (5, .iconst 0, 0, []), (6, .istore 4, 0, []), (8, .iload 4, 0, [5]), (10, .bipush 32, 0, []), (12, .if_icmp .ge 36, 0, []), (15, .aload_n 0, 0, []), (16, .getfield 12, 72, []), (19, .iload 4, 0, []), (21, .aload_n 0, 0, []), (22, .getfield 69, 84, []), (25, .invokevirtual 250, 182, []), (28, .istore 5, 0, []), (30, .iload 5, 0, []), (32, .iload_n 3, 0, []), (33, .if_icmp .ge 9, 0, []), (36, .iload 4, 0, []), (38, .istore_n 2, 0, []), (39, .iload 5, 0, []), (41, .istore_n 3, 0, []), (42, .iinc 4 1, 0, []), (45, .goto (-37), 0, []), (48, .iload_n 2, 0, []), (49, .iconst (-1), 0, []), (50, .if_icmp .eq 12, 0, []), (53, .iload_n 1, 0, []), (54, .ifCond .lt 8, 0, []), (57, .iload_n 1, 0, []), (58, .iconst 1, 0, []), (59, .if_icmp .le 5, 0, []), (62, .iconst (-1), 0, []), (63, .ireturn, 0, []), (64, .iload_n 1, 0, []), (65, .ifCond .ne 7, 0, []), (68, .iload_n 2, 0, []), (69, .goto 4, 0, []), (72, .iload_n 3, 0, []), (73, .ireturn, 0, [])]
def M_125 : xM := (8, 1, 0, 6, c_125)
def c_126 : List xR := [(0, .aload_n 0, 0, []), (1, .getfield 12, 72, []), (4, .invokevirtual 254, 185, []), (7, .ireturn, 0, [])]
def M_126 : xM := (8, 1, 0, 1, c_126)
def c_127 : List xR := [(0, .iload_n 1, 0, []), (1, .ifCond .lt 18, 0, []), (4, .iload_n 1, 0, []), (5, .bipush 64, 0, []), (7, .if_icmp .ge 12, 0, []), (10, .iload_n 2, 0, []), (11, .ifCond .lt 8, 0, []), (14, .iload_n 2, 0, []), (15, .iconst 1, 0, []), (16, .if_icmp .le 9, 0, []), (19, .aload_n 0, 0, []), (20, .iconst (-1), 0, []), (21, .invokevirtual 143, 56, []), (24, .ireturn, 0, []), (25, .aload_n 0, 0, []), (26, .getfield 32, 76, []), (29, .getfield 257, 38, []), (32, .bipush 6, 0, []), (34, .if_icmp .lt 10, 0, []), (37, .aload_n 0, 0, []), (38, .bipush (-5), 0, []), (40, .invokevirtual 143, 56, []), (43, .ireturn, 0, []), (44, .aload_n 0, 0, []), (45, .aload_n 0, 0, []), (46, .getfield 32, 76, []), (49, .iload_n 1, 0, []), (50, .iload_n 2, 0, []), (51, .invokevirtual 260, 187, []), (54, .invokevirtual 159, 62, []), (57, .ireturn, 0, [])]
def M_127 : xM := (8, 1, 0, 3, c_127)
def c_128 : List xR := [(0, .aload_n 0, 0, []), (1, .getfield 32, 76, []), (4, .getfield 257, 38, []), (7, .istore_n 1, 0, []), (8, .aload_n 0, 0, []), (9, .getfield 32, 76, []), (12, .iconst 0, 0, []), (13, .putfield 257, 38, []), (16, .iload_n 1, 0, []), (17, .ireturn, 0, [])]
def M_128 : xM := (8, 1, 0, 2, c_128)
def c_129 : List xR := [(0, .aload_n 0, 0, []), (1, .getfield 32, 76, []), (4, .aload_n 0, 0, []), (5, .getfield 12, 72, []), (8, .invokevirtual 263, 190, []), (11, .ireturn, 0, [])]
def M_129 : xM := (8, 1, 0, 1, c_129)
def c_130 : List xR := [(0, .aload_n 0, 0, []), (1, .getfield 32, 76, []), (4, .aload_n 0, 0, []), (5, .getfield 12, 72, []), (8, .invokevirtual 263, 190, []), (11, .istore_n 2, 0, []), (12, .iload_n 2, 0, []), (13, .ifCond .eq 12, 0, []), (16, .iload_n 1, 0, []), (17, .ifCond .lt 8, 0, []), (20, .iload_n 1, 0, []), (21, .iconst 1, 0, []), (22, .if_icmp .le 5, 0, []), (25, .iconst (-1), 0, []), (26, .ireturn, 0, []), (27, .iload_n 2, 0, []), (28, .invokestatic 266, 195, []), (31, .istore_n 3, 0, []), (32, .iconst 0, 0, []), (33, .istore 4, 0, []), (35, .bipush 25, 0, []), (37, .istore 5, 0, []), (39, .iconst 0, 0, []), (40, .istore 6, 0, []), (42, .iload 6, 0, [7, 8]), (44, .aload_n 0, 0, []), (45, .getfield 12, 72, []), (48, .invokevirtual 114, 29, []), (51, .if_icmp .ge 51, 0, []), (54, .iload_n 2, 0, []), (55, .aload_n 0, 0, []), (56, .getfield 12, 72, []), (59, .getfield 118, 9, []), (62, .iload 6, 0, []), (64, .iaload, 0, []), (65, .ishr, 0, []), (66, .iconst 1, 0, []), (67, .iand, 0, []), (68, .istore 7, 0, []), (70, .iload 7, 0, []), (72, .iload_n 3, 0, []), (73, .iload 7, 0, []), (75, .isub, 0, []), (76, .invokestatic 271, 196, []), (79, .istore 8, 0, []), (81, .iload 8, 0, []), (83, .iload 5, 0, []), (85, .if_icmp .ge 11, 0, []), (88, .iload 6, 0, []), (90, .istore 4, 0, []), (92, .iload 8, 0, []), (94, .istore 5, 0, []), (96, .iinc 6 1, 0, []), (99, .goto (-57), 0, []), (102, .iload_n 1, 0, []), (103, .ifCond .ne 8, 0, []), (106, .iload 4, 0, []), (108, .goto 5, 0, []), (111, .iload 5, 0, []), (113, .ireturn, 0, [])]
def M_130 : xM := (8, 1, 0, 9, c_130)
def c_131 : List xR := [(0, .iload_n 1, 0, []), (1, .iconst 1, 0, []), (2, .if_icmp .lt 19, 0, []), (5, .iload_n 1, 0, []), (6, .bipush 20, 0, []), (8, .if_icmp .gt 13, 0, []), (11, .iload_n 2, 0, []), (12, .ifCond .lt 9, 0, []), (15, .iload_n 2, 0, []), (16, .bipush 99, 0, []), (18, .if_icmp .le 7, 0, []), (21, .ldc2_w 276, 3, []), (24, .lreturn, 0, []), (25, .aload_n 0, 0, []), (26, .getfield 72, 85, []), (29, .lconst 0, 0, []), (30, .invokestatic 278, 198, []), (33, .aload_n 0, 0, []), (34, .getfield 72, 85, []), (37, .iconst 0, 0, []), (38, .ldc2_w 281, 4, []), (41, .lastore, 0, []), (42, .iconst 0, 0, []), (43, .istore_n 3, 0, []), (44, .iload_n 3, 0, [4, 5]), (45, .iload_n 2, 0, []), (46, .if_icmp .ge 14, 0, []), (49, .aload_n 0, 0, []), (50, .iload_n 1, 0, []), (51, .invokevirtual 283, 199, []), (54, .iinc 3 1, 0, []), (57, .goto (-13), 0, []), (60, .lconst 0, 0, []), (61, .lstore_n 3, 0, []), (62, .iconst 0, 0, []), (63, .istore 5, 0, []), (65, .iload 5, 0, [2]), (67, .iload_n 1, 0, []), (68, .if_icmp .ge 19, 0, []), (71, .lload_n 3, 0, []), (72, .aload_n 0, 0, []), (73, .getfield 72, 85, []), (76, .iload 5, 0, []), (78, .laload, 0, []), (79, .ladd, 0, []), (80, .lstore_n 3, 0, []), (81, .iinc 5 1, 0, []), (84, .goto (-19), 0, []), (87, .lload_n 3, 0, []), (88, .lreturn, 0, [])]
def M_131 : xM := (8, 3, 0, 6, c_131)
def c_132 : List xR := [(0, .iload_n 1, 0, []), (1, .iconst (-1), 0, []), (2, .if_icmp .lt 21, 0, []), (5, .iload_n 1, 0, []), (6, .aload_n 0, 0, []), (7, .getfield 25, 75, []), (10, .getfield 179, 25, []), (13, .if_icmp .ge 10, 0, []), (16, .iload_n 2, 0, []), (17, .invokestatic 244, 179, []), (20, .ifCond .ne 5, 0, []), (23, .iconst (-1), 0, []), (24, .ireturn, 0, []), (25, .aload_n 0, 0, []), (26, .getfield 25, 75, []), (29, .iload_n 1, 0, []), (30, .aload_n 0, 0, []), (31, .getfield 12, 72, []), (34, .iload_n 2, 0, []), (35, .invokevirtual 286, 201, []), (38, .ireturn, 0, [])]
def M_132 : xM := (8, 1, 0, 3, c_132)
def c_133 : List xR := [(0, .iload_n 1, 0, []), (1, .ifCond .lt 21, 0, []), (4, .iload_n 1, 0, []), (5, .ldc_w 290, 6, []), (8, .if_icmp .gt 14, 0, []), (11, .iload_n 2, 0, []), (12, .iconst 1, 0, []), (13, .if_icmp .lt 9, 0, []), (16, .iload_n 2, 0, []), (17, .bipush 60, 0, []), (19, .if_icmp .le 9, 0, []), (22, .aload_n 0, 0, []), (23, .iconst (-1), 0, []), (24, .invokevirtual 143, 56, []), (27, .ireturn, 0, []), (28, .aload_n 0, 0, []), (29, .getfield 16, 73, []), (32, .aload_n 0, 0, []), (33, .getfield 12, 72, []), (36, .invokevirtual 199, 128, []), (39, .iload_n 1, 0, []), (40, .istore_n 3, 0, []), (41, .iconst 0, 0, []), (42, .istore 4, 0, []), (44, .iload 4, 0, [1, 5, 6, 7]), (46, .iload_n 2, 0, []), (47, .if_icmp .ge 51, 0, []), (50, .iload_n 3, 0, []), (51, .invokestatic 291, 203, []), (54, .istore 5, 0, []), (56, .iload 5, 0, []), (58, .invokestatic 291, 203, []), (61, .istore 6, 0, []), (63, .iload 6, 0, []), (65, .invokestatic 291, 203, []), (68, .istore 7, 0, []), (70, .aload_n 0, 0, []), (71, .iload 5, 0, []), (73, .bipush 40, 0, []), (75, .irem, 0, []), (76, .iload 6, 0, []), (78, .bipush 8, 0, []), (80, .irem, 0, []), (81, .iload 7, 0, []), (83, .bipush 8, 0, []), (85, .irem, 0, []), (86, .invokevirtual 294, 204, []), (89, .iload 7, 0, []), (91, .istore_n 3, 0, []), (92, .iinc 4 1, 0, []), (95, .goto (-51), 0, []), (98, .iconst 0, 0, []), (99, .istore 4, 0, []), (101, .iload 4, 0, [1, 2, 3, 5, 6, 7]), (103, .bipush 40, 0, []), (105, .if_icmp .ge 29, 0, []), (108, .aload_n 0, 0, []), (109, .getfield 66, 83, []), (112, .iload 4, 0, []), (114, .aload_n 0, 0, []), (115, .getfield 16, 73, []), (118, .iload 4, 0, []), (120, .aload_n 0, 0, []), (121, .getfield 25, 75, []), (124, .invokevirtual 129, 34, []), (127, .iastore, 0, []), (128, .iinc 4 1, 0, []), (131, .goto (-30), 0, []), (134, .aload_n 0, 0, []), (135, .aload_n 0, 0, []), (136, .getfield 16, 73, []), (139, .invokevirtual 146, 57, []), (142, .invokevirtual 159, 62, []), (145, .ireturn, 0, [])]
def M_133 : xM := (8, 1, 0, 8, c_133)
def c_134 : List xR := [(0, .iload_n 1, 0, []), (1, .ifCond .lt 18, 0, []), (4, .iload_n 1, 0, []), (5, .bipush 40, 0, []), (7, .if_icmp .ge 12, 0, []), (10, .aload_n 0, 0, []), (11, .getfield 66, 83, []), (14, .iload_n 1, 0, []), (15, .iaload, 0, []), (16, .goto 4, 0, []), (19, .iconst (-1), 0, []), (20, .ireturn, 0, [])]
def M_134 : xM := (8, 1, 0, 2, c_134)
def c_135 : List xR := [(0, .iload_n 1, 0, []), (1, .ifCond .lt 8, 0, []), (4, .iload_n 1, 0, []), (5, .iconst 2, 0, []), (6, .if_icmp .lt 9, 0, []), (9, .aload_n 0, 0, []), (10, .iconst (-1), 0, []), (11, .invokevirtual 143, 56, []), (14, .ireturn, 0, []), (15, .aload_n 0, 0, []), (16, .getfield 48, 79, []), (19, .iload_n 1, 0, []), (20, .aaload, 6, []), (21, .astore_n 2, 0, []), (22, .aload_n 2, 0, []), (23, .ifnonnull 18, 0, []), (26, .new 46, 11, []), (29, .dup, 0, []), (30, .invokespecial 298, 208, []), (33, .astore_n 2, 0, []), (34, .aload_n 0, 0, []), (35, .getfield 48, 79, []), (38, .iload_n 1, 0, []), (39, .aload_n 2, 0, []), (40, .aastore, 6, []), (41, .aload_n 2, 0, [1]), (42, .getfield 299, 91, []), (45, .aload_n 0, 0, []), (46, .getfield 12, 72, []), (49, .invokevirtual 199, 128, []), (52, .aload_n 2, 0, []), (53, .getfield 302, 93, []), (56, .aload_n 0, 0, []), (57, .getfield 25, 75, []), (60, .invokevirtual 303, 213, []), (63, .aload_n 2, 0, []), (64, .getfield 306, 95, []), (67, .aload_n 0, 0, []), (68, .getfield 32, 76, []), (71, .invokevirtual 307, 214, []), (74, .aload_n 0, 0, []), (75, .iconst 0, 0, []), (76, .invokevirtual 159, 62, []), (79, .ireturn, 0, [])]
def M_135 : xM := (8, 1, 0, 3, c_135)
def c_136 : List xR := [(0, .iload_n 1, 0, []), (1, .ifCond .lt 8, 0, []), (4, .iload_n 1, 0, []), (5, .iconst 2, 0, []), (6, .if_icmp .lt 9, 0, []), (9, .aload_n 0, 0, []), (10, .iconst (-1), 0, []), (11, .invokevirtual 143, 56, []), (14, .ireturn, 0, []), (15, .aload_n 0, 0, []), (16, .getfield 48, 79, []), (19, .iload_n 1, 0, []), (20, .aaload, 6, []), (21, .astore_n 2, 0, []), (22, .aload_n 2, 0, []), (23, .ifnonnull 10, 0, []), (26, .aload_n 0, 0, []), (27, .bipush (-2), 0, []), (29, .invokevirtual 143, 56, []), (32, .ireturn, 0, []), (33, .aload_n 0, 0, []), (34, .getfield 12, 72, []), (37, .aload_n 2, 0, []), (38, .getfield 299, 91, []), (41, .invokevirtual 199, 128, []), (44, .aload_n 0, 0, []), (45, .getfield 25, 75, []), (48, .aload_n 2, 0, []), (49, .getfield 302, 93, []), (52, .invokevirtual 303, 213, []), (55, .aload_n 0, 0, []), (56, .getfield 32, 76, []), (59, .aload_n 2, 0, []), (60, .getfield 306, 95, []), (63, .invokevirtual 307, 214, []), (66, .aload_n 0, 0, []), (67, .getfield 39, 77, []), (70, .invokevirtual 156, 61, []), (73, .aload_n 0, 0, []), (74, .iconst 0, 0, []), (75, .invokevirtual 159, 62, []), (78, .ireturn, 0, [])]
def M_136 : xM := (8, 1, 0, 3, c_136)
def c_137 : List xR := [(0, .iload_n 1, 0, []), (1, .tableswitch 207 0 17 #[87, 95, 106, 114, 122, 130, 138, 146, 154, 161, 168, 175, 182, 190, 198, 198, 198, 198], 0, []), (88, .aload_n 0, 0, []), (89, .getfield 12, 72, []), (92, .getfield 310, 16, []), (95, .ireturn, 0, []), (96, .aload_n 0, 0, []), (97, .getfield 12, 72, []), (100, .getfield 98, 3, []), (103, .invokevirtual 241, 177, []), (106, .ireturn, 0, []), (107, .aload_n 0, 0, []), (108, .getfield 12, 72, []), (111, .invokevirtual 146, 57, []), (114, .ireturn, 0, []), (115, .aload_n 0, 0, []), (116, .getfield 12, 72, []), (119, .getfield 313, 14, []), (122, .ireturn, 0, []), (123, .aload_n 0, 0, []), (124, .getfield 32, 76, []), (127, .getfield 257, 38, []), (130, .ireturn, 0, []), (131, .aload_n 0, 0, []), (132, .getfield 25, 75, []), (135, .getfield 179, 25, []), (138, .ireturn, 0, []), (139, .aload_n 0, 0, []), (140, .getfield 39, 77, []), (143, .getfield 316, 43, []), (146, .ireturn, 0, []), (147, .aload_n 0, 0, []), (148, .getfield 55, 80, []), (151, .getfield 162, 64, []), (154, .ireturn, 0, []), (155, .aload_n 0, 0, []), (156, .getfield 63, 82, []), (159, .iconst 1, 0, []), (160, .iaload, 0, []), (161, .ireturn, 0, []), (162, .aload_n 0, 0, []), (163, .getfield 63, 82, []), (166, .iconst 2, 0, []), (167, .iaload, 0, []), (168, .ireturn, 0, []), (169, .aload_n 0, 0, []), (170, .getfield 63, 82, []), (173, .iconst 3, 0, []), (174, .iaload, 0, []), (175, .ireturn, 0, []), (176, .aload_n 0, 0, []), (177, .getfield 63, 82, []), (180, .iconst 5, 0, []), (181, .iaload, 0, []), (182, .ireturn, 0, []), (183, .aload_n 0, 0, []), (184, .getfield 63, 82, []), (187, .bipush 6, 0, []), (189, .iaload, 0, []), (190, .ireturn, 0, []), (191, .aload_n 0, 0, []), (192, .getfield 25, 75, []), (195, .getfield 214, 28, []), (198, .ireturn, 0, []), (199, .aload_n 0, 0, []), (200, .iload_n 1, 0, []), (201, .bipush 14, 0, []), (203, .isub, 0, []), (204, .invokevirtual 149, 59, []), (207, .ireturn, 0, []), (208, .iconst (-1), 0, []), (209, .ireturn, 0, [])]
def M_137 : xM := (8, 1, 0, 2, c_137)
def c_138 : List xR := [(0, .aload_n 0, 0, []), (1, .getfield 86, 89, []), (4, .ireturn, 0, [])]
def M_138 : xM := (8, 1, 0, 1, c_138)
def c_139 : List xR := [(0, .iload_n 0, 0, []), (1, .ifCond .lt 14, 0, []), (4, .iload_n 0, 0, []), (5, .sipush 1000, 0, []), (8, .if_icmp .ge 7, 0, []), (11, .iconst 1, 0, []), (12, .goto 4, 0, []), (15, .iconst 0, 0, []), (16, .ireturn, 0, [])]
def M_139 : xM := (8, 2, 1, 1, c_139)
def c_140 : List xR := [(0, .iload_n 0, 0, []), (1, .ifCond .lt 13, 0, []), (4, .iload_n 0, 0, []), (5, .bipush 24, 0, []), (7, .if_icmp .ge 7, 0, []), (10, .iconst 1, 0, []), (11, .goto 4, 0, []), (14, .iconst 0, 0, []), (15, .ireturn, 0, [])]
def M_140 : xM := (8, 2, 1, 1, c_140)
def c_141 : List xR := [(0, .aload_n 0, 0, []), (1, .iload_n 1, 0, []), (2, .putfield 86, 89, []), (5, .aload_n 0, 0, []), (6, .getfield 63, 82, []), (9, .iload_n 1, 0, []), (10, .ineg, 0, []), (11, .dup2, 0, []), (12, .iaload, 0, []), (13, .iconst 1, 0, []), (14, .iadd, 0, []), (15, .iastore, 0, []), (16, .iload_n 1, 0, []), (17, .ireturn, 0, [])]
def M_141 : xM := (8, 1, 0, 2, c_141)
def c_142 : List xR := [(0, .aload_n 0, 0, []), (1, .iconst 0, 0, []), (2, .putfield 86, 89, []), (5, .iload_n 1, 0, []), (6, .ireturn, 0, [])]
def M_142 : xM := (8, 1, 0, 2, c_142)
def c_143 : List xR := [(0, .iload_n 1, 0, []), (1, .ifCond .ge 11, 0, []), (4, .aload_n 0, 0, []), (5, .iload_n 1, 0, []), (6, .invokevirtual 143, 56, []), (9, .goto 8, 0, []), (12, .aload_n 0, 0, []), (13, .iload_n 1, 0, []), (14, .invokevirtual 159, 62, []), (17, .ireturn, 0, [])]
def M_143 : xM := (8, 1, 0, 2, c_143)
def c_144 : List xR := [(0, .iload_n 0, 0, []), (1, .tableswitch 45 0 3 #[31, 35, 38, 41], 0, []), (32, .sipush 999, 0, []), (35, .ireturn, 0, []), (36, .bipush 10, 0, []), (38, .ireturn, 0, []), (39, .bipush 9, 0, []), (41, .ireturn, 0, []), (42, .sipush 999, 0, []), (45, .ireturn, 0, []), (46, .iconst (-1), 0, []), (47, .ireturn, 0, [])]
def M_144 : xM := (8, 1, 1, 1, c_144)
def c_145 : List xR := [(0, .iload_n 1, 0, []), (1, .tableswitch 51 0 2 #[27, 35, 43], 0, []), (28, .aload_n 0, 0, []), (29, .getfield 12, 72, []), (32, .getfield 317, 19, []), (35, .ireturn, 0, []), (36, .aload_n 0, 0, []), (37, .getfield 25, 75, []), (40, .getfield 320, 30, []), (43, .ireturn, 0, []), (44, .aload_n 0, 0, []), (45, .getfield 25, 75, []), (48, .getfield 323, 32, []), (51, .ireturn, 0, []), (52, .aload_n 0, 0, []), (53, .getfield 25, 75, []), (56, .getfield 326, 34, []), (59, .ireturn, 0, [])]
def M_145 : xM := (8, 1, 0, 2, c_145)
def c_146 : List xR := [(0, .iload_n 1, 0, []), (1, .tableswitch 60 0 2 #[27, 38, 49], 0, []), (28, .aload_n 0, 0, []), (29, .getfield 12, 72, []), (32, .iload_n 2, 0, []), (33, .putfield 317, 19, []), (36, .goto 33, 0, []), (39, .aload_n 0, 0, []), (40, .getfield 25, 75, []), (43, .iload_n 2, 0, []), (44, .putfield 320, 30, []), (47, .goto 22, 0, []), (50, .aload_n 0, 0, []), (51, .getfield 25, 75, []), (54, .iload_n 2, 0, []), (55, .putfield 323, 32, []), (58, .goto 11, 0, []), (61, .aload_n 0, 0, []), (62, .getfield 25, 75, []), (65, .iload_n 2, 0, []), (66, .putfield 326, 34, []), (69, .return_, 0, [])]
def M_146 : xM := (8, 0, 0, 3, c_146)
def c_147 : List xR := [(0, .aload 4, 0, []), (2, .aload_n 0, 0, []), (3, .getfield 12, 72, []), (6, .invokevirtual 329, 136, []), (9, .iload_n 1, 0, []), (10, .tableswitch 74 0 2 #[26, 44, 61], 0, []), (36, .aload_n 0, 0, []), (37, .getfield 12, 72, []), (40, .iload_n 2, 0, []), (41, .iload_n 3, 0, []), (42, .aload_n 0, 0, []), (43, .getfield 25, 75, []), (46, .invokevirtual 175, 68, []), (49, .istore 5, 0, []), (51, .goto 47, 0, []), (54, .aload_n 0, 0, []), (55, .getfield 12, 72, []), (58, .iload_n 2, 0, []), (59, .aload_n 0, 0, []), (60, .getfield 25, 75, []), (63, .invokevirtual 332, 139, []), (66, .istore 5, 0, []), (68, .goto 30, 0, []), (71, .aload_n 0, 0, []), (72, .getfield 12, 72, []), (75, .iload_n 2, 0, []), (76, .invokevirtual 335, 146, []), (79, .istore 5, 0, []), (81, .goto 17, 0, []), (84, .aload_n 0, 0, []), (85, .getfield 12, 72, []), (88, .iload_n 2, 0, []), (89, .aload_n 0, 0, []), (90, .getfield 25, 75, []), (93, .invokevirtual 338, 147, []), (96, .istore 5, 0, []), (98, .iload 5, 0, []), (100, .ifCond .lt 9, 0, []), (103, .aload 4, 0, []), (105, .iload_n 1, 0, []), (106, .invokevirtual 341, 153, []), (109, .iload 5, 0, []), (111, .ireturn, 0, [])]
def M_147 : xM := (8, 1, 0, 6, c_147)
def c_148 : List xR := [(0, .aload_n 1, 0, []), (1, .iload_n 2, 0, []), (2, .iconst 0, 0, []), (3, .invokevirtual 344, 132, []), (6, .istore_n 3, 0, []), (7, .aload_n 1, 0, []), (8, .iload_n 2, 0, []), (9, .iconst 1, 0, []), (10, .invokevirtual 344, 132, []), (13, .istore 4, 0, []), (15, .iconst 0, 0, []), (16, .istore 5, 0, []), (18, .iload 5, 0, [6, 7, 8]), (20, .iload 4, 0, []), (22, .if_icmp .ge 139, 0, []), (25, .aload_n 0, 0, []), (26, .aload_n 1, 0, []), (27, .invokevirtual 347, 133, []), (30, .aload_n 1, 0, []), (31, .iload_n 2, 0, []), (32, .bipush 6, 0, []), (34, .aload_n 0, 0, []), (35, .getfield 59, 81, []), (38, .aload_n 0, 0, []), (39, .getfield 25, 75, []), (42, .getfield 350, 23, []), (45, .invokevirtual 353, 134, []), (48, .iconst 1, 0, []), (49, .if_icmp .eq 6, 0, []), (52, .goto 103, 0, []), (55, .aload_n 1, 0, []), (56, .iload_n 2, 0, []), (57, .iconst 2, 0, []), (58, .aload_n 0, 0, []), (59, .getfield 59, 81, []), (62, .aload_n 0, 0, []), (63, .getfield 25, 75, []), (66, .getfield 350, 23, []), (69, .invokevirtual 353, 134, []), (72, .istore 6, 0, []), (74, .aload_n 1, 0, []), (75, .iload_n 2, 0, []), (76, .iconst 4, 0, []), (77, .aload_n 0, 0, []), (78, .getfield 59, 81, []), (81, .aload_n 0, 0, []), (82, .getfield 25, 75, []), (85, .getfield 350, 23, []), (88, .invokevirtual 353, 134, []), (91, .istore 7, 0, []), (93, .iload 6, 0, []), (95, .ldc_w 357, 2, []), (98, .if_icmp .eq 11, 0, []), (101, .iload 7, 0, []), (103, .ldc_w 357, 2, []), (106, .if_icmp .ne 5, 0, []), (109, .iconst 0, 0, []), (110, .ireturn, 0, []), (111, .aload_n 0, 0, []), (112, .iload_n 3, 0, []), (113, .iload 6, 0, []), (115, .iload 7, 0, []), (117, .aload_n 0, 0, []), (118, .getfield 43, 78, [6, 7, 8]), (121, .invokevirtual 217, 135, []), (124, .istore 8, 0, []), (126, .iload 8, 0, []), (128, .ifCond .ge 5, 0, []), (131, .iconst 0, 0, []), (132, .ireturn, 0, []), (133, .aload_n 0, 0, []), (134, .getfield 59, 81, []), (137, .iconst 1, 0, []), (138, .dup2, 0, []), (139, .iaload, 0, []), (140, .iconst 1, 0, []), (141, .iadd, 0, []), (142, .iastore, 0, []), (143, .iload_n 3, 0, []), (144, .ifCond .ne 11, 0, []), (147, .aload_n 0, 0, []), (148, .getfield 59, 81, []), (151, .iconst 2, 0, []), (152, .iload 8, 0, []), (154, .iastore, 0, []), (155, .iinc 5 1, 0, []), (158, .goto (-140), 0, []), (161, .iconst 1, 0, []), (162, .ireturn, 0, [])]
def M_148 : xM := (8, 2, 0, 9, c_148)
def c_149 : List xR := [(0, .aload_n 0, 0, []), (1, .getfield 59, 81, []), (4, .iconst 0, 0, []), (5, .aload_n 0, 0, []), (6, .getfield 12, 72, []), (9, .getfield 317, 19, []), (12, .iastore, 0, []), (13, .aload_n 0, 0, []), (14, .getfield 59, 81, []), (17, .iconst 3, 0, []), (18, .aload_n 0, 0, []), (19, .getfield 12, 72, []), (22, .getfield 310, 16, []), (25, .iastore, 0, []), (26, .aload_n 0, 0, []), (27, .getfield 59, 81, []), (30, .iconst 4, 0, []), (31, .aload_n 0, 0, []), (32, .getfield 12, 72, []), (35, .getfield 313, 14, []), (38, .iastore, 0, []), (39, .aload_n 0, 0, []), (40, .getfield 59, 81, []), (43, .iconst 5, 0, []), (44, .aload_n 0, 0, []), (45, .getfield 12, 72, []), (48, .invokevirtual 146, 57, []), (51, .iastore, 0, []), (52, .iconst 0, 0, []), (53, .istore_n 2, 0, []), (54, .iload_n 2, 0, [3]), (55, .aload_n 1, 0, []), (56, .getfield 358, 58, []), (59, .if_icmp .ge 63, 0, []), (62, .aload_n 1, 0, []), (63, .getfield 361, 49, []), (66, .iload_n 2, 0, []), (67, .iaload, 0, []), (68, .istore_n 3, 0, []), (69, .aload_n 0, 0, []), (70, .getfield 59, 81, []), (73, .bipush 6, 0, []), (75, .iload_n 2, 0, []), (76, .iadd, 0, []), (77, .iload_n 3, 0, []), (78, .sipush 1000, 0, []), (81, .if_icmp .ge 18, 0, []), (84, .aload_n 0, 0, []), (85, .getfield 12, 72, []), (88, .iload_n 3, 0, []), (89, .aload_n 0, 0, []), (90, .getfield 25, 75, []), (93, .invokevirtual 129, 34, []), (96, .goto 19, 0, []), (99, .aload_n 0, 0, []), (100, .getfield 12, 72, []), (103, .getfield 98, 3, []), (106, .iload_n 3, 0, []), (107, .sipush 1000, 0, []), (110, .isub, 0, []), (111, .iconst 3, 0, []), (112, .invokevirtual 102, 20, []), (115, .iastore, 0, []), (116, .iinc 2 1, 0, []), (119, .goto (-65), 0, []), (122, .return_, 0, [])]
def M_149 : xM := (8, 0, 0, 4, c_149)
def c_150 : List xR := [(0, .iload_n 1, 0, []), (1, .ifCond .lt 14, 0, []), (4, .iload_n 1, 0, []), (5, .aload_n 0, 0, []), (6, .getfield 12, 72, []), (9, .getfield 313, 14, []), (12, .if_icmp .le 5, 0, []), (15, .iconst 0, 0, []), (16, .ireturn, 0, []), (17, .aload_n 0, 0, []), (18, .getfield 16, 73, []), (21, .aload_n 0, 0, []), (22, .getfield 12, 72, []), (25, .invokevirtual 199, 128, []), (28, .aload_n 0, 0, []), (29, .getfield 16, 73, []), (32, .iload_n 1, 0, []), (33, .aload_n 0, 0, []), (34, .getfield 25, 75, []), (37, .invokevirtual 338, 147, []), (40, .pop, 0, []), (41, .iconst 1, 0, []), (42, .ireturn, 0, [])]
def M_150 : xM := (8, 2, 0, 2, c_150)
def c_151 : List xR := [(0, .iload_n 1, 0, []), (1, .iconst 1, 0, []), (2, .isub, 0, []), (3, .istore_n 2, 0, []), (4, .iload_n 2, 0, [1, 3, 4, 5, 6]), (5, .ifCond .lt 73, 0, []), (8, .aload_n 0, 0, []), (9, .getfield 72, 85, []), (12, .iload_n 2, 0, []), (13, .laload, 0, []), (14, .bipush 10, 0, []), (16, .aload_n 0, 0, []), (17, .getfield 25, 75, []), (20, .getfield 320, 30, []), (23, .isub, 0, []), (24, .i2l, 0, []), (25, .lmul, 0, []), (26, .ldc2_w 364, 5, []), (29, .ldiv, 0, []), (30, .lstore_n 3, 0, []), (31, .iload_n 2, 0, []), (32, .ifCond .ne 7, 0, []), (35, .lconst 0, 0, []), (36, .goto 24, 0, []), (39, .aload_n 0, 0, []), (40, .getfield 72, 85, []), (43, .iload_n 2, 0, []), (44, .iconst 1, 0, []), (45, .isub, 0, []), (46, .laload, 0, []), (47, .aload_n 0, 0, []), (48, .getfield 25, 75, []), (51, .getfield 320, 30, []), (54, .i2l, 0, []), (55, .lmul, 0, []), (56, .ldc2_w 364, 5, []), (59, .ldiv, 0, []), (60, .lstore 5, 0, []), (62, .aload_n 0, 0, []), (63, .getfield 72, 85, []), (66, .iload_n 2, 0, []), (67, .lload_n 3, 0, []), (68, .lload 5, 0, []), (70, .ladd, 0, []), (71, .lastore, 0, []), (72, .iinc 2 (-1), 0, []), (75, .goto (-71), 0, []), (78, .return_, 0, [])]
def M_151 : xM := (8, 0, 0, 7, c_151)
def c_152 : List xR := [(0, .iload_n 0, 0, []), (1, .i2l, 0, []), (2, .ldc2_w 366, 6, []), (5, .lmul, 0, []), (6, .ldc2_w 368, 7, []), (9, .ladd, 0, []), (10, .ldc2_w 370, 8, []), (13, .lrem, 0, []), (14, .l2i, 0, []), (15, .ireturn, 0, [])]
def M_152 : xM := (8, 1, 1, 1, c_152)
def c_153 : List xR := [(0, .iload_n 3, 0, []), (1, .iconst 4, 0, []), (2, .if_icmp .gt 20, 0, []), (5, .aload_n 0, 0, []), (6, .getfield 16, 73, []), (9, .iload_n 1, 0, []), (10, .iload_n 2, 0, []), (11, .aload_n 0, 0, []), (12, .getfield 25, 75, []), (15, .invokevirtual 175, 68, []), (18, .pop, 0, []), (19, .goto 48, 0, []), (22, .iload_n 3, 0, []), (23, .bipush 6, 0, []), (25, .if_icmp .gt 19, 0, []), (28, .aload_n 0, 0, []), (29, .getfield 16, 73, []), (32, .iload_n 1, 0, []), (33, .aload_n 0, 0, []), (34, .getfield 25, 75, []), (37, .invokevirtual 332, 139, []), (40, .pop, 0, []), (41, .goto 26, 0, []), (44, .aload_n 0, 0, []), (45, .getfield 16, 73, []), (48, .iload_n 2, 0, []), (49, .aload_n 0, 0, []), (50, .getfield 16, 73, []), (53, .getfield 313, 14, []), (56, .invokestatic 372, 205, []), (59, .aload_n 0, 0, []), (60, .getfield 25, 75, []), (63, .invokevirtual 338, 147, []), (66, .pop, 0, []), (67, .return_, 0, [])]
def M_153 : xM := (8, 0, 0, 4, c_153)
def c_154 : List xR := [(0, .iload_n 0, 0, []), (1, .iload_n 1, 0, []), (2, .if_icmp .lt 12, 0, []), (5, .iload_n 0, 0, []), (6, .iload_n 2, 0, []), (7, .if_icmp .gt 7, 0, []), (10, .iconst 1, 0, []), (11, .goto 4, 0, []), (14, .iconst 0, 0, []), (15, .ireturn, 0, [])]
def M_154 : xM := (9, 2, 1, 3, c_154)
def c_155 : List xR := [(0, .iload_n 0, 0, []), (1, .iload_n 1, 0, []), (2, .if_icmp .ge 7, 0, []), (5, .iload_n 0, 0, []), (6, .goto 4, 0, []), (9, .iload_n 1, 0, []), (10, .ireturn, 0, [])]
def M_155 : xM := (9, 1, 1, 2, c_155)
def c_156 : List xR := [(0, .iload_n 0, 0, []), (1, .iload_n 1, 0, []), (2, .if_icmp .le 7, 0, []), (5, .iload_n 0, 0, []), (6, .goto 4, 0, []), (9, .iload_n 1, 0, []), (10, .ireturn, 0, [])]
def M_156 : xM := (9, 1, 1, 2, c_156)
def c_157 : List xR := [(0, .aload_n 0, 0, []), (1, .iload_n 1, 0, []), (2, .putfield 3, 96, []), (5, .aload_n 0, 0, []), (6, .getfield 7, 97, []), (9, .iload_n 1, 0, []), (10, .ineg, 0, []), (11, .dup2, 0, []), (12, .iaload, 0, []), (13, .iconst 1, 0, []), (14, .iadd, 0, []), (15, .iastore, 0, []), (16, .iload_n 1, 0, []), (17, .ireturn, 0, [])]
def M_157 : xM := (9, 1, 0, 2, c_157)
def c_158 : List xR := [(0, .aload_n 0, 0, []), (1, .iconst 0, 0, []), (2, .putfield 3, 96, []), (5, .iload_n 1, 0, []), (6, .ireturn, 0, [])]
def M_158 : xM := (9, 1, 0, 2, c_158)
def c_159 : List xR := [(0, .aload_n 0, 0, []), (1, .iconst 0, 0, []), (2, .putfield 11, 128, []), (5, .aload_n 0, 0, []), (6, .iload_n 1, 0, []), (7, .invokevirtual 14, 224, []), (10, .ireturn, 0, [])]
def M_159 : xM := (9, 1, 0, 2, c_159)
def c_160 : List xR := [(0, .iload_n 0, 0, []), (1, .iload_n 1, 0, []), (2, .ishr, 0, []), (3, .iconst 1, 0, []), (4, .iand, 0, []), (5, .iconst 1, 0, []), (6, .if_icmp .ne 7, 0, []), (9, .iconst 1, 0, []), (10, .goto 4, 0, []), (13, .iconst 0, 0, []), (14, .ireturn, 0, [])]
def M_160 : xM := (9, 2, 1, 2, c_160)
def c_161 : List xR := [(0, .iconst 0, 0, []), (1, .istore_n 1, 0, []), (2, .iconst 0, 0, []), (3, .istore_n 2, 0, []), (4, .iload_n 2, 0, []), (5, .bipush 24, 0, []), (7, .if_icmp .ge 17, 0, []), (10, .iload_n 1, 0, []), (11, .iload_n 0, 0, []), (12, .iload_n 2, 0, []), (13, .ishr, 0, []), (14, .iconst 1, 0, []), (15, .iand, 0, []), (16, .iadd, 0, []), (17, .istore_n 1, 0, []), (18, .iinc 2 1, 0, []), (21, .goto (-17), 0, []), (24, .iload_n 1, 0, []), (25, .ireturn, 0, [])]
def M_161 : xM := (9, 1, 1, 3, c_161)
def c_162 : List xR := [(0, .iload_n 0, 0, []), (1, .iconst 0, 0, []), (2, .bipush 23, 0, []), (4, .invokestatic 18, 222, []), (7, .ireturn, 0, [])]
def M_162 : xM := (9, 2, 1, 1, c_162)
def c_163 : List xR := [(0, .iload_n 0, 0, []), (1, .iconst 0, 0, []), (2, .sipush 999, 0, []), (5, .invokestatic 18, 222, []), (8, .ireturn, 0, [])]
def M_163 : xM := (9, 2, 1, 1, c_163)
def c_164 : List xR := [(0, .aload_n 0, 0, []), (1, .invokespecial 22, 220, []), (4, .aload_n 0, 0, []), (5, .bipush 7, 0, []), (7, .newarray .int, 0, []), (9, .putfield 7, 97, []), (12, .aload_n 0, 0, []), (13, .sipush 6588, 0, []), (16, .newarray .int, 0, []), (18, .putfield 28, 98, []), (21, .aload_n 0, 0, []), (22, .sipush 13176, 0, []), (25, .newarray .int, 0, []), (27, .putfield 31, 99, []), (30, .aload_n 0, 0, []), (31, .iconst 2, 0, []), (32, .newarray .boolean, 0, []), (34, .putfield 34, 100, []), (37, .aload_n 0, 0, []), (38, .sipush 3852, 0, []), (41, .newarray .int, 0, []), (43, .putfield 38, 101, []), (46, .aload_n 0, 0, []), (47, .bipush 126, 0, []), (49, .newarray .byte, 0, []), (51, .dup, 0, []), (52, .iconst 0, 0, []), (53, .bipush 99, 0, []), (55, .bastore, 1, []), (56, .dup, 0, []), (57, .iconst 1, 0, []), (58, .bipush 111, 0, []), (60, .bastore, 1, []), (61, .dup, 0, []), (62, .iconst 2, 0, []), (63, .bipush 115, 0, []), (65, .bastore, 1, []), (66, .dup, 0, []), (67, .iconst 3, 0, []), (68, .bipush 116, 0, []), (70, .bastore, 1, []), (71, .dup, 0, []), (72, .iconst 4, 0, []), (73, .bipush 115, 0, []), (75, .bastore, 1, []), (76, .dup, 0, []), (77, .iconst 5, 0, []), (78, .bipush 32, 0, []), (80, .bastore, 1, []), (81, .dup, 0, []), (82, .bipush 6, 0, []), (84, .bipush 98, 0, []), (86, .bastore, 1, []), (87, .dup, 0, []), (88, .bipush 7, 0, []), (90, .bipush 97, 0, []), (92, .bastore, 1, []), (93, .dup, 0, []), (94, .bipush 8, 0, []), (96, .bipush 114, 0, []), (98, .bastore, 1, []), (99, .dup, 0, []), (100, .bipush 9, 0, []), (102, .bipush 115, 0, []), (104, .bastore, 1, []), (105, .dup, 0, []), (106, .bipush 10, 0, []), (108, .bipush 32, 0, []), (110, .bastore, 1, []), (111, .dup, 0, []), (112, .bipush 11, 0, []), (114, .bipush 105, 0, []), (116, .bastore, 1, []), (117, .dup, 0, []), (118, .bipush 12, 0, []), (120, .bipush 102, 0, []), (122, .bastore, 1, []), (123, .dup, 0, []), (124, .bipush 13, 0, []), (126, .bipush 32, 0, []), (128, .bastore, 1, []), (129, .dup, 0, []), (130, .bipush 14, 0, []), (132, .bipush 111, 0, []), (134, .bastore, 1, []), (135, .dup, 0, []), (136, .bipush 15, 0, []), (138, .bipush 114, 0, []), (140, .bastore, 1, []), (141, .dup, 0, []), (142, .bipush 16, 0, []), (144, .bipush 32, 0, []), (146, .bastore, 1, []), (147, .dup, 0, []), (148, .bipush 17, 0, []), (150, .bipush 97, 0, []), (152, .bastore, 1, []), (153, .dup, 0, []), (154, .bipush 18, 0, []), (156, .bipush 110, 0, []), (158, .bastore, 1, []), (159, .dup, 0, []), (160, .bipush 19, 0, []), (162, .bipush 100, 0, []), (164, .bastore, 1, []), (165, .dup, 0, []), (166, .bipush 20, 0, []), (168, .bipush 32, 0, []), (170, .bastore, 1, []), (171, .dup, 0, []), (172, .bipush 21, 0, []), (174, .bipush 110, 0, []), (176, .bastore, 1, []), (177, .dup, 0, []), (178, .bipush 22, 0, []), (180, .bipush 111, 0, []), (182, .bastore, 1, []), (183, .dup, 0, []), (184, .bipush 23, 0, []), (186, .bipush 116, 0, []), (188, .bastore, 1, []), (189, .dup, 0, []), (190, .bipush 24, 0, []), (192, .bipush 32, 0, []), (194, .bastore, 1, []), (195, .dup, 0, []), (196, .bipush 25, 0, []), (198, .bipush 98, 0, []), (200, .bastore, 1, []), (201, .dup, 0, []), (202, .bipush 26, 0, []), (204, .bipush 117, 0, []), (206, .bastore, 1, []), (207, .dup, 0, []), (208, .bipush 27, 0, []), (210, .bipush 99, 0, []), (212, .bastore, 1, []), (213, .dup, 0, []), (214, .bipush 28, 0, []), (216, .bipush 107, 0, []), (218, .bastore, 1, []), (219, .dup, 0, []), (220, .bipush 29, 0, []), (222, .bipush 101, 0, []), (224, .bastore, 1, []), (225, .dup, 0, []), (226, .bipush 30, 0, []), (228, .bipush 116, 0, []), (230, .bastore, 1, []), (231, .dup, 0, []), (232, .bipush 31, 0, []), (234, .bipush 32, 0, []), (236, .bastore, 1, []), (237, .dup, 0, []), (238, .bipush 32, 0, []), (240, .bipush 100, 0, []), (242, .bastore, 1, []), (243, .dup, 0, []), (244, .bipush 33, 0, []), (246, .bipush 101, 0, []), (248, .bastore, 1, []), (249, .dup, 0, []), (250, .bipush 34, 0, []), (252, .bipush 112, 0, []), (254, .bastore, 1, []), (255, .dup, 0, []), (256, .bipush 35, 0, []), (258, .bipush 116, 0, []), (260, .bastore, 1, []), (261, .dup, 0, []), (262, .bipush 36, 0, []), (264, .bipush 104, 0, []), (266, .bastore, 1, []), (267, .dup, 0, []), (268, .bipush 37, 0, []), (270, .bipush 32, 0, []), (272, .bastore, 1, []), (273, .dup, 0, []), (274, .bipush 38, 0, []), (276, .bipush 107, 0, []), (278, .bastore, 1, []), (279, .dup, 0, []), (280, .bipush 39, 0, []), (282, .bipush 101, 0, []), (284, .bastore, 1, []), (285, .dup, 0, []), (286, .bipush 40, 0, []), (288, .bipush 121, 0, []), (290, .bastore, 1, []), (291, .dup, 0, []), (292, .bipush 41, 0, []), (294, .bipush 32, 0, []), (296, .bastore, 1, []), (297, .dup, 0, []), (298, .bipush 42, 0, []), (300, .bipush 104, 0, []), (302, .bastore, 1, []), (303, .dup, 0, []), (304, .bipush 43, 0, []), (306, .bipush 97, 0, []), (308, .bastore, 1, []), (309, .dup, 0, []), (310, .bipush 44, 0, []), (312, .bipush 115, 0, []), (314, .bastore, 1, []), (315, .dup, 0, []), (316, .bipush 45, 0, []), (318, .bipush 104, 0, []), (320, .bastore, 1, []), (321, .dup, 0, []), (322, .bipush 46, 0, []), (324, .bipush 32, 0, []), (326, .bastore, 1, []), (327, .dup, 0, []), (328, .bipush 47, 0, []), (330, .bipush 109, 0, []), (332, .bastore, 1, []), (333, .dup, 0, []), (334, .bipush 48, 0, []), (336, .bipush 111, 0, []), (338, .bastore, 1, []), (339, .dup, 0, []), (340, .bipush 49, 0, []), (342, .bipush 111, 0, []), (344, .bastore, 1, []), (345, .dup, 0, []), (346, .bipush 50, 0, []), (348, .bipush 100, 0, []), (350, .bastore, 1, []), (351, .dup, 0, []), (352, .bipush 51, 0, []), (354, .bipush 32, 0, []), (356, .bastore, 1, []), (357, .dup, 0, []), (358, .bipush 52, 0, []), (360, .bipush 109, 0, []), (362, .bastore, 1, []), (363, .dup, 0, []), (364, .bipush 53, 0, []), (366, .bipush 97, 0, []), (368, .bastore, 1, []), (369, .dup, 0, []), (370, .bipush 54, 0, []), (372, .bipush 110, 0, []), (374, .bastore, 1, []), (375, .dup, 0, []), (376, .bipush 55, 0, []), (378, .bipush 121, 0, []), (380, .bastore, 1, []), (381, .dup, 0, []), (382, .bipush 56, 0, []), (384, .bipush 32, 0, []), (386, .bastore, 1, []), (387, .dup, 0, []), (388, .bipush 57, 0, []), (390, .bipush 116, 0, []), (392, .bastore, 1, []), (393, .dup, 0, []), (394, .bipush 58, 0, []), (396, .bipush 105, 0, []), (398, .bastore, 1, []), (399, .dup, 0, []), (400, .bipush 59, 0, []), (402, .bipush 109, 0, []), (404, .bastore, 1, []), (405, .dup, 0, []), (406, .bipush 60, 0, []), (408, .bipush 101, 0, []), (410, .bastore, 1, []), (411, .dup, 0, []), (412, .bipush 61, 0, []), (414, .bipush 32, 0, []), (416, .bastore, 1, []), (417, .dup, 0, []), (418, .bipush 62, 0, []), (420, .bipush 100, 0, []), (422, .bastore, 1, []), (423, .dup, 0, []), (424, .bipush 63, 0, []), (426, .bipush 111, 0, []), (428, .bastore, 1, []), (429, .dup, 0, []), (430, .bipush 64, 0, []), (432, .bipush 110, 0, []), (434, .bastore, 1, []), (435, .dup, 0, []), (436, .bipush 65, 0, []), (438, .bipush 101, 0, []), (440, .bastore, 1, []), (441, .dup, 0, []), (442, .bipush 66, 0, []), (444, .bipush 32, 0, []), (446, .bastore, 1, []), (447, .dup, 0, []), (448, .bipush 67, 0, []), (450, .bipush 108, 0, []), (452, .bastore, 1, []), (453, .dup, 0, []), (454, .bipush 68, 0, []), (456, .bipush 97, 0, []), (458, .bastore, 1, []), (459, .dup, 0, []), (460, .bipush 69, 0, []), (462, .bipush 116, 0, []), (464, .bastore, 1, []), (465, .dup, 0, []), (466, .bipush 70, 0, []), (468, .bipush 101, 0, []), (470, .bastore, 1, []), (471, .dup, 0, []), (472, .bipush 71, 0, []), (474, .bipush 115, 0, []), (476, .bastore, 1, []), (477, .dup, 0, []), (478, .bipush 72, 0, []), (480, .bipush 116, 0, []), (482, .bastore, 1, []), (483, .dup, 0, []), (484, .bipush 73, 0, []), (486, .bipush 32, 0, []), (488, .bastore, 1, []), (489, .dup, 0, []), (490, .bipush 74, 0, []), (492, .bipush 100, 0, []), (494, .bastore, 1, []), (495, .dup, 0, []), (496, .bipush 75, 0, []), (498, .bipush 101, 0, []), (500, .bastore, 1, []), (501, .dup, 0, []), (502, .bipush 76, 0, []), (504, .bipush 101, 0, []), (506, .bastore, 1, []), (507, .dup, 0, []), (508, .bipush 77, 0, []), (510, .bipush 112, 0, []), (512, .bastore, 1, []), (513, .dup, 0, []), (514, .bipush 78, 0, []), (516, .bipush 32, 0, []), (518, .bastore, 1, []), (519, .dup, 0, []), (520, .bipush 79, 0, []), (522, .bipush 119, 0, []), (524, .bastore, 1, []), (525, .dup, 0, []), (526, .bipush 80, 0, []), (528, .bipush 97, 0, []), (530, .bastore, 1, []), (531, .dup, 0, []), (532, .bipush 81, 0, []), (534, .bipush 105, 0, []), (536, .bastore, 1, []), (537, .dup, 0, []), (538, .bipush 82, 0, []), (540, .bipush 116, 0, []), (542, .bastore, 1, []), (543, .dup, 0, []), (544, .bipush 83, 0, []), (546, .bipush 115, 0, []), (548, .bastore, 1, []), (549, .dup, 0, []), (550, .bipush 84, 0, []), (552, .bipush 32, 0, []), (554, .bastore, 1, []), (555, .dup, 0, []), (556, .bipush 85, 0, []), (558, .bipush 107, 0, []), (560, .bastore, 1, []), (561, .dup, 0, []), (562, .bipush 86, 0, []), (564, .bipush 101, 0, []), (566, .bastore, 1, []), (567, .dup, 0, []), (568, .bipush 87, 0, []), (570, .bipush 121, 0, []), (572, .bastore, 1, []), (573, .dup, 0, []), (574, .bipush 88, 0, []), (576, .bipush 115, 0, []), (578, .bastore, 1, []), (579, .dup, 0, []), (580, .bipush 89, 0, []), (582, .bipush 32, 0, []), (584, .bastore, 1, []), (585, .dup, 0, []), (586, .bipush 90, 0, []), (588, .bipush 118, 0, []), (590, .bastore, 1, []), (591, .dup, 0, []), (592, .bipush 91, 0, []), (594, .bipush 97, 0, []), (596, .bastore, 1, []), (597, .dup, 0, []), (598, .bipush 92, 0, []), (600, .bipush 108, 0, []), (602, .bastore, 1, []), (603, .dup, 0, []), (604, .bipush 93, 0, []), (606, .bipush 117, 0, []), (608, .bastore, 1, []), (609, .dup, 0, []), (610, .bipush 94, 0, []), (612, .bipush 101, 0, []), (614, .bastore, 1, []), (615, .dup, 0, []), (616, .bipush 95, 0, []), (618, .bipush 32, 0, []), (620, .bastore, 1, []), (621, .dup, 0, []), (622, .bipush 96, 0, []), (624, .bipush 112, 0, []), (626, .bastore, 1, []), (627, .dup, 0, []), (628, .bipush 97, 0, []), (630, .bipush 117, 0, []), (632, .bastore, 1, []), (633, .dup, 0, []), (634, .bipush 98, 0, []), (636, .bipush 116, 0, []), (638, .bastore, 1, []), (639, .dup, 0, []), (640, .bipush 99, 0, []), (642, .bipush 32, 0, []), (644, .bastore, 1, []), (645, .dup, 0, []), (646, .bipush 100, 0, []), (648, .bipush 97, 0, []), (650, .bastore, 1, []), (651, .dup, 0, []), (652, .bipush 101, 0, []), (654, .bipush 115, 0, []), (656, .bastore, 1, []), (657, .dup, 0, []), (658, .bipush 102, 0, []), (660, .bipush 32, 0, []), (662, .bastore, 1, []), (663, .dup, 0, []), (664, .bipush 103, 0, []), (666, .bipush 100, 0, []), (668, .bastore, 1, []), (669, .dup, 0, []), (670, .bipush 104, 0, []), (672, .bipush 114, 0, []), (674, .bastore, 1, []), (675, .dup, 0, []), (676, .bipush 105, 0, []), (678, .bipush 111, 0, []), (680, .bastore, 1, []), (681, .dup, 0, []), (682, .bipush 106, 0, []), (684, .bipush 112, 0, []), (686, .bastore, 1, []), (687, .dup, 0, []), (688, .bipush 107, 0, []), (690, .bipush 32, 0, []), (692, .bastore, 1, []), (693, .dup, 0, []), (694, .bipush 108, 0, []), (696, .bipush 102, 0, []), (698, .bastore, 1, []), (699, .dup, 0, []), (700, .bipush 109, 0, []), (702, .bipush 108, 0, []), (704, .bastore, 1, []), (705, .dup, 0, []), (706, .bipush 110, 0, []), (708, .bipush 117, 0, []), (710, .bastore, 1, []), (711, .dup, 0, []), (712, .bipush 111, 0, []), (714, .bipush 115, 0, []), (716, .bastore, 1, []), (717, .dup, 0, []), (718, .bipush 112, 0, []), (720, .bipush 104, 0, []), (722, .bastore, 1, []), (723, .dup, 0, []), (724, .bipush 113, 0, []), (726, .bipush 32, 0, []), (728, .bastore, 1, []), (729, .dup, 0, []), (730, .bipush 114, 0, []), (732, .bipush 99, 0, []), (734, .bastore, 1, []), (735, .dup, 0, []), (736, .bipush 115, 0, []), (738, .bipush 114, 0, []), (740, .bastore, 1, []), (741, .dup, 0, []), (742, .bipush 116, 0, []), (744, .bipush 97, 0, []), (746, .bastore, 1, []), (747, .dup, 0, []), (748, .bipush 117, 0, []), (750, .bipush 115, 0, []), (752, .bastore, 1, []), (753, .dup, 0, []), (754, .bipush 118, 0, []), (756, .bipush 104, 0, []), (758, .bastore, 1, []), (759, .dup, 0, []), (760, .bipush 119, 0, []), (762, .bipush 32, 0, []), (764, .bastore, 1, []), (765, .dup, 0, []), (766, .bipush 120, 0, []), (768, .bipush 116, 0, []), (770, .bastore, 1, []), (771, .dup, 0, []), (772, .bipush 121, 0, []), (774, .bipush 105, 0, []), (776, .bastore, 1, []), (777, .dup, 0, []), (778, .bipush 122, 0, []), (780, .bipush 109, 0, []), (782, .bastore, 1, []), (783, .dup, 0, []), (784, .bipush 123, 0, []), (786, .bipush 101, 0, []), (788, .bastore, 1, []), (789, .dup, 0, []), (790, .bipush 124, 0, []), (792, .bipush 115, 0, []), (794, .bastore, 1, []), (795, .dup, 0, []), (796, .bipush 125, 0, []), (798, .bipush 32, 0, []), (800, .bastore, 1, []), (801, .putfield 41, 103, []), (804, .aload_n 0, 0, []), (805, .sipush 400, 0, []), (808, .newarray .byte, 0, []), (810, .putfield 45, 107, []), (813, .aload_n 0, 0, []), (814, .iconst 5, 0, []), (815, .newarray .int, 0, []), (817, .putfield 48, 108, []), (820, .aload_n 0, 0, []), (821, .iconst (-1), 0, []), (822, .putfield 51, 110, []), (825, .aload_n 0, 0, []), (826, .sipush 401, 0, []), (829, .newarray .int, 0, []), (831, .putfield 54, 111, []), (834, .aload_n 0, 0, []), (835, .sipush 401, 0, []), (838, .newarray .int, 0, []), (840, .putfield 57, 112, []), (843, .aload_n 0, 0, []), (844, .sipush 401, 0, []), (847, .newarray .int, 0, []), (849, .putfield 60, 113, []), (852, .aload_n 0, 0, []), (853, .bipush 7, 0, []), (855, .newarray .int, 0, []), (857, .putfield 63, 122, []), (860, .aload_n 0, 0, []), (861, .bipush 64, 0, []), (863, .newarray .int, 0, []), (865, .putfield 66, 125, []), (868, .aload_n 0, 0, []), (869, .sipush 15424, 0, []), (872, .newarray .int, 0, []), (874, .putfield 69, 126, []), (877, .aload_n 0, 0, []), (878, .sipush 15424, 0, []), (881, .newarray .int, 0, []), (883, .putfield 72, 127, []), (886, .aload_n 0, 0, []), (887, .sipush 1000, 0, []), (890, .newarray .int, 0, []), (892, .putfield 75, 129, []), (895, .aload_n 0, 0, []), (896, .bipush 64, 0, []), (898, .newarray .int, 0, []), (900, .putfield 78, 130, []), (903, .aload_n 0, 0, []), (904, .bipush 21, 0, []), (906, .newarray .long, 0, []), (908, .putfield 81, 131, []), (911, .aload_n 0, 0, []), (912, .iconst (-1), 0, []), (913, .putfield 85, 132, []), (916, .aload_n 0, 0, []), (917, .iconst 2, 0, []), (918, .newarray .long, 0, []), (920, .putfield 88, 138, []), (923, .aload_n 0, 0, []), (924, .bipush 40, 0, []), (926, .newarray .int, 0, []), (928, .putfield 91, 139, []), (931, .aload_n 0, 0, []), (932, .getfield 28, 98, []), (935, .sipush 975, 0, []), (938, .iconst 1, 0, []), (939, .iastore, 0, []), (940, .aload_n 0, 0, []), (941, .getfield 28, 98, []), (944, .sipush 980, 0, []), (947, .iconst (-1), 0, []), (948, .iastore, 0, []), (949, .aload_n 0, 0, []), (950, .getfield 28, 98, []), (953, .iconst 0, 0, []), (954, .iconst 1, 0, []), (955, .iastore, 0, []), (956, .aload_n 0, 0, []), (957, .getfield 28, 98, []), (960, .sipush 240, 0, []), (963, .iconst 1, 0, []), (964, .iastore, 0, []), (965, .return_, 0, [])]
def M_164 : xM := (9, 0, 2, 1, c_164)
def c_165 : List xR := [(0, .iconst 0, 0, []), (1, .istore_n 2, 0, []), (2, .iload_n 2, 0, []), (3, .sipush 963, 0, []), (6, .if_icmp .ge 27, 0, []), (9, .aload_n 0, 0, []), (10, .getfield 38, 101, []), (13, .sipush 963, 0, []), (16, .iload_n 1, 0, []), (17, .imul, 0, []), (18, .iload_n 2, 0, []), (19, .iadd, 0, []), (20, .aload_n 0, 0, []), (21, .getfield 28, 98, []), (24, .iload_n 2, 0, []), (25, .iaload, 0, []), (26, .iastore, 0, []), (27, .iinc 2 1, 0, []), (30, .goto (-28), 0, []), (33, .return_, 0, [])]
def M_165 : xM := (9, 0, 0, 3, c_165)
def c_166 : List xR := [(0, .iconst 0, 0, []), (1, .istore_n 2, 0, []), (2, .iload_n 2, 0, []), (3, .sipush 963, 0, []), (6, .if_icmp .ge 27, 0, []), (9, .aload_n 0, 0, []), (10, .getfield 28, 98, []), (13, .iload_n 2, 0, []), (14, .aload_n 0, 0, []), (15, .getfield 38, 101, []), (18, .sipush 963, 0, []), (21, .iload_n 1, 0, []), (22, .imul, 0, []), (23, .iload_n 2, 0, []), (24, .iadd, 0, []), (25, .iaload, 0, []), (26, .iastore, 0, []), (27, .iinc 2 1, 0, []), (30, .goto (-28), 0, []), (33, .return_, 0, [])]
def M_166 : xM := (9, 0, 0, 3, c_166)
def c_167 : List xR := [(0, .iload_n 1, 0, []), (1, .iconst 0, 0, []), (2, .iconst 1, 0, []), (3, .invokestatic 18, 222, []), (6, .ifCond .ne 9, 0, []), (9, .aload_n 0, 0, []), (10, .iconst (-1), 0, []), (11, .invokevirtual 94, 223, []), (14, .ireturn, 0, []), (15, .iconst 0, 0, []), (16, .istore_n 2, 0, []), (17, .iload_n 2, 0, []), (18, .sipush 6588, 0, []), (21, .if_icmp .ge 27, 0, []), (24, .aload_n 0, 0, []), (25, .getfield 31, 99, []), (28, .sipush 6588, 0, []), (31, .iload_n 1, 0, []), (32, .imul, 0, []), (33, .iload_n 2, 0, []), (34, .iadd, 0, []), (35, .aload_n 0, 0, []), (36, .getfield 28, 98, []), (39, .iload_n 2, 0, []), (40, .iaload, 0, []), (41, .iastore, 0, []), (42, .iinc 2 1, 0, []), (45, .goto (-28), 0, []), (48, .aload_n 0, 0, []), (49, .getfield 34, 100, []), (52, .iload_n 1, 0, []), (53, .iconst 1, 0, []), (54, .bastore, 2, []), (55, .aload_n 0, 0, []), (56, .iconst 0, 0, []), (57, .invokevirtual 14, 224, []), (60, .ireturn, 0, [])]
def M_167 : xM := (9, 1, 0, 3, c_167)
def c_168 : List xR := [(0, .iload_n 1, 0, []), (1, .iconst 0, 0, []), (2, .iconst 1, 0, []), (3, .invokestatic 18, 222, []), (6, .ifCond .ne 9, 0, []), (9, .aload_n 0, 0, []), (10, .iconst (-1), 0, []), (11, .invokevirtual 94, 223, []), (14, .ireturn, 0, []), (15, .aload_n 0, 0, []), (16, .getfield 34, 100, []), (19, .iload_n 1, 0, []), (20, .baload, 2, []), (21, .ifCond .ne 10, 0, []), (24, .aload_n 0, 0, []), (25, .bipush (-2), 0, []), (27, .invokevirtual 94, 223, []), (30, .ireturn, 0, []), (31, .iconst 0, 0, []), (32, .istore_n 2, 0, []), (33, .iload_n 2, 0, []), (34, .sipush 6588, 0, []), (37, .if_icmp .ge 27, 0, []), (40, .aload_n 0, 0, []), (41, .getfield 28, 98, []), (44, .iload_n 2, 0, []), (45, .aload_n 0, 0, []), (46, .getfield 31, 99, []), (49, .sipush 6588, 0, []), (52, .iload_n 1, 0, []), (53, .imul, 0, []), (54, .iload_n 2, 0, []), (55, .iadd, 0, []), (56, .iaload, 0, []), (57, .iastore, 0, []), (58, .iinc 2 1, 0, []), (61, .goto (-28), 0, []), (64, .aload_n 0, 0, []), (65, .iconst 0, 0, []), (66, .invokevirtual 97, 226, []), (69, .ireturn, 0, [])]
def M_168 : xM := (9, 1, 0, 3, c_168)
def c_169 : List xR := [(0, .bipush 10, 0, []), (2, .iload_n 0, 0, []), (3, .imul, 0, []), (4, .iload_n 1, 0, []), (5, .iadd, 0, []), (6, .ireturn, 0, [])]
def M_169 : xM := (9, 1, 1, 2, c_169)
def c_170 : List xR := [(0, .aload_n 0, 0, []), (1, .getfield 28, 98, []), (4, .iload_n 1, 0, []), (5, .iconst 0, 0, []), (6, .invokestatic 100, 229, []), (9, .iaload, 0, []), (10, .iconst 1, 0, []), (11, .if_icmp .ne 7, 0, []), (14, .iconst 1, 0, []), (15, .goto 4, 0, []), (18, .iconst 0, 0, []), (19, .ireturn, 0, [])]
def M_170 : xM := (9, 2, 0, 2, c_170)
def c_171 : List xR := [(0, .iconst 0, 0, []), (1, .istore_n 1, 0, []), (2, .iconst 0, 0, []), (3, .istore_n 2, 0, []), (4, .iload_n 2, 0, []), (5, .bipush 24, 0, []), (7, .if_icmp .ge 22, 0, []), (10, .iload_n 1, 0, []), (11, .aload_n 0, 0, []), (12, .getfield 28, 98, []), (15, .iload_n 2, 0, []), (16, .iconst 0, 0, []), (17, .invokestatic 100, 229, []), (20, .iaload, 0, []), (21, .iadd, 0, []), (22, .istore_n 1, 0, []), (23, .iinc 2 1, 0, []), (26, .goto (-22), 0, []), (29, .iload_n 1, 0, []), (30, .ireturn, 0, [])]
def M_171 : xM := (9, 1, 0, 3, c_171)
def c_172 : List xR := [(0, .iconst 0, 0, []), (1, .istore_n 1, 0, []), (2, .iconst 0, 0, []), (3, .istore_n 2, 0, []), (4, .iload_n 2, 0, []), (5, .bipush 24, 0, []), (7, .if_icmp .ge 34, 0, []), (10, .iload_n 1, 0, []), (11, .aload_n 0, 0, []), (12, .iload_n 2, 0, []), (13, .invokevirtual 104, 236, []), (16, .ifCond .eq 16, 0, []), (19, .aload_n 0, 0, []), (20, .getfield 28, 98, []), (23, .iload_n 2, 0, []), (24, .iconst 3, 0, []), (25, .invokestatic 100, 229, []), (28, .iaload, 0, []), (29, .goto 4, 0, []), (32, .iconst 0, 0, []), (33, .iadd, 0, []), (34, .istore_n 1, 0, []), (35, .iinc 2 1, 0, []), (38, .goto (-34), 0, []), (41, .iload_n 1, 0, []), (42, .ireturn, 0, [])]
def M_172 : xM := (9, 1, 0, 3, c_172)
def c_173 : List xR := [(0, .iload_n 0, 0, []), (1, .iconst 1, 0, []), (2, .iload_n 1, 0, []), (3, .ishl, 0, []), (4, .iconst 1, 0, []), (5, .isub, 0, []), (6, .iand, 0, []), (7, .ireturn, 0, [])]
def M_173 : xM := (9, 1, 1, 2, c_173)
def c_174 : List xR := [(0, .sipush 421, 0, []), (3, .iload_n 1, 0, []), (4, .imul, 0, []), (5, .aload_n 0, 0, []), (6, .getfield 28, 98, []), (9, .sipush 977, 0, []), (12, .iaload, 0, []), (13, .iadd, 0, []), (14, .sipush 1024, 0, []), (17, .irem, 0, []), (18, .ireturn, 0, [])]
def M_174 : xM := (9, 1, 0, 2, c_174)
def c_175 : List xR := [(0, .iconst 0, 0, []), (1, .istore_n 2, 0, []), (2, .aload_n 0, 0, []), (3, .iload_n 2, 0, []), (4, .invokevirtual 104, 236, []), (7, .ifCond .eq 30, 0, []), (10, .aload_n 0, 0, []), (11, .getfield 28, 98, []), (14, .iload_n 2, 0, []), (15, .iconst 2, 0, []), (16, .invokestatic 100, 229, []), (19, .iaload, 0, []), (20, .iload_n 1, 0, []), (21, .aload_n 0, 0, []), (22, .getfield 28, 98, []), (25, .iload_n 2, 0, []), (26, .iconst 1, 0, []), (27, .invokestatic 100, 229, []), (30, .iaload, 0, []), (31, .invokestatic 108, 237, []), (34, .if_icmp .eq 9, 0, []), (37, .iinc 2 1, 0, []), (40, .goto (-38), 0, []), (43, .iload_n 2, 0, []), (44, .ireturn, 0, [])]
def M_175 : xM := (9, 1, 0, 3, c_175)
def c_176 : List xR := [(0, .aload_n 0, 0, []), (1, .aload_n 0, 0, []), (2, .iload_n 1, 0, []), (3, .invokevirtual 111, 240, []), (6, .invokevirtual 114, 235, []), (9, .ireturn, 0, [])]
def M_176 : xM := (9, 1, 0, 2, c_176)
def c_177 : List xR := [(0, .aload_n 0, 0, []), (1, .iload_n 1, 0, []), (2, .invokevirtual 117, 243, []), (5, .istore_n 2, 0, []), (6, .iconst 0, 0, []), (7, .istore_n 3, 0, []), (8, .iload_n 3, 0, []), (9, .aload_n 0, 0, []), (10, .getfield 28, 98, []), (13, .iload_n 2, 0, []), (14, .iconst 3, 0, []), (15, .invokestatic 100, 229, []), (18, .iaload, 0, []), (19, .if_icmp .ge 27, 0, []), (22, .aload_n 0, 0, []), (23, .getfield 28, 98, []), (26, .iload_n 2, 0, []), (27, .iconst 4, 0, []), (28, .iload_n 3, 0, []), (29, .iadd, 0, []), (30, .invokestatic 100, 229, []), (33, .iaload, 0, []), (34, .iload_n 1, 0, []), (35, .if_icmp .ne 5, 0, []), (38, .iload_n 3, 0, []), (39, .ireturn, 0, []), (40, .iinc 3 1, 0, []), (43, .goto (-35), 0, []), (46, .iconst (-1), 0, []), (47, .ireturn, 0, [])]
def M_177 : xM := (9, 1, 0, 4, c_177)
def c_178 : List xR := [(0, .aload_n 0, 0, []), (1, .iload_n 1, 0, []), (2, .invokevirtual 120, 242, []), (5, .istore_n 2, 0, []), (6, .iload_n 2, 0, []), (7, .iconst (-1), 0, []), (8, .if_icmp .ne 7, 0, []), (11, .iconst (-1), 0, []), (12, .goto 20, 0, []), (15, .aload_n 0, 0, []), (16, .getfield 28, 98, []), (19, .aload_n 0, 0, []), (20, .iload_n 1, 0, []), (21, .invokevirtual 117, 243, []), (24, .bipush 7, 0, []), (26, .iload_n 2, 0, []), (27, .iadd, 0, []), (28, .invokestatic 100, 229, []), (31, .iaload, 0, []), (32, .ireturn, 0, [])]
def M_178 : xM := (9, 1, 0, 3, c_178)
def c_179 : List xR := [(0, .iload_n 2, 0, []), (1, .ifCond .ne 12, 0, []), (4, .aload_n 0, 0, []), (5, .getfield 28, 98, []), (8, .iload_n 1, 0, []), (9, .iconst 0, 0, []), (10, .iadd, 0, []), (11, .iaload, 0, []), (12, .ireturn, 0, []), (13, .aload_n 0, 0, []), (14, .getfield 28, 98, []), (17, .iload_n 1, 0, []), (18, .iconst 0, 0, []), (19, .iadd, 0, []), (20, .iaload, 0, []), (21, .ifCond .eq 13, 0, []), (24, .iload_n 2, 0, []), (25, .iconst 1, 0, []), (26, .bipush 9, 0, []), (28, .invokestatic 18, 222, []), (31, .ifCond .ne 5, 0, []), (34, .iconst (-1), 0, []), (35, .ireturn, 0, []), (36, .iload_n 2, 0, []), (37, .iconst 3, 0, []), (38, .if_icmp .gt 12, 0, []), (41, .aload_n 0, 0, []), (42, .getfield 28, 98, []), (45, .iload_n 1, 0, []), (46, .iload_n 2, 0, []), (47, .iadd, 0, []), (48, .iaload, 0, []), (49, .ireturn, 0, []), (50, .iload_n 2, 0, []), (51, .iconst 4, 0, []), (52, .isub, 0, []), (53, .iconst 3, 0, []), (54, .irem, 0, []), (55, .aload_n 0, 0, []), (56, .getfield 28, 98, []), (59, .iload_n 1, 0, []), (60, .iconst 3, 0, []), (61, .iadd, 0, []), (62, .iaload, 0, []), (63, .if_icmp .ge 14, 0, []), (66, .aload_n 0, 0, []), (67, .getfield 28, 98, []), (70, .iload_n 1, 0, []), (71, .iload_n 2, 0, []), (72, .iadd, 0, []), (73, .iaload, 0, []), (74, .goto 4, 0, []), (77, .iconst (-1), 0, []), (78, .ireturn, 0, [])]
def M_179 : xM := (9, 1, 0, 3, c_179)
def c_180 : List xR := [(0, .iload_n 1, 0, []), (1, .invokestatic 123, 228, []), (4, .ifCond .eq 16, 0, []), (7, .aload_n 0, 0, []), (8, .iload_n 1, 0, []), (9, .iconst 0, 0, []), (10, .invokestatic 100, 229, []), (13, .iload_n 2, 0, []), (14, .invokevirtual 126, 230, []), (17, .goto 4, 0, []), (20, .iconst (-1), 0, []), (21, .ireturn, 0, [])]
def M_180 : xM := (9, 1, 0, 3, c_180)
def c_181 : List xR := [(0, .iload_n 1, 0, []), (1, .invokestatic 123, 228, []), (4, .ifCond .eq 20, 0, []), (7, .aload_n 0, 0, []), (8, .sipush 240, 0, []), (11, .iload_n 1, 0, []), (12, .iconst 0, 0, []), (13, .invokestatic 100, 229, []), (16, .iadd, 0, []), (17, .iload_n 2, 0, []), (18, .invokevirtual 126, 230, []), (21, .goto 4, 0, []), (24, .iconst (-1), 0, []), (25, .ireturn, 0, [])]
def M_181 : xM := (9, 1, 0, 3, c_181)
def c_182 : List xR := [(0, .sipush 480, 0, []), (3, .bipush 12, 0, []), (5, .iload_n 0, 0, []), (6, .imul, 0, []), (7, .iadd, 0, []), (8, .ireturn, 0, [])]
def M_182 : xM := (9, 1, 1, 1, c_182)
def c_183 : List xR := [(0, .iload_n 1, 0, []), (1, .iconst 0, 0, []), (2, .aload_n 0, 0, []), (3, .getfield 28, 98, []), (6, .sipush 960, 0, []), (9, .iaload, 0, []), (10, .iconst 1, 0, []), (11, .isub, 0, []), (12, .invokestatic 18, 222, []), (15, .ifCond .ne 5, 0, []), (18, .iconst (-1), 0, []), (19, .ireturn, 0, []), (20, .iload_n 1, 0, []), (21, .invokestatic 129, 233, []), (24, .istore_n 3, 0, []), (25, .iload_n 2, 0, []), (26, .tableswitch 73 0 2 #[26, 35, 44], 0, []), (52, .aload_n 0, 0, []), (53, .getfield 28, 98, []), (56, .iload_n 3, 0, []), (57, .iconst 0, 0, []), (58, .iadd, 0, []), (59, .iaload, 0, []), (60, .ireturn, 0, []), (61, .aload_n 0, 0, []), (62, .getfield 28, 98, []), (65, .iload_n 3, 0, []), (66, .iconst 1, 0, []), (67, .iadd, 0, []), (68, .iaload, 0, []), (69, .ireturn, 0, []), (70, .aload_n 0, 0, []), (71, .getfield 28, 98, []), (74, .iload_n 3, 0, []), (75, .iconst 2, 0, []), (76, .iadd, 0, []), (77, .iconst 0, 0, []), (78, .iadd, 0, []), (79, .iaload, 0, []), (80, .iconst 1, 0, []), (81, .if_icmp .ne 16, 0, []), (84, .aload_n 0, 0, []), (85, .getfield 28, 98, []), (88, .iload_n 3, 0, []), (89, .iconst 2, 0, []), (90, .iadd, 0, []), (91, .iconst 3, 0, []), (92, .iadd, 0, []), (93, .iaload, 0, []), (94, .goto 4, 0, []), (97, .iconst (-1), 0, []), (98, .ireturn, 0, []), (99, .iconst (-1), 0, []), (100, .ireturn, 0, [])]
def M_183 : xM := (9, 1, 0, 4, c_183)
def c_184 : List xR := [(0, .iload_n 1, 0, []), (1, .iconst 0, 0, []), (2, .iconst 1, 0, []), (3, .aload_n 0, 0, []), (4, .getfield 28, 98, []), (7, .sipush 961, 0, []), (10, .iaload, 0, []), (11, .ishl, 0, []), (12, .iconst 1, 0, []), (13, .isub, 0, []), (14, .invokestatic 18, 222, []), (17, .ifCond .eq 11, 0, []), (20, .aload_n 0, 0, []), (21, .iload_n 1, 0, []), (22, .invokevirtual 114, 235, []), (25, .goto 4, 0, []), (28, .iconst (-1), 0, []), (29, .ireturn, 0, [])]
def M_184 : xM := (9, 1, 0, 2, c_184)
def c_185 : List xR := [(0, .iload_n 1, 0, []), (1, .invokestatic 132, 239, []), (4, .ifCond .ne 5, 0, []), (7, .iconst (-1), 0, []), (8, .ireturn, 0, []), (9, .iload_n 2, 0, []), (10, .tableswitch 62 0 3 #[30, 36, 42, 48], 0, []), (40, .aload_n 0, 0, []), (41, .iload_n 1, 0, []), (42, .invokevirtual 111, 240, []), (45, .ireturn, 0, []), (46, .aload_n 0, 0, []), (47, .iload_n 1, 0, []), (48, .invokevirtual 135, 241, []), (51, .ireturn, 0, []), (52, .aload_n 0, 0, []), (53, .iload_n 1, 0, []), (54, .invokevirtual 117, 243, []), (57, .ireturn, 0, []), (58, .aload_n 0, 0, []), (59, .iload_n 1, 0, []), (60, .invokevirtual 138, 244, []), (63, .ifCond .eq 7, 0, []), (66, .iconst 1, 0, []), (67, .goto 4, 0, []), (70, .iconst 0, 0, []), (71, .ireturn, 0, []), (72, .iconst (-1), 0, []), (73, .ireturn, 0, [])]
def M_185 : xM := (9, 1, 0, 3, c_185)
def c_186 : List xR := [(0, .iload_n 0, 0, []), (1, .tableswitch 65 0 3 #[31, 40, 48, 56], 0, []), (32, .iload_n 1, 0, []), (33, .iconst 0, 0, []), (34, .sipush 999, 0, []), (37, .invokestatic 18, 222, []), (40, .ireturn, 0, []), (41, .iload_n 1, 0, []), (42, .iconst 0, 0, []), (43, .bipush 10, 0, []), (45, .invokestatic 18, 222, []), (48, .ireturn, 0, []), (49, .iload_n 1, 0, []), (50, .iconst 0, 0, []), (51, .bipush 9, 0, []), (53, .invokestatic 18, 222, []), (56, .ireturn, 0, []), (57, .iload_n 1, 0, []), (58, .iconst 0, 0, []), (59, .sipush 999, 0, []), (62, .invokestatic 18, 222, []), (65, .ireturn, 0, []), (66, .iconst 0, 0, []), (67, .ireturn, 0, [])]
def M_186 : xM := (9, 2, 1, 2, c_186)
def c_187 : List xR := [(0, .iload_n 0, 0, []), (1, .tableswitch 39 0 2 #[27, 31, 35], 0, []), (28, .sipush 962, 0, []), (31, .ireturn, 0, []), (32, .sipush 975, 0, []), (35, .ireturn, 0, []), (36, .sipush 976, 0, []), (39, .ireturn, 0, []), (40, .sipush 977, 0, []), (43, .ireturn, 0, [])]
def M_187 : xM := (9, 1, 1, 1, c_187)
def c_188 : List xR := [(0, .iload_n 1, 0, []), (1, .iload_n 2, 0, []), (2, .invokestatic 141, 261, []), (5, .ifCond .ne 9, 0, []), (8, .aload_n 0, 0, []), (9, .iconst (-1), 0, []), (10, .invokevirtual 94, 223, []), (13, .ireturn, 0, []), (14, .iload_n 1, 0, []), (15, .iconst 3, 0, []), (16, .if_icmp .ne 17, 0, []), (19, .aload_n 0, 0, []), (20, .invokevirtual 145, 254, []), (23, .ifCond .le 10, 0, []), (26, .aload_n 0, 0, []), (27, .bipush (-3), 0, []), (29, .invokevirtual 94, 223, []), (32, .ireturn, 0, []), (33, .aload_n 0, 0, [3]), (34, .getfield 28, 98, []), (37, .iload_n 1, 0, []), (38, .invokestatic 149, 262, []), (41, .iaload, 0, []), (42, .istore_n 3, 0, []), (43, .aload_n 0, 0, []), (44, .getfield 28, 98, []), (47, .iload_n 1, 0, []), (48, .invokestatic 149, 262, []), (51, .iload_n 2, 0, []), (52, .iastore, 0, []), (53, .aload_n 0, 0, []), (54, .iload_n 3, 0, []), (55, .invokevirtual 97, 226, []), (58, .ireturn, 0, [])]
def M_188 : xM := (9, 1, 0, 4, c_188)
def c_189 : List xR := [(0, .aload_n 0, 0, []), (1, .getfield 152, 109, []), (4, .istore_n 1, 0, []), (5, .aload_n 0, 0, []), (6, .iconst 0, 0, []), (7, .putfield 152, 109, []), (10, .iload_n 1, 0, []), (11, .ifCond .ne 10, 0, []), (14, .aload_n 0, 0, []), (15, .bipush (-6), 0, []), (17, .invokevirtual 94, 223, []), (20, .ireturn, 0, []), (21, .iconst 0, 0, []), (22, .istore_n 2, 0, []), (23, .aload_n 0, 0, []), (24, .iload_n 1, 0, []), (25, .iconst 2, 0, []), (26, .irem, 0, []), (27, .putfield 155, 102, []), (30, .iconst 0, 0, []), (31, .istore_n 3, 0, []), (32, .iload_n 3, 0, [4]), (33, .iconst 2, 0, []), (34, .iadd, 0, []), (35, .iload_n 1, 0, []), (36, .if_icmp .gt 73, 0, []), (39, .aload_n 0, 0, []), (40, .aload_n 0, 0, []), (41, .getfield 45, 107, []), (44, .iload_n 3, 0, []), (45, .baload, 1, []), (46, .sipush 255, 0, []), (49, .iand, 0, []), (50, .aload_n 0, 0, []), (51, .getfield 45, 107, []), (54, .iload_n 3, 0, []), (55, .iconst 1, 0, []), (56, .iadd, 0, []), (57, .baload, 1, []), (58, .invokevirtual 158, 264, []), (61, .ifCond .lt 7, 0, []), (64, .iconst 1, 0, []), (65, .goto 4, 0, []), (68, .iconst 0, 0, []), (69, .istore 4, 0, []), (71, .iload_n 2, 0, []), (72, .iload 4, 0, []), (74, .ifCond .eq 7, 0, []), (77, .iconst 1, 0, []), (78, .goto 4, 0, []), (81, .iconst 0, 0, []), (82, .iadd, 0, [2]), (83, .istore_n 2, 0, []), (84, .aload_n 0, 0, []), (85, .dup, 0, []), (86, .getfield 155, 102, []), (89, .iload 4, 0, []), (91, .ifCond .eq 7, 0, []), (94, .iconst 0, 0, []), (95, .goto 4, 0, []), (98, .iconst 1, 0, []), (99, .iadd, 0, []), (100, .putfield 155, 102, []), (103, .iinc 3 2, 0, []), (106, .goto (-74), 0, []), (109, .aload_n 0, 0, []), (110, .iload_n 2, 0, []), (111, .invokevirtual 97, 226, []), (114, .ireturn, 0, [])]
def M_189 : xM := (9, 1, 0, 5, c_189)
def c_190 : List xR := [(0, .aload_n 0, 0, []), (1, .getfield 155, 102, []), (4, .ireturn, 0, [])]
def M_190 : xM := (9, 1, 0, 1, c_190)
def c_191 : List xR := [(0, .aload_n 0, 0, []), (1, .getfield 152, 109, []), (4, .bipush 20, 0, []), (6, .iadd, 0, []), (7, .sipush 400, 0, []), (10, .if_icmp .le 5, 0, []), (13, .iconst (-1), 0, []), (14, .ireturn, 0, []), (15, .aload_n 0, 0, []), (16, .getfield 48, 108, []), (19, .iconst 0, 0, []), (20, .iload_n 1, 0, []), (21, .iastore, 0, []), (22, .aload_n 0, 0, []), (23, .getfield 48, 108, []), (26, .iconst 1, 0, []), (27, .iload_n 2, 0, []), (28, .iastore, 0, []), (29, .aload_n 0, 0, []), (30, .getfield 48, 108, []), (33, .iconst 2, 0, []), (34, .iload_n 3, 0, []), (35, .iastore, 0, []), (36, .aload_n 0, 0, []), (37, .getfield 48, 108, []), (40, .iconst 3, 0, []), (41, .iload 4, 0, []), (43, .iastore, 0, []), (44, .aload_n 0, 0, []), (45, .getfield 48, 108, []), (48, .iconst 4, 0, []), (49, .iload 5, 0, []), (51, .iastore, 0, []), (52, .iconst 0, 0, []), (53, .istore 6, 0, []), (55, .iload 6, 0, [1, 2, 3, 4, 5]), (57, .bipush 20, 0, []), (59, .if_icmp .ge 42, 0, []), (62, .aload_n 0, 0, []), (63, .getfield 45, 107, []), (66, .aload_n 0, 0, []), (67, .getfield 152, 109, []), (70, .iload 6, 0, []), (72, .iadd, 0, []), (73, .aload_n 0, 0, []), (74, .getfield 48, 108, []), (77, .iload 6, 0, []), (79, .iconst 4, 0, []), (80, .idiv, 0, []), (81, .iaload, 0, []), (82, .bipush 24, 0, []), (84, .bipush 8, 0, []), (86, .iload 6, 0, []), (88, .iconst 4, 0, []), (89, .irem, 0, []), (90, .imul, 0, []), (91, .isub, 0, []), (92, .ishr, 0, []), (93, .i2b, 0, []), (94, .bastore, 1, []), (95, .iinc 6 1, 0, []), (98, .goto (-43), 0, []), (101, .aload_n 0, 0, []), (102, .dup, 0, []), (103, .getfield 152, 109, []), (106, .bipush 20, 0, []), (108, .iadd, 0, []), (109, .putfield 152, 109, []), (112, .aload_n 0, 0, []), (113, .getfield 152, 109, []), (116, .ireturn, 0, [])]
def M_191 : xM := (9, 1, 0, 7, c_191)
def c_192 : List xR := [(0, .iload_n 1, 0, []), (1, .iconst 0, 0, []), (2, .aload_n 0, 0, []), (3, .getfield 152, 109, []), (6, .invokestatic 18, 222, []), (9, .ifCond .ne 5, 0, []), (12, .iconst (-1), 0, []), (13, .ireturn, 0, []), (14, .aload_n 0, 0, []), (15, .iload_n 1, 0, []), (16, .putfield 152, 109, []), (19, .iload_n 1, 0, []), (20, .ireturn, 0, [])]
def M_192 : xM := (9, 1, 0, 2, c_192)
def c_193 : List xR := [(0, .iload_n 0, 0, []), (1, .bipush 97, 0, []), (3, .if_icmp .lt 13, 0, []), (6, .iload_n 0, 0, []), (7, .bipush 122, 0, []), (9, .if_icmp .gt 7, 0, []), (12, .iconst 1, 0, []), (13, .goto 4, 0, []), (16, .iconst 0, 0, []), (17, .ireturn, 0, [])]
def M_193 : xM := (9, 2, 1, 1, c_193)
def c_194 : List xR := [(0, .iload_n 0, 0, []), (1, .bipush 48, 0, []), (3, .if_icmp .lt 13, 0, []), (6, .iload_n 0, 0, []), (7, .bipush 57, 0, []), (9, .if_icmp .gt 7, 0, []), (12, .iconst 1, 0, []), (13, .goto 4, 0, []), (16, .iconst 0, 0, []), (17, .ireturn, 0, [])]
def M_194 : xM := (9, 2, 1, 1, c_194)
def c_195 : List xR := [(0, .iconst 1, 0, []), (1, .istore_n 3, 0, []), (2, .iconst 0, 0, []), (3, .istore 4, 0, []), (5, .iload 4, 0, [5, 6, 7]), (7, .aload_n 0, 0, []), (8, .getfield 41, 103, []), (11, .arraylength, 0, []), (12, .if_icmp .ge 114, 0, []), (15, .iconst 0, 0, []), (16, .istore 5, 0, []), (18, .aload_n 0, 0, [6, 7]), (19, .getfield 41, 103, []), (22, .iload 4, 0, []), (24, .iload 5, 0, []), (26, .iadd, 0, []), (27, .baload, 1, []), (28, .bipush 32, 0, []), (30, .if_icmp .eq 9, 0, []), (33, .iinc 5 1, 0, []), (36, .goto (-18), 0, []), (39, .iload 5, 0, []), (41, .iload_n 2, 0, []), (42, .iload_n 1, 0, []), (43, .isub, 0, []), (44, .if_icmp .ne 7, 0, []), (47, .iconst 1, 0, []), (48, .goto 4, 0, []), (51, .iconst 0, 0, []), (52, .istore 6, 0, []), (54, .iconst 0, 0, []), (55, .istore 7, 0, []), (57, .iload 7, 0, []), (59, .iload 5, 0, []), (61, .if_icmp .ge 43, 0, []), (64, .iload 6, 0, []), (66, .ifCond .eq 38, 0, []), (69, .aload_n 0, 0, []), (70, .getfield 41, 103, []), (73, .iload 4, 0, []), (75, .iload 7, 0, []), (77, .iadd, 0, []), (78, .baload, 1, []), (79, .aload_n 0, 0, []), (80, .getfield 45, 107, []), (83, .iload_n 1, 0, []), (84, .iload 7, 0, []), (86, .iadd, 0, []), (87, .baload, 1, []), (88, .if_icmp .ne 7, 0, []), (91, .iconst 1, 0, []), (92, .goto 4, 0, []), (95, .iconst 0, 0, []), (96, .istore 6, 0, []), (98, .iinc 7 1, 0, []), (101, .goto (-44), 0, []), (104, .iload 6, 0, [7]), (106, .ifCond .eq 5, 0, []), (109, .iload_n 3, 0, []), (110, .ireturn, 0, []), (111, .iload 4, 0, []), (113, .iload 5, 0, []), (115, .iconst 1, 0, []), (116, .iadd, 0, []), (117, .iadd, 0, []), (118, .istore 4, 0, []), (120, .iinc 3 1, 0, []), (123, .goto (-118), 0, []), (126, .iconst 0, 0, []), (127, .ireturn, 0, [])]
def M_195 : xM := (9, 1, 0, 8, c_195)
def c_196 : List xR := [(0, .aload_n 0, 0, []), (1, .iconst 0, 0, []), (2, .putfield 161, 114, []), (5, .iconst 0, 0, []), (6, .istore_n 2, 0, []), (7, .iload_n 2, 0, [3, 4, 5]), (8, .iload_n 1, 0, []), (9, .if_icmp .ge 254, 0, []), (12, .aload_n 0, 0, []), (13, .getfield 45, 107, []), (16, .iload_n 2, 0, []), (17, .baload, 1, []), (18, .istore_n 3, 0, []), (19, .iload_n 3, 0, []), (20, .bipush 32, 0, []), (22, .if_icmp .ne 9, 0, []), (25, .iinc 2 1, 0, []), (28, .goto (-21), 0, []), (31, .iload_n 2, 0, []), (32, .iconst 1, 0, []), (33, .iadd, 0, []), (34, .istore 4, 0, []), (36, .iload_n 3, 0, []), (37, .invokestatic 164, 285, []), (40, .ifCond .eq 28, 0, []), (43, .iload 4, 0, [5]), (45, .iload_n 1, 0, []), (46, .if_icmp .ge 22, 0, []), (49, .aload_n 0, 0, []), (50, .getfield 45, 107, []), (53, .iload 4, 0, []), (55, .baload, 1, []), (56, .invokestatic 164, 285, []), (59, .ifCond .eq 9, 0, []), (62, .iinc 4 1, 0, []), (65, .goto (-22), 0, []), (68, .iload_n 3, 0, []), (69, .invokestatic 167, 286, []), (72, .ifCond .eq 28, 0, []), (75, .iload 4, 0, [5]), (77, .iload_n 1, 0, []), (78, .if_icmp .ge 22, 0, []), (81, .aload_n 0, 0, []), (82, .getfield 45, 107, []), (85, .iload 4, 0, []), (87, .baload, 1, []), (88, .invokestatic 167, 286, []), (91, .ifCond .eq 9, 0, []), (94, .iinc 4 1, 0, []), (97, .goto (-22), 0, []), (100, .aload_n 0, 0, [5]), (101, .getfield 60, 113, []), (104, .aload_n 0, 0, []), (105, .getfield 161, 114, []), (108, .iload_n 2, 0, []), (109, .iastore, 0, []), (110, .aload_n 0, 0, []), (111, .getfield 57, 112, []), (114, .aload_n 0, 0, []), (115, .getfield 161, 114, []), (118, .iconst 0, 0, []), (119, .iastore, 0, []), (120, .aload_n 0, 0, []), (121, .getfield 54, 111, []), (124, .aload_n 0, 0, []), (125, .getfield 161, 114, []), (128, .iload_n 3, 0, []), (129, .invokestatic 164, 285, []), (132, .ifCond .eq 13, 0, []), (135, .aload_n 0, 0, []), (136, .iload_n 2, 0, []), (137, .iload 4, 0, []), (139, .invokevirtual 170, 287, []), (142, .goto 23, 0, []), (145, .iload_n 3, 0, []), (146, .invokestatic 167, 286, []), (149, .ifCond .eq 8, 0, []), (152, .bipush 50, 0, []), (154, .goto 11, 0, []), (157, .bipush 100, 0, []), (159, .iload_n 3, 0, []), (160, .sipush 255, 0, []), (163, .iand, 0, []), (164, .iadd, 0, []), (165, .iastore, 0, []), (166, .iload_n 2, 0, []), (167, .istore 5, 0, []), (169, .iload 5, 0, [2]), (171, .iload 4, 0, []), (173, .if_icmp .ge 74, 0, []), (176, .iload_n 3, 0, []), (177, .invokestatic 167, 286, []), (180, .ifCond .eq 67, 0, []), (183, .aload_n 0, 0, []), (184, .getfield 57, 112, []), (187, .aload_n 0, 0, []), (188, .getfield 161, 114, []), (191, .aload_n 0, 0, []), (192, .getfield 57, 112, []), (195, .aload_n 0, 0, []), (196, .getfield 161, 114, []), (199, .iaload, 0, []), (200, .ldc 173, 7, []), (202, .if_icmp .le 15, 0, []), (205, .aload_n 0, 0, []), (206, .getfield 57, 112, []), (209, .aload_n 0, 0, []), (210, .getfield 161, 114, []), (213, .iaload, 0, []), (214, .goto 26, 0, []), (217, .bipush 10, 0, []), (219, .aload_n 0, 0, []), (220, .getfield 57, 112, []), (223, .aload_n 0, 0, []), (224, .getfield 161, 114, []), (227, .iaload, 0, []), (228, .imul, 0, []), (229, .aload_n 0, 0, []), (230, .getfield 45, 107, []), (233, .iload 5, 0, []), (235, .baload, 1, []), (236, .iadd, 0, []), (237, .bipush 48, 0, []), (239, .isub, 0, []), (240, .iastore, 0, []), (241, .iinc 5 1, 0, []), (244, .goto (-75), 0, []), (247, .aload_n 0, 0, []), (248, .dup, 0, []), (249, .getfield 161, 114, []), (252, .iconst 1, 0, []), (253, .iadd, 0, []), (254, .putfield 161, 114, []), (257, .iload 4, 0, []), (259, .istore_n 2, 0, []), (260, .goto (-253), 0, []), (263, .aload_n 0, 0, []), (264, .getfield 60, 113, []), (267, .aload_n 0, 0, []), (268, .getfield 161, 114, []), (271, .iload_n 1, 0, []), (272, .iastore, 0, []), (273, .aload_n 0, 0, []), (274, .getfield 54, 111, []), (277, .aload_n 0, 0, []), (278, .getfield 161, 114, []), (281, .iconst 0, 0, []), (282, .iastore, 0, []), (283, .aload_n 0, 0, []), (284, .getfield 57, 112, []), (287, .aload_n 0, 0, []), (288, .getfield 161, 114, []), (291, .iconst 0, 0, []), (292, .iastore, 0, []), (293, .return_, 0, [])]
def M_196 : xM := (9, 0, 0, 6, c_196)
def c_197 : List xR := [(0, .aload_n 0, 0, []), (1, .getfield 174, 117, []), (4, .iconst (-1), 0, []), (5, .if_icmp .ne 7, 0, []), (8, .iconst 1, 0, []), (9, .goto 4, 0, []), (12, .iconst 0, 0, []), (13, .ireturn, 0, [])]
def M_197 : xM := (9, 2, 0, 1, c_197)
def c_198 : List xR := [(0, .aload_n 0, 0, []), (1, .invokevirtual 177, 291, []), (4, .ifCond .eq 16, 0, []), (7, .aload_n 0, 0, []), (8, .aload_n 0, 0, []), (9, .getfield 60, 113, []), (12, .aload_n 0, 0, []), (13, .getfield 181, 115, []), (16, .iaload, 0, []), (17, .putfield 174, 117, []), (20, .return_, 0, [])]
def M_198 : xM := (9, 0, 0, 1, c_198)
def c_199 : List xR := [(0, .aload_n 0, 0, []), (1, .invokevirtual 177, 291, []), (4, .ifCond .eq 20, 0, []), (7, .aload_n 0, 0, []), (8, .getfield 54, 111, []), (11, .aload_n 0, 0, []), (12, .getfield 181, 115, []), (15, .iaload, 0, []), (16, .iload_n 1, 0, []), (17, .if_icmp .ne 7, 0, []), (20, .iconst 1, 0, []), (21, .goto 4, 0, []), (24, .iconst 0, 0, []), (25, .istore_n 2, 0, [1, 2]), (26, .iload_n 2, 0, []), (27, .ifCond .eq 13, 0, []), (30, .aload_n 0, 0, []), (31, .dup, 0, []), (32, .getfield 181, 115, []), (35, .iconst 1, 0, []), (36, .iadd, 0, []), (37, .putfield 181, 115, []), (40, .iload_n 2, 0, []), (41, .ireturn, 0, [])]
def M_199 : xM := (9, 2, 0, 3, c_199)
def c_200 : List xR := [(0, .aload_n 0, 0, []), (1, .iload_n 1, 0, []), (2, .invokevirtual 184, 290, []), (5, .ifCond .ne 7, 0, []), (8, .aload_n 0, 0, []), (9, .invokevirtual 187, 295, []), (12, .return_, 0, [])]
def M_200 : xM := (9, 0, 0, 2, c_200)
def c_201 : List xR := [(0, .aload_n 0, 0, []), (1, .getfield 190, 116, []), (4, .bipush 50, 0, []), (6, .if_icmp .ne 7, 0, []), (9, .aload_n 0, 0, []), (10, .invokevirtual 187, 295, []), (13, .aload_n 0, 0, []), (14, .dup, 0, []), (15, .getfield 190, 116, []), (18, .iconst 1, 0, []), (19, .iadd, 0, []), (20, .putfield 190, 116, []), (23, .aload_n 0, 0, []), (24, .invokevirtual 177, 291, []), (27, .ifCond .eq 13, 0, []), (30, .aload_n 0, 0, []), (31, .dup, 0, []), (32, .getfield 181, 115, []), (35, .iconst 1, 0, []), (36, .iadd, 0, []), (37, .putfield 181, 115, []), (40, .return_, 0, [])]
def M_201 : xM := (9, 0, 0, 1, c_201)
def c_202 : List xR := [(0, .bipush 100, 0, []), (2, .iload_n 0, 0, []), (3, .iadd, 0, []), (4, .ireturn, 0, [])]
def M_202 : xM := (9, 1, 1, 1, c_202)
def c_203 : List xR := [(0, .aload_n 0, 0, []), (1, .invokevirtual 177, 291, []), (4, .ifCond .eq 38, 0, []), (7, .aload_n 0, 0, []), (8, .getfield 54, 111, []), (11, .aload_n 0, 0, []), (12, .getfield 181, 115, []), (15, .iaload, 0, []), (16, .bipush 50, 0, []), (18, .if_icmp .ne 20, 0, []), (21, .aload_n 0, 0, []), (22, .getfield 57, 112, []), (25, .aload_n 0, 0, []), (26, .getfield 181, 115, []), (29, .iaload, 0, []), (30, .iload_n 1, 0, []), (31, .iload_n 2, 0, []), (32, .invokestatic 18, 222, []), (35, .ifCond .ne 7, 0, []), (38, .aload_n 0, 0, []), (39, .invokevirtual 187, 295, []), (42, .aload_n 0, 0, [1, 2]), (43, .invokevirtual 177, 291, []), (46, .ifCond .eq 13, 0, []), (49, .aload_n 0, 0, []), (50, .dup, 0, []), (51, .getfield 181, 115, []), (54, .iconst 1, 0, []), (55, .iadd, 0, []), (56, .putfield 181, 115, []), (59, .return_, 0, [])]
def M_203 : xM := (9, 0, 0, 3, c_203)
def c_204 : List xR := [(0, .aload_n 0, 0, []), (1, .iconst 1, 0, []), (2, .invokevirtual 184, 290, []), (5, .ifCond .eq 11, 0, []), (8, .aload_n 0, 0, []), (9, .iconst 0, 0, []), (10, .invokevirtual 193, 292, []), (13, .goto 8, 0, []), (16, .aload_n 0, 0, []), (17, .iconst 2, 0, []), (18, .invokevirtual 197, 296, []), (21, .aload_n 0, 0, []), (22, .iconst 3, 0, []), (23, .invokevirtual 184, 290, []), (26, .ifCond .eq 8, 0, []), (29, .aload_n 0, 0, []), (30, .iconst 0, 0, []), (31, .invokevirtual 200, 299, []), (34, .return_, 0, [])]
def M_204 : xM := (9, 0, 0, 1, c_204)
def c_205 : List xR := [(0, .aload_n 0, 0, []), (1, .bipush 20, 0, []), (3, .invokevirtual 184, 290, []), (6, .ifCond .eq 17, 0, []), (9, .aload_n 0, 0, []), (10, .iconst 0, 0, []), (11, .invokevirtual 193, 292, []), (14, .aload_n 0, 0, []), (15, .bipush 21, 0, []), (17, .invokevirtual 197, 296, []), (20, .goto 27, 0, []), (23, .aload_n 0, 0, []), (24, .bipush 22, 0, []), (26, .invokevirtual 184, 290, []), (29, .ifCond .ne 18, 0, []), (32, .aload_n 0, 0, []), (33, .bipush 23, 0, []), (35, .invokevirtual 184, 290, []), (38, .ifCond .ne 9, 0, []), (41, .aload_n 0, 0, []), (42, .bipush 24, 0, []), (44, .invokevirtual 197, 296, []), (47, .aload_n 0, 0, []), (48, .iconst 0, 0, []), (49, .invokevirtual 193, 292, []), (52, .aload_n 0, 0, []), (53, .bipush 25, 0, []), (55, .invokevirtual 184, 290, []), (58, .ifCond .eq 10, 0, []), (61, .aload_n 0, 0, []), (62, .iconst 1, 0, []), (63, .bipush 20, 0, []), (65, .invokevirtual 203, 298, []), (68, .aload_n 0, 0, []), (69, .iconst 3, 0, []), (70, .invokevirtual 184, 290, []), (73, .ifCond .eq 8, 0, []), (76, .aload_n 0, 0, []), (77, .iconst 0, 0, []), (78, .invokevirtual 200, 299, []), (81, .return_, 0, [])]
def M_205 : xM := (9, 0, 0, 1, c_205)
def c_206 : List xR := [(0, .aload_n 0, 0, []), (1, .getfield 207, 106, []), (4, .ifCond .eq 10, 0, []), (7, .aload_n 0, 0, []), (8, .invokevirtual 211, 289, []), (11, .goto 7, 0, []), (14, .aload_n 0, 0, []), (15, .invokevirtual 214, 302, []), (18, .return_, 0, [])]
def M_206 : xM := (9, 0, 0, 1, c_206)
def c_207 : List xR := [(0, .aload_n 0, 0, []), (1, .iload_n 1, 0, []), (2, .invokevirtual 217, 300, []), (5, .aload_n 0, 0, []), (6, .iconst 4, 0, []), (7, .invokevirtual 184, 290, []), (10, .ifCond .eq 11, 0, []), (13, .aload_n 0, 0, []), (14, .iload_n 1, 0, []), (15, .invokevirtual 217, 300, []), (18, .goto (-13), 0, []), (21, .return_, 0, [])]
def M_207 : xM := (9, 0, 0, 2, c_207)
def c_208 : List xR := [(0, .aload_n 0, 0, []), (1, .iload_n 1, 0, []), (2, .invokevirtual 220, 301, []), (5, .aload_n 0, 0, []), (6, .iconst 5, 0, []), (7, .invokevirtual 184, 290, []), (10, .ifCond .eq 11, 0, []), (13, .aload_n 0, 0, []), (14, .iload_n 1, 0, []), (15, .invokevirtual 220, 301, []), (18, .goto (-13), 0, []), (21, .return_, 0, [])]
def M_208 : xM := (9, 0, 0, 2, c_208)
def c_209 : List xR := [(0, .iconst 1, 0, []), (1, .istore_n 2, 0, []), (2, .iload_n 2, 0, [3]), (3, .ifCond .eq 13, 0, []), (6, .aload_n 0, 0, []), (7, .bipush 6, 0, []), (9, .invokevirtual 184, 290, []), (12, .istore_n 2, 0, []), (13, .goto (-11), 0, []), (16, .aload_n 0, 0, []), (17, .invokevirtual 177, 291, []), (20, .ifCond .ne 4, 0, []), (23, .return_, 0, []), (24, .aload_n 0, 0, []), (25, .getfield 54, 111, []), (28, .aload_n 0, 0, []), (29, .getfield 181, 115, []), (32, .iaload, 0, []), (33, .istore_n 3, 0, []), (34, .iload_n 3, 0, []), (35, .bipush 40, 0, []), (37, .invokestatic 223, 251, []), (40, .if_icmp .ne 50, 0, []), (43, .iload_n 1, 0, []), (44, .bipush 8, 0, []), (46, .if_icmp .ne 7, 0, []), (49, .aload_n 0, 0, []), (50, .invokevirtual 187, 295, []), (53, .aload_n 0, 0, [2, 3]), (54, .invokevirtual 177, 291, []), (57, .ifCond .ne 4, 0, []), (60, .return_, 0, []), (61, .aload_n 0, 0, []), (62, .dup, 0, []), (63, .getfield 181, 115, []), (66, .iconst 1, 0, []), (67, .iadd, 0, []), (68, .putfield 181, 115, []), (71, .aload_n 0, 0, []), (72, .iload_n 1, 0, []), (73, .iconst 1, 0, []), (74, .iadd, 0, []), (75, .invokevirtual 200, 299, []), (78, .aload_n 0, 0, []), (79, .bipush 41, 0, []), (81, .invokestatic 223, 251, []), (84, .invokevirtual 197, 296, []), (87, .goto 46, 0, []), (90, .aload_n 0, 0, []), (91, .iload_n 1, 0, []), (92, .invokevirtual 193, 292, []), (95, .aload_n 0, 0, []), (96, .bipush 60, 0, []), (98, .invokestatic 223, 251, []), (101, .invokevirtual 184, 290, []), (104, .ifCond .ne 24, 0, []), (107, .aload_n 0, 0, []), (108, .bipush 62, 0, []), (110, .invokestatic 223, 251, []), (113, .invokevirtual 184, 290, []), (116, .ifCond .ne 12, 0, []), (119, .aload_n 0, 0, []), (120, .bipush 61, 0, []), (122, .invokestatic 223, 251, []), (125, .invokevirtual 197, 296, []), (128, .aload_n 0, 0, []), (129, .iload_n 1, 0, []), (130, .invokevirtual 193, 292, []), (133, .return_, 0, [])]
def M_209 : xM := (9, 0, 0, 4, c_209)
def c_210 : List xR := [(0, .aload_n 0, 0, []), (1, .iload_n 1, 0, []), (2, .invokevirtual 227, 293, []), (5, .aload_n 0, 0, []), (6, .bipush 43, 0, []), (8, .invokestatic 223, 251, []), (11, .invokevirtual 184, 290, []), (14, .ifCond .ne 15, 0, []), (17, .aload_n 0, 0, []), (18, .bipush 45, 0, []), (20, .invokestatic 223, 251, []), (23, .invokevirtual 184, 290, []), (26, .ifCond .eq 11, 0, []), (29, .aload_n 0, 0, []), (30, .iload_n 1, 0, []), (31, .invokevirtual 227, 293, []), (34, .goto (-29), 0, []), (37, .return_, 0, [])]
def M_210 : xM := (9, 0, 0, 2, c_210)
def c_211 : List xR := [(0, .aload_n 0, 0, []), (1, .iload_n 1, 0, []), (2, .invokevirtual 230, 294, []), (5, .aload_n 0, 0, []), (6, .bipush 42, 0, []), (8, .invokestatic 223, 251, []), (11, .invokevirtual 184, 290, []), (14, .ifCond .ne 27, 0, []), (17, .aload_n 0, 0, []), (18, .bipush 47, 0, []), (20, .invokestatic 223, 251, []), (23, .invokevirtual 184, 290, []), (26, .ifCond .ne 15, 0, []), (29, .aload_n 0, 0, []), (30, .bipush 37, 0, []), (32, .invokestatic 223, 251, []), (35, .invokevirtual 184, 290, []), (38, .ifCond .eq 11, 0, []), (41, .aload_n 0, 0, []), (42, .iload_n 1, 0, []), (43, .invokevirtual 230, 294, []), (46, .goto (-41), 0, []), (49, .return_, 0, [])]
def M_211 : xM := (9, 0, 0, 2, c_211)
def c_212 : List xR := [(0, .aload_n 0, 0, []), (1, .invokevirtual 177, 291, []), (4, .ifCond .ne 4, 0, []), (7, .return_, 0, []), (8, .aload_n 0, 0, []), (9, .getfield 54, 111, []), (12, .aload_n 0, 0, []), (13, .getfield 181, 115, []), (16, .iaload, 0, []), (17, .istore_n 2, 0, []), (18, .iload_n 2, 0, []), (19, .bipush 91, 0, []), (21, .invokestatic 223, 251, []), (24, .if_icmp .ne 50, 0, []), (27, .iload_n 1, 0, []), (28, .bipush 8, 0, []), (30, .if_icmp .ne 7, 0, []), (33, .aload_n 0, 0, []), (34, .invokevirtual 187, 295, []), (37, .aload_n 0, 0, [2]), (38, .invokevirtual 177, 291, []), (41, .ifCond .ne 4, 0, []), (44, .return_, 0, []), (45, .aload_n 0, 0, []), (46, .dup, 0, []), (47, .getfield 181, 115, []), (50, .iconst 1, 0, []), (51, .iadd, 0, []), (52, .putfield 181, 115, []), (55, .aload_n 0, 0, []), (56, .iload_n 1, 0, []), (57, .iconst 1, 0, []), (58, .iadd, 0, []), (59, .invokevirtual 193, 292, []), (62, .aload_n 0, 0, []), (63, .bipush 93, 0, []), (65, .invokestatic 223, 251, []), (68, .invokevirtual 197, 296, []), (71, .goto 92, 0, []), (74, .iload_n 2, 0, []), (75, .bipush 50, 0, []), (77, .if_icmp .ne 18, 0, []), (80, .aload_n 0, 0, []), (81, .getfield 57, 112, []), (84, .aload_n 0, 0, []), (85, .getfield 181, 115, []), (88, .iaload, 0, []), (89, .sipush 1000, 0, []), (92, .if_icmp .le 19, 0, []), (95, .iload_n 2, 0, [1]), (96, .aload_n 0, 0, []), (97, .getfield 233, 104, []), (100, .if_icmp .lt 59, 0, []), (103, .iload_n 2, 0, []), (104, .aload_n 0, 0, []), (105, .getfield 236, 105, []), (108, .if_icmp .gt 51, 0, []), (111, .aload_n 0, 0, [1]), (112, .invokevirtual 239, 297, []), (115, .aload_n 0, 0, []), (116, .getfield 207, 106, []), (119, .ifCond .eq 16, 0, []), (122, .iload_n 2, 0, []), (123, .bipush 12, 0, []), (125, .if_icmp .ne 10, 0, []), (128, .aload_n 0, 0, []), (129, .iconst 0, 0, []), (130, .bipush 23, 0, []), (132, .invokevirtual 203, 298, []), (135, .aload_n 0, 0, [1]), (136, .getfield 207, 106, []), (139, .ifCond .eq 24, 0, []), (142, .iload_n 2, 0, []), (143, .bipush 19, 0, []), (145, .if_icmp .ne 18, 0, []), (148, .aload_n 0, 0, []), (149, .iconst 0, 0, []), (150, .sipush 999, 0, []), (153, .invokevirtual 203, 298, []), (156, .goto 7, 0, []), (159, .aload_n 0, 0, []), (160, .invokevirtual 187, 295, []), (163, .return_, 0, [])]
def M_212 : xM := (9, 0, 0, 3, c_212)
def c_213 : List xR := [(0, .aload_n 0, 0, []), (1, .aload_n 0, 0, []), (2, .getfield 152, 109, []), (5, .invokevirtual 242, 284, []), (8, .aload_n 0, 0, []), (9, .iconst 0, 0, []), (10, .putfield 152, 109, []), (13, .aload_n 0, 0, []), (14, .iconst 0, 0, []), (15, .putfield 181, 115, []), (18, .aload_n 0, 0, []), (19, .iconst 0, 0, []), (20, .putfield 190, 116, []), (23, .aload_n 0, 0, []), (24, .iconst (-1), 0, []), (25, .putfield 174, 117, []), (28, .aload_n 0, 0, []), (29, .invokevirtual 245, 288, []), (32, .iconst 1, 0, []), (33, .istore_n 1, 0, []), (34, .aload_n 0, 0, []), (35, .bipush 59, 0, []), (37, .invokestatic 223, 251, []), (40, .invokevirtual 184, 290, []), (43, .ifCond .eq 30, 0, []), (46, .iload_n 1, 0, []), (47, .bipush 12, 0, []), (49, .if_icmp .ne 7, 0, []), (52, .aload_n 0, 0, []), (53, .invokevirtual 187, 295, []), (56, .aload_n 0, 0, []), (57, .invokevirtual 177, 291, []), (60, .ifCond .eq 7, 0, []), (63, .aload_n 0, 0, []), (64, .invokevirtual 245, 288, []), (67, .iinc 1 1, 0, []), (70, .goto (-36), 0, []), (73, .aload_n 0, 0, []), (74, .invokevirtual 177, 291, []), (77, .ifCond .eq 18, 0, []), (80, .aload_n 0, 0, []), (81, .getfield 181, 115, []), (84, .aload_n 0, 0, []), (85, .getfield 161, 114, []), (88, .if_icmp .ge 7, 0, []), (91, .aload_n 0, 0, []), (92, .invokevirtual 187, 295, []), (95, .aload_n 0, 0, []), (96, .aload_n 0, 0, []), (97, .getfield 174, 117, []), (100, .putfield 51, 110, []), (103, .aload_n 0, 0, []), (104, .invokevirtual 177, 291, []), (107, .ireturn, 0, [])]
def M_213 : xM := (9, 2, 0, 2, c_213)
def c_214 : List xR := [(0, .aload_n 0, 0, []), (1, .iload_n 1, 0, []), (2, .putfield 207, 106, []), (5, .aload_n 0, 0, []), (6, .iload_n 1, 0, []), (7, .ifCond .eq 8, 0, []), (10, .bipush 12, 0, []), (12, .goto 5, 0, []), (15, .bipush 7, 0, []), (17, .putfield 233, 104, []), (20, .aload_n 0, 0, []), (21, .iload_n 1, 0, []), (22, .ifCond .eq 8, 0, []), (25, .bipush 19, 0, []), (27, .goto 5, 0, []), (30, .bipush 13, 0, []), (32, .putfield 236, 105, []), (35, .aload_n 0, 0, []), (36, .invokevirtual 248, 283, []), (39, .ireturn, 0, [])]
def M_214 : xM := (9, 2, 0, 2, c_214)
def c_215 : List xR := [(0, .aload_n 0, 0, []), (1, .getfield 28, 98, []), (4, .sipush 981, 0, []), (7, .iload_n 1, 0, []), (8, .iadd, 0, []), (9, .aload_n 0, 0, []), (10, .getfield 161, 114, []), (13, .iastore, 0, []), (14, .iconst 0, 0, []), (15, .istore_n 2, 0, []), (16, .iload_n 2, 0, []), (17, .aload_n 0, 0, []), (18, .getfield 161, 114, []), (21, .if_icmp .ge 53, 0, []), (24, .aload_n 0, 0, []), (25, .getfield 28, 98, []), (28, .sipush 988, 0, []), (31, .sipush 400, 0, []), (34, .iload_n 1, 0, []), (35, .imul, 0, []), (36, .iadd, 0, []), (37, .iload_n 2, 0, []), (38, .iadd, 0, []), (39, .aload_n 0, 0, []), (40, .getfield 54, 111, []), (43, .iload_n 2, 0, []), (44, .iaload, 0, []), (45, .iastore, 0, []), (46, .aload_n 0, 0, []), (47, .getfield 28, 98, []), (50, .sipush 3788, 0, []), (53, .sipush 400, 0, []), (56, .iload_n 1, 0, []), (57, .imul, 0, []), (58, .iadd, 0, []), (59, .iload_n 2, 0, []), (60, .iadd, 0, []), (61, .aload_n 0, 0, []), (62, .getfield 57, 112, []), (65, .iload_n 2, 0, []), (66, .iaload, 0, []), (67, .iastore, 0, []), (68, .iinc 2 1, 0, []), (71, .goto (-55), 0, []), (74, .return_, 0, [])]
def M_215 : xM := (9, 0, 0, 3, c_215)
def c_216 : List xR := [(0, .aload_n 0, 0, []), (1, .getfield 28, 98, []), (4, .sipush 979, 0, []), (7, .iaload, 0, []), (8, .bipush 6, 0, []), (10, .if_icmp .ne 15, 0, []), (13, .aload_n 0, 0, []), (14, .iconst 0, 0, []), (15, .putfield 152, 109, []), (18, .aload_n 0, 0, []), (19, .bipush (-5), 0, []), (21, .invokevirtual 94, 223, []), (24, .ireturn, 0, []), (25, .aload_n 0, 0, []), (26, .iconst 0, 0, []), (27, .invokevirtual 251, 282, []), (30, .ifCond .ne 10, 0, []), (33, .aload_n 0, 0, []), (34, .bipush (-6), 0, []), (36, .invokevirtual 94, 223, []), (39, .ireturn, 0, []), (40, .aload_n 0, 0, []), (41, .aload_n 0, 0, []), (42, .getfield 28, 98, []), (45, .sipush 979, 0, []), (48, .iaload, 0, []), (49, .invokevirtual 255, 303, []), (52, .aload_n 0, 0, []), (53, .getfield 28, 98, []), (56, .sipush 979, 0, []), (59, .dup2, 0, []), (60, .iaload, 0, []), (61, .iconst 1, 0, []), (62, .iadd, 0, []), (63, .iastore, 0, []), (64, .aload_n 0, 0, []), (65, .aload_n 0, 0, []), (66, .getfield 28, 98, []), (69, .sipush 979, 0, []), (72, .iaload, 0, []), (73, .iconst 1, 0, []), (74, .isub, 0, []), (75, .invokevirtual 14, 224, []), (78, .ireturn, 0, [])]
def M_216 : xM := (9, 1, 0, 1, c_216)
def c_217 : List xR := [(0, .aload_n 0, 0, []), (1, .getfield 51, 110, []), (4, .ireturn, 0, [])]
def M_217 : xM := (9, 1, 0, 1, c_217)
def c_218 : List xR := [(0, .iload_n 1, 0, []), (1, .iconst (-1), 0, []), (2, .aload_n 0, 0, []), (3, .getfield 28, 98, []), (6, .sipush 979, 0, []), (9, .iaload, 0, []), (10, .iconst 1, 0, []), (11, .isub, 0, []), (12, .invokestatic 18, 222, []), (15, .ireturn, 0, [])]
def M_218 : xM := (9, 2, 0, 2, c_218)
def c_219 : List xR := [(0, .aload_n 0, 0, []), (1, .iload_n 1, 0, []), (2, .invokevirtual 258, 306, []), (5, .ifCond .ne 10, 0, []), (8, .aload_n 0, 0, []), (9, .bipush (-2), 0, []), (11, .invokevirtual 94, 223, []), (14, .ireturn, 0, []), (15, .aload_n 0, 0, []), (16, .getfield 28, 98, []), (19, .sipush 980, 0, []), (22, .iaload, 0, []), (23, .istore_n 2, 0, []), (24, .aload_n 0, 0, []), (25, .getfield 28, 98, []), (28, .sipush 980, 0, []), (31, .iload_n 1, 0, []), (32, .iastore, 0, []), (33, .aload_n 0, 0, []), (34, .iload_n 2, 0, []), (35, .invokevirtual 14, 224, []), (38, .ireturn, 0, [])]
def M_219 : xM := (9, 1, 0, 3, c_219)
def c_220 : List xR := [(0, .iload_n 1, 0, []), (1, .aload_n 0, 0, []), (2, .getfield 261, 119, []), (5, .if_icmp .ge 16, 0, []), (8, .aload_n 0, 0, []), (9, .getfield 28, 98, []), (12, .sipush 988, 0, []), (15, .iload_n 1, 0, []), (16, .iadd, 0, []), (17, .iaload, 0, []), (18, .goto 4, 0, []), (21, .iconst 0, 0, []), (22, .ireturn, 0, [])]
def M_220 : xM := (9, 1, 0, 2, c_220)
def c_221 : List xR := [(0, .aload_n 0, 0, []), (1, .aload_n 0, 0, []), (2, .getfield 264, 118, []), (5, .invokevirtual 267, 247, []), (8, .iload_n 1, 0, []), (9, .if_icmp .ne 7, 0, []), (12, .iconst 1, 0, []), (13, .goto 4, 0, []), (16, .iconst 0, 0, []), (17, .istore_n 2, 0, [1, 2]), (18, .iload_n 2, 0, []), (19, .ifCond .eq 13, 0, []), (22, .aload_n 0, 0, []), (23, .dup, 0, []), (24, .getfield 264, 118, []), (27, .iconst 1, 0, []), (28, .iadd, 0, []), (29, .putfield 264, 118, []), (32, .iload_n 2, 0, []), (33, .ireturn, 0, [])]
def M_221 : xM := (9, 2, 0, 3, c_221)
def c_222 : List xR := [(0, .iload_n 3, 0, []), (1, .ifCond .eq 24, 0, []), (4, .lload_n 1, 0, []), (5, .ldc2_w 270, 9, []), (8, .lcmp, 0, []), (9, .ifCond .gt 11, 0, [3]), (12, .lload_n 1, 0, []), (13, .ldc2_w 272, 10, []), (16, .lcmp, 0, []), (17, .ifCond .ge 8, 0, [3]), (20, .aload_n 0, 0, [3]), (21, .iconst 1, 0, []), (22, .putfield 274, 120, []), (25, .aload_n 0, 0, []), (26, .getfield 274, 120, []), (29, .ifCond .eq 7, 0, []), (32, .lconst 0, 0, []), (33, .goto 4, 0, []), (36, .lload_n 1, 0, []), (37, .lreturn, 0, [])]
def M_222 : xM := (9, 3, 0, 4, c_222)
def c_223 : List xR := [(0, .aload_n 0, 0, []), (1, .iload_n 1, 0, []), (2, .invokevirtual 277, 249, []), (5, .lstore_n 2, 0, []), (6, .aload_n 0, 0, [4, 5, 6]), (7, .aload_n 0, 0, []), (8, .getfield 264, 118, []), (11, .invokevirtual 267, 247, []), (14, .bipush 43, 0, []), (16, .invokestatic 223, 251, []), (19, .if_icmp .eq 19, 0, []), (22, .aload_n 0, 0, []), (23, .aload_n 0, 0, []), (24, .getfield 264, 118, []), (27, .invokevirtual 267, 247, []), (30, .bipush 45, 0, []), (32, .invokestatic 223, 251, []), (35, .if_icmp .ne 68, 0, []), (38, .aload_n 0, 0, []), (39, .aload_n 0, 0, []), (40, .getfield 264, 118, []), (43, .invokevirtual 267, 247, []), (46, .bipush 43, 0, []), (48, .invokestatic 223, 251, []), (51, .if_icmp .ne 7, 0, []), (54, .iconst 1, 0, []), (55, .goto 4, 0, []), (58, .iconst 0, 0, []), (59, .istore 4, 0, [4, 5, 6]), (61, .aload_n 0, 0, []), (62, .dup, 0, []), (63, .getfield 264, 118, []), (66, .iconst 1, 0, []), (67, .iadd, 0, []), (68, .putfield 264, 118, []), (71, .aload_n 0, 0, []), (72, .iload_n 1, 0, []), (73, .invokevirtual 277, 249, []), (76, .lstore 5, 0, []), (78, .aload_n 0, 0, []), (79, .iload 4, 0, []), (81, .ifCond .eq 10, 0, []), (84, .lload_n 2, 0, []), (85, .lload 5, 0, []), (87, .ladd, 0, []), (88, .goto 7, 0, []), (91, .lload_n 2, 0, []), (92, .lload 5, 0, []), (94, .lsub, 0, []), (95, .iload_n 1, 0, []), (96, .invokevirtual 281, 255, []), (99, .lstore_n 2, 0, []), (100, .goto (-94), 0, []), (103, .lload_n 2, 0, []), (104, .lreturn, 0, [])]
def M_223 : xM := (9, 3, 0, 7, c_223)
def c_224 : List xR := [(0, .aload_n 0, 0, []), (1, .iload_n 1, 0, []), (2, .invokevirtual 285, 250, []), (5, .lstore_n 2, 0, []), (6, .aload_n 0, 0, [4, 5, 6]), (7, .aload_n 0, 0, []), (8, .getfield 264, 118, []), (11, .invokevirtual 267, 247, []), (14, .bipush 42, 0, []), (16, .invokestatic 223, 251, []), (19, .if_icmp .eq 35, 0, []), (22, .aload_n 0, 0, []), (23, .aload_n 0, 0, []), (24, .getfield 264, 118, []), (27, .invokevirtual 267, 247, []), (30, .bipush 47, 0, []), (32, .invokestatic 223, 251, []), (35, .if_icmp .eq 19, 0, []), (38, .aload_n 0, 0, []), (39, .aload_n 0, 0, []), (40, .getfield 264, 118, []), (43, .invokevirtual 267, 247, []), (46, .bipush 37, 0, []), (48, .invokestatic 223, 251, []), (51, .if_icmp .ne 117, 0, []), (54, .aload_n 0, 0, [4, 5, 6]), (55, .aload_n 0, 0, []), (56, .getfield 264, 118, []), (59, .invokevirtual 267, 247, []), (62, .istore 4, 0, []), (64, .aload_n 0, 0, []), (65, .dup, 0, []), (66, .getfield 264, 118, []), (69, .iconst 1, 0, []), (70, .iadd, 0, []), (71, .putfield 264, 118, []), (74, .aload_n 0, 0, []), (75, .iload_n 1, 0, []), (76, .invokevirtual 285, 250, []), (79, .lstore 5, 0, []), (81, .iload 4, 0, []), (83, .bipush 42, 0, []), (85, .invokestatic 223, 251, []), (88, .if_icmp .eq 33, 0, []), (91, .lload 5, 0, []), (93, .lconst 0, 0, []), (94, .lcmp, 0, []), (95, .ifCond .ne 26, 0, []), (98, .aload_n 0, 0, []), (99, .aload_n 0, 0, []), (100, .getfield 274, 120, []), (103, .ifCond .ne 7, 0, []), (106, .iload_n 1, 0, []), (107, .ifCond .eq 7, 0, []), (110, .iconst 1, 0, []), (111, .goto 4, 0, []), (114, .iconst 0, 0, []), (115, .putfield 274, 120, []), (118, .lconst 1, 0, []), (119, .lstore 5, 0, []), (121, .aload_n 0, 0, []), (122, .iload 4, 0, []), (124, .bipush 42, 0, []), (126, .invokestatic 223, 251, []), (129, .if_icmp .ne 10, 0, []), (132, .lload_n 2, 0, []), (133, .lload 5, 0, []), (135, .lmul, 0, []), (136, .goto 24, 0, []), (139, .iload 4, 0, []), (141, .bipush 47, 0, []), (143, .invokestatic 223, 251, []), (146, .if_icmp .ne 10, 0, []), (149, .lload_n 2, 0, []), (150, .lload 5, 0, []), (152, .ldiv, 0, []), (153, .goto 7, 0, []), (156, .lload_n 2, 0, []), (157, .lload 5, 0, []), (159, .lrem, 0, []), (160, .iload_n 1, 0, []), (161, .invokevirtual 281, 255, []), (164, .lstore_n 2, 0, []), (165, .goto (-159), 0, []), (168, .lload_n 2, 0, []), (169, .lreturn, 0, [])]
def M_224 : xM := (9, 3, 0, 7, c_224)
def c_225 : List xR := [(0, .aload_n 0, 0, []), (1, .bipush 91, 0, []), (3, .invokestatic 223, 251, []), (6, .invokevirtual 288, 252, []), (9, .ifCond .eq 21, 0, []), (12, .aload_n 0, 0, []), (13, .iload_n 1, 0, []), (14, .invokevirtual 291, 248, []), (17, .lstore_n 2, 0, []), (18, .aload_n 0, 0, []), (19, .dup, 0, []), (20, .getfield 264, 118, []), (23, .iconst 1, 0, []), (24, .iadd, 0, []), (25, .putfield 264, 118, []), (28, .lload_n 2, 0, []), (29, .lreturn, 0, []), (30, .aload_n 0, 0, []), (31, .aload_n 0, 0, []), (32, .getfield 264, 118, []), (35, .invokevirtual 267, 247, []), (38, .istore_n 2, 0, []), (39, .iconst 0, 0, []), (40, .istore_n 3, 0, []), (41, .aload_n 0, 0, []), (42, .dup, 0, []), (43, .getfield 264, 118, []), (46, .iconst 1, 0, []), (47, .iadd, 0, []), (48, .putfield 264, 118, []), (51, .aload_n 0, 0, []), (52, .getfield 294, 121, []), (55, .ifCond .eq 39, 0, []), (58, .iload_n 2, 0, []), (59, .bipush 12, 0, []), (61, .if_icmp .eq 9, 0, []), (64, .iload_n 2, 0, []), (65, .bipush 19, 0, []), (67, .if_icmp .ne 27, 0, []), (70, .aload_n 0, 0, [3]), (71, .getfield 28, 98, []), (74, .sipush 3788, 0, []), (77, .aload_n 0, 0, []), (78, .getfield 264, 118, []), (81, .iadd, 0, []), (82, .iaload, 0, []), (83, .istore_n 3, 0, []), (84, .aload_n 0, 0, []), (85, .dup, 0, []), (86, .getfield 264, 118, []), (89, .iconst 1, 0, []), (90, .iadd, 0, []), (91, .putfield 264, 118, []), (94, .iload_n 1, 0, []), (95, .ifCond .eq 10, 0, []), (98, .aload_n 0, 0, []), (99, .getfield 274, 120, []), (102, .ifCond .eq 5, 0, []), (105, .lconst 0, 0, []), (106, .lreturn, 0, []), (107, .iload_n 2, 0, []), (108, .bipush 50, 0, []), (110, .if_icmp .ne 20, 0, []), (113, .aload_n 0, 0, []), (114, .getfield 28, 98, []), (117, .sipush 3788, 0, []), (120, .aload_n 0, 0, []), (121, .getfield 264, 118, []), (124, .iadd, 0, []), (125, .iconst 1, 0, []), (126, .isub, 0, []), (127, .iaload, 0, []), (128, .i2l, 0, []), (129, .lreturn, 0, []), (130, .aload_n 0, 0, []), (131, .getfield 294, 121, []), (134, .ifCond .eq 13, 0, []), (137, .aload_n 0, 0, []), (138, .iload_n 2, 0, []), (139, .iload_n 3, 0, []), (140, .invokevirtual 297, 253, []), (143, .i2l, 0, []), (144, .goto 13, 0, []), (147, .aload_n 0, 0, []), (148, .getfield 63, 122, []), (151, .iload_n 2, 0, []), (152, .bipush 7, 0, []), (154, .isub, 0, []), (155, .iaload, 0, []), (156, .i2l, 0, []), (157, .lreturn, 0, [])]
def M_225 : xM := (9, 3, 0, 4, c_225)
def c_226 : List xR := [(0, .iload_n 1, 0, []), (1, .tableswitch 108 12 18 #[43, 66, 75, 80, 85, 94, 103], 0, []), (44, .aload_n 0, 0, []), (45, .iload_n 2, 0, []), (46, .invokevirtual 104, 236, []), (49, .ifCond .eq 16, 0, []), (52, .aload_n 0, 0, []), (53, .getfield 28, 98, []), (56, .iload_n 2, 0, []), (57, .iconst 3, 0, []), (58, .invokestatic 100, 229, []), (61, .iaload, 0, []), (62, .goto 4, 0, []), (65, .iconst (-1), 0, []), (66, .ireturn, 0, []), (67, .aload_n 0, 0, []), (68, .getfield 28, 98, []), (71, .sipush 962, 0, []), (74, .iaload, 0, []), (75, .ireturn, 0, []), (76, .aload_n 0, 0, []), (77, .getfield 300, 123, []), (80, .ireturn, 0, []), (81, .aload_n 0, 0, []), (82, .getfield 303, 124, []), (85, .ireturn, 0, []), (86, .aload_n 0, 0, []), (87, .getfield 28, 98, []), (90, .sipush 961, 0, []), (93, .iaload, 0, []), (94, .ireturn, 0, []), (95, .aload_n 0, 0, []), (96, .getfield 28, 98, []), (99, .sipush 960, 0, []), (102, .iaload, 0, []), (103, .ireturn, 0, []), (104, .aload_n 0, 0, []), (105, .invokevirtual 145, 254, []), (108, .ireturn, 0, []), (109, .aload_n 0, 0, []), (110, .iload_n 2, 0, []), (111, .invokevirtual 135, 241, []), (114, .ireturn, 0, [])]
def M_226 : xM := (9, 1, 0, 3, c_226)
def c_227 : List xR := [(0, .aload_n 0, 0, []), (1, .iload_n 1, 0, []), (2, .invokevirtual 306, 257, []), (5, .istore_n 2, 0, []), (6, .aload_n 0, 0, [3]), (7, .iconst 4, 0, []), (8, .invokevirtual 288, 252, []), (11, .ifCond .eq 38, 0, []), (14, .aload_n 0, 0, []), (15, .iload_n 1, 0, []), (16, .ifCond .eq 11, 0, []), (19, .iload_n 2, 0, []), (20, .ifCond .ne 7, 0, []), (23, .iconst 1, 0, []), (24, .goto 4, 0, []), (27, .iconst 0, 0, []), (28, .invokevirtual 306, 257, [3]), (31, .istore_n 3, 0, []), (32, .iload_n 2, 0, []), (33, .ifCond .ne 7, 0, []), (36, .iload_n 3, 0, []), (37, .ifCond .eq 7, 0, []), (40, .iconst 1, 0, []), (41, .goto 4, 0, []), (44, .iconst 0, 0, []), (45, .istore_n 2, 0, []), (46, .goto (-40), 0, []), (49, .iload_n 2, 0, []), (50, .ireturn, 0, [])]
def M_227 : xM := (9, 2, 0, 4, c_227)
def c_228 : List xR := [(0, .aload_n 0, 0, []), (1, .iload_n 1, 0, []), (2, .invokevirtual 309, 258, []), (5, .istore_n 2, 0, []), (6, .aload_n 0, 0, [3]), (7, .iconst 5, 0, []), (8, .invokevirtual 288, 252, []), (11, .ifCond .eq 38, 0, []), (14, .aload_n 0, 0, []), (15, .iload_n 1, 0, []), (16, .ifCond .eq 11, 0, []), (19, .iload_n 2, 0, []), (20, .ifCond .eq 7, 0, []), (23, .iconst 1, 0, []), (24, .goto 4, 0, []), (27, .iconst 0, 0, []), (28, .invokevirtual 309, 258, [3]), (31, .istore_n 3, 0, []), (32, .iload_n 2, 0, []), (33, .ifCond .eq 11, 0, []), (36, .iload_n 3, 0, []), (37, .ifCond .eq 7, 0, []), (40, .iconst 1, 0, []), (41, .goto 4, 0, []), (44, .iconst 0, 0, []), (45, .istore_n 2, 0, []), (46, .goto (-40), 0, []), (49, .iload_n 2, 0, []), (50, .ireturn, 0, [])]
def M_228 : xM := (9, 2, 0, 4, c_228)
def c_229 : List xR := [(0, .iconst 0, 0, []), (1, .istore_n 2, 0, []), (2, .aload_n 0, 0, []), (3, .bipush 6, 0, []), (5, .invokevirtual 288, 252, []), (8, .ifCond .eq 16, 0, []), (11, .iload_n 2, 0, []), (12, .ifCond .ne 7, 0, []), (15, .iconst 1, 0, []), (16, .goto 4, 0, []), (19, .iconst 0, 0, []), (20, .istore_n 2, 0, []), (21, .goto (-19), 0, []), (24, .aload_n 0, 0, []), (25, .iload_n 1, 0, []), (26, .invokevirtual 312, 259, []), (29, .iload_n 2, 0, []), (30, .if_icmp .eq 7, 0, []), (33, .iconst 1, 0, []), (34, .goto 4, 0, []), (37, .iconst 0, 0, []), (38, .ireturn, 0, [])]
def M_229 : xM := (9, 2, 0, 3, c_229)
def c_230 : List xR := [(0, .aload_n 0, 0, []), (1, .bipush 40, 0, []), (3, .invokestatic 223, 251, []), (6, .invokevirtual 288, 252, []), (9, .ifCond .eq 21, 0, []), (12, .aload_n 0, 0, []), (13, .iload_n 1, 0, []), (14, .invokevirtual 315, 256, []), (17, .istore_n 2, 0, []), (18, .aload_n 0, 0, []), (19, .dup, 0, []), (20, .getfield 264, 118, []), (23, .iconst 1, 0, []), (24, .iadd, 0, []), (25, .putfield 264, 118, []), (28, .iload_n 2, 0, []), (29, .ireturn, 0, []), (30, .aload_n 0, 0, []), (31, .iload_n 1, 0, []), (32, .invokevirtual 291, 248, []), (35, .lstore_n 2, 0, []), (36, .aload_n 0, 0, []), (37, .aload_n 0, 0, []), (38, .getfield 264, 118, []), (41, .invokevirtual 267, 247, []), (44, .istore 4, 0, []), (46, .aload_n 0, 0, []), (47, .dup, 0, []), (48, .getfield 264, 118, []), (51, .iconst 1, 0, []), (52, .iadd, 0, []), (53, .putfield 264, 118, []), (56, .aload_n 0, 0, []), (57, .iload_n 1, 0, []), (58, .invokevirtual 291, 248, []), (61, .lstore 5, 0, []), (63, .iload_n 1, 0, []), (64, .ifCond .eq 61, 0, []), (67, .aload_n 0, 0, []), (68, .getfield 274, 120, []), (71, .ifCond .ne 54, 0, []), (74, .iload 4, 0, []), (76, .bipush 60, 0, []), (78, .invokestatic 223, 251, []), (81, .if_icmp .ne 13, 0, []), (84, .lload_n 2, 0, []), (85, .lload 5, 0, []), (87, .lcmp, 0, []), (88, .ifCond .ge 37, 0, []), (91, .goto 30, 0, []), (94, .iload 4, 0, []), (96, .bipush 62, 0, []), (98, .invokestatic 223, 251, []), (101, .if_icmp .ne 13, 0, []), (104, .lload_n 2, 0, []), (105, .lload 5, 0, []), (107, .lcmp, 0, []), (108, .ifCond .le 17, 0, []), (111, .goto 10, 0, []), (114, .lload_n 2, 0, []), (115, .lload 5, 0, []), (117, .lcmp, 0, []), (118, .ifCond .ne 7, 0, []), (121, .iconst 1, 0, []), (122, .goto 4, 0, []), (125, .iconst 0, 0, []), (126, .ireturn, 0, [])]
def M_230 : xM := (9, 2, 0, 7, c_230)
def c_231 : List xR := [(0, .aload_n 0, 0, []), (1, .getfield 63, 122, []), (4, .iconst 0, 0, []), (5, .iload_n 1, 0, []), (6, .iastore, 0, []), (7, .aload_n 0, 0, []), (8, .getfield 63, 122, []), (11, .iconst 1, 0, []), (12, .aload_n 0, 0, []), (13, .iload_n 1, 0, []), (14, .invokevirtual 104, 236, []), (17, .ifCond .eq 16, 0, []), (20, .aload_n 0, 0, []), (21, .getfield 28, 98, []), (24, .iload_n 1, 0, []), (25, .iconst 1, 0, []), (26, .invokestatic 100, 229, []), (29, .iaload, 0, []), (30, .goto 4, 0, []), (33, .iconst (-1), 0, []), (34, .iastore, 0, []), (35, .aload_n 0, 0, []), (36, .getfield 63, 122, []), (39, .iconst 2, 0, []), (40, .iload_n 2, 0, []), (41, .iastore, 0, []), (42, .aload_n 0, 0, []), (43, .getfield 63, 122, []), (46, .iconst 3, 0, []), (47, .iload_n 3, 0, []), (48, .iastore, 0, []), (49, .aload_n 0, 0, []), (50, .getfield 63, 122, []), (53, .iconst 4, 0, []), (54, .aload_n 0, 0, []), (55, .getfield 28, 98, []), (58, .sipush 976, 0, []), (61, .iaload, 0, []), (62, .iastore, 0, []), (63, .aload_n 0, 0, []), (64, .getfield 63, 122, []), (67, .iconst 5, 0, []), (68, .aload_n 0, 0, []), (69, .iload_n 1, 0, []), (70, .invokevirtual 104, 236, []), (73, .ifCond .eq 16, 0, []), (76, .aload_n 0, 0, []), (77, .getfield 28, 98, []), (80, .iload_n 1, 0, []), (81, .iconst 3, 0, []), (82, .invokestatic 100, 229, []), (85, .iaload, 0, []), (86, .goto 4, 0, []), (89, .iconst 0, 0, []), (90, .iastore, 0, []), (91, .aload_n 0, 0, []), (92, .getfield 63, 122, []), (95, .bipush 6, 0, []), (97, .aload_n 0, 0, []), (98, .getfield 28, 98, []), (101, .sipush 962, 0, []), (104, .iaload, 0, []), (105, .iastore, 0, []), (106, .return_, 0, [])]
def M_231 : xM := (9, 0, 0, 4, c_231)
def c_232 : List xR := [(0, .aload_n 0, 0, []), (1, .getfield 28, 98, []), (4, .sipush 980, 0, []), (7, .iaload, 0, []), (8, .iconst (-1), 0, []), (9, .if_icmp .ne 5, 0, []), (12, .iload_n 2, 0, []), (13, .ireturn, 0, []), (14, .aload_n 0, 0, []), (15, .iconst 0, 0, []), (16, .putfield 294, 121, []), (19, .iload_n 2, 0, []), (20, .i2l, 0, []), (21, .lstore_n 3, 0, []), (22, .aload_n 0, 0, []), (23, .sipush 400, 0, []), (26, .aload_n 0, 0, []), (27, .getfield 28, 98, []), (30, .sipush 980, 0, []), (33, .iaload, 0, []), (34, .imul, 0, []), (35, .putfield 264, 118, []), (38, .aload_n 0, 0, []), (39, .aload_n 0, 0, []), (40, .getfield 264, 118, []), (43, .aload_n 0, 0, []), (44, .getfield 28, 98, []), (47, .sipush 981, 0, []), (50, .aload_n 0, 0, []), (51, .getfield 28, 98, []), (54, .sipush 980, 0, []), (57, .iaload, 0, []), (58, .iadd, 0, []), (59, .iaload, 0, []), (60, .iadd, 0, []), (61, .putfield 261, 119, []), (64, .aload_n 0, 0, [2, 5, 6, 7, 8, 9]), (65, .getfield 264, 118, []), (68, .aload_n 0, 0, []), (69, .getfield 261, 119, []), (72, .if_icmp .ge 144, 0, []), (75, .aload_n 0, 0, []), (76, .aload_n 0, 0, []), (77, .getfield 264, 118, []), (80, .invokevirtual 267, 247, []), (83, .istore 5, 0, []), (85, .aload_n 0, 0, []), (86, .iconst 0, 0, []), (87, .putfield 274, 120, []), (90, .aload_n 0, 0, []), (91, .dup, 0, []), (92, .getfield 264, 118, []), (95, .iconst 1, 0, []), (96, .iadd, 0, []), (97, .putfield 264, 118, []), (100, .iload 5, 0, []), (102, .iconst 2, 0, []), (103, .if_icmp .ne 7, 0, []), (106, .lconst 1, 0, []), (107, .goto 8, 0, []), (110, .aload_n 0, 0, []), (111, .iconst 1, 0, []), (112, .invokevirtual 291, 248, []), (115, .lstore 6, 0, [2, 6, 7, 8, 9]), (117, .aload_n 0, 0, []), (118, .getfield 274, 120, []), (121, .istore 8, 0, []), (123, .aload_n 0, 0, []), (124, .iconst 0, 0, []), (125, .putfield 274, 120, []), (128, .aload_n 0, 0, []), (129, .iconst 3, 0, []), (130, .invokevirtual 288, 252, []), (133, .ifCond .eq 11, 0, []), (136, .aload_n 0, 0, []), (137, .iconst 1, 0, []), (138, .invokevirtual 315, 256, []), (141, .ifCond .eq 7, 0, []), (144, .iconst 1, 0, []), (145, .goto 4, 0, []), (148, .iconst 0, 0, []), (149, .istore 9, 0, [2, 9]), (151, .iload 5, 0, []), (153, .iload_n 1, 0, []), (154, .if_icmp .ne 49, 0, []), (157, .iload 9, 0, []), (159, .ifCond .eq 44, 0, []), (162, .aload_n 0, 0, []), (163, .getfield 274, 120, []), (166, .ifCond .ne 37, 0, []), (169, .iload 8, 0, []), (171, .ifCond .ne 32, 0, []), (174, .lload 6, 0, []), (176, .lconst 0, 0, []), (177, .lcmp, 0, []), (178, .ifCond .ge 7, 0, []), (181, .lconst 0, 0, []), (182, .goto 20, 0, []), (185, .lload 6, 0, []), (187, .ldc2_w 318, 11, []), (190, .lcmp, 0, []), (191, .ifCond .le 9, 0, []), (194, .ldc2_w 318, 11, []), (197, .goto 5, 0, []), (200, .lload 6, 0, []), (202, .lstore_n 3, 0, []), (203, .aload_n 0, 0, []), (204, .dup, 0, []), (205, .getfield 264, 118, []), (208, .iconst 1, 0, []), (209, .iadd, 0, []), (210, .putfield 264, 118, []), (213, .goto (-149), 0, []), (216, .lload_n 3, 0, []), (217, .l2i, 0, []), (218, .ireturn, 0, [])]
def M_232 : xM := (9, 1, 0, 10, c_232)
def c_233 : List xR := [(0, .aload_n 0, 0, []), (1, .iload_n 1, 0, []), (2, .iconst (-1), 0, []), (3, .iconst (-1), 0, []), (4, .invokevirtual 320, 245, []), (7, .aload_n 0, 0, []), (8, .iconst 1, 0, []), (9, .iconst 1, 0, []), (10, .invokevirtual 324, 246, []), (13, .ireturn, 0, [])]
def M_233 : xM := (9, 1, 0, 2, c_233)
def c_234 : List xR := [(0, .aload_n 0, 0, []), (1, .aload_n 0, 0, []), (2, .iload_n 1, 0, []), (3, .invokevirtual 117, 243, []), (6, .iload_n 1, 0, []), (7, .aload_n 0, 0, []), (8, .iload_n 1, 0, []), (9, .invokevirtual 111, 240, []), (12, .invokevirtual 320, 245, []), (15, .aload_n 0, 0, []), (16, .iconst 2, 0, []), (17, .iconst 0, 0, []), (18, .invokevirtual 324, 246, []), (21, .iconst 1, 0, []), (22, .if_icmp .ne 7, 0, []), (25, .iconst 1, 0, []), (26, .goto 4, 0, []), (29, .iconst 0, 0, []), (30, .ireturn, 0, [])]
def M_234 : xM := (9, 2, 0, 2, c_234)
def c_235 : List xR := [(0, .iconst 0, 0, []), (1, .istore_n 3, 0, []), (2, .iload_n 3, 0, []), (3, .bipush 10, 0, []), (5, .if_icmp .ge 25, 0, []), (8, .aload_n 0, 0, []), (9, .getfield 28, 98, []), (12, .iload_n 2, 0, []), (13, .iload_n 3, 0, []), (14, .iadd, 0, []), (15, .aload_n 0, 0, []), (16, .getfield 28, 98, []), (19, .iload_n 1, 0, []), (20, .iload_n 3, 0, []), (21, .iadd, 0, []), (22, .iaload, 0, []), (23, .iastore, 0, []), (24, .iinc 3 1, 0, []), (27, .goto (-25), 0, []), (30, .return_, 0, [])]
def M_235 : xM := (9, 0, 0, 4, c_235)
def c_236 : List xR := [(0, .aload_n 0, 0, []), (1, .sipush 482, 0, []), (4, .sipush 240, 0, []), (7, .aload_n 0, 0, []), (8, .getfield 28, 98, []), (11, .sipush 480, 0, []), (14, .iaload, 0, []), (15, .iconst 0, 0, []), (16, .invokestatic 100, 229, []), (19, .iadd, 0, []), (20, .invokevirtual 327, 267, []), (23, .aload_n 0, 0, []), (24, .getfield 28, 98, []), (27, .sipush 960, 0, []), (30, .dup2, 0, []), (31, .iaload, 0, []), (32, .iconst 1, 0, []), (33, .isub, 0, []), (34, .iastore, 0, []), (35, .iconst 0, 0, []), (36, .istore_n 1, 0, []), (37, .iload_n 1, 0, []), (38, .bipush 12, 0, []), (40, .aload_n 0, 0, []), (41, .getfield 28, 98, []), (44, .sipush 960, 0, []), (47, .iaload, 0, []), (48, .imul, 0, []), (49, .if_icmp .ge 29, 0, []), (52, .aload_n 0, 0, []), (53, .getfield 28, 98, []), (56, .sipush 480, 0, []), (59, .iload_n 1, 0, []), (60, .iadd, 0, []), (61, .aload_n 0, 0, []), (62, .getfield 28, 98, []), (65, .sipush 492, 0, []), (68, .iload_n 1, 0, []), (69, .iadd, 0, []), (70, .iaload, 0, []), (71, .iastore, 0, []), (72, .iinc 1 1, 0, []), (75, .goto (-38), 0, []), (78, .return_, 0, [])]
def M_236 : xM := (9, 0, 0, 2, c_236)
def c_237 : List xR := [(0, .aload_n 0, 0, []), (1, .getfield 28, 98, []), (4, .sipush 960, 0, []), (7, .iaload, 0, []), (8, .bipush 40, 0, []), (10, .if_icmp .ne 7, 0, []), (13, .aload_n 0, 0, []), (14, .invokevirtual 330, 266, []), (17, .aload_n 0, 0, [2]), (18, .getfield 28, 98, []), (21, .sipush 960, 0, []), (24, .iaload, 0, []), (25, .invokestatic 129, 233, []), (28, .istore_n 2, 0, []), (29, .aload_n 0, 0, []), (30, .getfield 28, 98, []), (33, .iload_n 2, 0, []), (34, .iconst 0, 0, []), (35, .iadd, 0, []), (36, .iload_n 1, 0, []), (37, .iastore, 0, []), (38, .aload_n 0, 0, []), (39, .getfield 28, 98, []), (42, .iload_n 2, 0, []), (43, .iconst 1, 0, []), (44, .iadd, 0, []), (45, .aload_n 0, 0, []), (46, .iload_n 1, 0, []), (47, .invokevirtual 333, 268, []), (50, .iastore, 0, []), (51, .aload_n 0, 0, []), (52, .iload_n 1, 0, []), (53, .iconst 0, 0, []), (54, .invokestatic 100, 229, []), (57, .iload_n 2, 0, []), (58, .iconst 2, 0, []), (59, .iadd, 0, []), (60, .invokevirtual 327, 267, []), (63, .aload_n 0, 0, []), (64, .getfield 28, 98, []), (67, .sipush 960, 0, []), (70, .dup2, 0, []), (71, .iaload, 0, []), (72, .iconst 1, 0, []), (73, .iadd, 0, []), (74, .iastore, 0, []), (75, .aload_n 0, 0, []), (76, .getfield 28, 98, []), (79, .sipush 962, 0, []), (82, .sipush 999, 0, []), (85, .aload_n 0, 0, []), (86, .getfield 28, 98, []), (89, .sipush 962, 0, []), (92, .iaload, 0, []), (93, .iconst 1, 0, []), (94, .iadd, 0, []), (95, .invokestatic 336, 269, [0, 1, 2]), (98, .iastore, 0, []), (99, .return_, 0, [])]
def M_237 : xM := (9, 0, 0, 3, c_237)
def c_238 : List xR := [(0, .aload_n 0, 0, []), (1, .getfield 28, 98, []), (4, .iload_n 1, 0, []), (5, .iconst 3, 0, []), (6, .invokestatic 100, 229, []), (9, .iaload, 0, []), (10, .istore 4, 0, []), (12, .aload_n 0, 0, []), (13, .getfield 28, 98, []), (16, .iload_n 1, 0, []), (17, .iconst 4, 0, []), (18, .iload 4, 0, []), (20, .iadd, 0, []), (21, .invokestatic 100, 229, []), (24, .iload_n 2, 0, []), (25, .iastore, 0, []), (26, .aload_n 0, 0, []), (27, .getfield 28, 98, []), (30, .iload_n 1, 0, []), (31, .bipush 7, 0, []), (33, .iload 4, 0, []), (35, .iadd, 0, []), (36, .invokestatic 100, 229, []), (39, .iload_n 3, 0, []), (40, .iastore, 0, []), (41, .aload_n 0, 0, []), (42, .getfield 28, 98, []), (45, .iload_n 1, 0, []), (46, .iconst 3, 0, []), (47, .invokestatic 100, 229, []), (50, .iload 4, 0, []), (52, .iconst 1, 0, []), (53, .iadd, 0, []), (54, .iastore, 0, []), (55, .return_, 0, [])]
def M_238 : xM := (9, 0, 0, 5, c_238)
def c_239 : List xR := [(0, .aload_n 0, 0, []), (1, .getfield 28, 98, []), (4, .iload_n 1, 0, []), (5, .iconst 3, 0, []), (6, .invokestatic 100, 229, []), (9, .iaload, 0, []), (10, .iconst 1, 0, []), (11, .isub, 0, []), (12, .istore_n 3, 0, []), (13, .iload_n 2, 0, []), (14, .istore 4, 0, []), (16, .iload 4, 0, [2]), (18, .iload_n 3, 0, []), (19, .if_icmp .ge 67, 0, []), (22, .aload_n 0, 0, []), (23, .getfield 28, 98, []), (26, .iload_n 1, 0, []), (27, .iconst 4, 0, []), (28, .iload 4, 0, []), (30, .iadd, 0, []), (31, .invokestatic 100, 229, []), (34, .aload_n 0, 0, []), (35, .getfield 28, 98, []), (38, .iload_n 1, 0, []), (39, .iconst 4, 0, []), (40, .iload 4, 0, []), (42, .iadd, 0, []), (43, .iconst 1, 0, []), (44, .iadd, 0, []), (45, .invokestatic 100, 229, []), (48, .iaload, 0, []), (49, .iastore, 0, []), (50, .aload_n 0, 0, []), (51, .getfield 28, 98, []), (54, .iload_n 1, 0, []), (55, .bipush 7, 0, []), (57, .iload 4, 0, []), (59, .iadd, 0, []), (60, .invokestatic 100, 229, []), (63, .aload_n 0, 0, []), (64, .getfield 28, 98, []), (67, .iload_n 1, 0, []), (68, .bipush 7, 0, []), (70, .iload 4, 0, []), (72, .iadd, 0, []), (73, .iconst 1, 0, []), (74, .iadd, 0, []), (75, .invokestatic 100, 229, []), (78, .iaload, 0, []), (79, .iastore, 0, []), (80, .iinc 4 1, 0, []), (83, .goto (-67), 0, []), (86, .aload_n 0, 0, []), (87, .getfield 28, 98, []), (90, .iload_n 1, 0, []), (91, .iconst 3, 0, []), (92, .invokestatic 100, 229, []), (95, .iload_n 3, 0, []), (96, .iastore, 0, []), (97, .return_, 0, [])]
def M_239 : xM := (9, 0, 0, 5, c_239)
def c_240 : List xR := [(0, .iconst 0, 0, []), (1, .istore_n 1, 0, []), (2, .iload_n 1, 0, []), (3, .bipush 24, 0, []), (5, .if_icmp .ge 17, 0, []), (8, .aload_n 0, 0, []), (9, .iload_n 1, 0, []), (10, .invokevirtual 104, 236, []), (13, .ifCond .eq 9, 0, []), (16, .iinc 1 1, 0, []), (19, .goto (-17), 0, []), (22, .iload_n 1, 0, []), (23, .bipush 24, 0, []), (25, .if_icmp .ne 7, 0, []), (28, .iconst (-1), 0, []), (29, .goto 4, 0, []), (32, .iload_n 1, 0, []), (33, .ireturn, 0, [])]
def M_240 : xM := (9, 1, 0, 2, c_240)
def c_241 : List xR := [(0, .aload_n 0, 0, []), (1, .getfield 28, 98, []), (4, .iload_n 1, 0, []), (5, .iconst 1, 0, []), (6, .invokestatic 100, 229, []), (9, .iaload, 0, []), (10, .istore_n 2, 0, []), (11, .aload_n 0, 0, []), (12, .invokevirtual 339, 273, []), (15, .istore_n 3, 0, []), (16, .iload_n 2, 0, []), (17, .bipush 6, 0, []), (19, .if_icmp .eq 8, 0, []), (22, .iload_n 3, 0, []), (23, .iconst (-1), 0, []), (24, .if_icmp .ne 5, 0, []), (27, .iconst 0, 0, []), (28, .ireturn, 0, []), (29, .iload_n 2, 0, []), (30, .aload_n 0, 0, []), (31, .getfield 28, 98, []), (34, .sipush 961, 0, []), (37, .iaload, 0, []), (38, .if_icmp .ne 15, 0, []), (41, .aload_n 0, 0, []), (42, .getfield 28, 98, []), (45, .sipush 961, 0, []), (48, .dup2, 0, []), (49, .iaload, 0, []), (50, .iconst 1, 0, []), (51, .iadd, 0, []), (52, .iastore, 0, []), (53, .aload_n 0, 0, [4, 5]), (54, .getfield 28, 98, []), (57, .iload_n 3, 0, []), (58, .iconst 0, 0, []), (59, .invokestatic 100, 229, []), (62, .iconst 1, 0, []), (63, .iastore, 0, []), (64, .aload_n 0, 0, []), (65, .getfield 28, 98, []), (68, .iload_n 3, 0, []), (69, .iconst 1, 0, []), (70, .invokestatic 100, 229, []), (73, .iload_n 2, 0, []), (74, .iconst 1, 0, []), (75, .iadd, 0, []), (76, .iastore, 0, []), (77, .aload_n 0, 0, []), (78, .getfield 28, 98, []), (81, .iload_n 3, 0, []), (82, .iconst 2, 0, []), (83, .invokestatic 100, 229, []), (86, .aload_n 0, 0, []), (87, .getfield 28, 98, []), (90, .iload_n 1, 0, []), (91, .iconst 2, 0, []), (92, .invokestatic 100, 229, []), (95, .iaload, 0, []), (96, .iconst 1, 0, []), (97, .iload_n 2, 0, []), (98, .ishl, 0, []), (99, .iadd, 0, []), (100, .iastore, 0, []), (101, .aload_n 0, 0, []), (102, .getfield 28, 98, []), (105, .iload_n 3, 0, []), (106, .iconst 3, 0, []), (107, .invokestatic 100, 229, []), (110, .iconst 0, 0, []), (111, .iastore, 0, []), (112, .aload_n 0, 0, []), (113, .getfield 28, 98, []), (116, .iload_n 1, 0, []), (117, .iconst 1, 0, []), (118, .invokestatic 100, 229, []), (121, .iload_n 2, 0, []), (122, .iconst 1, 0, []), (123, .iadd, 0, []), (124, .iastore, 0, []), (125, .iconst 0, 0, [4, 5]), (126, .istore 4, 0, []), (128, .iload 4, 0, [5]), (130, .aload_n 0, 0, []), (131, .getfield 28, 98, []), (134, .iload_n 1, 0, []), (135, .iconst 3, 0, []), (136, .invokestatic 100, 229, []), (139, .iaload, 0, []), (140, .if_icmp .ge 68, 0, []), (143, .aload_n 0, 0, []), (144, .getfield 28, 98, []), (147, .iload_n 1, 0, []), (148, .iconst 4, 0, []), (149, .iload 4, 0, []), (151, .iadd, 0, []), (152, .invokestatic 100, 229, []), (155, .iaload, 0, []), (156, .istore 5, 0, []), (158, .aload_n 0, 0, []), (159, .iload 5, 0, []), (161, .invokevirtual 111, 240, []), (164, .iload_n 2, 0, []), (165, .invokestatic 342, 274, []), (168, .ifCond .ne 9, 0, []), (171, .iinc 4 1, 0, []), (174, .goto (-46), 0, []), (177, .aload_n 0, 0, []), (178, .iload_n 3, 0, []), (179, .iload 5, 0, []), (181, .aload_n 0, 0, []), (182, .getfield 28, 98, []), (185, .iload_n 1, 0, []), (186, .bipush 7, 0, []), (188, .iload 4, 0, []), (190, .iadd, 0, []), (191, .invokestatic 100, 229, []), (194, .iaload, 0, []), (195, .invokevirtual 345, 275, []), (198, .aload_n 0, 0, []), (199, .iload_n 1, 0, []), (200, .iload 4, 0, []), (202, .invokevirtual 348, 276, []), (205, .goto (-77), 0, []), (208, .aload_n 0, 0, []), (209, .iload_n 3, 0, []), (210, .invokevirtual 351, 265, []), (213, .aload_n 0, 0, []), (214, .iload_n 1, 0, []), (215, .invokevirtual 351, 265, []), (218, .iconst 1, 0, []), (219, .ireturn, 0, [])]
def M_241 : xM := (9, 2, 0, 6, c_241)
def c_242 : List xR := [(0, .iconst 0, 0, []), (1, .istore_n 3, 0, []), (2, .aload_n 0, 0, []), (3, .getfield 28, 98, []), (6, .aload_n 0, 0, []), (7, .iload_n 1, 0, []), (8, .invokevirtual 117, 243, []), (11, .iconst 3, 0, []), (12, .invokestatic 100, 229, []), (15, .iaload, 0, []), (16, .iconst 3, 0, []), (17, .if_icmp .ne 23, 0, []), (20, .aload_n 0, 0, []), (21, .aload_n 0, 0, []), (22, .iload_n 1, 0, []), (23, .invokevirtual 117, 243, []), (26, .invokevirtual 354, 272, []), (29, .ifCond .ne 5, 0, []), (32, .iconst (-1), 0, []), (33, .ireturn, 0, []), (34, .iinc 3 1, 0, []), (37, .goto (-35), 0, []), (40, .aload_n 0, 0, []), (41, .aload_n 0, 0, []), (42, .iload_n 1, 0, []), (43, .invokevirtual 117, 243, []), (46, .iload_n 1, 0, []), (47, .iload_n 2, 0, []), (48, .invokevirtual 345, 275, []), (51, .aload_n 0, 0, []), (52, .aload_n 0, 0, []), (53, .iload_n 1, 0, []), (54, .invokevirtual 117, 243, []), (57, .invokevirtual 351, 265, []), (60, .iload_n 3, 0, []), (61, .ireturn, 0, [])]
def M_242 : xM := (9, 1, 0, 4, c_242)
def c_243 : List xR := [(0, .iload_n 1, 0, []), (1, .invokestatic 132, 239, []), (4, .ifCond .eq 13, 0, []), (7, .iload_n 2, 0, []), (8, .iconst 0, 0, []), (9, .bipush 99, 0, []), (11, .invokestatic 18, 222, []), (14, .ifCond .ne 5, 0, []), (17, .iconst (-1), 0, []), (18, .ireturn, 0, []), (19, .aload_n 0, 0, []), (20, .iload_n 1, 0, []), (21, .invokevirtual 120, 242, []), (24, .istore_n 3, 0, []), (25, .iload_n 3, 0, []), (26, .iconst (-1), 0, []), (27, .if_icmp .eq 32, 0, []), (30, .aload_n 0, 0, []), (31, .getfield 28, 98, []), (34, .aload_n 0, 0, []), (35, .iload_n 1, 0, []), (36, .invokevirtual 117, 243, []), (39, .bipush 7, 0, []), (41, .iload_n 3, 0, []), (42, .iadd, 0, []), (43, .invokestatic 100, 229, []), (46, .iload_n 2, 0, []), (47, .iastore, 0, []), (48, .aload_n 0, 0, []), (49, .aload_n 0, 0, []), (50, .iload_n 1, 0, []), (51, .invokevirtual 117, 243, []), (54, .invokevirtual 351, 265, []), (57, .iconst 0, 0, []), (58, .ireturn, 0, []), (59, .aload_n 0, 0, []), (60, .iload_n 1, 0, []), (61, .invokevirtual 138, 244, []), (64, .ifCond .eq 6, 0, []), (67, .bipush (-3), 0, []), (69, .ireturn, 0, []), (70, .aload_n 0, 0, []), (71, .iconst 2, 0, []), (72, .invokevirtual 357, 270, []), (75, .aload_n 0, 0, []), (76, .iload_n 1, 0, []), (77, .iload_n 2, 0, []), (78, .invokevirtual 360, 271, []), (81, .istore 4, 0, []), (83, .iload 4, 0, []), (85, .iconst (-1), 0, []), (86, .if_icmp .eq 6, 0, []), (89, .iload 4, 0, []), (91, .ireturn, 0, []), (92, .aload_n 0, 0, []), (93, .iconst 2, 0, []), (94, .invokevirtual 363, 277, []), (97, .bipush (-5), 0, []), (99, .ireturn, 0, [])]
def M_243 : xM := (9, 1, 0, 5, c_243)
def c_244 : List xR := [(0, .aload_n 0, 0, []), (1, .getfield 28, 98, []), (4, .iload_n 1, 0, []), (5, .iconst 1, 0, []), (6, .invokestatic 100, 229, []), (9, .iaload, 0, []), (10, .istore_n 2, 0, []), (11, .iconst 0, 0, []), (12, .istore_n 3, 0, []), (13, .iload_n 3, 0, []), (14, .bipush 24, 0, []), (16, .if_icmp .ge 66, 0, []), (19, .iload_n 2, 0, []), (20, .ifCond .le 62, 0, []), (23, .aload_n 0, 0, []), (24, .iload_n 3, 0, []), (25, .invokevirtual 104, 236, []), (28, .ifCond .eq 48, 0, []), (31, .aload_n 0, 0, []), (32, .getfield 28, 98, []), (35, .iload_n 3, 0, []), (36, .iconst 1, 0, []), (37, .invokestatic 100, 229, []), (40, .iaload, 0, []), (41, .iload_n 2, 0, []), (42, .if_icmp .ne 34, 0, []), (45, .aload_n 0, 0, []), (46, .getfield 28, 98, []), (49, .iload_n 3, 0, []), (50, .iconst 2, 0, []), (51, .invokestatic 100, 229, []), (54, .iaload, 0, []), (55, .aload_n 0, 0, []), (56, .getfield 28, 98, []), (59, .iload_n 1, 0, []), (60, .iconst 2, 0, []), (61, .invokestatic 100, 229, []), (64, .iaload, 0, []), (65, .ixor, 0, []), (66, .iconst 1, 0, []), (67, .iload_n 2, 0, []), (68, .iconst 1, 0, []), (69, .isub, 0, []), (70, .ishl, 0, []), (71, .if_icmp .ne 5, 0, []), (74, .iload_n 3, 0, []), (75, .ireturn, 0, []), (76, .iinc 3 1, 0, []), (79, .goto (-66), 0, []), (82, .iconst (-1), 0, []), (83, .ireturn, 0, [])]
def M_244 : xM := (9, 1, 0, 4, c_244)
def c_245 : List xR := [(0, .aload_n 0, 0, []), (1, .iload_n 1, 0, []), (2, .invokevirtual 366, 317, []), (5, .istore_n 2, 0, []), (6, .iload_n 2, 0, []), (7, .iconst (-1), 0, []), (8, .if_icmp .eq 32, 0, []), (11, .aload_n 0, 0, []), (12, .getfield 28, 98, []), (15, .iload_n 1, 0, []), (16, .iconst 3, 0, []), (17, .invokestatic 100, 229, []), (20, .iaload, 0, []), (21, .aload_n 0, 0, []), (22, .getfield 28, 98, []), (25, .iload_n 2, 0, []), (26, .iconst 3, 0, []), (27, .invokestatic 100, 229, []), (30, .iaload, 0, []), (31, .iadd, 0, []), (32, .iconst 3, 0, []), (33, .if_icmp .gt 7, 0, []), (36, .iconst 1, 0, []), (37, .goto 4, 0, []), (40, .iconst 0, 0, []), (41, .ireturn, 0, [])]
def M_245 : xM := (9, 2, 0, 3, c_245)
def c_246 : List xR := [(0, .aload_n 0, 0, []), (1, .iload_n 1, 0, []), (2, .invokevirtual 366, 317, []), (5, .istore_n 2, 0, []), (6, .aload_n 0, 0, []), (7, .getfield 28, 98, []), (10, .iload_n 1, 0, []), (11, .iconst 2, 0, []), (12, .invokestatic 100, 229, []), (15, .iaload, 0, []), (16, .aload_n 0, 0, []), (17, .getfield 28, 98, []), (20, .iload_n 2, 0, []), (21, .iconst 2, 0, []), (22, .invokestatic 100, 229, []), (25, .iaload, 0, []), (26, .if_icmp .ge 7, 0, []), (29, .iconst 1, 0, []), (30, .goto 4, 0, []), (33, .iconst 0, 0, []), (34, .istore_n 3, 0, [3, 4, 5, 6]), (35, .iload_n 3, 0, []), (36, .ifCond .eq 7, 0, []), (39, .iload_n 1, 0, []), (40, .goto 4, 0, []), (43, .iload_n 2, 0, []), (44, .istore 4, 0, []), (46, .iload_n 3, 0, []), (47, .ifCond .eq 7, 0, []), (50, .iload_n 2, 0, []), (51, .goto 4, 0, []), (54, .iload_n 1, 0, []), (55, .istore 5, 0, [1, 2, 3, 5, 6]), (57, .aload_n 0, 0, []), (58, .getfield 28, 98, []), (61, .iload 4, 0, []), (63, .iconst 1, 0, []), (64, .invokestatic 100, 229, []), (67, .dup2, 0, []), (68, .iaload, 0, []), (69, .iconst 1, 0, []), (70, .isub, 0, []), (71, .iastore, 0, []), (72, .iconst 0, 0, []), (73, .istore 6, 0, []), (75, .iload 6, 0, [1, 2, 3]), (77, .aload_n 0, 0, []), (78, .getfield 28, 98, []), (81, .iload 5, 0, []), (83, .iconst 3, 0, []), (84, .invokestatic 100, 229, []), (87, .iaload, 0, []), (88, .if_icmp .ge 44, 0, []), (91, .aload_n 0, 0, []), (92, .iload 4, 0, []), (94, .aload_n 0, 0, []), (95, .getfield 28, 98, []), (98, .iload 5, 0, []), (100, .iconst 4, 0, []), (101, .iload 6, 0, []), (103, .iadd, 0, []), (104, .invokestatic 100, 229, []), (107, .iaload, 0, []), (108, .aload_n 0, 0, []), (109, .getfield 28, 98, []), (112, .iload 5, 0, []), (114, .bipush 7, 0, []), (116, .iload 6, 0, []), (118, .iadd, 0, []), (119, .invokestatic 100, 229, []), (122, .iaload, 0, []), (123, .invokevirtual 345, 275, []), (126, .iinc 6 1, 0, []), (129, .goto (-54), 0, []), (132, .aload_n 0, 0, []), (133, .getfield 28, 98, []), (136, .iload 5, 0, []), (138, .iconst 0, 0, []), (139, .invokestatic 100, 229, []), (142, .iconst 0, 0, []), (143, .iastore, 0, []), (144, .aload_n 0, 0, []), (145, .getfield 28, 98, []), (148, .iload 5, 0, []), (150, .iconst 3, 0, []), (151, .invokestatic 100, 229, []), (154, .iconst 0, 0, []), (155, .iastore, 0, []), (156, .aload_n 0, 0, []), (157, .iload 4, 0, []), (159, .invokevirtual 351, 265, []), (162, .aload_n 0, 0, []), (163, .iload 5, 0, []), (165, .invokevirtual 351, 265, []), (168, .iload 4, 0, []), (170, .ireturn, 0, [])]
def M_246 : xM := (9, 1, 0, 7, c_246)
def c_247 : List xR := [(0, .iconst 0, 0, []), (1, .istore_n 1, 0, []), (2, .iconst 0, 0, []), (3, .istore_n 2, 0, []), (4, .iload_n 2, 0, []), (5, .bipush 24, 0, []), (7, .if_icmp .ge 32, 0, []), (10, .aload_n 0, 0, []), (11, .iload_n 2, 0, []), (12, .invokevirtual 104, 236, []), (15, .ifCond .eq 18, 0, []), (18, .iload_n 1, 0, []), (19, .aload_n 0, 0, []), (20, .getfield 28, 98, []), (23, .iload_n 2, 0, []), (24, .iconst 1, 0, []), (25, .invokestatic 100, 229, []), (28, .iaload, 0, []), (29, .invokestatic 369, 320, []), (32, .istore_n 1, 0, []), (33, .iinc 2 1, 0, []), (36, .goto (-32), 0, []), (39, .iload_n 1, 0, []), (40, .ireturn, 0, [])]
def M_247 : xM := (9, 1, 0, 3, c_247)
def c_248 : List xR := [(0, .iload_n 1, 0, []), (1, .invokestatic 132, 239, []), (4, .ifCond .ne 5, 0, []), (7, .iconst (-1), 0, []), (8, .ireturn, 0, []), (9, .aload_n 0, 0, []), (10, .iload_n 1, 0, []), (11, .invokevirtual 120, 242, []), (14, .istore_n 2, 0, []), (15, .iload_n 2, 0, []), (16, .iconst (-1), 0, []), (17, .if_icmp .ne 6, 0, []), (20, .bipush (-3), 0, []), (22, .ireturn, 0, []), (23, .aload_n 0, 0, []), (24, .iload_n 1, 0, []), (25, .invokevirtual 117, 243, []), (28, .istore_n 3, 0, []), (29, .aload_n 0, 0, []), (30, .iload_n 3, 0, []), (31, .iload_n 2, 0, []), (32, .invokevirtual 348, 276, []), (35, .aload_n 0, 0, []), (36, .iload_n 3, 0, []), (37, .invokevirtual 351, 265, []), (40, .iconst 0, 0, []), (41, .istore 4, 0, []), (43, .aload_n 0, 0, [1, 2]), (44, .iload_n 3, 0, []), (45, .invokevirtual 372, 316, []), (48, .ifCond .eq 15, 0, []), (51, .aload_n 0, 0, []), (52, .iload_n 3, 0, []), (53, .invokevirtual 375, 318, []), (56, .istore_n 3, 0, []), (57, .iinc 4 1, 0, []), (60, .goto (-17), 0, []), (63, .aload_n 0, 0, []), (64, .getfield 28, 98, []), (67, .sipush 961, 0, []), (70, .aload_n 0, 0, []), (71, .invokevirtual 378, 319, []), (74, .iastore, 0, []), (75, .iload 4, 0, []), (77, .ireturn, 0, [])]
def M_248 : xM := (9, 1, 0, 5, c_248)
def c_249 : List xR := [(0, .iconst (-1), 0, []), (1, .istore_n 2, 0, []), (2, .iconst 0, 0, []), (3, .istore_n 3, 0, []), (4, .iload_n 3, 0, [4]), (5, .bipush 24, 0, []), (7, .if_icmp .ge 93, 0, []), (10, .sipush 240, 0, []), (13, .iload_n 3, 0, []), (14, .iconst 0, 0, []), (15, .invokestatic 100, 229, []), (18, .iadd, 0, []), (19, .istore 4, 0, []), (21, .aload_n 0, 0, []), (22, .getfield 28, 98, []), (25, .iload 4, 0, []), (27, .iconst 0, 0, []), (28, .iadd, 0, []), (29, .iaload, 0, []), (30, .ifCond .eq 64, 0, []), (33, .aload_n 0, 0, []), (34, .getfield 28, 98, []), (37, .iload 4, 0, []), (39, .iconst 2, 0, []), (40, .iadd, 0, []), (41, .iaload, 0, []), (42, .iload_n 1, 0, []), (43, .aload_n 0, 0, []), (44, .getfield 28, 98, []), (47, .iload 4, 0, []), (49, .iconst 1, 0, []), (50, .iadd, 0, []), (51, .iaload, 0, []), (52, .invokestatic 108, 237, []), (55, .if_icmp .eq 6, 0, []), (58, .goto 36, 0, []), (61, .iload_n 2, 0, []), (62, .iconst (-1), 0, []), (63, .if_icmp .eq 29, 0, []), (66, .aload_n 0, 0, []), (67, .getfield 28, 98, []), (70, .iload 4, 0, []), (72, .iconst 1, 0, []), (73, .iadd, 0, []), (74, .iaload, 0, []), (75, .aload_n 0, 0, []), (76, .getfield 28, 98, []), (79, .sipush 240, 0, []), (82, .iload_n 2, 0, []), (83, .iconst 1, 0, []), (84, .invokestatic 100, 229, []), (87, .iadd, 0, []), (88, .iaload, 0, []), (89, .if_icmp .le 5, 0, [4]), (92, .iload_n 3, 0, []), (93, .istore_n 2, 0, []), (94, .iinc 3 1, 0, []), (97, .goto (-93), 0, []), (100, .iload_n 2, 0, []), (101, .ireturn, 0, [])]
def M_249 : xM := (9, 1, 0, 5, c_249)
def c_250 : List xR := [(0, .sipush 240, 0, []), (3, .iload_n 1, 0, []), (4, .iconst 0, 0, []), (5, .invokestatic 100, 229, []), (8, .iadd, 0, []), (9, .istore_n 3, 0, []), (10, .iconst 0, 0, []), (11, .istore 4, 0, []), (13, .iconst 0, 0, []), (14, .istore 5, 0, []), (16, .iconst 1, 0, []), (17, .iload_n 2, 0, []), (18, .ishl, 0, []), (19, .iconst 1, 0, []), (20, .isub, 0, []), (21, .istore 6, 0, []), (23, .iload 6, 0, [7]), (25, .ifCond .lt 30, 0, []), (28, .aload_n 0, 0, []), (29, .getfield 66, 125, []), (32, .iload 6, 0, []), (34, .iaload, 0, []), (35, .iload_n 1, 0, []), (36, .if_icmp .eq 6, 0, []), (39, .goto 10, 0, []), (42, .iinc 4 1, 0, []), (45, .iload 6, 0, []), (47, .istore 5, 0, []), (49, .iinc 6 (-1), 0, []), (52, .goto (-29), 0, []), (55, .iload_n 2, 0, []), (56, .istore 6, 0, []), (58, .iload 4, 0, [7]), (60, .iconst 1, 0, []), (61, .iload_n 2, 0, []), (62, .iload 6, 0, []), (64, .isub, 0, []), (65, .ishl, 0, []), (66, .if_icmp .le 9, 0, []), (69, .iinc 6 (-1), 0, []), (72, .goto (-14), 0, []), (75, .aload_n 0, 0, []), (76, .getfield 28, 98, []), (79, .iload_n 1, 0, []), (80, .iconst 0, 0, []), (81, .invokestatic 100, 229, []), (84, .iload 4, 0, []), (86, .ifCond .le 7, 0, []), (89, .iconst 1, 0, []), (90, .goto 4, 0, []), (93, .iconst 0, 0, []), (94, .iastore, 0, [7]), (95, .aload_n 0, 0, []), (96, .getfield 28, 98, []), (99, .iload_n 1, 0, []), (100, .iconst 1, 0, []), (101, .invokestatic 100, 229, []), (104, .iload 6, 0, []), (106, .iastore, 0, []), (107, .aload_n 0, 0, []), (108, .getfield 28, 98, []), (111, .iload_n 1, 0, []), (112, .iconst 2, 0, []), (113, .invokestatic 100, 229, []), (116, .iload 5, 0, []), (118, .iastore, 0, []), (119, .aload_n 0, 0, []), (120, .getfield 28, 98, []), (123, .iload_n 1, 0, []), (124, .iconst 3, 0, []), (125, .invokestatic 100, 229, []), (128, .iconst 0, 0, []), (129, .iastore, 0, []), (130, .iconst 0, 0, []), (131, .istore 7, 0, []), (133, .iload 7, 0, [5, 6]), (135, .aload_n 0, 0, []), (136, .getfield 28, 98, []), (139, .iload_n 3, 0, []), (140, .iconst 3, 0, []), (141, .iadd, 0, []), (142, .iaload, 0, []), (143, .if_icmp .ge 70, 0, []), (146, .iload 4, 0, [5, 6]), (148, .ifCond .le 65, 0, []), (151, .aload_n 0, 0, []), (152, .getfield 66, 125, []), (155, .aload_n 0, 0, []), (156, .aload_n 0, 0, []), (157, .getfield 28, 98, []), (160, .iload_n 3, 0, []), (161, .iconst 4, 0, []), (162, .iadd, 0, []), (163, .iload 7, 0, []), (165, .iadd, 0, []), (166, .iaload, 0, []), (167, .invokevirtual 111, 240, []), (170, .iload_n 2, 0, []), (171, .invokestatic 108, 237, []), (174, .iaload, 0, []), (175, .iload_n 1, 0, []), (176, .if_icmp .ne 31, 0, []), (179, .aload_n 0, 0, []), (180, .iload_n 1, 0, []), (181, .aload_n 0, 0, []), (182, .getfield 28, 98, []), (185, .iload_n 3, 0, []), (186, .iconst 4, 0, []), (187, .iadd, 0, []), (188, .iload 7, 0, []), (190, .iadd, 0, []), (191, .iaload, 0, []), (192, .aload_n 0, 0, []), (193, .getfield 28, 98, []), (196, .iload_n 3, 0, []), (197, .bipush 7, 0, []), (199, .iadd, 0, []), (200, .iload 7, 0, []), (202, .iadd, 0, []), (203, .iaload, 0, []), (204, .invokevirtual 345, 275, []), (207, .iinc 7 1, 0, []), (210, .goto (-77), 0, []), (213, .return_, 0, [])]
def M_250 : xM := (9, 0, 0, 8, c_250)
def c_251 : List xR := [(0, .iconst 0, 0, []), (1, .istore_n 2, 0, []), (2, .iload_n 2, 0, [3]), (3, .iload_n 1, 0, []), (4, .if_icmp .ge 13, 0, []), (7, .aload_n 0, 0, []), (8, .invokevirtual 330, 266, []), (11, .iinc 2 1, 0, []), (14, .goto (-12), 0, []), (17, .iconst 0, 0, []), (18, .istore_n 2, 0, []), (19, .iconst 0, 0, []), (20, .istore_n 3, 0, []), (21, .iload_n 3, 0, [1]), (22, .bipush 24, 0, []), (24, .if_icmp .ge 46, 0, []), (27, .aload_n 0, 0, []), (28, .getfield 28, 98, []), (31, .sipush 240, 0, []), (34, .iload_n 3, 0, []), (35, .iconst 0, 0, []), (36, .invokestatic 100, 229, []), (39, .iadd, 0, []), (40, .iaload, 0, []), (41, .iconst 1, 0, []), (42, .if_icmp .ne 22, 0, []), (45, .iload_n 2, 0, []), (46, .aload_n 0, 0, []), (47, .getfield 28, 98, []), (50, .sipush 240, 0, []), (53, .iload_n 3, 0, []), (54, .iconst 1, 0, []), (55, .invokestatic 100, 229, []), (58, .iadd, 0, []), (59, .iaload, 0, []), (60, .invokestatic 369, 320, []), (63, .istore_n 2, 0, []), (64, .iinc 3 1, 0, []), (67, .goto (-46), 0, []), (70, .iconst 0, 0, []), (71, .istore_n 3, 0, []), (72, .iload_n 3, 0, [1]), (73, .iconst 1, 0, []), (74, .iload_n 2, 0, []), (75, .ishl, 0, []), (76, .if_icmp .ge 20, 0, []), (79, .aload_n 0, 0, []), (80, .getfield 66, 125, []), (83, .iload_n 3, 0, []), (84, .aload_n 0, 0, []), (85, .iload_n 3, 0, []), (86, .invokevirtual 381, 326, []), (89, .iastore, 0, []), (90, .iinc 3 1, 0, []), (93, .goto (-21), 0, []), (96, .iconst 0, 0, []), (97, .istore_n 3, 0, []), (98, .iload_n 3, 0, [1]), (99, .bipush 24, 0, []), (101, .if_icmp .ge 15, 0, []), (104, .aload_n 0, 0, []), (105, .iload_n 3, 0, []), (106, .iload_n 2, 0, []), (107, .invokevirtual 384, 327, []), (110, .iinc 3 1, 0, []), (113, .goto (-15), 0, []), (116, .iconst 0, 0, []), (117, .istore_n 3, 0, []), (118, .iload_n 3, 0, [1, 2]), (119, .sipush 240, 0, []), (122, .if_icmp .ge 25, 0, []), (125, .aload_n 0, 0, []), (126, .getfield 28, 98, []), (129, .sipush 240, 0, []), (132, .iload_n 3, 0, []), (133, .iadd, 0, []), (134, .aload_n 0, 0, []), (135, .getfield 28, 98, []), (138, .iload_n 3, 0, []), (139, .iaload, 0, []), (140, .iastore, 0, []), (141, .iinc 3 1, 0, []), (144, .goto (-26), 0, []), (147, .aload_n 0, 0, []), (148, .getfield 28, 98, []), (151, .sipush 960, 0, []), (154, .iconst 0, 0, []), (155, .iastore, 0, []), (156, .aload_n 0, 0, []), (157, .getfield 28, 98, []), (160, .sipush 961, 0, []), (163, .aload_n 0, 0, []), (164, .invokevirtual 378, 319, []), (167, .iastore, 0, []), (168, .return_, 0, [])]
def M_251 : xM := (9, 0, 0, 4, c_251)
def c_252 : List xR := [(0, .sipush 964, 0, []), (3, .istore_n 2, 0, []), (4, .aload_n 0, 0, []), (5, .getfield 11, 128, []), (8, .bipush 16, 0, []), (10, .if_icmp .ne 43, 0, []), (13, .iconst 0, 0, []), (14, .istore_n 3, 0, []), (15, .iload_n 3, 0, []), (16, .bipush 15, 0, []), (18, .iload_n 2, 0, []), (19, .imul, 0, []), (20, .if_icmp .ge 23, 0, []), (23, .aload_n 0, 0, []), (24, .getfield 69, 126, []), (27, .iload_n 3, 0, []), (28, .aload_n 0, 0, []), (29, .getfield 69, 126, []), (32, .iload_n 3, 0, []), (33, .iload_n 2, 0, []), (34, .iadd, 0, []), (35, .iaload, 0, []), (36, .iastore, 0, []), (37, .iinc 3 1, 0, []), (40, .goto (-25), 0, []), (43, .aload_n 0, 0, []), (44, .dup, 0, []), (45, .getfield 11, 128, []), (48, .iconst 1, 0, []), (49, .isub, 0, []), (50, .putfield 11, 128, []), (53, .iconst 0, 0, []), (54, .istore_n 3, 0, []), (55, .iload_n 3, 0, []), (56, .sipush 963, 0, []), (59, .if_icmp .ge 32, 0, []), (62, .aload_n 0, 0, []), (63, .getfield 69, 126, []), (66, .iload_n 2, 0, []), (67, .aload_n 0, 0, []), (68, .getfield 11, 128, []), (71, .imul, 0, []), (72, .iload_n 3, 0, []), (73, .iadd, 0, []), (74, .aload_n 0, 0, []), (75, .getfield 38, 101, []), (78, .sipush 2889, 0, []), (81, .iload_n 3, 0, []), (82, .iadd, 0, []), (83, .iaload, 0, []), (84, .iastore, 0, []), (85, .iinc 3 1, 0, []), (88, .goto (-33), 0, []), (91, .aload_n 0, 0, []), (92, .getfield 69, 126, []), (95, .iload_n 2, 0, []), (96, .aload_n 0, 0, []), (97, .getfield 11, 128, []), (100, .imul, 0, []), (101, .sipush 963, 0, []), (104, .iadd, 0, []), (105, .iload_n 1, 0, []), (106, .iastore, 0, []), (107, .aload_n 0, 0, []), (108, .dup, 0, []), (109, .getfield 11, 128, []), (112, .iconst 1, 0, []), (113, .iadd, 0, []), (114, .putfield 11, 128, []), (117, .return_, 0, [])]
def M_252 : xM := (9, 0, 0, 4, c_252)
def c_253 : List xR := [(0, .aload_n 0, 0, []), (1, .getfield 11, 128, []), (4, .ifCond .ne 10, 0, []), (7, .aload_n 0, 0, []), (8, .bipush (-3), 0, []), (10, .invokevirtual 94, 223, []), (13, .ireturn, 0, []), (14, .aload_n 0, 0, []), (15, .dup, 0, []), (16, .getfield 11, 128, []), (19, .iconst 1, 0, []), (20, .isub, 0, []), (21, .putfield 11, 128, []), (24, .sipush 964, 0, []), (27, .aload_n 0, 0, []), (28, .getfield 11, 128, []), (31, .imul, 0, []), (32, .istore_n 1, 0, []), (33, .iconst 0, 0, []), (34, .istore_n 2, 0, []), (35, .iload_n 2, 0, []), (36, .sipush 963, 0, []), (39, .if_icmp .ge 23, 0, []), (42, .aload_n 0, 0, []), (43, .getfield 28, 98, []), (46, .iload_n 2, 0, []), (47, .aload_n 0, 0, []), (48, .getfield 69, 126, []), (51, .iload_n 1, 0, []), (52, .iload_n 2, 0, []), (53, .iadd, 0, []), (54, .iaload, 0, []), (55, .iastore, 0, []), (56, .iinc 2 1, 0, []), (59, .goto (-24), 0, []), (62, .aload_n 0, 0, []), (63, .aload_n 0, 0, []), (64, .getfield 69, 126, []), (67, .iload_n 1, 0, []), (68, .sipush 963, 0, []), (71, .iadd, 0, []), (72, .iaload, 0, []), (73, .invokevirtual 14, 224, []), (76, .ireturn, 0, [])]
def M_253 : xM := (9, 1, 0, 3, c_253)
def c_254 : List xR := [(0, .iload_n 1, 0, []), (1, .ifCond .ge 11, 0, []), (4, .aload_n 0, 0, []), (5, .iload_n 1, 0, []), (6, .invokevirtual 94, 223, []), (9, .goto 8, 0, []), (12, .aload_n 0, 0, []), (13, .iload_n 1, 0, []), (14, .invokevirtual 14, 224, []), (17, .ireturn, 0, [])]
def M_254 : xM := (9, 1, 0, 2, c_254)
def c_255 : List xR := [(0, .iload_n 2, 0, []), (1, .ifCond .lt 8, 0, []), (4, .aload_n 0, 0, []), (5, .iload_n 1, 0, []), (6, .invokevirtual 387, 311, []), (9, .iload_n 2, 0, []), (10, .ireturn, 0, [])]
def M_255 : xM := (9, 1, 0, 3, c_255)
def c_256 : List xR := [(0, .aload_n 0, 0, []), (1, .iconst 3, 0, []), (2, .invokevirtual 357, 270, []), (5, .aload_n 0, 0, []), (6, .iconst 0, 0, []), (7, .aload_n 0, 0, []), (8, .iload_n 1, 0, []), (9, .iload_n 2, 0, []), (10, .invokevirtual 158, 264, []), (13, .invokevirtual 390, 310, []), (16, .ireturn, 0, [])]
def M_256 : xM := (9, 1, 0, 3, c_256)
def c_257 : List xR := [(0, .aload_n 0, 0, []), (1, .iconst 3, 0, []), (2, .invokevirtual 357, 270, []), (5, .aload_n 0, 0, []), (6, .iconst 1, 0, []), (7, .aload_n 0, 0, []), (8, .iload_n 1, 0, []), (9, .invokevirtual 393, 315, []), (12, .invokevirtual 390, 310, []), (15, .ireturn, 0, [])]
def M_257 : xM := (9, 1, 0, 2, c_257)
def c_258 : List xR := [(0, .iload_n 1, 0, []), (1, .ifCond .ge 5, 0, []), (4, .iconst (-1), 0, []), (5, .ireturn, 0, []), (6, .iload_n 1, 0, []), (7, .aload_n 0, 0, []), (8, .getfield 28, 98, []), (11, .sipush 960, 0, []), (14, .iaload, 0, []), (15, .if_icmp .le 6, 0, []), (18, .bipush (-3), 0, []), (20, .ireturn, 0, []), (21, .aload_n 0, 0, []), (22, .iconst 3, 0, []), (23, .invokevirtual 357, 270, []), (26, .iconst 0, 0, []), (27, .istore_n 2, 0, []), (28, .iload_n 2, 0, []), (29, .iload_n 1, 0, []), (30, .if_icmp .ge 13, 0, []), (33, .aload_n 0, 0, []), (34, .invokevirtual 330, 266, []), (37, .iinc 2 1, 0, []), (40, .goto (-12), 0, []), (43, .aload_n 0, 0, []), (44, .iconst 2, 0, []), (45, .aload_n 0, 0, []), (46, .getfield 28, 98, []), (49, .sipush 960, 0, []), (52, .iaload, 0, []), (53, .invokevirtual 390, 310, []), (56, .ireturn, 0, [])]
def M_258 : xM := (9, 1, 0, 3, c_258)
def c_259 : List xR := [(0, .iload_n 1, 0, []), (1, .ifCond .ge 5, 0, []), (4, .iconst (-1), 0, []), (5, .ireturn, 0, []), (6, .iload_n 1, 0, []), (7, .aload_n 0, 0, []), (8, .getfield 28, 98, []), (11, .sipush 960, 0, []), (14, .iaload, 0, []), (15, .if_icmp .le 6, 0, []), (18, .bipush (-3), 0, []), (20, .ireturn, 0, []), (21, .aload_n 0, 0, []), (22, .iconst 3, 0, []), (23, .invokevirtual 357, 270, []), (26, .aload_n 0, 0, []), (27, .iload_n 1, 0, []), (28, .invokevirtual 396, 325, []), (31, .aload_n 0, 0, []), (32, .iconst 3, 0, []), (33, .aload_n 0, 0, []), (34, .invokevirtual 145, 254, []), (37, .invokevirtual 390, 310, []), (40, .ireturn, 0, [])]
def M_259 : xM := (9, 1, 0, 2, c_259)
def c_260 : List xR := [(0, .aload_n 0, 0, []), (1, .aload_n 0, 0, []), (2, .iload_n 1, 0, []), (3, .iload_n 2, 0, []), (4, .invokevirtual 399, 309, []), (7, .invokevirtual 402, 312, []), (10, .ireturn, 0, [])]
def M_260 : xM := (9, 1, 0, 3, c_260)
def c_261 : List xR := [(0, .aload_n 0, 0, []), (1, .aload_n 0, 0, []), (2, .iload_n 1, 0, []), (3, .invokevirtual 405, 314, []), (6, .invokevirtual 402, 312, []), (9, .ireturn, 0, [])]
def M_261 : xM := (9, 1, 0, 2, c_261)
def c_262 : List xR := [(0, .aload_n 0, 0, []), (1, .aload_n 0, 0, []), (2, .iload_n 1, 0, []), (3, .invokevirtual 408, 322, []), (6, .invokevirtual 402, 312, []), (9, .ireturn, 0, [])]
def M_262 : xM := (9, 1, 0, 2, c_262)
def c_263 : List xR := [(0, .aload_n 0, 0, []), (1, .aload_n 0, 0, []), (2, .iload_n 1, 0, []), (3, .invokevirtual 411, 324, []), (6, .invokevirtual 402, 312, []), (9, .ireturn, 0, [])]
def M_263 : xM := (9, 1, 0, 2, c_263)
def c_264 : List xR := [(0, .iload_n 1, 0, []), (1, .iconst 0, 0, []), (2, .aload_n 0, 0, []), (3, .getfield 28, 98, []), (6, .sipush 960, 0, []), (9, .iaload, 0, []), (10, .invokestatic 18, 222, []), (13, .ifCond .eq 10, 0, []), (16, .iload_n 2, 0, []), (17, .invokestatic 132, 239, []), (20, .ifCond .ne 5, 0, []), (23, .iconst (-1), 0, []), (24, .ireturn, 0, []), (25, .aload_n 0, 0, []), (26, .iconst 0, 0, []), (27, .invokevirtual 357, 270, []), (30, .aload_n 0, 0, []), (31, .iload_n 1, 0, []), (32, .invokevirtual 396, 325, []), (35, .aload_n 0, 0, []), (36, .iload_n 2, 0, []), (37, .invokevirtual 135, 241, []), (40, .istore_n 3, 0, []), (41, .aload_n 0, 0, []), (42, .iconst 0, 0, []), (43, .invokevirtual 363, 277, []), (46, .iload_n 3, 0, []), (47, .ireturn, 0, [])]
def M_264 : xM := (9, 1, 0, 4, c_264)
def c_265 : List xR := [(0, .iload_n 1, 0, []), (1, .iconst 0, 0, []), (2, .aload_n 0, 0, []), (3, .getfield 28, 98, []), (6, .sipush 960, 0, []), (9, .iaload, 0, []), (10, .invokestatic 18, 222, []), (13, .ifCond .ne 5, 0, []), (16, .iconst (-1), 0, []), (17, .ireturn, 0, []), (18, .iconst 0, 0, []), (19, .istore_n 2, 0, []), (20, .iload_n 2, 0, [3]), (21, .sipush 1000, 0, []), (24, .if_icmp .ge 20, 0, []), (27, .aload_n 0, 0, []), (28, .getfield 75, 129, []), (31, .iload_n 2, 0, []), (32, .aload_n 0, 0, []), (33, .iload_n 2, 0, []), (34, .invokevirtual 135, 241, []), (37, .iastore, 0, []), (38, .iinc 2 1, 0, []), (41, .goto (-21), 0, []), (44, .aload_n 0, 0, []), (45, .iconst 0, 0, []), (46, .invokevirtual 357, 270, []), (49, .aload_n 0, 0, []), (50, .iload_n 1, 0, []), (51, .invokevirtual 396, 325, []), (54, .iconst 0, 0, []), (55, .istore_n 2, 0, []), (56, .iconst 0, 0, []), (57, .istore_n 3, 0, []), (58, .iload_n 3, 0, [1]), (59, .sipush 1000, 0, []), (62, .if_icmp .ge 41, 0, []), (65, .iload_n 2, 0, []), (66, .aload_n 0, 0, []), (67, .getfield 75, 129, []), (70, .iload_n 3, 0, []), (71, .iaload, 0, []), (72, .iconst (-1), 0, []), (73, .if_icmp .eq 21, 0, []), (76, .aload_n 0, 0, []), (77, .iload_n 3, 0, []), (78, .invokevirtual 135, 241, []), (81, .aload_n 0, 0, []), (82, .getfield 75, 129, []), (85, .iload_n 3, 0, []), (86, .iaload, 0, []), (87, .if_icmp .eq 7, 0, []), (90, .iconst 1, 0, []), (91, .goto 4, 0, []), (94, .iconst 0, 0, []), (95, .iadd, 0, []), (96, .istore_n 2, 0, []), (97, .iinc 3 1, 0, []), (100, .goto (-42), 0, []), (103, .aload_n 0, 0, []), (104, .iconst 0, 0, []), (105, .invokevirtual 363, 277, []), (108, .iload_n 2, 0, []), (109, .ireturn, 0, [])]
def M_265 : xM := (9, 1, 0, 4, c_265)
def c_266 : List xR := [(0, .iload_n 1, 0, []), (1, .iconst 0, 0, []), (2, .aload_n 0, 0, []), (3, .getfield 28, 98, []), (6, .sipush 960, 0, []), (9, .iaload, 0, []), (10, .invokestatic 18, 222, []), (13, .ifCond .ne 5, 0, []), (16, .iconst (-1), 0, []), (17, .ireturn, 0, []), (18, .iconst 0, 0, []), (19, .istore_n 2, 0, []), (20, .iload_n 2, 0, [3]), (21, .bipush 64, 0, []), (23, .if_icmp .ge 20, 0, []), (26, .aload_n 0, 0, []), (27, .getfield 78, 130, []), (30, .iload_n 2, 0, []), (31, .aload_n 0, 0, []), (32, .iload_n 2, 0, []), (33, .invokevirtual 414, 331, []), (36, .iastore, 0, []), (37, .iinc 2 1, 0, []), (40, .goto (-20), 0, []), (43, .aload_n 0, 0, []), (44, .iconst 0, 0, []), (45, .invokevirtual 357, 270, []), (48, .aload_n 0, 0, []), (49, .iload_n 1, 0, []), (50, .invokevirtual 396, 325, []), (53, .iconst 0, 0, []), (54, .istore_n 2, 0, []), (55, .iconst 0, 0, []), (56, .istore_n 3, 0, []), (57, .iload_n 3, 0, [1]), (58, .bipush 64, 0, []), (60, .if_icmp .ge 31, 0, []), (63, .iload_n 2, 0, []), (64, .aload_n 0, 0, []), (65, .iload_n 3, 0, []), (66, .invokevirtual 414, 331, []), (69, .aload_n 0, 0, []), (70, .getfield 78, 130, []), (73, .iload_n 3, 0, []), (74, .iaload, 0, []), (75, .if_icmp .eq 7, 0, []), (78, .iconst 1, 0, []), (79, .goto 4, 0, []), (82, .iconst 0, 0, []), (83, .iadd, 0, []), (84, .istore_n 2, 0, []), (85, .iinc 3 1, 0, []), (88, .goto (-31), 0, []), (91, .aload_n 0, 0, []), (92, .iconst 0, 0, []), (93, .invokevirtual 363, 277, []), (96, .iload_n 2, 0, []), (97, .ireturn, 0, [])]
def M_266 : xM := (9, 1, 0, 4, c_266)
def c_267 : List xR := [(0, .aload_n 0, 0, []), (1, .getfield 28, 98, []), (4, .aload_n 0, 0, []), (5, .iload_n 1, 0, []), (6, .invokevirtual 117, 243, []), (9, .iconst 3, 0, []), (10, .invokestatic 100, 229, []), (13, .iaload, 0, []), (14, .iconst 3, 0, []), (15, .if_icmp .lt 20, 0, []), (18, .aload_n 0, 0, []), (19, .iload_n 1, 0, []), (20, .invokevirtual 120, 242, []), (23, .iconst (-1), 0, []), (24, .if_icmp .ne 11, 0, []), (27, .aload_n 0, 0, []), (28, .iload_n 1, 0, []), (29, .invokevirtual 138, 244, []), (32, .ifCond .eq 5, 0, []), (35, .iconst 0, 0, []), (36, .ireturn, 0, []), (37, .aload_n 0, 0, []), (38, .iconst 0, 0, []), (39, .invokevirtual 357, 270, []), (42, .aload_n 0, 0, []), (43, .iload_n 1, 0, []), (44, .iconst 0, 0, []), (45, .invokevirtual 360, 271, []), (48, .istore_n 2, 0, []), (49, .aload_n 0, 0, []), (50, .iconst 0, 0, []), (51, .invokevirtual 363, 277, []), (54, .iload_n 2, 0, []), (55, .ifCond .le 7, 0, []), (58, .iconst 1, 0, []), (59, .goto 4, 0, []), (62, .iconst 0, 0, []), (63, .ireturn, 0, [])]
def M_267 : xM := (9, 2, 0, 3, c_267)
def c_268 : List xR := [(0, .iconst 0, 0, []), (1, .istore_n 1, 0, []), (2, .iconst 0, 0, []), (3, .istore_n 2, 0, []), (4, .iload_n 2, 0, []), (5, .sipush 1000, 0, []), (8, .if_icmp .ge 25, 0, []), (11, .iload_n 1, 0, []), (12, .aload_n 0, 0, []), (13, .iload_n 2, 0, []), (14, .invokevirtual 417, 333, []), (17, .ifCond .eq 7, 0, []), (20, .iconst 1, 0, []), (21, .goto 4, 0, []), (24, .iconst 0, 0, []), (25, .iadd, 0, []), (26, .istore_n 1, 0, []), (27, .iinc 2 1, 0, []), (30, .goto (-26), 0, []), (33, .iload_n 1, 0, []), (34, .ireturn, 0, [])]
def M_268 : xM := (9, 1, 0, 3, c_268)
def c_269 : List xR := [(0, .iconst 3, 0, []), (1, .aload_n 0, 0, []), (2, .invokevirtual 420, 335, []), (5, .imul, 0, []), (6, .aload_n 0, 0, []), (7, .invokevirtual 145, 254, []), (10, .isub, 0, []), (11, .ireturn, 0, [])]
def M_269 : xM := (9, 1, 0, 1, c_269)
def c_270 : List xR := [(0, .iload_n 1, 0, []), (1, .invokestatic 123, 228, []), (4, .ifCond .eq 19, 0, []), (7, .aload_n 0, 0, []), (8, .iload_n 1, 0, []), (9, .invokevirtual 104, 236, []), (12, .ifCond .eq 11, 0, []), (15, .aload_n 0, 0, []), (16, .iload_n 1, 0, []), (17, .invokevirtual 366, 317, []), (20, .goto 4, 0, []), (23, .iconst (-1), 0, []), (24, .ireturn, 0, [])]
def M_270 : xM := (9, 1, 0, 2, c_270)
def c_271 : List xR := [(0, .iconst 0, 0, []), (1, .istore_n 1, 0, []), (2, .iload_n 1, 0, []), (3, .sipush 963, 0, []), (6, .if_icmp .ge 16, 0, []), (9, .aload_n 0, 0, []), (10, .getfield 28, 98, []), (13, .iload_n 1, 0, []), (14, .iconst 0, 0, []), (15, .iastore, 0, []), (16, .iinc 1 1, 0, []), (19, .goto (-17), 0, []), (22, .aload_n 0, 0, []), (23, .getfield 28, 98, []), (26, .iconst 0, 0, []), (27, .iconst 1, 0, []), (28, .iastore, 0, []), (29, .aload_n 0, 0, []), (30, .getfield 28, 98, []), (33, .sipush 240, 0, []), (36, .iconst 1, 0, []), (37, .iastore, 0, []), (38, .return_, 0, [])]
def M_271 : xM := (9, 0, 0, 2, c_271)
def c_272 : List xR := [(0, .aload_n 0, 0, []), (1, .invokevirtual 423, 339, []), (4, .aload_n 0, 0, []), (5, .getfield 28, 98, []), (8, .sipush 977, 0, []), (11, .iload_n 1, 0, []), (12, .iastore, 0, []), (13, .iconst 0, 0, []), (14, .istore_n 2, 0, []), (15, .iload_n 2, 0, [1]), (16, .sipush 1000, 0, []), (19, .if_icmp .ge 31, 0, []), (22, .aload_n 0, 0, []), (23, .getfield 75, 129, []), (26, .iload_n 2, 0, []), (27, .iaload, 0, []), (28, .iconst (-1), 0, []), (29, .if_icmp .eq 15, 0, []), (32, .aload_n 0, 0, []), (33, .iload_n 2, 0, []), (34, .iconst 0, 0, []), (35, .invokevirtual 360, 271, []), (38, .iconst (-1), 0, []), (39, .if_icmp .ne 5, 0, []), (42, .iconst (-1), 0, []), (43, .ireturn, 0, []), (44, .iinc 2 1, 0, []), (47, .goto (-32), 0, []), (50, .aload_n 0, 0, []), (51, .invokevirtual 420, 335, []), (54, .ireturn, 0, [])]
def M_272 : xM := (9, 1, 0, 3, c_272)
def c_273 : List xR := [(0, .iload_n 1, 0, []), (1, .iconst 0, 0, []), (2, .iconst 1, 0, []), (3, .invokestatic 18, 222, []), (6, .ifCond .ne 5, 0, []), (9, .iconst (-1), 0, []), (10, .ireturn, 0, []), (11, .iconst 0, 0, []), (12, .istore_n 2, 0, []), (13, .iload_n 2, 0, [3, 4, 5, 6]), (14, .sipush 1000, 0, []), (17, .if_icmp .ge 20, 0, []), (20, .aload_n 0, 0, []), (21, .getfield 75, 129, []), (24, .iload_n 2, 0, []), (25, .aload_n 0, 0, []), (26, .iload_n 2, 0, []), (27, .invokevirtual 135, 241, []), (30, .iastore, 0, []), (31, .iinc 2 1, 0, []), (34, .goto (-21), 0, []), (37, .aload_n 0, 0, []), (38, .getfield 28, 98, []), (41, .sipush 977, 0, []), (44, .iaload, 0, []), (45, .istore_n 2, 0, []), (46, .iconst (-1), 0, []), (47, .istore_n 3, 0, []), (48, .ldc 173, 7, []), (50, .istore 4, 0, []), (52, .aload_n 0, 0, []), (53, .iconst 0, 0, []), (54, .invokevirtual 357, 270, []), (57, .iconst 0, 0, []), (58, .istore 5, 0, []), (60, .iload 5, 0, [6]), (62, .bipush 32, 0, []), (64, .if_icmp .ge 40, 0, []), (67, .aload_n 0, 0, []), (68, .iload 5, 0, []), (70, .invokevirtual 426, 338, []), (73, .istore 6, 0, []), (75, .iload 6, 0, []), (77, .iconst (-1), 0, []), (78, .if_icmp .eq 20, 0, []), (81, .iload 6, 0, []), (83, .iload 4, 0, []), (85, .if_icmp .lt 6, 0, []), (88, .goto 10, 0, []), (91, .iload 6, 0, []), (93, .istore 4, 0, []), (95, .iload 5, 0, []), (97, .istore_n 3, 0, []), (98, .iinc 5 1, 0, []), (101, .goto (-41), 0, []), (104, .aload_n 0, 0, []), (105, .iconst 0, 0, []), (106, .invokevirtual 363, 277, []), (109, .aload_n 0, 0, []), (110, .getfield 28, 98, []), (113, .sipush 977, 0, []), (116, .iload_n 2, 0, []), (117, .iastore, 0, []), (118, .iload_n 3, 0, []), (119, .iconst (-1), 0, []), (120, .if_icmp .eq 7, 0, []), (123, .iload_n 1, 0, []), (124, .ifCond .ne 7, 0, []), (127, .iload_n 3, 0, []), (128, .goto 5, 0, []), (131, .iload 4, 0, []), (133, .ireturn, 0, [])]
def M_273 : xM := (9, 1, 0, 7, c_273)
def c_274 : List xR := [(0, .iconst 0, 0, []), (1, .istore_n 1, 0, []), (2, .iconst 0, 0, []), (3, .istore_n 2, 0, []), (4, .iload_n 2, 0, []), (5, .aload_n 0, 0, []), (6, .getfield 28, 98, []), (9, .sipush 960, 0, []), (12, .iaload, 0, []), (13, .if_icmp .ge 23, 0, []), (16, .iload_n 1, 0, []), (17, .aload_n 0, 0, []), (18, .getfield 28, 98, []), (21, .iload_n 2, 0, []), (22, .invokestatic 129, 233, []), (25, .iconst 1, 0, []), (26, .iadd, 0, []), (27, .iaload, 0, []), (28, .iadd, 0, []), (29, .istore_n 1, 0, []), (30, .iinc 2 1, 0, []), (33, .goto (-29), 0, []), (36, .iload_n 1, 0, []), (37, .ireturn, 0, [])]
def M_274 : xM := (9, 1, 0, 3, c_274)
def c_275 : List xR := [(0, .iload_n 1, 0, []), (1, .iconst 0, 0, []), (2, .bipush 63, 0, []), (4, .invokestatic 18, 222, []), (7, .ifCond .eq 12, 0, []), (10, .iload_n 2, 0, []), (11, .iconst 0, 0, []), (12, .iconst 1, 0, []), (13, .invokestatic 18, 222, []), (16, .ifCond .ne 9, 0, []), (19, .aload_n 0, 0, []), (20, .iconst (-1), 0, []), (21, .invokevirtual 94, 223, []), (24, .ireturn, 0, []), (25, .sipush 963, 0, []), (28, .iconst 2, 0, []), (29, .aload_n 0, 0, []), (30, .getfield 28, 98, []), (33, .sipush 978, 0, []), (36, .iaload, 0, []), (37, .imul, 0, []), (38, .iadd, 0, []), (39, .istore_n 3, 0, []), (40, .aload_n 0, 0, []), (41, .getfield 28, 98, []), (44, .sipush 978, 0, []), (47, .iaload, 0, []), (48, .bipush 6, 0, []), (50, .if_icmp .ne 10, 0, []), (53, .aload_n 0, 0, []), (54, .bipush (-5), 0, []), (56, .invokevirtual 94, 223, []), (59, .ireturn, 0, []), (60, .aload_n 0, 0, []), (61, .getfield 28, 98, []), (64, .iload_n 3, 0, []), (65, .iload_n 1, 0, []), (66, .iastore, 0, []), (67, .aload_n 0, 0, []), (68, .getfield 28, 98, []), (71, .iload_n 3, 0, []), (72, .iconst 1, 0, []), (73, .iadd, 0, []), (74, .iload_n 2, 0, []), (75, .iastore, 0, []), (76, .aload_n 0, 0, []), (77, .getfield 28, 98, []), (80, .sipush 978, 0, []), (83, .dup2, 0, []), (84, .iaload, 0, []), (85, .iconst 1, 0, []), (86, .iadd, 0, []), (87, .iastore, 0, []), (88, .aload_n 0, 0, []), (89, .aload_n 0, 0, []), (90, .getfield 28, 98, []), (93, .sipush 978, 0, [0, 1, 2, 3]), (96, .iaload, 0, []), (97, .invokevirtual 14, 224, []), (100, .ireturn, 0, [])]
def M_275 : xM := (9, 1, 0, 4, c_275)
def c_276 : List xR := [(0, .aload_n 0, 0, []), (1, .getfield 28, 98, []), (4, .sipush 978, 0, []), (7, .iaload, 0, []), (8, .istore_n 1, 0, []), (9, .aload_n 0, 0, []), (10, .getfield 28, 98, []), (13, .sipush 978, 0, []), (16, .iconst 0, 0, []), (17, .iastore, 0, []), (18, .iload_n 1, 0, []), (19, .ireturn, 0, [])]
def M_276 : xM := (9, 1, 0, 2, c_276)
def c_277 : List xR := [(0, .iconst 1, 0, []), (1, .istore_n 2, 0, []), (2, .iconst 0, 0, []), (3, .istore_n 3, 0, []), (4, .iload_n 3, 0, []), (5, .aload_n 0, 0, []), (6, .getfield 28, 98, []), (9, .sipush 978, 0, []), (12, .iaload, 0, []), (13, .if_icmp .ge 61, 0, []), (16, .iload_n 2, 0, []), (17, .ifCond .eq 49, 0, []), (20, .aload_n 0, 0, []), (21, .aload_n 0, 0, []), (22, .getfield 28, 98, []), (25, .sipush 963, 0, []), (28, .iconst 2, 0, []), (29, .iload_n 3, 0, []), (30, .imul, 0, []), (31, .iadd, 0, []), (32, .iaload, 0, []), (33, .invokevirtual 414, 331, []), (36, .iload_n 1, 0, []), (37, .if_icmp .ne 7, 0, []), (40, .iconst 1, 0, []), (41, .goto 4, 0, []), (44, .iconst 0, 0, []), (45, .aload_n 0, 0, [2]), (46, .getfield 28, 98, []), (49, .sipush 963, 0, []), (52, .iconst 2, 0, []), (53, .iload_n 3, 0, []), (54, .imul, 0, []), (55, .iadd, 0, []), (56, .iconst 1, 0, []), (57, .iadd, 0, []), (58, .iaload, 0, []), (59, .if_icmp .ne 7, 0, []), (62, .iconst 1, 0, []), (63, .goto 4, 0, []), (66, .iconst 0, 0, []), (67, .istore_n 2, 0, []), (68, .iinc 3 1, 0, []), (71, .goto (-67), 0, []), (74, .iload_n 2, 0, []), (75, .ireturn, 0, [])]
def M_277 : xM := (9, 2, 0, 4, c_277)
def c_278 : List xR := [(0, .iconst 0, 0, []), (1, .istore_n 1, 0, []), (2, .iconst 0, 0, []), (3, .istore_n 2, 0, []), (4, .iload_n 2, 0, []), (5, .bipush 24, 0, []), (7, .if_icmp .ge 35, 0, []), (10, .iload_n 1, 0, []), (11, .aload_n 0, 0, []), (12, .iload_n 2, 0, []), (13, .invokevirtual 104, 236, []), (16, .ifCond .eq 17, 0, []), (19, .aload_n 0, 0, []), (20, .iload_n 2, 0, []), (21, .invokevirtual 429, 344, []), (24, .ifCond .eq 9, 0, []), (27, .iconst 1, 0, []), (28, .iload_n 2, 0, []), (29, .ishl, 0, []), (30, .goto 4, 0, []), (33, .iconst 0, 0, []), (34, .ior, 0, []), (35, .istore_n 1, 0, []), (36, .iinc 2 1, 0, []), (39, .goto (-35), 0, []), (42, .iload_n 1, 0, []), (43, .ireturn, 0, [])]
def M_278 : xM := (9, 1, 0, 3, c_278)
def c_279 : List xR := [(0, .iload_n 1, 0, []), (1, .iconst 0, 0, []), (2, .iconst 1, 0, []), (3, .invokestatic 18, 222, []), (6, .ifCond .ne 5, 0, []), (9, .iconst (-1), 0, []), (10, .ireturn, 0, []), (11, .aload_n 0, 0, []), (12, .invokevirtual 432, 346, []), (15, .istore_n 2, 0, []), (16, .iconst (-1), 0, []), (17, .istore_n 3, 0, []), (18, .ldc 173, 7, []), (20, .istore 4, 0, []), (22, .iconst 0, 0, []), (23, .istore 5, 0, []), (25, .iload 5, 0, [6, 7]), (27, .iconst 1, 0, []), (28, .aload_n 0, 0, []), (29, .getfield 28, 98, []), (32, .sipush 961, 0, []), (35, .iaload, 0, []), (36, .ishl, 0, []), (37, .if_icmp .ge 64, 0, []), (40, .iload_n 2, 0, []), (41, .ifCond .eq 60, 0, []), (44, .iload_n 2, 0, []), (45, .aload_n 0, 0, []), (46, .iload 5, 0, []), (48, .invokevirtual 114, 235, []), (51, .invokestatic 342, 274, []), (54, .ifCond .eq 7, 0, []), (57, .iconst 1, 0, []), (58, .goto 4, 0, []), (61, .iconst 0, 0, []), (62, .istore 6, 0, [6, 7]), (64, .iload 6, 0, []), (66, .iload_n 2, 0, []), (67, .invokestatic 435, 347, []), (70, .iload 6, 0, []), (72, .isub, 0, []), (73, .invokestatic 369, 320, []), (76, .istore 7, 0, []), (78, .iload 7, 0, []), (80, .iload 4, 0, []), (82, .if_icmp .lt 6, 0, []), (85, .goto 10, 0, []), (88, .iload 7, 0, []), (90, .istore 4, 0, []), (92, .iload 5, 0, []), (94, .istore_n 3, 0, []), (95, .iinc 5 1, 0, []), (98, .goto (-73), 0, []), (101, .iload_n 3, 0, [0, 2, 5, 6, 7]), (102, .iconst (-1), 0, []), (103, .if_icmp .eq 7, 0, []), (106, .iload_n 1, 0, []), (107, .ifCond .ne 7, 0, []), (110, .iload_n 3, 0, []), (111, .goto 5, 0, []), (114, .iload 4, 0, []), (116, .ireturn, 0, [])]
def M_279 : xM := (9, 1, 0, 8, c_279)
def c_280 : List xR := [(0, .iload_n 1, 0, []), (1, .iconst 1, 0, []), (2, .bipush 20, 0, []), (4, .invokestatic 18, 222, []), (7, .ifCond .eq 13, 0, []), (10, .iload_n 2, 0, []), (11, .iconst 0, 0, []), (12, .bipush 99, 0, []), (14, .invokestatic 18, 222, []), (17, .ifCond .ne 7, 0, []), (20, .ldc2_w 438, 12, []), (23, .lreturn, 0, []), (24, .iconst 0, 0, []), (25, .istore_n 3, 0, []), (26, .iload_n 3, 0, [4, 5]), (27, .bipush 20, 0, []), (29, .if_icmp .gt 26, 0, []), (32, .aload_n 0, 0, []), (33, .getfield 81, 131, []), (36, .iload_n 3, 0, []), (37, .iload_n 3, 0, []), (38, .ifCond .ne 9, 0, []), (41, .ldc2_w 440, 13, []), (44, .goto 4, 0, []), (47, .lconst 0, 0, []), (48, .lastore, 0, []), (49, .iinc 3 1, 0, []), (52, .goto (-26), 0, []), (55, .iconst 0, 0, []), (56, .istore_n 3, 0, []), (57, .iload_n 3, 0, [4, 5]), (58, .iload_n 2, 0, []), (59, .if_icmp .ge 89, 0, []), (62, .iload_n 1, 0, []), (63, .iconst 1, 0, []), (64, .isub, 0, []), (65, .istore 4, 0, []), (67, .iload 4, 0, [5]), (69, .ifCond .lt 73, 0, []), (72, .aload_n 0, 0, []), (73, .getfield 81, 131, []), (76, .iload 4, 0, []), (78, .iconst 1, 0, []), (79, .iadd, 0, []), (80, .dup2, 0, []), (81, .laload, 0, []), (82, .aload_n 0, 0, []), (83, .getfield 81, 131, []), (86, .iload 4, 0, []), (88, .laload, 0, []), (89, .aload_n 0, 0, []), (90, .getfield 28, 98, []), (93, .sipush 975, 0, []), (96, .iaload, 0, []), (97, .i2l, 0, []), (98, .lmul, 0, []), (99, .ldc2_w 442, 14, []), (102, .ldiv, 0, []), (103, .ladd, 0, []), (104, .lastore, 0, []), (105, .aload_n 0, 0, []), (106, .getfield 81, 131, []), (109, .iload 4, 0, []), (111, .aload_n 0, 0, []), (112, .getfield 81, 131, []), (115, .iload 4, 0, []), (117, .laload, 0, []), (118, .bipush 10, 0, []), (120, .aload_n 0, 0, []), (121, .getfield 28, 98, []), (124, .sipush 975, 0, []), (127, .iaload, 0, []), (128, .isub, 0, []), (129, .i2l, 0, []), (130, .lmul, 0, []), (131, .ldc2_w 442, 14, []), (134, .ldiv, 0, []), (135, .lastore, 0, []), (136, .iinc 4 (-1), 0, []), (139, .goto (-72), 0, []), (142, .iinc 3 1, 0, []), (145, .goto (-88), 0, []), (148, .lconst 0, 0, []), (149, .lstore_n 3, 0, []), (150, .iconst 0, 0, []), (151, .istore 5, 0, []), (153, .iload 5, 0, [2]), (155, .iload_n 1, 0, []), (156, .if_icmp .ge 19, 0, []), (159, .lload_n 3, 0, []), (160, .aload_n 0, 0, []), (161, .getfield 81, 131, []), (164, .iload 5, 0, []), (166, .laload, 0, []), (167, .ladd, 0, []), (168, .lstore_n 3, 0, []), (169, .iinc 5 1, 0, []), (172, .goto (-19), 0, []), (175, .lload_n 3, 0, []), (176, .lreturn, 0, [])]
def M_280 : xM := (9, 3, 0, 6, c_280)
def c_281 : List xR := [(0, .aload_n 0, 0, []), (1, .iload_n 1, 0, []), (2, .invokevirtual 258, 306, []), (5, .ifCond .eq 10, 0, []), (8, .iload_n 2, 0, []), (9, .invokestatic 123, 228, []), (12, .ifCond .ne 5, 0, []), (15, .iconst (-1), 0, []), (16, .ireturn, 0, []), (17, .aload_n 0, 0, []), (18, .getfield 28, 98, []), (21, .sipush 980, 0, []), (24, .iaload, 0, []), (25, .istore_n 3, 0, []), (26, .aload_n 0, 0, []), (27, .getfield 28, 98, []), (30, .sipush 980, 0, []), (33, .iload_n 1, 0, []), (34, .iastore, 0, []), (35, .aload_n 0, 0, []), (36, .iload_n 2, 0, []), (37, .invokevirtual 333, 268, []), (40, .istore 4, 0, []), (42, .aload_n 0, 0, []), (43, .getfield 28, 98, []), (46, .sipush 980, 0, []), (49, .iload_n 3, 0, []), (50, .iastore, 0, []), (51, .iload 4, 0, []), (53, .ireturn, 0, [])]
def M_281 : xM := (9, 1, 0, 5, c_281)
def c_282 : List xR := [(0, .aload_n 0, 0, []), (1, .getfield 85, 132, []), (4, .ireturn, 0, [])]
def M_282 : xM := (9, 1, 0, 1, c_282)
def c_283 : List xR := [(0, .aload_n 0, 0, []), (1, .iconst (-1), 0, []), (2, .putfield 85, 132, []), (5, .aload_n 0, 0, []), (6, .iconst 1, 0, []), (7, .invokevirtual 251, 282, []), (10, .ifCond .ne 10, 0, []), (13, .aload_n 0, 0, []), (14, .bipush (-6), 0, []), (16, .invokevirtual 94, 223, []), (19, .ireturn, 0, []), (20, .aload_n 0, 0, []), (21, .iconst 1, 0, []), (22, .invokevirtual 357, 270, []), (25, .iconst 0, 0, []), (26, .istore_n 1, 0, []), (27, .iload_n 1, 0, [2, 3, 4]), (28, .sipush 15424, 0, []), (31, .if_icmp .ge 21, 0, []), (34, .aload_n 0, 0, []), (35, .getfield 72, 127, []), (38, .iload_n 1, 0, []), (39, .aload_n 0, 0, []), (40, .getfield 69, 126, []), (43, .iload_n 1, 0, []), (44, .iaload, 0, []), (45, .iastore, 0, []), (46, .iinc 1 1, 0, []), (49, .goto (-22), 0, []), (52, .aload_n 0, 0, []), (53, .getfield 11, 128, []), (56, .istore_n 1, 0, []), (57, .aload_n 0, 0, []), (58, .bipush 6, 0, []), (60, .invokevirtual 255, 303, []), (63, .aload_n 0, 0, []), (64, .iconst 0, 0, []), (65, .putfield 300, 123, []), (68, .aload_n 0, 0, []), (69, .iconst (-1), 0, []), (70, .putfield 303, 124, []), (73, .aload_n 0, 0, []), (74, .sipush 2400, 0, []), (77, .putfield 444, 133, []), (80, .aload_n 0, 0, []), (81, .getfield 444, 133, []), (84, .aload_n 0, 0, []), (85, .getfield 28, 98, []), (88, .sipush 987, 0, []), (91, .iaload, 0, []), (92, .iadd, 0, []), (93, .istore_n 2, 0, []), (94, .iconst 0, 0, []), (95, .istore_n 3, 0, []), (96, .aload_n 0, 0, [4]), (97, .getfield 444, 133, []), (100, .iload_n 2, 0, []), (101, .if_icmp .ge 73, 0, []), (104, .aload_n 0, 0, []), (105, .iload_n 2, 0, []), (106, .invokevirtual 447, 352, []), (109, .ifCond .eq 6, 0, []), (112, .goto 56, 0, []), (115, .aload_n 0, 0, []), (116, .iconst 1, 0, []), (117, .invokevirtual 363, 277, []), (120, .iconst 0, 0, []), (121, .istore 4, 0, []), (123, .iload 4, 0, [2]), (125, .sipush 15424, 0, []), (128, .if_icmp .ge 23, 0, []), (131, .aload_n 0, 0, []), (132, .getfield 69, 126, []), (135, .iload 4, 0, []), (137, .aload_n 0, 0, []), (138, .getfield 72, 127, []), (141, .iload 4, 0, []), (143, .iaload, 0, []), (144, .iastore, 0, []), (145, .iinc 4 1, 0, []), (148, .goto (-25), 0, []), (151, .aload_n 0, 0, []), (152, .iload_n 1, 0, []), (153, .putfield 11, 128, []), (156, .aload_n 0, 0, []), (157, .iload_n 3, 0, []), (158, .putfield 85, 132, []), (161, .aload_n 0, 0, []), (162, .bipush (-3), 0, []), (164, .invokevirtual 94, 223, []), (167, .ireturn, 0, []), (168, .iinc 3 1, 0, []), (171, .goto (-75), 0, []), (174, .aload_n 0, 0, []), (175, .aload_n 0, 0, []), (176, .getfield 300, 123, []), (179, .invokevirtual 14, 224, []), (182, .ireturn, 0, [])]
def M_283 : xM := (9, 1, 0, 5, c_283)
def c_284 : List xR := [(0, .aload_n 0, 0, []), (1, .iconst 1, 0, []), (2, .putfield 294, 121, []), (5, .aload_n 0, 0, []), (6, .iload_n 1, 0, []), (7, .putfield 261, 119, []), (10, .aload_n 0, 0, []), (11, .aload_n 0, 0, []), (12, .getfield 444, 133, []), (15, .putfield 264, 118, []), (18, .aload_n 0, 0, []), (19, .aload_n 0, 0, []), (20, .aload_n 0, 0, []), (21, .getfield 264, 118, []), (24, .invokevirtual 267, 247, []), (27, .putfield 450, 135, []), (30, .aload_n 0, 0, []), (31, .dup, 0, []), (32, .getfield 264, 118, []), (35, .iconst 1, 0, []), (36, .iadd, 0, []), (37, .putfield 264, 118, []), (40, .aload_n 0, 0, []), (41, .iconst 1, 0, []), (42, .putfield 453, 136, []), (45, .iconst 0, 0, []), (46, .istore_n 3, 0, []), (47, .iload_n 3, 0, [1]), (48, .aload_n 0, 0, []), (49, .getfield 450, 135, []), (52, .bipush 20, 0, []), (54, .if_icmp .ne 7, 0, []), (57, .iconst 2, 0, []), (58, .goto 4, 0, []), (61, .iconst 1, 0, []), (62, .if_icmp .ge 62, 0, [1]), (65, .iload_n 3, 0, []), (66, .ifCond .le 13, 0, []), (69, .aload_n 0, 0, []), (70, .dup, 0, []), (71, .getfield 264, 118, []), (74, .iconst 1, 0, []), (75, .iadd, 0, []), (76, .putfield 264, 118, []), (79, .aload_n 0, 0, [1]), (80, .iconst 0, 0, []), (81, .putfield 274, 120, []), (84, .aload_n 0, 0, []), (85, .getfield 88, 138, []), (88, .iload_n 3, 0, []), (89, .aload_n 0, 0, []), (90, .iload_n 2, 0, []), (91, .invokevirtual 291, 248, []), (94, .lastore, 0, []), (95, .aload_n 0, 0, []), (96, .aload_n 0, 0, []), (97, .getfield 453, 136, []), (100, .ifCond .eq 14, 0, []), (103, .aload_n 0, 0, []), (104, .getfield 274, 120, []), (107, .ifCond .ne 7, 0, []), (110, .iconst 1, 0, []), (111, .goto 4, 0, []), (114, .iconst 0, 0, []), (115, .putfield 453, 136, []), (118, .iinc 3 1, 0, []), (121, .goto (-74), 0, []), (124, .aload_n 0, 0, []), (125, .iconst 1, 0, []), (126, .putfield 456, 134, []), (129, .aload_n 0, 0, []), (130, .bipush 25, 0, []), (132, .invokevirtual 288, 252, []), (135, .ifCond .eq 30, 0, []), (138, .aload_n 0, 0, []), (139, .aload_n 0, 0, []), (140, .getfield 28, 98, []), (143, .sipush 3788, 0, []), (146, .aload_n 0, 0, []), (147, .getfield 264, 118, []), (150, .iadd, 0, []), (151, .iaload, 0, []), (152, .putfield 456, 134, []), (155, .aload_n 0, 0, []), (156, .dup, 0, []), (157, .getfield 264, 118, []), (160, .iconst 1, 0, []), (161, .iadd, 0, []), (162, .putfield 264, 118, []), (165, .aload_n 0, 0, [1, 3]), (166, .iconst 0, 0, []), (167, .putfield 274, 120, []), (170, .aload_n 0, 0, []), (171, .aload_n 0, 0, []), (172, .iconst 3, 0, []), (173, .invokevirtual 288, 252, []), (176, .ifCond .eq 11, 0, []), (179, .aload_n 0, 0, []), (180, .iload_n 2, 0, []), (181, .invokevirtual 315, 256, []), (184, .ifCond .eq 7, 0, []), (187, .iconst 1, 0, []), (188, .goto 4, 0, []), (191, .iconst 0, 0, []), (192, .putfield 459, 137, [1, 2, 3]), (195, .aload_n 0, 0, []), (196, .aload_n 0, 0, []), (197, .getfield 459, 137, []), (200, .ifCond .eq 14, 0, []), (203, .aload_n 0, 0, []), (204, .getfield 274, 120, []), (207, .ifCond .ne 7, 0, []), (210, .iconst 1, 0, []), (211, .goto 4, 0, []), (214, .iconst 0, 0, []), (215, .putfield 459, 137, []), (218, .aload_n 0, 0, []), (219, .dup, 0, []), (220, .getfield 264, 118, []), (223, .iconst 1, 0, []), (224, .iadd, 0, []), (225, .putfield 264, 118, []), (228, .return_, 0, [])]
def M_284 : xM := (9, 0, 0, 4, c_284)
def c_285 : List xR := [(0, .lload_n 0, 0, []), (1, .lconst 0, 0, []), (2, .lcmp, 0, []), (3, .ifCond .lt 11, 0, []), (6, .lload_n 0, 0, []), (7, .ldc2_w 462, 15, []), (10, .lcmp, 0, []), (11, .ifCond .le 7, 0, []), (14, .iconst (-1), 0, []), (15, .goto 5, 0, []), (18, .lload_n 0, 0, []), (19, .l2i, 0, []), (20, .ireturn, 0, [])]
def M_285 : xM := (9, 1, 1, 2, c_285)
def c_286 : List xR := [(0, .aload_n 0, 0, []), (1, .getfield 88, 138, []), (4, .iconst 0, 0, []), (5, .laload, 0, []), (6, .invokestatic 464, 355, []), (9, .istore_n 1, 0, []), (10, .aload_n 0, 0, []), (11, .getfield 450, 135, []), (14, .tableswitch 44 22 24 #[26, 32, 38], 0, []), (40, .aload_n 0, 0, []), (41, .iload_n 1, 0, []), (42, .invokevirtual 405, 314, []), (45, .ireturn, 0, []), (46, .aload_n 0, 0, []), (47, .iload_n 1, 0, []), (48, .invokevirtual 408, 322, []), (51, .ireturn, 0, []), (52, .aload_n 0, 0, []), (53, .iload_n 1, 0, []), (54, .invokevirtual 411, 324, []), (57, .ireturn, 0, []), (58, .aload_n 0, 0, []), (59, .iload_n 1, 0, []), (60, .aload_n 0, 0, []), (61, .getfield 88, 138, []), (64, .iconst 1, 0, []), (65, .laload, 0, []), (66, .invokestatic 464, 355, []), (69, .invokevirtual 399, 309, []), (72, .istore_n 2, 0, []), (73, .aload_n 0, 0, []), (74, .iload_n 2, 0, []), (75, .ifCond .ge 10, 0, []), (78, .aload_n 0, 0, []), (79, .getfield 303, 124, []), (82, .goto 4, 0, []), (85, .iload_n 2, 0, []), (86, .putfield 303, 124, []), (89, .iload_n 2, 0, []), (90, .ireturn, 0, [])]
def M_286 : xM := (9, 1, 0, 3, c_286)
def c_287 : List xR := [(0, .aload_n 0, 0, []), (1, .iload_n 1, 0, []), (2, .iconst 0, 0, []), (3, .invokevirtual 468, 353, []), (6, .aload_n 0, 0, []), (7, .getfield 456, 134, []), (10, .istore_n 2, 0, []), (11, .aload_n 0, 0, []), (12, .getfield 264, 118, []), (15, .istore_n 3, 0, []), (16, .iconst 0, 0, []), (17, .istore 4, 0, []), (19, .iload 4, 0, []), (21, .iload_n 2, 0, []), (22, .if_icmp .ge 51, 0, []), (25, .aload_n 0, 0, []), (26, .iload_n 1, 0, []), (27, .iconst 1, 0, []), (28, .invokevirtual 468, 353, []), (31, .aload_n 0, 0, []), (32, .getfield 459, 137, []), (35, .ifCond .ne 6, 0, []), (38, .goto 29, 0, []), (41, .aload_n 0, 0, []), (42, .getfield 453, 136, []), (45, .ifCond .eq 10, 0, []), (48, .aload_n 0, 0, []), (49, .invokevirtual 472, 354, []), (52, .ifCond .ge 5, 0, []), (55, .iconst 0, 0, []), (56, .ireturn, 0, []), (57, .aload_n 0, 0, []), (58, .dup, 0, []), (59, .getfield 300, 123, []), (62, .iconst 1, 0, []), (63, .iadd, 0, []), (64, .putfield 300, 123, []), (67, .iinc 4 1, 0, []), (70, .goto (-51), 0, []), (73, .aload_n 0, 0, []), (74, .iload_n 3, 0, []), (75, .putfield 444, 133, []), (78, .iconst 1, 0, []), (79, .ireturn, 0, [])]
def M_287 : xM := (9, 2, 0, 5, c_287)
def c_288 : List xR := [(0, .aload_n 0, 0, []), (1, .ldc2_w 475, 16, []), (4, .aload_n 0, 0, []), (5, .getfield 477, 141, []), (8, .i2l, 0, []), (9, .lmul, 0, []), (10, .ldc2_w 480, 17, []), (13, .ladd, 0, []), (14, .ldc2_w 482, 18, []), (17, .lrem, 0, []), (18, .l2i, 0, []), (19, .putfield 477, 141, []), (22, .aload_n 0, 0, []), (23, .getfield 477, 141, []), (26, .iload_n 1, 0, []), (27, .irem, 0, []), (28, .ireturn, 0, [])]
def M_288 : xM := (9, 1, 0, 2, c_288)
def c_289 : List xR := [(0, .aload_n 0, 0, []), (1, .bipush 40, 0, []), (3, .invokevirtual 484, 358, []), (6, .istore_n 1, 0, []), (7, .aload_n 0, 0, []), (8, .bipush 8, 0, []), (10, .invokevirtual 484, 358, []), (13, .istore_n 2, 0, []), (14, .aload_n 0, 0, []), (15, .bipush 8, 0, []), (17, .invokevirtual 484, 358, []), (20, .istore_n 3, 0, []), (21, .iload_n 3, 0, []), (22, .iconst 5, 0, []), (23, .if_icmp .ge 13, 0, []), (26, .aload_n 0, 0, []), (27, .iload_n 1, 0, []), (28, .iload_n 2, 0, []), (29, .invokevirtual 158, 264, []), (32, .pop, 0, []), (33, .goto 34, 0, []), (36, .iload_n 3, 0, []), (37, .bipush 7, 0, []), (39, .if_icmp .ge 12, 0, []), (42, .aload_n 0, 0, []), (43, .iload_n 1, 0, []), (44, .invokevirtual 393, 315, []), (47, .pop, 0, []), (48, .goto 19, 0, []), (51, .aload_n 0, 0, []), (52, .iload_n 2, 0, []), (53, .aload_n 0, 0, []), (54, .getfield 28, 98, []), (57, .sipush 960, 0, []), (60, .iaload, 0, []), (61, .invokestatic 336, 269, []), (64, .invokevirtual 396, 325, []), (67, .return_, 0, [])]
def M_289 : xM := (9, 0, 0, 4, c_289)
def c_290 : List xR := [(0, .iload_n 1, 0, []), (1, .iconst 0, 0, []), (2, .ldc 173, 7, []), (4, .invokestatic 18, 222, []), (7, .ifCond .eq 13, 0, []), (10, .iload_n 2, 0, []), (11, .iconst 1, 0, []), (12, .bipush 60, 0, []), (14, .invokestatic 18, 222, []), (17, .ifCond .ne 9, 0, []), (20, .aload_n 0, 0, []), (21, .iconst (-1), 0, []), (22, .invokevirtual 94, 223, []), (25, .ireturn, 0, []), (26, .aload_n 0, 0, []), (27, .iload_n 1, 0, []), (28, .putfield 477, 141, []), (31, .aload_n 0, 0, []), (32, .iconst 1, 0, []), (33, .putfield 487, 140, []), (36, .aload_n 0, 0, []), (37, .iconst 0, 0, []), (38, .invokevirtual 357, 270, []), (41, .iconst 0, 0, []), (42, .istore_n 3, 0, []), (43, .iload_n 3, 0, [1, 4]), (44, .iload_n 2, 0, []), (45, .if_icmp .ge 13, 0, []), (48, .aload_n 0, 0, []), (49, .invokevirtual 490, 357, []), (52, .iinc 3 1, 0, []), (55, .goto (-12), 0, []), (58, .aload_n 0, 0, []), (59, .invokevirtual 145, 254, []), (62, .istore_n 3, 0, []), (63, .iconst 0, 0, []), (64, .istore 4, 0, []), (66, .iload 4, 0, [1, 2]), (68, .bipush 40, 0, []), (70, .if_icmp .ge 22, 0, []), (73, .aload_n 0, 0, []), (74, .getfield 91, 139, []), (77, .iload 4, 0, []), (79, .aload_n 0, 0, []), (80, .iload 4, 0, []), (82, .invokevirtual 135, 241, []), (85, .iastore, 0, []), (86, .iinc 4 1, 0, []), (89, .goto (-23), 0, []), (92, .aload_n 0, 0, []), (93, .iconst 0, 0, []), (94, .invokevirtual 363, 277, []), (97, .aload_n 0, 0, []), (98, .iload_n 3, 0, []), (99, .invokevirtual 14, 224, []), (102, .ireturn, 0, [])]
def M_290 : xM := (9, 1, 0, 5, c_290)
def c_291 : List xR := [(0, .aload_n 0, 0, []), (1, .getfield 487, 140, []), (4, .ifCond .eq 22, 0, []), (7, .iload_n 1, 0, []), (8, .iconst 0, 0, []), (9, .bipush 39, 0, []), (11, .invokestatic 18, 222, []), (14, .ifCond .eq 12, 0, []), (17, .aload_n 0, 0, []), (18, .getfield 91, 139, []), (21, .iload_n 1, 0, []), (22, .iaload, 0, []), (23, .goto 4, 0, []), (26, .iconst (-1), 0, []), (27, .ireturn, 0, [])]
def M_291 : xM := (9, 1, 0, 2, c_291)
def c_292 : List xR := [(0, .iload_n 1, 0, []), (1, .tableswitch 190 0 17 #[87, 96, 101, 106, 115, 124, 133, 138, 143, 143, 143, 153, 160, 168, 177, 177, 177, 177], 0, []), (88, .aload_n 0, 0, []), (89, .getfield 28, 98, []), (92, .sipush 961, 0, []), (95, .iaload, 0, []), (96, .ireturn, 0, []), (97, .aload_n 0, 0, []), (98, .invokevirtual 420, 335, []), (101, .ireturn, 0, []), (102, .aload_n 0, 0, []), (103, .invokevirtual 145, 254, []), (106, .ireturn, 0, []), (107, .aload_n 0, 0, []), (108, .getfield 28, 98, []), (111, .sipush 960, 0, []), (114, .iaload, 0, []), (115, .ireturn, 0, []), (116, .aload_n 0, 0, []), (117, .getfield 28, 98, []), (120, .sipush 978, 0, []), (123, .iaload, 0, []), (124, .ireturn, 0, []), (125, .aload_n 0, 0, []), (126, .getfield 28, 98, []), (129, .sipush 979, 0, []), (132, .iaload, 0, []), (133, .ireturn, 0, []), (134, .aload_n 0, 0, []), (135, .getfield 11, 128, []), (138, .ireturn, 0, []), (139, .aload_n 0, 0, []), (140, .getfield 152, 109, []), (143, .ireturn, 0, []), (144, .aload_n 0, 0, []), (145, .getfield 7, 97, []), (148, .iload_n 1, 0, []), (149, .bipush 7, 0, []), (151, .isub, 0, []), (152, .iaload, 0, []), (153, .ireturn, 0, []), (154, .aload_n 0, 0, []), (155, .getfield 7, 97, []), (158, .iconst 5, 0, []), (159, .iaload, 0, []), (160, .ireturn, 0, []), (161, .aload_n 0, 0, []), (162, .getfield 7, 97, []), (165, .bipush 6, 0, []), (167, .iaload, 0, []), (168, .ireturn, 0, []), (169, .aload_n 0, 0, []), (170, .getfield 28, 98, []), (173, .sipush 980, 0, []), (176, .iaload, 0, []), (177, .ireturn, 0, []), (178, .aload_n 0, 0, []), (179, .getfield 28, 98, []), (182, .iload_n 1, 0, []), (183, .bipush 14, 0, []), (185, .isub, 0, []), (186, .invokestatic 149, 262, []), (189, .iaload, 0, []), (190, .ireturn, 0, []), (191, .iconst (-1), 0, []), (192, .ireturn, 0, [])]
def M_292 : xM := (9, 1, 0, 2, c_292)
def c_293 : List xR := [(0, .aload_n 0, 0, []), (1, .getfield 3, 96, []), (4, .ireturn, 0, [])]
def M_293 : xM := (9, 1, 0, 1, c_293)
def c_294 : List xR := [(0, .iload_n 0, 0, []), (1, .iload_n 0, 0, []), (2, .iconst 1, 0, []), (3, .iushr, 0, []), (4, .ldc_w 265, 3, []), (7, .iand, 0, []), (8, .isub, 0, []), (9, .istore_n 0, 0, []), (10, .iload_n 0, 0, []), (11, .ldc_w 266, 4, []), (14, .iand, 0, []), (15, .iload_n 0, 0, []), (16, .iconst 2, 0, []), (17, .iushr, 0, []), (18, .ldc_w 266, 4, []), (21, .iand, 0, []), (22, .iadd, 0, []), (23, .istore_n 0, 0, []), (24, .iload_n 0, 0, []), (25, .iload_n 0, 0, []), (26, .iconst 4, 0, []), (27, .iushr, 0, []), (28, .iadd, 0, []), (29, .ldc_w 267, 5, []), (32, .iand, 0, []), (33, .istore_n 0, 0, []), (34, .iload_n 0, 0, []), (35, .iload_n 0, 0, []), (36, .bipush 8, 0, []), (38, .iushr, 0, []), (39, .iadd, 0, []), (40, .istore_n 0, 0, []), (41, .iload_n 0, 0, []), (42, .iload_n 0, 0, []), (43, .bipush 16, 0, []), (45, .iushr, 0, []), (46, .iadd, 0, []), (47, .istore_n 0, 0, []), (48, .iload_n 0, 0, []), (49, .bipush 63, 0, []), (51, .iand, 0, []), (52, .ireturn, 0, [])]
def M_294 : xM := (12, 1, 1, 1, c_294)
def c_295 : List xR := [(0, .iload_n 1, 0, []), (1, .iload_n 2, 0, []), (2, .if_icmp .le 44, 0, []), (5, .new 43, 9999, []), (8, .dup, 0, []), (9, .new 45, 9999, []), (12, .dup, 0, []), (13, .invokespecial 47, 9999, []), (16, .ldc 48, 9999, []), (18, .invokevirtual 50, 9999, []), (21, .iload_n 1, 0, []), (22, .invokevirtual 54, 9999, []), (25, .ldc 57, 9999, []), (27, .invokevirtual 50, 9999, []), (30, .iload_n 2, 0, []), (31, .invokevirtual 54, 9999, []), (34, .ldc 59, 9999, []), (36, .invokevirtual 50, 9999, []), (39, .invokevirtual 61, 9999, []), (42, .invokespecial 65, 9999, []), (45, .athrow, 0, []), (46, .iload_n 1, 0, []), (47, .ifCond .ge 12, 0, []), (50, .new 68, 9999, []), (53, .dup, 0, []), (54, .iload_n 1, 0, []), (55, .invokespecial 70, 9999, []), (58, .athrow, 0, []), (59, .iload_n 2, 0, []), (60, .iload_n 0, 0, []), (61, .if_icmp .le 12, 0, []), (64, .new 68, 9999, []), (67, .dup, 0, []), (68, .iload_n 2, 0, []), (69, .invokespecial 70, 9999, []), (72, .athrow, 0, []), (73, .return_, 0, [])]
def M_295 : xM := (11, 0, 1, 3, c_295)
def c_296 : List xR := [(0, .iconst 0, 0, []), (1, .istore_n 3, 0, []), (2, .aload_n 0, 0, []), (3, .arraylength, 0, []), (4, .istore 4, 0, []), (6, .iload_n 3, 0, []), (7, .iload 4, 0, []), (9, .if_icmp .ge 13, 0, []), (12, .aload_n 0, 0, []), (13, .iload_n 3, 0, []), (14, .lload_n 1, 0, []), (15, .lastore, 0, []), (16, .iinc 3 1, 0, []), (19, .goto (-13), 0, []), (22, .return_, 0, [])]
def M_296 : xM := (11, 0, 1, 5, c_296)
def c_297 : List xR := [(0, .iconst 0, 0, []), (1, .istore_n 2, 0, []), (2, .aload_n 0, 0, []), (3, .arraylength, 0, []), (4, .istore_n 3, 0, []), (5, .iload_n 2, 0, []), (6, .iload_n 3, 0, []), (7, .if_icmp .ge 13, 0, []), (10, .aload_n 0, 0, []), (11, .iload_n 2, 0, []), (12, .iload_n 1, 0, []), (13, .iastore, 0, []), (14, .iinc 2 1, 0, []), (17, .goto (-12), 0, []), (20, .return_, 0, [])]
def M_297 : xM := (11, 0, 1, 4, c_297)
def c_298 : List xR := [(0, .aload_n 0, 0, []), (1, .arraylength, 0, []), (2, .iload_n 1, 0, []), (3, .iload_n 2, 0, []), (4, .invokestatic 13, 88, []), (7, .iload_n 1, 0, []), (8, .istore 4, 0, []), (10, .iload 4, 0, [1]), (12, .iload_n 2, 0, []), (13, .if_icmp .ge 14, 0, []), (16, .aload_n 0, 0, []), (17, .iload 4, 0, []), (19, .iload_n 3, 0, []), (20, .iastore, 0, []), (21, .iinc 4 1, 0, []), (24, .goto (-14), 0, []), (27, .return_, 0, [])]
def M_298 : xM := (11, 0, 1, 5, c_298)
def c_299 : List xR := [(0, .iload_n 1, 0, []), (1, .aload_n 0, 0, []), (2, .arraylength, 0, []), (3, .if_icmp .ne 11, 0, []), (6, .aload_n 0, 0, []), (7, .invokevirtual 316, 123, []), (10, .checkcast 317, 18, []), (13, .areturn, 0, []), (14, .iload_n 1, 0, []), (15, .newarray .int, 0, []), (17, .astore_n 2, 0, []), (18, .aload_n 0, 0, []), (19, .iconst 0, 0, []), (20, .aload_n 2, 0, []), (21, .iconst 0, 0, []), (22, .aload_n 0, 0, []), (23, .arraylength, 0, []), (24, .iload_n 1, 0, []), (25, .invokestatic 304, 124, []), (28, .invokestatic 150, 125, []), (31, .aload_n 2, 0, []), (32, .areturn, 0, [])]
def M_299 : xM := (11, 4, 1, 3, c_299)
def c_300 : List xR := [(0, .new 7, 0, []), (3, .dup, 0, []), (4, .invokespecial 9, 0, []), (7, .astore_n 1, 0, []), (8, .new 10, 23, []), (11, .dup, 0, []), (12, .invokespecial 12, 219, []), (15, .astore_n 2, 0, []), (16, .iconst 0, 0, []), (17, .istore_n 3, 0, []), (18, .iload_n 3, 0, []), (19, .aload_n 0, 0, []), (20, .arraylength, 0, []), (21, .bipush 6, 0, []), (23, .isub, 0, []), (24, .if_icmp .gt 1131, 0, []), (27, .aload_n 0, 0, []), (28, .iload_n 3, 0, []), (29, .iaload, 0, []), (30, .bipush 63, 0, []), (32, .iand, 0, []), (33, .tableswitch 1116 0 39 #[175, 208, 241, 274, 297, 330, 363, 426, 449, 462, 475, 488, 501, 514, 527, 550, 583, 606, 629, 652, 665, 698, 721, 744, 757, 770, 793, 816, 829, 862, 875, 888, 911, 945, 978, 1011, 1034, 1057, 1080, 1103], 0, []), (208, .aload_n 1, 0, []), (209, .aload_n 0, 0, []), (210, .iload_n 3, 0, []), (211, .iconst 1, 0, []), (212, .iadd, 0, []), (213, .iaload, 0, []), (214, .aload_n 0, 0, []), (215, .iload_n 3, 0, []), (216, .iconst 2, 0, []), (217, .iadd, 0, []), (218, .iaload, 0, []), (219, .invokevirtual 13, 19, []), (222, .aload_n 2, 0, []), (223, .aload_n 0, 0, []), (224, .iload_n 3, 0, []), (225, .iconst 1, 0, []), (226, .iadd, 0, []), (227, .iaload, 0, []), (228, .aload_n 0, 0, []), (229, .iload_n 3, 0, []), (230, .iconst 2, 0, []), (231, .iadd, 0, []), (232, .iaload, 0, []), (233, .invokevirtual 17, 227, []), (236, .if_icmp .eq 913, 0, []), (239, .iconst 0, 0, []), (240, .ireturn, 0, []), (241, .aload_n 1, 0, []), (242, .aload_n 0, 0, []), (243, .iload_n 3, 0, []), (244, .iconst 1, 0, []), (245, .iadd, 0, []), (246, .iaload, 0, []), (247, .aload_n 0, 0, []), (248, .iload_n 3, 0, []), (249, .iconst 2, 0, []), (250, .iadd, 0, []), (251, .iaload, 0, []), (252, .invokevirtual 18, 24, []), (255, .aload_n 2, 0, []), (256, .aload_n 0, 0, []), (257, .iload_n 3, 0, []), (258, .iconst 1, 0, []), (259, .iadd, 0, []), (260, .iaload, 0, []), (261, .aload_n 0, 0, []), (262, .iload_n 3, 0, []), (263, .iconst 2, 0, []), (264, .iadd, 0, []), (265, .iaload, 0, []), (266, .invokevirtual 21, 231, []), (269, .if_icmp .eq 880, 0, []), (272, .iconst 0, 0, []), (273, .ireturn, 0, []), (274, .aload_n 1, 0, []), (275, .aload_n 0, 0, []), (276, .iload_n 3, 0, []), (277, .iconst 1, 0, []), (278, .iadd, 0, []), (279, .iaload, 0, []), (280, .aload_n 0, 0, []), (281, .iload_n 3, 0, []), (282, .iconst 2, 0, []), (283, .iadd, 0, []), (284, .iaload, 0, []), (285, .invokevirtual 22, 25, []), (288, .aload_n 2, 0, []), (289, .aload_n 0, 0, []), (290, .iload_n 3, 0, []), (291, .iconst 1, 0, []), (292, .iadd, 0, []), (293, .iaload, 0, []), (294, .aload_n 0, 0, []), (295, .iload_n 3, 0, []), (296, .iconst 2, 0, []), (297, .iadd, 0, []), (298, .iaload, 0, []), (299, .invokevirtual 25, 232, []), (302, .if_icmp .eq 847, 0, []), (305, .iconst 0, 0, []), (306, .ireturn, 0, []), (307, .aload_n 1, 0, []), (308, .aload_n 0, 0, []), (309, .iload_n 3, 0, []), (310, .iconst 1, 0, []), (311, .iadd, 0, []), (312, .iaload, 0, []), (313, .invokevirtual 26, 28, []), (316, .aload_n 2, 0, []), (317, .aload_n 0, 0, []), (318, .iload_n 3, 0, []), (319, .iconst 1, 0, []), (320, .iadd, 0, []), (321, .iaload, 0, []), (322, .invokevirtual 30, 234, []), (325, .if_icmp .eq 824, 0, []), (328, .iconst 0, 0, []), (329, .ireturn, 0, []), (330, .aload_n 1, 0, []), (331, .aload_n 0, 0, []), (332, .iload_n 3, 0, []), (333, .iconst 1, 0, []), (334, .iadd, 0, []), (335, .iaload, 0, []), (336, .aload_n 0, 0, []), (337, .iload_n 3, 0, []), (338, .iconst 2, 0, []), (339, .iadd, 0, []), (340, .iaload, 0, []), (341, .invokevirtual 31, 30, []), (344, .aload_n 2, 0, []), (345, .aload_n 0, 0, []), (346, .iload_n 3, 0, []), (347, .iconst 1, 0, []), (348, .iadd, 0, []), (349, .iaload, 0, []), (350, .aload_n 0, 0, []), (351, .iload_n 3, 0, []), (352, .iconst 2, 0, []), (353, .iadd, 0, []), (354, .iaload, 0, []), (355, .invokevirtual 34, 238, []), (358, .if_icmp .eq 791, 0, []), (361, .iconst 0, 0, []), (362, .ireturn, 0, []), (363, .aload_n 1, 0, []), (364, .aload_n 0, 0, []), (365, .iload_n 3, 0, []), (366, .iconst 1, 0, []), (367, .iadd, 0, []), (368, .iaload, 0, []), (369, .aload_n 0, 0, []), (370, .iload_n 3, 0, []), (371, .iconst 2, 0, []), (372, .iadd, 0, []), (373, .iaload, 0, []), (374, .invokevirtual 35, 54, []), (377, .aload_n 2, 0, []), (378, .aload_n 0, 0, []), (379, .iload_n 3, 0, []), (380, .iconst 1, 0, []), (381, .iadd, 0, []), (382, .iaload, 0, []), (383, .aload_n 0, 0, []), (384, .iload_n 3, 0, []), (385, .iconst 2, 0, []), (386, .iadd, 0, []), (387, .iaload, 0, []), (388, .invokevirtual 38, 260, []), (391, .if_icmp .eq 758, 0, []), (394, .iconst 0, 0, []), (395, .ireturn, 0, []), (396, .aload_n 1, 0, []), (397, .aload_n 0, 0, []), (398, .iload_n 3, 0, []), (399, .iconst 1, 0, []), (400, .iadd, 0, []), (401, .iaload, 0, []), (402, .aload_n 0, 0, []), (403, .iload_n 3, 0, []), (404, .iconst 2, 0, []), (405, .iadd, 0, []), (406, .iaload, 0, []), (407, .aload_n 0, 0, []), (408, .iload_n 3, 0, []), (409, .iconst 3, 0, []), (410, .iadd, 0, []), (411, .iaload, 0, []), (412, .aload_n 0, 0, []), (413, .iload_n 3, 0, []), (414, .iconst 4, 0, []), (415, .iadd, 0, []), (416, .iaload, 0, []), (417, .aload_n 0, 0, []), (418, .iload_n 3, 0, []), (419, .iconst 5, 0, []), (420, .iadd, 0, []), (421, .iaload, 0, []), (422, .invokevirtual 39, 63, []), (425, .aload_n 2, 0, []), (426, .aload_n 0, 0, []), (427, .iload_n 3, 0, []), (428, .iconst 1, 0, []), (429, .iadd, 0, []), (430, .iaload, 0, []), (431, .aload_n 0, 0, []), (432, .iload_n 3, 0, []), (433, .iconst 2, 0, []), (434, .iadd, 0, []), (435, .iaload, 0, []), (436, .aload_n 0, 0, []), (437, .iload_n 3, 0, []), (438, .iconst 3, 0, []), (439, .iadd, 0, []), (440, .iaload, 0, []), (441, .aload_n 0, 0, []), (442, .iload_n 3, 0, []), (443, .iconst 4, 0, []), (444, .iadd, 0, []), (445, .iaload, 0, []), (446, .aload_n 0, 0, []), (447, .iload_n 3, 0, []), (448, .iconst 5, 0, []), (449, .iadd, 0, []), (450, .iaload, 0, []), (451, .invokevirtual 43, 279, []), (454, .if_icmp .eq 695, 0, []), (457, .iconst 0, 0, []), (458, .ireturn, 0, []), (459, .aload_n 1, 0, []), (460, .aload_n 0, 0, []), (461, .iload_n 3, 0, []), (462, .iconst 1, 0, []), (463, .iadd, 0, []), (464, .iaload, 0, []), (465, .invokevirtual 44, 65, []), (468, .aload_n 2, 0, []), (469, .aload_n 0, 0, []), (470, .iload_n 3, 0, []), (471, .iconst 1, 0, []), (472, .iadd, 0, []), (473, .iaload, 0, []), (474, .invokevirtual 47, 280, []), (477, .if_icmp .eq 672, 0, []), (480, .iconst 0, 0, []), (481, .ireturn, 0, []), (482, .aload_n 1, 0, []), (483, .invokevirtual 48, 66, []), (486, .aload_n 2, 0, []), (487, .invokevirtual 52, 263, []), (490, .if_icmp .eq 659, 0, []), (493, .iconst 0, 0, []), (494, .ireturn, 0, []), (495, .aload_n 1, 0, []), (496, .invokevirtual 53, 94, []), (499, .aload_n 2, 0, []), (500, .invokevirtual 56, 278, []), (503, .if_icmp .eq 646, 0, []), (506, .iconst 0, 0, []), (507, .ireturn, 0, []), (508, .aload_n 1, 0, []), (509, .invokevirtual 57, 95, []), (512, .aload_n 2, 0, []), (513, .invokevirtual 60, 281, []), (516, .if_icmp .eq 633, 0, []), (519, .iconst 0, 0, []), (520, .ireturn, 0, []), (521, .aload_n 1, 0, []), (522, .invokevirtual 61, 127, []), (525, .aload_n 2, 0, []), (526, .invokevirtual 64, 351, []), (529, .if_icmp .eq 620, 0, []), (532, .iconst 0, 0, []), (533, .ireturn, 0, []), (534, .aload_n 1, 0, []), (535, .invokevirtual 65, 156, []), (538, .aload_n 2, 0, []), (539, .invokevirtual 68, 304, []), (542, .if_icmp .eq 607, 0, []), (545, .iconst 0, 0, []), (546, .ireturn, 0, []), (547, .aload_n 1, 0, []), (548, .invokevirtual 69, 157, []), (551, .aload_n 2, 0, []), (552, .invokevirtual 72, 350, []), (555, .if_icmp .eq 594, 0, []), (558, .iconst 0, 0, []), (559, .ireturn, 0, []), (560, .aload_n 1, 0, []), (561, .aload_n 0, 0, []), (562, .iload_n 3, 0, []), (563, .iconst 1, 0, []), (564, .iadd, 0, []), (565, .iaload, 0, []), (566, .invokevirtual 73, 158, []), (569, .aload_n 2, 0, []), (570, .aload_n 0, 0, []), (571, .iload_n 3, 0, []), (572, .iconst 1, 0, []), (573, .iadd, 0, []), (574, .iaload, 0, []), (575, .invokevirtual 76, 305, []), (578, .if_icmp .eq 571, 0, []), (581, .iconst 0, 0, []), (582, .ireturn, 0, []), (583, .aload_n 1, 0, []), (584, .aload_n 0, 0, []), (585, .iload_n 3, 0, []), (586, .iconst 1, 0, []), (587, .iadd, 0, []), (588, .iaload, 0, []), (589, .aload_n 0, 0, []), (590, .iload_n 3, 0, []), (591, .iconst 2, 0, []), (592, .iadd, 0, []), (593, .iaload, 0, []), (594, .invokevirtual 77, 159, []), (597, .aload_n 2, 0, []), (598, .aload_n 0, 0, []), (599, .iload_n 3, 0, []), (600, .iconst 1, 0, []), (601, .iadd, 0, []), (602, .iaload, 0, []), (603, .aload_n 0, 0, []), (604, .iload_n 3, 0, []), (605, .iconst 2, 0, []), (606, .iadd, 0, []), (607, .iaload, 0, []), (608, .invokevirtual 80, 308, []), (611, .if_icmp .eq 538, 0, []), (614, .iconst 0, 0, []), (615, .ireturn, 0, []), (616, .aload_n 1, 0, []), (617, .aload_n 0, 0, []), (618, .iload_n 3, 0, []), (619, .iconst 1, 0, []), (620, .iadd, 0, []), (621, .iaload, 0, []), (622, .invokevirtual 81, 161, []), (625, .aload_n 2, 0, []), (626, .aload_n 0, 0, []), (627, .iload_n 3, 0, []), (628, .iconst 1, 0, []), (629, .iadd, 0, []), (630, .iaload, 0, []), (631, .invokevirtual 84, 313, []), (634, .if_icmp .eq 515, 0, []), (637, .iconst 0, 0, []), (638, .ireturn, 0, []), (639, .aload_n 1, 0, []), (640, .aload_n 0, 0, []), (641, .iload_n 3, 0, []), (642, .iconst 1, 0, []), (643, .iadd, 0, []), (644, .iaload, 0, []), (645, .invokevirtual 85, 162, []), (648, .aload_n 2, 0, []), (649, .aload_n 0, 0, []), (650, .iload_n 3, 0, []), (651, .iconst 1, 0, []), (652, .iadd, 0, []), (653, .iaload, 0, []), (654, .invokevirtual 88, 321, []), (657, .if_icmp .eq 492, 0, []), (660, .iconst 0, 0, []), (661, .ireturn, 0, []), (662, .aload_n 1, 0, []), (663, .aload_n 0, 0, []), (664, .iload_n 3, 0, []), (665, .iconst 1, 0, []), (666, .iadd, 0, []), (667, .iaload, 0, []), (668, .invokevirtual 89, 163, []), (671, .aload_n 2, 0, []), (672, .aload_n 0, 0, []), (673, .iload_n 3, 0, []), (674, .iconst 1, 0, []), (675, .iadd, 0, []), (676, .iaload, 0, []), (677, .invokevirtual 92, 323, []), (680, .if_icmp .eq 469, 0, []), (683, .iconst 0, 0, []), (684, .ireturn, 0, []), (685, .aload_n 1, 0, []), (686, .invokevirtual 93, 164, []), (689, .aload_n 2, 0, []), (690, .invokevirtual 96, 307, []), (693, .if_icmp .eq 456, 0, []), (696, .iconst 0, 0, []), (697, .ireturn, 0, []), (698, .aload_n 1, 0, []), (699, .aload_n 0, 0, []), (700, .iload_n 3, 0, []), (701, .iconst 1, 0, []), (702, .iadd, 0, []), (703, .iaload, 0, []), (704, .aload_n 0, 0, []), (705, .iload_n 3, 0, []), (706, .iconst 2, 0, []), (707, .iadd, 0, []), (708, .iaload, 0, []), (709, .invokevirtual 97, 166, []), (712, .aload_n 2, 0, []), (713, .aload_n 0, 0, []), (714, .iload_n 3, 0, []), (715, .iconst 1, 0, []), (716, .iadd, 0, []), (717, .iaload, 0, []), (718, .aload_n 0, 0, []), (719, .iload_n 3, 0, []), (720, .iconst 2, 0, []), (721, .iadd, 0, []), (722, .iaload, 0, []), (723, .invokevirtual 100, 328, []), (726, .if_icmp .eq 423, 0, []), (729, .iconst 0, 0, []), (730, .ireturn, 0, []), (731, .aload_n 1, 0, []), (732, .aload_n 0, 0, []), (733, .iload_n 3, 0, []), (734, .iconst 1, 0, []), (735, .iadd, 0, []), (736, .iaload, 0, []), (737, .invokevirtual 101, 168, []), (740, .aload_n 2, 0, []), (741, .aload_n 0, 0, []), (742, .iload_n 3, 0, []), (743, .iconst 1, 0, []), (744, .iadd, 0, []), (745, .iaload, 0, []), (746, .invokevirtual 104, 329, []), (749, .if_icmp .eq 400, 0, []), (752, .iconst 0, 0, []), (753, .ireturn, 0, []), (754, .aload_n 1, 0, []), (755, .aload_n 0, 0, []), (756, .iload_n 3, 0, []), (757, .iconst 1, 0, []), (758, .iadd, 0, []), (759, .iaload, 0, []), (760, .invokevirtual 105, 171, []), (763, .aload_n 2, 0, []), (764, .aload_n 0, 0, []), (765, .iload_n 3, 0, []), (766, .iconst 1, 0, []), (767, .iadd, 0, []), (768, .iaload, 0, []), (769, .invokevirtual 108, 330, []), (772, .if_icmp .eq 377, 0, []), (775, .iconst 0, 0, []), (776, .ireturn, 0, []), (777, .aload_n 1, 0, []), (778, .invokevirtual 109, 174, []), (781, .aload_n 2, 0, []), (782, .invokevirtual 112, 332, []), (785, .if_icmp .eq 364, 0, []), (788, .iconst 0, 0, []), (789, .ireturn, 0, []), (790, .aload_n 1, 0, []), (791, .invokevirtual 113, 176, []), (794, .aload_n 2, 0, []), (795, .invokevirtual 116, 334, []), (798, .if_icmp .eq 351, 0, []), (801, .iconst 0, 0, []), (802, .ireturn, 0, []), (803, .aload_n 1, 0, []), (804, .aload_n 0, 0, []), (805, .iload_n 3, 0, []), (806, .iconst 1, 0, []), (807, .iadd, 0, []), (808, .iaload, 0, []), (809, .invokevirtual 117, 178, []), (812, .aload_n 2, 0, []), (813, .aload_n 0, 0, []), (814, .iload_n 3, 0, []), (815, .iconst 1, 0, []), (816, .iadd, 0, []), (817, .iaload, 0, []), (818, .invokevirtual 120, 336, []), (821, .if_icmp .eq 328, 0, []), (824, .iconst 0, 0, []), (825, .ireturn, 0, []), (826, .aload_n 1, 0, []), (827, .aload_n 0, 0, []), (828, .iload_n 3, 0, []), (829, .iconst 1, 0, []), (830, .iadd, 0, []), (831, .iaload, 0, []), (832, .invokevirtual 121, 181, []), (835, .aload_n 2, 0, []), (836, .aload_n 0, 0, []), (837, .iload_n 3, 0, []), (838, .iconst 1, 0, []), (839, .iadd, 0, []), (840, .iaload, 0, []), (841, .invokevirtual 124, 337, []), (844, .if_icmp .eq 305, 0, []), (847, .iconst 0, 0, []), (848, .ireturn, 0, []), (849, .aload_n 1, 0, []), (850, .invokevirtual 125, 184, []), (853, .aload_n 2, 0, []), (854, .invokevirtual 128, 340, []), (857, .if_icmp .eq 292, 0, []), (860, .iconst 0, 0, []), (861, .ireturn, 0, []), (862, .aload_n 1, 0, []), (863, .aload_n 0, 0, []), (864, .iload_n 3, 0, []), (865, .iconst 1, 0, []), (866, .iadd, 0, []), (867, .iaload, 0, []), (868, .aload_n 0, 0, []), (869, .iload_n 3, 0, []), (870, .iconst 2, 0, []), (871, .iadd, 0, []), (872, .iaload, 0, []), (873, .invokevirtual 129, 186, []), (876, .aload_n 2, 0, []), (877, .aload_n 0, 0, []), (878, .iload_n 3, 0, []), (879, .iconst 1, 0, []), (880, .iadd, 0, []), (881, .iaload, 0, []), (882, .aload_n 0, 0, []), (883, .iload_n 3, 0, []), (884, .iconst 2, 0, []), (885, .iadd, 0, []), (886, .iaload, 0, []), (887, .invokevirtual 132, 341, []), (890, .if_icmp .eq 259, 0, []), (893, .iconst 0, 0, []), (894, .ireturn, 0, []), (895, .aload_n 1, 0, []), (896, .invokevirtual 133, 188, []), (899, .aload_n 2, 0, []), (900, .invokevirtual 136, 342, []), (903, .if_icmp .eq 246, 0, []), (906, .iconst 0, 0, []), (907, .ireturn, 0, []), (908, .aload_n 1, 0, []), (909, .invokevirtual 137, 189, []), (912, .aload_n 2, 0, []), (913, .invokevirtual 140, 343, []), (916, .if_icmp .eq 233, 0, []), (919, .iconst 0, 0, []), (920, .ireturn, 0, []), (921, .aload_n 1, 0, []), (922, .aload_n 0, 0, []), (923, .iload_n 3, 0, []), (924, .iconst 1, 0, []), (925, .iadd, 0, []), (926, .iaload, 0, []), (927, .invokevirtual 141, 194, []), (930, .aload_n 2, 0, []), (931, .aload_n 0, 0, []), (932, .iload_n 3, 0, []), (933, .iconst 1, 0, []), (934, .iadd, 0, []), (935, .iaload, 0, []), (936, .invokevirtual 144, 345, []), (939, .if_icmp .eq 210, 0, []), (942, .iconst 0, 0, []), (943, .ireturn, 0, []), (944, .aload_n 1, 0, []), (945, .aload_n 0, 0, []), (946, .iload_n 3, 0, []), (947, .iconst 1, 0, []), (948, .iadd, 0, []), (949, .iaload, 0, []), (950, .aload_n 0, 0, []), (951, .iload_n 3, 0, []), (952, .iconst 2, 0, []), (953, .iadd, 0, []), (954, .iaload, 0, []), (955, .invokevirtual 145, 197, []), (958, .aload_n 2, 0, []), (959, .aload_n 0, 0, []), (960, .iload_n 3, 0, []), (961, .iconst 1, 0, []), (962, .iadd, 0, []), (963, .iaload, 0, []), (964, .aload_n 0, 0, []), (965, .iload_n 3, 0, []), (966, .iconst 2, 0, []), (967, .iadd, 0, []), (968, .iaload, 0, []), (969, .invokevirtual 149, 348, []), (972, .lcmp, 0, []), (973, .ifCond .eq 176, 0, []), (976, .iconst 0, 0, []), (977, .ireturn, 0, []), (978, .aload_n 1, 0, []), (979, .aload_n 0, 0, []), (980, .iload_n 3, 0, []), (981, .iconst 1, 0, []), (982, .iadd, 0, []), (983, .iaload, 0, []), (984, .aload_n 0, 0, []), (985, .iload_n 3, 0, []), (986, .iconst 2, 0, []), (987, .iadd, 0, []), (988, .iaload, 0, []), (989, .invokevirtual 150, 200, []), (992, .aload_n 2, 0, []), (993, .aload_n 0, 0, []), (994, .iload_n 3, 0, []), (995, .iconst 1, 0, []), (996, .iadd, 0, []), (997, .iaload, 0, []), (998, .aload_n 0, 0, []), (999, .iload_n 3, 0, []), (1000, .iconst 2, 0, []), (1001, .iadd, 0, []), (1002, .iaload, 0, []), (1003, .invokevirtual 153, 349, []), (1006, .if_icmp .eq 143, 0, []), (1009, .iconst 0, 0, []), (1010, .ireturn, 0, []), (1011, .aload_n 1, 0, []), (1012, .aload_n 0, 0, []), (1013, .iload_n 3, 0, []), (1014, .iconst 1, 0, []), (1015, .iadd, 0, []), (1016, .iaload, 0, []), (1017, .aload_n 0, 0, []), (1018, .iload_n 3, 0, []), (1019, .iconst 2, 0, []), (1020, .iadd, 0, []), (1021, .iaload, 0, []), (1022, .invokevirtual 154, 202, []), (1025, .aload_n 2, 0, []), (1026, .aload_n 0, 0, []), (1027, .iload_n 3, 0, []), (1028, .iconst 1, 0, []), (1029, .iadd, 0, []), (1030, .iaload, 0, []), (1031, .aload_n 0, 0, []), (1032, .iload_n 3, 0, []), (1033, .iconst 2, 0, []), (1034, .iadd, 0, []), (1035, .iaload, 0, []), (1036, .invokevirtual 157, 356, []), (1039, .if_icmp .eq 110, 0, []), (1042, .iconst 0, 0, []), (1043, .ireturn, 0, []), (1044, .aload_n 1, 0, []), (1045, .aload_n 0, 0, []), (1046, .iload_n 3, 0, []), (1047, .iconst 1, 0, []), (1048, .iadd, 0, []), (1049, .iaload, 0, []), (1050, .invokevirtual 158, 206, []), (1053, .aload_n 2, 0, []), (1054, .aload_n 0, 0, []), (1055, .iload_n 3, 0, []), (1056, .iconst 1, 0, []), (1057, .iadd, 0, []), (1058, .iaload, 0, []), (1059, .invokevirtual 161, 359, []), (1062, .if_icmp .eq 87, 0, []), (1065, .iconst 0, 0, []), (1066, .ireturn, 0, []), (1067, .aload_n 1, 0, []), (1068, .aload_n 0, 0, []), (1069, .iload_n 3, 0, []), (1070, .iconst 1, 0, []), (1071, .iadd, 0, []), (1072, .iaload, 0, []), (1073, .invokevirtual 162, 207, []), (1076, .aload_n 2, 0, []), (1077, .aload_n 0, 0, []), (1078, .iload_n 3, 0, []), (1079, .iconst 1, 0, []), (1080, .iadd, 0, []), (1081, .iaload, 0, []), (1082, .invokevirtual 165, 221, []), (1085, .if_icmp .eq 64, 0, []), (1088, .iconst 0, 0, []), (1089, .ireturn, 0, []), (1090, .aload_n 1, 0, []), (1091, .aload_n 0, 0, []), (1092, .iload_n 3, 0, []), (1093, .iconst 1, 0, []), (1094, .iadd, 0, []), (1095, .iaload, 0, []), (1096, .invokevirtual 166, 216, []), (1099, .aload_n 2, 0, []), (1100, .aload_n 0, 0, []), (1101, .iload_n 3, 0, []), (1102, .iconst 1, 0, []), (1103, .iadd, 0, []), (1104, .iaload, 0, []), (1105, .invokevirtual 169, 225, []), (1108, .if_icmp .eq 41, 0, []), (1111, .iconst 0, 0, []), (1112, .ireturn, 0, []), (1113, .aload_n 1, 0, []), (1114, .aload_n 0, 0, []), (1115, .iload_n 3, 0, []), (1116, .iconst 1, 0, []), (1117, .iadd, 0, []), (1118, .iaload, 0, []), (1119, .invokevirtual 170, 217, []), (1122, .aload_n 2, 0, []), (1123, .aload_n 0, 0, []), (1124, .iload_n 3, 0, []), (1125, .iconst 1, 0, []), (1126, .iadd, 0, []), (1127, .iaload, 0, []), (1128, .invokevirtual 173, 360, []), (1131, .if_icmp .eq 18, 0, []), (1134, .iconst 0, 0, []), (1135, .ireturn, 0, []), (1136, .aload_n 1, 0, []), (1137, .invokevirtual 174, 218, []), (1140, .aload_n 2, 0, []), (1141, .invokevirtual 177, 361, []), (1144, .if_icmp .eq 5, 0, []), (1147, .iconst 0, 0, []), (1148, .ireturn, 0, []), (1149, .iinc 3 6, 0, []), (1152, .goto (-1134), 0, []), (1155, .iconst 1, 0, []), (1156, .ireturn, 0, [])]
def M_300 : xM := (10, 2, 1, 4, c_300)
def xprog : List xM := [M_0, M_1, M_2, M_3, M_4, M_5, M_6, M_7, M_8, M_9, M_10, M_11, M_12, M_13, M_14, M_15, M_16, M_17, M_18, M_19, M_20, M_21, M_22, M_23, M_24, M_25, M_26, M_27, M_28, M_29, M_30, M_31, M_32, M_33, M_34, M_35, M_36, M_37, M_38, M_39, M_40, M_41, M_42, M_43, M_44, M_45, M_46, M_47, M_48, M_49, M_50, M_51, M_52, M_53, M_54, M_55, M_56, M_57, M_58, M_59, M_60, M_61, M_62, M_63, M_64, M_65, M_66, M_67, M_68, M_69, M_70, M_71, M_72, M_73, M_74, M_75, M_76, M_77, M_78, M_79, M_80, M_81, M_82, M_83, M_84, M_85, M_86, M_87, M_88, M_89, M_90, M_91, M_92, M_93, M_94, M_95, M_96, M_97, M_98, M_99, M_100, M_101, M_102, M_103, M_104, M_105, M_106, M_107, M_108, M_109, M_110, M_111, M_112, M_113, M_114, M_115, M_116, M_117, M_118, M_119, M_120, M_121, M_122, M_123, M_124, M_125, M_126, M_127, M_128, M_129, M_130, M_131, M_132, M_133, M_134, M_135, M_136, M_137, M_138, M_139, M_140, M_141, M_142, M_143, M_144, M_145, M_146, M_147, M_148, M_149, M_150, M_151, M_152, M_153, M_154, M_155, M_156, M_157, M_158, M_159, M_160, M_161, M_162, M_163, M_164, M_165, M_166, M_167, M_168, M_169, M_170, M_171, M_172, M_173, M_174, M_175, M_176, M_177, M_178, M_179, M_180, M_181, M_182, M_183, M_184, M_185, M_186, M_187, M_188, M_189, M_190, M_191, M_192, M_193, M_194, M_195, M_196, M_197, M_198, M_199, M_200, M_201, M_202, M_203, M_204, M_205, M_206, M_207, M_208, M_209, M_210, M_211, M_212, M_213, M_214, M_215, M_216, M_217, M_218, M_219, M_220, M_221, M_222, M_223, M_224, M_225, M_226, M_227, M_228, M_229, M_230, M_231, M_232, M_233, M_234, M_235, M_236, M_237, M_238, M_239, M_240, M_241, M_242, M_243, M_244, M_245, M_246, M_247, M_248, M_249, M_250, M_251, M_252, M_253, M_254, M_255, M_256, M_257, M_258, M_259, M_260, M_261, M_262, M_263, M_264, M_265, M_266, M_267, M_268, M_269, M_270, M_271, M_272, M_273, M_274, M_275, M_276, M_277, M_278, M_279, M_280, M_281, M_282, M_283, M_284, M_285, M_286, M_287, M_288, M_289, M_290, M_291, M_292, M_293, M_294, M_295, M_296, M_297, M_298, M_299, M_300]
end
section
/-! ===== WHAT A RUN COMES TO: the abstract machine without its counter ===== -/
section XN
variable {β : Type}
def xdisp (go : Nat → List Value → List Value → xH → Option β) (cl : Nat → List Value → Nat → Nat → List Value → List Value → xH → Option β) (rn : Option Value → xH → Option β) : xN → Option β
  | .inl q => go q.1 q.2.1 q.2.2.1 q.2.2.2
  | .inr (.inl q) => cl q.1.1 q.1.2.1 q.1.2.2 q.2.1 q.2.2.1 q.2.2.2.1 q.2.2.2.2
  | .inr (.inr q) => rn q.1 q.2
abbrev xgo0 : Nat → List Value → List Value → xH → Option xN := fun pc ls st A => some (.inl (pc, ls, st, A))
abbrev xcl0 : Nat → List Value → Nat → Nat → List Value → List Value → xH → Option xN := fun mid args rk pc ls st A => some (.inr (.inl ((mid, args, rk), (pc, ls, st, A))))
abbrev xrn0 : Option Value → xH → Option xN := fun v A => some (.inr (.inr (v, A)))
variable (T : xT) (E : Nat × (Nat → Int32)) (own rt ini : Nat) (go : Nat → List Value → List Value → xH → Option β) (cl : Nat → List Value → Nat → Nat → List Value → List Value → xH → Option β) (rn : Option Value → xH → Option β)
theorem xn_inv (ik idx lk pc : Nat) (ls st : List Value) (A : xH) : xinv T own go cl ik idx lk pc ls st A = (xinv T own xgo0 xcl0 ik idx lk pc ls st A).bind (xdisp go cl rn) := by
  unfold xinv
  split
  · rfl
  · split
    · split <;> first
        | (split <;> first | rfl | (split <;> first | rfl | (simp only [Option.bind_assoc]; rfl)))
        | (split <;> first | rfl | (split <;> first | rfl))
    · rfl
theorem xn_sw (g : Nat → Option β) (g0 : Nat → Option xN) (h : ∀ q, g q = (g0 q).bind (xdisp go cl rn)) (pc dflt : Nat) (x : Int32) : ∀ (l : List Int) (c : Int), xsw g pc dflt x c l = (xsw g0 pc dflt x c l).bind (xdisp go cl rn)
  | [], c => h dflt
  | o :: l, c => by
    unfold xsw
    split
    · exact h _
    · exact xn_sw g g0 h pc dflt x l (c + 1)
theorem xn_ldA (v : Value) (k : Value → Option β) (k0 : Value → Option xN) (h : ∀ w, k w = (k0 w).bind (xdisp go cl rn)) : xldA v k = (xldA v k0).bind (xdisp go cl rn) := by
  unfold xldA
  split <;> first | exact h _ | rfl
theorem xn_ldI (v : Value) (k : Value → Option β) (k0 : Value → Option xN) (h : ∀ w, k w = (k0 w).bind (xdisp go cl rn)) : xldI v k = (xldI v k0).bind (xdisp go cl rn) := by
  unfold xldI
  split <;> first | exact h _ | rfl
theorem xn_ldL (v : Value) (k : Value → Option β) (k0 : Value → Option xN) (h : ∀ w, k w = (k0 w).bind (xdisp go cl rn)) : xldL v k = (xldL v k0).bind (xdisp go cl rn) := by
  unfold xldL
  split <;> first | exact h _ | rfl
theorem xn_st1 (ls : List Value) (i : Nat) (v : Value) (k : List Value → Option β) (k0 : List Value → Option xN) (h : ∀ w, k w = (k0 w).bind (xdisp go cl rn)) : xst1 ls i v k = (xst1 ls i v k0).bind (xdisp go cl rn) := by
  unfold xst1
  split
  · split
    · exact h _
    · split <;> first | exact h _ | rfl
  · rfl
theorem xn_st2 (ls : List Value) (i : Nat) (v : Value) (k : List Value → Option β) (k0 : List Value → Option xN) (h : ∀ w, k w = (k0 w).bind (xdisp go cl rn)) : xst2 ls i v k = (xst2 ls i v k0).bind (xdisp go cl rn) := by
  unfold xst2
  split
  · split
    · exact h _
    · split <;> first | exact h _ | rfl
  · rfl
theorem xn_icmp (c : ClassFile.Cond) (x y : Int32) (a b : Option β) (a0 b0 : Option xN) (h : a = a0.bind (xdisp go cl rn)) (h2 : b = b0.bind (xdisp go cl rn)) : xicmp c x y a b = (xicmp c x y a0 b0).bind (xdisp go cl rn) := by
  unfold xicmp
  split <;> split <;> assumption
theorem xn_get (lk idx pc : Nat) (ls st : List Value) (A : xH) : xget T own go lk idx pc ls st A = (xget T own xgo0 lk idx pc ls st A).bind (xdisp go cl rn) := by
  unfold xget
  split
  · rfl
  · split
    · split
      · split
        · simp only [Option.bind_assoc]; rfl
        · simp only [Option.bind_assoc]; rfl
        · simp only [Option.bind_assoc]
          congr 1
          funext q
          cases q <;> rfl
        · simp only [Option.bind_assoc]; rfl
      · rfl
    · rfl
theorem xn_put (lk idx pc : Nat) (ls st : List Value) (A : xH) : xput T own ini go lk idx pc ls st A = (xput T own ini xgo0 lk idx pc ls st A).bind (xdisp go cl rn) := by
  unfold xput
  split
  · rfl
  · split
    · split
      · split
        · split <;> first | rfl | (simp only [Option.bind_assoc]; rfl)
        · split
          · split <;> first | rfl | (simp only [Option.bind_assoc]; rfl)
          · rfl
        · split
          · split <;> first | rfl | (simp only [Option.bind_assoc]; rfl)
          · rfl
        · split <;> first | rfl | (simp only [Option.bind_assoc]; rfl)
        · rfl
      · rfl
    · rfl
theorem xn_newa (t : ArrayType) (pc : Nat) (ls st : List Value) (A : xH) : xnewa go t pc ls st A = (xnewa xgo0 t pc ls st A).bind (xdisp go cl rn) := by
  unfold xnewa
  split
  · split
    · rfl
    · split <;> rfl
  · rfl
theorem xn_bin (pc : Nat) (ls st : List Value) (A : xH) (f : Int32 → Int32 → Int32) : xbin go pc ls st A f = (xbin xgo0 pc ls st A f).bind (xdisp go cl rn) := by
  unfold xbin
  split <;> rfl
theorem xn_lbin (pc : Nat) (ls st : List Value) (A : xH) (f : Int64 → Int64 → Int64) : xlbin go pc ls st A f = (xlbin xgo0 pc ls st A f).bind (xdisp go cl rn) := by
  unfold xlbin
  split <;> rfl
theorem xn_binz (pc : Nat) (ls st : List Value) (A : xH) (f : Int32 → Int32 → Int32) : xbinz go pc ls st A f = (xbinz xgo0 pc ls st A f).bind (xdisp go cl rn) := by
  unfold xbinz
  split <;> first | rfl | (split <;> rfl)
theorem xn_lbinz (pc : Nat) (ls st : List Value) (A : xH) (f : Int64 → Int64 → Int64) : xlbinz go pc ls st A f = (xlbinz xgo0 pc ls st A f).bind (xdisp go cl rn) := by
  unfold xlbinz
  split <;> first | rfl | (split <;> rfl)
theorem xn_iald (t pc : Nat) (ls st : List Value) (A : xH) : xiald E go t pc ls st A = (xiald E xgo0 t pc ls st A).bind (xdisp go cl rn) := by
  unfold xiald
  split
  · simp only [Option.bind_assoc]; rfl
  · split
    · split <;> rfl
    · rfl
  · rfl
theorem xn_iast (t pc : Nat) (ls st : List Value) (A : xH) : xiast go t pc ls st A = (xiast xgo0 t pc ls st A).bind (xdisp go cl rn) := by
  unfold xiast
  split
  · simp only [Option.bind_assoc]; rfl
  · rfl
theorem xn_ldc (w lk idx pc : Nat) (ls st : List Value) (A : xH) : xldc T own go w lk idx pc ls st A = (xldc T own xgo0 w lk idx pc ls st A).bind (xdisp go cl rn) := by
  unfold xldc
  split
  · split <;> rfl
  · split
    · split <;> rfl
    · rfl
set_option maxHeartbeats 2000000 in
theorem xn_G (r : xR) (ls st : List Value) (A : xH) : xG T E own rt ini go cl rn r ls st A = (xeff T E own rt ini r ls st A).bind (xdisp go cl rn) := by
  obtain ⟨pc, ins, lk, dead⟩ := r
  unfold xeff
  cases ins <;> unfold xG <;> dsimp only <;> first
    | rfl
    | exact xn_inv ..
    | exact xn_get ..
    | exact xn_put ..
    | exact xn_newa ..
    | exact xn_bin ..
    | exact xn_lbin ..
    | exact xn_binz ..
    | exact xn_lbinz ..
    | exact xn_iald ..
    | exact xn_iast ..
    | exact xn_ldc ..
    | exact xn_ldA _ _ _ _ _ _ (fun _ => rfl)
    | exact xn_ldI _ _ _ _ _ _ (fun _ => rfl)
    | exact xn_ldL _ _ _ _ _ _ (fun _ => rfl)
    | (split <;> first
        | rfl
        | exact xn_icmp _ _ _ _ _ _ _ _ _ _ rfl rfl
        | exact xn_st1 _ _ _ _ _ _ _ _ (fun _ => rfl)
        | exact xn_st2 _ _ _ _ _ _ _ _ (fun _ => rfl)
        | exact xn_ldA _ _ _ _ _ _ (fun _ => xn_st1 _ _ _ _ _ _ _ _ (fun _ => rfl))
        | (refine xn_sw go cl rn _ _ ?_ _ _ _ _ _
           intro q
           rfl)
        | (simp only [Option.bind_assoc]; rfl)
        | (simp only [Option.bind_assoc]; congr 1; funext q; cases q <;> rfl)
        | (split <;> first
            | rfl
            | (simp only [Option.bind_assoc]; rfl)
            | (simp only [Option.bind_assoc]; congr 1; funext q; split <;> rfl)
            | (split <;> rfl)))
end XN
/-- one step, by its effect -/
def xon (P : List xM) (T : xT) (E : Nat × (Nat → Int32)) (call : Nat → List Value → xH → xO) (K : Nat → List Value → List Value → xH → xO) (m pc : Nat) (ls st : List Value) (A : xH) : xO := match P[m]? with
  | none => none
  | some M => match xfind M.2.2.2.2 pc with
    | none => none
    | some r => (xeff T E M.1 M.2.1 M.2.2.1 r (xmask r.2.2.2 ls) st A).bind (xdisp K (xcl call K) (fun v A => some (v, A)))
theorem xon_step {P : List xM} {T : xT} {E : Nat × (Nat → Int32)} {call : Nat → List Value → xH → xO} {K : Nat → List Value → List Value → xH → xO} {m pc : Nat} {ls st : List Value} {A : xH} {M : xM} (h : P[m]? = some M) : xstep T E call M K pc ls st A = xon P T E call K m pc ls st A := by
  unfold xstep xon
  rw [h]
  dsimp only
  cases xfind M.2.2.2.2 pc with
  | none => rfl
  | some r => exact xn_G ..
def xcallN (P : List xM) (T : xT) (E : Nat × (Nat → Int32)) (n d : Nat) : Nat → List Value → xH → xO := fun mid args B => match d with
  | 0 => none
  | e + 1 => xinto P mid args B fun l => xexec P T E n e mid 0 l [] B
theorem xexec_s (P : List xM) (T : xT) (E : Nat × (Nat → Int32)) (n d m pc : Nat) (ls st : List Value) (A : xH) : xexec P T E (n + 1) d m pc ls st A = xon P T E (xcallN P T E n d) (xexec P T E n d m) m pc ls st A := by
  show (match P[m]? with | none => none | some M => xstep T E _ M _ pc ls st A) = _
  cases h : P[m]? with
  | none => unfold xon; rw [h]
  | some M => exact xon_step h
/-- what a step needs of calls and of what goes on -/
theorem xcl_mono {c1 c2 : Nat → List Value → xH → xO} {K1 K2 : Nat → List Value → List Value → xH → xO} (hc : ∀ mid args B q, c1 mid args B = some q → c2 mid args B = some q) (hK : ∀ pc ls st A q, K1 pc ls st A = some q → K2 pc ls st A = some q) (mid : Nat) (args : List Value) (rk pc : Nat) (ls s : List Value) (A : xH) (q : Option Value × xH) (h : xcl c1 K1 mid args rk pc ls s A = some q) : xcl c2 K2 mid args rk pc ls s A = some q := by
  cases hq : c1 mid args A with
  | none =>
    unfold xcl at h
    split at h <;> rw [hq] at h <;> simp [xV, xI, xLo, xNn, xOp] at h
  | some w =>
    have hw := hc _ _ _ _ hq
    unfold xcl at h ⊢
    split at h <;> rw [hq] at h <;> rw [hw]
    all_goals
      obtain ⟨z, h1, h2⟩ := Option.bind_eq_some_iff.mp h
      rw [h1]
      first
        | exact hK _ _ _ _ _ h2
        | (obtain ⟨o, B⟩ := z
           cases o <;> exact hK _ _ _ _ _ h2)
theorem xcl_cont {cn : Nat → Nat → List Value → xH → xO} {Kn : Nat → Nat → List Value → List Value → xH → xO} {c : Nat → List Value → xH → xO} {K : Nat → List Value → List Value → xH → xO}
    (hcm : ∀ n k mid args B q, cn n mid args B = some q → cn (n + k) mid args B = some q) (hKm : ∀ n k pc ls st A q, Kn n pc ls st A = some q → Kn (n + k) pc ls st A = some q)
    (hc : ∀ mid args B q, c mid args B = some q → ∃ n, cn n mid args B = some q) (hK : ∀ pc ls st A q, K pc ls st A = some q → ∃ n, Kn n pc ls st A = some q) (mid : Nat) (args : List Value) (rk pc : Nat) (ls s : List Value) (A : xH) (q : Option Value × xH) (h : xcl c K mid args rk pc ls s A = some q) : ∃ n, xcl (cn n) (Kn n) mid args rk pc ls s A = some q := by
  cases hq : c mid args A with
  | none =>
    unfold xcl at h
    split at h <;> rw [hq] at h <;> simp [xV, xI, xLo, xNn, xOp] at h
  | some w =>
    obtain ⟨n1, hn1⟩ := hc _ _ _ _ hq
    have fin : ∀ (pc : Nat) (ls st : List Value) (B : xH), K pc ls st B = some q → ∃ n, cn n mid args A = some w ∧ Kn n pc ls st B = some q := by
      intro pc ls st B hB
      obtain ⟨n2, hn2⟩ := hK _ _ _ _ _ hB
      exact ⟨n1 + n2, hcm n1 n2 _ _ _ _ hn1, by rw [Nat.add_comm]; exact hKm n2 n1 _ _ _ _ _ hn2⟩
    unfold xcl at h
    split at h <;> rw [hq] at h
    all_goals
      obtain ⟨z, h1, h2⟩ := Option.bind_eq_some_iff.mp h
    · obtain ⟨n, a, b⟩ := fin _ _ _ _ h2
      exact ⟨n, by simp only [xcl]; rw [a, h1]; exact b⟩
    · obtain ⟨n, a, b⟩ := fin _ _ _ _ h2
      exact ⟨n, by simp only [xcl]; rw [a, h1]; exact b⟩
    · obtain ⟨n, a, b⟩ := fin _ _ _ _ h2
      exact ⟨n, by simp only [xcl]; rw [a, h1]; exact b⟩
    · obtain ⟨n, a, b⟩ := fin _ _ _ _ h2
      exact ⟨n, by simp only [xcl]; rw [a, h1]; exact b⟩
    · rename_i n0 n1' n2' n3'
      obtain ⟨o, B⟩ := z
      cases o with
      | none =>
        obtain ⟨n, a, b⟩ := fin _ _ _ _ h2
        refine ⟨n, ?_⟩
        unfold xcl
        split <;> first | contradiction | (rw [a, h1]; exact b)
      | some y =>
        obtain ⟨n, a, b⟩ := fin _ _ _ _ h2
        refine ⟨n, ?_⟩
        unfold xcl
        split <;> first | contradiction | (rw [a, h1]; exact b)
theorem xon_mono {P : List xM} {T : xT} {E : Nat × (Nat → Int32)} {c1 c2 : Nat → List Value → xH → xO} {K1 K2 : Nat → List Value → List Value → xH → xO} (hc : ∀ mid args B q, c1 mid args B = some q → c2 mid args B = some q) (hK : ∀ pc ls st A q, K1 pc ls st A = some q → K2 pc ls st A = some q) (m pc : Nat) (ls st : List Value) (A : xH) (q : Option Value × xH) (h : xon P T E c1 K1 m pc ls st A = some q) : xon P T E c2 K2 m pc ls st A = some q := by
  unfold xon at h ⊢
  split at h
  · cases h
  · split at h
    · cases h
    · obtain ⟨z, h1, h2⟩ := Option.bind_eq_some_iff.mp h
      rw [h1]
      obtain z | z | z := z
      · exact hK _ _ _ _ _ h2
      · exact xcl_mono hc hK _ _ _ _ _ _ _ _ h2
      · exact h2
theorem xon_cont {P : List xM} {T : xT} {E : Nat × (Nat → Int32)} {cn : Nat → Nat → List Value → xH → xO} {Kn : Nat → Nat → List Value → List Value → xH → xO} {c : Nat → List Value → xH → xO} {K : Nat → List Value → List Value → xH → xO}
    (hcm : ∀ n k mid args B q, cn n mid args B = some q → cn (n + k) mid args B = some q) (hKm : ∀ n k pc ls st A q, Kn n pc ls st A = some q → Kn (n + k) pc ls st A = some q)
    (hc : ∀ mid args B q, c mid args B = some q → ∃ n, cn n mid args B = some q) (hK : ∀ pc ls st A q, K pc ls st A = some q → ∃ n, Kn n pc ls st A = some q) (m pc : Nat) (ls st : List Value) (A : xH) (q : Option Value × xH) (h : xon P T E c K m pc ls st A = some q) : ∃ n, xon P T E (cn n) (Kn n) m pc ls st A = some q := by
  unfold xon at h ⊢
  split at h
  · cases h
  · split at h
    · cases h
    · obtain ⟨z, h1, h2⟩ := Option.bind_eq_some_iff.mp h
      rw [h1]
      obtain z | z | z := z
      · exact hK _ _ _ _ _ h2
      · exact xcl_cont hcm hKm hc hK _ _ _ _ _ _ _ _ h2
      · exact ⟨0, h2⟩
theorem xinto_mono {P : List xM} {mid : Nat} {args : List Value} {B : xH} {k1 k2 : List Value → xO} (h : ∀ l q, k1 l = some q → k2 l = some q) (q : Option Value × xH) (hq : xinto P mid args B k1 = some q) : xinto P mid args B k2 = some q := by
  unfold xinto at hq ⊢
  split at hq
  · cases hq
  · split at hq
    · rename_i h2; rw [if_pos h2]; exact h _ _ hq
    · cases hq
theorem xexec_1 (P : List xM) (T : xT) (E : Nat × (Nat → Int32)) : ∀ (n d m pc : Nat) (ls st : List Value) (A : xH) (q : Option Value × xH), xexec P T E n d m pc ls st A = some q → xexec P T E (n + 1) d m pc ls st A = some q
  | 0, _, _, _, _, _, _, _, h => by cases h
  | n + 1, d, m, pc, ls, st, A, q, h => by
    rw [xexec_s] at h ⊢
    refine xon_mono (fun mid args B w hw => ?_) (fun pc ls st A w hw => xexec_1 P T E n d m pc ls st A w hw) _ _ _ _ _ _ h
    unfold xcallN at hw ⊢
    cases d with
    | zero => cases hw
    | succ e => exact xinto_mono (fun l z hz => xexec_1 P T E n e mid 0 l [] B z hz) _ hw
theorem xexec_k (P : List xM) (T : xT) (E : Nat × (Nat → Int32)) (n k d m pc : Nat) (ls st : List Value) (A : xH) (q : Option Value × xH) (h : xexec P T E n d m pc ls st A = some q) : xexec P T E (n + k) d m pc ls st A = some q := by
  induction k with
  | zero => exact h
  | succ k ih => exact xexec_1 P T E _ d m pc ls st A q ih
/-- what a run from here comes to -/
noncomputable def xD (E : Nat × (Nat → Int32)) (d m pc : Nat) (ls st : List Value) (A : xH) : xO :=
  @dite xO (∃ q n, xexec xprog xtabs E n d m pc ls st A = some q) (Classical.propDecidable _) (fun h => some (Classical.choose h)) (fun _ => none)
theorem xD_iff {E : Nat × (Nat → Int32)} {d m pc : Nat} {ls st : List Value} {A : xH} {q : Option Value × xH} : xD E d m pc ls st A = some q ↔ ∃ n, xexec xprog xtabs E n d m pc ls st A = some q := by
  unfold xD
  by_cases h : ∃ q n, xexec xprog xtabs E n d m pc ls st A = some q
  · rw [dif_pos h]
    obtain ⟨n1, h1⟩ := Classical.choose_spec h
    constructor
    · intro e
      exact ⟨n1, by rw [h1]; exact e⟩
    · rintro ⟨n2, h2⟩
      have a := xexec_k _ _ _ n1 n2 _ _ _ _ _ _ _ h1
      have b := xexec_k _ _ _ n2 n1 _ _ _ _ _ _ _ h2
      rw [Nat.add_comm] at b
      exact a.symm.trans b
  · rw [dif_neg h]
    constructor
    · intro e; cases e
    · rintro ⟨n, e⟩; exact absurd ⟨q, n, e⟩ h
/-- a call -/
noncomputable def xC (E : Nat × (Nat → Int32)) (d mid : Nat) (args : List Value) (A : xH) : xO := xinto xprog mid args A fun l => xD E d mid 0 l [] A
noncomputable def xCD (E : Nat × (Nat → Int32)) (d : Nat) : Nat → List Value → xH → xO := fun mid args B => match d with
  | 0 => none
  | e + 1 => xC E e mid args B
theorem opt_ext {α : Type} {a b : Option α} (h : ∀ q, a = some q ↔ b = some q) : a = b := by
  cases a with
  | none =>
    cases b with
    | none => rfl
    | some y => exact absurd ((h y).mpr rfl) (by intro e; cases e)
  | some x => exact ((h x).mp rfl).symm
theorem xcallN_k {P : List xM} {T : xT} {E : Nat × (Nat → Int32)} (d n k mid : Nat) (args : List Value) (B : xH) (q : Option Value × xH) (h : xcallN P T E n d mid args B = some q) : xcallN P T E (n + k) d mid args B = some q := by
  unfold xcallN at h ⊢
  cases d with
  | zero => cases h
  | succ e => exact xinto_mono (fun l z hz => xexec_k P T E n k e mid 0 l [] B z hz) _ h
theorem xC_lim {E : Nat × (Nat → Int32)} {e mid : Nat} {args : List Value} {B : xH} {w : Option Value × xH} (hw : xC E e mid args B = some w) : ∃ n, xcallN xprog xtabs E n (e + 1) mid args B = some w := by
  unfold xC at hw
  cases hM : xprog[mid]? with
  | none => simp only [xinto, hM] at hw; cases hw
  | some M =>
    simp only [xinto, hM] at hw
    by_cases hr : xrecv M args B = true ∧ (xspread args).length ≤ M.2.2.2.1
    · rw [if_pos hr] at hw
      obtain ⟨n, hn⟩ := xD_iff.mp hw
      refine ⟨n, ?_⟩
      show xinto xprog mid args B (fun l => xexec xprog xtabs E n e mid 0 l [] B) = some w
      simp only [xinto, hM]
      rw [if_pos hr]
      exact hn
    · rw [if_neg hr] at hw
      cases hw
theorem xD_on (E : Nat × (Nat → Int32)) (d m pc : Nat) (ls st : List Value) (A : xH) : xD E d m pc ls st A = xon xprog xtabs E (xCD E d) (xD E d m) m pc ls st A := by
  refine opt_ext (fun q => ?_)
  constructor
  · intro h
    obtain ⟨n, hn⟩ := xD_iff.mp h
    cases n with
    | zero => cases hn
    | succ n =>
      rw [xexec_s] at hn
      refine xon_mono (fun mid args B w hw => ?_) (fun pc ls st A w hw => xD_iff.mpr ⟨n, hw⟩) _ _ _ _ _ _ hn
      unfold xcallN at hw
      unfold xCD
      cases d with
      | zero => cases hw
      | succ e => exact xinto_mono (fun l z hz => xD_iff.mpr ⟨n, hz⟩) _ hw
  · intro h
    obtain ⟨n, hn⟩ := xon_cont (cn := fun n => xcallN xprog xtabs E n d) (Kn := fun n => xexec xprog xtabs E n d m) (fun n k mid args B w hw => xcallN_k d n k mid args B w hw) (fun n k pc ls st A w hw => xexec_k _ _ _ n k d m pc ls st A w hw) (fun mid args B w hw => by
      unfold xCD at hw
      cases d with
      | zero => cases hw
      | succ e =>
        exact xC_lim hw) (fun pc ls st A w hw => xD_iff.mp hw) _ _ _ _ _ _ h
    exact xD_iff.mpr ⟨n + 1, by rw [xexec_s]; exact hn⟩
theorem xD_step (E : Nat × (Nat → Int32)) (d : Nat) {m : Nat} {M : xM} (h : xprog[m]? = some M) (pc : Nat) (ls st : List Value) (A : xH) : xD E (d + 1) m pc ls st A = xstep xtabs E (xC E d) M (xD E (d + 1) m) pc ls st A := by
  rw [xD_on, ← xon_step h]
  rfl
theorem xbex_ok (E : Nat × (Nat → Int32)) (d : Nat) {m : Nat} {M : xM} (h : xprog[m]? = some M) (stops : List Nat) : ∀ n, xbex xtabs E (xC E d) M (xD E (d + 1) m) stops n = xD E (d + 1) m
  | 0 => rfl
  | n + 1 => by
    funext pc ls st A
    rw [xD_step E d h]
    show xstep xtabs E (xC E d) M (fun pc ls st A => if stops.elem pc = true then xD E (d + 1) m pc ls st A else xbex xtabs E (xC E d) M (xD E (d + 1) m) stops n pc ls st A) pc ls st A = _
    rw [xbex_ok E d h stops n]
    congr 1
    funext pc ls st A
    split <;> rfl
/-- a block's equation: so many steps on, until the stops -/
theorem xD_bex (E : Nat × (Nat → Int32)) (d : Nat) {m : Nat} {M : xM} (h : xprog[m]? = some M) (stops : List Nat) (n pc : Nat) (ls st : List Value) (A : xH) : xD E (d + 1) m pc ls st A = xbex xtabs E (xC E d) M (xD E (d + 1) m) stops n pc ls st A := by
  rw [xbex_ok E d h stops n]
theorem xC_eq {E : Nat × (Nat → Int32)} {d mid : Nat} {args : List Value} {A : xH} {M : xM} (hM : xprog[mid]? = some M) (h : xrecv M args A = true) (hl : (xspread args).length ≤ M.2.2.2.1) : xC E d mid args A = xD E d mid 0 (xpad M.2.2.2.1 (xspread args)) [] A := by
  unfold xC xinto
  rw [hM]
  exact if_pos ⟨h, hl⟩
end
section
-- ===== PART A: goes FIRST, ahead of the names: the tables' words, and 'selects' of the private methods out of them =====
/-- a private method of a class that the tables say can be made, by its rows of tables_1 -/
def lw_okq (q : MethodName × Nat) : Prop := (q.1.cls ≠ "java/lang/invoke/MethodHandle" ∧ q.1.cls ≠ "java/lang/invoke/VarHandle") ∧ Cond.instantiable q.1.cls q.2 ∈ tables_1 ∧ Cond.privateMethod q.1 ∈ tables_1 ∧ Cond.instanceMethod q.1 ∈ tables_1
theorem lw_p0 : lw_okq (⟨"TwinBuckets", "refuse", "(I)I"⟩, 18) := ⟨⟨by decide +kernel, by decide +kernel⟩, List.mem_of_getElem? (i := 20) (by decide +kernel), List.mem_of_getElem? (i := 433) (by decide +kernel), List.mem_of_getElem? (i := 434) (by decide +kernel)⟩
theorem lw_p1 : lw_okq (⟨"TwinBuckets", "termNow", "(I)I"⟩, 18) := ⟨⟨by decide +kernel, by decide +kernel⟩, List.mem_of_getElem? (i := 20) (by decide +kernel), List.mem_of_getElem? (i := 442) (by decide +kernel), List.mem_of_getElem? (i := 443) (by decide +kernel)⟩
theorem lw_p2 : lw_okq (⟨"TwinBuckets", "setTerm", "(II)V"⟩, 18) := ⟨⟨by decide +kernel, by decide +kernel⟩, List.mem_of_getElem? (i := 20) (by decide +kernel), List.mem_of_getElem? (i := 446) (by decide +kernel), List.mem_of_getElem? (i := 447) (by decide +kernel)⟩
theorem lw_p3 : lw_okq (⟨"TwinBuckets", "grant", "(I)I"⟩, 18) := ⟨⟨by decide +kernel, by decide +kernel⟩, List.mem_of_getElem? (i := 20) (by decide +kernel), List.mem_of_getElem? (i := 454) (by decide +kernel), List.mem_of_getElem? (i := 455) (by decide +kernel)⟩
theorem lw_p4 : lw_okq (⟨"TwinBuckets$Tape", "next", "()V"⟩, 10) := ⟨⟨by decide +kernel, by decide +kernel⟩, List.mem_of_getElem? (i := 162) (by decide +kernel), List.mem_of_getElem? (i := 571) (by decide +kernel), List.mem_of_getElem? (i := 572) (by decide +kernel)⟩
theorem lw_p5 : lw_okq (⟨"TwinBuckets$Tape", "readClause", "()Z"⟩, 10) := ⟨⟨by decide +kernel, by decide +kernel⟩, List.mem_of_getElem? (i := 162) (by decide +kernel), List.mem_of_getElem? (i := 576) (by decide +kernel), List.mem_of_getElem? (i := 577) (by decide +kernel)⟩
theorem lw_p6 : lw_okq (⟨"TwinBuckets$Tape", "readOrder", "()Z"⟩, 10) := ⟨⟨by decide +kernel, by decide +kernel⟩, List.mem_of_getElem? (i := 162) (by decide +kernel), List.mem_of_getElem? (i := 584) (by decide +kernel), List.mem_of_getElem? (i := 585) (by decide +kernel)⟩
theorem lw_p7 : lw_okq (⟨"TwinBuckets$Tape", "passWord", "(Ljava/lang/String;)Z"⟩, 10) := ⟨⟨by decide +kernel, by decide +kernel⟩, List.mem_of_getElem? (i := 162) (by decide +kernel), List.mem_of_getElem? (i := 589) (by decide +kernel), List.mem_of_getElem? (i := 590) (by decide +kernel)⟩
theorem lw_p8 : lw_okq (⟨"TwinBuckets$Tape", "isWord", "(Ljava/lang/String;)Z"⟩, 10) := ⟨⟨by decide +kernel, by decide +kernel⟩, List.mem_of_getElem? (i := 162) (by decide +kernel), List.mem_of_getElem? (i := 593) (by decide +kernel), List.mem_of_getElem? (i := 594) (by decide +kernel)⟩
theorem lw_p9 : lw_okq (⟨"TwinBuckets$Tape", "readSumPart", "(I)Z"⟩, 10) := ⟨⟨by decide +kernel, by decide +kernel⟩, List.mem_of_getElem? (i := 162) (by decide +kernel), List.mem_of_getElem? (i := 645) (by decide +kernel), List.mem_of_getElem? (i := 646) (by decide +kernel)⟩
theorem lw_p10 : lw_okq (⟨"TwinBuckets$Tape", "readSum", "(I)Z"⟩, 10) := ⟨⟨by decide +kernel, by decide +kernel⟩, List.mem_of_getElem? (i := 162) (by decide +kernel), List.mem_of_getElem? (i := 649) (by decide +kernel), List.mem_of_getElem? (i := 650) (by decide +kernel)⟩
theorem lw_p11 : lw_okq (⟨"TwinBuckets$Tape", "readTerm", "(I)Z"⟩, 10) := ⟨⟨by decide +kernel, by decide +kernel⟩, List.mem_of_getElem? (i := 162) (by decide +kernel), List.mem_of_getElem? (i := 653) (by decide +kernel), List.mem_of_getElem? (i := 654) (by decide +kernel)⟩
theorem lw_p12 : lw_okq (⟨"TwinBuckets$Tape", "readPart", "(I)Z"⟩, 10) := ⟨⟨by decide +kernel, by decide +kernel⟩, List.mem_of_getElem? (i := 162) (by decide +kernel), List.mem_of_getElem? (i := 657) (by decide +kernel), List.mem_of_getElem? (i := 658) (by decide +kernel)⟩
theorem lw_p13 : lw_okq (⟨"TwinBuckets$Tape", "passSign", "(C)Z"⟩, 10) := ⟨⟨by decide +kernel, by decide +kernel⟩, List.mem_of_getElem? (i := 162) (by decide +kernel), List.mem_of_getElem? (i := 661) (by decide +kernel), List.mem_of_getElem? (i := 662) (by decide +kernel)⟩
theorem lw_p14 : lw_okq (⟨"TwinBuckets$Tape", "readAsked", "(II)Z"⟩, 10) := ⟨⟨by decide +kernel, by decide +kernel⟩, List.mem_of_getElem? (i := 162) (by decide +kernel), List.mem_of_getElem? (i := 670) (by decide +kernel), List.mem_of_getElem? (i := 671) (by decide +kernel)⟩
theorem lw_p15 : lw_okq (⟨"TwinBuckets$Tape", "orderWord", "()I"⟩, 10) := ⟨⟨by decide +kernel, by decide +kernel⟩, List.mem_of_getElem? (i := 162) (by decide +kernel), List.mem_of_getElem? (i := 675) (by decide +kernel), List.mem_of_getElem? (i := 676) (by decide +kernel)⟩
def lw_privs_1 : List (MethodName × Nat) := [(⟨"TwinBuckets", "refuse", "(I)I"⟩, 18), (⟨"TwinBuckets", "termNow", "(I)I"⟩, 18), (⟨"TwinBuckets", "setTerm", "(II)V"⟩, 18), (⟨"TwinBuckets", "grant", "(I)I"⟩, 18), (⟨"TwinBuckets$Tape", "next", "()V"⟩, 10), (⟨"TwinBuckets$Tape", "readClause", "()Z"⟩, 10), (⟨"TwinBuckets$Tape", "readOrder", "()Z"⟩, 10), (⟨"TwinBuckets$Tape", "passWord", "(Ljava/lang/String;)Z"⟩, 10), (⟨"TwinBuckets$Tape", "isWord", "(Ljava/lang/String;)Z"⟩, 10), (⟨"TwinBuckets$Tape", "readSumPart", "(I)Z"⟩, 10), (⟨"TwinBuckets$Tape", "readSum", "(I)Z"⟩, 10), (⟨"TwinBuckets$Tape", "readTerm", "(I)Z"⟩, 10), (⟨"TwinBuckets$Tape", "readPart", "(I)Z"⟩, 10), (⟨"TwinBuckets$Tape", "passSign", "(C)Z"⟩, 10), (⟨"TwinBuckets$Tape", "readAsked", "(II)Z"⟩, 10), (⟨"TwinBuckets$Tape", "orderWord", "()I"⟩, 10)]
theorem lw_r1 : ∀ q ∈ lw_privs_1, lw_okq q := List.forall_mem_cons.mpr ⟨lw_p0, List.forall_mem_cons.mpr ⟨lw_p1, List.forall_mem_cons.mpr ⟨lw_p2, List.forall_mem_cons.mpr ⟨lw_p3, List.forall_mem_cons.mpr ⟨lw_p4, List.forall_mem_cons.mpr ⟨lw_p5, List.forall_mem_cons.mpr ⟨lw_p6, List.forall_mem_cons.mpr ⟨lw_p7, List.forall_mem_cons.mpr ⟨lw_p8, List.forall_mem_cons.mpr ⟨lw_p9, List.forall_mem_cons.mpr ⟨lw_p10, List.forall_mem_cons.mpr ⟨lw_p11, List.forall_mem_cons.mpr ⟨lw_p12, List.forall_mem_cons.mpr ⟨lw_p13, List.forall_mem_cons.mpr ⟨lw_p14, List.forall_mem_cons.mpr ⟨lw_p15, fun _ h => absurd h List.not_mem_nil⟩⟩⟩⟩⟩⟩⟩⟩⟩⟩⟩⟩⟩⟩⟩⟩
theorem lw_p16 : lw_okq (⟨"TwinBuckets$Tape", "lawWord", "()I"⟩, 10) := ⟨⟨by decide +kernel, by decide +kernel⟩, List.mem_of_getElem? (i := 162) (by decide +kernel), List.mem_of_getElem? (i := 685) (by decide +kernel), List.mem_of_getElem? (i := 686) (by decide +kernel)⟩
theorem lw_p17 : lw_okq (⟨"TwinBuckets$Tape", "readRule", "()Z"⟩, 10) := ⟨⟨by decide +kernel, by decide +kernel⟩, List.mem_of_getElem? (i := 162) (by decide +kernel), List.mem_of_getElem? (i := 699) (by decide +kernel), List.mem_of_getElem? (i := 700) (by decide +kernel)⟩
theorem lw_p18 : lw_okq (⟨"TwinBuckets$Tape", "readTest", "(I)Z"⟩, 10) := ⟨⟨by decide +kernel, by decide +kernel⟩, List.mem_of_getElem? (i := 162) (by decide +kernel), List.mem_of_getElem? (i := 706) (by decide +kernel), List.mem_of_getElem? (i := 707) (by decide +kernel)⟩
theorem lw_p19 : lw_okq (⟨"TwinBuckets$Tape", "readBoth", "(I)Z"⟩, 10) := ⟨⟨by decide +kernel, by decide +kernel⟩, List.mem_of_getElem? (i := 162) (by decide +kernel), List.mem_of_getElem? (i := 710) (by decide +kernel), List.mem_of_getElem? (i := 711) (by decide +kernel)⟩
theorem lw_p20 : lw_okq (⟨"TwinBuckets$Tape", "readPlain", "(I)Z"⟩, 10) := ⟨⟨by decide +kernel, by decide +kernel⟩, List.mem_of_getElem? (i := 162) (by decide +kernel), List.mem_of_getElem? (i := 714) (by decide +kernel), List.mem_of_getElem? (i := 715) (by decide +kernel)⟩
theorem lw_p21 : lw_okq (⟨"TwinBuckets", "runClause", "(LTwinBuckets$Text;I)Z"⟩, 18) := ⟨⟨by decide +kernel, by decide +kernel⟩, List.mem_of_getElem? (i := 20) (by decide +kernel), List.mem_of_getElem? (i := 759) (by decide +kernel), List.mem_of_getElem? (i := 760) (by decide +kernel)⟩
theorem lw_p22 : lw_okq (⟨"TwinBuckets", "fillOrderWords", "(LTwinBuckets$Text;)V"⟩, 18) := ⟨⟨by decide +kernel, by decide +kernel⟩, List.mem_of_getElem? (i := 20) (by decide +kernel), List.mem_of_getElem? (i := 764) (by decide +kernel), List.mem_of_getElem? (i := 765) (by decide +kernel)⟩
theorem lw_p23 : lw_okq (⟨"TwinBuckets", "act", "(IIILTwinBuckets$History;)I"⟩, 18) := ⟨⟨by decide +kernel, by decide +kernel⟩, List.mem_of_getElem? (i := 20) (by decide +kernel), List.mem_of_getElem? (i := 770) (by decide +kernel), List.mem_of_getElem? (i := 771) (by decide +kernel)⟩
theorem lw_p24 : lw_okq (⟨"TwinBuckets$History", "keep", "(LTwinBuckets$Store;I)LTwinBuckets$Store;"⟩, 4) := ⟨⟨by decide +kernel, by decide +kernel⟩, List.mem_of_getElem? (i := 138) (by decide +kernel), List.mem_of_getElem? (i := 822) (by decide +kernel), List.mem_of_getElem? (i := 823) (by decide +kernel)⟩
theorem lw_p25 : lw_okq (⟨"TwinBuckets", "answer", "(I)I"⟩, 18) := ⟨⟨by decide +kernel, by decide +kernel⟩, List.mem_of_getElem? (i := 20) (by decide +kernel), List.mem_of_getElem? (i := 846) (by decide +kernel), List.mem_of_getElem? (i := 847) (by decide +kernel)⟩
theorem lw_p26 : lw_okq (⟨"TwinBuckets", "losePowerOnPaper", "(I)Z"⟩, 18) := ⟨⟨by decide +kernel, by decide +kernel⟩, List.mem_of_getElem? (i := 20) (by decide +kernel), List.mem_of_getElem? (i := 874) (by decide +kernel), List.mem_of_getElem? (i := 875) (by decide +kernel)⟩
theorem lw_p27 : lw_okq (⟨"TwinBuckets$Sightings", "fits", "(LTwinBuckets$Store;I)Z"⟩, 3) := ⟨⟨by decide +kernel, by decide +kernel⟩, List.mem_of_getElem? (i := 121) (by decide +kernel), List.mem_of_getElem? (i := 953) (by decide +kernel), List.mem_of_getElem? (i := 954) (by decide +kernel)⟩
theorem lw_p28 : lw_okq (⟨"TwinBuckets", "oneWriteMore", "(I)V"⟩, 18) := ⟨⟨by decide +kernel, by decide +kernel⟩, List.mem_of_getElem? (i := 20) (by decide +kernel), List.mem_of_getElem? (i := 978) (by decide +kernel), List.mem_of_getElem? (i := 979) (by decide +kernel)⟩
theorem lw_p29 : lw_okq (⟨"TwinBuckets", "actOnPaper", "(III)V"⟩, 18) := ⟨⟨by decide +kernel, by decide +kernel⟩, List.mem_of_getElem? (i := 20) (by decide +kernel), List.mem_of_getElem? (i := 999) (by decide +kernel), List.mem_of_getElem? (i := 1000) (by decide +kernel)⟩
theorem lw_p30 : lw_okq (⟨"TwinBucketsModel", "refuses", "(I)I"⟩, 46) := ⟨⟨by decide +kernel, by decide +kernel⟩, List.mem_of_getElem? (i := 1057) (by decide +kernel), List.mem_of_getElem? (i := 1210) (by decide +kernel), List.mem_of_getElem? (i := 1211) (by decide +kernel)⟩
theorem lw_p31 : lw_okq (⟨"TwinBucketsModel", "good", "(I)I"⟩, 46) := ⟨⟨by decide +kernel, by decide +kernel⟩, List.mem_of_getElem? (i := 1057) (by decide +kernel), List.mem_of_getElem? (i := 1214) (by decide +kernel), List.mem_of_getElem? (i := 1215) (by decide +kernel)⟩
def lw_privs_2 : List (MethodName × Nat) := [(⟨"TwinBuckets$Tape", "lawWord", "()I"⟩, 10), (⟨"TwinBuckets$Tape", "readRule", "()Z"⟩, 10), (⟨"TwinBuckets$Tape", "readTest", "(I)Z"⟩, 10), (⟨"TwinBuckets$Tape", "readBoth", "(I)Z"⟩, 10), (⟨"TwinBuckets$Tape", "readPlain", "(I)Z"⟩, 10), (⟨"TwinBuckets", "runClause", "(LTwinBuckets$Text;I)Z"⟩, 18), (⟨"TwinBuckets", "fillOrderWords", "(LTwinBuckets$Text;)V"⟩, 18), (⟨"TwinBuckets", "act", "(IIILTwinBuckets$History;)I"⟩, 18), (⟨"TwinBuckets$History", "keep", "(LTwinBuckets$Store;I)LTwinBuckets$Store;"⟩, 4), (⟨"TwinBuckets", "answer", "(I)I"⟩, 18), (⟨"TwinBuckets", "losePowerOnPaper", "(I)Z"⟩, 18), (⟨"TwinBuckets$Sightings", "fits", "(LTwinBuckets$Store;I)Z"⟩, 3), (⟨"TwinBuckets", "oneWriteMore", "(I)V"⟩, 18), (⟨"TwinBuckets", "actOnPaper", "(III)V"⟩, 18), (⟨"TwinBucketsModel", "refuses", "(I)I"⟩, 46), (⟨"TwinBucketsModel", "good", "(I)I"⟩, 46)]
theorem lw_r2 : ∀ q ∈ lw_privs_2, lw_okq q := List.forall_mem_cons.mpr ⟨lw_p16, List.forall_mem_cons.mpr ⟨lw_p17, List.forall_mem_cons.mpr ⟨lw_p18, List.forall_mem_cons.mpr ⟨lw_p19, List.forall_mem_cons.mpr ⟨lw_p20, List.forall_mem_cons.mpr ⟨lw_p21, List.forall_mem_cons.mpr ⟨lw_p22, List.forall_mem_cons.mpr ⟨lw_p23, List.forall_mem_cons.mpr ⟨lw_p24, List.forall_mem_cons.mpr ⟨lw_p25, List.forall_mem_cons.mpr ⟨lw_p26, List.forall_mem_cons.mpr ⟨lw_p27, List.forall_mem_cons.mpr ⟨lw_p28, List.forall_mem_cons.mpr ⟨lw_p29, List.forall_mem_cons.mpr ⟨lw_p30, List.forall_mem_cons.mpr ⟨lw_p31, fun _ h => absurd h List.not_mem_nil⟩⟩⟩⟩⟩⟩⟩⟩⟩⟩⟩⟩⟩⟩⟩⟩
theorem lw_p32 : lw_okq (⟨"TwinBucketsModel", "settled", "(I)I"⟩, 46) := ⟨⟨by decide +kernel, by decide +kernel⟩, List.mem_of_getElem? (i := 1057) (by decide +kernel), List.mem_of_getElem? (i := 1222) (by decide +kernel), List.mem_of_getElem? (i := 1223) (by decide +kernel)⟩
theorem lw_p33 : lw_okq (⟨"TwinBucketsModel", "toldOf", "(II)I"⟩, 46) := ⟨⟨by decide +kernel, by decide +kernel⟩, List.mem_of_getElem? (i := 1057) (by decide +kernel), List.mem_of_getElem? (i := 1236) (by decide +kernel), List.mem_of_getElem? (i := 1237) (by decide +kernel)⟩
theorem lw_p34 : lw_okq (⟨"TwinBucketsModel", "ownerOf", "(I)I"⟩, 46) := ⟨⟨by decide +kernel, by decide +kernel⟩, List.mem_of_getElem? (i := 1057) (by decide +kernel), List.mem_of_getElem? (i := 1255) (by decide +kernel), List.mem_of_getElem? (i := 1256) (by decide +kernel)⟩
theorem lw_p35 : lw_okq (⟨"TwinBucketsModel", "isUsed", "(I)Z"⟩, 46) := ⟨⟨by decide +kernel, by decide +kernel⟩, List.mem_of_getElem? (i := 1057) (by decide +kernel), List.mem_of_getElem? (i := 1259) (by decide +kernel), List.mem_of_getElem? (i := 1260) (by decide +kernel)⟩
theorem lw_p36 : lw_okq (⟨"TwinBucketsModel", "hashOf", "(I)I"⟩, 46) := ⟨⟨by decide +kernel, by decide +kernel⟩, List.mem_of_getElem? (i := 1057) (by decide +kernel), List.mem_of_getElem? (i := 1273) (by decide +kernel), List.mem_of_getElem? (i := 1274) (by decide +kernel)⟩
theorem lw_p37 : lw_okq (⟨"TwinBucketsModel", "valueOrNone", "(I)I"⟩, 46) := ⟨⟨by decide +kernel, by decide +kernel⟩, List.mem_of_getElem? (i := 1057) (by decide +kernel), List.mem_of_getElem? (i := 1277) (by decide +kernel), List.mem_of_getElem? (i := 1278) (by decide +kernel)⟩
theorem lw_p38 : lw_okq (⟨"TwinBucketsModel", "placeOf", "(I)I"⟩, 46) := ⟨⟨by decide +kernel, by decide +kernel⟩, List.mem_of_getElem? (i := 1057) (by decide +kernel), List.mem_of_getElem? (i := 1281) (by decide +kernel), List.mem_of_getElem? (i := 1282) (by decide +kernel)⟩
theorem lw_p39 : lw_okq (⟨"TwinBucketsModel", "soughtIn", "(I)I"⟩, 46) := ⟨⟨by decide +kernel, by decide +kernel⟩, List.mem_of_getElem? (i := 1057) (by decide +kernel), List.mem_of_getElem? (i := 1285) (by decide +kernel), List.mem_of_getElem? (i := 1286) (by decide +kernel)⟩
theorem lw_p40 : lw_okq (⟨"TwinBucketsModel", "isBarred", "(I)Z"⟩, 46) := ⟨⟨by decide +kernel, by decide +kernel⟩, List.mem_of_getElem? (i := 1057) (by decide +kernel), List.mem_of_getElem? (i := 1289) (by decide +kernel), List.mem_of_getElem? (i := 1290) (by decide +kernel)⟩
theorem lw_p41 : lw_okq (⟨"TwinBucketsModel", "setsAsked", "(III)V"⟩, 46) := ⟨⟨by decide +kernel, by decide +kernel⟩, List.mem_of_getElem? (i := 1057) (by decide +kernel), List.mem_of_getElem? (i := 1293) (by decide +kernel), List.mem_of_getElem? (i := 1294) (by decide +kernel)⟩
theorem lw_p42 : lw_okq (⟨"TwinBucketsModel", "tells", "(II)I"⟩, 46) := ⟨⟨by decide +kernel, by decide +kernel⟩, List.mem_of_getElem? (i := 1057) (by decide +kernel), List.mem_of_getElem? (i := 1297) (by decide +kernel), List.mem_of_getElem? (i := 1298) (by decide +kernel)⟩
theorem lw_p43 : lw_okq (⟨"TwinBucketsModel", "codeAt", "(I)I"⟩, 46) := ⟨⟨by decide +kernel, by decide +kernel⟩, List.mem_of_getElem? (i := 1057) (by decide +kernel), List.mem_of_getElem? (i := 1301) (by decide +kernel), List.mem_of_getElem? (i := 1302) (by decide +kernel)⟩
theorem lw_p44 : lw_okq (⟨"TwinBucketsModel", "sumOf", "(Z)J"⟩, 46) := ⟨⟨by decide +kernel, by decide +kernel⟩, List.mem_of_getElem? (i := 1057) (by decide +kernel), List.mem_of_getElem? (i := 1305) (by decide +kernel), List.mem_of_getElem? (i := 1306) (by decide +kernel)⟩
theorem lw_p45 : lw_okq (⟨"TwinBucketsModel", "termOf", "(Z)J"⟩, 46) := ⟨⟨by decide +kernel, by decide +kernel⟩, List.mem_of_getElem? (i := 1057) (by decide +kernel), List.mem_of_getElem? (i := 1309) (by decide +kernel), List.mem_of_getElem? (i := 1310) (by decide +kernel)⟩
theorem lw_p46 : lw_okq (⟨"TwinBucketsModel", "partOf", "(Z)J"⟩, 46) := ⟨⟨by decide +kernel, by decide +kernel⟩, List.mem_of_getElem? (i := 1057) (by decide +kernel), List.mem_of_getElem? (i := 1313) (by decide +kernel), List.mem_of_getElem? (i := 1314) (by decide +kernel)⟩
theorem lw_p47 : lw_okq (⟨"TwinBucketsModel", "passes0", "(I)Z"⟩, 46) := ⟨⟨by decide +kernel, by decide +kernel⟩, List.mem_of_getElem? (i := 1057) (by decide +kernel), List.mem_of_getElem? (i := 1320) (by decide +kernel), List.mem_of_getElem? (i := 1321) (by decide +kernel)⟩
def lw_privs_3 : List (MethodName × Nat) := [(⟨"TwinBucketsModel", "settled", "(I)I"⟩, 46), (⟨"TwinBucketsModel", "toldOf", "(II)I"⟩, 46), (⟨"TwinBucketsModel", "ownerOf", "(I)I"⟩, 46), (⟨"TwinBucketsModel", "isUsed", "(I)Z"⟩, 46), (⟨"TwinBucketsModel", "hashOf", "(I)I"⟩, 46), (⟨"TwinBucketsModel", "valueOrNone", "(I)I"⟩, 46), (⟨"TwinBucketsModel", "placeOf", "(I)I"⟩, 46), (⟨"TwinBucketsModel", "soughtIn", "(I)I"⟩, 46), (⟨"TwinBucketsModel", "isBarred", "(I)Z"⟩, 46), (⟨"TwinBucketsModel", "setsAsked", "(III)V"⟩, 46), (⟨"TwinBucketsModel", "tells", "(II)I"⟩, 46), (⟨"TwinBucketsModel", "codeAt", "(I)I"⟩, 46), (⟨"TwinBucketsModel", "sumOf", "(Z)J"⟩, 46), (⟨"TwinBucketsModel", "termOf", "(Z)J"⟩, 46), (⟨"TwinBucketsModel", "partOf", "(Z)J"⟩, 46), (⟨"TwinBucketsModel", "passes0", "(I)Z"⟩, 46)]
theorem lw_r3 : ∀ q ∈ lw_privs_3, lw_okq q := List.forall_mem_cons.mpr ⟨lw_p32, List.forall_mem_cons.mpr ⟨lw_p33, List.forall_mem_cons.mpr ⟨lw_p34, List.forall_mem_cons.mpr ⟨lw_p35, List.forall_mem_cons.mpr ⟨lw_p36, List.forall_mem_cons.mpr ⟨lw_p37, List.forall_mem_cons.mpr ⟨lw_p38, List.forall_mem_cons.mpr ⟨lw_p39, List.forall_mem_cons.mpr ⟨lw_p40, List.forall_mem_cons.mpr ⟨lw_p41, List.forall_mem_cons.mpr ⟨lw_p42, List.forall_mem_cons.mpr ⟨lw_p43, List.forall_mem_cons.mpr ⟨lw_p44, List.forall_mem_cons.mpr ⟨lw_p45, List.forall_mem_cons.mpr ⟨lw_p46, List.forall_mem_cons.mpr ⟨lw_p47, fun _ h => absurd h List.not_mem_nil⟩⟩⟩⟩⟩⟩⟩⟩⟩⟩⟩⟩⟩⟩⟩⟩
theorem lw_p48 : lw_okq (⟨"TwinBucketsModel", "orderValue", "(II)I"⟩, 46) := ⟨⟨by decide +kernel, by decide +kernel⟩, List.mem_of_getElem? (i := 1057) (by decide +kernel), List.mem_of_getElem? (i := 1324) (by decide +kernel), List.mem_of_getElem? (i := 1325) (by decide +kernel)⟩
theorem lw_p49 : lw_okq (⟨"TwinBucketsModel", "keyMany", "()I"⟩, 46) := ⟨⟨by decide +kernel, by decide +kernel⟩, List.mem_of_getElem? (i := 1057) (by decide +kernel), List.mem_of_getElem? (i := 1328) (by decide +kernel), List.mem_of_getElem? (i := 1329) (by decide +kernel)⟩
theorem lw_p50 : lw_okq (⟨"TwinBucketsModel", "bounded", "(JZ)J"⟩, 46) := ⟨⟨by decide +kernel, by decide +kernel⟩, List.mem_of_getElem? (i := 1057) (by decide +kernel), List.mem_of_getElem? (i := 1332) (by decide +kernel), List.mem_of_getElem? (i := 1333) (by decide +kernel)⟩
theorem lw_p51 : lw_okq (⟨"TwinBucketsModel", "testOf", "(Z)Z"⟩, 46) := ⟨⟨by decide +kernel, by decide +kernel⟩, List.mem_of_getElem? (i := 1057) (by decide +kernel), List.mem_of_getElem? (i := 1338) (by decide +kernel), List.mem_of_getElem? (i := 1339) (by decide +kernel)⟩
theorem lw_p52 : lw_okq (⟨"TwinBucketsModel", "bothOf", "(Z)Z"⟩, 46) := ⟨⟨by decide +kernel, by decide +kernel⟩, List.mem_of_getElem? (i := 1057) (by decide +kernel), List.mem_of_getElem? (i := 1342) (by decide +kernel), List.mem_of_getElem? (i := 1343) (by decide +kernel)⟩
theorem lw_p53 : lw_okq (⟨"TwinBucketsModel", "plainOf", "(Z)Z"⟩, 46) := ⟨⟨by decide +kernel, by decide +kernel⟩, List.mem_of_getElem? (i := 1057) (by decide +kernel), List.mem_of_getElem? (i := 1346) (by decide +kernel), List.mem_of_getElem? (i := 1347) (by decide +kernel)⟩
theorem lw_p54 : lw_okq (⟨"TwinBucketsModel", "positiveOf", "(Z)Z"⟩, 46) := ⟨⟨by decide +kernel, by decide +kernel⟩, List.mem_of_getElem? (i := 1057) (by decide +kernel), List.mem_of_getElem? (i := 1350) (by decide +kernel), List.mem_of_getElem? (i := 1351) (by decide +kernel)⟩
theorem lw_p55 : lw_okq (⟨"TwinBucketsModel", "puts", "(II)I"⟩, 46) := ⟨⟨by decide +kernel, by decide +kernel⟩, List.mem_of_getElem? (i := 1057) (by decide +kernel), List.mem_of_getElem? (i := 1369) (by decide +kernel), List.mem_of_getElem? (i := 1370) (by decide +kernel)⟩
theorem lw_p56 : lw_okq (⟨"TwinBucketsModel", "writes", "(I)V"⟩, 46) := ⟨⟨by decide +kernel, by decide +kernel⟩, List.mem_of_getElem? (i := 1057) (by decide +kernel), List.mem_of_getElem? (i := 1373) (by decide +kernel), List.mem_of_getElem? (i := 1374) (by decide +kernel)⟩
theorem lw_p57 : lw_okq (⟨"TwinBucketsModel", "doesEldest", "()V"⟩, 46) := ⟨⟨by decide +kernel, by decide +kernel⟩, List.mem_of_getElem? (i := 1057) (by decide +kernel), List.mem_of_getElem? (i := 1377) (by decide +kernel), List.mem_of_getElem? (i := 1378) (by decide +kernel)⟩
theorem lw_p58 : lw_okq (⟨"TwinBucketsModel", "copies", "(II)V"⟩, 46) := ⟨⟨by decide +kernel, by decide +kernel⟩, List.mem_of_getElem? (i := 1057) (by decide +kernel), List.mem_of_getElem? (i := 1381) (by decide +kernel), List.mem_of_getElem? (i := 1382) (by decide +kernel)⟩
theorem lw_p59 : lw_okq (⟨"TwinBucketsModel", "costsOf", "(I)I"⟩, 46) := ⟨⟨by decide +kernel, by decide +kernel⟩, List.mem_of_getElem? (i := 1057) (by decide +kernel), List.mem_of_getElem? (i := 1385) (by decide +kernel), List.mem_of_getElem? (i := 1386) (by decide +kernel)⟩
theorem lw_p60 : lw_okq (⟨"TwinBucketsModel", "laysAside", "(I)V"⟩, 46) := ⟨⟨by decide +kernel, by decide +kernel⟩, List.mem_of_getElem? (i := 1057) (by decide +kernel), List.mem_of_getElem? (i := 1392) (by decide +kernel), List.mem_of_getElem? (i := 1393) (by decide +kernel)⟩
theorem lw_p61 : lw_okq (⟨"TwinBucketsModel", "comes", "(II)I"⟩, 46) := ⟨⟨by decide +kernel, by decide +kernel⟩, List.mem_of_getElem? (i := 1057) (by decide +kernel), List.mem_of_getElem? (i := 1396) (by decide +kernel), List.mem_of_getElem? (i := 1397) (by decide +kernel)⟩
theorem lw_p62 : lw_okq (⟨"TwinBucketsModel", "splits0", "(I)Z"⟩, 46) := ⟨⟨by decide +kernel, by decide +kernel⟩, List.mem_of_getElem? (i := 1057) (by decide +kernel), List.mem_of_getElem? (i := 1400) (by decide +kernel), List.mem_of_getElem? (i := 1401) (by decide +kernel)⟩
theorem lw_p63 : lw_okq (⟨"TwinBucketsModel", "lowestFree", "()I"⟩, 46) := ⟨⟨by decide +kernel, by decide +kernel⟩, List.mem_of_getElem? (i := 1057) (by decide +kernel), List.mem_of_getElem? (i := 1404) (by decide +kernel), List.mem_of_getElem? (i := 1405) (by decide +kernel)⟩
def lw_privs_4 : List (MethodName × Nat) := [(⟨"TwinBucketsModel", "orderValue", "(II)I"⟩, 46), (⟨"TwinBucketsModel", "keyMany", "()I"⟩, 46), (⟨"TwinBucketsModel", "bounded", "(JZ)J"⟩, 46), (⟨"TwinBucketsModel", "testOf", "(Z)Z"⟩, 46), (⟨"TwinBucketsModel", "bothOf", "(Z)Z"⟩, 46), (⟨"TwinBucketsModel", "plainOf", "(Z)Z"⟩, 46), (⟨"TwinBucketsModel", "positiveOf", "(Z)Z"⟩, 46), (⟨"TwinBucketsModel", "puts", "(II)I"⟩, 46), (⟨"TwinBucketsModel", "writes", "(I)V"⟩, 46), (⟨"TwinBucketsModel", "doesEldest", "()V"⟩, 46), (⟨"TwinBucketsModel", "copies", "(II)V"⟩, 46), (⟨"TwinBucketsModel", "costsOf", "(I)I"⟩, 46), (⟨"TwinBucketsModel", "laysAside", "(I)V"⟩, 46), (⟨"TwinBucketsModel", "comes", "(II)I"⟩, 46), (⟨"TwinBucketsModel", "splits0", "(I)Z"⟩, 46), (⟨"TwinBucketsModel", "lowestFree", "()I"⟩, 46)]
theorem lw_r4 : ∀ q ∈ lw_privs_4, lw_okq q := List.forall_mem_cons.mpr ⟨lw_p48, List.forall_mem_cons.mpr ⟨lw_p49, List.forall_mem_cons.mpr ⟨lw_p50, List.forall_mem_cons.mpr ⟨lw_p51, List.forall_mem_cons.mpr ⟨lw_p52, List.forall_mem_cons.mpr ⟨lw_p53, List.forall_mem_cons.mpr ⟨lw_p54, List.forall_mem_cons.mpr ⟨lw_p55, List.forall_mem_cons.mpr ⟨lw_p56, List.forall_mem_cons.mpr ⟨lw_p57, List.forall_mem_cons.mpr ⟨lw_p58, List.forall_mem_cons.mpr ⟨lw_p59, List.forall_mem_cons.mpr ⟨lw_p60, List.forall_mem_cons.mpr ⟨lw_p61, List.forall_mem_cons.mpr ⟨lw_p62, List.forall_mem_cons.mpr ⟨lw_p63, fun _ h => absurd h List.not_mem_nil⟩⟩⟩⟩⟩⟩⟩⟩⟩⟩⟩⟩⟩⟩⟩⟩
theorem lw_p64 : lw_okq (⟨"TwinBucketsModel", "comesInto", "(III)V"⟩, 46) := ⟨⟨by decide +kernel, by decide +kernel⟩, List.mem_of_getElem? (i := 1057) (by decide +kernel), List.mem_of_getElem? (i := 1411) (by decide +kernel), List.mem_of_getElem? (i := 1412) (by decide +kernel)⟩
theorem lw_p65 : lw_okq (⟨"TwinBucketsModel", "goesOut", "(II)V"⟩, 46) := ⟨⟨by decide +kernel, by decide +kernel⟩, List.mem_of_getElem? (i := 1057) (by decide +kernel), List.mem_of_getElem? (i := 1415) (by decide +kernel), List.mem_of_getElem? (i := 1416) (by decide +kernel)⟩
theorem lw_p66 : lw_okq (⟨"TwinBucketsModel", "takesBack", "(I)V"⟩, 46) := ⟨⟨by decide +kernel, by decide +kernel⟩, List.mem_of_getElem? (i := 1057) (by decide +kernel), List.mem_of_getElem? (i := 1419) (by decide +kernel), List.mem_of_getElem? (i := 1420) (by decide +kernel)⟩
theorem lw_p67 : lw_okq (⟨"TwinBucketsModel", "readsAs", "(Z)Z"⟩, 46) := ⟨⟨by decide +kernel, by decide +kernel⟩, List.mem_of_getElem? (i := 1057) (by decide +kernel), List.mem_of_getElem? (i := 1439) (by decide +kernel), List.mem_of_getElem? (i := 1440) (by decide +kernel)⟩
theorem lw_p68 : lw_okq (⟨"TwinBucketsModel", "reads", "()Z"⟩, 46) := ⟨⟨by decide +kernel, by decide +kernel⟩, List.mem_of_getElem? (i := 1057) (by decide +kernel), List.mem_of_getElem? (i := 1443) (by decide +kernel), List.mem_of_getElem? (i := 1444) (by decide +kernel)⟩
theorem lw_p69 : lw_okq (⟨"TwinBucketsModel", "cutsUp", "(I)V"⟩, 46) := ⟨⟨by decide +kernel, by decide +kernel⟩, List.mem_of_getElem? (i := 1057) (by decide +kernel), List.mem_of_getElem? (i := 1447) (by decide +kernel), List.mem_of_getElem? (i := 1448) (by decide +kernel)⟩
theorem lw_p70 : lw_okq (⟨"TwinBucketsModel", "wordOf", "(II)I"⟩, 46) := ⟨⟨by decide +kernel, by decide +kernel⟩, List.mem_of_getElem? (i := 1057) (by decide +kernel), List.mem_of_getElem? (i := 1457) (by decide +kernel), List.mem_of_getElem? (i := 1458) (by decide +kernel)⟩
theorem lw_p71 : lw_okq (⟨"TwinBucketsModel", "readOne", "()V"⟩, 46) := ⟨⟨by decide +kernel, by decide +kernel⟩, List.mem_of_getElem? (i := 1057) (by decide +kernel), List.mem_of_getElem? (i := 1462) (by decide +kernel), List.mem_of_getElem? (i := 1463) (by decide +kernel)⟩
theorem lw_p72 : lw_okq (⟨"TwinBucketsModel", "readOrder", "()V"⟩, 46) := ⟨⟨by decide +kernel, by decide +kernel⟩, List.mem_of_getElem? (i := 1057) (by decide +kernel), List.mem_of_getElem? (i := 1466) (by decide +kernel), List.mem_of_getElem? (i := 1467) (by decide +kernel)⟩
theorem lw_p73 : lw_okq (⟨"TwinBucketsModel", "takes0", "(I)Z"⟩, 46) := ⟨⟨by decide +kernel, by decide +kernel⟩, List.mem_of_getElem? (i := 1057) (by decide +kernel), List.mem_of_getElem? (i := 1470) (by decide +kernel), List.mem_of_getElem? (i := 1471) (by decide +kernel)⟩
theorem lw_p74 : lw_okq (⟨"TwinBucketsModel", "fine", "()Z"⟩, 46) := ⟨⟨by decide +kernel, by decide +kernel⟩, List.mem_of_getElem? (i := 1057) (by decide +kernel), List.mem_of_getElem? (i := 1474) (by decide +kernel), List.mem_of_getElem? (i := 1475) (by decide +kernel)⟩
theorem lw_p75 : lw_okq (⟨"TwinBucketsModel", "readSum", "(I)V"⟩, 46) := ⟨⟨by decide +kernel, by decide +kernel⟩, List.mem_of_getElem? (i := 1057) (by decide +kernel), List.mem_of_getElem? (i := 1478) (by decide +kernel), List.mem_of_getElem? (i := 1479) (by decide +kernel)⟩
theorem lw_p76 : lw_okq (⟨"TwinBucketsModel", "readTerm", "(I)V"⟩, 46) := ⟨⟨by decide +kernel, by decide +kernel⟩, List.mem_of_getElem? (i := 1057) (by decide +kernel), List.mem_of_getElem? (i := 1482) (by decide +kernel), List.mem_of_getElem? (i := 1483) (by decide +kernel)⟩
theorem lw_p77 : lw_okq (⟨"TwinBucketsModel", "readPart", "(I)V"⟩, 46) := ⟨⟨by decide +kernel, by decide +kernel⟩, List.mem_of_getElem? (i := 1057) (by decide +kernel), List.mem_of_getElem? (i := 1486) (by decide +kernel), List.mem_of_getElem? (i := 1487) (by decide +kernel)⟩
theorem lw_p78 : lw_okq (⟨"TwinBucketsModel", "faults", "()V"⟩, 46) := ⟨⟨by decide +kernel, by decide +kernel⟩, List.mem_of_getElem? (i := 1057) (by decide +kernel), List.mem_of_getElem? (i := 1490) (by decide +kernel), List.mem_of_getElem? (i := 1491) (by decide +kernel)⟩
theorem lw_p79 : lw_okq (⟨"TwinBucketsModel", "must", "(I)V"⟩, 46) := ⟨⟨by decide +kernel, by decide +kernel⟩, List.mem_of_getElem? (i := 1057) (by decide +kernel), List.mem_of_getElem? (i := 1494) (by decide +kernel), List.mem_of_getElem? (i := 1495) (by decide +kernel)⟩
def lw_privs_5 : List (MethodName × Nat) := [(⟨"TwinBucketsModel", "comesInto", "(III)V"⟩, 46), (⟨"TwinBucketsModel", "goesOut", "(II)V"⟩, 46), (⟨"TwinBucketsModel", "takesBack", "(I)V"⟩, 46), (⟨"TwinBucketsModel", "readsAs", "(Z)Z"⟩, 46), (⟨"TwinBucketsModel", "reads", "()Z"⟩, 46), (⟨"TwinBucketsModel", "cutsUp", "(I)V"⟩, 46), (⟨"TwinBucketsModel", "wordOf", "(II)I"⟩, 46), (⟨"TwinBucketsModel", "readOne", "()V"⟩, 46), (⟨"TwinBucketsModel", "readOrder", "()V"⟩, 46), (⟨"TwinBucketsModel", "takes0", "(I)Z"⟩, 46), (⟨"TwinBucketsModel", "fine", "()Z"⟩, 46), (⟨"TwinBucketsModel", "readSum", "(I)V"⟩, 46), (⟨"TwinBucketsModel", "readTerm", "(I)V"⟩, 46), (⟨"TwinBucketsModel", "readPart", "(I)V"⟩, 46), (⟨"TwinBucketsModel", "faults", "()V"⟩, 46), (⟨"TwinBucketsModel", "must", "(I)V"⟩, 46)]
theorem lw_r5 : ∀ q ∈ lw_privs_5, lw_okq q := List.forall_mem_cons.mpr ⟨lw_p64, List.forall_mem_cons.mpr ⟨lw_p65, List.forall_mem_cons.mpr ⟨lw_p66, List.forall_mem_cons.mpr ⟨lw_p67, List.forall_mem_cons.mpr ⟨lw_p68, List.forall_mem_cons.mpr ⟨lw_p69, List.forall_mem_cons.mpr ⟨lw_p70, List.forall_mem_cons.mpr ⟨lw_p71, List.forall_mem_cons.mpr ⟨lw_p72, List.forall_mem_cons.mpr ⟨lw_p73, List.forall_mem_cons.mpr ⟨lw_p74, List.forall_mem_cons.mpr ⟨lw_p75, List.forall_mem_cons.mpr ⟨lw_p76, List.forall_mem_cons.mpr ⟨lw_p77, List.forall_mem_cons.mpr ⟨lw_p78, List.forall_mem_cons.mpr ⟨lw_p79, fun _ h => absurd h List.not_mem_nil⟩⟩⟩⟩⟩⟩⟩⟩⟩⟩⟩⟩⟩⟩⟩⟩
theorem lw_p80 : lw_okq (⟨"TwinBucketsModel", "leaf", "()V"⟩, 46) := ⟨⟨by decide +kernel, by decide +kernel⟩, List.mem_of_getElem? (i := 1057) (by decide +kernel), List.mem_of_getElem? (i := 1498) (by decide +kernel), List.mem_of_getElem? (i := 1499) (by decide +kernel)⟩
theorem lw_p81 : lw_okq (⟨"TwinBucketsModel", "mustNumber", "(II)V"⟩, 46) := ⟨⟨by decide +kernel, by decide +kernel⟩, List.mem_of_getElem? (i := 1057) (by decide +kernel), List.mem_of_getElem? (i := 1502) (by decide +kernel), List.mem_of_getElem? (i := 1503) (by decide +kernel)⟩
theorem lw_p82 : lw_okq (⟨"TwinBucketsModel", "readTest", "(I)V"⟩, 46) := ⟨⟨by decide +kernel, by decide +kernel⟩, List.mem_of_getElem? (i := 1057) (by decide +kernel), List.mem_of_getElem? (i := 1506) (by decide +kernel), List.mem_of_getElem? (i := 1507) (by decide +kernel)⟩
theorem lw_p83 : lw_okq (⟨"TwinBucketsModel", "readBoth", "(I)V"⟩, 46) := ⟨⟨by decide +kernel, by decide +kernel⟩, List.mem_of_getElem? (i := 1057) (by decide +kernel), List.mem_of_getElem? (i := 1510) (by decide +kernel), List.mem_of_getElem? (i := 1511) (by decide +kernel)⟩
theorem lw_p84 : lw_okq (⟨"TwinBucketsModel", "readPlain", "(I)V"⟩, 46) := ⟨⟨by decide +kernel, by decide +kernel⟩, List.mem_of_getElem? (i := 1057) (by decide +kernel), List.mem_of_getElem? (i := 1514) (by decide +kernel), List.mem_of_getElem? (i := 1515) (by decide +kernel)⟩
theorem lw_p85 : lw_okq (⟨"TwinBucketsModel", "readClause", "()V"⟩, 46) := ⟨⟨by decide +kernel, by decide +kernel⟩, List.mem_of_getElem? (i := 1057) (by decide +kernel), List.mem_of_getElem? (i := 1518) (by decide +kernel), List.mem_of_getElem? (i := 1519) (by decide +kernel)⟩
theorem lw_p86 : lw_okq (⟨"TwinBucketsModel", "lays", "(I)V"⟩, 46) := ⟨⟨by decide +kernel, by decide +kernel⟩, List.mem_of_getElem? (i := 1057) (by decide +kernel), List.mem_of_getElem? (i := 1522) (by decide +kernel), List.mem_of_getElem? (i := 1523) (by decide +kernel)⟩
theorem lw_p87 : lw_okq (⟨"TwinBucketsModel", "isLaw", "(I)Z"⟩, 46) := ⟨⟨by decide +kernel, by decide +kernel⟩, List.mem_of_getElem? (i := 1057) (by decide +kernel), List.mem_of_getElem? (i := 1534) (by decide +kernel), List.mem_of_getElem? (i := 1535) (by decide +kernel)⟩
theorem lw_p88 : lw_okq (⟨"TwinBucketsModel", "putsKept", "(II)I"⟩, 46) := ⟨⟨by decide +kernel, by decide +kernel⟩, List.mem_of_getElem? (i := 1057) (by decide +kernel), List.mem_of_getElem? (i := 1546) (by decide +kernel), List.mem_of_getElem? (i := 1547) (by decide +kernel)⟩
theorem lw_p89 : lw_okq (⟨"TwinBucketsModel", "keptOr", "(II)I"⟩, 46) := ⟨⟨by decide +kernel, by decide +kernel⟩, List.mem_of_getElem? (i := 1057) (by decide +kernel), List.mem_of_getElem? (i := 1550) (by decide +kernel), List.mem_of_getElem? (i := 1551) (by decide +kernel)⟩
theorem lw_p90 : lw_okq (⟨"TwinBucketsModel", "keepsAside", "(I)V"⟩, 46) := ⟨⟨by decide +kernel, by decide +kernel⟩, List.mem_of_getElem? (i := 1057) (by decide +kernel), List.mem_of_getElem? (i := 1554) (by decide +kernel), List.mem_of_getElem? (i := 1555) (by decide +kernel)⟩
theorem lw_p91 : lw_okq (⟨"TwinBucketsModel", "goodOr", "(I)I"⟩, 46) := ⟨⟨by decide +kernel, by decide +kernel⟩, List.mem_of_getElem? (i := 1057) (by decide +kernel), List.mem_of_getElem? (i := 1558) (by decide +kernel), List.mem_of_getElem? (i := 1559) (by decide +kernel)⟩
theorem lw_p92 : lw_okq (⟨"TwinBucketsModel", "dropsKept", "(I)I"⟩, 46) := ⟨⟨by decide +kernel, by decide +kernel⟩, List.mem_of_getElem? (i := 1057) (by decide +kernel), List.mem_of_getElem? (i := 1566) (by decide +kernel), List.mem_of_getElem? (i := 1567) (by decide +kernel)⟩
theorem lw_p93 : lw_okq (⟨"TwinBucketsModel", "drops", "(I)I"⟩, 46) := ⟨⟨by decide +kernel, by decide +kernel⟩, List.mem_of_getElem? (i := 1057) (by decide +kernel), List.mem_of_getElem? (i := 1570) (by decide +kernel), List.mem_of_getElem? (i := 1571) (by decide +kernel)⟩
theorem lw_p94 : lw_okq (⟨"TwinBucketsModel", "canJoin", "(I)Z"⟩, 46) := ⟨⟨by decide +kernel, by decide +kernel⟩, List.mem_of_getElem? (i := 1057) (by decide +kernel), List.mem_of_getElem? (i := 1574) (by decide +kernel), List.mem_of_getElem? (i := 1575) (by decide +kernel)⟩
theorem lw_p95 : lw_okq (⟨"TwinBucketsModel", "twinOf", "(I)I"⟩, 46) := ⟨⟨by decide +kernel, by decide +kernel⟩, List.mem_of_getElem? (i := 1057) (by decide +kernel), List.mem_of_getElem? (i := 1578) (by decide +kernel), List.mem_of_getElem? (i := 1579) (by decide +kernel)⟩
def lw_privs_6 : List (MethodName × Nat) := [(⟨"TwinBucketsModel", "leaf", "()V"⟩, 46), (⟨"TwinBucketsModel", "mustNumber", "(II)V"⟩, 46), (⟨"TwinBucketsModel", "readTest", "(I)V"⟩, 46), (⟨"TwinBucketsModel", "readBoth", "(I)V"⟩, 46), (⟨"TwinBucketsModel", "readPlain", "(I)V"⟩, 46), (⟨"TwinBucketsModel", "readClause", "()V"⟩, 46), (⟨"TwinBucketsModel", "lays", "(I)V"⟩, 46), (⟨"TwinBucketsModel", "isLaw", "(I)Z"⟩, 46), (⟨"TwinBucketsModel", "putsKept", "(II)I"⟩, 46), (⟨"TwinBucketsModel", "keptOr", "(II)I"⟩, 46), (⟨"TwinBucketsModel", "keepsAside", "(I)V"⟩, 46), (⟨"TwinBucketsModel", "goodOr", "(I)I"⟩, 46), (⟨"TwinBucketsModel", "dropsKept", "(I)I"⟩, 46), (⟨"TwinBucketsModel", "drops", "(I)I"⟩, 46), (⟨"TwinBucketsModel", "canJoin", "(I)Z"⟩, 46), (⟨"TwinBucketsModel", "twinOf", "(I)I"⟩, 46)]
theorem lw_r6 : ∀ q ∈ lw_privs_6, lw_okq q := List.forall_mem_cons.mpr ⟨lw_p80, List.forall_mem_cons.mpr ⟨lw_p81, List.forall_mem_cons.mpr ⟨lw_p82, List.forall_mem_cons.mpr ⟨lw_p83, List.forall_mem_cons.mpr ⟨lw_p84, List.forall_mem_cons.mpr ⟨lw_p85, List.forall_mem_cons.mpr ⟨lw_p86, List.forall_mem_cons.mpr ⟨lw_p87, List.forall_mem_cons.mpr ⟨lw_p88, List.forall_mem_cons.mpr ⟨lw_p89, List.forall_mem_cons.mpr ⟨lw_p90, List.forall_mem_cons.mpr ⟨lw_p91, List.forall_mem_cons.mpr ⟨lw_p92, List.forall_mem_cons.mpr ⟨lw_p93, List.forall_mem_cons.mpr ⟨lw_p94, List.forall_mem_cons.mpr ⟨lw_p95, fun _ h => absurd h List.not_mem_nil⟩⟩⟩⟩⟩⟩⟩⟩⟩⟩⟩⟩⟩⟩⟩⟩
theorem lw_p96 : lw_okq (⟨"TwinBucketsModel", "joins", "(I)I"⟩, 46) := ⟨⟨by decide +kernel, by decide +kernel⟩, List.mem_of_getElem? (i := 1057) (by decide +kernel), List.mem_of_getElem? (i := 1582) (by decide +kernel), List.mem_of_getElem? (i := 1583) (by decide +kernel)⟩
theorem lw_p97 : lw_okq (⟨"TwinBucketsModel", "deepestOf", "()I"⟩, 46) := ⟨⟨by decide +kernel, by decide +kernel⟩, List.mem_of_getElem? (i := 1057) (by decide +kernel), List.mem_of_getElem? (i := 1586) (by decide +kernel), List.mem_of_getElem? (i := 1587) (by decide +kernel)⟩
theorem lw_p98 : lw_okq (⟨"TwinBucketsModel", "flushesKept", "(I)I"⟩, 46) := ⟨⟨by decide +kernel, by decide +kernel⟩, List.mem_of_getElem? (i := 1057) (by decide +kernel), List.mem_of_getElem? (i := 1597) (by decide +kernel), List.mem_of_getElem? (i := 1598) (by decide +kernel)⟩
theorem lw_p99 : lw_okq (⟨"TwinBucketsModel", "crashesKept", "(I)I"⟩, 46) := ⟨⟨by decide +kernel, by decide +kernel⟩, List.mem_of_getElem? (i := 1057) (by decide +kernel), List.mem_of_getElem? (i := 1605) (by decide +kernel), List.mem_of_getElem? (i := 1606) (by decide +kernel)⟩
theorem lw_p100 : lw_okq (⟨"TwinBucketsModel", "loses", "(I)V"⟩, 46) := ⟨⟨by decide +kernel, by decide +kernel⟩, List.mem_of_getElem? (i := 1057) (by decide +kernel), List.mem_of_getElem? (i := 1609) (by decide +kernel), List.mem_of_getElem? (i := 1610) (by decide +kernel)⟩
theorem lw_p101 : lw_okq (⟨"TwinBucketsModel", "deepestPage", "(I)I"⟩, 46) := ⟨⟨by decide +kernel, by decide +kernel⟩, List.mem_of_getElem? (i := 1057) (by decide +kernel), List.mem_of_getElem? (i := 1613) (by decide +kernel), List.mem_of_getElem? (i := 1614) (by decide +kernel)⟩
theorem lw_p102 : lw_okq (⟨"TwinBucketsModel", "builds", "(II)V"⟩, 46) := ⟨⟨by decide +kernel, by decide +kernel⟩, List.mem_of_getElem? (i := 1057) (by decide +kernel), List.mem_of_getElem? (i := 1617) (by decide +kernel), List.mem_of_getElem? (i := 1618) (by decide +kernel)⟩
theorem lw_p103 : lw_okq (⟨"TwinBucketsModel", "wouldSplit", "(I)Z"⟩, 46) := ⟨⟨by decide +kernel, by decide +kernel⟩, List.mem_of_getElem? (i := 1057) (by decide +kernel), List.mem_of_getElem? (i := 1638) (by decide +kernel), List.mem_of_getElem? (i := 1639) (by decide +kernel)⟩
theorem lw_p104 : lw_okq (⟨"TwinBucketsModel", "usedMany", "()I"⟩, 46) := ⟨⟨by decide +kernel, by decide +kernel⟩, List.mem_of_getElem? (i := 1057) (by decide +kernel), List.mem_of_getElem? (i := 1646) (by decide +kernel), List.mem_of_getElem? (i := 1647) (by decide +kernel)⟩
theorem lw_p105 : lw_okq (⟨"TwinBucketsModel", "neededBy", "(I)I"⟩, 46) := ⟨⟨by decide +kernel, by decide +kernel⟩, List.mem_of_getElem? (i := 1057) (by decide +kernel), List.mem_of_getElem? (i := 1658) (by decide +kernel), List.mem_of_getElem? (i := 1659) (by decide +kernel)⟩
theorem lw_p106 : lw_okq (⟨"TwinBucketsModel", "empties", "()V"⟩, 46) := ⟨⟨by decide +kernel, by decide +kernel⟩, List.mem_of_getElem? (i := 1057) (by decide +kernel), List.mem_of_getElem? (i := 1662) (by decide +kernel), List.mem_of_getElem? (i := 1663) (by decide +kernel)⟩
theorem lw_p107 : lw_okq (⟨"TwinBucketsModel", "isSo", "(I)Z"⟩, 46) := ⟨⟨by decide +kernel, by decide +kernel⟩, List.mem_of_getElem? (i := 1057) (by decide +kernel), List.mem_of_getElem? (i := 1682) (by decide +kernel), List.mem_of_getElem? (i := 1683) (by decide +kernel)⟩
theorem lw_p108 : lw_okq (⟨"TwinBucketsModel", "runs", "(I)Z"⟩, 46) := ⟨⟨by decide +kernel, by decide +kernel⟩, List.mem_of_getElem? (i := 1057) (by decide +kernel), List.mem_of_getElem? (i := 1713) (by decide +kernel), List.mem_of_getElem? (i := 1714) (by decide +kernel)⟩
theorem lw_p109 : lw_okq (⟨"TwinBucketsModel", "goesAlong", "(IZ)V"⟩, 46) := ⟨⟨by decide +kernel, by decide +kernel⟩, List.mem_of_getElem? (i := 1057) (by decide +kernel), List.mem_of_getElem? (i := 1717) (by decide +kernel), List.mem_of_getElem? (i := 1718) (by decide +kernel)⟩
theorem lw_p110 : lw_okq (⟨"TwinBucketsModel", "obeys", "()I"⟩, 46) := ⟨⟨by decide +kernel, by decide +kernel⟩, List.mem_of_getElem? (i := 1057) (by decide +kernel), List.mem_of_getElem? (i := 1721) (by decide +kernel), List.mem_of_getElem? (i := 1722) (by decide +kernel)⟩
theorem lw_p111 : lw_okq (⟨"TwinBucketsModel", "drawnAct", "()V"⟩, 46) := ⟨⟨by decide +kernel, by decide +kernel⟩, List.mem_of_getElem? (i := 1057) (by decide +kernel), List.mem_of_getElem? (i := 1733) (by decide +kernel), List.mem_of_getElem? (i := 1734) (by decide +kernel)⟩
def lw_privs_7 : List (MethodName × Nat) := [(⟨"TwinBucketsModel", "joins", "(I)I"⟩, 46), (⟨"TwinBucketsModel", "deepestOf", "()I"⟩, 46), (⟨"TwinBucketsModel", "flushesKept", "(I)I"⟩, 46), (⟨"TwinBucketsModel", "crashesKept", "(I)I"⟩, 46), (⟨"TwinBucketsModel", "loses", "(I)V"⟩, 46), (⟨"TwinBucketsModel", "deepestPage", "(I)I"⟩, 46), (⟨"TwinBucketsModel", "builds", "(II)V"⟩, 46), (⟨"TwinBucketsModel", "wouldSplit", "(I)Z"⟩, 46), (⟨"TwinBucketsModel", "usedMany", "()I"⟩, 46), (⟨"TwinBucketsModel", "neededBy", "(I)I"⟩, 46), (⟨"TwinBucketsModel", "empties", "()V"⟩, 46), (⟨"TwinBucketsModel", "isSo", "(I)Z"⟩, 46), (⟨"TwinBucketsModel", "runs", "(I)Z"⟩, 46), (⟨"TwinBucketsModel", "goesAlong", "(IZ)V"⟩, 46), (⟨"TwinBucketsModel", "obeys", "()I"⟩, 46), (⟨"TwinBucketsModel", "drawnAct", "()V"⟩, 46)]
theorem lw_r7 : ∀ q ∈ lw_privs_7, lw_okq q := List.forall_mem_cons.mpr ⟨lw_p96, List.forall_mem_cons.mpr ⟨lw_p97, List.forall_mem_cons.mpr ⟨lw_p98, List.forall_mem_cons.mpr ⟨lw_p99, List.forall_mem_cons.mpr ⟨lw_p100, List.forall_mem_cons.mpr ⟨lw_p101, List.forall_mem_cons.mpr ⟨lw_p102, List.forall_mem_cons.mpr ⟨lw_p103, List.forall_mem_cons.mpr ⟨lw_p104, List.forall_mem_cons.mpr ⟨lw_p105, List.forall_mem_cons.mpr ⟨lw_p106, List.forall_mem_cons.mpr ⟨lw_p107, List.forall_mem_cons.mpr ⟨lw_p108, List.forall_mem_cons.mpr ⟨lw_p109, List.forall_mem_cons.mpr ⟨lw_p110, List.forall_mem_cons.mpr ⟨lw_p111, fun _ h => absurd h List.not_mem_nil⟩⟩⟩⟩⟩⟩⟩⟩⟩⟩⟩⟩⟩⟩⟩⟩
theorem lw_p112 : lw_okq (⟨"TwinBucketsModel", "draws", "(I)I"⟩, 46) := ⟨⟨by decide +kernel, by decide +kernel⟩, List.mem_of_getElem? (i := 1057) (by decide +kernel), List.mem_of_getElem? (i := 1737) (by decide +kernel), List.mem_of_getElem? (i := 1738) (by decide +kernel)⟩
def lw_privs_8 : List (MethodName × Nat) := [(⟨"TwinBucketsModel", "draws", "(I)I"⟩, 46)]
theorem lw_r8 : ∀ q ∈ lw_privs_8, lw_okq q := List.forall_mem_cons.mpr ⟨lw_p112, fun _ h => absurd h List.not_mem_nil⟩
def lw_privs : List (MethodName × Nat) := lw_privs_1 ++ (lw_privs_2 ++ (lw_privs_3 ++ (lw_privs_4 ++ (lw_privs_5 ++ (lw_privs_6 ++ (lw_privs_7 ++ (lw_privs_8)))))))
def lw_tbl : List Cond := k2_sels lw_privs ++ tables_1
theorem lw_privs_ok : ∀ q ∈ lw_privs, lw_okq q := by
  show ∀ q ∈ lw_privs_1 ++ (lw_privs_2 ++ (lw_privs_3 ++ (lw_privs_4 ++ (lw_privs_5 ++ (lw_privs_6 ++ (lw_privs_7 ++ (lw_privs_8))))))), lw_okq q
  exact List.forall_mem_append.mpr ⟨lw_r1, List.forall_mem_append.mpr ⟨lw_r2, List.forall_mem_append.mpr ⟨lw_r3, List.forall_mem_append.mpr ⟨lw_r4, List.forall_mem_append.mpr ⟨lw_r5, List.forall_mem_append.mpr ⟨lw_r6, List.forall_mem_append.mpr ⟨lw_r7, lw_r8⟩⟩⟩⟩⟩⟩⟩
-- ===== end of PART A; then your names; then what follows =====
/-- the words that a call may take along -/
def gw : List Cond := lw_tbl.filter goodWord
theorem gw_of {w : Cond} (h : w ∈ lw_tbl) (g : goodWord w = true) : w ∈ gw := List.mem_filter.mpr ⟨h, g⟩
theorem gw_tbl {w : Cond} (h : w ∈ gw) : w ∈ lw_tbl := (List.mem_filter.mp h).1
theorem gw_good {w : Cond} (h : w ∈ gw) : goodWord w = true := (List.mem_filter.mp h).2
theorem tb1 {w : Cond} (h : w ∈ tables_1_1) : w ∈ lw_tbl := List.mem_append_right _ (show w ∈ tables_1 from List.mem_append_left _ h)
theorem gm1 (i : Nat) {w : Cond} (h : tables_1_1[i]? = some w) (g : goodWord w = true) : w ∈ gw := gw_of (tb1 (List.mem_of_getElem? h)) g
theorem tb2 {w : Cond} (h : w ∈ tables_1_2) : w ∈ lw_tbl := List.mem_append_right _ (show w ∈ tables_1 from List.mem_append_right _ (List.mem_append_left _ h))
theorem gm2 (i : Nat) {w : Cond} (h : tables_1_2[i]? = some w) (g : goodWord w = true) : w ∈ gw := gw_of (tb2 (List.mem_of_getElem? h)) g
theorem tb3 {w : Cond} (h : w ∈ tables_1_3) : w ∈ lw_tbl := List.mem_append_right _ (show w ∈ tables_1 from List.mem_append_right _ (List.mem_append_right _ (List.mem_append_left _ h)))
theorem gm3 (i : Nat) {w : Cond} (h : tables_1_3[i]? = some w) (g : goodWord w = true) : w ∈ gw := gw_of (tb3 (List.mem_of_getElem? h)) g
theorem tb4 {w : Cond} (h : w ∈ tables_1_4) : w ∈ lw_tbl := List.mem_append_right _ (show w ∈ tables_1 from List.mem_append_right _ (List.mem_append_right _ (List.mem_append_right _ (List.mem_append_left _ h))))
theorem gm4 (i : Nat) {w : Cond} (h : tables_1_4[i]? = some w) (g : goodWord w = true) : w ∈ gw := gw_of (tb4 (List.mem_of_getElem? h)) g
theorem tb5 {w : Cond} (h : w ∈ tables_1_5) : w ∈ lw_tbl := List.mem_append_right _ (show w ∈ tables_1 from List.mem_append_right _ (List.mem_append_right _ (List.mem_append_right _ (List.mem_append_right _ (List.mem_append_left _ h)))))
theorem gm5 (i : Nat) {w : Cond} (h : tables_1_5[i]? = some w) (g : goodWord w = true) : w ∈ gw := gw_of (tb5 (List.mem_of_getElem? h)) g
theorem tb6 {w : Cond} (h : w ∈ tables_1_6) : w ∈ lw_tbl := List.mem_append_right _ (show w ∈ tables_1 from List.mem_append_right _ (List.mem_append_right _ (List.mem_append_right _ (List.mem_append_right _ (List.mem_append_right _ (List.mem_append_left _ h))))))
theorem gm6 (i : Nat) {w : Cond} (h : tables_1_6[i]? = some w) (g : goodWord w = true) : w ∈ gw := gw_of (tb6 (List.mem_of_getElem? h)) g
theorem tb7 {w : Cond} (h : w ∈ tables_1_7) : w ∈ lw_tbl := List.mem_append_right _ (show w ∈ tables_1 from List.mem_append_right _ (List.mem_append_right _ (List.mem_append_right _ (List.mem_append_right _ (List.mem_append_right _ (List.mem_append_right _ (List.mem_append_left _ h)))))))
theorem gm7 (i : Nat) {w : Cond} (h : tables_1_7[i]? = some w) (g : goodWord w = true) : w ∈ gw := gw_of (tb7 (List.mem_of_getElem? h)) g
theorem tb8 {w : Cond} (h : w ∈ tables_1_8) : w ∈ lw_tbl := List.mem_append_right _ (show w ∈ tables_1 from List.mem_append_right _ (List.mem_append_right _ (List.mem_append_right _ (List.mem_append_right _ (List.mem_append_right _ (List.mem_append_right _ (List.mem_append_right _ (h))))))))
theorem gm8 (i : Nat) {w : Cond} (h : tables_1_8[i]? = some w) (g : goodWord w = true) : w ∈ gw := gw_of (tb8 (List.mem_of_getElem? h)) g
theorem gp1 (i : Nat) {q : MethodName × Nat} (h : lw_privs_1[i]? = some q) : Cond.selects q.1.cls q.1 q.1 ∈ gw := gw_of (List.mem_append_left _ (List.mem_map.mpr ⟨q, (show q ∈ lw_privs from (have h := List.mem_of_getElem? h; List.mem_append_left _ h)), rfl⟩)) rfl
theorem gp2 (i : Nat) {q : MethodName × Nat} (h : lw_privs_2[i]? = some q) : Cond.selects q.1.cls q.1 q.1 ∈ gw := gw_of (List.mem_append_left _ (List.mem_map.mpr ⟨q, (show q ∈ lw_privs from (have h := List.mem_of_getElem? h; List.mem_append_right _ (List.mem_append_left _ h))), rfl⟩)) rfl
theorem gp3 (i : Nat) {q : MethodName × Nat} (h : lw_privs_3[i]? = some q) : Cond.selects q.1.cls q.1 q.1 ∈ gw := gw_of (List.mem_append_left _ (List.mem_map.mpr ⟨q, (show q ∈ lw_privs from (have h := List.mem_of_getElem? h; List.mem_append_right _ (List.mem_append_right _ (List.mem_append_left _ h)))), rfl⟩)) rfl
theorem gp4 (i : Nat) {q : MethodName × Nat} (h : lw_privs_4[i]? = some q) : Cond.selects q.1.cls q.1 q.1 ∈ gw := gw_of (List.mem_append_left _ (List.mem_map.mpr ⟨q, (show q ∈ lw_privs from (have h := List.mem_of_getElem? h; List.mem_append_right _ (List.mem_append_right _ (List.mem_append_right _ (List.mem_append_left _ h))))), rfl⟩)) rfl
theorem gp5 (i : Nat) {q : MethodName × Nat} (h : lw_privs_5[i]? = some q) : Cond.selects q.1.cls q.1 q.1 ∈ gw := gw_of (List.mem_append_left _ (List.mem_map.mpr ⟨q, (show q ∈ lw_privs from (have h := List.mem_of_getElem? h; List.mem_append_right _ (List.mem_append_right _ (List.mem_append_right _ (List.mem_append_right _ (List.mem_append_left _ h)))))), rfl⟩)) rfl
theorem gp6 (i : Nat) {q : MethodName × Nat} (h : lw_privs_6[i]? = some q) : Cond.selects q.1.cls q.1 q.1 ∈ gw := gw_of (List.mem_append_left _ (List.mem_map.mpr ⟨q, (show q ∈ lw_privs from (have h := List.mem_of_getElem? h; List.mem_append_right _ (List.mem_append_right _ (List.mem_append_right _ (List.mem_append_right _ (List.mem_append_right _ (List.mem_append_left _ h))))))), rfl⟩)) rfl
theorem gp7 (i : Nat) {q : MethodName × Nat} (h : lw_privs_7[i]? = some q) : Cond.selects q.1.cls q.1 q.1 ∈ gw := gw_of (List.mem_append_left _ (List.mem_map.mpr ⟨q, (show q ∈ lw_privs from (have h := List.mem_of_getElem? h; List.mem_append_right _ (List.mem_append_right _ (List.mem_append_right _ (List.mem_append_right _ (List.mem_append_right _ (List.mem_append_right _ (List.mem_append_left _ h)))))))), rfl⟩)) rfl
theorem gp8 (i : Nat) {q : MethodName × Nat} (h : lw_privs_8[i]? = some q) : Cond.selects q.1.cls q.1 q.1 ∈ gw := gw_of (List.mem_append_left _ (List.mem_map.mpr ⟨q, (show q ∈ lw_privs from (have h := List.mem_of_getElem? h; List.mem_append_right _ (List.mem_append_right _ (List.mem_append_right _ (List.mem_append_right _ (List.mem_append_right _ (List.mem_append_right _ (List.mem_append_right _ (h))))))))), rfl⟩)) rfl
def RX0 : String := "TwinBuckets$History"
def TX0 : u_T := fun k => match k with
  | 0 => ("TwinBuckets$History", "kept", "[LTwinBuckets$Store;", true)
  | 1 => ("TwinBuckets$History", "kinds", "[I", true)
  | 2 => ("TwinBuckets$History", "spare", "LTwinBuckets$Store;", false)
  | _ => ("TwinBuckets$History", "many", "I", false)
def tyX0 : Nat → FieldType := fun k => match k with
  | 0 => .array (.object "TwinBuckets$Store")
  | 1 => .array .int
  | 2 => .object "TwinBuckets$Store"
  | _ => .int
theorem nmX0 : ∀ a, a < 4 → ∀ b, b < 4 → a ≠ b → (TX0 a).2.1 ≠ (TX0 b).2.1 := by decide +kernel
theorem tyX0_ok : ∀ k, k < 4 → parseFieldDescriptor (TX0 k).2.2.1 = some (tyX0 k) := by decide +kernel
def RX1 : String := "TwinBuckets$Image"
def TX1 : u_T := fun k => match k with
  | 0 => ("TwinBuckets$Image", "store", "LTwinBuckets$Store;", true)
  | 1 => ("TwinBuckets$Image", "rules", "LTwinBuckets$Rules;", true)
  | _ => ("TwinBuckets$Image", "sightings", "LTwinBuckets$Sightings;", true)
def tyX1 : Nat → FieldType := fun k => match k with
  | 0 => .object "TwinBuckets$Store"
  | 1 => .object "TwinBuckets$Rules"
  | _ => .object "TwinBuckets$Sightings"
theorem nmX1 : ∀ a, a < 3 → ∀ b, b < 3 → a ≠ b → (TX1 a).2.1 ≠ (TX1 b).2.1 := by decide +kernel
theorem tyX1_ok : ∀ k, k < 3 → parseFieldDescriptor (TX1 k).2.2.1 = some (tyX1 k) := by decide +kernel
def RX2 : String := "TwinBuckets$Pages"
def TX2 : u_T := fun k => match k with
  | _ => ("TwinBuckets$Pages", "cells", "[I", true)
def tyX2 : Nat → FieldType := fun k => match k with
  | _ => .array .int
theorem nmX2 : ∀ a, a < 1 → ∀ b, b < 1 → a ≠ b → (TX2 a).2.1 ≠ (TX2 b).2.1 := by decide +kernel
theorem tyX2_ok : ∀ k, k < 1 → parseFieldDescriptor (TX2 k).2.2.1 = some (tyX2 k) := by decide +kernel
def RX3 : String := "TwinBuckets$Rules"
def TX3 : u_T := fun k => match k with
  | 0 => ("TwinBuckets$Rules", "laws", "[LTwinBuckets$Text;", true)
  | 1 => ("TwinBuckets$Rules", "words", "[I", true)
  | 2 => ("TwinBuckets$Rules", "stack", "[I", true)
  | 3 => ("TwinBuckets$Rules", "lawCount", "I", false)
  | 4 => ("TwinBuckets$Rules", "inForce", "I", false)
  | 5 => ("TwinBuckets$Rules", "fails", "I", false)
  | 6 => ("TwinBuckets$Rules", "mood", "I", false)
  | _ => ("TwinBuckets$Rules", "salt", "I", false)
def tyX3 : Nat → FieldType := fun k => match k with
  | 0 => .array (.object "TwinBuckets$Text")
  | 1 => .array .int
  | 2 => .array .int
  | 3 => .int
  | 4 => .int
  | 5 => .int
  | 6 => .int
  | _ => .int
theorem nmX3 : ∀ a, a < 8 → ∀ b, b < 8 → a ≠ b → (TX3 a).2.1 ≠ (TX3 b).2.1 := by decide +kernel
theorem tyX3_ok : ∀ k, k < 8 → parseFieldDescriptor (TX3 k).2.2.1 = some (tyX3 k) := by decide +kernel
def RX4 : String := "TwinBuckets$Sightings"
def TX4 : u_T := fun k => match k with
  | 0 => ("TwinBuckets$Sightings", "slots", "[I", true)
  | 1 => ("TwinBuckets$Sightings", "are", "[I", true)
  | _ => ("TwinBuckets$Sightings", "many", "I", false)
def tyX4 : Nat → FieldType := fun k => match k with
  | 0 => .array .int
  | 1 => .array .int
  | _ => .int
theorem nmX4 : ∀ a, a < 3 → ∀ b, b < 3 → a ≠ b → (TX4 a).2.1 ≠ (TX4 b).2.1 := by decide +kernel
theorem tyX4_ok : ∀ k, k < 3 → parseFieldDescriptor (TX4 k).2.2.1 = some (tyX4 k) := by decide +kernel
def RX5 : String := "TwinBuckets$Store"
def TX5 : u_T := fun k => match k with
  | 0 => ("TwinBuckets$Store", "buckets", "LTwinBuckets$Pages;", true)
  | 1 => ("TwinBuckets$Store", "disk", "LTwinBuckets$Pages;", true)
  | 2 => ("TwinBuckets$Store", "owners", "[I", true)
  | 3 => ("TwinBuckets$Store", "writes", "[I", true)
  | 4 => ("TwinBuckets$Store", "eldest", "I", false)
  | 5 => ("TwinBuckets$Store", "waits", "I", false)
  | 6 => ("TwinBuckets$Store", "deep", "I", false)
  | _ => ("TwinBuckets$Store", "time", "I", false)
def tyX5 : Nat → FieldType := fun k => match k with
  | 0 => .object "TwinBuckets$Pages"
  | 1 => .object "TwinBuckets$Pages"
  | 2 => .array .int
  | 3 => .array .int
  | 4 => .int
  | 5 => .int
  | 6 => .int
  | _ => .int
theorem nmX5 : ∀ a, a < 8 → ∀ b, b < 8 → a ≠ b → (TX5 a).2.1 ≠ (TX5 b).2.1 := by decide +kernel
theorem tyX5_ok : ∀ k, k < 8 → parseFieldDescriptor (TX5 k).2.2.1 = some (tyX5 k) := by decide +kernel
def RX6 : String := "TwinBuckets$Tape"
def TX6 : u_T := fun k => match k with
  | 0 => ("TwinBuckets$Tape", "text", "LTwinBuckets$Text;", true)
  | 1 => ("TwinBuckets$Tape", "bytes", "[I", true)
  | 2 => ("TwinBuckets$Tape", "fed", "I", false)
  | 3 => ("TwinBuckets$Tape", "length", "I", false)
  | 4 => ("TwinBuckets$Tape", "isOrders", "Z", false)
  | 5 => ("TwinBuckets$Tape", "parts", "I", false)
  | 6 => ("TwinBuckets$Tape", "kind", "I", false)
  | 7 => ("TwinBuckets$Tape", "start", "I", false)
  | 8 => ("TwinBuckets$Tape", "after", "I", false)
  | _ => ("TwinBuckets$Tape", "number", "I", false)
def tyX6 : Nat → FieldType := fun k => match k with
  | 0 => .object "TwinBuckets$Text"
  | 1 => .array .int
  | 2 => .int
  | 3 => .int
  | 4 => .boolean
  | 5 => .int
  | 6 => .int
  | 7 => .int
  | 8 => .int
  | _ => .int
theorem nmX6 : ∀ a, a < 10 → ∀ b, b < 10 → a ≠ b → (TX6 a).2.1 ≠ (TX6 b).2.1 := by decide +kernel
theorem tyX6_ok : ∀ k, k < 10 → parseFieldDescriptor (TX6 k).2.2.1 = some (tyX6 k) := by decide +kernel
def RX7 : String := "TwinBuckets$Text"
def TX7 : u_T := fun k => match k with
  | 0 => ("TwinBuckets$Text", "ops", "[I", true)
  | 1 => ("TwinBuckets$Text", "args", "[I", true)
  | 2 => ("TwinBuckets$Text", "clauses", "[I", true)
  | 3 => ("TwinBuckets$Text", "asked", "[I", true)
  | 4 => ("TwinBuckets$Text", "size", "I", false)
  | 5 => ("TwinBuckets$Text", "clauseCount", "I", false)
  | _ => ("TwinBuckets$Text", "askedCount", "I", false)
def tyX7 : Nat → FieldType := fun k => match k with
  | 0 => .array .int
  | 1 => .array .int
  | 2 => .array .int
  | 3 => .array .int
  | 4 => .int
  | 5 => .int
  | _ => .int
theorem nmX7 : ∀ a, a < 7 → ∀ b, b < 7 → a ≠ b → (TX7 a).2.1 ≠ (TX7 b).2.1 := by decide +kernel
theorem tyX7_ok : ∀ k, k < 7 → parseFieldDescriptor (TX7 k).2.2.1 = some (tyX7 k) := by decide +kernel
def RX8 : String := "TwinBuckets"
def TX8 : u_T := fun k => match k with
  | 0 => ("TwinBuckets", "now", "LTwinBuckets$Store;", true)
  | 1 => ("TwinBuckets", "paper", "LTwinBuckets$Store;", true)
  | 2 => ("TwinBuckets", "aheadOfOrders", "LTwinBuckets$Store;", true)
  | 3 => ("TwinBuckets", "rules", "LTwinBuckets$Rules;", true)
  | 4 => ("TwinBuckets", "sightings", "LTwinBuckets$Sightings;", true)
  | 5 => ("TwinBuckets", "history", "LTwinBuckets$History;", true)
  | 6 => ("TwinBuckets", "orderHistory", "LTwinBuckets$History;", true)
  | 7 => ("TwinBuckets", "images", "[LTwinBuckets$Image;", true)
  | 8 => ("TwinBuckets", "tape", "LTwinBuckets$Tape;", true)
  | 9 => ("TwinBuckets", "orderWords", "[I", true)
  | 10 => ("TwinBuckets", "refusals", "[I", true)
  | 11 => ("TwinBuckets", "drawnValues", "[I", true)
  | 12 => ("TwinBuckets", "slotCounts", "[I", true)
  | 13 => ("TwinBuckets", "chances", "[J", true)
  | 14 => ("TwinBuckets", "tearsOfRow", "I", false)
  | 15 => ("TwinBuckets", "faultPlace", "I", false)
  | 16 => ("TwinBuckets", "stoppedClause", "I", false)
  | _ => ("TwinBuckets", "latestRefusal", "I", false)
def tyX8 : Nat → FieldType := fun k => match k with
  | 0 => .object "TwinBuckets$Store"
  | 1 => .object "TwinBuckets$Store"
  | 2 => .object "TwinBuckets$Store"
  | 3 => .object "TwinBuckets$Rules"
  | 4 => .object "TwinBuckets$Sightings"
  | 5 => .object "TwinBuckets$History"
  | 6 => .object "TwinBuckets$History"
  | 7 => .array (.object "TwinBuckets$Image")
  | 8 => .object "TwinBuckets$Tape"
  | 9 => .array .int
  | 10 => .array .int
  | 11 => .array .int
  | 12 => .array .int
  | 13 => .array .long
  | 14 => .int
  | 15 => .int
  | 16 => .int
  | _ => .int
theorem nmX8 : ∀ a, a < 18 → ∀ b, b < 18 → a ≠ b → (TX8 a).2.1 ≠ (TX8 b).2.1 := by decide +kernel
theorem tyX8_ok : ∀ k, k < 18 → parseFieldDescriptor (TX8 k).2.2.1 = some (tyX8 k) := by decide +kernel
def RX9 : String := "TwinBucketsModel"
def TX9 : u_T := fun k => match k with
  | 0 => ("TwinBucketsModel", "status", "I", false)
  | 1 => ("TwinBucketsModel", "refused", "[I", true)
  | 2 => ("TwinBucketsModel", "kept", "[I", true)
  | 3 => ("TwinBucketsModel", "images", "[I", true)
  | 4 => ("TwinBucketsModel", "hasImage", "[Z", true)
  | 5 => ("TwinBucketsModel", "aside", "[I", true)
  | 6 => ("TwinBucketsModel", "tears0", "I", false)
  | 7 => ("TwinBucketsModel", "words", "[B", true)
  | 8 => ("TwinBucketsModel", "firstWord", "I", false)
  | 9 => ("TwinBucketsModel", "lastWord", "I", false)
  | 10 => ("TwinBucketsModel", "isOrders", "Z", false)
  | 11 => ("TwinBucketsModel", "tape", "[B", true)
  | 12 => ("TwinBucketsModel", "five", "[I", true)
  | 13 => ("TwinBucketsModel", "taped", "I", false)
  | 14 => ("TwinBucketsModel", "fault", "I", false)
  | 15 => ("TwinBucketsModel", "code", "[I", true)
  | 16 => ("TwinBucketsModel", "value", "[I", true)
  | 17 => ("TwinBucketsModel", "placed", "[I", true)
  | 18 => ("TwinBucketsModel", "tokens", "I", false)
  | 19 => ("TwinBucketsModel", "token", "I", false)
  | 20 => ("TwinBucketsModel", "leaves", "I", false)
  | 21 => ("TwinBucketsModel", "bad", "I", false)
  | 22 => ("TwinBucketsModel", "go", "I", false)
  | 23 => ("TwinBucketsModel", "goEnd", "I", false)
  | 24 => ("TwinBucketsModel", "broken", "Z", false)
  | 25 => ("TwinBucketsModel", "inOrders", "Z", false)
  | 26 => ("TwinBucketsModel", "asked", "[I", true)
  | 27 => ("TwinBucketsModel", "orderDone", "I", false)
  | 28 => ("TwinBucketsModel", "orderLatest", "I", false)
  | 29 => ("TwinBucketsModel", "pageOf", "[I", true)
  | 30 => ("TwinBucketsModel", "left0", "[I", true)
  | 31 => ("TwinBucketsModel", "leftAhead", "[I", true)
  | 32 => ("TwinBucketsModel", "undoMany", "I", false)
  | 33 => ("TwinBucketsModel", "values0", "[I", true)
  | 34 => ("TwinBucketsModel", "ownerNow", "[I", true)
  | 35 => ("TwinBucketsModel", "shares", "[J", true)
  | 36 => ("TwinBucketsModel", "stopped0", "I", false)
  | 37 => ("TwinBucketsModel", "orderAt", "I", false)
  | 38 => ("TwinBucketsModel", "howOften", "I", false)
  | 39 => ("TwinBucketsModel", "head", "I", false)
  | 40 => ("TwinBucketsModel", "sumsAre", "Z", false)
  | 41 => ("TwinBucketsModel", "testIs", "Z", false)
  | 42 => ("TwinBucketsModel", "sums", "[J", true)
  | 43 => ("TwinBucketsModel", "drawnValues", "[I", true)
  | 44 => ("TwinBucketsModel", "hasDrawn", "Z", false)
  | _ => ("TwinBucketsModel", "latest", "I", false)
def tyX9 : Nat → FieldType := fun k => match k with
  | 0 => .int
  | 1 => .array .int
  | 2 => .array .int
  | 3 => .array .int
  | 4 => .array .boolean
  | 5 => .array .int
  | 6 => .int
  | 7 => .array .byte
  | 8 => .int
  | 9 => .int
  | 10 => .boolean
  | 11 => .array .byte
  | 12 => .array .int
  | 13 => .int
  | 14 => .int
  | 15 => .array .int
  | 16 => .array .int
  | 17 => .array .int
  | 18 => .int
  | 19 => .int
  | 20 => .int
  | 21 => .int
  | 22 => .int
  | 23 => .int
  | 24 => .boolean
  | 25 => .boolean
  | 26 => .array .int
  | 27 => .int
  | 28 => .int
  | 29 => .array .int
  | 30 => .array .int
  | 31 => .array .int
  | 32 => .int
  | 33 => .array .int
  | 34 => .array .int
  | 35 => .array .long
  | 36 => .int
  | 37 => .int
  | 38 => .int
  | 39 => .int
  | 40 => .boolean
  | 41 => .boolean
  | 42 => .array .long
  | 43 => .array .int
  | 44 => .boolean
  | _ => .int
theorem nmX9 : ∀ a, a < 46 → ∀ b, b < 46 → a ≠ b → (TX9 a).2.1 ≠ (TX9 b).2.1 := by decide +kernel
theorem tyX9_ok : ∀ k, k < 46 → parseFieldDescriptor (TX9 k).2.2.1 = some (tyX9 k) := by decide +kernel
abbrev xclasses : List vw_C := [(RX0, TX0, 4), (RX1, TX1, 3), (RX2, TX2, 1), (RX3, TX3, 8), (RX4, TX4, 3), (RX5, TX5, 8), (RX6, TX6, 10), (RX7, TX7, 7), (RX8, TX8, 18), (RX9, TX9, 46)]
def xcnL : List String := ["TwinBuckets$History", "TwinBuckets$Image", "TwinBuckets$Pages", "TwinBuckets$Rules", "TwinBuckets$Sightings", "TwinBuckets$Store", "TwinBuckets$Tape", "TwinBuckets$Text", "TwinBuckets", "TwinBucketsModel", "TwinBucketsLaw", "java/util/Arrays", "java/lang/Integer"]
def xcn (o : Nat) : String := xcnL.getD o ""
def xtyL : List (Nat → FieldType) := [tyX0, tyX1, tyX2, tyX3, tyX4, tyX5, tyX6, tyX7, tyX8, tyX9]
/-- names, bytes, return types of the methods, by their numbers -/
def xm_0 : MethodName × ByteArray × Option FieldType := (⟨"TwinBuckets$History", "<init>", "()V"⟩, prog_2_method_1_code, none)
def xm_1 : MethodName × ByteArray × Option FieldType := (⟨"TwinBuckets$History", "clear", "()V"⟩, prog_2_method_2_code, none)
def xm_2 : MethodName × ByteArray × Option FieldType := (⟨"TwinBuckets$History", "prepare", "(LTwinBuckets$Store;)V"⟩, prog_2_method_3_code, none)
def xm_3 : MethodName × ByteArray × Option FieldType := (⟨"TwinBuckets$History", "commit", "(I)V"⟩, prog_2_method_4_code, none)
def xm_4 : MethodName × ByteArray × Option FieldType := (⟨"TwinBuckets$History", "keep", "(LTwinBuckets$Store;I)LTwinBuckets$Store;"⟩, prog_2_method_5_code, (some (.object "TwinBuckets$Store")))
def xm_5 : MethodName × ByteArray × Option FieldType := (⟨"TwinBuckets$History", "takeOver", "(LTwinBuckets$History;)V"⟩, prog_2_method_6_code, none)
def xm_6 : MethodName × ByteArray × Option FieldType := (⟨"TwinBuckets$History", "takeBack", "(LTwinBuckets$Store;)I"⟩, prog_2_method_7_code, (some (.int)))
def xm_7 : MethodName × ByteArray × Option FieldType := (⟨"TwinBuckets$Image", "<init>", "()V"⟩, prog_3_method_1_code, none)
def xm_8 : MethodName × ByteArray × Option FieldType := (⟨"TwinBuckets$Pages", "<init>", "()V"⟩, prog_4_method_1_code, none)
def xm_9 : MethodName × ByteArray × Option FieldType := (⟨"TwinBuckets$Pages", "copyFrom", "(LTwinBuckets$Pages;)V"⟩, prog_4_method_2_code, none)
def xm_10 : MethodName × ByteArray × Option FieldType := (⟨"TwinBuckets$Pages", "tell", "(II)I"⟩, prog_4_method_3_code, (some (.int)))
def xm_11 : MethodName × ByteArray × Option FieldType := (⟨"TwinBuckets$Pages", "isUsed", "(I)Z"⟩, prog_4_method_4_code, (some (.boolean)))
def xm_12 : MethodName × ByteArray × Option FieldType := (⟨"TwinBuckets$Pages", "depth", "(I)I"⟩, prog_4_method_5_code, (some (.int)))
def xm_13 : MethodName × ByteArray × Option FieldType := (⟨"TwinBuckets$Pages", "prefix", "(I)I"⟩, prog_4_method_6_code, (some (.int)))
def xm_14 : MethodName × ByteArray × Option FieldType := (⟨"TwinBuckets$Pages", "many", "(I)I"⟩, prog_4_method_7_code, (some (.int)))
def xm_15 : MethodName × ByteArray × Option FieldType := (⟨"TwinBuckets$Pages", "keyAt", "(II)I"⟩, prog_4_method_8_code, (some (.int)))
def xm_16 : MethodName × ByteArray × Option FieldType := (⟨"TwinBuckets$Pages", "valueAt", "(II)I"⟩, prog_4_method_9_code, (some (.int)))
def xm_17 : MethodName × ByteArray × Option FieldType := (⟨"TwinBuckets$Pages", "setValue", "(III)V"⟩, prog_4_method_10_code, none)
def xm_18 : MethodName × ByteArray × Option FieldType := (⟨"TwinBuckets$Pages", "setPlace", "(III)V"⟩, prog_4_method_11_code, none)
def xm_19 : MethodName × ByteArray × Option FieldType := (⟨"TwinBuckets$Pages", "clear", "(I)V"⟩, prog_4_method_12_code, none)
def xm_20 : MethodName × ByteArray × Option FieldType := (⟨"TwinBuckets$Pages", "find", "(II)I"⟩, prog_4_method_13_code, (some (.int)))
def xm_21 : MethodName × ByteArray × Option FieldType := (⟨"TwinBuckets$Pages", "append", "(III)V"⟩, prog_4_method_14_code, none)
def xm_22 : MethodName × ByteArray × Option FieldType := (⟨"TwinBuckets$Pages", "removeAt", "(II)V"⟩, prog_4_method_15_code, none)
def xm_23 : MethodName × ByteArray × Option FieldType := (⟨"TwinBuckets$Pages", "usedCount", "()I"⟩, prog_4_method_16_code, (some (.int)))
def xm_24 : MethodName × ByteArray × Option FieldType := (⟨"TwinBuckets$Pages", "lowestFree", "()I"⟩, prog_4_method_17_code, (some (.int)))
def xm_25 : MethodName × ByteArray × Option FieldType := (⟨"TwinBuckets$Pages", "greatestDepth", "()I"⟩, prog_4_method_18_code, (some (.int)))
def xm_26 : MethodName × ByteArray × Option FieldType := (⟨"TwinBuckets$Rules", "<init>", "()V"⟩, prog_5_method_1_code, none)
def xm_27 : MethodName × ByteArray × Option FieldType := (⟨"TwinBuckets$Rules", "copyFrom", "(LTwinBuckets$Rules;)V"⟩, prog_5_method_2_code, none)
def xm_28 : MethodName × ByteArray × Option FieldType := (⟨"TwinBuckets$Rules", "hashBy", "(II)I"⟩, prog_5_method_3_code, (some (.int)))
def xm_29 : MethodName × ByteArray × Option FieldType := (⟨"TwinBuckets$Rules", "hashOf", "(I)I"⟩, prog_5_method_4_code, (some (.int)))
def xm_30 : MethodName × ByteArray × Option FieldType := (⟨"TwinBuckets$Rules", "addLaw", "(LTwinBuckets$Text;)I"⟩, prog_5_method_5_code, (some (.int)))
def xm_31 : MethodName × ByteArray × Option FieldType := (⟨"TwinBuckets$Rules", "textOf", "(I)LTwinBuckets$Text;"⟩, prog_5_method_6_code, (some (.object "TwinBuckets$Text")))
def xm_32 : MethodName × ByteArray × Option FieldType := (⟨"TwinBuckets$Rules", "fillWords", "(LTwinBuckets$Store;III)V"⟩, prog_5_method_7_code, none)
def xm_33 : MethodName × ByteArray × Option FieldType := (⟨"TwinBuckets$Rules", "costOf", "(ILTwinBuckets$Store;I)I"⟩, prog_5_method_8_code, (some (.int)))
def xm_34 : MethodName × ByteArray × Option FieldType := (⟨"TwinBuckets$Rules", "bars", "(ILTwinBuckets$Store;I)Z"⟩, prog_5_method_9_code, (some (.boolean)))
def xm_35 : MethodName × ByteArray × Option FieldType := (⟨"TwinBuckets$Sightings", "<init>", "()V"⟩, prog_6_method_1_code, none)
def xm_36 : MethodName × ByteArray × Option FieldType := (⟨"TwinBuckets$Sightings", "copyFrom", "(LTwinBuckets$Sightings;)V"⟩, prog_6_method_2_code, none)
def xm_37 : MethodName × ByteArray × Option FieldType := (⟨"TwinBuckets$Sightings", "add", "(II)I"⟩, prog_6_method_3_code, (some (.int)))
def xm_38 : MethodName × ByteArray × Option FieldType := (⟨"TwinBuckets$Sightings", "candidates", "(LTwinBuckets$Store;)I"⟩, prog_6_method_4_code, (some (.int)))
def xm_39 : MethodName × ByteArray × Option FieldType := (⟨"TwinBuckets$Sightings", "fits", "(LTwinBuckets$Store;I)Z"⟩, prog_6_method_5_code, (some (.boolean)))
def xm_40 : MethodName × ByteArray × Option FieldType := (⟨"TwinBuckets$Store", "<init>", "()V"⟩, prog_7_method_1_code, none)
def xm_41 : MethodName × ByteArray × Option FieldType := (⟨"TwinBuckets$Store", "open", "()V"⟩, prog_7_method_2_code, none)
def xm_42 : MethodName × ByteArray × Option FieldType := (⟨"TwinBuckets$Store", "copyFrom", "(LTwinBuckets$Store;)V"⟩, prog_7_method_3_code, none)
def xm_43 : MethodName × ByteArray × Option FieldType := (⟨"TwinBuckets$Store", "slotsThere", "()I"⟩, prog_7_method_4_code, (some (.int)))
def xm_44 : MethodName × ByteArray × Option FieldType := (⟨"TwinBuckets$Store", "keysThere", "()I"⟩, prog_7_method_5_code, (some (.int)))
def xm_45 : MethodName × ByteArray × Option FieldType := (⟨"TwinBuckets$Store", "soughtIn", "(ILTwinBuckets$Rules;)I"⟩, prog_7_method_6_code, (some (.int)))
def xm_46 : MethodName × ByteArray × Option FieldType := (⟨"TwinBuckets$Store", "valueOf", "(ILTwinBuckets$Rules;)I"⟩, prog_7_method_7_code, (some (.int)))
def xm_47 : MethodName × ByteArray × Option FieldType := (⟨"TwinBuckets$Store", "isBarred", "(ILTwinBuckets$Rules;)Z"⟩, prog_7_method_8_code, (some (.boolean)))
def xm_48 : MethodName × ByteArray × Option FieldType := (⟨"TwinBuckets$Store", "placeKey", "(IILTwinBuckets$Rules;)I"⟩, prog_7_method_9_code, (some (.int)))
def xm_49 : MethodName × ByteArray × Option FieldType := (⟨"TwinBuckets$Store", "splitsNeeded", "(IILTwinBuckets$Rules;)I"⟩, prog_7_method_10_code, (some (.int)))
def xm_50 : MethodName × ByteArray × Option FieldType := (⟨"TwinBuckets$Store", "splitBucket", "(ILTwinBuckets$Rules;)I"⟩, prog_7_method_11_code, (some (.int)))
def xm_51 : MethodName × ByteArray × Option FieldType := (⟨"TwinBuckets$Store", "giveSlots", "(II)V"⟩, prog_7_method_12_code, none)
def xm_52 : MethodName × ByteArray × Option FieldType := (⟨"TwinBuckets$Store", "removeKey", "(ILTwinBuckets$Rules;)I"⟩, prog_7_method_13_code, (some (.int)))
def xm_53 : MethodName × ByteArray × Option FieldType := (⟨"TwinBuckets$Store", "twinOf", "(I)I"⟩, prog_7_method_14_code, (some (.int)))
def xm_54 : MethodName × ByteArray × Option FieldType := (⟨"TwinBuckets$Store", "joinTwins", "(II)V"⟩, prog_7_method_15_code, none)
def xm_55 : MethodName × ByteArray × Option FieldType := (⟨"TwinBuckets$Store", "queueWrite", "(ILTwinBuckets$Rules;)V"⟩, prog_7_method_16_code, none)
def xm_56 : MethodName × ByteArray × Option FieldType := (⟨"TwinBuckets$Store", "writeAt", "(I)I"⟩, prog_7_method_17_code, (some (.int)))
def xm_57 : MethodName × ByteArray × Option FieldType := (⟨"TwinBuckets$Store", "doEldest", "()V"⟩, prog_7_method_18_code, none)
def xm_58 : MethodName × ByteArray × Option FieldType := (⟨"TwinBuckets$Store", "tellWrite", "(II)I"⟩, prog_7_method_19_code, (some (.int)))
def xm_59 : MethodName × ByteArray × Option FieldType := (⟨"TwinBuckets$Store", "costOfWaiting", "()I"⟩, prog_7_method_20_code, (some (.int)))
def xm_60 : MethodName × ByteArray × Option FieldType := (⟨"TwinBuckets$Store", "doWrites", "(I)I"⟩, prog_7_method_21_code, (some (.int)))
def xm_61 : MethodName × ByteArray × Option FieldType := (⟨"TwinBuckets$Store", "losePower", "(ILTwinBuckets$Rules;)I"⟩, prog_7_method_22_code, (some (.int)))
def xm_62 : MethodName × ByteArray × Option FieldType := (⟨"TwinBuckets$Store", "findOwners", "()V"⟩, prog_7_method_23_code, none)
def xm_63 : MethodName × ByteArray × Option FieldType := (⟨"TwinBuckets$Store", "rebuildBucket", "(ILTwinBuckets$Rules;)V"⟩, prog_7_method_24_code, none)
def xm_64 : MethodName × ByteArray × Option FieldType := (⟨"TwinBuckets$Store", "keysNotAlike", "(LTwinBuckets$Store;LTwinBuckets$Rules;)I"⟩, prog_7_method_25_code, (some (.int)))
def xm_65 : MethodName × ByteArray × Option FieldType := (⟨"TwinBuckets$Store", "slotsNotAlike", "(LTwinBuckets$Store;)I"⟩, prog_7_method_26_code, (some (.int)))
def xm_66 : MethodName × ByteArray × Option FieldType := (⟨"TwinBuckets$Store", "wouldSplit", "(ILTwinBuckets$Rules;)Z"⟩, prog_7_method_27_code, (some (.boolean)))
def xm_67 : MethodName × ByteArray × Option FieldType := (⟨"TwinBuckets$Store", "bucketsBySalt", "(I[I)I"⟩, prog_7_method_28_code, (some (.int)))
def xm_68 : MethodName × ByteArray × Option FieldType := (⟨"TwinBuckets$Tape", "<init>", "()V"⟩, prog_8_method_1_code, none)
def xm_69 : MethodName × ByteArray × Option FieldType := (⟨"TwinBuckets$Tape", "addBytes", "(I)V"⟩, prog_8_method_2_code, none)
def xm_70 : MethodName × ByteArray × Option FieldType := (⟨"TwinBuckets$Tape", "take", "()I"⟩, prog_8_method_3_code, (some (.int)))
def xm_71 : MethodName × ByteArray × Option FieldType := (⟨"TwinBuckets$Tape", "readText", "(Z)I"⟩, prog_8_method_4_code, (some (.int)))
def xm_72 : MethodName × ByteArray × Option FieldType := (⟨"TwinBuckets$Tape", "next", "()V"⟩, prog_8_method_5_code, none)
def xm_73 : MethodName × ByteArray × Option FieldType := (⟨"TwinBuckets$Tape", "isWord", "(Ljava/lang/String;)Z"⟩, prog_8_method_6_code, (some (.boolean)))
def xm_74 : MethodName × ByteArray × Option FieldType := (⟨"TwinBuckets$Tape", "passWord", "(Ljava/lang/String;)Z"⟩, prog_8_method_7_code, (some (.boolean)))
def xm_75 : MethodName × ByteArray × Option FieldType := (⟨"TwinBuckets$Tape", "passSign", "(C)Z"⟩, prog_8_method_8_code, (some (.boolean)))
def xm_76 : MethodName × ByteArray × Option FieldType := (⟨"TwinBuckets$Tape", "readClause", "()Z"⟩, prog_8_method_9_code, (some (.boolean)))
def xm_77 : MethodName × ByteArray × Option FieldType := (⟨"TwinBuckets$Tape", "readRule", "()Z"⟩, prog_8_method_10_code, (some (.boolean)))
def xm_78 : MethodName × ByteArray × Option FieldType := (⟨"TwinBuckets$Tape", "readOrder", "()Z"⟩, prog_8_method_11_code, (some (.boolean)))
def xm_79 : MethodName × ByteArray × Option FieldType := (⟨"TwinBuckets$Tape", "readSumPart", "(I)Z"⟩, prog_8_method_12_code, (some (.boolean)))
def xm_80 : MethodName × ByteArray × Option FieldType := (⟨"TwinBuckets$Tape", "readTest", "(I)Z"⟩, prog_8_method_13_code, (some (.boolean)))
def xm_81 : MethodName × ByteArray × Option FieldType := (⟨"TwinBuckets$Tape", "readBoth", "(I)Z"⟩, prog_8_method_14_code, (some (.boolean)))
def xm_82 : MethodName × ByteArray × Option FieldType := (⟨"TwinBuckets$Tape", "readPlain", "(I)Z"⟩, prog_8_method_15_code, (some (.boolean)))
def xm_83 : MethodName × ByteArray × Option FieldType := (⟨"TwinBuckets$Tape", "readSum", "(I)Z"⟩, prog_8_method_16_code, (some (.boolean)))
def xm_84 : MethodName × ByteArray × Option FieldType := (⟨"TwinBuckets$Tape", "readTerm", "(I)Z"⟩, prog_8_method_17_code, (some (.boolean)))
def xm_85 : MethodName × ByteArray × Option FieldType := (⟨"TwinBuckets$Tape", "readPart", "(I)Z"⟩, prog_8_method_18_code, (some (.boolean)))
def xm_86 : MethodName × ByteArray × Option FieldType := (⟨"TwinBuckets$Tape", "readAsked", "(II)Z"⟩, prog_8_method_19_code, (some (.boolean)))
def xm_87 : MethodName × ByteArray × Option FieldType := (⟨"TwinBuckets$Tape", "lawWord", "()I"⟩, prog_8_method_20_code, (some (.int)))
def xm_88 : MethodName × ByteArray × Option FieldType := (⟨"TwinBuckets$Tape", "orderWord", "()I"⟩, prog_8_method_21_code, (some (.int)))
def xm_89 : MethodName × ByteArray × Option FieldType := (⟨"TwinBuckets$Text", "<init>", "()V"⟩, prog_9_method_1_code, none)
def xm_90 : MethodName × ByteArray × Option FieldType := (⟨"TwinBuckets$Text", "<init>", "(LTwinBuckets$Text;)V"⟩, prog_9_method_2_code, none)
def xm_91 : MethodName × ByteArray × Option FieldType := (⟨"TwinBuckets$Text", "clear", "()V"⟩, prog_9_method_3_code, none)
def xm_92 : MethodName × ByteArray × Option FieldType := (⟨"TwinBuckets$Text", "cell", "(II)I"⟩, prog_9_method_4_code, (some (.int)))
def xm_93 : MethodName × ByteArray × Option FieldType := (⟨"TwinBuckets$Text", "setCell", "(II)V"⟩, prog_9_method_5_code, none)
def xm_94 : MethodName × ByteArray × Option FieldType := (⟨"TwinBuckets$Text", "emit", "(II)V"⟩, prog_9_method_6_code, none)
def xm_95 : MethodName × ByteArray × Option FieldType := (⟨"TwinBuckets$Text", "aim", "(I)V"⟩, prog_9_method_7_code, none)
def xm_96 : MethodName × ByteArray × Option FieldType := (⟨"TwinBuckets$Text", "worth", "(II[I[I)I"⟩, prog_9_method_8_code, (some (.int)))
def xm_97 : MethodName × ByteArray × Option FieldType := (⟨"TwinBuckets$Text", "combine", "(IJJ)I"⟩, prog_9_method_9_code, (some (.int)))
def xm_98 : MethodName × ByteArray × Option FieldType := (⟨"TwinBuckets", "<init>", "()V"⟩, prog_1_method_1_code, none)
def xm_99 : MethodName × ByteArray × Option FieldType := (⟨"TwinBuckets", "of", "(II)I"⟩, prog_1_method_2_code, (some (.int)))
def xm_100 : MethodName × ByteArray × Option FieldType := (⟨"TwinBuckets", "page", "(II)I"⟩, prog_1_method_3_code, (some (.int)))
def xm_101 : MethodName × ByteArray × Option FieldType := (⟨"TwinBuckets", "write", "(II)I"⟩, prog_1_method_4_code, (some (.int)))
def xm_102 : MethodName × ByteArray × Option FieldType := (⟨"TwinBuckets", "slot", "(I)I"⟩, prog_1_method_5_code, (some (.int)))
def xm_103 : MethodName × ByteArray × Option FieldType := (⟨"TwinBuckets", "key", "(II)I"⟩, prog_1_method_6_code, (some (.int)))
def xm_104 : MethodName × ByteArray × Option FieldType := (⟨"TwinBuckets", "terms", "(II)I"⟩, prog_1_method_7_code, (some (.int)))
def xm_105 : MethodName × ByteArray × Option FieldType := (⟨"TwinBuckets", "feed", "(IIIII)I"⟩, prog_1_method_8_code, (some (.int)))
def xm_106 : MethodName × ByteArray × Option FieldType := (⟨"TwinBuckets", "end", "(I)I"⟩, prog_1_method_9_code, (some (.int)))
def xm_107 : MethodName × ByteArray × Option FieldType := (⟨"TwinBuckets", "row", "()I"⟩, prog_1_method_10_code, (some (.int)))
def xm_108 : MethodName × ByteArray × Option FieldType := (⟨"TwinBuckets", "tears", "()I"⟩, prog_1_method_11_code, (some (.int)))
def xm_109 : MethodName × ByteArray × Option FieldType := (⟨"TwinBuckets", "law", "()I"⟩, prog_1_method_12_code, (some (.int)))
def xm_110 : MethodName × ByteArray × Option FieldType := (⟨"TwinBuckets", "orders", "()I"⟩, prog_1_method_13_code, (some (.int)))
def xm_111 : MethodName × ByteArray × Option FieldType := (⟨"TwinBuckets", "fault", "()I"⟩, prog_1_method_14_code, (some (.int)))
def xm_112 : MethodName × ByteArray × Option FieldType := (⟨"TwinBuckets", "stopped", "()I"⟩, prog_1_method_15_code, (some (.int)))
def xm_113 : MethodName × ByteArray × Option FieldType := (⟨"TwinBuckets", "force", "(I)I"⟩, prog_1_method_16_code, (some (.int)))
def xm_114 : MethodName × ByteArray × Option FieldType := (⟨"TwinBuckets", "put", "(II)I"⟩, prog_1_method_17_code, (some (.int)))
def xm_115 : MethodName × ByteArray × Option FieldType := (⟨"TwinBuckets", "drop", "(I)I"⟩, prog_1_method_18_code, (some (.int)))
def xm_116 : MethodName × ByteArray × Option FieldType := (⟨"TwinBuckets", "flush", "(I)I"⟩, prog_1_method_19_code, (some (.int)))
def xm_117 : MethodName × ByteArray × Option FieldType := (⟨"TwinBuckets", "crash", "(I)I"⟩, prog_1_method_20_code, (some (.int)))
def xm_118 : MethodName × ByteArray × Option FieldType := (⟨"TwinBuckets", "undo", "()I"⟩, prog_1_method_21_code, (some (.int)))
def xm_119 : MethodName × ByteArray × Option FieldType := (⟨"TwinBuckets", "behind", "(II)I"⟩, prog_1_method_22_code, (some (.int)))
def xm_120 : MethodName × ByteArray × Option FieldType := (⟨"TwinBuckets", "lost", "(I)I"⟩, prog_1_method_23_code, (some (.int)))
def xm_121 : MethodName × ByteArray × Option FieldType := (⟨"TwinBuckets", "torn", "(I)I"⟩, prog_1_method_24_code, (some (.int)))
def xm_122 : MethodName × ByteArray × Option FieldType := (⟨"TwinBuckets", "splits", "()I"⟩, prog_1_method_25_code, (some (.int)))
def xm_123 : MethodName × ByteArray × Option FieldType := (⟨"TwinBuckets", "room", "()I"⟩, prog_1_method_26_code, (some (.int)))
def xm_124 : MethodName × ByteArray × Option FieldType := (⟨"TwinBuckets", "twin", "(I)I"⟩, prog_1_method_27_code, (some (.int)))
def xm_125 : MethodName × ByteArray × Option FieldType := (⟨"TwinBuckets", "salts", "(I)I"⟩, prog_1_method_28_code, (some (.int)))
def xm_126 : MethodName × ByteArray × Option FieldType := (⟨"TwinBuckets", "spent", "()I"⟩, prog_1_method_29_code, (some (.int)))
def xm_127 : MethodName × ByteArray × Option FieldType := (⟨"TwinBuckets", "seen", "(II)I"⟩, prog_1_method_30_code, (some (.int)))
def xm_128 : MethodName × ByteArray × Option FieldType := (⟨"TwinBuckets", "forget", "()I"⟩, prog_1_method_31_code, (some (.int)))
def xm_129 : MethodName × ByteArray × Option FieldType := (⟨"TwinBuckets", "canBe", "()I"⟩, prog_1_method_32_code, (some (.int)))
def xm_130 : MethodName × ByteArray × Option FieldType := (⟨"TwinBuckets", "read", "(I)I"⟩, prog_1_method_33_code, (some (.int)))
def xm_131 : MethodName × ByteArray × Option FieldType := (⟨"TwinBuckets", "few", "(II)J"⟩, prog_1_method_34_code, (some (.long)))
def xm_132 : MethodName × ByteArray × Option FieldType := (⟨"TwinBuckets", "compare", "(II)I"⟩, prog_1_method_35_code, (some (.int)))
def xm_133 : MethodName × ByteArray × Option FieldType := (⟨"TwinBuckets", "years", "(II)I"⟩, prog_1_method_36_code, (some (.int)))
def xm_134 : MethodName × ByteArray × Option FieldType := (⟨"TwinBuckets", "drawn", "(I)I"⟩, prog_1_method_37_code, (some (.int)))
def xm_135 : MethodName × ByteArray × Option FieldType := (⟨"TwinBuckets", "image", "(I)I"⟩, prog_1_method_38_code, (some (.int)))
def xm_136 : MethodName × ByteArray × Option FieldType := (⟨"TwinBuckets", "back", "(I)I"⟩, prog_1_method_39_code, (some (.int)))
def xm_137 : MethodName × ByteArray × Option FieldType := (⟨"TwinBuckets", "count", "(I)I"⟩, prog_1_method_40_code, (some (.int)))
def xm_138 : MethodName × ByteArray × Option FieldType := (⟨"TwinBuckets", "status", "()I"⟩, prog_1_method_41_code, (some (.int)))
def xm_139 : MethodName × ByteArray × Option FieldType := (⟨"TwinBuckets", "isKey", "(I)Z"⟩, prog_1_method_42_code, (some (.boolean)))
def xm_140 : MethodName × ByteArray × Option FieldType := (⟨"TwinBuckets", "isBucket", "(I)Z"⟩, prog_1_method_43_code, (some (.boolean)))
def xm_141 : MethodName × ByteArray × Option FieldType := (⟨"TwinBuckets", "refuse", "(I)I"⟩, prog_1_method_44_code, (some (.int)))
def xm_142 : MethodName × ByteArray × Option FieldType := (⟨"TwinBuckets", "grant", "(I)I"⟩, prog_1_method_45_code, (some (.int)))
def xm_143 : MethodName × ByteArray × Option FieldType := (⟨"TwinBuckets", "answer", "(I)I"⟩, prog_1_method_46_code, (some (.int)))
def xm_144 : MethodName × ByteArray × Option FieldType := (⟨"TwinBuckets", "mostOfTerm", "(I)I"⟩, prog_1_method_47_code, (some (.int)))
def xm_145 : MethodName × ByteArray × Option FieldType := (⟨"TwinBuckets", "termNow", "(I)I"⟩, prog_1_method_48_code, (some (.int)))
def xm_146 : MethodName × ByteArray × Option FieldType := (⟨"TwinBuckets", "setTerm", "(II)V"⟩, prog_1_method_49_code, none)
def xm_147 : MethodName × ByteArray × Option FieldType := (⟨"TwinBuckets", "act", "(IIILTwinBuckets$History;)I"⟩, prog_1_method_50_code, (some (.int)))
def xm_148 : MethodName × ByteArray × Option FieldType := (⟨"TwinBuckets", "runClause", "(LTwinBuckets$Text;I)Z"⟩, prog_1_method_51_code, (some (.boolean)))
def xm_149 : MethodName × ByteArray × Option FieldType := (⟨"TwinBuckets", "fillOrderWords", "(LTwinBuckets$Text;)V"⟩, prog_1_method_52_code, none)
def xm_150 : MethodName × ByteArray × Option FieldType := (⟨"TwinBuckets", "losePowerOnPaper", "(I)Z"⟩, prog_1_method_53_code, (some (.boolean)))
def xm_151 : MethodName × ByteArray × Option FieldType := (⟨"TwinBuckets", "oneWriteMore", "(I)V"⟩, prog_1_method_54_code, none)
def xm_152 : MethodName × ByteArray × Option FieldType := (⟨"TwinBuckets", "nextDraw", "(I)I"⟩, prog_1_method_55_code, (some (.int)))
def xm_153 : MethodName × ByteArray × Option FieldType := (⟨"TwinBuckets", "actOnPaper", "(III)V"⟩, prog_1_method_56_code, none)
def xm_154 : MethodName × ByteArray × Option FieldType := (⟨"TwinBucketsModel", "lies", "(III)Z"⟩, prog_11_method_1_code, (some (.boolean)))
def xm_155 : MethodName × ByteArray × Option FieldType := (⟨"TwinBucketsModel", "lesser", "(II)I"⟩, prog_11_method_2_code, (some (.int)))
def xm_156 : MethodName × ByteArray × Option FieldType := (⟨"TwinBucketsModel", "greater", "(II)I"⟩, prog_11_method_3_code, (some (.int)))
def xm_157 : MethodName × ByteArray × Option FieldType := (⟨"TwinBucketsModel", "refuses", "(I)I"⟩, prog_11_method_4_code, (some (.int)))
def xm_158 : MethodName × ByteArray × Option FieldType := (⟨"TwinBucketsModel", "good", "(I)I"⟩, prog_11_method_5_code, (some (.int)))
def xm_159 : MethodName × ByteArray × Option FieldType := (⟨"TwinBucketsModel", "settled", "(I)I"⟩, prog_11_method_6_code, (some (.int)))
def xm_160 : MethodName × ByteArray × Option FieldType := (⟨"TwinBucketsModel", "isIn", "(II)Z"⟩, prog_11_method_7_code, (some (.boolean)))
def xm_161 : MethodName × ByteArray × Option FieldType := (⟨"TwinBucketsModel", "ones", "(I)I"⟩, prog_11_method_8_code, (some (.int)))
def xm_162 : MethodName × ByteArray × Option FieldType := (⟨"TwinBucketsModel", "isBucket", "(I)Z"⟩, prog_11_method_9_code, (some (.boolean)))
def xm_163 : MethodName × ByteArray × Option FieldType := (⟨"TwinBucketsModel", "isKey", "(I)Z"⟩, prog_11_method_10_code, (some (.boolean)))
def xm_164 : MethodName × ByteArray × Option FieldType := (⟨"TwinBucketsModel", "<init>", "()V"⟩, prog_11_method_11_code, none)
def xm_165 : MethodName × ByteArray × Option FieldType := (⟨"TwinBucketsModel", "laysAside", "(I)V"⟩, prog_11_method_12_code, none)
def xm_166 : MethodName × ByteArray × Option FieldType := (⟨"TwinBucketsModel", "takesBack", "(I)V"⟩, prog_11_method_13_code, none)
def xm_167 : MethodName × ByteArray × Option FieldType := (⟨"TwinBucketsModel", "image", "(I)I"⟩, prog_11_method_14_code, (some (.int)))
def xm_168 : MethodName × ByteArray × Option FieldType := (⟨"TwinBucketsModel", "back", "(I)I"⟩, prog_11_method_15_code, (some (.int)))
def xm_169 : MethodName × ByteArray × Option FieldType := (⟨"TwinBucketsModel", "at", "(II)I"⟩, prog_11_method_16_code, (some (.int)))
def xm_170 : MethodName × ByteArray × Option FieldType := (⟨"TwinBucketsModel", "isUsed", "(I)Z"⟩, prog_11_method_17_code, (some (.boolean)))
def xm_171 : MethodName × ByteArray × Option FieldType := (⟨"TwinBucketsModel", "usedMany", "()I"⟩, prog_11_method_18_code, (some (.int)))
def xm_172 : MethodName × ByteArray × Option FieldType := (⟨"TwinBucketsModel", "keyMany", "()I"⟩, prog_11_method_19_code, (some (.int)))
def xm_173 : MethodName × ByteArray × Option FieldType := (⟨"TwinBucketsModel", "lowBits", "(II)I"⟩, prog_11_method_20_code, (some (.int)))
def xm_174 : MethodName × ByteArray × Option FieldType := (⟨"TwinBucketsModel", "hashOf", "(I)I"⟩, prog_11_method_21_code, (some (.int)))
def xm_175 : MethodName × ByteArray × Option FieldType := (⟨"TwinBucketsModel", "ownerOf", "(I)I"⟩, prog_11_method_22_code, (some (.int)))
def xm_176 : MethodName × ByteArray × Option FieldType := (⟨"TwinBucketsModel", "soughtIn", "(I)I"⟩, prog_11_method_23_code, (some (.int)))
def xm_177 : MethodName × ByteArray × Option FieldType := (⟨"TwinBucketsModel", "placeOf", "(I)I"⟩, prog_11_method_24_code, (some (.int)))
def xm_178 : MethodName × ByteArray × Option FieldType := (⟨"TwinBucketsModel", "valueOrNone", "(I)I"⟩, prog_11_method_25_code, (some (.int)))
def xm_179 : MethodName × ByteArray × Option FieldType := (⟨"TwinBucketsModel", "toldOf", "(II)I"⟩, prog_11_method_26_code, (some (.int)))
def xm_180 : MethodName × ByteArray × Option FieldType := (⟨"TwinBucketsModel", "of", "(II)I"⟩, prog_11_method_27_code, (some (.int)))
def xm_181 : MethodName × ByteArray × Option FieldType := (⟨"TwinBucketsModel", "page", "(II)I"⟩, prog_11_method_28_code, (some (.int)))
def xm_182 : MethodName × ByteArray × Option FieldType := (⟨"TwinBucketsModel", "writeAt", "(I)I"⟩, prog_11_method_29_code, (some (.int)))
def xm_183 : MethodName × ByteArray × Option FieldType := (⟨"TwinBucketsModel", "write", "(II)I"⟩, prog_11_method_30_code, (some (.int)))
def xm_184 : MethodName × ByteArray × Option FieldType := (⟨"TwinBucketsModel", "slot", "(I)I"⟩, prog_11_method_31_code, (some (.int)))
def xm_185 : MethodName × ByteArray × Option FieldType := (⟨"TwinBucketsModel", "key", "(II)I"⟩, prog_11_method_32_code, (some (.int)))
def xm_186 : MethodName × ByteArray × Option FieldType := (⟨"TwinBucketsModel", "isTerm", "(II)Z"⟩, prog_11_method_33_code, (some (.boolean)))
def xm_187 : MethodName × ByteArray × Option FieldType := (⟨"TwinBucketsModel", "termAt", "(I)I"⟩, prog_11_method_34_code, (some (.int)))
def xm_188 : MethodName × ByteArray × Option FieldType := (⟨"TwinBucketsModel", "terms", "(II)I"⟩, prog_11_method_35_code, (some (.int)))
def xm_189 : MethodName × ByteArray × Option FieldType := (⟨"TwinBucketsModel", "row", "()I"⟩, prog_11_method_36_code, (some (.int)))
def xm_190 : MethodName × ByteArray × Option FieldType := (⟨"TwinBucketsModel", "tears", "()I"⟩, prog_11_method_37_code, (some (.int)))
def xm_191 : MethodName × ByteArray × Option FieldType := (⟨"TwinBucketsModel", "feed", "(IIIII)I"⟩, prog_11_method_38_code, (some (.int)))
def xm_192 : MethodName × ByteArray × Option FieldType := (⟨"TwinBucketsModel", "end", "(I)I"⟩, prog_11_method_39_code, (some (.int)))
def xm_193 : MethodName × ByteArray × Option FieldType := (⟨"TwinBucketsModel", "isSmall", "(I)Z"⟩, prog_11_method_40_code, (some (.boolean)))
def xm_194 : MethodName × ByteArray × Option FieldType := (⟨"TwinBucketsModel", "isDigit", "(I)Z"⟩, prog_11_method_41_code, (some (.boolean)))
def xm_195 : MethodName × ByteArray × Option FieldType := (⟨"TwinBucketsModel", "wordOf", "(II)I"⟩, prog_11_method_42_code, (some (.int)))
def xm_196 : MethodName × ByteArray × Option FieldType := (⟨"TwinBucketsModel", "cutsUp", "(I)V"⟩, prog_11_method_43_code, none)
def xm_197 : MethodName × ByteArray × Option FieldType := (⟨"TwinBucketsModel", "fine", "()Z"⟩, prog_11_method_44_code, (some (.boolean)))
def xm_198 : MethodName × ByteArray × Option FieldType := (⟨"TwinBucketsModel", "faults", "()V"⟩, prog_11_method_45_code, none)
def xm_199 : MethodName × ByteArray × Option FieldType := (⟨"TwinBucketsModel", "takes0", "(I)Z"⟩, prog_11_method_46_code, (some (.boolean)))
def xm_200 : MethodName × ByteArray × Option FieldType := (⟨"TwinBucketsModel", "must", "(I)V"⟩, prog_11_method_47_code, none)
def xm_201 : MethodName × ByteArray × Option FieldType := (⟨"TwinBucketsModel", "leaf", "()V"⟩, prog_11_method_48_code, none)
def xm_202 : MethodName × ByteArray × Option FieldType := (⟨"TwinBucketsModel", "sign", "(C)I"⟩, prog_11_method_49_code, (some (.int)))
def xm_203 : MethodName × ByteArray × Option FieldType := (⟨"TwinBucketsModel", "mustNumber", "(II)V"⟩, prog_11_method_50_code, none)
def xm_204 : MethodName × ByteArray × Option FieldType := (⟨"TwinBucketsModel", "readClause", "()V"⟩, prog_11_method_51_code, none)
def xm_205 : MethodName × ByteArray × Option FieldType := (⟨"TwinBucketsModel", "readOrder", "()V"⟩, prog_11_method_52_code, none)
def xm_206 : MethodName × ByteArray × Option FieldType := (⟨"TwinBucketsModel", "readOne", "()V"⟩, prog_11_method_53_code, none)
def xm_207 : MethodName × ByteArray × Option FieldType := (⟨"TwinBucketsModel", "readTest", "(I)V"⟩, prog_11_method_54_code, none)
def xm_208 : MethodName × ByteArray × Option FieldType := (⟨"TwinBucketsModel", "readBoth", "(I)V"⟩, prog_11_method_55_code, none)
def xm_209 : MethodName × ByteArray × Option FieldType := (⟨"TwinBucketsModel", "readPlain", "(I)V"⟩, prog_11_method_56_code, none)
def xm_210 : MethodName × ByteArray × Option FieldType := (⟨"TwinBucketsModel", "readSum", "(I)V"⟩, prog_11_method_57_code, none)
def xm_211 : MethodName × ByteArray × Option FieldType := (⟨"TwinBucketsModel", "readTerm", "(I)V"⟩, prog_11_method_58_code, none)
def xm_212 : MethodName × ByteArray × Option FieldType := (⟨"TwinBucketsModel", "readPart", "(I)V"⟩, prog_11_method_59_code, none)
def xm_213 : MethodName × ByteArray × Option FieldType := (⟨"TwinBucketsModel", "reads", "()Z"⟩, prog_11_method_60_code, (some (.boolean)))
def xm_214 : MethodName × ByteArray × Option FieldType := (⟨"TwinBucketsModel", "readsAs", "(Z)Z"⟩, prog_11_method_61_code, (some (.boolean)))
def xm_215 : MethodName × ByteArray × Option FieldType := (⟨"TwinBucketsModel", "lays", "(I)V"⟩, prog_11_method_62_code, none)
def xm_216 : MethodName × ByteArray × Option FieldType := (⟨"TwinBucketsModel", "law", "()I"⟩, prog_11_method_63_code, (some (.int)))
def xm_217 : MethodName × ByteArray × Option FieldType := (⟨"TwinBucketsModel", "fault", "()I"⟩, prog_11_method_64_code, (some (.int)))
def xm_218 : MethodName × ByteArray × Option FieldType := (⟨"TwinBucketsModel", "isLaw", "(I)Z"⟩, prog_11_method_65_code, (some (.boolean)))
def xm_219 : MethodName × ByteArray × Option FieldType := (⟨"TwinBucketsModel", "force", "(I)I"⟩, prog_11_method_66_code, (some (.int)))
def xm_220 : MethodName × ByteArray × Option FieldType := (⟨"TwinBucketsModel", "codeAt", "(I)I"⟩, prog_11_method_67_code, (some (.int)))
def xm_221 : MethodName × ByteArray × Option FieldType := (⟨"TwinBucketsModel", "passes0", "(I)Z"⟩, prog_11_method_68_code, (some (.boolean)))
def xm_222 : MethodName × ByteArray × Option FieldType := (⟨"TwinBucketsModel", "bounded", "(JZ)J"⟩, prog_11_method_69_code, (some (.long)))
def xm_223 : MethodName × ByteArray × Option FieldType := (⟨"TwinBucketsModel", "sumOf", "(Z)J"⟩, prog_11_method_70_code, (some (.long)))
def xm_224 : MethodName × ByteArray × Option FieldType := (⟨"TwinBucketsModel", "termOf", "(Z)J"⟩, prog_11_method_71_code, (some (.long)))
def xm_225 : MethodName × ByteArray × Option FieldType := (⟨"TwinBucketsModel", "partOf", "(Z)J"⟩, prog_11_method_72_code, (some (.long)))
def xm_226 : MethodName × ByteArray × Option FieldType := (⟨"TwinBucketsModel", "orderValue", "(II)I"⟩, prog_11_method_73_code, (some (.int)))
def xm_227 : MethodName × ByteArray × Option FieldType := (⟨"TwinBucketsModel", "testOf", "(Z)Z"⟩, prog_11_method_74_code, (some (.boolean)))
def xm_228 : MethodName × ByteArray × Option FieldType := (⟨"TwinBucketsModel", "bothOf", "(Z)Z"⟩, prog_11_method_75_code, (some (.boolean)))
def xm_229 : MethodName × ByteArray × Option FieldType := (⟨"TwinBucketsModel", "plainOf", "(Z)Z"⟩, prog_11_method_76_code, (some (.boolean)))
def xm_230 : MethodName × ByteArray × Option FieldType := (⟨"TwinBucketsModel", "positiveOf", "(Z)Z"⟩, prog_11_method_77_code, (some (.boolean)))
def xm_231 : MethodName × ByteArray × Option FieldType := (⟨"TwinBucketsModel", "setsAsked", "(III)V"⟩, prog_11_method_78_code, none)
def xm_232 : MethodName × ByteArray × Option FieldType := (⟨"TwinBucketsModel", "tells", "(II)I"⟩, prog_11_method_79_code, (some (.int)))
def xm_233 : MethodName × ByteArray × Option FieldType := (⟨"TwinBucketsModel", "costsOf", "(I)I"⟩, prog_11_method_80_code, (some (.int)))
def xm_234 : MethodName × ByteArray × Option FieldType := (⟨"TwinBucketsModel", "isBarred", "(I)Z"⟩, prog_11_method_81_code, (some (.boolean)))
def xm_235 : MethodName × ByteArray × Option FieldType := (⟨"TwinBucketsModel", "copies", "(II)V"⟩, prog_11_method_82_code, none)
def xm_236 : MethodName × ByteArray × Option FieldType := (⟨"TwinBucketsModel", "doesEldest", "()V"⟩, prog_11_method_83_code, none)
def xm_237 : MethodName × ByteArray × Option FieldType := (⟨"TwinBucketsModel", "writes", "(I)V"⟩, prog_11_method_84_code, none)
def xm_238 : MethodName × ByteArray × Option FieldType := (⟨"TwinBucketsModel", "comesInto", "(III)V"⟩, prog_11_method_85_code, none)
def xm_239 : MethodName × ByteArray × Option FieldType := (⟨"TwinBucketsModel", "goesOut", "(II)V"⟩, prog_11_method_86_code, none)
def xm_240 : MethodName × ByteArray × Option FieldType := (⟨"TwinBucketsModel", "lowestFree", "()I"⟩, prog_11_method_87_code, (some (.int)))
def xm_241 : MethodName × ByteArray × Option FieldType := (⟨"TwinBucketsModel", "splits0", "(I)Z"⟩, prog_11_method_88_code, (some (.boolean)))
def xm_242 : MethodName × ByteArray × Option FieldType := (⟨"TwinBucketsModel", "comes", "(II)I"⟩, prog_11_method_89_code, (some (.int)))
def xm_243 : MethodName × ByteArray × Option FieldType := (⟨"TwinBucketsModel", "puts", "(II)I"⟩, prog_11_method_90_code, (some (.int)))
def xm_244 : MethodName × ByteArray × Option FieldType := (⟨"TwinBucketsModel", "twinOf", "(I)I"⟩, prog_11_method_91_code, (some (.int)))
def xm_245 : MethodName × ByteArray × Option FieldType := (⟨"TwinBucketsModel", "canJoin", "(I)Z"⟩, prog_11_method_92_code, (some (.boolean)))
def xm_246 : MethodName × ByteArray × Option FieldType := (⟨"TwinBucketsModel", "joins", "(I)I"⟩, prog_11_method_93_code, (some (.int)))
def xm_247 : MethodName × ByteArray × Option FieldType := (⟨"TwinBucketsModel", "deepestOf", "()I"⟩, prog_11_method_94_code, (some (.int)))
def xm_248 : MethodName × ByteArray × Option FieldType := (⟨"TwinBucketsModel", "drops", "(I)I"⟩, prog_11_method_95_code, (some (.int)))
def xm_249 : MethodName × ByteArray × Option FieldType := (⟨"TwinBucketsModel", "deepestPage", "(I)I"⟩, prog_11_method_96_code, (some (.int)))
def xm_250 : MethodName × ByteArray × Option FieldType := (⟨"TwinBucketsModel", "builds", "(II)V"⟩, prog_11_method_97_code, none)
def xm_251 : MethodName × ByteArray × Option FieldType := (⟨"TwinBucketsModel", "loses", "(I)V"⟩, prog_11_method_98_code, none)
def xm_252 : MethodName × ByteArray × Option FieldType := (⟨"TwinBucketsModel", "keepsAside", "(I)V"⟩, prog_11_method_99_code, none)
def xm_253 : MethodName × ByteArray × Option FieldType := (⟨"TwinBucketsModel", "undo", "()I"⟩, prog_11_method_100_code, (some (.int)))
def xm_254 : MethodName × ByteArray × Option FieldType := (⟨"TwinBucketsModel", "goodOr", "(I)I"⟩, prog_11_method_101_code, (some (.int)))
def xm_255 : MethodName × ByteArray × Option FieldType := (⟨"TwinBucketsModel", "keptOr", "(II)I"⟩, prog_11_method_102_code, (some (.int)))
def xm_256 : MethodName × ByteArray × Option FieldType := (⟨"TwinBucketsModel", "putsKept", "(II)I"⟩, prog_11_method_103_code, (some (.int)))
def xm_257 : MethodName × ByteArray × Option FieldType := (⟨"TwinBucketsModel", "dropsKept", "(I)I"⟩, prog_11_method_104_code, (some (.int)))
def xm_258 : MethodName × ByteArray × Option FieldType := (⟨"TwinBucketsModel", "flushesKept", "(I)I"⟩, prog_11_method_105_code, (some (.int)))
def xm_259 : MethodName × ByteArray × Option FieldType := (⟨"TwinBucketsModel", "crashesKept", "(I)I"⟩, prog_11_method_106_code, (some (.int)))
def xm_260 : MethodName × ByteArray × Option FieldType := (⟨"TwinBucketsModel", "put", "(II)I"⟩, prog_11_method_107_code, (some (.int)))
def xm_261 : MethodName × ByteArray × Option FieldType := (⟨"TwinBucketsModel", "drop", "(I)I"⟩, prog_11_method_108_code, (some (.int)))
def xm_262 : MethodName × ByteArray × Option FieldType := (⟨"TwinBucketsModel", "flush", "(I)I"⟩, prog_11_method_109_code, (some (.int)))
def xm_263 : MethodName × ByteArray × Option FieldType := (⟨"TwinBucketsModel", "crash", "(I)I"⟩, prog_11_method_110_code, (some (.int)))
def xm_264 : MethodName × ByteArray × Option FieldType := (⟨"TwinBucketsModel", "behind", "(II)I"⟩, prog_11_method_111_code, (some (.int)))
def xm_265 : MethodName × ByteArray × Option FieldType := (⟨"TwinBucketsModel", "lost", "(I)I"⟩, prog_11_method_112_code, (some (.int)))
def xm_266 : MethodName × ByteArray × Option FieldType := (⟨"TwinBucketsModel", "torn", "(I)I"⟩, prog_11_method_113_code, (some (.int)))
def xm_267 : MethodName × ByteArray × Option FieldType := (⟨"TwinBucketsModel", "wouldSplit", "(I)Z"⟩, prog_11_method_114_code, (some (.boolean)))
def xm_268 : MethodName × ByteArray × Option FieldType := (⟨"TwinBucketsModel", "splits", "()I"⟩, prog_11_method_115_code, (some (.int)))
def xm_269 : MethodName × ByteArray × Option FieldType := (⟨"TwinBucketsModel", "room", "()I"⟩, prog_11_method_116_code, (some (.int)))
def xm_270 : MethodName × ByteArray × Option FieldType := (⟨"TwinBucketsModel", "twin", "(I)I"⟩, prog_11_method_117_code, (some (.int)))
def xm_271 : MethodName × ByteArray × Option FieldType := (⟨"TwinBucketsModel", "empties", "()V"⟩, prog_11_method_118_code, none)
def xm_272 : MethodName × ByteArray × Option FieldType := (⟨"TwinBucketsModel", "neededBy", "(I)I"⟩, prog_11_method_119_code, (some (.int)))
def xm_273 : MethodName × ByteArray × Option FieldType := (⟨"TwinBucketsModel", "salts", "(I)I"⟩, prog_11_method_120_code, (some (.int)))
def xm_274 : MethodName × ByteArray × Option FieldType := (⟨"TwinBucketsModel", "spent", "()I"⟩, prog_11_method_121_code, (some (.int)))
def xm_275 : MethodName × ByteArray × Option FieldType := (⟨"TwinBucketsModel", "seen", "(II)I"⟩, prog_11_method_122_code, (some (.int)))
def xm_276 : MethodName × ByteArray × Option FieldType := (⟨"TwinBucketsModel", "forget", "()I"⟩, prog_11_method_123_code, (some (.int)))
def xm_277 : MethodName × ByteArray × Option FieldType := (⟨"TwinBucketsModel", "isSo", "(I)Z"⟩, prog_11_method_124_code, (some (.boolean)))
def xm_278 : MethodName × ByteArray × Option FieldType := (⟨"TwinBucketsModel", "canBe", "()I"⟩, prog_11_method_125_code, (some (.int)))
def xm_279 : MethodName × ByteArray × Option FieldType := (⟨"TwinBucketsModel", "read", "(I)I"⟩, prog_11_method_126_code, (some (.int)))
def xm_280 : MethodName × ByteArray × Option FieldType := (⟨"TwinBucketsModel", "few", "(II)J"⟩, prog_11_method_127_code, (some (.long)))
def xm_281 : MethodName × ByteArray × Option FieldType := (⟨"TwinBucketsModel", "compare", "(II)I"⟩, prog_11_method_128_code, (some (.int)))
def xm_282 : MethodName × ByteArray × Option FieldType := (⟨"TwinBucketsModel", "stopped", "()I"⟩, prog_11_method_129_code, (some (.int)))
def xm_283 : MethodName × ByteArray × Option FieldType := (⟨"TwinBucketsModel", "orders", "()I"⟩, prog_11_method_130_code, (some (.int)))
def xm_284 : MethodName × ByteArray × Option FieldType := (⟨"TwinBucketsModel", "goesAlong", "(IZ)V"⟩, prog_11_method_131_code, none)
def xm_285 : MethodName × ByteArray × Option FieldType := (⟨"TwinBucketsModel", "small", "(J)I"⟩, prog_11_method_132_code, (some (.int)))
def xm_286 : MethodName × ByteArray × Option FieldType := (⟨"TwinBucketsModel", "obeys", "()I"⟩, prog_11_method_133_code, (some (.int)))
def xm_287 : MethodName × ByteArray × Option FieldType := (⟨"TwinBucketsModel", "runs", "(I)Z"⟩, prog_11_method_134_code, (some (.boolean)))
def xm_288 : MethodName × ByteArray × Option FieldType := (⟨"TwinBucketsModel", "draws", "(I)I"⟩, prog_11_method_135_code, (some (.int)))
def xm_289 : MethodName × ByteArray × Option FieldType := (⟨"TwinBucketsModel", "drawnAct", "()V"⟩, prog_11_method_136_code, none)
def xm_290 : MethodName × ByteArray × Option FieldType := (⟨"TwinBucketsModel", "years", "(II)I"⟩, prog_11_method_137_code, (some (.int)))
def xm_291 : MethodName × ByteArray × Option FieldType := (⟨"TwinBucketsModel", "drawn", "(I)I"⟩, prog_11_method_138_code, (some (.int)))
def xm_292 : MethodName × ByteArray × Option FieldType := (⟨"TwinBucketsModel", "count", "(I)I"⟩, prog_11_method_139_code, (some (.int)))
def xm_293 : MethodName × ByteArray × Option FieldType := (⟨"TwinBucketsModel", "status", "()I"⟩, prog_11_method_140_code, (some (.int)))
def xm_294 : MethodName × ByteArray × Option FieldType := (⟨"java/lang/Integer", "bitCount", "(I)I"⟩, prog_13_method_49_code, (some (.int)))
def xm_295 : MethodName × ByteArray × Option FieldType := (⟨"java/util/Arrays", "rangeCheck", "(III)V"⟩, prog_19_method_30_code, none)
def xm_296 : MethodName × ByteArray × Option FieldType := (⟨"java/util/Arrays", "fill", "([JJ)V"⟩, prog_19_method_101_code, none)
def xm_297 : MethodName × ByteArray × Option FieldType := (⟨"java/util/Arrays", "fill", "([II)V"⟩, prog_19_method_103_code, none)
def xm_298 : MethodName × ByteArray × Option FieldType := (⟨"java/util/Arrays", "fill", "([IIII)V"⟩, prog_19_method_104_code, none)
def xm_299 : MethodName × ByteArray × Option FieldType := (⟨"java/util/Arrays", "copyOf", "([II)[I"⟩, prog_19_method_123_code, (some (.array .int)))
def xm_300 : MethodName × ByteArray × Option FieldType := (x, code, ret)
def xmeta : List (MethodName × ByteArray × Option FieldType) := [xm_0, xm_1, xm_2, xm_3, xm_4, xm_5, xm_6, xm_7, xm_8, xm_9, xm_10, xm_11, xm_12, xm_13, xm_14, xm_15, xm_16, xm_17, xm_18, xm_19, xm_20, xm_21, xm_22, xm_23, xm_24, xm_25, xm_26, xm_27, xm_28, xm_29, xm_30, xm_31, xm_32, xm_33, xm_34, xm_35, xm_36, xm_37, xm_38, xm_39, xm_40, xm_41, xm_42, xm_43, xm_44, xm_45, xm_46, xm_47, xm_48, xm_49, xm_50, xm_51, xm_52, xm_53, xm_54, xm_55, xm_56, xm_57, xm_58, xm_59, xm_60, xm_61, xm_62, xm_63, xm_64, xm_65, xm_66, xm_67, xm_68, xm_69, xm_70, xm_71, xm_72, xm_73, xm_74, xm_75, xm_76, xm_77, xm_78, xm_79, xm_80, xm_81, xm_82, xm_83, xm_84, xm_85, xm_86, xm_87, xm_88, xm_89, xm_90, xm_91, xm_92, xm_93, xm_94, xm_95, xm_96, xm_97, xm_98, xm_99, xm_100, xm_101, xm_102, xm_103, xm_104, xm_105, xm_106, xm_107, xm_108, xm_109, xm_110, xm_111, xm_112, xm_113, xm_114, xm_115, xm_116, xm_117, xm_118, xm_119, xm_120, xm_121, xm_122, xm_123, xm_124, xm_125, xm_126, xm_127, xm_128, xm_129, xm_130, xm_131, xm_132, xm_133, xm_134, xm_135, xm_136, xm_137, xm_138, xm_139, xm_140, xm_141, xm_142, xm_143, xm_144, xm_145, xm_146, xm_147, xm_148, xm_149, xm_150, xm_151, xm_152, xm_153, xm_154, xm_155, xm_156, xm_157, xm_158, xm_159, xm_160, xm_161, xm_162, xm_163, xm_164, xm_165, xm_166, xm_167, xm_168, xm_169, xm_170, xm_171, xm_172, xm_173, xm_174, xm_175, xm_176, xm_177, xm_178, xm_179, xm_180, xm_181, xm_182, xm_183, xm_184, xm_185, xm_186, xm_187, xm_188, xm_189, xm_190, xm_191, xm_192, xm_193, xm_194, xm_195, xm_196, xm_197, xm_198, xm_199, xm_200, xm_201, xm_202, xm_203, xm_204, xm_205, xm_206, xm_207, xm_208, xm_209, xm_210, xm_211, xm_212, xm_213, xm_214, xm_215, xm_216, xm_217, xm_218, xm_219, xm_220, xm_221, xm_222, xm_223, xm_224, xm_225, xm_226, xm_227, xm_228, xm_229, xm_230, xm_231, xm_232, xm_233, xm_234, xm_235, xm_236, xm_237, xm_238, xm_239, xm_240, xm_241, xm_242, xm_243, xm_244, xm_245, xm_246, xm_247, xm_248, xm_249, xm_250, xm_251, xm_252, xm_253, xm_254, xm_255, xm_256, xm_257, xm_258, xm_259, xm_260, xm_261, xm_262, xm_263, xm_264, xm_265, xm_266, xm_267, xm_268, xm_269, xm_270, xm_271, xm_272, xm_273, xm_274, xm_275, xm_276, xm_277, xm_278, xm_279, xm_280, xm_281, xm_282, xm_283, xm_284, xm_285, xm_286, xm_287, xm_288, xm_289, xm_290, xm_291, xm_292, xm_293, xm_294, xm_295, xm_296, xm_297, xm_298, xm_299, xm_300]
end
section
/-- what holds of class number ci -/
def xKok (ci : Nat) : Prop := ∃ (C : String) (T : u_T) (N : Nat) (ty : Nat → FieldType), xclasses[ci]? = some (C, T, N) ∧ xtyL[ci]? = some ty ∧ C = xcn ci ∧ (∀ w ∈ u_ws C T N, w ∈ gw) ∧ (∀ k, k < N → parseFieldDescriptor (T k).2.2.1 = some (ty k)) ∧ (∀ a, a < N → ∀ b, b < N → a ≠ b → (T a).2.1 ≠ (T b).2.1) ∧ Cond.instantiable C N ∈ gw ∧ Cond.initialized C ∈ gw ∧ ∀ k, k < N → (T k).1 = C
set_option maxRecDepth 100000 in
theorem xw_0 : ∀ w ∈ u_ws RX0 TX0 4, w ∈ gw := by
  show ∀ w ∈ [Cond.laysFinal "TwinBuckets$History" "TwinBuckets$History" "kept" "[LTwinBuckets$Store;", Cond.laysFinal "TwinBuckets$History" "TwinBuckets$History" "kinds" "[I", Cond.lays "TwinBuckets$History" "TwinBuckets$History" "spare" "LTwinBuckets$Store;", Cond.lays "TwinBuckets$History" "TwinBuckets$History" "many" "I"], w ∈ gw
  exact List.forall_mem_cons.mpr ⟨gm1 150 rfl rfl, List.forall_mem_cons.mpr ⟨gm1 152 rfl rfl, List.forall_mem_cons.mpr ⟨gm1 154 rfl rfl, List.forall_mem_cons.mpr ⟨gm1 156 rfl rfl, fun _ h => absurd h List.not_mem_nil⟩⟩⟩⟩
theorem xk_0 : xKok 0 := ⟨RX0, TX0, 4, tyX0, rfl, rfl, rfl, xw_0, tyX0_ok, nmX0, gm1 138 rfl rfl, gm1 6 rfl rfl, by decide⟩
set_option maxRecDepth 100000 in
theorem xw_1 : ∀ w ∈ u_ws RX1 TX1 3, w ∈ gw := by
  show ∀ w ∈ [Cond.laysFinal "TwinBuckets$Image" "TwinBuckets$Image" "store" "LTwinBuckets$Store;", Cond.laysFinal "TwinBuckets$Image" "TwinBuckets$Image" "rules" "LTwinBuckets$Rules;", Cond.laysFinal "TwinBuckets$Image" "TwinBuckets$Image" "sightings" "LTwinBuckets$Sightings;"], w ∈ gw
  exact List.forall_mem_cons.mpr ⟨gm5 68 rfl rfl, List.forall_mem_cons.mpr ⟨gm5 70 rfl rfl, List.forall_mem_cons.mpr ⟨gm5 72 rfl rfl, fun _ h => absurd h List.not_mem_nil⟩⟩⟩
theorem xk_1 : xKok 1 := ⟨RX1, TX1, 3, tyX1, rfl, rfl, rfl, xw_1, tyX1_ok, nmX1, gm5 51 rfl rfl, gm1 18 rfl rfl, by decide⟩
set_option maxRecDepth 100000 in
theorem xw_2 : ∀ w ∈ u_ws RX2 TX2 1, w ∈ gw := by
  show ∀ w ∈ [Cond.laysFinal "TwinBuckets$Pages" "TwinBuckets$Pages" "cells" "[I"], w ∈ gw
  exact List.forall_mem_cons.mpr ⟨gm1 41 rfl rfl, fun _ h => absurd h List.not_mem_nil⟩
theorem xk_2 : xKok 2 := ⟨RX2, TX2, 1, tyX2, rfl, rfl, rfl, xw_2, tyX2_ok, nmX2, gm1 34 rfl rfl, gm1 3 rfl rfl, by decide⟩
set_option maxRecDepth 100000 in
theorem xw_3 : ∀ w ∈ u_ws RX3 TX3 8, w ∈ gw := by
  show ∀ w ∈ [Cond.laysFinal "TwinBuckets$Rules" "TwinBuckets$Rules" "laws" "[LTwinBuckets$Text;", Cond.laysFinal "TwinBuckets$Rules" "TwinBuckets$Rules" "words" "[I", Cond.laysFinal "TwinBuckets$Rules" "TwinBuckets$Rules" "stack" "[I", Cond.lays "TwinBuckets$Rules" "TwinBuckets$Rules" "lawCount" "I", Cond.lays "TwinBuckets$Rules" "TwinBuckets$Rules" "inForce" "I", Cond.lays "TwinBuckets$Rules" "TwinBuckets$Rules" "fails" "I", Cond.lays "TwinBuckets$Rules" "TwinBuckets$Rules" "mood" "I", Cond.lays "TwinBuckets$Rules" "TwinBuckets$Rules" "salt" "I"], w ∈ gw
  exact List.forall_mem_cons.mpr ⟨gm1 103 rfl rfl, List.forall_mem_cons.mpr ⟨gm1 105 rfl rfl, List.forall_mem_cons.mpr ⟨gm1 107 rfl rfl, List.forall_mem_cons.mpr ⟨gm1 109 rfl rfl, List.forall_mem_cons.mpr ⟨gm1 111 rfl rfl, List.forall_mem_cons.mpr ⟨gm1 113 rfl rfl, List.forall_mem_cons.mpr ⟨gm1 115 rfl rfl, List.forall_mem_cons.mpr ⟨gm1 117 rfl rfl, fun _ h => absurd h List.not_mem_nil⟩⟩⟩⟩⟩⟩⟩⟩
theorem xk_3 : xKok 3 := ⟨RX3, TX3, 8, tyX3, rfl, rfl, rfl, xw_3, tyX3_ok, nmX3, gm1 81 rfl rfl, gm1 4 rfl rfl, by decide⟩
set_option maxRecDepth 100000 in
theorem xw_4 : ∀ w ∈ u_ws RX4 TX4 3, w ∈ gw := by
  show ∀ w ∈ [Cond.laysFinal "TwinBuckets$Sightings" "TwinBuckets$Sightings" "slots" "[I", Cond.laysFinal "TwinBuckets$Sightings" "TwinBuckets$Sightings" "are" "[I", Cond.lays "TwinBuckets$Sightings" "TwinBuckets$Sightings" "many" "I"], w ∈ gw
  exact List.forall_mem_cons.mpr ⟨gm1 130 rfl rfl, List.forall_mem_cons.mpr ⟨gm1 132 rfl rfl, List.forall_mem_cons.mpr ⟨gm1 134 rfl rfl, fun _ h => absurd h List.not_mem_nil⟩⟩⟩
theorem xk_4 : xKok 4 := ⟨RX4, TX4, 3, tyX4, rfl, rfl, rfl, xw_4, tyX4_ok, nmX4, gm1 121 rfl rfl, gm1 5 rfl rfl, by decide⟩
set_option maxRecDepth 100000 in
theorem xw_5 : ∀ w ∈ u_ws RX5 TX5 8, w ∈ gw := by
  show ∀ w ∈ [Cond.laysFinal "TwinBuckets$Store" "TwinBuckets$Store" "buckets" "LTwinBuckets$Pages;", Cond.laysFinal "TwinBuckets$Store" "TwinBuckets$Store" "disk" "LTwinBuckets$Pages;", Cond.laysFinal "TwinBuckets$Store" "TwinBuckets$Store" "owners" "[I", Cond.laysFinal "TwinBuckets$Store" "TwinBuckets$Store" "writes" "[I", Cond.lays "TwinBuckets$Store" "TwinBuckets$Store" "eldest" "I", Cond.lays "TwinBuckets$Store" "TwinBuckets$Store" "waits" "I", Cond.lays "TwinBuckets$Store" "TwinBuckets$Store" "deep" "I", Cond.lays "TwinBuckets$Store" "TwinBuckets$Store" "time" "I"], w ∈ gw
  exact List.forall_mem_cons.mpr ⟨gm1 63 rfl rfl, List.forall_mem_cons.mpr ⟨gm1 65 rfl rfl, List.forall_mem_cons.mpr ⟨gm1 67 rfl rfl, List.forall_mem_cons.mpr ⟨gm1 69 rfl rfl, List.forall_mem_cons.mpr ⟨gm1 71 rfl rfl, List.forall_mem_cons.mpr ⟨gm1 73 rfl rfl, List.forall_mem_cons.mpr ⟨gm1 75 rfl rfl, List.forall_mem_cons.mpr ⟨gm1 77 rfl rfl, fun _ h => absurd h List.not_mem_nil⟩⟩⟩⟩⟩⟩⟩⟩
theorem xk_5 : xKok 5 := ⟨RX5, TX5, 8, tyX5, rfl, rfl, rfl, xw_5, tyX5_ok, nmX5, gm1 28 rfl rfl, gm1 2 rfl rfl, by decide⟩
set_option maxRecDepth 100000 in
theorem xw_6 : ∀ w ∈ u_ws RX6 TX6 10, w ∈ gw := by
  show ∀ w ∈ [Cond.laysFinal "TwinBuckets$Tape" "TwinBuckets$Tape" "text" "LTwinBuckets$Text;", Cond.laysFinal "TwinBuckets$Tape" "TwinBuckets$Tape" "bytes" "[I", Cond.lays "TwinBuckets$Tape" "TwinBuckets$Tape" "fed" "I", Cond.lays "TwinBuckets$Tape" "TwinBuckets$Tape" "length" "I", Cond.lays "TwinBuckets$Tape" "TwinBuckets$Tape" "isOrders" "Z", Cond.lays "TwinBuckets$Tape" "TwinBuckets$Tape" "parts" "I", Cond.lays "TwinBuckets$Tape" "TwinBuckets$Tape" "kind" "I", Cond.lays "TwinBuckets$Tape" "TwinBuckets$Tape" "start" "I", Cond.lays "TwinBuckets$Tape" "TwinBuckets$Tape" "after" "I", Cond.lays "TwinBuckets$Tape" "TwinBuckets$Tape" "number" "I"], w ∈ gw
  exact List.forall_mem_cons.mpr ⟨gm1 216 rfl rfl, List.forall_mem_cons.mpr ⟨gm1 218 rfl rfl, List.forall_mem_cons.mpr ⟨gm1 220 rfl rfl, List.forall_mem_cons.mpr ⟨gm1 222 rfl rfl, List.forall_mem_cons.mpr ⟨gm1 224 rfl rfl, List.forall_mem_cons.mpr ⟨gm1 226 rfl rfl, List.forall_mem_cons.mpr ⟨gm1 228 rfl rfl, List.forall_mem_cons.mpr ⟨gm1 230 rfl rfl, List.forall_mem_cons.mpr ⟨gm1 232 rfl rfl, List.forall_mem_cons.mpr ⟨gm1 234 rfl rfl, fun _ h => absurd h List.not_mem_nil⟩⟩⟩⟩⟩⟩⟩⟩⟩⟩
theorem xk_6 : xKok 6 := ⟨RX6, TX6, 10, tyX6, rfl, rfl, rfl, xw_6, tyX6_ok, nmX6, gm1 162 rfl rfl, gm1 7 rfl rfl, by decide⟩
set_option maxRecDepth 100000 in
theorem xw_7 : ∀ w ∈ u_ws RX7 TX7 7, w ∈ gw := by
  show ∀ w ∈ [Cond.laysFinal "TwinBuckets$Text" "TwinBuckets$Text" "ops" "[I", Cond.laysFinal "TwinBuckets$Text" "TwinBuckets$Text" "args" "[I", Cond.laysFinal "TwinBuckets$Text" "TwinBuckets$Text" "clauses" "[I", Cond.laysFinal "TwinBuckets$Text" "TwinBuckets$Text" "asked" "[I", Cond.lays "TwinBuckets$Text" "TwinBuckets$Text" "size" "I", Cond.lays "TwinBuckets$Text" "TwinBuckets$Text" "clauseCount" "I", Cond.lays "TwinBuckets$Text" "TwinBuckets$Text" "askedCount" "I"], w ∈ gw
  exact List.forall_mem_cons.mpr ⟨gm1 188 rfl rfl, List.forall_mem_cons.mpr ⟨gm1 190 rfl rfl, List.forall_mem_cons.mpr ⟨gm1 192 rfl rfl, List.forall_mem_cons.mpr ⟨gm1 194 rfl rfl, List.forall_mem_cons.mpr ⟨gm1 196 rfl rfl, List.forall_mem_cons.mpr ⟨gm1 198 rfl rfl, List.forall_mem_cons.mpr ⟨gm1 200 rfl rfl, fun _ h => absurd h List.not_mem_nil⟩⟩⟩⟩⟩⟩⟩
theorem xk_7 : xKok 7 := ⟨RX7, TX7, 7, tyX7, rfl, rfl, rfl, xw_7, tyX7_ok, nmX7, gm1 168 rfl rfl, gm1 8 rfl rfl, by decide⟩
set_option maxRecDepth 100000 in
theorem xw_8 : ∀ w ∈ u_ws RX8 TX8 18, w ∈ gw := by
  show ∀ w ∈ [Cond.laysFinal "TwinBuckets" "TwinBuckets" "now" "LTwinBuckets$Store;", Cond.laysFinal "TwinBuckets" "TwinBuckets" "paper" "LTwinBuckets$Store;", Cond.laysFinal "TwinBuckets" "TwinBuckets" "aheadOfOrders" "LTwinBuckets$Store;", Cond.laysFinal "TwinBuckets" "TwinBuckets" "rules" "LTwinBuckets$Rules;", Cond.laysFinal "TwinBuckets" "TwinBuckets" "sightings" "LTwinBuckets$Sightings;", Cond.laysFinal "TwinBuckets" "TwinBuckets" "history" "LTwinBuckets$History;", Cond.laysFinal "TwinBuckets" "TwinBuckets" "orderHistory" "LTwinBuckets$History;", Cond.laysFinal "TwinBuckets" "TwinBuckets" "images" "[LTwinBuckets$Image;", Cond.laysFinal "TwinBuckets" "TwinBuckets" "tape" "LTwinBuckets$Tape;", Cond.laysFinal "TwinBuckets" "TwinBuckets" "orderWords" "[I", Cond.laysFinal "TwinBuckets" "TwinBuckets" "refusals" "[I", Cond.laysFinal "TwinBuckets" "TwinBuckets" "drawnValues" "[I", Cond.laysFinal "TwinBuckets" "TwinBuckets" "slotCounts" "[I", Cond.laysFinal "TwinBuckets" "TwinBuckets" "chances" "[J", Cond.lays "TwinBuckets" "TwinBuckets" "tearsOfRow" "I", Cond.lays "TwinBuckets" "TwinBuckets" "faultPlace" "I", Cond.lays "TwinBuckets" "TwinBuckets" "stoppedClause" "I", Cond.lays "TwinBuckets" "TwinBuckets" "latestRefusal" "I"], w ∈ gw
  exact List.forall_mem_cons.mpr ⟨gm2 26 rfl rfl, List.forall_mem_cons.mpr ⟨gm2 28 rfl rfl, List.forall_mem_cons.mpr ⟨gm2 30 rfl rfl, List.forall_mem_cons.mpr ⟨gm2 32 rfl rfl, List.forall_mem_cons.mpr ⟨gm2 34 rfl rfl, List.forall_mem_cons.mpr ⟨gm2 36 rfl rfl, List.forall_mem_cons.mpr ⟨gm2 38 rfl rfl, List.forall_mem_cons.mpr ⟨gm2 40 rfl rfl, List.forall_mem_cons.mpr ⟨gm2 42 rfl rfl, List.forall_mem_cons.mpr ⟨gm2 44 rfl rfl, List.forall_mem_cons.mpr ⟨gm2 46 rfl rfl, List.forall_mem_cons.mpr ⟨gm2 48 rfl rfl, List.forall_mem_cons.mpr ⟨gm2 50 rfl rfl, List.forall_mem_cons.mpr ⟨gm2 52 rfl rfl, List.forall_mem_cons.mpr ⟨gm2 54 rfl rfl, List.forall_mem_cons.mpr ⟨gm2 56 rfl rfl, List.forall_mem_cons.mpr ⟨gm2 58 rfl rfl, List.forall_mem_cons.mpr ⟨gm2 60 rfl rfl, fun _ h => absurd h List.not_mem_nil⟩⟩⟩⟩⟩⟩⟩⟩⟩⟩⟩⟩⟩⟩⟩⟩⟩⟩
theorem xk_8 : xKok 8 := ⟨RX8, TX8, 18, tyX8, rfl, rfl, rfl, xw_8, tyX8_ok, nmX8, gm1 20 rfl rfl, gm1 1 rfl rfl, by decide⟩
set_option maxRecDepth 100000 in
theorem xw_9 : ∀ w ∈ u_ws RX9 TX9 46, w ∈ gw := by
  show ∀ w ∈ [Cond.lays "TwinBucketsModel" "TwinBucketsModel" "status" "I", Cond.laysFinal "TwinBucketsModel" "TwinBucketsModel" "refused" "[I", Cond.laysFinal "TwinBucketsModel" "TwinBucketsModel" "kept" "[I", Cond.laysFinal "TwinBucketsModel" "TwinBucketsModel" "images" "[I", Cond.laysFinal "TwinBucketsModel" "TwinBucketsModel" "hasImage" "[Z", Cond.laysFinal "TwinBucketsModel" "TwinBucketsModel" "aside" "[I", Cond.lays "TwinBucketsModel" "TwinBucketsModel" "tears0" "I", Cond.laysFinal "TwinBucketsModel" "TwinBucketsModel" "words" "[B", Cond.lays "TwinBucketsModel" "TwinBucketsModel" "firstWord" "I", Cond.lays "TwinBucketsModel" "TwinBucketsModel" "lastWord" "I", Cond.lays "TwinBucketsModel" "TwinBucketsModel" "isOrders" "Z", Cond.laysFinal "TwinBucketsModel" "TwinBucketsModel" "tape" "[B", Cond.laysFinal "TwinBucketsModel" "TwinBucketsModel" "five" "[I", Cond.lays "TwinBucketsModel" "TwinBucketsModel" "taped" "I", Cond.lays "TwinBucketsModel" "TwinBucketsModel" "fault" "I", Cond.laysFinal "TwinBucketsModel" "TwinBucketsModel" "code" "[I", Cond.laysFinal "TwinBucketsModel" "TwinBucketsModel" "value" "[I", Cond.laysFinal "TwinBucketsModel" "TwinBucketsModel" "placed" "[I", Cond.lays "TwinBucketsModel" "TwinBucketsModel" "tokens" "I", Cond.lays "TwinBucketsModel" "TwinBucketsModel" "token" "I", Cond.lays "TwinBucketsModel" "TwinBucketsModel" "leaves" "I", Cond.lays "TwinBucketsModel" "TwinBucketsModel" "bad" "I", Cond.lays "TwinBucketsModel" "TwinBucketsModel" "go" "I", Cond.lays "TwinBucketsModel" "TwinBucketsModel" "goEnd" "I", Cond.lays "TwinBucketsModel" "TwinBucketsModel" "broken" "Z", Cond.lays "TwinBucketsModel" "TwinBucketsModel" "inOrders" "Z", Cond.laysFinal "TwinBucketsModel" "TwinBucketsModel" "asked" "[I", Cond.lays "TwinBucketsModel" "TwinBucketsModel" "orderDone" "I", Cond.lays "TwinBucketsModel" "TwinBucketsModel" "orderLatest" "I", Cond.laysFinal "TwinBucketsModel" "TwinBucketsModel" "pageOf" "[I", Cond.laysFinal "TwinBucketsModel" "TwinBucketsModel" "left0" "[I", Cond.laysFinal "TwinBucketsModel" "TwinBucketsModel" "leftAhead" "[I", Cond.lays "TwinBucketsModel" "TwinBucketsModel" "undoMany" "I", Cond.laysFinal "TwinBucketsModel" "TwinBucketsModel" "values0" "[I", Cond.laysFinal "TwinBucketsModel" "TwinBucketsModel" "ownerNow" "[I", Cond.laysFinal "TwinBucketsModel" "TwinBucketsModel" "shares" "[J", Cond.lays "TwinBucketsModel" "TwinBucketsModel" "stopped0" "I", Cond.lays "TwinBucketsModel" "TwinBucketsModel" "orderAt" "I", Cond.lays "TwinBucketsModel" "TwinBucketsModel" "howOften" "I", Cond.lays "TwinBucketsModel" "TwinBucketsModel" "head" "I", Cond.lays "TwinBucketsModel" "TwinBucketsModel" "sumsAre" "Z", Cond.lays "TwinBucketsModel" "TwinBucketsModel" "testIs" "Z", Cond.laysFinal "TwinBucketsModel" "TwinBucketsModel" "sums" "[J", Cond.laysFinal "TwinBucketsModel" "TwinBucketsModel" "drawnValues" "[I", Cond.lays "TwinBucketsModel" "TwinBucketsModel" "hasDrawn" "Z", Cond.lays "TwinBucketsModel" "TwinBucketsModel" "latest" "I"], w ∈ gw
  exact List.forall_mem_cons.mpr ⟨gm5 148 rfl rfl, List.forall_mem_cons.mpr ⟨gm5 150 rfl rfl, List.forall_mem_cons.mpr ⟨gm5 152 rfl rfl, List.forall_mem_cons.mpr ⟨gm5 154 rfl rfl, List.forall_mem_cons.mpr ⟨gm5 156 rfl rfl, List.forall_mem_cons.mpr ⟨gm5 158 rfl rfl, List.forall_mem_cons.mpr ⟨gm5 160 rfl rfl, List.forall_mem_cons.mpr ⟨gm5 162 rfl rfl, List.forall_mem_cons.mpr ⟨gm5 164 rfl rfl, List.forall_mem_cons.mpr ⟨gm5 166 rfl rfl, List.forall_mem_cons.mpr ⟨gm5 168 rfl rfl, List.forall_mem_cons.mpr ⟨gm5 170 rfl rfl, List.forall_mem_cons.mpr ⟨gm5 172 rfl rfl, List.forall_mem_cons.mpr ⟨gm5 174 rfl rfl, List.forall_mem_cons.mpr ⟨gm5 176 rfl rfl, List.forall_mem_cons.mpr ⟨gm5 178 rfl rfl, List.forall_mem_cons.mpr ⟨gm5 180 rfl rfl, List.forall_mem_cons.mpr ⟨gm5 182 rfl rfl, List.forall_mem_cons.mpr ⟨gm5 184 rfl rfl, List.forall_mem_cons.mpr ⟨gm5 186 rfl rfl, List.forall_mem_cons.mpr ⟨gm5 188 rfl rfl, List.forall_mem_cons.mpr ⟨gm5 190 rfl rfl, List.forall_mem_cons.mpr ⟨gm5 192 rfl rfl, List.forall_mem_cons.mpr ⟨gm5 194 rfl rfl, List.forall_mem_cons.mpr ⟨gm5 196 rfl rfl, List.forall_mem_cons.mpr ⟨gm5 198 rfl rfl, List.forall_mem_cons.mpr ⟨gm5 200 rfl rfl, List.forall_mem_cons.mpr ⟨gm5 202 rfl rfl, List.forall_mem_cons.mpr ⟨gm5 204 rfl rfl, List.forall_mem_cons.mpr ⟨gm5 206 rfl rfl, List.forall_mem_cons.mpr ⟨gm5 208 rfl rfl, List.forall_mem_cons.mpr ⟨gm5 210 rfl rfl, List.forall_mem_cons.mpr ⟨gm5 212 rfl rfl, List.forall_mem_cons.mpr ⟨gm5 214 rfl rfl, List.forall_mem_cons.mpr ⟨gm5 216 rfl rfl, List.forall_mem_cons.mpr ⟨gm5 218 rfl rfl, List.forall_mem_cons.mpr ⟨gm5 220 rfl rfl, List.forall_mem_cons.mpr ⟨gm5 222 rfl rfl, List.forall_mem_cons.mpr ⟨gm5 224 rfl rfl, List.forall_mem_cons.mpr ⟨gm5 226 rfl rfl, List.forall_mem_cons.mpr ⟨gm5 228 rfl rfl, List.forall_mem_cons.mpr ⟨gm5 230 rfl rfl, List.forall_mem_cons.mpr ⟨gm5 232 rfl rfl, List.forall_mem_cons.mpr ⟨gm5 234 rfl rfl, List.forall_mem_cons.mpr ⟨gm5 236 rfl rfl, List.forall_mem_cons.mpr ⟨gm5 238 rfl rfl, fun _ h => absurd h List.not_mem_nil⟩⟩⟩⟩⟩⟩⟩⟩⟩⟩⟩⟩⟩⟩⟩⟩⟩⟩⟩⟩⟩⟩⟩⟩⟩⟩⟩⟩⟩⟩⟩⟩⟩⟩⟩⟩⟩⟩⟩⟩⟩⟩⟩⟩⟩⟩
theorem xk_9 : xKok 9 := ⟨RX9, TX9, 46, tyX9, rfl, rfl, rfl, xw_9, tyX9_ok, nmX9, gm5 97 rfl rfl, gm1 10 rfl rfl, by decide⟩
theorem xk_all : ∀ ci, ci < 10 → xKok ci := by
  intro ci h
  match ci, h with
  | 0, _ => exact xk_0
  | 1, _ => exact xk_1
  | 2, _ => exact xk_2
  | 3, _ => exact xk_3
  | 4, _ => exact xk_4
  | 5, _ => exact xk_5
  | 6, _ => exact xk_6
  | 7, _ => exact xk_7
  | 8, _ => exact xk_8
  | 9, _ => exact xk_9
def xFLok (e : Nat × Nat × Nat × Nat × Nat) : Prop := e.2.2.1 < 10 ∧ ∀ (C : String) (T : u_T) (N : Nat) (ty : Nat → FieldType), xclasses[e.2.2.1]? = some (C, T, N) → xtyL[e.2.2.1]? = some ty → e.2.2.2.1 < N ∧ Cond.fieldLink (xcn e.1) e.2.1 C (T e.2.2.2.1).2.1 (T e.2.2.2.1).2.2.1 ∈ gw ∧ (match e.2.2.2.2 with
  | 0 => ty e.2.2.2.1 = .int ∧ (T e.2.2.2.1).2.2.2 = false
  | 1 => ty e.2.2.2.1 = .boolean ∧ (T e.2.2.2.1).2.2.2 = false
  | 2 => ((∃ n, ty e.2.2.2.1 = .object n) ∨ ∃ t, ty e.2.2.2.1 = .array t) ∧ (T e.2.2.2.1).2.2.2 = true
  | 3 => ((∃ n, ty e.2.2.2.1 = .object n) ∨ ∃ t, ty e.2.2.2.1 = .array t) ∧ (T e.2.2.2.1).2.2.2 = false
  | _ => False)
theorem fl_0 : xFLok (2, 9, 2, 0, 2) := ⟨by decide, fun C T N ty h1 h2 => by cases h1; cases h2; exact ⟨by decide, gm1 39 rfl rfl, ⟨Or.inr ⟨_, rfl⟩, rfl⟩⟩⟩
theorem fl_1 : xFLok (5, 161, 2, 0, 2) := ⟨by decide, fun C T N ty h1 h2 => by cases h1; cases h2; exact ⟨by decide, gm1 40 rfl rfl, ⟨Or.inr ⟨_, rfl⟩, rfl⟩⟩⟩
theorem fl_2 : xFLok (5, 12, 5, 0, 2) := ⟨by decide, fun C T N ty h1 h2 => by cases h1; cases h2; exact ⟨by decide, gm1 45 rfl rfl, ⟨Or.inl ⟨_, rfl⟩, rfl⟩⟩⟩
theorem fl_3 : xFLok (8, 98, 5, 0, 2) := ⟨by decide, fun C T N ty h1 h2 => by cases h1; cases h2; exact ⟨by decide, gm1 46 rfl rfl, ⟨Or.inl ⟨_, rfl⟩, rfl⟩⟩⟩
theorem fl_4 : xFLok (4, 28, 5, 0, 2) := ⟨by decide, fun C T N ty h1 h2 => by cases h1; cases h2; exact ⟨by decide, gm1 47 rfl rfl, ⟨Or.inl ⟨_, rfl⟩, rfl⟩⟩⟩
theorem fl_5 : xFLok (3, 44, 5, 0, 2) := ⟨by decide, fun C T N ty h1 h2 => by cases h1; cases h2; exact ⟨by decide, gm1 48 rfl rfl, ⟨Or.inl ⟨_, rfl⟩, rfl⟩⟩⟩
theorem fl_6 : xFLok (5, 18, 5, 1, 2) := ⟨by decide, fun C T N ty h1 h2 => by cases h1; cases h2; exact ⟨by decide, gm1 49 rfl rfl, ⟨Or.inl ⟨_, rfl⟩, rfl⟩⟩⟩
theorem fl_7 : xFLok (8, 108, 5, 1, 2) := ⟨by decide, fun C T N ty h1 h2 => by cases h1; cases h2; exact ⟨by decide, gm1 50 rfl rfl, ⟨Or.inl ⟨_, rfl⟩, rfl⟩⟩⟩
theorem fl_8 : xFLok (5, 21, 5, 2, 2) := ⟨by decide, fun C T N ty h1 h2 => by cases h1; cases h2; exact ⟨by decide, gm1 51 rfl rfl, ⟨Or.inr ⟨_, rfl⟩, rfl⟩⟩⟩
theorem fl_9 : xFLok (8, 118, 5, 2, 2) := ⟨by decide, fun C T N ty h1 h2 => by cases h1; cases h2; exact ⟨by decide, gm1 52 rfl rfl, ⟨Or.inr ⟨_, rfl⟩, rfl⟩⟩⟩
theorem fl_10 : xFLok (4, 48, 5, 2, 2) := ⟨by decide, fun C T N ty h1 h2 => by cases h1; cases h2; exact ⟨by decide, gm1 53 rfl rfl, ⟨Or.inr ⟨_, rfl⟩, rfl⟩⟩⟩
theorem fl_11 : xFLok (5, 25, 5, 3, 2) := ⟨by decide, fun C T N ty h1 h2 => by cases h1; cases h2; exact ⟨by decide, gm1 54 rfl rfl, ⟨Or.inr ⟨_, rfl⟩, rfl⟩⟩⟩
theorem fl_12 : xFLok (5, 28, 5, 4, 0) := ⟨by decide, fun C T N ty h1 h2 => by cases h1; cases h2; exact ⟨by decide, gm1 55 rfl rfl, ⟨rfl, rfl⟩⟩⟩
theorem fl_13 : xFLok (5, 32, 5, 5, 0) := ⟨by decide, fun C T N ty h1 h2 => by cases h1; cases h2; exact ⟨by decide, gm1 56 rfl rfl, ⟨rfl, rfl⟩⟩⟩
theorem fl_14 : xFLok (8, 313, 5, 5, 0) := ⟨by decide, fun C T N ty h1 h2 => by cases h1; cases h2; exact ⟨by decide, gm1 57 rfl rfl, ⟨rfl, rfl⟩⟩⟩
theorem fl_15 : xFLok (5, 35, 5, 6, 0) := ⟨by decide, fun C T N ty h1 h2 => by cases h1; cases h2; exact ⟨by decide, gm1 58 rfl rfl, ⟨rfl, rfl⟩⟩⟩
theorem fl_16 : xFLok (8, 310, 5, 6, 0) := ⟨by decide, fun C T N ty h1 h2 => by cases h1; cases h2; exact ⟨by decide, gm1 59 rfl rfl, ⟨rfl, rfl⟩⟩⟩
theorem fl_17 : xFLok (5, 38, 5, 7, 0) := ⟨by decide, fun C T N ty h1 h2 => by cases h1; cases h2; exact ⟨by decide, gm1 60 rfl rfl, ⟨rfl, rfl⟩⟩⟩
theorem fl_18 : xFLok (3, 63, 5, 7, 0) := ⟨by decide, fun C T N ty h1 h2 => by cases h1; cases h2; exact ⟨by decide, gm1 61 rfl rfl, ⟨rfl, rfl⟩⟩⟩
theorem fl_19 : xFLok (8, 317, 5, 7, 0) := ⟨by decide, fun C T N ty h1 h2 => by cases h1; cases h2; exact ⟨by decide, gm1 62 rfl rfl, ⟨rfl, rfl⟩⟩⟩
theorem fl_20 : xFLok (3, 11, 3, 0, 2) := ⟨by decide, fun C T N ty h1 h2 => by cases h1; cases h2; exact ⟨by decide, gm1 88 rfl rfl, ⟨Or.inr ⟨_, rfl⟩, rfl⟩⟩⟩
theorem fl_21 : xFLok (3, 17, 3, 1, 2) := ⟨by decide, fun C T N ty h1 h2 => by cases h1; cases h2; exact ⟨by decide, gm1 89 rfl rfl, ⟨Or.inr ⟨_, rfl⟩, rfl⟩⟩⟩
theorem fl_22 : xFLok (3, 21, 3, 2, 2) := ⟨by decide, fun C T N ty h1 h2 => by cases h1; cases h2; exact ⟨by decide, gm1 90 rfl rfl, ⟨Or.inr ⟨_, rfl⟩, rfl⟩⟩⟩
theorem fl_23 : xFLok (8, 350, 3, 2, 2) := ⟨by decide, fun C T N ty h1 h2 => by cases h1; cases h2; exact ⟨by decide, gm1 91 rfl rfl, ⟨Or.inr ⟨_, rfl⟩, rfl⟩⟩⟩
theorem fl_24 : xFLok (3, 24, 3, 3, 0) := ⟨by decide, fun C T N ty h1 h2 => by cases h1; cases h2; exact ⟨by decide, gm1 92 rfl rfl, ⟨rfl, rfl⟩⟩⟩
theorem fl_25 : xFLok (8, 179, 3, 3, 0) := ⟨by decide, fun C T N ty h1 h2 => by cases h1; cases h2; exact ⟨by decide, gm1 93 rfl rfl, ⟨rfl, rfl⟩⟩⟩
theorem fl_26 : xFLok (3, 28, 3, 4, 0) := ⟨by decide, fun C T N ty h1 h2 => by cases h1; cases h2; exact ⟨by decide, gm1 94 rfl rfl, ⟨rfl, rfl⟩⟩⟩
theorem fl_27 : xFLok (5, 148, 3, 4, 0) := ⟨by decide, fun C T N ty h1 h2 => by cases h1; cases h2; exact ⟨by decide, gm1 95 rfl rfl, ⟨rfl, rfl⟩⟩⟩
theorem fl_28 : xFLok (8, 214, 3, 4, 0) := ⟨by decide, fun C T N ty h1 h2 => by cases h1; cases h2; exact ⟨by decide, gm1 96 rfl rfl, ⟨rfl, rfl⟩⟩⟩
theorem fl_29 : xFLok (3, 31, 3, 5, 0) := ⟨by decide, fun C T N ty h1 h2 => by cases h1; cases h2; exact ⟨by decide, gm1 97 rfl rfl, ⟨rfl, rfl⟩⟩⟩
theorem fl_30 : xFLok (8, 320, 3, 5, 0) := ⟨by decide, fun C T N ty h1 h2 => by cases h1; cases h2; exact ⟨by decide, gm1 98 rfl rfl, ⟨rfl, rfl⟩⟩⟩
theorem fl_31 : xFLok (3, 34, 3, 6, 0) := ⟨by decide, fun C T N ty h1 h2 => by cases h1; cases h2; exact ⟨by decide, gm1 99 rfl rfl, ⟨rfl, rfl⟩⟩⟩
theorem fl_32 : xFLok (8, 323, 3, 6, 0) := ⟨by decide, fun C T N ty h1 h2 => by cases h1; cases h2; exact ⟨by decide, gm1 100 rfl rfl, ⟨rfl, rfl⟩⟩⟩
theorem fl_33 : xFLok (3, 37, 3, 7, 0) := ⟨by decide, fun C T N ty h1 h2 => by cases h1; cases h2; exact ⟨by decide, gm1 101 rfl rfl, ⟨rfl, rfl⟩⟩⟩
theorem fl_34 : xFLok (8, 326, 3, 7, 0) := ⟨by decide, fun C T N ty h1 h2 => by cases h1; cases h2; exact ⟨by decide, gm1 102 rfl rfl, ⟨rfl, rfl⟩⟩⟩
theorem fl_35 : xFLok (4, 9, 4, 0, 2) := ⟨by decide, fun C T N ty h1 h2 => by cases h1; cases h2; exact ⟨by decide, gm1 126 rfl rfl, ⟨Or.inr ⟨_, rfl⟩, rfl⟩⟩⟩
theorem fl_36 : xFLok (4, 15, 4, 1, 2) := ⟨by decide, fun C T N ty h1 h2 => by cases h1; cases h2; exact ⟨by decide, gm1 127 rfl rfl, ⟨Or.inr ⟨_, rfl⟩, rfl⟩⟩⟩
theorem fl_37 : xFLok (4, 18, 4, 2, 0) := ⟨by decide, fun C T N ty h1 h2 => by cases h1; cases h2; exact ⟨by decide, gm1 128 rfl rfl, ⟨rfl, rfl⟩⟩⟩
theorem fl_38 : xFLok (8, 257, 4, 2, 0) := ⟨by decide, fun C T N ty h1 h2 => by cases h1; cases h2; exact ⟨by decide, gm1 129 rfl rfl, ⟨rfl, rfl⟩⟩⟩
theorem fl_39 : xFLok (0, 11, 0, 0, 2) := ⟨by decide, fun C T N ty h1 h2 => by cases h1; cases h2; exact ⟨by decide, gm1 145 rfl rfl, ⟨Or.inr ⟨_, rfl⟩, rfl⟩⟩⟩
theorem fl_40 : xFLok (0, 17, 0, 1, 2) := ⟨by decide, fun C T N ty h1 h2 => by cases h1; cases h2; exact ⟨by decide, gm1 146 rfl rfl, ⟨Or.inr ⟨_, rfl⟩, rfl⟩⟩⟩
theorem fl_41 : xFLok (0, 21, 0, 2, 3) := ⟨by decide, fun C T N ty h1 h2 => by cases h1; cases h2; exact ⟨by decide, gm1 147 rfl rfl, ⟨Or.inl ⟨_, rfl⟩, rfl⟩⟩⟩
theorem fl_42 : xFLok (0, 25, 0, 3, 0) := ⟨by decide, fun C T N ty h1 h2 => by cases h1; cases h2; exact ⟨by decide, gm1 148 rfl rfl, ⟨rfl, rfl⟩⟩⟩
theorem fl_43 : xFLok (8, 316, 0, 3, 0) := ⟨by decide, fun C T N ty h1 h2 => by cases h1; cases h2; exact ⟨by decide, gm1 149 rfl rfl, ⟨rfl, rfl⟩⟩⟩
theorem fl_44 : xFLok (7, 21, 7, 0, 2) := ⟨by decide, fun C T N ty h1 h2 => by cases h1; cases h2; exact ⟨by decide, gm1 173 rfl rfl, ⟨Or.inr ⟨_, rfl⟩, rfl⟩⟩⟩
theorem fl_45 : xFLok (7, 25, 7, 1, 2) := ⟨by decide, fun C T N ty h1 h2 => by cases h1; cases h2; exact ⟨by decide, gm1 174 rfl rfl, ⟨Or.inr ⟨_, rfl⟩, rfl⟩⟩⟩
theorem fl_46 : xFLok (7, 28, 7, 2, 2) := ⟨by decide, fun C T N ty h1 h2 => by cases h1; cases h2; exact ⟨by decide, gm1 175 rfl rfl, ⟨Or.inr ⟨_, rfl⟩, rfl⟩⟩⟩
theorem fl_47 : xFLok (7, 31, 7, 3, 2) := ⟨by decide, fun C T N ty h1 h2 => by cases h1; cases h2; exact ⟨by decide, gm1 176 rfl rfl, ⟨Or.inr ⟨_, rfl⟩, rfl⟩⟩⟩
theorem fl_48 : xFLok (6, 167, 7, 3, 2) := ⟨by decide, fun C T N ty h1 h2 => by cases h1; cases h2; exact ⟨by decide, gm1 177 rfl rfl, ⟨Or.inr ⟨_, rfl⟩, rfl⟩⟩⟩
theorem fl_49 : xFLok (8, 361, 7, 3, 2) := ⟨by decide, fun C T N ty h1 h2 => by cases h1; cases h2; exact ⟨by decide, gm1 178 rfl rfl, ⟨Or.inr ⟨_, rfl⟩, rfl⟩⟩⟩
theorem fl_50 : xFLok (7, 9, 7, 4, 0) := ⟨by decide, fun C T N ty h1 h2 => by cases h1; cases h2; exact ⟨by decide, gm1 179 rfl rfl, ⟨rfl, rfl⟩⟩⟩
theorem fl_51 : xFLok (6, 92, 7, 4, 0) := ⟨by decide, fun C T N ty h1 h2 => by cases h1; cases h2; exact ⟨by decide, gm1 180 rfl rfl, ⟨rfl, rfl⟩⟩⟩
theorem fl_52 : xFLok (7, 15, 7, 5, 0) := ⟨by decide, fun C T N ty h1 h2 => by cases h1; cases h2; exact ⟨by decide, gm1 181 rfl rfl, ⟨rfl, rfl⟩⟩⟩
theorem fl_53 : xFLok (3, 74, 7, 5, 0) := ⟨by decide, fun C T N ty h1 h2 => by cases h1; cases h2; exact ⟨by decide, gm1 182 rfl rfl, ⟨rfl, rfl⟩⟩⟩
theorem fl_54 : xFLok (6, 99, 7, 5, 0) := ⟨by decide, fun C T N ty h1 h2 => by cases h1; cases h2; exact ⟨by decide, gm1 183 rfl rfl, ⟨rfl, rfl⟩⟩⟩
theorem fl_55 : xFLok (8, 203, 7, 5, 0) := ⟨by decide, fun C T N ty h1 h2 => by cases h1; cases h2; exact ⟨by decide, gm1 184 rfl rfl, ⟨rfl, rfl⟩⟩⟩
theorem fl_56 : xFLok (7, 18, 7, 6, 0) := ⟨by decide, fun C T N ty h1 h2 => by cases h1; cases h2; exact ⟨by decide, gm1 185 rfl rfl, ⟨rfl, rfl⟩⟩⟩
theorem fl_57 : xFLok (6, 170, 7, 6, 0) := ⟨by decide, fun C T N ty h1 h2 => by cases h1; cases h2; exact ⟨by decide, gm1 186 rfl rfl, ⟨rfl, rfl⟩⟩⟩
theorem fl_58 : xFLok (8, 358, 7, 6, 0) := ⟨by decide, fun C T N ty h1 h2 => by cases h1; cases h2; exact ⟨by decide, gm1 187 rfl rfl, ⟨rfl, rfl⟩⟩⟩
theorem fl_59 : xFLok (6, 12, 6, 0, 2) := ⟨by decide, fun C T N ty h1 h2 => by cases h1; cases h2; exact ⟨by decide, gm1 203 rfl rfl, ⟨Or.inl ⟨_, rfl⟩, rfl⟩⟩⟩
theorem fl_60 : xFLok (8, 188, 6, 0, 2) := ⟨by decide, fun C T N ty h1 h2 => by cases h1; cases h2; exact ⟨by decide, gm1 204 rfl rfl, ⟨Or.inl ⟨_, rfl⟩, rfl⟩⟩⟩
theorem fl_61 : xFLok (6, 18, 6, 1, 2) := ⟨by decide, fun C T N ty h1 h2 => by cases h1; cases h2; exact ⟨by decide, gm1 205 rfl rfl, ⟨Or.inr ⟨_, rfl⟩, rfl⟩⟩⟩
theorem fl_62 : xFLok (8, 172, 6, 1, 2) := ⟨by decide, fun C T N ty h1 h2 => by cases h1; cases h2; exact ⟨by decide, gm1 206 rfl rfl, ⟨Or.inr ⟨_, rfl⟩, rfl⟩⟩⟩
theorem fl_63 : xFLok (6, 22, 6, 2, 0) := ⟨by decide, fun C T N ty h1 h2 => by cases h1; cases h2; exact ⟨by decide, gm1 207 rfl rfl, ⟨rfl, rfl⟩⟩⟩
theorem fl_64 : xFLok (8, 162, 6, 2, 0) := ⟨by decide, fun C T N ty h1 h2 => by cases h1; cases h2; exact ⟨by decide, gm1 208 rfl rfl, ⟨rfl, rfl⟩⟩⟩
theorem fl_65 : xFLok (6, 26, 6, 3, 0) := ⟨by decide, fun C T N ty h1 h2 => by cases h1; cases h2; exact ⟨by decide, gm1 209 rfl rfl, ⟨rfl, rfl⟩⟩⟩
theorem fl_66 : xFLok (6, 29, 6, 4, 1) := ⟨by decide, fun C T N ty h1 h2 => by cases h1; cases h2; exact ⟨by decide, gm1 210 rfl rfl, ⟨rfl, rfl⟩⟩⟩
theorem fl_67 : xFLok (6, 33, 6, 5, 0) := ⟨by decide, fun C T N ty h1 h2 => by cases h1; cases h2; exact ⟨by decide, gm1 211 rfl rfl, ⟨rfl, rfl⟩⟩⟩
theorem fl_68 : xFLok (6, 36, 6, 6, 0) := ⟨by decide, fun C T N ty h1 h2 => by cases h1; cases h2; exact ⟨by decide, gm1 212 rfl rfl, ⟨rfl, rfl⟩⟩⟩
theorem fl_69 : xFLok (6, 39, 6, 7, 0) := ⟨by decide, fun C T N ty h1 h2 => by cases h1; cases h2; exact ⟨by decide, gm1 213 rfl rfl, ⟨rfl, rfl⟩⟩⟩
theorem fl_70 : xFLok (6, 42, 6, 8, 0) := ⟨by decide, fun C T N ty h1 h2 => by cases h1; cases h2; exact ⟨by decide, gm1 214 rfl rfl, ⟨rfl, rfl⟩⟩⟩
theorem fl_71 : xFLok (6, 45, 6, 9, 0) := ⟨by decide, fun C T N ty h1 h2 => by cases h1; cases h2; exact ⟨by decide, gm1 215 rfl rfl, ⟨rfl, rfl⟩⟩⟩
theorem fl_72 : xFLok (8, 12, 8, 0, 2) := ⟨by decide, fun C T N ty h1 h2 => by cases h1; cases h2; exact ⟨by decide, gm2 8 rfl rfl, ⟨Or.inl ⟨_, rfl⟩, rfl⟩⟩⟩
theorem fl_73 : xFLok (8, 16, 8, 1, 2) := ⟨by decide, fun C T N ty h1 h2 => by cases h1; cases h2; exact ⟨by decide, gm2 9 rfl rfl, ⟨Or.inl ⟨_, rfl⟩, rfl⟩⟩⟩
theorem fl_74 : xFLok (8, 19, 8, 2, 2) := ⟨by decide, fun C T N ty h1 h2 => by cases h1; cases h2; exact ⟨by decide, gm2 10 rfl rfl, ⟨Or.inl ⟨_, rfl⟩, rfl⟩⟩⟩
theorem fl_75 : xFLok (8, 25, 8, 3, 2) := ⟨by decide, fun C T N ty h1 h2 => by cases h1; cases h2; exact ⟨by decide, gm2 11 rfl rfl, ⟨Or.inl ⟨_, rfl⟩, rfl⟩⟩⟩
theorem fl_76 : xFLok (8, 32, 8, 4, 2) := ⟨by decide, fun C T N ty h1 h2 => by cases h1; cases h2; exact ⟨by decide, gm2 12 rfl rfl, ⟨Or.inl ⟨_, rfl⟩, rfl⟩⟩⟩
theorem fl_77 : xFLok (8, 39, 8, 5, 2) := ⟨by decide, fun C T N ty h1 h2 => by cases h1; cases h2; exact ⟨by decide, gm2 13 rfl rfl, ⟨Or.inl ⟨_, rfl⟩, rfl⟩⟩⟩
theorem fl_78 : xFLok (8, 43, 8, 6, 2) := ⟨by decide, fun C T N ty h1 h2 => by cases h1; cases h2; exact ⟨by decide, gm2 14 rfl rfl, ⟨Or.inl ⟨_, rfl⟩, rfl⟩⟩⟩
theorem fl_79 : xFLok (8, 48, 8, 7, 2) := ⟨by decide, fun C T N ty h1 h2 => by cases h1; cases h2; exact ⟨by decide, gm2 15 rfl rfl, ⟨Or.inr ⟨_, rfl⟩, rfl⟩⟩⟩
theorem fl_80 : xFLok (8, 55, 8, 8, 2) := ⟨by decide, fun C T N ty h1 h2 => by cases h1; cases h2; exact ⟨by decide, gm2 16 rfl rfl, ⟨Or.inl ⟨_, rfl⟩, rfl⟩⟩⟩
theorem fl_81 : xFLok (8, 59, 8, 9, 2) := ⟨by decide, fun C T N ty h1 h2 => by cases h1; cases h2; exact ⟨by decide, gm2 17 rfl rfl, ⟨Or.inr ⟨_, rfl⟩, rfl⟩⟩⟩
theorem fl_82 : xFLok (8, 63, 8, 10, 2) := ⟨by decide, fun C T N ty h1 h2 => by cases h1; cases h2; exact ⟨by decide, gm2 18 rfl rfl, ⟨Or.inr ⟨_, rfl⟩, rfl⟩⟩⟩
theorem fl_83 : xFLok (8, 66, 8, 11, 2) := ⟨by decide, fun C T N ty h1 h2 => by cases h1; cases h2; exact ⟨by decide, gm2 19 rfl rfl, ⟨Or.inr ⟨_, rfl⟩, rfl⟩⟩⟩
theorem fl_84 : xFLok (8, 69, 8, 12, 2) := ⟨by decide, fun C T N ty h1 h2 => by cases h1; cases h2; exact ⟨by decide, gm2 20 rfl rfl, ⟨Or.inr ⟨_, rfl⟩, rfl⟩⟩⟩
theorem fl_85 : xFLok (8, 72, 8, 13, 2) := ⟨by decide, fun C T N ty h1 h2 => by cases h1; cases h2; exact ⟨by decide, gm2 21 rfl rfl, ⟨Or.inr ⟨_, rfl⟩, rfl⟩⟩⟩
theorem fl_86 : xFLok (8, 76, 8, 14, 0) := ⟨by decide, fun C T N ty h1 h2 => by cases h1; cases h2; exact ⟨by decide, gm2 22 rfl rfl, ⟨rfl, rfl⟩⟩⟩
theorem fl_87 : xFLok (8, 80, 8, 15, 0) := ⟨by decide, fun C T N ty h1 h2 => by cases h1; cases h2; exact ⟨by decide, gm2 23 rfl rfl, ⟨rfl, rfl⟩⟩⟩
theorem fl_88 : xFLok (8, 83, 8, 16, 0) := ⟨by decide, fun C T N ty h1 h2 => by cases h1; cases h2; exact ⟨by decide, gm2 24 rfl rfl, ⟨rfl, rfl⟩⟩⟩
theorem fl_89 : xFLok (8, 86, 8, 17, 0) := ⟨by decide, fun C T N ty h1 h2 => by cases h1; cases h2; exact ⟨by decide, gm2 25 rfl rfl, ⟨rfl, rfl⟩⟩⟩
theorem fl_90 : xFLok (1, 10, 1, 0, 2) := ⟨by decide, fun C T N ty h1 h2 => by cases h1; cases h2; exact ⟨by decide, gm5 62 rfl rfl, ⟨Or.inl ⟨_, rfl⟩, rfl⟩⟩⟩
theorem fl_91 : xFLok (8, 299, 1, 0, 2) := ⟨by decide, fun C T N ty h1 h2 => by cases h1; cases h2; exact ⟨by decide, gm5 63 rfl rfl, ⟨Or.inl ⟨_, rfl⟩, rfl⟩⟩⟩
theorem fl_92 : xFLok (1, 19, 1, 1, 2) := ⟨by decide, fun C T N ty h1 h2 => by cases h1; cases h2; exact ⟨by decide, gm5 64 rfl rfl, ⟨Or.inl ⟨_, rfl⟩, rfl⟩⟩⟩
theorem fl_93 : xFLok (8, 302, 1, 1, 2) := ⟨by decide, fun C T N ty h1 h2 => by cases h1; cases h2; exact ⟨by decide, gm5 65 rfl rfl, ⟨Or.inl ⟨_, rfl⟩, rfl⟩⟩⟩
theorem fl_94 : xFLok (1, 26, 1, 2, 2) := ⟨by decide, fun C T N ty h1 h2 => by cases h1; cases h2; exact ⟨by decide, gm5 66 rfl rfl, ⟨Or.inl ⟨_, rfl⟩, rfl⟩⟩⟩
theorem fl_95 : xFLok (8, 306, 1, 2, 2) := ⟨by decide, fun C T N ty h1 h2 => by cases h1; cases h2; exact ⟨by decide, gm5 67 rfl rfl, ⟨Or.inl ⟨_, rfl⟩, rfl⟩⟩⟩
theorem fl_96 : xFLok (9, 3, 9, 0, 0) := ⟨by decide, fun C T N ty h1 h2 => by cases h1; cases h2; exact ⟨by decide, gm5 102 rfl rfl, ⟨rfl, rfl⟩⟩⟩
theorem fl_97 : xFLok (9, 7, 9, 1, 2) := ⟨by decide, fun C T N ty h1 h2 => by cases h1; cases h2; exact ⟨by decide, gm5 103 rfl rfl, ⟨Or.inr ⟨_, rfl⟩, rfl⟩⟩⟩
theorem fl_98 : xFLok (9, 28, 9, 2, 2) := ⟨by decide, fun C T N ty h1 h2 => by cases h1; cases h2; exact ⟨by decide, gm5 104 rfl rfl, ⟨Or.inr ⟨_, rfl⟩, rfl⟩⟩⟩
theorem fl_99 : xFLok (9, 31, 9, 3, 2) := ⟨by decide, fun C T N ty h1 h2 => by cases h1; cases h2; exact ⟨by decide, gm5 105 rfl rfl, ⟨Or.inr ⟨_, rfl⟩, rfl⟩⟩⟩
theorem fl_100 : xFLok (9, 34, 9, 4, 2) := ⟨by decide, fun C T N ty h1 h2 => by cases h1; cases h2; exact ⟨by decide, gm5 106 rfl rfl, ⟨Or.inr ⟨_, rfl⟩, rfl⟩⟩⟩
theorem fl_101 : xFLok (9, 38, 9, 5, 2) := ⟨by decide, fun C T N ty h1 h2 => by cases h1; cases h2; exact ⟨by decide, gm5 107 rfl rfl, ⟨Or.inr ⟨_, rfl⟩, rfl⟩⟩⟩
theorem fl_102 : xFLok (9, 155, 9, 6, 0) := ⟨by decide, fun C T N ty h1 h2 => by cases h1; cases h2; exact ⟨by decide, gm5 108 rfl rfl, ⟨rfl, rfl⟩⟩⟩
theorem fl_103 : xFLok (9, 41, 9, 7, 2) := ⟨by decide, fun C T N ty h1 h2 => by cases h1; cases h2; exact ⟨by decide, gm5 109 rfl rfl, ⟨Or.inr ⟨_, rfl⟩, rfl⟩⟩⟩
theorem fl_104 : xFLok (9, 233, 9, 8, 0) := ⟨by decide, fun C T N ty h1 h2 => by cases h1; cases h2; exact ⟨by decide, gm5 110 rfl rfl, ⟨rfl, rfl⟩⟩⟩
theorem fl_105 : xFLok (9, 236, 9, 9, 0) := ⟨by decide, fun C T N ty h1 h2 => by cases h1; cases h2; exact ⟨by decide, gm5 111 rfl rfl, ⟨rfl, rfl⟩⟩⟩
theorem fl_106 : xFLok (9, 207, 9, 10, 1) := ⟨by decide, fun C T N ty h1 h2 => by cases h1; cases h2; exact ⟨by decide, gm5 112 rfl rfl, ⟨rfl, rfl⟩⟩⟩
theorem fl_107 : xFLok (9, 45, 9, 11, 2) := ⟨by decide, fun C T N ty h1 h2 => by cases h1; cases h2; exact ⟨by decide, gm5 113 rfl rfl, ⟨Or.inr ⟨_, rfl⟩, rfl⟩⟩⟩
theorem fl_108 : xFLok (9, 48, 9, 12, 2) := ⟨by decide, fun C T N ty h1 h2 => by cases h1; cases h2; exact ⟨by decide, gm5 114 rfl rfl, ⟨Or.inr ⟨_, rfl⟩, rfl⟩⟩⟩
theorem fl_109 : xFLok (9, 152, 9, 13, 0) := ⟨by decide, fun C T N ty h1 h2 => by cases h1; cases h2; exact ⟨by decide, gm5 115 rfl rfl, ⟨rfl, rfl⟩⟩⟩
theorem fl_110 : xFLok (9, 51, 9, 14, 0) := ⟨by decide, fun C T N ty h1 h2 => by cases h1; cases h2; exact ⟨by decide, gm5 116 rfl rfl, ⟨rfl, rfl⟩⟩⟩
theorem fl_111 : xFLok (9, 54, 9, 15, 2) := ⟨by decide, fun C T N ty h1 h2 => by cases h1; cases h2; exact ⟨by decide, gm5 117 rfl rfl, ⟨Or.inr ⟨_, rfl⟩, rfl⟩⟩⟩
theorem fl_112 : xFLok (9, 57, 9, 16, 2) := ⟨by decide, fun C T N ty h1 h2 => by cases h1; cases h2; exact ⟨by decide, gm5 118 rfl rfl, ⟨Or.inr ⟨_, rfl⟩, rfl⟩⟩⟩
theorem fl_113 : xFLok (9, 60, 9, 17, 2) := ⟨by decide, fun C T N ty h1 h2 => by cases h1; cases h2; exact ⟨by decide, gm5 119 rfl rfl, ⟨Or.inr ⟨_, rfl⟩, rfl⟩⟩⟩
theorem fl_114 : xFLok (9, 161, 9, 18, 0) := ⟨by decide, fun C T N ty h1 h2 => by cases h1; cases h2; exact ⟨by decide, gm5 120 rfl rfl, ⟨rfl, rfl⟩⟩⟩
theorem fl_115 : xFLok (9, 181, 9, 19, 0) := ⟨by decide, fun C T N ty h1 h2 => by cases h1; cases h2; exact ⟨by decide, gm5 121 rfl rfl, ⟨rfl, rfl⟩⟩⟩
theorem fl_116 : xFLok (9, 190, 9, 20, 0) := ⟨by decide, fun C T N ty h1 h2 => by cases h1; cases h2; exact ⟨by decide, gm5 122 rfl rfl, ⟨rfl, rfl⟩⟩⟩
theorem fl_117 : xFLok (9, 174, 9, 21, 0) := ⟨by decide, fun C T N ty h1 h2 => by cases h1; cases h2; exact ⟨by decide, gm5 123 rfl rfl, ⟨rfl, rfl⟩⟩⟩
theorem fl_118 : xFLok (9, 264, 9, 22, 0) := ⟨by decide, fun C T N ty h1 h2 => by cases h1; cases h2; exact ⟨by decide, gm5 124 rfl rfl, ⟨rfl, rfl⟩⟩⟩
theorem fl_119 : xFLok (9, 261, 9, 23, 0) := ⟨by decide, fun C T N ty h1 h2 => by cases h1; cases h2; exact ⟨by decide, gm5 125 rfl rfl, ⟨rfl, rfl⟩⟩⟩
theorem fl_120 : xFLok (9, 274, 9, 24, 1) := ⟨by decide, fun C T N ty h1 h2 => by cases h1; cases h2; exact ⟨by decide, gm5 126 rfl rfl, ⟨rfl, rfl⟩⟩⟩
theorem fl_121 : xFLok (9, 294, 9, 25, 1) := ⟨by decide, fun C T N ty h1 h2 => by cases h1; cases h2; exact ⟨by decide, gm5 127 rfl rfl, ⟨rfl, rfl⟩⟩⟩
theorem fl_122 : xFLok (9, 63, 9, 26, 2) := ⟨by decide, fun C T N ty h1 h2 => by cases h1; cases h2; exact ⟨by decide, gm5 128 rfl rfl, ⟨Or.inr ⟨_, rfl⟩, rfl⟩⟩⟩
theorem fl_123 : xFLok (9, 300, 9, 27, 0) := ⟨by decide, fun C T N ty h1 h2 => by cases h1; cases h2; exact ⟨by decide, gm5 129 rfl rfl, ⟨rfl, rfl⟩⟩⟩
theorem fl_124 : xFLok (9, 303, 9, 28, 0) := ⟨by decide, fun C T N ty h1 h2 => by cases h1; cases h2; exact ⟨by decide, gm5 130 rfl rfl, ⟨rfl, rfl⟩⟩⟩
theorem fl_125 : xFLok (9, 66, 9, 29, 2) := ⟨by decide, fun C T N ty h1 h2 => by cases h1; cases h2; exact ⟨by decide, gm5 131 rfl rfl, ⟨Or.inr ⟨_, rfl⟩, rfl⟩⟩⟩
theorem fl_126 : xFLok (9, 69, 9, 30, 2) := ⟨by decide, fun C T N ty h1 h2 => by cases h1; cases h2; exact ⟨by decide, gm5 132 rfl rfl, ⟨Or.inr ⟨_, rfl⟩, rfl⟩⟩⟩
theorem fl_127 : xFLok (9, 72, 9, 31, 2) := ⟨by decide, fun C T N ty h1 h2 => by cases h1; cases h2; exact ⟨by decide, gm5 133 rfl rfl, ⟨Or.inr ⟨_, rfl⟩, rfl⟩⟩⟩
theorem fl_128 : xFLok (9, 11, 9, 32, 0) := ⟨by decide, fun C T N ty h1 h2 => by cases h1; cases h2; exact ⟨by decide, gm5 134 rfl rfl, ⟨rfl, rfl⟩⟩⟩
theorem fl_129 : xFLok (9, 75, 9, 33, 2) := ⟨by decide, fun C T N ty h1 h2 => by cases h1; cases h2; exact ⟨by decide, gm5 135 rfl rfl, ⟨Or.inr ⟨_, rfl⟩, rfl⟩⟩⟩
theorem fl_130 : xFLok (9, 78, 9, 34, 2) := ⟨by decide, fun C T N ty h1 h2 => by cases h1; cases h2; exact ⟨by decide, gm5 136 rfl rfl, ⟨Or.inr ⟨_, rfl⟩, rfl⟩⟩⟩
theorem fl_131 : xFLok (9, 81, 9, 35, 2) := ⟨by decide, fun C T N ty h1 h2 => by cases h1; cases h2; exact ⟨by decide, gm5 137 rfl rfl, ⟨Or.inr ⟨_, rfl⟩, rfl⟩⟩⟩
theorem fl_132 : xFLok (9, 85, 9, 36, 0) := ⟨by decide, fun C T N ty h1 h2 => by cases h1; cases h2; exact ⟨by decide, gm5 138 rfl rfl, ⟨rfl, rfl⟩⟩⟩
theorem fl_133 : xFLok (9, 444, 9, 37, 0) := ⟨by decide, fun C T N ty h1 h2 => by cases h1; cases h2; exact ⟨by decide, gm5 139 rfl rfl, ⟨rfl, rfl⟩⟩⟩
theorem fl_134 : xFLok (9, 456, 9, 38, 0) := ⟨by decide, fun C T N ty h1 h2 => by cases h1; cases h2; exact ⟨by decide, gm5 140 rfl rfl, ⟨rfl, rfl⟩⟩⟩
theorem fl_135 : xFLok (9, 450, 9, 39, 0) := ⟨by decide, fun C T N ty h1 h2 => by cases h1; cases h2; exact ⟨by decide, gm5 141 rfl rfl, ⟨rfl, rfl⟩⟩⟩
theorem fl_136 : xFLok (9, 453, 9, 40, 1) := ⟨by decide, fun C T N ty h1 h2 => by cases h1; cases h2; exact ⟨by decide, gm5 142 rfl rfl, ⟨rfl, rfl⟩⟩⟩
theorem fl_137 : xFLok (9, 459, 9, 41, 1) := ⟨by decide, fun C T N ty h1 h2 => by cases h1; cases h2; exact ⟨by decide, gm5 143 rfl rfl, ⟨rfl, rfl⟩⟩⟩
theorem fl_138 : xFLok (9, 88, 9, 42, 2) := ⟨by decide, fun C T N ty h1 h2 => by cases h1; cases h2; exact ⟨by decide, gm5 144 rfl rfl, ⟨Or.inr ⟨_, rfl⟩, rfl⟩⟩⟩
theorem fl_139 : xFLok (9, 91, 9, 43, 2) := ⟨by decide, fun C T N ty h1 h2 => by cases h1; cases h2; exact ⟨by decide, gm5 145 rfl rfl, ⟨Or.inr ⟨_, rfl⟩, rfl⟩⟩⟩
theorem fl_140 : xFLok (9, 487, 9, 44, 1) := ⟨by decide, fun C T N ty h1 h2 => by cases h1; cases h2; exact ⟨by decide, gm5 146 rfl rfl, ⟨rfl, rfl⟩⟩⟩
theorem fl_141 : xFLok (9, 477, 9, 45, 0) := ⟨by decide, fun C T N ty h1 h2 => by cases h1; cases h2; exact ⟨by decide, gm5 147 rfl rfl, ⟨rfl, rfl⟩⟩⟩
theorem fl_all : ∀ e ∈ xFL, xFLok e := by
  unfold xFL
  exact List.forall_mem_cons.mpr ⟨fl_0, List.forall_mem_cons.mpr ⟨fl_1, List.forall_mem_cons.mpr ⟨fl_2, List.forall_mem_cons.mpr ⟨fl_3, List.forall_mem_cons.mpr ⟨fl_4, List.forall_mem_cons.mpr ⟨fl_5, List.forall_mem_cons.mpr ⟨fl_6, List.forall_mem_cons.mpr ⟨fl_7, List.forall_mem_cons.mpr ⟨fl_8, List.forall_mem_cons.mpr ⟨fl_9, List.forall_mem_cons.mpr ⟨fl_10, List.forall_mem_cons.mpr ⟨fl_11, List.forall_mem_cons.mpr ⟨fl_12, List.forall_mem_cons.mpr ⟨fl_13, List.forall_mem_cons.mpr ⟨fl_14, List.forall_mem_cons.mpr ⟨fl_15, List.forall_mem_cons.mpr ⟨fl_16, List.forall_mem_cons.mpr ⟨fl_17, List.forall_mem_cons.mpr ⟨fl_18, List.forall_mem_cons.mpr ⟨fl_19, List.forall_mem_cons.mpr ⟨fl_20, List.forall_mem_cons.mpr ⟨fl_21, List.forall_mem_cons.mpr ⟨fl_22, List.forall_mem_cons.mpr ⟨fl_23, List.forall_mem_cons.mpr ⟨fl_24, List.forall_mem_cons.mpr ⟨fl_25, List.forall_mem_cons.mpr ⟨fl_26, List.forall_mem_cons.mpr ⟨fl_27, List.forall_mem_cons.mpr ⟨fl_28, List.forall_mem_cons.mpr ⟨fl_29, List.forall_mem_cons.mpr ⟨fl_30, List.forall_mem_cons.mpr ⟨fl_31, List.forall_mem_cons.mpr ⟨fl_32, List.forall_mem_cons.mpr ⟨fl_33, List.forall_mem_cons.mpr ⟨fl_34, List.forall_mem_cons.mpr ⟨fl_35, List.forall_mem_cons.mpr ⟨fl_36, List.forall_mem_cons.mpr ⟨fl_37, List.forall_mem_cons.mpr ⟨fl_38, List.forall_mem_cons.mpr ⟨fl_39, List.forall_mem_cons.mpr ⟨fl_40, List.forall_mem_cons.mpr ⟨fl_41, List.forall_mem_cons.mpr ⟨fl_42, List.forall_mem_cons.mpr ⟨fl_43, List.forall_mem_cons.mpr ⟨fl_44, List.forall_mem_cons.mpr ⟨fl_45, List.forall_mem_cons.mpr ⟨fl_46, List.forall_mem_cons.mpr ⟨fl_47, List.forall_mem_cons.mpr ⟨fl_48, List.forall_mem_cons.mpr ⟨fl_49, List.forall_mem_cons.mpr ⟨fl_50, List.forall_mem_cons.mpr ⟨fl_51, List.forall_mem_cons.mpr ⟨fl_52, List.forall_mem_cons.mpr ⟨fl_53, List.forall_mem_cons.mpr ⟨fl_54, List.forall_mem_cons.mpr ⟨fl_55, List.forall_mem_cons.mpr ⟨fl_56, List.forall_mem_cons.mpr ⟨fl_57, List.forall_mem_cons.mpr ⟨fl_58, List.forall_mem_cons.mpr ⟨fl_59, List.forall_mem_cons.mpr ⟨fl_60, List.forall_mem_cons.mpr ⟨fl_61, List.forall_mem_cons.mpr ⟨fl_62, List.forall_mem_cons.mpr ⟨fl_63, List.forall_mem_cons.mpr ⟨fl_64, List.forall_mem_cons.mpr ⟨fl_65, List.forall_mem_cons.mpr ⟨fl_66, List.forall_mem_cons.mpr ⟨fl_67, List.forall_mem_cons.mpr ⟨fl_68, List.forall_mem_cons.mpr ⟨fl_69, List.forall_mem_cons.mpr ⟨fl_70, List.forall_mem_cons.mpr ⟨fl_71, List.forall_mem_cons.mpr ⟨fl_72, List.forall_mem_cons.mpr ⟨fl_73, List.forall_mem_cons.mpr ⟨fl_74, List.forall_mem_cons.mpr ⟨fl_75, List.forall_mem_cons.mpr ⟨fl_76, List.forall_mem_cons.mpr ⟨fl_77, List.forall_mem_cons.mpr ⟨fl_78, List.forall_mem_cons.mpr ⟨fl_79, List.forall_mem_cons.mpr ⟨fl_80, List.forall_mem_cons.mpr ⟨fl_81, List.forall_mem_cons.mpr ⟨fl_82, List.forall_mem_cons.mpr ⟨fl_83, List.forall_mem_cons.mpr ⟨fl_84, List.forall_mem_cons.mpr ⟨fl_85, List.forall_mem_cons.mpr ⟨fl_86, List.forall_mem_cons.mpr ⟨fl_87, List.forall_mem_cons.mpr ⟨fl_88, List.forall_mem_cons.mpr ⟨fl_89, List.forall_mem_cons.mpr ⟨fl_90, List.forall_mem_cons.mpr ⟨fl_91, List.forall_mem_cons.mpr ⟨fl_92, List.forall_mem_cons.mpr ⟨fl_93, List.forall_mem_cons.mpr ⟨fl_94, List.forall_mem_cons.mpr ⟨fl_95, List.forall_mem_cons.mpr ⟨fl_96, List.forall_mem_cons.mpr ⟨fl_97, List.forall_mem_cons.mpr ⟨fl_98, List.forall_mem_cons.mpr ⟨fl_99, List.forall_mem_cons.mpr ⟨fl_100, List.forall_mem_cons.mpr ⟨fl_101, List.forall_mem_cons.mpr ⟨fl_102, List.forall_mem_cons.mpr ⟨fl_103, List.forall_mem_cons.mpr ⟨fl_104, List.forall_mem_cons.mpr ⟨fl_105, List.forall_mem_cons.mpr ⟨fl_106, List.forall_mem_cons.mpr ⟨fl_107, List.forall_mem_cons.mpr ⟨fl_108, List.forall_mem_cons.mpr ⟨fl_109, List.forall_mem_cons.mpr ⟨fl_110, List.forall_mem_cons.mpr ⟨fl_111, List.forall_mem_cons.mpr ⟨fl_112, List.forall_mem_cons.mpr ⟨fl_113, List.forall_mem_cons.mpr ⟨fl_114, List.forall_mem_cons.mpr ⟨fl_115, List.forall_mem_cons.mpr ⟨fl_116, List.forall_mem_cons.mpr ⟨fl_117, List.forall_mem_cons.mpr ⟨fl_118, List.forall_mem_cons.mpr ⟨fl_119, List.forall_mem_cons.mpr ⟨fl_120, List.forall_mem_cons.mpr ⟨fl_121, List.forall_mem_cons.mpr ⟨fl_122, List.forall_mem_cons.mpr ⟨fl_123, List.forall_mem_cons.mpr ⟨fl_124, List.forall_mem_cons.mpr ⟨fl_125, List.forall_mem_cons.mpr ⟨fl_126, List.forall_mem_cons.mpr ⟨fl_127, List.forall_mem_cons.mpr ⟨fl_128, List.forall_mem_cons.mpr ⟨fl_129, List.forall_mem_cons.mpr ⟨fl_130, List.forall_mem_cons.mpr ⟨fl_131, List.forall_mem_cons.mpr ⟨fl_132, List.forall_mem_cons.mpr ⟨fl_133, List.forall_mem_cons.mpr ⟨fl_134, List.forall_mem_cons.mpr ⟨fl_135, List.forall_mem_cons.mpr ⟨fl_136, List.forall_mem_cons.mpr ⟨fl_137, List.forall_mem_cons.mpr ⟨fl_138, List.forall_mem_cons.mpr ⟨fl_139, List.forall_mem_cons.mpr ⟨fl_140, List.forall_mem_cons.mpr ⟨fl_141, fun _ h => absurd h List.not_mem_nil⟩⟩⟩⟩⟩⟩⟩⟩⟩⟩⟩⟩⟩⟩⟩⟩⟩⟩⟩⟩⟩⟩⟩⟩⟩⟩⟩⟩⟩⟩⟩⟩⟩⟩⟩⟩⟩⟩⟩⟩⟩⟩⟩⟩⟩⟩⟩⟩⟩⟩⟩⟩⟩⟩⟩⟩⟩⟩⟩⟩⟩⟩⟩⟩⟩⟩⟩⟩⟩⟩⟩⟩⟩⟩⟩⟩⟩⟩⟩⟩⟩⟩⟩⟩⟩⟩⟩⟩⟩⟩⟩⟩⟩⟩⟩⟩⟩⟩⟩⟩⟩⟩⟩⟩⟩⟩⟩⟩⟩⟩⟩⟩⟩⟩⟩⟩⟩⟩⟩⟩⟩⟩⟩⟩⟩⟩⟩⟩⟩⟩⟩⟩⟩⟩⟩⟩⟩⟩⟩⟩⟩⟩
end
section
/-- what holds of method number mid (the law's own entry aside) -/
def xMok (mid : Nat) : Prop := ∀ (M : xM) (y : MethodName) (b : ByteArray) (rt : Option FieldType), xprog[mid]? = some M → xmeta[mid]? = some (y, b, rt) →
  Cond.code y b M.2.2.2.1 rt ∈ gw ∧ y.cls = xcn M.1 ∧ plainName y.cls = true ∧ (y.cls ≠ "java/lang/invoke/MethodHandle" ∧ y.cls ≠ "java/lang/invoke/VarHandle") ∧ Cond.initialized y.cls ∈ gw ∧
  (match M.2.1 with
    | 0 => rt = none
    | 1 => rt = some .int
    | 2 => rt = some .boolean
    | 3 => rt = some .long
    | _ => ∃ r, rt = some r ∧ ((∃ n, r = .object n) ∨ ∃ t, r = .array t)) ∧
  (match M.2.2.1 with
    | 0 => M.1 < 10 ∧ Cond.instanceMethod y ∈ gw ∧ Cond.selects y.cls y y ∈ gw
    | 1 => Cond.static y ∈ gw
    | _ => M.1 < 10 ∧ M.2.2.1 = 2 ∧ Cond.instanceMethod y ∈ gw ∧ y.name = "<init>" ∧ rt = none) ∧ M.2.2.2.1 ≤ 12
theorem mk_0 : xMok 0 := fun M y b rt h1 h2 => by cases h1; cases h2; exact ⟨gm1 141 rfl rfl, rfl, by decide, by decide, gm1 6 rfl rfl, rfl, ⟨by decide, rfl, gm1 140 rfl rfl, rfl, rfl⟩, by decide⟩
theorem mk_1 : xMok 1 := fun M y b rt h1 h2 => by cases h1; cases h2; exact ⟨gm2 212 rfl rfl, rfl, by decide, by decide, gm1 6 rfl rfl, rfl, ⟨by decide, gm2 210 rfl rfl, gm2 211 rfl rfl⟩, by decide⟩
theorem mk_2 : xMok 2 := fun M y b rt h1 h2 => by cases h1; cases h2; exact ⟨gm4 56 rfl rfl, rfl, by decide, by decide, gm1 6 rfl rfl, rfl, ⟨by decide, gm4 54 rfl rfl, gm4 55 rfl rfl⟩, by decide⟩
theorem mk_3 : xMok 3 := fun M y b rt h1 h2 => by cases h1; cases h2; exact ⟨gm4 100 rfl rfl, rfl, by decide, by decide, gm1 6 rfl rfl, rfl, ⟨by decide, gm4 98 rfl rfl, gm4 99 rfl rfl⟩, by decide⟩
theorem mk_4 : xMok 4 := fun M y b rt h1 h2 => by cases h1; cases h2; exact ⟨gm4 104 rfl rfl, rfl, by decide, by decide, gm1 6 rfl rfl, ⟨_, rfl, Or.inl ⟨_, rfl⟩⟩, ⟨by decide, gm4 103 rfl rfl, gp2 8 rfl⟩, by decide⟩
theorem mk_5 : xMok 5 := fun M y b rt h1 h2 => by cases h1; cases h2; exact ⟨gm4 108 rfl rfl, rfl, by decide, by decide, gm1 6 rfl rfl, rfl, ⟨by decide, gm4 106 rfl rfl, gm4 107 rfl rfl⟩, by decide⟩
theorem mk_6 : xMok 6 := fun M y b rt h1 h2 => by cases h1; cases h2; exact ⟨gm4 148 rfl rfl, rfl, by decide, by decide, gm1 6 rfl rfl, rfl, ⟨by decide, gm4 146 rfl rfl, gm4 147 rfl rfl⟩, by decide⟩
theorem mk_7 : xMok 7 := fun M y b rt h1 h2 => by cases h1; cases h2; exact ⟨gm5 54 rfl rfl, rfl, by decide, by decide, gm1 18 rfl rfl, rfl, ⟨by decide, rfl, gm5 53 rfl rfl, rfl, rfl⟩, by decide⟩
theorem mk_8 : xMok 8 := fun M y b rt h1 h2 => by cases h1; cases h2; exact ⟨gm1 37 rfl rfl, rfl, by decide, by decide, gm1 3 rfl rfl, rfl, ⟨by decide, rfl, gm1 36 rfl rfl, rfl, rfl⟩, by decide⟩
theorem mk_9 : xMok 9 := fun M y b rt h1 h2 => by cases h1; cases h2; exact ⟨gm4 36 rfl rfl, rfl, by decide, by decide, gm1 3 rfl rfl, rfl, ⟨by decide, gm4 34 rfl rfl, gm4 35 rfl rfl⟩, by decide⟩
theorem mk_10 : xMok 10 := fun M y b rt h1 h2 => by cases h1; cases h2; exact ⟨gm2 71 rfl rfl, rfl, by decide, by decide, gm1 3 rfl rfl, rfl, ⟨by decide, gm2 69 rfl rfl, gm2 70 rfl rfl⟩, by decide⟩
theorem mk_11 : xMok 11 := fun M y b rt h1 h2 => by cases h1; cases h2; exact ⟨gm2 78 rfl rfl, rfl, by decide, by decide, gm1 3 rfl rfl, rfl, ⟨by decide, gm2 76 rfl rfl, gm2 77 rfl rfl⟩, by decide⟩
theorem mk_12 : xMok 12 := fun M y b rt h1 h2 => by cases h1; cases h2; exact ⟨gm2 164 rfl rfl, rfl, by decide, by decide, gm1 3 rfl rfl, rfl, ⟨by decide, gm2 162 rfl rfl, gm2 163 rfl rfl⟩, by decide⟩
theorem mk_13 : xMok 13 := fun M y b rt h1 h2 => by cases h1; cases h2; exact ⟨gm3 49 rfl rfl, rfl, by decide, by decide, gm1 3 rfl rfl, rfl, ⟨by decide, gm3 47 rfl rfl, gm3 48 rfl rfl⟩, by decide⟩
theorem mk_14 : xMok 14 := fun M y b rt h1 h2 => by cases h1; cases h2; exact ⟨gm2 82 rfl rfl, rfl, by decide, by decide, gm1 3 rfl rfl, rfl, ⟨by decide, gm2 80 rfl rfl, gm2 81 rfl rfl⟩, by decide⟩
theorem mk_15 : xMok 15 := fun M y b rt h1 h2 => by cases h1; cases h2; exact ⟨gm2 137 rfl rfl, rfl, by decide, by decide, gm1 3 rfl rfl, rfl, ⟨by decide, gm2 135 rfl rfl, gm2 136 rfl rfl⟩, by decide⟩
theorem mk_16 : xMok 16 := fun M y b rt h1 h2 => by cases h1; cases h2; exact ⟨gm2 141 rfl rfl, rfl, by decide, by decide, gm1 3 rfl rfl, rfl, ⟨by decide, gm2 139 rfl rfl, gm2 140 rfl rfl⟩, by decide⟩
theorem mk_17 : xMok 17 := fun M y b rt h1 h2 => by cases h1; cases h2; exact ⟨gm3 5 rfl rfl, rfl, by decide, by decide, gm1 3 rfl rfl, rfl, ⟨by decide, gm3 3 rfl rfl, gm3 4 rfl rfl⟩, by decide⟩
theorem mk_18 : xMok 18 := fun M y b rt h1 h2 => by cases h1; cases h2; exact ⟨gm2 4 rfl rfl, rfl, by decide, by decide, gm1 3 rfl rfl, rfl, ⟨by decide, gm2 2 rfl rfl, gm2 3 rfl rfl⟩, by decide⟩
theorem mk_19 : xMok 19 := fun M y b rt h1 h2 => by cases h1; cases h2; exact ⟨gm3 53 rfl rfl, rfl, by decide, by decide, gm1 3 rfl rfl, rfl, ⟨by decide, gm3 51 rfl rfl, gm3 52 rfl rfl⟩, by decide⟩
theorem mk_20 : xMok 20 := fun M y b rt h1 h2 => by cases h1; cases h2; exact ⟨gm2 133 rfl rfl, rfl, by decide, by decide, gm1 3 rfl rfl, rfl, ⟨by decide, gm2 131 rfl rfl, gm2 132 rfl rfl⟩, by decide⟩
theorem mk_21 : xMok 21 := fun M y b rt h1 h2 => by cases h1; cases h2; exact ⟨gm3 63 rfl rfl, rfl, by decide, by decide, gm1 3 rfl rfl, rfl, ⟨by decide, gm3 61 rfl rfl, gm3 62 rfl rfl⟩, by decide⟩
theorem mk_22 : xMok 22 := fun M y b rt h1 h2 => by cases h1; cases h2; exact ⟨gm3 67 rfl rfl, rfl, by decide, by decide, gm1 3 rfl rfl, rfl, ⟨by decide, gm3 65 rfl rfl, gm3 66 rfl rfl⟩, by decide⟩
theorem mk_23 : xMok 23 := fun M y b rt h1 h2 => by cases h1; cases h2; exact ⟨gm3 37 rfl rfl, rfl, by decide, by decide, gm1 3 rfl rfl, rfl, ⟨by decide, gm3 35 rfl rfl, gm3 36 rfl rfl⟩, by decide⟩
theorem mk_24 : xMok 24 := fun M y b rt h1 h2 => by cases h1; cases h2; exact ⟨gm3 45 rfl rfl, rfl, by decide, by decide, gm1 3 rfl rfl, rfl, ⟨by decide, gm3 43 rfl rfl, gm3 44 rfl rfl⟩, by decide⟩
theorem mk_25 : xMok 25 := fun M y b rt h1 h2 => by cases h1; cases h2; exact ⟨gm4 75 rfl rfl, rfl, by decide, by decide, gm1 3 rfl rfl, rfl, ⟨by decide, gm4 73 rfl rfl, gm4 74 rfl rfl⟩, by decide⟩
theorem mk_26 : xMok 26 := fun M y b rt h1 h2 => by cases h1; cases h2; exact ⟨gm1 84 rfl rfl, rfl, by decide, by decide, gm1 4 rfl rfl, rfl, ⟨by decide, rfl, gm1 83 rfl rfl, rfl, rfl⟩, by decide⟩
theorem mk_27 : xMok 27 := fun M y b rt h1 h2 => by cases h1; cases h2; exact ⟨gm5 78 rfl rfl, rfl, by decide, by decide, gm1 4 rfl rfl, rfl, ⟨by decide, gm5 76 rfl rfl, gm5 77 rfl rfl⟩, by decide⟩
theorem mk_28 : xMok 28 := fun M y b rt h1 h2 => by cases h1; cases h2; exact ⟨gm2 120 rfl rfl, rfl, by decide, by decide, gm1 4 rfl rfl, rfl, gm2 119 rfl rfl, by decide⟩
theorem mk_29 : xMok 29 := fun M y b rt h1 h2 => by cases h1; cases h2; exact ⟨gm2 117 rfl rfl, rfl, by decide, by decide, gm1 4 rfl rfl, rfl, ⟨by decide, gm2 115 rfl rfl, gm2 116 rfl rfl⟩, by decide⟩
theorem mk_30 : xMok 30 := fun M y b rt h1 h2 => by cases h1; cases h2; exact ⟨gm4 23 rfl rfl, rfl, by decide, by decide, gm1 4 rfl rfl, rfl, ⟨by decide, gm4 21 rfl rfl, gm4 22 rfl rfl⟩, by decide⟩
theorem mk_31 : xMok 31 := fun M y b rt h1 h2 => by cases h1; cases h2; exact ⟨gm2 154 rfl rfl, rfl, by decide, by decide, gm1 4 rfl rfl, ⟨_, rfl, Or.inl ⟨_, rfl⟩⟩, ⟨by decide, gm2 152 rfl rfl, gm2 153 rfl rfl⟩, by decide⟩
theorem mk_32 : xMok 32 := fun M y b rt h1 h2 => by cases h1; cases h2; exact ⟨gm2 159 rfl rfl, rfl, by decide, by decide, gm1 4 rfl rfl, rfl, ⟨by decide, gm2 157 rfl rfl, gm2 158 rfl rfl⟩, by decide⟩
theorem mk_33 : xMok 33 := fun M y b rt h1 h2 => by cases h1; cases h2; exact ⟨gm3 13 rfl rfl, rfl, by decide, by decide, gm1 4 rfl rfl, rfl, ⟨by decide, gm3 11 rfl rfl, gm3 12 rfl rfl⟩, by decide⟩
theorem mk_34 : xMok 34 := fun M y b rt h1 h2 => by cases h1; cases h2; exact ⟨gm2 150 rfl rfl, rfl, by decide, by decide, gm1 4 rfl rfl, rfl, ⟨by decide, gm2 148 rfl rfl, gm2 149 rfl rfl⟩, by decide⟩
theorem mk_35 : xMok 35 := fun M y b rt h1 h2 => by cases h1; cases h2; exact ⟨gm1 124 rfl rfl, rfl, by decide, by decide, gm1 5 rfl rfl, rfl, ⟨by decide, rfl, gm1 123 rfl rfl, rfl, rfl⟩, by decide⟩
theorem mk_36 : xMok 36 := fun M y b rt h1 h2 => by cases h1; cases h2; exact ⟨gm5 82 rfl rfl, rfl, by decide, by decide, gm1 5 rfl rfl, rfl, ⟨by decide, gm5 80 rfl rfl, gm5 81 rfl rfl⟩, by decide⟩
theorem mk_37 : xMok 37 := fun M y b rt h1 h2 => by cases h1; cases h2; exact ⟨gm4 218 rfl rfl, rfl, by decide, by decide, gm1 5 rfl rfl, rfl, ⟨by decide, gm4 216 rfl rfl, gm4 217 rfl rfl⟩, by decide⟩
theorem mk_38 : xMok 38 := fun M y b rt h1 h2 => by cases h1; cases h2; exact ⟨gm4 230 rfl rfl, rfl, by decide, by decide, gm1 5 rfl rfl, rfl, ⟨by decide, gm4 228 rfl rfl, gm4 229 rfl rfl⟩, by decide⟩
theorem mk_39 : xMok 39 := fun M y b rt h1 h2 => by cases h1; cases h2; exact ⟨gm4 235 rfl rfl, rfl, by decide, by decide, gm1 5 rfl rfl, rfl, ⟨by decide, gm4 234 rfl rfl, gp2 11 rfl⟩, by decide⟩
theorem mk_40 : xMok 40 := fun M y b rt h1 h2 => by cases h1; cases h2; exact ⟨gm1 31 rfl rfl, rfl, by decide, by decide, gm1 2 rfl rfl, rfl, ⟨by decide, rfl, gm1 30 rfl rfl, rfl, rfl⟩, by decide⟩
theorem mk_41 : xMok 41 := fun M y b rt h1 h2 => by cases h1; cases h2; exact ⟨gm2 0 rfl rfl, rfl, by decide, by decide, gm1 2 rfl rfl, rfl, ⟨by decide, gm1 238 rfl rfl, gm1 239 rfl rfl⟩, by decide⟩
theorem mk_42 : xMok 42 := fun M y b rt h1 h2 => by cases h1; cases h2; exact ⟨gm4 32 rfl rfl, rfl, by decide, by decide, gm1 2 rfl rfl, rfl, ⟨by decide, gm4 30 rfl rfl, gm4 31 rfl rfl⟩, by decide⟩
theorem mk_43 : xMok 43 := fun M y b rt h1 h2 => by cases h1; cases h2; exact ⟨gm2 106 rfl rfl, rfl, by decide, by decide, gm1 2 rfl rfl, rfl, ⟨by decide, gm2 104 rfl rfl, gm2 105 rfl rfl⟩, by decide⟩
theorem mk_44 : xMok 44 := fun M y b rt h1 h2 => by cases h1; cases h2; exact ⟨gm2 199 rfl rfl, rfl, by decide, by decide, gm1 2 rfl rfl, rfl, ⟨by decide, gm2 197 rfl rfl, gm2 198 rfl rfl⟩, by decide⟩
theorem mk_45 : xMok 45 := fun M y b rt h1 h2 => by cases h1; cases h2; exact ⟨gm2 128 rfl rfl, rfl, by decide, by decide, gm1 2 rfl rfl, rfl, ⟨by decide, gm2 126 rfl rfl, gm2 127 rfl rfl⟩, by decide⟩
theorem mk_46 : xMok 46 := fun M y b rt h1 h2 => by cases h1; cases h2; exact ⟨gm2 124 rfl rfl, rfl, by decide, by decide, gm1 2 rfl rfl, rfl, ⟨by decide, gm2 122 rfl rfl, gm2 123 rfl rfl⟩, by decide⟩
theorem mk_47 : xMok 47 := fun M y b rt h1 h2 => by cases h1; cases h2; exact ⟨gm2 146 rfl rfl, rfl, by decide, by decide, gm1 2 rfl rfl, rfl, ⟨by decide, gm2 144 rfl rfl, gm2 145 rfl rfl⟩, by decide⟩
theorem mk_48 : xMok 48 := fun M y b rt h1 h2 => by cases h1; cases h2; exact ⟨gm3 0 rfl rfl, rfl, by decide, by decide, gm1 2 rfl rfl, rfl, ⟨by decide, gm2 238 rfl rfl, gm2 239 rfl rfl⟩, by decide⟩
theorem mk_49 : xMok 49 := fun M y b rt h1 h2 => by cases h1; cases h2; exact ⟨gm3 31 rfl rfl, rfl, by decide, by decide, gm1 2 rfl rfl, rfl, ⟨by decide, gm3 29 rfl rfl, gm3 30 rfl rfl⟩, by decide⟩
theorem mk_50 : xMok 50 := fun M y b rt h1 h2 => by cases h1; cases h2; exact ⟨gm3 41 rfl rfl, rfl, by decide, by decide, gm1 2 rfl rfl, rfl, ⟨by decide, gm3 39 rfl rfl, gm3 40 rfl rfl⟩, by decide⟩
theorem mk_51 : xMok 51 := fun M y b rt h1 h2 => by cases h1; cases h2; exact ⟨gm3 72 rfl rfl, rfl, by decide, by decide, gm1 2 rfl rfl, rfl, ⟨by decide, gm3 70 rfl rfl, gm3 71 rfl rfl⟩, by decide⟩
theorem mk_52 : xMok 52 := fun M y b rt h1 h2 => by cases h1; cases h2; exact ⟨gm4 62 rfl rfl, rfl, by decide, by decide, gm1 2 rfl rfl, rfl, ⟨by decide, gm4 60 rfl rfl, gm4 61 rfl rfl⟩, by decide⟩
theorem mk_53 : xMok 53 := fun M y b rt h1 h2 => by cases h1; cases h2; exact ⟨gm4 66 rfl rfl, rfl, by decide, by decide, gm1 2 rfl rfl, rfl, ⟨by decide, gm4 64 rfl rfl, gm4 65 rfl rfl⟩, by decide⟩
theorem mk_54 : xMok 54 := fun M y b rt h1 h2 => by cases h1; cases h2; exact ⟨gm4 71 rfl rfl, rfl, by decide, by decide, gm1 2 rfl rfl, rfl, ⟨by decide, gm4 69 rfl rfl, gm4 70 rfl rfl⟩, by decide⟩
theorem mk_55 : xMok 55 := fun M y b rt h1 h2 => by cases h1; cases h2; exact ⟨gm3 9 rfl rfl, rfl, by decide, by decide, gm1 2 rfl rfl, rfl, ⟨by decide, gm3 7 rfl rfl, gm3 8 rfl rfl⟩, by decide⟩
theorem mk_56 : xMok 56 := fun M y b rt h1 h2 => by cases h1; cases h2; exact ⟨gm2 98 rfl rfl, rfl, by decide, by decide, gm1 2 rfl rfl, rfl, ⟨by decide, gm2 96 rfl rfl, gm2 97 rfl rfl⟩, by decide⟩
theorem mk_57 : xMok 57 := fun M y b rt h1 h2 => by cases h1; cases h2; exact ⟨gm3 22 rfl rfl, rfl, by decide, by decide, gm1 2 rfl rfl, rfl, ⟨by decide, gm3 20 rfl rfl, gm3 21 rfl rfl⟩, by decide⟩
theorem mk_58 : xMok 58 := fun M y b rt h1 h2 => by cases h1; cases h2; exact ⟨gm2 94 rfl rfl, rfl, by decide, by decide, gm1 2 rfl rfl, rfl, ⟨by decide, gm2 92 rfl rfl, gm2 93 rfl rfl⟩, by decide⟩
theorem mk_59 : xMok 59 := fun M y b rt h1 h2 => by cases h1; cases h2; exact ⟨gm4 210 rfl rfl, rfl, by decide, by decide, gm1 2 rfl rfl, rfl, ⟨by decide, gm4 208 rfl rfl, gm4 209 rfl rfl⟩, by decide⟩
theorem mk_60 : xMok 60 := fun M y b rt h1 h2 => by cases h1; cases h2; exact ⟨gm4 81 rfl rfl, rfl, by decide, by decide, gm1 2 rfl rfl, rfl, ⟨by decide, gm4 79 rfl rfl, gm4 80 rfl rfl⟩, by decide⟩
theorem mk_61 : xMok 61 := fun M y b rt h1 h2 => by cases h1; cases h2; exact ⟨gm4 85 rfl rfl, rfl, by decide, by decide, gm1 2 rfl rfl, rfl, ⟨by decide, gm4 83 rfl rfl, gm4 84 rfl rfl⟩, by decide⟩
theorem mk_62 : xMok 62 := fun M y b rt h1 h2 => by cases h1; cases h2; exact ⟨gm4 90 rfl rfl, rfl, by decide, by decide, gm1 2 rfl rfl, rfl, ⟨by decide, gm4 88 rfl rfl, gm4 89 rfl rfl⟩, by decide⟩
theorem mk_63 : xMok 63 := fun M y b rt h1 h2 => by cases h1; cases h2; exact ⟨gm4 95 rfl rfl, rfl, by decide, by decide, gm1 2 rfl rfl, rfl, ⟨by decide, gm4 93 rfl rfl, gm4 94 rfl rfl⟩, by decide⟩
theorem mk_64 : xMok 64 := fun M y b rt h1 h2 => by cases h1; cases h2; exact ⟨gm4 164 rfl rfl, rfl, by decide, by decide, gm1 2 rfl rfl, rfl, ⟨by decide, gm4 162 rfl rfl, gm4 163 rfl rfl⟩, by decide⟩
theorem mk_65 : xMok 65 := fun M y b rt h1 h2 => by cases h1; cases h2; exact ⟨gm4 173 rfl rfl, rfl, by decide, by decide, gm1 2 rfl rfl, rfl, ⟨by decide, gm4 171 rfl rfl, gm4 172 rfl rfl⟩, by decide⟩
theorem mk_66 : xMok 66 := fun M y b rt h1 h2 => by cases h1; cases h2; exact ⟨gm4 182 rfl rfl, rfl, by decide, by decide, gm1 2 rfl rfl, rfl, ⟨by decide, gm4 180 rfl rfl, gm4 181 rfl rfl⟩, by decide⟩
theorem mk_67 : xMok 67 := fun M y b rt h1 h2 => by cases h1; cases h2; exact ⟨gm4 201 rfl rfl, rfl, by decide, by decide, gm1 2 rfl rfl, rfl, ⟨by decide, gm4 199 rfl rfl, gm4 200 rfl rfl⟩, by decide⟩
theorem mk_68 : xMok 68 := fun M y b rt h1 h2 => by cases h1; cases h2; exact ⟨gm1 165 rfl rfl, rfl, by decide, by decide, gm1 7 rfl rfl, rfl, ⟨by decide, rfl, gm1 164 rfl rfl, rfl, rfl⟩, by decide⟩
theorem mk_69 : xMok 69 := fun M y b rt h1 h2 => by cases h1; cases h2; exact ⟨gm2 224 rfl rfl, rfl, by decide, by decide, gm1 7 rfl rfl, rfl, ⟨by decide, gm2 222 rfl rfl, gm2 223 rfl rfl⟩, by decide⟩
theorem mk_70 : xMok 70 := fun M y b rt h1 h2 => by cases h1; cases h2; exact ⟨gm2 236 rfl rfl, rfl, by decide, by decide, gm1 7 rfl rfl, rfl, ⟨by decide, gm2 234 rfl rfl, gm2 235 rfl rfl⟩, by decide⟩
theorem mk_71 : xMok 71 := fun M y b rt h1 h2 => by cases h1; cases h2; exact ⟨gm3 85 rfl rfl, rfl, by decide, by decide, gm1 7 rfl rfl, rfl, ⟨by decide, gm3 83 rfl rfl, gm3 84 rfl rfl⟩, by decide⟩
theorem mk_72 : xMok 72 := fun M y b rt h1 h2 => by cases h1; cases h2; exact ⟨gm3 93 rfl rfl, rfl, by decide, by decide, gm1 7 rfl rfl, rfl, ⟨by decide, gm3 92 rfl rfl, gp1 4 rfl⟩, by decide⟩
theorem mk_73 : xMok 73 := fun M y b rt h1 h2 => by cases h1; cases h2; exact ⟨gm3 115 rfl rfl, rfl, by decide, by decide, gm1 7 rfl rfl, rfl, ⟨by decide, gm3 114 rfl rfl, gp1 8 rfl⟩, by decide⟩
theorem mk_74 : xMok 74 := fun M y b rt h1 h2 => by cases h1; cases h2; exact ⟨gm3 111 rfl rfl, rfl, by decide, by decide, gm1 7 rfl rfl, rfl, ⟨by decide, gm3 110 rfl rfl, gp1 7 rfl⟩, by decide⟩
theorem mk_75 : xMok 75 := fun M y b rt h1 h2 => by cases h1; cases h2; exact ⟨gm3 183 rfl rfl, rfl, by decide, by decide, gm1 7 rfl rfl, rfl, ⟨by decide, gm3 182 rfl rfl, gp1 13 rfl⟩, by decide⟩
theorem mk_76 : xMok 76 := fun M y b rt h1 h2 => by cases h1; cases h2; exact ⟨gm3 98 rfl rfl, rfl, by decide, by decide, gm1 7 rfl rfl, rfl, ⟨by decide, gm3 97 rfl rfl, gp1 5 rfl⟩, by decide⟩
theorem mk_77 : xMok 77 := fun M y b rt h1 h2 => by cases h1; cases h2; exact ⟨gm3 221 rfl rfl, rfl, by decide, by decide, gm1 7 rfl rfl, rfl, ⟨by decide, gm3 220 rfl rfl, gp2 1 rfl⟩, by decide⟩
theorem mk_78 : xMok 78 := fun M y b rt h1 h2 => by cases h1; cases h2; exact ⟨gm3 106 rfl rfl, rfl, by decide, by decide, gm1 7 rfl rfl, rfl, ⟨by decide, gm3 105 rfl rfl, gp1 6 rfl⟩, by decide⟩
theorem mk_79 : xMok 79 := fun M y b rt h1 h2 => by cases h1; cases h2; exact ⟨gm3 167 rfl rfl, rfl, by decide, by decide, gm1 7 rfl rfl, rfl, ⟨by decide, gm3 166 rfl rfl, gp1 9 rfl⟩, by decide⟩
theorem mk_80 : xMok 80 := fun M y b rt h1 h2 => by cases h1; cases h2; exact ⟨gm3 228 rfl rfl, rfl, by decide, by decide, gm1 7 rfl rfl, rfl, ⟨by decide, gm3 227 rfl rfl, gp2 2 rfl⟩, by decide⟩
theorem mk_81 : xMok 81 := fun M y b rt h1 h2 => by cases h1; cases h2; exact ⟨gm3 232 rfl rfl, rfl, by decide, by decide, gm1 7 rfl rfl, rfl, ⟨by decide, gm3 231 rfl rfl, gp2 3 rfl⟩, by decide⟩
theorem mk_82 : xMok 82 := fun M y b rt h1 h2 => by cases h1; cases h2; exact ⟨gm3 236 rfl rfl, rfl, by decide, by decide, gm1 7 rfl rfl, rfl, ⟨by decide, gm3 235 rfl rfl, gp2 4 rfl⟩, by decide⟩
theorem mk_83 : xMok 83 := fun M y b rt h1 h2 => by cases h1; cases h2; exact ⟨gm3 171 rfl rfl, rfl, by decide, by decide, gm1 7 rfl rfl, rfl, ⟨by decide, gm3 170 rfl rfl, gp1 10 rfl⟩, by decide⟩
theorem mk_84 : xMok 84 := fun M y b rt h1 h2 => by cases h1; cases h2; exact ⟨gm3 175 rfl rfl, rfl, by decide, by decide, gm1 7 rfl rfl, rfl, ⟨by decide, gm3 174 rfl rfl, gp1 11 rfl⟩, by decide⟩
theorem mk_85 : xMok 85 := fun M y b rt h1 h2 => by cases h1; cases h2; exact ⟨gm3 179 rfl rfl, rfl, by decide, by decide, gm1 7 rfl rfl, rfl, ⟨by decide, gm3 178 rfl rfl, gp1 12 rfl⟩, by decide⟩
theorem mk_86 : xMok 86 := fun M y b rt h1 h2 => by cases h1; cases h2; exact ⟨gm3 192 rfl rfl, rfl, by decide, by decide, gm1 7 rfl rfl, rfl, ⟨by decide, gm3 191 rfl rfl, gp1 14 rfl⟩, by decide⟩
theorem mk_87 : xMok 87 := fun M y b rt h1 h2 => by cases h1; cases h2; exact ⟨gm3 207 rfl rfl, rfl, by decide, by decide, gm1 7 rfl rfl, rfl, ⟨by decide, gm3 206 rfl rfl, gp2 0 rfl⟩, by decide⟩
theorem mk_88 : xMok 88 := fun M y b rt h1 h2 => by cases h1; cases h2; exact ⟨gm3 197 rfl rfl, rfl, by decide, by decide, gm1 7 rfl rfl, rfl, ⟨by decide, gm3 196 rfl rfl, gp1 15 rfl⟩, by decide⟩
theorem mk_89 : xMok 89 := fun M y b rt h1 h2 => by cases h1; cases h2; exact ⟨gm1 171 rfl rfl, rfl, by decide, by decide, gm1 8 rfl rfl, rfl, ⟨by decide, rfl, gm1 170 rfl rfl, rfl, rfl⟩, by decide⟩
theorem mk_90 : xMok 90 := fun M y b rt h1 h2 => by cases h1; cases h2; exact ⟨gm4 7 rfl rfl, rfl, by decide, by decide, gm1 8 rfl rfl, rfl, ⟨by decide, rfl, gm4 6 rfl rfl, rfl, rfl⟩, by decide⟩
theorem mk_91 : xMok 91 := fun M y b rt h1 h2 => by cases h1; cases h2; exact ⟨gm3 89 rfl rfl, rfl, by decide, by decide, gm1 8 rfl rfl, rfl, ⟨by decide, gm3 87 rfl rfl, gm3 88 rfl rfl⟩, by decide⟩
theorem mk_92 : xMok 92 := fun M y b rt h1 h2 => by cases h1; cases h2; exact ⟨gm2 169 rfl rfl, rfl, by decide, by decide, gm1 8 rfl rfl, rfl, ⟨by decide, gm2 167 rfl rfl, gm2 168 rfl rfl⟩, by decide⟩
theorem mk_93 : xMok 93 := fun M y b rt h1 h2 => by cases h1; cases h2; exact ⟨gm3 102 rfl rfl, rfl, by decide, by decide, gm1 8 rfl rfl, rfl, ⟨by decide, gm3 100 rfl rfl, gm3 101 rfl rfl⟩, by decide⟩
theorem mk_94 : xMok 94 := fun M y b rt h1 h2 => by cases h1; cases h2; exact ⟨gm3 187 rfl rfl, rfl, by decide, by decide, gm1 8 rfl rfl, rfl, ⟨by decide, gm3 185 rfl rfl, gm3 186 rfl rfl⟩, by decide⟩
theorem mk_95 : xMok 95 := fun M y b rt h1 h2 => by cases h1; cases h2; exact ⟨gm4 2 rfl rfl, rfl, by decide, by decide, gm1 8 rfl rfl, rfl, ⟨by decide, gm4 0 rfl rfl, gm4 1 rfl rfl⟩, by decide⟩
theorem mk_96 : xMok 96 := fun M y b rt h1 h2 => by cases h1; cases h2; exact ⟨gm2 173 rfl rfl, rfl, by decide, by decide, gm1 8 rfl rfl, rfl, ⟨by decide, gm2 171 rfl rfl, gm2 172 rfl rfl⟩, by decide⟩
theorem mk_97 : xMok 97 := fun M y b rt h1 h2 => by cases h1; cases h2; exact ⟨gm2 181 rfl rfl, rfl, by decide, by decide, gm1 8 rfl rfl, rfl, gm2 180 rfl rfl, by decide⟩
theorem mk_98 : xMok 98 := fun M y b rt h1 h2 => by cases h1; cases h2; exact ⟨gm1 23 rfl rfl, rfl, by decide, by decide, gm1 1 rfl rfl, rfl, ⟨by decide, rfl, gm1 22 rfl rfl, rfl, rfl⟩, by decide⟩
theorem mk_99 : xMok 99 := fun M y b rt h1 h2 => by cases h1; cases h2; exact ⟨gm2 67 rfl rfl, rfl, by decide, by decide, gm1 1 rfl rfl, rfl, ⟨by decide, gm2 65 rfl rfl, gm2 66 rfl rfl⟩, by decide⟩
theorem mk_100 : xMok 100 := fun M y b rt h1 h2 => by cases h1; cases h2; exact ⟨gm2 86 rfl rfl, rfl, by decide, by decide, gm1 1 rfl rfl, rfl, ⟨by decide, gm2 84 rfl rfl, gm2 85 rfl rfl⟩, by decide⟩
theorem mk_101 : xMok 101 := fun M y b rt h1 h2 => by cases h1; cases h2; exact ⟨gm2 90 rfl rfl, rfl, by decide, by decide, gm1 1 rfl rfl, rfl, ⟨by decide, gm2 88 rfl rfl, gm2 89 rfl rfl⟩, by decide⟩
theorem mk_102 : xMok 102 := fun M y b rt h1 h2 => by cases h1; cases h2; exact ⟨gm2 102 rfl rfl, rfl, by decide, by decide, gm1 1 rfl rfl, rfl, ⟨by decide, gm2 100 rfl rfl, gm2 101 rfl rfl⟩, by decide⟩
theorem mk_103 : xMok 103 := fun M y b rt h1 h2 => by cases h1; cases h2; exact ⟨gm2 110 rfl rfl, rfl, by decide, by decide, gm1 1 rfl rfl, rfl, ⟨by decide, gm2 108 rfl rfl, gm2 109 rfl rfl⟩, by decide⟩
theorem mk_104 : xMok 104 := fun M y b rt h1 h2 => by cases h1; cases h2; exact ⟨gm2 188 rfl rfl, rfl, by decide, by decide, gm1 1 rfl rfl, rfl, ⟨by decide, gm2 186 rfl rfl, gm2 187 rfl rfl⟩, by decide⟩
theorem mk_105 : xMok 105 := fun M y b rt h1 h2 => by cases h1; cases h2; exact ⟨gm2 220 rfl rfl, rfl, by decide, by decide, gm1 1 rfl rfl, rfl, ⟨by decide, gm2 218 rfl rfl, gm2 219 rfl rfl⟩, by decide⟩
theorem mk_106 : xMok 106 := fun M y b rt h1 h2 => by cases h1; cases h2; exact ⟨gm2 228 rfl rfl, rfl, by decide, by decide, gm1 1 rfl rfl, rfl, ⟨by decide, gm2 226 rfl rfl, gm2 227 rfl rfl⟩, by decide⟩
theorem mk_107 : xMok 107 := fun M y b rt h1 h2 => by cases h1; cases h2; exact ⟨gm2 232 rfl rfl, rfl, by decide, by decide, gm1 1 rfl rfl, rfl, ⟨by decide, gm2 230 rfl rfl, gm2 231 rfl rfl⟩, by decide⟩
theorem mk_108 : xMok 108 := fun M y b rt h1 h2 => by cases h1; cases h2; exact ⟨gm3 77 rfl rfl, rfl, by decide, by decide, gm1 1 rfl rfl, rfl, ⟨by decide, gm3 75 rfl rfl, gm3 76 rfl rfl⟩, by decide⟩
theorem mk_109 : xMok 109 := fun M y b rt h1 h2 => by cases h1; cases h2; exact ⟨gm3 81 rfl rfl, rfl, by decide, by decide, gm1 1 rfl rfl, rfl, ⟨by decide, gm3 79 rfl rfl, gm3 80 rfl rfl⟩, by decide⟩
theorem mk_110 : xMok 110 := fun M y b rt h1 h2 => by cases h1; cases h2; exact ⟨gm4 28 rfl rfl, rfl, by decide, by decide, gm1 1 rfl rfl, rfl, ⟨by decide, gm4 26 rfl rfl, gm4 27 rfl rfl⟩, by decide⟩
theorem mk_111 : xMok 111 := fun M y b rt h1 h2 => by cases h1; cases h2; exact ⟨gm4 112 rfl rfl, rfl, by decide, by decide, gm1 1 rfl rfl, rfl, ⟨by decide, gm4 110 rfl rfl, gm4 111 rfl rfl⟩, by decide⟩
theorem mk_112 : xMok 112 := fun M y b rt h1 h2 => by cases h1; cases h2; exact ⟨gm4 116 rfl rfl, rfl, by decide, by decide, gm1 1 rfl rfl, rfl, ⟨by decide, gm4 114 rfl rfl, gm4 115 rfl rfl⟩, by decide⟩
theorem mk_113 : xMok 113 := fun M y b rt h1 h2 => by cases h1; cases h2; exact ⟨gm4 120 rfl rfl, rfl, by decide, by decide, gm1 1 rfl rfl, rfl, ⟨by decide, gm4 118 rfl rfl, gm4 119 rfl rfl⟩, by decide⟩
theorem mk_114 : xMok 114 := fun M y b rt h1 h2 => by cases h1; cases h2; exact ⟨gm4 124 rfl rfl, rfl, by decide, by decide, gm1 1 rfl rfl, rfl, ⟨by decide, gm4 122 rfl rfl, gm4 123 rfl rfl⟩, by decide⟩
theorem mk_115 : xMok 115 := fun M y b rt h1 h2 => by cases h1; cases h2; exact ⟨gm4 132 rfl rfl, rfl, by decide, by decide, gm1 1 rfl rfl, rfl, ⟨by decide, gm4 130 rfl rfl, gm4 131 rfl rfl⟩, by decide⟩
theorem mk_116 : xMok 116 := fun M y b rt h1 h2 => by cases h1; cases h2; exact ⟨gm4 136 rfl rfl, rfl, by decide, by decide, gm1 1 rfl rfl, rfl, ⟨by decide, gm4 134 rfl rfl, gm4 135 rfl rfl⟩, by decide⟩
theorem mk_117 : xMok 117 := fun M y b rt h1 h2 => by cases h1; cases h2; exact ⟨gm4 140 rfl rfl, rfl, by decide, by decide, gm1 1 rfl rfl, rfl, ⟨by decide, gm4 138 rfl rfl, gm4 139 rfl rfl⟩, by decide⟩
theorem mk_118 : xMok 118 := fun M y b rt h1 h2 => by cases h1; cases h2; exact ⟨gm4 144 rfl rfl, rfl, by decide, by decide, gm1 1 rfl rfl, rfl, ⟨by decide, gm4 142 rfl rfl, gm4 143 rfl rfl⟩, by decide⟩
theorem mk_119 : xMok 119 := fun M y b rt h1 h2 => by cases h1; cases h2; exact ⟨gm4 152 rfl rfl, rfl, by decide, by decide, gm1 1 rfl rfl, rfl, ⟨by decide, gm4 150 rfl rfl, gm4 151 rfl rfl⟩, by decide⟩
theorem mk_120 : xMok 120 := fun M y b rt h1 h2 => by cases h1; cases h2; exact ⟨gm4 160 rfl rfl, rfl, by decide, by decide, gm1 1 rfl rfl, rfl, ⟨by decide, gm4 158 rfl rfl, gm4 159 rfl rfl⟩, by decide⟩
theorem mk_121 : xMok 121 := fun M y b rt h1 h2 => by cases h1; cases h2; exact ⟨gm4 169 rfl rfl, rfl, by decide, by decide, gm1 1 rfl rfl, rfl, ⟨by decide, gm4 167 rfl rfl, gm4 168 rfl rfl⟩, by decide⟩
theorem mk_122 : xMok 122 := fun M y b rt h1 h2 => by cases h1; cases h2; exact ⟨gm4 178 rfl rfl, rfl, by decide, by decide, gm1 1 rfl rfl, rfl, ⟨by decide, gm4 176 rfl rfl, gm4 177 rfl rfl⟩, by decide⟩
theorem mk_123 : xMok 123 := fun M y b rt h1 h2 => by cases h1; cases h2; exact ⟨gm4 186 rfl rfl, rfl, by decide, by decide, gm1 1 rfl rfl, rfl, ⟨by decide, gm4 184 rfl rfl, gm4 185 rfl rfl⟩, by decide⟩
theorem mk_124 : xMok 124 := fun M y b rt h1 h2 => by cases h1; cases h2; exact ⟨gm4 191 rfl rfl, rfl, by decide, by decide, gm1 1 rfl rfl, rfl, ⟨by decide, gm4 189 rfl rfl, gm4 190 rfl rfl⟩, by decide⟩
theorem mk_125 : xMok 125 := fun M y b rt h1 h2 => by cases h1; cases h2; exact ⟨gm4 197 rfl rfl, rfl, by decide, by decide, gm1 1 rfl rfl, rfl, ⟨by decide, gm4 195 rfl rfl, gm4 196 rfl rfl⟩, by decide⟩
theorem mk_126 : xMok 126 := fun M y b rt h1 h2 => by cases h1; cases h2; exact ⟨gm4 206 rfl rfl, rfl, by decide, by decide, gm1 1 rfl rfl, rfl, ⟨by decide, gm4 204 rfl rfl, gm4 205 rfl rfl⟩, by decide⟩
theorem mk_127 : xMok 127 := fun M y b rt h1 h2 => by cases h1; cases h2; exact ⟨gm4 214 rfl rfl, rfl, by decide, by decide, gm1 1 rfl rfl, rfl, ⟨by decide, gm4 212 rfl rfl, gm4 213 rfl rfl⟩, by decide⟩
theorem mk_128 : xMok 128 := fun M y b rt h1 h2 => by cases h1; cases h2; exact ⟨gm4 222 rfl rfl, rfl, by decide, by decide, gm1 1 rfl rfl, rfl, ⟨by decide, gm4 220 rfl rfl, gm4 221 rfl rfl⟩, by decide⟩
theorem mk_129 : xMok 129 := fun M y b rt h1 h2 => by cases h1; cases h2; exact ⟨gm4 226 rfl rfl, rfl, by decide, by decide, gm1 1 rfl rfl, rfl, ⟨by decide, gm4 224 rfl rfl, gm4 225 rfl rfl⟩, by decide⟩
theorem mk_130 : xMok 130 := fun M y b rt h1 h2 => by cases h1; cases h2; exact ⟨gm5 0 rfl rfl, rfl, by decide, by decide, gm1 1 rfl rfl, rfl, ⟨by decide, gm4 238 rfl rfl, gm4 239 rfl rfl⟩, by decide⟩
theorem mk_131 : xMok 131 := fun M y b rt h1 h2 => by cases h1; cases h2; exact ⟨gm5 11 rfl rfl, rfl, by decide, by decide, gm1 1 rfl rfl, rfl, ⟨by decide, gm5 9 rfl rfl, gm5 10 rfl rfl⟩, by decide⟩
theorem mk_132 : xMok 132 := fun M y b rt h1 h2 => by cases h1; cases h2; exact ⟨gm5 25 rfl rfl, rfl, by decide, by decide, gm1 1 rfl rfl, rfl, ⟨by decide, gm5 23 rfl rfl, gm5 24 rfl rfl⟩, by decide⟩
theorem mk_133 : xMok 133 := fun M y b rt h1 h2 => by cases h1; cases h2; exact ⟨gm5 30 rfl rfl, rfl, by decide, by decide, gm1 1 rfl rfl, rfl, ⟨by decide, gm5 28 rfl rfl, gm5 29 rfl rfl⟩, by decide⟩
theorem mk_134 : xMok 134 := fun M y b rt h1 h2 => by cases h1; cases h2; exact ⟨gm5 46 rfl rfl, rfl, by decide, by decide, gm1 1 rfl rfl, rfl, ⟨by decide, gm5 44 rfl rfl, gm5 45 rfl rfl⟩, by decide⟩
theorem mk_135 : xMok 135 := fun M y b rt h1 h2 => by cases h1; cases h2; exact ⟨gm5 50 rfl rfl, rfl, by decide, by decide, gm1 1 rfl rfl, rfl, ⟨by decide, gm5 48 rfl rfl, gm5 49 rfl rfl⟩, by decide⟩
theorem mk_136 : xMok 136 := fun M y b rt h1 h2 => by cases h1; cases h2; exact ⟨gm5 87 rfl rfl, rfl, by decide, by decide, gm1 1 rfl rfl, rfl, ⟨by decide, gm5 85 rfl rfl, gm5 86 rfl rfl⟩, by decide⟩
theorem mk_137 : xMok 137 := fun M y b rt h1 h2 => by cases h1; cases h2; exact ⟨gm5 91 rfl rfl, rfl, by decide, by decide, gm1 1 rfl rfl, rfl, ⟨by decide, gm5 89 rfl rfl, gm5 90 rfl rfl⟩, by decide⟩
theorem mk_138 : xMok 138 := fun M y b rt h1 h2 => by cases h1; cases h2; exact ⟨gm5 95 rfl rfl, rfl, by decide, by decide, gm1 1 rfl rfl, rfl, ⟨by decide, gm5 93 rfl rfl, gm5 94 rfl rfl⟩, by decide⟩
theorem mk_139 : xMok 139 := fun M y b rt h1 h2 => by cases h1; cases h2; exact ⟨gm2 113 rfl rfl, rfl, by decide, by decide, gm1 1 rfl rfl, rfl, gm2 112 rfl rfl, by decide⟩
theorem mk_140 : xMok 140 := fun M y b rt h1 h2 => by cases h1; cases h2; exact ⟨gm2 74 rfl rfl, rfl, by decide, by decide, gm1 1 rfl rfl, rfl, gm2 73 rfl rfl, by decide⟩
theorem mk_141 : xMok 141 := fun M y b rt h1 h2 => by cases h1; cases h2; exact ⟨gm2 195 rfl rfl, rfl, by decide, by decide, gm1 1 rfl rfl, rfl, ⟨by decide, gm2 194 rfl rfl, gp1 0 rfl⟩, by decide⟩
theorem mk_142 : xMok 142 := fun M y b rt h1 h2 => by cases h1; cases h2; exact ⟨gm2 216 rfl rfl, rfl, by decide, by decide, gm1 1 rfl rfl, rfl, ⟨by decide, gm2 215 rfl rfl, gp1 3 rfl⟩, by decide⟩
theorem mk_143 : xMok 143 := fun M y b rt h1 h2 => by cases h1; cases h2; exact ⟨gm4 128 rfl rfl, rfl, by decide, by decide, gm1 1 rfl rfl, rfl, ⟨by decide, gm4 127 rfl rfl, gp2 9 rfl⟩, by decide⟩
theorem mk_144 : xMok 144 := fun M y b rt h1 h2 => by cases h1; cases h2; exact ⟨gm2 191 rfl rfl, rfl, by decide, by decide, gm1 1 rfl rfl, rfl, gm2 190 rfl rfl, by decide⟩
theorem mk_145 : xMok 145 := fun M y b rt h1 h2 => by cases h1; cases h2; exact ⟨gm2 204 rfl rfl, rfl, by decide, by decide, gm1 1 rfl rfl, rfl, ⟨by decide, gm2 203 rfl rfl, gp1 1 rfl⟩, by decide⟩
theorem mk_146 : xMok 146 := fun M y b rt h1 h2 => by cases h1; cases h2; exact ⟨gm2 208 rfl rfl, rfl, by decide, by decide, gm1 1 rfl rfl, rfl, ⟨by decide, gm2 207 rfl rfl, gp1 2 rfl⟩, by decide⟩
theorem mk_147 : xMok 147 := fun M y b rt h1 h2 => by cases h1; cases h2; exact ⟨gm4 52 rfl rfl, rfl, by decide, by decide, gm1 1 rfl rfl, rfl, ⟨by decide, gm4 51 rfl rfl, gp2 7 rfl⟩, by decide⟩
theorem mk_148 : xMok 148 := fun M y b rt h1 h2 => by cases h1; cases h2; exact ⟨gm4 41 rfl rfl, rfl, by decide, by decide, gm1 1 rfl rfl, rfl, ⟨by decide, gm4 40 rfl rfl, gp2 5 rfl⟩, by decide⟩
theorem mk_149 : xMok 149 := fun M y b rt h1 h2 => by cases h1; cases h2; exact ⟨gm4 46 rfl rfl, rfl, by decide, by decide, gm1 1 rfl rfl, rfl, ⟨by decide, gm4 45 rfl rfl, gp2 6 rfl⟩, by decide⟩
theorem mk_150 : xMok 150 := fun M y b rt h1 h2 => by cases h1; cases h2; exact ⟨gm4 156 rfl rfl, rfl, by decide, by decide, gm1 1 rfl rfl, rfl, ⟨by decide, gm4 155 rfl rfl, gp2 10 rfl⟩, by decide⟩
theorem mk_151 : xMok 151 := fun M y b rt h1 h2 => by cases h1; cases h2; exact ⟨gm5 20 rfl rfl, rfl, by decide, by decide, gm1 1 rfl rfl, rfl, ⟨by decide, gm5 19 rfl rfl, gp2 12 rfl⟩, by decide⟩
theorem mk_152 : xMok 152 := fun M y b rt h1 h2 => by cases h1; cases h2; exact ⟨gm5 34 rfl rfl, rfl, by decide, by decide, gm1 1 rfl rfl, rfl, gm5 33 rfl rfl, by decide⟩
theorem mk_153 : xMok 153 := fun M y b rt h1 h2 => by cases h1; cases h2; exact ⟨gm5 41 rfl rfl, rfl, by decide, by decide, gm1 1 rfl rfl, rfl, ⟨by decide, gm5 40 rfl rfl, gp2 13 rfl⟩, by decide⟩
theorem mk_154 : xMok 154 := fun M y b rt h1 h2 => by cases h1; cases h2; exact ⟨gm6 8 rfl rfl, rfl, by decide, by decide, gm1 10 rfl rfl, rfl, gm6 7 rfl rfl, by decide⟩
theorem mk_155 : xMok 155 := fun M y b rt h1 h2 => by cases h1; cases h2; exact ⟨gm6 190 rfl rfl, rfl, by decide, by decide, gm1 10 rfl rfl, rfl, gm6 189 rfl rfl, by decide⟩
theorem mk_156 : xMok 156 := fun M y b rt h1 h2 => by cases h1; cases h2; exact ⟨gm7 151 rfl rfl, rfl, by decide, by decide, gm1 10 rfl rfl, rfl, gm7 150 rfl rfl, by decide⟩
theorem mk_157 : xMok 157 := fun M y b rt h1 h2 => by cases h1; cases h2; exact ⟨gm6 12 rfl rfl, rfl, by decide, by decide, gm1 10 rfl rfl, rfl, ⟨by decide, gm6 11 rfl rfl, gp2 14 rfl⟩, by decide⟩
theorem mk_158 : xMok 158 := fun M y b rt h1 h2 => by cases h1; cases h2; exact ⟨gm6 16 rfl rfl, rfl, by decide, by decide, gm1 10 rfl rfl, rfl, ⟨by decide, gm6 15 rfl rfl, gp2 15 rfl⟩, by decide⟩
theorem mk_159 : xMok 159 := fun M y b rt h1 h2 => by cases h1; cases h2; exact ⟨gm6 24 rfl rfl, rfl, by decide, by decide, gm1 10 rfl rfl, rfl, ⟨by decide, gm6 23 rfl rfl, gp3 0 rfl⟩, by decide⟩
theorem mk_160 : xMok 160 := fun M y b rt h1 h2 => by cases h1; cases h2; exact ⟨gm6 209 rfl rfl, rfl, by decide, by decide, gm1 10 rfl rfl, rfl, gm6 208 rfl rfl, by decide⟩
theorem mk_161 : xMok 161 := fun M y b rt h1 h2 => by cases h1; cases h2; exact ⟨gm8 12 rfl rfl, rfl, by decide, by decide, gm1 10 rfl rfl, rfl, gm8 11 rfl rfl, by decide⟩
theorem mk_162 : xMok 162 := fun M y b rt h1 h2 => by cases h1; cases h2; exact ⟨gm6 31 rfl rfl, rfl, by decide, by decide, gm1 10 rfl rfl, rfl, gm6 30 rfl rfl, by decide⟩
theorem mk_163 : xMok 163 := fun M y b rt h1 h2 => by cases h1; cases h2; exact ⟨gm6 71 rfl rfl, rfl, by decide, by decide, gm1 10 rfl rfl, rfl, gm6 70 rfl rfl, by decide⟩
theorem mk_164 : xMok 164 := fun M y b rt h1 h2 => by cases h1; cases h2; exact ⟨gm5 100 rfl rfl, rfl, by decide, by decide, gm1 10 rfl rfl, rfl, ⟨by decide, rfl, gm5 99 rfl rfl, rfl, rfl⟩, by decide⟩
theorem mk_165 : xMok 165 := fun M y b rt h1 h2 => by cases h1; cases h2; exact ⟨gm6 194 rfl rfl, rfl, by decide, by decide, gm1 10 rfl rfl, rfl, ⟨by decide, gm6 193 rfl rfl, gp4 12 rfl⟩, by decide⟩
theorem mk_166 : xMok 166 := fun M y b rt h1 h2 => by cases h1; cases h2; exact ⟨gm6 221 rfl rfl, rfl, by decide, by decide, gm1 10 rfl rfl, rfl, ⟨by decide, gm6 220 rfl rfl, gp5 2 rfl⟩, by decide⟩
theorem mk_167 : xMok 167 := fun M y b rt h1 h2 => by cases h1; cases h2; exact ⟨gm6 5 rfl rfl, rfl, by decide, by decide, gm1 10 rfl rfl, rfl, ⟨by decide, gm6 3 rfl rfl, gm6 4 rfl rfl⟩, by decide⟩
theorem mk_168 : xMok 168 := fun M y b rt h1 h2 => by cases h1; cases h2; exact ⟨gm6 20 rfl rfl, rfl, by decide, by decide, gm1 10 rfl rfl, rfl, ⟨by decide, gm6 18 rfl rfl, gm6 19 rfl rfl⟩, by decide⟩
theorem mk_169 : xMok 169 := fun M y b rt h1 h2 => by cases h1; cases h2; exact ⟨gm6 34 rfl rfl, rfl, by decide, by decide, gm1 10 rfl rfl, rfl, gm6 33 rfl rfl, by decide⟩
theorem mk_170 : xMok 170 := fun M y b rt h1 h2 => by cases h1; cases h2; exact ⟨gm6 61 rfl rfl, rfl, by decide, by decide, gm1 10 rfl rfl, rfl, ⟨by decide, gm6 60 rfl rfl, gp3 3 rfl⟩, by decide⟩
theorem mk_171 : xMok 171 := fun M y b rt h1 h2 => by cases h1; cases h2; exact ⟨gm7 208 rfl rfl, rfl, by decide, by decide, gm1 10 rfl rfl, rfl, ⟨by decide, gm7 207 rfl rfl, gp7 8 rfl⟩, by decide⟩
theorem mk_172 : xMok 172 := fun M y b rt h1 h2 => by cases h1; cases h2; exact ⟨gm6 130 rfl rfl, rfl, by decide, by decide, gm1 10 rfl rfl, rfl, ⟨by decide, gm6 129 rfl rfl, gp4 1 rfl⟩, by decide⟩
theorem mk_173 : xMok 173 := fun M y b rt h1 h2 => by cases h1; cases h2; exact ⟨gm6 64 rfl rfl, rfl, by decide, by decide, gm1 10 rfl rfl, rfl, gm6 63 rfl rfl, by decide⟩
theorem mk_174 : xMok 174 := fun M y b rt h1 h2 => by cases h1; cases h2; exact ⟨gm6 75 rfl rfl, rfl, by decide, by decide, gm1 10 rfl rfl, rfl, ⟨by decide, gm6 74 rfl rfl, gp3 4 rfl⟩, by decide⟩
theorem mk_175 : xMok 175 := fun M y b rt h1 h2 => by cases h1; cases h2; exact ⟨gm6 57 rfl rfl, rfl, by decide, by decide, gm1 10 rfl rfl, rfl, ⟨by decide, gm6 56 rfl rfl, gp3 2 rfl⟩, by decide⟩
theorem mk_176 : xMok 176 := fun M y b rt h1 h2 => by cases h1; cases h2; exact ⟨gm6 87 rfl rfl, rfl, by decide, by decide, gm1 10 rfl rfl, rfl, ⟨by decide, gm6 86 rfl rfl, gp3 7 rfl⟩, by decide⟩
theorem mk_177 : xMok 177 := fun M y b rt h1 h2 => by cases h1; cases h2; exact ⟨gm6 83 rfl rfl, rfl, by decide, by decide, gm1 10 rfl rfl, rfl, ⟨by decide, gm6 82 rfl rfl, gp3 6 rfl⟩, by decide⟩
theorem mk_178 : xMok 178 := fun M y b rt h1 h2 => by cases h1; cases h2; exact ⟨gm6 79 rfl rfl, rfl, by decide, by decide, gm1 10 rfl rfl, rfl, ⟨by decide, gm6 78 rfl rfl, gp3 5 rfl⟩, by decide⟩
theorem mk_179 : xMok 179 := fun M y b rt h1 h2 => by cases h1; cases h2; exact ⟨gm6 38 rfl rfl, rfl, by decide, by decide, gm1 10 rfl rfl, rfl, ⟨by decide, gm6 37 rfl rfl, gp3 1 rfl⟩, by decide⟩
theorem mk_180 : xMok 180 := fun M y b rt h1 h2 => by cases h1; cases h2; exact ⟨gm6 28 rfl rfl, rfl, by decide, by decide, gm1 10 rfl rfl, rfl, ⟨by decide, gm6 26 rfl rfl, gm6 27 rfl rfl⟩, by decide⟩
theorem mk_181 : xMok 181 := fun M y b rt h1 h2 => by cases h1; cases h2; exact ⟨gm6 42 rfl rfl, rfl, by decide, by decide, gm1 10 rfl rfl, rfl, ⟨by decide, gm6 40 rfl rfl, gm6 41 rfl rfl⟩, by decide⟩
theorem mk_182 : xMok 182 := fun M y b rt h1 h2 => by cases h1; cases h2; exact ⟨gm6 49 rfl rfl, rfl, by decide, by decide, gm1 10 rfl rfl, rfl, gm6 48 rfl rfl, by decide⟩
theorem mk_183 : xMok 183 := fun M y b rt h1 h2 => by cases h1; cases h2; exact ⟨gm6 46 rfl rfl, rfl, by decide, by decide, gm1 10 rfl rfl, rfl, ⟨by decide, gm6 44 rfl rfl, gm6 45 rfl rfl⟩, by decide⟩
theorem mk_184 : xMok 184 := fun M y b rt h1 h2 => by cases h1; cases h2; exact ⟨gm6 53 rfl rfl, rfl, by decide, by decide, gm1 10 rfl rfl, rfl, ⟨by decide, gm6 51 rfl rfl, gm6 52 rfl rfl⟩, by decide⟩
theorem mk_185 : xMok 185 := fun M y b rt h1 h2 => by cases h1; cases h2; exact ⟨gm6 68 rfl rfl, rfl, by decide, by decide, gm1 10 rfl rfl, rfl, ⟨by decide, gm6 66 rfl rfl, gm6 67 rfl rfl⟩, by decide⟩
theorem mk_186 : xMok 186 := fun M y b rt h1 h2 => by cases h1; cases h2; exact ⟨gm6 160 rfl rfl, rfl, by decide, by decide, gm1 10 rfl rfl, rfl, gm6 159 rfl rfl, by decide⟩
theorem mk_187 : xMok 187 := fun M y b rt h1 h2 => by cases h1; cases h2; exact ⟨gm6 163 rfl rfl, rfl, by decide, by decide, gm1 10 rfl rfl, rfl, gm6 162 rfl rfl, by decide⟩
theorem mk_188 : xMok 188 := fun M y b rt h1 h2 => by cases h1; cases h2; exact ⟨gm6 157 rfl rfl, rfl, by decide, by decide, gm1 10 rfl rfl, rfl, ⟨by decide, gm6 155 rfl rfl, gm6 156 rfl rfl⟩, by decide⟩
theorem mk_189 : xMok 189 := fun M y b rt h1 h2 => by cases h1; cases h2; exact ⟨gm6 167 rfl rfl, rfl, by decide, by decide, gm1 10 rfl rfl, rfl, ⟨by decide, gm6 165 rfl rfl, gm6 166 rfl rfl⟩, by decide⟩
theorem mk_190 : xMok 190 := fun M y b rt h1 h2 => by cases h1; cases h2; exact ⟨gm6 225 rfl rfl, rfl, by decide, by decide, gm1 10 rfl rfl, rfl, ⟨by decide, gm6 223 rfl rfl, gm6 224 rfl rfl⟩, by decide⟩
theorem mk_191 : xMok 191 := fun M y b rt h1 h2 => by cases h1; cases h2; exact ⟨gm6 229 rfl rfl, rfl, by decide, by decide, gm1 10 rfl rfl, rfl, ⟨by decide, gm6 227 rfl rfl, gm6 228 rfl rfl⟩, by decide⟩
theorem mk_192 : xMok 192 := fun M y b rt h1 h2 => by cases h1; cases h2; exact ⟨gm6 233 rfl rfl, rfl, by decide, by decide, gm1 10 rfl rfl, rfl, ⟨by decide, gm6 231 rfl rfl, gm6 232 rfl rfl⟩, by decide⟩
theorem mk_193 : xMok 193 := fun M y b rt h1 h2 => by cases h1; cases h2; exact ⟨gm7 12 rfl rfl, rfl, by decide, by decide, gm1 10 rfl rfl, rfl, gm7 11 rfl rfl, by decide⟩
theorem mk_194 : xMok 194 := fun M y b rt h1 h2 => by cases h1; cases h2; exact ⟨gm7 15 rfl rfl, rfl, by decide, by decide, gm1 10 rfl rfl, rfl, gm7 14 rfl rfl, by decide⟩
theorem mk_195 : xMok 195 := fun M y b rt h1 h2 => by cases h1; cases h2; exact ⟨gm7 19 rfl rfl, rfl, by decide, by decide, gm1 10 rfl rfl, rfl, ⟨by decide, gm7 18 rfl rfl, gp5 6 rfl⟩, by decide⟩
theorem mk_196 : xMok 196 := fun M y b rt h1 h2 => by cases h1; cases h2; exact ⟨gm7 9 rfl rfl, rfl, by decide, by decide, gm1 10 rfl rfl, rfl, ⟨by decide, gm7 8 rfl rfl, gp5 5 rfl⟩, by decide⟩
theorem mk_197 : xMok 197 := fun M y b rt h1 h2 => by cases h1; cases h2; exact ⟨gm7 36 rfl rfl, rfl, by decide, by decide, gm1 10 rfl rfl, rfl, ⟨by decide, gm7 35 rfl rfl, gp5 10 rfl⟩, by decide⟩
theorem mk_198 : xMok 198 := fun M y b rt h1 h2 => by cases h1; cases h2; exact ⟨gm7 52 rfl rfl, rfl, by decide, by decide, gm1 10 rfl rfl, rfl, ⟨by decide, gm7 51 rfl rfl, gp5 14 rfl⟩, by decide⟩
theorem mk_199 : xMok 199 := fun M y b rt h1 h2 => by cases h1; cases h2; exact ⟨gm7 32 rfl rfl, rfl, by decide, by decide, gm1 10 rfl rfl, rfl, ⟨by decide, gm7 31 rfl rfl, gp5 9 rfl⟩, by decide⟩
theorem mk_200 : xMok 200 := fun M y b rt h1 h2 => by cases h1; cases h2; exact ⟨gm7 56 rfl rfl, rfl, by decide, by decide, gm1 10 rfl rfl, rfl, ⟨by decide, gm7 55 rfl rfl, gp5 15 rfl⟩, by decide⟩
theorem mk_201 : xMok 201 := fun M y b rt h1 h2 => by cases h1; cases h2; exact ⟨gm7 60 rfl rfl, rfl, by decide, by decide, gm1 10 rfl rfl, rfl, ⟨by decide, gm7 59 rfl rfl, gp6 0 rfl⟩, by decide⟩
theorem mk_202 : xMok 202 := fun M y b rt h1 h2 => by cases h1; cases h2; exact ⟨gm6 118 rfl rfl, rfl, by decide, by decide, gm1 10 rfl rfl, rfl, gm6 117 rfl rfl, by decide⟩
theorem mk_203 : xMok 203 := fun M y b rt h1 h2 => by cases h1; cases h2; exact ⟨gm7 64 rfl rfl, rfl, by decide, by decide, gm1 10 rfl rfl, rfl, ⟨by decide, gm7 63 rfl rfl, gp6 1 rfl⟩, by decide⟩
theorem mk_204 : xMok 204 := fun M y b rt h1 h2 => by cases h1; cases h2; exact ⟨gm7 80 rfl rfl, rfl, by decide, by decide, gm1 10 rfl rfl, rfl, ⟨by decide, gm7 79 rfl rfl, gp6 5 rfl⟩, by decide⟩
theorem mk_205 : xMok 205 := fun M y b rt h1 h2 => by cases h1; cases h2; exact ⟨gm7 28 rfl rfl, rfl, by decide, by decide, gm1 10 rfl rfl, rfl, ⟨by decide, gm7 27 rfl rfl, gp5 8 rfl⟩, by decide⟩
theorem mk_206 : xMok 206 := fun M y b rt h1 h2 => by cases h1; cases h2; exact ⟨gm7 24 rfl rfl, rfl, by decide, by decide, gm1 10 rfl rfl, rfl, ⟨by decide, gm7 23 rfl rfl, gp5 7 rfl⟩, by decide⟩
theorem mk_207 : xMok 207 := fun M y b rt h1 h2 => by cases h1; cases h2; exact ⟨gm7 68 rfl rfl, rfl, by decide, by decide, gm1 10 rfl rfl, rfl, ⟨by decide, gm7 67 rfl rfl, gp6 2 rfl⟩, by decide⟩
theorem mk_208 : xMok 208 := fun M y b rt h1 h2 => by cases h1; cases h2; exact ⟨gm7 72 rfl rfl, rfl, by decide, by decide, gm1 10 rfl rfl, rfl, ⟨by decide, gm7 71 rfl rfl, gp6 3 rfl⟩, by decide⟩
theorem mk_209 : xMok 209 := fun M y b rt h1 h2 => by cases h1; cases h2; exact ⟨gm7 76 rfl rfl, rfl, by decide, by decide, gm1 10 rfl rfl, rfl, ⟨by decide, gm7 75 rfl rfl, gp6 4 rfl⟩, by decide⟩
theorem mk_210 : xMok 210 := fun M y b rt h1 h2 => by cases h1; cases h2; exact ⟨gm7 40 rfl rfl, rfl, by decide, by decide, gm1 10 rfl rfl, rfl, ⟨by decide, gm7 39 rfl rfl, gp5 11 rfl⟩, by decide⟩
theorem mk_211 : xMok 211 := fun M y b rt h1 h2 => by cases h1; cases h2; exact ⟨gm7 44 rfl rfl, rfl, by decide, by decide, gm1 10 rfl rfl, rfl, ⟨by decide, gm7 43 rfl rfl, gp5 12 rfl⟩, by decide⟩
theorem mk_212 : xMok 212 := fun M y b rt h1 h2 => by cases h1; cases h2; exact ⟨gm7 48 rfl rfl, rfl, by decide, by decide, gm1 10 rfl rfl, rfl, ⟨by decide, gm7 47 rfl rfl, gp5 13 rfl⟩, by decide⟩
theorem mk_213 : xMok 213 := fun M y b rt h1 h2 => by cases h1; cases h2; exact ⟨gm7 5 rfl rfl, rfl, by decide, by decide, gm1 10 rfl rfl, rfl, ⟨by decide, gm7 4 rfl rfl, gp5 4 rfl⟩, by decide⟩
theorem mk_214 : xMok 214 := fun M y b rt h1 h2 => by cases h1; cases h2; exact ⟨gm7 1 rfl rfl, rfl, by decide, by decide, gm1 10 rfl rfl, rfl, ⟨by decide, gm7 0 rfl rfl, gp5 3 rfl⟩, by decide⟩
theorem mk_215 : xMok 215 := fun M y b rt h1 h2 => by cases h1; cases h2; exact ⟨gm7 84 rfl rfl, rfl, by decide, by decide, gm1 10 rfl rfl, rfl, ⟨by decide, gm7 83 rfl rfl, gp6 6 rfl⟩, by decide⟩
theorem mk_216 : xMok 216 := fun M y b rt h1 h2 => by cases h1; cases h2; exact ⟨gm6 237 rfl rfl, rfl, by decide, by decide, gm1 10 rfl rfl, rfl, ⟨by decide, gm6 235 rfl rfl, gm6 236 rfl rfl⟩, by decide⟩
theorem mk_217 : xMok 217 := fun M y b rt h1 h2 => by cases h1; cases h2; exact ⟨gm7 88 rfl rfl, rfl, by decide, by decide, gm1 10 rfl rfl, rfl, ⟨by decide, gm7 86 rfl rfl, gm7 87 rfl rfl⟩, by decide⟩
theorem mk_218 : xMok 218 := fun M y b rt h1 h2 => by cases h1; cases h2; exact ⟨gm7 96 rfl rfl, rfl, by decide, by decide, gm1 10 rfl rfl, rfl, ⟨by decide, gm7 95 rfl rfl, gp6 7 rfl⟩, by decide⟩
theorem mk_219 : xMok 219 := fun M y b rt h1 h2 => by cases h1; cases h2; exact ⟨gm7 92 rfl rfl, rfl, by decide, by decide, gm1 10 rfl rfl, rfl, ⟨by decide, gm7 90 rfl rfl, gm7 91 rfl rfl⟩, by decide⟩
theorem mk_220 : xMok 220 := fun M y b rt h1 h2 => by cases h1; cases h2; exact ⟨gm6 103 rfl rfl, rfl, by decide, by decide, gm1 10 rfl rfl, rfl, ⟨by decide, gm6 102 rfl rfl, gp3 11 rfl⟩, by decide⟩
theorem mk_221 : xMok 221 := fun M y b rt h1 h2 => by cases h1; cases h2; exact ⟨gm6 122 rfl rfl, rfl, by decide, by decide, gm1 10 rfl rfl, rfl, ⟨by decide, gm6 121 rfl rfl, gp3 15 rfl⟩, by decide⟩
theorem mk_222 : xMok 222 := fun M y b rt h1 h2 => by cases h1; cases h2; exact ⟨gm6 134 rfl rfl, rfl, by decide, by decide, gm1 10 rfl rfl, rfl, ⟨by decide, gm6 133 rfl rfl, gp4 2 rfl⟩, by decide⟩
theorem mk_223 : xMok 223 := fun M y b rt h1 h2 => by cases h1; cases h2; exact ⟨gm6 107 rfl rfl, rfl, by decide, by decide, gm1 10 rfl rfl, rfl, ⟨by decide, gm6 106 rfl rfl, gp3 12 rfl⟩, by decide⟩
theorem mk_224 : xMok 224 := fun M y b rt h1 h2 => by cases h1; cases h2; exact ⟨gm6 111 rfl rfl, rfl, by decide, by decide, gm1 10 rfl rfl, rfl, ⟨by decide, gm6 110 rfl rfl, gp3 13 rfl⟩, by decide⟩
theorem mk_225 : xMok 225 := fun M y b rt h1 h2 => by cases h1; cases h2; exact ⟨gm6 115 rfl rfl, rfl, by decide, by decide, gm1 10 rfl rfl, rfl, ⟨by decide, gm6 114 rfl rfl, gp3 14 rfl⟩, by decide⟩
theorem mk_226 : xMok 226 := fun M y b rt h1 h2 => by cases h1; cases h2; exact ⟨gm6 126 rfl rfl, rfl, by decide, by decide, gm1 10 rfl rfl, rfl, ⟨by decide, gm6 125 rfl rfl, gp4 0 rfl⟩, by decide⟩
theorem mk_227 : xMok 227 := fun M y b rt h1 h2 => by cases h1; cases h2; exact ⟨gm6 140 rfl rfl, rfl, by decide, by decide, gm1 10 rfl rfl, rfl, ⟨by decide, gm6 139 rfl rfl, gp4 3 rfl⟩, by decide⟩
theorem mk_228 : xMok 228 := fun M y b rt h1 h2 => by cases h1; cases h2; exact ⟨gm6 144 rfl rfl, rfl, by decide, by decide, gm1 10 rfl rfl, rfl, ⟨by decide, gm6 143 rfl rfl, gp4 4 rfl⟩, by decide⟩
theorem mk_229 : xMok 229 := fun M y b rt h1 h2 => by cases h1; cases h2; exact ⟨gm6 148 rfl rfl, rfl, by decide, by decide, gm1 10 rfl rfl, rfl, ⟨by decide, gm6 147 rfl rfl, gp4 5 rfl⟩, by decide⟩
theorem mk_230 : xMok 230 := fun M y b rt h1 h2 => by cases h1; cases h2; exact ⟨gm6 152 rfl rfl, rfl, by decide, by decide, gm1 10 rfl rfl, rfl, ⟨by decide, gm6 151 rfl rfl, gp4 6 rfl⟩, by decide⟩
theorem mk_231 : xMok 231 := fun M y b rt h1 h2 => by cases h1; cases h2; exact ⟨gm6 95 rfl rfl, rfl, by decide, by decide, gm1 10 rfl rfl, rfl, ⟨by decide, gm6 94 rfl rfl, gp3 9 rfl⟩, by decide⟩
theorem mk_232 : xMok 232 := fun M y b rt h1 h2 => by cases h1; cases h2; exact ⟨gm6 99 rfl rfl, rfl, by decide, by decide, gm1 10 rfl rfl, rfl, ⟨by decide, gm6 98 rfl rfl, gp3 10 rfl⟩, by decide⟩
theorem mk_233 : xMok 233 := fun M y b rt h1 h2 => by cases h1; cases h2; exact ⟨gm6 187 rfl rfl, rfl, by decide, by decide, gm1 10 rfl rfl, rfl, ⟨by decide, gm6 186 rfl rfl, gp4 11 rfl⟩, by decide⟩
theorem mk_234 : xMok 234 := fun M y b rt h1 h2 => by cases h1; cases h2; exact ⟨gm6 91 rfl rfl, rfl, by decide, by decide, gm1 10 rfl rfl, rfl, ⟨by decide, gm6 90 rfl rfl, gp3 8 rfl⟩, by decide⟩
theorem mk_235 : xMok 235 := fun M y b rt h1 h2 => by cases h1; cases h2; exact ⟨gm6 183 rfl rfl, rfl, by decide, by decide, gm1 10 rfl rfl, rfl, ⟨by decide, gm6 182 rfl rfl, gp4 10 rfl⟩, by decide⟩
theorem mk_236 : xMok 236 := fun M y b rt h1 h2 => by cases h1; cases h2; exact ⟨gm6 179 rfl rfl, rfl, by decide, by decide, gm1 10 rfl rfl, rfl, ⟨by decide, gm6 178 rfl rfl, gp4 9 rfl⟩, by decide⟩
theorem mk_237 : xMok 237 := fun M y b rt h1 h2 => by cases h1; cases h2; exact ⟨gm6 175 rfl rfl, rfl, by decide, by decide, gm1 10 rfl rfl, rfl, ⟨by decide, gm6 174 rfl rfl, gp4 8 rfl⟩, by decide⟩
theorem mk_238 : xMok 238 := fun M y b rt h1 h2 => by cases h1; cases h2; exact ⟨gm6 213 rfl rfl, rfl, by decide, by decide, gm1 10 rfl rfl, rfl, ⟨by decide, gm6 212 rfl rfl, gp5 0 rfl⟩, by decide⟩
theorem mk_239 : xMok 239 := fun M y b rt h1 h2 => by cases h1; cases h2; exact ⟨gm6 217 rfl rfl, rfl, by decide, by decide, gm1 10 rfl rfl, rfl, ⟨by decide, gm6 216 rfl rfl, gp5 1 rfl⟩, by decide⟩
theorem mk_240 : xMok 240 := fun M y b rt h1 h2 => by cases h1; cases h2; exact ⟨gm6 206 rfl rfl, rfl, by decide, by decide, gm1 10 rfl rfl, rfl, ⟨by decide, gm6 205 rfl rfl, gp4 15 rfl⟩, by decide⟩
theorem mk_241 : xMok 241 := fun M y b rt h1 h2 => by cases h1; cases h2; exact ⟨gm6 202 rfl rfl, rfl, by decide, by decide, gm1 10 rfl rfl, rfl, ⟨by decide, gm6 201 rfl rfl, gp4 14 rfl⟩, by decide⟩
theorem mk_242 : xMok 242 := fun M y b rt h1 h2 => by cases h1; cases h2; exact ⟨gm6 198 rfl rfl, rfl, by decide, by decide, gm1 10 rfl rfl, rfl, ⟨by decide, gm6 197 rfl rfl, gp4 13 rfl⟩, by decide⟩
theorem mk_243 : xMok 243 := fun M y b rt h1 h2 => by cases h1; cases h2; exact ⟨gm6 171 rfl rfl, rfl, by decide, by decide, gm1 10 rfl rfl, rfl, ⟨by decide, gm6 170 rfl rfl, gp4 7 rfl⟩, by decide⟩
theorem mk_244 : xMok 244 := fun M y b rt h1 h2 => by cases h1; cases h2; exact ⟨gm7 140 rfl rfl, rfl, by decide, by decide, gm1 10 rfl rfl, rfl, ⟨by decide, gm7 139 rfl rfl, gp6 15 rfl⟩, by decide⟩
theorem mk_245 : xMok 245 := fun M y b rt h1 h2 => by cases h1; cases h2; exact ⟨gm7 136 rfl rfl, rfl, by decide, by decide, gm1 10 rfl rfl, rfl, ⟨by decide, gm7 135 rfl rfl, gp6 14 rfl⟩, by decide⟩
theorem mk_246 : xMok 246 := fun M y b rt h1 h2 => by cases h1; cases h2; exact ⟨gm7 144 rfl rfl, rfl, by decide, by decide, gm1 10 rfl rfl, rfl, ⟨by decide, gm7 143 rfl rfl, gp7 0 rfl⟩, by decide⟩
theorem mk_247 : xMok 247 := fun M y b rt h1 h2 => by cases h1; cases h2; exact ⟨gm7 148 rfl rfl, rfl, by decide, by decide, gm1 10 rfl rfl, rfl, ⟨by decide, gm7 147 rfl rfl, gp7 1 rfl⟩, by decide⟩
theorem mk_248 : xMok 248 := fun M y b rt h1 h2 => by cases h1; cases h2; exact ⟨gm7 132 rfl rfl, rfl, by decide, by decide, gm1 10 rfl rfl, rfl, ⟨by decide, gm7 131 rfl rfl, gp6 13 rfl⟩, by decide⟩
theorem mk_249 : xMok 249 := fun M y b rt h1 h2 => by cases h1; cases h2; exact ⟨gm7 175 rfl rfl, rfl, by decide, by decide, gm1 10 rfl rfl, rfl, ⟨by decide, gm7 174 rfl rfl, gp7 5 rfl⟩, by decide⟩
theorem mk_250 : xMok 250 := fun M y b rt h1 h2 => by cases h1; cases h2; exact ⟨gm7 179 rfl rfl, rfl, by decide, by decide, gm1 10 rfl rfl, rfl, ⟨by decide, gm7 178 rfl rfl, gp7 6 rfl⟩, by decide⟩
theorem mk_251 : xMok 251 := fun M y b rt h1 h2 => by cases h1; cases h2; exact ⟨gm7 171 rfl rfl, rfl, by decide, by decide, gm1 10 rfl rfl, rfl, ⟨by decide, gm7 170 rfl rfl, gp7 4 rfl⟩, by decide⟩
theorem mk_252 : xMok 252 := fun M y b rt h1 h2 => by cases h1; cases h2; exact ⟨gm7 116 rfl rfl, rfl, by decide, by decide, gm1 10 rfl rfl, rfl, ⟨by decide, gm7 115 rfl rfl, gp6 10 rfl⟩, by decide⟩
theorem mk_253 : xMok 253 := fun M y b rt h1 h2 => by cases h1; cases h2; exact ⟨gm7 100 rfl rfl, rfl, by decide, by decide, gm1 10 rfl rfl, rfl, ⟨by decide, gm7 98 rfl rfl, gm7 99 rfl rfl⟩, by decide⟩
theorem mk_254 : xMok 254 := fun M y b rt h1 h2 => by cases h1; cases h2; exact ⟨gm7 120 rfl rfl, rfl, by decide, by decide, gm1 10 rfl rfl, rfl, ⟨by decide, gm7 119 rfl rfl, gp6 11 rfl⟩, by decide⟩
theorem mk_255 : xMok 255 := fun M y b rt h1 h2 => by cases h1; cases h2; exact ⟨gm7 112 rfl rfl, rfl, by decide, by decide, gm1 10 rfl rfl, rfl, ⟨by decide, gm7 111 rfl rfl, gp6 9 rfl⟩, by decide⟩
theorem mk_256 : xMok 256 := fun M y b rt h1 h2 => by cases h1; cases h2; exact ⟨gm7 108 rfl rfl, rfl, by decide, by decide, gm1 10 rfl rfl, rfl, ⟨by decide, gm7 107 rfl rfl, gp6 8 rfl⟩, by decide⟩
theorem mk_257 : xMok 257 := fun M y b rt h1 h2 => by cases h1; cases h2; exact ⟨gm7 128 rfl rfl, rfl, by decide, by decide, gm1 10 rfl rfl, rfl, ⟨by decide, gm7 127 rfl rfl, gp6 12 rfl⟩, by decide⟩
theorem mk_258 : xMok 258 := fun M y b rt h1 h2 => by cases h1; cases h2; exact ⟨gm7 159 rfl rfl, rfl, by decide, by decide, gm1 10 rfl rfl, rfl, ⟨by decide, gm7 158 rfl rfl, gp7 2 rfl⟩, by decide⟩
theorem mk_259 : xMok 259 := fun M y b rt h1 h2 => by cases h1; cases h2; exact ⟨gm7 167 rfl rfl, rfl, by decide, by decide, gm1 10 rfl rfl, rfl, ⟨by decide, gm7 166 rfl rfl, gp7 3 rfl⟩, by decide⟩
theorem mk_260 : xMok 260 := fun M y b rt h1 h2 => by cases h1; cases h2; exact ⟨gm7 104 rfl rfl, rfl, by decide, by decide, gm1 10 rfl rfl, rfl, ⟨by decide, gm7 102 rfl rfl, gm7 103 rfl rfl⟩, by decide⟩
theorem mk_261 : xMok 261 := fun M y b rt h1 h2 => by cases h1; cases h2; exact ⟨gm7 124 rfl rfl, rfl, by decide, by decide, gm1 10 rfl rfl, rfl, ⟨by decide, gm7 122 rfl rfl, gm7 123 rfl rfl⟩, by decide⟩
theorem mk_262 : xMok 262 := fun M y b rt h1 h2 => by cases h1; cases h2; exact ⟨gm7 155 rfl rfl, rfl, by decide, by decide, gm1 10 rfl rfl, rfl, ⟨by decide, gm7 153 rfl rfl, gm7 154 rfl rfl⟩, by decide⟩
theorem mk_263 : xMok 263 := fun M y b rt h1 h2 => by cases h1; cases h2; exact ⟨gm7 163 rfl rfl, rfl, by decide, by decide, gm1 10 rfl rfl, rfl, ⟨by decide, gm7 161 rfl rfl, gm7 162 rfl rfl⟩, by decide⟩
theorem mk_264 : xMok 264 := fun M y b rt h1 h2 => by cases h1; cases h2; exact ⟨gm7 183 rfl rfl, rfl, by decide, by decide, gm1 10 rfl rfl, rfl, ⟨by decide, gm7 181 rfl rfl, gm7 182 rfl rfl⟩, by decide⟩
theorem mk_265 : xMok 265 := fun M y b rt h1 h2 => by cases h1; cases h2; exact ⟨gm7 187 rfl rfl, rfl, by decide, by decide, gm1 10 rfl rfl, rfl, ⟨by decide, gm7 185 rfl rfl, gm7 186 rfl rfl⟩, by decide⟩
theorem mk_266 : xMok 266 := fun M y b rt h1 h2 => by cases h1; cases h2; exact ⟨gm7 191 rfl rfl, rfl, by decide, by decide, gm1 10 rfl rfl, rfl, ⟨by decide, gm7 189 rfl rfl, gm7 190 rfl rfl⟩, by decide⟩
theorem mk_267 : xMok 267 := fun M y b rt h1 h2 => by cases h1; cases h2; exact ⟨gm7 200 rfl rfl, rfl, by decide, by decide, gm1 10 rfl rfl, rfl, ⟨by decide, gm7 199 rfl rfl, gp7 7 rfl⟩, by decide⟩
theorem mk_268 : xMok 268 := fun M y b rt h1 h2 => by cases h1; cases h2; exact ⟨gm7 196 rfl rfl, rfl, by decide, by decide, gm1 10 rfl rfl, rfl, ⟨by decide, gm7 194 rfl rfl, gm7 195 rfl rfl⟩, by decide⟩
theorem mk_269 : xMok 269 := fun M y b rt h1 h2 => by cases h1; cases h2; exact ⟨gm7 204 rfl rfl, rfl, by decide, by decide, gm1 10 rfl rfl, rfl, ⟨by decide, gm7 202 rfl rfl, gm7 203 rfl rfl⟩, by decide⟩
theorem mk_270 : xMok 270 := fun M y b rt h1 h2 => by cases h1; cases h2; exact ⟨gm7 212 rfl rfl, rfl, by decide, by decide, gm1 10 rfl rfl, rfl, ⟨by decide, gm7 210 rfl rfl, gm7 211 rfl rfl⟩, by decide⟩
theorem mk_271 : xMok 271 := fun M y b rt h1 h2 => by cases h1; cases h2; exact ⟨gm7 224 rfl rfl, rfl, by decide, by decide, gm1 10 rfl rfl, rfl, ⟨by decide, gm7 223 rfl rfl, gp7 10 rfl⟩, by decide⟩
theorem mk_272 : xMok 272 := fun M y b rt h1 h2 => by cases h1; cases h2; exact ⟨gm7 220 rfl rfl, rfl, by decide, by decide, gm1 10 rfl rfl, rfl, ⟨by decide, gm7 219 rfl rfl, gp7 9 rfl⟩, by decide⟩
theorem mk_273 : xMok 273 := fun M y b rt h1 h2 => by cases h1; cases h2; exact ⟨gm7 216 rfl rfl, rfl, by decide, by decide, gm1 10 rfl rfl, rfl, ⟨by decide, gm7 214 rfl rfl, gm7 215 rfl rfl⟩, by decide⟩
theorem mk_274 : xMok 274 := fun M y b rt h1 h2 => by cases h1; cases h2; exact ⟨gm7 228 rfl rfl, rfl, by decide, by decide, gm1 10 rfl rfl, rfl, ⟨by decide, gm7 226 rfl rfl, gm7 227 rfl rfl⟩, by decide⟩
theorem mk_275 : xMok 275 := fun M y b rt h1 h2 => by cases h1; cases h2; exact ⟨gm7 232 rfl rfl, rfl, by decide, by decide, gm1 10 rfl rfl, rfl, ⟨by decide, gm7 230 rfl rfl, gm7 231 rfl rfl⟩, by decide⟩
theorem mk_276 : xMok 276 := fun M y b rt h1 h2 => by cases h1; cases h2; exact ⟨gm7 236 rfl rfl, rfl, by decide, by decide, gm1 10 rfl rfl, rfl, ⟨by decide, gm7 234 rfl rfl, gm7 235 rfl rfl⟩, by decide⟩
theorem mk_277 : xMok 277 := fun M y b rt h1 h2 => by cases h1; cases h2; exact ⟨gm8 4 rfl rfl, rfl, by decide, by decide, gm1 10 rfl rfl, rfl, ⟨by decide, gm8 3 rfl rfl, gp7 11 rfl⟩, by decide⟩
theorem mk_278 : xMok 278 := fun M y b rt h1 h2 => by cases h1; cases h2; exact ⟨gm8 0 rfl rfl, rfl, by decide, by decide, gm1 10 rfl rfl, rfl, ⟨by decide, gm7 238 rfl rfl, gm7 239 rfl rfl⟩, by decide⟩
theorem mk_279 : xMok 279 := fun M y b rt h1 h2 => by cases h1; cases h2; exact ⟨gm8 8 rfl rfl, rfl, by decide, by decide, gm1 10 rfl rfl, rfl, ⟨by decide, gm8 6 rfl rfl, gm8 7 rfl rfl⟩, by decide⟩
theorem mk_280 : xMok 280 := fun M y b rt h1 h2 => by cases h1; cases h2; exact ⟨gm8 16 rfl rfl, rfl, by decide, by decide, gm1 10 rfl rfl, rfl, ⟨by decide, gm8 14 rfl rfl, gm8 15 rfl rfl⟩, by decide⟩
theorem mk_281 : xMok 281 := fun M y b rt h1 h2 => by cases h1; cases h2; exact ⟨gm8 23 rfl rfl, rfl, by decide, by decide, gm1 10 rfl rfl, rfl, ⟨by decide, gm8 21 rfl rfl, gm8 22 rfl rfl⟩, by decide⟩
theorem mk_282 : xMok 282 := fun M y b rt h1 h2 => by cases h1; cases h2; exact ⟨gm8 27 rfl rfl, rfl, by decide, by decide, gm1 10 rfl rfl, rfl, ⟨by decide, gm8 25 rfl rfl, gm8 26 rfl rfl⟩, by decide⟩
theorem mk_283 : xMok 283 := fun M y b rt h1 h2 => by cases h1; cases h2; exact ⟨gm8 31 rfl rfl, rfl, by decide, by decide, gm1 10 rfl rfl, rfl, ⟨by decide, gm8 29 rfl rfl, gm8 30 rfl rfl⟩, by decide⟩
theorem mk_284 : xMok 284 := fun M y b rt h1 h2 => by cases h1; cases h2; exact ⟨gm8 39 rfl rfl, rfl, by decide, by decide, gm1 10 rfl rfl, rfl, ⟨by decide, gm8 38 rfl rfl, gp7 13 rfl⟩, by decide⟩
theorem mk_285 : xMok 285 := fun M y b rt h1 h2 => by cases h1; cases h2; exact ⟨gm8 46 rfl rfl, rfl, by decide, by decide, gm1 10 rfl rfl, rfl, gm8 45 rfl rfl, by decide⟩
theorem mk_286 : xMok 286 := fun M y b rt h1 h2 => by cases h1; cases h2; exact ⟨gm8 43 rfl rfl, rfl, by decide, by decide, gm1 10 rfl rfl, rfl, ⟨by decide, gm8 42 rfl rfl, gp7 14 rfl⟩, by decide⟩
theorem mk_287 : xMok 287 := fun M y b rt h1 h2 => by cases h1; cases h2; exact ⟨gm8 35 rfl rfl, rfl, by decide, by decide, gm1 10 rfl rfl, rfl, ⟨by decide, gm8 34 rfl rfl, gp7 12 rfl⟩, by decide⟩
theorem mk_288 : xMok 288 := fun M y b rt h1 h2 => by cases h1; cases h2; exact ⟨gm8 59 rfl rfl, rfl, by decide, by decide, gm1 10 rfl rfl, rfl, ⟨by decide, gm8 58 rfl rfl, gp8 0 rfl⟩, by decide⟩
theorem mk_289 : xMok 289 := fun M y b rt h1 h2 => by cases h1; cases h2; exact ⟨gm8 55 rfl rfl, rfl, by decide, by decide, gm1 10 rfl rfl, rfl, ⟨by decide, gm8 54 rfl rfl, gp7 15 rfl⟩, by decide⟩
theorem mk_290 : xMok 290 := fun M y b rt h1 h2 => by cases h1; cases h2; exact ⟨gm8 51 rfl rfl, rfl, by decide, by decide, gm1 10 rfl rfl, rfl, ⟨by decide, gm8 49 rfl rfl, gm8 50 rfl rfl⟩, by decide⟩
theorem mk_291 : xMok 291 := fun M y b rt h1 h2 => by cases h1; cases h2; exact ⟨gm8 66 rfl rfl, rfl, by decide, by decide, gm1 10 rfl rfl, rfl, ⟨by decide, gm8 64 rfl rfl, gm8 65 rfl rfl⟩, by decide⟩
theorem mk_292 : xMok 292 := fun M y b rt h1 h2 => by cases h1; cases h2; exact ⟨gm8 70 rfl rfl, rfl, by decide, by decide, gm1 10 rfl rfl, rfl, ⟨by decide, gm8 68 rfl rfl, gm8 69 rfl rfl⟩, by decide⟩
theorem mk_293 : xMok 293 := fun M y b rt h1 h2 => by cases h1; cases h2; exact ⟨gm8 74 rfl rfl, rfl, by decide, by decide, gm1 10 rfl rfl, rfl, ⟨by decide, gm8 72 rfl rfl, gm8 73 rfl rfl⟩, by decide⟩
theorem mk_294 : xMok 294 := fun M y b rt h1 h2 => by cases h1; cases h2; exact ⟨gm5 3 rfl rfl, rfl, by decide, by decide, gm1 17 rfl rfl, rfl, gm5 2 rfl rfl, by decide⟩
theorem mk_295 : xMok 295 := fun M y b rt h1 h2 => by cases h1; cases h2; exact ⟨gm3 59 rfl rfl, rfl, by decide, by decide, gm1 9 rfl rfl, rfl, gm3 58 rfl rfl, by decide⟩
theorem mk_296 : xMok 296 := fun M y b rt h1 h2 => by cases h1; cases h2; exact ⟨gm5 15 rfl rfl, rfl, by decide, by decide, gm1 9 rfl rfl, rfl, gm5 14 rfl rfl, by decide⟩
theorem mk_297 : xMok 297 := fun M y b rt h1 h2 => by cases h1; cases h2; exact ⟨gm2 7 rfl rfl, rfl, by decide, by decide, gm1 9 rfl rfl, rfl, gm2 6 rfl rfl, by decide⟩
theorem mk_298 : xMok 298 := fun M y b rt h1 h2 => by cases h1; cases h2; exact ⟨gm3 56 rfl rfl, rfl, by decide, by decide, gm1 9 rfl rfl, rfl, gm3 55 rfl rfl, by decide⟩
theorem mk_299 : xMok 299 := fun M y b rt h1 h2 => by cases h1; cases h2; exact ⟨gm4 10 rfl rfl, rfl, by decide, by decide, gm1 9 rfl rfl, ⟨_, rfl, Or.inr ⟨_, rfl⟩⟩, gm4 9 rfl rfl, by decide⟩
set_option maxRecDepth 100000 in
theorem mk_all : ∀ mid, mid < 300 → xMok mid := by
  have h : ∀ mid ∈ List.range 300, xMok mid := by
    rw [show List.range 300 = [0, 1, 2, 3, 4, 5, 6, 7, 8, 9, 10, 11, 12, 13, 14, 15, 16, 17, 18, 19, 20, 21, 22, 23, 24, 25, 26, 27, 28, 29, 30, 31, 32, 33, 34, 35, 36, 37, 38, 39, 40, 41, 42, 43, 44, 45, 46, 47, 48, 49, 50, 51, 52, 53, 54, 55, 56, 57, 58, 59, 60, 61, 62, 63, 64, 65, 66, 67, 68, 69, 70, 71, 72, 73, 74, 75, 76, 77, 78, 79, 80, 81, 82, 83, 84, 85, 86, 87, 88, 89, 90, 91, 92, 93, 94, 95, 96, 97, 98, 99, 100, 101, 102, 103, 104, 105, 106, 107, 108, 109, 110, 111, 112, 113, 114, 115, 116, 117, 118, 119, 120, 121, 122, 123, 124, 125, 126, 127, 128, 129, 130, 131, 132, 133, 134, 135, 136, 137, 138, 139, 140, 141, 142, 143, 144, 145, 146, 147, 148, 149, 150, 151, 152, 153, 154, 155, 156, 157, 158, 159, 160, 161, 162, 163, 164, 165, 166, 167, 168, 169, 170, 171, 172, 173, 174, 175, 176, 177, 178, 179, 180, 181, 182, 183, 184, 185, 186, 187, 188, 189, 190, 191, 192, 193, 194, 195, 196, 197, 198, 199, 200, 201, 202, 203, 204, 205, 206, 207, 208, 209, 210, 211, 212, 213, 214, 215, 216, 217, 218, 219, 220, 221, 222, 223, 224, 225, 226, 227, 228, 229, 230, 231, 232, 233, 234, 235, 236, 237, 238, 239, 240, 241, 242, 243, 244, 245, 246, 247, 248, 249, 250, 251, 252, 253, 254, 255, 256, 257, 258, 259, 260, 261, 262, 263, 264, 265, 266, 267, 268, 269, 270, 271, 272, 273, 274, 275, 276, 277, 278, 279, 280, 281, 282, 283, 284, 285, 286, 287, 288, 289, 290, 291, 292, 293, 294, 295, 296, 297, 298, 299] by decide +kernel]
    exact List.forall_mem_cons.mpr ⟨mk_0, List.forall_mem_cons.mpr ⟨mk_1, List.forall_mem_cons.mpr ⟨mk_2, List.forall_mem_cons.mpr ⟨mk_3, List.forall_mem_cons.mpr ⟨mk_4, List.forall_mem_cons.mpr ⟨mk_5, List.forall_mem_cons.mpr ⟨mk_6, List.forall_mem_cons.mpr ⟨mk_7, List.forall_mem_cons.mpr ⟨mk_8, List.forall_mem_cons.mpr ⟨mk_9, List.forall_mem_cons.mpr ⟨mk_10, List.forall_mem_cons.mpr ⟨mk_11, List.forall_mem_cons.mpr ⟨mk_12, List.forall_mem_cons.mpr ⟨mk_13, List.forall_mem_cons.mpr ⟨mk_14, List.forall_mem_cons.mpr ⟨mk_15, List.forall_mem_cons.mpr ⟨mk_16, List.forall_mem_cons.mpr ⟨mk_17, List.forall_mem_cons.mpr ⟨mk_18, List.forall_mem_cons.mpr ⟨mk_19, List.forall_mem_cons.mpr ⟨mk_20, List.forall_mem_cons.mpr ⟨mk_21, List.forall_mem_cons.mpr ⟨mk_22, List.forall_mem_cons.mpr ⟨mk_23, List.forall_mem_cons.mpr ⟨mk_24, List.forall_mem_cons.mpr ⟨mk_25, List.forall_mem_cons.mpr ⟨mk_26, List.forall_mem_cons.mpr ⟨mk_27, List.forall_mem_cons.mpr ⟨mk_28, List.forall_mem_cons.mpr ⟨mk_29, List.forall_mem_cons.mpr ⟨mk_30, List.forall_mem_cons.mpr ⟨mk_31, List.forall_mem_cons.mpr ⟨mk_32, List.forall_mem_cons.mpr ⟨mk_33, List.forall_mem_cons.mpr ⟨mk_34, List.forall_mem_cons.mpr ⟨mk_35, List.forall_mem_cons.mpr ⟨mk_36, List.forall_mem_cons.mpr ⟨mk_37, List.forall_mem_cons.mpr ⟨mk_38, List.forall_mem_cons.mpr ⟨mk_39, List.forall_mem_cons.mpr ⟨mk_40, List.forall_mem_cons.mpr ⟨mk_41, List.forall_mem_cons.mpr ⟨mk_42, List.forall_mem_cons.mpr ⟨mk_43, List.forall_mem_cons.mpr ⟨mk_44, List.forall_mem_cons.mpr ⟨mk_45, List.forall_mem_cons.mpr ⟨mk_46, List.forall_mem_cons.mpr ⟨mk_47, List.forall_mem_cons.mpr ⟨mk_48, List.forall_mem_cons.mpr ⟨mk_49, List.forall_mem_cons.mpr ⟨mk_50, List.forall_mem_cons.mpr ⟨mk_51, List.forall_mem_cons.mpr ⟨mk_52, List.forall_mem_cons.mpr ⟨mk_53, List.forall_mem_cons.mpr ⟨mk_54, List.forall_mem_cons.mpr ⟨mk_55, List.forall_mem_cons.mpr ⟨mk_56, List.forall_mem_cons.mpr ⟨mk_57, List.forall_mem_cons.mpr ⟨mk_58, List.forall_mem_cons.mpr ⟨mk_59, List.forall_mem_cons.mpr ⟨mk_60, List.forall_mem_cons.mpr ⟨mk_61, List.forall_mem_cons.mpr ⟨mk_62, List.forall_mem_cons.mpr ⟨mk_63, List.forall_mem_cons.mpr ⟨mk_64, List.forall_mem_cons.mpr ⟨mk_65, List.forall_mem_cons.mpr ⟨mk_66, List.forall_mem_cons.mpr ⟨mk_67, List.forall_mem_cons.mpr ⟨mk_68, List.forall_mem_cons.mpr ⟨mk_69, List.forall_mem_cons.mpr ⟨mk_70, List.forall_mem_cons.mpr ⟨mk_71, List.forall_mem_cons.mpr ⟨mk_72, List.forall_mem_cons.mpr ⟨mk_73, List.forall_mem_cons.mpr ⟨mk_74, List.forall_mem_cons.mpr ⟨mk_75, List.forall_mem_cons.mpr ⟨mk_76, List.forall_mem_cons.mpr ⟨mk_77, List.forall_mem_cons.mpr ⟨mk_78, List.forall_mem_cons.mpr ⟨mk_79, List.forall_mem_cons.mpr ⟨mk_80, List.forall_mem_cons.mpr ⟨mk_81, List.forall_mem_cons.mpr ⟨mk_82, List.forall_mem_cons.mpr ⟨mk_83, List.forall_mem_cons.mpr ⟨mk_84, List.forall_mem_cons.mpr ⟨mk_85, List.forall_mem_cons.mpr ⟨mk_86, List.forall_mem_cons.mpr ⟨mk_87, List.forall_mem_cons.mpr ⟨mk_88, List.forall_mem_cons.mpr ⟨mk_89, List.forall_mem_cons.mpr ⟨mk_90, List.forall_mem_cons.mpr ⟨mk_91, List.forall_mem_cons.mpr ⟨mk_92, List.forall_mem_cons.mpr ⟨mk_93, List.forall_mem_cons.mpr ⟨mk_94, List.forall_mem_cons.mpr ⟨mk_95, List.forall_mem_cons.mpr ⟨mk_96, List.forall_mem_cons.mpr ⟨mk_97, List.forall_mem_cons.mpr ⟨mk_98, List.forall_mem_cons.mpr ⟨mk_99, List.forall_mem_cons.mpr ⟨mk_100, List.forall_mem_cons.mpr ⟨mk_101, List.forall_mem_cons.mpr ⟨mk_102, List.forall_mem_cons.mpr ⟨mk_103, List.forall_mem_cons.mpr ⟨mk_104, List.forall_mem_cons.mpr ⟨mk_105, List.forall_mem_cons.mpr ⟨mk_106, List.forall_mem_cons.mpr ⟨mk_107, List.forall_mem_cons.mpr ⟨mk_108, List.forall_mem_cons.mpr ⟨mk_109, List.forall_mem_cons.mpr ⟨mk_110, List.forall_mem_cons.mpr ⟨mk_111, List.forall_mem_cons.mpr ⟨mk_112, List.forall_mem_cons.mpr ⟨mk_113, List.forall_mem_cons.mpr ⟨mk_114, List.forall_mem_cons.mpr ⟨mk_115, List.forall_mem_cons.mpr ⟨mk_116, List.forall_mem_cons.mpr ⟨mk_117, List.forall_mem_cons.mpr ⟨mk_118, List.forall_mem_cons.mpr ⟨mk_119, List.forall_mem_cons.mpr ⟨mk_120, List.forall_mem_cons.mpr ⟨mk_121, List.forall_mem_cons.mpr ⟨mk_122, List.forall_mem_cons.mpr ⟨mk_123, List.forall_mem_cons.mpr ⟨mk_124, List.forall_mem_cons.mpr ⟨mk_125, List.forall_mem_cons.mpr ⟨mk_126, List.forall_mem_cons.mpr ⟨mk_127, List.forall_mem_cons.mpr ⟨mk_128, List.forall_mem_cons.mpr ⟨mk_129, List.forall_mem_cons.mpr ⟨mk_130, List.forall_mem_cons.mpr ⟨mk_131, List.forall_mem_cons.mpr ⟨mk_132, List.forall_mem_cons.mpr ⟨mk_133, List.forall_mem_cons.mpr ⟨mk_134, List.forall_mem_cons.mpr ⟨mk_135, List.forall_mem_cons.mpr ⟨mk_136, List.forall_mem_cons.mpr ⟨mk_137, List.forall_mem_cons.mpr ⟨mk_138, List.forall_mem_cons.mpr ⟨mk_139, List.forall_mem_cons.mpr ⟨mk_140, List.forall_mem_cons.mpr ⟨mk_141, List.forall_mem_cons.mpr ⟨mk_142, List.forall_mem_cons.mpr ⟨mk_143, List.forall_mem_cons.mpr ⟨mk_144, List.forall_mem_cons.mpr ⟨mk_145, List.forall_mem_cons.mpr ⟨mk_146, List.forall_mem_cons.mpr ⟨mk_147, List.forall_mem_cons.mpr ⟨mk_148, List.forall_mem_cons.mpr ⟨mk_149, List.forall_mem_cons.mpr ⟨mk_150, List.forall_mem_cons.mpr ⟨mk_151, List.forall_mem_cons.mpr ⟨mk_152, List.forall_mem_cons.mpr ⟨mk_153, List.forall_mem_cons.mpr ⟨mk_154, List.forall_mem_cons.mpr ⟨mk_155, List.forall_mem_cons.mpr ⟨mk_156, List.forall_mem_cons.mpr ⟨mk_157, List.forall_mem_cons.mpr ⟨mk_158, List.forall_mem_cons.mpr ⟨mk_159, List.forall_mem_cons.mpr ⟨mk_160, List.forall_mem_cons.mpr ⟨mk_161, List.forall_mem_cons.mpr ⟨mk_162, List.forall_mem_cons.mpr ⟨mk_163, List.forall_mem_cons.mpr ⟨mk_164, List.forall_mem_cons.mpr ⟨mk_165, List.forall_mem_cons.mpr ⟨mk_166, List.forall_mem_cons.mpr ⟨mk_167, List.forall_mem_cons.mpr ⟨mk_168, List.forall_mem_cons.mpr ⟨mk_169, List.forall_mem_cons.mpr ⟨mk_170, List.forall_mem_cons.mpr ⟨mk_171, List.forall_mem_cons.mpr ⟨mk_172, List.forall_mem_cons.mpr ⟨mk_173, List.forall_mem_cons.mpr ⟨mk_174, List.forall_mem_cons.mpr ⟨mk_175, List.forall_mem_cons.mpr ⟨mk_176, List.forall_mem_cons.mpr ⟨mk_177, List.forall_mem_cons.mpr ⟨mk_178, List.forall_mem_cons.mpr ⟨mk_179, List.forall_mem_cons.mpr ⟨mk_180, List.forall_mem_cons.mpr ⟨mk_181, List.forall_mem_cons.mpr ⟨mk_182, List.forall_mem_cons.mpr ⟨mk_183, List.forall_mem_cons.mpr ⟨mk_184, List.forall_mem_cons.mpr ⟨mk_185, List.forall_mem_cons.mpr ⟨mk_186, List.forall_mem_cons.mpr ⟨mk_187, List.forall_mem_cons.mpr ⟨mk_188, List.forall_mem_cons.mpr ⟨mk_189, List.forall_mem_cons.mpr ⟨mk_190, List.forall_mem_cons.mpr ⟨mk_191, List.forall_mem_cons.mpr ⟨mk_192, List.forall_mem_cons.mpr ⟨mk_193, List.forall_mem_cons.mpr ⟨mk_194, List.forall_mem_cons.mpr ⟨mk_195, List.forall_mem_cons.mpr ⟨mk_196, List.forall_mem_cons.mpr ⟨mk_197, List.forall_mem_cons.mpr ⟨mk_198, List.forall_mem_cons.mpr ⟨mk_199, List.forall_mem_cons.mpr ⟨mk_200, List.forall_mem_cons.mpr ⟨mk_201, List.forall_mem_cons.mpr ⟨mk_202, List.forall_mem_cons.mpr ⟨mk_203, List.forall_mem_cons.mpr ⟨mk_204, List.forall_mem_cons.mpr ⟨mk_205, List.forall_mem_cons.mpr ⟨mk_206, List.forall_mem_cons.mpr ⟨mk_207, List.forall_mem_cons.mpr ⟨mk_208, List.forall_mem_cons.mpr ⟨mk_209, List.forall_mem_cons.mpr ⟨mk_210, List.forall_mem_cons.mpr ⟨mk_211, List.forall_mem_cons.mpr ⟨mk_212, List.forall_mem_cons.mpr ⟨mk_213, List.forall_mem_cons.mpr ⟨mk_214, List.forall_mem_cons.mpr ⟨mk_215, List.forall_mem_cons.mpr ⟨mk_216, List.forall_mem_cons.mpr ⟨mk_217, List.forall_mem_cons.mpr ⟨mk_218, List.forall_mem_cons.mpr ⟨mk_219, List.forall_mem_cons.mpr ⟨mk_220, List.forall_mem_cons.mpr ⟨mk_221, List.forall_mem_cons.mpr ⟨mk_222, List.forall_mem_cons.mpr ⟨mk_223, List.forall_mem_cons.mpr ⟨mk_224, List.forall_mem_cons.mpr ⟨mk_225, List.forall_mem_cons.mpr ⟨mk_226, List.forall_mem_cons.mpr ⟨mk_227, List.forall_mem_cons.mpr ⟨mk_228, List.forall_mem_cons.mpr ⟨mk_229, List.forall_mem_cons.mpr ⟨mk_230, List.forall_mem_cons.mpr ⟨mk_231, List.forall_mem_cons.mpr ⟨mk_232, List.forall_mem_cons.mpr ⟨mk_233, List.forall_mem_cons.mpr ⟨mk_234, List.forall_mem_cons.mpr ⟨mk_235, List.forall_mem_cons.mpr ⟨mk_236, List.forall_mem_cons.mpr ⟨mk_237, List.forall_mem_cons.mpr ⟨mk_238, List.forall_mem_cons.mpr ⟨mk_239, List.forall_mem_cons.mpr ⟨mk_240, List.forall_mem_cons.mpr ⟨mk_241, List.forall_mem_cons.mpr ⟨mk_242, List.forall_mem_cons.mpr ⟨mk_243, List.forall_mem_cons.mpr ⟨mk_244, List.forall_mem_cons.mpr ⟨mk_245, List.forall_mem_cons.mpr ⟨mk_246, List.forall_mem_cons.mpr ⟨mk_247, List.forall_mem_cons.mpr ⟨mk_248, List.forall_mem_cons.mpr ⟨mk_249, List.forall_mem_cons.mpr ⟨mk_250, List.forall_mem_cons.mpr ⟨mk_251, List.forall_mem_cons.mpr ⟨mk_252, List.forall_mem_cons.mpr ⟨mk_253, List.forall_mem_cons.mpr ⟨mk_254, List.forall_mem_cons.mpr ⟨mk_255, List.forall_mem_cons.mpr ⟨mk_256, List.forall_mem_cons.mpr ⟨mk_257, List.forall_mem_cons.mpr ⟨mk_258, List.forall_mem_cons.mpr ⟨mk_259, List.forall_mem_cons.mpr ⟨mk_260, List.forall_mem_cons.mpr ⟨mk_261, List.forall_mem_cons.mpr ⟨mk_262, List.forall_mem_cons.mpr ⟨mk_263, List.forall_mem_cons.mpr ⟨mk_264, List.forall_mem_cons.mpr ⟨mk_265, List.forall_mem_cons.mpr ⟨mk_266, List.forall_mem_cons.mpr ⟨mk_267, List.forall_mem_cons.mpr ⟨mk_268, List.forall_mem_cons.mpr ⟨mk_269, List.forall_mem_cons.mpr ⟨mk_270, List.forall_mem_cons.mpr ⟨mk_271, List.forall_mem_cons.mpr ⟨mk_272, List.forall_mem_cons.mpr ⟨mk_273, List.forall_mem_cons.mpr ⟨mk_274, List.forall_mem_cons.mpr ⟨mk_275, List.forall_mem_cons.mpr ⟨mk_276, List.forall_mem_cons.mpr ⟨mk_277, List.forall_mem_cons.mpr ⟨mk_278, List.forall_mem_cons.mpr ⟨mk_279, List.forall_mem_cons.mpr ⟨mk_280, List.forall_mem_cons.mpr ⟨mk_281, List.forall_mem_cons.mpr ⟨mk_282, List.forall_mem_cons.mpr ⟨mk_283, List.forall_mem_cons.mpr ⟨mk_284, List.forall_mem_cons.mpr ⟨mk_285, List.forall_mem_cons.mpr ⟨mk_286, List.forall_mem_cons.mpr ⟨mk_287, List.forall_mem_cons.mpr ⟨mk_288, List.forall_mem_cons.mpr ⟨mk_289, List.forall_mem_cons.mpr ⟨mk_290, List.forall_mem_cons.mpr ⟨mk_291, List.forall_mem_cons.mpr ⟨mk_292, List.forall_mem_cons.mpr ⟨mk_293, List.forall_mem_cons.mpr ⟨mk_294, List.forall_mem_cons.mpr ⟨mk_295, List.forall_mem_cons.mpr ⟨mk_296, List.forall_mem_cons.mpr ⟨mk_297, List.forall_mem_cons.mpr ⟨mk_298, List.forall_mem_cons.mpr ⟨mk_299, fun _ h => absurd h List.not_mem_nil⟩⟩⟩⟩⟩⟩⟩⟩⟩⟩⟩⟩⟩⟩⟩⟩⟩⟩⟩⟩⟩⟩⟩⟩⟩⟩⟩⟩⟩⟩⟩⟩⟩⟩⟩⟩⟩⟩⟩⟩⟩⟩⟩⟩⟩⟩⟩⟩⟩⟩⟩⟩⟩⟩⟩⟩⟩⟩⟩⟩⟩⟩⟩⟩⟩⟩⟩⟩⟩⟩⟩⟩⟩⟩⟩⟩⟩⟩⟩⟩⟩⟩⟩⟩⟩⟩⟩⟩⟩⟩⟩⟩⟩⟩⟩⟩⟩⟩⟩⟩⟩⟩⟩⟩⟩⟩⟩⟩⟩⟩⟩⟩⟩⟩⟩⟩⟩⟩⟩⟩⟩⟩⟩⟩⟩⟩⟩⟩⟩⟩⟩⟩⟩⟩⟩⟩⟩⟩⟩⟩⟩⟩⟩⟩⟩⟩⟩⟩⟩⟩⟩⟩⟩⟩⟩⟩⟩⟩⟩⟩⟩⟩⟩⟩⟩⟩⟩⟩⟩⟩⟩⟩⟩⟩⟩⟩⟩⟩⟩⟩⟩⟩⟩⟩⟩⟩⟩⟩⟩⟩⟩⟩⟩⟩⟩⟩⟩⟩⟩⟩⟩⟩⟩⟩⟩⟩⟩⟩⟩⟩⟩⟩⟩⟩⟩⟩⟩⟩⟩⟩⟩⟩⟩⟩⟩⟩⟩⟩⟩⟩⟩⟩⟩⟩⟩⟩⟩⟩⟩⟩⟩⟩⟩⟩⟩⟩⟩⟩⟩⟩⟩⟩⟩⟩⟩⟩⟩⟩⟩⟩⟩⟩⟩⟩⟩⟩⟩⟩⟩⟩⟩⟩⟩⟩⟩⟩⟩⟩⟩⟩⟩⟩⟩⟩⟩⟩⟩⟩⟩⟩⟩⟩⟩⟩⟩⟩⟩⟩⟩⟩
  exact fun mid hm => h mid (List.mem_range.mpr hm)
end
section
def xnest : List Cond := [.methodLinkNest "TwinBuckets" 11 ⟨"TwinBuckets$Store", "<init>", "()V"⟩ "TwinBuckets", .methodLinkNest "TwinBuckets$Store" 11 ⟨"TwinBuckets$Pages", "<init>", "()V"⟩ "TwinBuckets", .methodLinkNest "TwinBuckets" 24 ⟨"TwinBuckets$Rules", "<init>", "()V"⟩ "TwinBuckets", .methodLinkNest "TwinBuckets" 31 ⟨"TwinBuckets$Sightings", "<init>", "()V"⟩ "TwinBuckets", .methodLinkNest "TwinBuckets" 38 ⟨"TwinBuckets$History", "<init>", "()V"⟩ "TwinBuckets", .methodLinkNest "TwinBuckets" 54 ⟨"TwinBuckets$Tape", "<init>", "()V"⟩ "TwinBuckets", .methodLinkNest "TwinBuckets$Pages" 21 ⟨"TwinBuckets", "isBucket", "(I)Z"⟩ "TwinBuckets", .methodLinkNest "TwinBuckets$Store" 79 ⟨"TwinBuckets", "isKey", "(I)Z"⟩ "TwinBuckets", .methodLinkNest "TwinBuckets$History" 29 ⟨"TwinBuckets$Store", "<init>", "()V"⟩ "TwinBuckets", .methodLinkNest "TwinBuckets" 298 ⟨"TwinBuckets$Image", "<init>", "()V"⟩ "TwinBuckets", .methodLinkNest "TwinBuckets$Image" 9 ⟨"TwinBuckets$Store", "<init>", "()V"⟩ "TwinBuckets", .methodLinkNest "TwinBuckets$Image" 18 ⟨"TwinBuckets$Rules", "<init>", "()V"⟩ "TwinBuckets", .methodLinkNest "TwinBuckets$Image" 25 ⟨"TwinBuckets$Sightings", "<init>", "()V"⟩ "TwinBuckets"]
theorem xnest_tbl : ∀ w ∈ xnest, w ∈ lw_tbl := by
  unfold xnest
  exact List.forall_mem_cons.mpr ⟨tb1 (List.mem_of_getElem? (i := 29) rfl), List.forall_mem_cons.mpr ⟨tb1 (List.mem_of_getElem? (i := 35) rfl), List.forall_mem_cons.mpr ⟨tb1 (List.mem_of_getElem? (i := 82) rfl), List.forall_mem_cons.mpr ⟨tb1 (List.mem_of_getElem? (i := 122) rfl), List.forall_mem_cons.mpr ⟨tb1 (List.mem_of_getElem? (i := 139) rfl), List.forall_mem_cons.mpr ⟨tb1 (List.mem_of_getElem? (i := 163) rfl), List.forall_mem_cons.mpr ⟨tb2 (List.mem_of_getElem? (i := 72) rfl), List.forall_mem_cons.mpr ⟨tb3 (List.mem_of_getElem? (i := 1) rfl), List.forall_mem_cons.mpr ⟨tb4 (List.mem_of_getElem? (i := 57) rfl), List.forall_mem_cons.mpr ⟨tb5 (List.mem_of_getElem? (i := 52) rfl), List.forall_mem_cons.mpr ⟨tb5 (List.mem_of_getElem? (i := 57) rfl), List.forall_mem_cons.mpr ⟨tb5 (List.mem_of_getElem? (i := 59) rfl), List.forall_mem_cons.mpr ⟨tb5 (List.mem_of_getElem? (i := 61) rfl), fun _ h => absurd h List.not_mem_nil⟩⟩⟩⟩⟩⟩⟩⟩⟩⟩⟩⟩⟩
/-- a link to a method of the program: the words that the call needs -/
def xLk (own idx kd mid na : Nat) (nst : Bool) : Prop := mid < 300 ∧ ∀ (M : xM) (y : MethodName) (b : ByteArray) (rt : Option FieldType), xprog[mid]? = some M → xmeta[mid]? = some (y, b, rt) →
  (if nst = true then Cond.methodLinkNest (xcn own) idx y "TwinBuckets" ∈ xnest else Cond.methodLink (xcn own) idx y ∈ gw) ∧ M.2.2.1 = kd ∧ (parseMethodDescriptor y.desc).map (fun d => d.parameters.length) = some (if kd = 1 then na else na - 1) ∧ (kd = 1 ∨ 1 ≤ na)
def xsLen : MethodName := ⟨"java/lang/String", "length", "()I"⟩
def xsAt : MethodName := ⟨"java/lang/String", "charAt", "(I)C"⟩
def xMLok (e : Nat × Nat × Nat × Nat × Nat × Nat) : Prop := match e.2.2.1 with
  | 0 => xLk e.1 e.2.1 0 e.2.2.2.1 e.2.2.2.2.1 false
  | 1 => xLk e.1 e.2.1 1 e.2.2.2.1 e.2.2.2.2.1 false
  | 2 => xLk e.1 e.2.1 2 e.2.2.2.1 e.2.2.2.2.1 false
  | 3 => xLk e.1 e.2.1 0 e.2.2.2.1 e.2.2.2.2.1 true
  | 4 => xLk e.1 e.2.1 1 e.2.2.2.1 e.2.2.2.2.1 true
  | 5 => xLk e.1 e.2.1 2 e.2.2.2.1 e.2.2.2.2.1 true
  | 6 => Cond.methodLink (xcn e.1) e.2.1 objectInit ∈ gw
  | 7 => Cond.methodLink (xcn e.1) e.2.1 Lib.Math.max.name ∈ gw
  | 8 => Cond.methodLink (xcn e.1) e.2.1 Lib.Math.min.name ∈ gw
  | 9 => Cond.methodLink (xcn e.1) e.2.1 arraycopyName ∈ gw
  | 10 => Cond.methodLink (xcn e.1) e.2.1 xsLen ∈ gw
  | 11 => Cond.methodLink (xcn e.1) e.2.1 xsAt ∈ gw
  | 12 => Cond.methodLink (xcn e.1) e.2.1 ⟨"[I", "clone", "()Ljava/lang/Object;"⟩ ∈ gw
  | _ => False
theorem ml_0 : xMLok (10, 9, 2, 98, 1, 0) := ⟨by decide, fun M y b rt h1 h2 => by cases h1; cases h2; exact ⟨gm1 21 rfl rfl, rfl, by decide +kernel, by decide⟩⟩
theorem ml_1 : xMLok (8, 3, 6, 0, 0, 0) := gm1 24 rfl rfl
theorem ml_2 : xMLok (8, 11, 5, 40, 1, 0) := ⟨by decide, fun M y b rt h1 h2 => by cases h1; cases h2; exact ⟨List.mem_of_getElem? (i := 0) rfl, rfl, by decide +kernel, by decide⟩⟩
theorem ml_3 : xMLok (5, 3, 6, 0, 0, 0) := gm1 32 rfl rfl
theorem ml_4 : xMLok (5, 11, 5, 8, 1, 0) := ⟨by decide, fun M y b rt h1 h2 => by cases h1; cases h2; exact ⟨List.mem_of_getElem? (i := 1) rfl, rfl, by decide +kernel, by decide⟩⟩
theorem ml_5 : xMLok (2, 3, 6, 0, 0, 0) := gm1 38 rfl rfl
theorem ml_6 : xMLok (8, 24, 5, 26, 1, 0) := ⟨by decide, fun M y b rt h1 h2 => by cases h1; cases h2; exact ⟨List.mem_of_getElem? (i := 2) rfl, rfl, by decide +kernel, by decide⟩⟩
theorem ml_7 : xMLok (3, 3, 6, 0, 0, 0) := gm1 85 rfl rfl
theorem ml_8 : xMLok (8, 31, 5, 35, 1, 0) := ⟨by decide, fun M y b rt h1 h2 => by cases h1; cases h2; exact ⟨List.mem_of_getElem? (i := 3) rfl, rfl, by decide +kernel, by decide⟩⟩
theorem ml_9 : xMLok (4, 3, 6, 0, 0, 0) := gm1 125 rfl rfl
theorem ml_10 : xMLok (8, 38, 5, 0, 1, 0) := ⟨by decide, fun M y b rt h1 h2 => by cases h1; cases h2; exact ⟨List.mem_of_getElem? (i := 4) rfl, rfl, by decide +kernel, by decide⟩⟩
theorem ml_11 : xMLok (0, 3, 6, 0, 0, 0) := gm1 142 rfl rfl
theorem ml_12 : xMLok (8, 54, 5, 68, 1, 0) := ⟨by decide, fun M y b rt h1 h2 => by cases h1; cases h2; exact ⟨List.mem_of_getElem? (i := 5) rfl, rfl, by decide +kernel, by decide⟩⟩
theorem ml_13 : xMLok (6, 3, 6, 0, 0, 0) := gm1 166 rfl rfl
theorem ml_14 : xMLok (6, 11, 2, 89, 1, 0) := ⟨by decide, fun M y b rt h1 h2 => by cases h1; cases h2; exact ⟨gm1 169 rfl rfl, rfl, by decide +kernel, by decide⟩⟩
theorem ml_15 : xMLok (7, 3, 6, 0, 0, 0) := gm1 172 rfl rfl
theorem ml_16 : xMLok (8, 89, 0, 41, 1, 0) := ⟨by decide, fun M y b rt h1 h2 => by cases h1; cases h2; exact ⟨gm1 237 rfl rfl, rfl, by decide +kernel, by decide⟩⟩
theorem ml_17 : xMLok (5, 41, 0, 18, 4, 0) := ⟨by decide, fun M y b rt h1 h2 => by cases h1; cases h2; exact ⟨gm2 1 rfl rfl, rfl, by decide +kernel, by decide⟩⟩
theorem ml_18 : xMLok (8, 92, 1, 297, 2, 0) := ⟨by decide, fun M y b rt h1 h2 => by cases h1; cases h2; exact ⟨gm2 5 rfl rfl, rfl, by decide +kernel, by decide⟩⟩
theorem ml_19 : xMLok (10, 13, 0, 99, 3, 1) := ⟨by decide, fun M y b rt h1 h2 => by cases h1; cases h2; exact ⟨gm2 64 rfl rfl, rfl, by decide +kernel, by decide⟩⟩
theorem ml_20 : xMLok (8, 102, 0, 10, 3, 1) := ⟨by decide, fun M y b rt h1 h2 => by cases h1; cases h2; exact ⟨gm2 68 rfl rfl, rfl, by decide +kernel, by decide⟩⟩
theorem ml_21 : xMLok (2, 21, 4, 140, 1, 1) := ⟨by decide, fun M y b rt h1 h2 => by cases h1; cases h2; exact ⟨List.mem_of_getElem? (i := 6) rfl, rfl, by decide +kernel, by decide⟩⟩
theorem ml_22 : xMLok (2, 25, 0, 11, 2, 1) := ⟨by decide, fun M y b rt h1 h2 => by cases h1; cases h2; exact ⟨gm2 75 rfl rfl, rfl, by decide +kernel, by decide⟩⟩
theorem ml_23 : xMLok (2, 28, 0, 14, 2, 1) := ⟨by decide, fun M y b rt h1 h2 => by cases h1; cases h2; exact ⟨gm2 79 rfl rfl, rfl, by decide +kernel, by decide⟩⟩
theorem ml_24 : xMLok (10, 18, 0, 100, 3, 1) := ⟨by decide, fun M y b rt h1 h2 => by cases h1; cases h2; exact ⟨gm2 83 rfl rfl, rfl, by decide +kernel, by decide⟩⟩
theorem ml_25 : xMLok (10, 22, 0, 101, 3, 1) := ⟨by decide, fun M y b rt h1 h2 => by cases h1; cases h2; exact ⟨gm2 87 rfl rfl, rfl, by decide +kernel, by decide⟩⟩
theorem ml_26 : xMLok (8, 111, 0, 58, 3, 1) := ⟨by decide, fun M y b rt h1 h2 => by cases h1; cases h2; exact ⟨gm2 91 rfl rfl, rfl, by decide +kernel, by decide⟩⟩
theorem ml_27 : xMLok (5, 158, 0, 56, 2, 1) := ⟨by decide, fun M y b rt h1 h2 => by cases h1; cases h2; exact ⟨gm2 95 rfl rfl, rfl, by decide +kernel, by decide⟩⟩
theorem ml_28 : xMLok (10, 26, 0, 102, 2, 1) := ⟨by decide, fun M y b rt h1 h2 => by cases h1; cases h2; exact ⟨gm2 99 rfl rfl, rfl, by decide +kernel, by decide⟩⟩
theorem ml_29 : xMLok (8, 114, 0, 43, 1, 1) := ⟨by decide, fun M y b rt h1 h2 => by cases h1; cases h2; exact ⟨gm2 103 rfl rfl, rfl, by decide +kernel, by decide⟩⟩
theorem ml_30 : xMLok (10, 31, 0, 103, 3, 1) := ⟨by decide, fun M y b rt h1 h2 => by cases h1; cases h2; exact ⟨gm2 107 rfl rfl, rfl, by decide +kernel, by decide⟩⟩
theorem ml_31 : xMLok (8, 121, 1, 139, 1, 1) := ⟨by decide, fun M y b rt h1 h2 => by cases h1; cases h2; exact ⟨gm2 111 rfl rfl, rfl, by decide +kernel, by decide⟩⟩
theorem ml_32 : xMLok (8, 125, 0, 29, 2, 1) := ⟨by decide, fun M y b rt h1 h2 => by cases h1; cases h2; exact ⟨gm2 114 rfl rfl, rfl, by decide +kernel, by decide⟩⟩
theorem ml_33 : xMLok (3, 40, 1, 28, 2, 1) := ⟨by decide, fun M y b rt h1 h2 => by cases h1; cases h2; exact ⟨gm2 118 rfl rfl, rfl, by decide +kernel, by decide⟩⟩
theorem ml_34 : xMLok (8, 129, 0, 46, 3, 1) := ⟨by decide, fun M y b rt h1 h2 => by cases h1; cases h2; exact ⟨gm2 121 rfl rfl, rfl, by decide +kernel, by decide⟩⟩
theorem ml_35 : xMLok (5, 64, 0, 45, 3, 1) := ⟨by decide, fun M y b rt h1 h2 => by cases h1; cases h2; exact ⟨gm2 125 rfl rfl, rfl, by decide +kernel, by decide⟩⟩
theorem ml_36 : xMLok (5, 59, 0, 29, 2, 1) := ⟨by decide, fun M y b rt h1 h2 => by cases h1; cases h2; exact ⟨gm2 129 rfl rfl, rfl, by decide +kernel, by decide⟩⟩
theorem ml_37 : xMLok (5, 68, 0, 20, 3, 1) := ⟨by decide, fun M y b rt h1 h2 => by cases h1; cases h2; exact ⟨gm2 130 rfl rfl, rfl, by decide +kernel, by decide⟩⟩
theorem ml_38 : xMLok (2, 38, 0, 15, 3, 1) := ⟨by decide, fun M y b rt h1 h2 => by cases h1; cases h2; exact ⟨gm2 134 rfl rfl, rfl, by decide +kernel, by decide⟩⟩
theorem ml_39 : xMLok (5, 72, 0, 16, 3, 1) := ⟨by decide, fun M y b rt h1 h2 => by cases h1; cases h2; exact ⟨gm2 138 rfl rfl, rfl, by decide +kernel, by decide⟩⟩
theorem ml_40 : xMLok (8, 133, 0, 45, 3, 1) := ⟨by decide, fun M y b rt h1 h2 => by cases h1; cases h2; exact ⟨gm2 142 rfl rfl, rfl, by decide +kernel, by decide⟩⟩
theorem ml_41 : xMLok (8, 136, 0, 47, 3, 1) := ⟨by decide, fun M y b rt h1 h2 => by cases h1; cases h2; exact ⟨gm2 143 rfl rfl, rfl, by decide +kernel, by decide⟩⟩
theorem ml_42 : xMLok (5, 75, 0, 34, 4, 1) := ⟨by decide, fun M y b rt h1 h2 => by cases h1; cases h2; exact ⟨gm2 147 rfl rfl, rfl, by decide +kernel, by decide⟩⟩
theorem ml_43 : xMLok (3, 66, 0, 31, 2, 5) := ⟨by decide, fun M y b rt h1 h2 => by cases h1; cases h2; exact ⟨gm2 151 rfl rfl, rfl, by decide +kernel, by decide⟩⟩
theorem ml_44 : xMLok (3, 93, 0, 29, 2, 1) := ⟨by decide, fun M y b rt h1 h2 => by cases h1; cases h2; exact ⟨gm2 155 rfl rfl, rfl, by decide +kernel, by decide⟩⟩
theorem ml_45 : xMLok (3, 70, 0, 32, 5, 0) := ⟨by decide, fun M y b rt h1 h2 => by cases h1; cases h2; exact ⟨gm2 156 rfl rfl, rfl, by decide +kernel, by decide⟩⟩
theorem ml_46 : xMLok (3, 50, 0, 11, 2, 1) := ⟨by decide, fun M y b rt h1 h2 => by cases h1; cases h2; exact ⟨gm2 160 rfl rfl, rfl, by decide +kernel, by decide⟩⟩
theorem ml_47 : xMLok (3, 56, 0, 12, 2, 1) := ⟨by decide, fun M y b rt h1 h2 => by cases h1; cases h2; exact ⟨gm2 161 rfl rfl, rfl, by decide +kernel, by decide⟩⟩
theorem ml_48 : xMLok (3, 60, 0, 14, 2, 1) := ⟨by decide, fun M y b rt h1 h2 => by cases h1; cases h2; exact ⟨gm2 165 rfl rfl, rfl, by decide +kernel, by decide⟩⟩
theorem ml_49 : xMLok (3, 77, 0, 92, 3, 1) := ⟨by decide, fun M y b rt h1 h2 => by cases h1; cases h2; exact ⟨gm2 166 rfl rfl, rfl, by decide +kernel, by decide⟩⟩
theorem ml_50 : xMLok (3, 80, 0, 96, 5, 1) := ⟨by decide, fun M y b rt h1 h2 => by cases h1; cases h2; exact ⟨gm2 170 rfl rfl, rfl, by decide +kernel, by decide⟩⟩
theorem ml_51 : xMLok (7, 40, 0, 92, 3, 1) := ⟨by decide, fun M y b rt h1 h2 => by cases h1; cases h2; exact ⟨gm2 174 rfl rfl, rfl, by decide +kernel, by decide⟩⟩
theorem ml_52 : xMLok (7, 45, 7, 0, 0, 0) := gm2 176 rfl rfl
theorem ml_53 : xMLok (7, 50, 1, 97, 3, 1) := ⟨by decide, fun M y b rt h1 h2 => by cases h1; cases h2; exact ⟨gm2 179 rfl rfl, rfl, by decide +kernel, by decide⟩⟩
theorem ml_54 : xMLok (10, 35, 0, 104, 3, 1) := ⟨by decide, fun M y b rt h1 h2 => by cases h1; cases h2; exact ⟨gm2 185 rfl rfl, rfl, by decide +kernel, by decide⟩⟩
theorem ml_55 : xMLok (8, 140, 1, 144, 1, 1) := ⟨by decide, fun M y b rt h1 h2 => by cases h1; cases h2; exact ⟨gm2 189 rfl rfl, rfl, by decide +kernel, by decide⟩⟩
theorem ml_56 : xMLok (8, 143, 0, 141, 2, 1) := ⟨by decide, fun M y b rt h1 h2 => by cases h1; cases h2; exact ⟨gm2 192 rfl rfl, rfl, by decide +kernel, by decide⟩⟩
theorem ml_57 : xMLok (8, 146, 0, 44, 1, 1) := ⟨by decide, fun M y b rt h1 h2 => by cases h1; cases h2; exact ⟨gm2 196 rfl rfl, rfl, by decide +kernel, by decide⟩⟩
theorem ml_58 : xMLok (5, 55, 0, 14, 2, 1) := ⟨by decide, fun M y b rt h1 h2 => by cases h1; cases h2; exact ⟨gm2 200 rfl rfl, rfl, by decide +kernel, by decide⟩⟩
theorem ml_59 : xMLok (8, 149, 0, 145, 2, 1) := ⟨by decide, fun M y b rt h1 h2 => by cases h1; cases h2; exact ⟨gm2 201 rfl rfl, rfl, by decide +kernel, by decide⟩⟩
theorem ml_60 : xMLok (8, 152, 0, 146, 3, 0) := ⟨by decide, fun M y b rt h1 h2 => by cases h1; cases h2; exact ⟨gm2 205 rfl rfl, rfl, by decide +kernel, by decide⟩⟩
theorem ml_61 : xMLok (8, 156, 0, 1, 1, 0) := ⟨by decide, fun M y b rt h1 h2 => by cases h1; cases h2; exact ⟨gm2 209 rfl rfl, rfl, by decide +kernel, by decide⟩⟩
theorem ml_62 : xMLok (8, 159, 0, 142, 2, 1) := ⟨by decide, fun M y b rt h1 h2 => by cases h1; cases h2; exact ⟨gm2 213 rfl rfl, rfl, by decide +kernel, by decide⟩⟩
theorem ml_63 : xMLok (10, 39, 0, 105, 6, 1) := ⟨by decide, fun M y b rt h1 h2 => by cases h1; cases h2; exact ⟨gm2 217 rfl rfl, rfl, by decide +kernel, by decide⟩⟩
theorem ml_64 : xMLok (8, 165, 0, 69, 2, 0) := ⟨by decide, fun M y b rt h1 h2 => by cases h1; cases h2; exact ⟨gm2 221 rfl rfl, rfl, by decide +kernel, by decide⟩⟩
theorem ml_65 : xMLok (10, 44, 0, 106, 2, 1) := ⟨by decide, fun M y b rt h1 h2 => by cases h1; cases h2; exact ⟨gm2 225 rfl rfl, rfl, by decide +kernel, by decide⟩⟩
theorem ml_66 : xMLok (10, 48, 0, 107, 1, 1) := ⟨by decide, fun M y b rt h1 h2 => by cases h1; cases h2; exact ⟨gm2 229 rfl rfl, rfl, by decide +kernel, by decide⟩⟩
theorem ml_67 : xMLok (8, 169, 0, 70, 1, 1) := ⟨by decide, fun M y b rt h1 h2 => by cases h1; cases h2; exact ⟨gm2 233 rfl rfl, rfl, by decide +kernel, by decide⟩⟩
theorem ml_68 : xMLok (8, 175, 0, 48, 4, 1) := ⟨by decide, fun M y b rt h1 h2 => by cases h1; cases h2; exact ⟨gm2 237 rfl rfl, rfl, by decide +kernel, by decide⟩⟩
theorem ml_69 : xMLok (5, 79, 4, 139, 1, 1) := ⟨by decide, fun M y b rt h1 h2 => by cases h1; cases h2; exact ⟨List.mem_of_getElem? (i := 7) rfl, rfl, by decide +kernel, by decide⟩⟩
theorem ml_70 : xMLok (5, 83, 0, 17, 4, 0) := ⟨by decide, fun M y b rt h1 h2 => by cases h1; cases h2; exact ⟨gm3 2 rfl rfl, rfl, by decide +kernel, by decide⟩⟩
theorem ml_71 : xMLok (5, 86, 0, 55, 3, 0) := ⟨by decide, fun M y b rt h1 h2 => by cases h1; cases h2; exact ⟨gm3 6 rfl rfl, rfl, by decide +kernel, by decide⟩⟩
theorem ml_72 : xMLok (5, 151, 0, 33, 4, 1) := ⟨by decide, fun M y b rt h1 h2 => by cases h1; cases h2; exact ⟨gm3 10 rfl rfl, rfl, by decide +kernel, by decide⟩⟩
theorem ml_73 : xMLok (3, 85, 8, 0, 0, 0) := gm3 15 rfl rfl
theorem ml_74 : xMLok (3, 90, 7, 0, 0, 0) := gm3 18 rfl rfl
theorem ml_75 : xMLok (5, 155, 0, 57, 1, 0) := ⟨by decide, fun M y b rt h1 h2 => by cases h1; cases h2; exact ⟨gm3 19 rfl rfl, rfl, by decide +kernel, by decide⟩⟩
theorem ml_76 : xMLok (5, 49, 9, 0, 0, 0) := gm3 23 rfl rfl
theorem ml_77 : xMLok (5, 164, 8, 0, 0, 0) := gm3 26 rfl rfl
theorem ml_78 : xMLok (5, 90, 0, 47, 3, 1) := ⟨by decide, fun M y b rt h1 h2 => by cases h1; cases h2; exact ⟨gm3 27 rfl rfl, rfl, by decide +kernel, by decide⟩⟩
theorem ml_79 : xMLok (5, 94, 0, 49, 4, 1) := ⟨by decide, fun M y b rt h1 h2 => by cases h1; cases h2; exact ⟨gm3 28 rfl rfl, rfl, by decide +kernel, by decide⟩⟩
theorem ml_80 : xMLok (5, 104, 0, 15, 3, 1) := ⟨by decide, fun M y b rt h1 h2 => by cases h1; cases h2; exact ⟨gm3 32 rfl rfl, rfl, by decide +kernel, by decide⟩⟩
theorem ml_81 : xMLok (5, 107, 0, 12, 2, 1) := ⟨by decide, fun M y b rt h1 h2 => by cases h1; cases h2; exact ⟨gm3 33 rfl rfl, rfl, by decide +kernel, by decide⟩⟩
theorem ml_82 : xMLok (5, 110, 0, 23, 1, 1) := ⟨by decide, fun M y b rt h1 h2 => by cases h1; cases h2; exact ⟨gm3 34 rfl rfl, rfl, by decide +kernel, by decide⟩⟩
theorem ml_83 : xMLok (5, 98, 0, 50, 3, 1) := ⟨by decide, fun M y b rt h1 h2 => by cases h1; cases h2; exact ⟨gm3 38 rfl rfl, rfl, by decide +kernel, by decide⟩⟩
theorem ml_84 : xMLok (5, 114, 0, 24, 1, 1) := ⟨by decide, fun M y b rt h1 h2 => by cases h1; cases h2; exact ⟨gm3 42 rfl rfl, rfl, by decide +kernel, by decide⟩⟩
theorem ml_85 : xMLok (5, 117, 0, 13, 2, 1) := ⟨by decide, fun M y b rt h1 h2 => by cases h1; cases h2; exact ⟨gm3 46 rfl rfl, rfl, by decide +kernel, by decide⟩⟩
theorem ml_86 : xMLok (5, 120, 0, 19, 2, 0) := ⟨by decide, fun M y b rt h1 h2 => by cases h1; cases h2; exact ⟨gm3 50 rfl rfl, rfl, by decide +kernel, by decide⟩⟩
theorem ml_87 : xMLok (2, 32, 1, 298, 4, 0) := ⟨by decide, fun M y b rt h1 h2 => by cases h1; cases h2; exact ⟨gm3 54 rfl rfl, rfl, by decide +kernel, by decide⟩⟩
theorem ml_88 : xMLok (11, 13, 1, 295, 3, 0) := ⟨by decide, fun M y b rt h1 h2 => by cases h1; cases h2; exact ⟨gm3 57 rfl rfl, rfl, by decide +kernel, by decide⟩⟩
theorem ml_89 : xMLok (5, 101, 0, 21, 4, 0) := ⟨by decide, fun M y b rt h1 h2 => by cases h1; cases h2; exact ⟨gm3 60 rfl rfl, rfl, by decide +kernel, by decide⟩⟩
theorem ml_90 : xMLok (5, 124, 0, 22, 3, 0) := ⟨by decide, fun M y b rt h1 h2 => by cases h1; cases h2; exact ⟨gm3 64 rfl rfl, rfl, by decide +kernel, by decide⟩⟩
theorem ml_91 : xMLok (2, 42, 0, 16, 3, 1) := ⟨by decide, fun M y b rt h1 h2 => by cases h1; cases h2; exact ⟨gm3 68 rfl rfl, rfl, by decide +kernel, by decide⟩⟩
theorem ml_92 : xMLok (5, 128, 0, 51, 3, 0) := ⟨by decide, fun M y b rt h1 h2 => by cases h1; cases h2; exact ⟨gm3 69 rfl rfl, rfl, by decide +kernel, by decide⟩⟩
theorem ml_93 : xMLok (5, 131, 7, 0, 0, 0) := gm3 73 rfl rfl
theorem ml_94 : xMLok (10, 53, 0, 108, 1, 1) := ⟨by decide, fun M y b rt h1 h2 => by cases h1; cases h2; exact ⟨gm3 74 rfl rfl, rfl, by decide +kernel, by decide⟩⟩
theorem ml_95 : xMLok (10, 57, 0, 109, 1, 1) := ⟨by decide, fun M y b rt h1 h2 => by cases h1; cases h2; exact ⟨gm3 78 rfl rfl, rfl, by decide +kernel, by decide⟩⟩
theorem ml_96 : xMLok (8, 182, 0, 71, 2, 1) := ⟨by decide, fun M y b rt h1 h2 => by cases h1; cases h2; exact ⟨gm3 82 rfl rfl, rfl, by decide +kernel, by decide⟩⟩
theorem ml_97 : xMLok (6, 48, 0, 91, 1, 0) := ⟨by decide, fun M y b rt h1 h2 => by cases h1; cases h2; exact ⟨gm3 86 rfl rfl, rfl, by decide +kernel, by decide⟩⟩
theorem ml_98 : xMLok (6, 51, 0, 72, 1, 0) := ⟨by decide, fun M y b rt h1 h2 => by cases h1; cases h2; exact ⟨gm3 90 rfl rfl, rfl, by decide +kernel, by decide⟩⟩
theorem ml_99 : xMLok (6, 58, 8, 0, 0, 0) := gm3 94 rfl rfl
theorem ml_100 : xMLok (6, 54, 0, 76, 1, 1) := ⟨by decide, fun M y b rt h1 h2 => by cases h1; cases h2; exact ⟨gm3 95 rfl rfl, rfl, by decide +kernel, by decide⟩⟩
theorem ml_101 : xMLok (6, 77, 0, 93, 3, 0) := ⟨by decide, fun M y b rt h1 h2 => by cases h1; cases h2; exact ⟨gm3 99 rfl rfl, rfl, by decide +kernel, by decide⟩⟩
theorem ml_102 : xMLok (6, 81, 0, 78, 1, 1) := ⟨by decide, fun M y b rt h1 h2 => by cases h1; cases h2; exact ⟨gm3 103 rfl rfl, rfl, by decide +kernel, by decide⟩⟩
theorem ml_103 : xMLok (6, 89, 0, 74, 2, 1) := ⟨by decide, fun M y b rt h1 h2 => by cases h1; cases h2; exact ⟨gm3 108 rfl rfl, rfl, by decide +kernel, by decide⟩⟩
theorem ml_104 : xMLok (6, 73, 0, 73, 2, 1) := ⟨by decide, fun M y b rt h1 h2 => by cases h1; cases h2; exact ⟨gm3 112 rfl rfl, rfl, by decide +kernel, by decide⟩⟩
theorem ml_105 : xMLok (6, 64, 10, 0, 0, 0) := gm3 116 rfl rfl
theorem ml_106 : xMLok (6, 69, 11, 0, 0, 0) := gm3 126 rfl rfl
theorem ml_107 : xMLok (6, 106, 0, 79, 2, 1) := ⟨by decide, fun M y b rt h1 h2 => by cases h1; cases h2; exact ⟨gm3 164 rfl rfl, rfl, by decide +kernel, by decide⟩⟩
theorem ml_108 : xMLok (6, 121, 0, 83, 2, 1) := ⟨by decide, fun M y b rt h1 h2 => by cases h1; cases h2; exact ⟨gm3 168 rfl rfl, rfl, by decide +kernel, by decide⟩⟩
theorem ml_109 : xMLok (6, 147, 0, 84, 2, 1) := ⟨by decide, fun M y b rt h1 h2 => by cases h1; cases h2; exact ⟨gm3 172 rfl rfl, rfl, by decide +kernel, by decide⟩⟩
theorem ml_110 : xMLok (6, 150, 0, 85, 2, 1) := ⟨by decide, fun M y b rt h1 h2 => by cases h1; cases h2; exact ⟨gm3 176 rfl rfl, rfl, by decide +kernel, by decide⟩⟩
theorem ml_111 : xMLok (6, 143, 0, 75, 2, 1) := ⟨by decide, fun M y b rt h1 h2 => by cases h1; cases h2; exact ⟨gm3 180 rfl rfl, rfl, by decide +kernel, by decide⟩⟩
theorem ml_112 : xMLok (6, 129, 0, 94, 3, 0) := ⟨by decide, fun M y b rt h1 h2 => by cases h1; cases h2; exact ⟨gm3 184 rfl rfl, rfl, by decide +kernel, by decide⟩⟩
theorem ml_113 : xMLok (6, 155, 0, 86, 3, 1) := ⟨by decide, fun M y b rt h1 h2 => by cases h1; cases h2; exact ⟨gm3 189 rfl rfl, rfl, by decide +kernel, by decide⟩⟩
theorem ml_114 : xMLok (6, 161, 0, 88, 1, 1) := ⟨by decide, fun M y b rt h1 h2 => by cases h1; cases h2; exact ⟨gm3 194 rfl rfl, rfl, by decide +kernel, by decide⟩⟩
theorem ml_115 : xMLok (6, 164, 0, 87, 1, 1) := ⟨by decide, fun M y b rt h1 h2 => by cases h1; cases h2; exact ⟨gm3 204 rfl rfl, rfl, by decide +kernel, by decide⟩⟩
theorem ml_116 : xMLok (6, 84, 0, 77, 1, 1) := ⟨by decide, fun M y b rt h1 h2 => by cases h1; cases h2; exact ⟨gm3 218 rfl rfl, rfl, by decide +kernel, by decide⟩⟩
theorem ml_117 : xMLok (6, 95, 0, 80, 2, 1) := ⟨by decide, fun M y b rt h1 h2 => by cases h1; cases h2; exact ⟨gm3 225 rfl rfl, rfl, by decide +kernel, by decide⟩⟩
theorem ml_118 : xMLok (6, 124, 0, 81, 2, 1) := ⟨by decide, fun M y b rt h1 h2 => by cases h1; cases h2; exact ⟨gm3 229 rfl rfl, rfl, by decide +kernel, by decide⟩⟩
theorem ml_119 : xMLok (6, 136, 0, 82, 2, 1) := ⟨by decide, fun M y b rt h1 h2 => by cases h1; cases h2; exact ⟨gm3 233 rfl rfl, rfl, by decide +kernel, by decide⟩⟩
theorem ml_120 : xMLok (6, 132, 0, 95, 2, 0) := ⟨by decide, fun M y b rt h1 h2 => by cases h1; cases h2; exact ⟨gm3 239 rfl rfl, rfl, by decide +kernel, by decide⟩⟩
theorem ml_121 : xMLok (8, 192, 2, 90, 2, 0) := ⟨by decide, fun M y b rt h1 h2 => by cases h1; cases h2; exact ⟨gm4 5 rfl rfl, rfl, by decide +kernel, by decide⟩⟩
theorem ml_122 : xMLok (7, 34, 1, 299, 2, 4) := ⟨by decide, fun M y b rt h1 h2 => by cases h1; cases h2; exact ⟨gm4 8 rfl rfl, rfl, by decide +kernel, by decide⟩⟩
theorem ml_123 : xMLok (11, 316, 12, 0, 0, 0) := gm4 11 rfl rfl
theorem ml_124 : xMLok (11, 304, 8, 0, 0, 0) := gm4 18 rfl rfl
theorem ml_125 : xMLok (11, 150, 9, 0, 0, 0) := gm4 19 rfl rfl
theorem ml_126 : xMLok (8, 195, 0, 30, 2, 1) := ⟨by decide, fun M y b rt h1 h2 => by cases h1; cases h2; exact ⟨gm4 20 rfl rfl, rfl, by decide +kernel, by decide⟩⟩
theorem ml_127 : xMLok (10, 61, 0, 110, 1, 1) := ⟨by decide, fun M y b rt h1 h2 => by cases h1; cases h2; exact ⟨gm4 25 rfl rfl, rfl, by decide +kernel, by decide⟩⟩
theorem ml_128 : xMLok (8, 199, 0, 42, 2, 0) := ⟨by decide, fun M y b rt h1 h2 => by cases h1; cases h2; exact ⟨gm4 29 rfl rfl, rfl, by decide +kernel, by decide⟩⟩
theorem ml_129 : xMLok (5, 45, 0, 9, 2, 0) := ⟨by decide, fun M y b rt h1 h2 => by cases h1; cases h2; exact ⟨gm4 33 rfl rfl, rfl, by decide +kernel, by decide⟩⟩
theorem ml_130 : xMLok (2, 15, 9, 0, 0, 0) := gm4 37 rfl rfl
theorem ml_131 : xMLok (8, 206, 0, 148, 3, 1) := ⟨by decide, fun M y b rt h1 h2 => by cases h1; cases h2; exact ⟨gm4 38 rfl rfl, rfl, by decide +kernel, by decide⟩⟩
theorem ml_132 : xMLok (8, 344, 0, 92, 3, 1) := ⟨by decide, fun M y b rt h1 h2 => by cases h1; cases h2; exact ⟨gm4 42 rfl rfl, rfl, by decide +kernel, by decide⟩⟩
theorem ml_133 : xMLok (8, 347, 0, 149, 2, 0) := ⟨by decide, fun M y b rt h1 h2 => by cases h1; cases h2; exact ⟨gm4 43 rfl rfl, rfl, by decide +kernel, by decide⟩⟩
theorem ml_134 : xMLok (8, 353, 0, 96, 5, 1) := ⟨by decide, fun M y b rt h1 h2 => by cases h1; cases h2; exact ⟨gm4 47 rfl rfl, rfl, by decide +kernel, by decide⟩⟩
theorem ml_135 : xMLok (8, 217, 0, 147, 5, 1) := ⟨by decide, fun M y b rt h1 h2 => by cases h1; cases h2; exact ⟨gm4 49 rfl rfl, rfl, by decide +kernel, by decide⟩⟩
theorem ml_136 : xMLok (8, 329, 0, 2, 2, 0) := ⟨by decide, fun M y b rt h1 h2 => by cases h1; cases h2; exact ⟨gm4 53 rfl rfl, rfl, by decide +kernel, by decide⟩⟩
theorem ml_137 : xMLok (0, 29, 5, 40, 1, 0) := ⟨by decide, fun M y b rt h1 h2 => by cases h1; cases h2; exact ⟨List.mem_of_getElem? (i := 8) rfl, rfl, by decide +kernel, by decide⟩⟩
theorem ml_138 : xMLok (0, 30, 0, 42, 2, 0) := ⟨by decide, fun M y b rt h1 h2 => by cases h1; cases h2; exact ⟨gm4 58 rfl rfl, rfl, by decide +kernel, by decide⟩⟩
theorem ml_139 : xMLok (8, 332, 0, 52, 3, 1) := ⟨by decide, fun M y b rt h1 h2 => by cases h1; cases h2; exact ⟨gm4 59 rfl rfl, rfl, by decide +kernel, by decide⟩⟩
theorem ml_140 : xMLok (5, 136, 0, 53, 2, 1) := ⟨by decide, fun M y b rt h1 h2 => by cases h1; cases h2; exact ⟨gm4 63 rfl rfl, rfl, by decide +kernel, by decide⟩⟩
theorem ml_141 : xMLok (5, 145, 0, 11, 2, 1) := ⟨by decide, fun M y b rt h1 h2 => by cases h1; cases h2; exact ⟨gm4 67 rfl rfl, rfl, by decide +kernel, by decide⟩⟩
theorem ml_142 : xMLok (5, 139, 0, 54, 3, 0) := ⟨by decide, fun M y b rt h1 h2 => by cases h1; cases h2; exact ⟨gm4 68 rfl rfl, rfl, by decide +kernel, by decide⟩⟩
theorem ml_143 : xMLok (5, 142, 0, 25, 1, 1) := ⟨by decide, fun M y b rt h1 h2 => by cases h1; cases h2; exact ⟨gm4 72 rfl rfl, rfl, by decide +kernel, by decide⟩⟩
theorem ml_144 : xMLok (2, 45, 0, 12, 2, 1) := ⟨by decide, fun M y b rt h1 h2 => by cases h1; cases h2; exact ⟨gm4 76 rfl rfl, rfl, by decide +kernel, by decide⟩⟩
theorem ml_145 : xMLok (2, 48, 7, 0, 0, 0) := gm4 77 rfl rfl
theorem ml_146 : xMLok (8, 335, 0, 60, 2, 1) := ⟨by decide, fun M y b rt h1 h2 => by cases h1; cases h2; exact ⟨gm4 78 rfl rfl, rfl, by decide +kernel, by decide⟩⟩
theorem ml_147 : xMLok (8, 338, 0, 61, 3, 1) := ⟨by decide, fun M y b rt h1 h2 => by cases h1; cases h2; exact ⟨gm4 82 rfl rfl, rfl, by decide +kernel, by decide⟩⟩
theorem ml_148 : xMLok (5, 167, 0, 60, 2, 1) := ⟨by decide, fun M y b rt h1 h2 => by cases h1; cases h2; exact ⟨gm4 86 rfl rfl, rfl, by decide +kernel, by decide⟩⟩
theorem ml_149 : xMLok (5, 170, 0, 62, 1, 0) := ⟨by decide, fun M y b rt h1 h2 => by cases h1; cases h2; exact ⟨gm4 87 rfl rfl, rfl, by decide +kernel, by decide⟩⟩
theorem ml_150 : xMLok (5, 179, 1, 297, 2, 0) := ⟨by decide, fun M y b rt h1 h2 => by cases h1; cases h2; exact ⟨gm4 91 rfl rfl, rfl, by decide +kernel, by decide⟩⟩
theorem ml_151 : xMLok (5, 173, 0, 63, 3, 0) := ⟨by decide, fun M y b rt h1 h2 => by cases h1; cases h2; exact ⟨gm4 92 rfl rfl, rfl, by decide +kernel, by decide⟩⟩
theorem ml_152 : xMLok (5, 176, 0, 44, 1, 1) := ⟨by decide, fun M y b rt h1 h2 => by cases h1; cases h2; exact ⟨gm4 96 rfl rfl, rfl, by decide +kernel, by decide⟩⟩
theorem ml_153 : xMLok (8, 341, 0, 3, 2, 0) := ⟨by decide, fun M y b rt h1 h2 => by cases h1; cases h2; exact ⟨gm4 97 rfl rfl, rfl, by decide +kernel, by decide⟩⟩
theorem ml_154 : xMLok (0, 34, 0, 4, 3, 5) := ⟨by decide, fun M y b rt h1 h2 => by cases h1; cases h2; exact ⟨gm4 101 rfl rfl, rfl, by decide +kernel, by decide⟩⟩
theorem ml_155 : xMLok (8, 210, 0, 5, 2, 0) := ⟨by decide, fun M y b rt h1 h2 => by cases h1; cases h2; exact ⟨gm4 105 rfl rfl, rfl, by decide +kernel, by decide⟩⟩
theorem ml_156 : xMLok (10, 65, 0, 111, 1, 1) := ⟨by decide, fun M y b rt h1 h2 => by cases h1; cases h2; exact ⟨gm4 109 rfl rfl, rfl, by decide +kernel, by decide⟩⟩
theorem ml_157 : xMLok (10, 69, 0, 112, 1, 1) := ⟨by decide, fun M y b rt h1 h2 => by cases h1; cases h2; exact ⟨gm4 113 rfl rfl, rfl, by decide +kernel, by decide⟩⟩
theorem ml_158 : xMLok (10, 73, 0, 113, 2, 1) := ⟨by decide, fun M y b rt h1 h2 => by cases h1; cases h2; exact ⟨gm4 117 rfl rfl, rfl, by decide +kernel, by decide⟩⟩
theorem ml_159 : xMLok (10, 77, 0, 114, 3, 1) := ⟨by decide, fun M y b rt h1 h2 => by cases h1; cases h2; exact ⟨gm4 121 rfl rfl, rfl, by decide +kernel, by decide⟩⟩
theorem ml_160 : xMLok (8, 221, 0, 143, 2, 1) := ⟨by decide, fun M y b rt h1 h2 => by cases h1; cases h2; exact ⟨gm4 125 rfl rfl, rfl, by decide +kernel, by decide⟩⟩
theorem ml_161 : xMLok (10, 81, 0, 115, 2, 1) := ⟨by decide, fun M y b rt h1 h2 => by cases h1; cases h2; exact ⟨gm4 129 rfl rfl, rfl, by decide +kernel, by decide⟩⟩
theorem ml_162 : xMLok (10, 85, 0, 116, 2, 1) := ⟨by decide, fun M y b rt h1 h2 => by cases h1; cases h2; exact ⟨gm4 133 rfl rfl, rfl, by decide +kernel, by decide⟩⟩
theorem ml_163 : xMLok (10, 89, 0, 117, 2, 1) := ⟨by decide, fun M y b rt h1 h2 => by cases h1; cases h2; exact ⟨gm4 137 rfl rfl, rfl, by decide +kernel, by decide⟩⟩
theorem ml_164 : xMLok (10, 93, 0, 118, 1, 1) := ⟨by decide, fun M y b rt h1 h2 => by cases h1; cases h2; exact ⟨gm4 141 rfl rfl, rfl, by decide +kernel, by decide⟩⟩
theorem ml_165 : xMLok (8, 224, 0, 6, 2, 1) := ⟨by decide, fun M y b rt h1 h2 => by cases h1; cases h2; exact ⟨gm4 145 rfl rfl, rfl, by decide +kernel, by decide⟩⟩
theorem ml_166 : xMLok (10, 97, 0, 119, 3, 1) := ⟨by decide, fun M y b rt h1 h2 => by cases h1; cases h2; exact ⟨gm4 149 rfl rfl, rfl, by decide +kernel, by decide⟩⟩
theorem ml_167 : xMLok (8, 228, 0, 150, 2, 1) := ⟨by decide, fun M y b rt h1 h2 => by cases h1; cases h2; exact ⟨gm4 153 rfl rfl, rfl, by decide +kernel, by decide⟩⟩
theorem ml_168 : xMLok (10, 101, 0, 120, 2, 1) := ⟨by decide, fun M y b rt h1 h2 => by cases h1; cases h2; exact ⟨gm4 157 rfl rfl, rfl, by decide +kernel, by decide⟩⟩
theorem ml_169 : xMLok (8, 231, 0, 64, 3, 1) := ⟨by decide, fun M y b rt h1 h2 => by cases h1; cases h2; exact ⟨gm4 161 rfl rfl, rfl, by decide +kernel, by decide⟩⟩
theorem ml_170 : xMLok (5, 185, 0, 46, 3, 1) := ⟨by decide, fun M y b rt h1 h2 => by cases h1; cases h2; exact ⟨gm4 165 rfl rfl, rfl, by decide +kernel, by decide⟩⟩
theorem ml_171 : xMLok (10, 105, 0, 121, 2, 1) := ⟨by decide, fun M y b rt h1 h2 => by cases h1; cases h2; exact ⟨gm4 166 rfl rfl, rfl, by decide +kernel, by decide⟩⟩
theorem ml_172 : xMLok (8, 235, 0, 65, 2, 1) := ⟨by decide, fun M y b rt h1 h2 => by cases h1; cases h2; exact ⟨gm4 170 rfl rfl, rfl, by decide +kernel, by decide⟩⟩
theorem ml_173 : xMLok (5, 188, 0, 43, 1, 1) := ⟨by decide, fun M y b rt h1 h2 => by cases h1; cases h2; exact ⟨gm4 174 rfl rfl, rfl, by decide +kernel, by decide⟩⟩
theorem ml_174 : xMLok (10, 109, 0, 122, 1, 1) := ⟨by decide, fun M y b rt h1 h2 => by cases h1; cases h2; exact ⟨gm4 175 rfl rfl, rfl, by decide +kernel, by decide⟩⟩
theorem ml_175 : xMLok (8, 238, 0, 66, 3, 1) := ⟨by decide, fun M y b rt h1 h2 => by cases h1; cases h2; exact ⟨gm4 179 rfl rfl, rfl, by decide +kernel, by decide⟩⟩
theorem ml_176 : xMLok (10, 113, 0, 123, 1, 1) := ⟨by decide, fun M y b rt h1 h2 => by cases h1; cases h2; exact ⟨gm4 183 rfl rfl, rfl, by decide +kernel, by decide⟩⟩
theorem ml_177 : xMLok (8, 241, 0, 23, 1, 1) := ⟨by decide, fun M y b rt h1 h2 => by cases h1; cases h2; exact ⟨gm4 187 rfl rfl, rfl, by decide +kernel, by decide⟩⟩
theorem ml_178 : xMLok (10, 117, 0, 124, 2, 1) := ⟨by decide, fun M y b rt h1 h2 => by cases h1; cases h2; exact ⟨gm4 188 rfl rfl, rfl, by decide +kernel, by decide⟩⟩
theorem ml_179 : xMLok (8, 244, 1, 140, 1, 1) := ⟨by decide, fun M y b rt h1 h2 => by cases h1; cases h2; exact ⟨gm4 192 rfl rfl, rfl, by decide +kernel, by decide⟩⟩
theorem ml_180 : xMLok (8, 247, 0, 53, 2, 1) := ⟨by decide, fun M y b rt h1 h2 => by cases h1; cases h2; exact ⟨gm4 193 rfl rfl, rfl, by decide +kernel, by decide⟩⟩
theorem ml_181 : xMLok (10, 121, 0, 125, 2, 1) := ⟨by decide, fun M y b rt h1 h2 => by cases h1; cases h2; exact ⟨gm4 194 rfl rfl, rfl, by decide +kernel, by decide⟩⟩
theorem ml_182 : xMLok (8, 250, 0, 67, 3, 1) := ⟨by decide, fun M y b rt h1 h2 => by cases h1; cases h2; exact ⟨gm4 198 rfl rfl, rfl, by decide +kernel, by decide⟩⟩
theorem ml_183 : xMLok (5, 191, 1, 28, 2, 1) := ⟨by decide, fun M y b rt h1 h2 => by cases h1; cases h2; exact ⟨gm4 202 rfl rfl, rfl, by decide +kernel, by decide⟩⟩
theorem ml_184 : xMLok (10, 125, 0, 126, 1, 1) := ⟨by decide, fun M y b rt h1 h2 => by cases h1; cases h2; exact ⟨gm4 203 rfl rfl, rfl, by decide +kernel, by decide⟩⟩
theorem ml_185 : xMLok (8, 254, 0, 59, 1, 1) := ⟨by decide, fun M y b rt h1 h2 => by cases h1; cases h2; exact ⟨gm4 207 rfl rfl, rfl, by decide +kernel, by decide⟩⟩
theorem ml_186 : xMLok (10, 129, 0, 127, 3, 1) := ⟨by decide, fun M y b rt h1 h2 => by cases h1; cases h2; exact ⟨gm4 211 rfl rfl, rfl, by decide +kernel, by decide⟩⟩
theorem ml_187 : xMLok (8, 260, 0, 37, 3, 1) := ⟨by decide, fun M y b rt h1 h2 => by cases h1; cases h2; exact ⟨gm4 215 rfl rfl, rfl, by decide +kernel, by decide⟩⟩
theorem ml_188 : xMLok (10, 133, 0, 128, 1, 1) := ⟨by decide, fun M y b rt h1 h2 => by cases h1; cases h2; exact ⟨gm4 219 rfl rfl, rfl, by decide +kernel, by decide⟩⟩
theorem ml_189 : xMLok (10, 137, 0, 129, 1, 1) := ⟨by decide, fun M y b rt h1 h2 => by cases h1; cases h2; exact ⟨gm4 223 rfl rfl, rfl, by decide +kernel, by decide⟩⟩
theorem ml_190 : xMLok (8, 263, 0, 38, 2, 1) := ⟨by decide, fun M y b rt h1 h2 => by cases h1; cases h2; exact ⟨gm4 227 rfl rfl, rfl, by decide +kernel, by decide⟩⟩
theorem ml_191 : xMLok (4, 34, 0, 11, 2, 1) := ⟨by decide, fun M y b rt h1 h2 => by cases h1; cases h2; exact ⟨gm4 231 rfl rfl, rfl, by decide +kernel, by decide⟩⟩
theorem ml_192 : xMLok (4, 40, 0, 39, 3, 1) := ⟨by decide, fun M y b rt h1 h2 => by cases h1; cases h2; exact ⟨gm4 232 rfl rfl, rfl, by decide +kernel, by decide⟩⟩
theorem ml_193 : xMLok (4, 44, 0, 43, 1, 1) := ⟨by decide, fun M y b rt h1 h2 => by cases h1; cases h2; exact ⟨gm4 236 rfl rfl, rfl, by decide +kernel, by decide⟩⟩
theorem ml_194 : xMLok (10, 141, 0, 130, 2, 1) := ⟨by decide, fun M y b rt h1 h2 => by cases h1; cases h2; exact ⟨gm4 237 rfl rfl, rfl, by decide +kernel, by decide⟩⟩
theorem ml_195 : xMLok (8, 266, 1, 294, 1, 1) := ⟨by decide, fun M y b rt h1 h2 => by cases h1; cases h2; exact ⟨gm5 1 rfl rfl, rfl, by decide +kernel, by decide⟩⟩
theorem ml_196 : xMLok (8, 271, 7, 0, 0, 0) := gm5 7 rfl rfl
theorem ml_197 : xMLok (10, 145, 0, 131, 3, 3) := ⟨by decide, fun M y b rt h1 h2 => by cases h1; cases h2; exact ⟨gm5 8 rfl rfl, rfl, by decide +kernel, by decide⟩⟩
theorem ml_198 : xMLok (8, 278, 1, 296, 2, 0) := ⟨by decide, fun M y b rt h1 h2 => by cases h1; cases h2; exact ⟨gm5 13 rfl rfl, rfl, by decide +kernel, by decide⟩⟩
theorem ml_199 : xMLok (8, 283, 0, 151, 2, 0) := ⟨by decide, fun M y b rt h1 h2 => by cases h1; cases h2; exact ⟨gm5 17 rfl rfl, rfl, by decide +kernel, by decide⟩⟩
theorem ml_200 : xMLok (10, 150, 0, 132, 3, 1) := ⟨by decide, fun M y b rt h1 h2 => by cases h1; cases h2; exact ⟨gm5 22 rfl rfl, rfl, by decide +kernel, by decide⟩⟩
theorem ml_201 : xMLok (8, 286, 0, 33, 4, 1) := ⟨by decide, fun M y b rt h1 h2 => by cases h1; cases h2; exact ⟨gm5 26 rfl rfl, rfl, by decide +kernel, by decide⟩⟩
theorem ml_202 : xMLok (10, 154, 0, 133, 3, 1) := ⟨by decide, fun M y b rt h1 h2 => by cases h1; cases h2; exact ⟨gm5 27 rfl rfl, rfl, by decide +kernel, by decide⟩⟩
theorem ml_203 : xMLok (8, 291, 1, 152, 1, 1) := ⟨by decide, fun M y b rt h1 h2 => by cases h1; cases h2; exact ⟨gm5 32 rfl rfl, rfl, by decide +kernel, by decide⟩⟩
theorem ml_204 : xMLok (8, 294, 0, 153, 4, 0) := ⟨by decide, fun M y b rt h1 h2 => by cases h1; cases h2; exact ⟨gm5 38 rfl rfl, rfl, by decide +kernel, by decide⟩⟩
theorem ml_205 : xMLok (8, 372, 8, 0, 0, 0) := gm5 42 rfl rfl
theorem ml_206 : xMLok (10, 158, 0, 134, 2, 1) := ⟨by decide, fun M y b rt h1 h2 => by cases h1; cases h2; exact ⟨gm5 43 rfl rfl, rfl, by decide +kernel, by decide⟩⟩
theorem ml_207 : xMLok (10, 162, 0, 135, 2, 1) := ⟨by decide, fun M y b rt h1 h2 => by cases h1; cases h2; exact ⟨gm5 47 rfl rfl, rfl, by decide +kernel, by decide⟩⟩
theorem ml_208 : xMLok (8, 298, 5, 7, 1, 0) := ⟨by decide, fun M y b rt h1 h2 => by cases h1; cases h2; exact ⟨List.mem_of_getElem? (i := 9) rfl, rfl, by decide +kernel, by decide⟩⟩
theorem ml_209 : xMLok (1, 1, 6, 0, 0, 0) := gm5 55 rfl rfl
theorem ml_210 : xMLok (1, 9, 5, 40, 1, 0) := ⟨by decide, fun M y b rt h1 h2 => by cases h1; cases h2; exact ⟨List.mem_of_getElem? (i := 10) rfl, rfl, by decide +kernel, by decide⟩⟩
theorem ml_211 : xMLok (1, 18, 5, 26, 1, 0) := ⟨by decide, fun M y b rt h1 h2 => by cases h1; cases h2; exact ⟨List.mem_of_getElem? (i := 11) rfl, rfl, by decide +kernel, by decide⟩⟩
theorem ml_212 : xMLok (1, 25, 5, 35, 1, 0) := ⟨by decide, fun M y b rt h1 h2 => by cases h1; cases h2; exact ⟨List.mem_of_getElem? (i := 12) rfl, rfl, by decide +kernel, by decide⟩⟩
theorem ml_213 : xMLok (8, 303, 0, 27, 2, 0) := ⟨by decide, fun M y b rt h1 h2 => by cases h1; cases h2; exact ⟨gm5 75 rfl rfl, rfl, by decide +kernel, by decide⟩⟩
theorem ml_214 : xMLok (8, 307, 0, 36, 2, 0) := ⟨by decide, fun M y b rt h1 h2 => by cases h1; cases h2; exact ⟨gm5 79 rfl rfl, rfl, by decide +kernel, by decide⟩⟩
theorem ml_215 : xMLok (4, 22, 9, 0, 0, 0) := gm5 83 rfl rfl
theorem ml_216 : xMLok (10, 166, 0, 136, 2, 1) := ⟨by decide, fun M y b rt h1 h2 => by cases h1; cases h2; exact ⟨gm5 84 rfl rfl, rfl, by decide +kernel, by decide⟩⟩
theorem ml_217 : xMLok (10, 170, 0, 137, 2, 1) := ⟨by decide, fun M y b rt h1 h2 => by cases h1; cases h2; exact ⟨gm5 88 rfl rfl, rfl, by decide +kernel, by decide⟩⟩
theorem ml_218 : xMLok (10, 174, 0, 138, 1, 1) := ⟨by decide, fun M y b rt h1 h2 => by cases h1; cases h2; exact ⟨gm5 92 rfl rfl, rfl, by decide +kernel, by decide⟩⟩
theorem ml_219 : xMLok (10, 12, 2, 164, 1, 0) := ⟨by decide, fun M y b rt h1 h2 => by cases h1; cases h2; exact ⟨gm5 98 rfl rfl, rfl, by decide +kernel, by decide⟩⟩
theorem ml_220 : xMLok (9, 22, 6, 0, 0, 0) := gm5 101 rfl rfl
theorem ml_221 : xMLok (10, 165, 0, 167, 2, 1) := ⟨by decide, fun M y b rt h1 h2 => by cases h1; cases h2; exact ⟨gm6 2 rfl rfl, rfl, by decide +kernel, by decide⟩⟩
theorem ml_222 : xMLok (9, 18, 1, 154, 3, 1) := ⟨by decide, fun M y b rt h1 h2 => by cases h1; cases h2; exact ⟨gm6 6 rfl rfl, rfl, by decide +kernel, by decide⟩⟩
theorem ml_223 : xMLok (9, 94, 0, 157, 2, 1) := ⟨by decide, fun M y b rt h1 h2 => by cases h1; cases h2; exact ⟨gm6 9 rfl rfl, rfl, by decide +kernel, by decide⟩⟩
theorem ml_224 : xMLok (9, 14, 0, 158, 2, 1) := ⟨by decide, fun M y b rt h1 h2 => by cases h1; cases h2; exact ⟨gm6 13 rfl rfl, rfl, by decide +kernel, by decide⟩⟩
theorem ml_225 : xMLok (10, 169, 0, 168, 2, 1) := ⟨by decide, fun M y b rt h1 h2 => by cases h1; cases h2; exact ⟨gm6 17 rfl rfl, rfl, by decide +kernel, by decide⟩⟩
theorem ml_226 : xMLok (9, 97, 0, 159, 2, 1) := ⟨by decide, fun M y b rt h1 h2 => by cases h1; cases h2; exact ⟨gm6 21 rfl rfl, rfl, by decide +kernel, by decide⟩⟩
theorem ml_227 : xMLok (10, 17, 0, 180, 3, 1) := ⟨by decide, fun M y b rt h1 h2 => by cases h1; cases h2; exact ⟨gm6 25 rfl rfl, rfl, by decide +kernel, by decide⟩⟩
theorem ml_228 : xMLok (9, 123, 1, 162, 1, 1) := ⟨by decide, fun M y b rt h1 h2 => by cases h1; cases h2; exact ⟨gm6 29 rfl rfl, rfl, by decide +kernel, by decide⟩⟩
theorem ml_229 : xMLok (9, 100, 1, 169, 2, 1) := ⟨by decide, fun M y b rt h1 h2 => by cases h1; cases h2; exact ⟨gm6 32 rfl rfl, rfl, by decide +kernel, by decide⟩⟩
theorem ml_230 : xMLok (9, 126, 0, 179, 3, 1) := ⟨by decide, fun M y b rt h1 h2 => by cases h1; cases h2; exact ⟨gm6 35 rfl rfl, rfl, by decide +kernel, by decide⟩⟩
theorem ml_231 : xMLok (10, 21, 0, 181, 3, 1) := ⟨by decide, fun M y b rt h1 h2 => by cases h1; cases h2; exact ⟨gm6 39 rfl rfl, rfl, by decide +kernel, by decide⟩⟩
theorem ml_232 : xMLok (10, 25, 0, 183, 3, 1) := ⟨by decide, fun M y b rt h1 h2 => by cases h1; cases h2; exact ⟨gm6 43 rfl rfl, rfl, by decide +kernel, by decide⟩⟩
theorem ml_233 : xMLok (9, 129, 1, 182, 1, 1) := ⟨by decide, fun M y b rt h1 h2 => by cases h1; cases h2; exact ⟨gm6 47 rfl rfl, rfl, by decide +kernel, by decide⟩⟩
theorem ml_234 : xMLok (10, 30, 0, 184, 2, 1) := ⟨by decide, fun M y b rt h1 h2 => by cases h1; cases h2; exact ⟨gm6 50 rfl rfl, rfl, by decide +kernel, by decide⟩⟩
theorem ml_235 : xMLok (9, 114, 0, 175, 2, 1) := ⟨by decide, fun M y b rt h1 h2 => by cases h1; cases h2; exact ⟨gm6 54 rfl rfl, rfl, by decide +kernel, by decide⟩⟩
theorem ml_236 : xMLok (9, 104, 0, 170, 2, 1) := ⟨by decide, fun M y b rt h1 h2 => by cases h1; cases h2; exact ⟨gm6 58 rfl rfl, rfl, by decide +kernel, by decide⟩⟩
theorem ml_237 : xMLok (9, 108, 1, 173, 2, 1) := ⟨by decide, fun M y b rt h1 h2 => by cases h1; cases h2; exact ⟨gm6 62 rfl rfl, rfl, by decide +kernel, by decide⟩⟩
theorem ml_238 : xMLok (10, 34, 0, 185, 3, 1) := ⟨by decide, fun M y b rt h1 h2 => by cases h1; cases h2; exact ⟨gm6 65 rfl rfl, rfl, by decide +kernel, by decide⟩⟩
theorem ml_239 : xMLok (9, 132, 1, 163, 1, 1) := ⟨by decide, fun M y b rt h1 h2 => by cases h1; cases h2; exact ⟨gm6 69 rfl rfl, rfl, by decide +kernel, by decide⟩⟩
theorem ml_240 : xMLok (9, 111, 0, 174, 2, 1) := ⟨by decide, fun M y b rt h1 h2 => by cases h1; cases h2; exact ⟨gm6 72 rfl rfl, rfl, by decide +kernel, by decide⟩⟩
theorem ml_241 : xMLok (9, 135, 0, 178, 2, 1) := ⟨by decide, fun M y b rt h1 h2 => by cases h1; cases h2; exact ⟨gm6 76 rfl rfl, rfl, by decide +kernel, by decide⟩⟩
theorem ml_242 : xMLok (9, 120, 0, 177, 2, 1) := ⟨by decide, fun M y b rt h1 h2 => by cases h1; cases h2; exact ⟨gm6 80 rfl rfl, rfl, by decide +kernel, by decide⟩⟩
theorem ml_243 : xMLok (9, 117, 0, 176, 2, 1) := ⟨by decide, fun M y b rt h1 h2 => by cases h1; cases h2; exact ⟨gm6 84 rfl rfl, rfl, by decide +kernel, by decide⟩⟩
theorem ml_244 : xMLok (9, 138, 0, 234, 2, 1) := ⟨by decide, fun M y b rt h1 h2 => by cases h1; cases h2; exact ⟨gm6 88 rfl rfl, rfl, by decide +kernel, by decide⟩⟩
theorem ml_245 : xMLok (9, 320, 0, 231, 4, 0) := ⟨by decide, fun M y b rt h1 h2 => by cases h1; cases h2; exact ⟨gm6 92 rfl rfl, rfl, by decide +kernel, by decide⟩⟩
theorem ml_246 : xMLok (9, 324, 0, 232, 3, 1) := ⟨by decide, fun M y b rt h1 h2 => by cases h1; cases h2; exact ⟨gm6 96 rfl rfl, rfl, by decide +kernel, by decide⟩⟩
theorem ml_247 : xMLok (9, 267, 0, 220, 2, 1) := ⟨by decide, fun M y b rt h1 h2 => by cases h1; cases h2; exact ⟨gm6 100 rfl rfl, rfl, by decide +kernel, by decide⟩⟩
theorem ml_248 : xMLok (9, 291, 0, 223, 2, 3) := ⟨by decide, fun M y b rt h1 h2 => by cases h1; cases h2; exact ⟨gm6 104 rfl rfl, rfl, by decide +kernel, by decide⟩⟩
theorem ml_249 : xMLok (9, 277, 0, 224, 2, 3) := ⟨by decide, fun M y b rt h1 h2 => by cases h1; cases h2; exact ⟨gm6 108 rfl rfl, rfl, by decide +kernel, by decide⟩⟩
theorem ml_250 : xMLok (9, 285, 0, 225, 2, 3) := ⟨by decide, fun M y b rt h1 h2 => by cases h1; cases h2; exact ⟨gm6 112 rfl rfl, rfl, by decide +kernel, by decide⟩⟩
theorem ml_251 : xMLok (9, 223, 1, 202, 1, 1) := ⟨by decide, fun M y b rt h1 h2 => by cases h1; cases h2; exact ⟨gm6 116 rfl rfl, rfl, by decide +kernel, by decide⟩⟩
theorem ml_252 : xMLok (9, 288, 0, 221, 2, 1) := ⟨by decide, fun M y b rt h1 h2 => by cases h1; cases h2; exact ⟨gm6 119 rfl rfl, rfl, by decide +kernel, by decide⟩⟩
theorem ml_253 : xMLok (9, 297, 0, 226, 3, 1) := ⟨by decide, fun M y b rt h1 h2 => by cases h1; cases h2; exact ⟨gm6 123 rfl rfl, rfl, by decide +kernel, by decide⟩⟩
theorem ml_254 : xMLok (9, 145, 0, 172, 1, 1) := ⟨by decide, fun M y b rt h1 h2 => by cases h1; cases h2; exact ⟨gm6 127 rfl rfl, rfl, by decide +kernel, by decide⟩⟩
theorem ml_255 : xMLok (9, 281, 0, 222, 3, 3) := ⟨by decide, fun M y b rt h1 h2 => by cases h1; cases h2; exact ⟨gm6 131 rfl rfl, rfl, by decide +kernel, by decide⟩⟩
theorem ml_256 : xMLok (9, 315, 0, 227, 2, 1) := ⟨by decide, fun M y b rt h1 h2 => by cases h1; cases h2; exact ⟨gm6 137 rfl rfl, rfl, by decide +kernel, by decide⟩⟩
theorem ml_257 : xMLok (9, 306, 0, 228, 2, 1) := ⟨by decide, fun M y b rt h1 h2 => by cases h1; cases h2; exact ⟨gm6 141 rfl rfl, rfl, by decide +kernel, by decide⟩⟩
theorem ml_258 : xMLok (9, 309, 0, 229, 2, 1) := ⟨by decide, fun M y b rt h1 h2 => by cases h1; cases h2; exact ⟨gm6 145 rfl rfl, rfl, by decide +kernel, by decide⟩⟩
theorem ml_259 : xMLok (9, 312, 0, 230, 2, 1) := ⟨by decide, fun M y b rt h1 h2 => by cases h1; cases h2; exact ⟨gm6 149 rfl rfl, rfl, by decide +kernel, by decide⟩⟩
theorem ml_260 : xMLok (10, 38, 0, 188, 3, 1) := ⟨by decide, fun M y b rt h1 h2 => by cases h1; cases h2; exact ⟨gm6 154 rfl rfl, rfl, by decide +kernel, by decide⟩⟩
theorem ml_261 : xMLok (9, 141, 1, 186, 2, 1) := ⟨by decide, fun M y b rt h1 h2 => by cases h1; cases h2; exact ⟨gm6 158 rfl rfl, rfl, by decide +kernel, by decide⟩⟩
theorem ml_262 : xMLok (9, 149, 1, 187, 1, 1) := ⟨by decide, fun M y b rt h1 h2 => by cases h1; cases h2; exact ⟨gm6 161 rfl rfl, rfl, by decide +kernel, by decide⟩⟩
theorem ml_263 : xMLok (10, 52, 0, 189, 1, 1) := ⟨by decide, fun M y b rt h1 h2 => by cases h1; cases h2; exact ⟨gm6 164 rfl rfl, rfl, by decide +kernel, by decide⟩⟩
theorem ml_264 : xMLok (9, 158, 0, 243, 3, 1) := ⟨by decide, fun M y b rt h1 h2 => by cases h1; cases h2; exact ⟨gm6 168 rfl rfl, rfl, by decide +kernel, by decide⟩⟩
theorem ml_265 : xMLok (9, 351, 0, 237, 2, 0) := ⟨by decide, fun M y b rt h1 h2 => by cases h1; cases h2; exact ⟨gm6 172 rfl rfl, rfl, by decide +kernel, by decide⟩⟩
theorem ml_266 : xMLok (9, 330, 0, 236, 1, 0) := ⟨by decide, fun M y b rt h1 h2 => by cases h1; cases h2; exact ⟨gm6 176 rfl rfl, rfl, by decide +kernel, by decide⟩⟩
theorem ml_267 : xMLok (9, 327, 0, 235, 3, 0) := ⟨by decide, fun M y b rt h1 h2 => by cases h1; cases h2; exact ⟨gm6 180 rfl rfl, rfl, by decide +kernel, by decide⟩⟩
theorem ml_268 : xMLok (9, 333, 0, 233, 2, 1) := ⟨by decide, fun M y b rt h1 h2 => by cases h1; cases h2; exact ⟨gm6 184 rfl rfl, rfl, by decide +kernel, by decide⟩⟩
theorem ml_269 : xMLok (9, 336, 1, 155, 2, 1) := ⟨by decide, fun M y b rt h1 h2 => by cases h1; cases h2; exact ⟨gm6 188 rfl rfl, rfl, by decide +kernel, by decide⟩⟩
theorem ml_270 : xMLok (9, 357, 0, 165, 2, 0) := ⟨by decide, fun M y b rt h1 h2 => by cases h1; cases h2; exact ⟨gm6 191 rfl rfl, rfl, by decide +kernel, by decide⟩⟩
theorem ml_271 : xMLok (9, 360, 0, 242, 3, 1) := ⟨by decide, fun M y b rt h1 h2 => by cases h1; cases h2; exact ⟨gm6 195 rfl rfl, rfl, by decide +kernel, by decide⟩⟩
theorem ml_272 : xMLok (9, 354, 0, 241, 2, 1) := ⟨by decide, fun M y b rt h1 h2 => by cases h1; cases h2; exact ⟨gm6 199 rfl rfl, rfl, by decide +kernel, by decide⟩⟩
theorem ml_273 : xMLok (9, 339, 0, 240, 1, 1) := ⟨by decide, fun M y b rt h1 h2 => by cases h1; cases h2; exact ⟨gm6 203 rfl rfl, rfl, by decide +kernel, by decide⟩⟩
theorem ml_274 : xMLok (9, 342, 1, 160, 2, 1) := ⟨by decide, fun M y b rt h1 h2 => by cases h1; cases h2; exact ⟨gm6 207 rfl rfl, rfl, by decide +kernel, by decide⟩⟩
theorem ml_275 : xMLok (9, 345, 0, 238, 4, 0) := ⟨by decide, fun M y b rt h1 h2 => by cases h1; cases h2; exact ⟨gm6 210 rfl rfl, rfl, by decide +kernel, by decide⟩⟩
theorem ml_276 : xMLok (9, 348, 0, 239, 3, 0) := ⟨by decide, fun M y b rt h1 h2 => by cases h1; cases h2; exact ⟨gm6 214 rfl rfl, rfl, by decide +kernel, by decide⟩⟩
theorem ml_277 : xMLok (9, 363, 0, 166, 2, 0) := ⟨by decide, fun M y b rt h1 h2 => by cases h1; cases h2; exact ⟨gm6 218 rfl rfl, rfl, by decide +kernel, by decide⟩⟩
theorem ml_278 : xMLok (10, 56, 0, 190, 1, 1) := ⟨by decide, fun M y b rt h1 h2 => by cases h1; cases h2; exact ⟨gm6 222 rfl rfl, rfl, by decide +kernel, by decide⟩⟩
theorem ml_279 : xMLok (10, 43, 0, 191, 6, 1) := ⟨by decide, fun M y b rt h1 h2 => by cases h1; cases h2; exact ⟨gm6 226 rfl rfl, rfl, by decide +kernel, by decide⟩⟩
theorem ml_280 : xMLok (10, 47, 0, 192, 2, 1) := ⟨by decide, fun M y b rt h1 h2 => by cases h1; cases h2; exact ⟨gm6 230 rfl rfl, rfl, by decide +kernel, by decide⟩⟩
theorem ml_281 : xMLok (10, 60, 0, 216, 1, 1) := ⟨by decide, fun M y b rt h1 h2 => by cases h1; cases h2; exact ⟨gm6 234 rfl rfl, rfl, by decide +kernel, by decide⟩⟩
theorem ml_282 : xMLok (9, 251, 0, 214, 2, 1) := ⟨by decide, fun M y b rt h1 h2 => by cases h1; cases h2; exact ⟨gm6 238 rfl rfl, rfl, by decide +kernel, by decide⟩⟩
theorem ml_283 : xMLok (9, 248, 0, 213, 1, 1) := ⟨by decide, fun M y b rt h1 h2 => by cases h1; cases h2; exact ⟨gm7 2 rfl rfl, rfl, by decide +kernel, by decide⟩⟩
theorem ml_284 : xMLok (9, 242, 0, 196, 2, 0) := ⟨by decide, fun M y b rt h1 h2 => by cases h1; cases h2; exact ⟨gm7 6 rfl rfl, rfl, by decide +kernel, by decide⟩⟩
theorem ml_285 : xMLok (9, 164, 1, 193, 1, 1) := ⟨by decide, fun M y b rt h1 h2 => by cases h1; cases h2; exact ⟨gm7 10 rfl rfl, rfl, by decide +kernel, by decide⟩⟩
theorem ml_286 : xMLok (9, 167, 1, 194, 1, 1) := ⟨by decide, fun M y b rt h1 h2 => by cases h1; cases h2; exact ⟨gm7 13 rfl rfl, rfl, by decide +kernel, by decide⟩⟩
theorem ml_287 : xMLok (9, 170, 0, 195, 3, 1) := ⟨by decide, fun M y b rt h1 h2 => by cases h1; cases h2; exact ⟨gm7 16 rfl rfl, rfl, by decide +kernel, by decide⟩⟩
theorem ml_288 : xMLok (9, 245, 0, 206, 1, 0) := ⟨by decide, fun M y b rt h1 h2 => by cases h1; cases h2; exact ⟨gm7 21 rfl rfl, rfl, by decide +kernel, by decide⟩⟩
theorem ml_289 : xMLok (9, 211, 0, 205, 1, 0) := ⟨by decide, fun M y b rt h1 h2 => by cases h1; cases h2; exact ⟨gm7 25 rfl rfl, rfl, by decide +kernel, by decide⟩⟩
theorem ml_290 : xMLok (9, 184, 0, 199, 2, 1) := ⟨by decide, fun M y b rt h1 h2 => by cases h1; cases h2; exact ⟨gm7 29 rfl rfl, rfl, by decide +kernel, by decide⟩⟩
theorem ml_291 : xMLok (9, 177, 0, 197, 1, 1) := ⟨by decide, fun M y b rt h1 h2 => by cases h1; cases h2; exact ⟨gm7 33 rfl rfl, rfl, by decide +kernel, by decide⟩⟩
theorem ml_292 : xMLok (9, 193, 0, 210, 2, 0) := ⟨by decide, fun M y b rt h1 h2 => by cases h1; cases h2; exact ⟨gm7 37 rfl rfl, rfl, by decide +kernel, by decide⟩⟩
theorem ml_293 : xMLok (9, 227, 0, 211, 2, 0) := ⟨by decide, fun M y b rt h1 h2 => by cases h1; cases h2; exact ⟨gm7 41 rfl rfl, rfl, by decide +kernel, by decide⟩⟩
theorem ml_294 : xMLok (9, 230, 0, 212, 2, 0) := ⟨by decide, fun M y b rt h1 h2 => by cases h1; cases h2; exact ⟨gm7 45 rfl rfl, rfl, by decide +kernel, by decide⟩⟩
theorem ml_295 : xMLok (9, 187, 0, 198, 1, 0) := ⟨by decide, fun M y b rt h1 h2 => by cases h1; cases h2; exact ⟨gm7 49 rfl rfl, rfl, by decide +kernel, by decide⟩⟩
theorem ml_296 : xMLok (9, 197, 0, 200, 2, 0) := ⟨by decide, fun M y b rt h1 h2 => by cases h1; cases h2; exact ⟨gm7 53 rfl rfl, rfl, by decide +kernel, by decide⟩⟩
theorem ml_297 : xMLok (9, 239, 0, 201, 1, 0) := ⟨by decide, fun M y b rt h1 h2 => by cases h1; cases h2; exact ⟨gm7 57 rfl rfl, rfl, by decide +kernel, by decide⟩⟩
theorem ml_298 : xMLok (9, 203, 0, 203, 3, 0) := ⟨by decide, fun M y b rt h1 h2 => by cases h1; cases h2; exact ⟨gm7 61 rfl rfl, rfl, by decide +kernel, by decide⟩⟩
theorem ml_299 : xMLok (9, 200, 0, 207, 2, 0) := ⟨by decide, fun M y b rt h1 h2 => by cases h1; cases h2; exact ⟨gm7 65 rfl rfl, rfl, by decide +kernel, by decide⟩⟩
theorem ml_300 : xMLok (9, 217, 0, 208, 2, 0) := ⟨by decide, fun M y b rt h1 h2 => by cases h1; cases h2; exact ⟨gm7 69 rfl rfl, rfl, by decide +kernel, by decide⟩⟩
theorem ml_301 : xMLok (9, 220, 0, 209, 2, 0) := ⟨by decide, fun M y b rt h1 h2 => by cases h1; cases h2; exact ⟨gm7 73 rfl rfl, rfl, by decide +kernel, by decide⟩⟩
theorem ml_302 : xMLok (9, 214, 0, 204, 1, 0) := ⟨by decide, fun M y b rt h1 h2 => by cases h1; cases h2; exact ⟨gm7 77 rfl rfl, rfl, by decide +kernel, by decide⟩⟩
theorem ml_303 : xMLok (9, 255, 0, 215, 2, 0) := ⟨by decide, fun M y b rt h1 h2 => by cases h1; cases h2; exact ⟨gm7 81 rfl rfl, rfl, by decide +kernel, by decide⟩⟩
theorem ml_304 : xMLok (10, 68, 0, 217, 1, 1) := ⟨by decide, fun M y b rt h1 h2 => by cases h1; cases h2; exact ⟨gm7 85 rfl rfl, rfl, by decide +kernel, by decide⟩⟩
theorem ml_305 : xMLok (10, 76, 0, 219, 2, 1) := ⟨by decide, fun M y b rt h1 h2 => by cases h1; cases h2; exact ⟨gm7 89 rfl rfl, rfl, by decide +kernel, by decide⟩⟩
theorem ml_306 : xMLok (9, 258, 0, 218, 2, 1) := ⟨by decide, fun M y b rt h1 h2 => by cases h1; cases h2; exact ⟨gm7 93 rfl rfl, rfl, by decide +kernel, by decide⟩⟩
theorem ml_307 : xMLok (10, 96, 0, 253, 1, 1) := ⟨by decide, fun M y b rt h1 h2 => by cases h1; cases h2; exact ⟨gm7 97 rfl rfl, rfl, by decide +kernel, by decide⟩⟩
theorem ml_308 : xMLok (10, 80, 0, 260, 3, 1) := ⟨by decide, fun M y b rt h1 h2 => by cases h1; cases h2; exact ⟨gm7 101 rfl rfl, rfl, by decide +kernel, by decide⟩⟩
theorem ml_309 : xMLok (9, 399, 0, 256, 3, 1) := ⟨by decide, fun M y b rt h1 h2 => by cases h1; cases h2; exact ⟨gm7 105 rfl rfl, rfl, by decide +kernel, by decide⟩⟩
theorem ml_310 : xMLok (9, 390, 0, 255, 3, 1) := ⟨by decide, fun M y b rt h1 h2 => by cases h1; cases h2; exact ⟨gm7 109 rfl rfl, rfl, by decide +kernel, by decide⟩⟩
theorem ml_311 : xMLok (9, 387, 0, 252, 2, 0) := ⟨by decide, fun M y b rt h1 h2 => by cases h1; cases h2; exact ⟨gm7 113 rfl rfl, rfl, by decide +kernel, by decide⟩⟩
theorem ml_312 : xMLok (9, 402, 0, 254, 2, 1) := ⟨by decide, fun M y b rt h1 h2 => by cases h1; cases h2; exact ⟨gm7 117 rfl rfl, rfl, by decide +kernel, by decide⟩⟩
theorem ml_313 : xMLok (10, 84, 0, 261, 2, 1) := ⟨by decide, fun M y b rt h1 h2 => by cases h1; cases h2; exact ⟨gm7 121 rfl rfl, rfl, by decide +kernel, by decide⟩⟩
theorem ml_314 : xMLok (9, 405, 0, 257, 2, 1) := ⟨by decide, fun M y b rt h1 h2 => by cases h1; cases h2; exact ⟨gm7 125 rfl rfl, rfl, by decide +kernel, by decide⟩⟩
theorem ml_315 : xMLok (9, 393, 0, 248, 2, 1) := ⟨by decide, fun M y b rt h1 h2 => by cases h1; cases h2; exact ⟨gm7 129 rfl rfl, rfl, by decide +kernel, by decide⟩⟩
theorem ml_316 : xMLok (9, 372, 0, 245, 2, 1) := ⟨by decide, fun M y b rt h1 h2 => by cases h1; cases h2; exact ⟨gm7 133 rfl rfl, rfl, by decide +kernel, by decide⟩⟩
theorem ml_317 : xMLok (9, 366, 0, 244, 2, 1) := ⟨by decide, fun M y b rt h1 h2 => by cases h1; cases h2; exact ⟨gm7 137 rfl rfl, rfl, by decide +kernel, by decide⟩⟩
theorem ml_318 : xMLok (9, 375, 0, 246, 2, 1) := ⟨by decide, fun M y b rt h1 h2 => by cases h1; cases h2; exact ⟨gm7 141 rfl rfl, rfl, by decide +kernel, by decide⟩⟩
theorem ml_319 : xMLok (9, 378, 0, 247, 1, 1) := ⟨by decide, fun M y b rt h1 h2 => by cases h1; cases h2; exact ⟨gm7 145 rfl rfl, rfl, by decide +kernel, by decide⟩⟩
theorem ml_320 : xMLok (9, 369, 1, 156, 2, 1) := ⟨by decide, fun M y b rt h1 h2 => by cases h1; cases h2; exact ⟨gm7 149 rfl rfl, rfl, by decide +kernel, by decide⟩⟩
theorem ml_321 : xMLok (10, 88, 0, 262, 2, 1) := ⟨by decide, fun M y b rt h1 h2 => by cases h1; cases h2; exact ⟨gm7 152 rfl rfl, rfl, by decide +kernel, by decide⟩⟩
theorem ml_322 : xMLok (9, 408, 0, 258, 2, 1) := ⟨by decide, fun M y b rt h1 h2 => by cases h1; cases h2; exact ⟨gm7 156 rfl rfl, rfl, by decide +kernel, by decide⟩⟩
theorem ml_323 : xMLok (10, 92, 0, 263, 2, 1) := ⟨by decide, fun M y b rt h1 h2 => by cases h1; cases h2; exact ⟨gm7 160 rfl rfl, rfl, by decide +kernel, by decide⟩⟩
theorem ml_324 : xMLok (9, 411, 0, 259, 2, 1) := ⟨by decide, fun M y b rt h1 h2 => by cases h1; cases h2; exact ⟨gm7 164 rfl rfl, rfl, by decide +kernel, by decide⟩⟩
theorem ml_325 : xMLok (9, 396, 0, 251, 2, 0) := ⟨by decide, fun M y b rt h1 h2 => by cases h1; cases h2; exact ⟨gm7 168 rfl rfl, rfl, by decide +kernel, by decide⟩⟩
theorem ml_326 : xMLok (9, 381, 0, 249, 2, 1) := ⟨by decide, fun M y b rt h1 h2 => by cases h1; cases h2; exact ⟨gm7 172 rfl rfl, rfl, by decide +kernel, by decide⟩⟩
theorem ml_327 : xMLok (9, 384, 0, 250, 3, 0) := ⟨by decide, fun M y b rt h1 h2 => by cases h1; cases h2; exact ⟨gm7 176 rfl rfl, rfl, by decide +kernel, by decide⟩⟩
theorem ml_328 : xMLok (10, 100, 0, 264, 3, 1) := ⟨by decide, fun M y b rt h1 h2 => by cases h1; cases h2; exact ⟨gm7 180 rfl rfl, rfl, by decide +kernel, by decide⟩⟩
theorem ml_329 : xMLok (10, 104, 0, 265, 2, 1) := ⟨by decide, fun M y b rt h1 h2 => by cases h1; cases h2; exact ⟨gm7 184 rfl rfl, rfl, by decide +kernel, by decide⟩⟩
theorem ml_330 : xMLok (10, 108, 0, 266, 2, 1) := ⟨by decide, fun M y b rt h1 h2 => by cases h1; cases h2; exact ⟨gm7 188 rfl rfl, rfl, by decide +kernel, by decide⟩⟩
theorem ml_331 : xMLok (9, 414, 0, 184, 2, 1) := ⟨by decide, fun M y b rt h1 h2 => by cases h1; cases h2; exact ⟨gm7 192 rfl rfl, rfl, by decide +kernel, by decide⟩⟩
theorem ml_332 : xMLok (10, 112, 0, 268, 1, 1) := ⟨by decide, fun M y b rt h1 h2 => by cases h1; cases h2; exact ⟨gm7 193 rfl rfl, rfl, by decide +kernel, by decide⟩⟩
theorem ml_333 : xMLok (9, 417, 0, 267, 2, 1) := ⟨by decide, fun M y b rt h1 h2 => by cases h1; cases h2; exact ⟨gm7 197 rfl rfl, rfl, by decide +kernel, by decide⟩⟩
theorem ml_334 : xMLok (10, 116, 0, 269, 1, 1) := ⟨by decide, fun M y b rt h1 h2 => by cases h1; cases h2; exact ⟨gm7 201 rfl rfl, rfl, by decide +kernel, by decide⟩⟩
theorem ml_335 : xMLok (9, 420, 0, 171, 1, 1) := ⟨by decide, fun M y b rt h1 h2 => by cases h1; cases h2; exact ⟨gm7 205 rfl rfl, rfl, by decide +kernel, by decide⟩⟩
theorem ml_336 : xMLok (10, 120, 0, 270, 2, 1) := ⟨by decide, fun M y b rt h1 h2 => by cases h1; cases h2; exact ⟨gm7 209 rfl rfl, rfl, by decide +kernel, by decide⟩⟩
theorem ml_337 : xMLok (10, 124, 0, 273, 2, 1) := ⟨by decide, fun M y b rt h1 h2 => by cases h1; cases h2; exact ⟨gm7 213 rfl rfl, rfl, by decide +kernel, by decide⟩⟩
theorem ml_338 : xMLok (9, 426, 0, 272, 2, 1) := ⟨by decide, fun M y b rt h1 h2 => by cases h1; cases h2; exact ⟨gm7 217 rfl rfl, rfl, by decide +kernel, by decide⟩⟩
theorem ml_339 : xMLok (9, 423, 0, 271, 1, 0) := ⟨by decide, fun M y b rt h1 h2 => by cases h1; cases h2; exact ⟨gm7 221 rfl rfl, rfl, by decide +kernel, by decide⟩⟩
theorem ml_340 : xMLok (10, 128, 0, 274, 1, 1) := ⟨by decide, fun M y b rt h1 h2 => by cases h1; cases h2; exact ⟨gm7 225 rfl rfl, rfl, by decide +kernel, by decide⟩⟩
theorem ml_341 : xMLok (10, 132, 0, 275, 3, 1) := ⟨by decide, fun M y b rt h1 h2 => by cases h1; cases h2; exact ⟨gm7 229 rfl rfl, rfl, by decide +kernel, by decide⟩⟩
theorem ml_342 : xMLok (10, 136, 0, 276, 1, 1) := ⟨by decide, fun M y b rt h1 h2 => by cases h1; cases h2; exact ⟨gm7 233 rfl rfl, rfl, by decide +kernel, by decide⟩⟩
theorem ml_343 : xMLok (10, 140, 0, 278, 1, 1) := ⟨by decide, fun M y b rt h1 h2 => by cases h1; cases h2; exact ⟨gm7 237 rfl rfl, rfl, by decide +kernel, by decide⟩⟩
theorem ml_344 : xMLok (9, 429, 0, 277, 2, 1) := ⟨by decide, fun M y b rt h1 h2 => by cases h1; cases h2; exact ⟨gm8 1 rfl rfl, rfl, by decide +kernel, by decide⟩⟩
theorem ml_345 : xMLok (10, 144, 0, 279, 2, 1) := ⟨by decide, fun M y b rt h1 h2 => by cases h1; cases h2; exact ⟨gm8 5 rfl rfl, rfl, by decide +kernel, by decide⟩⟩
theorem ml_346 : xMLok (9, 432, 0, 278, 1, 1) := ⟨by decide, fun M y b rt h1 h2 => by cases h1; cases h2; exact ⟨gm8 9 rfl rfl, rfl, by decide +kernel, by decide⟩⟩
theorem ml_347 : xMLok (9, 435, 1, 161, 1, 1) := ⟨by decide, fun M y b rt h1 h2 => by cases h1; cases h2; exact ⟨gm8 10 rfl rfl, rfl, by decide +kernel, by decide⟩⟩
theorem ml_348 : xMLok (10, 149, 0, 280, 3, 3) := ⟨by decide, fun M y b rt h1 h2 => by cases h1; cases h2; exact ⟨gm8 13 rfl rfl, rfl, by decide +kernel, by decide⟩⟩
theorem ml_349 : xMLok (10, 153, 0, 281, 3, 1) := ⟨by decide, fun M y b rt h1 h2 => by cases h1; cases h2; exact ⟨gm8 20 rfl rfl, rfl, by decide +kernel, by decide⟩⟩
theorem ml_350 : xMLok (10, 72, 0, 282, 1, 1) := ⟨by decide, fun M y b rt h1 h2 => by cases h1; cases h2; exact ⟨gm8 24 rfl rfl, rfl, by decide +kernel, by decide⟩⟩
theorem ml_351 : xMLok (10, 64, 0, 283, 1, 1) := ⟨by decide, fun M y b rt h1 h2 => by cases h1; cases h2; exact ⟨gm8 28 rfl rfl, rfl, by decide +kernel, by decide⟩⟩
theorem ml_352 : xMLok (9, 447, 0, 287, 2, 1) := ⟨by decide, fun M y b rt h1 h2 => by cases h1; cases h2; exact ⟨gm8 32 rfl rfl, rfl, by decide +kernel, by decide⟩⟩
theorem ml_353 : xMLok (9, 468, 0, 284, 3, 0) := ⟨by decide, fun M y b rt h1 h2 => by cases h1; cases h2; exact ⟨gm8 36 rfl rfl, rfl, by decide +kernel, by decide⟩⟩
theorem ml_354 : xMLok (9, 472, 0, 286, 1, 1) := ⟨by decide, fun M y b rt h1 h2 => by cases h1; cases h2; exact ⟨gm8 40 rfl rfl, rfl, by decide +kernel, by decide⟩⟩
theorem ml_355 : xMLok (9, 464, 1, 285, 1, 1) := ⟨by decide, fun M y b rt h1 h2 => by cases h1; cases h2; exact ⟨gm8 44 rfl rfl, rfl, by decide +kernel, by decide⟩⟩
theorem ml_356 : xMLok (10, 157, 0, 290, 3, 1) := ⟨by decide, fun M y b rt h1 h2 => by cases h1; cases h2; exact ⟨gm8 48 rfl rfl, rfl, by decide +kernel, by decide⟩⟩
theorem ml_357 : xMLok (9, 490, 0, 289, 1, 0) := ⟨by decide, fun M y b rt h1 h2 => by cases h1; cases h2; exact ⟨gm8 52 rfl rfl, rfl, by decide +kernel, by decide⟩⟩
theorem ml_358 : xMLok (9, 484, 0, 288, 2, 1) := ⟨by decide, fun M y b rt h1 h2 => by cases h1; cases h2; exact ⟨gm8 56 rfl rfl, rfl, by decide +kernel, by decide⟩⟩
theorem ml_359 : xMLok (10, 161, 0, 291, 2, 1) := ⟨by decide, fun M y b rt h1 h2 => by cases h1; cases h2; exact ⟨gm8 63 rfl rfl, rfl, by decide +kernel, by decide⟩⟩
theorem ml_360 : xMLok (10, 173, 0, 292, 2, 1) := ⟨by decide, fun M y b rt h1 h2 => by cases h1; cases h2; exact ⟨gm8 67 rfl rfl, rfl, by decide +kernel, by decide⟩⟩
theorem ml_361 : xMLok (10, 177, 0, 293, 1, 1) := ⟨by decide, fun M y b rt h1 h2 => by cases h1; cases h2; exact ⟨gm8 71 rfl rfl, rfl, by decide +kernel, by decide⟩⟩
set_option maxRecDepth 100000 in
theorem ml_all : ∀ e ∈ xML, xMLok e := by
  unfold xML
  exact List.forall_mem_cons.mpr ⟨ml_0, List.forall_mem_cons.mpr ⟨ml_1, List.forall_mem_cons.mpr ⟨ml_2, List.forall_mem_cons.mpr ⟨ml_3, List.forall_mem_cons.mpr ⟨ml_4, List.forall_mem_cons.mpr ⟨ml_5, List.forall_mem_cons.mpr ⟨ml_6, List.forall_mem_cons.mpr ⟨ml_7, List.forall_mem_cons.mpr ⟨ml_8, List.forall_mem_cons.mpr ⟨ml_9, List.forall_mem_cons.mpr ⟨ml_10, List.forall_mem_cons.mpr ⟨ml_11, List.forall_mem_cons.mpr ⟨ml_12, List.forall_mem_cons.mpr ⟨ml_13, List.forall_mem_cons.mpr ⟨ml_14, List.forall_mem_cons.mpr ⟨ml_15, List.forall_mem_cons.mpr ⟨ml_16, List.forall_mem_cons.mpr ⟨ml_17, List.forall_mem_cons.mpr ⟨ml_18, List.forall_mem_cons.mpr ⟨ml_19, List.forall_mem_cons.mpr ⟨ml_20, List.forall_mem_cons.mpr ⟨ml_21, List.forall_mem_cons.mpr ⟨ml_22, List.forall_mem_cons.mpr ⟨ml_23, List.forall_mem_cons.mpr ⟨ml_24, List.forall_mem_cons.mpr ⟨ml_25, List.forall_mem_cons.mpr ⟨ml_26, List.forall_mem_cons.mpr ⟨ml_27, List.forall_mem_cons.mpr ⟨ml_28, List.forall_mem_cons.mpr ⟨ml_29, List.forall_mem_cons.mpr ⟨ml_30, List.forall_mem_cons.mpr ⟨ml_31, List.forall_mem_cons.mpr ⟨ml_32, List.forall_mem_cons.mpr ⟨ml_33, List.forall_mem_cons.mpr ⟨ml_34, List.forall_mem_cons.mpr ⟨ml_35, List.forall_mem_cons.mpr ⟨ml_36, List.forall_mem_cons.mpr ⟨ml_37, List.forall_mem_cons.mpr ⟨ml_38, List.forall_mem_cons.mpr ⟨ml_39, List.forall_mem_cons.mpr ⟨ml_40, List.forall_mem_cons.mpr ⟨ml_41, List.forall_mem_cons.mpr ⟨ml_42, List.forall_mem_cons.mpr ⟨ml_43, List.forall_mem_cons.mpr ⟨ml_44, List.forall_mem_cons.mpr ⟨ml_45, List.forall_mem_cons.mpr ⟨ml_46, List.forall_mem_cons.mpr ⟨ml_47, List.forall_mem_cons.mpr ⟨ml_48, List.forall_mem_cons.mpr ⟨ml_49, List.forall_mem_cons.mpr ⟨ml_50, List.forall_mem_cons.mpr ⟨ml_51, List.forall_mem_cons.mpr ⟨ml_52, List.forall_mem_cons.mpr ⟨ml_53, List.forall_mem_cons.mpr ⟨ml_54, List.forall_mem_cons.mpr ⟨ml_55, List.forall_mem_cons.mpr ⟨ml_56, List.forall_mem_cons.mpr ⟨ml_57, List.forall_mem_cons.mpr ⟨ml_58, List.forall_mem_cons.mpr ⟨ml_59, List.forall_mem_cons.mpr ⟨ml_60, List.forall_mem_cons.mpr ⟨ml_61, List.forall_mem_cons.mpr ⟨ml_62, List.forall_mem_cons.mpr ⟨ml_63, List.forall_mem_cons.mpr ⟨ml_64, List.forall_mem_cons.mpr ⟨ml_65, List.forall_mem_cons.mpr ⟨ml_66, List.forall_mem_cons.mpr ⟨ml_67, List.forall_mem_cons.mpr ⟨ml_68, List.forall_mem_cons.mpr ⟨ml_69, List.forall_mem_cons.mpr ⟨ml_70, List.forall_mem_cons.mpr ⟨ml_71, List.forall_mem_cons.mpr ⟨ml_72, List.forall_mem_cons.mpr ⟨ml_73, List.forall_mem_cons.mpr ⟨ml_74, List.forall_mem_cons.mpr ⟨ml_75, List.forall_mem_cons.mpr ⟨ml_76, List.forall_mem_cons.mpr ⟨ml_77, List.forall_mem_cons.mpr ⟨ml_78, List.forall_mem_cons.mpr ⟨ml_79, List.forall_mem_cons.mpr ⟨ml_80, List.forall_mem_cons.mpr ⟨ml_81, List.forall_mem_cons.mpr ⟨ml_82, List.forall_mem_cons.mpr ⟨ml_83, List.forall_mem_cons.mpr ⟨ml_84, List.forall_mem_cons.mpr ⟨ml_85, List.forall_mem_cons.mpr ⟨ml_86, List.forall_mem_cons.mpr ⟨ml_87, List.forall_mem_cons.mpr ⟨ml_88, List.forall_mem_cons.mpr ⟨ml_89, List.forall_mem_cons.mpr ⟨ml_90, List.forall_mem_cons.mpr ⟨ml_91, List.forall_mem_cons.mpr ⟨ml_92, List.forall_mem_cons.mpr ⟨ml_93, List.forall_mem_cons.mpr ⟨ml_94, List.forall_mem_cons.mpr ⟨ml_95, List.forall_mem_cons.mpr ⟨ml_96, List.forall_mem_cons.mpr ⟨ml_97, List.forall_mem_cons.mpr ⟨ml_98, List.forall_mem_cons.mpr ⟨ml_99, List.forall_mem_cons.mpr ⟨ml_100, List.forall_mem_cons.mpr ⟨ml_101, List.forall_mem_cons.mpr ⟨ml_102, List.forall_mem_cons.mpr ⟨ml_103, List.forall_mem_cons.mpr ⟨ml_104, List.forall_mem_cons.mpr ⟨ml_105, List.forall_mem_cons.mpr ⟨ml_106, List.forall_mem_cons.mpr ⟨ml_107, List.forall_mem_cons.mpr ⟨ml_108, List.forall_mem_cons.mpr ⟨ml_109, List.forall_mem_cons.mpr ⟨ml_110, List.forall_mem_cons.mpr ⟨ml_111, List.forall_mem_cons.mpr ⟨ml_112, List.forall_mem_cons.mpr ⟨ml_113, List.forall_mem_cons.mpr ⟨ml_114, List.forall_mem_cons.mpr ⟨ml_115, List.forall_mem_cons.mpr ⟨ml_116, List.forall_mem_cons.mpr ⟨ml_117, List.forall_mem_cons.mpr ⟨ml_118, List.forall_mem_cons.mpr ⟨ml_119, List.forall_mem_cons.mpr ⟨ml_120, List.forall_mem_cons.mpr ⟨ml_121, List.forall_mem_cons.mpr ⟨ml_122, List.forall_mem_cons.mpr ⟨ml_123, List.forall_mem_cons.mpr ⟨ml_124, List.forall_mem_cons.mpr ⟨ml_125, List.forall_mem_cons.mpr ⟨ml_126, List.forall_mem_cons.mpr ⟨ml_127, List.forall_mem_cons.mpr ⟨ml_128, List.forall_mem_cons.mpr ⟨ml_129, List.forall_mem_cons.mpr ⟨ml_130, List.forall_mem_cons.mpr ⟨ml_131, List.forall_mem_cons.mpr ⟨ml_132, List.forall_mem_cons.mpr ⟨ml_133, List.forall_mem_cons.mpr ⟨ml_134, List.forall_mem_cons.mpr ⟨ml_135, List.forall_mem_cons.mpr ⟨ml_136, List.forall_mem_cons.mpr ⟨ml_137, List.forall_mem_cons.mpr ⟨ml_138, List.forall_mem_cons.mpr ⟨ml_139, List.forall_mem_cons.mpr ⟨ml_140, List.forall_mem_cons.mpr ⟨ml_141, List.forall_mem_cons.mpr ⟨ml_142, List.forall_mem_cons.mpr ⟨ml_143, List.forall_mem_cons.mpr ⟨ml_144, List.forall_mem_cons.mpr ⟨ml_145, List.forall_mem_cons.mpr ⟨ml_146, List.forall_mem_cons.mpr ⟨ml_147, List.forall_mem_cons.mpr ⟨ml_148, List.forall_mem_cons.mpr ⟨ml_149, List.forall_mem_cons.mpr ⟨ml_150, List.forall_mem_cons.mpr ⟨ml_151, List.forall_mem_cons.mpr ⟨ml_152, List.forall_mem_cons.mpr ⟨ml_153, List.forall_mem_cons.mpr ⟨ml_154, List.forall_mem_cons.mpr ⟨ml_155, List.forall_mem_cons.mpr ⟨ml_156, List.forall_mem_cons.mpr ⟨ml_157, List.forall_mem_cons.mpr ⟨ml_158, List.forall_mem_cons.mpr ⟨ml_159, List.forall_mem_cons.mpr ⟨ml_160, List.forall_mem_cons.mpr ⟨ml_161, List.forall_mem_cons.mpr ⟨ml_162, List.forall_mem_cons.mpr ⟨ml_163, List.forall_mem_cons.mpr ⟨ml_164, List.forall_mem_cons.mpr ⟨ml_165, List.forall_mem_cons.mpr ⟨ml_166, List.forall_mem_cons.mpr ⟨ml_167, List.forall_mem_cons.mpr ⟨ml_168, List.forall_mem_cons.mpr ⟨ml_169, List.forall_mem_cons.mpr ⟨ml_170, List.forall_mem_cons.mpr ⟨ml_171, List.forall_mem_cons.mpr ⟨ml_172, List.forall_mem_cons.mpr ⟨ml_173, List.forall_mem_cons.mpr ⟨ml_174, List.forall_mem_cons.mpr ⟨ml_175, List.forall_mem_cons.mpr ⟨ml_176, List.forall_mem_cons.mpr ⟨ml_177, List.forall_mem_cons.mpr ⟨ml_178, List.forall_mem_cons.mpr ⟨ml_179, List.forall_mem_cons.mpr ⟨ml_180, List.forall_mem_cons.mpr ⟨ml_181, List.forall_mem_cons.mpr ⟨ml_182, List.forall_mem_cons.mpr ⟨ml_183, List.forall_mem_cons.mpr ⟨ml_184, List.forall_mem_cons.mpr ⟨ml_185, List.forall_mem_cons.mpr ⟨ml_186, List.forall_mem_cons.mpr ⟨ml_187, List.forall_mem_cons.mpr ⟨ml_188, List.forall_mem_cons.mpr ⟨ml_189, List.forall_mem_cons.mpr ⟨ml_190, List.forall_mem_cons.mpr ⟨ml_191, List.forall_mem_cons.mpr ⟨ml_192, List.forall_mem_cons.mpr ⟨ml_193, List.forall_mem_cons.mpr ⟨ml_194, List.forall_mem_cons.mpr ⟨ml_195, List.forall_mem_cons.mpr ⟨ml_196, List.forall_mem_cons.mpr ⟨ml_197, List.forall_mem_cons.mpr ⟨ml_198, List.forall_mem_cons.mpr ⟨ml_199, List.forall_mem_cons.mpr ⟨ml_200, List.forall_mem_cons.mpr ⟨ml_201, List.forall_mem_cons.mpr ⟨ml_202, List.forall_mem_cons.mpr ⟨ml_203, List.forall_mem_cons.mpr ⟨ml_204, List.forall_mem_cons.mpr ⟨ml_205, List.forall_mem_cons.mpr ⟨ml_206, List.forall_mem_cons.mpr ⟨ml_207, List.forall_mem_cons.mpr ⟨ml_208, List.forall_mem_cons.mpr ⟨ml_209, List.forall_mem_cons.mpr ⟨ml_210, List.forall_mem_cons.mpr ⟨ml_211, List.forall_mem_cons.mpr ⟨ml_212, List.forall_mem_cons.mpr ⟨ml_213, List.forall_mem_cons.mpr ⟨ml_214, List.forall_mem_cons.mpr ⟨ml_215, List.forall_mem_cons.mpr ⟨ml_216, List.forall_mem_cons.mpr ⟨ml_217, List.forall_mem_cons.mpr ⟨ml_218, List.forall_mem_cons.mpr ⟨ml_219, List.forall_mem_cons.mpr ⟨ml_220, List.forall_mem_cons.mpr ⟨ml_221, List.forall_mem_cons.mpr ⟨ml_222, List.forall_mem_cons.mpr ⟨ml_223, List.forall_mem_cons.mpr ⟨ml_224, List.forall_mem_cons.mpr ⟨ml_225, List.forall_mem_cons.mpr ⟨ml_226, List.forall_mem_cons.mpr ⟨ml_227, List.forall_mem_cons.mpr ⟨ml_228, List.forall_mem_cons.mpr ⟨ml_229, List.forall_mem_cons.mpr ⟨ml_230, List.forall_mem_cons.mpr ⟨ml_231, List.forall_mem_cons.mpr ⟨ml_232, List.forall_mem_cons.mpr ⟨ml_233, List.forall_mem_cons.mpr ⟨ml_234, List.forall_mem_cons.mpr ⟨ml_235, List.forall_mem_cons.mpr ⟨ml_236, List.forall_mem_cons.mpr ⟨ml_237, List.forall_mem_cons.mpr ⟨ml_238, List.forall_mem_cons.mpr ⟨ml_239, List.forall_mem_cons.mpr ⟨ml_240, List.forall_mem_cons.mpr ⟨ml_241, List.forall_mem_cons.mpr ⟨ml_242, List.forall_mem_cons.mpr ⟨ml_243, List.forall_mem_cons.mpr ⟨ml_244, List.forall_mem_cons.mpr ⟨ml_245, List.forall_mem_cons.mpr ⟨ml_246, List.forall_mem_cons.mpr ⟨ml_247, List.forall_mem_cons.mpr ⟨ml_248, List.forall_mem_cons.mpr ⟨ml_249, List.forall_mem_cons.mpr ⟨ml_250, List.forall_mem_cons.mpr ⟨ml_251, List.forall_mem_cons.mpr ⟨ml_252, List.forall_mem_cons.mpr ⟨ml_253, List.forall_mem_cons.mpr ⟨ml_254, List.forall_mem_cons.mpr ⟨ml_255, List.forall_mem_cons.mpr ⟨ml_256, List.forall_mem_cons.mpr ⟨ml_257, List.forall_mem_cons.mpr ⟨ml_258, List.forall_mem_cons.mpr ⟨ml_259, List.forall_mem_cons.mpr ⟨ml_260, List.forall_mem_cons.mpr ⟨ml_261, List.forall_mem_cons.mpr ⟨ml_262, List.forall_mem_cons.mpr ⟨ml_263, List.forall_mem_cons.mpr ⟨ml_264, List.forall_mem_cons.mpr ⟨ml_265, List.forall_mem_cons.mpr ⟨ml_266, List.forall_mem_cons.mpr ⟨ml_267, List.forall_mem_cons.mpr ⟨ml_268, List.forall_mem_cons.mpr ⟨ml_269, List.forall_mem_cons.mpr ⟨ml_270, List.forall_mem_cons.mpr ⟨ml_271, List.forall_mem_cons.mpr ⟨ml_272, List.forall_mem_cons.mpr ⟨ml_273, List.forall_mem_cons.mpr ⟨ml_274, List.forall_mem_cons.mpr ⟨ml_275, List.forall_mem_cons.mpr ⟨ml_276, List.forall_mem_cons.mpr ⟨ml_277, List.forall_mem_cons.mpr ⟨ml_278, List.forall_mem_cons.mpr ⟨ml_279, List.forall_mem_cons.mpr ⟨ml_280, List.forall_mem_cons.mpr ⟨ml_281, List.forall_mem_cons.mpr ⟨ml_282, List.forall_mem_cons.mpr ⟨ml_283, List.forall_mem_cons.mpr ⟨ml_284, List.forall_mem_cons.mpr ⟨ml_285, List.forall_mem_cons.mpr ⟨ml_286, List.forall_mem_cons.mpr ⟨ml_287, List.forall_mem_cons.mpr ⟨ml_288, List.forall_mem_cons.mpr ⟨ml_289, List.forall_mem_cons.mpr ⟨ml_290, List.forall_mem_cons.mpr ⟨ml_291, List.forall_mem_cons.mpr ⟨ml_292, List.forall_mem_cons.mpr ⟨ml_293, List.forall_mem_cons.mpr ⟨ml_294, List.forall_mem_cons.mpr ⟨ml_295, List.forall_mem_cons.mpr ⟨ml_296, List.forall_mem_cons.mpr ⟨ml_297, List.forall_mem_cons.mpr ⟨ml_298, List.forall_mem_cons.mpr ⟨ml_299, List.forall_mem_cons.mpr ⟨ml_300, List.forall_mem_cons.mpr ⟨ml_301, List.forall_mem_cons.mpr ⟨ml_302, List.forall_mem_cons.mpr ⟨ml_303, List.forall_mem_cons.mpr ⟨ml_304, List.forall_mem_cons.mpr ⟨ml_305, List.forall_mem_cons.mpr ⟨ml_306, List.forall_mem_cons.mpr ⟨ml_307, List.forall_mem_cons.mpr ⟨ml_308, List.forall_mem_cons.mpr ⟨ml_309, List.forall_mem_cons.mpr ⟨ml_310, List.forall_mem_cons.mpr ⟨ml_311, List.forall_mem_cons.mpr ⟨ml_312, List.forall_mem_cons.mpr ⟨ml_313, List.forall_mem_cons.mpr ⟨ml_314, List.forall_mem_cons.mpr ⟨ml_315, List.forall_mem_cons.mpr ⟨ml_316, List.forall_mem_cons.mpr ⟨ml_317, List.forall_mem_cons.mpr ⟨ml_318, List.forall_mem_cons.mpr ⟨ml_319, List.forall_mem_cons.mpr ⟨ml_320, List.forall_mem_cons.mpr ⟨ml_321, List.forall_mem_cons.mpr ⟨ml_322, List.forall_mem_cons.mpr ⟨ml_323, List.forall_mem_cons.mpr ⟨ml_324, List.forall_mem_cons.mpr ⟨ml_325, List.forall_mem_cons.mpr ⟨ml_326, List.forall_mem_cons.mpr ⟨ml_327, List.forall_mem_cons.mpr ⟨ml_328, List.forall_mem_cons.mpr ⟨ml_329, List.forall_mem_cons.mpr ⟨ml_330, List.forall_mem_cons.mpr ⟨ml_331, List.forall_mem_cons.mpr ⟨ml_332, List.forall_mem_cons.mpr ⟨ml_333, List.forall_mem_cons.mpr ⟨ml_334, List.forall_mem_cons.mpr ⟨ml_335, List.forall_mem_cons.mpr ⟨ml_336, List.forall_mem_cons.mpr ⟨ml_337, List.forall_mem_cons.mpr ⟨ml_338, List.forall_mem_cons.mpr ⟨ml_339, List.forall_mem_cons.mpr ⟨ml_340, List.forall_mem_cons.mpr ⟨ml_341, List.forall_mem_cons.mpr ⟨ml_342, List.forall_mem_cons.mpr ⟨ml_343, List.forall_mem_cons.mpr ⟨ml_344, List.forall_mem_cons.mpr ⟨ml_345, List.forall_mem_cons.mpr ⟨ml_346, List.forall_mem_cons.mpr ⟨ml_347, List.forall_mem_cons.mpr ⟨ml_348, List.forall_mem_cons.mpr ⟨ml_349, List.forall_mem_cons.mpr ⟨ml_350, List.forall_mem_cons.mpr ⟨ml_351, List.forall_mem_cons.mpr ⟨ml_352, List.forall_mem_cons.mpr ⟨ml_353, List.forall_mem_cons.mpr ⟨ml_354, List.forall_mem_cons.mpr ⟨ml_355, List.forall_mem_cons.mpr ⟨ml_356, List.forall_mem_cons.mpr ⟨ml_357, List.forall_mem_cons.mpr ⟨ml_358, List.forall_mem_cons.mpr ⟨ml_359, List.forall_mem_cons.mpr ⟨ml_360, List.forall_mem_cons.mpr ⟨ml_361, fun _ h => absurd h List.not_mem_nil⟩⟩⟩⟩⟩⟩⟩⟩⟩⟩⟩⟩⟩⟩⟩⟩⟩⟩⟩⟩⟩⟩⟩⟩⟩⟩⟩⟩⟩⟩⟩⟩⟩⟩⟩⟩⟩⟩⟩⟩⟩⟩⟩⟩⟩⟩⟩⟩⟩⟩⟩⟩⟩⟩⟩⟩⟩⟩⟩⟩⟩⟩⟩⟩⟩⟩⟩⟩⟩⟩⟩⟩⟩⟩⟩⟩⟩⟩⟩⟩⟩⟩⟩⟩⟩⟩⟩⟩⟩⟩⟩⟩⟩⟩⟩⟩⟩⟩⟩⟩⟩⟩⟩⟩⟩⟩⟩⟩⟩⟩⟩⟩⟩⟩⟩⟩⟩⟩⟩⟩⟩⟩⟩⟩⟩⟩⟩⟩⟩⟩⟩⟩⟩⟩⟩⟩⟩⟩⟩⟩⟩⟩⟩⟩⟩⟩⟩⟩⟩⟩⟩⟩⟩⟩⟩⟩⟩⟩⟩⟩⟩⟩⟩⟩⟩⟩⟩⟩⟩⟩⟩⟩⟩⟩⟩⟩⟩⟩⟩⟩⟩⟩⟩⟩⟩⟩⟩⟩⟩⟩⟩⟩⟩⟩⟩⟩⟩⟩⟩⟩⟩⟩⟩⟩⟩⟩⟩⟩⟩⟩⟩⟩⟩⟩⟩⟩⟩⟩⟩⟩⟩⟩⟩⟩⟩⟩⟩⟩⟩⟩⟩⟩⟩⟩⟩⟩⟩⟩⟩⟩⟩⟩⟩⟩⟩⟩⟩⟩⟩⟩⟩⟩⟩⟩⟩⟩⟩⟩⟩⟩⟩⟩⟩⟩⟩⟩⟩⟩⟩⟩⟩⟩⟩⟩⟩⟩⟩⟩⟩⟩⟩⟩⟩⟩⟩⟩⟩⟩⟩⟩⟩⟩⟩⟩⟩⟩⟩⟩⟩⟩⟩⟩⟩⟩⟩⟩⟩⟩⟩⟩⟩⟩⟩⟩⟩⟩⟩⟩⟩⟩⟩⟩⟩⟩⟩⟩⟩⟩⟩⟩⟩⟩⟩⟩⟩⟩⟩⟩⟩⟩⟩⟩⟩⟩⟩⟩⟩⟩⟩⟩⟩⟩⟩⟩⟩⟩⟩⟩⟩⟩⟩⟩
theorem ci_all : ∀ e ∈ xCI, Cond.constant (xcn e.1) e.2.1 e.2.2 ∈ gw := by
  unfold xCI
  exact List.forall_mem_cons.mpr ⟨gm2 175 rfl rfl, List.forall_mem_cons.mpr ⟨gm3 14 rfl rfl, List.forall_mem_cons.mpr ⟨gm4 48 rfl rfl, List.forall_mem_cons.mpr ⟨gm5 4 rfl rfl, List.forall_mem_cons.mpr ⟨gm5 5 rfl rfl, List.forall_mem_cons.mpr ⟨gm5 6 rfl rfl, List.forall_mem_cons.mpr ⟨gm5 31 rfl rfl, List.forall_mem_cons.mpr ⟨gm7 20 rfl rfl, fun _ h => absurd h List.not_mem_nil⟩⟩⟩⟩⟩⟩⟩⟩
theorem cL_all : ∀ e ∈ xCL, Cond.constantLong (xcn e.1) e.2.1 e.2.2 ∈ gw := by
  unfold xCL
  exact List.forall_mem_cons.mpr ⟨gm2 182 rfl rfl, List.forall_mem_cons.mpr ⟨gm2 183 rfl rfl, List.forall_mem_cons.mpr ⟨gm2 184 rfl rfl, List.forall_mem_cons.mpr ⟨gm5 12 rfl rfl, List.forall_mem_cons.mpr ⟨gm5 16 rfl rfl, List.forall_mem_cons.mpr ⟨gm5 21 rfl rfl, List.forall_mem_cons.mpr ⟨gm5 35 rfl rfl, List.forall_mem_cons.mpr ⟨gm5 36 rfl rfl, List.forall_mem_cons.mpr ⟨gm5 37 rfl rfl, List.forall_mem_cons.mpr ⟨gm6 135 rfl rfl, List.forall_mem_cons.mpr ⟨gm6 136 rfl rfl, List.forall_mem_cons.mpr ⟨gm6 153 rfl rfl, List.forall_mem_cons.mpr ⟨gm8 17 rfl rfl, List.forall_mem_cons.mpr ⟨gm8 18 rfl rfl, List.forall_mem_cons.mpr ⟨gm8 19 rfl rfl, List.forall_mem_cons.mpr ⟨gm8 47 rfl rfl, List.forall_mem_cons.mpr ⟨gm8 60 rfl rfl, List.forall_mem_cons.mpr ⟨gm8 61 rfl rfl, List.forall_mem_cons.mpr ⟨gm8 62 rfl rfl, fun _ h => absurd h List.not_mem_nil⟩⟩⟩⟩⟩⟩⟩⟩⟩⟩⟩⟩⟩⟩⟩⟩⟩⟩⟩
def xelC (t : Nat) : String := match t with
  | 4 => "TwinBuckets$Text"
  | 5 => "TwinBuckets$Store"
  | _ => "TwinBuckets$Image"
def xKLok (e : Nat × Nat × Nat × List Value) : Prop := (e.2.2.1 = 0 ∧ Cond.classLink (xcn e.1) e.2.1 "[I" ∈ gw) ∨ (4 ≤ e.2.2.1 ∧ e.2.2.1 ≤ 6 ∧ Cond.classLink (xcn e.1) e.2.1 (xelC e.2.2.1) ∈ gw) ∨ (100 ≤ e.2.2.1 ∧ e.2.2.1 < 110 ∧ Cond.classLink (xcn e.1) e.2.1 (xcn (e.2.2.1 - 100)) ∈ gw ∧ ∀ (C : String) (T : u_T) (N : Nat) (ty : Nat → FieldType), xclasses[e.2.2.1 - 100]? = some (C, T, N) → xtyL[e.2.2.1 - 100]? = some ty → e.2.2.2.length = N ∧ ∀ j, j < N → defaultValue (ty j) = vp_V e.2.2.2 j ∧ vp_V e.2.2.2 j = (vp_V e.2.2.2 j))
theorem kl_0 : xKLok (10, 7, 108, [.null, .null, .null, .null, .null, .null, .null, .null, .null, .null, .null, .null, .null, .null, .int 0, .int 0, .int 0, .int 0]) := Or.inr (Or.inr ⟨by decide, by decide, gm1 19 rfl rfl, fun C T N ty h1 h2 => by cases h1; cases h2; exact ⟨rfl, by decide⟩⟩)
theorem kl_1 : xKLok (8, 9, 105, [.null, .null, .null, .null, .int 0, .int 0, .int 0, .int 0]) := Or.inr (Or.inr ⟨by decide, by decide, gm1 27 rfl rfl, fun C T N ty h1 h2 => by cases h1; cases h2; exact ⟨rfl, by decide⟩⟩)
theorem kl_2 : xKLok (8, 9, 5, []) := Or.inr (Or.inl ⟨by decide, by decide, gm1 27 rfl rfl⟩)
theorem kl_3 : xKLok (5, 9, 102, [.null]) := Or.inr (Or.inr ⟨by decide, by decide, gm1 33 rfl rfl, fun C T N ty h1 h2 => by cases h1; cases h2; exact ⟨rfl, by decide⟩⟩)
theorem kl_4 : xKLok (8, 22, 103, [.null, .null, .null, .int 0, .int 0, .int 0, .int 0, .int 0]) := Or.inr (Or.inr ⟨by decide, by decide, gm1 80 rfl rfl, fun C T N ty h1 h2 => by cases h1; cases h2; exact ⟨rfl, by decide⟩⟩)
theorem kl_5 : xKLok (3, 9, 107, [.null, .null, .null, .null, .int 0, .int 0, .int 0]) := Or.inr (Or.inr ⟨by decide, by decide, gm1 86 rfl rfl, fun C T N ty h1 h2 => by cases h1; cases h2; exact ⟨rfl, by decide⟩⟩)
theorem kl_6 : xKLok (3, 9, 4, []) := Or.inr (Or.inl ⟨by decide, by decide, gm1 86 rfl rfl⟩)
theorem kl_7 : xKLok (8, 29, 104, [.null, .null, .int 0]) := Or.inr (Or.inr ⟨by decide, by decide, gm1 120 rfl rfl, fun C T N ty h1 h2 => by cases h1; cases h2; exact ⟨rfl, by decide⟩⟩)
theorem kl_8 : xKLok (8, 36, 100, [.null, .null, .null, .int 0]) := Or.inr (Or.inr ⟨by decide, by decide, gm1 137 rfl rfl, fun C T N ty h1 h2 => by cases h1; cases h2; exact ⟨rfl, by decide⟩⟩)
theorem kl_9 : xKLok (0, 9, 105, [.null, .null, .null, .null, .int 0, .int 0, .int 0, .int 0]) := Or.inr (Or.inr ⟨by decide, by decide, gm1 143 rfl rfl, fun C T N ty h1 h2 => by cases h1; cases h2; exact ⟨rfl, by decide⟩⟩)
theorem kl_10 : xKLok (0, 9, 5, []) := Or.inr (Or.inl ⟨by decide, by decide, gm1 143 rfl rfl⟩)
theorem kl_11 : xKLok (8, 46, 101, [.null, .null, .null]) := Or.inr (Or.inr ⟨by decide, by decide, gm1 159 rfl rfl, fun C T N ty h1 h2 => by cases h1; cases h2; exact ⟨rfl, by decide⟩⟩)
theorem kl_12 : xKLok (8, 46, 6, []) := Or.inr (Or.inl ⟨by decide, by decide, gm1 159 rfl rfl⟩)
theorem kl_13 : xKLok (8, 52, 106, [.null, .null, .int 0, .int 0, .int 0, .int 0, .int 0, .int 0, .int 0, .int 0]) := Or.inr (Or.inr ⟨by decide, by decide, gm1 161 rfl rfl, fun C T N ty h1 h2 => by cases h1; cases h2; exact ⟨rfl, by decide⟩⟩)
theorem kl_14 : xKLok (6, 9, 107, [.null, .null, .null, .null, .int 0, .int 0, .int 0]) := Or.inr (Or.inr ⟨by decide, by decide, gm1 167 rfl rfl, fun C T N ty h1 h2 => by cases h1; cases h2; exact ⟨rfl, by decide⟩⟩)
theorem kl_15 : xKLok (6, 9, 4, []) := Or.inr (Or.inl ⟨by decide, by decide, gm1 167 rfl rfl⟩)
theorem kl_16 : xKLok (8, 186, 107, [.null, .null, .null, .null, .int 0, .int 0, .int 0]) := Or.inr (Or.inr ⟨by decide, by decide, gm4 4 rfl rfl, fun C T N ty h1 h2 => by cases h1; cases h2; exact ⟨rfl, by decide⟩⟩)
theorem kl_17 : xKLok (8, 186, 4, []) := Or.inr (Or.inl ⟨by decide, by decide, gm4 4 rfl rfl⟩)
theorem kl_18 : xKLok (11, 317, 0, []) := Or.inl ⟨rfl, gm4 17 rfl rfl⟩
theorem kl_19 : xKLok (1, 7, 105, [.null, .null, .null, .null, .int 0, .int 0, .int 0, .int 0]) := Or.inr (Or.inr ⟨by decide, by decide, gm5 56 rfl rfl, fun C T N ty h1 h2 => by cases h1; cases h2; exact ⟨rfl, by decide⟩⟩)
theorem kl_20 : xKLok (1, 7, 5, []) := Or.inr (Or.inl ⟨by decide, by decide, gm5 56 rfl rfl⟩)
theorem kl_21 : xKLok (1, 16, 103, [.null, .null, .null, .int 0, .int 0, .int 0, .int 0, .int 0]) := Or.inr (Or.inr ⟨by decide, by decide, gm5 58 rfl rfl, fun C T N ty h1 h2 => by cases h1; cases h2; exact ⟨rfl, by decide⟩⟩)
theorem kl_22 : xKLok (1, 23, 104, [.null, .null, .int 0]) := Or.inr (Or.inr ⟨by decide, by decide, gm5 60 rfl rfl, fun C T N ty h1 h2 => by cases h1; cases h2; exact ⟨rfl, by decide⟩⟩)
theorem kl_23 : xKLok (10, 10, 109, [.int 0, .null, .null, .null, .null, .null, .int 0, .null, .int 0, .int 0, .int 0, .null, .null, .int 0, .int 0, .null, .null, .null, .int 0, .int 0, .int 0, .int 0, .int 0, .int 0, .int 0, .int 0, .null, .int 0, .int 0, .null, .null, .null, .int 0, .null, .null, .null, .int 0, .int 0, .int 0, .int 0, .int 0, .int 0, .null, .null, .int 0, .int 0]) := Or.inr (Or.inr ⟨by decide, by decide, gm5 96 rfl rfl, fun C T N ty h1 h2 => by cases h1; cases h2; exact ⟨rfl, by decide⟩⟩)
theorem kl_all : ∀ e ∈ xKL, xKLok e := by
  unfold xKL
  exact List.forall_mem_cons.mpr ⟨kl_0, List.forall_mem_cons.mpr ⟨kl_1, List.forall_mem_cons.mpr ⟨kl_2, List.forall_mem_cons.mpr ⟨kl_3, List.forall_mem_cons.mpr ⟨kl_4, List.forall_mem_cons.mpr ⟨kl_5, List.forall_mem_cons.mpr ⟨kl_6, List.forall_mem_cons.mpr ⟨kl_7, List.forall_mem_cons.mpr ⟨kl_8, List.forall_mem_cons.mpr ⟨kl_9, List.forall_mem_cons.mpr ⟨kl_10, List.forall_mem_cons.mpr ⟨kl_11, List.forall_mem_cons.mpr ⟨kl_12, List.forall_mem_cons.mpr ⟨kl_13, List.forall_mem_cons.mpr ⟨kl_14, List.forall_mem_cons.mpr ⟨kl_15, List.forall_mem_cons.mpr ⟨kl_16, List.forall_mem_cons.mpr ⟨kl_17, List.forall_mem_cons.mpr ⟨kl_18, List.forall_mem_cons.mpr ⟨kl_19, List.forall_mem_cons.mpr ⟨kl_20, List.forall_mem_cons.mpr ⟨kl_21, List.forall_mem_cons.mpr ⟨kl_22, List.forall_mem_cons.mpr ⟨kl_23, fun _ h => absurd h List.not_mem_nil⟩⟩⟩⟩⟩⟩⟩⟩⟩⟩⟩⟩⟩⟩⟩⟩⟩⟩⟩⟩⟩⟩⟩⟩
theorem wo_inst : Cond.instanceMethod objectInit ∈ gw := gm1 25 rfl rfl
theorem wo_code : Cond.code objectInit ⟨#[0xb1]⟩ 1 none ∈ gw := gm1 26 rfl rfl
theorem wm_max_s : Cond.static Lib.Math.max.name ∈ gw := gm2 177 rfl rfl
theorem wm_max_c : Cond.code Lib.Math.max.name Lib.Math.max.code 2 (some .int) ∈ gw := gm2 178 rfl rfl
theorem wm_min_s : Cond.static Lib.Math.min.name ∈ gw := gm3 16 rfl rfl
theorem wm_min_c : Cond.code Lib.Math.min.name Lib.Math.min.code 2 (some .int) ∈ gw := gm3 17 rfl rfl
theorem wm_i : Cond.initialized "java/lang/Math" ∈ gw := gm1 11 rfl rfl
theorem wa_n : Cond.native arraycopyName ∈ gw := gm3 25 rfl rfl
theorem wa_s : Cond.static arraycopyName ∈ gw := gm3 24 rfl rfl
theorem wa_i : Cond.initialized "java/lang/System" ∈ gw := gm1 12 rfl rfl
theorem wc_same : Cond.sameMethod "[I" "java/lang/Object" "clone" "()Ljava/lang/Object;" ∈ gw := gm4 12 rfl rfl
theorem wc_nat : Cond.native ⟨"java/lang/Object", "clone", "()Ljava/lang/Object;"⟩ ∈ gw := gm4 13 rfl rfl
theorem wc_inst : Cond.instanceMethod ⟨"java/lang/Object", "clone", "()Ljava/lang/Object;"⟩ ∈ gw := gm4 14 rfl rfl
theorem wc_sel : Cond.selects "[I" ⟨"[I", "clone", "()Ljava/lang/Object;"⟩ ⟨"java/lang/Object", "clone", "()Ljava/lang/Object;"⟩ ∈ gw := gm4 15 rfl rfl
theorem wc_cast : Cond.castable "[I" "java/lang/Cloneable" ∈ lw_tbl := tb4 (List.mem_of_getElem? (i := 16) rfl)
theorem wy_int : Cond.arrayClass .int ∈ gw := gm1 44 rfl rfl
theorem wy_long : Cond.arrayClass .long ∈ gw := gm2 63 rfl rfl
theorem wy_byte : Cond.arrayClass .byte ∈ gw := gm4 24 rfl rfl
theorem wy_boolean : Cond.arrayClass .boolean ∈ gw := gm6 1 rfl rfl
end
section
/-- an instruction's length (a switch: 0) -/
def xlen (i : Instr) : Nat := match i with
  | .aload _ | .iload _ | .lload _ | .istore _ | .lstore _ | .astore _ | .bipush _ | .ldc _ | .newarray _ => 2
  | .sipush _ | .getfield _ | .putfield _ | .invokevirtual _ | .invokespecial _ | .invokestatic _ | .if_icmp _ _ | .ifCond _ _ | .ifnonnull _ | .goto _ | .iinc _ _ | .anewarray _ | .new _ | .checkcast _ | .ldc_w _ | .ldc2_w _ => 3
  | .tableswitch _ _ _ _ => 0
  | _ => 1
def xtgt (pc : Nat) (o : Int) : Bool := decide (0 ≤ (pc : Int) + o)
def xoffs (pc : Nat) (i : Instr) : Bool := match i with
  | .if_icmp _ o | .ifCond _ o | .ifnonnull o | .goto o => xtgt pc o
  | .tableswitch d lo hi offs => xtgt pc d && offs.toList.all (xtgt pc) && decide (-1000 ≤ lo) && decide (hi ≤ 1000) && decide (lo + offs.toList.length = hi + 1)
  | _ => true
def xplain (i : Instr) : Bool := match i with
  | .getstatic _ | .athrow | .i2c | .if_acmp _ _ | .ifnull _ | .instanceof _ => false
  | _ => true
def xlkk (i : Instr) (lk : Nat) : Bool := match i with
  | .baload | .bastore => lk == 1 || lk == 2
  | .aaload | .aastore => lk == 4 || lk == 5 || lk == 6
  | .new _ => match xKL[lk]? with
    | some e => decide (100 ≤ e.2.2.1)
    | none => true
  | _ => true
/-- a row is what the bytes say -/
def xrok (b : ByteArray) (r : xR) : Bool := match decode b r.1 with
  | .ok (i, n) => decide (i = r.2.1) && (xlen r.2.1 == 0 || !xplain r.2.1 || xlen r.2.1 == n) && xoffs r.1 r.2.1 && xlkk r.2.1 r.2.2.1
  | .error _ => false
theorem all_app {α : Type} {p : α → Bool} {a b : List α} (h : a.all p = true) (h2 : b.all p = true) : (a ++ b).all p = true := by
  rw [List.all_append, h, h2]
  rfl
end
section
/-! ===== THE ABSTRACT MACHINE IS RIGHT: how its cells, values and locals stand for the machine's ===== -/
def xv (base : Nat) (old : Nat → Nat) : Value → Value
  | .ref k => .ref (base + k)
  | .float k => .ref (old k.toNat)
  | v => v
def xce (base : Nat) (old : Nat → Nat) (dA : Nat → ClassId) : xA → va_E
  | .inl (t, n, .inl f) => .inl (dA t, n, .inl f)
  | .inl (t, n, .inr (.inl f)) => .inl (dA t, n, .inr (.inl f))
  | .inl (t, n, .inr (.inr f)) => .inl (dA t, n, .inr (.inr (.inr (.inr fun j => (f j).map (base + ·)))))
  | .inr (ci, fs) => .inr (ci, fs.map (xv base old))
def xw (base : Nat) (old : Nat → Nat) (dA : Nat → ClassId) (A : xH) : va_W := A.mapIdx fun k c => (base + k, xce base old dA c)
theorem xw_get {base : Nat} {old : Nat → Nat} {dA : Nat → ClassId} {A : xH} {k : Nat} {c : xA} (h : A[k]? = some c) : (xw base old dA A)[k]? = some (base + k, xce base old dA c) := by
  unfold xw
  rw [List.getElem?_mapIdx, h]
  rfl
theorem xw_inv {base : Nat} {old : Nat → Nat} {dA : Nat → ClassId} {A : xH} {k : Nat} {q : Nat × va_E} (h : (xw base old dA A)[k]? = some q) : ∃ c, A[k]? = some c ∧ q = (base + k, xce base old dA c) := by
  unfold xw at h
  rw [List.getElem?_mapIdx] at h
  cases hc : A[k]? with
  | none => rw [hc] at h; cases h
  | some c => rw [hc] at h; exact ⟨c, rfl, (Option.some.inj h).symm⟩
theorem xw_set {base : Nat} {old : Nat → Nat} {dA : Nat → ClassId} {A : xH} {k : Nat} {c : xA} : xw base old dA (A.set k c) = (xw base old dA A).set k (base + k, xce base old dA c) := by
  apply List.ext_getElem?
  intro j
  unfold xw
  rw [List.getElem?_mapIdx, List.getElem?_set, List.getElem?_set, List.getElem?_mapIdx]
  simp only [List.length_mapIdx]
  split
  · rename_i e
    subst e
    split <;> rfl
  · rfl
theorem xw_app {base : Nat} {old : Nat → Nat} {dA : Nat → ClassId} {A : xH} {c : xA} : xw base old dA (A ++ [c]) = xw base old dA A ++ [(base + A.length, xce base old dA c)] := by
  unfold xw
  rw [List.mapIdx_append]
  simp
theorem xw_D {base : Nat} {old : Nat → Nat} {dA : Nat → ClassId} {A : xH} : va_D (fun q => base ≤ q) (xw base old dA A) := by
  refine ⟨fun i j p q hi hj e => ?_, fun k q hk => ?_⟩
  · obtain ⟨c1, -, rfl⟩ := xw_inv hi
    obtain ⟨c2, -, rfl⟩ := xw_inv hj
    have : base + i = base + j := e
    omega
  · obtain ⟨c1, -, rfl⟩ := xw_inv hk
    exact Nat.le_add_right _ _
/-- sizes -/
def xsz : xA → Nat
  | .inl (_, n, _) => n
  | .inr (_, fs) => fs.length
def xsl : xH → Nat
  | [] => 0
  | c :: l => xsz c + xsl l
theorem xsl_app : ∀ (A : xH) (c : xA), xsl (A ++ [c]) = xsl A + xsz c
  | [], c => by simp [xsl]
  | a :: A, c => by
    show xsz a + xsl (A ++ [c]) = xsz a + xsl A + xsz c
    rw [xsl_app A c]
    omega
theorem xsl_set : ∀ (A : xH) (k : Nat) (c c0 : xA), A[k]? = some c0 → xsz c = xsz c0 → xsl (A.set k c) = xsl A
  | [], k, c, c0, h, _ => by simp at h
  | a :: A, 0, c, c0, h, e => by
    have : a = c0 := by simpa using h
    subst this
    show xsz c + xsl A = xsz a + xsl A
    rw [e]
  | a :: A, k + 1, c, c0, h, e => by
    show xsz a + xsl (A.set k c) = xsz a + xsl A
    rw [xsl_set A k c c0 (by simpa using h) e]
def xtok (A : xH) : Prop := ∀ (k t n : Nat) (f : (Nat → Int32) ⊕ (Nat → Int64) ⊕ (Nat → Option Nat)), A[k]? = some (.inl (t, n, f)) → t < 7
def xtyT (t : Nat) : FieldType := match t with
  | 0 => .int
  | 1 => .byte
  | 2 => .boolean
  | 3 => .long
  | t => .object (xelC t)
def xtys (dA : Nat → ClassId) : List (ClassId × FieldType) := [(dA 0, xtyT 0), (dA 1, xtyT 1), (dA 2, xtyT 2), (dA 3, xtyT 3), (dA 4, xtyT 4), (dA 5, xtyT 5), (dA 6, xtyT 6)]
theorem xtys_at (dA : Nat → ClassId) {t : Nat} (h : t < 7) : (xtys dA)[t]? = some (dA t, xtyT t) := by
  match t, h with
  | 0, _ => rfl
  | 1, _ => rfl
  | 2, _ => rfl
  | 3, _ => rfl
  | 4, _ => rfl
  | 5, _ => rfl
  | 6, _ => rfl
/-- the heap holds the cells, and nothing else is new -/
def xRel (base : Nat) (old : Nat → Nat) (dA : Nat → ClassId) (D : va_G) (A : xH) (H : Heap) : Prop := H.size = base + A.length ∧ va_P D xclasses (xw base old dA A) H ∧ xtok A
/-- what is older than the law's entry, and what the tables say -/
def xEnv (base : Nat) (old : Nat → Nat) (dA : Nat → ClassId) (D : va_G) (E : Nat × (Nat → Int32)) (U : State) : Prop :=
  va_K D xclasses (xtys dA) U ∧ (∀ w ∈ xnest, va_Nw w U) ∧ (va_AO "TwinBuckets$Text" U ∧ va_AO "TwinBuckets$Store" U ∧ va_AO "TwinBuckets$Image" U) ∧ va_Nw (.castable "[I" "java/lang/Cloneable") U ∧ va_X (old 0) E.1 E.2 U U.heap ∧ old 0 < base ∧ base ≤ U.heap.size ∧ vk_S xSTR.length (xSTR.map List.length) xSTR (fun i => old (1 + i)) (fun i => old (100 + i)) (fun q => base ≤ q) U U.heap ∧ (∀ e ∈ xSL, ∃ tx : String, vk_R (xcn e.1) e.2.1 tx (old e.2.2) U) ∧ va_Z "java/lang/String" "COMPACT_STRINGS" "Z" (.int 1) (fun q => base ≤ q) U U.heap ∧ va_Zq "jdk/internal/util/Preconditions" "SIOOBE_FORMATTER" "Ljava/util/function/BiFunction;" (fun q => base ≤ q) U U.heap
/-- the locals -/
def xLoc (base : Nat) (old : Nat → Nat) (als : List Value) (ls : Array Slot) : Prop := ls.size = als.length ∧ lv_wf ls ∧ ∀ i, (∀ k, xg als i ≠ .retAddr k) → ls[i]? = some (.val (xv base old (xg als i)))
theorem xg_lt : ∀ (l : List Value) (i : Nat), (∀ k, xg l i ≠ .retAddr k) → i < l.length
  | [], i, h => absurd rfl (h 0)
  | _ :: l, 0, _ => Nat.succ_pos _
  | _ :: l, i + 1, h => Nat.succ_lt_succ (xg_lt l i h)
theorem xs_len : ∀ (l : List Value) (i : Nat) (v : Value), (xs l i v).length = l.length
  | [], _, _ => rfl
  | _ :: l, 0, _ => rfl
  | _ :: l, i + 1, v => by
    show (xs l i v).length + 1 = l.length + 1
    rw [xs_len l i v]
theorem xg_xs : ∀ (l : List Value) (i j : Nat) (v : Value), xg (xs l i v) j = if j = i ∧ i < l.length then v else xg l j
  | [], i, j, v => by simp [xs]
  | a :: l, 0, 0, v => by simp [xs, xg]
  | a :: l, 0, j + 1, v => by simp [xs, xg]
  | a :: l, i + 1, 0, v => by simp [xs, xg]
  | a :: l, i + 1, j + 1, v => by
    show xg (xs l i v) j = _
    rw [xg_xs l i j v]
    simp [xg]
def xlv (base : Nat) (old : Nat → Nat) (als : List Value) : List (Nat × Value) := (List.range als.length).filterMap fun i => match xg als i with
  | .retAddr _ => none
  | v => some (i, xv base old v)
theorem xlv_mem {base : Nat} {old : Nat → Nat} {als : List Value} {i : Nat} (h : ∀ k, xg als i ≠ .retAddr k) : (i, xv base old (xg als i)) ∈ xlv base old als := by
  unfold xlv
  refine List.mem_filterMap.mpr ⟨i, List.mem_range.mpr (xg_lt _ _ h), ?_⟩
  split
  · rename_i k e
    exact absurd e (h k)
  · rfl
theorem xlv_inv {base : Nat} {old : Nat → Nat} {als : List Value} {q : Nat × Value} (h : q ∈ xlv base old als) : (∀ k, xg als q.1 ≠ .retAddr k) ∧ q.2 = xv base old (xg als q.1) := by
  unfold xlv at h
  obtain ⟨i, -, hi⟩ := List.mem_filterMap.mp h
  split at hi
  · cases hi
  · rename_i hn
    cases hi
    exact ⟨hn, rfl⟩
theorem xLoc.has {base : Nat} {old : Nat → Nat} {als : List Value} {ls : Array Slot} (h : xLoc base old als ls) : lv_has ls als.length (xlv base old als) := by
  refine ⟨h.1, h.2.1, fun q hq => ?_⟩
  obtain ⟨h1, h2⟩ := xlv_inv hq
  rw [h2]
  exact h.2.2 q.1 h1
theorem xLoc.at {base : Nat} {old : Nat → Nat} {als : List Value} {ls : Array Slot} (h : xLoc base old als ls) {i : Nat} {v : Value} (e : xg als i = v) (hv : ∀ k, v ≠ .retAddr k) : ls[i]? = some (.val (xv base old v)) := by
  subst e
  exact h.2.2 i hv
theorem xLoc.mask {base : Nat} {old : Nat → Nat} {ls : Array Slot} : ∀ (is : List Nat) (als : List Value), xLoc base old als ls → xLoc base old (xmask is als) ls
  | [], _, h => h
  | i :: is, als, h => by
    refine xLoc.mask is _ ⟨h.1.trans (xs_len als i xJ).symm, h.2.1, fun j hj => ?_⟩
    rw [xg_xs] at hj ⊢
    split
    · rename_i e
      rw [if_pos e] at hj
      exact absurd rfl (hj 0)
    · rename_i e
      rw [if_neg e] at hj
      exact h.2.2 j hj
theorem xv_cat (base : Nat) (old : Nat → Nat) (v : Value) : (xv base old v).category = v.category := by
  cases v <;> rfl
theorem xLoc.st1 {base : Nat} {old : Nat → Nat} {als : List Value} {i : Nat} {v : Value} (hi : i < als.length) (hp : ∀ j, i = j + 1 → (xg als j).category ≠ 2) {ls' : Array Slot} (h : lv_has ls' als.length ((i, xv base old v) :: (xlv base old als).filter (fun q => !(q.1 == i) && !(q.1 + 1 == i && q.2.category == 2)))) : xLoc base old (xs als i v) ls' := by
  obtain ⟨h1, h2, h3⟩ := h
  refine ⟨h1.trans (xs_len als i v).symm, h2, fun j hj => ?_⟩
  rw [xg_xs] at hj ⊢
  by_cases e : j = i
  · subst e
    rw [if_pos ⟨rfl, hi⟩]
    exact h3 _ List.mem_cons_self
  · have ne : ¬ (j = i ∧ i < als.length) := fun q => e q.1
    rw [if_neg ne] at hj ⊢
    refine h3 (j, xv base old (xg als j)) (List.mem_cons_of_mem _ (List.mem_filter.mpr ⟨xlv_mem hj, ?_⟩))
    simp only [Bool.and_eq_true, Bool.not_eq_true', beq_eq_false_iff_ne, ne_eq, Bool.and_eq_false_iff]
    refine ⟨e, ?_⟩
    by_cases e2 : j + 1 = i
    · right
      rw [xv_cat]
      exact hp j e2.symm
    · left
      exact e2
theorem xLoc.st2 {base : Nat} {old : Nat → Nat} {als : List Value} {i : Nat} {v : Value} (hi : i + 1 < als.length) (hp : ∀ j, i = j + 1 → (xg als j).category ≠ 2) {ls' : Array Slot} (h : lv_has ls' als.length ((i, xv base old v) :: (xlv base old als).filter (fun q => !(q.1 == i) && (!(q.1 == i + 1) && !(q.1 + 1 == i && q.2.category == 2))))) : xLoc base old (xs (xs als i v) (i + 1) xJ) ls' := by
  obtain ⟨h1, h2, h3⟩ := h
  refine ⟨h1.trans (by rw [xs_len, xs_len]), h2, fun j hj => ?_⟩
  rw [xg_xs, xg_xs, xs_len] at hj ⊢
  by_cases e1 : j = i + 1
  · rw [if_pos ⟨e1, hi⟩] at hj
    exact absurd rfl (hj 0)
  · have n1 : ¬ (j = i + 1 ∧ i + 1 < als.length) := fun q => e1 q.1
    rw [if_neg n1] at hj ⊢
    by_cases e : j = i
    · subst e
      rw [if_pos ⟨rfl, by omega⟩]
      exact h3 _ List.mem_cons_self
    · have ne : ¬ (j = i ∧ i < als.length) := fun q => e q.1
      rw [if_neg ne] at hj ⊢
      refine h3 (j, xv base old (xg als j)) (List.mem_cons_of_mem _ (List.mem_filter.mpr ⟨xlv_mem hj, ?_⟩))
      simp only [Bool.and_eq_true, Bool.not_eq_true', beq_eq_false_iff_ne, ne_eq, Bool.and_eq_false_iff]
      refine ⟨e, e1, ?_⟩
      by_cases e2 : j + 1 = i
      · right
        rw [xv_cat]
        exact hp j e2.symm
      · left
        exact e2
end
section
/-! ===== what an effect of the abstract machine says of the stack it began with ===== -/
section XI
variable {T : xT} {E : Nat × (Nat → Int32)} {own rt ini : Nat} {pc : Nat} {ls st : List Value} {A : xH} {n : xN}
theorem i_bin {f : Int32 → Int32 → Int32} (h : xbin xgo0 pc ls st A f = some n) : ∃ x y s, st = .int y :: .int x :: s ∧ n = .inl (pc + 1, ls, .int (f x y) :: s, A) := by
  unfold xbin at h
  split at h
  · exact ⟨_, _, _, rfl, (Option.some.inj h).symm⟩
  · cases h
theorem i_lbin {f : Int64 → Int64 → Int64} (h : xlbin xgo0 pc ls st A f = some n) : ∃ x y s, st = .long y :: .long x :: s ∧ n = .inl (pc + 1, ls, .long (f x y) :: s, A) := by
  unfold xlbin at h
  split at h
  · exact ⟨_, _, _, rfl, (Option.some.inj h).symm⟩
  · cases h
theorem i_binz {f : Int32 → Int32 → Int32} (h : xbinz xgo0 pc ls st A f = some n) : ∃ x y s, st = .int y :: .int x :: s ∧ ¬ y = 0 ∧ n = .inl (pc + 1, ls, .int (f x y) :: s, A) := by
  unfold xbinz at h
  split at h
  · split at h
    · cases h
    · rename_i hz
      exact ⟨_, _, _, rfl, hz, (Option.some.inj h).symm⟩
  · cases h
theorem i_lbinz {f : Int64 → Int64 → Int64} (h : xlbinz xgo0 pc ls st A f = some n) : ∃ x y s, st = .long y :: .long x :: s ∧ ¬ y = 0 ∧ n = .inl (pc + 1, ls, .long (f x y) :: s, A) := by
  unfold xlbinz at h
  split at h
  · split at h
    · cases h
    · rename_i hz
      exact ⟨_, _, _, rfl, hz, (Option.some.inj h).symm⟩
  · cases h
theorem i_ldI {v : Value} {k : Value → Option xN} (h : xldI v k = some n) : ∃ x, v = .int x ∧ k (.int x) = some n := by
  unfold xldI at h
  split at h
  · exact ⟨_, rfl, h⟩
  · cases h
theorem i_ldL {v : Value} {k : Value → Option xN} (h : xldL v k = some n) : ∃ x, v = .long x ∧ k (.long x) = some n := by
  unfold xldL at h
  split at h
  · exact ⟨_, rfl, h⟩
  · cases h
theorem i_ldA {v : Value} {k : Value → Option xN} (h : xldA v k = some n) : ((∃ x, v = .ref x) ∨ v = .null ∨ ∃ x, v = .float x) ∧ k v = some n := by
  unfold xldA at h
  split at h
  · exact ⟨Or.inl ⟨_, rfl⟩, h⟩
  · exact ⟨Or.inr (Or.inl rfl), h⟩
  · exact ⟨Or.inr (Or.inr ⟨_, rfl⟩), h⟩
  · cases h
theorem i_st1 {i : Nat} {v : Value} {k : List Value → Option xN} (h : xst1 ls i v k = some n) : i < ls.length ∧ (∀ j, i = j + 1 → (xg ls j).category ≠ 2) ∧ k (xs ls i v) = some n := by
  unfold xst1 at h
  split at h
  · rename_i hi
    refine ⟨hi, ?_⟩
    split at h
    · exact ⟨fun j e => by omega, h⟩
    · rename_i j
      split at h
      · cases h
      · rename_i hc
        exact ⟨fun j' e => by have : j' = j := by omega
                              subst this; exact hc, h⟩
  · cases h
theorem i_st2 {i : Nat} {v : Value} {k : List Value → Option xN} (h : xst2 ls i v k = some n) : i + 1 < ls.length ∧ (∀ j, i = j + 1 → (xg ls j).category ≠ 2) ∧ k (xs (xs ls i v) (i + 1) xJ) = some n := by
  unfold xst2 at h
  split at h
  · rename_i hi
    refine ⟨hi, ?_⟩
    split at h
    · exact ⟨fun j e => by omega, h⟩
    · rename_i j
      split at h
      · cases h
      · rename_i hc
        exact ⟨fun j' e => by have : j' = j := by omega
                              subst this; exact hc, h⟩
  · cases h
theorem i_bind {α : Type} {o : Option α} {k : α → Option xN} (h : o.bind k = some n) : ∃ x, o = some x ∧ k x = some n := Option.bind_eq_some_iff.mp h
end XI
/-! heap reads and writes, taken apart -/
theorem j_gI {A : xH} {a ci k : Nat} {x : Int32} (h : gI A a ci k = some x) : ∃ fs, A[a]? = some (.inr (ci, fs)) ∧ fs[k]? = some (.int x) := by
  unfold gI gV at h
  cases hA : A[a]? with
  | none => simp [hA] at h
  | some c =>
    obtain c | ⟨c, fs⟩ := c
    · simp [hA] at h
    · simp only [hA] at h
      by_cases e : c = ci
      · subst e
        simp only [if_true] at h
        split at h
        · rename_i y hy
          cases h
          exact ⟨fs, rfl, hy⟩
        · cases h
      · simp [e] at h
theorem j_gN {A : xH} {a ci k b : Nat} (h : gN A a ci k = some b) : ∃ fs, A[a]? = some (.inr (ci, fs)) ∧ fs[k]? = some (.ref b) := by
  unfold gN gV at h
  cases hA : A[a]? with
  | none => simp [hA] at h
  | some c =>
    obtain c | ⟨c, fs⟩ := c
    · simp [hA] at h
    · simp only [hA] at h
      by_cases e : c = ci
      · subst e
        simp only [if_true] at h
        split at h
        · rename_i y hy
          cases h
          exact ⟨fs, rfl, hy⟩
        · cases h
      · simp [e] at h
theorem j_gO {A : xH} {a ci k : Nat} {o : Option Nat} (h : gO A a ci k = some o) : ∃ fs, A[a]? = some (.inr (ci, fs)) ∧ fs[k]? = some (va_rf o) := by
  unfold gO gV at h
  cases hA : A[a]? with
  | none => simp [hA] at h
  | some c =>
    obtain c | ⟨c, fs⟩ := c
    · simp [hA] at h
    · simp only [hA] at h
      by_cases e : c = ci
      · subst e
        simp only [if_true] at h
        split at h
        · rename_i y hy
          cases h
          exact ⟨fs, rfl, hy⟩
        · rename_i hy
          cases h
          exact ⟨fs, rfl, hy⟩
        · cases h
      · simp [e] at h
theorem j_pF {A B : xH} {a ci k : Nat} {v : Value} (h : pF A a ci k v = some B) : ∃ fs, A[a]? = some (.inr (ci, fs)) ∧ k < fs.length ∧ B = A.set a (.inr (ci, fs.set k v)) := by
  unfold pF at h
  cases hA : A[a]? with
  | none => simp [hA] at h
  | some c =>
    obtain c | ⟨c, fs⟩ := c
    · simp [hA] at h
    · simp only [hA] at h
      split at h
      · rename_i e
        obtain ⟨e1, e2⟩ := e
        subst e1
        cases h
        exact ⟨fs, rfl, e2, rfl⟩
      · cases h
theorem j_lA {A : xH} {a : Nat} {x : Int32} (h : lA A a = some x) : ∃ t n f, A[a]? = some (.inl (t, n, f)) ∧ x = Int32.ofNat n := by
  unfold lA at h
  split at h
  · rename_i t n f hA
    cases h
    exact ⟨t, n, f, hA, rfl⟩
  · cases h
theorem j_tag {A : xH} {a t : Nat} (h : xtag A a = some t) : ∃ n f, A[a]? = some (.inl (t, n, f)) := by
  unfold xtag at h
  split at h
  · rename_i t n f hA
    cases h
    exact ⟨n, f, hA⟩
  · cases h
theorem j_cls {A : xH} {a c : Nat} (h : xcls A a = some c) : ∃ fs, A[a]? = some (.inr (c, fs)) := by
  unfold xcls at h
  split at h
  · rename_i c fs hA
    cases h
    exact ⟨fs, hA⟩
  · cases h
theorem j_aI {t : Nat} {A : xH} {a : Nat} {i x : Int32} (h : aI t A a i = some x) : ∃ n f, A[a]? = some (.inl (t, n, .inl f)) ∧ vp_in i n ∧ x = f i.toNatClampNeg := by
  unfold aI at h
  split at h
  · rename_i t' n f hA
    split at h
    · rename_i e
      subst e
      split at h
      · cases h
      · rename_i hi
        cases h
        exact ⟨n, f, hA, hi, rfl⟩
    · cases h
  · cases h
theorem j_sI {t : Nat} {A B : xH} {a : Nat} {i x : Int32} (h : sI t A a i x = some B) : ∃ n f, A[a]? = some (.inl (t, n, .inl f)) ∧ vp_in i n ∧ B = A.set a (.inl (t, n, .inl (upd f i.toNatClampNeg (xnar t x)))) := by
  unfold sI at h
  split at h
  · rename_i t' n f hA
    split at h
    · rename_i e
      subst e
      split at h
      · cases h
      · rename_i hi
        cases h
        exact ⟨n, f, hA, hi, rfl⟩
    · cases h
  · cases h
theorem j_aL {A : xH} {a : Nat} {i : Int32} {x : Int64} (h : aL A a i = some x) : ∃ n f, A[a]? = some (.inl (3, n, .inr (.inl f))) ∧ vp_in i n ∧ x = f i.toNatClampNeg := by
  unfold aL at h
  split at h
  · rename_i t' n f hA
    split at h
    · rename_i e
      subst e
      split at h
      · cases h
      · rename_i hi
        cases h
        exact ⟨n, f, hA, hi, rfl⟩
    · cases h
  · cases h
theorem j_sL {A B : xH} {a : Nat} {i : Int32} {x : Int64} (h : sL A a i x = some B) : ∃ n f, A[a]? = some (.inl (3, n, .inr (.inl f))) ∧ vp_in i n ∧ B = A.set a (.inl (3, n, .inr (.inl (vp_updL f i.toNatClampNeg x)))) := by
  unfold sL at h
  split at h
  · rename_i t' n f hA
    split at h
    · rename_i e
      subst e
      split at h
      · cases h
      · rename_i hi
        cases h
        exact ⟨n, f, hA, hi, rfl⟩
    · cases h
  · cases h
theorem j_aR {t : Nat} {A : xH} {a : Nat} {i : Int32} {o : Option Nat} (h : aR t A a i = some o) : ∃ n f, A[a]? = some (.inl (t, n, .inr (.inr f))) ∧ vp_in i n ∧ o = f i.toNatClampNeg := by
  unfold aR at h
  split at h
  · rename_i t' n f hA
    split at h
    · rename_i e
      subst e
      split at h
      · cases h
      · rename_i hi
        cases h
        exact ⟨n, f, hA, hi, rfl⟩
    · cases h
  · cases h
theorem j_sR {t : Nat} {A B : xH} {a : Nat} {i : Int32} {o : Option Nat} (h : sR t A a i o = some B) : ∃ n f, A[a]? = some (.inl (t, n, .inr (.inr f))) ∧ xelok A t o = true ∧ vp_in i n ∧ B = A.set a (.inl (t, n, .inr (.inr (va_up f i.toNatClampNeg o)))) := by
  unfold sR at h
  split at h
  · rename_i t' n f hA
    split at h
    · rename_i e
      obtain ⟨e, e2⟩ := e
      subst e
      split at h
      · cases h
      · rename_i hi
        cases h
        exact ⟨n, f, hA, e2, hi, rfl⟩
    · cases h
  · cases h
theorem j_copy {A B : xH} {a b : Nat} {sp dp n : Int32} (h : xcopy A a sp b dp n = some B) : ∃ n0 f n1 g, A[a]? = some (.inl (0, n0, .inl f)) ∧ A[b]? = some (.inl (0, n1, .inl g)) ∧ ¬ sp < 0 ∧ ¬ dp < 0 ∧ ¬ n < 0 ∧ sp.toNatClampNeg + n.toNatClampNeg ≤ n0 ∧ dp.toNatClampNeg + n.toNatClampNeg ≤ n1 ∧ B = A.set b (.inl (0, n1, .inl (va_cpy f g sp.toNatClampNeg dp.toNatClampNeg n.toNatClampNeg))) := by
  unfold xcopy at h
  split at h
  · rename_i t n0 f t' n1 g hA hB
    split at h
    · rename_i e
      obtain ⟨e1, e2, e3, e4, e5, e6, e7⟩ := e
      subst e1; subst e2
      cases h
      exact ⟨n0, f, n1, g, hA, hB, e3, e4, e5, e6, e7, rfl⟩
    · cases h
  · cases h
theorem j_clone {A B : xH} {a : Nat} (h : xclone A a = some B) : ∃ n f, A[a]? = some (.inl (0, n, .inl f)) ∧ B = A ++ [.inl (0, n, .inl f)] := by
  unfold xclone at h
  split at h
  · rename_i t n f hA
    split at h
    · rename_i e
      subst e
      cases h
      exact ⟨n, f, hA, rfl⟩
    · cases h
  · cases h
/-! what a set or a push leaves as it was -/
theorem xtok_set {A : xH} {k : Nat} {c : xA} (h : xtok A) (hc : ∀ t n f, c = .inl (t, n, f) → t < 7) : xtok (A.set k c) := by
  intro j t n f hj
  rw [List.getElem?_set] at hj
  split at hj
  · split at hj
    · exact hc t n f (Option.some.inj hj)
    · cases hj
  · exact h j t n f hj
theorem xtok_app {A : xH} {c : xA} (h : xtok A) (hc : ∀ t n f, c = .inl (t, n, f) → t < 7) : xtok (A ++ [c]) := by
  intro j t n f hj
  rw [List.getElem?_append] at hj
  split at hj
  · exact h j t n f hj
  · have : [c][j - A.length]? = some (.inl (t, n, f)) := hj
    cases hz : j - A.length with
    | zero => rw [hz] at this; exact hc t n f (Option.some.inj this)
    | succ z => rw [hz] at this; simp at this
section XM
variable {base : Nat} {old : Nat → Nat} {dA : Nat → ClassId} {D : va_G} {E : Nat × (Nat → Int32)}
/-- a cell was set -/
theorem xRel.set {A : xH} {H H1 : Heap} {k : Nat} {c : xA} (h : xRel base old dA D A H) (hc : ∀ t n f, c = .inl (t, n, f) → t < 7) (hz : H1.size = H.size) (hP : va_P D xclasses ((xw base old dA A).set k (base + k, xce base old dA c)) H1) : xRel base old dA D (A.set k c) H1 := by
  refine ⟨?_, by rw [xw_set]; exact hP, xtok_set h.2.2 hc⟩
  rw [List.length_set, hz]
  exact h.1
theorem xEnv_same {U U' : State} (hv : U'.vm = U.vm) (hh : U'.heap = U.heap) (h : xEnv base old dA D E U) : xEnv base old dA D E U' := by
  obtain ⟨h1, h2, ⟨h3, h4, h5⟩, h6, h7, h8, h9, h10, h11, h12, h13⟩ := h
  have al : U.vm.Alike U'.vm := by rw [hv]; exact Vm.Alike.refl U.vm
  have nw : ∀ w ∈ xnest, w.onTables = true := by
    intro w hw
    revert w
    unfold xnest
    decide
  refine ⟨va_K.moved al h1, fun w hw => (h2 w hw).same (nw w hw) hv.symm, ⟨?_, ?_, ?_⟩, h6.same rfl hv.symm, by rw [hh]; exact va_X.moved al h7, h8, by rw [hh]; exact h9, by rw [hh]; exact vk_S.moved al h10, fun e he => ?_, by rw [hh]; exact va_Z.moved al h12, by rw [hh]; exact va_Zq.moved al h13⟩
  · exact va_AO.moved al h3
  · exact va_AO.moved al h4
  · exact va_AO.moved al h5
  · obtain ⟨tx, ht⟩ := h11 e he
    exact ⟨tx, ht.same hv⟩
/-- at a callee's entry -/
theorem xEnv_warm {s U : State} {H : Heap} {locs : List Loc} (hU : U.heap = H) (hW : s.WarmedH U.vm) (hS : va_S (fun q => base ≤ q) s.heap H locs) (h : xEnv base old dA D E s) : xEnv base old dA D E U := by
  obtain ⟨h1, h2, ⟨h3, h4, h5⟩, h6, h7, h8, h9, h10, h11, h12, h13⟩ := h
  have al := hW.alike
  have kp : ∀ q : Nat, q < s.heap.size → ¬ base ≤ q → U.heap[q]? = s.heap[q]? := fun q a b => by rw [hU]; exact hS.2.1 q a b
  have nw : ∀ w ∈ xnest, ∃ a i y hh, w = .methodLinkNest a i y hh := by
    intro w hw
    revert w
    unfold xnest
    simp
  refine ⟨va_K.moved al h1, fun w hw => ?_, ⟨va_AO.moved al h3, va_AO.moved al h4, va_AO.moved al h5⟩, ?_, (va_X.moved al h7).kept (kp _ (by omega) (by omega)), h8, ?_, (vk_S.moved al h10).kept kp, fun e he => ?_, ?_, ?_⟩
  · obtain ⟨a, i, y, hh, e⟩ := nw w hw
    have := h2 w hw
    rw [e] at this ⊢
    exact this.warmM hW
  · exact h6.warmC hW
  · rw [hU]
    exact Nat.le_trans h9 hS.1
  · obtain ⟨tx, ht⟩ := h11 e he
    exact ⟨tx, ht.warm hW⟩
  · exact (va_Z.moved al h12).kept kp
  · exact (va_Zq.moved al h13).kept kp
end XM
end
section
/-! ===== one instruction of the abstract machine is one of the machine's ===== -/
section XS
variable {base : Nat} {old : Nat → Nat} {dA : Nat → ClassId} {D : va_G} {E : Nat × (Nat → Int32)}
variable {p : Program} {l : Launch} {e : Env} {R : Room} {s : State} {m : MethodId} {args : Array Value} {below : List Frame} {meth : Method} {c : Code} {Q : State → Prop}
theorem W.bound {H : Heap} {locs : List Loc} {cells slots : Nat} {g : JFrame} (k : H.size ≤ s.heap.size + cells → W p l e R s m args below meth c H locs cells slots Q g) : W p l e R s m args below meth c H locs cells slots Q g := by
  intro T hT X
  have h : T.heap.size ≤ s.heap.size + cells := X.same.2.2.1
  rw [hT] at h
  exact k h T hT X
/-- the cells are there -/
def xAt (base : Nat) (old : Nat → Nat) (dA : Nat → ClassId) (D : va_G) (s : State) (A : xH) (H : Heap) (locs : List Loc) : Prop := va_P D xclasses (xw base old dA A) H ∧ xtok A ∧ va_S (fun q => base ≤ q) s.heap H locs
/-- from this state of the abstract machine the machine comes to Q -/
def xK (base : Nat) (old : Nat → Nat) (dA : Nat → ClassId) (D : va_G) (p : Program) (l : Launch) (e : Env) (R : Room) (s : State) (m : MethodId) (args : Array Value) (below : List Frame) (meth : Method) (c : Code) (Q : State → Prop) (a0 s0 pc : Nat) (als st : List Value) (A : xH) : Prop :=
  ∀ (H : Heap) (locs : List Loc) (ls : Array Slot), xAt base old dA D s A H locs → xLoc base old als ls → W p l e R s m args below meth c H locs (A.length - a0) (xsl A - s0) Q (F0 m pc ls (st.map (xv base old)))
/-- what holds in a method's body -/
def xCx (base : Nat) (old : Nat → Nat) (dA : Nat → ClassId) (D : va_G) (E : Nat × (Nat → Int32)) (p : Program) (s : State) (m : MethodId) (args : Array Value) (meth : Method) (c : Code) (M : xM) (b : ByteArray) (a0 : Nat) : Prop :=
  p.tables.exec = Jvm.exec ∧ c.code = b ∧ c.maxLocals = M.2.2.2.1 ∧ s.vm.findClass (xcn M.1) = some m.cls ∧ (∀ w ∈ gw, w.before args s = true) ∧ xEnv base old dA D E s ∧ (M.2.2.1 = 2 → meth.name = "<init>") ∧ s.heap.size = base + a0
theorem xAt.lo {A : xH} {H : Heap} {locs : List Loc} {a0 : Nat} (h : xAt base old dA D s A H locs) (hz : s.heap.size = base + a0) (ha : a0 ≤ A.length) : base + A.length ≤ H.size := by
  by_cases h0 : A.length = 0
  · have := h.2.2.1
    omega
  · have hlt : A.length - 1 < A.length := by omega
    have hg : A[A.length - 1]? = some A[A.length - 1] := List.getElem?_eq_getElem hlt
    have := (h.1 _ _ (xw_get hg)).lt
    have h2 : base + (A.length - 1) < H.size := this
    omega
/-- the heap's size is known -/
theorem xK.size {a0 s0 pc : Nat} {als st : List Value} {A : xH} (hz : s.heap.size = base + a0) (ha : a0 ≤ A.length)
    (k : ∀ (H : Heap) (locs : List Loc) (ls : Array Slot), xAt base old dA D s A H locs → H.size = base + A.length → xLoc base old als ls → W p l e R s m args below meth c H locs (A.length - a0) (xsl A - s0) Q (F0 m pc ls (st.map (xv base old)))) :
    xK base old dA D p l e R s m args below meth c Q a0 s0 pc als st A := by
  intro H locs ls hX hl
  refine W.bound (fun hb => ?_)
  have h1 := hX.lo hz ha
  exact k H locs ls hX (by omega) hl
/-- a new cell stands where it must -/
theorem xnew_at {A : xH} {H1 : Heap} {a0 q n : Nat} {cE : va_E} {D : va_G} (hz : s.heap.size = base + a0) (ha : a0 ≤ A.length) (hP : va_P D xclasses (xw base old dA A ++ [(q, cE)]) H1) (hD : va_D (fun q => base ≤ q) (xw base old dA A ++ [(q, cE)])) (hb : H1.size ≤ s.heap.size + (A.length - a0 + 1)) : q = base + A.length := by
  have hlen : (xw base old dA A).length = A.length := by unfold xw; simp
  have hlast : (xw base old dA A ++ [(q, cE)])[A.length]? = some (q, cE) := by
    rw [List.getElem?_append_right (by omega), hlen, Nat.sub_self]
    rfl
  have h1 : base ≤ q := hD.2 _ _ hlast
  have h2 : q < H1.size := (hP _ _ hlast).lt
  by_cases h3 : q < base + A.length
  · exfalso
    have hk : q - base < A.length := by omega
    have hg : A[q - base]? = some A[q - base] := List.getElem?_eq_getElem hk
    have h4 : (xw base old dA A ++ [(q, cE)])[q - base]? = some (base + (q - base), xce base old dA A[q - base]) := by
      rw [List.getElem?_append_left (by omega)]
      exact xw_get hg
    have := hD.1 _ _ _ _ h4 hlast (by show base + (q - base) = q; omega)
    omega
  · omega
theorem cat_sum (base : Nat) (old : Nat → Nat) : ∀ (st : List Value), ((st.map (xv base old)).map fun v => v.category).sum = xcat st
  | [] => rfl
  | v :: st => by
    show (xv base old v).category + ((st.map (xv base old)).map fun v => v.category).sum = v.category + xcat st
    rw [cat_sum base old st, xv_cat]
variable {M : xM} {b : ByteArray} {a0 s0 : Nat}
/-- getfield -/
theorem i_get {T : xT} {own lk idx pc : Nat} {ls st : List Value} {A : xH} {n : xN} (h : xget T own xgo0 lk idx pc ls st A = some n) : ∃ o i ci k kd a s1 fs v, T.1[lk]? = some (o, i, ci, k, kd) ∧ o = own ∧ i = idx ∧ st = .ref a :: s1 ∧ A[a]? = some (.inr (ci, fs)) ∧ fs[k]? = some v ∧ n = .inl (pc + 3, ls, v :: s1, A) := by
  unfold xget at h
  split at h
  · cases h
  · rename_i o i ci k kd hT
    split at h
    · rename_i ho
      split at h
      · rename_i a s1
        split at h
        · obtain ⟨x, h1, h2⟩ := i_bind h
          obtain ⟨fs, g1, g2⟩ := j_gI h1
          exact ⟨o, i, ci, k, _, a, s1, fs, _, hT, ho.1, ho.2, rfl, g1, g2, (Option.some.inj h2).symm⟩
        · obtain ⟨x, h1, h2⟩ := i_bind h
          obtain ⟨fs, g1, g2⟩ := j_gI h1
          exact ⟨o, i, ci, k, _, a, s1, fs, _, hT, ho.1, ho.2, rfl, g1, g2, (Option.some.inj h2).symm⟩
        · obtain ⟨x, h1, h2⟩ := i_bind h
          obtain ⟨fs, g1, g2⟩ := j_gO h1
          refine ⟨o, i, ci, k, _, a, s1, fs, va_rf x, hT, ho.1, ho.2, rfl, g1, g2, ?_⟩
          cases x <;> exact (Option.some.inj h2).symm
        · obtain ⟨x, h1, h2⟩ := i_bind h
          obtain ⟨fs, g1, g2⟩ := j_gN h1
          exact ⟨o, i, ci, k, _, a, s1, fs, _, hT, ho.1, ho.2, rfl, g1, g2, (Option.some.inj h2).symm⟩
      · cases h
    · cases h
theorem go_get {lk idx pc : Nat} {als st : List Value} {A : xH} {pc' : Nat} {als' st' : List Value} {A' : xH} (C : xCx base old dA D E p s m args meth c M b a0) (hdg : decode b pc = .ok (.getfield idx, 3)) (h : xget xtabs M.1 xgo0 lk idx pc als st A = some (.inl (pc', als', st', A'))) (kk : xK base old dA D p l e R s m args below meth c Q a0 s0 pc' als' st' A') : xK base old dA D p l e R s m args below meth c Q a0 s0 pc als st A := by
  obtain ⟨hx, hb, hml, hown, hts, henv, hini, hz⟩ := C
  obtain ⟨o, i, ci, k, kd, a, s1, fs, v, hT, rfl, rfl, rfl, hA, hv, e⟩ := i_get h
  cases e
  obtain ⟨hci, hF⟩ := fl_all _ (List.mem_of_getElem? hT)
  obtain ⟨C, T, N, ty, hc, hty, hCn, hws, htyok, hnm, hinst, hini2, hT1⟩ := xk_all ci hci
  obtain ⟨hk, hlink, -⟩ := hF C T N ty hc hty
  intro H locs ls hX hl
  refine va_get (D := D) (ci := ci) (v := xv base old v) (C := C) (T := T) (N := N) (ref := C) hx hb hts hws hown henv.1 hX.1 a (xw_get hA) hc k hk (hts _ hlink) (by rw [hT1 k hk]; exact fun _ h => h) (by rw [List.getElem?_map, hv]; rfl) hdg (kk H locs ls hX hl)
/-- putfield -/
theorem i_put {T : xT} {own ini lk idx pc : Nat} {ls st : List Value} {A : xH} {n : xN} (h : xput T own ini xgo0 lk idx pc ls st A = some n) : ∃ o i ci k kd a s1 fs v, T.1[lk]? = some (o, i, ci, k, kd) ∧ o = own ∧ i = idx ∧ st = v :: .ref a :: s1 ∧ A[a]? = some (.inr (ci, fs)) ∧ k < fs.length ∧ n = .inl (pc + 3, ls, s1, A.set a (.inr (ci, fs.set k v))) ∧ ((kd = 0 ∧ ∃ x, v = .int x) ∨ (kd = 1 ∧ ∃ x, v = .int x ∧ x01 x = true) ∨ (kd = 2 ∧ (ini = 2 ∧ ci = own) ∧ ∃ b, v = .ref b) ∨ (kd = 3 ∧ ((∃ b, v = .ref b) ∨ v = .null))) := by
  unfold xput at h
  split at h
  · cases h
  · rename_i o i ci k kd hT
    split at h
    · rename_i ho
      split at h
      · rename_i v a s1
        split at h
        · split at h
          · rename_i x
            obtain ⟨B, h1, h2⟩ := i_bind h
            obtain ⟨fs, g1, g2, g3⟩ := j_pF h1
            subst g3
            exact ⟨o, i, ci, k, _, a, s1, fs, _, hT, ho.1, ho.2, rfl, g1, g2, (Option.some.inj h2).symm, Or.inl ⟨rfl, _, rfl⟩⟩
          · cases h
        · split at h
          · rename_i x
            split at h
            · rename_i h01
              obtain ⟨B, h1, h2⟩ := i_bind h
              obtain ⟨fs, g1, g2, g3⟩ := j_pF h1
              subst g3
              exact ⟨o, i, ci, k, _, a, s1, fs, _, hT, ho.1, ho.2, rfl, g1, g2, (Option.some.inj h2).symm, Or.inr (Or.inl ⟨rfl, _, rfl, h01⟩)⟩
            · cases h
          · cases h
        · split at h
          · rename_i hini
            split at h
            · obtain ⟨B, h1, h2⟩ := i_bind h
              obtain ⟨fs, g1, g2, g3⟩ := j_pF h1
              subst g3
              exact ⟨o, i, ci, k, _, a, s1, fs, _, hT, ho.1, ho.2, rfl, g1, g2, (Option.some.inj h2).symm, Or.inr (Or.inr (Or.inl ⟨rfl, hini, _, rfl⟩))⟩
            · cases h
          · cases h
        · split at h
          · obtain ⟨B, h1, h2⟩ := i_bind h
            obtain ⟨fs, g1, g2, g3⟩ := j_pF h1
            subst g3
            exact ⟨o, i, ci, k, _, a, s1, fs, _, hT, ho.1, ho.2, rfl, g1, g2, (Option.some.inj h2).symm, Or.inr (Or.inr (Or.inr ⟨rfl, Or.inl ⟨_, rfl⟩⟩))⟩
          · obtain ⟨B, h1, h2⟩ := i_bind h
            obtain ⟨fs, g1, g2, g3⟩ := j_pF h1
            subst g3
            exact ⟨o, i, ci, k, _, a, s1, fs, _, hT, ho.1, ho.2, rfl, g1, g2, (Option.some.inj h2).symm, Or.inr (Or.inr (Or.inr ⟨rfl, Or.inr rfl⟩))⟩
          · cases h
        · cases h
      · cases h
    · cases h
theorem obj_lt {k : Nat} {fs : List Value} {ci : Nat} : ∀ t n f, (.inr (ci, fs) : xA) = .inl (t, n, f) → t < 7 := fun _ _ _ h => by cases h
theorem nar01 {x : Int32} (h : x01 x = true) : narrow .boolean (.int x) = .int x := by
  unfold x01 at h
  rcases (Bool.or_eq_true _ _).mp h with h | h
  · have : x = 0 := by simpa using h
    subst this; rfl
  · have : x = 1 := by simpa using h
    subst this; rfl
theorem put_fits {kd : Nat} {ty : FieldType} {v : Value} (hk : (kd = 0 ∧ ty = .int ∧ ∃ x, v = .int x) ∨ (kd = 1 ∧ ty = .boolean ∧ ∃ x, v = .int x ∧ x01 x = true) ∨ (((∃ n, ty = .object n) ∨ ∃ t, ty = .array t) ∧ ((∃ b, v = .ref b) ∨ v = .null))) : narrow ty (xv base old v) = xv base old v ∧ fits ty (xv base old v) = true := by
  rcases hk with ⟨-, rfl, x, rfl⟩ | ⟨-, rfl, x, rfl, h⟩ | ⟨⟨n, rfl⟩ | ⟨t, rfl⟩, ⟨b, rfl⟩ | rfl⟩
  · exact ⟨rfl, rfl⟩
  · exact ⟨nar01 h, h⟩
  · exact ⟨rfl, rfl⟩
  · exact ⟨rfl, rfl⟩
  · exact ⟨rfl, rfl⟩
  · exact ⟨rfl, rfl⟩
theorem xsl_obj {A : xH} {a ci k : Nat} {fs : List Value} {v : Value} (hA : A[a]? = some (.inr (ci, fs))) : xsl (A.set a (.inr (ci, fs.set k v))) = xsl A := xsl_set A a _ _ hA (by show (fs.set k v).length = fs.length; simp)
theorem go_put {lk idx pc : Nat} {als st : List Value} {A : xH} {pc' : Nat} {als' st' : List Value} {A' : xH} (C : xCx base old dA D E p s m args meth c M b a0) (hdg : decode b pc = .ok (.putfield idx, 3)) (h : xput xtabs M.1 M.2.2.1 xgo0 lk idx pc als st A = some (.inl (pc', als', st', A'))) (kk : xK base old dA D p l e R s m args below meth c Q a0 s0 pc' als' st' A') : xK base old dA D p l e R s m args below meth c Q a0 s0 pc als st A := by
  obtain ⟨hx, hb, hml, hown, hts, henv, hini, hz⟩ := C
  obtain ⟨o, i, ci, k, kd, a, s1, fs, v, hT, rfl, rfl, rfl, hA, hl, e, hk⟩ := i_put h
  cases e
  obtain ⟨hci, hF⟩ := fl_all _ (List.mem_of_getElem? hT)
  obtain ⟨C, T, N, ty, hc, hty, hCn, hws, htyok, hnm, hinst, hini2, hT1⟩ := xk_all ci hci
  obtain ⟨hkN, hlink, hkk⟩ := hF C T N ty hc hty
  intro H locs ls hX hlo
  have kk2 : ∀ (H1 : Heap) (locs1 : List Loc), va_P D xclasses ((xw base old dA A).set a (base + a, .inr (ci, (fs.map (xv base old)).set k (xv base old v)))) H1 → va_D (fun q => base ≤ q) ((xw base old dA A).set a (base + a, .inr (ci, (fs.map (xv base old)).set k (xv base old v)))) → va_S (fun q => base ≤ q) s.heap H1 locs1 → W p l e R s m args below meth c H1 locs1 (A.length - a0) (xsl A - s0) Q (F0 m (pc + 3) ls (st'.map (xv base old))) := by
    intro H1 locs1 hP _ hS
    have hP' : va_P D xclasses (xw base old dA (A.set a (.inr (ci, fs.set k v)))) H1 := by
      rw [xw_set]
      show va_P D xclasses ((xw base old dA A).set a (base + a, .inr (ci, (fs.set k v).map (xv base old)))) H1
      rw [List.map_set]
      exact hP
    have := kk H1 locs1 ls ⟨hP', xtok_set hX.2.1 (fun _ _ _ h => by cases h), hS⟩ hlo
    rw [List.length_set, xsl_obj hA] at this
    exact this
  have hl' : k < (fs.map (xv base old)).length := by simpa using hl
  have hsame : ∀ x, s.fieldFound? (T k).1 (T k).2.1 (T k).2.2.1 = some x → s.fieldFound? C (T k).2.1 (T k).2.2.1 = some x := by rw [hT1 k hkN]; exact fun _ h => h
  rcases hk with ⟨rfl, x, rfl⟩ | ⟨rfl, x, rfl, h01⟩ | ⟨rfl, ⟨hi2, hio⟩, b1, rfl⟩ | ⟨rfl, hv⟩
  · obtain ⟨ht, hf⟩ := hkk
    obtain ⟨n1, n2⟩ := put_fits (base := base) (old := old) (kd := 0) (ty := ty k) (v := .int x) (Or.inl ⟨rfl, ht, x, rfl⟩)
    exact va_put (D := D) (ci := ci) (C := C) (T := T) (N := N) (ref := C) (ty := ty k) hx hb hts hws ty htyok hnm hown henv.1 hX.1 xw_D hX.2.2 a (xw_get hA) hc k hkN (hts _ hlink) hsame hf (htyok k hkN) n1 n2 hl' hdg kk2
  · obtain ⟨ht, hf⟩ := hkk
    obtain ⟨n1, n2⟩ := put_fits (base := base) (old := old) (kd := 1) (ty := ty k) (v := .int x) (Or.inr (Or.inl ⟨rfl, ht, x, rfl, h01⟩))
    exact va_put (D := D) (ci := ci) (C := C) (T := T) (N := N) (ref := C) (ty := ty k) hx hb hts hws ty htyok hnm hown henv.1 hX.1 xw_D hX.2.2 a (xw_get hA) hc k hkN (hts _ hlink) hsame hf (htyok k hkN) n1 n2 hl' hdg kk2
  · obtain ⟨ht, hf⟩ := hkk
    obtain ⟨n1, n2⟩ := put_fits (base := base) (old := old) (kd := 2) (ty := ty k) (v := .ref b1) (Or.inr (Or.inr ⟨ht, Or.inl ⟨b1, rfl⟩⟩))
    refine va_putF (D := D) (ci := ci) (C := C) (T := T) (N := N) (ref := C) (ty := ty k) hx hb hts hws ty htyok hnm hown henv.1 hX.1 xw_D hX.2.2 a (xw_get hA) hc k hkN (hts _ hlink) hsame hf (hini hi2) (by rw [hT1 k hkN, hCn, hio]) (htyok k hkN) n1 n2 hl' hdg kk2
  · obtain ⟨ht, hf⟩ := hkk
    obtain ⟨n1, n2⟩ := put_fits (base := base) (old := old) (kd := 3) (ty := ty k) (v := v) (Or.inr (Or.inr ⟨ht, hv⟩))
    exact va_put (D := D) (ci := ci) (C := C) (T := T) (N := N) (ref := C) (ty := ty k) hx hb hts hws ty htyok hnm hown henv.1 hX.1 xw_D hX.2.2 a (xw_get hA) hc k hkN (hts _ hlink) hsame hf (htyok k hkN) n1 n2 hl' hdg kk2
end XS
end
section
/-! ===== arrays, new cells ===== -/
section XS2
variable {base : Nat} {old : Nat → Nat} {dA : Nat → ClassId} {D : va_G} {E : Nat × (Nat → Int32)}
variable {p : Program} {l : Launch} {e : Env} {R : Room} {s : State} {m : MethodId} {args : Array Value} {below : List Frame} {meth : Method} {c : Code} {Q : State → Prop}
variable {M : xM} {b : ByteArray} {a0 s0 : Nat}
/-- behind a store into cell a -/
theorem st_done {A : xH} {a pc : Nat} {cN c0 : xA} {als st : List Value} {H : Heap} {locs : List Loc} {ls : Array Slot} (hX : xAt base old dA D s A H locs) (hlo : xLoc base old als ls) (hA : A[a]? = some c0) (kk : xK base old dA D p l e R s m args below meth c Q a0 s0 pc als st (A.set a cN)) (hsz : xsz cN = xsz c0) (ht : ∀ t n f, cN = .inl (t, n, f) → t < 7) :
    ∀ (H1 : Heap) (locs1 : List Loc), va_P D xclasses ((xw base old dA A).set a (base + a, xce base old dA cN)) H1 → va_D (fun q => base ≤ q) ((xw base old dA A).set a (base + a, xce base old dA cN)) → va_S (fun q => base ≤ q) s.heap H1 locs1 → W p l e R s m args below meth c H1 locs1 (A.length - a0) (xsl A - s0) Q (F0 m pc ls (st.map (xv base old))) := by
  intro H1 locs1 hP _ hS
  have := kk H1 locs1 ls ⟨by rw [xw_set]; exact hP, xtok_set hX.2.1 ht, hS⟩ hlo
  rw [List.length_set, xsl_set A a _ _ hA hsz] at this
  exact this
/-- behind a new cell -/
theorem new_done {A : xH} {pc n : Nat} {cN : xA} {als st : List Value} {H : Heap} {locs : List Loc} {ls : Array Slot} (hz : s.heap.size = base + a0) (ha : a0 ≤ A.length) (hs : s0 ≤ xsl A) (hX : xAt base old dA D s A H locs) (hlo : xLoc base old als ls) (kk : xK base old dA D p l e R s m args below meth c Q a0 s0 pc als (.ref A.length :: st) (A ++ [cN])) (hsz : xsz cN = n) (ht : ∀ t n f, cN = .inl (t, n, f) → t < 7) :
    ∀ (q : Nat) (H1 : Heap), va_P D xclasses (xw base old dA A ++ [(q, xce base old dA cN)]) H1 → va_D (fun q => base ≤ q) (xw base old dA A ++ [(q, xce base old dA cN)]) → va_S (fun q => base ≤ q) s.heap H1 locs → W p l e R s m args below meth c H1 locs (A.length - a0 + 1) (xsl A - s0 + n) Q (F0 m pc ls (.ref q :: st.map (xv base old))) := by
  intro q H1 hP hD hS
  refine W.bound (fun hb => ?_)
  have hq : q = base + A.length := xnew_at (n := 0) hz ha hP hD hb
  subst hq
  have := kk H1 locs ls ⟨by rw [xw_app]; exact hP, xtok_app hX.2.1 ht, hS⟩ hlo
  rw [List.length_append, xsl_app, hsz] at this
  have e1 : A.length + [cN].length - a0 = A.length - a0 + 1 := by simp; omega
  have e2 : xsl A + n - s0 = xsl A - s0 + n := by omega
  rw [e1, e2] at this
  exact this
theorem ra_prim {cA : ClassId} {t : FieldType} {ty : FieldType} (e : ty = t) (hp : t = .int ∨ t = .byte ∨ t = .boolean ∨ t = .long) (h : va_RA s cA ty) : s.vm.findClass ("[" ++ t.toString) = some cA := by
  subst e
  rcases hp with rfl | rfl | rfl | rfl <;> exact h
theorem ra_obj {cA : ClassId} {C : String} {ty : FieldType} (e : ty = .object C) (h : va_RA s cA ty) : s.vm.findClass ("[" ++ (FieldType.object C).toString) = some cA := by
  subst e
  obtain ⟨_, _, -, -, -, g⟩ := h
  exact g
theorem cls_at {t : Nat} {cA : ClassId} (ht : t < 7) (hK : va_K D xclasses (xtys dA) s) (hK' : va_K D xclasses (xtys dA ++ [(cA, xtyT t)]) s) : cA = dA t := by
  have h1 : va_RA s (dA t) (xtyT t) := (hK.2 t _ (xtys_at dA ht)).2
  have h2 : va_RA s cA (xtyT t) := (hK'.2 7 (cA, xtyT t) rfl).2
  generalize hty : xtyT t = ty at h1 h2
  rcases (show t = 0 ∨ t = 1 ∨ t = 2 ∨ t = 3 ∨ t = 4 ∨ t = 5 ∨ t = 6 by omega) with rfl | rfl | rfl | rfl | rfl | rfl | rfl
  · exact Option.some.inj ((ra_prim hty.symm (Or.inl rfl) h2).symm.trans (ra_prim hty.symm (Or.inl rfl) h1))
  · exact Option.some.inj ((ra_prim hty.symm (Or.inr (Or.inl rfl)) h2).symm.trans (ra_prim hty.symm (Or.inr (Or.inl rfl)) h1))
  · exact Option.some.inj ((ra_prim hty.symm (Or.inr (Or.inr (Or.inl rfl))) h2).symm.trans (ra_prim hty.symm (Or.inr (Or.inr (Or.inl rfl))) h1))
  · exact Option.some.inj ((ra_prim hty.symm (Or.inr (Or.inr (Or.inr rfl))) h2).symm.trans (ra_prim hty.symm (Or.inr (Or.inr (Or.inr rfl))) h1))
  · exact Option.some.inj ((ra_obj hty.symm h2).symm.trans (ra_obj hty.symm h1))
  · exact Option.some.inj ((ra_obj hty.symm h2).symm.trans (ra_obj hty.symm h1))
  · exact Option.some.inj ((ra_obj hty.symm h2).symm.trans (ra_obj hty.symm h1))
theorem i_iald {t pc : Nat} {ls st : List Value} {A : xH} {n : xN} (h : xiald E xgo0 t pc ls st A = some n) : (∃ i a s1 x, st = .int i :: .ref a :: s1 ∧ aI t A a i = some x ∧ n = .inl (pc + 1, ls, .int x :: s1, A)) ∨ ∃ i s1, t = 0 ∧ st = .int i :: .float 0 :: s1 ∧ vp_in i E.1 ∧ n = .inl (pc + 1, ls, .int (E.2 i.toNatClampNeg) :: s1, A) := by
  unfold xiald at h
  split at h
  · obtain ⟨x, h1, h2⟩ := i_bind h
    exact Or.inl ⟨_, _, _, x, rfl, h1, (Option.some.inj h2).symm⟩
  · split at h
    · rename_i hb
      obtain ⟨rfl, rfl⟩ := hb
      split at h
      · cases h
      · rename_i hi
        exact Or.inr ⟨_, _, rfl, rfl, hi, (Option.some.inj h).symm⟩
    · cases h
  · cases h
theorem go_iald {pc : Nat} {als st : List Value} {A : xH} {pc' : Nat} {als' st' : List Value} {A' : xH} (C : xCx base old dA D E p s m args meth c M b a0) (hdg : decode b pc = .ok (.iaload, 1)) (h : xiald E xgo0 0 pc als st A = some (.inl (pc', als', st', A'))) (kk : xK base old dA D p l e R s m args below meth c Q a0 s0 pc' als' st' A') : xK base old dA D p l e R s m args below meth c Q a0 s0 pc als st A := by
  obtain ⟨hx, hb, hml, hown, hts, henv, hini, hz⟩ := C
  intro H locs ls hX hl
  rcases i_iald h with ⟨i, a, s1, x, rfl, h1, e⟩ | ⟨i, s1, -, rfl, hi, e⟩
  · cases e
    obtain ⟨n, f, hA, hi, rfl⟩ := j_aI h1
    exact va_iald hx hb henv.1 hX.1 a 0 (xw_get hA) rfl hi hdg (kk H locs ls hX hl)
  · cases e
    obtain ⟨-, -, -, -, hXs, hbl, hbs, -⟩ := henv
    exact va_sld (b := old 0) hx hb hXs (by omega) (by omega) hX.2.2 hi hdg (kk H locs ls hX hl)
theorem go_bald {t pc : Nat} {als st : List Value} {A : xH} {pc' : Nat} {als' st' : List Value} {A' : xH} (C : xCx base old dA D E p s m args meth c M b a0) (hdg : decode b pc = .ok (.baload, 1)) (ht : t = 1 ∨ t = 2) (h : xiald E xgo0 t pc als st A = some (.inl (pc', als', st', A'))) (kk : xK base old dA D p l e R s m args below meth c Q a0 s0 pc' als' st' A') : xK base old dA D p l e R s m args below meth c Q a0 s0 pc als st A := by
  obtain ⟨hx, hb, hml, hown, hts, henv, hini, hz⟩ := C
  intro H locs ls hX hl
  rcases i_iald h with ⟨i, a, s1, x, rfl, h1, e⟩ | ⟨i, s1, h0, rfl, hi, e⟩
  · cases e
    obtain ⟨n, f, hA, hi, rfl⟩ := j_aI h1
    rcases ht with rfl | rfl
    · exact va_bald hx hb henv.1 hX.1 a 1 (xw_get hA) rfl hi hdg (kk H locs ls hX hl)
    · exact va_zald hx hb henv.1 hX.1 a 2 (xw_get hA) rfl hi hdg (kk H locs ls hX hl)
  · omega
theorem i_iast {t pc : Nat} {ls st : List Value} {A : xH} {n : xN} (h : xiast xgo0 t pc ls st A = some n) : ∃ x i a s1 B, st = .int x :: .int i :: .ref a :: s1 ∧ sI t A a i x = some B ∧ n = .inl (pc + 1, ls, s1, B) := by
  unfold xiast at h
  split at h
  · obtain ⟨x, h1, h2⟩ := i_bind h
    exact ⟨_, _, _, _, x, rfl, h1, (Option.some.inj h2).symm⟩
  · cases h
theorem arr_lt {t n : Nat} {f : (Nat → Int32) ⊕ (Nat → Int64) ⊕ (Nat → Option Nat)} (h : t < 7) : ∀ t' n' f', (.inl (t, n, f) : xA) = .inl (t', n', f') → t' < 7 := fun _ _ _ e => by cases e; exact h
theorem go_iast {pc : Nat} {als st : List Value} {A : xH} {pc' : Nat} {als' st' : List Value} {A' : xH} (C : xCx base old dA D E p s m args meth c M b a0) (hdg : decode b pc = .ok (.iastore, 1)) (h : xiast xgo0 0 pc als st A = some (.inl (pc', als', st', A'))) (kk : xK base old dA D p l e R s m args below meth c Q a0 s0 pc' als' st' A') : xK base old dA D p l e R s m args below meth c Q a0 s0 pc als st A := by
  obtain ⟨hx, hb, hml, hown, hts, henv, hini, hz⟩ := C
  intro H locs ls hX hl
  obtain ⟨x, i, a, s1, B, rfl, h1, e⟩ := i_iast h
  cases e
  obtain ⟨n, f, hA, hi, rfl⟩ := j_sI h1
  exact va_iast (x := x) hx hb henv.1 hX.1 xw_D hX.2.2 a 0 (xw_get hA) rfl hi hdg (st_done hX hl hA kk rfl (arr_lt (by decide)))
theorem go_bast {t pc : Nat} {als st : List Value} {A : xH} {pc' : Nat} {als' st' : List Value} {A' : xH} (C : xCx base old dA D E p s m args meth c M b a0) (hdg : decode b pc = .ok (.bastore, 1)) (ht : t = 1 ∨ t = 2) (h : xiast xgo0 t pc als st A = some (.inl (pc', als', st', A'))) (kk : xK base old dA D p l e R s m args below meth c Q a0 s0 pc' als' st' A') : xK base old dA D p l e R s m args below meth c Q a0 s0 pc als st A := by
  obtain ⟨hx, hb, hml, hown, hts, henv, hini, hz⟩ := C
  intro H locs ls hX hl
  obtain ⟨x, i, a, s1, B, rfl, h1, e⟩ := i_iast h
  cases e
  obtain ⟨n, f, hA, hi, rfl⟩ := j_sI h1
  rcases ht with rfl | rfl
  · exact va_bast (x := x) hx hb henv.1 hX.1 xw_D hX.2.2 a 1 (xw_get hA) rfl hi hdg (st_done hX hl hA kk rfl (arr_lt (by decide)))
  · exact va_zast (x := x) hx hb henv.1 hX.1 xw_D hX.2.2 a 2 (xw_get hA) rfl hi hdg (st_done hX hl hA kk rfl (arr_lt (by decide)))
theorem go_lald {pc : Nat} {als s1 : List Value} {A : xH} {i : Int32} {a : Nat} {x : Int64} (C : xCx base old dA D E p s m args meth c M b a0) (hdg : decode b pc = .ok (.laload, 1)) (h : aL A a i = some x) (kk : xK base old dA D p l e R s m args below meth c Q a0 s0 (pc + 1) als (.long x :: s1) A) : xK base old dA D p l e R s m args below meth c Q a0 s0 pc als (.int i :: .ref a :: s1) A := by
  obtain ⟨hx, hb, hml, hown, hts, henv, hini, hz⟩ := C
  intro H locs ls hX hl
  obtain ⟨n, f, hA, hi, rfl⟩ := j_aL h
  exact va_lald hx hb henv.1 hX.1 a 3 (xw_get hA) rfl hi hdg (kk H locs ls hX hl)
theorem go_last {pc : Nat} {als s1 : List Value} {A B : xH} {i : Int32} {a : Nat} {x : Int64} (C : xCx base old dA D E p s m args meth c M b a0) (hdg : decode b pc = .ok (.lastore, 1)) (h : sL A a i x = some B) (kk : xK base old dA D p l e R s m args below meth c Q a0 s0 (pc + 1) als s1 B) : xK base old dA D p l e R s m args below meth c Q a0 s0 pc als (.long x :: .int i :: .ref a :: s1) A := by
  obtain ⟨hx, hb, hml, hown, hts, henv, hini, hz⟩ := C
  intro H locs ls hX hl
  obtain ⟨n, f, hA, hi, rfl⟩ := j_sL h
  exact va_last (x := x) hx hb henv.1 hX.1 xw_D hX.2.2 a 3 (xw_get hA) rfl hi hdg (st_done hX hl hA kk rfl (arr_lt (by decide)))
theorem tyT_obj {t : Nat} (h : t = 4 ∨ t = 5 ∨ t = 6) : xtyT t = .object (xelC t) ∧ t < 7 := by
  rcases h with rfl | rfl | rfl <;> exact ⟨rfl, by decide⟩
theorem go_aald {t pc : Nat} {als s1 : List Value} {A : xH} {i : Int32} {a : Nat} {o : Option Nat} (C : xCx base old dA D E p s m args meth c M b a0) (hdg : decode b pc = .ok (.aaload, 1)) (ht : t = 4 ∨ t = 5 ∨ t = 6) (h : aR t A a i = some o) (kk : xK base old dA D p l e R s m args below meth c Q a0 s0 (pc + 1) als (va_rf o :: s1) A) : xK base old dA D p l e R s m args below meth c Q a0 s0 pc als (.int i :: .ref a :: s1) A := by
  obtain ⟨hx, hb, hml, hown, hts, henv, hini, hz⟩ := C
  intro H locs ls hX hl
  obtain ⟨n, f, hA, hi, rfl⟩ := j_aR h
  obtain ⟨t1, t2⟩ := tyT_obj ht
  have hk := kk H locs ls hX hl
  have e9 : xv base old (va_rf (f i.toNatClampNeg)) = va_rf ((f i.toNatClampNeg).map (base + ·)) := by
    cases f i.toNatClampNeg <;> rfl
  refine va_aldq (C := xelC t) hx hb henv.1 hX.1 a t (xw_get hA) (by rw [← t1]; exact xtys_at dA t2) hi hdg ?_
  show W p l e R s m args below meth c H locs _ _ Q (F0 m (pc + 1) ls (va_rf ((f i.toNatClampNeg).map (base + ·)) :: s1.map (xv base old)))
  rw [← e9]
  exact hk
theorem el_cls {t : Nat} (h : t = 4 ∨ t = 5 ∨ t = 6) : ∃ r : vw_C, xclasses[xelem t]? = some r ∧ r.1 = xelC t := by
  rcases h with rfl | rfl | rfl
  · exact ⟨_, rfl, rfl⟩
  · exact ⟨_, rfl, rfl⟩
  · exact ⟨_, rfl, rfl⟩
theorem map_up {f : Nat → Option Nat} {k : Nat} {o : Option Nat} {g : Nat → Nat} : (fun j => (va_up f k o j).map g) = va_up (fun j => (f j).map g) k (o.map g) := by
  funext j
  unfold va_up
  by_cases h : j = k
  · simp [h]
  · simp [h]
theorem go_aast {t pc : Nat} {als s1 : List Value} {A B : xH} {i : Int32} {a : Nat} {o : Option Nat} (C : xCx base old dA D E p s m args meth c M b a0) (hdg : decode b pc = .ok (.aastore, 1)) (ht : t = 4 ∨ t = 5 ∨ t = 6) (h : sR t A a i o = some B) (kk : xK base old dA D p l e R s m args below meth c Q a0 s0 (pc + 1) als s1 B) : xK base old dA D p l e R s m args below meth c Q a0 s0 pc als (va_rf o :: .int i :: .ref a :: s1) A := by
  obtain ⟨hx, hb, hml, hown, hts, henv, hini, hz⟩ := C
  intro H locs ls hX hl
  obtain ⟨n, f, hA, hel, hi, rfl⟩ := j_sR h
  obtain ⟨t1, t2⟩ := tyT_obj ht
  obtain ⟨r, hr, hrn⟩ := el_cls ht
  have fin := st_done (p := p) (l := l) (e := e) (R := R) (m := m) (args := args) (below := below) (meth := meth) (c := c) (Q := Q) (a0 := a0) (s0 := s0) hX hl hA kk rfl (arr_lt t2)
  have e3 : xce base old dA (.inl (t, n, .inr (.inr (va_up f i.toNatClampNeg o)))) = .inl (dA t, n, .inr (.inr (.inr (.inr (va_up (fun j => (f j).map (base + ·)) i.toNatClampNeg (o.map (base + ·))))))) := by
    show (.inl (dA t, n, .inr (.inr (.inr (.inr (fun j => (va_up f i.toNatClampNeg o j).map (base + ·)))))) : va_E) = _
    rw [map_up]
  rw [e3] at fin
  cases o with
  | none => exact va_astqN (C := xelC t) hx hb henv.1 hX.1 xw_D hX.2.2 a t (xw_get hA) (by rw [← t1]; exact xtys_at dA t2) hi hdg fin
  | some bb =>
    have hcl : xcls A bb = some (xelem t) := by simpa [xelok] using hel
    obtain ⟨vs, hB⟩ := j_cls hcl
    exact va_astq (r := r) hx hb henv.1 hX.1 xw_D hX.2.2 a t bb (xelem t) (xw_get hA) (by rw [hrn, ← t1]; exact xtys_at dA t2) (xw_get hB) hr hi hdg fin
theorem go_alen {pc : Nat} {als s1 : List Value} {A : xH} {a : Nat} {x : Int32} (C : xCx base old dA D E p s m args meth c M b a0) (hdg : decode b pc = .ok (.arraylength, 1)) (h : lA A a = some x) (kk : xK base old dA D p l e R s m args below meth c Q a0 s0 (pc + 1) als (.int x :: s1) A) : xK base old dA D p l e R s m args below meth c Q a0 s0 pc als (.ref a :: s1) A := by
  obtain ⟨hx, hb, hml, hown, hts, henv, hini, hz⟩ := C
  intro H locs ls hX hl
  obtain ⟨t, n, f, hA, rfl⟩ := j_lA h
  have ht := hX.2.1 a t n f hA
  have hw := xw_get (base := base) (old := old) (dA := dA) hA
  obtain f | f | f := f
  · exact va_alen (x := (n, .inl f)) (ty := xtyT t) hx hb henv.1 hX.1 a t hw (xtys_at dA ht) rfl hdg (kk H locs ls hX hl)
  · exact va_alen (x := (n, .inr (.inl f))) (ty := xtyT t) hx hb henv.1 hX.1 a t hw (xtys_at dA ht) rfl hdg (kk H locs ls hX hl)
  · exact va_alen (x := (n, .inr (.inr (.inr (.inr fun j => (f j).map (base + ·)))))) (ty := xtyT t) hx hb henv.1 hX.1 a t hw (xtys_at dA ht) rfl hdg (kk H locs ls hX hl)
theorem go_slen {pc : Nat} {als s1 : List Value} {A : xH} (C : xCx base old dA D E p s m args meth c M b a0) (hdg : decode b pc = .ok (.arraylength, 1)) (kk : xK base old dA D p l e R s m args below meth c Q a0 s0 (pc + 1) als (.int (Int32.ofNat E.1) :: s1) A) : xK base old dA D p l e R s m args below meth c Q a0 s0 pc als (.float 0 :: s1) A := by
  obtain ⟨hx, hb, hml, hown, hts, henv, hini, hz⟩ := C
  intro H locs ls hX hl
  obtain ⟨-, -, -, -, hXs, hbl, hbs, -⟩ := henv
  exact va_slen (b := old 0) hx hb hXs (by omega) (by omega) hX.2.2 hdg (kk H locs ls hX hl)
theorem i_newa {t : ArrayType} {pc : Nat} {ls st : List Value} {A : xH} {n : xN} (h : xnewa xgo0 t pc ls st A = some n) : ∃ k s1 tg cN, st = .int k :: s1 ∧ ¬ k < 0 ∧ k.toNatClampNeg ≤ 100000 ∧ n = .inl (pc + 2, ls, .ref A.length :: s1, A ++ [cN]) ∧ ((t = .int ∧ tg = 0 ∧ cN = .inl (0, k.toNatClampNeg, .inl fun _ => 0)) ∨ (t = .byte ∧ tg = 1 ∧ cN = .inl (1, k.toNatClampNeg, .inl fun _ => 0)) ∨ (t = .boolean ∧ tg = 2 ∧ cN = .inl (2, k.toNatClampNeg, .inl fun _ => 0)) ∨ (t = .long ∧ tg = 3 ∧ cN = .inl (3, k.toNatClampNeg, .inr (.inl fun _ => 0)))) := by
  unfold xnewa at h
  split at h
  · split at h
    · cases h
    · rename_i hk
      have h1 := fun q => hk (Or.inl q)
      have h2 := Nat.not_lt.mp (fun q => hk (Or.inr q))
      split at h
      · exact ⟨_, _, 0, _, rfl, h1, h2, (Option.some.inj h).symm, Or.inl ⟨rfl, rfl, rfl⟩⟩
      · exact ⟨_, _, 1, _, rfl, h1, h2, (Option.some.inj h).symm, Or.inr (Or.inl ⟨rfl, rfl, rfl⟩)⟩
      · exact ⟨_, _, 2, _, rfl, h1, h2, (Option.some.inj h).symm, Or.inr (Or.inr (Or.inl ⟨rfl, rfl, rfl⟩))⟩
      · exact ⟨_, _, 3, _, rfl, h1, h2, (Option.some.inj h).symm, Or.inr (Or.inr (Or.inr ⟨rfl, rfl, rfl⟩))⟩
      · cases h
  · cases h
/-- room for a new cell -/
theorem new_room {A : xH} {cN : xA} {R : Room} (ha : a0 ≤ A.length) (hs : s0 ≤ xsl A) (h1 : (A ++ [cN]).length - a0 ≤ R.cells) (h2 : xsl (A ++ [cN]) - s0 ≤ R.slots) : A.length - a0 + 1 ≤ R.cells ∧ xsl A - s0 + xsz cN ≤ R.slots := by
  rw [List.length_append] at h1
  rw [xsl_app] at h2
  simp at h1
  omega
theorem go_newa {t : ArrayType} {pc : Nat} {als st : List Value} {A : xH} {pc' : Nat} {als' st' : List Value} {A' : xH} (C : xCx base old dA D E p s m args meth c M b a0) (ha : a0 ≤ A.length) (hs : s0 ≤ xsl A) (h1 : A'.length - a0 ≤ R.cells) (h2 : xsl A' - s0 ≤ R.slots) (hdg : decode b pc = .ok (.newarray t, 2)) (h : xnewa xgo0 t pc als st A = some (.inl (pc', als', st', A'))) (kk : xK base old dA D p l e R s m args below meth c Q a0 s0 pc' als' st' A') : xK base old dA D p l e R s m args below meth c Q a0 s0 pc als st A := by
  obtain ⟨hx, hb, hml, hown, hts, henv, hini, hz⟩ := C
  intro H locs ls hX hl
  obtain ⟨k, s1, tg, cN, rfl, hk0, hk1, e, hc⟩ := i_newa h
  cases e
  obtain ⟨r1, r2⟩ := new_room ha hs h1 h2
  have hA : ∀ q, s.heap.size ≤ q → (fun q => base ≤ q) q := fun q hq => by show base ≤ q; omega
  rcases hc with ⟨rfl, rfl, rfl⟩ | ⟨rfl, rfl, rfl⟩ | ⟨rfl, rfl, rfl⟩ | ⟨rfl, rfl, rfl⟩
  · refine va_newa (atype := .int) (ty := xtyT 0) (a0 := (k.toNatClampNeg, .inl fun _ => 0)) hx hb (hts _ wy_int) rfl henv.1 hX.1 xw_D hX.2.2 hA (fun cA => rfl) hk0 rfl (by show k.toNatClampNeg * 4 ≤ _; omega) r1 r2 hdg (fun q cA H1 hK' hP hD hS => ?_)
    have := cls_at (by decide) henv.1 hK'
    subst this
    exact new_done hz ha hs hX hl kk rfl (arr_lt (by decide)) q H1 hP hD hS
  · refine va_newa (atype := .byte) (ty := xtyT 1) (a0 := (k.toNatClampNeg, .inl fun _ => 0)) hx hb (hts _ wy_byte) rfl henv.1 hX.1 xw_D hX.2.2 hA (fun cA => rfl) hk0 rfl (by show k.toNatClampNeg * 1 ≤ _; omega) r1 r2 hdg (fun q cA H1 hK' hP hD hS => ?_)
    have := cls_at (by decide) henv.1 hK'
    subst this
    exact new_done hz ha hs hX hl kk rfl (arr_lt (by decide)) q H1 hP hD hS
  · refine va_newa (atype := .boolean) (ty := xtyT 2) (a0 := (k.toNatClampNeg, .inl fun _ => 0)) hx hb (hts _ wy_boolean) rfl henv.1 hX.1 xw_D hX.2.2 hA (fun cA => rfl) hk0 rfl (by show k.toNatClampNeg * 1 ≤ _; omega) r1 r2 hdg (fun q cA H1 hK' hP hD hS => ?_)
    have := cls_at (by decide) henv.1 hK'
    subst this
    exact new_done hz ha hs hX hl kk rfl (arr_lt (by decide)) q H1 hP hD hS
  · refine va_newa (atype := .long) (ty := xtyT 3) (a0 := (k.toNatClampNeg, .inr (.inl fun _ => 0))) hx hb (hts _ wy_long) rfl henv.1 hX.1 xw_D hX.2.2 hA (fun cA => rfl) hk0 rfl (by show k.toNatClampNeg * 8 ≤ _; omega) r1 r2 hdg (fun q cA H1 hK' hP hD hS => ?_)
    have := cls_at (by decide) henv.1 hK'
    subst this
    exact new_done hz ha hs hX hl kk rfl (arr_lt (by decide)) q H1 hP hD hS
theorem go_anew {lk idx pc : Nat} {als s1 : List Value} {A : xH} {o i t : Nat} {fs : List Value} {k : Int32} (C : xCx base old dA D E p s m args meth c M b a0) (ha : a0 ≤ A.length) (hs : s0 ≤ xsl A) (h1 : (A ++ [(.inl (t, k.toNatClampNeg, .inr (.inr fun _ => none)) : xA)]).length - a0 ≤ R.cells) (h2 : xsl (A ++ [.inl (t, k.toNatClampNeg, .inr (.inr fun _ => none))]) - s0 ≤ R.slots) (hdg : decode b pc = .ok (.anewarray idx, 3)) (hT : xKL[lk]? = some (o, i, t, fs)) (ho : o = M.1 ∧ i = idx ∧ 4 ≤ t ∧ t ≤ 6) (hk : ¬ (k < 0 ∨ 100000 < k.toNatClampNeg)) (kk : xK base old dA D p l e R s m args below meth c Q a0 s0 (pc + 3) als (.ref A.length :: s1) (A ++ [.inl (t, k.toNatClampNeg, .inr (.inr fun _ => none))])) : xK base old dA D p l e R s m args below meth c Q a0 s0 pc als (.int k :: s1) A := by
  obtain ⟨hx, hb, hml, hown, hts, henv, hini, hz⟩ := C
  intro H locs ls hX hl
  obtain ⟨rfl, rfl, h4, h6⟩ := ho
  obtain ⟨r1, r2⟩ := new_room ha hs h1 h2
  have hA : ∀ q, s.heap.size ≤ q → (fun q => base ≤ q) q := fun q hq => by show base ≤ q; omega
  have hk0 := fun q => hk (Or.inl q)
  have hk1 := Nat.not_lt.mp (fun q => hk (Or.inr q))
  have hlink : Cond.classLink (xcn M.1) i (xelC t) ∈ gw := by
    rcases kl_all _ (List.mem_of_getElem? hT) with ⟨q, -⟩ | ⟨-, -, q⟩ | ⟨q, -⟩
    · exfalso; have : t = 0 := q; omega
    · exact q
    · exfalso; have : 100 ≤ t := q; omega
  have ht : t = 4 ∨ t = 5 ∨ t = 6 := by omega
  obtain ⟨t1, t2⟩ := tyT_obj ht
  have hover : va_AO (xelC t) s := by
    obtain ⟨-, -, ⟨o1, o2, o3⟩, -⟩ := henv
    rcases ht with rfl | rfl | rfl
    · exact o1
    · exact o2
    · exact o3
  refine va_newq (C := xelC t) hx hb hown (hts _ hlink) hover henv.1 hX.1 xw_D hX.2.2 hA hk0 rfl (by omega) r1 r2 hdg (fun q cA H1 hK' hP hD hS => ?_)
  rw [← t1] at hK'
  have := cls_at t2 henv.1 hK'
  subst this
  exact new_done hz ha hs hX hl kk rfl (arr_lt t2) q H1 hP hD hS
theorem map_dflt {fs : List Value} (h : ∀ v ∈ fs, v = .null ∨ v = .int 0) : fs.map (xv base old) = fs := by
  induction fs with
  | nil => rfl
  | cons v fs ih =>
    rw [List.map_cons, ih (fun w hw => h w (List.mem_cons_of_mem _ hw))]
    rcases h v List.mem_cons_self with rfl | rfl <;> rfl
theorem kl_plain : ∀ e ∈ xKL, ∀ v ∈ e.2.2.2, v = .null ∨ v = .int 0 := by
  unfold xKL
  decide
theorem go_new {lk idx pc : Nat} {als st : List Value} {A : xH} {o i t : Nat} {fs : List Value} (C : xCx base old dA D E p s m args meth c M b a0) (ha : a0 ≤ A.length) (hs : s0 ≤ xsl A) (h1 : (A ++ [(.inr (t - 100, fs) : xA)]).length - a0 ≤ R.cells) (h2 : xsl (A ++ [.inr (t - 100, fs)]) - s0 ≤ R.slots) (hdg : decode b pc = .ok (.new idx, 3)) (hT : xKL[lk]? = some (o, i, t, fs)) (ho : o = M.1 ∧ i = idx) (h100 : 100 ≤ t) (kk : xK base old dA D p l e R s m args below meth c Q a0 s0 (pc + 3) als (.ref A.length :: st) (A ++ [.inr (t - 100, fs)])) : xK base old dA D p l e R s m args below meth c Q a0 s0 pc als st A := by
  obtain ⟨hx, hb, hml, hown, hts, henv, hini, hz⟩ := C
  intro H locs ls hX hl
  obtain ⟨rfl, rfl⟩ := ho
  obtain ⟨r1, r2⟩ := new_room ha hs h1 h2
  have hA : ∀ q, s.heap.size ≤ q → (fun q => base ≤ q) q := fun q hq => by show base ≤ q; omega
  rcases kl_all _ (List.mem_of_getElem? hT) with ⟨q, -⟩ | ⟨-, q, -⟩ | ⟨-, hlt, hlink, hF⟩
  · exfalso; have : t = 0 := q; omega
  · exfalso; have : t ≤ 6 := q; omega
  · have hlt' : t - 100 < 10 := by have : t < 110 := hlt; omega
    obtain ⟨C, T, N, ty, hc, hty, hCn, hws, htyok, hnm, hinst, hini2, hT1⟩ := xk_all (t - 100) hlt'
    obtain ⟨hlen, hdf⟩ := hF C T N ty hc hty
    have hlen' : fs.length = N := hlen
    have hmap := map_dflt (base := base) (old := old) (kl_plain _ (List.mem_of_getElem? hT))
    have hlink' : Cond.classLink (xcn M.1) i C ∈ gw := by rw [hCn]; exact hlink
    refine va_new (D := D) (ci := t - 100) (C := C) (T := T) (N := N) (fs := fs) hx hb hts hws ty htyok hown (hts _ hlink') (hts _ hinst) (hts _ hini2) henv.1 hX.1 xw_D hX.2.2 hA hc (fun j hj => (hdf j hj).1) r1 (by rw [← hlen']; exact r2) hdg (fun q H1 hP hD hS => ?_)
    have e9 : xce base old dA (.inr (t - 100, fs)) = .inr (t - 100, fs) := by
      show (.inr (t - 100, fs.map (xv base old)) : va_E) = _
      rw [hmap]
    have := new_done (cN := .inr (t - 100, fs)) hz ha hs hX hl kk (n := N) hlen' (fun _ _ _ h => by cases h) q H1
    rw [e9] at this
    exact this hP hD hS
end XS2
end
section
/-! ===== every instruction that neither calls nor returns ===== -/
section XS3
variable {base : Nat} {old : Nat → Nat} {dA : Nat → ClassId} {D : va_G} {E : Nat × (Nat → Int32)}
variable {p : Program} {l : Launch} {e : Env} {R : Room} {s : State} {m : MethodId} {args : Array Value} {below : List Frame} {meth : Method} {c : Code} {Q : State → Prop}
variable {M : xM} {b : ByteArray} {a0 s0 : Nat}
theorem row_dec {pc lk : Nat} {ins : Instr} {dead : List Nat} (hr : xrok b (pc, ins, lk, dead) = true) : ∃ n, decode b pc = .ok (ins, n) ∧ (xplain ins = true → xlen ins ≠ 0 → n = xlen ins) ∧ xoffs pc ins = true ∧ xlkk ins lk = true := by
  unfold xrok at hr
  dsimp only at hr
  split at hr
  · rename_i i n hd
    simp only [Bool.and_eq_true, decide_eq_true_eq] at hr
    obtain ⟨⟨⟨h1, h2⟩, h3⟩, h4⟩ := hr
    subst h1
    refine ⟨n, hd, fun hp hl => ?_, h3, h4⟩
    simp only [Bool.or_eq_true, beq_iff_eq, Bool.not_eq_true'] at h2
    rcases h2 with (h2 | h2) | h2
    · exact absurd h2 hl
    · rw [hp] at h2; cases h2
    · exact h2.symm
  · cases hr
theorem tgt_ok {pc : Nat} {o : Int} (h : xtgt pc o = true) : (pc : Int) + o = (xti pc o : Int) := by
  unfold xtgt at h
  unfold xti
  have := of_decide_eq_true h
  omega
theorem i_sw {go : Nat → Option xN} {pc dflt : Nat} {x : Int32} {n : xN} : ∀ (lo : List Int) (c : Int), xsw go pc dflt x c lo = some n → (∃ (k : Nat) (o : Int), lo[k]? = some o ∧ x = Int32.ofInt (c + k) ∧ go (xti pc o) = some n) ∨ ((∀ k, k < lo.length → x ≠ Int32.ofInt (c + (k : Int))) ∧ go dflt = some n)
  | [], c, h => Or.inr ⟨fun k hk => absurd hk (Nat.not_lt_zero k), h⟩
  | o :: lo, c, h => by
    unfold xsw at h
    split at h
    · rename_i hx
      exact Or.inl ⟨0, o, rfl, by simpa using hx, h⟩
    · rename_i hx
      rcases i_sw lo (c + 1) h with ⟨k, o', h1, h2, h3⟩ | ⟨h1, h2⟩
      · exact Or.inl ⟨k + 1, o', by simpa using h1, by rw [h2]; congr 1; push_cast; omega, h3⟩
      · refine Or.inr ⟨fun k hk => ?_, h2⟩
        cases k with
        | zero => simpa using hx
        | succ k =>
          have := h1 k (by simpa using hk)
          intro e
          apply this
          rw [e]
          congr 1
          push_cast
          omega
theorem go_sw {pc : Nat} {als s1 : List Value} {A : xH} {d lo hi : Int} {offs : Array Int} {n : Nat} {x : Int32} {pc' : Nat} {als' st' : List Value} {A' : xH} (C : xCx base old dA D E p s m args meth c M b a0) (hdg : decode b pc = .ok (.tableswitch d lo hi offs, n)) (ho : xoffs pc (.tableswitch d lo hi offs) = true) (h : xsw (fun q => (some (.inl (q, als, s1, A)) : Option xN)) pc (xti pc d) x lo offs.toList = some (.inl (pc', als', st', A'))) (kk : xK base old dA D p l e R s m args below meth c Q a0 s0 pc' als' st' A') : xK base old dA D p l e R s m args below meth c Q a0 s0 pc als (.int x :: s1) A := by
  obtain ⟨hx, hb, hml, hown, hts, henv, hini, hz⟩ := C
  intro H locs ls hX hl
  simp only [xoffs, Bool.and_eq_true, decide_eq_true_eq, List.all_eq_true] at ho
  obtain ⟨⟨⟨⟨h1, h2⟩, h3⟩, h4⟩, h5⟩ := ho
  rcases i_sw _ _ h with ⟨k, o, g1, g2, g3⟩ | ⟨g1, g3⟩
  · cases g3
    have hk : k < offs.toList.length := (List.getElem?_eq_some_iff.mp g1).1
    have hxi : x.toInt = lo + k := by
      rw [g2]
      exact Int32.toInt_ofInt_of_le (by omega) (by omega)
    exact lv_tableIn hx hb hdg (by omega) (by omega) (by rw [hxi, show (lo + (k : Int) - lo).toNat = k by omega, ← Array.getElem?_toList]; exact g1) (tgt_ok (h2 o (List.mem_of_getElem? g1))) (kk H locs ls hX hl)
  · cases g3
    refine lv_tableOut hx hb hdg ?_ (tgt_ok h1) (kk H locs ls hX hl)
    by_cases q : x.toInt < lo
    · exact Or.inl q
    · by_cases q2 : hi < x.toInt
      · exact Or.inr q2
      · exfalso
        refine g1 (x.toInt - lo).toNat (by omega) ?_
        rw [show lo + (((x.toInt - lo).toNat : Nat) : Int) = x.toInt by omega, Int32.ofInt_toInt]
theorem go_icmp {cd : ClassFile.Cond} {off : Int} {pc : Nat} {als s1 : List Value} {A : xH} {x y : Int32} {pc' : Nat} {als' st' : List Value} {A' : xH} (C : xCx base old dA D E p s m args meth c M b a0) (hdg : decode b pc = .ok (.if_icmp cd off, 3)) (ht : (pc : Int) + off = (xti pc off : Int)) (h : xicmp cd x y (some (.inl (xti pc off, als, s1, A)) : Option xN) (some (.inl (pc + 3, als, s1, A)) : Option xN) = some (.inl (pc', als', st', A'))) (kk : xK base old dA D p l e R s m args below meth c Q a0 s0 pc' als' st' A') : xK base old dA D p l e R s m args below meth c Q a0 s0 pc als (.int y :: .int x :: s1) A := by
  obtain ⟨hx, hb, hml, hown, hts, henv, hini, hz⟩ := C
  intro H locs ls hX hl
  cases cd <;> dsimp only [xicmp] at h
  · exact lv_icmp_eq hx hb hdg ht (fun q => by rw [if_pos q] at h; cases h; exact kk H locs ls hX hl) (fun q => by rw [if_neg q] at h; cases h; exact kk H locs ls hX hl)
  · exact lv_icmp_ne hx hb hdg ht (fun q => by rw [if_neg q] at h; cases h; exact kk H locs ls hX hl) (fun q => by rw [if_pos q] at h; cases h; exact kk H locs ls hX hl)
  · exact lv_icmp_lt hx hb hdg ht (fun q => by rw [if_pos q] at h; cases h; exact kk H locs ls hX hl) (fun q => by rw [if_neg q] at h; cases h; exact kk H locs ls hX hl)
  · exact lv_icmp_ge hx hb hdg ht (fun q => by rw [if_pos q] at h; cases h; exact kk H locs ls hX hl) (fun q => by rw [if_neg q] at h; cases h; exact kk H locs ls hX hl)
  · exact lv_icmp_gt hx hb hdg ht (fun q => by rw [if_pos q] at h; cases h; exact kk H locs ls hX hl) (fun q => by rw [if_neg q] at h; cases h; exact kk H locs ls hX hl)
  · exact lv_icmp_le hx hb hdg ht (fun q => by rw [if_pos q] at h; cases h; exact kk H locs ls hX hl) (fun q => by rw [if_neg q] at h; cases h; exact kk H locs ls hX hl)
theorem go_if {cd : ClassFile.Cond} {off : Int} {pc : Nat} {als s1 : List Value} {A : xH} {x : Int32} {pc' : Nat} {als' st' : List Value} {A' : xH} (C : xCx base old dA D E p s m args meth c M b a0) (hdg : decode b pc = .ok (.ifCond cd off, 3)) (ht : (pc : Int) + off = (xti pc off : Int)) (h : xicmp cd x 0 (some (.inl (xti pc off, als, s1, A)) : Option xN) (some (.inl (pc + 3, als, s1, A)) : Option xN) = some (.inl (pc', als', st', A'))) (kk : xK base old dA D p l e R s m args below meth c Q a0 s0 pc' als' st' A') : xK base old dA D p l e R s m args below meth c Q a0 s0 pc als (.int x :: s1) A := by
  obtain ⟨hx, hb, hml, hown, hts, henv, hini, hz⟩ := C
  intro H locs ls hX hl
  cases cd <;> dsimp only [xicmp] at h
  · exact lv_if_eq hx hb hdg ht (fun q => by rw [if_pos q] at h; cases h; exact kk H locs ls hX hl) (fun q => by rw [if_neg q] at h; cases h; exact kk H locs ls hX hl)
  · exact lv_if_ne hx hb hdg ht (fun q => by rw [if_neg q] at h; cases h; exact kk H locs ls hX hl) (fun q => by rw [if_pos q] at h; cases h; exact kk H locs ls hX hl)
  · exact lv_if_lt hx hb hdg ht (fun q => by rw [if_pos q] at h; cases h; exact kk H locs ls hX hl) (fun q => by rw [if_neg q] at h; cases h; exact kk H locs ls hX hl)
  · exact lv_if_ge hx hb hdg ht (fun q => by rw [if_pos q] at h; cases h; exact kk H locs ls hX hl) (fun q => by rw [if_neg q] at h; cases h; exact kk H locs ls hX hl)
  · exact lv_if_gt hx hb hdg ht (fun q => by rw [if_pos q] at h; cases h; exact kk H locs ls hX hl) (fun q => by rw [if_neg q] at h; cases h; exact kk H locs ls hX hl)
  · exact lv_if_le hx hb hdg ht (fun q => by rw [if_pos q] at h; cases h; exact kk H locs ls hX hl) (fun q => by rw [if_neg q] at h; cases h; exact kk H locs ls hX hl)
theorem go_ldc {w lk idx pc : Nat} {als st : List Value} {A : xH} {pc' : Nat} {als' st' : List Value} {A' : xH} (C : xCx base old dA D E p s m args meth c M b a0) (hdg : (w = 2 ∧ decode b pc = .ok (.ldc idx, 2)) ∨ (w = 3 ∧ decode b pc = .ok (.ldc_w idx, 3))) (h : xldc xtabs M.1 xgo0 w lk idx pc als st A = some (.inl (pc', als', st', A'))) (kk : xK base old dA D p l e R s m args below meth c Q a0 s0 pc' als' st' A') : xK base old dA D p l e R s m args below meth c Q a0 s0 pc als st A := by
  obtain ⟨hx, hb, hml, hown, hts, henv, hini, hz⟩ := C
  intro H locs ls hX hl
  unfold xldc at h
  split at h
  · rename_i o i v hT
    split at h
    · rename_i ho
      obtain ⟨rfl, rfl⟩ := ho
      cases h
      have hw := ci_all _ (List.mem_of_getElem? (show xCI[lk]? = some _ from hT))
      rcases hdg with ⟨rfl, hdg⟩ | ⟨rfl, hdg⟩
      · exact lv_ldc hx hb hown (hts _ hw) hdg (kk H locs ls hX hl)
      · exact lv_ldcw hx hb hown (hts _ hw) hdg (kk H locs ls hX hl)
    · cases h
  · split at h
    · rename_i o i k hT
      split at h
      · rename_i ho
        obtain ⟨rfl, rfl, rfl⟩ := ho
        cases h
        obtain ⟨-, -, -, -, -, -, -, -, hR, -⟩ := henv
        have hm : (M.1, i, k) ∈ xSL := List.mem_of_getElem? (show xSL[lk - 1000]? = some _ from hT)
        obtain ⟨tx, hR⟩ := hR _ hm
        have hk : (UInt32.ofNat k).toNat = k := by
          have : ∀ e ∈ xSL, (UInt32.ofNat e.2.2).toNat = e.2.2 := by unfold xSL; decide
          exact this _ hm
        rcases hdg with ⟨-, hdg⟩ | ⟨h3, -⟩
        · refine va_ldcS hx hb hown hR hdg ?_
          have := kk H locs ls hX hl
          have e9 : xv base old (.float (UInt32.ofNat k)) = .ref (old k) := by
            show Value.ref (old (UInt32.ofNat k).toNat) = _
            rw [hk]
          rw [List.map_cons, e9] at this
          exact this
        · omega
      · cases h
    · cases h
/-- astore, aload: what may lie there -/
theorem xv_ref {v : Value} (h : (∃ x, v = .ref x) ∨ v = .null ∨ ∃ x, v = .float x) : ((∃ x, xv base old v = .ref x) ∨ xv base old v = .null) ∧ (∀ k, v ≠ .retAddr k) := by
  rcases h with ⟨x, rfl⟩ | rfl | ⟨x, rfl⟩
  · exact ⟨Or.inl ⟨_, rfl⟩, fun k h => by cases h⟩
  · exact ⟨Or.inr rfl, fun k h => by cases h⟩
  · exact ⟨Or.inl ⟨_, rfl⟩, fun k h => by cases h⟩
theorem go_aload {i pc w : Nat} {als st : List Value} {A : xH} (C : xCx base old dA D E p s m args meth c M b a0) (hdg : (∃ n : Fin 4, n.val = i ∧ w = 1 ∧ decode b pc = .ok (.aload_n n, 1)) ∨ (w = 2 ∧ decode b pc = .ok (.aload i, 2))) (hv : (∃ x, xg als i = .ref x) ∨ xg als i = .null ∨ ∃ x, xg als i = .float x) (kk : xK base old dA D p l e R s m args below meth c Q a0 s0 (pc + w) als (xg als i :: st) A) : xK base old dA D p l e R s m args below meth c Q a0 s0 pc als st A := by
  obtain ⟨hx, hb, hml, hown, hts, henv, hini, hz⟩ := C
  intro H locs ls hX hl
  have hk := kk H locs ls hX hl
  obtain ⟨h1, h2⟩ := xv_ref (base := base) (old := old) hv
  have hat := hl.2.2 i h2
  rw [List.map_cons] at hk
  rcases h1 with ⟨x, h1⟩ | h1
  · rw [h1] at hat hk
    rcases hdg with ⟨n, hn, rfl, hdg⟩ | ⟨rfl, hdg⟩
    · exact lv_aload_n hx hb hdg hn hat hk
    · exact lv_aload hx hb hdg hat hk
  · rw [h1] at hat hk
    rcases hdg with ⟨n, hn, rfl, hdg⟩ | ⟨rfl, hdg⟩
    · exact lv_aload_nN hx hb hdg hn hat hk
    · exact lv_aloadN hx hb hdg hat hk
theorem go_astore {i pc w : Nat} {als s1 : List Value} {v : Value} {A : xH} (C : xCx base old dA D E p s m args meth c M b a0) (hdg : (∃ n : Fin 4, n.val = i ∧ w = 1 ∧ decode b pc = .ok (.astore_n n, 1)) ∨ (w = 2 ∧ decode b pc = .ok (.astore i, 2))) (hv : (∃ x, v = .ref x) ∨ v = .null ∨ ∃ x, v = .float x) (hi : i < als.length) (hp : ∀ j, i = j + 1 → (xg als j).category ≠ 2) (kk : xK base old dA D p l e R s m args below meth c Q a0 s0 (pc + w) (xs als i v) s1 A) : xK base old dA D p l e R s m args below meth c Q a0 s0 pc als (v :: s1) A := by
  obtain ⟨hx, hb, hml, hown, hts, henv, hini, hz⟩ := C
  intro H locs ls hX hl
  obtain ⟨h1, h2⟩ := xv_ref (base := base) (old := old) hv
  have fin : ∀ ls' : Array Slot, lv_has ls' als.length ((i, xv base old v) :: (xlv base old als).filter (fun q => !(q.1 == i) && !(q.1 + 1 == i && q.2.category == 2))) → W p l e R s m args below meth c H locs (A.length - a0) (xsl A - s0) Q (F0 m (pc + w) ls' (s1.map (xv base old))) := fun ls' h' => kk H locs ls' hX (xLoc.st1 hi hp h')
  show W p l e R s m args below meth c H locs (A.length - a0) (xsl A - s0) Q (F0 m pc ls (xv base old v :: s1.map (xv base old)))
  rcases h1 with ⟨x, h1⟩ | h1
  · rw [h1] at fin ⊢
    rcases hdg with ⟨n, hn, rfl, hdg⟩ | ⟨rfl, hdg⟩
    · exact lv_astore_n hx hb hdg hn hl.has hi rfl fin
    · exact lv_astore hx hb hdg hl.has hi rfl fin
  · rw [h1] at fin ⊢
    rcases hdg with ⟨n, hn, rfl, hdg⟩ | ⟨rfl, hdg⟩
    · exact lv_astore_nN hx hb hdg hn hl.has hi rfl fin
    · exact lv_astoreN hx hb hdg hl.has hi rfl fin
end XS3
end
section
/-! ===== String.length and String.charAt of the class's constants ===== -/
theorem gw_goodIn {w0 : Cond} (h : w0 ∈ gw) : GoodIn gw (w0 :: gw) := by
  intro w hw
  have hm : w ∈ gw := by
    rcases List.mem_cons.mp hw with rfl | hw
    · exact h
    · exact hw
  exact ⟨hm, good_of_word (gw_good hm)⟩
section XSTR
variable {base : Nat} {old : Nat → Nat} {dA : Nat → ClassId} {D : va_G} {E : Nat × (Nat → Int32)}
variable {p : Program} {l : Launch} {e : Env} {R : Room} {s : State} {m : MethodId} {args : Array Value} {below : List Frame} {meth : Method} {c : Code} {Q : State → Prop} {H : Heap} {locs : List Loc} {cells slots : Nat}
/-- a contract of a method that changes nothing -/
def xPure (base : Nat) (old : Nat → Nat) (dA : Nat → ClassId) (D : va_G) (E : Nat × (Nat → Int32)) (l : Launch) (y : MethodName) (bytes : ByteArray) (maxL : Nat) (ret : Option FieldType) (fr lo : Nat) (As : List Value) (v : Option Value) : Prop :=
  Met l y (.code y bytes maxL ret :: gw) { frames := fr, cells := 0, slots := 0, locals := lo } (fun a U => a = As.toArray ∧ xEnv base old dA D E U) (fun _ st o t => o = .returned v ∧ t.heap = st.heap) 0 0 (fun _ => False)
theorem run_pure {pc : Nat} {ls : Array Slot} {st0 rest : List Value} {v : Option Value} (hr : va_Run p l e R s m args below meth c H locs cells slots 0 0 (F0 m pc ls st0) rest (fun st o t => o = .returned v ∧ t.heap = st.heap) (fun _ => False)) (kk : W p l e R s m args below meth c H locs cells slots Q (F0 m (pc + 3) ls (v.toList ++ rest))) : W p l e R s m args below meth c H locs cells slots Q (F0 m pc ls st0) := by
  intro T hT X
  obtain ⟨v', st₀, t, T', L, h0, X', hL, e1, e2, ⟨hv, hh⟩, st⟩ := hr T hT X
  cases hv
  obtain ⟨t2, a1, b1⟩ := kk T' (by rw [e1, hh, h0]) (Stand.forget X' (fun q h => (hL q h).elim))
  exact ⟨t2, st t2 a1, b1⟩
theorem call_S {cc bytes : ByteArray} {own : String} {idx pc maxL n fr lo : Nat} {y : MethodName} {ret : Option FieldType} {As rest : List Value} {v : Option Value} {ls : Array Slot} (hx : p.tables.exec = Jvm.exec) (hb : c.code = cc) (hml : c.maxLocals = ls.size) (hown : s.vm.findClass own = some m.cls) (hts : ∀ w ∈ gw, w.before args s = true) (henv : xEnv base old dA D E s) (hS : va_S (fun q => base ≤ q) s.heap H locs)
    (hM : xPure base old dA D E l y bytes maxL ret fr lo As v) (hc : Cond.code y bytes maxL ret ∈ gw) (hi : Cond.initialized y.cls ∈ gw) (hl : Cond.methodLink own idx y ∈ gw) (hst : Cond.static y ∈ gw) (hd : y.cls ≠ "java/lang/invoke/MethodHandle" ∧ y.cls ≠ "java/lang/invoke/VarHandle" ∧ (parseMethodDescriptor y.desc).map (fun d => d.parameters.length) = some n) (hn : As.length = n) (hR : fr + 1 ≤ R.frames ∧ 8 + (maxL + 11) + lo ≤ R.locals) (hW : (rest.map fun v => v.category).sum ≤ 8) (hdg : decode cc pc = .ok (.invokestatic idx, 3)) (hf : cells ≤ R.cells ∧ slots ≤ R.slots)
    (kk : W p l e R s m args below meth c H locs cells slots Q (F0 m (pc + 3) ls (v.toList ++ rest))) : W p l e R s m args below meth c H locs cells slots Q (F0 m pc ls (As.reverse ++ rest)) :=
  run_pure (va_runS (Ts := gw) (nL := ls.size) ⟨hx, hb, hml, hown, hts⟩ hM ⟨callB_of n hts (gw_goodIn hc) rfl rfl rfl (hts _ hi) (hts _ hl) hd hR, hts _ hst⟩ ⟨fun a U g mk q => ⟨q.1, xEnv_same (U := U) (U' := U.calling g mk a) rfl rfl q.2⟩, fun U hU hW => ⟨rfl, xEnv_warm hU hW hS henv⟩⟩ rfl hn rfl rfl (lv_room hW) hdg hf) kk
theorem call_V {cc bytes : ByteArray} {own : String} {idx pc maxL n fr lo b : Nat} {y : MethodName} {ret : Option FieldType} {As rest : List Value} {v : Option Value} {ls : Array Slot} (hx : p.tables.exec = Jvm.exec) (hb : c.code = cc) (hml : c.maxLocals = ls.size) (hown : s.vm.findClass own = some m.cls) (hts : ∀ w ∈ gw, w.before args s = true) (henv : xEnv base old dA D E s) (hS : va_S (fun q => base ≤ q) s.heap H locs)
    (hM : xPure base old dA D E l y bytes maxL ret fr lo (.ref b :: As) v) (hc : Cond.code y bytes maxL ret ∈ gw) (hi : Cond.initialized y.cls ∈ gw) (hl : Cond.methodLink own idx y ∈ gw) (hin : Cond.instanceMethod y ∈ gw) (hse : Cond.selects y.cls y y ∈ gw) (hd : y.cls ≠ "java/lang/invoke/MethodHandle" ∧ y.cls ≠ "java/lang/invoke/VarHandle" ∧ (parseMethodDescriptor y.desc).map (fun d => d.parameters.length) = some n) (hn : As.length = n) (hrc : ∃ cellB : Cell, H[b]? = some cellB ∧ cellB.vm.isStatics = false ∧ s.vm.findClass y.cls = some cellB.cls) (hR : fr + 1 ≤ R.frames ∧ 8 + (maxL + 11) + lo ≤ R.locals) (hW : (rest.map fun v => v.category).sum ≤ 8) (hdg : decode cc pc = .ok (.invokevirtual idx, 3)) (hf : cells ≤ R.cells ∧ slots ≤ R.slots)
    (kk : W p l e R s m args below meth c H locs cells slots Q (F0 m (pc + 3) ls (v.toList ++ rest))) : W p l e R s m args below meth c H locs cells slots Q (F0 m pc ls (As.reverse ++ .ref b :: rest)) :=
  run_pure (va_runV (Ts := gw) (nL := ls.size) (C := y.cls) ⟨hx, hb, hml, hown, hts⟩ hM ⟨callB_of n hts (gw_goodIn hc) rfl rfl rfl (hts _ hi) (hts _ hl) hd hR, hts _ hin, hts _ hse⟩ ⟨fun a U g mk q => ⟨q.1, xEnv_same (U := U) (U' := U.calling g mk a) rfl rfl q.2⟩, hrc, fun U hU hW => ⟨rfl, xEnv_warm hU hW hS henv⟩⟩ rfl hn rfl rfl (lv_room hW) hdg hf) kk
end XSTR
section XSTR2
variable (base : Nat) (old : Nat → Nat) (dA : Nat → ClassId) (D : va_G) (E : Nat × (Nat → Int32)) (l : Launch)
def zCk : MethodName := ⟨"jdk/internal/util/Preconditions", "checkIndex", "(IILjava/util/function/BiFunction;)I"⟩
def zSk : MethodName := ⟨"java/lang/String", "checkIndex", "(II)V"⟩
def zLa : MethodName := ⟨"java/lang/StringLatin1", "charAt", "([BI)C"⟩
def zCo : MethodName := ⟨"java/lang/String", "coder", "()B"⟩
def zIs : MethodName := ⟨"java/lang/String", "isLatin1", "()Z"⟩
theorem z_ck_0 : decode prog_20_method_11_code 0 = .ok (.iload_n 0, 1) := by decide +kernel
theorem z_ck_1 : decode prog_20_method_11_code 1 = .ok (.ifCond .lt 8, 3) := by decide +kernel
theorem z_ck_4 : decode prog_20_method_11_code 4 = .ok (.iload_n 0, 1) := by decide +kernel
theorem z_ck_5 : decode prog_20_method_11_code 5 = .ok (.iload_n 1, 1) := by decide +kernel
theorem z_ck_6 : decode prog_20_method_11_code 6 = .ok (.if_icmp .lt 10, 3) := by decide +kernel
theorem z_ck_9 : decode prog_20_method_11_code 9 = .ok (.aload_n 2, 1) := by decide +kernel
theorem z_ck_10 : decode prog_20_method_11_code 10 = .ok (.iload_n 0, 1) := by decide +kernel
theorem z_ck_11 : decode prog_20_method_11_code 11 = .ok (.iload_n 1, 1) := by decide +kernel
theorem z_ck_12 : decode prog_20_method_11_code 12 = .ok (.invokestatic 95, 3) := by decide +kernel
theorem z_ck_16 : decode prog_20_method_11_code 16 = .ok (.iload_n 0, 1) := by decide +kernel
theorem z_ck_17 : decode prog_20_method_11_code 17 = .ok (.ireturn, 1) := by decide +kernel
theorem z_sk_0 : decode prog_15_method_155_code 0 = .ok (.iload_n 0, 1) := by decide +kernel
theorem z_sk_1 : decode prog_15_method_155_code 1 = .ok (.iload_n 1, 1) := by decide +kernel
theorem z_sk_2 : decode prog_15_method_155_code 2 = .ok (.getstatic 1053, 3) := by decide +kernel
theorem z_sk_5 : decode prog_15_method_155_code 5 = .ok (.invokestatic 1059, 3) := by decide +kernel
theorem z_sk_8 : decode prog_15_method_155_code 8 = .ok (.pop, 1) := by decide +kernel
theorem z_sk_9 : decode prog_15_method_155_code 9 = .ok (.return_, 1) := by decide +kernel
theorem z_la_0 : decode prog_16_method_2_code 0 = .ok (.iload_n 1, 1) := by decide +kernel
theorem z_la_1 : decode prog_16_method_2_code 1 = .ok (.aload_n 0, 1) := by decide +kernel
theorem z_la_2 : decode prog_16_method_2_code 2 = .ok (.arraylength, 1) := by decide +kernel
theorem z_la_3 : decode prog_16_method_2_code 3 = .ok (.invokestatic 9, 3) := by decide +kernel
theorem z_la_6 : decode prog_16_method_2_code 6 = .ok (.aload_n 0, 1) := by decide +kernel
theorem z_la_7 : decode prog_16_method_2_code 7 = .ok (.iload_n 1, 1) := by decide +kernel
theorem z_la_8 : decode prog_16_method_2_code 8 = .ok (.baload, 1) := by decide +kernel
theorem z_la_9 : decode prog_16_method_2_code 9 = .ok (.sipush 255, 3) := by decide +kernel
theorem z_la_12 : decode prog_16_method_2_code 12 = .ok (.iand, 1) := by decide +kernel
theorem z_la_13 : decode prog_16_method_2_code 13 = .ok (.i2c, 1) := by decide +kernel
theorem z_la_14 : decode prog_16_method_2_code 14 = .ok (.ireturn, 1) := by decide +kernel
theorem z_co_0 : decode prog_15_method_152_code 0 = .ok (.getstatic 38, 3) := by decide +kernel
theorem z_co_3 : decode prog_15_method_152_code 3 = .ok (.ifCond .eq 10, 3) := by decide +kernel
theorem z_co_6 : decode prog_15_method_152_code 6 = .ok (.aload_n 0, 1) := by decide +kernel
theorem z_co_7 : decode prog_15_method_152_code 7 = .ok (.getfield 15, 3) := by decide +kernel
theorem z_co_10 : decode prog_15_method_152_code 10 = .ok (.goto 4, 3) := by decide +kernel
theorem z_co_13 : decode prog_15_method_152_code 13 = .ok (.iconst 1, 1) := by decide +kernel
theorem z_co_14 : decode prog_15_method_152_code 14 = .ok (.ireturn, 1) := by decide +kernel
theorem z_is_0 : decode prog_15_method_154_code 0 = .ok (.getstatic 38, 3) := by decide +kernel
theorem z_is_3 : decode prog_15_method_154_code 3 = .ok (.ifCond .eq 14, 3) := by decide +kernel
theorem z_is_6 : decode prog_15_method_154_code 6 = .ok (.aload_n 0, 1) := by decide +kernel
theorem z_is_7 : decode prog_15_method_154_code 7 = .ok (.getfield 15, 3) := by decide +kernel
theorem z_is_10 : decode prog_15_method_154_code 10 = .ok (.ifCond .ne 7, 3) := by decide +kernel
theorem z_is_13 : decode prog_15_method_154_code 13 = .ok (.iconst 1, 1) := by decide +kernel
theorem z_is_14 : decode prog_15_method_154_code 14 = .ok (.goto 4, 3) := by decide +kernel
theorem z_is_17 : decode prog_15_method_154_code 17 = .ok (.iconst 0, 1) := by decide +kernel
theorem z_is_18 : decode prog_15_method_154_code 18 = .ok (.ireturn, 1) := by decide +kernel
theorem z_len_0 : decode prog_15_method_54_code 0 = .ok (.aload_n 0, 1) := by decide +kernel
theorem z_len_1 : decode prog_15_method_54_code 1 = .ok (.getfield 9, 3) := by decide +kernel
theorem z_len_4 : decode prog_15_method_54_code 4 = .ok (.arraylength, 1) := by decide +kernel
theorem z_len_5 : decode prog_15_method_54_code 5 = .ok (.aload_n 0, 1) := by decide +kernel
theorem z_len_6 : decode prog_15_method_54_code 6 = .ok (.invokevirtual 335, 3) := by decide +kernel
theorem z_len_9 : decode prog_15_method_54_code 9 = .ok (.ishr, 1) := by decide +kernel
theorem z_len_10 : decode prog_15_method_54_code 10 = .ok (.ireturn, 1) := by decide +kernel
theorem z_at_0 : decode prog_15_method_56_code 0 = .ok (.aload_n 0, 1) := by decide +kernel
theorem z_at_1 : decode prog_15_method_56_code 1 = .ok (.invokevirtual 492, 3) := by decide +kernel
theorem z_at_4 : decode prog_15_method_56_code 4 = .ok (.ifCond .eq 12, 3) := by decide +kernel
theorem z_at_7 : decode prog_15_method_56_code 7 = .ok (.aload_n 0, 1) := by decide +kernel
theorem z_at_8 : decode prog_15_method_56_code 8 = .ok (.getfield 9, 3) := by decide +kernel
theorem z_at_11 : decode prog_15_method_56_code 11 = .ok (.iload_n 1, 1) := by decide +kernel
theorem z_at_12 : decode prog_15_method_56_code 12 = .ok (.invokestatic 495, 3) := by decide +kernel
theorem z_at_15 : decode prog_15_method_56_code 15 = .ok (.ireturn, 1) := by decide +kernel
theorem z_at_16 : decode prog_15_method_56_code 16 = .ok (.aload_n 0, 1) := by decide +kernel
theorem z_at_17 : decode prog_15_method_56_code 17 = .ok (.getfield 9, 3) := by decide +kernel
theorem z_at_20 : decode prog_15_method_56_code 20 = .ok (.iload_n 1, 1) := by decide +kernel
theorem z_at_21 : decode prog_15_method_56_code 21 = .ok (.invokestatic 498, 3) := by decide +kernel
theorem z_at_24 : decode prog_15_method_56_code 24 = .ok (.ireturn, 1) := by decide +kernel
theorem zw_ck_c : Cond.code zCk prog_20_method_11_code 3 (some .int) ∈ gw := gm3 144 rfl rfl
theorem zw_ck_i : Cond.initialized zCk.cls ∈ gw := gm1 15 rfl rfl
theorem zw_ck_s : Cond.static zCk ∈ gw := gm3 143 rfl rfl
theorem zw_sk_ck : Cond.methodLink "java/lang/String" 1059 zCk ∈ gw := gm3 142 rfl rfl
theorem zw_sk_c : Cond.code zSk prog_15_method_155_code 2 none ∈ gw := gm3 139 rfl rfl
theorem zw_sk_i : Cond.initialized zSk.cls ∈ gw := gm1 13 rfl rfl
theorem zw_sk_s : Cond.static zSk ∈ gw := gm3 138 rfl rfl
theorem zw_sk_f : Cond.fieldLink "java/lang/String" 1053 "jdk/internal/util/Preconditions" "SIOOBE_FORMATTER" "Ljava/util/function/BiFunction;" ∈ gw := gm3 140 rfl rfl
theorem zw_la_sk : Cond.methodLink "java/lang/StringLatin1" 9 zSk ∈ gw := gm3 137 rfl rfl
theorem zw_la_c : Cond.code zLa prog_16_method_2_code 2 (some .char) ∈ gw := gm3 136 rfl rfl
theorem zw_la_i : Cond.initialized zLa.cls ∈ gw := gm1 14 rfl rfl
theorem zw_la_s : Cond.static zLa ∈ gw := gm3 135 rfl rfl
theorem zw_co_f : Cond.fieldLink "java/lang/String" 38 "java/lang/String" "COMPACT_STRINGS" "Z" ∈ gw := gm3 124 rfl rfl
theorem zw_co_g : Cond.fieldLink "java/lang/String" 15 "java/lang/String" "coder" "B" ∈ gw := gm8 76 rfl rfl
theorem zw_co_c : Cond.code zCo prog_15_method_152_code 1 (some .byte) ∈ gw := gm3 123 rfl rfl
theorem zw_co_i : Cond.initialized zCo.cls ∈ gw := gm1 13 rfl rfl
theorem zw_co_n : Cond.instanceMethod zCo ∈ gw := gm3 121 rfl rfl
theorem zw_co_s : Cond.selects zCo.cls zCo zCo ∈ gw := gm3 122 rfl rfl
theorem zw_len_g : Cond.fieldLink "java/lang/String" 9 "java/lang/String" "value" "[B" ∈ gw := gm8 75 rfl rfl
theorem zw_len_co : Cond.methodLink "java/lang/String" 335 zCo ∈ gw := gm3 120 rfl rfl
theorem zw_is_c : Cond.code zIs prog_15_method_154_code 1 (some .boolean) ∈ gw := gm3 133 rfl rfl
theorem zw_is_n : Cond.instanceMethod zIs ∈ gw := gm3 131 rfl rfl
theorem zw_is_s : Cond.selects zIs.cls zIs zIs ∈ gw := gm3 132 rfl rfl
theorem zw_at_is : Cond.methodLink "java/lang/String" 492 zIs ∈ gw := gm3 130 rfl rfl
theorem zw_at_la : Cond.methodLink "java/lang/String" 495 zLa ∈ gw := gm3 134 rfl rfl
theorem zw_len_c : Cond.code xsLen prog_15_method_54_code 1 (some .int) ∈ gw := gm3 119 rfl rfl
theorem zw_len_n : Cond.instanceMethod xsLen ∈ gw := gm3 117 rfl rfl
theorem zw_len_s : Cond.selects xsLen.cls xsLen xsLen ∈ gw := gm3 118 rfl rfl
theorem zw_len_i : Cond.initialized xsLen.cls ∈ gw := gm1 13 rfl rfl
theorem zw_at_c : Cond.code xsAt prog_15_method_56_code 2 (some .char) ∈ gw := gm3 129 rfl rfl
theorem zw_at_n : Cond.instanceMethod xsAt ∈ gw := gm3 127 rfl rfl
theorem zw_at_s : Cond.selects xsAt.cls xsAt xsAt ∈ gw := gm3 128 rfl rfl
theorem zw_at_i : Cond.initialized xsAt.cls ∈ gw := gm1 13 rfl rfl
theorem c_ck (i n : Int32) (f : Value) (hf : f = .null ∨ ∃ a, f = .ref a) (h0 : ¬ i < 0) (h1 : i < n) : xPure base old dA D E l zCk prog_20_method_11_code 3 (some .int) 0 0 [.int i, .int n, f] (some (.int i)) := by
  refine Met.ofW (cc := prog_20_method_11_code) (maxL := 3) (ret := some .int) (by decide) rfl ?_
  intro p e s m args below meth c s₁ B hml hv
  obtain ⟨rfl, henv⟩ := hv
  have hx := B.exec
  have hb := B.bytes
  have hr := B.returns
  have hlocks := B.notSynchronized
  have hl := lv_entry ([.int i, .int n, f]) (n := 3) (by rcases hf with rfl | ⟨a, rfl⟩ <;> exact Nat.le_of_ble_eq_true rfl)
  rw [lg_entry_eq]
  generalize (lg_sl ([.int i, .int n, f]) ++ List.replicate (3 - (lg_sl ([.int i, .int n, f])).length) Slot.unset).toArray = ls at hl ⊢
  have hl0 : ls[0]? = some (.val (.int i)) := hl.2.2 (0, .int i) (by simp [lv_args])
  have hl1 : ls[1]? = some (.val (.int n)) := hl.2.2 (1, .int n) (by simp [lv_args, Value.category])
  refine lv_iload_n hx hb z_ck_0 rfl hl0 ?_
  refine lv_if_lt (tgt := 9) hx hb z_ck_1 (by decide) (fun q => absurd q h0) (fun _ => ?_)
  refine lv_iload_n hx hb z_ck_4 rfl hl0 ?_
  refine lv_iload_n hx hb z_ck_5 rfl hl1 ?_
  refine lv_icmp_lt (tgt := 16) hx hb z_ck_6 (by decide) (fun _ => ?_) (fun q => absurd h1 q)
  refine lv_iload_n hx hb z_ck_16 rfl hl0 ?_
  exact W.iret (v := i) hx hb hr (fun t ht hW => ⟨rfl, ht⟩) (fun _ h => by cases h) z_ck_17
theorem c_sk (i n : Int32) (h0 : ¬ i < 0) (h1 : i < n) : xPure base old dA D E l zSk prog_15_method_155_code 2 none 1 22 [.int i, .int n] none := by
  refine Met.ofW (cc := prog_15_method_155_code) (maxL := 2) (ret := none) (by decide) rfl ?_
  intro p e s m args below meth c s₁ B hml hv
  obtain ⟨rfl, henv⟩ := hv
  have hx := B.exec
  have hb := B.bytes
  have hr := B.returns
  have hlocks := B.notSynchronized
  have hts : ∀ w ∈ gw, w.before _ s = true := fun w hw => atoms_spec B.pre w (List.mem_cons_of_mem _ hw)
  have hown : s.vm.findClass "java/lang/String" = some m.cls := findClass_of_methodNamed B.named
  have hS : va_S (fun q => base ≤ q) s.heap s.heap [] := va_S.rf
  have hl := lv_entry ([.int i, .int n]) (n := 2) (Nat.le_of_ble_eq_true rfl)
  rw [lg_entry_eq]
  generalize (lg_sl ([.int i, .int n]) ++ List.replicate (2 - (lg_sl ([.int i, .int n])).length) Slot.unset).toArray = ls at hl ⊢
  have hl : lv_has ls 2 [(0, .int i), (1, .int n)] := hl
  obtain ⟨-, -, -, -, -, -, -, -, -, -, hZq⟩ := id henv
  refine lv_iload_n hx hb z_sk_0 rfl (lv_at hl 0 rfl) ?_
  refine lv_iload_n hx hb z_sk_1 rfl (lv_at hl 1 rfl) ?_
  have go : ∀ f : Value, (f = .null ∨ ∃ a, f = .ref a) → W p l e (headSpec (.code zSk prog_15_method_155_code 2 none :: gw) { frames := 1, cells := 0, slots := 0, locals := 22 }).room s m #[.int i, .int n] below meth c s.heap [] 0 0 (MQ below (fun _ st o t => o = .returned none ∧ t.heap = st.heap) #[.int i, .int n] s 0 0 (fun _ => False)) (F0 m 5 ls [f, .int n, .int i]) := by
    intro f hf
    refine call_S (base := base) (old := old) (dA := dA) (D := D) (E := E) (own := "java/lang/String") (As := [.int i, .int n, f]) (rest := []) (n := 3) hx hb (by rw [hml]; exact hl.1.symm) hown hts henv hS (c_ck base old dA D E l i n f hf h0 h1) zw_ck_c zw_ck_i zw_sk_ck zw_ck_s (by decide +kernel) rfl ⟨Nat.le_of_ble_eq_true rfl, Nat.le_of_ble_eq_true rfl⟩ (Nat.le_of_ble_eq_true rfl) z_sk_5 ⟨Nat.le_refl _, Nat.le_refl _⟩ ?_
    refine lv_pop (va := .int i) hx hb z_sk_8 rfl ?_
    exact W.vret hx hb hr (fun t ht hW => ⟨rfl, ht⟩) (fun _ h => by cases h) z_sk_9
  rcases hZq with hZ | ⟨t, hZ⟩
  · exact va_gets hx hb hZ hS hown (hts _ zw_sk_f) (fun _ h => h) z_sk_2 (go .null (Or.inl rfl))
  · exact va_gets hx hb hZ hS hown (hts _ zw_sk_f) (fun _ h => h) z_sk_2 (go (.ref t) (Or.inr ⟨t, rfl⟩))
theorem xstr_len : ∀ i, i < xSTR.length → (xSTR.map List.length).getD i 0 = (xSTR.getD i []).length := by decide
theorem xstr_small : ∀ i, i < xSTR.length → ((xSTR.getD i []).length < 100 ∧ ∀ j, j < (xSTR.getD i []).length → (((((xSTR.getD i []).getD j 0) &&& 255).toUInt32 % 65536).toInt32 = (xSTR.getD i []).getD j 0 ∧ narrow .char (.int ((xSTR.getD i []).getD j 0)) = .int ((xSTR.getD i []).getD j 0))) := by decide +kernel
theorem c_la (i : Nat) (hi : i < xSTR.length) (k : Int32) (hk : vp_in k (xSTR.getD i []).length) : xPure base old dA D E l zLa prog_16_method_2_code 2 (some .char) 2 43 [.ref (old (100 + i)), .int k] (some (.int ((xSTR.getD i []).getD k.toNatClampNeg 0))) := by
  refine Met.ofW (cc := prog_16_method_2_code) (maxL := 2) (ret := some .char) (by decide) rfl ?_
  intro p e s m args below meth c s₁ B hml hv
  obtain ⟨rfl, henv⟩ := hv
  have hx := B.exec
  have hb := B.bytes
  have hr := B.returns
  have hlocks := B.notSynchronized
  have hts : ∀ w ∈ gw, w.before _ s = true := fun w hw => atoms_spec B.pre w (List.mem_cons_of_mem _ hw)
  have hown : s.vm.findClass "java/lang/StringLatin1" = some m.cls := findClass_of_methodNamed B.named
  have hS : va_S (fun q => base ≤ q) s.heap s.heap [] := va_S.rf
  have hl := lv_entry ([.ref (old (100 + i)), .int k]) (n := 2) (Nat.le_of_ble_eq_true rfl)
  rw [lg_entry_eq]
  generalize (lg_sl ([.ref (old (100 + i)), .int k]) ++ List.replicate (2 - (lg_sl ([.ref (old (100 + i)), .int k])).length) Slot.unset).toArray = ls at hl ⊢
  have hl : lv_has ls 2 [(0, .ref (old (100 + i))), (1, .int k)] := hl
  obtain ⟨-, -, -, -, -, -, -, hVS, -⟩ := id henv
  obtain ⟨-, -, -, hT⟩ := hVS.1 i hi
  have hlen := xstr_len i hi
  rw [hlen] at hT
  have hsm := xstr_small i hi
  have hk0 : ¬ k < 0 := fun q => hk (Or.inl q)
  have hk1 : k.toNatClampNeg < (xSTR.getD i []).length := Nat.not_le.mp fun q => hk (Or.inr q)
  obtain ⟨j, hj, rfl⟩ := vp_in_of hk (by omega)
  have hjc : (nI j).toNatClampNeg = j := nI_clamp (by omega)
  refine lv_iload_n hx hb z_la_0 rfl (lv_at hl 1 rfl) ?_
  refine lv_aload_n hx hb z_la_1 rfl (lv_at hl 0 rfl) ?_
  refine va_tlen hx hb hT hS (v := nI (xSTR.getD i []).length) rfl z_la_2 ?_
  refine call_S (base := base) (old := old) (dA := dA) (D := D) (E := E) (own := "java/lang/StringLatin1") (As := [.int (nI j), .int (nI (xSTR.getD i []).length)]) (rest := []) (n := 2) hx hb (by rw [hml]; exact hl.1.symm) hown hts henv hS (c_sk base old dA D E l (nI j) (nI (xSTR.getD i []).length) hk0 (nI_lt hj (by omega))) zw_sk_c zw_sk_i zw_la_sk zw_sk_s (by decide +kernel) rfl ⟨Nat.le_of_ble_eq_true rfl, Nat.le_of_ble_eq_true rfl⟩ (Nat.le_of_ble_eq_true rfl) z_la_3 ⟨Nat.le_refl _, Nat.le_refl _⟩ ?_
  refine lv_aload_n hx hb z_la_6 rfl (lv_at hl 0 rfl) ?_
  refine lv_iload_n hx hb z_la_7 rfl (lv_at hl 1 rfl) ?_
  refine va_tb hx hb hT hS hk rfl z_la_8 ?_
  refine lv_sipush (v := 255) hx hb z_la_9 (by decide) ?_
  refine lv_iand hx hb z_la_12 ?_
  refine lv_i2c hx hb z_la_13 rfl ?_
  rw [hjc] at *
  rw [(hsm.2 j hj).1]
  exact W.zret (ty := .char) hx hb hr (hsm.2 j hj).2 (fun t ht hW => ⟨rfl, ht⟩) (fun _ h => by cases h) z_la_14
theorem c_co (i : Nat) (hi : i < xSTR.length) : xPure base old dA D E l zCo prog_15_method_152_code 1 (some .byte) 0 0 [.ref (old (1 + i))] (some (.int 0)) := by
  refine Met.ofW (cc := prog_15_method_152_code) (maxL := 1) (ret := some .byte) (by decide) rfl ?_
  intro p e s m args below meth c s₁ B hml hv
  obtain ⟨rfl, henv⟩ := hv
  have hx := B.exec
  have hb := B.bytes
  have hr := B.returns
  have hlocks := B.notSynchronized
  have hts : ∀ w ∈ gw, w.before _ s = true := fun w hw => atoms_spec B.pre w (List.mem_cons_of_mem _ hw)
  have hown : s.vm.findClass "java/lang/String" = some m.cls := findClass_of_methodNamed B.named
  have hS : va_S (fun q => base ≤ q) s.heap s.heap [] := va_S.rf
  have hl := lv_entry ([.ref (old (1 + i))]) (n := 1) (Nat.le_of_ble_eq_true rfl)
  rw [lg_entry_eq]
  generalize (lg_sl ([.ref (old (1 + i))]) ++ List.replicate (1 - (lg_sl ([.ref (old (1 + i))])).length) Slot.unset).toArray = ls at hl ⊢
  have hl : lv_has ls 1 [(0, .ref (old (1 + i)))] := hl
  obtain ⟨-, -, -, -, -, -, -, hVS, -, hZ, -⟩ := id henv
  obtain ⟨-, hco, -, -⟩ := hVS.1 i hi
  refine va_gets hx hb hZ hS hown (hts _ zw_co_f) (fun _ h => h) z_co_0 ?_
  refine lv_if_eq (tgt := 13) hx hb z_co_3 (by decide) (fun q => absurd q (by decide)) (fun _ => ?_)
  refine lv_aload_n hx hb z_co_6 rfl (lv_at hl 0 rfl) ?_
  refine vk_getf hx hb hco hS hown (hts _ zw_co_g) (fun _ h => h) z_co_7 ?_
  refine lv_goto (tgt := 14) hx hb z_co_10 (by decide) ?_
  exact W.zret (ty := .byte) hx hb hr rfl (fun t ht hW => ⟨rfl, ht⟩) (fun _ h => by cases h) z_co_14
theorem c_is (i : Nat) (hi : i < xSTR.length) : xPure base old dA D E l zIs prog_15_method_154_code 1 (some .boolean) 0 0 [.ref (old (1 + i))] (some (.int 1)) := by
  refine Met.ofW (cc := prog_15_method_154_code) (maxL := 1) (ret := some .boolean) (by decide) rfl ?_
  intro p e s m args below meth c s₁ B hml hv
  obtain ⟨rfl, henv⟩ := hv
  have hx := B.exec
  have hb := B.bytes
  have hr := B.returns
  have hlocks := B.notSynchronized
  have hts : ∀ w ∈ gw, w.before _ s = true := fun w hw => atoms_spec B.pre w (List.mem_cons_of_mem _ hw)
  have hown : s.vm.findClass "java/lang/String" = some m.cls := findClass_of_methodNamed B.named
  have hS : va_S (fun q => base ≤ q) s.heap s.heap [] := va_S.rf
  have hl := lv_entry ([.ref (old (1 + i))]) (n := 1) (Nat.le_of_ble_eq_true rfl)
  rw [lg_entry_eq]
  generalize (lg_sl ([.ref (old (1 + i))]) ++ List.replicate (1 - (lg_sl ([.ref (old (1 + i))])).length) Slot.unset).toArray = ls at hl ⊢
  have hl : lv_has ls 1 [(0, .ref (old (1 + i)))] := hl
  obtain ⟨-, -, -, -, -, -, -, hVS, -, hZ, -⟩ := id henv
  obtain ⟨-, hco, -, -⟩ := hVS.1 i hi
  refine va_gets hx hb hZ hS hown (hts _ zw_co_f) (fun _ h => h) z_is_0 ?_
  refine lv_if_eq (tgt := 17) hx hb z_is_3 (by decide) (fun q => absurd q (by decide)) (fun _ => ?_)
  refine lv_aload_n hx hb z_is_6 rfl (lv_at hl 0 rfl) ?_
  refine vk_getf hx hb hco hS hown (hts _ zw_co_g) (fun _ h => h) z_is_7 ?_
  refine lv_if_ne (tgt := 17) hx hb z_is_10 (by decide) (fun q => absurd rfl q) (fun _ => ?_)
  refine lv_iconst (v := 1) hx hb z_is_13 (by decide) ?_
  refine lv_goto (tgt := 18) hx hb z_is_14 (by decide) ?_
  exact W.zret (ty := .boolean) hx hb hr rfl (fun t ht hW => ⟨rfl, ht⟩) (fun _ h => by cases h) z_is_18
theorem c_len (i : Nat) (hi : i < xSTR.length) : xPure base old dA D E l xsLen prog_15_method_54_code 1 (some .int) 1 20 [.ref (old (1 + i))] (some (.int (Int32.ofNat (xSTR.getD i []).length))) := by
  refine Met.ofW (cc := prog_15_method_54_code) (maxL := 1) (ret := some .int) (by decide) rfl ?_
  intro p e s m args below meth c s₁ B hml hv
  obtain ⟨rfl, henv⟩ := hv
  have hx := B.exec
  have hb := B.bytes
  have hr := B.returns
  have hlocks := B.notSynchronized
  have hts : ∀ w ∈ gw, w.before _ s = true := fun w hw => atoms_spec B.pre w (List.mem_cons_of_mem _ hw)
  have hown : s.vm.findClass "java/lang/String" = some m.cls := findClass_of_methodNamed B.named
  have hS : va_S (fun q => base ≤ q) s.heap s.heap [] := va_S.rf
  have hl := lv_entry ([.ref (old (1 + i))]) (n := 1) (Nat.le_of_ble_eq_true rfl)
  rw [lg_entry_eq]
  generalize (lg_sl ([.ref (old (1 + i))]) ++ List.replicate (1 - (lg_sl ([.ref (old (1 + i))])).length) Slot.unset).toArray = ls at hl ⊢
  have hl : lv_has ls 1 [(0, .ref (old (1 + i)))] := hl
  obtain ⟨-, -, -, -, -, -, -, hVS, -⟩ := id henv
  obtain ⟨hO, hco, hva, hT⟩ := hVS.1 i hi
  have hlen := xstr_len i hi
  rw [hlen] at hT
  refine lv_aload_n hx hb z_len_0 rfl (lv_at hl 0 rfl) ?_
  refine vk_getf hx hb hva hS hown (hts _ zw_len_g) (fun _ h => h) z_len_1 ?_
  refine va_tlen hx hb hT hS (v := Int32.ofNat (xSTR.getD i []).length) rfl z_len_4 ?_
  refine lv_aload_n hx hb z_len_5 rfl (lv_at hl 0 rfl) ?_
  refine call_V (base := base) (old := old) (dA := dA) (D := D) (E := E) (own := "java/lang/String") (As := []) (rest := [.int (Int32.ofNat (xSTR.getD i []).length)]) (n := 0) hx hb (by rw [hml]; exact hl.1.symm) hown hts henv hS (c_co base old dA D E l i hi) zw_co_c zw_co_i zw_len_co zw_co_n zw_co_s (by decide +kernel) rfl (vk_recv (adK := fun i => old (1 + i)) hVS hi hS) ⟨Nat.le_of_ble_eq_true rfl, Nat.le_of_ble_eq_true rfl⟩ (Nat.le_of_ble_eq_true rfl) z_len_6 ⟨Nat.le_refl _, Nat.le_refl _⟩ ?_
  refine lv_ishr hx hb z_len_9 ?_
  rw [sb_shr0]
  exact W.iret hx hb hr (fun t ht hW => ⟨rfl, ht⟩) (fun _ h => by cases h) z_len_10
theorem c_at (i : Nat) (hi : i < xSTR.length) (k : Int32) (hk : vp_in k (xSTR.getD i []).length) : xPure base old dA D E l xsAt prog_15_method_56_code 2 (some .char) 3 64 [.ref (old (1 + i)), .int k] (some (.int ((xSTR.getD i []).getD k.toNatClampNeg 0))) := by
  refine Met.ofW (cc := prog_15_method_56_code) (maxL := 2) (ret := some .char) (by decide) rfl ?_
  intro p e s m args below meth c s₁ B hml hv
  obtain ⟨rfl, henv⟩ := hv
  have hx := B.exec
  have hb := B.bytes
  have hr := B.returns
  have hlocks := B.notSynchronized
  have hts : ∀ w ∈ gw, w.before _ s = true := fun w hw => atoms_spec B.pre w (List.mem_cons_of_mem _ hw)
  have hown : s.vm.findClass "java/lang/String" = some m.cls := findClass_of_methodNamed B.named
  have hS : va_S (fun q => base ≤ q) s.heap s.heap [] := va_S.rf
  have hl := lv_entry ([.ref (old (1 + i)), .int k]) (n := 2) (Nat.le_of_ble_eq_true rfl)
  rw [lg_entry_eq]
  generalize (lg_sl ([.ref (old (1 + i)), .int k]) ++ List.replicate (2 - (lg_sl ([.ref (old (1 + i)), .int k])).length) Slot.unset).toArray = ls at hl ⊢
  have hl : lv_has ls 2 [(0, .ref (old (1 + i))), (1, .int k)] := hl
  obtain ⟨-, -, -, -, -, -, -, hVS, -⟩ := id henv
  obtain ⟨hO, hco, hva, hT⟩ := hVS.1 i hi
  have hn : ∀ j, j < (xSTR.getD i []).length → narrow .char (.int ((xSTR.getD i []).getD j 0)) = .int ((xSTR.getD i []).getD j 0) := fun j hj => ((xstr_small i hi).2 j hj).2
  have hk1 : k.toNatClampNeg < (xSTR.getD i []).length := Nat.not_le.mp fun q => hk (Or.inr q)
  refine lv_aload_n hx hb z_at_0 rfl (lv_at hl 0 rfl) ?_
  refine call_V (base := base) (old := old) (dA := dA) (D := D) (E := E) (own := "java/lang/String") (As := []) (rest := []) (n := 0) hx hb (by rw [hml]; exact hl.1.symm) hown hts henv hS (c_is base old dA D E l i hi) zw_is_c zw_co_i zw_at_is zw_is_n zw_is_s (by decide +kernel) rfl (vk_recv (adK := fun i => old (1 + i)) hVS hi hS) ⟨Nat.le_of_ble_eq_true rfl, Nat.le_of_ble_eq_true rfl⟩ (Nat.le_of_ble_eq_true rfl) z_at_1 ⟨Nat.le_refl _, Nat.le_refl _⟩ ?_
  refine lv_if_eq (tgt := 16) hx hb z_at_4 (by decide) (fun q => absurd q (by decide)) (fun _ => ?_)
  refine lv_aload_n hx hb z_at_7 rfl (lv_at hl 0 rfl) ?_
  refine vk_getf hx hb hva hS hown (hts _ zw_len_g) (fun _ h => h) z_at_8 ?_
  refine lv_iload_n hx hb z_at_11 rfl (lv_at hl 1 rfl) ?_
  refine call_S (base := base) (old := old) (dA := dA) (D := D) (E := E) (own := "java/lang/String") (As := [.ref (old (100 + i)), .int k]) (rest := []) (n := 2) hx hb (by rw [hml]; exact hl.1.symm) hown hts henv hS (c_la base old dA D E l i hi k hk) zw_la_c zw_la_i zw_at_la zw_la_s (by decide +kernel) rfl ⟨Nat.le_of_ble_eq_true rfl, Nat.le_of_ble_eq_true rfl⟩ (Nat.le_of_ble_eq_true rfl) z_at_12 ⟨Nat.le_refl _, Nat.le_refl _⟩ ?_
  exact W.zret (ty := .char) hx hb hr (hn _ hk1) (fun t ht hW => ⟨rfl, ht⟩) (fun _ h => by cases h) z_at_15
end XSTR2
end
section
/-! ===== one instruction, whichever; calls; returns ===== -/
section XS4
variable {base : Nat} {old : Nat → Nat} {dA : Nat → ClassId} {D : va_G} {E : Nat × (Nat → Int32)}
variable {p : Program} {l : Launch} {e : Env} {R : Room} {s : State} {m : MethodId} {args : Array Value} {below : List Frame} {meth : Method} {c : Code} {Q : State → Prop}
variable {M : xM} {b : ByteArray} {a0 s0 : Nat}
theorem i_inv {T : xT} {own ik idx lk pc : Nat} {ls st : List Value} {A : xH} {n : xN} (h : xinv T own xgo0 xcl0 ik idx lk pc ls st A = some n) : ∃ kd mid na rk, T.2.1[lk]? = some (own, idx, kd, mid, na, rk) ∧ xkd ik kd = true ∧ (
    (kd = 6 ∧ ∃ a s1, st = .ref a :: s1 ∧ xcat s1 ≤ 8 ∧ n = .inl (pc + 3, ls, s1, A)) ∨
    (kd = 7 ∧ ∃ x y s1, st = .int y :: .int x :: s1 ∧ xcat s1 ≤ 8 ∧ n = .inl (pc + 3, ls, .int (xmax x y) :: s1, A)) ∨
    (kd = 8 ∧ ∃ x y s1, st = .int y :: .int x :: s1 ∧ xcat s1 ≤ 8 ∧ n = .inl (pc + 3, ls, .int (xmin x y) :: s1, A)) ∨
    (kd = 9 ∧ ∃ k dp bb sp a s1 B, st = .int k :: .int dp :: .ref bb :: .int sp :: .ref a :: s1 ∧ xcat s1 ≤ 8 ∧ xcopy A a sp bb dp k = some B ∧ n = .inl (pc + 3, ls, s1, B)) ∨
    (kd = 10 ∧ ∃ k s1 x, st = .float k :: s1 ∧ xcat s1 ≤ 8 ∧ xslen T.2.2.2.2.2.2 k = some x ∧ n = .inl (pc + 3, ls, .int x :: s1, A)) ∨
    (kd = 11 ∧ ∃ i k s1 x, st = .int i :: .float k :: s1 ∧ xcat s1 ≤ 8 ∧ xsat T.2.2.2.2.2.2 k i = some x ∧ n = .inl (pc + 3, ls, .int x :: s1, A)) ∨
    (kd = 12 ∧ ∃ a s1 B, st = .ref a :: s1 ∧ xcat s1 ≤ 8 ∧ xclone A a = some B ∧ n = .inl (pc + 3, ls, .ref A.length :: s1, B)) ∨
    (kd < 6 ∧ ∃ as s1, xpop na [] st = some (as, s1) ∧ xcat s1 ≤ 8 ∧ n = .inr (.inl ((mid, as, rk), (pc + 3, ls, s1, A))))) := by
  unfold xinv at h
  split at h
  · cases h
  · rename_i o i kd mid na rk hT
    split at h
    · rename_i ho
      obtain ⟨rfl, rfl, hk⟩ := ho
      refine ⟨kd, mid, na, rk, hT, hk, ?_⟩
      split at h
      · split at h
        · split at h
          · rename_i hc
            exact Or.inl ⟨rfl, _, _, rfl, hc, (Option.some.inj h).symm⟩
          · cases h
        · cases h
      · split at h
        · split at h
          · rename_i hc
            exact Or.inr (Or.inl ⟨rfl, _, _, _, rfl, hc, (Option.some.inj h).symm⟩)
          · cases h
        · cases h
      · split at h
        · split at h
          · rename_i hc
            exact Or.inr (Or.inr (Or.inl ⟨rfl, _, _, _, rfl, hc, (Option.some.inj h).symm⟩))
          · cases h
        · cases h
      · split at h
        · split at h
          · rename_i hc
            obtain ⟨B, h1, h2⟩ := i_bind h
            exact Or.inr (Or.inr (Or.inr (Or.inl ⟨rfl, _, _, _, _, _, _, B, rfl, hc, h1, (Option.some.inj h2).symm⟩)))
          · cases h
        · cases h
      · split at h
        · split at h
          · rename_i hc
            obtain ⟨B, h1, h2⟩ := i_bind h
            exact Or.inr (Or.inr (Or.inr (Or.inr (Or.inl ⟨rfl, _, _, B, rfl, hc, h1, (Option.some.inj h2).symm⟩))))
          · cases h
        · cases h
      · split at h
        · split at h
          · rename_i hc
            obtain ⟨B, h1, h2⟩ := i_bind h
            exact Or.inr (Or.inr (Or.inr (Or.inr (Or.inr (Or.inl ⟨rfl, _, _, _, B, rfl, hc, h1, (Option.some.inj h2).symm⟩)))))
          · cases h
        · cases h
      · split at h
        · split at h
          · rename_i hc
            obtain ⟨B, h1, h2⟩ := i_bind h
            exact Or.inr (Or.inr (Or.inr (Or.inr (Or.inr (Or.inr (Or.inl ⟨rfl, _, _, B, rfl, hc, h1, (Option.some.inj h2).symm⟩))))))
          · cases h
        · cases h
      · rename_i n6 n7 n8 n9 n10 n11 n12
        have hlt : kd < 6 := by
          have m6 : kd ≠ 6 := n6
          have m7 : kd ≠ 7 := n7
          have m8 : kd ≠ 8 := n8
          have m9 : kd ≠ 9 := n9
          have m10 : kd ≠ 10 := n10
          have m11 : kd ≠ 11 := n11
          have m12 : kd ≠ 12 := n12
          unfold xkd at hk
          split at hk
          · simp only [Bool.or_eq_true, beq_iff_eq] at hk; omega
          · simp only [Bool.or_eq_true, beq_iff_eq] at hk; omega
          · simp only [Bool.or_eq_true, beq_iff_eq] at hk; omega
        split at h
        · cases h
        · rename_i as s1 hp
          split at h
          · rename_i hc
            exact Or.inr (Or.inr (Or.inr (Or.inr (Or.inr (Or.inr (Or.inr ⟨hlt, as, s1, hp, hc, (Option.some.inj h).symm⟩))))))
          · cases h
    · cases h
theorem str_ok {k : UInt32} {x : List Int32} (h : xstr xSTR k = some x) : ∃ i, i < xSTR.length ∧ k.toNat = 1 + i ∧ x = xSTR.getD i [] := by
  unfold xstr at h
  split at h
  · cases h
  · rename_i hk
    refine ⟨k.toNat - 1, (List.getElem?_eq_some_iff.mp h).1, ?_, ?_⟩
    · have : k.toNat ≠ 0 := fun q => hk (by rw [← UInt32.toNat_inj]; exact q)
      omega
    · rw [List.getD_eq_getElem?_getD, h]
      rfl
theorem go_inv {ik idx lk pc : Nat} {als st : List Value} {A : xH} {pc' : Nat} {als' st' : List Value} {A' : xH} (C : xCx base old dA D E p s m args meth c M b a0) (hal : als.length = M.2.2.2.1) (ha : a0 ≤ A.length) (hs : s0 ≤ xsl A) (h1 : A'.length - a0 ≤ R.cells) (h2 : xsl A' - s0 ≤ R.slots) (hfr : 4 ≤ R.frames) (hlo : 100 ≤ R.locals) (hik : ik < 3)
    (hdg : (ik = 0 → decode b pc = .ok (.invokevirtual idx, 3)) ∧ (ik = 1 → decode b pc = .ok (.invokespecial idx, 3)) ∧ (ik = 2 → decode b pc = .ok (.invokestatic idx, 3))) (h : xinv xtabs M.1 xgo0 xcl0 ik idx lk pc als st A = some (.inl (pc', als', st', A'))) (kk : xK base old dA D p l e R s m args below meth c Q a0 s0 pc' als' st' A') : xK base old dA D p l e R s m args below meth c Q a0 s0 pc als st A := by
  obtain ⟨hx, hb, hml, hown, hts, henv, hini, hz⟩ := C
  obtain ⟨kd, mid, na, rk, hT, hkd, hc⟩ := i_inv h
  have hlink := ml_all _ (List.mem_of_getElem? (show xML[lk]? = some _ from hT))
  intro H locs ls hX hl
  have hmlL : c.maxLocals = ls.size := by rw [hml, ← hal]; exact hl.1.symm
  rcases hc with ⟨rfl, a, s1, rfl, hcat, e1⟩ | ⟨rfl, x, y, s1, rfl, hcat, e1⟩ | ⟨rfl, x, y, s1, rfl, hcat, e1⟩ | ⟨rfl, k, dp, bb, sp, a, s1, B, rfl, hcat, hcp, e1⟩ | ⟨rfl, k, s1, x, rfl, hcat, hsl, e1⟩ | ⟨rfl, i, k, s1, x, rfl, hcat, hsl, e1⟩ | ⟨rfl, a, s1, B, rfl, hcat, hcl, e1⟩ | ⟨-, as, s1, -, -, e1⟩
  · cases e1
    have hik1 : ik = 1 := by
      match ik, hik, hkd with
      | 0, _, q => exact absurd q (by decide)
      | 1, _, _ => rfl
      | 2, _, q => exact absurd q (by decide)
    refine W.objInit hx hb hown (hts _ hlink) (hts _ wo_inst) (hts _ wo_code) (g := F0 m pc ls (.ref (base + a) :: st'.map (xv base old))) rfl hmlL.symm rfl (hdg.2.1 hik1) (by omega) ?_ (kk H locs ls hX hl)
    show 2 * 0 + ((st'.map (xv base old)).map fun v => v.category).sum + 12 ≤ R.locals
    rw [cat_sum]
    omega
  · cases e1
    have hik2 : ik = 2 := by
      match ik, hik, hkd with
      | 0, _, q => exact absurd q (by decide)
      | 1, _, q => exact absurd q (by decide)
      | 2, _, _ => rfl
    exact va_mmax (x := x) (y := y) hx hb hmlL hown (hts _ hlink) (hts _ wm_max_s) (hts _ wm_i) (hts _ wm_max_c) (by omega) (by rw [cat_sum]; omega) h1 h2 (hdg.2.2 hik2) (kk H locs ls hX hl)
  · cases e1
    have hik2 : ik = 2 := by
      match ik, hik, hkd with
      | 0, _, q => exact absurd q (by decide)
      | 1, _, q => exact absurd q (by decide)
      | 2, _, _ => rfl
    exact va_mmin (x := x) (y := y) hx hb hmlL hown (hts _ hlink) (hts _ wm_min_s) (hts _ wm_i) (hts _ wm_min_c) (by omega) (by rw [cat_sum]; omega) h1 h2 (hdg.2.2 hik2) (kk H locs ls hX hl)
  · cases e1
    have hik2 : ik = 2 := by
      match ik, hik, hkd with
      | 0, _, q => exact absurd q (by decide)
      | 1, _, q => exact absurd q (by decide)
      | 2, _, _ => rfl
    obtain ⟨n0, f, n1, g, hA, hB, e3, e4, e5, e6, e7, rfl⟩ := j_copy hcp
    have hnf : nativeFrameWords "java/lang/System" "arraycopy" 5 + 11 ≤ 80 := by decide
    exact va_copyi (ty := .int) hx hb hmlL hown (hts _ hlink) (hts _ wa_n) (hts _ wa_s) (hts _ wa_i) henv.1 hX.1 xw_D hX.2.2 a bb 0 0 (xw_get hA) (xw_get hB) rfl rfl rfl e3 e4 e5 e6 e7 (fun _ _ => rfl) (by omega) (by rw [cat_sum]; omega) (hdg.2.2 hik2) (st_done hX hl hB kk rfl (arr_lt (by decide)))
  · cases e1
    have hik0 : ik = 0 := by
      match ik, hik, hkd with
      | 0, _, _ => rfl
      | 1, _, q => exact absurd q (by decide)
      | 2, _, q => exact absurd q (by decide)
    unfold xslen at hsl
    obtain ⟨xl, hs1, hs2⟩ := Option.map_eq_some_iff.mp hsl
    obtain ⟨i, hi, hki, rfl⟩ := str_ok hs1
    subst hs2
    have hVS := henv.2.2.2.2.2.2.2.1
    have e2 : xv base old (.float k) = .ref (old (1 + i)) := by
      show Value.ref (old k.toNat) = _
      rw [hki]
    show W p l e R s m args below meth c H locs _ _ Q (F0 m pc ls (xv base old (.float k) :: s1.map (xv base old)))
    rw [e2]
    exact call_V (base := base) (old := old) (dA := dA) (D := D) (E := E) (As := []) (n := 0) hx hb hmlL hown hts henv hX.2.2 (c_len base old dA D E l i hi) zw_len_c zw_len_i hlink zw_len_n zw_len_s (by decide +kernel) rfl (vk_recv (adK := fun i => old (1 + i)) hVS hi hX.2.2) ⟨by omega, by omega⟩ (by rw [cat_sum]; exact hcat) (hdg.1 hik0) ⟨h1, h2⟩ (kk H locs ls hX hl)
  · cases e1
    have hik0 : ik = 0 := by
      match ik, hik, hkd with
      | 0, _, _ => rfl
      | 1, _, q => exact absurd q (by decide)
      | 2, _, q => exact absurd q (by decide)
    unfold xsat at hsl
    obtain ⟨xl, hs1, hs2⟩ := Option.bind_eq_some_iff.mp hsl
    obtain ⟨j, hj, hki, rfl⟩ := str_ok hs1
    split at hs2
    · cases hs2
    · rename_i hin
      cases hs2
      have hVS := henv.2.2.2.2.2.2.2.1
      have e2 : xv base old (.float k) = .ref (old (1 + j)) := by
        show Value.ref (old k.toNat) = _
        rw [hki]
      show W p l e R s m args below meth c H locs _ _ Q (F0 m pc ls (.int i :: xv base old (.float k) :: s1.map (xv base old)))
      rw [e2]
      exact call_V (base := base) (old := old) (dA := dA) (D := D) (E := E) (As := [.int i]) (n := 1) hx hb hmlL hown hts henv hX.2.2 (c_at base old dA D E l j hj i hin) zw_at_c zw_at_i hlink zw_at_n zw_at_s (by decide +kernel) rfl (vk_recv (adK := fun i => old (1 + i)) hVS hj hX.2.2) ⟨by omega, by omega⟩ (by rw [cat_sum]; exact hcat) (hdg.1 hik0) ⟨h1, h2⟩ (kk H locs ls hX hl)
  · cases e1
    have hik0 : ik = 0 := by
      match ik, hik, hkd with
      | 0, _, _ => rfl
      | 1, _, q => exact absurd q (by decide)
      | 2, _, q => exact absurd q (by decide)
    obtain ⟨n, f, hA, rfl⟩ := j_clone hcl
    obtain ⟨r1, r2⟩ := new_room ha hs h1 h2
    have hAq : ∀ q, s.heap.size ≤ q → (fun q => base ≤ q) q := fun q hq => by show base ≤ q; omega
    have hnm : s.vm.findClass "[I" = some (dA 0) := (henv.1.2 0 _ rfl).2
    refine va_clone (ad := "[I") (x := (n, .inl f)) (ty := .int) hx hb hmlL hown (hts _ hlink) (hts _ wc_same) (hts _ wc_nat) (hts _ wc_inst) (hts _ wc_sel) henv.2.2.2.1 henv.1 hX.1 xw_D hX.2.2 hAq a 0 (xw_get hA) rfl hnm (fun i v hv => ?_) (by omega) (by rw [cat_sum]; omega) r1 r2 (hdg.1 hik0) (fun q H1 _ hP hD hS => new_done hz ha hs hX hl kk rfl (arr_lt (by decide)) q H1 hP hD hS)
    have hlt : i < n := by
      have := (Array.getElem?_eq_some_iff.mp hv).1
      rw [vp_cell_i, arrV_size] at this
      exact this
    rw [vp_cell_i, arrV_read _ _ hlt] at hv
    cases hv
    rfl
  · cases e1
theorem ret_no {pc lk : Nat} {ins : Instr} {dead : List Nat} {als st : List Value} {A : xH} {q : Nat × List Value × List Value × xH} (hi : ins = .ireturn ∨ ins = .lreturn ∨ ins = .areturn ∨ ins = .return_) (h : xeff xtabs E M.1 M.2.1 M.2.2.1 (pc, ins, lk, dead) als st A = some (.inl q)) : False := by
  unfold xeff at h
  rcases hi with rfl | rfl | rfl | rfl <;> unfold xG at h <;> dsimp only at h <;> split at h <;> first
    | cases h
    | (split at h <;> first | cases h | (split at h <;> cases h))
theorem i_icmp_n {cd : ClassFile.Cond} {x y : Int32} {a b : Option xN} {n : xN} (h : xicmp cd x y a b = some n) : a = some n ∨ b = some n := by
  unfold xicmp at h
  split at h <;> split at h <;> first | exact Or.inl h | exact Or.inr h
set_option maxHeartbeats 4000000 in
/-- every instruction that goes on within the frame -/
theorem xgo {pc lk : Nat} {ins : Instr} {dead : List Nat} {als st : List Value} {A : xH} {pc' : Nat} {als' st' : List Value} {A' : xH} (C : xCx base old dA D E p s m args meth c M b a0) (hal : als.length = M.2.2.2.1) (ha : a0 ≤ A.length) (hs : s0 ≤ xsl A) (h1 : A'.length - a0 ≤ R.cells) (h2 : xsl A' - s0 ≤ R.slots) (hfr : 4 ≤ R.frames) (hlo : 100 ≤ R.locals) (hr : xrok b (pc, ins, lk, dead) = true) (h : xeff xtabs E M.1 M.2.1 M.2.2.1 (pc, ins, lk, dead) als st A = some (.inl (pc', als', st', A'))) (kk : xK base old dA D p l e R s m args below meth c Q a0 s0 pc' als' st' A') : xK base old dA D p l e R s m args below meth c Q a0 s0 pc als st A := by
  obtain ⟨n, hdec, hlen, hoff, hlk⟩ := row_dec hr
  obtain ⟨hx, hb, hml, hown, hts, henv, hini, hz⟩ := id C
  have st1 : ∀ {i w : Nat} {v : Value} {s1 : List Value}, i < als.length → (∀ j, i = j + 1 → (xg als j).category ≠ 2) → xK base old dA D p l e R s m args below meth c Q a0 s0 (pc + w) (xs als i v) s1 A → ∀ (H : Heap) (locs : List Loc), xAt base old dA D s A H locs → ∀ ls' : Array Slot, lv_has ls' als.length ((i, xv base old v) :: (xlv base old als).filter (fun q => !(q.1 == i) && !(q.1 + 1 == i && q.2.category == 2))) → W p l e R s m args below meth c H locs (A.length - a0) (xsl A - s0) Q (F0 m (pc + w) ls' (s1.map (xv base old))) := fun hi hp k H locs hX ls' h' => k H locs ls' hX (xLoc.st1 hi hp h')
  have st2 : ∀ {i w : Nat} {v : Value} {s1 : List Value}, i + 1 < als.length → (∀ j, i = j + 1 → (xg als j).category ≠ 2) → xK base old dA D p l e R s m args below meth c Q a0 s0 (pc + w) (xs (xs als i v) (i + 1) xJ) s1 A → ∀ (H : Heap) (locs : List Loc), xAt base old dA D s A H locs → ∀ ls' : Array Slot, lv_has ls' als.length ((i, xv base old v) :: (xlv base old als).filter (fun q => !(q.1 == i) && (!(q.1 == i + 1) && !(q.1 + 1 == i && q.2.category == 2)))) → W p l e R s m args below meth c H locs (A.length - a0) (xsl A - s0) Q (F0 m (pc + w) ls' (s1.map (xv base old))) := fun hi hp k H locs hX ls' h' => k H locs ls' hX (xLoc.st2 hi hp h')
  cases ins with
  | aload_n i =>
    unfold xeff at h; unfold xG at h; dsimp only at h
    obtain ⟨hv, e1⟩ := i_ldA h
    cases e1
    have hd := hlen rfl (by simp [xlen]); subst hd
    exact go_aload C (Or.inl ⟨i, rfl, rfl, hdec⟩) hv kk
  | aload i =>
    unfold xeff at h; unfold xG at h; dsimp only at h
    obtain ⟨hv, e1⟩ := i_ldA h
    cases e1
    have hd := hlen rfl (by simp [xlen]); subst hd
    exact go_aload C (Or.inr ⟨rfl, hdec⟩) hv kk
  | iload_n i =>
    unfold xeff at h; unfold xG at h; dsimp only at h
    obtain ⟨x, hv, e1⟩ := i_ldI h
    cases e1
    have hd := hlen rfl (by simp [xlen]); subst hd
    exact fun H locs ls hX hl => lv_iload_n hx hb hdec rfl (hl.at hv (fun k h => by cases h)) (kk H locs ls hX hl)
  | iload i =>
    unfold xeff at h; unfold xG at h; dsimp only at h
    obtain ⟨x, hv, e1⟩ := i_ldI h
    cases e1
    have hd := hlen rfl (by simp [xlen]); subst hd
    exact fun H locs ls hX hl => lv_iload hx hb hdec (hl.at hv (fun k h => by cases h)) (kk H locs ls hX hl)
  | lload_n i =>
    unfold xeff at h; unfold xG at h; dsimp only at h
    obtain ⟨x, hv, e1⟩ := i_ldL h
    cases e1
    have hd := hlen rfl (by simp [xlen]); subst hd
    exact fun H locs ls hX hl => lv_lload_n hx hb hdec rfl (hl.at hv (fun k h => by cases h)) (kk H locs ls hX hl)
  | lload i =>
    unfold xeff at h; unfold xG at h; dsimp only at h
    obtain ⟨x, hv, e1⟩ := i_ldL h
    cases e1
    have hd := hlen rfl (by simp [xlen]); subst hd
    exact fun H locs ls hX hl => lv_lload hx hb hdec (hl.at hv (fun k h => by cases h)) (kk H locs ls hX hl)
  | iconst i =>
    unfold xeff at h; unfold xG at h; dsimp only at h
    cases h
    have hd := hlen rfl (by simp [xlen]); subst hd
    exact fun H locs ls hX hl => lv_iconst hx hb hdec rfl (kk H locs ls hX hl)
  | bipush i =>
    unfold xeff at h; unfold xG at h; dsimp only at h
    cases h
    have hd := hlen rfl (by simp [xlen]); subst hd
    exact fun H locs ls hX hl => lv_bipush hx hb hdec rfl (kk H locs ls hX hl)
  | sipush i =>
    unfold xeff at h; unfold xG at h; dsimp only at h
    cases h
    have hd := hlen rfl (by simp [xlen]); subst hd
    exact fun H locs ls hX hl => lv_sipush hx hb hdec rfl (kk H locs ls hX hl)
  | lconst i =>
    unfold xeff at h; unfold xG at h; dsimp only at h
    cases h
    have hd := hlen rfl (by simp [xlen]); subst hd
    exact fun H locs ls hX hl => lv_lconst hx hb hdec rfl (kk H locs ls hX hl)
  | aconst_null =>
    unfold xeff at h; unfold xG at h; dsimp only at h
    cases h
    have hd := hlen rfl (by simp [xlen]); subst hd
    exact fun H locs ls hX hl => lv_null hx hb hdec (kk H locs ls hX hl)
  | getfield i =>
    unfold xeff at h; unfold xG at h; dsimp only at h
    have hd := hlen rfl (by simp [xlen]); subst hd
    exact go_get C hdec h kk
  | putfield i =>
    unfold xeff at h; unfold xG at h; dsimp only at h
    have hd := hlen rfl (by simp [xlen]); subst hd
    exact go_put C hdec h kk
  | invokevirtual i =>
    unfold xeff at h; unfold xG at h; dsimp only at h
    have hd := hlen rfl (by simp [xlen]); subst hd
    exact go_inv (ik := 0) C hal ha hs h1 h2 hfr hlo (by decide) ⟨fun _ => hdec, fun q => absurd q (by decide), fun q => absurd q (by decide)⟩ h kk
  | invokespecial i =>
    unfold xeff at h; unfold xG at h; dsimp only at h
    have hd := hlen rfl (by simp [xlen]); subst hd
    exact go_inv (ik := 1) C hal ha hs h1 h2 hfr hlo (by decide) ⟨fun q => absurd q (by decide), fun _ => hdec, fun q => absurd q (by decide)⟩ h kk
  | invokestatic i =>
    unfold xeff at h; unfold xG at h; dsimp only at h
    have hd := hlen rfl (by simp [xlen]); subst hd
    exact go_inv (ik := 2) C hal ha hs h1 h2 hfr hlo (by decide) ⟨fun q => absurd q (by decide), fun q => absurd q (by decide), fun _ => hdec⟩ h kk
  | ireturn => exact (ret_no (Or.inl rfl) h).elim
  | lreturn => exact (ret_no (Or.inr (Or.inl rfl)) h).elim
  | areturn => exact (ret_no (Or.inr (Or.inr (Or.inl rfl))) h).elim
  | return_ => exact (ret_no (Or.inr (Or.inr (Or.inr rfl))) h).elim
  | if_icmp cd off =>
    have hd := hlen rfl (by simp [xlen]); subst hd
    unfold xeff at h; unfold xG at h; dsimp only at h
    split at h
    · exact go_icmp C hdec (tgt_ok hoff) h kk
    · cases h
  | ifCond cd off =>
    have hd := hlen rfl (by simp [xlen]); subst hd
    unfold xeff at h; unfold xG at h; dsimp only at h
    split at h
    · exact go_if C hdec (tgt_ok hoff) h kk
    · cases h
  | ifnonnull off =>
    have hd := hlen rfl (by simp [xlen]); subst hd
    unfold xeff at h; unfold xG at h; dsimp only at h
    split at h
    · cases h
      exact fun H locs ls hX hl => lv_ifnonnull hx hb hdec (tgt_ok hoff) (kk H locs ls hX hl)
    · cases h
      exact fun H locs ls hX hl => lv_ifnonnullN hx hb hdec (kk H locs ls hX hl)
    · cases h
  | goto off =>
    unfold xeff at h; unfold xG at h; dsimp only at h
    have hd := hlen rfl (by simp [xlen]); subst hd
    cases h
    exact fun H locs ls hX hl => lv_goto hx hb hdec (tgt_ok hoff) (kk H locs ls hX hl)
  | tableswitch d lo hi offs =>
    unfold xeff at h; unfold xG at h; dsimp only at h
    split at h
    · exact go_sw C hdec hoff h kk
    · cases h
  | istore_n i =>
    have hd := hlen rfl (by simp [xlen]); subst hd
    unfold xeff at h; unfold xG at h; dsimp only at h
    split at h
    · obtain ⟨hi, hp, e1⟩ := i_st1 h
      cases e1
      exact fun H locs ls hX hl => lv_istore_n hx hb hdec rfl hl.has hi rfl (st1 hi hp kk H locs hX)
    · cases h
  | istore i =>
    have hd := hlen rfl (by simp [xlen]); subst hd
    unfold xeff at h; unfold xG at h; dsimp only at h
    split at h
    · obtain ⟨hi, hp, e1⟩ := i_st1 h
      cases e1
      exact fun H locs ls hX hl => lv_istore hx hb hdec hl.has hi rfl (st1 hi hp kk H locs hX)
    · cases h
  | lstore_n i =>
    have hd := hlen rfl (by simp [xlen]); subst hd
    unfold xeff at h; unfold xG at h; dsimp only at h
    split at h
    · obtain ⟨hi, hp, e1⟩ := i_st2 h
      cases e1
      exact fun H locs ls hX hl => lv_lstore_n hx hb hdec rfl hl.has hi rfl (st2 hi hp kk H locs hX)
    · cases h
  | lstore i =>
    have hd := hlen rfl (by simp [xlen]); subst hd
    unfold xeff at h; unfold xG at h; dsimp only at h
    split at h
    · obtain ⟨hi, hp, e1⟩ := i_st2 h
      cases e1
      exact fun H locs ls hX hl => lv_lstore hx hb hdec hl.has hi rfl (st2 hi hp kk H locs hX)
    · cases h
  | astore_n i =>
    have hd := hlen rfl (by simp [xlen]); subst hd
    unfold xeff at h; unfold xG at h; dsimp only at h
    split at h
    · obtain ⟨hv, h⟩ := i_ldA h
      obtain ⟨hi, hp, e1⟩ := i_st1 h
      cases e1
      exact go_astore C (Or.inl ⟨i, rfl, rfl, hdec⟩) hv hi hp kk
    · cases h
  | astore i =>
    have hd := hlen rfl (by simp [xlen]); subst hd
    unfold xeff at h; unfold xG at h; dsimp only at h
    split at h
    · obtain ⟨hv, h⟩ := i_ldA h
      obtain ⟨hi, hp, e1⟩ := i_st1 h
      cases e1
      exact go_astore C (Or.inr ⟨rfl, hdec⟩) hv hi hp kk
    · cases h
  | iinc i k =>
    have hd := hlen rfl (by simp [xlen]); subst hd
    unfold xeff at h; unfold xG at h; dsimp only at h
    split at h
    · rename_i x hv
      obtain ⟨hi, hp, e1⟩ := i_st1 h
      cases e1
      intro H locs ls hX hl
      have hm : (i, Value.int x) ∈ xlv base old als := by
        have := xlv_mem (base := base) (old := old) (als := als) (i := i) (by rw [hv]; exact fun k h => by cases h)
        rw [hv] at this
        exact this
      obtain ⟨k1, hk1⟩ := List.getElem?_of_mem hm
      exact lv_iinc hx hb hdec hl.has hk1 rfl hi rfl (st1 (s1 := st) hi hp kk H locs hX)
    · cases h
  | iadd =>
    unfold xeff at h; unfold xG at h; dsimp only at h
    have hd := hlen rfl (by simp [xlen]); subst hd
    obtain ⟨x, y, s1, rfl, e1⟩ := i_bin h; cases e1
    exact fun H locs ls hX hl => lv_iadd hx hb hdec (kk H locs ls hX hl)
  | isub =>
    unfold xeff at h; unfold xG at h; dsimp only at h
    have hd := hlen rfl (by simp [xlen]); subst hd
    obtain ⟨x, y, s1, rfl, e1⟩ := i_bin h; cases e1
    exact fun H locs ls hX hl => lv_isub hx hb hdec (kk H locs ls hX hl)
  | imul =>
    unfold xeff at h; unfold xG at h; dsimp only at h
    have hd := hlen rfl (by simp [xlen]); subst hd
    obtain ⟨x, y, s1, rfl, e1⟩ := i_bin h; cases e1
    exact fun H locs ls hX hl => lv_imul hx hb hdec (kk H locs ls hX hl)
  | iand =>
    unfold xeff at h; unfold xG at h; dsimp only at h
    have hd := hlen rfl (by simp [xlen]); subst hd
    obtain ⟨x, y, s1, rfl, e1⟩ := i_bin h; cases e1
    exact fun H locs ls hX hl => lv_iand hx hb hdec (kk H locs ls hX hl)
  | ior =>
    unfold xeff at h; unfold xG at h; dsimp only at h
    have hd := hlen rfl (by simp [xlen]); subst hd
    obtain ⟨x, y, s1, rfl, e1⟩ := i_bin h; cases e1
    exact fun H locs ls hX hl => lv_ior hx hb hdec (kk H locs ls hX hl)
  | ixor =>
    unfold xeff at h; unfold xG at h; dsimp only at h
    have hd := hlen rfl (by simp [xlen]); subst hd
    obtain ⟨x, y, s1, rfl, e1⟩ := i_bin h; cases e1
    exact fun H locs ls hX hl => lv_ixor hx hb hdec (kk H locs ls hX hl)
  | ishl =>
    unfold xeff at h; unfold xG at h; dsimp only at h
    have hd := hlen rfl (by simp [xlen]); subst hd
    obtain ⟨x, y, s1, rfl, e1⟩ := i_bin h; cases e1
    exact fun H locs ls hX hl => lv_ishl hx hb hdec (kk H locs ls hX hl)
  | ishr =>
    unfold xeff at h; unfold xG at h; dsimp only at h
    have hd := hlen rfl (by simp [xlen]); subst hd
    obtain ⟨x, y, s1, rfl, e1⟩ := i_bin h; cases e1
    exact fun H locs ls hX hl => lv_ishr hx hb hdec (kk H locs ls hX hl)
  | iushr =>
    unfold xeff at h; unfold xG at h; dsimp only at h
    have hd := hlen rfl (by simp [xlen]); subst hd
    obtain ⟨x, y, s1, rfl, e1⟩ := i_bin h; cases e1
    exact fun H locs ls hX hl => lv_iushr hx hb hdec rfl (kk H locs ls hX hl)
  | idiv =>
    unfold xeff at h; unfold xG at h; dsimp only at h
    have hd := hlen rfl (by simp [xlen]); subst hd
    obtain ⟨x, y, s1, rfl, hne, e1⟩ := i_binz h; cases e1
    exact fun H locs ls hX hl => lv_idiv hx hb hdec hne (kk H locs ls hX hl)
  | irem =>
    unfold xeff at h; unfold xG at h; dsimp only at h
    have hd := hlen rfl (by simp [xlen]); subst hd
    obtain ⟨x, y, s1, rfl, hne, e1⟩ := i_binz h; cases e1
    exact fun H locs ls hX hl => lv_irem hx hb hdec hne (kk H locs ls hX hl)
  | ineg =>
    have hd := hlen rfl (by simp [xlen]); subst hd
    unfold xeff at h; unfold xG at h; dsimp only at h
    split at h
    · cases h
      exact fun H locs ls hX hl => lv_ineg hx hb hdec (kk H locs ls hX hl)
    · cases h
  | ladd =>
    unfold xeff at h; unfold xG at h; dsimp only at h
    have hd := hlen rfl (by simp [xlen]); subst hd
    obtain ⟨x, y, s1, rfl, e1⟩ := i_lbin h; cases e1
    exact fun H locs ls hX hl => lv_ladd hx hb hdec (kk H locs ls hX hl)
  | lsub =>
    unfold xeff at h; unfold xG at h; dsimp only at h
    have hd := hlen rfl (by simp [xlen]); subst hd
    obtain ⟨x, y, s1, rfl, e1⟩ := i_lbin h; cases e1
    exact fun H locs ls hX hl => lv_lsub hx hb hdec (kk H locs ls hX hl)
  | lmul =>
    unfold xeff at h; unfold xG at h; dsimp only at h
    have hd := hlen rfl (by simp [xlen]); subst hd
    obtain ⟨x, y, s1, rfl, e1⟩ := i_lbin h; cases e1
    exact fun H locs ls hX hl => lv_lmul hx hb hdec (kk H locs ls hX hl)
  | ldiv =>
    unfold xeff at h; unfold xG at h; dsimp only at h
    have hd := hlen rfl (by simp [xlen]); subst hd
    obtain ⟨x, y, s1, rfl, hne, e1⟩ := i_lbinz h; cases e1
    exact fun H locs ls hX hl => lv_ldiv hx hb hdec hne (kk H locs ls hX hl)
  | lrem =>
    unfold xeff at h; unfold xG at h; dsimp only at h
    have hd := hlen rfl (by simp [xlen]); subst hd
    obtain ⟨x, y, s1, rfl, hne, e1⟩ := i_lbinz h; cases e1
    exact fun H locs ls hX hl => lv_lrem hx hb hdec hne (kk H locs ls hX hl)
  | lcmp =>
    have hd := hlen rfl (by simp [xlen]); subst hd
    unfold xeff at h; unfold xG at h; dsimp only at h
    split at h
    · cases h
      exact fun H locs ls hX hl => W.lcmp hx hb hdec (kk H locs ls hX hl)
    · cases h
  | i2l =>
    have hd := hlen rfl (by simp [xlen]); subst hd
    unfold xeff at h; unfold xG at h; dsimp only at h
    split at h
    · cases h
      exact fun H locs ls hX hl => lv_i2l hx hb hdec rfl (kk H locs ls hX hl)
    · cases h
  | l2i =>
    have hd := hlen rfl (by simp [xlen]); subst hd
    unfold xeff at h; unfold xG at h; dsimp only at h
    split at h
    · cases h
      exact fun H locs ls hX hl => lv_l2i hx hb hdec rfl (kk H locs ls hX hl)
    · cases h
  | i2b =>
    have hd := hlen rfl (by simp [xlen]); subst hd
    unfold xeff at h; unfold xG at h; dsimp only at h
    split at h
    · cases h
      exact fun H locs ls hX hl => lv_i2b hx hb hdec rfl (kk H locs ls hX hl)
    · cases h
  | dup =>
    have hd := hlen rfl (by simp [xlen]); subst hd
    unfold xeff at h; unfold xG at h; dsimp only at h
    split at h
    · split at h
      · rename_i hc
        cases h
        exact fun H locs ls hX hl => lv_dup hx hb hdec (by rw [xv_cat]; exact hc) (kk H locs ls hX hl)
      · cases h
    · cases h
  | pop =>
    have hd := hlen rfl (by simp [xlen]); subst hd
    unfold xeff at h; unfold xG at h; dsimp only at h
    split at h
    · split at h
      · rename_i hc
        cases h
        exact fun H locs ls hX hl => lv_pop hx hb hdec (by rw [xv_cat]; exact hc) (kk H locs ls hX hl)
      · cases h
    · cases h
  | dup2 =>
    have hd := hlen rfl (by simp [xlen]); subst hd
    unfold xeff at h; unfold xG at h; dsimp only at h
    split at h
    · split at h
      · rename_i hc
        cases h
        exact fun H locs ls hX hl => lv_dup2_11 hx hb hdec (by rw [xv_cat]; exact hc.1) (by rw [xv_cat]; exact hc.2) (kk H locs ls hX hl)
      · cases h
    · cases h
  | iaload =>
    unfold xeff at h; unfold xG at h; dsimp only at h
    have hd := hlen rfl (by simp [xlen]); subst hd
    exact go_iald C hdec h kk
  | baload =>
    unfold xeff at h; unfold xG at h; dsimp only at h
    have hd := hlen rfl (by simp [xlen]); subst hd
    exact go_bald C hdec (by simpa [xlkk] using hlk) h kk
  | iastore =>
    unfold xeff at h; unfold xG at h; dsimp only at h
    have hd := hlen rfl (by simp [xlen]); subst hd
    exact go_iast C hdec h kk
  | bastore =>
    unfold xeff at h; unfold xG at h; dsimp only at h
    have hd := hlen rfl (by simp [xlen]); subst hd
    exact go_bast C hdec (by simpa [xlkk] using hlk) h kk
  | laload =>
    have hd := hlen rfl (by simp [xlen]); subst hd
    unfold xeff at h; unfold xG at h; dsimp only at h
    split at h
    · obtain ⟨x, g1, g2⟩ := i_bind h
      cases g2
      exact go_lald C hdec g1 kk
    · cases h
  | lastore =>
    have hd := hlen rfl (by simp [xlen]); subst hd
    unfold xeff at h; unfold xG at h; dsimp only at h
    split at h
    · obtain ⟨x, g1, g2⟩ := i_bind h
      cases g2
      exact go_last C hdec g1 kk
    · cases h
  | aaload =>
    have hd := hlen rfl (by simp [xlen]); subst hd
    have hlk' : lk = 4 ∨ lk = 5 ∨ lk = 6 := by
      simp only [xlkk, Bool.or_eq_true, beq_iff_eq] at hlk
      omega
    unfold xeff at h; unfold xG at h; dsimp only at h
    split at h
    · obtain ⟨x, g1, g2⟩ := i_bind h
      refine go_aald C hdec hlk' g1 ?_
      cases x <;> cases g2 <;> exact kk
    · cases h
  | aastore =>
    have hd := hlen rfl (by simp [xlen]); subst hd
    have hlk' : lk = 4 ∨ lk = 5 ∨ lk = 6 := by
      simp only [xlkk, Bool.or_eq_true, beq_iff_eq] at hlk
      omega
    unfold xeff at h; unfold xG at h; dsimp only at h
    split at h
    · obtain ⟨x, g1, g2⟩ := i_bind h
      cases g2
      exact go_aast (o := some _) C hdec hlk' g1 kk
    · obtain ⟨x, g1, g2⟩ := i_bind h
      cases g2
      exact go_aast (o := none) C hdec hlk' g1 kk
    · cases h
  | arraylength =>
    have hd := hlen rfl (by simp [xlen]); subst hd
    unfold xeff at h; unfold xG at h; dsimp only at h
    split at h
    · obtain ⟨x, g1, g2⟩ := i_bind h
      cases g2
      exact go_alen C hdec g1 kk
    · split at h
      · rename_i hb0
        subst hb0
        cases h
        exact go_slen C hdec kk
      · cases h
    · cases h
  | newarray t =>
    unfold xeff at h; unfold xG at h; dsimp only at h
    have hd := hlen rfl (by simp [xlen]); subst hd
    exact go_newa C ha hs h1 h2 hdec h kk
  | anewarray i =>
    have hd := hlen rfl (by simp [xlen]); subst hd
    unfold xeff at h; unfold xG at h; dsimp only at h
    split at h
    · rename_i hT
      split at h
      · rename_i ho
        split at h
        · cases h
        · rename_i hk
          cases h
          exact go_anew C ha hs h1 h2 hdec hT ho hk kk
      · cases h
    · cases h
  | new i =>
    have hd := hlen rfl (by simp [xlen]); subst hd
    unfold xeff at h; unfold xG at h; dsimp only at h
    split at h
    · rename_i o9 i9 c9 f9 hT
      split at h
      · rename_i ho
        cases h
        have h100 : 100 ≤ c9 := by
          have q : xlkk (.new i) lk = true := hlk
          unfold xlkk at q
          dsimp only at q
          rw [show xKL[lk]? = some _ from hT] at q
          exact of_decide_eq_true q
        exact go_new C ha hs h1 h2 hdec hT ho h100 kk
      · cases h
    · cases h
  | checkcast i =>
    have hd := hlen rfl (by simp [xlen]); subst hd
    unfold xeff at h; unfold xG at h; dsimp only at h
    split at h
    · rename_i o i' t fs a s1 hT
      split at h
      · rename_i ho
        obtain ⟨rfl, rfl, rfl⟩ := ho
        obtain ⟨q, g1, g2⟩ := i_bind h
        split at g2
        · rename_i hq
          subst hq
          cases g2
          intro H locs ls hX hl
          obtain ⟨n, f, hA⟩ := j_tag g1
          have hlink : Cond.classLink (xcn M.1) i' "[I" ∈ gw := by
            rcases kl_all _ (List.mem_of_getElem? (show xKL[lk]? = some _ from hT)) with ⟨-, q⟩ | ⟨q, -⟩ | ⟨q, -⟩
            · exact q
            · exact absurd (show 4 ≤ 0 from q) (by decide)
            · exact absurd (show 100 ≤ 0 from q) (by decide)
          have hw := xw_get (base := base) (old := old) (dA := dA) hA
          have hnm : s.vm.findClass "[I" = some (dA 0) := (henv.1.2 0 _ rfl).2
          obtain f | f | f := f
          · exact va_castA (x := (n, .inl f)) hx hb hown (hts _ hlink) hX.1 a hw hnm hdec (kk H locs ls hX hl)
          · exact va_castA (x := (n, .inr (.inl f))) hx hb hown (hts _ hlink) hX.1 a hw hnm hdec (kk H locs ls hX hl)
          · exact va_castA (x := (n, .inr (.inr (.inr (.inr fun j => (f j).map (base + ·)))))) hx hb hown (hts _ hlink) hX.1 a hw hnm hdec (kk H locs ls hX hl)
        · cases g2
      · cases h
    · cases h
  | ldc i =>
    unfold xeff at h; unfold xG at h; dsimp only at h
    have hd := hlen rfl (by simp [xlen]); subst hd
    exact go_ldc C (Or.inl ⟨rfl, hdec⟩) h kk
  | ldc_w i =>
    unfold xeff at h; unfold xG at h; dsimp only at h
    have hd := hlen rfl (by simp [xlen]); subst hd
    exact go_ldc C (Or.inr ⟨rfl, hdec⟩) h kk
  | ldc2_w i =>
    have hd := hlen rfl (by simp [xlen]); subst hd
    unfold xeff at h; unfold xG at h; dsimp only at h
    split at h
    · rename_i o i' v hT
      split at h
      · rename_i ho
        obtain ⟨rfl, rfl⟩ := ho
        cases h
        have hw := cL_all _ (List.mem_of_getElem? (show xCL[lk]? = some _ from hT))
        exact fun H locs ls hX hl => lv_ldc2 hx hb hown (hts _ hw) hdec (kk H locs ls hX hl)
      · cases h
    · cases h
  | _ => exfalso; unfold xeff at h; unfold xG at h; dsimp only at h; cases h
end XS4
end
section
/-! ===== sizes only grow ===== -/
def xgrow (ls : List Value) (A : xH) : xN → Prop
  | .inl q => A.length ≤ q.2.2.2.length ∧ xsl A ≤ xsl q.2.2.2 ∧ q.2.1.length = ls.length
  | .inr (.inl q) => q.2.2.2.2 = A ∧ q.2.2.1.length = ls.length
  | .inr (.inr q) => q.2 = A
section XGR
variable {T : xT} {E : Nat × (Nat → Int32)} {own rt ini : Nat} {pc : Nat} {ls st : List Value} {A : xH} {n : xN}
theorem gx_rf {q : Nat × List Value × List Value × xH} (h : q.2.2.2 = A) (h2 : q.2.1.length = ls.length) : xgrow ls A (.inl q) := by
  show A.length ≤ q.2.2.2.length ∧ xsl A ≤ xsl q.2.2.2 ∧ _
  rw [h]
  exact ⟨Nat.le_refl _, Nat.le_refl _, h2⟩
theorem gx_set {a b : Nat} {c c0 : xA} {l2 : List Value} (hA : A[a]? = some c0) (hz : xsz c = xsz c0) : xgrow ls A (.inl (b, ls, l2, A.set a c)) := by
  show A.length ≤ (A.set a c).length ∧ xsl A ≤ xsl (A.set a c) ∧ ls.length = ls.length
  rw [List.length_set, xsl_set A a c c0 hA hz]
  exact ⟨Nat.le_refl _, Nat.le_refl _, rfl⟩
theorem gx_app {b : Nat} {c : xA} {l2 : List Value} : xgrow ls A (.inl (b, ls, l2, A ++ [c])) := by
  show A.length ≤ (A ++ [c]).length ∧ xsl A ≤ xsl (A ++ [c]) ∧ ls.length = ls.length
  rw [List.length_append, xsl_app]
  exact ⟨Nat.le_add_right _ _, Nat.le_add_right _ _, rfl⟩
theorem gx_get {lk idx : Nat} (h : xget T own xgo0 lk idx pc ls st A = some n) : xgrow ls A n := by
  obtain ⟨_, _, _, _, _, _, _, _, _, -, -, -, -, -, -, rfl⟩ := i_get h
  exact gx_rf rfl rfl
theorem gx_put {lk idx : Nat} (h : xput T own ini xgo0 lk idx pc ls st A = some n) : xgrow ls A n := by
  obtain ⟨_, _, _, _, _, _, _, fs, v, -, -, -, -, hA, -, rfl, -⟩ := i_put h
  exact gx_set hA (by show (fs.set _ v).length = fs.length; simp)
theorem gx_inv {ik idx lk : Nat} (h : xinv T own xgo0 xcl0 ik idx lk pc ls st A = some n) : xgrow ls A n := by
  obtain ⟨kd, mid, na, rk, -, -, hc⟩ := i_inv h
  rcases hc with ⟨-, a, s1, -, -, rfl⟩ | ⟨-, x, y, s1, -, -, rfl⟩ | ⟨-, x, y, s1, -, -, rfl⟩ | ⟨-, k, dp, bb, sp, a, s1, B, -, -, hcp, rfl⟩ | ⟨-, k, s1, x, -, -, -, rfl⟩ | ⟨-, i, k, s1, x, -, -, -, rfl⟩ | ⟨-, a, s1, B, -, -, hcl, rfl⟩ | ⟨-, as, s1, -, -, rfl⟩
  · exact gx_rf rfl rfl
  · exact gx_rf rfl rfl
  · exact gx_rf rfl rfl
  · obtain ⟨n0, f, n1, g, hA, hB, -, -, -, -, -, rfl⟩ := j_copy hcp
    exact gx_set hB rfl
  · exact gx_rf rfl rfl
  · exact gx_rf rfl rfl
  · obtain ⟨n, f, hA, rfl⟩ := j_clone hcl
    exact gx_app
  · exact ⟨rfl, rfl⟩
theorem gx_newa {t : ArrayType} (h : xnewa xgo0 t pc ls st A = some n) : xgrow ls A n := by
  obtain ⟨k, s1, tg, cN, -, -, -, rfl, -⟩ := i_newa h
  exact gx_app
theorem gx_iald {t : Nat} (h : xiald E xgo0 t pc ls st A = some n) : xgrow ls A n := by
  rcases i_iald h with ⟨_, _, _, _, -, -, rfl⟩ | ⟨_, _, -, -, -, rfl⟩
  · exact gx_rf rfl rfl
  · exact gx_rf rfl rfl
theorem gx_iast {t : Nat} (h : xiast xgo0 t pc ls st A = some n) : xgrow ls A n := by
  obtain ⟨_, _, _, _, _, -, h1, rfl⟩ := i_iast h
  obtain ⟨n, f, hA, -, rfl⟩ := j_sI h1
  exact gx_set hA rfl
theorem gx_ldc {w lk idx : Nat} (h : xldc T own xgo0 w lk idx pc ls st A = some n) : xgrow ls A n := by
  unfold xldc at h
  split at h
  · split at h
    · cases h; exact gx_rf rfl rfl
    · cases h
  · split at h
    · split at h
      · cases h; exact gx_rf rfl rfl
      · cases h
    · cases h
theorem gx_sw {dflt : Nat} {x : Int32} {lo : List Int} {cc : Int} {s1 : List Value} (h : xsw (fun q => (some (.inl (q, ls, s1, A)) : Option xN)) pc dflt x cc lo = some n) : xgrow ls A n := by
  rcases i_sw _ _ h with ⟨_, _, -, -, g⟩ | ⟨-, g⟩
  · cases g; exact gx_rf rfl rfl
  · cases g; exact gx_rf rfl rfl
theorem gx_icmp {cd : ClassFile.Cond} {x y : Int32} {t1 t2 : Nat} {s1 : List Value} (h : xicmp cd x y (some (.inl (t1, ls, s1, A)) : Option xN) (some (.inl (t2, ls, s1, A)) : Option xN) = some n) : xgrow ls A n := by
  rcases i_icmp_n h with g | g
  · cases g; exact gx_rf rfl rfl
  · cases g; exact gx_rf rfl rfl
set_option maxHeartbeats 4000000 in
theorem xeff_grow {r : xR} (h : xeff T E own rt ini r ls st A = some n) : xgrow ls A n := by
  obtain ⟨pc, ins, lk, dead⟩ := r
  unfold xeff at h
  cases ins <;> unfold xG at h <;> dsimp only at h <;> first
    | (cases h; exact gx_rf rfl rfl)
    | (cases h; done)
    | exact gx_get h
    | exact gx_put h
    | exact gx_inv h
    | exact gx_newa h
    | exact gx_iald h
    | exact gx_iast h
    | exact gx_ldc h
    | (obtain ⟨_, _, _, -, rfl⟩ := i_bin h; exact gx_rf rfl rfl)
    | (obtain ⟨_, _, _, -, rfl⟩ := i_lbin h; exact gx_rf rfl rfl)
    | (obtain ⟨_, _, _, -, -, rfl⟩ := i_binz h; exact gx_rf rfl rfl)
    | (obtain ⟨_, _, _, -, -, rfl⟩ := i_lbinz h; exact gx_rf rfl rfl)
    | (obtain ⟨-, g⟩ := i_ldA h; cases g; exact gx_rf rfl rfl)
    | (obtain ⟨_, -, g⟩ := i_ldI h; cases g; exact gx_rf rfl rfl)
    | (obtain ⟨_, -, g⟩ := i_ldL h; cases g; exact gx_rf rfl rfl)
    | (split at h <;> first
        | (cases h; done)
        | (cases h; exact gx_rf rfl rfl)
        | (cases h; rfl)
        | exact gx_icmp h
        | exact gx_sw h
        | (obtain ⟨-, -, g⟩ := i_st1 h; cases g; exact gx_rf rfl (xs_len ..))
        | (obtain ⟨-, -, g⟩ := i_st2 h; cases g; exact gx_rf rfl ((xs_len ..).trans (xs_len ..)))
        | (obtain ⟨-, h2⟩ := i_ldA h; obtain ⟨-, -, g⟩ := i_st1 h2; cases g; exact gx_rf rfl (xs_len ..))
        | (obtain ⟨x, g1, g2⟩ := i_bind h; cases g2; exact gx_rf rfl rfl)
        | (obtain ⟨x, g1, g2⟩ := i_bind h; cases g2; obtain ⟨_, _, hA, -, rfl⟩ := j_sL g1; exact gx_set hA rfl)
        | (obtain ⟨x, g1, g2⟩ := i_bind h; cases g2; obtain ⟨_, _, hA, -, -, rfl⟩ := j_sR g1; exact gx_set hA rfl)
        | (obtain ⟨x, g1, g2⟩ := i_bind h; cases x <;> cases g2 <;> exact gx_rf rfl rfl)
        | (split at h <;> first
            | (cases h; done)
            | (cases h; exact gx_rf rfl rfl)
            | (cases h; rfl)
            | (cases h; exact gx_app)
            | (obtain ⟨x, g1, g2⟩ := i_bind h; split at g2 <;> first | (cases g2; exact gx_rf rfl rfl) | (cases g2; done))
            | (split at h <;> first
                | (cases h; done)
                | (cases h; rfl)
                | (cases h; exact gx_app)
                | (cases h; exact gx_rf rfl rfl))))
theorem inv_noret {ik idx lk : Nat} {q : Option Value × xH} (h : xinv T own xgo0 xcl0 ik idx lk pc ls st A = some (.inr (.inr q))) : False := by
  obtain ⟨kd, mid, na, rk, -, -, hc⟩ := i_inv h
  rcases hc with ⟨_, _, _, -, -, q⟩ | ⟨_, _, _, _, -, -, q⟩ | ⟨_, _, _, _, -, -, q⟩ | ⟨_, _, _, _, _, _, _, _, -, -, -, q⟩ | ⟨_, _, _, _, -, -, -, q⟩ | ⟨_, _, _, _, _, -, -, -, q⟩ | ⟨_, _, _, _, -, -, -, q⟩ | ⟨_, _, _, -, -, q⟩ <;> cases q
set_option maxHeartbeats 4000000 in
/-- only a call calls, only a return returns -/
theorem xeff_kind {ins : Instr} {lk : Nat} {dead : List Nat} (h : xeff T E own rt ini (pc, ins, lk, dead) ls st A = some n) : (∃ q, n = .inl q) ∨ (∃ i, ins = .invokevirtual i ∨ ins = .invokespecial i ∨ ins = .invokestatic i) ∨ (ins = .ireturn ∨ ins = .lreturn ∨ ins = .areturn ∨ ins = .return_) := by
  unfold xeff at h
  cases ins <;> first
    | exact Or.inr (Or.inl ⟨_, Or.inl rfl⟩)
    | exact Or.inr (Or.inl ⟨_, Or.inr (Or.inl rfl)⟩)
    | exact Or.inr (Or.inl ⟨_, Or.inr (Or.inr rfl)⟩)
    | exact Or.inr (Or.inr (Or.inl rfl))
    | exact Or.inr (Or.inr (Or.inr (Or.inl rfl)))
    | exact Or.inr (Or.inr (Or.inr (Or.inr (Or.inl rfl))))
    | exact Or.inr (Or.inr (Or.inr (Or.inr (Or.inr rfl))))
    | left
  all_goals
    unfold xG at h
    dsimp only at h
    first
    | (cases h; exact ⟨_, rfl⟩)
    | (cases h; done)
    | (obtain ⟨_, _, _, _, _, _, _, _, _, -, -, -, -, -, -, rfl⟩ := i_get h; exact ⟨_, rfl⟩)
    | (obtain ⟨_, _, _, _, _, _, _, fs, v, -, -, -, -, hA, -, rfl, -⟩ := i_put h; exact ⟨_, rfl⟩)
    | (obtain ⟨k, s1, tg, cN, -, -, -, rfl, -⟩ := i_newa h; exact ⟨_, rfl⟩)
    | (rcases i_iald h with ⟨_, _, _, _, -, -, rfl⟩ | ⟨_, _, -, -, -, rfl⟩ <;> exact ⟨_, rfl⟩)
    | (obtain ⟨_, _, _, _, _, -, h1, rfl⟩ := i_iast h; exact ⟨_, rfl⟩)
    | (unfold xldc at h; split at h <;> split at h <;> first | (cases h; exact ⟨_, rfl⟩) | (cases h; done) | (split at h <;> first | (cases h; exact ⟨_, rfl⟩) | (cases h; done)))
    | (obtain ⟨_, _, _, -, rfl⟩ := i_bin h; exact ⟨_, rfl⟩)
    | (obtain ⟨_, _, _, -, rfl⟩ := i_lbin h; exact ⟨_, rfl⟩)
    | (obtain ⟨_, _, _, -, -, rfl⟩ := i_binz h; exact ⟨_, rfl⟩)
    | (obtain ⟨_, _, _, -, -, rfl⟩ := i_lbinz h; exact ⟨_, rfl⟩)
    | (obtain ⟨-, g⟩ := i_ldA h; cases g; exact ⟨_, rfl⟩)
    | (obtain ⟨_, -, g⟩ := i_ldI h; cases g; exact ⟨_, rfl⟩)
    | (obtain ⟨_, -, g⟩ := i_ldL h; cases g; exact ⟨_, rfl⟩)
    | (split at h <;> first
        | (cases h; done)
        | (cases h; exact ⟨_, rfl⟩)
        | (rcases i_icmp_n h with g | g <;> cases g <;> exact ⟨_, rfl⟩)
        | (rcases i_sw _ _ h with ⟨_, _, -, -, g⟩ | ⟨-, g⟩ <;> cases g <;> exact ⟨_, rfl⟩)
        | (obtain ⟨-, -, g⟩ := i_st1 h; cases g; exact ⟨_, rfl⟩)
        | (obtain ⟨-, -, g⟩ := i_st2 h; cases g; exact ⟨_, rfl⟩)
        | (obtain ⟨-, h2⟩ := i_ldA h; obtain ⟨-, -, g⟩ := i_st1 h2; cases g; exact ⟨_, rfl⟩)
        | (obtain ⟨x, g1, g2⟩ := i_bind h; cases g2; exact ⟨_, rfl⟩)
        | (obtain ⟨x, g1, g2⟩ := i_bind h; cases x <;> cases g2 <;> exact ⟨_, rfl⟩)
        | (split at h <;> first
            | (cases h; done)
            | (cases h; exact ⟨_, rfl⟩)
            | (obtain ⟨x, g1, g2⟩ := i_bind h; split at g2 <;> first | (cases g2; exact ⟨_, rfl⟩) | (cases g2; done))
            | (split at h <;> first
                | (cases h; done)
                | (cases h; exact ⟨_, rfl⟩))))
end XGR
theorem xcl_inv {call : Nat → List Value → xH → xO} {K : Nat → List Value → List Value → xH → xO} {mid rk pc : Nat} {as ls s1 : List Value} {A : xH} {q : Option Value × xH} (h : xcl call K mid as rk pc ls s1 A = some q) : ∃ v A1, call mid as A = some (v, A1) ∧ K pc ls (v.toList ++ s1) A1 = some q := by
  cases hc : call mid as A with
  | none =>
    unfold xcl at h
    split at h <;> rw [hc] at h <;> simp [xV, xI, xLo, xNn, xOp] at h
  | some w =>
    obtain ⟨v, A1⟩ := w
    refine ⟨v, A1, rfl, ?_⟩
    unfold xcl at h
    split at h <;> rw [hc] at h
    · obtain ⟨z, g1, g2⟩ := Option.bind_eq_some_iff.mp h
      simp only [xV, Option.bind_some] at g1
      cases v with
      | none => cases g1; exact g2
      | some v => cases g1
    · obtain ⟨z, g1, g2⟩ := Option.bind_eq_some_iff.mp h
      simp only [xI, Option.bind_some] at g1
      split at g1
      · cases g1; exact g2
      · cases g1
    · obtain ⟨z, g1, g2⟩ := Option.bind_eq_some_iff.mp h
      simp only [xLo, Option.bind_some] at g1
      split at g1
      · cases g1; exact g2
      · cases g1
    · obtain ⟨z, g1, g2⟩ := Option.bind_eq_some_iff.mp h
      simp only [xNn, Option.bind_some] at g1
      split at g1
      · cases g1; exact g2
      · cases g1
    · obtain ⟨z, g1, g2⟩ := Option.bind_eq_some_iff.mp h
      simp only [xOp, Option.bind_some] at g1
      split at g1
      · cases g1; exact g2
      · cases g1; exact g2
      · cases g1
/-- a step, taken apart -/
theorem xon_inv {P : List xM} {T : xT} {E : Nat × (Nat → Int32)} {call : Nat → List Value → xH → xO} {K : Nat → List Value → List Value → xH → xO} {m pc : Nat} {ls st : List Value} {A : xH} {q : Option Value × xH} (h : xon P T E call K m pc ls st A = some q) : ∃ M r, P[m]? = some M ∧ r ∈ M.2.2.2.2 ∧ r.1 = pc ∧ ((∃ w, xeff T E M.1 M.2.1 M.2.2.1 r (xmask r.2.2.2 ls) st A = some (.inl w) ∧ K w.1 w.2.1 w.2.2.1 w.2.2.2 = some q) ∨ (∃ w v A1, xeff T E M.1 M.2.1 M.2.2.1 r (xmask r.2.2.2 ls) st A = some (.inr (.inl w)) ∧ call w.1.1 w.1.2.1 w.2.2.2.2 = some (v, A1) ∧ K w.2.1 w.2.2.1 (v.toList ++ w.2.2.2.1) A1 = some q) ∨ xeff T E M.1 M.2.1 M.2.2.1 r (xmask r.2.2.2 ls) st A = some (.inr (.inr q))) := by
  unfold xon at h
  split at h
  · cases h
  · rename_i M hM
    split at h
    · cases h
    · rename_i r hr
      have hf : ∀ (l : List xR) (r : xR), xfind l pc = some r → r ∈ l ∧ r.1 = pc := by
        intro l
        induction l with
        | nil => intro r h; cases h
        | cons a l ih =>
          intro r h
          unfold xfind at h
          split at h
          · rename_i e
            cases h
            exact ⟨List.mem_cons_self, e⟩
          · exact ⟨List.mem_cons_of_mem _ (ih r h).1, (ih r h).2⟩
      obtain ⟨z, g1, g2⟩ := Option.bind_eq_some_iff.mp h
      refine ⟨M, r, hM, (hf _ _ hr).1, (hf _ _ hr).2, ?_⟩
      obtain w | w | w := z
      · exact Or.inl ⟨w, g1, g2⟩
      · obtain ⟨v, A1, k1, k2⟩ := xcl_inv g2
        exact Or.inr (Or.inl ⟨w, v, A1, g1, k1, k2⟩)
      · refine Or.inr (Or.inr ?_)
        rw [g1]
        congr 2
        congr 1
        exact Option.some.inj g2
theorem xexec_grow (P : List xM) (T : xT) (E : Nat × (Nat → Int32)) : ∀ (n d m pc : Nat) (ls st : List Value) (A : xH) (q : Option Value × xH), xexec P T E n d m pc ls st A = some q → A.length ≤ q.2.length ∧ xsl A ≤ xsl q.2
  | 0, _, _, _, _, _, _, _, h => by cases h
  | n + 1, d, m, pc, ls, st, A, q, h => by
    rw [xexec_s] at h
    obtain ⟨M, r, -, -, -, hc⟩ := xon_inv h
    rcases hc with ⟨w, g1, g2⟩ | ⟨w, v, A1, g1, g2, g3⟩ | g1
    · have h1 : A.length ≤ w.2.2.2.length ∧ xsl A ≤ xsl w.2.2.2 ∧ _ := xeff_grow g1
      have h2 := xexec_grow P T E n d m _ _ _ _ _ g2
      omega
    · have h1 : w.2.2.2.2 = A := (show _ ∧ _ from xeff_grow g1).1
      have h3 := xexec_grow P T E n d m _ _ _ _ _ g3
      unfold xcallN at g2
      cases d with
      | zero => cases g2
      | succ e =>
        dsimp only at g2
        unfold xinto at g2
        split at g2
        · cases g2
        · split at g2
          · have h2 := xexec_grow P T E n e _ _ _ _ _ _ g2
            rw [h1] at h2
            dsimp only at h2
            omega
          · cases g2
    · have h1 : q.2 = A := xeff_grow g1
      rw [h1]
      exact ⟨Nat.le_refl _, Nat.le_refl _⟩
end
section
/-! ===== calls, returns, and the whole: what the abstract machine comes to, the machine comes to ===== -/
theorem xpop_inv : ∀ (n : Nat) (acc st as s1 : List Value), xpop n acc st = some (as, s1) → ∃ pre, st = pre ++ s1 ∧ as = pre.reverse ++ acc ∧ pre.length = n
  | 0, acc, st, as, s1, h => by
    cases h
    exact ⟨[], rfl, rfl, rfl⟩
  | n + 1, acc, [], as, s1, h => by cases h
  | n + 1, acc, v :: st, as, s1, h => by
    obtain ⟨pre, h1, h2, h3⟩ := xpop_inv n (v :: acc) st as s1 h
    exact ⟨v :: pre, by rw [h1]; rfl, by rw [h2]; simp, by rw [← h3]; rfl⟩
/-- the locals with which a method begins -/
theorem sl_len (base : Nat) (old : Nat → Nat) : ∀ as : List Value, (lg_sl (as.map (xv base old))).length = (xspread as).length
  | [] => rfl
  | v :: as => by
    have ih := sl_len base old as
    have e : lg_sl ((v :: as).map (xv base old)) = (if (xv base old v).category = 2 then [.val (xv base old v), .second] else [.val (xv base old v)]) ++ lg_sl (as.map (xv base old)) := by
      simp [lg_sl]
    rw [e, List.length_append, ih, xv_cat]
    cases v <;> simp [Value.category, xspread] <;> omega
theorem args_mem (base : Nat) (old : Nat → Nat) : ∀ (as : List Value) (i k : Nat), (∀ z, xg (xspread as) i ≠ .retAddr z) → (k + i, xv base old (xg (xspread as) i)) ∈ lv_args k (as.map (xv base old))
  | [], i, k, h => absurd rfl (h 0)
  | v :: as, i, k, h => by
    show _ ∈ (k, xv base old v) :: lv_args (if (xv base old v).category = 2 then k + 2 else k + 1) (as.map (xv base old))
    rw [xv_cat]
    cases v with
    | long x =>
      match i, h with
      | 0, _ => exact List.mem_cons_self
      | 1, h => exact absurd rfl (h 0)
      | j + 2, h =>
        have := args_mem base old as j (k + 2) h
        rw [show k + (j + 2) = k + 2 + j by omega]
        exact List.mem_cons_of_mem _ this
    | double x =>
      match i, h with
      | 0, h => exact absurd rfl (h 0)
      | 1, h => exact absurd rfl (h 0)
      | j + 2, h =>
        have := args_mem base old as j (k + 2) h
        rw [show k + (j + 2) = k + 2 + j by omega]
        exact List.mem_cons_of_mem _ this
    | int x =>
      match i, h with
      | 0, _ => exact List.mem_cons_self
      | j + 1, h =>
        have := args_mem base old as j (k + 1) h
        rw [show k + (j + 1) = k + 1 + j by omega]
        exact List.mem_cons_of_mem _ this
    | float x =>
      match i, h with
      | 0, _ => exact List.mem_cons_self
      | j + 1, h =>
        have := args_mem base old as j (k + 1) h
        rw [show k + (j + 1) = k + 1 + j by omega]
        exact List.mem_cons_of_mem _ this
    | null =>
      match i, h with
      | 0, _ => exact List.mem_cons_self
      | j + 1, h =>
        have := args_mem base old as j (k + 1) h
        rw [show k + (j + 1) = k + 1 + j by omega]
        exact List.mem_cons_of_mem _ this
    | ref x =>
      match i, h with
      | 0, _ => exact List.mem_cons_self
      | j + 1, h =>
        have := args_mem base old as j (k + 1) h
        rw [show k + (j + 1) = k + 1 + j by omega]
        exact List.mem_cons_of_mem _ this
    | retAddr x =>
      match i, h with
      | 0, h => exact absurd rfl (h x)
      | j + 1, h =>
        have := args_mem base old as j (k + 1) h
        rw [show k + (j + 1) = k + 1 + j by omega]
        exact List.mem_cons_of_mem _ this
theorem xpad_len : ∀ (n : Nat) (l : List Value), l.length ≤ n → (xpad n l).length = n
  | 0, l, h => by
    have : l = [] := List.length_eq_zero_iff.mp (by omega)
    subst this; rfl
  | n + 1, [], _ => by
    show (xpad n []).length + 1 = n + 1
    rw [xpad_len n [] (Nat.zero_le _)]
  | n + 1, v :: l, h => by
    show (xpad n l).length + 1 = n + 1
    rw [xpad_len n l (by simpa using h)]
theorem xpad_get : ∀ (n : Nat) (l : List Value) (i : Nat), l.length ≤ n → xg (xpad n l) i = xg l i
  | 0, l, i, _ => rfl
  | n + 1, [], i, _ => by
    cases i with
    | zero => rfl
    | succ i => exact xpad_get n [] i (Nat.zero_le _)
  | n + 1, v :: l, i, h => by
    cases i with
    | zero => rfl
    | succ i => exact xpad_get n l i (by simpa using h)
theorem xLoc_entry {base : Nat} {old : Nat → Nat} {as : List Value} {n : Nat} (h : (xspread as).length ≤ n) : xLoc base old (xpad n (xspread as)) ((lg_sl (as.map (xv base old)) ++ List.replicate (n - (lg_sl (as.map (xv base old))).length) Slot.unset).toArray) := by
  have hl := lv_entry (as.map (xv base old)) (n := n) (by rw [sl_len]; exact h)
  refine ⟨hl.1.trans (xpad_len n _ h).symm, hl.2.1, fun i hi => ?_⟩
  rw [xpad_get n _ i h] at hi ⊢
  have := args_mem base old as i 0 hi
  rw [Nat.zero_add] at this
  exact hl.2.2 _ this
set_option maxRecDepth 100000 in
theorem xprog_len : xprog.length = 301 := by decide +kernel
set_option maxRecDepth 100000 in
theorem xmeta_len : xmeta.length = 301 := by decide +kernel
theorem xprog_some {mid : Nat} (h : mid < 301) : ∃ M, xprog[mid]? = some M := by
  cases hq : xprog[mid]? with
  | none =>
    have := List.getElem?_eq_none_iff.mp hq
    rw [xprog_len] at this
    omega
  | some M => exact ⟨M, rfl⟩
theorem xmeta_some {mid : Nat} (h : mid < 301) : ∃ y, xmeta[mid]? = some y := by
  cases hq : xmeta[mid]? with
  | none =>
    have := List.getElem?_eq_none_iff.mp hq
    rw [xmeta_len] at this
    omega
  | some M => exact ⟨M, rfl⟩
section XMAIN
variable {base : Nat} {old : Nat → Nat} {dA : Nat → ClassId} {D : va_G} {E : Nat × (Nat → Int32)}
def xPc (base : Nat) (old : Nat → Nat) (dA : Nat → ClassId) (D : va_G) (E : Nat × (Nat → Int32)) (as : List Value) (A : xH) : Array Value → State → Prop := fun a U => a = (as.map (xv base old)).toArray ∧ U.heap.size = base + A.length ∧ va_P D xclasses (xw base old dA A) U.heap ∧ xtok A ∧ xEnv base old dA D E U
def xQc (base : Nat) (old : Nat → Nat) (dA : Nat → ClassId) (D : va_G) (v : Option Value) (A' : xH) : Array Value → State → Outcome → State → Prop := fun _ st o t => o = .returned (v.map (xv base old)) ∧ va_P D xclasses (xw base old dA A') t.heap ∧ xtok A' ∧ va_F (fun q => base ≤ q) st t
def xrm (d : Nat) (A A' : xH) : Room := { frames := d + 4, cells := A'.length - A.length, slots := xsl A' - xsl A, locals := 64 * d + 100 }
/-- the contract of a run of the abstract machine -/
def xMet (base : Nat) (old : Nat → Nat) (dA : Nat → ClassId) (D : va_G) (E : Nat × (Nat → Int32)) (l : Launch) (d : Nat) (y : MethodName) (b : ByteArray) (mx : Nat) (rt : Option FieldType) (as : List Value) (A : xH) (v : Option Value) (A' : xH) : Prop :=
  Met l y (.code y b mx rt :: gw) (xrm d A A') (xPc base old dA D E as A) (xQc base old dA D v A') (A'.length - A.length) (xsl A' - xsl A) (fun q => base ≤ q)
variable {p : Program} {l : Launch} {e : Env} {R : Room} {s : State} {m : MethodId} {args : Array Value} {below : List Frame} {meth : Method} {c : Code} {Q : State → Prop}
variable {M : xM} {b : ByteArray} {a0 s0 : Nat}
theorem run_done {pc : Nat} {als s1 : List Value} {A A' : xH} {v : Option Value} {H : Heap} {locs : List Loc} {ls : Array Slot} {st0 : List Value} {a : Array Value} (ha : a0 ≤ A.length) (hs : s0 ≤ xsl A) (hg : A.length ≤ A'.length ∧ xsl A ≤ xsl A') (hX : xAt base old dA D s A H locs) (hl : xLoc base old als ls)
    (hr : va_Run p l e R s m args below meth c H locs (A.length - a0) (xsl A - s0) (A'.length - A.length) (xsl A' - xsl A) (F0 m pc ls st0) (s1.map (xv base old)) (xQc base old dA D v A' a) (fun q => base ≤ q)) (kk : xK base old dA D p l e R s m args below meth c Q a0 s0 (pc + 3) als (v.toList ++ s1) A') :
    W p l e R s m args below meth c H locs (A.length - a0) (xsl A - s0) Q (F0 m pc ls st0) := by
  intro T hT X
  obtain ⟨v', st₀, t, T', L, h0, X', hL, e1, e2, ⟨hv, hP, htk, hF⟩, st⟩ := hr T hT X
  cases hv
  have hS : va_S (fun q => base ≤ q) s.heap T'.heap (locs ++ L) := by
    obtain ⟨hF1, hF2⟩ := hF
    rw [h0] at hF1 hF2
    refine ⟨?_, fun q h1 h2 => ?_, fun q hq => ?_⟩
    · rw [e1]
      exact Nat.le_trans hX.2.2.1 hF1
    · rw [e1, hF2 q (Nat.lt_of_lt_of_le h1 hX.2.2.1) h2]
      exact hX.2.2.2.1 q h1 h2
    · rcases List.mem_append.mp hq with h | h
      · exact hX.2.2.2.2 q h
      · exact hL q h
  have hk := kk T'.heap (locs ++ L) ls ⟨by rw [e1]; exact hP, htk, hS⟩ hl
  have c1 : A.length - a0 + (A'.length - A.length) = A'.length - a0 := by omega
  have c2 : xsl A - s0 + (xsl A' - xsl A) = xsl A' - s0 := by omega
  rw [c1, c2] at X'
  obtain ⟨t2, a1, b1⟩ := hk T' rfl X'
  refine ⟨t2, st t2 ?_, b1⟩
  have e3 : (v.toList ++ s1).map (xv base old) = (v.map (xv base old)).toList ++ s1.map (xv base old) := by
    cases v <;> rfl
  rw [e3] at a1
  exact a1
theorem call_ok {ik idx lk pc : Nat} {als st : List Value} {A A' : xH} {v : Option Value} {w : (Nat × List Value × Nat) × (Nat × List Value × List Value × xH)} {d : Nat} (C : xCx base old dA D E p s m args meth c M b a0) (hal : als.length = M.2.2.2.1) (ha : a0 ≤ A.length) (hs : s0 ≤ xsl A) (hg : A.length ≤ A'.length ∧ xsl A ≤ xsl A') (h1 : A'.length - a0 ≤ R.cells) (h2 : xsl A' - s0 ≤ R.slots) (hfr : d + 5 ≤ R.frames) (hlo : 64 * (d + 1) + 100 ≤ R.locals) (hik : ik < 3)
    (hdg : (ik = 0 → decode b pc = .ok (.invokevirtual idx, 3)) ∧ (ik = 1 → decode b pc = .ok (.invokespecial idx, 3)) ∧ (ik = 2 → decode b pc = .ok (.invokestatic idx, 3))) (h : xinv xtabs M.1 xgo0 xcl0 ik idx lk pc als st A = some (.inr (.inl w)))
    (hrec : ∀ M', xprog[w.1.1]? = some M' → xrecv M' w.1.2.1 A = true)
    (hM : ∀ (M' : xM) (y : MethodName) (b' : ByteArray) (rt : Option FieldType), w.1.1 < 300 → xprog[w.1.1]? = some M' → xmeta[w.1.1]? = some (y, b', rt) → xMet base old dA D E l d y b' M'.2.2.2.1 rt w.1.2.1 A v A')
    (kk : xK base old dA D p l e R s m args below meth c Q a0 s0 w.2.1 w.2.2.1 (v.toList ++ w.2.2.2.1) A') : xK base old dA D p l e R s m args below meth c Q a0 s0 pc als st A := by
  obtain ⟨hx, hb, hml, hown, hts, henv, hini, hz⟩ := C
  obtain ⟨kd, mid, na, rk, hT, hkd, hc⟩ := i_inv h
  have hlink := ml_all _ (List.mem_of_getElem? (show xML[lk]? = some _ from hT))
  rcases hc with ⟨_, _, _, -, -, q⟩ | ⟨_, _, _, _, -, -, q⟩ | ⟨_, _, _, _, -, -, q⟩ | ⟨_, _, _, _, _, _, _, _, -, -, -, q⟩ | ⟨_, _, _, _, -, -, -, q⟩ | ⟨_, _, _, _, _, -, -, -, q⟩ | ⟨_, _, _, _, -, -, -, q⟩ | ⟨hk6, as, s1, hpop, hcat, q⟩
  · cases q
  · cases q
  · cases q
  · cases q
  · cases q
  · cases q
  · cases q
  cases q
  dsimp only at hrec hM kk
  obtain ⟨pre, rfl, has, hlen⟩ := xpop_inv _ _ _ _ _ hpop
  rw [List.append_nil] at has
  have hst : ((pre ++ s1).map (xv base old)) = (as.map (xv base old)).reverse ++ s1.map (xv base old) := by
    rw [has, List.map_append, List.map_reverse, List.reverse_reverse]
  have hasl : as.length = na := by rw [has, List.length_reverse, hlen]
  refine xK.size hz ha (fun H locs ls hX hsz hl => ?_)
  rw [hst]
  have hmlL : c.maxLocals = ls.size := by rw [hml, ← hal]; exact hl.1.symm
  have hroom : A.length - a0 + (A'.length - A.length) ≤ R.cells ∧ xsl A - s0 + (xsl A' - xsl A) ≤ R.slots := by omega
  have hW8 : ((s1.map (xv base old)).map fun v => v.category).sum ≤ 8 := by rw [cat_sum]; exact hcat
  have hpreS : ∀ U : State, U.heap = H → s.WarmedH U.vm → xPc base old dA D E as A (as.map (xv base old)).toArray U := fun U hU hW => ⟨rfl, by rw [hU]; exact hsz, by rw [hU]; exact hX.1, hX.2.1, xEnv_warm hU hW hX.2.2 henv⟩
  have hblind : FrameBlind (xPc base old dA D E as A) := fun a U g mk q => ⟨q.1, q.2.1, q.2.2.1, q.2.2.2.1, xEnv_same (U := U) (U' := U.calling g mk a) rfl rfl q.2.2.2.2⟩
  have main : ∀ (k0 : Nat) (nst : Bool), xLk M.1 idx k0 mid na nst → k0 < 3 → (k0 = 0 → ik = 0) → (k0 = 1 → ik = 2) → (k0 = 2 → ik = 1) → W p l e R s m args below meth c H locs (A.length - a0) (xsl A - s0) Q (F0 m pc ls ((as.map (xv base old)).reverse ++ s1.map (xv base old))) := by
    intro k0 nst hL hk0 hi0 hi1 hi2
    obtain ⟨hmid, hL⟩ := hL
    obtain ⟨M', hP⟩ := xprog_some (mid := mid) (by omega)
    obtain ⟨⟨y, b', rt⟩, hY⟩ := xmeta_some (mid := mid) (by omega)
    obtain ⟨hl1, hl2, hl3, hl4⟩ := hL M' y b' rt hP hY
    obtain ⟨g1, g2, g3, g4, g5, g6, g7, g8⟩ := mk_all mid hmid M' y b' rt hP hY
    have hMet := hM M' y b' rt hmid hP hY
    have hrc := hrec M' hP
    have hroom2 : (xrm d A A').frames + 1 ≤ R.frames ∧ 8 + (M'.2.2.2.1 + 11) + (xrm d A A').locals ≤ R.locals := by
      refine ⟨hfr, ?_⟩
      show 8 + (M'.2.2.2.1 + 11) + (64 * d + 100) ≤ R.locals
      omega
    have recv : ∀ a as', as = .ref a :: as' → M'.1 < 10 → (M'.2.2.1 = 0 ∨ M'.2.2.1 = 2) → ∃ cellB : Cell, H[base + a]? = some cellB ∧ cellB.vm.isStatics = false ∧ s.vm.findClass y.cls = some cellB.cls := by
      intro a as' e hlt hst
      rw [e] at hrc
      have hcl : xcls A a = some M'.1 := by
        unfold xrecv at hrc
        rcases hst with q | q <;> rw [q] at hrc <;> simpa using hrc
      obtain ⟨fs, hA⟩ := j_cls hcl
      obtain ⟨C, T, N, ty, hc, hty, hCn, -⟩ := xk_all M'.1 hlt
      have := va_recv henv.1 hX.1 hc (xw_get hA)
      rw [g2, ← hCn]
      exact this
    have hcons : k0 ≠ 1 → ∃ a as', as = .ref a :: as' := by
      intro hne
      unfold xrecv at hrc
      have hn1 : M'.2.2.1 ≠ 1 := by rw [hl2]; exact hne
      split at hrc
      · rename_i q; exact absurd q hn1
      · split at hrc
        · exact ⟨_, _, rfl⟩
        · cases hrc
    match k0, hk0 with
    | 0, _ =>
      obtain ⟨a, as', e⟩ := hcons (by decide)
      rw [hl2] at g7
      obtain ⟨hlt, gi, gs⟩ := g7
      have hrcv := recv a as' e hlt (Or.inl hl2)
      subst e
      have hn : (as'.map (xv base old)).length = na - 1 := by rw [List.length_map, ← hasl]; simp
      have hl3' : (parseMethodDescriptor y.desc).map (fun d => d.parameters.length) = some (na - 1) := hl3
      have hstk : (((Value.ref a :: as').map (xv base old)).reverse ++ s1.map (xv base old)) = (as'.map (xv base old)).reverse ++ .ref (base + a) :: s1.map (xv base old) := by
        simp [xv]
      rw [hstk]
      cases nst with
      | false =>
        refine run_done ha hs hg hX hl (va_runV (Ts := gw) (nL := ls.size) (C := y.cls) (b := base + a) (As := as'.map (xv base old)) ⟨hx, hb, hmlL, hown, hts⟩ hMet ⟨callB_of (na - 1) hts (gw_goodIn g1) rfl rfl rfl (hts _ g5) (hts _ (by simpa using hl1)) ⟨g4.1, g4.2, hl3'⟩ hroom2, hts _ gi, hts _ gs⟩ ⟨hblind, hrcv, hpreS⟩ rfl hn rfl rfl (lv_room hW8) (hdg.1 (hi0 rfl)) hroom) kk
      | true =>
        refine run_done ha hs hg hX hl (va_runVN (Ts := gw) (nL := ls.size) (C := y.cls) (host := "TwinBuckets") (b := base + a) (As := as'.map (xv base old)) ⟨hx, hb, hmlL, hown, hts⟩ hMet ⟨va_cnB (na - 1) hts (gw_goodIn g1) rfl rfl rfl (henv.2.1 _ (by simpa using hl1)) (hts _ g5) ⟨g4.1, g4.2, hl3'⟩ hroom2, hts _ gi, hts _ gs⟩ ⟨hblind, hrcv, hpreS⟩ rfl hn rfl rfl (lv_room hW8) (hdg.1 (hi0 rfl)) hroom) kk
    | 1, _ =>
      rw [hl2] at g7
      have hn : (as.map (xv base old)).length = na := by rw [List.length_map, ← hasl]
      have hl3' : (parseMethodDescriptor y.desc).map (fun d => d.parameters.length) = some na := hl3
      cases nst with
      | false =>
        refine run_done ha hs hg hX hl (va_runS (Ts := gw) (nL := ls.size) (As := as.map (xv base old)) ⟨hx, hb, hmlL, hown, hts⟩ hMet ⟨callB_of na hts (gw_goodIn g1) rfl rfl rfl (hts _ g5) (hts _ (by simpa using hl1)) ⟨g4.1, g4.2, hl3'⟩ hroom2, hts _ g7⟩ ⟨hblind, hpreS⟩ rfl hn rfl rfl (lv_room hW8) (hdg.2.2 (hi1 rfl)) hroom) kk
      | true =>
        refine run_done ha hs hg hX hl (va_runSN (Ts := gw) (nL := ls.size) (host := "TwinBuckets") (As := as.map (xv base old)) ⟨hx, hb, hmlL, hown, hts⟩ hMet ⟨va_cnB na hts (gw_goodIn g1) rfl rfl rfl (henv.2.1 _ (by simpa using hl1)) (hts _ g5) ⟨g4.1, g4.2, hl3'⟩ hroom2, hts _ g7, trivial⟩ ⟨hblind, hpreS⟩ rfl hn rfl rfl (lv_room hW8) (hdg.2.2 (hi1 rfl)) hroom) kk
    | 2, _ =>
      obtain ⟨a, as', e⟩ := hcons (by decide)
      rw [hl2] at g7
      obtain ⟨hlt, -, gi, gn, hrt⟩ := g7
      subst e
      have hn : (as'.map (xv base old)).length = na - 1 := by rw [List.length_map, ← hasl]; simp
      have hl3' : (parseMethodDescriptor y.desc).map (fun d => d.parameters.length) = some (na - 1) := hl3
      have hstk : (((Value.ref a :: as').map (xv base old)).reverse ++ s1.map (xv base old)) = (as'.map (xv base old)).reverse ++ .ref (base + a) :: s1.map (xv base old) := by
        simp [xv]
      rw [hstk]
      subst hrt
      cases nst with
      | false =>
        refine run_done ha hs hg hX hl (va_runI (Ts := gw) (nL := ls.size) (b := base + a) (As := as'.map (xv base old)) ⟨hx, hb, hmlL, hown, hts⟩ hMet ⟨callB_of (na - 1) hts (gw_goodIn g1) rfl rfl rfl (hts _ g5) (hts _ (by simpa using hl1)) ⟨g4.1, g4.2, hl3'⟩ hroom2, gn, hts _ gi⟩ ⟨hblind, hpreS⟩ rfl hn rfl rfl (lv_room hW8) (hdg.2.1 (hi2 rfl)) hroom) kk
      | true =>
        refine run_done ha hs hg hX hl (va_runIN (Ts := gw) (nL := ls.size) (host := "TwinBuckets") (b := base + a) (As := as'.map (xv base old)) ⟨hx, hb, hmlL, hown, hts⟩ hMet ⟨va_cnB (na - 1) hts (gw_goodIn g1) rfl rfl rfl (henv.2.1 _ (by simpa using hl1)) (hts _ g5) ⟨g4.1, g4.2, hl3'⟩ hroom2, gn, hts _ gi⟩ ⟨hblind, hpreS⟩ rfl hn rfl rfl (lv_room hW8) (hdg.2.1 (hi2 rfl)) hroom) kk
  unfold xMLok at hlink
  dsimp only at hlink
  match kd, hk6 with
  | 0, _ => exact main 0 false hlink (by decide) (fun _ => by match ik, hik, hkd with | 0, _, _ => rfl | 1, _, q => exact absurd q (by decide) | 2, _, q => exact absurd q (by decide)) (fun q => absurd q (by decide)) (fun q => absurd q (by decide))
  | 1, _ => exact main 1 false hlink (by decide) (fun q => absurd q (by decide)) (fun _ => by match ik, hik, hkd with | 0, _, q => exact absurd q (by decide) | 1, _, q => exact absurd q (by decide) | 2, _, _ => rfl) (fun q => absurd q (by decide))
  | 2, _ => exact main 2 false hlink (by decide) (fun q => absurd q (by decide)) (fun q => absurd q (by decide)) (fun _ => by match ik, hik, hkd with | 0, _, q => exact absurd q (by decide) | 1, _, _ => rfl | 2, _, q => exact absurd q (by decide))
  | 3, _ => exact main 0 true hlink (by decide) (fun _ => by match ik, hik, hkd with | 0, _, _ => rfl | 1, _, q => exact absurd q (by decide) | 2, _, q => exact absurd q (by decide)) (fun q => absurd q (by decide)) (fun q => absurd q (by decide))
  | 4, _ => exact main 1 true hlink (by decide) (fun q => absurd q (by decide)) (fun _ => by match ik, hik, hkd with | 0, _, q => exact absurd q (by decide) | 1, _, q => exact absurd q (by decide) | 2, _, _ => rfl) (fun q => absurd q (by decide))
  | 5, _ => exact main 2 true hlink (by decide) (fun q => absurd q (by decide)) (fun q => absurd q (by decide)) (fun _ => by match ik, hik, hkd with | 0, _, q => exact absurd q (by decide) | 1, _, _ => rfl | 2, _, q => exact absurd q (by decide))
/-- the end of a method with a contract -/
theorem ret_ok {pc lk : Nat} {ins : Instr} {dead : List Nat} {als st : List Value} {A0 A' : xH} {v : Option Value} {rt : Option FieldType} (C : xCx base old dA D E p s m args meth c M b a0) (hr : xrok b (pc, ins, lk, dead) = true) (hret : meth.sig.returnType = rt) (hlocks : meth.locks = false) (hrk : match M.2.1 with
    | 0 => rt = none
    | 1 => rt = some .int
    | 2 => rt = some .boolean
    | 3 => rt = some .long
    | _ => ∃ r, rt = some r ∧ ((∃ n, r = .object n) ∨ ∃ t, r = .array t)) (h : xeff xtabs E M.1 M.2.1 M.2.2.1 (pc, ins, lk, dead) als st A' = some (.inr (.inr (v, A')))) :
    xK base old dA D p l e R s m args below meth c (MQ below (xQc base old dA D v A') args s (A'.length - a0) (xsl A' - s0) (fun q => base ≤ q)) a0 s0 pc als st A' := by
  obtain ⟨n, hdec, hlen, -, -⟩ := row_dec hr
  obtain ⟨hx, hb, hml, hown, hts, henv, hini, hz⟩ := C
  intro H locs ls hX hl
  have post : ∀ (v : Option Value) (t : State), t.heap = H → s.WarmedH t.vm → xQc base old dA D v A' args s (.returned (v.map (xv base old))) t := fun v t ht hW => ⟨rfl, by rw [ht]; exact hX.1, hX.2.1, hX.2.2.F ht⟩
  unfold xeff at h
  by_cases hi : ins = .ireturn ∨ ins = .lreturn ∨ ins = .areturn ∨ ins = .return_
  · rcases hi with rfl | rfl | rfl | rfl
    · have hd := hlen rfl (by simp [xlen]); subst hd
      unfold xG at h; dsimp only at h
      split at h
      · rename_i x
        split at h
        · rename_i q
          cases h
          rw [q] at hrk
          exact W.iret (v := x) hx hb (hret.trans hrk) (post (some (.int x))) hX.2.2.2.2 hdec hlocks
        · rename_i q
          split at h
          · rename_i h01
            cases h
            rw [q] at hrk
            exact W.zret (ty := .boolean) (v := x) hx hb (hret.trans hrk) (nar01 h01) (post (some (.int x))) hX.2.2.2.2 hdec hlocks
          · cases h
        · cases h
      · cases h
    · have hd := hlen rfl (by simp [xlen]); subst hd
      unfold xG at h; dsimp only at h
      split at h
      · rename_i x
        split at h
        · rename_i q
          cases h
          rw [q] at hrk
          exact W.lret (v := x) hx hb (hret.trans hrk) (post (some (.long x))) hX.2.2.2.2 hdec hlocks
        · cases h
      · cases h
    · have hd := hlen rfl (by simp [xlen]); subst hd
      unfold xG at h; dsimp only at h
      split at h
      · rename_i a
        split at h
        · rename_i q
          cases h
          rw [q] at hrk
          obtain ⟨r, hr1, hr2⟩ := hrk
          exact W.aret (v := .ref (base + a)) hx hb (hret.trans hr1) hr2 (Or.inr ⟨_, rfl⟩) (post (some (.ref a))) hX.2.2.2.2 hdec hlocks
        · cases h
      · split at h
        · rename_i q
          cases h
          rw [q] at hrk
          obtain ⟨r, hr1, hr2⟩ := hrk
          exact W.aret (v := .null) hx hb (hret.trans hr1) hr2 (Or.inl rfl) (post (some .null)) hX.2.2.2.2 hdec hlocks
        · cases h
      · cases h
    · have hd := hlen rfl (by simp [xlen]); subst hd
      unfold xG at h; dsimp only at h
      split at h
      · split at h
        · rename_i q
          cases h
          rw [q] at hrk
          exact W.vret hx hb (hret.trans hrk) (post none) hX.2.2.2.2 hdec hlocks
        · cases h
      · cases h
  · rcases xeff_kind (show xeff xtabs E M.1 M.2.1 M.2.2.1 (pc, ins, lk, dead) als st A' = _ from h) with ⟨q, hq⟩ | ⟨i, hq⟩ | hq
    · cases hq
    · exfalso
      rcases hq with rfl | rfl | rfl
      · exact inv_noret (show xinv xtabs M.1 xgo0 xcl0 0 i lk pc als st A' = _ from h)
      · exact inv_noret (show xinv xtabs M.1 xgo0 xcl0 1 i lk pc als st A' = _ from h)
      · exact inv_noret (show xinv xtabs M.1 xgo0 xcl0 2 i lk pc als st A' = _ from h)
    · exact absurd hq hi
theorem xmask_len : ∀ (is : List Nat) (l : List Value), (xmask is l).length = l.length
  | [], _ => rfl
  | i :: is, l => by
    show (xmask is (xs l i xJ)).length = l.length
    rw [xmask_len is, xs_len]
def xSnd (base : Nat) (old : Nat → Nat) (dA : Nat → ClassId) (D : va_G) (E : Nat × (Nat → Int32)) (n : Nat) : Prop :=
  ∀ (d mid pc : Nat) (als st : List Value) (A : xH) (v : Option Value) (A' : xH), xexec xprog xtabs E n d mid pc als st A = some (v, A') →
  ∀ (p : Program) (l : Launch) (e : Env) (R : Room) (s : State) (m : MethodId) (args : Array Value) (below : List Frame) (meth : Method) (c : Code) (Q : State → Prop) (M : xM) (y : MethodName) (b : ByteArray) (rt : Option FieldType) (a0 s0 : Nat), xprog[mid]? = some M → xmeta[mid]? = some (y, b, rt) → xCx base old dA D E p s m args meth c M b a0 → als.length = M.2.2.2.1 → a0 ≤ A.length → s0 ≤ xsl A → A'.length - a0 ≤ R.cells → xsl A' - s0 ≤ R.slots → d + 4 ≤ R.frames → 64 * d + 100 ≤ R.locals →
  (∀ (pc lk : Nat) (ins : Instr) (dead : List Nat) (als st : List Value), xrok b (pc, ins, lk, dead) = true → xeff xtabs E M.1 M.2.1 M.2.2.1 (pc, ins, lk, dead) als st A' = some (.inr (.inr (v, A'))) → xK base old dA D p l e R s m args below meth c Q a0 s0 pc als st A') → xK base old dA D p l e R s m args below meth c Q a0 s0 pc als st A
/-- a run's contract, by what is known of shorter runs -/
theorem xmet_of {n : Nat} (IH : xSnd base old dA D E n) {d mid : Nat} {as : List Value} {A A' : xH} {v : Option Value} (h : xinto xprog mid as A (fun l => xexec xprog xtabs E n d mid 0 l [] A) = some (v, A')) (hmid : mid < 300) {M : xM} {y : MethodName} {b : ByteArray} {rt : Option FieldType} (hM : xprog[mid]? = some M) (hY : xmeta[mid]? = some (y, b, rt)) : xMet base old dA D E l d y b M.2.2.2.1 rt as A v A' := by
  obtain ⟨g1, g2, g3, g4, g5, g6, g7, g8⟩ := mk_all mid hmid M y b rt hM hY
  unfold xinto at h
  rw [hM] at h
  dsimp only at h
  split at h
  · rename_i hc
    obtain ⟨hrc, hsp⟩ := hc
    have hgr := xexec_grow _ _ _ _ _ _ _ _ _ _ _ h
    refine Met.ofW (cc := b) (maxL := M.2.2.2.1) (ret := rt) g3 rfl ?_
    intro p e s m args below meth c s₁ B hml hv
    obtain ⟨rfl, hsz, hP, htk, henv⟩ := hv
    have hown : s.vm.findClass (xcn M.1) = some m.cls := by rw [← g2]; exact findClass_of_methodNamed B.named
    have hts : ∀ w ∈ gw, w.before _ s = true := fun w hw => atoms_spec B.pre w (List.mem_cons_of_mem _ hw)
    have hin : M.2.2.1 = 2 → meth.name = "<init>" := by
      intro q
      rw [q] at g7
      rw [(name_of_methodNamed B.named B.method).1]
      exact g7.2.2.2.1
    have C : xCx base old dA D E p s m (as.map (xv base old)).toArray meth c M b A.length := ⟨B.exec, B.bytes, hml, hown, hts, henv, hin, hsz⟩
    have hK := IH d mid 0 _ [] A v A' h p l e (xrm d A A') s m _ below meth c (MQ below (xQc base old dA D v A') (as.map (xv base old)).toArray s (A'.length - A.length) (xsl A' - xsl A) (fun q => base ≤ q)) M y b rt A.length (xsl A) hM hY C (xpad_len _ _ hsp) (Nat.le_refl _) (Nat.le_refl _) (Nat.le_refl _) (Nat.le_refl _) (Nat.le_refl _) (Nat.le_refl _) (fun pc lk ins dead als st hr hh => ret_ok C hr B.returns B.notSynchronized g6 hh)
    rw [lg_entry_eq]
    have := hK s.heap [] _ ⟨hP, htk, va_S.rf⟩ (xLoc_entry hsp)
    rw [Nat.sub_self, Nat.sub_self] at this
    exact this
  · cases h
theorem xsound : ∀ n, xSnd base old dA D E n
  | 0 => fun d mid pc als st A v A' h => by cases h
  | n + 1 => by
    have IH := xsound n
    intro d mid pc als st A v A' h p l e R s m args below meth c Q M y b rt a0 s0 hM hY C hal ha hs h1 h2 hfr hlo hend
    have hmid : mid < 301 := by
      have := (List.getElem?_eq_some_iff.mp hM).1
      rw [xprog_len] at this
      exact this
    rw [xexec_s] at h
    obtain ⟨M', r, hM', hr, hpc, hc⟩ := xon_inv h
    cases hM.symm.trans hM'
    have hrow : xrok b r = true := List.all_eq_true.mp (dk_all mid hmid M y b rt hM hY) r hr
    obtain ⟨pc', ins, lk, dead⟩ := r
    have hpc' : pc' = pc := hpc
    subst hpc'
    dsimp only at hc
    have hal' : (xmask dead als).length = M.2.2.2.1 := by rw [xmask_len]; exact hal
    suffices hK : xK base old dA D p l e R s m args below meth c Q a0 s0 pc' (xmask dead als) st A from fun H locs ls hX hl => hK H locs ls hX (xLoc.mask dead als hl)
    rcases hc with ⟨w, g1, g2⟩ | ⟨w, v1, A1, g1, g2, g3⟩ | g1
    · have k1 : A.length ≤ w.2.2.2.length ∧ xsl A ≤ xsl w.2.2.2 ∧ w.2.1.length = (xmask dead als).length := xeff_grow g1
      have k2 := xexec_grow _ _ _ _ _ _ _ _ _ _ _ g2
      dsimp only at k2
      obtain ⟨wp, wl, ws, wA⟩ := w
      dsimp only at k1 k2 g2
      exact xgo C hal' ha hs (by omega) (by omega) (by omega) (by omega) hrow g1 (IH d mid wp wl ws wA v A' g2 p l e R s m args below meth c Q M y b rt a0 s0 hM hY C (k1.2.2.trans hal') (by omega) (by omega) h1 h2 hfr hlo hend)
    · have k1 : w.2.2.2.2 = A ∧ w.2.2.1.length = (xmask dead als).length := xeff_grow g1
      have k3 := xexec_grow _ _ _ _ _ _ _ _ _ _ _ g3
      dsimp only at k3
      cases d with
      | zero => cases g2
      | succ d =>
        rw [k1.1] at g2
        have g2' : xinto xprog w.1.1 w.1.2.1 A (fun l => xexec xprog xtabs E n d w.1.1 0 l [] A) = some (v1, A1) := g2
        have hinto : ∀ M', xprog[w.1.1]? = some M' → xrecv M' w.1.2.1 A = true ∧ (A.length ≤ A1.length ∧ xsl A ≤ xsl A1) := by
          intro M' hM1
          have q := g2'
          unfold xinto at q
          rw [hM1] at q
          dsimp only at q
          split at q
          · rename_i hcc
            have := xexec_grow _ _ _ _ _ _ _ _ _ _ _ q
            exact ⟨hcc.1, this⟩
          · cases q
        have hA1 : A.length ≤ A1.length ∧ xsl A ≤ xsl A1 := by
          cases hq : xprog[w.1.1]? with
          | none => rw [xinto, hq] at g2'; cases g2'
          | some M' => exact (hinto M' hq).2
        have kont : xK base old dA D p l e R s m args below meth c Q a0 s0 w.2.1 w.2.2.1 (v1.toList ++ w.2.2.2.1) A1 := IH (d + 1) mid _ _ _ A1 v A' g3 p l e R s m args below meth c Q M y b rt a0 s0 hM hY C (k1.2.trans hal') (by omega) (by omega) h1 h2 hfr hlo hend
        obtain ⟨nn, hdec, hlen, -, -⟩ := row_dec hrow
        rcases xeff_kind g1 with ⟨q, hq⟩ | ⟨i, hq⟩ | hq
        · cases hq
        · rcases hq with rfl | rfl | rfl
          · have hd := hlen rfl (by simp [xlen]); subst hd
            exact call_ok (ik := 0) (d := d) C hal' ha hs hA1 (by omega) (by omega) (by omega) (by omega) (by decide) ⟨fun _ => hdec, fun q => absurd q (by decide), fun q => absurd q (by decide)⟩ (show xinv xtabs M.1 xgo0 xcl0 0 i lk pc' (xmask dead als) st A = _ from g1) (fun M' hM1 => (hinto M' hM1).1) (fun M' y' b' rt' hlt hM1 hY1 => xmet_of IH g2' hlt hM1 hY1) kont
          · have hd := hlen rfl (by simp [xlen]); subst hd
            exact call_ok (ik := 1) (d := d) C hal' ha hs hA1 (by omega) (by omega) (by omega) (by omega) (by decide) ⟨fun q => absurd q (by decide), fun _ => hdec, fun q => absurd q (by decide)⟩ (show xinv xtabs M.1 xgo0 xcl0 1 i lk pc' (xmask dead als) st A = _ from g1) (fun M' hM1 => (hinto M' hM1).1) (fun M' y' b' rt' hlt hM1 hY1 => xmet_of IH g2' hlt hM1 hY1) kont
          · have hd := hlen rfl (by simp [xlen]); subst hd
            exact call_ok (ik := 2) (d := d) C hal' ha hs hA1 (by omega) (by omega) (by omega) (by omega) (by decide) ⟨fun q => absurd q (by decide), fun q => absurd q (by decide), fun _ => hdec⟩ (show xinv xtabs M.1 xgo0 xcl0 2 i lk pc' (xmask dead als) st A = _ from g1) (fun M' hM1 => (hinto M' hM1).1) (fun M' y' b' rt' hlt hM1 hY1 => xmet_of IH g2' hlt hM1 hY1) kont
        · exfalso
          rcases hq with rfl | rfl | rfl | rfl <;> (unfold xeff at g1; unfold xG at g1; dsimp only at g1; split at g1 <;> first | cases g1 | (split at g1 <;> first | cases g1 | (split at g1 <;> cases g1)))
    · have k1 : A' = A := xeff_grow g1
      subst k1
      exact hend pc' lk ins dead _ st hrow g1
end XMAIN
end
