section
/-! ===== THE ABSTRACT MACHINE: what a frame of this program does, over a list of cells (a reference is a place in the list).
Cells: .inl (kind of array, length, contents), .inr (class, fields). .float k stands for a reference that is older than the law's entry (0: the script; 1 + i: String constant i); .retAddr 0 in a local: nothing is known of it. ===== -/
abbrev xA : Type := (Nat × Nat × ((Nat → Int32) ⊕ (Nat → Int64) ⊕ (Nat → Option Nat))) ⊕ (Nat × List Value)
abbrev xH : Type := List xA
abbrev xO : Type := Option (Option Value × xH)
/-- a row of code: pc, instruction, link, locals that are dead there -/
abbrev xR : Type := Nat × Instr × Nat × List Nat
/-- a method: its class, its return kind (0 void, 1 int, 2 boolean, 3 long, 4 reference), 1 if it is static, locals, rows -/
abbrev xM : Type := Nat × Nat × Nat × Nat × List xR
abbrev xJ : Value := .retAddr 0
def xg : List Value → Nat → Value
  | [], _ => xJ
  | v :: _, 0 => v
  | _ :: l, n + 1 => xg l n
def xs : List Value → Nat → Value → List Value
  | [], _, _ => []
  | _ :: l, 0, v => v :: l
  | a :: l, n + 1, v => a :: xs l n v
def xmask : List Nat → List Value → List Value
  | [], l => l
  | i :: is, l => xmask is (xs l i xJ)
def xfind : List xR → Nat → Option xR
  | [], _ => none
  | r :: l, pc => if r.1 = pc then some r else xfind l pc
def xpop : Nat → List Value → List Value → Option (List Value × List Value)
  | 0, acc, st => some (acc, st)
  | _ + 1, _, [] => none
  | n + 1, acc, v :: st => xpop n (v :: acc) st
def xcat : List Value → Nat
  | [] => 0
  | v :: l => v.category + xcat l
def xspread : List Value → List Value
  | [] => []
  | v :: l => match v with
    | .long x => .long x :: xJ :: xspread l
    | .double _ => xJ :: xJ :: xspread l
    | w => w :: xspread l
def xpad : Nat → List Value → List Value
  | 0, l => l
  | n + 1, [] => xJ :: xpad n []
  | n + 1, v :: l => v :: xpad n l
/-- the heap's reads and writes -/
def gV (A : xH) (a ci k : Nat) : Option Value := match A[a]? with
  | some (.inr (c, fs)) => if c = ci then fs[k]? else none
  | _ => none
def gI (A : xH) (a ci k : Nat) : Option Int32 := match gV A a ci k with
  | some (.int x) => some x
  | _ => none
def gN (A : xH) (a ci k : Nat) : Option Nat := match gV A a ci k with
  | some (.ref b) => some b
  | _ => none
def gO (A : xH) (a ci k : Nat) : Option (Option Nat) := match gV A a ci k with
  | some (.ref b) => some (some b)
  | some .null => some none
  | _ => none
def pF (A : xH) (a ci k : Nat) (v : Value) : Option xH := match A[a]? with
  | some (.inr (c, fs)) => if c = ci ∧ k < fs.length then some (A.set a (.inr (c, fs.set k v))) else none
  | _ => none
def lA (A : xH) (a : Nat) : Option Int32 := match A[a]? with
  | some (.inl (_, n, _)) => some (Int32.ofNat n)
  | _ => none
def aI (t : Nat) (A : xH) (a : Nat) (i : Int32) : Option Int32 := match A[a]? with
  | some (.inl (t', n, .inl f)) => if t' = t then (if i < 0 ∨ n ≤ i.toNatClampNeg then none else some (f i.toNatClampNeg)) else none
  | _ => none
def xnar (t : Nat) (x : Int32) : Int32 := match t with
  | 0 => x
  | 1 => vp_nar .byte x
  | _ => vp_nar .boolean x
def sI (t : Nat) (A : xH) (a : Nat) (i x : Int32) : Option xH := match A[a]? with
  | some (.inl (t', n, .inl f)) => if t' = t then (if i < 0 ∨ n ≤ i.toNatClampNeg then none else some (A.set a (.inl (t', n, .inl (upd f i.toNatClampNeg (xnar t x)))))) else none
  | _ => none
def aL (A : xH) (a : Nat) (i : Int32) : Option Int64 := match A[a]? with
  | some (.inl (t', n, .inr (.inl f))) => if t' = 3 then (if i < 0 ∨ n ≤ i.toNatClampNeg then none else some (f i.toNatClampNeg)) else none
  | _ => none
def sL (A : xH) (a : Nat) (i : Int32) (x : Int64) : Option xH := match A[a]? with
  | some (.inl (t', n, .inr (.inl f))) => if t' = 3 then (if i < 0 ∨ n ≤ i.toNatClampNeg then none else some (A.set a (.inl (t', n, .inr (.inl (vp_updL f i.toNatClampNeg x)))))) else none
  | _ => none
/-- arrays of references: kind 4 of Text (class 7), 5 of Store (class 5), 6 of Image (class 1) -/
def xelem (t : Nat) : Nat := match t with
  | 4 => 7
  | 5 => 5
  | _ => 1
def aR (t : Nat) (A : xH) (a : Nat) (i : Int32) : Option (Option Nat) := match A[a]? with
  | some (.inl (t', n, .inr (.inr f))) => if t' = t then (if i < 0 ∨ n ≤ i.toNatClampNeg then none else some (f i.toNatClampNeg)) else none
  | _ => none
def xcls (A : xH) (b : Nat) : Option Nat := match A[b]? with
  | some (.inr (c, _)) => some c
  | _ => none
def xelok (A : xH) (t : Nat) (o : Option Nat) : Bool := match o with
  | none => true
  | some b => xcls A b == some (xelem t)
def sR (t : Nat) (A : xH) (a : Nat) (i : Int32) (o : Option Nat) : Option xH := match A[a]? with
  | some (.inl (t', n, .inr (.inr f))) => if t' = t ∧ xelok A t o = true then (if i < 0 ∨ n ≤ i.toNatClampNeg then none else some (A.set a (.inl (t', n, .inr (.inr (va_up f i.toNatClampNeg o)))))) else none
  | _ => none
/-- System.arraycopy of two int arrays -/
def xcopy (A : xH) (a : Nat) (sp : Int32) (b : Nat) (dp n : Int32) : Option xH := match A[a]?, A[b]? with
  | some (.inl (t, n0, .inl f)), some (.inl (t', n1, .inl g)) => if t = 0 ∧ t' = 0 ∧ ¬ sp < 0 ∧ ¬ dp < 0 ∧ ¬ n < 0 ∧ sp.toNatClampNeg + n.toNatClampNeg ≤ n0 ∧ dp.toNatClampNeg + n.toNatClampNeg ≤ n1 then some (A.set b (.inl (0, n1, .inl (va_cpy f g sp.toNatClampNeg dp.toNatClampNeg n.toNatClampNeg)))) else none
  | _, _ => none
/-- clone of an int array -/
def xclone (A : xH) (a : Nat) : Option xH := match A[a]? with
  | some (.inl (t, n, .inl f)) => if t = 0 then some (A ++ [.inl (t, n, .inl f)]) else none
  | _ => none
def xstr (S : List (List Int32)) (k : UInt32) : Option (List Int32) := if k = 0 then none else S[k.toNat - 1]?
def xslen (S : List (List Int32)) (k : UInt32) : Option Int32 := (xstr S k).map fun l => Int32.ofNat l.length
def xsat (S : List (List Int32)) (k : UInt32) (i : Int32) : Option Int32 := (xstr S k).bind fun l => if i < 0 ∨ l.length ≤ i.toNatClampNeg then none else some (l.getD i.toNatClampNeg 0)
def xrem (x y : Int32) : Int32 := x - x / y * y
def xlrem (x y : Int64) : Int64 := x - x / y * y
def xushr (x y : Int32) : Int32 := (x.toUInt32 >>> (y.toUInt32 &&& Int32.toUInt32 31)).toInt32
def xmax (x y : Int32) : Int32 := if x < y then y else x
def xmin (x y : Int32) : Int32 := if y < x then y else x
/-- the tables that links are looked up in: fields (own, index, class, place, kind: 0 int, 1 boolean, 2 a reference that must be there, 3 one that may be null), methods (own, index, kind of call, method, arguments, kind of answer), constants, classes (own, index, class or kind of array), texts -/
abbrev xT : Type := List (Nat × Nat × Nat × Nat × Nat) × List (Nat × Nat × Nat × Nat × Nat × Nat) × List (Nat × Nat × Int32) × List (Nat × Nat × Int64) × List (Nat × Nat × Nat × List Value) × List (Nat × Nat × Nat) × List (List Int32)
def xti (pc : Nat) (off : Int) : Nat := ((pc : Int) + off).toNat
def xsw {β : Type} (go : Nat → Option β) (pc dflt : Nat) (x : Int32) : Int → List Int → Option β
  | _, [] => go dflt
  | c, o :: l => if x = Int32.ofInt c then go (xti pc o) else xsw go pc dflt x (c + 1) l
def x01 (x : Int32) : Bool := x == 0 || x == 1
def xtag (A : xH) (a : Nat) : Option Nat := match A[a]? with
  | some (.inl (t, _, _)) => some t
  | _ => none
/-- which instruction may bear which kind of call: 0 virtual, 1 static, 2 <init>, 3, 4, 5 the same of a nest mate, 6 Object.<init>, 7 max, 8 min, 9 arraycopy, 10 length, 11 charAt, 12 clone -/
def xkd (ik kd : Nat) : Bool := match ik with
  | 0 => kd == 0 || kd == 3 || kd == 10 || kd == 11 || kd == 12
  | 1 => kd == 2 || kd == 5 || kd == 6
  | _ => kd == 1 || kd == 4 || kd == 7 || kd == 8 || kd == 9
section XG
variable {β : Type} (T : xT) (E : Nat × (Nat → Int32)) (own rt ini : Nat) (go : Nat → List Value → List Value → xH → Option β) (cl : Nat → List Value → Nat → Nat → List Value → List Value → xH → Option β) (rn : Option Value → xH → Option β)
def xinv (ik idx lk pc : Nat) (ls st : List Value) (A : xH) : Option β := match T.2.1[lk]? with
  | none => none
  | some (o, i, kd, mid, na, rk) => if o = own ∧ i = idx ∧ xkd ik kd = true then (match kd with
    | 6 => match st with
      | .ref _ :: s => if xcat s ≤ 8 then go (pc + 3) ls s A else none
      | _ => none
    | 7 => match st with
      | .int y :: .int x :: s => if xcat s ≤ 8 then go (pc + 3) ls (.int (xmax x y) :: s) A else none
      | _ => none
    | 8 => match st with
      | .int y :: .int x :: s => if xcat s ≤ 8 then go (pc + 3) ls (.int (xmin x y) :: s) A else none
      | _ => none
    | 9 => match st with
      | .int n :: .int dp :: .ref b :: .int sp :: .ref a :: s => if xcat s ≤ 8 then (xcopy A a sp b dp n).bind fun B => go (pc + 3) ls s B else none
      | _ => none
    | 10 => match st with
      | .float k :: s => if xcat s ≤ 8 then (xslen T.2.2.2.2.2.2 k).bind fun x => go (pc + 3) ls (.int x :: s) A else none
      | _ => none
    | 11 => match st with
      | .int i :: .float k :: s => if xcat s ≤ 8 then (xsat T.2.2.2.2.2.2 k i).bind fun x => go (pc + 3) ls (.int x :: s) A else none
      | _ => none
    | 12 => match st with
      | .ref a :: s => if xcat s ≤ 8 then (xclone A a).bind fun B => go (pc + 3) ls (.ref A.length :: s) B else none
      | _ => none
    | _ => match xpop na [] st with
      | none => none
      | some (args, s) => if xcat s ≤ 8 then cl mid args rk (pc + 3) ls s A else none) else none
def xst1 (ls : List Value) (i : Nat) (v : Value) (k : List Value → Option β) : Option β :=
  if i < ls.length then (match i with
    | 0 => k (xs ls 0 v)
    | j + 1 => if (xg ls j).category = 2 then none else k (xs ls (j + 1) v)) else none
def xst2 (ls : List Value) (i : Nat) (v : Value) (k : List Value → Option β) : Option β :=
  if i + 1 < ls.length then (match i with
    | 0 => k (xs (xs ls 0 v) 1 xJ)
    | j + 1 => if (xg ls j).category = 2 then none else k (xs (xs ls (j + 1) v) (j + 2) xJ)) else none
def xldI (v : Value) (k : Value → Option β) : Option β := match v with
  | .int x => k (.int x)
  | _ => none
def xldL (v : Value) (k : Value → Option β) : Option β := match v with
  | .long x => k (.long x)
  | _ => none
def xldA (v : Value) (k : Value → Option β) : Option β := match v with
  | .ref x => k (.ref x)
  | .null => k .null
  | .float x => k (.float x)
  | _ => none
def xicmp (c : ClassFile.Cond) (x y : Int32) (a b : Option β) : Option β := match c with
  | .eq => if x = y then a else b
  | .ne => if x = y then b else a
  | .lt => if x < y then a else b
  | .ge => if y ≤ x then a else b
  | .gt => if y < x then a else b
  | .le => if x ≤ y then a else b
def xget (lk idx pc : Nat) (ls st : List Value) (A : xH) : Option β := match T.1[lk]? with
  | none => none
  | some (o, i, ci, k, kd) => if o = own ∧ i = idx then (match st with
    | .ref a :: s => (match kd with
      | 0 => (gI A a ci k).bind fun x => go (pc + 3) ls (.int x :: s) A
      | 1 => (gI A a ci k).bind fun x => go (pc + 3) ls (.int x :: s) A
      | 3 => (gO A a ci k).bind fun q => match q with
        | none => go (pc + 3) ls (.null :: s) A
        | some b => go (pc + 3) ls (.ref b :: s) A
      | _ => (gN A a ci k).bind fun b => go (pc + 3) ls (.ref b :: s) A)
    | _ => none) else none
def xput (lk idx pc : Nat) (ls st : List Value) (A : xH) : Option β := match T.1[lk]? with
  | none => none
  | some (o, i, ci, k, kd) => if o = own ∧ i = idx then (match st with
    | v :: .ref a :: s => (match kd with
      | 0 => match v with
        | .int x => (pF A a ci k (.int x)).bind fun B => go (pc + 3) ls s B
        | _ => none
      | 1 => match v with
        | .int x => if x01 x = true then (pF A a ci k (.int x)).bind fun B => go (pc + 3) ls s B else none
        | _ => none
      | 2 => if ini = 2 ∧ ci = own then (match v with
        | .ref b => (pF A a ci k (.ref b)).bind fun B => go (pc + 3) ls s B
        | _ => none) else none
      | 3 => match v with
        | .ref b => (pF A a ci k (.ref b)).bind fun B => go (pc + 3) ls s B
        | .null => (pF A a ci k .null).bind fun B => go (pc + 3) ls s B
        | _ => none
      | _ => none)
    | _ => none) else none
def xnewa (t : ArrayType) (pc : Nat) (ls st : List Value) (A : xH) : Option β := match st with
  | .int n :: s => if n < 0 ∨ 100000 < n.toNatClampNeg then none else (match t with
    | .int => go (pc + 2) ls (.ref A.length :: s) (A ++ [.inl (0, n.toNatClampNeg, .inl fun _ => 0)])
    | .byte => go (pc + 2) ls (.ref A.length :: s) (A ++ [.inl (1, n.toNatClampNeg, .inl fun _ => 0)])
    | .boolean => go (pc + 2) ls (.ref A.length :: s) (A ++ [.inl (2, n.toNatClampNeg, .inl fun _ => 0)])
    | .long => go (pc + 2) ls (.ref A.length :: s) (A ++ [.inl (3, n.toNatClampNeg, .inr (.inl fun _ => 0))])
    | _ => none)
  | _ => none
def xbin (pc : Nat) (ls st : List Value) (A : xH) (f : Int32 → Int32 → Int32) : Option β := match st with
  | .int y :: .int x :: s => go (pc + 1) ls (.int (f x y) :: s) A
  | _ => none
def xlbin (pc : Nat) (ls st : List Value) (A : xH) (f : Int64 → Int64 → Int64) : Option β := match st with
  | .long y :: .long x :: s => go (pc + 1) ls (.long (f x y) :: s) A
  | _ => none
def xbinz (pc : Nat) (ls st : List Value) (A : xH) (f : Int32 → Int32 → Int32) : Option β := match st with
  | .int y :: .int x :: s => if y = 0 then none else go (pc + 1) ls (.int (f x y) :: s) A
  | _ => none
def xlbinz (pc : Nat) (ls st : List Value) (A : xH) (f : Int64 → Int64 → Int64) : Option β := match st with
  | .long y :: .long x :: s => if y = 0 then none else go (pc + 1) ls (.long (f x y) :: s) A
  | _ => none
def xiald (t pc : Nat) (ls st : List Value) (A : xH) : Option β := match st with
  | .int i :: .ref a :: s => (aI t A a i).bind fun x => go (pc + 1) ls (.int x :: s) A
  | .int i :: .float b :: s => if b = 0 ∧ t = 0 then (if i < 0 ∨ E.1 ≤ i.toNatClampNeg then none else go (pc + 1) ls (.int (E.2 i.toNatClampNeg) :: s) A) else none
  | _ => none
def xiast (t pc : Nat) (ls st : List Value) (A : xH) : Option β := match st with
  | .int x :: .int i :: .ref a :: s => (sI t A a i x).bind fun B => go (pc + 1) ls s B
  | _ => none
def xldc (w lk idx pc : Nat) (ls st : List Value) (A : xH) : Option β := match T.2.2.1[lk]? with
  | some (o, i, v) => if o = own ∧ i = idx then go (pc + w) ls (.int v :: st) A else none
  | none => match T.2.2.2.2.2.1[lk - 1000]? with
    | some (o, i, k) => if o = own ∧ i = idx ∧ w = 2 then go (pc + w) ls (.float (UInt32.ofNat k) :: st) A else none
    | none => none
def xG (r : xR) (ls st : List Value) (A : xH) : Option β := match r with
  | (pc, ins, lk, _) => match ins with
    | .aload_n n => xldA (xg ls n.val) fun v => go (pc + 1) ls (v :: st) A
    | .aload i => xldA (xg ls i) fun v => go (pc + 2) ls (v :: st) A
    | .iload_n n => xldI (xg ls n.val) fun v => go (pc + 1) ls (v :: st) A
    | .iload i => xldI (xg ls i) fun v => go (pc + 2) ls (v :: st) A
    | .lload_n n => xldL (xg ls n.val) fun v => go (pc + 1) ls (v :: st) A
    | .lload i => xldL (xg ls i) fun v => go (pc + 2) ls (v :: st) A
    | .iconst n => go (pc + 1) ls (.int (Int32.ofInt n) :: st) A
    | .bipush n => go (pc + 2) ls (.int (Int8.ofInt n).toInt32 :: st) A
    | .sipush n => go (pc + 3) ls (.int (Int16.ofInt n).toInt32 :: st) A
    | .lconst n => go (pc + 1) ls (.long (Int64.ofNat n.val) :: st) A
    | .aconst_null => go (pc + 1) ls (.null :: st) A
    | .getfield idx => xget T own go lk idx pc ls st A
    | .putfield idx => xput T own ini go lk idx pc ls st A
    | .invokevirtual idx => xinv T own go cl 0 idx lk pc ls st A
    | .invokespecial idx => xinv T own go cl 1 idx lk pc ls st A
    | .invokestatic idx => xinv T own go cl 2 idx lk pc ls st A
    | .ireturn => match st with
      | [.int x] => (match rt with
        | 1 => rn (some (.int x)) A
        | 2 => if x01 x = true then rn (some (.int x)) A else none
        | _ => none)
      | _ => none
    | .lreturn => match st with
      | [.long x] => if rt = 3 then rn (some (.long x)) A else none
      | _ => none
    | .areturn => match st with
      | [.ref a] => if rt = 4 then rn (some (.ref a)) A else none
      | [.null] => if rt = 4 then rn (some .null) A else none
      | _ => none
    | .return_ => match st with
      | [] => if rt = 0 then rn none A else none
      | _ => none
    | .if_icmp c off => match st with
      | .int y :: .int x :: s => xicmp c x y (go (xti pc off) ls s A) (go (pc + 3) ls s A)
      | _ => none
    | .ifCond c off => match st with
      | .int x :: s => xicmp c x 0 (go (xti pc off) ls s A) (go (pc + 3) ls s A)
      | _ => none
    | .ifnonnull off => match st with
      | .ref _ :: s => go (xti pc off) ls s A
      | .null :: s => go (pc + 3) ls s A
      | _ => none
    | .goto off => go (xti pc off) ls st A
    | .tableswitch d lo _ offs => match st with
      | .int x :: s => xsw (fun q => go q ls s A) pc (xti pc d) x lo offs.toList
      | _ => none
    | .istore_n n => match st with
      | .int x :: s => xst1 ls n.val (.int x) fun l => go (pc + 1) l s A
      | _ => none
    | .istore i => match st with
      | .int x :: s => xst1 ls i (.int x) fun l => go (pc + 2) l s A
      | _ => none
    | .lstore_n n => match st with
      | .long x :: s => xst2 ls n.val (.long x) fun l => go (pc + 1) l s A
      | _ => none
    | .lstore i => match st with
      | .long x :: s => xst2 ls i (.long x) fun l => go (pc + 2) l s A
      | _ => none
    | .astore_n n => match st with
      | v :: s => xldA v fun w => xst1 ls n.val w fun l => go (pc + 1) l s A
      | _ => none
    | .astore i => match st with
      | v :: s => xldA v fun w => xst1 ls i w fun l => go (pc + 2) l s A
      | _ => none
    | .iinc i n => match xg ls i with
      | .int x => xst1 ls i (.int (x + Int32.ofInt n)) fun l => go (pc + 3) l st A
      | _ => none
    | .iadd => xbin go pc ls st A (· + ·)
    | .isub => xbin go pc ls st A (· - ·)
    | .imul => xbin go pc ls st A (· * ·)
    | .iand => xbin go pc ls st A (· &&& ·)
    | .ior => xbin go pc ls st A (· ||| ·)
    | .ixor => xbin go pc ls st A (· ^^^ ·)
    | .ishl => xbin go pc ls st A (fun x y => x <<< (y &&& 31))
    | .ishr => xbin go pc ls st A (fun x y => x >>> (y &&& 31))
    | .iushr => xbin go pc ls st A xushr
    | .idiv => xbinz go pc ls st A (· / ·)
    | .irem => xbinz go pc ls st A xrem
    | .ineg => match st with
      | .int x :: s => go (pc + 1) ls (.int (-x) :: s) A
      | _ => none
    | .ladd => xlbin go pc ls st A (· + ·)
    | .lsub => xlbin go pc ls st A (· - ·)
    | .lmul => xlbin go pc ls st A (· * ·)
    | .ldiv => xlbinz go pc ls st A (· / ·)
    | .lrem => xlbinz go pc ls st A xlrem
    | .lcmp => match st with
      | .long y :: .long x :: s => go (pc + 1) ls (.int (lg_cmp x y) :: s) A
      | _ => none
    | .i2l => match st with
      | .int x :: s => go (pc + 1) ls (.long x.toInt64 :: s) A
      | _ => none
    | .l2i => match st with
      | .long x :: s => go (pc + 1) ls (.int x.toInt32 :: s) A
      | _ => none
    | .i2b => match st with
      | .int x :: s => go (pc + 1) ls (.int x.toInt8.toInt32 :: s) A
      | _ => none
    | .dup => match st with
      | v :: s => if v.category = 1 then go (pc + 1) ls (v :: v :: s) A else none
      | _ => none
    | .pop => match st with
      | v :: s => if v.category = 1 then go (pc + 1) ls s A else none
      | _ => none
    | .dup2 => match st with
      | v :: w :: s => if v.category = 1 ∧ w.category = 1 then go (pc + 1) ls (v :: w :: v :: w :: s) A else none
      | _ => none
    | .iaload => xiald E go 0 pc ls st A
    | .baload => xiald E go lk pc ls st A
    | .iastore => xiast go 0 pc ls st A
    | .bastore => xiast go lk pc ls st A
    | .laload => match st with
      | .int i :: .ref a :: s => (aL A a i).bind fun x => go (pc + 1) ls (.long x :: s) A
      | _ => none
    | .lastore => match st with
      | .long x :: .int i :: .ref a :: s => (sL A a i x).bind fun B => go (pc + 1) ls s B
      | _ => none
    | .aaload => match st with
      | .int i :: .ref a :: s => (aR lk A a i).bind fun q => match q with
        | none => go (pc + 1) ls (.null :: s) A
        | some b => go (pc + 1) ls (.ref b :: s) A
      | _ => none
    | .aastore => match st with
      | .ref b :: .int i :: .ref a :: s => (sR lk A a i (some b)).bind fun B => go (pc + 1) ls s B
      | .null :: .int i :: .ref a :: s => (sR lk A a i none).bind fun B => go (pc + 1) ls s B
      | _ => none
    | .arraylength => match st with
      | .ref a :: s => (lA A a).bind fun x => go (pc + 1) ls (.int x :: s) A
      | .float b :: s => if b = 0 then go (pc + 1) ls (.int (Int32.ofNat E.1) :: s) A else none
      | _ => none
    | .newarray t => xnewa go t pc ls st A
    | .anewarray idx => match T.2.2.2.2.1[lk]?, st with
      | some (o, i, t, _), .int n :: s => if o = own ∧ i = idx ∧ 4 ≤ t ∧ t ≤ 6 then (if n < 0 ∨ 100000 < n.toNatClampNeg then none else go (pc + 3) ls (.ref A.length :: s) (A ++ [.inl (t, n.toNatClampNeg, .inr (.inr fun _ => none))])) else none
      | _, _ => none
    | .new idx => match T.2.2.2.2.1[lk]? with
      | some (o, i, ci, fs) => if o = own ∧ i = idx then go (pc + 3) ls (.ref A.length :: st) (A ++ [.inr (ci - 100, fs)]) else none
      | none => none
    | .checkcast idx => match T.2.2.2.2.1[lk]?, st with
      | some (o, i, t, _), .ref a :: s => if o = own ∧ i = idx ∧ t = 0 then (xtag A a).bind fun q => (if q = 0 then go (pc + 3) ls (.ref a :: s) A else none) else none
      | _, _ => none
    | .ldc idx => xldc T own go 2 lk idx pc ls st A
    | .ldc_w idx => xldc T own go 3 lk idx pc ls st A
    | .ldc2_w idx => match T.2.2.2.1[lk]? with
      | some (o, i, v) => if o = own ∧ i = idx then go (pc + 3) ls (.long v :: st) A else none
      | none => none
    | _ => none
end XG
/-- what one instruction does, as data: it goes on, it calls, it returns -/
abbrev xN : Type := (Nat × List Value × List Value × xH) ⊕ (((Nat × List Value × Nat) × (Nat × List Value × List Value × xH)) ⊕ (Option Value × xH))
def xeff (T : xT) (E : Nat × (Nat → Int32)) (own rt ini : Nat) (r : xR) (ls st : List Value) (A : xH) : Option xN :=
  xG T E own rt ini (fun pc ls st A => some (.inl (pc, ls, st, A))) (fun mid args rk pc ls st A => some (.inr (.inl ((mid, args, rk), (pc, ls, st, A))))) (fun v A => some (.inr (.inr (v, A)))) r ls st A
/-- answers by their kinds -/
def xV (o : xO) : Option xH := o.bind fun q => match q.1 with
  | none => some q.2
  | _ => none
def xI (o : xO) : Option (Int32 × xH) := o.bind fun q => match q.1 with
  | some (.int x) => some (x, q.2)
  | _ => none
def xLo (o : xO) : Option (Int64 × xH) := o.bind fun q => match q.1 with
  | some (.long x) => some (x, q.2)
  | _ => none
def xNn (o : xO) : Option (Nat × xH) := o.bind fun q => match q.1 with
  | some (.ref x) => some (x, q.2)
  | _ => none
def xOp (o : xO) : Option (Option Nat × xH) := o.bind fun q => match q.1 with
  | some (.ref x) => some (some x, q.2)
  | some .null => some (none, q.2)
  | _ => none
def xcl (call : Nat → List Value → xH → xO) (K : Nat → List Value → List Value → xH → xO) (mid : Nat) (args : List Value) (rk pc : Nat) (ls s : List Value) (A : xH) : xO := match rk with
  | 0 => (xV (call mid args A)).bind fun B => K pc ls s B
  | 1 => (xI (call mid args A)).bind fun q => K pc ls (.int q.1 :: s) q.2
  | 3 => (xLo (call mid args A)).bind fun q => K pc ls (.long q.1 :: s) q.2
  | 4 => (xNn (call mid args A)).bind fun q => K pc ls (.ref q.1 :: s) q.2
  | _ => (xOp (call mid args A)).bind fun q => match q.1 with
    | none => K pc ls (.null :: s) q.2
    | some b => K pc ls (.ref b :: s) q.2
/-- one instruction, by what calls answer and what goes on -/
def xstep (T : xT) (E : Nat × (Nat → Int32)) (call : Nat → List Value → xH → xO) (M : xM) (K : Nat → List Value → List Value → xH → xO) (pc : Nat) (ls st : List Value) (A : xH) : xO := match xfind M.2.2.2.2 pc with
  | none => none
  | some r => xG T E M.1 M.2.1 M.2.2.1 K (xcl call K) (fun v A => some (v, A)) r (xmask r.2.2.2 ls) st A
/-- some steps, until one of the stops -/
def xbex (T : xT) (E : Nat × (Nat → Int32)) (call : Nat → List Value → xH → xO) (M : xM) (K : Nat → List Value → List Value → xH → xO) (stops : List Nat) : Nat → Nat → List Value → List Value → xH → xO
  | 0 => K
  | n + 1 => fun pc ls st A => xstep T E call M (fun pc ls st A => if stops.elem pc = true then K pc ls st A else xbex T E call M K stops n pc ls st A) pc ls st A
/-- a call's start: the receiver's class, the locals -/
def xrecv (M : xM) (args : List Value) (A : xH) : Bool := match M.2.2.1 with
  | 1 => true
  | _ => match args with
    | .ref a :: _ => xcls A a == some M.1
    | _ => false
def xinto (P : List xM) (mid : Nat) (args : List Value) (A : xH) (k : List Value → xO) : xO := match P[mid]? with
  | none => none
  | some M => if xrecv M args A = true ∧ (xspread args).length ≤ M.2.2.2.1 then k (xpad M.2.2.2.1 (xspread args)) else none
def xexec (P : List xM) (T : xT) (E : Nat × (Nat → Int32)) : Nat → Nat → Nat → Nat → List Value → List Value → xH → xO
  | 0 => fun _ _ _ _ _ _ => none
  | n + 1 => fun d m pc ls st A => match P[m]? with
    | none => none
    | some M => xstep T E (fun mid args B => match d with
      | 0 => none
      | e + 1 => xinto P mid args B fun l => xexec P T E n e mid 0 l [] B) M (fun pc ls st A => xexec P T E n d m pc ls st A) pc ls st A
end
section
/-! ===== THE PROGRAM, as the abstract machine reads it (printed by wip/whole/gen.py out of the decoded rows and the words of the tables) ===== -/
def xSTR : List (List Int32) := [[112, 117, 116], [118, 97, 108, 117, 101], [109, 97, 110, 121], [116, 105, 109, 101], [100, 111, 110, 101], [108, 97, 116, 101, 115, 116], [100, 101, 101, 112], [119, 97, 105, 116, 115], [107, 101, 121, 115], [98, 117, 99, 107, 101, 116], [100, 101, 112, 116, 104], [107, 101, 121], [104, 97, 115, 104], [109, 111, 111, 100], [97, 115], [100, 114, 111, 112], [102, 108, 117, 115, 104], [99, 114, 97, 115, 104], [116, 105, 109, 101, 115], [98, 97, 114, 115], [99, 111, 115, 116, 115], [105, 102], [110, 111, 116], [97, 110, 100], [111, 114]]
def xFL : List (Nat × Nat × Nat × Nat × Nat) := [(2, 9, 2, 0, 2), (5, 161, 2, 0, 2), (5, 12, 5, 0, 2), (8, 98, 5, 0, 2), (4, 28, 5, 0, 2), (3, 44, 5, 0, 2), (5, 18, 5, 1, 2), (8, 108, 5, 1, 2), (5, 21, 5, 2, 2), (8, 118, 5, 2, 2), (4, 48, 5, 2, 2), (5, 25, 5, 3, 2), (5, 28, 5, 4, 0), (5, 32, 5, 5, 0), (8, 313, 5, 5, 0), (5, 35, 5, 6, 0), (8, 310, 5, 6, 0), (5, 38, 5, 7, 0), (3, 63, 5, 7, 0), (8, 317, 5, 7, 0), (3, 11, 3, 0, 2), (3, 17, 3, 1, 2), (3, 21, 3, 2, 2), (8, 350, 3, 2, 2), (3, 24, 3, 3, 0), (8, 179, 3, 3, 0), (3, 28, 3, 4, 0), (5, 148, 3, 4, 0), (8, 214, 3, 4, 0), (3, 31, 3, 5, 0), (8, 320, 3, 5, 0), (3, 34, 3, 6, 0), (8, 323, 3, 6, 0), (3, 37, 3, 7, 0), (8, 326, 3, 7, 0), (4, 9, 4, 0, 2), (4, 15, 4, 1, 2), (4, 18, 4, 2, 0), (8, 257, 4, 2, 0), (0, 11, 0, 0, 2), (0, 17, 0, 1, 2), (0, 21, 0, 2, 3), (0, 25, 0, 3, 0), (8, 316, 0, 3, 0), (7, 21, 7, 0, 2), (7, 25, 7, 1, 2), (7, 28, 7, 2, 2), (7, 31, 7, 3, 2), (6, 167, 7, 3, 2), (8, 361, 7, 3, 2), (7, 9, 7, 4, 0), (6, 92, 7, 4, 0), (7, 15, 7, 5, 0), (3, 74, 7, 5, 0), (6, 99, 7, 5, 0), (8, 203, 7, 5, 0), (7, 18, 7, 6, 0), (6, 170, 7, 6, 0), (8, 358, 7, 6, 0), (6, 12, 6, 0, 2), (8, 188, 6, 0, 2), (6, 18, 6, 1, 2), (8, 172, 6, 1, 2), (6, 22, 6, 2, 0), (8, 162, 6, 2, 0), (6, 26, 6, 3, 0), (6, 29, 6, 4, 1), (6, 33, 6, 5, 0), (6, 36, 6, 6, 0), (6, 39, 6, 7, 0), (6, 42, 6, 8, 0), (6, 45, 6, 9, 0), (8, 12, 8, 0, 2), (8, 16, 8, 1, 2), (8, 19, 8, 2, 2), (8, 25, 8, 3, 2), (8, 32, 8, 4, 2), (8, 39, 8, 5, 2), (8, 43, 8, 6, 2), (8, 48, 8, 7, 2), (8, 55, 8, 8, 2), (8, 59, 8, 9, 2), (8, 63, 8, 10, 2), (8, 66, 8, 11, 2), (8, 69, 8, 12, 2), (8, 72, 8, 13, 2), (8, 76, 8, 14, 0), (8, 80, 8, 15, 0), (8, 83, 8, 16, 0), (8, 86, 8, 17, 0), (1, 10, 1, 0, 2), (8, 299, 1, 0, 2), (1, 19, 1, 1, 2), (8, 302, 1, 1, 2), (1, 26, 1, 2, 2), (8, 306, 1, 2, 2), (9, 3, 9, 0, 0), (9, 7, 9, 1, 2), (9, 28, 9, 2, 2), (9, 31, 9, 3, 2), (9, 34, 9, 4, 2), (9, 38, 9, 5, 2), (9, 155, 9, 6, 0), (9, 41, 9, 7, 2), (9, 233, 9, 8, 0), (9, 236, 9, 9, 0), (9, 207, 9, 10, 1), (9, 45, 9, 11, 2), (9, 48, 9, 12, 2), (9, 152, 9, 13, 0), (9, 51, 9, 14, 0), (9, 54, 9, 15, 2), (9, 57, 9, 16, 2), (9, 60, 9, 17, 2), (9, 161, 9, 18, 0), (9, 181, 9, 19, 0), (9, 190, 9, 20, 0), (9, 174, 9, 21, 0), (9, 264, 9, 22, 0), (9, 261, 9, 23, 0), (9, 274, 9, 24, 1), (9, 294, 9, 25, 1), (9, 63, 9, 26, 2), (9, 300, 9, 27, 0), (9, 303, 9, 28, 0), (9, 66, 9, 29, 2), (9, 69, 9, 30, 2), (9, 72, 9, 31, 2), (9, 11, 9, 32, 0), (9, 75, 9, 33, 2), (9, 78, 9, 34, 2), (9, 81, 9, 35, 2), (9, 85, 9, 36, 0), (9, 444, 9, 37, 0), (9, 456, 9, 38, 0), (9, 450, 9, 39, 0), (9, 453, 9, 40, 1), (9, 459, 9, 41, 1), (9, 88, 9, 42, 2), (9, 91, 9, 43, 2), (9, 487, 9, 44, 1), (9, 477, 9, 45, 0)]
def xML : List (Nat × Nat × Nat × Nat × Nat × Nat) := [(10, 9, 2, 98, 1, 0), (8, 3, 6, 0, 0, 0), (8, 11, 5, 40, 1, 0), (5, 3, 6, 0, 0, 0), (5, 11, 5, 8, 1, 0), (2, 3, 6, 0, 0, 0), (8, 24, 5, 26, 1, 0), (3, 3, 6, 0, 0, 0), (8, 31, 5, 35, 1, 0), (4, 3, 6, 0, 0, 0), (8, 38, 5, 0, 1, 0), (0, 3, 6, 0, 0, 0), (8, 54, 5, 68, 1, 0), (6, 3, 6, 0, 0, 0), (6, 11, 2, 89, 1, 0), (7, 3, 6, 0, 0, 0), (8, 89, 0, 41, 1, 0), (5, 41, 0, 18, 4, 0), (8, 92, 1, 297, 2, 0), (10, 13, 0, 99, 3, 1), (8, 102, 0, 10, 3, 1), (2, 21, 4, 140, 1, 1), (2, 25, 0, 11, 2, 1), (2, 28, 0, 14, 2, 1), (10, 18, 0, 100, 3, 1), (10, 22, 0, 101, 3, 1), (8, 111, 0, 58, 3, 1), (5, 158, 0, 56, 2, 1), (10, 26, 0, 102, 2, 1), (8, 114, 0, 43, 1, 1), (10, 31, 0, 103, 3, 1), (8, 121, 1, 139, 1, 1), (8, 125, 0, 29, 2, 1), (3, 40, 1, 28, 2, 1), (8, 129, 0, 46, 3, 1), (5, 64, 0, 45, 3, 1), (5, 59, 0, 29, 2, 1), (5, 68, 0, 20, 3, 1), (2, 38, 0, 15, 3, 1), (5, 72, 0, 16, 3, 1), (8, 133, 0, 45, 3, 1), (8, 136, 0, 47, 3, 1), (5, 75, 0, 34, 4, 1), (3, 66, 0, 31, 2, 5), (3, 93, 0, 29, 2, 1), (3, 70, 0, 32, 5, 0), (3, 50, 0, 11, 2, 1), (3, 56, 0, 12, 2, 1), (3, 60, 0, 14, 2, 1), (3, 77, 0, 92, 3, 1), (3, 80, 0, 96, 5, 1), (7, 40, 0, 92, 3, 1), (7, 45, 7, 0, 0, 0), (7, 50, 1, 97, 3, 1), (10, 35, 0, 104, 3, 1), (8, 140, 1, 144, 1, 1), (8, 143, 0, 141, 2, 1), (8, 146, 0, 44, 1, 1), (5, 55, 0, 14, 2, 1), (8, 149, 0, 145, 2, 1), (8, 152, 0, 146, 3, 0), (8, 156, 0, 1, 1, 0), (8, 159, 0, 142, 2, 1), (10, 39, 0, 105, 6, 1), (8, 165, 0, 69, 2, 0), (10, 44, 0, 106, 2, 1), (10, 48, 0, 107, 1, 1), (8, 169, 0, 70, 1, 1), (8, 175, 0, 48, 4, 1), (5, 79, 4, 139, 1, 1), (5, 83, 0, 17, 4, 0), (5, 86, 0, 55, 3, 0), (5, 151, 0, 33, 4, 1), (3, 85, 8, 0, 0, 0), (3, 90, 7, 0, 0, 0), (5, 155, 0, 57, 1, 0), (5, 49, 9, 0, 0, 0), (5, 164, 8, 0, 0, 0), (5, 90, 0, 47, 3, 1), (5, 94, 0, 49, 4, 1), (5, 104, 0, 15, 3, 1), (5, 107, 0, 12, 2, 1), (5, 110, 0, 23, 1, 1), (5, 98, 0, 50, 3, 1), (5, 114, 0, 24, 1, 1), (5, 117, 0, 13, 2, 1), (5, 120, 0, 19, 2, 0), (2, 32, 1, 298, 4, 0), (11, 13, 1, 295, 3, 0), (5, 101, 0, 21, 4, 0), (5, 124, 0, 22, 3, 0), (2, 42, 0, 16, 3, 1), (5, 128, 0, 51, 3, 0), (5, 131, 7, 0, 0, 0), (10, 53, 0, 108, 1, 1), (10, 57, 0, 109, 1, 1), (8, 182, 0, 71, 2, 1), (6, 48, 0, 91, 1, 0), (6, 51, 0, 72, 1, 0), (6, 58, 8, 0, 0, 0), (6, 54, 0, 76, 1, 1), (6, 77, 0, 93, 3, 0), (6, 81, 0, 78, 1, 1), (6, 89, 0, 74, 2, 1), (6, 73, 0, 73, 2, 1), (6, 64, 10, 0, 0, 0), (6, 69, 11, 0, 0, 0), (6, 106, 0, 79, 2, 1), (6, 121, 0, 83, 2, 1), (6, 147, 0, 84, 2, 1), (6, 150, 0, 85, 2, 1), (6, 143, 0, 75, 2, 1), (6, 129, 0, 94, 3, 0), (6, 155, 0, 86, 3, 1), (6, 161, 0, 88, 1, 1), (6, 164, 0, 87, 1, 1), (6, 84, 0, 77, 1, 1), (6, 95, 0, 80, 2, 1), (6, 124, 0, 81, 2, 1), (6, 136, 0, 82, 2, 1), (6, 132, 0, 95, 2, 0), (8, 192, 2, 90, 2, 0), (7, 34, 1, 299, 2, 4), (11, 316, 12, 0, 0, 0), (11, 304, 8, 0, 0, 0), (11, 150, 9, 0, 0, 0), (8, 195, 0, 30, 2, 1), (10, 61, 0, 110, 1, 1), (8, 199, 0, 42, 2, 0), (5, 45, 0, 9, 2, 0), (2, 15, 9, 0, 0, 0), (8, 206, 0, 148, 3, 1), (8, 344, 0, 92, 3, 1), (8, 347, 0, 149, 2, 0), (8, 353, 0, 96, 5, 1), (8, 217, 0, 147, 5, 1), (8, 329, 0, 2, 2, 0), (0, 29, 5, 40, 1, 0), (0, 30, 0, 42, 2, 0), (8, 332, 0, 52, 3, 1), (5, 136, 0, 53, 2, 1), (5, 145, 0, 11, 2, 1), (5, 139, 0, 54, 3, 0), (5, 142, 0, 25, 1, 1), (2, 45, 0, 12, 2, 1), (2, 48, 7, 0, 0, 0), (8, 335, 0, 60, 2, 1), (8, 338, 0, 61, 3, 1), (5, 167, 0, 60, 2, 1), (5, 170, 0, 62, 1, 0), (5, 179, 1, 297, 2, 0), (5, 173, 0, 63, 3, 0), (5, 176, 0, 44, 1, 1), (8, 341, 0, 3, 2, 0), (0, 34, 0, 4, 3, 5), (8, 210, 0, 5, 2, 0), (10, 65, 0, 111, 1, 1), (10, 69, 0, 112, 1, 1), (10, 73, 0, 113, 2, 1), (10, 77, 0, 114, 3, 1), (8, 221, 0, 143, 2, 1), (10, 81, 0, 115, 2, 1), (10, 85, 0, 116, 2, 1), (10, 89, 0, 117, 2, 1), (10, 93, 0, 118, 1, 1), (8, 224, 0, 6, 2, 1), (10, 97, 0, 119, 3, 1), (8, 228, 0, 150, 2, 1), (10, 101, 0, 120, 2, 1), (8, 231, 0, 64, 3, 1), (5, 185, 0, 46, 3, 1), (10, 105, 0, 121, 2, 1), (8, 235, 0, 65, 2, 1), (5, 188, 0, 43, 1, 1), (10, 109, 0, 122, 1, 1), (8, 238, 0, 66, 3, 1), (10, 113, 0, 123, 1, 1), (8, 241, 0, 23, 1, 1), (10, 117, 0, 124, 2, 1), (8, 244, 1, 140, 1, 1), (8, 247, 0, 53, 2, 1), (10, 121, 0, 125, 2, 1), (8, 250, 0, 67, 3, 1), (5, 191, 1, 28, 2, 1), (10, 125, 0, 126, 1, 1), (8, 254, 0, 59, 1, 1), (10, 129, 0, 127, 3, 1), (8, 260, 0, 37, 3, 1), (10, 133, 0, 128, 1, 1), (10, 137, 0, 129, 1, 1), (8, 263, 0, 38, 2, 1), (4, 34, 0, 11, 2, 1), (4, 40, 0, 39, 3, 1), (4, 44, 0, 43, 1, 1), (10, 141, 0, 130, 2, 1), (8, 266, 1, 294, 1, 1), (8, 271, 7, 0, 0, 0), (10, 145, 0, 131, 3, 3), (8, 278, 1, 296, 2, 0), (8, 283, 0, 151, 2, 0), (10, 150, 0, 132, 3, 1), (8, 286, 0, 33, 4, 1), (10, 154, 0, 133, 3, 1), (8, 291, 1, 152, 1, 1), (8, 294, 0, 153, 4, 0), (8, 372, 8, 0, 0, 0), (10, 158, 0, 134, 2, 1), (10, 162, 0, 135, 2, 1), (8, 298, 5, 7, 1, 0), (1, 1, 6, 0, 0, 0), (1, 9, 5, 40, 1, 0), (1, 18, 5, 26, 1, 0), (1, 25, 5, 35, 1, 0), (8, 303, 0, 27, 2, 0), (8, 307, 0, 36, 2, 0), (4, 22, 9, 0, 0, 0), (10, 166, 0, 136, 2, 1), (10, 170, 0, 137, 2, 1), (10, 174, 0, 138, 1, 1), (10, 12, 2, 164, 1, 0), (9, 22, 6, 0, 0, 0), (10, 165, 0, 167, 2, 1), (9, 18, 1, 154, 3, 1), (9, 94, 0, 157, 2, 1), (9, 14, 0, 158, 2, 1), (10, 169, 0, 168, 2, 1), (9, 97, 0, 159, 2, 1), (10, 17, 0, 180, 3, 1), (9, 123, 1, 162, 1, 1), (9, 100, 1, 169, 2, 1), (9, 126, 0, 179, 3, 1), (10, 21, 0, 181, 3, 1), (10, 25, 0, 183, 3, 1), (9, 129, 1, 182, 1, 1), (10, 30, 0, 184, 2, 1), (9, 114, 0, 175, 2, 1), (9, 104, 0, 170, 2, 1), (9, 108, 1, 173, 2, 1), (10, 34, 0, 185, 3, 1), (9, 132, 1, 163, 1, 1), (9, 111, 0, 174, 2, 1), (9, 135, 0, 178, 2, 1), (9, 120, 0, 177, 2, 1), (9, 117, 0, 176, 2, 1), (9, 138, 0, 234, 2, 1), (9, 320, 0, 231, 4, 0), (9, 324, 0, 232, 3, 1), (9, 267, 0, 220, 2, 1), (9, 291, 0, 223, 2, 3), (9, 277, 0, 224, 2, 3), (9, 285, 0, 225, 2, 3), (9, 223, 1, 202, 1, 1), (9, 288, 0, 221, 2, 1), (9, 297, 0, 226, 3, 1), (9, 145, 0, 172, 1, 1), (9, 281, 0, 222, 3, 3), (9, 315, 0, 227, 2, 1), (9, 306, 0, 228, 2, 1), (9, 309, 0, 229, 2, 1), (9, 312, 0, 230, 2, 1), (10, 38, 0, 188, 3, 1), (9, 141, 1, 186, 2, 1), (9, 149, 1, 187, 1, 1), (10, 52, 0, 189, 1, 1), (9, 158, 0, 243, 3, 1), (9, 351, 0, 237, 2, 0), (9, 330, 0, 236, 1, 0), (9, 327, 0, 235, 3, 0), (9, 333, 0, 233, 2, 1), (9, 336, 1, 155, 2, 1), (9, 357, 0, 165, 2, 0), (9, 360, 0, 242, 3, 1), (9, 354, 0, 241, 2, 1), (9, 339, 0, 240, 1, 1), (9, 342, 1, 160, 2, 1), (9, 345, 0, 238, 4, 0), (9, 348, 0, 239, 3, 0), (9, 363, 0, 166, 2, 0), (10, 56, 0, 190, 1, 1), (10, 43, 0, 191, 6, 1), (10, 47, 0, 192, 2, 1), (10, 60, 0, 216, 1, 1), (9, 251, 0, 214, 2, 1), (9, 248, 0, 213, 1, 1), (9, 242, 0, 196, 2, 0), (9, 164, 1, 193, 1, 1), (9, 167, 1, 194, 1, 1), (9, 170, 0, 195, 3, 1), (9, 245, 0, 206, 1, 0), (9, 211, 0, 205, 1, 0), (9, 184, 0, 199, 2, 1), (9, 177, 0, 197, 1, 1), (9, 193, 0, 210, 2, 0), (9, 227, 0, 211, 2, 0), (9, 230, 0, 212, 2, 0), (9, 187, 0, 198, 1, 0), (9, 197, 0, 200, 2, 0), (9, 239, 0, 201, 1, 0), (9, 203, 0, 203, 3, 0), (9, 200, 0, 207, 2, 0), (9, 217, 0, 208, 2, 0), (9, 220, 0, 209, 2, 0), (9, 214, 0, 204, 1, 0), (9, 255, 0, 215, 2, 0), (10, 68, 0, 217, 1, 1), (10, 76, 0, 219, 2, 1), (9, 258, 0, 218, 2, 1), (10, 96, 0, 253, 1, 1), (10, 80, 0, 260, 3, 1), (9, 399, 0, 256, 3, 1), (9, 390, 0, 255, 3, 1), (9, 387, 0, 252, 2, 0), (9, 402, 0, 254, 2, 1), (10, 84, 0, 261, 2, 1), (9, 405, 0, 257, 2, 1), (9, 393, 0, 248, 2, 1), (9, 372, 0, 245, 2, 1), (9, 366, 0, 244, 2, 1), (9, 375, 0, 246, 2, 1), (9, 378, 0, 247, 1, 1), (9, 369, 1, 156, 2, 1), (10, 88, 0, 262, 2, 1), (9, 408, 0, 258, 2, 1), (10, 92, 0, 263, 2, 1), (9, 411, 0, 259, 2, 1), (9, 396, 0, 251, 2, 0), (9, 381, 0, 249, 2, 1), (9, 384, 0, 250, 3, 0), (10, 100, 0, 264, 3, 1), (10, 104, 0, 265, 2, 1), (10, 108, 0, 266, 2, 1), (9, 414, 0, 184, 2, 1), (10, 112, 0, 268, 1, 1), (9, 417, 0, 267, 2, 1), (10, 116, 0, 269, 1, 1), (9, 420, 0, 171, 1, 1), (10, 120, 0, 270, 2, 1), (10, 124, 0, 273, 2, 1), (9, 426, 0, 272, 2, 1), (9, 423, 0, 271, 1, 0), (10, 128, 0, 274, 1, 1), (10, 132, 0, 275, 3, 1), (10, 136, 0, 276, 1, 1), (10, 140, 0, 278, 1, 1), (9, 429, 0, 277, 2, 1), (10, 144, 0, 279, 2, 1), (9, 432, 0, 278, 1, 1), (9, 435, 1, 161, 1, 1), (10, 149, 0, 280, 3, 3), (10, 153, 0, 281, 3, 1), (10, 72, 0, 282, 1, 1), (10, 64, 0, 283, 1, 1), (9, 447, 0, 287, 2, 1), (9, 468, 0, 284, 3, 0), (9, 472, 0, 286, 1, 1), (9, 464, 1, 285, 1, 1), (10, 157, 0, 290, 3, 1), (9, 490, 0, 289, 1, 0), (9, 484, 0, 288, 2, 1), (10, 161, 0, 291, 2, 1), (10, 173, 0, 292, 2, 1), (10, 177, 0, 293, 1, 1)]
def xCI : List (Nat × Nat × Int32) := [(7, 44, -2000000000), (3, 84, -2000000000), (8, 357, -2000000000), (12, 265, 1431655765), (12, 266, 858993459), (12, 267, 252645135), (8, 290, 1000000), (9, 173, 1000000)]
def xCL : List (Nat × Nat × Int64) := [(7, 54, -2000000000), (7, 56, -1000000000), (7, 58, 1000000000), (8, 276, -1), (8, 281, 1000000000000), (8, 364, 10), (8, 366, 1103), (8, 368, 12345), (8, 370, 1000003), (9, 270, 1000000000), (9, 272, -1000000000), (9, 318, 99), (9, 438, -1), (9, 440, 1000000000000), (9, 442, 10), (9, 462, 1000000), (9, 475, 1103), (9, 480, 12345), (9, 482, 1000003)]
def xKL : List (Nat × Nat × Nat × List Value) := [(10, 7, 108, [.null, .null, .null, .null, .null, .null, .null, .null, .null, .null, .null, .null, .null, .null, .int 0, .int 0, .int 0, .int 0]), (8, 9, 105, [.null, .null, .null, .null, .int 0, .int 0, .int 0, .int 0]), (8, 9, 5, []), (5, 9, 102, [.null]), (8, 22, 103, [.null, .null, .null, .int 0, .int 0, .int 0, .int 0, .int 0]), (3, 9, 107, [.null, .null, .null, .null, .int 0, .int 0, .int 0]), (3, 9, 4, []), (8, 29, 104, [.null, .null, .int 0]), (8, 36, 100, [.null, .null, .null, .int 0]), (0, 9, 105, [.null, .null, .null, .null, .int 0, .int 0, .int 0, .int 0]), (0, 9, 5, []), (8, 46, 101, [.null, .null, .null]), (8, 46, 6, []), (8, 52, 106, [.null, .null, .int 0, .int 0, .int 0, .int 0, .int 0, .int 0, .int 0, .int 0]), (6, 9, 107, [.null, .null, .null, .null, .int 0, .int 0, .int 0]), (6, 9, 4, []), (8, 186, 107, [.null, .null, .null, .null, .int 0, .int 0, .int 0]), (8, 186, 4, []), (11, 317, 0, []), (1, 7, 105, [.null, .null, .null, .null, .int 0, .int 0, .int 0, .int 0]), (1, 7, 5, []), (1, 16, 103, [.null, .null, .null, .int 0, .int 0, .int 0, .int 0, .int 0]), (1, 23, 104, [.null, .null, .int 0]), (10, 10, 109, [.int 0, .null, .null, .null, .null, .null, .int 0, .null, .int 0, .int 0, .int 0, .null, .null, .int 0, .int 0, .null, .null, .null, .int 0, .int 0, .int 0, .int 0, .int 0, .int 0, .int 0, .int 0, .null, .int 0, .int 0, .null, .null, .null, .int 0, .null, .null, .null, .int 0, .int 0, .int 0, .int 0, .int 0, .int 0, .null, .null, .int 0, .int 0])]
def xSL : List (Nat × Nat × Nat) := [(6, 109, 1), (6, 153, 2), (6, 159, 3), (6, 181, 4), (6, 185, 5), (6, 187, 6), (6, 189, 7), (6, 191, 8), (6, 193, 9), (6, 173, 10), (6, 175, 11), (6, 177, 12), (6, 179, 13), (6, 183, 14), (6, 111, 15), (6, 113, 16), (6, 115, 17), (6, 117, 18), (6, 119, 19), (6, 102, 20), (6, 104, 21), (6, 87, 22), (6, 141, 23), (6, 139, 24), (6, 127, 25)]
def xtabs : xT := (xFL, xML, xCI, xCL, xKL, xSL, xSTR)
def c_0 : List xR := [(0, .aload_n 0, 0, []), (1, .invokespecial 3, 11, []), (4, .aload_n 0, 0, []), (5, .bipush 16, 0, []), (7, .anewarray 9, 10, []), (10, .putfield 11, 39, []), (13, .aload_n 0, 0, []), (14, .bipush 16, 0, []), (16, .newarray .int, 0, []), (18, .putfield 17, 40, []), (21, .aload_n 0, 0, []), (22, .aconst_null, 0, []), (23, .putfield 21, 41, []), (26, .aload_n 0, 0, []), (27, .iconst 0, 0, []), (28, .putfield 25, 42, []), (31, .return_, 0, [])]
def M_0 : xM := (0, 0, 2, 1, c_0)
def c_1 : List xR := [(0, .aload_n 0, 0, []), (1, .iconst 0, 0, []), (2, .putfield 25, 42, []), (5, .return_, 0, [])]
def M_1 : xM := (0, 0, 0, 1, c_1)
def c_2 : List xR := [(0, .aload_n 0, 0, []), (1, .getfield 21, 41, []), (4, .ifnonnull 14, 0, []), (7, .aload_n 0, 0, []), (8, .new 9, 9, []), (11, .dup, 0, []), (12, .invokespecial 29, 137, []), (15, .putfield 21, 41, []), (18, .aload_n 0, 0, []), (19, .getfield 21, 41, []), (22, .aload_n 1, 0, []), (23, .invokevirtual 30, 138, []), (26, .return_, 0, [])]
def M_2 : xM := (0, 0, 0, 2, c_2)
def c_3 : List xR := [(0, .aload_n 0, 0, []), (1, .aload_n 0, 0, []), (2, .aload_n 0, 0, []), (3, .getfield 21, 41, []), (6, .iload_n 1, 0, []), (7, .invokevirtual 34, 154, []), (10, .putfield 21, 41, []), (13, .return_, 0, [])]
def M_3 : xM := (0, 0, 0, 2, c_3)
def c_4 : List xR := [(0, .aload_n 0, 0, []), (1, .getfield 11, 39, []), (4, .aload_n 0, 0, []), (5, .getfield 25, 42, []), (8, .bipush 16, 0, []), (10, .if_icmp .ne 7, 0, []), (13, .iconst 0, 0, []), (14, .goto 7, 0, []), (17, .aload_n 0, 0, []), (18, .getfield 25, 42, []), (21, .aaload, 5, []), (22, .astore_n 3, 0, []), (23, .aload_n 0, 0, []), (24, .getfield 25, 42, []), (27, .bipush 16, 0, []), (29, .if_icmp .ne 61, 0, []), (32, .iconst 1, 0, []), (33, .istore 4, 0, []), (35, .iload 4, 0, []), (37, .bipush 16, 0, []), (39, .if_icmp .ge 41, 0, []), (42, .aload_n 0, 0, []), (43, .getfield 11, 39, []), (46, .iload 4, 0, []), (48, .iconst 1, 0, []), (49, .isub, 0, []), (50, .aload_n 0, 0, []), (51, .getfield 11, 39, []), (54, .iload 4, 0, []), (56, .aaload, 5, []), (57, .aastore, 5, []), (58, .aload_n 0, 0, []), (59, .getfield 17, 40, []), (62, .iload 4, 0, []), (64, .iconst 1, 0, []), (65, .isub, 0, []), (66, .aload_n 0, 0, []), (67, .getfield 17, 40, []), (70, .iload 4, 0, []), (72, .iaload, 0, []), (73, .iastore, 0, []), (74, .iinc 4 1, 0, []), (77, .goto (-42), 0, []), (80, .aload_n 0, 0, []), (81, .dup, 0, []), (82, .getfield 25, 42, []), (85, .iconst 1, 0, []), (86, .isub, 0, []), (87, .putfield 25, 42, []), (90, .aload_n 0, 0, [4]), (91, .getfield 11, 39, []), (94, .aload_n 0, 0, []), (95, .getfield 25, 42, []), (98, .aload_n 1, 0, []), (99, .aastore, 5, []), (100, .aload_n 0, 0, []), (101, .getfield 17, 40, []), (104, .aload_n 0, 0, []), (105, .getfield 25, 42, []), (108, .iload_n 2, 0, []), (109, .iastore, 0, []), (110, .aload_n 0, 0, []), (111, .dup, 0, []), (112, .getfield 25, 42, []), (115, .iconst 1, 0, []), (116, .iadd, 0, []), (117, .putfield 25, 42, []), (120, .aload_n 3, 0, []), (121, .areturn, 0, [])]
def M_4 : xM := (0, 4, 0, 5, c_4)
def c_5 : List xR := [(0, .iconst 0, 0, []), (1, .istore_n 2, 0, []), (2, .iload_n 2, 0, []), (3, .aload_n 1, 0, []), (4, .getfield 25, 42, []), (7, .if_icmp .ge 31, 0, []), (10, .aload_n 1, 0, []), (11, .getfield 11, 39, []), (14, .iload_n 2, 0, []), (15, .aload_n 0, 0, []), (16, .aload_n 1, 0, []), (17, .getfield 11, 39, []), (20, .iload_n 2, 0, []), (21, .aaload, 5, []), (22, .aload_n 1, 0, []), (23, .getfield 17, 40, []), (26, .iload_n 2, 0, []), (27, .iaload, 0, []), (28, .invokevirtual 34, 154, []), (31, .aastore, 5, []), (32, .iinc 2 1, 0, []), (35, .goto (-33), 0, []), (38, .aload_n 1, 0, []), (39, .iconst 0, 0, []), (40, .putfield 25, 42, []), (43, .return_, 0, [])]
def M_5 : xM := (0, 0, 0, 3, c_5)
def c_6 : List xR := [(0, .aload_n 0, 0, []), (1, .getfield 25, 42, []), (4, .ifCond .eq 17, 0, []), (7, .aload_n 0, 0, []), (8, .getfield 11, 39, []), (11, .aload_n 0, 0, []), (12, .getfield 25, 42, []), (15, .iconst 1, 0, []), (16, .isub, 0, []), (17, .aaload, 5, []), (18, .ifnonnull 5, 0, []), (21, .iconst (-1), 0, []), (22, .ireturn, 0, []), (23, .aload_n 0, 0, []), (24, .dup, 0, []), (25, .getfield 25, 42, []), (28, .iconst 1, 0, []), (29, .isub, 0, []), (30, .putfield 25, 42, []), (33, .aload_n 1, 0, []), (34, .aload_n 0, 0, []), (35, .getfield 11, 39, []), (38, .aload_n 0, 0, []), (39, .getfield 25, 42, []), (42, .aaload, 5, []), (43, .invokevirtual 30, 138, []), (46, .aload_n 0, 0, []), (47, .getfield 17, 40, []), (50, .aload_n 0, 0, []), (51, .getfield 25, 42, []), (54, .iaload, 0, []), (55, .ireturn, 0, [])]
def M_6 : xM := (0, 1, 0, 2, c_6)
def c_7 : List xR := [(0, .aload_n 0, 0, []), (1, .invokespecial 1, 209, []), (4, .aload_n 0, 0, []), (5, .new 7, 19, []), (8, .dup, 0, []), (9, .invokespecial 9, 210, []), (12, .putfield 10, 90, []), (15, .aload_n 0, 0, []), (16, .new 16, 21, []), (19, .dup, 0, []), (20, .invokespecial 18, 211, []), (23, .putfield 19, 92, []), (26, .aload_n 0, 0, []), (27, .new 23, 22, []), (30, .dup, 0, [0]), (31, .invokespecial 25, 212, []), (34, .putfield 26, 94, []), (37, .return_, 0, [])]
def M_7 : xM := (1, 0, 2, 1, c_7)
def c_8 : List xR := [(0, .aload_n 0, 0, []), (1, .invokespecial 3, 5, []), (4, .aload_n 0, 0, []), (5, .sipush 240, 0, []), (8, .newarray .int, 0, []), (10, .putfield 9, 0, []), (13, .return_, 0, [])]
def M_8 : xM := (2, 0, 2, 1, c_8)
def c_9 : List xR := [(0, .aload_n 1, 0, []), (1, .getfield 9, 0, []), (4, .iconst 0, 0, []), (5, .aload_n 0, 0, []), (6, .getfield 9, 0, []), (9, .iconst 0, 0, []), (10, .aload_n 0, 0, []), (11, .getfield 9, 0, []), (14, .arraylength, 0, []), (15, .invokestatic 15, 130, []), (18, .return_, 0, [])]
def M_9 : xM := (2, 0, 0, 2, c_9)
def c_10 : List xR := [(0, .iload_n 1, 0, []), (1, .invokestatic 21, 21, []), (4, .ifCond .eq 13, 0, []), (7, .iload_n 2, 0, []), (8, .ifCond .lt 9, 0, []), (11, .iload_n 2, 0, []), (12, .bipush 10, 0, []), (14, .if_icmp .lt 5, 0, []), (17, .iconst (-1), 0, []), (18, .ireturn, 0, []), (19, .iload_n 2, 0, []), (20, .ifCond .ne 15, 0, []), (23, .aload_n 0, 0, []), (24, .getfield 9, 0, []), (27, .iload_n 1, 0, []), (28, .bipush 10, 0, []), (30, .imul, 0, []), (31, .iconst 0, 0, []), (32, .iadd, 0, []), (33, .iaload, 0, []), (34, .ireturn, 0, []), (35, .aload_n 0, 0, []), (36, .iload_n 1, 0, []), (37, .invokevirtual 25, 22, []), (40, .ifCond .eq 21, 0, []), (43, .iload_n 2, 0, []), (44, .iconst 4, 0, []), (45, .if_icmp .lt 18, 0, []), (48, .iload_n 2, 0, []), (49, .iconst 4, 0, []), (50, .isub, 0, []), (51, .iconst 3, 0, []), (52, .irem, 0, []), (53, .aload_n 0, 0, []), (54, .iload_n 1, 0, []), (55, .invokevirtual 28, 23, []), (58, .if_icmp .lt 5, 0, []), (61, .iconst (-1), 0, []), (62, .ireturn, 0, []), (63, .aload_n 0, 0, []), (64, .getfield 9, 0, []), (67, .iload_n 1, 0, []), (68, .bipush 10, 0, []), (70, .imul, 0, []), (71, .iload_n 2, 0, []), (72, .iadd, 0, []), (73, .iaload, 0, []), (74, .ireturn, 0, [])]
def M_10 : xM := (2, 1, 0, 3, c_10)
def c_11 : List xR := [(0, .aload_n 0, 0, []), (1, .getfield 9, 0, []), (4, .iload_n 1, 0, []), (5, .bipush 10, 0, []), (7, .imul, 0, []), (8, .iconst 0, 0, []), (9, .iadd, 0, []), (10, .iaload, 0, []), (11, .ifCond .eq 7, 0, []), (14, .iconst 1, 0, []), (15, .goto 4, 0, []), (18, .iconst 0, 0, []), (19, .ireturn, 0, [])]
def M_11 : xM := (2, 2, 0, 2, c_11)
def c_12 : List xR := [(0, .aload_n 0, 0, []), (1, .getfield 9, 0, []), (4, .iload_n 1, 0, []), (5, .bipush 10, 0, []), (7, .imul, 0, []), (8, .iconst 1, 0, []), (9, .iadd, 0, []), (10, .iaload, 0, []), (11, .ireturn, 0, [])]
def M_12 : xM := (2, 1, 0, 2, c_12)
def c_13 : List xR := [(0, .aload_n 0, 0, []), (1, .getfield 9, 0, []), (4, .iload_n 1, 0, []), (5, .bipush 10, 0, []), (7, .imul, 0, []), (8, .iconst 2, 0, []), (9, .iadd, 0, []), (10, .iaload, 0, []), (11, .ireturn, 0, [])]
def M_13 : xM := (2, 1, 0, 2, c_13)
def c_14 : List xR := [(0, .aload_n 0, 0, []), (1, .getfield 9, 0, []), (4, .iload_n 1, 0, []), (5, .bipush 10, 0, []), (7, .imul, 0, []), (8, .iconst 3, 0, []), (9, .iadd, 0, []), (10, .iaload, 0, []), (11, .ireturn, 0, [])]
def M_14 : xM := (2, 1, 0, 2, c_14)
def c_15 : List xR := [(0, .aload_n 0, 0, []), (1, .getfield 9, 0, []), (4, .iload_n 1, 0, []), (5, .bipush 10, 0, []), (7, .imul, 0, []), (8, .iconst 4, 0, []), (9, .iadd, 0, []), (10, .iload_n 2, 0, []), (11, .iadd, 0, []), (12, .iaload, 0, []), (13, .ireturn, 0, [])]
def M_15 : xM := (2, 1, 0, 3, c_15)
def c_16 : List xR := [(0, .aload_n 0, 0, []), (1, .getfield 9, 0, []), (4, .iload_n 1, 0, []), (5, .bipush 10, 0, []), (7, .imul, 0, []), (8, .bipush 7, 0, []), (10, .iadd, 0, []), (11, .iload_n 2, 0, []), (12, .iadd, 0, []), (13, .iaload, 0, []), (14, .ireturn, 0, [])]
def M_16 : xM := (2, 1, 0, 3, c_16)
def c_17 : List xR := [(0, .aload_n 0, 0, []), (1, .getfield 9, 0, []), (4, .iload_n 1, 0, []), (5, .bipush 10, 0, []), (7, .imul, 0, []), (8, .bipush 7, 0, []), (10, .iadd, 0, []), (11, .iload_n 2, 0, []), (12, .iadd, 0, []), (13, .iload_n 3, 0, []), (14, .iastore, 0, []), (15, .return_, 0, [])]
def M_17 : xM := (2, 0, 0, 4, c_17)
def c_18 : List xR := [(0, .aload_n 0, 0, []), (1, .getfield 9, 0, []), (4, .iload_n 1, 0, []), (5, .bipush 10, 0, []), (7, .imul, 0, []), (8, .iconst 0, 0, []), (9, .iadd, 0, []), (10, .iconst 1, 0, []), (11, .iastore, 0, []), (12, .aload_n 0, 0, []), (13, .getfield 9, 0, []), (16, .iload_n 1, 0, []), (17, .bipush 10, 0, []), (19, .imul, 0, []), (20, .iconst 1, 0, []), (21, .iadd, 0, []), (22, .iload_n 2, 0, []), (23, .iastore, 0, []), (24, .aload_n 0, 0, []), (25, .getfield 9, 0, []), (28, .iload_n 1, 0, []), (29, .bipush 10, 0, []), (31, .imul, 0, []), (32, .iconst 2, 0, []), (33, .iadd, 0, []), (34, .iload_n 3, 0, []), (35, .iastore, 0, []), (36, .return_, 0, [])]
def M_18 : xM := (2, 0, 0, 4, c_18)
def c_19 : List xR := [(0, .aload_n 0, 0, []), (1, .getfield 9, 0, []), (4, .iload_n 1, 0, []), (5, .bipush 10, 0, []), (7, .imul, 0, []), (8, .iload_n 1, 0, []), (9, .bipush 10, 0, []), (11, .imul, 0, []), (12, .bipush 10, 0, []), (14, .iadd, 0, []), (15, .iconst 0, 0, []), (16, .invokestatic 32, 87, []), (19, .return_, 0, [])]
def M_19 : xM := (2, 0, 0, 2, c_19)
def c_20 : List xR := [(0, .iconst 0, 0, []), (1, .istore_n 3, 0, []), (2, .iload_n 3, 0, []), (3, .aload_n 0, 0, []), (4, .iload_n 1, 0, []), (5, .invokevirtual 28, 23, []), (8, .if_icmp .ge 21, 0, []), (11, .aload_n 0, 0, []), (12, .iload_n 1, 0, []), (13, .iload_n 3, 0, []), (14, .invokevirtual 38, 38, []), (17, .iload_n 2, 0, []), (18, .if_icmp .ne 5, 0, []), (21, .iload_n 3, 0, []), (22, .ireturn, 0, []), (23, .iinc 3 1, 0, []), (26, .goto (-24), 0, []), (29, .iconst (-1), 0, []), (30, .ireturn, 0, [])]
def M_20 : xM := (2, 1, 0, 4, c_20)
def c_21 : List xR := [(0, .aload_n 0, 0, []), (1, .iload_n 1, 0, []), (2, .invokevirtual 28, 23, []), (5, .istore 4, 0, []), (7, .iload 4, 0, []), (9, .iconst 3, 0, []), (10, .if_icmp .ge 49, 0, []), (13, .aload_n 0, 0, []), (14, .getfield 9, 0, []), (17, .iload_n 1, 0, []), (18, .bipush 10, 0, []), (20, .imul, 0, []), (21, .iconst 4, 0, []), (22, .iadd, 0, []), (23, .iload 4, 0, []), (25, .iadd, 0, []), (26, .iload_n 2, 0, []), (27, .iastore, 0, []), (28, .aload_n 0, 0, []), (29, .getfield 9, 0, []), (32, .iload_n 1, 0, []), (33, .bipush 10, 0, []), (35, .imul, 0, []), (36, .bipush 7, 0, []), (38, .iadd, 0, []), (39, .iload 4, 0, []), (41, .iadd, 0, []), (42, .iload_n 3, 0, []), (43, .iastore, 0, []), (44, .aload_n 0, 0, []), (45, .getfield 9, 0, []), (48, .iload_n 1, 0, []), (49, .bipush 10, 0, []), (51, .imul, 0, []), (52, .iconst 3, 0, []), (53, .iadd, 0, []), (54, .iload 4, 0, []), (56, .iconst 1, 0, []), (57, .iadd, 0, []), (58, .iastore, 0, []), (59, .return_, 0, [])]
def M_21 : xM := (2, 0, 0, 5, c_21)
def c_22 : List xR := [(0, .aload_n 0, 0, []), (1, .iload_n 1, 0, []), (2, .invokevirtual 28, 23, []), (5, .iconst 1, 0, []), (6, .isub, 0, []), (7, .istore_n 3, 0, []), (8, .iload_n 2, 0, []), (9, .istore 4, 0, []), (11, .iload 4, 0, [2]), (13, .iload_n 3, 0, []), (14, .if_icmp .ge 56, 0, []), (17, .aload_n 0, 0, []), (18, .getfield 9, 0, []), (21, .iload_n 1, 0, []), (22, .bipush 10, 0, []), (24, .imul, 0, []), (25, .iconst 4, 0, []), (26, .iadd, 0, []), (27, .iload 4, 0, []), (29, .iadd, 0, []), (30, .aload_n 0, 0, []), (31, .iload_n 1, 0, []), (32, .iload 4, 0, []), (34, .iconst 1, 0, []), (35, .iadd, 0, []), (36, .invokevirtual 38, 38, []), (39, .iastore, 0, []), (40, .aload_n 0, 0, []), (41, .getfield 9, 0, []), (44, .iload_n 1, 0, []), (45, .bipush 10, 0, []), (47, .imul, 0, []), (48, .bipush 7, 0, []), (50, .iadd, 0, []), (51, .iload 4, 0, []), (53, .iadd, 0, []), (54, .aload_n 0, 0, []), (55, .iload_n 1, 0, []), (56, .iload 4, 0, []), (58, .iconst 1, 0, []), (59, .iadd, 0, []), (60, .invokevirtual 42, 91, []), (63, .iastore, 0, []), (64, .iinc 4 1, 0, []), (67, .goto (-56), 0, []), (70, .aload_n 0, 0, []), (71, .getfield 9, 0, []), (74, .iload_n 1, 0, []), (75, .bipush 10, 0, []), (77, .imul, 0, []), (78, .iconst 3, 0, []), (79, .iadd, 0, []), (80, .iload_n 3, 0, []), (81, .iastore, 0, []), (82, .return_, 0, [])]
def M_22 : xM := (2, 0, 0, 5, c_22)
def c_23 : List xR := [(0, .iconst 0, 0, []), (1, .istore_n 1, 0, []), (2, .iconst 0, 0, []), (3, .istore_n 2, 0, []), (4, .iload_n 2, 0, []), (5, .bipush 24, 0, []), (7, .if_icmp .ge 23, 0, []), (10, .iload_n 1, 0, []), (11, .aload_n 0, 0, []), (12, .getfield 9, 0, []), (15, .iload_n 2, 0, []), (16, .bipush 10, 0, []), (18, .imul, 0, []), (19, .iconst 0, 0, []), (20, .iadd, 0, []), (21, .iaload, 0, []), (22, .iadd, 0, []), (23, .istore_n 1, 0, []), (24, .iinc 2 1, 0, []), (27, .goto (-23), 0, []), (30, .iload_n 1, 0, []), (31, .ireturn, 0, [])]
def M_23 : xM := (2, 1, 0, 3, c_23)
def c_24 : List xR := [(0, .iconst 0, 0, []), (1, .istore_n 1, 0, []), (2, .iload_n 1, 0, []), (3, .bipush 24, 0, []), (5, .if_icmp .ge 19, 0, []), (8, .aload_n 0, 0, []), (9, .iload_n 1, 0, []), (10, .invokevirtual 25, 22, []), (13, .ifCond .ne 5, 0, []), (16, .iload_n 1, 0, []), (17, .ireturn, 0, []), (18, .iinc 1 1, 0, []), (21, .goto (-19), 0, []), (24, .iconst (-1), 0, []), (25, .ireturn, 0, [])]
def M_24 : xM := (2, 1, 0, 2, c_24)
def c_25 : List xR := [(0, .iconst 0, 0, []), (1, .istore_n 1, 0, []), (2, .iconst 0, 0, []), (3, .istore_n 2, 0, []), (4, .iload_n 2, 0, []), (5, .bipush 24, 0, []), (7, .if_icmp .ge 27, 0, []), (10, .aload_n 0, 0, []), (11, .iload_n 2, 0, []), (12, .invokevirtual 25, 22, []), (15, .ifCond .eq 13, 0, []), (18, .iload_n 1, 0, []), (19, .aload_n 0, 0, []), (20, .iload_n 2, 0, []), (21, .invokevirtual 45, 144, []), (24, .invokestatic 48, 145, []), (27, .istore_n 1, 0, []), (28, .iinc 2 1, 0, []), (31, .goto (-27), 0, []), (34, .iload_n 1, 0, []), (35, .ireturn, 0, [])]
def M_25 : xM := (2, 1, 0, 3, c_25)
def c_26 : List xR := [(0, .aload_n 0, 0, []), (1, .invokespecial 3, 7, []), (4, .aload_n 0, 0, []), (5, .bipush 6, 0, []), (7, .anewarray 9, 6, []), (10, .putfield 11, 20, []), (13, .aload_n 0, 0, []), (14, .bipush 7, 0, []), (16, .newarray .int, 0, []), (18, .putfield 17, 21, []), (21, .aload_n 0, 0, []), (22, .bipush 64, 0, []), (24, .newarray .int, 0, []), (26, .putfield 21, 22, []), (29, .aload_n 0, 0, []), (30, .iconst 0, 0, []), (31, .putfield 24, 24, []), (34, .aload_n 0, 0, []), (35, .iconst (-1), 0, []), (36, .putfield 28, 26, []), (39, .aload_n 0, 0, []), (40, .iconst 1, 0, []), (41, .putfield 31, 29, []), (44, .aload_n 0, 0, []), (45, .iconst 0, 0, []), (46, .putfield 34, 31, []), (49, .aload_n 0, 0, []), (50, .iconst 0, 0, []), (51, .putfield 37, 33, []), (54, .return_, 0, [])]
def M_26 : xM := (3, 0, 2, 1, c_26)
def c_27 : List xR := [(0, .iconst 0, 0, []), (1, .istore_n 2, 0, []), (2, .iload_n 2, 0, []), (3, .bipush 6, 0, []), (5, .if_icmp .ge 21, 0, []), (8, .aload_n 0, 0, []), (9, .getfield 11, 20, []), (12, .iload_n 2, 0, []), (13, .aload_n 1, 0, []), (14, .getfield 11, 20, []), (17, .iload_n 2, 0, []), (18, .aaload, 4, []), (19, .aastore, 4, []), (20, .iinc 2 1, 0, []), (23, .goto (-21), 0, []), (26, .aload_n 0, 0, []), (27, .aload_n 1, 0, []), (28, .getfield 24, 24, []), (31, .putfield 24, 24, []), (34, .aload_n 0, 0, []), (35, .aload_n 1, 0, []), (36, .getfield 28, 26, []), (39, .putfield 28, 26, []), (42, .aload_n 0, 0, []), (43, .aload_n 1, 0, []), (44, .getfield 31, 29, []), (47, .putfield 31, 29, []), (50, .aload_n 0, 0, []), (51, .aload_n 1, 0, []), (52, .getfield 34, 31, []), (55, .putfield 34, 31, []), (58, .aload_n 0, 0, []), (59, .aload_n 1, 0, []), (60, .getfield 37, 33, []), (63, .putfield 37, 33, []), (66, .return_, 0, [])]
def M_27 : xM := (3, 0, 0, 3, c_27)
def c_28 : List xR := [(0, .sipush 421, 0, []), (3, .iload_n 0, 0, []), (4, .imul, 0, []), (5, .iload_n 1, 0, []), (6, .iadd, 0, []), (7, .sipush 1024, 0, []), (10, .irem, 0, []), (11, .ireturn, 0, [])]
def M_28 : xM := (3, 1, 1, 2, c_28)
def c_29 : List xR := [(0, .iload_n 1, 0, []), (1, .aload_n 0, 0, []), (2, .getfield 37, 33, []), (5, .invokestatic 40, 33, []), (8, .ireturn, 0, [])]
def M_29 : xM := (3, 1, 0, 2, c_29)
def c_30 : List xR := [(0, .aload_n 0, 0, []), (1, .getfield 11, 20, []), (4, .aload_n 0, 0, []), (5, .getfield 24, 24, []), (8, .aload_n 1, 0, []), (9, .aastore, 4, []), (10, .aload_n 0, 0, []), (11, .dup, 0, []), (12, .getfield 24, 24, []), (15, .iconst 1, 0, []), (16, .iadd, 0, []), (17, .putfield 24, 24, []), (20, .aload_n 0, 0, []), (21, .getfield 24, 24, []), (24, .iconst 1, 0, []), (25, .isub, 0, []), (26, .ireturn, 0, [])]
def M_30 : xM := (3, 1, 0, 2, c_30)
def c_31 : List xR := [(0, .iload_n 1, 0, []), (1, .ifCond .lt 20, 0, []), (4, .iload_n 1, 0, []), (5, .aload_n 0, 0, []), (6, .getfield 24, 24, []), (9, .if_icmp .ge 12, 0, []), (12, .aload_n 0, 0, []), (13, .getfield 11, 20, []), (16, .iload_n 1, 0, []), (17, .aaload, 4, []), (18, .goto 4, 0, []), (21, .aconst_null, 0, []), (22, .areturn, 0, [])]
def M_31 : xM := (3, 4, 0, 2, c_31)
def c_32 : List xR := [(0, .aload_n 0, 0, []), (1, .getfield 17, 21, []), (4, .iconst 0, 0, []), (5, .iload_n 2, 0, []), (6, .iastore, 0, []), (7, .aload_n 0, 0, []), (8, .getfield 17, 21, []), (11, .iconst 1, 0, []), (12, .aload_n 1, 0, []), (13, .getfield 44, 5, []), (16, .iload_n 2, 0, []), (17, .invokevirtual 50, 46, []), (20, .ifCond .eq 14, 0, []), (23, .aload_n 1, 0, []), (24, .getfield 44, 5, []), (27, .iload_n 2, 0, []), (28, .invokevirtual 56, 47, []), (31, .goto 4, 0, []), (34, .iconst (-1), 0, []), (35, .iastore, 0, []), (36, .aload_n 0, 0, []), (37, .getfield 17, 21, []), (40, .iconst 2, 0, []), (41, .aload_n 1, 0, []), (42, .getfield 44, 5, []), (45, .iload_n 2, 0, []), (46, .invokevirtual 60, 48, []), (49, .iastore, 0, []), (50, .aload_n 0, 0, []), (51, .getfield 17, 21, []), (54, .iconst 3, 0, []), (55, .iload_n 3, 0, []), (56, .iastore, 0, []), (57, .aload_n 0, 0, []), (58, .getfield 17, 21, []), (61, .iconst 4, 0, []), (62, .iload 4, 0, []), (64, .iastore, 0, []), (65, .aload_n 0, 0, []), (66, .getfield 17, 21, []), (69, .iconst 5, 0, []), (70, .aload_n 1, 0, []), (71, .getfield 63, 18, []), (74, .iastore, 0, []), (75, .aload_n 0, 0, []), (76, .getfield 17, 21, []), (79, .bipush 6, 0, []), (81, .aload_n 0, 0, []), (82, .getfield 34, 31, []), (85, .iastore, 0, []), (86, .return_, 0, [])]
def M_32 : xM := (3, 0, 0, 5, c_32)
def c_33 : List xR := [(0, .aload_n 0, 0, []), (1, .iload_n 1, 0, []), (2, .invokevirtual 66, 43, []), (5, .astore 4, 0, []), (7, .aload 4, 0, []), (9, .ifnonnull 5, 0, []), (12, .iconst 1, 0, []), (13, .ireturn, 0, []), (14, .aload_n 0, 0, []), (15, .aload_n 2, 0, []), (16, .iload_n 3, 0, []), (17, .iconst (-1), 0, []), (18, .iconst (-1), 0, []), (19, .invokevirtual 70, 45, []), (22, .aload 4, 0, []), (24, .getfield 74, 53, []), (27, .iconst 1, 0, []), (28, .isub, 0, []), (29, .istore 5, 0, []), (31, .iload 5, 0, [1, 2, 3, 6]), (33, .ifCond .lt 79, 0, []), (36, .aload 4, 0, []), (38, .iload 5, 0, []), (40, .iconst 0, 0, []), (41, .invokevirtual 77, 49, []), (44, .iconst 4, 0, []), (45, .if_icmp .ne 61, 0, []), (48, .aload 4, 0, []), (50, .iload 5, 0, []), (52, .bipush 6, 0, []), (54, .aload_n 0, 0, []), (55, .getfield 17, 21, []), (58, .aload_n 0, 0, []), (59, .getfield 21, 22, []), (62, .invokevirtual 80, 50, []), (65, .iconst 1, 0, []), (66, .if_icmp .ne 40, 0, []), (69, .aload 4, 0, []), (71, .iload 5, 0, []), (73, .iconst 2, 0, []), (74, .aload_n 0, 0, []), (75, .getfield 17, 21, []), (78, .aload_n 0, 0, []), (79, .getfield 21, 22, []), (82, .invokevirtual 80, 50, []), (85, .istore 6, 0, []), (87, .iload 6, 0, []), (89, .ldc 84, 1, []), (91, .if_icmp .eq 15, 0, []), (94, .iconst 0, 0, []), (95, .iload 6, 0, []), (97, .bipush 99, 0, []), (99, .invokestatic 85, 73, []), (102, .invokestatic 90, 74, []), (105, .ireturn, 0, []), (106, .iinc 5 (-1), 0, []), (109, .goto (-78), 0, []), (112, .iconst 1, 0, []), (113, .ireturn, 0, [])]
def M_33 : xM := (3, 1, 0, 7, c_33)
def c_34 : List xR := [(0, .aload_n 0, 0, []), (1, .aload_n 0, 0, []), (2, .getfield 28, 26, []), (5, .invokevirtual 66, 43, []), (8, .astore 4, 0, []), (10, .aload 4, 0, []), (12, .ifnonnull 5, 0, []), (15, .iconst 0, 0, []), (16, .ireturn, 0, []), (17, .aload_n 0, 0, []), (18, .aload_n 2, 0, []), (19, .iload_n 3, 0, []), (20, .iload_n 1, 0, []), (21, .aload_n 0, 0, []), (22, .iload_n 1, 0, []), (23, .invokevirtual 93, 44, []), (26, .invokevirtual 70, 45, []), (29, .iconst 0, 0, []), (30, .istore 5, 0, []), (32, .iload 5, 0, [1, 2, 3]), (34, .aload 4, 0, []), (36, .getfield 74, 53, []), (39, .if_icmp .ge 44, 0, []), (42, .aload 4, 0, []), (44, .iload 5, 0, []), (46, .iconst 0, 0, []), (47, .invokevirtual 77, 49, []), (50, .iconst 5, 0, []), (51, .if_icmp .ne 26, 0, []), (54, .aload 4, 0, []), (56, .iload 5, 0, []), (58, .bipush 6, 0, []), (60, .aload_n 0, 0, []), (61, .getfield 17, 21, []), (64, .aload_n 0, 0, []), (65, .getfield 21, 22, []), (68, .invokevirtual 80, 50, []), (71, .iconst 1, 0, []), (72, .if_icmp .ne 5, 0, []), (75, .iconst 1, 0, []), (76, .ireturn, 0, []), (77, .iinc 5 1, 0, []), (80, .goto (-48), 0, []), (83, .iconst 0, 0, []), (84, .ireturn, 0, [])]
def M_34 : xM := (3, 2, 0, 6, c_34)
def c_35 : List xR := [(0, .aload_n 0, 0, []), (1, .invokespecial 3, 9, []), (4, .aload_n 0, 0, []), (5, .bipush 6, 0, []), (7, .newarray .int, 0, []), (9, .putfield 9, 35, []), (12, .aload_n 0, 0, []), (13, .bipush 6, 0, []), (15, .newarray .int, 0, []), (17, .putfield 15, 36, []), (20, .aload_n 0, 0, []), (21, .iconst 0, 0, []), (22, .putfield 18, 37, []), (25, .return_, 0, [])]
def M_35 : xM := (4, 0, 2, 1, c_35)
def c_36 : List xR := [(0, .aload_n 1, 0, []), (1, .getfield 9, 35, []), (4, .iconst 0, 0, []), (5, .aload_n 0, 0, []), (6, .getfield 9, 35, []), (9, .iconst 0, 0, []), (10, .bipush 6, 0, []), (12, .invokestatic 22, 215, []), (15, .aload_n 1, 0, []), (16, .getfield 15, 36, []), (19, .iconst 0, 0, []), (20, .aload_n 0, 0, []), (21, .getfield 15, 36, []), (24, .iconst 0, 0, []), (25, .bipush 6, 0, []), (27, .invokestatic 22, 215, []), (30, .aload_n 0, 0, []), (31, .aload_n 1, 0, []), (32, .getfield 18, 37, []), (35, .putfield 18, 37, []), (38, .return_, 0, [])]
def M_36 : xM := (4, 0, 0, 2, c_36)
def c_37 : List xR := [(0, .aload_n 0, 0, []), (1, .getfield 9, 35, []), (4, .aload_n 0, 0, []), (5, .getfield 18, 37, []), (8, .iload_n 1, 0, []), (9, .iastore, 0, []), (10, .aload_n 0, 0, []), (11, .getfield 15, 36, []), (14, .aload_n 0, 0, []), (15, .getfield 18, 37, []), (18, .iload_n 2, 0, []), (19, .iastore, 0, []), (20, .aload_n 0, 0, []), (21, .dup, 0, []), (22, .getfield 18, 37, []), (25, .iconst 1, 0, []), (26, .iadd, 0, []), (27, .putfield 18, 37, []), (30, .aload_n 0, 0, []), (31, .getfield 18, 37, []), (34, .ireturn, 0, [])]
def M_37 : xM := (4, 1, 0, 3, c_37)
def c_38 : List xR := [(0, .iconst 0, 0, []), (1, .istore_n 2, 0, []), (2, .iconst 0, 0, []), (3, .istore_n 3, 0, []), (4, .iload_n 3, 0, []), (5, .bipush 24, 0, []), (7, .if_icmp .ge 35, 0, []), (10, .aload_n 1, 0, []), (11, .getfield 28, 4, []), (14, .iload_n 3, 0, []), (15, .invokevirtual 34, 191, []), (18, .ifCond .eq 18, 0, []), (21, .aload_n 0, 0, []), (22, .aload_n 1, 0, []), (23, .iload_n 3, 0, []), (24, .invokevirtual 40, 192, []), (27, .ifCond .eq 9, 0, []), (30, .iload_n 2, 0, []), (31, .iconst 1, 0, []), (32, .iload_n 3, 0, []), (33, .ishl, 0, []), (34, .ior, 0, []), (35, .istore_n 2, 0, []), (36, .iinc 3 1, 0, []), (39, .goto (-35), 0, []), (42, .iload_n 2, 0, []), (43, .ireturn, 0, [])]
def M_38 : xM := (4, 1, 0, 4, c_38)
def c_39 : List xR := [(0, .iconst 0, 0, []), (1, .istore_n 3, 0, []), (2, .iload_n 3, 0, [4]), (3, .aload_n 0, 0, []), (4, .getfield 18, 37, []), (7, .if_icmp .ge 66, 0, []), (10, .aload_n 0, 0, []), (11, .getfield 9, 35, []), (14, .iload_n 3, 0, []), (15, .iaload, 0, []), (16, .aload_n 1, 0, []), (17, .invokevirtual 44, 193, []), (20, .if_icmp .ge 22, 0, []), (23, .aload_n 1, 0, []), (24, .getfield 48, 10, []), (27, .aload_n 0, 0, []), (28, .getfield 9, 35, []), (31, .iload_n 3, 0, []), (32, .iaload, 0, []), (33, .iaload, 0, []), (34, .iload_n 2, 0, []), (35, .if_icmp .ne 7, 0, []), (38, .iconst 1, 0, []), (39, .goto 4, 0, []), (42, .iconst 0, 0, []), (43, .istore 4, 0, [4]), (45, .iload 4, 0, []), (47, .aload_n 0, 0, []), (48, .getfield 15, 36, []), (51, .iload_n 3, 0, []), (52, .iaload, 0, []), (53, .iconst 1, 0, []), (54, .if_icmp .ne 7, 0, []), (57, .iconst 1, 0, []), (58, .goto 4, 0, []), (61, .iconst 0, 0, []), (62, .if_icmp .eq 5, 0, []), (65, .iconst 0, 0, []), (66, .ireturn, 0, []), (67, .iinc 3 1, 0, []), (70, .goto (-68), 0, []), (73, .iconst 1, 0, []), (74, .ireturn, 0, [])]
def M_39 : xM := (4, 2, 0, 5, c_39)
def c_40 : List xR := [(0, .aload_n 0, 0, []), (1, .invokespecial 3, 3, []), (4, .aload_n 0, 0, []), (5, .new 9, 3, []), (8, .dup, 0, []), (9, .invokespecial 11, 4, []), (12, .putfield 12, 2, []), (15, .aload_n 0, 0, []), (16, .new 9, 3, []), (19, .dup, 0, []), (20, .invokespecial 11, 4, []), (23, .putfield 18, 6, []), (26, .aload_n 0, 0, []), (27, .bipush 64, 0, []), (29, .newarray .int, 0, []), (31, .putfield 21, 8, []), (34, .aload_n 0, 0, []), (35, .sipush 480, 0, []), (38, .newarray .int, 0, []), (40, .putfield 25, 11, []), (43, .aload_n 0, 0, []), (44, .iconst 0, 0, []), (45, .putfield 28, 12, []), (48, .aload_n 0, 0, []), (49, .iconst 0, 0, []), (50, .putfield 32, 13, []), (53, .aload_n 0, 0, []), (54, .iconst 0, 0, []), (55, .putfield 35, 15, []), (58, .aload_n 0, 0, []), (59, .iconst 0, 0, []), (60, .putfield 38, 17, []), (63, .return_, 0, [])]
def M_40 : xM := (5, 0, 2, 1, c_40)
def c_41 : List xR := [(0, .aload_n 0, 0, []), (1, .getfield 12, 2, []), (4, .iconst 0, 0, []), (5, .iconst 0, 0, []), (6, .iconst 0, 0, []), (7, .invokevirtual 41, 17, []), (10, .aload_n 0, 0, []), (11, .getfield 18, 6, []), (14, .iconst 0, 0, []), (15, .iconst 0, 0, []), (16, .iconst 0, 0, []), (17, .invokevirtual 41, 17, []), (20, .return_, 0, [])]
def M_41 : xM := (5, 0, 0, 1, c_41)
def c_42 : List xR := [(0, .aload_n 0, 0, []), (1, .getfield 12, 2, []), (4, .aload_n 1, 0, []), (5, .getfield 12, 2, []), (8, .invokevirtual 45, 129, []), (11, .aload_n 0, 0, []), (12, .getfield 18, 6, []), (15, .aload_n 1, 0, []), (16, .getfield 18, 6, []), (19, .invokevirtual 45, 129, []), (22, .aload_n 1, 0, []), (23, .getfield 21, 8, []), (26, .iconst 0, 0, []), (27, .aload_n 0, 0, []), (28, .getfield 21, 8, []), (31, .iconst 0, 0, []), (32, .bipush 64, 0, []), (34, .invokestatic 49, 76, []), (37, .aload_n 1, 0, []), (38, .getfield 25, 11, []), (41, .iconst 0, 0, []), (42, .aload_n 0, 0, []), (43, .getfield 25, 11, []), (46, .iconst 0, 0, []), (47, .aload_n 0, 0, []), (48, .getfield 25, 11, []), (51, .arraylength, 0, []), (52, .invokestatic 49, 76, []), (55, .aload_n 0, 0, []), (56, .aload_n 1, 0, []), (57, .getfield 28, 12, []), (60, .putfield 28, 12, []), (63, .aload_n 0, 0, []), (64, .aload_n 1, 0, []), (65, .getfield 32, 13, []), (68, .putfield 32, 13, []), (71, .aload_n 0, 0, []), (72, .aload_n 1, 0, []), (73, .getfield 35, 15, []), (76, .putfield 35, 15, []), (79, .aload_n 0, 0, []), (80, .aload_n 1, 0, []), (81, .getfield 38, 17, []), (84, .putfield 38, 17, []), (87, .return_, 0, [])]
def M_42 : xM := (5, 0, 0, 2, c_42)
def c_43 : List xR := [(0, .iconst 1, 0, []), (1, .aload_n 0, 0, []), (2, .getfield 35, 15, []), (5, .ishl, 0, []), (6, .ireturn, 0, [])]
def M_43 : xM := (5, 1, 0, 1, c_43)
def c_44 : List xR := [(0, .iconst 0, 0, []), (1, .istore_n 1, 0, []), (2, .iconst 0, 0, []), (3, .istore_n 2, 0, []), (4, .iload_n 2, 0, []), (5, .bipush 24, 0, []), (7, .if_icmp .ge 20, 0, []), (10, .iload_n 1, 0, []), (11, .aload_n 0, 0, []), (12, .getfield 12, 2, []), (15, .iload_n 2, 0, []), (16, .invokevirtual 55, 58, []), (19, .iadd, 0, []), (20, .istore_n 1, 0, []), (21, .iinc 2 1, 0, []), (24, .goto (-20), 0, []), (27, .iload_n 1, 0, []), (28, .ireturn, 0, [])]
def M_44 : xM := (5, 1, 0, 3, c_44)
def c_45 : List xR := [(0, .aload_n 0, 0, []), (1, .getfield 21, 8, []), (4, .aload_n 2, 0, []), (5, .iload_n 1, 0, []), (6, .invokevirtual 59, 36, []), (9, .bipush 63, 0, []), (11, .iand, 0, []), (12, .iaload, 0, []), (13, .ireturn, 0, [])]
def M_45 : xM := (5, 1, 0, 3, c_45)
def c_46 : List xR := [(0, .aload_n 0, 0, []), (1, .iload_n 1, 0, []), (2, .aload_n 2, 0, []), (3, .invokevirtual 64, 35, []), (6, .istore_n 3, 0, []), (7, .aload_n 0, 0, []), (8, .getfield 12, 2, []), (11, .iload_n 3, 0, []), (12, .iload_n 1, 0, []), (13, .invokevirtual 68, 37, []), (16, .istore 4, 0, []), (18, .iload 4, 0, []), (20, .iconst (-1), 0, []), (21, .if_icmp .ne 7, 0, []), (24, .iconst (-1), 0, []), (25, .goto 13, 0, []), (28, .aload_n 0, 0, []), (29, .getfield 12, 2, []), (32, .iload_n 3, 0, []), (33, .iload 4, 0, []), (35, .invokevirtual 72, 39, []), (38, .ireturn, 0, [])]
def M_46 : xM := (5, 1, 0, 5, c_46)
def c_47 : List xR := [(0, .aload_n 2, 0, []), (1, .iload_n 1, 0, []), (2, .aload_n 0, 0, []), (3, .aload_n 0, 0, []), (4, .iload_n 1, 0, []), (5, .aload_n 2, 0, []), (6, .invokevirtual 64, 35, []), (9, .invokevirtual 75, 42, []), (12, .ireturn, 0, [])]
def M_47 : xM := (5, 2, 0, 3, c_47)
def c_48 : List xR := [(0, .iload_n 1, 0, []), (1, .invokestatic 79, 69, []), (4, .ifCond .eq 13, 0, []), (7, .iload_n 2, 0, []), (8, .ifCond .lt 9, 0, []), (11, .iload_n 2, 0, []), (12, .bipush 99, 0, []), (14, .if_icmp .le 5, 0, []), (17, .iconst (-1), 0, []), (18, .ireturn, 0, []), (19, .aload_n 0, 0, []), (20, .iload_n 1, 0, []), (21, .aload_n 3, 0, []), (22, .invokevirtual 64, 35, []), (25, .istore 4, 0, []), (27, .aload_n 0, 0, []), (28, .getfield 12, 2, []), (31, .iload 4, 0, []), (33, .iload_n 1, 0, []), (34, .invokevirtual 68, 37, []), (37, .istore 5, 0, []), (39, .iload 5, 0, []), (41, .iconst (-1), 0, []), (42, .if_icmp .eq 24, 0, []), (45, .aload_n 0, 0, []), (46, .getfield 12, 2, []), (49, .iload 4, 0, []), (51, .iload 5, 0, []), (53, .iload_n 2, 0, []), (54, .invokevirtual 83, 70, []), (57, .aload_n 0, 0, []), (58, .iload 4, 0, []), (60, .aload_n 3, 0, []), (61, .invokevirtual 86, 71, []), (64, .iconst 0, 0, []), (65, .ireturn, 0, []), (66, .aload_n 0, 0, []), (67, .iload_n 1, 0, []), (68, .aload_n 3, 0, []), (69, .invokevirtual 90, 78, []), (72, .ifCond .eq 6, 0, []), (75, .bipush (-3), 0, []), (77, .ireturn, 0, []), (78, .aload_n 0, 0, []), (79, .iload 4, 0, []), (81, .aload_n 3, 0, []), (82, .iload_n 1, 0, []), (83, .invokevirtual 59, 36, []), (86, .aload_n 3, 0, []), (87, .invokevirtual 94, 79, []), (90, .istore 6, 0, []), (92, .iload 6, 0, []), (94, .ifCond .ge 6, 0, []), (97, .bipush (-5), 0, []), (99, .ireturn, 0, []), (100, .iconst 0, 0, []), (101, .istore 7, 0, []), (103, .iload 7, 0, [4, 5, 8, 9]), (105, .iload 6, 0, []), (107, .if_icmp .ge 40, 0, []), (110, .aload_n 0, 0, []), (111, .iload_n 1, 0, []), (112, .aload_n 3, 0, []), (113, .invokevirtual 64, 35, []), (116, .istore 8, 0, []), (118, .aload_n 0, 0, []), (119, .iload 8, 0, []), (121, .aload_n 3, 0, []), (122, .invokevirtual 98, 83, []), (125, .istore 9, 0, []), (127, .aload_n 0, 0, []), (128, .iload 9, 0, []), (130, .aload_n 3, 0, []), (131, .invokevirtual 86, 71, []), (134, .aload_n 0, 0, []), (135, .iload 8, 0, []), (137, .aload_n 3, 0, []), (138, .invokevirtual 86, 71, []), (141, .iinc 7 1, 0, []), (144, .goto (-41), 0, []), (147, .aload_n 0, 0, []), (148, .iload_n 1, 0, []), (149, .aload_n 3, 0, []), (150, .invokevirtual 64, 35, []), (153, .istore 4, 0, []), (155, .aload_n 0, 0, []), (156, .getfield 12, 2, []), (159, .iload 4, 0, []), (161, .iload_n 1, 0, []), (162, .iload_n 2, 0, []), (163, .invokevirtual 101, 89, []), (166, .aload_n 0, 0, []), (167, .iload 4, 0, []), (169, .aload_n 3, 0, []), (170, .invokevirtual 86, 71, []), (173, .iload 6, 0, []), (175, .ireturn, 0, [])]
def M_48 : xM := (5, 1, 0, 10, c_48)
def c_49 : List xR := [(0, .aload_n 0, 0, []), (1, .getfield 12, 2, []), (4, .iload_n 1, 0, []), (5, .invokevirtual 55, 58, []), (8, .iconst 3, 0, []), (9, .if_icmp .ge 5, 0, []), (12, .iconst 0, 0, []), (13, .ireturn, 0, []), (14, .iconst 0, 0, []), (15, .istore 4, 0, []), (17, .iconst 0, 0, []), (18, .istore 5, 0, []), (20, .iload 5, 0, [6, 7]), (22, .iconst 3, 0, []), (23, .if_icmp .ge 30, 0, []), (26, .iload 4, 0, []), (28, .iload_n 2, 0, []), (29, .aload_n 3, 0, []), (30, .aload_n 0, 0, []), (31, .getfield 12, 2, []), (34, .iload_n 1, 0, []), (35, .iload 5, 0, []), (37, .invokevirtual 104, 80, []), (40, .invokevirtual 59, 36, []), (43, .ixor, 0, []), (44, .ior, 0, []), (45, .istore 4, 0, []), (47, .iinc 5 1, 0, []), (50, .goto (-30), 0, []), (53, .aload_n 0, 0, []), (54, .getfield 12, 2, []), (57, .iload_n 1, 0, []), (58, .invokevirtual 107, 81, []), (61, .istore 5, 0, []), (63, .iload 5, 0, []), (65, .istore 6, 0, []), (67, .iload 6, 0, [1, 2, 3, 7]), (69, .bipush 6, 0, []), (71, .if_icmp .ge 51, 0, []), (74, .iload 4, 0, []), (76, .iload 6, 0, []), (78, .ishr, 0, []), (79, .iconst 1, 0, []), (80, .iand, 0, []), (81, .ifCond .eq 35, 0, []), (84, .iload 6, 0, []), (86, .iload 5, 0, []), (88, .isub, 0, []), (89, .iconst 1, 0, []), (90, .iadd, 0, []), (91, .istore 7, 0, []), (93, .aload_n 0, 0, []), (94, .getfield 12, 2, []), (97, .invokevirtual 110, 82, []), (100, .iload 7, 0, []), (102, .iadd, 0, []), (103, .bipush 24, 0, []), (105, .if_icmp .gt 8, 0, []), (108, .iload 7, 0, []), (110, .goto 5, 0, []), (113, .bipush (-5), 0, []), (115, .ireturn, 0, []), (116, .iinc 6 1, 0, []), (119, .goto (-52), 0, []), (122, .bipush (-5), 0, []), (124, .ireturn, 0, [])]
def M_49 : xM := (5, 1, 0, 8, c_49)
def c_50 : List xR := [(0, .aload_n 0, 0, []), (1, .getfield 12, 2, []), (4, .invokevirtual 114, 84, []), (7, .istore_n 3, 0, []), (8, .iload_n 3, 0, []), (9, .iconst (-1), 0, []), (10, .if_icmp .ne 5, 0, []), (13, .iload_n 1, 0, []), (14, .ireturn, 0, []), (15, .aload_n 0, 0, []), (16, .getfield 12, 2, []), (19, .iload_n 1, 0, []), (20, .invokevirtual 107, 81, []), (23, .istore 4, 0, []), (25, .aload_n 0, 0, []), (26, .getfield 12, 2, []), (29, .iload_n 1, 0, []), (30, .invokevirtual 117, 85, []), (33, .istore 5, 0, []), (35, .aload_n 0, 0, []), (36, .getfield 12, 2, []), (39, .iload_n 3, 0, []), (40, .invokevirtual 120, 86, []), (43, .aload_n 0, 0, []), (44, .getfield 12, 2, []), (47, .iload_n 3, 0, []), (48, .iload 4, 0, []), (50, .iconst 1, 0, []), (51, .iadd, 0, []), (52, .iload 5, 0, []), (54, .iconst 1, 0, []), (55, .iload 4, 0, []), (57, .ishl, 0, []), (58, .iadd, 0, []), (59, .invokevirtual 41, 17, []), (62, .aload_n 0, 0, []), (63, .getfield 12, 2, []), (66, .iload_n 1, 0, []), (67, .iload 4, 0, []), (69, .iconst 1, 0, []), (70, .iadd, 0, []), (71, .iload 5, 0, []), (73, .invokevirtual 41, 17, []), (76, .iconst 0, 0, []), (77, .istore 6, 0, []), (79, .iconst 0, 0, []), (80, .istore 7, 0, []), (82, .iload 7, 0, [5, 8]), (84, .iconst 3, 0, []), (85, .if_icmp .ge 85, 0, []), (88, .iload 6, 0, []), (90, .aload_n 0, 0, []), (91, .getfield 12, 2, []), (94, .iload_n 1, 0, []), (95, .invokevirtual 55, 58, []), (98, .if_icmp .ge 72, 0, []), (101, .aload_n 0, 0, []), (102, .getfield 12, 2, []), (105, .iload_n 1, 0, []), (106, .iload 6, 0, []), (108, .invokevirtual 104, 80, []), (111, .istore 8, 0, []), (113, .aload_n 2, 0, []), (114, .iload 8, 0, []), (116, .invokevirtual 59, 36, []), (119, .iload 4, 0, []), (121, .ishr, 0, []), (122, .iconst 1, 0, []), (123, .iand, 0, []), (124, .iconst 1, 0, []), (125, .if_icmp .ne 36, 0, []), (128, .aload_n 0, 0, []), (129, .getfield 12, 2, []), (132, .iload_n 3, 0, []), (133, .iload 8, 0, []), (135, .aload_n 0, 0, []), (136, .getfield 12, 2, []), (139, .iload_n 1, 0, []), (140, .iload 6, 0, []), (142, .invokevirtual 72, 39, []), (145, .invokevirtual 101, 89, []), (148, .aload_n 0, 0, []), (149, .getfield 12, 2, []), (152, .iload_n 1, 0, []), (153, .iload 6, 0, []), (155, .invokevirtual 124, 90, []), (158, .goto 6, 0, []), (161, .iinc 6 1, 0, []), (164, .iinc 7 1, 0, []), (167, .goto (-85), 0, []), (170, .aload_n 0, 0, [1, 2, 5, 6, 7, 8]), (171, .iload_n 3, 0, []), (172, .iload_n 3, 0, []), (173, .invokevirtual 128, 92, []), (176, .aload_n 0, 0, []), (177, .aload_n 0, 0, []), (178, .getfield 35, 15, []), (181, .iload 4, 0, []), (183, .iconst 1, 0, []), (184, .iadd, 0, []), (185, .invokestatic 131, 93, []), (188, .putfield 35, 15, []), (191, .iload_n 3, 0, []), (192, .ireturn, 0, [])]
def M_50 : xM := (5, 1, 0, 9, c_50)
def c_51 : List xR := [(0, .iconst 1, 0, []), (1, .aload_n 0, 0, []), (2, .getfield 12, 2, []), (5, .iload_n 1, 0, []), (6, .invokevirtual 107, 81, []), (9, .ishl, 0, []), (10, .istore_n 3, 0, []), (11, .aload_n 0, 0, []), (12, .getfield 12, 2, []), (15, .iload_n 1, 0, []), (16, .invokevirtual 117, 85, []), (19, .istore 4, 0, []), (21, .iload 4, 0, [1]), (23, .bipush 64, 0, []), (25, .if_icmp .ge 20, 0, []), (28, .aload_n 0, 0, []), (29, .getfield 21, 8, []), (32, .iload 4, 0, []), (34, .iload_n 2, 0, []), (35, .iastore, 0, []), (36, .iload 4, 0, []), (38, .iload_n 3, 0, []), (39, .iadd, 0, []), (40, .istore 4, 0, []), (42, .goto (-21), 0, []), (45, .return_, 0, [])]
def M_51 : xM := (5, 0, 0, 5, c_51)
def c_52 : List xR := [(0, .iload_n 1, 0, []), (1, .invokestatic 79, 69, []), (4, .ifCond .ne 5, 0, []), (7, .iconst (-1), 0, []), (8, .ireturn, 0, []), (9, .aload_n 0, 0, []), (10, .iload_n 1, 0, []), (11, .aload_n 2, 0, []), (12, .invokevirtual 64, 35, []), (15, .istore_n 3, 0, []), (16, .aload_n 0, 0, []), (17, .getfield 12, 2, []), (20, .iload_n 3, 0, []), (21, .iload_n 1, 0, []), (22, .invokevirtual 68, 37, []), (25, .istore 4, 0, []), (27, .iload 4, 0, []), (29, .iconst (-1), 0, []), (30, .if_icmp .ne 6, 0, []), (33, .bipush (-3), 0, []), (35, .ireturn, 0, []), (36, .aload_n 0, 0, []), (37, .getfield 12, 2, []), (40, .iload_n 3, 0, []), (41, .iload 4, 0, []), (43, .invokevirtual 124, 90, []), (46, .aload_n 0, 0, []), (47, .iload_n 3, 0, []), (48, .aload_n 2, 0, []), (49, .invokevirtual 86, 71, []), (52, .iconst 0, 0, []), (53, .istore 5, 0, []), (55, .iconst 0, 0, []), (56, .istore 6, 0, []), (58, .iload 6, 0, [1, 4, 7, 8, 9, 10]), (60, .bipush 6, 0, []), (62, .if_icmp .ge 128, 0, []), (65, .aload_n 0, 0, []), (66, .iload_n 3, 0, []), (67, .invokevirtual 136, 140, []), (70, .istore 7, 0, []), (72, .iload 7, 0, []), (74, .iconst (-1), 0, []), (75, .if_icmp .eq 115, 0, []), (78, .aload_n 0, 0, []), (79, .getfield 12, 2, []), (82, .iload_n 3, 0, []), (83, .invokevirtual 55, 58, []), (86, .aload_n 0, 0, []), (87, .getfield 12, 2, []), (90, .iload 7, 0, []), (92, .invokevirtual 55, 58, []), (95, .iadd, 0, []), (96, .iconst 3, 0, []), (97, .if_icmp .le 6, 0, []), (100, .goto 90, 0, []), (103, .aload_n 0, 0, []), (104, .getfield 12, 2, []), (107, .iload_n 3, 0, []), (108, .invokevirtual 117, 85, []), (111, .aload_n 0, 0, []), (112, .getfield 12, 2, []), (115, .iload 7, 0, []), (117, .invokevirtual 117, 85, []), (120, .if_icmp .ge 7, 0, []), (123, .iconst 1, 0, []), (124, .goto 4, 0, []), (127, .iconst 0, 0, []), (128, .istore 8, 0, [1, 4, 8, 9, 10]), (130, .iload 8, 0, []), (132, .ifCond .eq 7, 0, []), (135, .iload_n 3, 0, []), (136, .goto 5, 0, []), (139, .iload 7, 0, []), (141, .istore 9, 0, []), (143, .iload 8, 0, []), (145, .ifCond .eq 8, 0, []), (148, .iload 7, 0, []), (150, .goto 4, 0, []), (153, .iload_n 3, 0, []), (154, .istore 10, 0, [1, 3, 4, 7, 8, 10]), (156, .aload_n 0, 0, []), (157, .iload 9, 0, []), (159, .iload 10, 0, []), (161, .invokevirtual 139, 142, []), (164, .aload_n 0, 0, []), (165, .iload 9, 0, []), (167, .aload_n 2, 0, []), (168, .invokevirtual 86, 71, []), (171, .aload_n 0, 0, []), (172, .iload 10, 0, []), (174, .aload_n 2, 0, []), (175, .invokevirtual 86, 71, []), (178, .iload 9, 0, []), (180, .istore_n 3, 0, []), (181, .iinc 5 1, 0, []), (184, .iinc 6 1, 0, []), (187, .goto (-129), 0, []), (190, .aload_n 0, 0, []), (191, .aload_n 0, 0, []), (192, .getfield 12, 2, []), (195, .invokevirtual 142, 143, []), (198, .putfield 35, 15, []), (201, .iload 5, 0, []), (203, .ireturn, 0, [])]
def M_52 : xM := (5, 1, 0, 11, c_52)
def c_53 : List xR := [(0, .aload_n 0, 0, []), (1, .getfield 12, 2, []), (4, .iload_n 1, 0, []), (5, .invokevirtual 107, 81, []), (8, .istore_n 2, 0, []), (9, .aload_n 0, 0, []), (10, .getfield 12, 2, []), (13, .iload_n 1, 0, []), (14, .invokevirtual 145, 141, []), (17, .ifCond .eq 7, 0, []), (20, .iload_n 2, 0, []), (21, .ifCond .ne 5, 0, []), (24, .iconst (-1), 0, []), (25, .ireturn, 0, []), (26, .aload_n 0, 0, []), (27, .getfield 21, 8, []), (30, .aload_n 0, 0, []), (31, .getfield 12, 2, []), (34, .iload_n 1, 0, []), (35, .invokevirtual 117, 85, []), (38, .iconst 1, 0, []), (39, .iload_n 2, 0, []), (40, .iconst 1, 0, []), (41, .isub, 0, []), (42, .ishl, 0, []), (43, .ixor, 0, []), (44, .iaload, 0, []), (45, .istore_n 3, 0, []), (46, .aload_n 0, 0, []), (47, .getfield 12, 2, []), (50, .iload_n 3, 0, []), (51, .invokevirtual 107, 81, []), (54, .iload_n 2, 0, []), (55, .if_icmp .ne 7, 0, []), (58, .iload_n 3, 0, []), (59, .goto 4, 0, []), (62, .iconst (-1), 0, []), (63, .ireturn, 0, [])]
def M_53 : xM := (5, 1, 0, 4, c_53)
def c_54 : List xR := [(0, .aload_n 0, 0, []), (1, .iload_n 2, 0, []), (2, .iload_n 1, 0, []), (3, .invokevirtual 128, 92, []), (6, .iconst 0, 0, []), (7, .istore_n 3, 0, []), (8, .iload_n 3, 0, []), (9, .aload_n 0, 0, []), (10, .getfield 12, 2, []), (13, .iload_n 2, 0, []), (14, .invokevirtual 55, 58, []), (17, .if_icmp .ge 35, 0, []), (20, .aload_n 0, 0, []), (21, .getfield 12, 2, []), (24, .iload_n 1, 0, []), (25, .aload_n 0, 0, []), (26, .getfield 12, 2, []), (29, .iload_n 2, 0, []), (30, .iload_n 3, 0, []), (31, .invokevirtual 104, 80, []), (34, .aload_n 0, 0, []), (35, .getfield 12, 2, []), (38, .iload_n 2, 0, []), (39, .iload_n 3, 0, []), (40, .invokevirtual 72, 39, []), (43, .invokevirtual 101, 89, []), (46, .iinc 3 1, 0, []), (49, .goto (-41), 0, []), (52, .aload_n 0, 0, []), (53, .getfield 12, 2, []), (56, .iload_n 2, 0, []), (57, .invokevirtual 120, 86, []), (60, .aload_n 0, 0, []), (61, .getfield 12, 2, []), (64, .iload_n 1, 0, []), (65, .aload_n 0, 0, []), (66, .getfield 12, 2, []), (69, .iload_n 1, 0, []), (70, .invokevirtual 107, 81, []), (73, .iconst 1, 0, []), (74, .isub, 0, []), (75, .aload_n 0, 0, []), (76, .getfield 12, 2, []), (79, .iload_n 1, 0, []), (80, .invokevirtual 117, 85, []), (83, .invokevirtual 41, 17, []), (86, .return_, 0, [])]
def M_54 : xM := (5, 0, 0, 4, c_54)
def c_55 : List xR := [(0, .aload_n 2, 0, []), (1, .aload_n 2, 0, []), (2, .getfield 148, 27, []), (5, .aload_n 0, 0, []), (6, .iload_n 1, 0, []), (7, .invokevirtual 151, 72, []), (10, .istore_n 3, 0, []), (11, .aload_n 0, 0, []), (12, .getfield 32, 13, []), (15, .bipush 40, 0, []), (17, .if_icmp .ne 7, 0, []), (20, .aload_n 0, 0, []), (21, .invokevirtual 155, 75, []), (24, .aload_n 0, 0, [2, 4]), (25, .aload_n 0, 0, []), (26, .getfield 32, 13, []), (29, .invokevirtual 158, 27, []), (32, .istore 4, 0, []), (34, .aload_n 0, 0, []), (35, .getfield 25, 11, []), (38, .iload 4, 0, []), (40, .iload_n 1, 0, []), (41, .iastore, 0, []), (42, .aload_n 0, 0, []), (43, .getfield 25, 11, []), (46, .iload 4, 0, []), (48, .iconst 1, 0, []), (49, .iadd, 0, []), (50, .iload_n 3, 0, []), (51, .iastore, 0, []), (52, .aload_n 0, 0, []), (53, .getfield 12, 2, []), (56, .getfield 161, 1, []), (59, .iload_n 1, 0, []), (60, .bipush 10, 0, []), (62, .imul, 0, []), (63, .aload_n 0, 0, []), (64, .getfield 25, 11, []), (67, .iload 4, 0, []), (69, .iconst 2, 0, []), (70, .iadd, 0, []), (71, .bipush 10, 0, []), (73, .invokestatic 49, 76, []), (76, .aload_n 0, 0, []), (77, .dup, 0, []), (78, .getfield 32, 13, []), (81, .iconst 1, 0, []), (82, .iadd, 0, []), (83, .putfield 32, 13, []), (86, .aload_n 0, 0, []), (87, .aload_n 0, 0, []), (88, .getfield 38, 17, []), (91, .iconst 1, 0, []), (92, .iadd, 0, []), (93, .sipush 999, 0, []), (96, .invokestatic 164, 77, []), (99, .putfield 38, 17, []), (102, .return_, 0, [])]
def M_55 : xM := (5, 0, 0, 5, c_55)
def c_56 : List xR := [(0, .aload_n 0, 0, []), (1, .getfield 28, 12, []), (4, .iload_n 1, 0, []), (5, .iadd, 0, []), (6, .bipush 40, 0, []), (8, .irem, 0, []), (9, .bipush 12, 0, []), (11, .imul, 0, []), (12, .ireturn, 0, [])]
def M_56 : xM := (5, 1, 0, 2, c_56)
def c_57 : List xR := [(0, .aload_n 0, 0, []), (1, .iconst 0, 0, []), (2, .invokevirtual 158, 27, []), (5, .istore_n 1, 0, []), (6, .aload_n 0, 0, []), (7, .getfield 25, 11, []), (10, .iload_n 1, 0, []), (11, .iconst 2, 0, []), (12, .iadd, 0, []), (13, .aload_n 0, 0, []), (14, .getfield 18, 6, []), (17, .getfield 161, 1, []), (20, .aload_n 0, 0, []), (21, .getfield 25, 11, []), (24, .iload_n 1, 0, []), (25, .iaload, 0, []), (26, .bipush 10, 0, []), (28, .imul, 0, []), (29, .bipush 10, 0, []), (31, .invokestatic 49, 76, []), (34, .aload_n 0, 0, []), (35, .aload_n 0, 0, []), (36, .getfield 28, 12, []), (39, .iconst 1, 0, []), (40, .iadd, 0, []), (41, .bipush 40, 0, []), (43, .irem, 0, []), (44, .putfield 28, 12, []), (47, .aload_n 0, 0, []), (48, .dup, 0, []), (49, .getfield 32, 13, []), (52, .iconst 1, 0, []), (53, .isub, 0, []), (54, .putfield 32, 13, []), (57, .return_, 0, [])]
def M_57 : xM := (5, 0, 0, 2, c_57)
def c_58 : List xR := [(0, .iload_n 1, 0, []), (1, .ifCond .lt 11, 0, []), (4, .iload_n 1, 0, []), (5, .aload_n 0, 0, []), (6, .getfield 32, 13, []), (9, .if_icmp .lt 5, 0, []), (12, .iconst (-1), 0, []), (13, .ireturn, 0, []), (14, .aload_n 0, 0, []), (15, .iload_n 1, 0, []), (16, .invokevirtual 158, 27, []), (19, .istore_n 3, 0, []), (20, .iload_n 2, 0, []), (21, .tableswitch 71 0 2 #[27, 34, 43], 0, []), (48, .aload_n 0, 0, []), (49, .getfield 25, 11, []), (52, .iload_n 3, 0, []), (53, .iaload, 0, []), (54, .ireturn, 0, []), (55, .aload_n 0, 0, []), (56, .getfield 25, 11, []), (59, .iload_n 3, 0, []), (60, .iconst 1, 0, []), (61, .iadd, 0, []), (62, .iaload, 0, []), (63, .ireturn, 0, []), (64, .aload_n 0, 0, []), (65, .getfield 25, 11, []), (68, .iload_n 3, 0, []), (69, .iconst 2, 0, []), (70, .iadd, 0, []), (71, .iconst 0, 0, []), (72, .iadd, 0, []), (73, .iaload, 0, []), (74, .ifCond .ne 7, 0, []), (77, .iconst (-1), 0, []), (78, .goto 13, 0, []), (81, .aload_n 0, 0, []), (82, .getfield 25, 11, []), (85, .iload_n 3, 0, []), (86, .iconst 2, 0, []), (87, .iadd, 0, []), (88, .iconst 3, 0, []), (89, .iadd, 0, []), (90, .iaload, 0, []), (91, .ireturn, 0, []), (92, .iconst (-1), 0, []), (93, .ireturn, 0, [])]
def M_58 : xM := (5, 1, 0, 4, c_58)
def c_59 : List xR := [(0, .iconst 0, 0, []), (1, .istore_n 1, 0, []), (2, .iconst 0, 0, []), (3, .istore_n 2, 0, []), (4, .iload_n 2, 0, []), (5, .aload_n 0, 0, []), (6, .getfield 32, 13, []), (9, .if_icmp .ge 24, 0, []), (12, .iload_n 1, 0, []), (13, .aload_n 0, 0, []), (14, .getfield 25, 11, []), (17, .aload_n 0, 0, []), (18, .iload_n 2, 0, []), (19, .invokevirtual 158, 27, []), (22, .iconst 1, 0, []), (23, .iadd, 0, []), (24, .iaload, 0, []), (25, .iadd, 0, []), (26, .istore_n 1, 0, []), (27, .iinc 2 1, 0, []), (30, .goto (-26), 0, []), (33, .iload_n 1, 0, []), (34, .ireturn, 0, [])]
def M_59 : xM := (5, 1, 0, 3, c_59)
def c_60 : List xR := [(0, .iload_n 1, 0, []), (1, .ifCond .ge 5, 0, []), (4, .iconst (-1), 0, []), (5, .ireturn, 0, []), (6, .iload_n 1, 0, []), (7, .aload_n 0, 0, []), (8, .getfield 32, 13, []), (11, .if_icmp .le 6, 0, []), (14, .bipush (-3), 0, []), (16, .ireturn, 0, []), (17, .iconst 0, 0, []), (18, .istore_n 2, 0, []), (19, .iload_n 2, 0, []), (20, .iload_n 1, 0, []), (21, .if_icmp .ge 13, 0, []), (24, .aload_n 0, 0, []), (25, .invokevirtual 155, 75, []), (28, .iinc 2 1, 0, []), (31, .goto (-12), 0, []), (34, .aload_n 0, 0, []), (35, .getfield 32, 13, []), (38, .ireturn, 0, [])]
def M_60 : xM := (5, 1, 0, 3, c_60)
def c_61 : List xR := [(0, .aload_n 0, 0, []), (1, .iload_n 1, 0, []), (2, .invokevirtual 167, 148, []), (5, .istore_n 3, 0, []), (6, .iload_n 3, 0, []), (7, .ifCond .ge 5, 0, []), (10, .iload_n 3, 0, []), (11, .ireturn, 0, []), (12, .aload_n 0, 0, []), (13, .iconst 0, 0, []), (14, .putfield 32, 13, []), (17, .aload_n 0, 0, []), (18, .invokevirtual 170, 149, []), (21, .aload_n 0, 0, []), (22, .getfield 12, 2, []), (25, .aload_n 0, 0, []), (26, .getfield 18, 6, []), (29, .invokevirtual 45, 129, []), (32, .iconst 0, 0, []), (33, .istore 4, 0, []), (35, .iload 4, 0, [1, 3]), (37, .bipush 24, 0, []), (39, .if_icmp .ge 28, 0, []), (42, .aload_n 0, 0, []), (43, .getfield 18, 6, []), (46, .iload 4, 0, []), (48, .invokevirtual 145, 141, []), (51, .ifCond .eq 10, 0, []), (54, .aload_n 0, 0, []), (55, .iload 4, 0, []), (57, .aload_n 2, 0, []), (58, .invokevirtual 173, 151, []), (61, .iinc 4 1, 0, []), (64, .goto (-29), 0, []), (67, .aload_n 0, 0, []), (68, .getfield 18, 6, []), (71, .aload_n 0, 0, []), (72, .getfield 12, 2, []), (75, .invokevirtual 45, 129, []), (78, .aload_n 0, 0, []), (79, .aload_n 0, 0, []), (80, .getfield 12, 2, []), (83, .invokevirtual 142, 143, []), (86, .putfield 35, 15, []), (89, .aload_n 0, 0, []), (90, .invokevirtual 176, 152, []), (93, .ireturn, 0, [])]
def M_61 : xM := (5, 1, 0, 5, c_61)
def c_62 : List xR := [(0, .aload_n 0, 0, []), (1, .getfield 21, 8, []), (4, .iconst (-1), 0, []), (5, .invokestatic 179, 150, []), (8, .iconst 0, 0, []), (9, .istore_n 1, 0, []), (10, .iload_n 1, 0, [2, 3]), (11, .bipush 24, 0, []), (13, .if_icmp .ge 97, 0, []), (16, .aload_n 0, 0, []), (17, .getfield 18, 6, []), (20, .iload_n 1, 0, []), (21, .invokevirtual 145, 141, []), (24, .ifCond .ne 6, 0, []), (27, .goto 77, 0, []), (30, .iconst 1, 0, []), (31, .aload_n 0, 0, []), (32, .getfield 18, 6, []), (35, .iload_n 1, 0, []), (36, .invokevirtual 107, 81, []), (39, .ishl, 0, []), (40, .istore_n 2, 0, []), (41, .aload_n 0, 0, []), (42, .getfield 18, 6, []), (45, .iload_n 1, 0, []), (46, .invokevirtual 117, 85, []), (49, .istore_n 3, 0, []), (50, .iload_n 3, 0, []), (51, .bipush 64, 0, []), (53, .if_icmp .ge 51, 0, []), (56, .aload_n 0, 0, []), (57, .getfield 21, 8, []), (60, .iload_n 3, 0, []), (61, .iaload, 0, []), (62, .iconst (-1), 0, []), (63, .if_icmp .eq 27, 0, []), (66, .aload_n 0, 0, []), (67, .getfield 18, 6, []), (70, .aload_n 0, 0, []), (71, .getfield 21, 8, []), (74, .iload_n 3, 0, []), (75, .iaload, 0, []), (76, .invokevirtual 107, 81, []), (79, .aload_n 0, 0, []), (80, .getfield 18, 6, []), (83, .iload_n 1, 0, []), (84, .invokevirtual 107, 81, []), (87, .if_icmp .ge 10, 0, []), (90, .aload_n 0, 0, []), (91, .getfield 21, 8, []), (94, .iload_n 3, 0, []), (95, .iload_n 1, 0, []), (96, .iastore, 0, []), (97, .iload_n 3, 0, []), (98, .iload_n 2, 0, []), (99, .iadd, 0, []), (100, .istore_n 3, 0, []), (101, .goto (-51), 0, []), (104, .iinc 1 1, 0, []), (107, .goto (-97), 0, []), (110, .return_, 0, [])]
def M_62 : xM := (5, 0, 0, 4, c_62)
def c_63 : List xR := [(0, .iconst (-1), 0, []), (1, .istore_n 3, 0, []), (2, .iconst 0, 0, []), (3, .istore 4, 0, []), (5, .iconst 1, 0, []), (6, .aload_n 0, 0, []), (7, .getfield 18, 6, []), (10, .iload_n 1, 0, []), (11, .invokevirtual 107, 81, []), (14, .ishl, 0, []), (15, .istore 5, 0, []), (17, .aload_n 0, 0, []), (18, .getfield 18, 6, []), (21, .iload_n 1, 0, []), (22, .invokevirtual 117, 85, []), (25, .istore 6, 0, []), (27, .iload 6, 0, [7, 8]), (29, .bipush 64, 0, []), (31, .if_icmp .ge 39, 0, []), (34, .aload_n 0, 0, []), (35, .getfield 21, 8, []), (38, .iload 6, 0, []), (40, .iaload, 0, []), (41, .iload_n 1, 0, []), (42, .if_icmp .ne 18, 0, []), (45, .iload 4, 0, []), (47, .ifCond .ne 8, 0, []), (50, .iload 6, 0, []), (52, .goto 4, 0, []), (55, .iload_n 3, 0, []), (56, .istore_n 3, 0, []), (57, .iinc 4 1, 0, []), (60, .iload 6, 0, []), (62, .iload 5, 0, []), (64, .iadd, 0, []), (65, .istore 6, 0, []), (67, .goto (-40), 0, []), (70, .aload_n 0, 0, []), (71, .getfield 12, 2, []), (74, .iload_n 1, 0, []), (75, .invokevirtual 120, 86, []), (78, .iload 4, 0, []), (80, .ifCond .ne 4, 0, []), (83, .return_, 0, []), (84, .bipush 6, 0, []), (86, .istore 6, 0, []), (88, .iconst 1, 0, []), (89, .istore 7, 0, []), (91, .iload 7, 0, [5, 8]), (93, .iload 4, 0, []), (95, .if_icmp .ge 15, 0, []), (98, .iinc 6 (-1), 0, []), (101, .iload 7, 0, []), (103, .iconst 2, 0, []), (104, .imul, 0, []), (105, .istore 7, 0, []), (107, .goto (-16), 0, []), (110, .aload_n 0, 0, []), (111, .getfield 12, 2, []), (114, .iload_n 1, 0, []), (115, .iload 6, 0, []), (117, .iload_n 3, 0, []), (118, .invokevirtual 41, 17, []), (121, .iconst 0, 0, []), (122, .istore 7, 0, []), (124, .iload 7, 0, [3, 4, 5, 6, 8]), (126, .aload_n 0, 0, []), (127, .getfield 18, 6, []), (130, .iload_n 1, 0, []), (131, .invokevirtual 55, 58, []), (134, .if_icmp .ge 52, 0, []), (137, .aload_n 0, 0, []), (138, .getfield 18, 6, []), (141, .iload_n 1, 0, []), (142, .iload 7, 0, []), (144, .invokevirtual 104, 80, []), (147, .istore 8, 0, []), (149, .aload_n 0, 0, []), (150, .iload 8, 0, []), (152, .aload_n 2, 0, []), (153, .invokevirtual 64, 35, []), (156, .iload_n 1, 0, []), (157, .if_icmp .ne 23, 0, []), (160, .aload_n 0, 0, []), (161, .getfield 12, 2, []), (164, .iload_n 1, 0, []), (165, .iload 8, 0, []), (167, .aload_n 0, 0, []), (168, .getfield 18, 6, []), (171, .iload_n 1, 0, []), (172, .iload 7, 0, []), (174, .invokevirtual 72, 39, []), (177, .invokevirtual 101, 89, []), (180, .iinc 7 1, 0, []), (183, .goto (-59), 0, []), (186, .return_, 0, [])]
def M_63 : xM := (5, 0, 0, 9, c_63)
def c_64 : List xR := [(0, .iconst 0, 0, []), (1, .istore_n 3, 0, []), (2, .iconst 0, 0, []), (3, .istore 4, 0, []), (5, .iload 4, 0, [5]), (7, .bipush 24, 0, []), (9, .if_icmp .ge 65, 0, []), (12, .iconst 0, 0, []), (13, .istore 5, 0, []), (15, .iload 5, 0, []), (17, .aload_n 0, 0, []), (18, .getfield 12, 2, []), (21, .iload 4, 0, []), (23, .invokevirtual 55, 58, []), (26, .if_icmp .ge 42, 0, []), (29, .aload_n 1, 0, []), (30, .aload_n 0, 0, []), (31, .getfield 12, 2, []), (34, .iload 4, 0, []), (36, .iload 5, 0, []), (38, .invokevirtual 104, 80, []), (41, .aload_n 2, 0, []), (42, .invokevirtual 185, 170, []), (45, .aload_n 0, 0, []), (46, .getfield 12, 2, []), (49, .iload 4, 0, []), (51, .iload 5, 0, []), (53, .invokevirtual 72, 39, []), (56, .if_icmp .eq 6, 0, []), (59, .iinc 3 1, 0, []), (62, .iinc 5 1, 0, []), (65, .goto (-50), 0, []), (68, .iinc 4 1, 0, []), (71, .goto (-66), 0, []), (74, .iload_n 3, 0, []), (75, .ireturn, 0, [])]
def M_64 : xM := (5, 1, 0, 6, c_64)
def c_65 : List xR := [(0, .aload_n 0, 0, []), (1, .invokevirtual 188, 173, []), (4, .aload_n 1, 0, []), (5, .invokevirtual 188, 173, []), (8, .invokestatic 164, 77, []), (11, .istore_n 2, 0, []), (12, .aload_n 0, 0, []), (13, .invokevirtual 188, 173, []), (16, .aload_n 1, 0, []), (17, .invokevirtual 188, 173, []), (20, .invokestatic 131, 93, []), (23, .iload_n 2, 0, []), (24, .isub, 0, []), (25, .istore_n 3, 0, []), (26, .iconst 0, 0, []), (27, .istore 4, 0, []), (29, .iload 4, 0, []), (31, .iload_n 2, 0, []), (32, .if_icmp .ge 29, 0, []), (35, .aload_n 0, 0, []), (36, .getfield 21, 8, []), (39, .iload 4, 0, []), (41, .iaload, 0, []), (42, .aload_n 1, 0, []), (43, .getfield 21, 8, []), (46, .iload 4, 0, []), (48, .iaload, 0, []), (49, .if_icmp .eq 6, 0, []), (52, .iinc 3 1, 0, []), (55, .iinc 4 1, 0, []), (58, .goto (-29), 0, []), (61, .iload_n 3, 0, []), (62, .ireturn, 0, [])]
def M_65 : xM := (5, 1, 0, 5, c_65)
def c_66 : List xR := [(0, .aload_n 0, 0, []), (1, .iload_n 1, 0, []), (2, .aload_n 2, 0, []), (3, .invokevirtual 64, 35, []), (6, .istore_n 3, 0, []), (7, .aload_n 0, 0, []), (8, .getfield 12, 2, []), (11, .iload_n 3, 0, []), (12, .iload_n 1, 0, []), (13, .invokevirtual 68, 37, []), (16, .iconst (-1), 0, []), (17, .if_icmp .ne 30, 0, []), (20, .aload_n 0, 0, []), (21, .iload_n 3, 0, []), (22, .aload_n 2, 0, []), (23, .iload_n 1, 0, []), (24, .invokevirtual 59, 36, []), (27, .aload_n 2, 0, []), (28, .invokevirtual 94, 79, []), (31, .ifCond .le 16, 0, []), (34, .aload_n 0, 0, []), (35, .iload_n 1, 0, []), (36, .aload_n 2, 0, []), (37, .invokevirtual 90, 78, []), (40, .ifCond .ne 7, 0, []), (43, .iconst 1, 0, []), (44, .goto 4, 0, []), (47, .iconst 0, 0, []), (48, .ireturn, 0, [])]
def M_66 : xM := (5, 2, 0, 4, c_66)
def c_67 : List xR := [(0, .aload_n 2, 0, []), (1, .iconst 0, 0, []), (2, .invokestatic 179, 150, []), (5, .iconst 0, 0, []), (6, .istore_n 3, 0, []), (7, .iload_n 3, 0, [4, 5]), (8, .bipush 24, 0, []), (10, .if_icmp .ge 69, 0, []), (13, .iconst 0, 0, []), (14, .istore 4, 0, []), (16, .iload 4, 0, [5]), (18, .aload_n 0, 0, []), (19, .getfield 12, 2, []), (22, .iload_n 3, 0, []), (23, .invokevirtual 55, 58, []), (26, .if_icmp .ge 47, 0, []), (29, .aload_n 0, 0, []), (30, .getfield 12, 2, []), (33, .iload_n 3, 0, []), (34, .iload 4, 0, []), (36, .invokevirtual 104, 80, []), (39, .iload_n 1, 0, []), (40, .invokestatic 191, 183, []), (43, .bipush 63, 0, []), (45, .iand, 0, []), (46, .istore 5, 0, []), (48, .aload_n 2, 0, []), (49, .iload 5, 0, []), (51, .dup2, 0, []), (52, .iaload, 0, []), (53, .iconst 1, 0, []), (54, .iadd, 0, []), (55, .iastore, 0, []), (56, .aload_n 2, 0, []), (57, .iload 5, 0, []), (59, .iaload, 0, []), (60, .iconst 3, 0, []), (61, .if_icmp .le 6, 0, []), (64, .bipush 25, 0, []), (66, .ireturn, 0, []), (67, .iinc 4 1, 0, []), (70, .goto (-54), 0, []), (73, .iinc 3 1, 0, []), (76, .goto (-69), 0, []), (79, .iconst 1, 0, []), (80, .istore_n 3, 0, []), (81, .bipush 32, 0, []), (83, .istore 4, 0, []), (85, .iload 4, 0, [0, 1, 5]), (87, .ifCond .le 58, 0, []), (90, .iconst 0, 0, []), (91, .istore 5, 0, []), (93, .iload 5, 0, [0, 1]), (95, .iload 4, 0, []), (97, .if_icmp .ge 39, 0, []), (100, .aload_n 2, 0, []), (101, .iload 5, 0, []), (103, .dup2, 0, []), (104, .iaload, 0, []), (105, .aload_n 2, 0, []), (106, .iload 5, 0, []), (108, .iload 4, 0, []), (110, .iadd, 0, []), (111, .iaload, 0, []), (112, .iadd, 0, []), (113, .iastore, 0, []), (114, .iload_n 3, 0, []), (115, .aload_n 2, 0, []), (116, .iload 5, 0, []), (118, .iaload, 0, []), (119, .iconst 3, 0, []), (120, .if_icmp .le 7, 0, []), (123, .iconst 1, 0, []), (124, .goto 4, 0, []), (127, .iconst 0, 0, []), (128, .iadd, 0, []), (129, .istore_n 3, 0, []), (130, .iinc 5 1, 0, []), (133, .goto (-40), 0, []), (136, .iload 4, 0, []), (138, .iconst 2, 0, []), (139, .idiv, 0, []), (140, .istore 4, 0, []), (142, .goto (-57), 0, []), (145, .iload_n 3, 0, []), (146, .ireturn, 0, [])]
def M_67 : xM := (5, 1, 0, 6, c_67)
def c_68 : List xR := [(0, .aload_n 0, 0, []), (1, .invokespecial 3, 13, []), (4, .aload_n 0, 0, []), (5, .new 9, 14, []), (8, .dup, 0, []), (9, .invokespecial 11, 14, []), (12, .putfield 12, 59, []), (15, .aload_n 0, 0, []), (16, .sipush 400, 0, []), (19, .newarray .int, 0, []), (21, .putfield 18, 61, []), (24, .aload_n 0, 0, []), (25, .iconst 0, 0, []), (26, .putfield 22, 63, []), (29, .aload_n 0, 0, []), (30, .iconst 0, 0, []), (31, .putfield 26, 65, []), (34, .aload_n 0, 0, []), (35, .iconst 0, 0, []), (36, .putfield 29, 66, []), (39, .aload_n 0, 0, []), (40, .iconst 0, 0, []), (41, .putfield 33, 67, []), (44, .aload_n 0, 0, []), (45, .iconst (-1), 0, []), (46, .putfield 36, 68, []), (49, .aload_n 0, 0, []), (50, .iconst 0, 0, []), (51, .putfield 39, 69, []), (54, .aload_n 0, 0, []), (55, .iconst 0, 0, []), (56, .putfield 42, 70, []), (59, .aload_n 0, 0, []), (60, .iconst 0, 0, []), (61, .putfield 45, 71, []), (64, .return_, 0, [])]
def M_68 : xM := (6, 0, 2, 1, c_68)
def c_69 : List xR := [(0, .bipush 24, 0, []), (2, .istore_n 2, 0, []), (3, .iload_n 2, 0, []), (4, .ifCond .lt 45, 0, []), (7, .aload_n 0, 0, []), (8, .getfield 22, 63, []), (11, .sipush 400, 0, []), (14, .if_icmp .ge 35, 0, []), (17, .aload_n 0, 0, []), (18, .getfield 18, 61, []), (21, .aload_n 0, 0, []), (22, .getfield 22, 63, []), (25, .iload_n 1, 0, []), (26, .iload_n 2, 0, []), (27, .iushr, 0, []), (28, .sipush 255, 0, []), (31, .iand, 0, []), (32, .iastore, 0, []), (33, .aload_n 0, 0, []), (34, .dup, 0, []), (35, .getfield 22, 63, []), (38, .iconst 1, 0, []), (39, .iadd, 0, []), (40, .putfield 22, 63, []), (43, .iinc 2 (-8), 0, []), (46, .goto (-43), 0, []), (49, .return_, 0, [])]
def M_69 : xM := (6, 0, 0, 3, c_69)
def c_70 : List xR := [(0, .aload_n 0, 0, []), (1, .aload_n 0, 0, []), (2, .getfield 22, 63, []), (5, .putfield 26, 65, []), (8, .aload_n 0, 0, []), (9, .iconst 0, 0, []), (10, .putfield 22, 63, []), (13, .aload_n 0, 0, []), (14, .getfield 26, 65, []), (17, .ireturn, 0, [])]
def M_70 : xM := (6, 1, 0, 1, c_70)
def c_71 : List xR := [(0, .aload_n 0, 0, []), (1, .iload_n 1, 0, []), (2, .putfield 29, 66, []), (5, .aload_n 0, 0, []), (6, .iconst 0, 0, []), (7, .putfield 33, 67, []), (10, .aload_n 0, 0, []), (11, .iconst 0, 0, []), (12, .putfield 42, 70, []), (15, .aload_n 0, 0, []), (16, .getfield 12, 59, []), (19, .invokevirtual 48, 97, []), (22, .aload_n 0, 0, []), (23, .invokevirtual 51, 98, []), (26, .aload_n 0, 0, []), (27, .invokevirtual 54, 100, []), (30, .istore_n 2, 0, []), (31, .iconst 1, 0, []), (32, .istore_n 3, 0, []), (33, .iload_n 2, 0, [1]), (34, .ifCond .eq 47, 0, []), (37, .aload_n 0, 0, []), (38, .getfield 36, 68, []), (41, .bipush 59, 0, []), (43, .if_icmp .ne 38, 0, []), (46, .iload_n 3, 0, []), (47, .bipush 12, 0, []), (49, .if_icmp .gt 32, 0, []), (52, .aload_n 0, 0, []), (53, .invokevirtual 51, 98, []), (56, .iload_n 3, 0, []), (57, .bipush 12, 0, []), (59, .if_icmp .ge 14, 0, []), (62, .aload_n 0, 0, []), (63, .invokevirtual 54, 100, []), (66, .ifCond .eq 7, 0, []), (69, .iconst 1, 0, []), (70, .goto 4, 0, []), (73, .iconst 0, 0, []), (74, .istore_n 2, 0, []), (75, .iinc 3 1, 0, []), (78, .goto (-45), 0, []), (81, .iload_n 2, 0, [1, 3]), (82, .ifCond .eq 15, 0, []), (85, .aload_n 0, 0, []), (86, .getfield 36, 68, []), (89, .iconst (-1), 0, []), (90, .if_icmp .ne 7, 0, []), (93, .iconst (-1), 0, []), (94, .goto 7, 0, []), (97, .aload_n 0, 0, []), (98, .getfield 39, 69, []), (101, .ireturn, 0, [])]
def M_71 : xM := (6, 1, 0, 4, c_71)
def c_72 : List xR := [(0, .aload_n 0, 0, []), (1, .aload_n 0, 0, []), (2, .getfield 42, 70, []), (5, .putfield 39, 69, []), (8, .aload_n 0, 0, []), (9, .getfield 39, 69, []), (12, .aload_n 0, 0, []), (13, .getfield 26, 65, []), (16, .if_icmp .ge 30, 0, []), (19, .aload_n 0, 0, []), (20, .getfield 18, 61, []), (23, .aload_n 0, 0, []), (24, .getfield 39, 69, []), (27, .iaload, 0, []), (28, .bipush 32, 0, []), (30, .if_icmp .ne 16, 0, []), (33, .aload_n 0, 0, []), (34, .dup, 0, []), (35, .getfield 39, 69, []), (38, .iconst 1, 0, []), (39, .iadd, 0, []), (40, .putfield 39, 69, []), (43, .goto (-35), 0, []), (46, .aload_n 0, 0, []), (47, .aload_n 0, 0, []), (48, .getfield 39, 69, []), (51, .putfield 42, 70, []), (54, .aload_n 0, 0, []), (55, .iconst 0, 0, []), (56, .putfield 45, 71, []), (59, .aload_n 0, 0, []), (60, .getfield 39, 69, []), (63, .aload_n 0, 0, []), (64, .getfield 26, 65, []), (67, .if_icmp .lt 11, 0, []), (70, .aload_n 0, 0, []), (71, .iconst (-1), 0, []), (72, .putfield 36, 68, []), (75, .goto 228, 0, []), (78, .aload_n 0, 0, []), (79, .getfield 18, 61, []), (82, .aload_n 0, 0, []), (83, .getfield 39, 69, []), (86, .iaload, 0, []), (87, .bipush 97, 0, []), (89, .if_icmp .lt 75, 0, []), (92, .aload_n 0, 0, []), (93, .getfield 18, 61, []), (96, .aload_n 0, 0, []), (97, .getfield 39, 69, []), (100, .iaload, 0, []), (101, .bipush 122, 0, []), (103, .if_icmp .gt 61, 0, []), (106, .aload_n 0, 0, []), (107, .bipush (-2), 0, []), (109, .putfield 36, 68, []), (112, .aload_n 0, 0, []), (113, .getfield 42, 70, []), (116, .aload_n 0, 0, []), (117, .getfield 26, 65, []), (120, .if_icmp .ge 183, 0, []), (123, .aload_n 0, 0, []), (124, .getfield 18, 61, []), (127, .aload_n 0, 0, []), (128, .getfield 42, 70, []), (131, .iaload, 0, []), (132, .bipush 97, 0, []), (134, .if_icmp .lt 169, 0, []), (137, .aload_n 0, 0, []), (138, .getfield 18, 61, []), (141, .aload_n 0, 0, []), (142, .getfield 42, 70, []), (145, .iaload, 0, []), (146, .bipush 122, 0, []), (148, .if_icmp .gt 155, 0, []), (151, .aload_n 0, 0, []), (152, .dup, 0, []), (153, .getfield 42, 70, []), (156, .iconst 1, 0, []), (157, .iadd, 0, []), (158, .putfield 42, 70, []), (161, .goto (-49), 0, []), (164, .aload_n 0, 0, []), (165, .getfield 18, 61, []), (168, .aload_n 0, 0, []), (169, .getfield 39, 69, []), (172, .iaload, 0, []), (173, .bipush 48, 0, []), (175, .if_icmp .lt 105, 0, []), (178, .aload_n 0, 0, []), (179, .getfield 18, 61, []), (182, .aload_n 0, 0, []), (183, .getfield 39, 69, []), (186, .iaload, 0, []), (187, .bipush 57, 0, []), (189, .if_icmp .gt 91, 0, []), (192, .aload_n 0, 0, []), (193, .bipush (-3), 0, []), (195, .putfield 36, 68, []), (198, .aload_n 0, 0, []), (199, .getfield 42, 70, []), (202, .aload_n 0, 0, []), (203, .getfield 26, 65, []), (206, .if_icmp .ge 97, 0, []), (209, .aload_n 0, 0, []), (210, .getfield 18, 61, []), (213, .aload_n 0, 0, []), (214, .getfield 42, 70, []), (217, .iaload, 0, []), (218, .bipush 48, 0, []), (220, .if_icmp .lt 83, 0, []), (223, .aload_n 0, 0, []), (224, .getfield 18, 61, []), (227, .aload_n 0, 0, []), (228, .getfield 42, 70, []), (231, .iaload, 0, []), (232, .bipush 57, 0, []), (234, .if_icmp .gt 69, 0, []), (237, .aload_n 0, 0, []), (238, .aload_n 0, 0, []), (239, .getfield 45, 71, []), (242, .bipush 10, 0, []), (244, .imul, 0, []), (245, .aload_n 0, 0, []), (246, .getfield 18, 61, []), (249, .aload_n 0, 0, []), (250, .getfield 42, 70, []), (253, .iaload, 0, []), (254, .iadd, 0, []), (255, .bipush 48, 0, []), (257, .isub, 0, []), (258, .sipush 1001, 0, []), (261, .invokestatic 58, 99, []), (264, .putfield 45, 71, []), (267, .aload_n 0, 0, []), (268, .dup, 0, []), (269, .getfield 42, 70, []), (272, .iconst 1, 0, []), (273, .iadd, 0, []), (274, .putfield 42, 70, []), (277, .goto (-79), 0, []), (280, .aload_n 0, 0, []), (281, .aload_n 0, 0, []), (282, .getfield 18, 61, []), (285, .aload_n 0, 0, []), (286, .getfield 39, 69, []), (289, .iaload, 0, []), (290, .putfield 36, 68, []), (293, .aload_n 0, 0, []), (294, .dup, 0, []), (295, .getfield 42, 70, []), (298, .iconst 1, 0, []), (299, .iadd, 0, []), (300, .putfield 42, 70, []), (303, .return_, 0, [])]
def M_72 : xM := (6, 0, 0, 1, c_72)
def c_73 : List xR := [(0, .aload_n 0, 0, []), (1, .getfield 36, 68, []), (4, .bipush (-2), 0, []), (6, .if_icmp .ne 19, 0, []), (9, .aload_n 0, 0, []), (10, .getfield 42, 70, []), (13, .aload_n 0, 0, []), (14, .getfield 39, 69, []), (17, .isub, 0, []), (18, .aload_n 1, 0, []), (19, .invokevirtual 64, 105, []), (22, .if_icmp .eq 5, 0, []), (25, .iconst 0, 0, []), (26, .ireturn, 0, []), (27, .iconst 0, 0, []), (28, .istore_n 2, 0, []), (29, .iload_n 2, 0, []), (30, .aload_n 1, 0, []), (31, .invokevirtual 64, 105, []), (34, .if_icmp .ge 30, 0, []), (37, .aload_n 0, 0, []), (38, .getfield 18, 61, []), (41, .aload_n 0, 0, []), (42, .getfield 39, 69, []), (45, .iload_n 2, 0, []), (46, .iadd, 0, []), (47, .iaload, 0, []), (48, .aload_n 1, 0, []), (49, .iload_n 2, 0, []), (50, .invokevirtual 69, 106, []), (53, .if_icmp .eq 5, 0, []), (56, .iconst 0, 0, []), (57, .ireturn, 0, []), (58, .iinc 2 1, 0, []), (61, .goto (-32), 0, []), (64, .iconst 1, 0, []), (65, .ireturn, 0, [])]
def M_73 : xM := (6, 2, 0, 3, c_73)
def c_74 : List xR := [(0, .aload_n 0, 0, []), (1, .aload_n 1, 0, []), (2, .invokevirtual 73, 104, []), (5, .istore_n 2, 0, []), (6, .iload_n 2, 0, []), (7, .ifCond .eq 7, 0, []), (10, .aload_n 0, 0, []), (11, .invokevirtual 51, 98, []), (14, .iload_n 2, 0, []), (15, .ireturn, 0, [])]
def M_74 : xM := (6, 2, 0, 3, c_74)
def c_75 : List xR := [(0, .aload_n 0, 0, []), (1, .getfield 36, 68, []), (4, .iload_n 1, 0, []), (5, .if_icmp .ne 7, 0, []), (8, .iconst 1, 0, []), (9, .goto 4, 0, []), (12, .iconst 0, 0, []), (13, .istore_n 2, 0, []), (14, .iload_n 2, 0, []), (15, .ifCond .eq 7, 0, []), (18, .aload_n 0, 0, []), (19, .invokevirtual 51, 98, []), (22, .iload_n 2, 0, []), (23, .ireturn, 0, [])]
def M_75 : xM := (6, 2, 0, 3, c_75)
def c_76 : List xR := [(0, .iconst 0, 0, []), (1, .istore_n 1, 0, []), (2, .iload_n 1, 0, []), (3, .bipush 8, 0, []), (5, .if_icmp .ge 18, 0, []), (8, .aload_n 0, 0, []), (9, .getfield 12, 59, []), (12, .iload_n 1, 0, []), (13, .iconst 0, 0, []), (14, .invokevirtual 77, 101, []), (17, .iinc 1 1, 0, []), (20, .goto (-18), 0, []), (23, .aload_n 0, 0, []), (24, .getfield 29, 66, []), (27, .ifCond .eq 10, 0, []), (30, .aload_n 0, 0, []), (31, .invokevirtual 81, 102, []), (34, .goto 7, 0, []), (37, .aload_n 0, 0, []), (38, .invokevirtual 84, 116, []), (41, .istore_n 1, 0, [1]), (42, .iload_n 1, 0, []), (43, .ifCond .eq 50, 0, []), (46, .aload_n 0, 0, []), (47, .ldc 87, 1021, []), (49, .invokevirtual 89, 103, []), (52, .ifCond .eq 41, 0, []), (55, .aload_n 0, 0, []), (56, .getfield 12, 59, []), (59, .bipush 6, 0, []), (61, .aload_n 0, 0, []), (62, .getfield 12, 59, []), (65, .getfield 92, 51, []), (68, .invokevirtual 77, 101, []), (71, .aload_n 0, 0, []), (72, .iconst 0, 0, []), (73, .invokevirtual 95, 117, []), (76, .istore_n 1, 0, []), (77, .aload_n 0, 0, []), (78, .getfield 12, 59, []), (81, .bipush 7, 0, []), (83, .aload_n 0, 0, []), (84, .getfield 12, 59, []), (87, .getfield 92, 51, []), (90, .invokevirtual 77, 101, []), (93, .iload_n 1, 0, []), (94, .ifCond .eq 16, 0, []), (97, .aload_n 0, 0, []), (98, .getfield 12, 59, []), (101, .dup, 0, []), (102, .getfield 99, 54, []), (105, .iconst 1, 0, []), (106, .iadd, 0, []), (107, .putfield 99, 54, []), (110, .iload_n 1, 0, []), (111, .ireturn, 0, [])]
def M_76 : xM := (6, 2, 0, 2, c_76)
def c_77 : List xR := [(0, .aload_n 0, 0, []), (1, .ldc 102, 1019, []), (3, .invokevirtual 89, 103, []), (6, .ifCond .eq 14, 0, []), (9, .aload_n 0, 0, []), (10, .getfield 12, 59, []), (13, .iconst 0, 0, []), (14, .iconst 5, 0, []), (15, .invokevirtual 77, 101, []), (18, .iconst 1, 0, []), (19, .ireturn, 0, []), (20, .aload_n 0, 0, []), (21, .getfield 12, 59, []), (24, .iconst 0, 0, []), (25, .iconst 4, 0, []), (26, .invokevirtual 77, 101, []), (29, .aload_n 0, 0, []), (30, .ldc 104, 1020, []), (32, .invokevirtual 89, 103, []), (35, .ifCond .eq 15, 0, []), (38, .aload_n 0, 0, []), (39, .iconst 2, 0, []), (40, .invokevirtual 106, 107, []), (43, .ifCond .eq 7, 0, []), (46, .iconst 1, 0, []), (47, .goto 4, 0, []), (50, .iconst 0, 0, []), (51, .ireturn, 0, [])]
def M_77 : xM := (6, 2, 0, 1, c_77)
def c_78 : List xR := [(0, .aload_n 0, 0, []), (1, .ldc 109, 1000, []), (3, .invokevirtual 89, 103, []), (6, .ifCond .eq 46, 0, []), (9, .aload_n 0, 0, []), (10, .getfield 12, 59, []), (13, .iconst 0, 0, []), (14, .iconst 0, 0, []), (15, .invokevirtual 77, 101, []), (18, .aload_n 0, 0, []), (19, .iconst 2, 0, []), (20, .invokevirtual 106, 107, []), (23, .ifCond .eq 24, 0, []), (26, .aload_n 0, 0, []), (27, .ldc 111, 1014, []), (29, .invokevirtual 89, 103, []), (32, .ifCond .eq 15, 0, []), (35, .aload_n 0, 0, []), (36, .iconst 4, 0, []), (37, .invokevirtual 106, 107, []), (40, .ifCond .eq 7, 0, []), (43, .iconst 1, 0, []), (44, .goto 4, 0, []), (47, .iconst 0, 0, []), (48, .istore_n 1, 0, []), (49, .goto 89, 0, []), (52, .aload_n 0, 0, []), (53, .ldc 113, 1015, []), (55, .invokevirtual 89, 103, []), (58, .ifCond .eq 21, 0, []), (61, .aload_n 0, 0, []), (62, .getfield 12, 59, []), (65, .iconst 0, 0, []), (66, .iconst 1, 0, []), (67, .invokevirtual 77, 101, []), (70, .aload_n 0, 0, []), (71, .iconst 2, 0, []), (72, .invokevirtual 106, 107, []), (75, .istore_n 1, 0, []), (76, .goto 62, 0, []), (79, .aload_n 0, 0, []), (80, .ldc 115, 1016, []), (82, .invokevirtual 89, 103, []), (85, .ifCond .eq 21, 0, []), (88, .aload_n 0, 0, []), (89, .getfield 12, 59, []), (92, .iconst 0, 0, []), (93, .iconst 2, 0, []), (94, .invokevirtual 77, 101, []), (97, .aload_n 0, 0, []), (98, .iconst 2, 0, []), (99, .invokevirtual 106, 107, []), (102, .istore_n 1, 0, []), (103, .goto 35, 0, []), (106, .aload_n 0, 0, []), (107, .getfield 12, 59, []), (110, .iconst 0, 0, []), (111, .iconst 3, 0, []), (112, .invokevirtual 77, 101, []), (115, .aload_n 0, 0, []), (116, .ldc 117, 1017, []), (118, .invokevirtual 89, 103, []), (121, .ifCond .eq 15, 0, []), (124, .aload_n 0, 0, []), (125, .iconst 2, 0, []), (126, .invokevirtual 106, 107, []), (129, .ifCond .eq 7, 0, []), (132, .iconst 1, 0, []), (133, .goto 4, 0, []), (136, .iconst 0, 0, []), (137, .istore_n 1, 0, []), (138, .aload_n 0, 0, []), (139, .getfield 12, 59, []), (142, .iconst 1, 0, []), (143, .iconst 1, 0, []), (144, .invokevirtual 77, 101, []), (147, .iload_n 1, 0, []), (148, .ifCond .eq 64, 0, []), (151, .aload_n 0, 0, []), (152, .ldc 119, 1018, []), (154, .invokevirtual 89, 103, []), (157, .ifCond .eq 55, 0, []), (160, .aload_n 0, 0, []), (161, .getfield 36, 68, []), (164, .bipush (-3), 0, []), (166, .if_icmp .ne 24, 0, []), (169, .aload_n 0, 0, []), (170, .getfield 45, 71, []), (173, .iconst 1, 0, []), (174, .if_icmp .lt 16, 0, []), (177, .aload_n 0, 0, []), (178, .getfield 45, 71, []), (181, .bipush 20, 0, []), (183, .if_icmp .gt 7, 0, []), (186, .iconst 1, 0, []), (187, .goto 4, 0, []), (190, .iconst 0, 0, []), (191, .istore_n 1, 0, [1]), (192, .aload_n 0, 0, []), (193, .getfield 12, 59, []), (196, .iconst 1, 0, []), (197, .aload_n 0, 0, []), (198, .getfield 45, 71, []), (201, .invokevirtual 77, 101, []), (204, .iload_n 1, 0, []), (205, .ifCond .eq 7, 0, []), (208, .aload_n 0, 0, []), (209, .invokevirtual 51, 98, []), (212, .iload_n 1, 0, []), (213, .ireturn, 0, [])]
def M_78 : xM := (6, 2, 0, 2, c_78)
def c_79 : List xR := [(0, .aload_n 0, 0, []), (1, .getfield 12, 59, []), (4, .iload_n 1, 0, []), (5, .aload_n 0, 0, []), (6, .getfield 12, 59, []), (9, .getfield 92, 51, []), (12, .invokevirtual 77, 101, []), (15, .aload_n 0, 0, []), (16, .iconst 0, 0, []), (17, .invokevirtual 121, 108, []), (20, .istore_n 2, 0, []), (21, .aload_n 0, 0, []), (22, .getfield 12, 59, []), (25, .iload_n 1, 0, []), (26, .iconst 1, 0, []), (27, .iadd, 0, []), (28, .aload_n 0, 0, []), (29, .getfield 12, 59, []), (32, .getfield 92, 51, []), (35, .invokevirtual 77, 101, []), (38, .iload_n 2, 0, []), (39, .ireturn, 0, [])]
def M_79 : xM := (6, 2, 0, 3, c_79)
def c_80 : List xR := [(0, .aload_n 0, 0, []), (1, .iload_n 1, 0, []), (2, .invokevirtual 124, 118, []), (5, .istore_n 2, 0, []), (6, .iconst 0, 0, []), (7, .istore_n 3, 0, []), (8, .iload_n 3, 0, [4]), (9, .sipush 400, 0, []), (12, .if_icmp .ge 55, 0, []), (15, .iload_n 2, 0, []), (16, .ifCond .eq 51, 0, []), (19, .aload_n 0, 0, []), (20, .ldc 127, 1024, []), (22, .invokevirtual 89, 103, []), (25, .ifCond .eq 42, 0, []), (28, .aload_n 0, 0, []), (29, .getfield 12, 59, []), (32, .getfield 92, 51, []), (35, .istore 4, 0, []), (37, .aload_n 0, 0, []), (38, .getfield 12, 59, []), (41, .iconst 4, 0, []), (42, .iconst 0, 0, []), (43, .invokevirtual 129, 112, []), (46, .aload_n 0, 0, []), (47, .iload_n 1, 0, []), (48, .invokevirtual 124, 118, []), (51, .istore_n 2, 0, []), (52, .aload_n 0, 0, []), (53, .getfield 12, 59, []), (56, .iload 4, 0, []), (58, .invokevirtual 132, 120, []), (61, .iinc 3 1, 0, []), (64, .goto (-56), 0, []), (67, .iload_n 2, 0, []), (68, .ireturn, 0, [])]
def M_80 : xM := (6, 2, 0, 5, c_80)
def c_81 : List xR := [(0, .aload_n 0, 0, []), (1, .iload_n 1, 0, []), (2, .invokevirtual 136, 119, []), (5, .istore_n 2, 0, []), (6, .iconst 0, 0, []), (7, .istore_n 3, 0, []), (8, .iload_n 3, 0, [4]), (9, .sipush 400, 0, []), (12, .if_icmp .ge 55, 0, []), (15, .iload_n 2, 0, []), (16, .ifCond .eq 51, 0, []), (19, .aload_n 0, 0, []), (20, .ldc 139, 1023, []), (22, .invokevirtual 89, 103, []), (25, .ifCond .eq 42, 0, []), (28, .aload_n 0, 0, []), (29, .getfield 12, 59, []), (32, .getfield 92, 51, []), (35, .istore 4, 0, []), (37, .aload_n 0, 0, []), (38, .getfield 12, 59, []), (41, .iconst 3, 0, []), (42, .iconst 0, 0, []), (43, .invokevirtual 129, 112, []), (46, .aload_n 0, 0, []), (47, .iload_n 1, 0, []), (48, .invokevirtual 136, 119, []), (51, .istore_n 2, 0, []), (52, .aload_n 0, 0, []), (53, .getfield 12, 59, []), (56, .iload 4, 0, []), (58, .invokevirtual 132, 120, []), (61, .iinc 3 1, 0, []), (64, .goto (-56), 0, []), (67, .iload_n 2, 0, []), (68, .ireturn, 0, [])]
def M_81 : xM := (6, 2, 0, 5, c_81)
def c_82 : List xR := [(0, .iconst 0, 0, []), (1, .istore_n 2, 0, []), (2, .iconst 0, 0, []), (3, .istore_n 3, 0, []), (4, .iload_n 3, 0, [4]), (5, .sipush 400, 0, []), (8, .if_icmp .ge 28, 0, []), (11, .aload_n 0, 0, []), (12, .ldc 141, 1022, []), (14, .invokevirtual 89, 103, []), (17, .ifCond .eq 19, 0, []), (20, .iload_n 2, 0, []), (21, .ifCond .ne 7, 0, []), (24, .iconst 1, 0, []), (25, .goto 4, 0, []), (28, .iconst 0, 0, []), (29, .istore_n 2, 0, []), (30, .iinc 3 1, 0, []), (33, .goto (-29), 0, []), (36, .aload_n 0, 0, [3, 4]), (37, .getfield 36, 68, []), (40, .bipush 40, 0, []), (42, .if_icmp .ne 46, 0, []), (45, .iload_n 1, 0, []), (46, .bipush 8, 0, []), (48, .if_icmp .ge 35, 0, []), (51, .aload_n 0, 0, []), (52, .bipush 40, 0, []), (54, .invokevirtual 143, 111, []), (57, .ifCond .eq 26, 0, []), (60, .aload_n 0, 0, []), (61, .iload_n 1, 0, []), (62, .iconst 1, 0, []), (63, .iadd, 0, []), (64, .invokevirtual 95, 117, []), (67, .ifCond .eq 16, 0, []), (70, .aload_n 0, 0, []), (71, .bipush 41, 0, []), (73, .invokevirtual 143, 111, []), (76, .ifCond .eq 7, 0, []), (79, .iconst 1, 0, []), (80, .goto 4, 0, []), (83, .iconst 0, 0, []), (84, .istore_n 3, 0, []), (85, .goto 96, 0, []), (88, .aload_n 0, 0, []), (89, .iload_n 1, 0, []), (90, .invokevirtual 121, 108, []), (93, .istore_n 3, 0, []), (94, .aload_n 0, 0, []), (95, .getfield 36, 68, []), (98, .bipush 60, 0, []), (100, .if_icmp .ne 8, 0, []), (103, .bipush 10, 0, []), (105, .goto 19, 0, []), (108, .aload_n 0, 0, []), (109, .getfield 36, 68, []), (112, .bipush 62, 0, []), (114, .if_icmp .ne 8, 0, []), (117, .bipush 11, 0, []), (119, .goto 5, 0, []), (122, .bipush 12, 0, []), (124, .istore 4, 0, [4]), (126, .iload_n 3, 0, []), (127, .ifCond .eq 42, 0, []), (130, .aload_n 0, 0, []), (131, .bipush 60, 0, []), (133, .invokevirtual 143, 111, []), (136, .ifCond .ne 21, 0, []), (139, .aload_n 0, 0, []), (140, .bipush 62, 0, []), (142, .invokevirtual 143, 111, []), (145, .ifCond .ne 12, 0, []), (148, .aload_n 0, 0, []), (149, .bipush 61, 0, []), (151, .invokevirtual 143, 111, []), (154, .ifCond .eq 15, 0, []), (157, .aload_n 0, 0, [3]), (158, .iload_n 1, 0, []), (159, .invokevirtual 121, 108, []), (162, .ifCond .eq 7, 0, []), (165, .iconst 1, 0, []), (166, .goto 4, 0, []), (169, .iconst 0, 0, []), (170, .istore_n 3, 0, []), (171, .aload_n 0, 0, []), (172, .getfield 12, 59, []), (175, .iload 4, 0, []), (177, .iconst 0, 0, []), (178, .invokevirtual 129, 112, []), (181, .iload_n 3, 0, [1, 4]), (182, .ifCond .eq 16, 0, []), (185, .iload_n 2, 0, []), (186, .ifCond .eq 12, 0, []), (189, .aload_n 0, 0, []), (190, .getfield 12, 59, []), (193, .iconst 2, 0, []), (194, .iconst 0, 0, []), (195, .invokevirtual 129, 112, []), (198, .iload_n 3, 0, []), (199, .ireturn, 0, [])]
def M_82 : xM := (6, 2, 0, 5, c_82)
def c_83 : List xR := [(0, .aload_n 0, 0, []), (1, .iload_n 1, 0, []), (2, .invokevirtual 147, 109, []), (5, .istore_n 2, 0, []), (6, .iconst 0, 0, []), (7, .istore_n 3, 0, []), (8, .iload_n 3, 0, [4]), (9, .sipush 400, 0, []), (12, .if_icmp .ge 68, 0, []), (15, .iload_n 2, 0, []), (16, .ifCond .eq 64, 0, []), (19, .aload_n 0, 0, []), (20, .getfield 36, 68, []), (23, .bipush 43, 0, []), (25, .if_icmp .eq 12, 0, []), (28, .aload_n 0, 0, []), (29, .getfield 36, 68, []), (32, .bipush 45, 0, []), (34, .if_icmp .ne 46, 0, []), (37, .aload_n 0, 0, []), (38, .getfield 36, 68, []), (41, .bipush 43, 0, []), (43, .if_icmp .ne 7, 0, []), (46, .iconst 5, 0, []), (47, .goto 5, 0, []), (50, .bipush 6, 0, []), (52, .istore 4, 0, [2, 4]), (54, .aload_n 0, 0, []), (55, .invokevirtual 51, 98, []), (58, .aload_n 0, 0, []), (59, .iload_n 1, 0, []), (60, .invokevirtual 147, 109, []), (63, .istore_n 2, 0, []), (64, .aload_n 0, 0, []), (65, .getfield 12, 59, []), (68, .iload 4, 0, []), (70, .iconst 0, 0, []), (71, .invokevirtual 129, 112, []), (74, .iinc 3 1, 0, []), (77, .goto (-69), 0, []), (80, .iload_n 2, 0, []), (81, .ireturn, 0, [])]
def M_83 : xM := (6, 2, 0, 5, c_83)
def c_84 : List xR := [(0, .aload_n 0, 0, []), (1, .iload_n 1, 0, []), (2, .invokevirtual 150, 110, []), (5, .istore_n 2, 0, []), (6, .iconst 0, 0, []), (7, .istore_n 3, 0, []), (8, .iload_n 3, 0, [4]), (9, .sipush 400, 0, []), (12, .if_icmp .ge 92, 0, []), (15, .iload_n 2, 0, []), (16, .ifCond .eq 88, 0, []), (19, .aload_n 0, 0, []), (20, .getfield 36, 68, []), (23, .bipush 42, 0, []), (25, .if_icmp .eq 21, 0, []), (28, .aload_n 0, 0, []), (29, .getfield 36, 68, []), (32, .bipush 47, 0, []), (34, .if_icmp .eq 12, 0, []), (37, .aload_n 0, 0, []), (38, .getfield 36, 68, []), (41, .bipush 37, 0, []), (43, .if_icmp .ne 61, 0, []), (46, .aload_n 0, 0, [2, 4]), (47, .getfield 36, 68, []), (50, .bipush 42, 0, []), (52, .if_icmp .ne 8, 0, []), (55, .bipush 7, 0, []), (57, .goto 19, 0, []), (60, .aload_n 0, 0, []), (61, .getfield 36, 68, []), (64, .bipush 47, 0, []), (66, .if_icmp .ne 8, 0, []), (69, .bipush 8, 0, []), (71, .goto 5, 0, []), (74, .bipush 9, 0, []), (76, .istore 4, 0, [2, 4]), (78, .aload_n 0, 0, []), (79, .invokevirtual 51, 98, []), (82, .aload_n 0, 0, []), (83, .iload_n 1, 0, []), (84, .invokevirtual 150, 110, []), (87, .istore_n 2, 0, []), (88, .aload_n 0, 0, []), (89, .getfield 12, 59, []), (92, .iload 4, 0, []), (94, .iconst 0, 0, []), (95, .invokevirtual 129, 112, []), (98, .iinc 3 1, 0, []), (101, .goto (-93), 0, []), (104, .iload_n 2, 0, []), (105, .ireturn, 0, [])]
def M_84 : xM := (6, 2, 0, 5, c_84)
def c_85 : List xR := [(0, .aload_n 0, 0, []), (1, .getfield 36, 68, []), (4, .bipush 91, 0, []), (6, .if_icmp .ne 43, 0, []), (9, .iload_n 1, 0, []), (10, .bipush 8, 0, []), (12, .if_icmp .ge 35, 0, []), (15, .aload_n 0, 0, []), (16, .bipush 91, 0, []), (18, .invokevirtual 143, 111, []), (21, .ifCond .eq 26, 0, []), (24, .aload_n 0, 0, []), (25, .iload_n 1, 0, []), (26, .iconst 1, 0, []), (27, .iadd, 0, []), (28, .invokevirtual 121, 108, []), (31, .ifCond .eq 16, 0, []), (34, .aload_n 0, 0, []), (35, .bipush 93, 0, []), (37, .invokevirtual 143, 111, []), (40, .ifCond .eq 7, 0, []), (43, .iconst 1, 0, []), (44, .goto 4, 0, []), (47, .iconst 0, 0, []), (48, .ireturn, 0, []), (49, .aload_n 0, 0, []), (50, .getfield 33, 67, []), (53, .bipush 50, 0, []), (55, .if_icmp .ne 5, 0, []), (58, .iconst 0, 0, []), (59, .ireturn, 0, []), (60, .aload_n 0, 0, []), (61, .dup, 0, []), (62, .getfield 33, 67, []), (65, .iconst 1, 0, []), (66, .iadd, 0, []), (67, .putfield 33, 67, []), (70, .aload_n 0, 0, []), (71, .getfield 36, 68, []), (74, .bipush (-3), 0, []), (76, .if_icmp .ne 31, 0, []), (79, .aload_n 0, 0, []), (80, .getfield 45, 71, []), (83, .sipush 1000, 0, []), (86, .if_icmp .gt 21, 0, []), (89, .aload_n 0, 0, []), (90, .getfield 12, 59, []), (93, .iconst 0, 0, []), (94, .aload_n 0, 0, []), (95, .getfield 45, 71, []), (98, .invokevirtual 129, 112, []), (101, .aload_n 0, 0, []), (102, .invokevirtual 51, 98, []), (105, .iconst 1, 0, []), (106, .ireturn, 0, []), (107, .aload_n 0, 0, [1, 2]), (108, .getfield 29, 66, []), (111, .ifCond .eq 21, 0, []), (114, .aload_n 0, 0, []), (115, .ldc 153, 1001, []), (117, .invokevirtual 89, 103, []), (120, .ifCond .eq 12, 0, []), (123, .aload_n 0, 0, []), (124, .iconst 0, 0, []), (125, .sipush 1000, 0, []), (128, .invokevirtual 155, 113, []), (131, .ireturn, 0, []), (132, .aload_n 0, 0, [1, 2]), (133, .getfield 29, 66, []), (136, .ifCond .eq 22, 0, []), (139, .aload_n 0, 0, []), (140, .ldc 159, 1002, []), (142, .invokevirtual 89, 103, []), (145, .ifCond .eq 13, 0, []), (148, .aload_n 0, 0, []), (149, .sipush 1000, 0, []), (152, .bipush 24, 0, []), (154, .invokevirtual 155, 113, []), (157, .ireturn, 0, []), (158, .aload_n 0, 0, []), (159, .getfield 29, 66, []), (162, .ifCond .eq 10, 0, []), (165, .aload_n 0, 0, []), (166, .invokevirtual 161, 114, []), (169, .goto 7, 0, []), (172, .aload_n 0, 0, []), (173, .invokevirtual 164, 115, []), (176, .istore_n 2, 0, [1, 2]), (177, .iload_n 2, 0, []), (178, .iconst (-1), 0, []), (179, .if_icmp .ne 5, 0, []), (182, .iconst 0, 0, []), (183, .ireturn, 0, []), (184, .aload_n 0, 0, []), (185, .getfield 12, 59, []), (188, .iconst 1, 0, []), (189, .iload_n 2, 0, []), (190, .invokevirtual 129, 112, []), (193, .aload_n 0, 0, []), (194, .invokevirtual 51, 98, []), (197, .iconst 1, 0, []), (198, .ireturn, 0, [])]
def M_85 : xM := (6, 2, 0, 3, c_85)
def c_86 : List xR := [(0, .aload_n 0, 0, []), (1, .getfield 36, 68, []), (4, .bipush (-3), 0, []), (6, .if_icmp .ne 11, 0, []), (9, .aload_n 0, 0, []), (10, .getfield 45, 71, []), (13, .iload_n 2, 0, []), (14, .if_icmp .lt 5, 0, []), (17, .iconst 0, 0, []), (18, .ireturn, 0, []), (19, .aload_n 0, 0, []), (20, .getfield 12, 59, []), (23, .getfield 167, 48, []), (26, .aload_n 0, 0, []), (27, .getfield 12, 59, []), (30, .getfield 170, 57, []), (33, .iload_n 1, 0, []), (34, .aload_n 0, 0, []), (35, .getfield 45, 71, []), (38, .iadd, 0, []), (39, .iastore, 0, []), (40, .aload_n 0, 0, []), (41, .getfield 12, 59, []), (44, .iconst 1, 0, []), (45, .bipush 6, 0, []), (47, .aload_n 0, 0, []), (48, .getfield 12, 59, []), (51, .getfield 170, 57, []), (54, .iadd, 0, []), (55, .invokevirtual 129, 112, []), (58, .aload_n 0, 0, []), (59, .getfield 12, 59, []), (62, .dup, 0, []), (63, .getfield 170, 57, []), (66, .iconst 1, 0, []), (67, .iadd, 0, []), (68, .putfield 170, 57, []), (71, .aload_n 0, 0, []), (72, .invokevirtual 51, 98, []), (75, .iconst 1, 0, []), (76, .ireturn, 0, [])]
def M_86 : xM := (6, 2, 0, 3, c_86)
def c_87 : List xR := [(0, .aload_n 0, 0, []), (1, .ldc 173, 1009, []), (3, .invokevirtual 73, 104, []), (6, .ifCond .eq 7, 0, []), (9, .iconst 0, 0, []), (10, .goto 83, 0, []), (13, .aload_n 0, 0, []), (14, .ldc 175, 1010, []), (16, .invokevirtual 73, 104, []), (19, .ifCond .eq 7, 0, []), (22, .iconst 1, 0, []), (23, .goto 70, 0, []), (26, .aload_n 0, 0, []), (27, .ldc 159, 1002, []), (29, .invokevirtual 73, 104, []), (32, .ifCond .eq 7, 0, []), (35, .iconst 2, 0, []), (36, .goto 57, 0, []), (39, .aload_n 0, 0, []), (40, .ldc 177, 1011, []), (42, .invokevirtual 73, 104, []), (45, .ifCond .eq 7, 0, []), (48, .iconst 3, 0, []), (49, .goto 44, 0, []), (52, .aload_n 0, 0, []), (53, .ldc 179, 1012, []), (55, .invokevirtual 73, 104, []), (58, .ifCond .eq 7, 0, []), (61, .iconst 4, 0, []), (62, .goto 31, 0, []), (65, .aload_n 0, 0, []), (66, .ldc 181, 1003, []), (68, .invokevirtual 73, 104, []), (71, .ifCond .eq 7, 0, []), (74, .iconst 5, 0, []), (75, .goto 18, 0, []), (78, .aload_n 0, 0, []), (79, .ldc 183, 1013, []), (81, .invokevirtual 73, 104, []), (84, .ifCond .eq 8, 0, []), (87, .bipush 6, 0, []), (89, .goto 4, 0, []), (92, .iconst (-1), 0, []), (93, .ireturn, 0, [])]
def M_87 : xM := (6, 1, 0, 1, c_87)
def c_88 : List xR := [(0, .aload_n 0, 0, []), (1, .ldc 181, 1003, []), (3, .invokevirtual 73, 104, []), (6, .ifCond .eq 7, 0, []), (9, .iconst 0, 0, []), (10, .goto 69, 0, []), (13, .aload_n 0, 0, []), (14, .ldc 185, 1004, []), (16, .invokevirtual 73, 104, []), (19, .ifCond .eq 7, 0, []), (22, .iconst 1, 0, []), (23, .goto 56, 0, []), (26, .aload_n 0, 0, []), (27, .ldc 187, 1005, []), (29, .invokevirtual 73, 104, []), (32, .ifCond .eq 7, 0, []), (35, .iconst 2, 0, []), (36, .goto 43, 0, []), (39, .aload_n 0, 0, []), (40, .ldc 189, 1006, []), (42, .invokevirtual 73, 104, []), (45, .ifCond .eq 7, 0, []), (48, .iconst 3, 0, []), (49, .goto 30, 0, []), (52, .aload_n 0, 0, []), (53, .ldc 191, 1007, []), (55, .invokevirtual 73, 104, []), (58, .ifCond .eq 7, 0, []), (61, .iconst 4, 0, []), (62, .goto 17, 0, []), (65, .aload_n 0, 0, []), (66, .ldc 193, 1008, []), (68, .invokevirtual 73, 104, []), (71, .ifCond .eq 7, 0, []), (74, .iconst 5, 0, []), (75, .goto 4, 0, []), (78, .iconst (-1), 0, []), (79, .ireturn, 0, [])]
def M_88 : xM := (6, 1, 0, 1, c_88)
def c_89 : List xR := [(0, .aload_n 0, 0, []), (1, .invokespecial 3, 15, []), (4, .aload_n 0, 0, []), (5, .iconst 0, 0, []), (6, .putfield 9, 50, []), (9, .aload_n 0, 0, []), (10, .iconst 0, 0, []), (11, .putfield 15, 52, []), (14, .aload_n 0, 0, []), (15, .iconst 0, 0, []), (16, .putfield 18, 56, []), (19, .aload_n 0, 0, []), (20, .sipush 400, 0, []), (23, .newarray .int, 0, []), (25, .putfield 21, 44, []), (28, .aload_n 0, 0, []), (29, .sipush 400, 0, []), (32, .newarray .int, 0, []), (34, .putfield 25, 45, []), (37, .aload_n 0, 0, []), (38, .bipush 96, 0, []), (40, .newarray .int, 0, []), (42, .putfield 28, 46, []), (45, .aload_n 0, 0, []), (46, .bipush 50, 0, []), (48, .newarray .int, 0, []), (50, .putfield 31, 47, [0]), (53, .return_, 0, [])]
def M_89 : xM := (7, 0, 2, 1, c_89)
def c_90 : List xR := [(0, .aload_n 0, 0, []), (1, .invokespecial 3, 15, []), (4, .aload_n 0, 0, []), (5, .iconst 0, 0, []), (6, .putfield 9, 50, []), (9, .aload_n 0, 0, []), (10, .iconst 0, 0, []), (11, .putfield 15, 52, []), (14, .aload_n 0, 0, []), (15, .iconst 0, 0, []), (16, .putfield 18, 56, []), (19, .aload_n 0, 0, []), (20, .aload_n 1, 0, []), (21, .getfield 21, 44, []), (24, .aload_n 1, 0, []), (25, .getfield 9, 50, []), (28, .invokestatic 34, 122, []), (31, .putfield 21, 44, []), (34, .aload_n 0, 0, []), (35, .aload_n 1, 0, []), (36, .getfield 25, 45, []), (39, .aload_n 1, 0, []), (40, .getfield 9, 50, []), (43, .invokestatic 34, 122, []), (46, .putfield 25, 45, []), (49, .aload_n 0, 0, []), (50, .aload_n 1, 0, []), (51, .getfield 28, 46, []), (54, .aload_n 1, 0, []), (55, .getfield 15, 52, []), (58, .bipush 8, 0, []), (60, .imul, 0, []), (61, .invokestatic 34, 122, []), (64, .putfield 28, 46, []), (67, .aload_n 0, 0, []), (68, .aload_n 1, 0, []), (69, .getfield 31, 47, []), (72, .aload_n 1, 0, []), (73, .getfield 18, 56, []), (76, .invokestatic 34, 122, []), (79, .putfield 31, 47, []), (82, .aload_n 0, 0, []), (83, .aload_n 1, 0, []), (84, .getfield 9, 50, []), (87, .putfield 9, 50, []), (90, .aload_n 0, 0, []), (91, .aload_n 1, 0, []), (92, .getfield 15, 52, []), (95, .putfield 15, 52, []), (98, .aload_n 0, 0, []), (99, .aload_n 1, 0, []), (100, .getfield 18, 56, []), (103, .putfield 18, 56, []), (106, .return_, 0, [])]
def M_90 : xM := (7, 0, 2, 2, c_90)
def c_91 : List xR := [(0, .aload_n 0, 0, []), (1, .iconst 0, 0, []), (2, .putfield 9, 50, []), (5, .aload_n 0, 0, []), (6, .iconst 0, 0, []), (7, .putfield 15, 52, []), (10, .aload_n 0, 0, []), (11, .iconst 0, 0, []), (12, .putfield 18, 56, []), (15, .return_, 0, [])]
def M_91 : xM := (7, 0, 0, 1, c_91)
def c_92 : List xR := [(0, .aload_n 0, 0, []), (1, .getfield 28, 46, []), (4, .iload_n 1, 0, []), (5, .bipush 8, 0, []), (7, .imul, 0, []), (8, .iload_n 2, 0, []), (9, .iadd, 0, []), (10, .iaload, 0, []), (11, .ireturn, 0, [])]
def M_92 : xM := (7, 1, 0, 3, c_92)
def c_93 : List xR := [(0, .aload_n 0, 0, []), (1, .getfield 28, 46, []), (4, .aload_n 0, 0, []), (5, .getfield 15, 52, []), (8, .bipush 8, 0, []), (10, .imul, 0, []), (11, .iload_n 1, 0, []), (12, .iadd, 0, []), (13, .iload_n 2, 0, []), (14, .iastore, 0, []), (15, .return_, 0, [])]
def M_93 : xM := (7, 0, 0, 3, c_93)
def c_94 : List xR := [(0, .aload_n 0, 0, []), (1, .getfield 9, 50, []), (4, .aload_n 0, 0, []), (5, .getfield 21, 44, []), (8, .arraylength, 0, []), (9, .if_icmp .ge 33, 0, []), (12, .aload_n 0, 0, []), (13, .getfield 21, 44, []), (16, .aload_n 0, 0, []), (17, .getfield 9, 50, []), (20, .iload_n 1, 0, []), (21, .iastore, 0, []), (22, .aload_n 0, 0, []), (23, .getfield 25, 45, []), (26, .aload_n 0, 0, []), (27, .getfield 9, 50, []), (30, .iload_n 2, 0, []), (31, .iastore, 0, []), (32, .aload_n 0, 0, []), (33, .dup, 0, []), (34, .getfield 9, 50, []), (37, .iconst 1, 0, []), (38, .iadd, 0, []), (39, .putfield 9, 50, []), (42, .return_, 0, [])]
def M_94 : xM := (7, 0, 0, 3, c_94)
def c_95 : List xR := [(0, .iload_n 1, 0, []), (1, .ifCond .lt 21, 0, []), (4, .iload_n 1, 0, []), (5, .aload_n 0, 0, []), (6, .getfield 9, 50, []), (9, .if_icmp .ge 13, 0, []), (12, .aload_n 0, 0, []), (13, .getfield 25, 45, []), (16, .iload_n 1, 0, []), (17, .aload_n 0, 0, []), (18, .getfield 9, 50, []), (21, .iastore, 0, []), (22, .return_, 0, [])]
def M_95 : xM := (7, 0, 0, 2, c_95)
def c_96 : List xR := [(0, .aload_n 0, 0, []), (1, .iload_n 1, 0, []), (2, .iload_n 2, 0, []), (3, .invokevirtual 40, 51, []), (6, .istore 5, 0, []), (8, .aload_n 0, 0, []), (9, .iload_n 1, 0, []), (10, .iload_n 2, 0, []), (11, .iconst 1, 0, []), (12, .iadd, 0, []), (13, .invokevirtual 40, 51, []), (16, .istore 6, 0, []), (18, .iconst 0, 0, []), (19, .istore 7, 0, []), (21, .iload 5, 0, []), (23, .istore 8, 0, []), (25, .iload 8, 0, [1, 2, 9, 10, 11]), (27, .iload 6, 0, []), (29, .if_icmp .ge 239, 0, []), (32, .iload 7, 0, []), (34, .aload 4, 0, []), (36, .arraylength, 0, []), (37, .if_icmp .ge 231, 0, []), (40, .aload_n 0, 0, []), (41, .getfield 21, 44, []), (44, .iload 8, 0, []), (46, .iaload, 0, []), (47, .istore 9, 0, []), (49, .aload_n 0, 0, []), (50, .getfield 25, 45, []), (53, .iload 8, 0, []), (55, .iaload, 0, []), (56, .istore 10, 0, []), (58, .iload 9, 0, []), (60, .ifCond .ne 16, 0, []), (63, .aload 4, 0, []), (65, .iload 7, 0, []), (67, .iload 10, 0, []), (69, .iastore, 0, []), (70, .iinc 7 1, 0, []), (73, .goto 189, 0, []), (76, .iload 9, 0, []), (78, .iconst 1, 0, []), (79, .if_icmp .ne 18, 0, []), (82, .aload 4, 0, []), (84, .iload 7, 0, []), (86, .aload_n 3, 0, []), (87, .iload 10, 0, []), (89, .iaload, 0, []), (90, .iastore, 0, []), (91, .iinc 7 1, 0, []), (94, .goto 168, 0, []), (97, .iload 7, 0, []), (99, .ifCond .ne 6, 0, []), (102, .ldc 44, 0, []), (104, .ireturn, 0, []), (105, .iload 9, 0, []), (107, .iconst 2, 0, []), (108, .if_icmp .ne 22, 0, []), (111, .aload 4, 0, []), (113, .iload 7, 0, []), (115, .iconst 1, 0, []), (116, .isub, 0, []), (117, .iconst 1, 0, []), (118, .aload 4, 0, []), (120, .iload 7, 0, []), (122, .iconst 1, 0, []), (123, .isub, 0, []), (124, .iaload, 0, []), (125, .isub, 0, []), (126, .iastore, 0, []), (127, .goto 135, 0, []), (130, .iload 9, 0, []), (132, .iconst 3, 0, []), (133, .if_icmp .eq 9, 0, []), (136, .iload 9, 0, []), (138, .iconst 4, 0, []), (139, .if_icmp .ne 70, 0, []), (142, .aload 4, 0, [1, 2, 11]), (144, .iload 7, 0, []), (146, .iconst 1, 0, []), (147, .isub, 0, []), (148, .iaload, 0, []), (149, .iload 9, 0, []), (151, .iconst 4, 0, []), (152, .if_icmp .ne 7, 0, []), (155, .iconst 1, 0, []), (156, .goto 4, 0, []), (159, .iconst 0, 0, []), (160, .if_icmp .ne 7, 0, [1, 2, 9, 11]), (163, .iconst 1, 0, []), (164, .goto 4, 0, []), (167, .iconst 0, 0, []), (168, .istore 11, 0, []), (170, .iload 7, 0, []), (172, .iload 11, 0, []), (174, .ifCond .eq 7, 0, []), (177, .iconst 0, 0, []), (178, .goto 4, 0, []), (181, .iconst 1, 0, []), (182, .isub, 0, [1, 2, 7, 9]), (183, .istore 7, 0, []), (185, .iload 11, 0, []), (187, .ifCond .eq 15, 0, []), (190, .iload 8, 0, []), (192, .iload 10, 0, []), (194, .iconst 1, 0, []), (195, .isub, 0, []), (196, .invokestatic 45, 52, []), (199, .goto 5, 0, []), (202, .iload 8, 0, []), (204, .istore 8, 0, []), (206, .goto 56, 0, []), (209, .iload 7, 0, []), (211, .iconst 1, 0, []), (212, .if_icmp .ne 6, 0, []), (215, .ldc 44, 0, []), (217, .ireturn, 0, []), (218, .iinc 7 (-1), 0, []), (221, .aload 4, 0, []), (223, .iload 7, 0, []), (225, .iconst 1, 0, []), (226, .isub, 0, []), (227, .iload 9, 0, []), (229, .aload 4, 0, []), (231, .iload 7, 0, []), (233, .iconst 1, 0, []), (234, .isub, 0, []), (235, .iaload, 0, []), (236, .i2l, 0, []), (237, .aload 4, 0, [1, 2, 9, 10, 11]), (239, .iload 7, 0, []), (241, .iaload, 0, []), (242, .i2l, 0, []), (243, .invokestatic 50, 53, []), (246, .iastore, 0, []), (247, .aload 4, 0, []), (249, .iload 7, 0, []), (251, .iconst 1, 0, []), (252, .isub, 0, []), (253, .iaload, 0, []), (254, .ldc 44, 0, []), (256, .if_icmp .ne 6, 0, []), (259, .ldc 44, 0, []), (261, .ireturn, 0, []), (262, .iinc 8 1, 0, []), (265, .goto (-240), 0, []), (268, .iload 5, 0, []), (270, .iload 6, 0, []), (272, .if_icmp .ne 7, 0, []), (275, .iconst 1, 0, []), (276, .goto 7, 0, []), (279, .aload 4, 0, []), (281, .iconst 0, 0, []), (282, .iaload, 0, []), (283, .ireturn, 0, [])]
def M_96 : xM := (7, 1, 0, 12, c_96)
def c_97 : List xR := [(0, .iload_n 0, 0, []), (1, .tableswitch 139 5 11 #[43, 51, 59, 67, 87, 107, 123], 0, []), (44, .lload_n 1, 0, []), (45, .lload_n 3, 0, []), (46, .ladd, 0, []), (47, .lstore 5, 0, []), (49, .goto 104, 0, []), (52, .lload_n 1, 0, []), (53, .lload_n 3, 0, []), (54, .lsub, 0, []), (55, .lstore 5, 0, []), (57, .goto 96, 0, []), (60, .lload_n 1, 0, []), (61, .lload_n 3, 0, []), (62, .lmul, 0, []), (63, .lstore 5, 0, []), (65, .goto 88, 0, []), (68, .lload_n 3, 0, []), (69, .lconst 0, 0, []), (70, .lcmp, 0, []), (71, .ifCond .ne 9, 0, []), (74, .ldc2_w 54, 0, []), (77, .goto 6, 0, []), (80, .lload_n 1, 0, []), (81, .lload_n 3, 0, []), (82, .ldiv, 0, []), (83, .lstore 5, 0, []), (85, .goto 68, 0, []), (88, .lload_n 3, 0, []), (89, .lconst 0, 0, []), (90, .lcmp, 0, []), (91, .ifCond .ne 9, 0, []), (94, .ldc2_w 54, 0, []), (97, .goto 6, 0, []), (100, .lload_n 1, 0, []), (101, .lload_n 3, 0, []), (102, .lrem, 0, []), (103, .lstore 5, 0, []), (105, .goto 48, 0, []), (108, .lload_n 1, 0, []), (109, .lload_n 3, 0, []), (110, .lcmp, 0, []), (111, .ifCond .ge 7, 0, []), (114, .lconst 1, 0, []), (115, .goto 4, 0, []), (118, .lconst 0, 0, []), (119, .lstore 5, 0, []), (121, .goto 32, 0, []), (124, .lload_n 1, 0, []), (125, .lload_n 3, 0, []), (126, .lcmp, 0, []), (127, .ifCond .le 7, 0, []), (130, .lconst 1, 0, []), (131, .goto 4, 0, []), (134, .lconst 0, 0, []), (135, .lstore 5, 0, []), (137, .goto 16, 0, []), (140, .lload_n 1, 0, []), (141, .lload_n 3, 0, []), (142, .lcmp, 0, []), (143, .ifCond .ne 7, 0, []), (146, .lconst 1, 0, []), (147, .goto 4, 0, []), (150, .lconst 0, 0, []), (151, .lstore 5, 0, []), (153, .lload 5, 0, [0, 1, 2, 3, 4]), (155, .ldc2_w 56, 1, []), (158, .lcmp, 0, []), (159, .ifCond .lt 12, 0, []), (162, .lload 5, 0, []), (164, .ldc2_w 58, 2, []), (167, .lcmp, 0, []), (168, .ifCond .le 8, 0, []), (171, .ldc 44, 0, []), (173, .goto 6, 0, []), (176, .lload 5, 0, []), (178, .l2i, 0, []), (179, .ireturn, 0, [])]
def M_97 : xM := (7, 1, 1, 7, c_97)
def c_98 : List xR := [(0, .aload_n 0, 0, []), (1, .invokespecial 3, 1, []), (4, .aload_n 0, 0, []), (5, .new 9, 1, []), (8, .dup, 0, []), (9, .invokespecial 11, 2, []), (12, .putfield 12, 72, []), (15, .aload_n 0, 0, []), (16, .new 9, 1, []), (19, .dup, 0, []), (20, .invokespecial 11, 2, []), (23, .putfield 16, 73, []), (26, .aload_n 0, 0, []), (27, .new 9, 1, []), (30, .dup, 0, []), (31, .invokespecial 11, 2, []), (34, .putfield 19, 74, []), (37, .aload_n 0, 0, []), (38, .new 22, 4, []), (41, .dup, 0, []), (42, .invokespecial 24, 6, []), (45, .putfield 25, 75, []), (48, .aload_n 0, 0, []), (49, .new 29, 7, []), (52, .dup, 0, []), (53, .invokespecial 31, 8, []), (56, .putfield 32, 76, []), (59, .aload_n 0, 0, []), (60, .new 36, 8, []), (63, .dup, 0, []), (64, .invokespecial 38, 10, []), (67, .putfield 39, 77, []), (70, .aload_n 0, 0, []), (71, .new 36, 8, []), (74, .dup, 0, []), (75, .invokespecial 38, 10, []), (78, .putfield 43, 78, []), (81, .aload_n 0, 0, []), (82, .iconst 2, 0, []), (83, .anewarray 46, 12, []), (86, .putfield 48, 79, []), (89, .aload_n 0, 0, []), (90, .new 52, 13, []), (93, .dup, 0, []), (94, .invokespecial 54, 12, []), (97, .putfield 55, 80, []), (100, .aload_n 0, 0, []), (101, .bipush 56, 0, []), (103, .newarray .int, 0, []), (105, .putfield 59, 81, []), (108, .aload_n 0, 0, []), (109, .bipush 7, 0, []), (111, .newarray .int, 0, []), (113, .putfield 63, 82, []), (116, .aload_n 0, 0, []), (117, .bipush 40, 0, []), (119, .newarray .int, 0, []), (121, .putfield 66, 83, []), (124, .aload_n 0, 0, []), (125, .bipush 64, 0, []), (127, .newarray .int, 0, []), (129, .putfield 69, 84, []), (132, .aload_n 0, 0, []), (133, .bipush 20, 0, []), (135, .newarray .long, 0, []), (137, .putfield 72, 85, []), (140, .aload_n 0, 0, []), (141, .iconst 0, 0, []), (142, .putfield 76, 86, []), (145, .aload_n 0, 0, []), (146, .iconst (-1), 0, []), (147, .putfield 80, 87, []), (150, .aload_n 0, 0, []), (151, .iconst (-1), 0, []), (152, .putfield 83, 88, []), (155, .aload_n 0, 0, []), (156, .iconst 0, 0, []), (157, .putfield 86, 89, []), (160, .aload_n 0, 0, []), (161, .getfield 12, 72, []), (164, .invokevirtual 89, 16, []), (167, .aload_n 0, 0, []), (168, .getfield 66, 83, []), (171, .iconst (-1), 0, []), (172, .invokestatic 92, 18, []), (175, .return_, 0, [])]
def M_98 : xM := (8, 0, 2, 1, c_98)
def c_99 : List xR := [(0, .aload_n 0, 0, []), (1, .getfield 12, 72, []), (4, .getfield 98, 3, []), (7, .iload_n 1, 0, []), (8, .iload_n 2, 0, []), (9, .invokevirtual 102, 20, []), (12, .ireturn, 0, [])]
def M_99 : xM := (8, 1, 0, 3, c_99)
def c_100 : List xR := [(0, .aload_n 0, 0, []), (1, .getfield 12, 72, []), (4, .getfield 108, 7, []), (7, .iload_n 1, 0, []), (8, .iload_n 2, 0, []), (9, .invokevirtual 102, 20, []), (12, .ireturn, 0, [])]
def M_100 : xM := (8, 1, 0, 3, c_100)
def c_101 : List xR := [(0, .aload_n 0, 0, []), (1, .getfield 12, 72, []), (4, .iload_n 1, 0, []), (5, .iload_n 2, 0, []), (6, .invokevirtual 111, 26, []), (9, .ireturn, 0, [])]
def M_101 : xM := (8, 1, 0, 3, c_101)
def c_102 : List xR := [(0, .iload_n 1, 0, []), (1, .ifCond .lt 26, 0, []), (4, .iload_n 1, 0, []), (5, .aload_n 0, 0, []), (6, .getfield 12, 72, []), (9, .invokevirtual 114, 29, []), (12, .if_icmp .ge 15, 0, []), (15, .aload_n 0, 0, []), (16, .getfield 12, 72, []), (19, .getfield 118, 9, []), (22, .iload_n 1, 0, []), (23, .iaload, 0, []), (24, .goto 4, 0, []), (27, .iconst (-1), 0, []), (28, .ireturn, 0, [])]
def M_102 : xM := (8, 1, 0, 2, c_102)
def c_103 : List xR := [(0, .iload_n 1, 0, []), (1, .invokestatic 121, 31, []), (4, .ifCond .ne 5, 0, []), (7, .iconst (-1), 0, []), (8, .ireturn, 0, []), (9, .iload_n 2, 0, []), (10, .tableswitch 86 0 3 #[30, 39, 52, 65], 0, []), (40, .aload_n 0, 0, []), (41, .getfield 25, 75, []), (44, .iload_n 1, 0, []), (45, .invokevirtual 125, 32, []), (48, .ireturn, 0, []), (49, .aload_n 0, 0, []), (50, .getfield 12, 72, []), (53, .iload_n 1, 0, []), (54, .aload_n 0, 0, []), (55, .getfield 25, 75, []), (58, .invokevirtual 129, 34, []), (61, .ireturn, 0, []), (62, .aload_n 0, 0, []), (63, .getfield 12, 72, []), (66, .iload_n 1, 0, []), (67, .aload_n 0, 0, []), (68, .getfield 25, 75, []), (71, .invokevirtual 133, 40, []), (74, .ireturn, 0, []), (75, .aload_n 0, 0, []), (76, .getfield 12, 72, []), (79, .iload_n 1, 0, []), (80, .aload_n 0, 0, []), (81, .getfield 25, 75, []), (84, .invokevirtual 136, 41, []), (87, .ifCond .eq 7, 0, []), (90, .iconst 1, 0, []), (91, .goto 4, 0, []), (94, .iconst 0, 0, []), (95, .ireturn, 0, []), (96, .iconst (-1), 0, []), (97, .ireturn, 0, [])]
def M_103 : xM := (8, 1, 0, 3, c_103)
def c_104 : List xR := [(0, .iload_n 2, 0, []), (1, .ifCond .lt 11, 0, []), (4, .iload_n 2, 0, []), (5, .iload_n 1, 0, []), (6, .invokestatic 140, 55, []), (9, .if_icmp .le 9, 0, []), (12, .aload_n 0, 0, []), (13, .iconst (-1), 0, []), (14, .invokevirtual 143, 56, []), (17, .ireturn, 0, []), (18, .iload_n 1, 0, []), (19, .iconst 3, 0, []), (20, .if_icmp .ne 20, 0, []), (23, .aload_n 0, 0, []), (24, .getfield 12, 72, []), (27, .invokevirtual 146, 57, []), (30, .ifCond .le 10, 0, []), (33, .aload_n 0, 0, []), (34, .bipush (-3), 0, []), (36, .invokevirtual 143, 56, []), (39, .ireturn, 0, []), (40, .aload_n 0, 0, [3]), (41, .iload_n 1, 0, []), (42, .invokevirtual 149, 59, []), (45, .istore_n 3, 0, []), (46, .aload_n 0, 0, []), (47, .iload_n 1, 0, []), (48, .iload_n 2, 0, []), (49, .invokevirtual 152, 60, []), (52, .aload_n 0, 0, []), (53, .getfield 39, 77, []), (56, .invokevirtual 156, 61, []), (59, .aload_n 0, 0, []), (60, .iload_n 3, 0, []), (61, .invokevirtual 159, 62, []), (64, .ireturn, 0, [])]
def M_104 : xM := (8, 1, 0, 4, c_104)
def c_105 : List xR := [(0, .aload_n 0, 0, []), (1, .getfield 55, 80, []), (4, .getfield 162, 64, []), (7, .bipush 20, 0, []), (9, .iadd, 0, []), (10, .sipush 400, 0, []), (13, .if_icmp .le 5, 0, []), (16, .iconst (-1), 0, []), (17, .ireturn, 0, []), (18, .aload_n 0, 0, []), (19, .getfield 55, 80, []), (22, .iload_n 1, 0, []), (23, .invokevirtual 165, 64, []), (26, .aload_n 0, 0, []), (27, .getfield 55, 80, []), (30, .iload_n 2, 0, []), (31, .invokevirtual 165, 64, []), (34, .aload_n 0, 0, []), (35, .getfield 55, 80, []), (38, .iload_n 3, 0, []), (39, .invokevirtual 165, 64, []), (42, .aload_n 0, 0, []), (43, .getfield 55, 80, []), (46, .iload 4, 0, []), (48, .invokevirtual 165, 64, []), (51, .aload_n 0, 0, []), (52, .getfield 55, 80, []), (55, .iload 5, 0, []), (57, .invokevirtual 165, 64, []), (60, .aload_n 0, 0, []), (61, .getfield 55, 80, []), (64, .getfield 162, 64, []), (67, .ireturn, 0, [])]
def M_105 : xM := (8, 1, 0, 6, c_105)
def c_106 : List xR := [(0, .iload_n 1, 0, []), (1, .ifCond .lt 14, 0, []), (4, .iload_n 1, 0, []), (5, .aload_n 0, 0, []), (6, .getfield 55, 80, []), (9, .getfield 162, 64, []), (12, .if_icmp .le 5, 0, []), (15, .iconst (-1), 0, []), (16, .ireturn, 0, []), (17, .aload_n 0, 0, []), (18, .getfield 55, 80, []), (21, .iload_n 1, 0, []), (22, .putfield 162, 64, []), (25, .iload_n 1, 0, []), (26, .ireturn, 0, [])]
def M_106 : xM := (8, 1, 0, 2, c_106)
def c_107 : List xR := [(0, .aload_n 0, 0, []), (1, .getfield 55, 80, []), (4, .invokevirtual 169, 67, []), (7, .istore_n 1, 0, []), (8, .iload_n 1, 0, []), (9, .ifCond .ne 10, 0, []), (12, .aload_n 0, 0, []), (13, .bipush (-6), 0, []), (15, .invokevirtual 143, 56, []), (18, .ireturn, 0, []), (19, .iconst 0, 0, []), (20, .istore_n 2, 0, []), (21, .iconst 0, 0, []), (22, .istore_n 3, 0, []), (23, .iload_n 3, 0, []), (24, .iconst 1, 0, []), (25, .iadd, 0, []), (26, .iload_n 1, 0, []), (27, .if_icmp .ge 46, 0, []), (30, .aload_n 0, 0, []), (31, .getfield 12, 72, []), (34, .aload_n 0, 0, []), (35, .getfield 55, 80, []), (38, .getfield 172, 62, []), (41, .iload_n 3, 0, []), (42, .iaload, 0, []), (43, .aload_n 0, 0, []), (44, .getfield 55, 80, []), (47, .getfield 172, 62, []), (50, .iload_n 3, 0, []), (51, .iconst 1, 0, []), (52, .iadd, 0, []), (53, .iaload, 0, []), (54, .aload_n 0, 0, []), (55, .getfield 25, 75, []), (58, .invokevirtual 175, 68, []), (61, .ifCond .lt 6, 0, []), (64, .iinc 2 1, 0, []), (67, .iinc 3 2, 0, []), (70, .goto (-47), 0, []), (73, .aload_n 0, 0, []), (74, .iload_n 1, 0, []), (75, .iconst 1, 0, []), (76, .iadd, 0, []), (77, .iconst 2, 0, []), (78, .idiv, 0, []), (79, .iload_n 2, 0, []), (80, .isub, 0, []), (81, .putfield 76, 86, []), (84, .aload_n 0, 0, []), (85, .getfield 39, 77, []), (88, .invokevirtual 156, 61, []), (91, .aload_n 0, 0, []), (92, .iload_n 2, 0, []), (93, .invokevirtual 159, 62, []), (96, .ireturn, 0, [])]
def M_107 : xM := (8, 1, 0, 4, c_107)
def c_108 : List xR := [(0, .aload_n 0, 0, []), (1, .getfield 76, 86, []), (4, .ireturn, 0, [])]
def M_108 : xM := (8, 1, 0, 1, c_108)
def c_109 : List xR := [(0, .aload_n 0, 0, []), (1, .getfield 55, 80, []), (4, .invokevirtual 169, 67, []), (7, .pop, 0, []), (8, .aload_n 0, 0, []), (9, .getfield 25, 75, []), (12, .getfield 179, 25, []), (15, .bipush 6, 0, []), (17, .if_icmp .lt 10, 0, []), (20, .aload_n 0, 0, []), (21, .bipush (-5), 0, []), (23, .invokevirtual 143, 56, []), (26, .ireturn, 0, []), (27, .aload_n 0, 0, []), (28, .aload_n 0, 0, []), (29, .getfield 55, 80, []), (32, .iconst 0, 0, []), (33, .invokevirtual 182, 96, []), (36, .putfield 80, 87, []), (39, .aload_n 0, 0, []), (40, .getfield 80, 87, []), (43, .iconst (-1), 0, []), (44, .if_icmp .eq 10, 0, []), (47, .aload_n 0, 0, []), (48, .bipush (-6), 0, []), (50, .invokevirtual 143, 56, []), (53, .ireturn, 0, []), (54, .aload_n 0, 0, []), (55, .aload_n 0, 0, []), (56, .getfield 25, 75, []), (59, .new 186, 16, []), (62, .dup, 0, []), (63, .aload_n 0, 0, []), (64, .getfield 55, 80, []), (67, .getfield 188, 60, []), (70, .invokespecial 192, 121, []), (73, .invokevirtual 195, 126, []), (76, .invokevirtual 159, 62, []), (79, .ireturn, 0, [])]
def M_109 : xM := (8, 1, 0, 1, c_109)
def c_110 : List xR := [(0, .aload_n 0, 0, []), (1, .getfield 55, 80, []), (4, .invokevirtual 169, 67, []), (7, .pop, 0, []), (8, .aload_n 0, 0, []), (9, .iconst (-1), 0, []), (10, .putfield 83, 88, []), (13, .aload_n 0, 0, []), (14, .aload_n 0, 0, []), (15, .getfield 55, 80, []), (18, .iconst 1, 0, []), (19, .invokevirtual 182, 96, []), (22, .putfield 80, 87, []), (25, .aload_n 0, 0, []), (26, .getfield 80, 87, []), (29, .iconst (-1), 0, []), (30, .if_icmp .eq 10, 0, []), (33, .aload_n 0, 0, []), (34, .bipush (-6), 0, []), (36, .invokevirtual 143, 56, []), (39, .ireturn, 0, []), (40, .aload_n 0, 0, []), (41, .getfield 19, 74, []), (44, .aload_n 0, 0, []), (45, .getfield 12, 72, []), (48, .invokevirtual 199, 128, []), (51, .aload_n 0, 0, []), (52, .getfield 43, 78, []), (55, .invokevirtual 156, 61, []), (58, .aload_n 0, 0, []), (59, .getfield 59, 81, []), (62, .iconst 1, 0, []), (63, .iconst 0, 0, []), (64, .iastore, 0, []), (65, .aload_n 0, 0, []), (66, .getfield 59, 81, []), (69, .iconst 2, 0, []), (70, .iconst (-1), 0, []), (71, .iastore, 0, []), (72, .iconst 0, 0, []), (73, .istore_n 1, 0, []), (74, .iload_n 1, 0, []), (75, .aload_n 0, 0, []), (76, .getfield 55, 80, []), (79, .getfield 188, 60, []), (82, .getfield 203, 55, []), (85, .if_icmp .ge 47, 0, []), (88, .aload_n 0, 0, []), (89, .aload_n 0, 0, []), (90, .getfield 55, 80, []), (93, .getfield 188, 60, []), (96, .iload_n 1, 0, []), (97, .invokevirtual 206, 131, []), (100, .ifCond .ne 26, 0, []), (103, .aload_n 0, 0, []), (104, .iload_n 1, 0, []), (105, .putfield 83, 88, []), (108, .aload_n 0, 0, []), (109, .getfield 12, 72, []), (112, .aload_n 0, 0, []), (113, .getfield 19, 74, []), (116, .invokevirtual 199, 128, []), (119, .aload_n 0, 0, []), (120, .bipush (-3), 0, []), (122, .invokevirtual 143, 56, []), (125, .ireturn, 0, []), (126, .iinc 1 1, 0, []), (129, .goto (-55), 0, []), (132, .aload_n 0, 0, []), (133, .getfield 39, 77, []), (136, .aload_n 0, 0, []), (137, .getfield 43, 78, []), (140, .invokevirtual 210, 155, []), (143, .aload_n 0, 0, []), (144, .aload_n 0, 0, []), (145, .getfield 59, 81, []), (148, .iconst 1, 0, []), (149, .iaload, 0, []), (150, .invokevirtual 159, 62, []), (153, .ireturn, 0, [])]
def M_110 : xM := (8, 1, 0, 2, c_110)
def c_111 : List xR := [(0, .aload_n 0, 0, []), (1, .getfield 80, 87, []), (4, .ireturn, 0, [])]
def M_111 : xM := (8, 1, 0, 1, c_111)
def c_112 : List xR := [(0, .aload_n 0, 0, []), (1, .getfield 83, 88, []), (4, .ireturn, 0, [])]
def M_112 : xM := (8, 1, 0, 1, c_112)
def c_113 : List xR := [(0, .iload_n 1, 0, []), (1, .iconst (-1), 0, []), (2, .if_icmp .lt 14, 0, []), (5, .iload_n 1, 0, []), (6, .aload_n 0, 0, []), (7, .getfield 25, 75, []), (10, .getfield 179, 25, []), (13, .if_icmp .lt 10, 0, []), (16, .aload_n 0, 0, []), (17, .bipush (-2), 0, []), (19, .invokevirtual 143, 56, []), (22, .ireturn, 0, []), (23, .aload_n 0, 0, []), (24, .getfield 25, 75, []), (27, .getfield 214, 28, []), (30, .istore_n 2, 0, []), (31, .aload_n 0, 0, []), (32, .getfield 25, 75, []), (35, .iload_n 1, 0, []), (36, .putfield 214, 28, []), (39, .aload_n 0, 0, []), (40, .iload_n 2, 0, []), (41, .invokevirtual 159, 62, []), (44, .ireturn, 0, [])]
def M_113 : xM := (8, 1, 0, 3, c_113)
def c_114 : List xR := [(0, .aload_n 0, 0, []), (1, .aload_n 0, 0, []), (2, .iconst 0, 0, []), (3, .iload_n 1, 0, []), (4, .iload_n 2, 0, []), (5, .aload_n 0, 0, []), (6, .getfield 39, 77, []), (9, .invokevirtual 217, 135, []), (12, .invokevirtual 221, 160, []), (15, .ireturn, 0, [])]
def M_114 : xM := (8, 1, 0, 3, c_114)
def c_115 : List xR := [(0, .aload_n 0, 0, []), (1, .aload_n 0, 0, []), (2, .iconst 1, 0, []), (3, .iload_n 1, 0, []), (4, .iconst 0, 0, []), (5, .aload_n 0, 0, []), (6, .getfield 39, 77, []), (9, .invokevirtual 217, 135, []), (12, .invokevirtual 221, 160, []), (15, .ireturn, 0, [])]
def M_115 : xM := (8, 1, 0, 2, c_115)
def c_116 : List xR := [(0, .aload_n 0, 0, []), (1, .aload_n 0, 0, []), (2, .iconst 2, 0, []), (3, .iload_n 1, 0, []), (4, .iconst 0, 0, []), (5, .aload_n 0, 0, []), (6, .getfield 39, 77, []), (9, .invokevirtual 217, 135, []), (12, .invokevirtual 221, 160, []), (15, .ireturn, 0, [])]
def M_116 : xM := (8, 1, 0, 2, c_116)
def c_117 : List xR := [(0, .aload_n 0, 0, []), (1, .aload_n 0, 0, []), (2, .iconst 3, 0, []), (3, .iload_n 1, 0, []), (4, .iconst 0, 0, []), (5, .aload_n 0, 0, []), (6, .getfield 39, 77, []), (9, .invokevirtual 217, 135, []), (12, .invokevirtual 221, 160, []), (15, .ireturn, 0, [])]
def M_117 : xM := (8, 1, 0, 2, c_117)
def c_118 : List xR := [(0, .aload_n 0, 0, []), (1, .getfield 39, 77, []), (4, .aload_n 0, 0, []), (5, .getfield 12, 72, []), (8, .invokevirtual 224, 165, []), (11, .istore_n 1, 0, []), (12, .iload_n 1, 0, []), (13, .iconst (-1), 0, []), (14, .if_icmp .ne 12, 0, []), (17, .aload_n 0, 0, []), (18, .bipush (-3), 0, []), (20, .invokevirtual 143, 56, []), (23, .goto 8, 0, []), (26, .aload_n 0, 0, []), (27, .iload_n 1, 0, []), (28, .invokevirtual 159, 62, []), (31, .ireturn, 0, [])]
def M_118 : xM := (8, 1, 0, 2, c_118)
def c_119 : List xR := [(0, .iload_n 2, 0, []), (1, .invokestatic 121, 31, []), (4, .ifCond .eq 26, 0, []), (7, .aload_n 0, 0, []), (8, .iload_n 1, 0, []), (9, .invokevirtual 228, 167, []), (12, .ifCond .eq 18, 0, []), (15, .aload_n 0, 0, []), (16, .getfield 16, 73, []), (19, .iload_n 2, 0, []), (20, .aload_n 0, 0, []), (21, .getfield 25, 75, []), (24, .invokevirtual 129, 34, []), (27, .goto 4, 0, []), (30, .iconst (-1), 0, []), (31, .ireturn, 0, [])]
def M_119 : xM := (8, 1, 0, 3, c_119)
def c_120 : List xR := [(0, .aload_n 0, 0, []), (1, .iload_n 1, 0, []), (2, .invokevirtual 228, 167, []), (5, .ifCond .eq 21, 0, []), (8, .aload_n 0, 0, []), (9, .getfield 12, 72, []), (12, .aload_n 0, 0, []), (13, .getfield 16, 73, []), (16, .aload_n 0, 0, []), (17, .getfield 25, 75, []), (20, .invokevirtual 231, 169, []), (23, .goto 4, 0, []), (26, .iconst (-1), 0, []), (27, .ireturn, 0, [])]
def M_120 : xM := (8, 1, 0, 2, c_120)
def c_121 : List xR := [(0, .aload_n 0, 0, []), (1, .iload_n 1, 0, []), (2, .invokevirtual 228, 167, []), (5, .ifCond .eq 17, 0, []), (8, .aload_n 0, 0, []), (9, .getfield 12, 72, []), (12, .aload_n 0, 0, []), (13, .getfield 16, 73, []), (16, .invokevirtual 235, 172, []), (19, .goto 4, 0, []), (22, .iconst (-1), 0, []), (23, .ireturn, 0, [])]
def M_121 : xM := (8, 1, 0, 2, c_121)
def c_122 : List xR := [(0, .iconst 0, 0, []), (1, .istore_n 1, 0, []), (2, .iconst 0, 0, []), (3, .istore_n 2, 0, []), (4, .iload_n 2, 0, []), (5, .sipush 1000, 0, []), (8, .if_icmp .ge 27, 0, []), (11, .aload_n 0, 0, []), (12, .getfield 12, 72, []), (15, .iload_n 2, 0, []), (16, .aload_n 0, 0, []), (17, .getfield 25, 75, []), (20, .invokevirtual 238, 175, []), (23, .ifCond .eq 6, 0, []), (26, .iinc 1 1, 0, []), (29, .iinc 2 1, 0, []), (32, .goto (-28), 0, []), (35, .iload_n 1, 0, []), (36, .ireturn, 0, [])]
def M_122 : xM := (8, 1, 0, 3, c_122)
def c_123 : List xR := [(0, .aload_n 0, 0, []), (1, .getfield 12, 72, []), (4, .getfield 98, 3, []), (7, .invokevirtual 241, 177, []), (10, .iconst 3, 0, []), (11, .imul, 0, []), (12, .aload_n 0, 0, []), (13, .getfield 12, 72, []), (16, .invokevirtual 146, 57, []), (19, .isub, 0, []), (20, .ireturn, 0, [])]
def M_123 : xM := (8, 1, 0, 1, c_123)
def c_124 : List xR := [(0, .iload_n 1, 0, []), (1, .invokestatic 244, 179, []), (4, .ifCond .eq 14, 0, []), (7, .aload_n 0, 0, []), (8, .getfield 12, 72, []), (11, .iload_n 1, 0, []), (12, .invokevirtual 247, 180, []), (15, .goto 4, 0, []), (18, .iconst (-1), 0, []), (19, .ireturn, 0, [])]
def M_124 : xM := (8, 1, 0, 2, c_124)
def c_125 : List xR := [(0, .iconst (-1), 0, []), (1, .istore_n 2, 0, []), (2, .bipush 25, 0, []), (4, .istore_n 3, 0, []), (5, .iconst 0, 0, []), (6, .istore 4, 0, []), (8, .iload 4, 0, [5]), (10, .bipush 32, 0, []), (12, .if_icmp .ge 36, 0, []), (15, .aload_n 0, 0, []), (16, .getfield 12, 72, []), (19, .iload 4, 0, []), (21, .aload_n 0, 0, []), (22, .getfield 69, 84, []), (25, .invokevirtual 250, 182, []), (28, .istore 5, 0, []), (30, .iload 5, 0, []), (32, .iload_n 3, 0, []), (33, .if_icmp .ge 9, 0, []), (36, .iload 4, 0, []), (38, .istore_n 2, 0, []), (39, .iload 5, 0, []), (41, .istore_n 3, 0, []), (42, .iinc 4 1, 0, []), (45, .goto (-37), 0, []), (48, .iload_n 2, 0, []), (49, .iconst (-1), 0, []), (50, .if_icmp .eq 12, 0, []), (53, .iload_n 1, 0, []), (54, .ifCond .lt 8, 0, []), (57, .iload_n 1, 0, []), (58, .iconst 1, 0, []), (59, .if_icmp .le 5, 0, []), (62, .iconst (-1), 0, []), (63, .ireturn, 0, []), (64, .iload_n 1, 0, []), (65, .ifCond .ne 7, 0, []), (68, .iload_n 2, 0, []), (69, .goto 4, 0, []), (72, .iload_n 3, 0, []), (73, .ireturn, 0, [])]
def M_125 : xM := (8, 1, 0, 6, c_125)
def c_126 : List xR := [(0, .aload_n 0, 0, []), (1, .getfield 12, 72, []), (4, .invokevirtual 254, 185, []), (7, .ireturn, 0, [])]
def M_126 : xM := (8, 1, 0, 1, c_126)
def c_127 : List xR := [(0, .iload_n 1, 0, []), (1, .ifCond .lt 18, 0, []), (4, .iload_n 1, 0, []), (5, .bipush 64, 0, []), (7, .if_icmp .ge 12, 0, []), (10, .iload_n 2, 0, []), (11, .ifCond .lt 8, 0, []), (14, .iload_n 2, 0, []), (15, .iconst 1, 0, []), (16, .if_icmp .le 9, 0, []), (19, .aload_n 0, 0, []), (20, .iconst (-1), 0, []), (21, .invokevirtual 143, 56, []), (24, .ireturn, 0, []), (25, .aload_n 0, 0, []), (26, .getfield 32, 76, []), (29, .getfield 257, 38, []), (32, .bipush 6, 0, []), (34, .if_icmp .lt 10, 0, []), (37, .aload_n 0, 0, []), (38, .bipush (-5), 0, []), (40, .invokevirtual 143, 56, []), (43, .ireturn, 0, []), (44, .aload_n 0, 0, []), (45, .aload_n 0, 0, []), (46, .getfield 32, 76, []), (49, .iload_n 1, 0, []), (50, .iload_n 2, 0, []), (51, .invokevirtual 260, 187, []), (54, .invokevirtual 159, 62, []), (57, .ireturn, 0, [])]
def M_127 : xM := (8, 1, 0, 3, c_127)
def c_128 : List xR := [(0, .aload_n 0, 0, []), (1, .getfield 32, 76, []), (4, .getfield 257, 38, []), (7, .istore_n 1, 0, []), (8, .aload_n 0, 0, []), (9, .getfield 32, 76, []), (12, .iconst 0, 0, []), (13, .putfield 257, 38, []), (16, .iload_n 1, 0, []), (17, .ireturn, 0, [])]
def M_128 : xM := (8, 1, 0, 2, c_128)
def c_129 : List xR := [(0, .aload_n 0, 0, []), (1, .getfield 32, 76, []), (4, .aload_n 0, 0, []), (5, .getfield 12, 72, []), (8, .invokevirtual 263, 190, []), (11, .ireturn, 0, [])]
def M_129 : xM := (8, 1, 0, 1, c_129)
def c_130 : List xR := [(0, .aload_n 0, 0, []), (1, .getfield 32, 76, []), (4, .aload_n 0, 0, []), (5, .getfield 12, 72, []), (8, .invokevirtual 263, 190, []), (11, .istore_n 2, 0, []), (12, .iload_n 2, 0, []), (13, .ifCond .eq 12, 0, []), (16, .iload_n 1, 0, []), (17, .ifCond .lt 8, 0, []), (20, .iload_n 1, 0, []), (21, .iconst 1, 0, []), (22, .if_icmp .le 5, 0, []), (25, .iconst (-1), 0, []), (26, .ireturn, 0, []), (27, .iload_n 2, 0, []), (28, .invokestatic 266, 195, []), (31, .istore_n 3, 0, []), (32, .iconst 0, 0, []), (33, .istore 4, 0, []), (35, .bipush 25, 0, []), (37, .istore 5, 0, []), (39, .iconst 0, 0, []), (40, .istore 6, 0, []), (42, .iload 6, 0, [7, 8]), (44, .aload_n 0, 0, []), (45, .getfield 12, 72, []), (48, .invokevirtual 114, 29, []), (51, .if_icmp .ge 51, 0, []), (54, .iload_n 2, 0, []), (55, .aload_n 0, 0, []), (56, .getfield 12, 72, []), (59, .getfield 118, 9, []), (62, .iload 6, 0, []), (64, .iaload, 0, []), (65, .ishr, 0, []), (66, .iconst 1, 0, []), (67, .iand, 0, []), (68, .istore 7, 0, []), (70, .iload 7, 0, []), (72, .iload_n 3, 0, []), (73, .iload 7, 0, []), (75, .isub, 0, []), (76, .invokestatic 271, 196, []), (79, .istore 8, 0, []), (81, .iload 8, 0, []), (83, .iload 5, 0, []), (85, .if_icmp .ge 11, 0, []), (88, .iload 6, 0, []), (90, .istore 4, 0, []), (92, .iload 8, 0, []), (94, .istore 5, 0, []), (96, .iinc 6 1, 0, []), (99, .goto (-57), 0, []), (102, .iload_n 1, 0, []), (103, .ifCond .ne 8, 0, []), (106, .iload 4, 0, []), (108, .goto 5, 0, []), (111, .iload 5, 0, []), (113, .ireturn, 0, [])]
def M_130 : xM := (8, 1, 0, 9, c_130)
def c_131 : List xR := [(0, .iload_n 1, 0, []), (1, .iconst 1, 0, []), (2, .if_icmp .lt 19, 0, []), (5, .iload_n 1, 0, []), (6, .bipush 20, 0, []), (8, .if_icmp .gt 13, 0, []), (11, .iload_n 2, 0, []), (12, .ifCond .lt 9, 0, []), (15, .iload_n 2, 0, []), (16, .bipush 99, 0, []), (18, .if_icmp .le 7, 0, []), (21, .ldc2_w 276, 3, []), (24, .lreturn, 0, []), (25, .aload_n 0, 0, []), (26, .getfield 72, 85, []), (29, .lconst 0, 0, []), (30, .invokestatic 278, 198, []), (33, .aload_n 0, 0, []), (34, .getfield 72, 85, []), (37, .iconst 0, 0, []), (38, .ldc2_w 281, 4, []), (41, .lastore, 0, []), (42, .iconst 0, 0, []), (43, .istore_n 3, 0, []), (44, .iload_n 3, 0, [4, 5]), (45, .iload_n 2, 0, []), (46, .if_icmp .ge 14, 0, []), (49, .aload_n 0, 0, []), (50, .iload_n 1, 0, []), (51, .invokevirtual 283, 199, []), (54, .iinc 3 1, 0, []), (57, .goto (-13), 0, []), (60, .lconst 0, 0, []), (61, .lstore_n 3, 0, []), (62, .iconst 0, 0, []), (63, .istore 5, 0, []), (65, .iload 5, 0, [2]), (67, .iload_n 1, 0, []), (68, .if_icmp .ge 19, 0, []), (71, .lload_n 3, 0, []), (72, .aload_n 0, 0, []), (73, .getfield 72, 85, []), (76, .iload 5, 0, []), (78, .laload, 0, []), (79, .ladd, 0, []), (80, .lstore_n 3, 0, []), (81, .iinc 5 1, 0, []), (84, .goto (-19), 0, []), (87, .lload_n 3, 0, []), (88, .lreturn, 0, [])]
def M_131 : xM := (8, 3, 0, 6, c_131)
def c_132 : List xR := [(0, .iload_n 1, 0, []), (1, .iconst (-1), 0, []), (2, .if_icmp .lt 21, 0, []), (5, .iload_n 1, 0, []), (6, .aload_n 0, 0, []), (7, .getfield 25, 75, []), (10, .getfield 179, 25, []), (13, .if_icmp .ge 10, 0, []), (16, .iload_n 2, 0, []), (17, .invokestatic 244, 179, []), (20, .ifCond .ne 5, 0, []), (23, .iconst (-1), 0, []), (24, .ireturn, 0, []), (25, .aload_n 0, 0, []), (26, .getfield 25, 75, []), (29, .iload_n 1, 0, []), (30, .aload_n 0, 0, []), (31, .getfield 12, 72, []), (34, .iload_n 2, 0, []), (35, .invokevirtual 286, 201, []), (38, .ireturn, 0, [])]
def M_132 : xM := (8, 1, 0, 3, c_132)
def c_133 : List xR := [(0, .iload_n 1, 0, []), (1, .ifCond .lt 21, 0, []), (4, .iload_n 1, 0, []), (5, .ldc_w 290, 6, []), (8, .if_icmp .gt 14, 0, []), (11, .iload_n 2, 0, []), (12, .iconst 1, 0, []), (13, .if_icmp .lt 9, 0, []), (16, .iload_n 2, 0, []), (17, .bipush 60, 0, []), (19, .if_icmp .le 9, 0, []), (22, .aload_n 0, 0, []), (23, .iconst (-1), 0, []), (24, .invokevirtual 143, 56, []), (27, .ireturn, 0, []), (28, .aload_n 0, 0, []), (29, .getfield 16, 73, []), (32, .aload_n 0, 0, []), (33, .getfield 12, 72, []), (36, .invokevirtual 199, 128, []), (39, .iload_n 1, 0, []), (40, .istore_n 3, 0, []), (41, .iconst 0, 0, []), (42, .istore 4, 0, []), (44, .iload 4, 0, [1, 5, 6, 7]), (46, .iload_n 2, 0, []), (47, .if_icmp .ge 51, 0, []), (50, .iload_n 3, 0, []), (51, .invokestatic 291, 203, []), (54, .istore 5, 0, []), (56, .iload 5, 0, []), (58, .invokestatic 291, 203, []), (61, .istore 6, 0, []), (63, .iload 6, 0, []), (65, .invokestatic 291, 203, []), (68, .istore 7, 0, []), (70, .aload_n 0, 0, []), (71, .iload 5, 0, []), (73, .bipush 40, 0, []), (75, .irem, 0, []), (76, .iload 6, 0, []), (78, .bipush 8, 0, []), (80, .irem, 0, []), (81, .iload 7, 0, []), (83, .bipush 8, 0, []), (85, .irem, 0, []), (86, .invokevirtual 294, 204, []), (89, .iload 7, 0, []), (91, .istore_n 3, 0, []), (92, .iinc 4 1, 0, []), (95, .goto (-51), 0, []), (98, .iconst 0, 0, []), (99, .istore 4, 0, []), (101, .iload 4, 0, [1, 2, 3, 5, 6, 7]), (103, .bipush 40, 0, []), (105, .if_icmp .ge 29, 0, []), (108, .aload_n 0, 0, []), (109, .getfield 66, 83, []), (112, .iload 4, 0, []), (114, .aload_n 0, 0, []), (115, .getfield 16, 73, []), (118, .iload 4, 0, []), (120, .aload_n 0, 0, []), (121, .getfield 25, 75, []), (124, .invokevirtual 129, 34, []), (127, .iastore, 0, []), (128, .iinc 4 1, 0, []), (131, .goto (-30), 0, []), (134, .aload_n 0, 0, []), (135, .aload_n 0, 0, []), (136, .getfield 16, 73, []), (139, .invokevirtual 146, 57, []), (142, .invokevirtual 159, 62, []), (145, .ireturn, 0, [])]
def M_133 : xM := (8, 1, 0, 8, c_133)
def c_134 : List xR := [(0, .iload_n 1, 0, []), (1, .ifCond .lt 18, 0, []), (4, .iload_n 1, 0, []), (5, .bipush 40, 0, []), (7, .if_icmp .ge 12, 0, []), (10, .aload_n 0, 0, []), (11, .getfield 66, 83, []), (14, .iload_n 1, 0, []), (15, .iaload, 0, []), (16, .goto 4, 0, []), (19, .iconst (-1), 0, []), (20, .ireturn, 0, [])]
def M_134 : xM := (8, 1, 0, 2, c_134)
def c_135 : List xR := [(0, .iload_n 1, 0, []), (1, .ifCond .lt 8, 0, []), (4, .iload_n 1, 0, []), (5, .iconst 2, 0, []), (6, .if_icmp .lt 9, 0, []), (9, .aload_n 0, 0, []), (10, .iconst (-1), 0, []), (11, .invokevirtual 143, 56, []), (14, .ireturn, 0, []), (15, .aload_n 0, 0, []), (16, .getfield 48, 79, []), (19, .iload_n 1, 0, []), (20, .aaload, 6, []), (21, .astore_n 2, 0, []), (22, .aload_n 2, 0, []), (23, .ifnonnull 18, 0, []), (26, .new 46, 11, []), (29, .dup, 0, []), (30, .invokespecial 298, 208, []), (33, .astore_n 2, 0, []), (34, .aload_n 0, 0, []), (35, .getfield 48, 79, []), (38, .iload_n 1, 0, []), (39, .aload_n 2, 0, []), (40, .aastore, 6, []), (41, .aload_n 2, 0, [1]), (42, .getfield 299, 91, []), (45, .aload_n 0, 0, []), (46, .getfield 12, 72, []), (49, .invokevirtual 199, 128, []), (52, .aload_n 2, 0, []), (53, .getfield 302, 93, []), (56, .aload_n 0, 0, []), (57, .getfield 25, 75, []), (60, .invokevirtual 303, 213, []), (63, .aload_n 2, 0, []), (64, .getfield 306, 95, []), (67, .aload_n 0, 0, []), (68, .getfield 32, 76, []), (71, .invokevirtual 307, 214, []), (74, .aload_n 0, 0, []), (75, .iconst 0, 0, []), (76, .invokevirtual 159, 62, []), (79, .ireturn, 0, [])]
def M_135 : xM := (8, 1, 0, 3, c_135)
def c_136 : List xR := [(0, .iload_n 1, 0, []), (1, .ifCond .lt 8, 0, []), (4, .iload_n 1, 0, []), (5, .iconst 2, 0, []), (6, .if_icmp .lt 9, 0, []), (9, .aload_n 0, 0, []), (10, .iconst (-1), 0, []), (11, .invokevirtual 143, 56, []), (14, .ireturn, 0, []), (15, .aload_n 0, 0, []), (16, .getfield 48, 79, []), (19, .iload_n 1, 0, []), (20, .aaload, 6, []), (21, .astore_n 2, 0, []), (22, .aload_n 2, 0, []), (23, .ifnonnull 10, 0, []), (26, .aload_n 0, 0, []), (27, .bipush (-2), 0, []), (29, .invokevirtual 143, 56, []), (32, .ireturn, 0, []), (33, .aload_n 0, 0, []), (34, .getfield 12, 72, []), (37, .aload_n 2, 0, []), (38, .getfield 299, 91, []), (41, .invokevirtual 199, 128, []), (44, .aload_n 0, 0, []), (45, .getfield 25, 75, []), (48, .aload_n 2, 0, []), (49, .getfield 302, 93, []), (52, .invokevirtual 303, 213, []), (55, .aload_n 0, 0, []), (56, .getfield 32, 76, []), (59, .aload_n 2, 0, []), (60, .getfield 306, 95, []), (63, .invokevirtual 307, 214, []), (66, .aload_n 0, 0, []), (67, .getfield 39, 77, []), (70, .invokevirtual 156, 61, []), (73, .aload_n 0, 0, []), (74, .iconst 0, 0, []), (75, .invokevirtual 159, 62, []), (78, .ireturn, 0, [])]
def M_136 : xM := (8, 1, 0, 3, c_136)
def c_137 : List xR := [(0, .iload_n 1, 0, []), (1, .tableswitch 207 0 17 #[87, 95, 106, 114, 122, 130, 138, 146, 154, 161, 168, 175, 182, 190, 198, 198, 198, 198], 0, []), (88, .aload_n 0, 0, []), (89, .getfield 12, 72, []), (92, .getfield 310, 16, []), (95, .ireturn, 0, []), (96, .aload_n 0, 0, []), (97, .getfield 12, 72, []), (100, .getfield 98, 3, []), (103, .invokevirtual 241, 177, []), (106, .ireturn, 0, []), (107, .aload_n 0, 0, []), (108, .getfield 12, 72, []), (111, .invokevirtual 146, 57, []), (114, .ireturn, 0, []), (115, .aload_n 0, 0, []), (116, .getfield 12, 72, []), (119, .getfield 313, 14, []), (122, .ireturn, 0, []), (123, .aload_n 0, 0, []), (124, .getfield 32, 76, []), (127, .getfield 257, 38, []), (130, .ireturn, 0, []), (131, .aload_n 0, 0, []), (132, .getfield 25, 75, []), (135, .getfield 179, 25, []), (138, .ireturn, 0, []), (139, .aload_n 0, 0, []), (140, .getfield 39, 77, []), (143, .getfield 316, 43, []), (146, .ireturn, 0, []), (147, .aload_n 0, 0, []), (148, .getfield 55, 80, []), (151, .getfield 162, 64, []), (154, .ireturn, 0, []), (155, .aload_n 0, 0, []), (156, .getfield 63, 82, []), (159, .iconst 1, 0, []), (160, .iaload, 0, []), (161, .ireturn, 0, []), (162, .aload_n 0, 0, []), (163, .getfield 63, 82, []), (166, .iconst 2, 0, []), (167, .iaload, 0, []), (168, .ireturn, 0, []), (169, .aload_n 0, 0, []), (170, .getfield 63, 82, []), (173, .iconst 3, 0, []), (174, .iaload, 0, []), (175, .ireturn, 0, []), (176, .aload_n 0, 0, []), (177, .getfield 63, 82, []), (180, .iconst 5, 0, []), (181, .iaload, 0, []), (182, .ireturn, 0, []), (183, .aload_n 0, 0, []), (184, .getfield 63, 82, []), (187, .bipush 6, 0, []), (189, .iaload, 0, []), (190, .ireturn, 0, []), (191, .aload_n 0, 0, []), (192, .getfield 25, 75, []), (195, .getfield 214, 28, []), (198, .ireturn, 0, []), (199, .aload_n 0, 0, []), (200, .iload_n 1, 0, []), (201, .bipush 14, 0, []), (203, .isub, 0, []), (204, .invokevirtual 149, 59, []), (207, .ireturn, 0, []), (208, .iconst (-1), 0, []), (209, .ireturn, 0, [])]
def M_137 : xM := (8, 1, 0, 2, c_137)
def c_138 : List xR := [(0, .aload_n 0, 0, []), (1, .getfield 86, 89, []), (4, .ireturn, 0, [])]
def M_138 : xM := (8, 1, 0, 1, c_138)
def c_139 : List xR := [(0, .iload_n 0, 0, []), (1, .ifCond .lt 14, 0, []), (4, .iload_n 0, 0, []), (5, .sipush 1000, 0, []), (8, .if_icmp .ge 7, 0, []), (11, .iconst 1, 0, []), (12, .goto 4, 0, []), (15, .iconst 0, 0, []), (16, .ireturn, 0, [])]
def M_139 : xM := (8, 2, 1, 1, c_139)
def c_140 : List xR := [(0, .iload_n 0, 0, []), (1, .ifCond .lt 13, 0, []), (4, .iload_n 0, 0, []), (5, .bipush 24, 0, []), (7, .if_icmp .ge 7, 0, []), (10, .iconst 1, 0, []), (11, .goto 4, 0, []), (14, .iconst 0, 0, []), (15, .ireturn, 0, [])]
def M_140 : xM := (8, 2, 1, 1, c_140)
def c_141 : List xR := [(0, .aload_n 0, 0, []), (1, .iload_n 1, 0, []), (2, .putfield 86, 89, []), (5, .aload_n 0, 0, []), (6, .getfield 63, 82, []), (9, .iload_n 1, 0, []), (10, .ineg, 0, []), (11, .dup2, 0, []), (12, .iaload, 0, []), (13, .iconst 1, 0, []), (14, .iadd, 0, []), (15, .iastore, 0, []), (16, .iload_n 1, 0, []), (17, .ireturn, 0, [])]
def M_141 : xM := (8, 1, 0, 2, c_141)
def c_142 : List xR := [(0, .aload_n 0, 0, []), (1, .iconst 0, 0, []), (2, .putfield 86, 89, []), (5, .iload_n 1, 0, []), (6, .ireturn, 0, [])]
def M_142 : xM := (8, 1, 0, 2, c_142)
def c_143 : List xR := [(0, .iload_n 1, 0, []), (1, .ifCond .ge 11, 0, []), (4, .aload_n 0, 0, []), (5, .iload_n 1, 0, []), (6, .invokevirtual 143, 56, []), (9, .goto 8, 0, []), (12, .aload_n 0, 0, []), (13, .iload_n 1, 0, []), (14, .invokevirtual 159, 62, []), (17, .ireturn, 0, [])]
def M_143 : xM := (8, 1, 0, 2, c_143)
def c_144 : List xR := [(0, .iload_n 0, 0, []), (1, .tableswitch 45 0 3 #[31, 35, 38, 41], 0, []), (32, .sipush 999, 0, []), (35, .ireturn, 0, []), (36, .bipush 10, 0, []), (38, .ireturn, 0, []), (39, .bipush 9, 0, []), (41, .ireturn, 0, []), (42, .sipush 999, 0, []), (45, .ireturn, 0, []), (46, .iconst (-1), 0, []), (47, .ireturn, 0, [])]
def M_144 : xM := (8, 1, 1, 1, c_144)
def c_145 : List xR := [(0, .iload_n 1, 0, []), (1, .tableswitch 51 0 2 #[27, 35, 43], 0, []), (28, .aload_n 0, 0, []), (29, .getfield 12, 72, []), (32, .getfield 317, 19, []), (35, .ireturn, 0, []), (36, .aload_n 0, 0, []), (37, .getfield 25, 75, []), (40, .getfield 320, 30, []), (43, .ireturn, 0, []), (44, .aload_n 0, 0, []), (45, .getfield 25, 75, []), (48, .getfield 323, 32, []), (51, .ireturn, 0, []), (52, .aload_n 0, 0, []), (53, .getfield 25, 75, []), (56, .getfield 326, 34, []), (59, .ireturn, 0, [])]
def M_145 : xM := (8, 1, 0, 2, c_145)
def c_146 : List xR := [(0, .iload_n 1, 0, []), (1, .tableswitch 60 0 2 #[27, 38, 49], 0, []), (28, .aload_n 0, 0, []), (29, .getfield 12, 72, []), (32, .iload_n 2, 0, []), (33, .putfield 317, 19, []), (36, .goto 33, 0, []), (39, .aload_n 0, 0, []), (40, .getfield 25, 75, []), (43, .iload_n 2, 0, []), (44, .putfield 320, 30, []), (47, .goto 22, 0, []), (50, .aload_n 0, 0, []), (51, .getfield 25, 75, []), (54, .iload_n 2, 0, []), (55, .putfield 323, 32, []), (58, .goto 11, 0, []), (61, .aload_n 0, 0, []), (62, .getfield 25, 75, []), (65, .iload_n 2, 0, []), (66, .putfield 326, 34, []), (69, .return_, 0, [])]
def M_146 : xM := (8, 0, 0, 3, c_146)
def c_147 : List xR := [(0, .aload 4, 0, []), (2, .aload_n 0, 0, []), (3, .getfield 12, 72, []), (6, .invokevirtual 329, 136, []), (9, .iload_n 1, 0, []), (10, .tableswitch 74 0 2 #[26, 44, 61], 0, []), (36, .aload_n 0, 0, []), (37, .getfield 12, 72, []), (40, .iload_n 2, 0, []), (41, .iload_n 3, 0, []), (42, .aload_n 0, 0, []), (43, .getfield 25, 75, []), (46, .invokevirtual 175, 68, []), (49, .istore 5, 0, []), (51, .goto 47, 0, []), (54, .aload_n 0, 0, []), (55, .getfield 12, 72, []), (58, .iload_n 2, 0, []), (59, .aload_n 0, 0, []), (60, .getfield 25, 75, []), (63, .invokevirtual 332, 139, []), (66, .istore 5, 0, []), (68, .goto 30, 0, []), (71, .aload_n 0, 0, []), (72, .getfield 12, 72, []), (75, .iload_n 2, 0, []), (76, .invokevirtual 335, 146, []), (79, .istore 5, 0, []), (81, .goto 17, 0, []), (84, .aload_n 0, 0, []), (85, .getfield 12, 72, []), (88, .iload_n 2, 0, []), (89, .aload_n 0, 0, []), (90, .getfield 25, 75, []), (93, .invokevirtual 338, 147, []), (96, .istore 5, 0, []), (98, .iload 5, 0, []), (100, .ifCond .lt 9, 0, []), (103, .aload 4, 0, []), (105, .iload_n 1, 0, []), (106, .invokevirtual 341, 153, []), (109, .iload 5, 0, []), (111, .ireturn, 0, [])]
def M_147 : xM := (8, 1, 0, 6, c_147)
def c_148 : List xR := [(0, .aload_n 1, 0, []), (1, .iload_n 2, 0, []), (2, .iconst 0, 0, []), (3, .invokevirtual 344, 132, []), (6, .istore_n 3, 0, []), (7, .aload_n 1, 0, []), (8, .iload_n 2, 0, []), (9, .iconst 1, 0, []), (10, .invokevirtual 344, 132, []), (13, .istore 4, 0, []), (15, .iconst 0, 0, []), (16, .istore 5, 0, []), (18, .iload 5, 0, [6, 7, 8]), (20, .iload 4, 0, []), (22, .if_icmp .ge 139, 0, []), (25, .aload_n 0, 0, []), (26, .aload_n 1, 0, []), (27, .invokevirtual 347, 133, []), (30, .aload_n 1, 0, []), (31, .iload_n 2, 0, []), (32, .bipush 6, 0, []), (34, .aload_n 0, 0, []), (35, .getfield 59, 81, []), (38, .aload_n 0, 0, []), (39, .getfield 25, 75, []), (42, .getfield 350, 23, []), (45, .invokevirtual 353, 134, []), (48, .iconst 1, 0, []), (49, .if_icmp .eq 6, 0, []), (52, .goto 103, 0, []), (55, .aload_n 1, 0, []), (56, .iload_n 2, 0, []), (57, .iconst 2, 0, []), (58, .aload_n 0, 0, []), (59, .getfield 59, 81, []), (62, .aload_n 0, 0, []), (63, .getfield 25, 75, []), (66, .getfield 350, 23, []), (69, .invokevirtual 353, 134, []), (72, .istore 6, 0, []), (74, .aload_n 1, 0, []), (75, .iload_n 2, 0, []), (76, .iconst 4, 0, []), (77, .aload_n 0, 0, []), (78, .getfield 59, 81, []), (81, .aload_n 0, 0, []), (82, .getfield 25, 75, []), (85, .getfield 350, 23, []), (88, .invokevirtual 353, 134, []), (91, .istore 7, 0, []), (93, .iload 6, 0, []), (95, .ldc_w 357, 2, []), (98, .if_icmp .eq 11, 0, []), (101, .iload 7, 0, []), (103, .ldc_w 357, 2, []), (106, .if_icmp .ne 5, 0, []), (109, .iconst 0, 0, []), (110, .ireturn, 0, []), (111, .aload_n 0, 0, []), (112, .iload_n 3, 0, []), (113, .iload 6, 0, []), (115, .iload 7, 0, []), (117, .aload_n 0, 0, []), (118, .getfield 43, 78, [6, 7, 8]), (121, .invokevirtual 217, 135, []), (124, .istore 8, 0, []), (126, .iload 8, 0, []), (128, .ifCond .ge 5, 0, []), (131, .iconst 0, 0, []), (132, .ireturn, 0, []), (133, .aload_n 0, 0, []), (134, .getfield 59, 81, []), (137, .iconst 1, 0, []), (138, .dup2, 0, []), (139, .iaload, 0, []), (140, .iconst 1, 0, []), (141, .iadd, 0, []), (142, .iastore, 0, []), (143, .iload_n 3, 0, []), (144, .ifCond .ne 11, 0, []), (147, .aload_n 0, 0, []), (148, .getfield 59, 81, []), (151, .iconst 2, 0, []), (152, .iload 8, 0, []), (154, .iastore, 0, []), (155, .iinc 5 1, 0, []), (158, .goto (-140), 0, []), (161, .iconst 1, 0, []), (162, .ireturn, 0, [])]
def M_148 : xM := (8, 2, 0, 9, c_148)
def c_149 : List xR := [(0, .aload_n 0, 0, []), (1, .getfield 59, 81, []), (4, .iconst 0, 0, []), (5, .aload_n 0, 0, []), (6, .getfield 12, 72, []), (9, .getfield 317, 19, []), (12, .iastore, 0, []), (13, .aload_n 0, 0, []), (14, .getfield 59, 81, []), (17, .iconst 3, 0, []), (18, .aload_n 0, 0, []), (19, .getfield 12, 72, []), (22, .getfield 310, 16, []), (25, .iastore, 0, []), (26, .aload_n 0, 0, []), (27, .getfield 59, 81, []), (30, .iconst 4, 0, []), (31, .aload_n 0, 0, []), (32, .getfield 12, 72, []), (35, .getfield 313, 14, []), (38, .iastore, 0, []), (39, .aload_n 0, 0, []), (40, .getfield 59, 81, []), (43, .iconst 5, 0, []), (44, .aload_n 0, 0, []), (45, .getfield 12, 72, []), (48, .invokevirtual 146, 57, []), (51, .iastore, 0, []), (52, .iconst 0, 0, []), (53, .istore_n 2, 0, []), (54, .iload_n 2, 0, [3]), (55, .aload_n 1, 0, []), (56, .getfield 358, 58, []), (59, .if_icmp .ge 63, 0, []), (62, .aload_n 1, 0, []), (63, .getfield 361, 49, []), (66, .iload_n 2, 0, []), (67, .iaload, 0, []), (68, .istore_n 3, 0, []), (69, .aload_n 0, 0, []), (70, .getfield 59, 81, []), (73, .bipush 6, 0, []), (75, .iload_n 2, 0, []), (76, .iadd, 0, []), (77, .iload_n 3, 0, []), (78, .sipush 1000, 0, []), (81, .if_icmp .ge 18, 0, []), (84, .aload_n 0, 0, []), (85, .getfield 12, 72, []), (88, .iload_n 3, 0, []), (89, .aload_n 0, 0, []), (90, .getfield 25, 75, []), (93, .invokevirtual 129, 34, []), (96, .goto 19, 0, []), (99, .aload_n 0, 0, []), (100, .getfield 12, 72, []), (103, .getfield 98, 3, []), (106, .iload_n 3, 0, []), (107, .sipush 1000, 0, []), (110, .isub, 0, []), (111, .iconst 3, 0, []), (112, .invokevirtual 102, 20, []), (115, .iastore, 0, []), (116, .iinc 2 1, 0, []), (119, .goto (-65), 0, []), (122, .return_, 0, [])]
def M_149 : xM := (8, 0, 0, 4, c_149)
def c_150 : List xR := [(0, .iload_n 1, 0, []), (1, .ifCond .lt 14, 0, []), (4, .iload_n 1, 0, []), (5, .aload_n 0, 0, []), (6, .getfield 12, 72, []), (9, .getfield 313, 14, []), (12, .if_icmp .le 5, 0, []), (15, .iconst 0, 0, []), (16, .ireturn, 0, []), (17, .aload_n 0, 0, []), (18, .getfield 16, 73, []), (21, .aload_n 0, 0, []), (22, .getfield 12, 72, []), (25, .invokevirtual 199, 128, []), (28, .aload_n 0, 0, []), (29, .getfield 16, 73, []), (32, .iload_n 1, 0, []), (33, .aload_n 0, 0, []), (34, .getfield 25, 75, []), (37, .invokevirtual 338, 147, []), (40, .pop, 0, []), (41, .iconst 1, 0, []), (42, .ireturn, 0, [])]
def M_150 : xM := (8, 2, 0, 2, c_150)
def c_151 : List xR := [(0, .iload_n 1, 0, []), (1, .iconst 1, 0, []), (2, .isub, 0, []), (3, .istore_n 2, 0, []), (4, .iload_n 2, 0, [1, 3, 4, 5, 6]), (5, .ifCond .lt 73, 0, []), (8, .aload_n 0, 0, []), (9, .getfield 72, 85, []), (12, .iload_n 2, 0, []), (13, .laload, 0, []), (14, .bipush 10, 0, []), (16, .aload_n 0, 0, []), (17, .getfield 25, 75, []), (20, .getfield 320, 30, []), (23, .isub, 0, []), (24, .i2l, 0, []), (25, .lmul, 0, []), (26, .ldc2_w 364, 5, []), (29, .ldiv, 0, []), (30, .lstore_n 3, 0, []), (31, .iload_n 2, 0, []), (32, .ifCond .ne 7, 0, []), (35, .lconst 0, 0, []), (36, .goto 24, 0, []), (39, .aload_n 0, 0, []), (40, .getfield 72, 85, []), (43, .iload_n 2, 0, []), (44, .iconst 1, 0, []), (45, .isub, 0, []), (46, .laload, 0, []), (47, .aload_n 0, 0, []), (48, .getfield 25, 75, []), (51, .getfield 320, 30, []), (54, .i2l, 0, []), (55, .lmul, 0, []), (56, .ldc2_w 364, 5, []), (59, .ldiv, 0, []), (60, .lstore 5, 0, []), (62, .aload_n 0, 0, []), (63, .getfield 72, 85, []), (66, .iload_n 2, 0, []), (67, .lload_n 3, 0, []), (68, .lload 5, 0, []), (70, .ladd, 0, []), (71, .lastore, 0, []), (72, .iinc 2 (-1), 0, []), (75, .goto (-71), 0, []), (78, .return_, 0, [])]
def M_151 : xM := (8, 0, 0, 7, c_151)
def c_152 : List xR := [(0, .iload_n 0, 0, []), (1, .i2l, 0, []), (2, .ldc2_w 366, 6, []), (5, .lmul, 0, []), (6, .ldc2_w 368, 7, []), (9, .ladd, 0, []), (10, .ldc2_w 370, 8, []), (13, .lrem, 0, []), (14, .l2i, 0, []), (15, .ireturn, 0, [])]
def M_152 : xM := (8, 1, 1, 1, c_152)
def c_153 : List xR := [(0, .iload_n 3, 0, []), (1, .iconst 4, 0, []), (2, .if_icmp .gt 20, 0, []), (5, .aload_n 0, 0, []), (6, .getfield 16, 73, []), (9, .iload_n 1, 0, []), (10, .iload_n 2, 0, []), (11, .aload_n 0, 0, []), (12, .getfield 25, 75, []), (15, .invokevirtual 175, 68, []), (18, .pop, 0, []), (19, .goto 48, 0, []), (22, .iload_n 3, 0, []), (23, .bipush 6, 0, []), (25, .if_icmp .gt 19, 0, []), (28, .aload_n 0, 0, []), (29, .getfield 16, 73, []), (32, .iload_n 1, 0, []), (33, .aload_n 0, 0, []), (34, .getfield 25, 75, []), (37, .invokevirtual 332, 139, []), (40, .pop, 0, []), (41, .goto 26, 0, []), (44, .aload_n 0, 0, []), (45, .getfield 16, 73, []), (48, .iload_n 2, 0, []), (49, .aload_n 0, 0, []), (50, .getfield 16, 73, []), (53, .getfield 313, 14, []), (56, .invokestatic 372, 205, []), (59, .aload_n 0, 0, []), (60, .getfield 25, 75, []), (63, .invokevirtual 338, 147, []), (66, .pop, 0, []), (67, .return_, 0, [])]
def M_153 : xM := (8, 0, 0, 4, c_153)
def c_154 : List xR := [(0, .iload_n 0, 0, []), (1, .iload_n 1, 0, []), (2, .if_icmp .lt 12, 0, []), (5, .iload_n 0, 0, []), (6, .iload_n 2, 0, []), (7, .if_icmp .gt 7, 0, []), (10, .iconst 1, 0, []), (11, .goto 4, 0, []), (14, .iconst 0, 0, []), (15, .ireturn, 0, [])]
def M_154 : xM := (9, 2, 1, 3, c_154)
def c_155 : List xR := [(0, .iload_n 0, 0, []), (1, .iload_n 1, 0, []), (2, .if_icmp .ge 7, 0, []), (5, .iload_n 0, 0, []), (6, .goto 4, 0, []), (9, .iload_n 1, 0, []), (10, .ireturn, 0, [])]
def M_155 : xM := (9, 1, 1, 2, c_155)
def c_156 : List xR := [(0, .iload_n 0, 0, []), (1, .iload_n 1, 0, []), (2, .if_icmp .le 7, 0, []), (5, .iload_n 0, 0, []), (6, .goto 4, 0, []), (9, .iload_n 1, 0, []), (10, .ireturn, 0, [])]
def M_156 : xM := (9, 1, 1, 2, c_156)
def c_157 : List xR := [(0, .aload_n 0, 0, []), (1, .iload_n 1, 0, []), (2, .putfield 3, 96, []), (5, .aload_n 0, 0, []), (6, .getfield 7, 97, []), (9, .iload_n 1, 0, []), (10, .ineg, 0, []), (11, .dup2, 0, []), (12, .iaload, 0, []), (13, .iconst 1, 0, []), (14, .iadd, 0, []), (15, .iastore, 0, []), (16, .iload_n 1, 0, []), (17, .ireturn, 0, [])]
def M_157 : xM := (9, 1, 0, 2, c_157)
def c_158 : List xR := [(0, .aload_n 0, 0, []), (1, .iconst 0, 0, []), (2, .putfield 3, 96, []), (5, .iload_n 1, 0, []), (6, .ireturn, 0, [])]
def M_158 : xM := (9, 1, 0, 2, c_158)
def c_159 : List xR := [(0, .aload_n 0, 0, []), (1, .iconst 0, 0, []), (2, .putfield 11, 128, []), (5, .aload_n 0, 0, []), (6, .iload_n 1, 0, []), (7, .invokevirtual 14, 224, []), (10, .ireturn, 0, [])]
def M_159 : xM := (9, 1, 0, 2, c_159)
def c_160 : List xR := [(0, .iload_n 0, 0, []), (1, .iload_n 1, 0, []), (2, .ishr, 0, []), (3, .iconst 1, 0, []), (4, .iand, 0, []), (5, .iconst 1, 0, []), (6, .if_icmp .ne 7, 0, []), (9, .iconst 1, 0, []), (10, .goto 4, 0, []), (13, .iconst 0, 0, []), (14, .ireturn, 0, [])]
def M_160 : xM := (9, 2, 1, 2, c_160)
def c_161 : List xR := [(0, .iconst 0, 0, []), (1, .istore_n 1, 0, []), (2, .iconst 0, 0, []), (3, .istore_n 2, 0, []), (4, .iload_n 2, 0, []), (5, .bipush 24, 0, []), (7, .if_icmp .ge 17, 0, []), (10, .iload_n 1, 0, []), (11, .iload_n 0, 0, []), (12, .iload_n 2, 0, []), (13, .ishr, 0, []), (14, .iconst 1, 0, []), (15, .iand, 0, []), (16, .iadd, 0, []), (17, .istore_n 1, 0, []), (18, .iinc 2 1, 0, []), (21, .goto (-17), 0, []), (24, .iload_n 1, 0, []), (25, .ireturn, 0, [])]
def M_161 : xM := (9, 1, 1, 3, c_161)
def c_162 : List xR := [(0, .iload_n 0, 0, []), (1, .iconst 0, 0, []), (2, .bipush 23, 0, []), (4, .invokestatic 18, 222, []), (7, .ireturn, 0, [])]
def M_162 : xM := (9, 2, 1, 1, c_162)
def c_163 : List xR := [(0, .iload_n 0, 0, []), (1, .iconst 0, 0, []), (2, .sipush 999, 0, []), (5, .invokestatic 18, 222, []), (8, .ireturn, 0, [])]
def M_163 : xM := (9, 2, 1, 1, c_163)
def c_164 : List xR := [(0, .aload_n 0, 0, []), (1, .invokespecial 22, 220, []), (4, .aload_n 0, 0, []), (5, .bipush 7, 0, []), (7, .newarray .int, 0, []), (9, .putfield 7, 97, []), (12, .aload_n 0, 0, []), (13, .sipush 6588, 0, []), (16, .newarray .int, 0, []), (18, .putfield 28, 98, []), (21, .aload_n 0, 0, []), (22, .sipush 13176, 0, []), (25, .newarray .int, 0, []), (27, .putfield 31, 99, []), (30, .aload_n 0, 0, []), (31, .iconst 2, 0, []), (32, .newarray .boolean, 0, []), (34, .putfield 34, 100, []), (37, .aload_n 0, 0, []), (38, .sipush 3852, 0, []), (41, .newarray .int, 0, []), (43, .putfield 38, 101, []), (46, .aload_n 0, 0, []), (47, .bipush 126, 0, []), (49, .newarray .byte, 0, []), (51, .dup, 0, []), (52, .iconst 0, 0, []), (53, .bipush 99, 0, []), (55, .bastore, 1, []), (56, .dup, 0, []), (57, .iconst 1, 0, []), (58, .bipush 111, 0, []), (60, .bastore, 1, []), (61, .dup, 0, []), (62, .iconst 2, 0, []), (63, .bipush 115, 0, []), (65, .bastore, 1, []), (66, .dup, 0, []), (67, .iconst 3, 0, []), (68, .bipush 116, 0, []), (70, .bastore, 1, []), (71, .dup, 0, []), (72, .iconst 4, 0, []), (73, .bipush 115, 0, []), (75, .bastore, 1, []), (76, .dup, 0, []), (77, .iconst 5, 0, []), (78, .bipush 32, 0, []), (80, .bastore, 1, []), (81, .dup, 0, []), (82, .bipush 6, 0, []), (84, .bipush 98, 0, []), (86, .bastore, 1, []), (87, .dup, 0, []), (88, .bipush 7, 0, []), (90, .bipush 97, 0, []), (92, .bastore, 1, []), (93, .dup, 0, []), (94, .bipush 8, 0, []), (96, .bipush 114, 0, []), (98, .bastore, 1, []), (99, .dup, 0, []), (100, .bipush 9, 0, []), (102, .bipush 115, 0, []), (104, .bastore, 1, []), (105, .dup, 0, []), (106, .bipush 10, 0, []), (108, .bipush 32, 0, []), (110, .bastore, 1, []), (111, .dup, 0, []), (112, .bipush 11, 0, []), (114, .bipush 105, 0, []), (116, .bastore, 1, []), (117, .dup, 0, []), (118, .bipush 12, 0, []), (120, .bipush 102, 0, []), (122, .bastore, 1, []), (123, .dup, 0, []), (124, .bipush 13, 0, []), (126, .bipush 32, 0, []), (128, .bastore, 1, []), (129, .dup, 0, []), (130, .bipush 14, 0, []), (132, .bipush 111, 0, []), (134, .bastore, 1, []), (135, .dup, 0, []), (136, .bipush 15, 0, []), (138, .bipush 114, 0, []), (140, .bastore, 1, []), (141, .dup, 0, []), (142, .bipush 16, 0, []), (144, .bipush 32, 0, []), (146, .bastore, 1, []), (147, .dup, 0, []), (148, .bipush 17, 0, []), (150, .bipush 97, 0, []), (152, .bastore, 1, []), (153, .dup, 0, []), (154, .bipush 18, 0, []), (156, .bipush 110, 0, []), (158, .bastore, 1, []), (159, .dup, 0, []), (160, .bipush 19, 0, []), (162, .bipush 100, 0, []), (164, .bastore, 1, []), (165, .dup, 0, []), (166, .bipush 20, 0, []), (168, .bipush 32, 0, []), (170, .bastore, 1, []), (171, .dup, 0, []), (172, .bipush 21, 0, []), (174, .bipush 110, 0, []), (176, .bastore, 1, []), (177, .dup, 0, []), (178, .bipush 22, 0, []), (180, .bipush 111, 0, []), (182, .bastore, 1, []), (183, .dup, 0, []), (184, .bipush 23, 0, []), (186, .bipush 116, 0, []), (188, .bastore, 1, []), (189, .dup, 0, []), (190, .bipush 24, 0, []), (192, .bipush 32, 0, []), (194, .bastore, 1, []), (195, .dup, 0, []), (196, .bipush 25, 0, []), (198, .bipush 98, 0, []), (200, .bastore, 1, []), (201, .dup, 0, []), (202, .bipush 26, 0, []), (204, .bipush 117, 0, []), (206, .bastore, 1, []), (207, .dup, 0, []), (208, .bipush 27, 0, []), (210, .bipush 99, 0, []), (212, .bastore, 1, []), (213, .dup, 0, []), (214, .bipush 28, 0, []), (216, .bipush 107, 0, []), (218, .bastore, 1, []), (219, .dup, 0, []), (220, .bipush 29, 0, []), (222, .bipush 101, 0, []), (224, .bastore, 1, []), (225, .dup, 0, []), (226, .bipush 30, 0, []), (228, .bipush 116, 0, []), (230, .bastore, 1, []), (231, .dup, 0, []), (232, .bipush 31, 0, []), (234, .bipush 32, 0, []), (236, .bastore, 1, []), (237, .dup, 0, []), (238, .bipush 32, 0, []), (240, .bipush 100, 0, []), (242, .bastore, 1, []), (243, .dup, 0, []), (244, .bipush 33, 0, []), (246, .bipush 101, 0, []), (248, .bastore, 1, []), (249, .dup, 0, []), (250, .bipush 34, 0, []), (252, .bipush 112, 0, []), (254, .bastore, 1, []), (255, .dup, 0, []), (256, .bipush 35, 0, []), (258, .bipush 116, 0, []), (260, .bastore, 1, []), (261, .dup, 0, []), (262, .bipush 36, 0, []), (264, .bipush 104, 0, []), (266, .bastore, 1, []), (267, .dup, 0, []), (268, .bipush 37, 0, []), (270, .bipush 32, 0, []), (272, .bastore, 1, []), (273, .dup, 0, []), (274, .bipush 38, 0, []), (276, .bipush 107, 0, []), (278, .bastore, 1, []), (279, .dup, 0, []), (280, .bipush 39, 0, []), (282, .bipush 101, 0, []), (284, .bastore, 1, []), (285, .dup, 0, []), (286, .bipush 40, 0, []), (288, .bipush 121, 0, []), (290, .bastore, 1, []), (291, .dup, 0, []), (292, .bipush 41, 0, []), (294, .bipush 32, 0, []), (296, .bastore, 1, []), (297, .dup, 0, []), (298, .bipush 42, 0, []), (300, .bipush 104, 0, []), (302, .bastore, 1, []), (303, .dup, 0, []), (304, .bipush 43, 0, []), (306, .bipush 97, 0, []), (308, .bastore, 1, []), (309, .dup, 0, []), (310, .bipush 44, 0, []), (312, .bipush 115, 0, []), (314, .bastore, 1, []), (315, .dup, 0, []), (316, .bipush 45, 0, []), (318, .bipush 104, 0, []), (320, .bastore, 1, []), (321, .dup, 0, []), (322, .bipush 46, 0, []), (324, .bipush 32, 0, []), (326, .bastore, 1, []), (327, .dup, 0, []), (328, .bipush 47, 0, []), (330, .bipush 109, 0, []), (332, .bastore, 1, []), (333, .dup, 0, []), (334, .bipush 48, 0, []), (336, .bipush 111, 0, []), (338, .bastore, 1, []), (339, .dup, 0, []), (340, .bipush 49, 0, []), (342, .bipush 111, 0, []), (344, .bastore, 1, []), (345, .dup, 0, []), (346, .bipush 50, 0, []), (348, .bipush 100, 0, []), (350, .bastore, 1, []), (351, .dup, 0, []), (352, .bipush 51, 0, []), (354, .bipush 32, 0, []), (356, .bastore, 1, []), (357, .dup, 0, []), (358, .bipush 52, 0, []), (360, .bipush 109, 0, []), (362, .bastore, 1, []), (363, .dup, 0, []), (364, .bipush 53, 0, []), (366, .bipush 97, 0, []), (368, .bastore, 1, []), (369, .dup, 0, []), (370, .bipush 54, 0, []), (372, .bipush 110, 0, []), (374, .bastore, 1, []), (375, .dup, 0, []), (376, .bipush 55, 0, []), (378, .bipush 121, 0, []), (380, .bastore, 1, []), (381, .dup, 0, []), (382, .bipush 56, 0, []), (384, .bipush 32, 0, []), (386, .bastore, 1, []), (387, .dup, 0, []), (388, .bipush 57, 0, []), (390, .bipush 116, 0, []), (392, .bastore, 1, []), (393, .dup, 0, []), (394, .bipush 58, 0, []), (396, .bipush 105, 0, []), (398, .bastore, 1, []), (399, .dup, 0, []), (400, .bipush 59, 0, []), (402, .bipush 109, 0, []), (404, .bastore, 1, []), (405, .dup, 0, []), (406, .bipush 60, 0, []), (408, .bipush 101, 0, []), (410, .bastore, 1, []), (411, .dup, 0, []), (412, .bipush 61, 0, []), (414, .bipush 32, 0, []), (416, .bastore, 1, []), (417, .dup, 0, []), (418, .bipush 62, 0, []), (420, .bipush 100, 0, []), (422, .bastore, 1, []), (423, .dup, 0, []), (424, .bipush 63, 0, []), (426, .bipush 111, 0, []), (428, .bastore, 1, []), (429, .dup, 0, []), (430, .bipush 64, 0, []), (432, .bipush 110, 0, []), (434, .bastore, 1, []), (435, .dup, 0, []), (436, .bipush 65, 0, []), (438, .bipush 101, 0, []), (440, .bastore, 1, []), (441, .dup, 0, []), (442, .bipush 66, 0, []), (444, .bipush 32, 0, []), (446, .bastore, 1, []), (447, .dup, 0, []), (448, .bipush 67, 0, []), (450, .bipush 108, 0, []), (452, .bastore, 1, []), (453, .dup, 0, []), (454, .bipush 68, 0, []), (456, .bipush 97, 0, []), (458, .bastore, 1, []), (459, .dup, 0, []), (460, .bipush 69, 0, []), (462, .bipush 116, 0, []), (464, .bastore, 1, []), (465, .dup, 0, []), (466, .bipush 70, 0, []), (468, .bipush 101, 0, []), (470, .bastore, 1, []), (471, .dup, 0, []), (472, .bipush 71, 0, []), (474, .bipush 115, 0, []), (476, .bastore, 1, []), (477, .dup, 0, []), (478, .bipush 72, 0, []), (480, .bipush 116, 0, []), (482, .bastore, 1, []), (483, .dup, 0, []), (484, .bipush 73, 0, []), (486, .bipush 32, 0, []), (488, .bastore, 1, []), (489, .dup, 0, []), (490, .bipush 74, 0, []), (492, .bipush 100, 0, []), (494, .bastore, 1, []), (495, .dup, 0, []), (496, .bipush 75, 0, []), (498, .bipush 101, 0, []), (500, .bastore, 1, []), (501, .dup, 0, []), (502, .bipush 76, 0, []), (504, .bipush 101, 0, []), (506, .bastore, 1, []), (507, .dup, 0, []), (508, .bipush 77, 0, []), (510, .bipush 112, 0, []), (512, .bastore, 1, []), (513, .dup, 0, []), (514, .bipush 78, 0, []), (516, .bipush 32, 0, []), (518, .bastore, 1, []), (519, .dup, 0, []), (520, .bipush 79, 0, []), (522, .bipush 119, 0, []), (524, .bastore, 1, []), (525, .dup, 0, []), (526, .bipush 80, 0, []), (528, .bipush 97, 0, []), (530, .bastore, 1, []), (531, .dup, 0, []), (532, .bipush 81, 0, []), (534, .bipush 105, 0, []), (536, .bastore, 1, []), (537, .dup, 0, []), (538, .bipush 82, 0, []), (540, .bipush 116, 0, []), (542, .bastore, 1, []), (543, .dup, 0, []), (544, .bipush 83, 0, []), (546, .bipush 115, 0, []), (548, .bastore, 1, []), (549, .dup, 0, []), (550, .bipush 84, 0, []), (552, .bipush 32, 0, []), (554, .bastore, 1, []), (555, .dup, 0, []), (556, .bipush 85, 0, []), (558, .bipush 107, 0, []), (560, .bastore, 1, []), (561, .dup, 0, []), (562, .bipush 86, 0, []), (564, .bipush 101, 0, []), (566, .bastore, 1, []), (567, .dup, 0, []), (568, .bipush 87, 0, []), (570, .bipush 121, 0, []), (572, .bastore, 1, []), (573, .dup, 0, []), (574, .bipush 88, 0, []), (576, .bipush 115, 0, []), (578, .bastore, 1, []), (579, .dup, 0, []), (580, .bipush 89, 0, []), (582, .bipush 32, 0, []), (584, .bastore, 1, []), (585, .dup, 0, []), (586, .bipush 90, 0, []), (588, .bipush 118, 0, []), (590, .bastore, 1, []), (591, .dup, 0, []), (592, .bipush 91, 0, []), (594, .bipush 97, 0, []), (596, .bastore, 1, []), (597, .dup, 0, []), (598, .bipush 92, 0, []), (600, .bipush 108, 0, []), (602, .bastore, 1, []), (603, .dup, 0, []), (604, .bipush 93, 0, []), (606, .bipush 117, 0, []), (608, .bastore, 1, []), (609, .dup, 0, []), (610, .bipush 94, 0, []), (612, .bipush 101, 0, []), (614, .bastore, 1, []), (615, .dup, 0, []), (616, .bipush 95, 0, []), (618, .bipush 32, 0, []), (620, .bastore, 1, []), (621, .dup, 0, []), (622, .bipush 96, 0, []), (624, .bipush 112, 0, []), (626, .bastore, 1, []), (627, .dup, 0, []), (628, .bipush 97, 0, []), (630, .bipush 117, 0, []), (632, .bastore, 1, []), (633, .dup, 0, []), (634, .bipush 98, 0, []), (636, .bipush 116, 0, []), (638, .bastore, 1, []), (639, .dup, 0, []), (640, .bipush 99, 0, []), (642, .bipush 32, 0, []), (644, .bastore, 1, []), (645, .dup, 0, []), (646, .bipush 100, 0, []), (648, .bipush 97, 0, []), (650, .bastore, 1, []), (651, .dup, 0, []), (652, .bipush 101, 0, []), (654, .bipush 115, 0, []), (656, .bastore, 1, []), (657, .dup, 0, []), (658, .bipush 102, 0, []), (660, .bipush 32, 0, []), (662, .bastore, 1, []), (663, .dup, 0, []), (664, .bipush 103, 0, []), (666, .bipush 100, 0, []), (668, .bastore, 1, []), (669, .dup, 0, []), (670, .bipush 104, 0, []), (672, .bipush 114, 0, []), (674, .bastore, 1, []), (675, .dup, 0, []), (676, .bipush 105, 0, []), (678, .bipush 111, 0, []), (680, .bastore, 1, []), (681, .dup, 0, []), (682, .bipush 106, 0, []), (684, .bipush 112, 0, []), (686, .bastore, 1, []), (687, .dup, 0, []), (688, .bipush 107, 0, []), (690, .bipush 32, 0, []), (692, .bastore, 1, []), (693, .dup, 0, []), (694, .bipush 108, 0, []), (696, .bipush 102, 0, []), (698, .bastore, 1, []), (699, .dup, 0, []), (700, .bipush 109, 0, []), (702, .bipush 108, 0, []), (704, .bastore, 1, []), (705, .dup, 0, []), (706, .bipush 110, 0, []), (708, .bipush 117, 0, []), (710, .bastore, 1, []), (711, .dup, 0, []), (712, .bipush 111, 0, []), (714, .bipush 115, 0, []), (716, .bastore, 1, []), (717, .dup, 0, []), (718, .bipush 112, 0, []), (720, .bipush 104, 0, []), (722, .bastore, 1, []), (723, .dup, 0, []), (724, .bipush 113, 0, []), (726, .bipush 32, 0, []), (728, .bastore, 1, []), (729, .dup, 0, []), (730, .bipush 114, 0, []), (732, .bipush 99, 0, []), (734, .bastore, 1, []), (735, .dup, 0, []), (736, .bipush 115, 0, []), (738, .bipush 114, 0, []), (740, .bastore, 1, []), (741, .dup, 0, []), (742, .bipush 116, 0, []), (744, .bipush 97, 0, []), (746, .bastore, 1, []), (747, .dup, 0, []), (748, .bipush 117, 0, []), (750, .bipush 115, 0, []), (752, .bastore, 1, []), (753, .dup, 0, []), (754, .bipush 118, 0, []), (756, .bipush 104, 0, []), (758, .bastore, 1, []), (759, .dup, 0, []), (760, .bipush 119, 0, []), (762, .bipush 32, 0, []), (764, .bastore, 1, []), (765, .dup, 0, []), (766, .bipush 120, 0, []), (768, .bipush 116, 0, []), (770, .bastore, 1, []), (771, .dup, 0, []), (772, .bipush 121, 0, []), (774, .bipush 105, 0, []), (776, .bastore, 1, []), (777, .dup, 0, []), (778, .bipush 122, 0, []), (780, .bipush 109, 0, []), (782, .bastore, 1, []), (783, .dup, 0, []), (784, .bipush 123, 0, []), (786, .bipush 101, 0, []), (788, .bastore, 1, []), (789, .dup, 0, []), (790, .bipush 124, 0, []), (792, .bipush 115, 0, []), (794, .bastore, 1, []), (795, .dup, 0, []), (796, .bipush 125, 0, []), (798, .bipush 32, 0, []), (800, .bastore, 1, []), (801, .putfield 41, 103, []), (804, .aload_n 0, 0, []), (805, .sipush 400, 0, []), (808, .newarray .byte, 0, []), (810, .putfield 45, 107, []), (813, .aload_n 0, 0, []), (814, .iconst 5, 0, []), (815, .newarray .int, 0, []), (817, .putfield 48, 108, []), (820, .aload_n 0, 0, []), (821, .iconst (-1), 0, []), (822, .putfield 51, 110, []), (825, .aload_n 0, 0, []), (826, .sipush 401, 0, []), (829, .newarray .int, 0, []), (831, .putfield 54, 111, []), (834, .aload_n 0, 0, []), (835, .sipush 401, 0, []), (838, .newarray .int, 0, []), (840, .putfield 57, 112, []), (843, .aload_n 0, 0, []), (844, .sipush 401, 0, []), (847, .newarray .int, 0, []), (849, .putfield 60, 113, []), (852, .aload_n 0, 0, []), (853, .bipush 7, 0, []), (855, .newarray .int, 0, []), (857, .putfield 63, 122, []), (860, .aload_n 0, 0, []), (861, .bipush 64, 0, []), (863, .newarray .int, 0, []), (865, .putfield 66, 125, []), (868, .aload_n 0, 0, []), (869, .sipush 15424, 0, []), (872, .newarray .int, 0, []), (874, .putfield 69, 126, []), (877, .aload_n 0, 0, []), (878, .sipush 15424, 0, []), (881, .newarray .int, 0, []), (883, .putfield 72, 127, []), (886, .aload_n 0, 0, []), (887, .sipush 1000, 0, []), (890, .newarray .int, 0, []), (892, .putfield 75, 129, []), (895, .aload_n 0, 0, []), (896, .bipush 64, 0, []), (898, .newarray .int, 0, []), (900, .putfield 78, 130, []), (903, .aload_n 0, 0, []), (904, .bipush 21, 0, []), (906, .newarray .long, 0, []), (908, .putfield 81, 131, []), (911, .aload_n 0, 0, []), (912, .iconst (-1), 0, []), (913, .putfield 85, 132, []), (916, .aload_n 0, 0, []), (917, .iconst 2, 0, []), (918, .newarray .long, 0, []), (920, .putfield 88, 138, []), (923, .aload_n 0, 0, []), (924, .bipush 40, 0, []), (926, .newarray .int, 0, []), (928, .putfield 91, 139, []), (931, .aload_n 0, 0, []), (932, .getfield 28, 98, []), (935, .sipush 975, 0, []), (938, .iconst 1, 0, []), (939, .iastore, 0, []), (940, .aload_n 0, 0, []), (941, .getfield 28, 98, []), (944, .sipush 980, 0, []), (947, .iconst (-1), 0, []), (948, .iastore, 0, []), (949, .aload_n 0, 0, []), (950, .getfield 28, 98, []), (953, .iconst 0, 0, []), (954, .iconst 1, 0, []), (955, .iastore, 0, []), (956, .aload_n 0, 0, []), (957, .getfield 28, 98, []), (960, .sipush 240, 0, []), (963, .iconst 1, 0, []), (964, .iastore, 0, []), (965, .return_, 0, [])]
def M_164 : xM := (9, 0, 2, 1, c_164)
def c_165 : List xR := [(0, .iconst 0, 0, []), (1, .istore_n 2, 0, []), (2, .iload_n 2, 0, []), (3, .sipush 963, 0, []), (6, .if_icmp .ge 27, 0, []), (9, .aload_n 0, 0, []), (10, .getfield 38, 101, []), (13, .sipush 963, 0, []), (16, .iload_n 1, 0, []), (17, .imul, 0, []), (18, .iload_n 2, 0, []), (19, .iadd, 0, []), (20, .aload_n 0, 0, []), (21, .getfield 28, 98, []), (24, .iload_n 2, 0, []), (25, .iaload, 0, []), (26, .iastore, 0, []), (27, .iinc 2 1, 0, []), (30, .goto (-28), 0, []), (33, .return_, 0, [])]
def M_165 : xM := (9, 0, 0, 3, c_165)
def c_166 : List xR := [(0, .iconst 0, 0, []), (1, .istore_n 2, 0, []), (2, .iload_n 2, 0, []), (3, .sipush 963, 0, []), (6, .if_icmp .ge 27, 0, []), (9, .aload_n 0, 0, []), (10, .getfield 28, 98, []), (13, .iload_n 2, 0, []), (14, .aload_n 0, 0, []), (15, .getfield 38, 101, []), (18, .sipush 963, 0, []), (21, .iload_n 1, 0, []), (22, .imul, 0, []), (23, .iload_n 2, 0, []), (24, .iadd, 0, []), (25, .iaload, 0, []), (26, .iastore, 0, []), (27, .iinc 2 1, 0, []), (30, .goto (-28), 0, []), (33, .return_, 0, [])]
def M_166 : xM := (9, 0, 0, 3, c_166)
def c_167 : List xR := [(0, .iload_n 1, 0, []), (1, .iconst 0, 0, []), (2, .iconst 1, 0, []), (3, .invokestatic 18, 222, []), (6, .ifCond .ne 9, 0, []), (9, .aload_n 0, 0, []), (10, .iconst (-1), 0, []), (11, .invokevirtual 94, 223, []), (14, .ireturn, 0, []), (15, .iconst 0, 0, []), (16, .istore_n 2, 0, []), (17, .iload_n 2, 0, []), (18, .sipush 6588, 0, []), (21, .if_icmp .ge 27, 0, []), (24, .aload_n 0, 0, []), (25, .getfield 31, 99, []), (28, .sipush 6588, 0, []), (31, .iload_n 1, 0, []), (32, .imul, 0, []), (33, .iload_n 2, 0, []), (34, .iadd, 0, []), (35, .aload_n 0, 0, []), (36, .getfield 28, 98, []), (39, .iload_n 2, 0, []), (40, .iaload, 0, []), (41, .iastore, 0, []), (42, .iinc 2 1, 0, []), (45, .goto (-28), 0, []), (48, .aload_n 0, 0, []), (49, .getfield 34, 100, []), (52, .iload_n 1, 0, []), (53, .iconst 1, 0, []), (54, .bastore, 2, []), (55, .aload_n 0, 0, []), (56, .iconst 0, 0, []), (57, .invokevirtual 14, 224, []), (60, .ireturn, 0, [])]
def M_167 : xM := (9, 1, 0, 3, c_167)
def c_168 : List xR := [(0, .iload_n 1, 0, []), (1, .iconst 0, 0, []), (2, .iconst 1, 0, []), (3, .invokestatic 18, 222, []), (6, .ifCond .ne 9, 0, []), (9, .aload_n 0, 0, []), (10, .iconst (-1), 0, []), (11, .invokevirtual 94, 223, []), (14, .ireturn, 0, []), (15, .aload_n 0, 0, []), (16, .getfield 34, 100, []), (19, .iload_n 1, 0, []), (20, .baload, 2, []), (21, .ifCond .ne 10, 0, []), (24, .aload_n 0, 0, []), (25, .bipush (-2), 0, []), (27, .invokevirtual 94, 223, []), (30, .ireturn, 0, []), (31, .iconst 0, 0, []), (32, .istore_n 2, 0, []), (33, .iload_n 2, 0, []), (34, .sipush 6588, 0, []), (37, .if_icmp .ge 27, 0, []), (40, .aload_n 0, 0, []), (41, .getfield 28, 98, []), (44, .iload_n 2, 0, []), (45, .aload_n 0, 0, []), (46, .getfield 31, 99, []), (49, .sipush 6588, 0, []), (52, .iload_n 1, 0, []), (53, .imul, 0, []), (54, .iload_n 2, 0, []), (55, .iadd, 0, []), (56, .iaload, 0, []), (57, .iastore, 0, []), (58, .iinc 2 1, 0, []), (61, .goto (-28), 0, []), (64, .aload_n 0, 0, []), (65, .iconst 0, 0, []), (66, .invokevirtual 97, 226, []), (69, .ireturn, 0, [])]
def M_168 : xM := (9, 1, 0, 3, c_168)
def c_169 : List xR := [(0, .bipush 10, 0, []), (2, .iload_n 0, 0, []), (3, .imul, 0, []), (4, .iload_n 1, 0, []), (5, .iadd, 0, []), (6, .ireturn, 0, [])]
def M_169 : xM := (9, 1, 1, 2, c_169)
def c_170 : List xR := [(0, .aload_n 0, 0, []), (1, .getfield 28, 98, []), (4, .iload_n 1, 0, []), (5, .iconst 0, 0, []), (6, .invokestatic 100, 229, []), (9, .iaload, 0, []), (10, .iconst 1, 0, []), (11, .if_icmp .ne 7, 0, []), (14, .iconst 1, 0, []), (15, .goto 4, 0, []), (18, .iconst 0, 0, []), (19, .ireturn, 0, [])]
def M_170 : xM := (9, 2, 0, 2, c_170)
def c_171 : List xR := [(0, .iconst 0, 0, []), (1, .istore_n 1, 0, []), (2, .iconst 0, 0, []), (3, .istore_n 2, 0, []), (4, .iload_n 2, 0, []), (5, .bipush 24, 0, []), (7, .if_icmp .ge 22, 0, []), (10, .iload_n 1, 0, []), (11, .aload_n 0, 0, []), (12, .getfield 28, 98, []), (15, .iload_n 2, 0, []), (16, .iconst 0, 0, []), (17, .invokestatic 100, 229, []), (20, .iaload, 0, []), (21, .iadd, 0, []), (22, .istore_n 1, 0, []), (23, .iinc 2 1, 0, []), (26, .goto (-22), 0, []), (29, .iload_n 1, 0, []), (30, .ireturn, 0, [])]
def M_171 : xM := (9, 1, 0, 3, c_171)
def c_172 : List xR := [(0, .iconst 0, 0, []), (1, .istore_n 1, 0, []), (2, .iconst 0, 0, []), (3, .istore_n 2, 0, []), (4, .iload_n 2, 0, []), (5, .bipush 24, 0, []), (7, .if_icmp .ge 34, 0, []), (10, .iload_n 1, 0, []), (11, .aload_n 0, 0, []), (12, .iload_n 2, 0, []), (13, .invokevirtual 104, 236, []), (16, .ifCond .eq 16, 0, []), (19, .aload_n 0, 0, []), (20, .getfield 28, 98, []), (23, .iload_n 2, 0, []), (24, .iconst 3, 0, []), (25, .invokestatic 100, 229, []), (28, .iaload, 0, []), (29, .goto 4, 0, []), (32, .iconst 0, 0, []), (33, .iadd, 0, []), (34, .istore_n 1, 0, []), (35, .iinc 2 1, 0, []), (38, .goto (-34), 0, []), (41, .iload_n 1, 0, []), (42, .ireturn, 0, [])]
def M_172 : xM := (9, 1, 0, 3, c_172)
def c_173 : List xR := [(0, .iload_n 0, 0, []), (1, .iconst 1, 0, []), (2, .iload_n 1, 0, []), (3, .ishl, 0, []), (4, .iconst 1, 0, []), (5, .isub, 0, []), (6, .iand, 0, []), (7, .ireturn, 0, [])]
def M_173 : xM := (9, 1, 1, 2, c_173)
def c_174 : List xR := [(0, .sipush 421, 0, []), (3, .iload_n 1, 0, []), (4, .imul, 0, []), (5, .aload_n 0, 0, []), (6, .getfield 28, 98, []), (9, .sipush 977, 0, []), (12, .iaload, 0, []), (13, .iadd, 0, []), (14, .sipush 1024, 0, []), (17, .irem, 0, []), (18, .ireturn, 0, [])]
def M_174 : xM := (9, 1, 0, 2, c_174)
def c_175 : List xR := [(0, .iconst 0, 0, []), (1, .istore_n 2, 0, []), (2, .aload_n 0, 0, []), (3, .iload_n 2, 0, []), (4, .invokevirtual 104, 236, []), (7, .ifCond .eq 30, 0, []), (10, .aload_n 0, 0, []), (11, .getfield 28, 98, []), (14, .iload_n 2, 0, []), (15, .iconst 2, 0, []), (16, .invokestatic 100, 229, []), (19, .iaload, 0, []), (20, .iload_n 1, 0, []), (21, .aload_n 0, 0, []), (22, .getfield 28, 98, []), (25, .iload_n 2, 0, []), (26, .iconst 1, 0, []), (27, .invokestatic 100, 229, []), (30, .iaload, 0, []), (31, .invokestatic 108, 237, []), (34, .if_icmp .eq 9, 0, []), (37, .iinc 2 1, 0, []), (40, .goto (-38), 0, []), (43, .iload_n 2, 0, []), (44, .ireturn, 0, [])]
def M_175 : xM := (9, 1, 0, 3, c_175)
def c_176 : List xR := [(0, .aload_n 0, 0, []), (1, .aload_n 0, 0, []), (2, .iload_n 1, 0, []), (3, .invokevirtual 111, 240, []), (6, .invokevirtual 114, 235, []), (9, .ireturn, 0, [])]
def M_176 : xM := (9, 1, 0, 2, c_176)
def c_177 : List xR := [(0, .aload_n 0, 0, []), (1, .iload_n 1, 0, []), (2, .invokevirtual 117, 243, []), (5, .istore_n 2, 0, []), (6, .iconst 0, 0, []), (7, .istore_n 3, 0, []), (8, .iload_n 3, 0, []), (9, .aload_n 0, 0, []), (10, .getfield 28, 98, []), (13, .iload_n 2, 0, []), (14, .iconst 3, 0, []), (15, .invokestatic 100, 229, []), (18, .iaload, 0, []), (19, .if_icmp .ge 27, 0, []), (22, .aload_n 0, 0, []), (23, .getfield 28, 98, []), (26, .iload_n 2, 0, []), (27, .iconst 4, 0, []), (28, .iload_n 3, 0, []), (29, .iadd, 0, []), (30, .invokestatic 100, 229, []), (33, .iaload, 0, []), (34, .iload_n 1, 0, []), (35, .if_icmp .ne 5, 0, []), (38, .iload_n 3, 0, []), (39, .ireturn, 0, []), (40, .iinc 3 1, 0, []), (43, .goto (-35), 0, []), (46, .iconst (-1), 0, []), (47, .ireturn, 0, [])]
def M_177 : xM := (9, 1, 0, 4, c_177)
def c_178 : List xR := [(0, .aload_n 0, 0, []), (1, .iload_n 1, 0, []), (2, .invokevirtual 120, 242, []), (5, .istore_n 2, 0, []), (6, .iload_n 2, 0, []), (7, .iconst (-1), 0, []), (8, .if_icmp .ne 7, 0, []), (11, .iconst (-1), 0, []), (12, .goto 20, 0, []), (15, .aload_n 0, 0, []), (16, .getfield 28, 98, []), (19, .aload_n 0, 0, []), (20, .iload_n 1, 0, []), (21, .invokevirtual 117, 243, []), (24, .bipush 7, 0, []), (26, .iload_n 2, 0, []), (27, .iadd, 0, []), (28, .invokestatic 100, 229, []), (31, .iaload, 0, []), (32, .ireturn, 0, [])]
def M_178 : xM := (9, 1, 0, 3, c_178)
def c_179 : List xR := [(0, .iload_n 2, 0, []), (1, .ifCond .ne 12, 0, []), (4, .aload_n 0, 0, []), (5, .getfield 28, 98, []), (8, .iload_n 1, 0, []), (9, .iconst 0, 0, []), (10, .iadd, 0, []), (11, .iaload, 0, []), (12, .ireturn, 0, []), (13, .aload_n 0, 0, []), (14, .getfield 28, 98, []), (17, .iload_n 1, 0, []), (18, .iconst 0, 0, []), (19, .iadd, 0, []), (20, .iaload, 0, []), (21, .ifCond .eq 13, 0, []), (24, .iload_n 2, 0, []), (25, .iconst 1, 0, []), (26, .bipush 9, 0, []), (28, .invokestatic 18, 222, []), (31, .ifCond .ne 5, 0, []), (34, .iconst (-1), 0, []), (35, .ireturn, 0, []), (36, .iload_n 2, 0, []), (37, .iconst 3, 0, []), (38, .if_icmp .gt 12, 0, []), (41, .aload_n 0, 0, []), (42, .getfield 28, 98, []), (45, .iload_n 1, 0, []), (46, .iload_n 2, 0, []), (47, .iadd, 0, []), (48, .iaload, 0, []), (49, .ireturn, 0, []), (50, .iload_n 2, 0, []), (51, .iconst 4, 0, []), (52, .isub, 0, []), (53, .iconst 3, 0, []), (54, .irem, 0, []), (55, .aload_n 0, 0, []), (56, .getfield 28, 98, []), (59, .iload_n 1, 0, []), (60, .iconst 3, 0, []), (61, .iadd, 0, []), (62, .iaload, 0, []), (63, .if_icmp .ge 14, 0, []), (66, .aload_n 0, 0, []), (67, .getfield 28, 98, []), (70, .iload_n 1, 0, []), (71, .iload_n 2, 0, []), (72, .iadd, 0, []), (73, .iaload, 0, []), (74, .goto 4, 0, []), (77, .iconst (-1), 0, []), (78, .ireturn, 0, [])]
def M_179 : xM := (9, 1, 0, 3, c_179)
def c_180 : List xR := [(0, .iload_n 1, 0, []), (1, .invokestatic 123, 228, []), (4, .ifCond .eq 16, 0, []), (7, .aload_n 0, 0, []), (8, .iload_n 1, 0, []), (9, .iconst 0, 0, []), (10, .invokestatic 100, 229, []), (13, .iload_n 2, 0, []), (14, .invokevirtual 126, 230, []), (17, .goto 4, 0, []), (20, .iconst (-1), 0, []), (21, .ireturn, 0, [])]
def M_180 : xM := (9, 1, 0, 3, c_180)
def c_181 : List xR := [(0, .iload_n 1, 0, []), (1, .invokestatic 123, 228, []), (4, .ifCond .eq 20, 0, []), (7, .aload_n 0, 0, []), (8, .sipush 240, 0, []), (11, .iload_n 1, 0, []), (12, .iconst 0, 0, []), (13, .invokestatic 100, 229, []), (16, .iadd, 0, []), (17, .iload_n 2, 0, []), (18, .invokevirtual 126, 230, []), (21, .goto 4, 0, []), (24, .iconst (-1), 0, []), (25, .ireturn, 0, [])]
def M_181 : xM := (9, 1, 0, 3, c_181)
def c_182 : List xR := [(0, .sipush 480, 0, []), (3, .bipush 12, 0, []), (5, .iload_n 0, 0, []), (6, .imul, 0, []), (7, .iadd, 0, []), (8, .ireturn, 0, [])]
def M_182 : xM := (9, 1, 1, 1, c_182)
def c_183 : List xR := [(0, .iload_n 1, 0, []), (1, .iconst 0, 0, []), (2, .aload_n 0, 0, []), (3, .getfield 28, 98, []), (6, .sipush 960, 0, []), (9, .iaload, 0, []), (10, .iconst 1, 0, []), (11, .isub, 0, []), (12, .invokestatic 18, 222, []), (15, .ifCond .ne 5, 0, []), (18, .iconst (-1), 0, []), (19, .ireturn, 0, []), (20, .iload_n 1, 0, []), (21, .invokestatic 129, 233, []), (24, .istore_n 3, 0, []), (25, .iload_n 2, 0, []), (26, .tableswitch 73 0 2 #[26, 35, 44], 0, []), (52, .aload_n 0, 0, []), (53, .getfield 28, 98, []), (56, .iload_n 3, 0, []), (57, .iconst 0, 0, []), (58, .iadd, 0, []), (59, .iaload, 0, []), (60, .ireturn, 0, []), (61, .aload_n 0, 0, []), (62, .getfield 28, 98, []), (65, .iload_n 3, 0, []), (66, .iconst 1, 0, []), (67, .iadd, 0, []), (68, .iaload, 0, []), (69, .ireturn, 0, []), (70, .aload_n 0, 0, []), (71, .getfield 28, 98, []), (74, .iload_n 3, 0, []), (75, .iconst 2, 0, []), (76, .iadd, 0, []), (77, .iconst 0, 0, []), (78, .iadd, 0, []), (79, .iaload, 0, []), (80, .iconst 1, 0, []), (81, .if_icmp .ne 16, 0, []), (84, .aload_n 0, 0, []), (85, .getfield 28, 98, []), (88, .iload_n 3, 0, []), (89, .iconst 2, 0, []), (90, .iadd, 0, []), (91, .iconst 3, 0, []), (92, .iadd, 0, []), (93, .iaload, 0, []), (94, .goto 4, 0, []), (97, .iconst (-1), 0, []), (98, .ireturn, 0, []), (99, .iconst (-1), 0, []), (100, .ireturn, 0, [])]
def M_183 : xM := (9, 1, 0, 4, c_183)
def c_184 : List xR := [(0, .iload_n 1, 0, []), (1, .iconst 0, 0, []), (2, .iconst 1, 0, []), (3, .aload_n 0, 0, []), (4, .getfield 28, 98, []), (7, .sipush 961, 0, []), (10, .iaload, 0, []), (11, .ishl, 0, []), (12, .iconst 1, 0, []), (13, .isub, 0, []), (14, .invokestatic 18, 222, []), (17, .ifCond .eq 11, 0, []), (20, .aload_n 0, 0, []), (21, .iload_n 1, 0, []), (22, .invokevirtual 114, 235, []), (25, .goto 4, 0, []), (28, .iconst (-1), 0, []), (29, .ireturn, 0, [])]
def M_184 : xM := (9, 1, 0, 2, c_184)
def c_185 : List xR := [(0, .iload_n 1, 0, []), (1, .invokestatic 132, 239, []), (4, .ifCond .ne 5, 0, []), (7, .iconst (-1), 0, []), (8, .ireturn, 0, []), (9, .iload_n 2, 0, []), (10, .tableswitch 62 0 3 #[30, 36, 42, 48], 0, []), (40, .aload_n 0, 0, []), (41, .iload_n 1, 0, []), (42, .invokevirtual 111, 240, []), (45, .ireturn, 0, []), (46, .aload_n 0, 0, []), (47, .iload_n 1, 0, []), (48, .invokevirtual 135, 241, []), (51, .ireturn, 0, []), (52, .aload_n 0, 0, []), (53, .iload_n 1, 0, []), (54, .invokevirtual 117, 243, []), (57, .ireturn, 0, []), (58, .aload_n 0, 0, []), (59, .iload_n 1, 0, []), (60, .invokevirtual 138, 244, []), (63, .ifCond .eq 7, 0, []), (66, .iconst 1, 0, []), (67, .goto 4, 0, []), (70, .iconst 0, 0, []), (71, .ireturn, 0, []), (72, .iconst (-1), 0, []), (73, .ireturn, 0, [])]
def M_185 : xM := (9, 1, 0, 3, c_185)
def c_186 : List xR := [(0, .iload_n 0, 0, []), (1, .tableswitch 65 0 3 #[31, 40, 48, 56], 0, []), (32, .iload_n 1, 0, []), (33, .iconst 0, 0, []), (34, .sipush 999, 0, []), (37, .invokestatic 18, 222, []), (40, .ireturn, 0, []), (41, .iload_n 1, 0, []), (42, .iconst 0, 0, []), (43, .bipush 10, 0, []), (45, .invokestatic 18, 222, []), (48, .ireturn, 0, []), (49, .iload_n 1, 0, []), (50, .iconst 0, 0, []), (51, .bipush 9, 0, []), (53, .invokestatic 18, 222, []), (56, .ireturn, 0, []), (57, .iload_n 1, 0, []), (58, .iconst 0, 0, []), (59, .sipush 999, 0, []), (62, .invokestatic 18, 222, []), (65, .ireturn, 0, []), (66, .iconst 0, 0, []), (67, .ireturn, 0, [])]
def M_186 : xM := (9, 2, 1, 2, c_186)
def c_187 : List xR := [(0, .iload_n 0, 0, []), (1, .tableswitch 39 0 2 #[27, 31, 35], 0, []), (28, .sipush 962, 0, []), (31, .ireturn, 0, []), (32, .sipush 975, 0, []), (35, .ireturn, 0, []), (36, .sipush 976, 0, []), (39, .ireturn, 0, []), (40, .sipush 977, 0, []), (43, .ireturn, 0, [])]
def M_187 : xM := (9, 1, 1, 1, c_187)
def c_188 : List xR := [(0, .iload_n 1, 0, []), (1, .iload_n 2, 0, []), (2, .invokestatic 141, 261, []), (5, .ifCond .ne 9, 0, []), (8, .aload_n 0, 0, []), (9, .iconst (-1), 0, []), (10, .invokevirtual 94, 223, []), (13, .ireturn, 0, []), (14, .iload_n 1, 0, []), (15, .iconst 3, 0, []), (16, .if_icmp .ne 17, 0, []), (19, .aload_n 0, 0, []), (20, .invokevirtual 145, 254, []), (23, .ifCond .le 10, 0, []), (26, .aload_n 0, 0, []), (27, .bipush (-3), 0, []), (29, .invokevirtual 94, 223, []), (32, .ireturn, 0, []), (33, .aload_n 0, 0, [3]), (34, .getfield 28, 98, []), (37, .iload_n 1, 0, []), (38, .invokestatic 149, 262, []), (41, .iaload, 0, []), (42, .istore_n 3, 0, []), (43, .aload_n 0, 0, []), (44, .getfield 28, 98, []), (47, .iload_n 1, 0, []), (48, .invokestatic 149, 262, []), (51, .iload_n 2, 0, []), (52, .iastore, 0, []), (53, .aload_n 0, 0, []), (54, .iload_n 3, 0, []), (55, .invokevirtual 97, 226, []), (58, .ireturn, 0, [])]
def M_188 : xM := (9, 1, 0, 4, c_188)
def c_189 : List xR := [(0, .aload_n 0, 0, []), (1, .getfield 152, 109, []), (4, .istore_n 1, 0, []), (5, .aload_n 0, 0, []), (6, .iconst 0, 0, []), (7, .putfield 152, 109, []), (10, .iload_n 1, 0, []), (11, .ifCond .ne 10, 0, []), (14, .aload_n 0, 0, []), (15, .bipush (-6), 0, []), (17, .invokevirtual 94, 223, []), (20, .ireturn, 0, []), (21, .iconst 0, 0, []), (22, .istore_n 2, 0, []), (23, .aload_n 0, 0, []), (24, .iload_n 1, 0, []), (25, .iconst 2, 0, []), (26, .irem, 0, []), (27, .putfield 155, 102, []), (30, .iconst 0, 0, []), (31, .istore_n 3, 0, []), (32, .iload_n 3, 0, [4]), (33, .iconst 2, 0, []), (34, .iadd, 0, []), (35, .iload_n 1, 0, []), (36, .if_icmp .gt 73, 0, []), (39, .aload_n 0, 0, []), (40, .aload_n 0, 0, []), (41, .getfield 45, 107, []), (44, .iload_n 3, 0, []), (45, .baload, 1, []), (46, .sipush 255, 0, []), (49, .iand, 0, []), (50, .aload_n 0, 0, []), (51, .getfield 45, 107, []), (54, .iload_n 3, 0, []), (55, .iconst 1, 0, []), (56, .iadd, 0, []), (57, .baload, 1, []), (58, .invokevirtual 158, 264, []), (61, .ifCond .lt 7, 0, []), (64, .iconst 1, 0, []), (65, .goto 4, 0, []), (68, .iconst 0, 0, []), (69, .istore 4, 0, []), (71, .iload_n 2, 0, []), (72, .iload 4, 0, []), (74, .ifCond .eq 7, 0, []), (77, .iconst 1, 0, []), (78, .goto 4, 0, []), (81, .iconst 0, 0, []), (82, .iadd, 0, [2]), (83, .istore_n 2, 0, []), (84, .aload_n 0, 0, []), (85, .dup, 0, []), (86, .getfield 155, 102, []), (89, .iload 4, 0, []), (91, .ifCond .eq 7, 0, []), (94, .iconst 0, 0, []), (95, .goto 4, 0, []), (98, .iconst 1, 0, []), (99, .iadd, 0, []), (100, .putfield 155, 102, []), (103, .iinc 3 2, 0, []), (106, .goto (-74), 0, []), (109, .aload_n 0, 0, []), (110, .iload_n 2, 0, []), (111, .invokevirtual 97, 226, []), (114, .ireturn, 0, [])]
def M_189 : xM := (9, 1, 0, 5, c_189)
def c_190 : List xR := [(0, .aload_n 0, 0, []), (1, .getfield 155, 102, []), (4, .ireturn, 0, [])]
def M_190 : xM := (9, 1, 0, 1, c_190)
def c_191 : List xR := [(0, .aload_n 0, 0, []), (1, .getfield 152, 109, []), (4, .bipush 20, 0, []), (6, .iadd, 0, []), (7, .sipush 400, 0, []), (10, .if_icmp .le 5, 0, []), (13, .iconst (-1), 0, []), (14, .ireturn, 0, []), (15, .aload_n 0, 0, []), (16, .getfield 48, 108, []), (19, .iconst 0, 0, []), (20, .iload_n 1, 0, []), (21, .iastore, 0, []), (22, .aload_n 0, 0, []), (23, .getfield 48, 108, []), (26, .iconst 1, 0, []), (27, .iload_n 2, 0, []), (28, .iastore, 0, []), (29, .aload_n 0, 0, []), (30, .getfield 48, 108, []), (33, .iconst 2, 0, []), (34, .iload_n 3, 0, []), (35, .iastore, 0, []), (36, .aload_n 0, 0, []), (37, .getfield 48, 108, []), (40, .iconst 3, 0, []), (41, .iload 4, 0, []), (43, .iastore, 0, []), (44, .aload_n 0, 0, []), (45, .getfield 48, 108, []), (48, .iconst 4, 0, []), (49, .iload 5, 0, []), (51, .iastore, 0, []), (52, .iconst 0, 0, []), (53, .istore 6, 0, []), (55, .iload 6, 0, [1, 2, 3, 4, 5]), (57, .bipush 20, 0, []), (59, .if_icmp .ge 42, 0, []), (62, .aload_n 0, 0, []), (63, .getfield 45, 107, []), (66, .aload_n 0, 0, []), (67, .getfield 152, 109, []), (70, .iload 6, 0, []), (72, .iadd, 0, []), (73, .aload_n 0, 0, []), (74, .getfield 48, 108, []), (77, .iload 6, 0, []), (79, .iconst 4, 0, []), (80, .idiv, 0, []), (81, .iaload, 0, []), (82, .bipush 24, 0, []), (84, .bipush 8, 0, []), (86, .iload 6, 0, []), (88, .iconst 4, 0, []), (89, .irem, 0, []), (90, .imul, 0, []), (91, .isub, 0, []), (92, .ishr, 0, []), (93, .i2b, 0, []), (94, .bastore, 1, []), (95, .iinc 6 1, 0, []), (98, .goto (-43), 0, []), (101, .aload_n 0, 0, []), (102, .dup, 0, []), (103, .getfield 152, 109, []), (106, .bipush 20, 0, []), (108, .iadd, 0, []), (109, .putfield 152, 109, []), (112, .aload_n 0, 0, []), (113, .getfield 152, 109, []), (116, .ireturn, 0, [])]
def M_191 : xM := (9, 1, 0, 7, c_191)
def c_192 : List xR := [(0, .iload_n 1, 0, []), (1, .iconst 0, 0, []), (2, .aload_n 0, 0, []), (3, .getfield 152, 109, []), (6, .invokestatic 18, 222, []), (9, .ifCond .ne 5, 0, []), (12, .iconst (-1), 0, []), (13, .ireturn, 0, []), (14, .aload_n 0, 0, []), (15, .iload_n 1, 0, []), (16, .putfield 152, 109, []), (19, .iload_n 1, 0, []), (20, .ireturn, 0, [])]
def M_192 : xM := (9, 1, 0, 2, c_192)
def c_193 : List xR := [(0, .iload_n 0, 0, []), (1, .bipush 97, 0, []), (3, .if_icmp .lt 13, 0, []), (6, .iload_n 0, 0, []), (7, .bipush 122, 0, []), (9, .if_icmp .gt 7, 0, []), (12, .iconst 1, 0, []), (13, .goto 4, 0, []), (16, .iconst 0, 0, []), (17, .ireturn, 0, [])]
def M_193 : xM := (9, 2, 1, 1, c_193)
def c_194 : List xR := [(0, .iload_n 0, 0, []), (1, .bipush 48, 0, []), (3, .if_icmp .lt 13, 0, []), (6, .iload_n 0, 0, []), (7, .bipush 57, 0, []), (9, .if_icmp .gt 7, 0, []), (12, .iconst 1, 0, []), (13, .goto 4, 0, []), (16, .iconst 0, 0, []), (17, .ireturn, 0, [])]
def M_194 : xM := (9, 2, 1, 1, c_194)
def c_195 : List xR := [(0, .iconst 1, 0, []), (1, .istore_n 3, 0, []), (2, .iconst 0, 0, []), (3, .istore 4, 0, []), (5, .iload 4, 0, [5, 6, 7]), (7, .aload_n 0, 0, []), (8, .getfield 41, 103, []), (11, .arraylength, 0, []), (12, .if_icmp .ge 114, 0, []), (15, .iconst 0, 0, []), (16, .istore 5, 0, []), (18, .aload_n 0, 0, [6, 7]), (19, .getfield 41, 103, []), (22, .iload 4, 0, []), (24, .iload 5, 0, []), (26, .iadd, 0, []), (27, .baload, 1, []), (28, .bipush 32, 0, []), (30, .if_icmp .eq 9, 0, []), (33, .iinc 5 1, 0, []), (36, .goto (-18), 0, []), (39, .iload 5, 0, []), (41, .iload_n 2, 0, []), (42, .iload_n 1, 0, []), (43, .isub, 0, []), (44, .if_icmp .ne 7, 0, []), (47, .iconst 1, 0, []), (48, .goto 4, 0, []), (51, .iconst 0, 0, []), (52, .istore 6, 0, []), (54, .iconst 0, 0, []), (55, .istore 7, 0, []), (57, .iload 7, 0, []), (59, .iload 5, 0, []), (61, .if_icmp .ge 43, 0, []), (64, .iload 6, 0, []), (66, .ifCond .eq 38, 0, []), (69, .aload_n 0, 0, []), (70, .getfield 41, 103, []), (73, .iload 4, 0, []), (75, .iload 7, 0, []), (77, .iadd, 0, []), (78, .baload, 1, []), (79, .aload_n 0, 0, []), (80, .getfield 45, 107, []), (83, .iload_n 1, 0, []), (84, .iload 7, 0, []), (86, .iadd, 0, []), (87, .baload, 1, []), (88, .if_icmp .ne 7, 0, []), (91, .iconst 1, 0, []), (92, .goto 4, 0, []), (95, .iconst 0, 0, []), (96, .istore 6, 0, []), (98, .iinc 7 1, 0, []), (101, .goto (-44), 0, []), (104, .iload 6, 0, [7]), (106, .ifCond .eq 5, 0, []), (109, .iload_n 3, 0, []), (110, .ireturn, 0, []), (111, .iload 4, 0, []), (113, .iload 5, 0, []), (115, .iconst 1, 0, []), (116, .iadd, 0, []), (117, .iadd, 0, []), (118, .istore 4, 0, []), (120, .iinc 3 1, 0, []), (123, .goto (-118), 0, []), (126, .iconst 0, 0, []), (127, .ireturn, 0, [])]
def M_195 : xM := (9, 1, 0, 8, c_195)
def c_196 : List xR := [(0, .aload_n 0, 0, []), (1, .iconst 0, 0, []), (2, .putfield 161, 114, []), (5, .iconst 0, 0, []), (6, .istore_n 2, 0, []), (7, .iload_n 2, 0, [3, 4, 5]), (8, .iload_n 1, 0, []), (9, .if_icmp .ge 254, 0, []), (12, .aload_n 0, 0, []), (13, .getfield 45, 107, []), (16, .iload_n 2, 0, []), (17, .baload, 1, []), (18, .istore_n 3, 0, []), (19, .iload_n 3, 0, []), (20, .bipush 32, 0, []), (22, .if_icmp .ne 9, 0, []), (25, .iinc 2 1, 0, []), (28, .goto (-21), 0, []), (31, .iload_n 2, 0, []), (32, .iconst 1, 0, []), (33, .iadd, 0, []), (34, .istore 4, 0, []), (36, .iload_n 3, 0, []), (37, .invokestatic 164, 285, []), (40, .ifCond .eq 28, 0, []), (43, .iload 4, 0, [5]), (45, .iload_n 1, 0, []), (46, .if_icmp .ge 22, 0, []), (49, .aload_n 0, 0, []), (50, .getfield 45, 107, []), (53, .iload 4, 0, []), (55, .baload, 1, []), (56, .invokestatic 164, 285, []), (59, .ifCond .eq 9, 0, []), (62, .iinc 4 1, 0, []), (65, .goto (-22), 0, []), (68, .iload_n 3, 0, []), (69, .invokestatic 167, 286, []), (72, .ifCond .eq 28, 0, []), (75, .iload 4, 0, [5]), (77, .iload_n 1, 0, []), (78, .if_icmp .ge 22, 0, []), (81, .aload_n 0, 0, []), (82, .getfield 45, 107, []), (85, .iload 4, 0, []), (87, .baload, 1, []), (88, .invokestatic 167, 286, []), (91, .ifCond .eq 9, 0, []), (94, .iinc 4 1, 0, []), (97, .goto (-22), 0, []), (100, .aload_n 0, 0, [5]), (101, .getfield 60, 113, []), (104, .aload_n 0, 0, []), (105, .getfield 161, 114, []), (108, .iload_n 2, 0, []), (109, .iastore, 0, []), (110, .aload_n 0, 0, []), (111, .getfield 57, 112, []), (114, .aload_n 0, 0, []), (115, .getfield 161, 114, []), (118, .iconst 0, 0, []), (119, .iastore, 0, []), (120, .aload_n 0, 0, []), (121, .getfield 54, 111, []), (124, .aload_n 0, 0, []), (125, .getfield 161, 114, []), (128, .iload_n 3, 0, []), (129, .invokestatic 164, 285, []), (132, .ifCond .eq 13, 0, []), (135, .aload_n 0, 0, []), (136, .iload_n 2, 0, []), (137, .iload 4, 0, []), (139, .invokevirtual 170, 287, []), (142, .goto 23, 0, []), (145, .iload_n 3, 0, []), (146, .invokestatic 167, 286, []), (149, .ifCond .eq 8, 0, []), (152, .bipush 50, 0, []), (154, .goto 11, 0, []), (157, .bipush 100, 0, []), (159, .iload_n 3, 0, []), (160, .sipush 255, 0, []), (163, .iand, 0, []), (164, .iadd, 0, []), (165, .iastore, 0, []), (166, .iload_n 2, 0, []), (167, .istore 5, 0, []), (169, .iload 5, 0, [2]), (171, .iload 4, 0, []), (173, .if_icmp .ge 74, 0, []), (176, .iload_n 3, 0, []), (177, .invokestatic 167, 286, []), (180, .ifCond .eq 67, 0, []), (183, .aload_n 0, 0, []), (184, .getfield 57, 112, []), (187, .aload_n 0, 0, []), (188, .getfield 161, 114, []), (191, .aload_n 0, 0, []), (192, .getfield 57, 112, []), (195, .aload_n 0, 0, []), (196, .getfield 161, 114, []), (199, .iaload, 0, []), (200, .ldc 173, 7, []), (202, .if_icmp .le 15, 0, []), (205, .aload_n 0, 0, []), (206, .getfield 57, 112, []), (209, .aload_n 0, 0, []), (210, .getfield 161, 114, []), (213, .iaload, 0, []), (214, .goto 26, 0, []), (217, .bipush 10, 0, []), (219, .aload_n 0, 0, []), (220, .getfield 57, 112, []), (223, .aload_n 0, 0, []), (224, .getfield 161, 114, []), (227, .iaload, 0, []), (228, .imul, 0, []), (229, .aload_n 0, 0, []), (230, .getfield 45, 107, []), (233, .iload 5, 0, []), (235, .baload, 1, []), (236, .iadd, 0, []), (237, .bipush 48, 0, []), (239, .isub, 0, []), (240, .iastore, 0, []), (241, .iinc 5 1, 0, []), (244, .goto (-75), 0, []), (247, .aload_n 0, 0, []), (248, .dup, 0, []), (249, .getfield 161, 114, []), (252, .iconst 1, 0, []), (253, .iadd, 0, []), (254, .putfield 161, 114, []), (257, .iload 4, 0, []), (259, .istore_n 2, 0, []), (260, .goto (-253), 0, []), (263, .aload_n 0, 0, []), (264, .getfield 60, 113, []), (267, .aload_n 0, 0, []), (268, .getfield 161, 114, []), (271, .iload_n 1, 0, []), (272, .iastore, 0, []), (273, .aload_n 0, 0, []), (274, .getfield 54, 111, []), (277, .aload_n 0, 0, []), (278, .getfield 161, 114, []), (281, .iconst 0, 0, []), (282, .iastore, 0, []), (283, .aload_n 0, 0, []), (284, .getfield 57, 112, []), (287, .aload_n 0, 0, []), (288, .getfield 161, 114, []), (291, .iconst 0, 0, []), (292, .iastore, 0, []), (293, .return_, 0, [])]
def M_196 : xM := (9, 0, 0, 6, c_196)
def c_197 : List xR := [(0, .aload_n 0, 0, []), (1, .getfield 174, 117, []), (4, .iconst (-1), 0, []), (5, .if_icmp .ne 7, 0, []), (8, .iconst 1, 0, []), (9, .goto 4, 0, []), (12, .iconst 0, 0, []), (13, .ireturn, 0, [])]
def M_197 : xM := (9, 2, 0, 1, c_197)
def c_198 : List xR := [(0, .aload_n 0, 0, []), (1, .invokevirtual 177, 291, []), (4, .ifCond .eq 16, 0, []), (7, .aload_n 0, 0, []), (8, .aload_n 0, 0, []), (9, .getfield 60, 113, []), (12, .aload_n 0, 0, []), (13, .getfield 181, 115, []), (16, .iaload, 0, []), (17, .putfield 174, 117, []), (20, .return_, 0, [])]
def M_198 : xM := (9, 0, 0, 1, c_198)
def c_199 : List xR := [(0, .aload_n 0, 0, []), (1, .invokevirtual 177, 291, []), (4, .ifCond .eq 20, 0, []), (7, .aload_n 0, 0, []), (8, .getfield 54, 111, []), (11, .aload_n 0, 0, []), (12, .getfield 181, 115, []), (15, .iaload, 0, []), (16, .iload_n 1, 0, []), (17, .if_icmp .ne 7, 0, []), (20, .iconst 1, 0, []), (21, .goto 4, 0, []), (24, .iconst 0, 0, []), (25, .istore_n 2, 0, [1, 2]), (26, .iload_n 2, 0, []), (27, .ifCond .eq 13, 0, []), (30, .aload_n 0, 0, []), (31, .dup, 0, []), (32, .getfield 181, 115, []), (35, .iconst 1, 0, []), (36, .iadd, 0, []), (37, .putfield 181, 115, []), (40, .iload_n 2, 0, []), (41, .ireturn, 0, [])]
def M_199 : xM := (9, 2, 0, 3, c_199)
def c_200 : List xR := [(0, .aload_n 0, 0, []), (1, .iload_n 1, 0, []), (2, .invokevirtual 184, 290, []), (5, .ifCond .ne 7, 0, []), (8, .aload_n 0, 0, []), (9, .invokevirtual 187, 295, []), (12, .return_, 0, [])]
def M_200 : xM := (9, 0, 0, 2, c_200)
def c_201 : List xR := [(0, .aload_n 0, 0, []), (1, .getfield 190, 116, []), (4, .bipush 50, 0, []), (6, .if_icmp .ne 7, 0, []), (9, .aload_n 0, 0, []), (10, .invokevirtual 187, 295, []), (13, .aload_n 0, 0, []), (14, .dup, 0, []), (15, .getfield 190, 116, []), (18, .iconst 1, 0, []), (19, .iadd, 0, []), (20, .putfield 190, 116, []), (23, .aload_n 0, 0, []), (24, .invokevirtual 177, 291, []), (27, .ifCond .eq 13, 0, []), (30, .aload_n 0, 0, []), (31, .dup, 0, []), (32, .getfield 181, 115, []), (35, .iconst 1, 0, []), (36, .iadd, 0, []), (37, .putfield 181, 115, []), (40, .return_, 0, [])]
def M_201 : xM := (9, 0, 0, 1, c_201)
def c_202 : List xR := [(0, .bipush 100, 0, []), (2, .iload_n 0, 0, []), (3, .iadd, 0, []), (4, .ireturn, 0, [])]
def M_202 : xM := (9, 1, 1, 1, c_202)
def c_203 : List xR := [(0, .aload_n 0, 0, []), (1, .invokevirtual 177, 291, []), (4, .ifCond .eq 38, 0, []), (7, .aload_n 0, 0, []), (8, .getfield 54, 111, []), (11, .aload_n 0, 0, []), (12, .getfield 181, 115, []), (15, .iaload, 0, []), (16, .bipush 50, 0, []), (18, .if_icmp .ne 20, 0, []), (21, .aload_n 0, 0, []), (22, .getfield 57, 112, []), (25, .aload_n 0, 0, []), (26, .getfield 181, 115, []), (29, .iaload, 0, []), (30, .iload_n 1, 0, []), (31, .iload_n 2, 0, []), (32, .invokestatic 18, 222, []), (35, .ifCond .ne 7, 0, []), (38, .aload_n 0, 0, []), (39, .invokevirtual 187, 295, []), (42, .aload_n 0, 0, [1, 2]), (43, .invokevirtual 177, 291, []), (46, .ifCond .eq 13, 0, []), (49, .aload_n 0, 0, []), (50, .dup, 0, []), (51, .getfield 181, 115, []), (54, .iconst 1, 0, []), (55, .iadd, 0, []), (56, .putfield 181, 115, []), (59, .return_, 0, [])]
def M_203 : xM := (9, 0, 0, 3, c_203)
def c_204 : List xR := [(0, .aload_n 0, 0, []), (1, .iconst 1, 0, []), (2, .invokevirtual 184, 290, []), (5, .ifCond .eq 11, 0, []), (8, .aload_n 0, 0, []), (9, .iconst 0, 0, []), (10, .invokevirtual 193, 292, []), (13, .goto 8, 0, []), (16, .aload_n 0, 0, []), (17, .iconst 2, 0, []), (18, .invokevirtual 197, 296, []), (21, .aload_n 0, 0, []), (22, .iconst 3, 0, []), (23, .invokevirtual 184, 290, []), (26, .ifCond .eq 8, 0, []), (29, .aload_n 0, 0, []), (30, .iconst 0, 0, []), (31, .invokevirtual 200, 299, []), (34, .return_, 0, [])]
def M_204 : xM := (9, 0, 0, 1, c_204)
def c_205 : List xR := [(0, .aload_n 0, 0, []), (1, .bipush 20, 0, []), (3, .invokevirtual 184, 290, []), (6, .ifCond .eq 17, 0, []), (9, .aload_n 0, 0, []), (10, .iconst 0, 0, []), (11, .invokevirtual 193, 292, []), (14, .aload_n 0, 0, []), (15, .bipush 21, 0, []), (17, .invokevirtual 197, 296, []), (20, .goto 27, 0, []), (23, .aload_n 0, 0, []), (24, .bipush 22, 0, []), (26, .invokevirtual 184, 290, []), (29, .ifCond .ne 18, 0, []), (32, .aload_n 0, 0, []), (33, .bipush 23, 0, []), (35, .invokevirtual 184, 290, []), (38, .ifCond .ne 9, 0, []), (41, .aload_n 0, 0, []), (42, .bipush 24, 0, []), (44, .invokevirtual 197, 296, []), (47, .aload_n 0, 0, []), (48, .iconst 0, 0, []), (49, .invokevirtual 193, 292, []), (52, .aload_n 0, 0, []), (53, .bipush 25, 0, []), (55, .invokevirtual 184, 290, []), (58, .ifCond .eq 10, 0, []), (61, .aload_n 0, 0, []), (62, .iconst 1, 0, []), (63, .bipush 20, 0, []), (65, .invokevirtual 203, 298, []), (68, .aload_n 0, 0, []), (69, .iconst 3, 0, []), (70, .invokevirtual 184, 290, []), (73, .ifCond .eq 8, 0, []), (76, .aload_n 0, 0, []), (77, .iconst 0, 0, []), (78, .invokevirtual 200, 299, []), (81, .return_, 0, [])]
def M_205 : xM := (9, 0, 0, 1, c_205)
def c_206 : List xR := [(0, .aload_n 0, 0, []), (1, .getfield 207, 106, []), (4, .ifCond .eq 10, 0, []), (7, .aload_n 0, 0, []), (8, .invokevirtual 211, 289, []), (11, .goto 7, 0, []), (14, .aload_n 0, 0, []), (15, .invokevirtual 214, 302, []), (18, .return_, 0, [])]
def M_206 : xM := (9, 0, 0, 1, c_206)
def c_207 : List xR := [(0, .aload_n 0, 0, []), (1, .iload_n 1, 0, []), (2, .invokevirtual 217, 300, []), (5, .aload_n 0, 0, []), (6, .iconst 4, 0, []), (7, .invokevirtual 184, 290, []), (10, .ifCond .eq 11, 0, []), (13, .aload_n 0, 0, []), (14, .iload_n 1, 0, []), (15, .invokevirtual 217, 300, []), (18, .goto (-13), 0, []), (21, .return_, 0, [])]
def M_207 : xM := (9, 0, 0, 2, c_207)
def c_208 : List xR := [(0, .aload_n 0, 0, []), (1, .iload_n 1, 0, []), (2, .invokevirtual 220, 301, []), (5, .aload_n 0, 0, []), (6, .iconst 5, 0, []), (7, .invokevirtual 184, 290, []), (10, .ifCond .eq 11, 0, []), (13, .aload_n 0, 0, []), (14, .iload_n 1, 0, []), (15, .invokevirtual 220, 301, []), (18, .goto (-13), 0, []), (21, .return_, 0, [])]
def M_208 : xM := (9, 0, 0, 2, c_208)
def c_209 : List xR := [(0, .iconst 1, 0, []), (1, .istore_n 2, 0, []), (2, .iload_n 2, 0, [3]), (3, .ifCond .eq 13, 0, []), (6, .aload_n 0, 0, []), (7, .bipush 6, 0, []), (9, .invokevirtual 184, 290, []), (12, .istore_n 2, 0, []), (13, .goto (-11), 0, []), (16, .aload_n 0, 0, []), (17, .invokevirtual 177, 291, []), (20, .ifCond .ne 4, 0, []), (23, .return_, 0, []), (24, .aload_n 0, 0, []), (25, .getfield 54, 111, []), (28, .aload_n 0, 0, []), (29, .getfield 181, 115, []), (32, .iaload, 0, []), (33, .istore_n 3, 0, []), (34, .iload_n 3, 0, []), (35, .bipush 40, 0, []), (37, .invokestatic 223, 251, []), (40, .if_icmp .ne 50, 0, []), (43, .iload_n 1, 0, []), (44, .bipush 8, 0, []), (46, .if_icmp .ne 7, 0, []), (49, .aload_n 0, 0, []), (50, .invokevirtual 187, 295, []), (53, .aload_n 0, 0, [2, 3]), (54, .invokevirtual 177, 291, []), (57, .ifCond .ne 4, 0, []), (60, .return_, 0, []), (61, .aload_n 0, 0, []), (62, .dup, 0, []), (63, .getfield 181, 115, []), (66, .iconst 1, 0, []), (67, .iadd, 0, []), (68, .putfield 181, 115, []), (71, .aload_n 0, 0, []), (72, .iload_n 1, 0, []), (73, .iconst 1, 0, []), (74, .iadd, 0, []), (75, .invokevirtual 200, 299, []), (78, .aload_n 0, 0, []), (79, .bipush 41, 0, []), (81, .invokestatic 223, 251, []), (84, .invokevirtual 197, 296, []), (87, .goto 46, 0, []), (90, .aload_n 0, 0, []), (91, .iload_n 1, 0, []), (92, .invokevirtual 193, 292, []), (95, .aload_n 0, 0, []), (96, .bipush 60, 0, []), (98, .invokestatic 223, 251, []), (101, .invokevirtual 184, 290, []), (104, .ifCond .ne 24, 0, []), (107, .aload_n 0, 0, []), (108, .bipush 62, 0, []), (110, .invokestatic 223, 251, []), (113, .invokevirtual 184, 290, []), (116, .ifCond .ne 12, 0, []), (119, .aload_n 0, 0, []), (120, .bipush 61, 0, []), (122, .invokestatic 223, 251, []), (125, .invokevirtual 197, 296, []), (128, .aload_n 0, 0, []), (129, .iload_n 1, 0, []), (130, .invokevirtual 193, 292, []), (133, .return_, 0, [])]
def M_209 : xM := (9, 0, 0, 4, c_209)
def c_210 : List xR := [(0, .aload_n 0, 0, []), (1, .iload_n 1, 0, []), (2, .invokevirtual 227, 293, []), (5, .aload_n 0, 0, []), (6, .bipush 43, 0, []), (8, .invokestatic 223, 251, []), (11, .invokevirtual 184, 290, []), (14, .ifCond .ne 15, 0, []), (17, .aload_n 0, 0, []), (18, .bipush 45, 0, []), (20, .invokestatic 223, 251, []), (23, .invokevirtual 184, 290, []), (26, .ifCond .eq 11, 0, []), (29, .aload_n 0, 0, []), (30, .iload_n 1, 0, []), (31, .invokevirtual 227, 293, []), (34, .goto (-29), 0, []), (37, .return_, 0, [])]
def M_210 : xM := (9, 0, 0, 2, c_210)
def c_211 : List xR := [(0, .aload_n 0, 0, []), (1, .iload_n 1, 0, []), (2, .invokevirtual 230, 294, []), (5, .aload_n 0, 0, []), (6, .bipush 42, 0, []), (8, .invokestatic 223, 251, []), (11, .invokevirtual 184, 290, []), (14, .ifCond .ne 27, 0, []), (17, .aload_n 0, 0, []), (18, .bipush 47, 0, []), (20, .invokestatic 223, 251, []), (23, .invokevirtual 184, 290, []), (26, .ifCond .ne 15, 0, []), (29, .aload_n 0, 0, []), (30, .bipush 37, 0, []), (32, .invokestatic 223, 251, []), (35, .invokevirtual 184, 290, []), (38, .ifCond .eq 11, 0, []), (41, .aload_n 0, 0, []), (42, .iload_n 1, 0, []), (43, .invokevirtual 230, 294, []), (46, .goto (-41), 0, []), (49, .return_, 0, [])]
def M_211 : xM := (9, 0, 0, 2, c_211)
def c_212 : List xR := [(0, .aload_n 0, 0, []), (1, .invokevirtual 177, 291, []), (4, .ifCond .ne 4, 0, []), (7, .return_, 0, []), (8, .aload_n 0, 0, []), (9, .getfield 54, 111, []), (12, .aload_n 0, 0, []), (13, .getfield 181, 115, []), (16, .iaload, 0, []), (17, .istore_n 2, 0, []), (18, .iload_n 2, 0, []), (19, .bipush 91, 0, []), (21, .invokestatic 223, 251, []), (24, .if_icmp .ne 50, 0, []), (27, .iload_n 1, 0, []), (28, .bipush 8, 0, []), (30, .if_icmp .ne 7, 0, []), (33, .aload_n 0, 0, []), (34, .invokevirtual 187, 295, []), (37, .aload_n 0, 0, [2]), (38, .invokevirtual 177, 291, []), (41, .ifCond .ne 4, 0, []), (44, .return_, 0, []), (45, .aload_n 0, 0, []), (46, .dup, 0, []), (47, .getfield 181, 115, []), (50, .iconst 1, 0, []), (51, .iadd, 0, []), (52, .putfield 181, 115, []), (55, .aload_n 0, 0, []), (56, .iload_n 1, 0, []), (57, .iconst 1, 0, []), (58, .iadd, 0, []), (59, .invokevirtual 193, 292, []), (62, .aload_n 0, 0, []), (63, .bipush 93, 0, []), (65, .invokestatic 223, 251, []), (68, .invokevirtual 197, 296, []), (71, .goto 92, 0, []), (74, .iload_n 2, 0, []), (75, .bipush 50, 0, []), (77, .if_icmp .ne 18, 0, []), (80, .aload_n 0, 0, []), (81, .getfield 57, 112, []), (84, .aload_n 0, 0, []), (85, .getfield 181, 115, []), (88, .iaload, 0, []), (89, .sipush 1000, 0, []), (92, .if_icmp .le 19, 0, []), (95, .iload_n 2, 0, [1]), (96, .aload_n 0, 0, []), (97, .getfield 233, 104, []), (100, .if_icmp .lt 59, 0, []), (103, .iload_n 2, 0, []), (104, .aload_n 0, 0, []), (105, .getfield 236, 105, []), (108, .if_icmp .gt 51, 0, []), (111, .aload_n 0, 0, [1]), (112, .invokevirtual 239, 297, []), (115, .aload_n 0, 0, []), (116, .getfield 207, 106, []), (119, .ifCond .eq 16, 0, []), (122, .iload_n 2, 0, []), (123, .bipush 12, 0, []), (125, .if_icmp .ne 10, 0, []), (128, .aload_n 0, 0, []), (129, .iconst 0, 0, []), (130, .bipush 23, 0, []), (132, .invokevirtual 203, 298, []), (135, .aload_n 0, 0, [1]), (136, .getfield 207, 106, []), (139, .ifCond .eq 24, 0, []), (142, .iload_n 2, 0, []), (143, .bipush 19, 0, []), (145, .if_icmp .ne 18, 0, []), (148, .aload_n 0, 0, []), (149, .iconst 0, 0, []), (150, .sipush 999, 0, []), (153, .invokevirtual 203, 298, []), (156, .goto 7, 0, []), (159, .aload_n 0, 0, []), (160, .invokevirtual 187, 295, []), (163, .return_, 0, [])]
def M_212 : xM := (9, 0, 0, 3, c_212)
def c_213 : List xR := [(0, .aload_n 0, 0, []), (1, .aload_n 0, 0, []), (2, .getfield 152, 109, []), (5, .invokevirtual 242, 284, []), (8, .aload_n 0, 0, []), (9, .iconst 0, 0, []), (10, .putfield 152, 109, []), (13, .aload_n 0, 0, []), (14, .iconst 0, 0, []), (15, .putfield 181, 115, []), (18, .aload_n 0, 0, []), (19, .iconst 0, 0, []), (20, .putfield 190, 116, []), (23, .aload_n 0, 0, []), (24, .iconst (-1), 0, []), (25, .putfield 174, 117, []), (28, .aload_n 0, 0, []), (29, .invokevirtual 245, 288, []), (32, .iconst 1, 0, []), (33, .istore_n 1, 0, []), (34, .aload_n 0, 0, []), (35, .bipush 59, 0, []), (37, .invokestatic 223, 251, []), (40, .invokevirtual 184, 290, []), (43, .ifCond .eq 30, 0, []), (46, .iload_n 1, 0, []), (47, .bipush 12, 0, []), (49, .if_icmp .ne 7, 0, []), (52, .aload_n 0, 0, []), (53, .invokevirtual 187, 295, []), (56, .aload_n 0, 0, []), (57, .invokevirtual 177, 291, []), (60, .ifCond .eq 7, 0, []), (63, .aload_n 0, 0, []), (64, .invokevirtual 245, 288, []), (67, .iinc 1 1, 0, []), (70, .goto (-36), 0, []), (73, .aload_n 0, 0, []), (74, .invokevirtual 177, 291, []), (77, .ifCond .eq 18, 0, []), (80, .aload_n 0, 0, []), (81, .getfield 181, 115, []), (84, .aload_n 0, 0, []), (85, .getfield 161, 114, []), (88, .if_icmp .ge 7, 0, []), (91, .aload_n 0, 0, []), (92, .invokevirtual 187, 295, []), (95, .aload_n 0, 0, []), (96, .aload_n 0, 0, []), (97, .getfield 174, 117, []), (100, .putfield 51, 110, []), (103, .aload_n 0, 0, []), (104, .invokevirtual 177, 291, []), (107, .ireturn, 0, [])]
def M_213 : xM := (9, 2, 0, 2, c_213)
def c_214 : List xR := [(0, .aload_n 0, 0, []), (1, .iload_n 1, 0, []), (2, .putfield 207, 106, []), (5, .aload_n 0, 0, []), (6, .iload_n 1, 0, []), (7, .ifCond .eq 8, 0, []), (10, .bipush 12, 0, []), (12, .goto 5, 0, []), (15, .bipush 7, 0, []), (17, .putfield 233, 104, []), (20, .aload_n 0, 0, []), (21, .iload_n 1, 0, []), (22, .ifCond .eq 8, 0, []), (25, .bipush 19, 0, []), (27, .goto 5, 0, []), (30, .bipush 13, 0, []), (32, .putfield 236, 105, []), (35, .aload_n 0, 0, []), (36, .invokevirtual 248, 283, []), (39, .ireturn, 0, [])]
def M_214 : xM := (9, 2, 0, 2, c_214)
def c_215 : List xR := [(0, .aload_n 0, 0, []), (1, .getfield 28, 98, []), (4, .sipush 981, 0, []), (7, .iload_n 1, 0, []), (8, .iadd, 0, []), (9, .aload_n 0, 0, []), (10, .getfield 161, 114, []), (13, .iastore, 0, []), (14, .iconst 0, 0, []), (15, .istore_n 2, 0, []), (16, .iload_n 2, 0, []), (17, .aload_n 0, 0, []), (18, .getfield 161, 114, []), (21, .if_icmp .ge 53, 0, []), (24, .aload_n 0, 0, []), (25, .getfield 28, 98, []), (28, .sipush 988, 0, []), (31, .sipush 400, 0, []), (34, .iload_n 1, 0, []), (35, .imul, 0, []), (36, .iadd, 0, []), (37, .iload_n 2, 0, []), (38, .iadd, 0, []), (39, .aload_n 0, 0, []), (40, .getfield 54, 111, []), (43, .iload_n 2, 0, []), (44, .iaload, 0, []), (45, .iastore, 0, []), (46, .aload_n 0, 0, []), (47, .getfield 28, 98, []), (50, .sipush 3788, 0, []), (53, .sipush 400, 0, []), (56, .iload_n 1, 0, []), (57, .imul, 0, []), (58, .iadd, 0, []), (59, .iload_n 2, 0, []), (60, .iadd, 0, []), (61, .aload_n 0, 0, []), (62, .getfield 57, 112, []), (65, .iload_n 2, 0, []), (66, .iaload, 0, []), (67, .iastore, 0, []), (68, .iinc 2 1, 0, []), (71, .goto (-55), 0, []), (74, .return_, 0, [])]
def M_215 : xM := (9, 0, 0, 3, c_215)
def c_216 : List xR := [(0, .aload_n 0, 0, []), (1, .getfield 28, 98, []), (4, .sipush 979, 0, []), (7, .iaload, 0, []), (8, .bipush 6, 0, []), (10, .if_icmp .ne 15, 0, []), (13, .aload_n 0, 0, []), (14, .iconst 0, 0, []), (15, .putfield 152, 109, []), (18, .aload_n 0, 0, []), (19, .bipush (-5), 0, []), (21, .invokevirtual 94, 223, []), (24, .ireturn, 0, []), (25, .aload_n 0, 0, []), (26, .iconst 0, 0, []), (27, .invokevirtual 251, 282, []), (30, .ifCond .ne 10, 0, []), (33, .aload_n 0, 0, []), (34, .bipush (-6), 0, []), (36, .invokevirtual 94, 223, []), (39, .ireturn, 0, []), (40, .aload_n 0, 0, []), (41, .aload_n 0, 0, []), (42, .getfield 28, 98, []), (45, .sipush 979, 0, []), (48, .iaload, 0, []), (49, .invokevirtual 255, 303, []), (52, .aload_n 0, 0, []), (53, .getfield 28, 98, []), (56, .sipush 979, 0, []), (59, .dup2, 0, []), (60, .iaload, 0, []), (61, .iconst 1, 0, []), (62, .iadd, 0, []), (63, .iastore, 0, []), (64, .aload_n 0, 0, []), (65, .aload_n 0, 0, []), (66, .getfield 28, 98, []), (69, .sipush 979, 0, []), (72, .iaload, 0, []), (73, .iconst 1, 0, []), (74, .isub, 0, []), (75, .invokevirtual 14, 224, []), (78, .ireturn, 0, [])]
def M_216 : xM := (9, 1, 0, 1, c_216)
def c_217 : List xR := [(0, .aload_n 0, 0, []), (1, .getfield 51, 110, []), (4, .ireturn, 0, [])]
def M_217 : xM := (9, 1, 0, 1, c_217)
def c_218 : List xR := [(0, .iload_n 1, 0, []), (1, .iconst (-1), 0, []), (2, .aload_n 0, 0, []), (3, .getfield 28, 98, []), (6, .sipush 979, 0, []), (9, .iaload, 0, []), (10, .iconst 1, 0, []), (11, .isub, 0, []), (12, .invokestatic 18, 222, []), (15, .ireturn, 0, [])]
def M_218 : xM := (9, 2, 0, 2, c_218)
def c_219 : List xR := [(0, .aload_n 0, 0, []), (1, .iload_n 1, 0, []), (2, .invokevirtual 258, 306, []), (5, .ifCond .ne 10, 0, []), (8, .aload_n 0, 0, []), (9, .bipush (-2), 0, []), (11, .invokevirtual 94, 223, []), (14, .ireturn, 0, []), (15, .aload_n 0, 0, []), (16, .getfield 28, 98, []), (19, .sipush 980, 0, []), (22, .iaload, 0, []), (23, .istore_n 2, 0, []), (24, .aload_n 0, 0, []), (25, .getfield 28, 98, []), (28, .sipush 980, 0, []), (31, .iload_n 1, 0, []), (32, .iastore, 0, []), (33, .aload_n 0, 0, []), (34, .iload_n 2, 0, []), (35, .invokevirtual 14, 224, []), (38, .ireturn, 0, [])]
def M_219 : xM := (9, 1, 0, 3, c_219)
def c_220 : List xR := [(0, .iload_n 1, 0, []), (1, .aload_n 0, 0, []), (2, .getfield 261, 119, []), (5, .if_icmp .ge 16, 0, []), (8, .aload_n 0, 0, []), (9, .getfield 28, 98, []), (12, .sipush 988, 0, []), (15, .iload_n 1, 0, []), (16, .iadd, 0, []), (17, .iaload, 0, []), (18, .goto 4, 0, []), (21, .iconst 0, 0, []), (22, .ireturn, 0, [])]
def M_220 : xM := (9, 1, 0, 2, c_220)
def c_221 : List xR := [(0, .aload_n 0, 0, []), (1, .aload_n 0, 0, []), (2, .getfield 264, 118, []), (5, .invokevirtual 267, 247, []), (8, .iload_n 1, 0, []), (9, .if_icmp .ne 7, 0, []), (12, .iconst 1, 0, []), (13, .goto 4, 0, []), (16, .iconst 0, 0, []), (17, .istore_n 2, 0, [1, 2]), (18, .iload_n 2, 0, []), (19, .ifCond .eq 13, 0, []), (22, .aload_n 0, 0, []), (23, .dup, 0, []), (24, .getfield 264, 118, []), (27, .iconst 1, 0, []), (28, .iadd, 0, []), (29, .putfield 264, 118, []), (32, .iload_n 2, 0, []), (33, .ireturn, 0, [])]
def M_221 : xM := (9, 2, 0, 3, c_221)
def c_222 : List xR := [(0, .iload_n 3, 0, []), (1, .ifCond .eq 24, 0, []), (4, .lload_n 1, 0, []), (5, .ldc2_w 270, 9, []), (8, .lcmp, 0, []), (9, .ifCond .gt 11, 0, [3]), (12, .lload_n 1, 0, []), (13, .ldc2_w 272, 10, []), (16, .lcmp, 0, []), (17, .ifCond .ge 8, 0, [3]), (20, .aload_n 0, 0, [3]), (21, .iconst 1, 0, []), (22, .putfield 274, 120, []), (25, .aload_n 0, 0, []), (26, .getfield 274, 120, []), (29, .ifCond .eq 7, 0, []), (32, .lconst 0, 0, []), (33, .goto 4, 0, []), (36, .lload_n 1, 0, []), (37, .lreturn, 0, [])]
def M_222 : xM := (9, 3, 0, 4, c_222)
def c_223 : List xR := [(0, .aload_n 0, 0, []), (1, .iload_n 1, 0, []), (2, .invokevirtual 277, 249, []), (5, .lstore_n 2, 0, []), (6, .aload_n 0, 0, [4, 5, 6]), (7, .aload_n 0, 0, []), (8, .getfield 264, 118, []), (11, .invokevirtual 267, 247, []), (14, .bipush 43, 0, []), (16, .invokestatic 223, 251, []), (19, .if_icmp .eq 19, 0, []), (22, .aload_n 0, 0, []), (23, .aload_n 0, 0, []), (24, .getfield 264, 118, []), (27, .invokevirtual 267, 247, []), (30, .bipush 45, 0, []), (32, .invokestatic 223, 251, []), (35, .if_icmp .ne 68, 0, []), (38, .aload_n 0, 0, []), (39, .aload_n 0, 0, []), (40, .getfield 264, 118, []), (43, .invokevirtual 267, 247, []), (46, .bipush 43, 0, []), (48, .invokestatic 223, 251, []), (51, .if_icmp .ne 7, 0, []), (54, .iconst 1, 0, []), (55, .goto 4, 0, []), (58, .iconst 0, 0, []), (59, .istore 4, 0, [4, 5, 6]), (61, .aload_n 0, 0, []), (62, .dup, 0, []), (63, .getfield 264, 118, []), (66, .iconst 1, 0, []), (67, .iadd, 0, []), (68, .putfield 264, 118, []), (71, .aload_n 0, 0, []), (72, .iload_n 1, 0, []), (73, .invokevirtual 277, 249, []), (76, .lstore 5, 0, []), (78, .aload_n 0, 0, []), (79, .iload 4, 0, []), (81, .ifCond .eq 10, 0, []), (84, .lload_n 2, 0, []), (85, .lload 5, 0, []), (87, .ladd, 0, []), (88, .goto 7, 0, []), (91, .lload_n 2, 0, []), (92, .lload 5, 0, []), (94, .lsub, 0, []), (95, .iload_n 1, 0, []), (96, .invokevirtual 281, 255, []), (99, .lstore_n 2, 0, []), (100, .goto (-94), 0, []), (103, .lload_n 2, 0, []), (104, .lreturn, 0, [])]
def M_223 : xM := (9, 3, 0, 7, c_223)
def c_224 : List xR := [(0, .aload_n 0, 0, []), (1, .iload_n 1, 0, []), (2, .invokevirtual 285, 250, []), (5, .lstore_n 2, 0, []), (6, .aload_n 0, 0, [4, 5, 6]), (7, .aload_n 0, 0, []), (8, .getfield 264, 118, []), (11, .invokevirtual 267, 247, []), (14, .bipush 42, 0, []), (16, .invokestatic 223, 251, []), (19, .if_icmp .eq 35, 0, []), (22, .aload_n 0, 0, []), (23, .aload_n 0, 0, []), (24, .getfield 264, 118, []), (27, .invokevirtual 267, 247, []), (30, .bipush 47, 0, []), (32, .invokestatic 223, 251, []), (35, .if_icmp .eq 19, 0, []), (38, .aload_n 0, 0, []), (39, .aload_n 0, 0, []), (40, .getfield 264, 118, []), (43, .invokevirtual 267, 247, []), (46, .bipush 37, 0, []), (48, .invokestatic 223, 251, []), (51, .if_icmp .ne 117, 0, []), (54, .aload_n 0, 0, [4, 5, 6]), (55, .aload_n 0, 0, []), (56, .getfield 264, 118, []), (59, .invokevirtual 267, 247, []), (62, .istore 4, 0, []), (64, .aload_n 0, 0, []), (65, .dup, 0, []), (66, .getfield 264, 118, []), (69, .iconst 1, 0, []), (70, .iadd, 0, []), (71, .putfield 264, 118, []), (74, .aload_n 0, 0, []), (75, .iload_n 1, 0, []), (76, .invokevirtual 285, 250, []), (79, .lstore 5, 0, []), (81, .iload 4, 0, []), (83, .bipush 42, 0, []), (85, .invokestatic 223, 251, []), (88, .if_icmp .eq 33, 0, []), (91, .lload 5, 0, []), (93, .lconst 0, 0, []), (94, .lcmp, 0, []), (95, .ifCond .ne 26, 0, []), (98, .aload_n 0, 0, []), (99, .aload_n 0, 0, []), (100, .getfield 274, 120, []), (103, .ifCond .ne 7, 0, []), (106, .iload_n 1, 0, []), (107, .ifCond .eq 7, 0, []), (110, .iconst 1, 0, []), (111, .goto 4, 0, []), (114, .iconst 0, 0, []), (115, .putfield 274, 120, []), (118, .lconst 1, 0, []), (119, .lstore 5, 0, []), (121, .aload_n 0, 0, []), (122, .iload 4, 0, []), (124, .bipush 42, 0, []), (126, .invokestatic 223, 251, []), (129, .if_icmp .ne 10, 0, []), (132, .lload_n 2, 0, []), (133, .lload 5, 0, []), (135, .lmul, 0, []), (136, .goto 24, 0, []), (139, .iload 4, 0, []), (141, .bipush 47, 0, []), (143, .invokestatic 223, 251, []), (146, .if_icmp .ne 10, 0, []), (149, .lload_n 2, 0, []), (150, .lload 5, 0, []), (152, .ldiv, 0, []), (153, .goto 7, 0, []), (156, .lload_n 2, 0, []), (157, .lload 5, 0, []), (159, .lrem, 0, []), (160, .iload_n 1, 0, []), (161, .invokevirtual 281, 255, []), (164, .lstore_n 2, 0, []), (165, .goto (-159), 0, []), (168, .lload_n 2, 0, []), (169, .lreturn, 0, [])]
def M_224 : xM := (9, 3, 0, 7, c_224)
def c_225 : List xR := [(0, .aload_n 0, 0, []), (1, .bipush 91, 0, []), (3, .invokestatic 223, 251, []), (6, .invokevirtual 288, 252, []), (9, .ifCond .eq 21, 0, []), (12, .aload_n 0, 0, []), (13, .iload_n 1, 0, []), (14, .invokevirtual 291, 248, []), (17, .lstore_n 2, 0, []), (18, .aload_n 0, 0, []), (19, .dup, 0, []), (20, .getfield 264, 118, []), (23, .iconst 1, 0, []), (24, .iadd, 0, []), (25, .putfield 264, 118, []), (28, .lload_n 2, 0, []), (29, .lreturn, 0, []), (30, .aload_n 0, 0, []), (31, .aload_n 0, 0, []), (32, .getfield 264, 118, []), (35, .invokevirtual 267, 247, []), (38, .istore_n 2, 0, []), (39, .iconst 0, 0, []), (40, .istore_n 3, 0, []), (41, .aload_n 0, 0, []), (42, .dup, 0, []), (43, .getfield 264, 118, []), (46, .iconst 1, 0, []), (47, .iadd, 0, []), (48, .putfield 264, 118, []), (51, .aload_n 0, 0, []), (52, .getfield 294, 121, []), (55, .ifCond .eq 39, 0, []), (58, .iload_n 2, 0, []), (59, .bipush 12, 0, []), (61, .if_icmp .eq 9, 0, []), (64, .iload_n 2, 0, []), (65, .bipush 19, 0, []), (67, .if_icmp .ne 27, 0, []), (70, .aload_n 0, 0, [3]), (71, .getfield 28, 98, []), (74, .sipush 3788, 0, []), (77, .aload_n 0, 0, []), (78, .getfield 264, 118, []), (81, .iadd, 0, []), (82, .iaload, 0, []), (83, .istore_n 3, 0, []), (84, .aload_n 0, 0, []), (85, .dup, 0, []), (86, .getfield 264, 118, []), (89, .iconst 1, 0, []), (90, .iadd, 0, []), (91, .putfield 264, 118, []), (94, .iload_n 1, 0, []), (95, .ifCond .eq 10, 0, []), (98, .aload_n 0, 0, []), (99, .getfield 274, 120, []), (102, .ifCond .eq 5, 0, []), (105, .lconst 0, 0, []), (106, .lreturn, 0, []), (107, .iload_n 2, 0, []), (108, .bipush 50, 0, []), (110, .if_icmp .ne 20, 0, []), (113, .aload_n 0, 0, []), (114, .getfield 28, 98, []), (117, .sipush 3788, 0, []), (120, .aload_n 0, 0, []), (121, .getfield 264, 118, []), (124, .iadd, 0, []), (125, .iconst 1, 0, []), (126, .isub, 0, []), (127, .iaload, 0, []), (128, .i2l, 0, []), (129, .lreturn, 0, []), (130, .aload_n 0, 0, []), (131, .getfield 294, 121, []), (134, .ifCond .eq 13, 0, []), (137, .aload_n 0, 0, []), (138, .iload_n 2, 0, []), (139, .iload_n 3, 0, []), (140, .invokevirtual 297, 253, []), (143, .i2l, 0, []), (144, .goto 13, 0, []), (147, .aload_n 0, 0, []), (148, .getfield 63, 122, []), (151, .iload_n 2, 0, []), (152, .bipush 7, 0, []), (154, .isub, 0, []), (155, .iaload, 0, []), (156, .i2l, 0, []), (157, .lreturn, 0, [])]
def M_225 : xM := (9, 3, 0, 4, c_225)
def c_226 : List xR := [(0, .iload_n 1, 0, []), (1, .tableswitch 108 12 18 #[43, 66, 75, 80, 85, 94, 103], 0, []), (44, .aload_n 0, 0, []), (45, .iload_n 2, 0, []), (46, .invokevirtual 104, 236, []), (49, .ifCond .eq 16, 0, []), (52, .aload_n 0, 0, []), (53, .getfield 28, 98, []), (56, .iload_n 2, 0, []), (57, .iconst 3, 0, []), (58, .invokestatic 100, 229, []), (61, .iaload, 0, []), (62, .goto 4, 0, []), (65, .iconst (-1), 0, []), (66, .ireturn, 0, []), (67, .aload_n 0, 0, []), (68, .getfield 28, 98, []), (71, .sipush 962, 0, []), (74, .iaload, 0, []), (75, .ireturn, 0, []), (76, .aload_n 0, 0, []), (77, .getfield 300, 123, []), (80, .ireturn, 0, []), (81, .aload_n 0, 0, []), (82, .getfield 303, 124, []), (85, .ireturn, 0, []), (86, .aload_n 0, 0, []), (87, .getfield 28, 98, []), (90, .sipush 961, 0, []), (93, .iaload, 0, []), (94, .ireturn, 0, []), (95, .aload_n 0, 0, []), (96, .getfield 28, 98, []), (99, .sipush 960, 0, []), (102, .iaload, 0, []), (103, .ireturn, 0, []), (104, .aload_n 0, 0, []), (105, .invokevirtual 145, 254, []), (108, .ireturn, 0, []), (109, .aload_n 0, 0, []), (110, .iload_n 2, 0, []), (111, .invokevirtual 135, 241, []), (114, .ireturn, 0, [])]
def M_226 : xM := (9, 1, 0, 3, c_226)
def c_227 : List xR := [(0, .aload_n 0, 0, []), (1, .iload_n 1, 0, []), (2, .invokevirtual 306, 257, []), (5, .istore_n 2, 0, []), (6, .aload_n 0, 0, [3]), (7, .iconst 4, 0, []), (8, .invokevirtual 288, 252, []), (11, .ifCond .eq 38, 0, []), (14, .aload_n 0, 0, []), (15, .iload_n 1, 0, []), (16, .ifCond .eq 11, 0, []), (19, .iload_n 2, 0, []), (20, .ifCond .ne 7, 0, []), (23, .iconst 1, 0, []), (24, .goto 4, 0, []), (27, .iconst 0, 0, []), (28, .invokevirtual 306, 257, [3]), (31, .istore_n 3, 0, []), (32, .iload_n 2, 0, []), (33, .ifCond .ne 7, 0, []), (36, .iload_n 3, 0, []), (37, .ifCond .eq 7, 0, []), (40, .iconst 1, 0, []), (41, .goto 4, 0, []), (44, .iconst 0, 0, []), (45, .istore_n 2, 0, []), (46, .goto (-40), 0, []), (49, .iload_n 2, 0, []), (50, .ireturn, 0, [])]
def M_227 : xM := (9, 2, 0, 4, c_227)
def c_228 : List xR := [(0, .aload_n 0, 0, []), (1, .iload_n 1, 0, []), (2, .invokevirtual 309, 258, []), (5, .istore_n 2, 0, []), (6, .aload_n 0, 0, [3]), (7, .iconst 5, 0, []), (8, .invokevirtual 288, 252, []), (11, .ifCond .eq 38, 0, []), (14, .aload_n 0, 0, []), (15, .iload_n 1, 0, []), (16, .ifCond .eq 11, 0, []), (19, .iload_n 2, 0, []), (20, .ifCond .eq 7, 0, []), (23, .iconst 1, 0, []), (24, .goto 4, 0, []), (27, .iconst 0, 0, []), (28, .invokevirtual 309, 258, [3]), (31, .istore_n 3, 0, []), (32, .iload_n 2, 0, []), (33, .ifCond .eq 11, 0, []), (36, .iload_n 3, 0, []), (37, .ifCond .eq 7, 0, []), (40, .iconst 1, 0, []), (41, .goto 4, 0, []), (44, .iconst 0, 0, []), (45, .istore_n 2, 0, []), (46, .goto (-40), 0, []), (49, .iload_n 2, 0, []), (50, .ireturn, 0, [])]
def M_228 : xM := (9, 2, 0, 4, c_228)
def c_229 : List xR := [(0, .iconst 0, 0, []), (1, .istore_n 2, 0, []), (2, .aload_n 0, 0, []), (3, .bipush 6, 0, []), (5, .invokevirtual 288, 252, []), (8, .ifCond .eq 16, 0, []), (11, .iload_n 2, 0, []), (12, .ifCond .ne 7, 0, []), (15, .iconst 1, 0, []), (16, .goto 4, 0, []), (19, .iconst 0, 0, []), (20, .istore_n 2, 0, []), (21, .goto (-19), 0, []), (24, .aload_n 0, 0, []), (25, .iload_n 1, 0, []), (26, .invokevirtual 312, 259, []), (29, .iload_n 2, 0, []), (30, .if_icmp .eq 7, 0, []), (33, .iconst 1, 0, []), (34, .goto 4, 0, []), (37, .iconst 0, 0, []), (38, .ireturn, 0, [])]
def M_229 : xM := (9, 2, 0, 3, c_229)
def c_230 : List xR := [(0, .aload_n 0, 0, []), (1, .bipush 40, 0, []), (3, .invokestatic 223, 251, []), (6, .invokevirtual 288, 252, []), (9, .ifCond .eq 21, 0, []), (12, .aload_n 0, 0, []), (13, .iload_n 1, 0, []), (14, .invokevirtual 315, 256, []), (17, .istore_n 2, 0, []), (18, .aload_n 0, 0, []), (19, .dup, 0, []), (20, .getfield 264, 118, []), (23, .iconst 1, 0, []), (24, .iadd, 0, []), (25, .putfield 264, 118, []), (28, .iload_n 2, 0, []), (29, .ireturn, 0, []), (30, .aload_n 0, 0, []), (31, .iload_n 1, 0, []), (32, .invokevirtual 291, 248, []), (35, .lstore_n 2, 0, []), (36, .aload_n 0, 0, []), (37, .aload_n 0, 0, []), (38, .getfield 264, 118, []), (41, .invokevirtual 267, 247, []), (44, .istore 4, 0, []), (46, .aload_n 0, 0, []), (47, .dup, 0, []), (48, .getfield 264, 118, []), (51, .iconst 1, 0, []), (52, .iadd, 0, []), (53, .putfield 264, 118, []), (56, .aload_n 0, 0, []), (57, .iload_n 1, 0, []), (58, .invokevirtual 291, 248, []), (61, .lstore 5, 0, []), (63, .iload_n 1, 0, []), (64, .ifCond .eq 61, 0, []), (67, .aload_n 0, 0, []), (68, .getfield 274, 120, []), (71, .ifCond .ne 54, 0, []), (74, .iload 4, 0, []), (76, .bipush 60, 0, []), (78, .invokestatic 223, 251, []), (81, .if_icmp .ne 13, 0, []), (84, .lload_n 2, 0, []), (85, .lload 5, 0, []), (87, .lcmp, 0, []), (88, .ifCond .ge 37, 0, []), (91, .goto 30, 0, []), (94, .iload 4, 0, []), (96, .bipush 62, 0, []), (98, .invokestatic 223, 251, []), (101, .if_icmp .ne 13, 0, []), (104, .lload_n 2, 0, []), (105, .lload 5, 0, []), (107, .lcmp, 0, []), (108, .ifCond .le 17, 0, []), (111, .goto 10, 0, []), (114, .lload_n 2, 0, []), (115, .lload 5, 0, []), (117, .lcmp, 0, []), (118, .ifCond .ne 7, 0, []), (121, .iconst 1, 0, []), (122, .goto 4, 0, []), (125, .iconst 0, 0, []), (126, .ireturn, 0, [])]
def M_230 : xM := (9, 2, 0, 7, c_230)
def c_231 : List xR := [(0, .aload_n 0, 0, []), (1, .getfield 63, 122, []), (4, .iconst 0, 0, []), (5, .iload_n 1, 0, []), (6, .iastore, 0, []), (7, .aload_n 0, 0, []), (8, .getfield 63, 122, []), (11, .iconst 1, 0, []), (12, .aload_n 0, 0, []), (13, .iload_n 1, 0, []), (14, .invokevirtual 104, 236, []), (17, .ifCond .eq 16, 0, []), (20, .aload_n 0, 0, []), (21, .getfield 28, 98, []), (24, .iload_n 1, 0, []), (25, .iconst 1, 0, []), (26, .invokestatic 100, 229, []), (29, .iaload, 0, []), (30, .goto 4, 0, []), (33, .iconst (-1), 0, []), (34, .iastore, 0, []), (35, .aload_n 0, 0, []), (36, .getfield 63, 122, []), (39, .iconst 2, 0, []), (40, .iload_n 2, 0, []), (41, .iastore, 0, []), (42, .aload_n 0, 0, []), (43, .getfield 63, 122, []), (46, .iconst 3, 0, []), (47, .iload_n 3, 0, []), (48, .iastore, 0, []), (49, .aload_n 0, 0, []), (50, .getfield 63, 122, []), (53, .iconst 4, 0, []), (54, .aload_n 0, 0, []), (55, .getfield 28, 98, []), (58, .sipush 976, 0, []), (61, .iaload, 0, []), (62, .iastore, 0, []), (63, .aload_n 0, 0, []), (64, .getfield 63, 122, []), (67, .iconst 5, 0, []), (68, .aload_n 0, 0, []), (69, .iload_n 1, 0, []), (70, .invokevirtual 104, 236, []), (73, .ifCond .eq 16, 0, []), (76, .aload_n 0, 0, []), (77, .getfield 28, 98, []), (80, .iload_n 1, 0, []), (81, .iconst 3, 0, []), (82, .invokestatic 100, 229, []), (85, .iaload, 0, []), (86, .goto 4, 0, []), (89, .iconst 0, 0, []), (90, .iastore, 0, []), (91, .aload_n 0, 0, []), (92, .getfield 63, 122, []), (95, .bipush 6, 0, []), (97, .aload_n 0, 0, []), (98, .getfield 28, 98, []), (101, .sipush 962, 0, []), (104, .iaload, 0, []), (105, .iastore, 0, []), (106, .return_, 0, [])]
def M_231 : xM := (9, 0, 0, 4, c_231)
def c_232 : List xR := [(0, .aload_n 0, 0, []), (1, .getfield 28, 98, []), (4, .sipush 980, 0, []), (7, .iaload, 0, []), (8, .iconst (-1), 0, []), (9, .if_icmp .ne 5, 0, []), (12, .iload_n 2, 0, []), (13, .ireturn, 0, []), (14, .aload_n 0, 0, []), (15, .iconst 0, 0, []), (16, .putfield 294, 121, []), (19, .iload_n 2, 0, []), (20, .i2l, 0, []), (21, .lstore_n 3, 0, []), (22, .aload_n 0, 0, []), (23, .sipush 400, 0, []), (26, .aload_n 0, 0, []), (27, .getfield 28, 98, []), (30, .sipush 980, 0, []), (33, .iaload, 0, []), (34, .imul, 0, []), (35, .putfield 264, 118, []), (38, .aload_n 0, 0, []), (39, .aload_n 0, 0, []), (40, .getfield 264, 118, []), (43, .aload_n 0, 0, []), (44, .getfield 28, 98, []), (47, .sipush 981, 0, []), (50, .aload_n 0, 0, []), (51, .getfield 28, 98, []), (54, .sipush 980, 0, []), (57, .iaload, 0, []), (58, .iadd, 0, []), (59, .iaload, 0, []), (60, .iadd, 0, []), (61, .putfield 261, 119, []), (64, .aload_n 0, 0, [2, 5, 6, 7, 8, 9]), (65, .getfield 264, 118, []), (68, .aload_n 0, 0, []), (69, .getfield 261, 119, []), (72, .if_icmp .ge 144, 0, []), (75, .aload_n 0, 0, []), (76, .aload_n 0, 0, []), (77, .getfield 264, 118, []), (80, .invokevirtual 267, 247, []), (83, .istore 5, 0, []), (85, .aload_n 0, 0, []), (86, .iconst 0, 0, []), (87, .putfield 274, 120, []), (90, .aload_n 0, 0, []), (91, .dup, 0, []), (92, .getfield 264, 118, []), (95, .iconst 1, 0, []), (96, .iadd, 0, []), (97, .putfield 264, 118, []), (100, .iload 5, 0, []), (102, .iconst 2, 0, []), (103, .if_icmp .ne 7, 0, []), (106, .lconst 1, 0, []), (107, .goto 8, 0, []), (110, .aload_n 0, 0, []), (111, .iconst 1, 0, []), (112, .invokevirtual 291, 248, []), (115, .lstore 6, 0, [2, 6, 7, 8, 9]), (117, .aload_n 0, 0, []), (118, .getfield 274, 120, []), (121, .istore 8, 0, []), (123, .aload_n 0, 0, []), (124, .iconst 0, 0, []), (125, .putfield 274, 120, []), (128, .aload_n 0, 0, []), (129, .iconst 3, 0, []), (130, .invokevirtual 288, 252, []), (133, .ifCond .eq 11, 0, []), (136, .aload_n 0, 0, []), (137, .iconst 1, 0, []), (138, .invokevirtual 315, 256, []), (141, .ifCond .eq 7, 0, []), (144, .iconst 1, 0, []), (145, .goto 4, 0, []), (148, .iconst 0, 0, []), (149, .istore 9, 0, [2, 9]), (151, .iload 5, 0, []), (153, .iload_n 1, 0, []), (154, .if_icmp .ne 49, 0, []), (157, .iload 9, 0, []), (159, .ifCond .eq 44, 0, []), (162, .aload_n 0, 0, []), (163, .getfield 274, 120, []), (166, .ifCond .ne 37, 0, []), (169, .iload 8, 0, []), (171, .ifCond .ne 32, 0, []), (174, .lload 6, 0, []), (176, .lconst 0, 0, []), (177, .lcmp, 0, []), (178, .ifCond .ge 7, 0, []), (181, .lconst 0, 0, []), (182, .goto 20, 0, []), (185, .lload 6, 0, []), (187, .ldc2_w 318, 11, []), (190, .lcmp, 0, []), (191, .ifCond .le 9, 0, []), (194, .ldc2_w 318, 11, []), (197, .goto 5, 0, []), (200, .lload 6, 0, []), (202, .lstore_n 3, 0, []), (203, .aload_n 0, 0, []), (204, .dup, 0, []), (205, .getfield 264, 118, []), (208, .iconst 1, 0, []), (209, .iadd, 0, []), (210, .putfield 264, 118, []), (213, .goto (-149), 0, []), (216, .lload_n 3, 0, []), (217, .l2i, 0, []), (218, .ireturn, 0, [])]
def M_232 : xM := (9, 1, 0, 10, c_232)
def c_233 : List xR := [(0, .aload_n 0, 0, []), (1, .iload_n 1, 0, []), (2, .iconst (-1), 0, []), (3, .iconst (-1), 0, []), (4, .invokevirtual 320, 245, []), (7, .aload_n 0, 0, []), (8, .iconst 1, 0, []), (9, .iconst 1, 0, []), (10, .invokevirtual 324, 246, []), (13, .ireturn, 0, [])]
def M_233 : xM := (9, 1, 0, 2, c_233)
def c_234 : List xR := [(0, .aload_n 0, 0, []), (1, .aload_n 0, 0, []), (2, .iload_n 1, 0, []), (3, .invokevirtual 117, 243, []), (6, .iload_n 1, 0, []), (7, .aload_n 0, 0, []), (8, .iload_n 1, 0, []), (9, .invokevirtual 111, 240, []), (12, .invokevirtual 320, 245, []), (15, .aload_n 0, 0, []), (16, .iconst 2, 0, []), (17, .iconst 0, 0, []), (18, .invokevirtual 324, 246, []), (21, .iconst 1, 0, []), (22, .if_icmp .ne 7, 0, []), (25, .iconst 1, 0, []), (26, .goto 4, 0, []), (29, .iconst 0, 0, []), (30, .ireturn, 0, [])]
def M_234 : xM := (9, 2, 0, 2, c_234)
def c_235 : List xR := [(0, .iconst 0, 0, []), (1, .istore_n 3, 0, []), (2, .iload_n 3, 0, []), (3, .bipush 10, 0, []), (5, .if_icmp .ge 25, 0, []), (8, .aload_n 0, 0, []), (9, .getfield 28, 98, []), (12, .iload_n 2, 0, []), (13, .iload_n 3, 0, []), (14, .iadd, 0, []), (15, .aload_n 0, 0, []), (16, .getfield 28, 98, []), (19, .iload_n 1, 0, []), (20, .iload_n 3, 0, []), (21, .iadd, 0, []), (22, .iaload, 0, []), (23, .iastore, 0, []), (24, .iinc 3 1, 0, []), (27, .goto (-25), 0, []), (30, .return_, 0, [])]
def M_235 : xM := (9, 0, 0, 4, c_235)
def c_236 : List xR := [(0, .aload_n 0, 0, []), (1, .sipush 482, 0, []), (4, .sipush 240, 0, []), (7, .aload_n 0, 0, []), (8, .getfield 28, 98, []), (11, .sipush 480, 0, []), (14, .iaload, 0, []), (15, .iconst 0, 0, []), (16, .invokestatic 100, 229, []), (19, .iadd, 0, []), (20, .invokevirtual 327, 267, []), (23, .aload_n 0, 0, []), (24, .getfield 28, 98, []), (27, .sipush 960, 0, []), (30, .dup2, 0, []), (31, .iaload, 0, []), (32, .iconst 1, 0, []), (33, .isub, 0, []), (34, .iastore, 0, []), (35, .iconst 0, 0, []), (36, .istore_n 1, 0, []), (37, .iload_n 1, 0, []), (38, .bipush 12, 0, []), (40, .aload_n 0, 0, []), (41, .getfield 28, 98, []), (44, .sipush 960, 0, []), (47, .iaload, 0, []), (48, .imul, 0, []), (49, .if_icmp .ge 29, 0, []), (52, .aload_n 0, 0, []), (53, .getfield 28, 98, []), (56, .sipush 480, 0, []), (59, .iload_n 1, 0, []), (60, .iadd, 0, []), (61, .aload_n 0, 0, []), (62, .getfield 28, 98, []), (65, .sipush 492, 0, []), (68, .iload_n 1, 0, []), (69, .iadd, 0, []), (70, .iaload, 0, []), (71, .iastore, 0, []), (72, .iinc 1 1, 0, []), (75, .goto (-38), 0, []), (78, .return_, 0, [])]
def M_236 : xM := (9, 0, 0, 2, c_236)
def c_237 : List xR := [(0, .aload_n 0, 0, []), (1, .getfield 28, 98, []), (4, .sipush 960, 0, []), (7, .iaload, 0, []), (8, .bipush 40, 0, []), (10, .if_icmp .ne 7, 0, []), (13, .aload_n 0, 0, []), (14, .invokevirtual 330, 266, []), (17, .aload_n 0, 0, [2]), (18, .getfield 28, 98, []), (21, .sipush 960, 0, []), (24, .iaload, 0, []), (25, .invokestatic 129, 233, []), (28, .istore_n 2, 0, []), (29, .aload_n 0, 0, []), (30, .getfield 28, 98, []), (33, .iload_n 2, 0, []), (34, .iconst 0, 0, []), (35, .iadd, 0, []), (36, .iload_n 1, 0, []), (37, .iastore, 0, []), (38, .aload_n 0, 0, []), (39, .getfield 28, 98, []), (42, .iload_n 2, 0, []), (43, .iconst 1, 0, []), (44, .iadd, 0, []), (45, .aload_n 0, 0, []), (46, .iload_n 1, 0, []), (47, .invokevirtual 333, 268, []), (50, .iastore, 0, []), (51, .aload_n 0, 0, []), (52, .iload_n 1, 0, []), (53, .iconst 0, 0, []), (54, .invokestatic 100, 229, []), (57, .iload_n 2, 0, []), (58, .iconst 2, 0, []), (59, .iadd, 0, []), (60, .invokevirtual 327, 267, []), (63, .aload_n 0, 0, []), (64, .getfield 28, 98, []), (67, .sipush 960, 0, []), (70, .dup2, 0, []), (71, .iaload, 0, []), (72, .iconst 1, 0, []), (73, .iadd, 0, []), (74, .iastore, 0, []), (75, .aload_n 0, 0, []), (76, .getfield 28, 98, []), (79, .sipush 962, 0, []), (82, .sipush 999, 0, []), (85, .aload_n 0, 0, []), (86, .getfield 28, 98, []), (89, .sipush 962, 0, []), (92, .iaload, 0, []), (93, .iconst 1, 0, []), (94, .iadd, 0, []), (95, .invokestatic 336, 269, [0, 1, 2]), (98, .iastore, 0, []), (99, .return_, 0, [])]
def M_237 : xM := (9, 0, 0, 3, c_237)
def c_238 : List xR := [(0, .aload_n 0, 0, []), (1, .getfield 28, 98, []), (4, .iload_n 1, 0, []), (5, .iconst 3, 0, []), (6, .invokestatic 100, 229, []), (9, .iaload, 0, []), (10, .istore 4, 0, []), (12, .aload_n 0, 0, []), (13, .getfield 28, 98, []), (16, .iload_n 1, 0, []), (17, .iconst 4, 0, []), (18, .iload 4, 0, []), (20, .iadd, 0, []), (21, .invokestatic 100, 229, []), (24, .iload_n 2, 0, []), (25, .iastore, 0, []), (26, .aload_n 0, 0, []), (27, .getfield 28, 98, []), (30, .iload_n 1, 0, []), (31, .bipush 7, 0, []), (33, .iload 4, 0, []), (35, .iadd, 0, []), (36, .invokestatic 100, 229, []), (39, .iload_n 3, 0, []), (40, .iastore, 0, []), (41, .aload_n 0, 0, []), (42, .getfield 28, 98, []), (45, .iload_n 1, 0, []), (46, .iconst 3, 0, []), (47, .invokestatic 100, 229, []), (50, .iload 4, 0, []), (52, .iconst 1, 0, []), (53, .iadd, 0, []), (54, .iastore, 0, []), (55, .return_, 0, [])]
def M_238 : xM := (9, 0, 0, 5, c_238)
def c_239 : List xR := [(0, .aload_n 0, 0, []), (1, .getfield 28, 98, []), (4, .iload_n 1, 0, []), (5, .iconst 3, 0, []), (6, .invokestatic 100, 229, []), (9, .iaload, 0, []), (10, .iconst 1, 0, []), (11, .isub, 0, []), (12, .istore_n 3, 0, []), (13, .iload_n 2, 0, []), (14, .istore 4, 0, []), (16, .iload 4, 0, [2]), (18, .iload_n 3, 0, []), (19, .if_icmp .ge 67, 0, []), (22, .aload_n 0, 0, []), (23, .getfield 28, 98, []), (26, .iload_n 1, 0, []), (27, .iconst 4, 0, []), (28, .iload 4, 0, []), (30, .iadd, 0, []), (31, .invokestatic 100, 229, []), (34, .aload_n 0, 0, []), (35, .getfield 28, 98, []), (38, .iload_n 1, 0, []), (39, .iconst 4, 0, []), (40, .iload 4, 0, []), (42, .iadd, 0, []), (43, .iconst 1, 0, []), (44, .iadd, 0, []), (45, .invokestatic 100, 229, []), (48, .iaload, 0, []), (49, .iastore, 0, []), (50, .aload_n 0, 0, []), (51, .getfield 28, 98, []), (54, .iload_n 1, 0, []), (55, .bipush 7, 0, []), (57, .iload 4, 0, []), (59, .iadd, 0, []), (60, .invokestatic 100, 229, []), (63, .aload_n 0, 0, []), (64, .getfield 28, 98, []), (67, .iload_n 1, 0, []), (68, .bipush 7, 0, []), (70, .iload 4, 0, []), (72, .iadd, 0, []), (73, .iconst 1, 0, []), (74, .iadd, 0, []), (75, .invokestatic 100, 229, []), (78, .iaload, 0, []), (79, .iastore, 0, []), (80, .iinc 4 1, 0, []), (83, .goto (-67), 0, []), (86, .aload_n 0, 0, []), (87, .getfield 28, 98, []), (90, .iload_n 1, 0, []), (91, .iconst 3, 0, []), (92, .invokestatic 100, 229, []), (95, .iload_n 3, 0, []), (96, .iastore, 0, []), (97, .return_, 0, [])]
def M_239 : xM := (9, 0, 0, 5, c_239)
def c_240 : List xR := [(0, .iconst 0, 0, []), (1, .istore_n 1, 0, []), (2, .iload_n 1, 0, []), (3, .bipush 24, 0, []), (5, .if_icmp .ge 17, 0, []), (8, .aload_n 0, 0, []), (9, .iload_n 1, 0, []), (10, .invokevirtual 104, 236, []), (13, .ifCond .eq 9, 0, []), (16, .iinc 1 1, 0, []), (19, .goto (-17), 0, []), (22, .iload_n 1, 0, []), (23, .bipush 24, 0, []), (25, .if_icmp .ne 7, 0, []), (28, .iconst (-1), 0, []), (29, .goto 4, 0, []), (32, .iload_n 1, 0, []), (33, .ireturn, 0, [])]
def M_240 : xM := (9, 1, 0, 2, c_240)
def c_241 : List xR := [(0, .aload_n 0, 0, []), (1, .getfield 28, 98, []), (4, .iload_n 1, 0, []), (5, .iconst 1, 0, []), (6, .invokestatic 100, 229, []), (9, .iaload, 0, []), (10, .istore_n 2, 0, []), (11, .aload_n 0, 0, []), (12, .invokevirtual 339, 273, []), (15, .istore_n 3, 0, []), (16, .iload_n 2, 0, []), (17, .bipush 6, 0, []), (19, .if_icmp .eq 8, 0, []), (22, .iload_n 3, 0, []), (23, .iconst (-1), 0, []), (24, .if_icmp .ne 5, 0, []), (27, .iconst 0, 0, []), (28, .ireturn, 0, []), (29, .iload_n 2, 0, []), (30, .aload_n 0, 0, []), (31, .getfield 28, 98, []), (34, .sipush 961, 0, []), (37, .iaload, 0, []), (38, .if_icmp .ne 15, 0, []), (41, .aload_n 0, 0, []), (42, .getfield 28, 98, []), (45, .sipush 961, 0, []), (48, .dup2, 0, []), (49, .iaload, 0, []), (50, .iconst 1, 0, []), (51, .iadd, 0, []), (52, .iastore, 0, []), (53, .aload_n 0, 0, [4, 5]), (54, .getfield 28, 98, []), (57, .iload_n 3, 0, []), (58, .iconst 0, 0, []), (59, .invokestatic 100, 229, []), (62, .iconst 1, 0, []), (63, .iastore, 0, []), (64, .aload_n 0, 0, []), (65, .getfield 28, 98, []), (68, .iload_n 3, 0, []), (69, .iconst 1, 0, []), (70, .invokestatic 100, 229, []), (73, .iload_n 2, 0, []), (74, .iconst 1, 0, []), (75, .iadd, 0, []), (76, .iastore, 0, []), (77, .aload_n 0, 0, []), (78, .getfield 28, 98, []), (81, .iload_n 3, 0, []), (82, .iconst 2, 0, []), (83, .invokestatic 100, 229, []), (86, .aload_n 0, 0, []), (87, .getfield 28, 98, []), (90, .iload_n 1, 0, []), (91, .iconst 2, 0, []), (92, .invokestatic 100, 229, []), (95, .iaload, 0, []), (96, .iconst 1, 0, []), (97, .iload_n 2, 0, []), (98, .ishl, 0, []), (99, .iadd, 0, []), (100, .iastore, 0, []), (101, .aload_n 0, 0, []), (102, .getfield 28, 98, []), (105, .iload_n 3, 0, []), (106, .iconst 3, 0, []), (107, .invokestatic 100, 229, []), (110, .iconst 0, 0, []), (111, .iastore, 0, []), (112, .aload_n 0, 0, []), (113, .getfield 28, 98, []), (116, .iload_n 1, 0, []), (117, .iconst 1, 0, []), (118, .invokestatic 100, 229, []), (121, .iload_n 2, 0, []), (122, .iconst 1, 0, []), (123, .iadd, 0, []), (124, .iastore, 0, []), (125, .iconst 0, 0, [4, 5]), (126, .istore 4, 0, []), (128, .iload 4, 0, [5]), (130, .aload_n 0, 0, []), (131, .getfield 28, 98, []), (134, .iload_n 1, 0, []), (135, .iconst 3, 0, []), (136, .invokestatic 100, 229, []), (139, .iaload, 0, []), (140, .if_icmp .ge 68, 0, []), (143, .aload_n 0, 0, []), (144, .getfield 28, 98, []), (147, .iload_n 1, 0, []), (148, .iconst 4, 0, []), (149, .iload 4, 0, []), (151, .iadd, 0, []), (152, .invokestatic 100, 229, []), (155, .iaload, 0, []), (156, .istore 5, 0, []), (158, .aload_n 0, 0, []), (159, .iload 5, 0, []), (161, .invokevirtual 111, 240, []), (164, .iload_n 2, 0, []), (165, .invokestatic 342, 274, []), (168, .ifCond .ne 9, 0, []), (171, .iinc 4 1, 0, []), (174, .goto (-46), 0, []), (177, .aload_n 0, 0, []), (178, .iload_n 3, 0, []), (179, .iload 5, 0, []), (181, .aload_n 0, 0, []), (182, .getfield 28, 98, []), (185, .iload_n 1, 0, []), (186, .bipush 7, 0, []), (188, .iload 4, 0, []), (190, .iadd, 0, []), (191, .invokestatic 100, 229, []), (194, .iaload, 0, []), (195, .invokevirtual 345, 275, []), (198, .aload_n 0, 0, []), (199, .iload_n 1, 0, []), (200, .iload 4, 0, []), (202, .invokevirtual 348, 276, []), (205, .goto (-77), 0, []), (208, .aload_n 0, 0, []), (209, .iload_n 3, 0, []), (210, .invokevirtual 351, 265, []), (213, .aload_n 0, 0, []), (214, .iload_n 1, 0, []), (215, .invokevirtual 351, 265, []), (218, .iconst 1, 0, []), (219, .ireturn, 0, [])]
def M_241 : xM := (9, 2, 0, 6, c_241)
def c_242 : List xR := [(0, .iconst 0, 0, []), (1, .istore_n 3, 0, []), (2, .aload_n 0, 0, []), (3, .getfield 28, 98, []), (6, .aload_n 0, 0, []), (7, .iload_n 1, 0, []), (8, .invokevirtual 117, 243, []), (11, .iconst 3, 0, []), (12, .invokestatic 100, 229, []), (15, .iaload, 0, []), (16, .iconst 3, 0, []), (17, .if_icmp .ne 23, 0, []), (20, .aload_n 0, 0, []), (21, .aload_n 0, 0, []), (22, .iload_n 1, 0, []), (23, .invokevirtual 117, 243, []), (26, .invokevirtual 354, 272, []), (29, .ifCond .ne 5, 0, []), (32, .iconst (-1), 0, []), (33, .ireturn, 0, []), (34, .iinc 3 1, 0, []), (37, .goto (-35), 0, []), (40, .aload_n 0, 0, []), (41, .aload_n 0, 0, []), (42, .iload_n 1, 0, []), (43, .invokevirtual 117, 243, []), (46, .iload_n 1, 0, []), (47, .iload_n 2, 0, []), (48, .invokevirtual 345, 275, []), (51, .aload_n 0, 0, []), (52, .aload_n 0, 0, []), (53, .iload_n 1, 0, []), (54, .invokevirtual 117, 243, []), (57, .invokevirtual 351, 265, []), (60, .iload_n 3, 0, []), (61, .ireturn, 0, [])]
def M_242 : xM := (9, 1, 0, 4, c_242)
def c_243 : List xR := [(0, .iload_n 1, 0, []), (1, .invokestatic 132, 239, []), (4, .ifCond .eq 13, 0, []), (7, .iload_n 2, 0, []), (8, .iconst 0, 0, []), (9, .bipush 99, 0, []), (11, .invokestatic 18, 222, []), (14, .ifCond .ne 5, 0, []), (17, .iconst (-1), 0, []), (18, .ireturn, 0, []), (19, .aload_n 0, 0, []), (20, .iload_n 1, 0, []), (21, .invokevirtual 120, 242, []), (24, .istore_n 3, 0, []), (25, .iload_n 3, 0, []), (26, .iconst (-1), 0, []), (27, .if_icmp .eq 32, 0, []), (30, .aload_n 0, 0, []), (31, .getfield 28, 98, []), (34, .aload_n 0, 0, []), (35, .iload_n 1, 0, []), (36, .invokevirtual 117, 243, []), (39, .bipush 7, 0, []), (41, .iload_n 3, 0, []), (42, .iadd, 0, []), (43, .invokestatic 100, 229, []), (46, .iload_n 2, 0, []), (47, .iastore, 0, []), (48, .aload_n 0, 0, []), (49, .aload_n 0, 0, []), (50, .iload_n 1, 0, []), (51, .invokevirtual 117, 243, []), (54, .invokevirtual 351, 265, []), (57, .iconst 0, 0, []), (58, .ireturn, 0, []), (59, .aload_n 0, 0, []), (60, .iload_n 1, 0, []), (61, .invokevirtual 138, 244, []), (64, .ifCond .eq 6, 0, []), (67, .bipush (-3), 0, []), (69, .ireturn, 0, []), (70, .aload_n 0, 0, []), (71, .iconst 2, 0, []), (72, .invokevirtual 357, 270, []), (75, .aload_n 0, 0, []), (76, .iload_n 1, 0, []), (77, .iload_n 2, 0, []), (78, .invokevirtual 360, 271, []), (81, .istore 4, 0, []), (83, .iload 4, 0, []), (85, .iconst (-1), 0, []), (86, .if_icmp .eq 6, 0, []), (89, .iload 4, 0, []), (91, .ireturn, 0, []), (92, .aload_n 0, 0, []), (93, .iconst 2, 0, []), (94, .invokevirtual 363, 277, []), (97, .bipush (-5), 0, []), (99, .ireturn, 0, [])]
def M_243 : xM := (9, 1, 0, 5, c_243)
def c_244 : List xR := [(0, .aload_n 0, 0, []), (1, .getfield 28, 98, []), (4, .iload_n 1, 0, []), (5, .iconst 1, 0, []), (6, .invokestatic 100, 229, []), (9, .iaload, 0, []), (10, .istore_n 2, 0, []), (11, .iconst 0, 0, []), (12, .istore_n 3, 0, []), (13, .iload_n 3, 0, []), (14, .bipush 24, 0, []), (16, .if_icmp .ge 66, 0, []), (19, .iload_n 2, 0, []), (20, .ifCond .le 62, 0, []), (23, .aload_n 0, 0, []), (24, .iload_n 3, 0, []), (25, .invokevirtual 104, 236, []), (28, .ifCond .eq 48, 0, []), (31, .aload_n 0, 0, []), (32, .getfield 28, 98, []), (35, .iload_n 3, 0, []), (36, .iconst 1, 0, []), (37, .invokestatic 100, 229, []), (40, .iaload, 0, []), (41, .iload_n 2, 0, []), (42, .if_icmp .ne 34, 0, []), (45, .aload_n 0, 0, []), (46, .getfield 28, 98, []), (49, .iload_n 3, 0, []), (50, .iconst 2, 0, []), (51, .invokestatic 100, 229, []), (54, .iaload, 0, []), (55, .aload_n 0, 0, []), (56, .getfield 28, 98, []), (59, .iload_n 1, 0, []), (60, .iconst 2, 0, []), (61, .invokestatic 100, 229, []), (64, .iaload, 0, []), (65, .ixor, 0, []), (66, .iconst 1, 0, []), (67, .iload_n 2, 0, []), (68, .iconst 1, 0, []), (69, .isub, 0, []), (70, .ishl, 0, []), (71, .if_icmp .ne 5, 0, []), (74, .iload_n 3, 0, []), (75, .ireturn, 0, []), (76, .iinc 3 1, 0, []), (79, .goto (-66), 0, []), (82, .iconst (-1), 0, []), (83, .ireturn, 0, [])]
def M_244 : xM := (9, 1, 0, 4, c_244)
def c_245 : List xR := [(0, .aload_n 0, 0, []), (1, .iload_n 1, 0, []), (2, .invokevirtual 366, 317, []), (5, .istore_n 2, 0, []), (6, .iload_n 2, 0, []), (7, .iconst (-1), 0, []), (8, .if_icmp .eq 32, 0, []), (11, .aload_n 0, 0, []), (12, .getfield 28, 98, []), (15, .iload_n 1, 0, []), (16, .iconst 3, 0, []), (17, .invokestatic 100, 229, []), (20, .iaload, 0, []), (21, .aload_n 0, 0, []), (22, .getfield 28, 98, []), (25, .iload_n 2, 0, []), (26, .iconst 3, 0, []), (27, .invokestatic 100, 229, []), (30, .iaload, 0, []), (31, .iadd, 0, []), (32, .iconst 3, 0, []), (33, .if_icmp .gt 7, 0, []), (36, .iconst 1, 0, []), (37, .goto 4, 0, []), (40, .iconst 0, 0, []), (41, .ireturn, 0, [])]
def M_245 : xM := (9, 2, 0, 3, c_245)
def c_246 : List xR := [(0, .aload_n 0, 0, []), (1, .iload_n 1, 0, []), (2, .invokevirtual 366, 317, []), (5, .istore_n 2, 0, []), (6, .aload_n 0, 0, []), (7, .getfield 28, 98, []), (10, .iload_n 1, 0, []), (11, .iconst 2, 0, []), (12, .invokestatic 100, 229, []), (15, .iaload, 0, []), (16, .aload_n 0, 0, []), (17, .getfield 28, 98, []), (20, .iload_n 2, 0, []), (21, .iconst 2, 0, []), (22, .invokestatic 100, 229, []), (25, .iaload, 0, []), (26, .if_icmp .ge 7, 0, []), (29, .iconst 1, 0, []), (30, .goto 4, 0, []), (33, .iconst 0, 0, []), (34, .istore_n 3, 0, [3, 4, 5, 6]), (35, .iload_n 3, 0, []), (36, .ifCond .eq 7, 0, []), (39, .iload_n 1, 0, []), (40, .goto 4, 0, []), (43, .iload_n 2, 0, []), (44, .istore 4, 0, []), (46, .iload_n 3, 0, []), (47, .ifCond .eq 7, 0, []), (50, .iload_n 2, 0, []), (51, .goto 4, 0, []), (54, .iload_n 1, 0, []), (55, .istore 5, 0, [1, 2, 3, 5, 6]), (57, .aload_n 0, 0, []), (58, .getfield 28, 98, []), (61, .iload 4, 0, []), (63, .iconst 1, 0, []), (64, .invokestatic 100, 229, []), (67, .dup2, 0, []), (68, .iaload, 0, []), (69, .iconst 1, 0, []), (70, .isub, 0, []), (71, .iastore, 0, []), (72, .iconst 0, 0, []), (73, .istore 6, 0, []), (75, .iload 6, 0, [1, 2, 3]), (77, .aload_n 0, 0, []), (78, .getfield 28, 98, []), (81, .iload 5, 0, []), (83, .iconst 3, 0, []), (84, .invokestatic 100, 229, []), (87, .iaload, 0, []), (88, .if_icmp .ge 44, 0, []), (91, .aload_n 0, 0, []), (92, .iload 4, 0, []), (94, .aload_n 0, 0, []), (95, .getfield 28, 98, []), (98, .iload 5, 0, []), (100, .iconst 4, 0, []), (101, .iload 6, 0, []), (103, .iadd, 0, []), (104, .invokestatic 100, 229, []), (107, .iaload, 0, []), (108, .aload_n 0, 0, []), (109, .getfield 28, 98, []), (112, .iload 5, 0, []), (114, .bipush 7, 0, []), (116, .iload 6, 0, []), (118, .iadd, 0, []), (119, .invokestatic 100, 229, []), (122, .iaload, 0, []), (123, .invokevirtual 345, 275, []), (126, .iinc 6 1, 0, []), (129, .goto (-54), 0, []), (132, .aload_n 0, 0, []), (133, .getfield 28, 98, []), (136, .iload 5, 0, []), (138, .iconst 0, 0, []), (139, .invokestatic 100, 229, []), (142, .iconst 0, 0, []), (143, .iastore, 0, []), (144, .aload_n 0, 0, []), (145, .getfield 28, 98, []), (148, .iload 5, 0, []), (150, .iconst 3, 0, []), (151, .invokestatic 100, 229, []), (154, .iconst 0, 0, []), (155, .iastore, 0, []), (156, .aload_n 0, 0, []), (157, .iload 4, 0, []), (159, .invokevirtual 351, 265, []), (162, .aload_n 0, 0, []), (163, .iload 5, 0, []), (165, .invokevirtual 351, 265, []), (168, .iload 4, 0, []), (170, .ireturn, 0, [])]
def M_246 : xM := (9, 1, 0, 7, c_246)
def c_247 : List xR := [(0, .iconst 0, 0, []), (1, .istore_n 1, 0, []), (2, .iconst 0, 0, []), (3, .istore_n 2, 0, []), (4, .iload_n 2, 0, []), (5, .bipush 24, 0, []), (7, .if_icmp .ge 32, 0, []), (10, .aload_n 0, 0, []), (11, .iload_n 2, 0, []), (12, .invokevirtual 104, 236, []), (15, .ifCond .eq 18, 0, []), (18, .iload_n 1, 0, []), (19, .aload_n 0, 0, []), (20, .getfield 28, 98, []), (23, .iload_n 2, 0, []), (24, .iconst 1, 0, []), (25, .invokestatic 100, 229, []), (28, .iaload, 0, []), (29, .invokestatic 369, 320, []), (32, .istore_n 1, 0, []), (33, .iinc 2 1, 0, []), (36, .goto (-32), 0, []), (39, .iload_n 1, 0, []), (40, .ireturn, 0, [])]
def M_247 : xM := (9, 1, 0, 3, c_247)
def c_248 : List xR := [(0, .iload_n 1, 0, []), (1, .invokestatic 132, 239, []), (4, .ifCond .ne 5, 0, []), (7, .iconst (-1), 0, []), (8, .ireturn, 0, []), (9, .aload_n 0, 0, []), (10, .iload_n 1, 0, []), (11, .invokevirtual 120, 242, []), (14, .istore_n 2, 0, []), (15, .iload_n 2, 0, []), (16, .iconst (-1), 0, []), (17, .if_icmp .ne 6, 0, []), (20, .bipush (-3), 0, []), (22, .ireturn, 0, []), (23, .aload_n 0, 0, []), (24, .iload_n 1, 0, []), (25, .invokevirtual 117, 243, []), (28, .istore_n 3, 0, []), (29, .aload_n 0, 0, []), (30, .iload_n 3, 0, []), (31, .iload_n 2, 0, []), (32, .invokevirtual 348, 276, []), (35, .aload_n 0, 0, []), (36, .iload_n 3, 0, []), (37, .invokevirtual 351, 265, []), (40, .iconst 0, 0, []), (41, .istore 4, 0, []), (43, .aload_n 0, 0, [1, 2]), (44, .iload_n 3, 0, []), (45, .invokevirtual 372, 316, []), (48, .ifCond .eq 15, 0, []), (51, .aload_n 0, 0, []), (52, .iload_n 3, 0, []), (53, .invokevirtual 375, 318, []), (56, .istore_n 3, 0, []), (57, .iinc 4 1, 0, []), (60, .goto (-17), 0, []), (63, .aload_n 0, 0, []), (64, .getfield 28, 98, []), (67, .sipush 961, 0, []), (70, .aload_n 0, 0, []), (71, .invokevirtual 378, 319, []), (74, .iastore, 0, []), (75, .iload 4, 0, []), (77, .ireturn, 0, [])]
def M_248 : xM := (9, 1, 0, 5, c_248)
def c_249 : List xR := [(0, .iconst (-1), 0, []), (1, .istore_n 2, 0, []), (2, .iconst 0, 0, []), (3, .istore_n 3, 0, []), (4, .iload_n 3, 0, [4]), (5, .bipush 24, 0, []), (7, .if_icmp .ge 93, 0, []), (10, .sipush 240, 0, []), (13, .iload_n 3, 0, []), (14, .iconst 0, 0, []), (15, .invokestatic 100, 229, []), (18, .iadd, 0, []), (19, .istore 4, 0, []), (21, .aload_n 0, 0, []), (22, .getfield 28, 98, []), (25, .iload 4, 0, []), (27, .iconst 0, 0, []), (28, .iadd, 0, []), (29, .iaload, 0, []), (30, .ifCond .eq 64, 0, []), (33, .aload_n 0, 0, []), (34, .getfield 28, 98, []), (37, .iload 4, 0, []), (39, .iconst 2, 0, []), (40, .iadd, 0, []), (41, .iaload, 0, []), (42, .iload_n 1, 0, []), (43, .aload_n 0, 0, []), (44, .getfield 28, 98, []), (47, .iload 4, 0, []), (49, .iconst 1, 0, []), (50, .iadd, 0, []), (51, .iaload, 0, []), (52, .invokestatic 108, 237, []), (55, .if_icmp .eq 6, 0, []), (58, .goto 36, 0, []), (61, .iload_n 2, 0, []), (62, .iconst (-1), 0, []), (63, .if_icmp .eq 29, 0, []), (66, .aload_n 0, 0, []), (67, .getfield 28, 98, []), (70, .iload 4, 0, []), (72, .iconst 1, 0, []), (73, .iadd, 0, []), (74, .iaload, 0, []), (75, .aload_n 0, 0, []), (76, .getfield 28, 98, []), (79, .sipush 240, 0, []), (82, .iload_n 2, 0, []), (83, .iconst 1, 0, []), (84, .invokestatic 100, 229, []), (87, .iadd, 0, []), (88, .iaload, 0, []), (89, .if_icmp .le 5, 0, [4]), (92, .iload_n 3, 0, []), (93, .istore_n 2, 0, []), (94, .iinc 3 1, 0, []), (97, .goto (-93), 0, []), (100, .iload_n 2, 0, []), (101, .ireturn, 0, [])]
def M_249 : xM := (9, 1, 0, 5, c_249)
def c_250 : List xR := [(0, .sipush 240, 0, []), (3, .iload_n 1, 0, []), (4, .iconst 0, 0, []), (5, .invokestatic 100, 229, []), (8, .iadd, 0, []), (9, .istore_n 3, 0, []), (10, .iconst 0, 0, []), (11, .istore 4, 0, []), (13, .iconst 0, 0, []), (14, .istore 5, 0, []), (16, .iconst 1, 0, []), (17, .iload_n 2, 0, []), (18, .ishl, 0, []), (19, .iconst 1, 0, []), (20, .isub, 0, []), (21, .istore 6, 0, []), (23, .iload 6, 0, [7]), (25, .ifCond .lt 30, 0, []), (28, .aload_n 0, 0, []), (29, .getfield 66, 125, []), (32, .iload 6, 0, []), (34, .iaload, 0, []), (35, .iload_n 1, 0, []), (36, .if_icmp .eq 6, 0, []), (39, .goto 10, 0, []), (42, .iinc 4 1, 0, []), (45, .iload 6, 0, []), (47, .istore 5, 0, []), (49, .iinc 6 (-1), 0, []), (52, .goto (-29), 0, []), (55, .iload_n 2, 0, []), (56, .istore 6, 0, []), (58, .iload 4, 0, [7]), (60, .iconst 1, 0, []), (61, .iload_n 2, 0, []), (62, .iload 6, 0, []), (64, .isub, 0, []), (65, .ishl, 0, []), (66, .if_icmp .le 9, 0, []), (69, .iinc 6 (-1), 0, []), (72, .goto (-14), 0, []), (75, .aload_n 0, 0, []), (76, .getfield 28, 98, []), (79, .iload_n 1, 0, []), (80, .iconst 0, 0, []), (81, .invokestatic 100, 229, []), (84, .iload 4, 0, []), (86, .ifCond .le 7, 0, []), (89, .iconst 1, 0, []), (90, .goto 4, 0, []), (93, .iconst 0, 0, []), (94, .iastore, 0, [7]), (95, .aload_n 0, 0, []), (96, .getfield 28, 98, []), (99, .iload_n 1, 0, []), (100, .iconst 1, 0, []), (101, .invokestatic 100, 229, []), (104, .iload 6, 0, []), (106, .iastore, 0, []), (107, .aload_n 0, 0, []), (108, .getfield 28, 98, []), (111, .iload_n 1, 0, []), (112, .iconst 2, 0, []), (113, .invokestatic 100, 229, []), (116, .iload 5, 0, []), (118, .iastore, 0, []), (119, .aload_n 0, 0, []), (120, .getfield 28, 98, []), (123, .iload_n 1, 0, []), (124, .iconst 3, 0, []), (125, .invokestatic 100, 229, []), (128, .iconst 0, 0, []), (129, .iastore, 0, []), (130, .iconst 0, 0, []), (131, .istore 7, 0, []), (133, .iload 7, 0, [5, 6]), (135, .aload_n 0, 0, []), (136, .getfield 28, 98, []), (139, .iload_n 3, 0, []), (140, .iconst 3, 0, []), (141, .iadd, 0, []), (142, .iaload, 0, []), (143, .if_icmp .ge 70, 0, []), (146, .iload 4, 0, [5, 6]), (148, .ifCond .le 65, 0, []), (151, .aload_n 0, 0, []), (152, .getfield 66, 125, []), (155, .aload_n 0, 0, []), (156, .aload_n 0, 0, []), (157, .getfield 28, 98, []), (160, .iload_n 3, 0, []), (161, .iconst 4, 0, []), (162, .iadd, 0, []), (163, .iload 7, 0, []), (165, .iadd, 0, []), (166, .iaload, 0, []), (167, .invokevirtual 111, 240, []), (170, .iload_n 2, 0, []), (171, .invokestatic 108, 237, []), (174, .iaload, 0, []), (175, .iload_n 1, 0, []), (176, .if_icmp .ne 31, 0, []), (179, .aload_n 0, 0, []), (180, .iload_n 1, 0, []), (181, .aload_n 0, 0, []), (182, .getfield 28, 98, []), (185, .iload_n 3, 0, []), (186, .iconst 4, 0, []), (187, .iadd, 0, []), (188, .iload 7, 0, []), (190, .iadd, 0, []), (191, .iaload, 0, []), (192, .aload_n 0, 0, []), (193, .getfield 28, 98, []), (196, .iload_n 3, 0, []), (197, .bipush 7, 0, []), (199, .iadd, 0, []), (200, .iload 7, 0, []), (202, .iadd, 0, []), (203, .iaload, 0, []), (204, .invokevirtual 345, 275, []), (207, .iinc 7 1, 0, []), (210, .goto (-77), 0, []), (213, .return_, 0, [])]
def M_250 : xM := (9, 0, 0, 8, c_250)
def c_251 : List xR := [(0, .iconst 0, 0, []), (1, .istore_n 2, 0, []), (2, .iload_n 2, 0, [3]), (3, .iload_n 1, 0, []), (4, .if_icmp .ge 13, 0, []), (7, .aload_n 0, 0, []), (8, .invokevirtual 330, 266, []), (11, .iinc 2 1, 0, []), (14, .goto (-12), 0, []), (17, .iconst 0, 0, []), (18, .istore_n 2, 0, []), (19, .iconst 0, 0, []), (20, .istore_n 3, 0, []), (21, .iload_n 3, 0, [1]), (22, .bipush 24, 0, []), (24, .if_icmp .ge 46, 0, []), (27, .aload_n 0, 0, []), (28, .getfield 28, 98, []), (31, .sipush 240, 0, []), (34, .iload_n 3, 0, []), (35, .iconst 0, 0, []), (36, .invokestatic 100, 229, []), (39, .iadd, 0, []), (40, .iaload, 0, []), (41, .iconst 1, 0, []), (42, .if_icmp .ne 22, 0, []), (45, .iload_n 2, 0, []), (46, .aload_n 0, 0, []), (47, .getfield 28, 98, []), (50, .sipush 240, 0, []), (53, .iload_n 3, 0, []), (54, .iconst 1, 0, []), (55, .invokestatic 100, 229, []), (58, .iadd, 0, []), (59, .iaload, 0, []), (60, .invokestatic 369, 320, []), (63, .istore_n 2, 0, []), (64, .iinc 3 1, 0, []), (67, .goto (-46), 0, []), (70, .iconst 0, 0, []), (71, .istore_n 3, 0, []), (72, .iload_n 3, 0, [1]), (73, .iconst 1, 0, []), (74, .iload_n 2, 0, []), (75, .ishl, 0, []), (76, .if_icmp .ge 20, 0, []), (79, .aload_n 0, 0, []), (80, .getfield 66, 125, []), (83, .iload_n 3, 0, []), (84, .aload_n 0, 0, []), (85, .iload_n 3, 0, []), (86, .invokevirtual 381, 326, []), (89, .iastore, 0, []), (90, .iinc 3 1, 0, []), (93, .goto (-21), 0, []), (96, .iconst 0, 0, []), (97, .istore_n 3, 0, []), (98, .iload_n 3, 0, [1]), (99, .bipush 24, 0, []), (101, .if_icmp .ge 15, 0, []), (104, .aload_n 0, 0, []), (105, .iload_n 3, 0, []), (106, .iload_n 2, 0, []), (107, .invokevirtual 384, 327, []), (110, .iinc 3 1, 0, []), (113, .goto (-15), 0, []), (116, .iconst 0, 0, []), (117, .istore_n 3, 0, []), (118, .iload_n 3, 0, [1, 2]), (119, .sipush 240, 0, []), (122, .if_icmp .ge 25, 0, []), (125, .aload_n 0, 0, []), (126, .getfield 28, 98, []), (129, .sipush 240, 0, []), (132, .iload_n 3, 0, []), (133, .iadd, 0, []), (134, .aload_n 0, 0, []), (135, .getfield 28, 98, []), (138, .iload_n 3, 0, []), (139, .iaload, 0, []), (140, .iastore, 0, []), (141, .iinc 3 1, 0, []), (144, .goto (-26), 0, []), (147, .aload_n 0, 0, []), (148, .getfield 28, 98, []), (151, .sipush 960, 0, []), (154, .iconst 0, 0, []), (155, .iastore, 0, []), (156, .aload_n 0, 0, []), (157, .getfield 28, 98, []), (160, .sipush 961, 0, []), (163, .aload_n 0, 0, []), (164, .invokevirtual 378, 319, []), (167, .iastore, 0, []), (168, .return_, 0, [])]
def M_251 : xM := (9, 0, 0, 4, c_251)
def c_252 : List xR := [(0, .sipush 964, 0, []), (3, .istore_n 2, 0, []), (4, .aload_n 0, 0, []), (5, .getfield 11, 128, []), (8, .bipush 16, 0, []), (10, .if_icmp .ne 43, 0, []), (13, .iconst 0, 0, []), (14, .istore_n 3, 0, []), (15, .iload_n 3, 0, []), (16, .bipush 15, 0, []), (18, .iload_n 2, 0, []), (19, .imul, 0, []), (20, .if_icmp .ge 23, 0, []), (23, .aload_n 0, 0, []), (24, .getfield 69, 126, []), (27, .iload_n 3, 0, []), (28, .aload_n 0, 0, []), (29, .getfield 69, 126, []), (32, .iload_n 3, 0, []), (33, .iload_n 2, 0, []), (34, .iadd, 0, []), (35, .iaload, 0, []), (36, .iastore, 0, []), (37, .iinc 3 1, 0, []), (40, .goto (-25), 0, []), (43, .aload_n 0, 0, []), (44, .dup, 0, []), (45, .getfield 11, 128, []), (48, .iconst 1, 0, []), (49, .isub, 0, []), (50, .putfield 11, 128, []), (53, .iconst 0, 0, []), (54, .istore_n 3, 0, []), (55, .iload_n 3, 0, []), (56, .sipush 963, 0, []), (59, .if_icmp .ge 32, 0, []), (62, .aload_n 0, 0, []), (63, .getfield 69, 126, []), (66, .iload_n 2, 0, []), (67, .aload_n 0, 0, []), (68, .getfield 11, 128, []), (71, .imul, 0, []), (72, .iload_n 3, 0, []), (73, .iadd, 0, []), (74, .aload_n 0, 0, []), (75, .getfield 38, 101, []), (78, .sipush 2889, 0, []), (81, .iload_n 3, 0, []), (82, .iadd, 0, []), (83, .iaload, 0, []), (84, .iastore, 0, []), (85, .iinc 3 1, 0, []), (88, .goto (-33), 0, []), (91, .aload_n 0, 0, []), (92, .getfield 69, 126, []), (95, .iload_n 2, 0, []), (96, .aload_n 0, 0, []), (97, .getfield 11, 128, []), (100, .imul, 0, []), (101, .sipush 963, 0, []), (104, .iadd, 0, []), (105, .iload_n 1, 0, []), (106, .iastore, 0, []), (107, .aload_n 0, 0, []), (108, .dup, 0, []), (109, .getfield 11, 128, []), (112, .iconst 1, 0, []), (113, .iadd, 0, []), (114, .putfield 11, 128, []), (117, .return_, 0, [])]
def M_252 : xM := (9, 0, 0, 4, c_252)
def c_253 : List xR := [(0, .aload_n 0, 0, []), (1, .getfield 11, 128, []), (4, .ifCond .ne 10, 0, []), (7, .aload_n 0, 0, []), (8, .bipush (-3), 0, []), (10, .invokevirtual 94, 223, []), (13, .ireturn, 0, []), (14, .aload_n 0, 0, []), (15, .dup, 0, []), (16, .getfield 11, 128, []), (19, .iconst 1, 0, []), (20, .isub, 0, []), (21, .putfield 11, 128, []), (24, .sipush 964, 0, []), (27, .aload_n 0, 0, []), (28, .getfield 11, 128, []), (31, .imul, 0, []), (32, .istore_n 1, 0, []), (33, .iconst 0, 0, []), (34, .istore_n 2, 0, []), (35, .iload_n 2, 0, []), (36, .sipush 963, 0, []), (39, .if_icmp .ge 23, 0, []), (42, .aload_n 0, 0, []), (43, .getfield 28, 98, []), (46, .iload_n 2, 0, []), (47, .aload_n 0, 0, []), (48, .getfield 69, 126, []), (51, .iload_n 1, 0, []), (52, .iload_n 2, 0, []), (53, .iadd, 0, []), (54, .iaload, 0, []), (55, .iastore, 0, []), (56, .iinc 2 1, 0, []), (59, .goto (-24), 0, []), (62, .aload_n 0, 0, []), (63, .aload_n 0, 0, []), (64, .getfield 69, 126, []), (67, .iload_n 1, 0, []), (68, .sipush 963, 0, []), (71, .iadd, 0, []), (72, .iaload, 0, []), (73, .invokevirtual 14, 224, []), (76, .ireturn, 0, [])]
def M_253 : xM := (9, 1, 0, 3, c_253)
def c_254 : List xR := [(0, .iload_n 1, 0, []), (1, .ifCond .ge 11, 0, []), (4, .aload_n 0, 0, []), (5, .iload_n 1, 0, []), (6, .invokevirtual 94, 223, []), (9, .goto 8, 0, []), (12, .aload_n 0, 0, []), (13, .iload_n 1, 0, []), (14, .invokevirtual 14, 224, []), (17, .ireturn, 0, [])]
def M_254 : xM := (9, 1, 0, 2, c_254)
def c_255 : List xR := [(0, .iload_n 2, 0, []), (1, .ifCond .lt 8, 0, []), (4, .aload_n 0, 0, []), (5, .iload_n 1, 0, []), (6, .invokevirtual 387, 311, []), (9, .iload_n 2, 0, []), (10, .ireturn, 0, [])]
def M_255 : xM := (9, 1, 0, 3, c_255)
def c_256 : List xR := [(0, .aload_n 0, 0, []), (1, .iconst 3, 0, []), (2, .invokevirtual 357, 270, []), (5, .aload_n 0, 0, []), (6, .iconst 0, 0, []), (7, .aload_n 0, 0, []), (8, .iload_n 1, 0, []), (9, .iload_n 2, 0, []), (10, .invokevirtual 158, 264, []), (13, .invokevirtual 390, 310, []), (16, .ireturn, 0, [])]
def M_256 : xM := (9, 1, 0, 3, c_256)
def c_257 : List xR := [(0, .aload_n 0, 0, []), (1, .iconst 3, 0, []), (2, .invokevirtual 357, 270, []), (5, .aload_n 0, 0, []), (6, .iconst 1, 0, []), (7, .aload_n 0, 0, []), (8, .iload_n 1, 0, []), (9, .invokevirtual 393, 315, []), (12, .invokevirtual 390, 310, []), (15, .ireturn, 0, [])]
def M_257 : xM := (9, 1, 0, 2, c_257)
def c_258 : List xR := [(0, .iload_n 1, 0, []), (1, .ifCond .ge 5, 0, []), (4, .iconst (-1), 0, []), (5, .ireturn, 0, []), (6, .iload_n 1, 0, []), (7, .aload_n 0, 0, []), (8, .getfield 28, 98, []), (11, .sipush 960, 0, []), (14, .iaload, 0, []), (15, .if_icmp .le 6, 0, []), (18, .bipush (-3), 0, []), (20, .ireturn, 0, []), (21, .aload_n 0, 0, []), (22, .iconst 3, 0, []), (23, .invokevirtual 357, 270, []), (26, .iconst 0, 0, []), (27, .istore_n 2, 0, []), (28, .iload_n 2, 0, []), (29, .iload_n 1, 0, []), (30, .if_icmp .ge 13, 0, []), (33, .aload_n 0, 0, []), (34, .invokevirtual 330, 266, []), (37, .iinc 2 1, 0, []), (40, .goto (-12), 0, []), (43, .aload_n 0, 0, []), (44, .iconst 2, 0, []), (45, .aload_n 0, 0, []), (46, .getfield 28, 98, []), (49, .sipush 960, 0, []), (52, .iaload, 0, []), (53, .invokevirtual 390, 310, []), (56, .ireturn, 0, [])]
def M_258 : xM := (9, 1, 0, 3, c_258)
def c_259 : List xR := [(0, .iload_n 1, 0, []), (1, .ifCond .ge 5, 0, []), (4, .iconst (-1), 0, []), (5, .ireturn, 0, []), (6, .iload_n 1, 0, []), (7, .aload_n 0, 0, []), (8, .getfield 28, 98, []), (11, .sipush 960, 0, []), (14, .iaload, 0, []), (15, .if_icmp .le 6, 0, []), (18, .bipush (-3), 0, []), (20, .ireturn, 0, []), (21, .aload_n 0, 0, []), (22, .iconst 3, 0, []), (23, .invokevirtual 357, 270, []), (26, .aload_n 0, 0, []), (27, .iload_n 1, 0, []), (28, .invokevirtual 396, 325, []), (31, .aload_n 0, 0, []), (32, .iconst 3, 0, []), (33, .aload_n 0, 0, []), (34, .invokevirtual 145, 254, []), (37, .invokevirtual 390, 310, []), (40, .ireturn, 0, [])]
def M_259 : xM := (9, 1, 0, 2, c_259)
def c_260 : List xR := [(0, .aload_n 0, 0, []), (1, .aload_n 0, 0, []), (2, .iload_n 1, 0, []), (3, .iload_n 2, 0, []), (4, .invokevirtual 399, 309, []), (7, .invokevirtual 402, 312, []), (10, .ireturn, 0, [])]
def M_260 : xM := (9, 1, 0, 3, c_260)
def c_261 : List xR := [(0, .aload_n 0, 0, []), (1, .aload_n 0, 0, []), (2, .iload_n 1, 0, []), (3, .invokevirtual 405, 314, []), (6, .invokevirtual 402, 312, []), (9, .ireturn, 0, [])]
def M_261 : xM := (9, 1, 0, 2, c_261)
def c_262 : List xR := [(0, .aload_n 0, 0, []), (1, .aload_n 0, 0, []), (2, .iload_n 1, 0, []), (3, .invokevirtual 408, 322, []), (6, .invokevirtual 402, 312, []), (9, .ireturn, 0, [])]
def M_262 : xM := (9, 1, 0, 2, c_262)
def c_263 : List xR := [(0, .aload_n 0, 0, []), (1, .aload_n 0, 0, []), (2, .iload_n 1, 0, []), (3, .invokevirtual 411, 324, []), (6, .invokevirtual 402, 312, []), (9, .ireturn, 0, [])]
def M_263 : xM := (9, 1, 0, 2, c_263)
def c_264 : List xR := [(0, .iload_n 1, 0, []), (1, .iconst 0, 0, []), (2, .aload_n 0, 0, []), (3, .getfield 28, 98, []), (6, .sipush 960, 0, []), (9, .iaload, 0, []), (10, .invokestatic 18, 222, []), (13, .ifCond .eq 10, 0, []), (16, .iload_n 2, 0, []), (17, .invokestatic 132, 239, []), (20, .ifCond .ne 5, 0, []), (23, .iconst (-1), 0, []), (24, .ireturn, 0, []), (25, .aload_n 0, 0, []), (26, .iconst 0, 0, []), (27, .invokevirtual 357, 270, []), (30, .aload_n 0, 0, []), (31, .iload_n 1, 0, []), (32, .invokevirtual 396, 325, []), (35, .aload_n 0, 0, []), (36, .iload_n 2, 0, []), (37, .invokevirtual 135, 241, []), (40, .istore_n 3, 0, []), (41, .aload_n 0, 0, []), (42, .iconst 0, 0, []), (43, .invokevirtual 363, 277, []), (46, .iload_n 3, 0, []), (47, .ireturn, 0, [])]
def M_264 : xM := (9, 1, 0, 4, c_264)
def c_265 : List xR := [(0, .iload_n 1, 0, []), (1, .iconst 0, 0, []), (2, .aload_n 0, 0, []), (3, .getfield 28, 98, []), (6, .sipush 960, 0, []), (9, .iaload, 0, []), (10, .invokestatic 18, 222, []), (13, .ifCond .ne 5, 0, []), (16, .iconst (-1), 0, []), (17, .ireturn, 0, []), (18, .iconst 0, 0, []), (19, .istore_n 2, 0, []), (20, .iload_n 2, 0, [3]), (21, .sipush 1000, 0, []), (24, .if_icmp .ge 20, 0, []), (27, .aload_n 0, 0, []), (28, .getfield 75, 129, []), (31, .iload_n 2, 0, []), (32, .aload_n 0, 0, []), (33, .iload_n 2, 0, []), (34, .invokevirtual 135, 241, []), (37, .iastore, 0, []), (38, .iinc 2 1, 0, []), (41, .goto (-21), 0, []), (44, .aload_n 0, 0, []), (45, .iconst 0, 0, []), (46, .invokevirtual 357, 270, []), (49, .aload_n 0, 0, []), (50, .iload_n 1, 0, []), (51, .invokevirtual 396, 325, []), (54, .iconst 0, 0, []), (55, .istore_n 2, 0, []), (56, .iconst 0, 0, []), (57, .istore_n 3, 0, []), (58, .iload_n 3, 0, [1]), (59, .sipush 1000, 0, []), (62, .if_icmp .ge 41, 0, []), (65, .iload_n 2, 0, []), (66, .aload_n 0, 0, []), (67, .getfield 75, 129, []), (70, .iload_n 3, 0, []), (71, .iaload, 0, []), (72, .iconst (-1), 0, []), (73, .if_icmp .eq 21, 0, []), (76, .aload_n 0, 0, []), (77, .iload_n 3, 0, []), (78, .invokevirtual 135, 241, []), (81, .aload_n 0, 0, []), (82, .getfield 75, 129, []), (85, .iload_n 3, 0, []), (86, .iaload, 0, []), (87, .if_icmp .eq 7, 0, []), (90, .iconst 1, 0, []), (91, .goto 4, 0, []), (94, .iconst 0, 0, []), (95, .iadd, 0, []), (96, .istore_n 2, 0, []), (97, .iinc 3 1, 0, []), (100, .goto (-42), 0, []), (103, .aload_n 0, 0, []), (104, .iconst 0, 0, []), (105, .invokevirtual 363, 277, []), (108, .iload_n 2, 0, []), (109, .ireturn, 0, [])]
def M_265 : xM := (9, 1, 0, 4, c_265)
def c_266 : List xR := [(0, .iload_n 1, 0, []), (1, .iconst 0, 0, []), (2, .aload_n 0, 0, []), (3, .getfield 28, 98, []), (6, .sipush 960, 0, []), (9, .iaload, 0, []), (10, .invokestatic 18, 222, []), (13, .ifCond .ne 5, 0, []), (16, .iconst (-1), 0, []), (17, .ireturn, 0, []), (18, .iconst 0, 0, []), (19, .istore_n 2, 0, []), (20, .iload_n 2, 0, [3]), (21, .bipush 64, 0, []), (23, .if_icmp .ge 20, 0, []), (26, .aload_n 0, 0, []), (27, .getfield 78, 130, []), (30, .iload_n 2, 0, []), (31, .aload_n 0, 0, []), (32, .iload_n 2, 0, []), (33, .invokevirtual 414, 331, []), (36, .iastore, 0, []), (37, .iinc 2 1, 0, []), (40, .goto (-20), 0, []), (43, .aload_n 0, 0, []), (44, .iconst 0, 0, []), (45, .invokevirtual 357, 270, []), (48, .aload_n 0, 0, []), (49, .iload_n 1, 0, []), (50, .invokevirtual 396, 325, []), (53, .iconst 0, 0, []), (54, .istore_n 2, 0, []), (55, .iconst 0, 0, []), (56, .istore_n 3, 0, []), (57, .iload_n 3, 0, [1]), (58, .bipush 64, 0, []), (60, .if_icmp .ge 31, 0, []), (63, .iload_n 2, 0, []), (64, .aload_n 0, 0, []), (65, .iload_n 3, 0, []), (66, .invokevirtual 414, 331, []), (69, .aload_n 0, 0, []), (70, .getfield 78, 130, []), (73, .iload_n 3, 0, []), (74, .iaload, 0, []), (75, .if_icmp .eq 7, 0, []), (78, .iconst 1, 0, []), (79, .goto 4, 0, []), (82, .iconst 0, 0, []), (83, .iadd, 0, []), (84, .istore_n 2, 0, []), (85, .iinc 3 1, 0, []), (88, .goto (-31), 0, []), (91, .aload_n 0, 0, []), (92, .iconst 0, 0, []), (93, .invokevirtual 363, 277, []), (96, .iload_n 2, 0, []), (97, .ireturn, 0, [])]
def M_266 : xM := (9, 1, 0, 4, c_266)
def c_267 : List xR := [(0, .aload_n 0, 0, []), (1, .getfield 28, 98, []), (4, .aload_n 0, 0, []), (5, .iload_n 1, 0, []), (6, .invokevirtual 117, 243, []), (9, .iconst 3, 0, []), (10, .invokestatic 100, 229, []), (13, .iaload, 0, []), (14, .iconst 3, 0, []), (15, .if_icmp .lt 20, 0, []), (18, .aload_n 0, 0, []), (19, .iload_n 1, 0, []), (20, .invokevirtual 120, 242, []), (23, .iconst (-1), 0, []), (24, .if_icmp .ne 11, 0, []), (27, .aload_n 0, 0, []), (28, .iload_n 1, 0, []), (29, .invokevirtual 138, 244, []), (32, .ifCond .eq 5, 0, []), (35, .iconst 0, 0, []), (36, .ireturn, 0, []), (37, .aload_n 0, 0, []), (38, .iconst 0, 0, []), (39, .invokevirtual 357, 270, []), (42, .aload_n 0, 0, []), (43, .iload_n 1, 0, []), (44, .iconst 0, 0, []), (45, .invokevirtual 360, 271, []), (48, .istore_n 2, 0, []), (49, .aload_n 0, 0, []), (50, .iconst 0, 0, []), (51, .invokevirtual 363, 277, []), (54, .iload_n 2, 0, []), (55, .ifCond .le 7, 0, []), (58, .iconst 1, 0, []), (59, .goto 4, 0, []), (62, .iconst 0, 0, []), (63, .ireturn, 0, [])]
def M_267 : xM := (9, 2, 0, 3, c_267)
def c_268 : List xR := [(0, .iconst 0, 0, []), (1, .istore_n 1, 0, []), (2, .iconst 0, 0, []), (3, .istore_n 2, 0, []), (4, .iload_n 2, 0, []), (5, .sipush 1000, 0, []), (8, .if_icmp .ge 25, 0, []), (11, .iload_n 1, 0, []), (12, .aload_n 0, 0, []), (13, .iload_n 2, 0, []), (14, .invokevirtual 417, 333, []), (17, .ifCond .eq 7, 0, []), (20, .iconst 1, 0, []), (21, .goto 4, 0, []), (24, .iconst 0, 0, []), (25, .iadd, 0, []), (26, .istore_n 1, 0, []), (27, .iinc 2 1, 0, []), (30, .goto (-26), 0, []), (33, .iload_n 1, 0, []), (34, .ireturn, 0, [])]
def M_268 : xM := (9, 1, 0, 3, c_268)
def c_269 : List xR := [(0, .iconst 3, 0, []), (1, .aload_n 0, 0, []), (2, .invokevirtual 420, 335, []), (5, .imul, 0, []), (6, .aload_n 0, 0, []), (7, .invokevirtual 145, 254, []), (10, .isub, 0, []), (11, .ireturn, 0, [])]
def M_269 : xM := (9, 1, 0, 1, c_269)
def c_270 : List xR := [(0, .iload_n 1, 0, []), (1, .invokestatic 123, 228, []), (4, .ifCond .eq 19, 0, []), (7, .aload_n 0, 0, []), (8, .iload_n 1, 0, []), (9, .invokevirtual 104, 236, []), (12, .ifCond .eq 11, 0, []), (15, .aload_n 0, 0, []), (16, .iload_n 1, 0, []), (17, .invokevirtual 366, 317, []), (20, .goto 4, 0, []), (23, .iconst (-1), 0, []), (24, .ireturn, 0, [])]
def M_270 : xM := (9, 1, 0, 2, c_270)
def c_271 : List xR := [(0, .iconst 0, 0, []), (1, .istore_n 1, 0, []), (2, .iload_n 1, 0, []), (3, .sipush 963, 0, []), (6, .if_icmp .ge 16, 0, []), (9, .aload_n 0, 0, []), (10, .getfield 28, 98, []), (13, .iload_n 1, 0, []), (14, .iconst 0, 0, []), (15, .iastore, 0, []), (16, .iinc 1 1, 0, []), (19, .goto (-17), 0, []), (22, .aload_n 0, 0, []), (23, .getfield 28, 98, []), (26, .iconst 0, 0, []), (27, .iconst 1, 0, []), (28, .iastore, 0, []), (29, .aload_n 0, 0, []), (30, .getfield 28, 98, []), (33, .sipush 240, 0, []), (36, .iconst 1, 0, []), (37, .iastore, 0, []), (38, .return_, 0, [])]
def M_271 : xM := (9, 0, 0, 2, c_271)
def c_272 : List xR := [(0, .aload_n 0, 0, []), (1, .invokevirtual 423, 339, []), (4, .aload_n 0, 0, []), (5, .getfield 28, 98, []), (8, .sipush 977, 0, []), (11, .iload_n 1, 0, []), (12, .iastore, 0, []), (13, .iconst 0, 0, []), (14, .istore_n 2, 0, []), (15, .iload_n 2, 0, [1]), (16, .sipush 1000, 0, []), (19, .if_icmp .ge 31, 0, []), (22, .aload_n 0, 0, []), (23, .getfield 75, 129, []), (26, .iload_n 2, 0, []), (27, .iaload, 0, []), (28, .iconst (-1), 0, []), (29, .if_icmp .eq 15, 0, []), (32, .aload_n 0, 0, []), (33, .iload_n 2, 0, []), (34, .iconst 0, 0, []), (35, .invokevirtual 360, 271, []), (38, .iconst (-1), 0, []), (39, .if_icmp .ne 5, 0, []), (42, .iconst (-1), 0, []), (43, .ireturn, 0, []), (44, .iinc 2 1, 0, []), (47, .goto (-32), 0, []), (50, .aload_n 0, 0, []), (51, .invokevirtual 420, 335, []), (54, .ireturn, 0, [])]
def M_272 : xM := (9, 1, 0, 3, c_272)
def c_273 : List xR := [(0, .iload_n 1, 0, []), (1, .iconst 0, 0, []), (2, .iconst 1, 0, []), (3, .invokestatic 18, 222, []), (6, .ifCond .ne 5, 0, []), (9, .iconst (-1), 0, []), (10, .ireturn, 0, []), (11, .iconst 0, 0, []), (12, .istore_n 2, 0, []), (13, .iload_n 2, 0, [3, 4, 5, 6]), (14, .sipush 1000, 0, []), (17, .if_icmp .ge 20, 0, []), (20, .aload_n 0, 0, []), (21, .getfield 75, 129, []), (24, .iload_n 2, 0, []), (25, .aload_n 0, 0, []), (26, .iload_n 2, 0, []), (27, .invokevirtual 135, 241, []), (30, .iastore, 0, []), (31, .iinc 2 1, 0, []), (34, .goto (-21), 0, []), (37, .aload_n 0, 0, []), (38, .getfield 28, 98, []), (41, .sipush 977, 0, []), (44, .iaload, 0, []), (45, .istore_n 2, 0, []), (46, .iconst (-1), 0, []), (47, .istore_n 3, 0, []), (48, .ldc 173, 7, []), (50, .istore 4, 0, []), (52, .aload_n 0, 0, []), (53, .iconst 0, 0, []), (54, .invokevirtual 357, 270, []), (57, .iconst 0, 0, []), (58, .istore 5, 0, []), (60, .iload 5, 0, [6]), (62, .bipush 32, 0, []), (64, .if_icmp .ge 40, 0, []), (67, .aload_n 0, 0, []), (68, .iload 5, 0, []), (70, .invokevirtual 426, 338, []), (73, .istore 6, 0, []), (75, .iload 6, 0, []), (77, .iconst (-1), 0, []), (78, .if_icmp .eq 20, 0, []), (81, .iload 6, 0, []), (83, .iload 4, 0, []), (85, .if_icmp .lt 6, 0, []), (88, .goto 10, 0, []), (91, .iload 6, 0, []), (93, .istore 4, 0, []), (95, .iload 5, 0, []), (97, .istore_n 3, 0, []), (98, .iinc 5 1, 0, []), (101, .goto (-41), 0, []), (104, .aload_n 0, 0, []), (105, .iconst 0, 0, []), (106, .invokevirtual 363, 277, []), (109, .aload_n 0, 0, []), (110, .getfield 28, 98, []), (113, .sipush 977, 0, []), (116, .iload_n 2, 0, []), (117, .iastore, 0, []), (118, .iload_n 3, 0, []), (119, .iconst (-1), 0, []), (120, .if_icmp .eq 7, 0, []), (123, .iload_n 1, 0, []), (124, .ifCond .ne 7, 0, []), (127, .iload_n 3, 0, []), (128, .goto 5, 0, []), (131, .iload 4, 0, []), (133, .ireturn, 0, [])]
def M_273 : xM := (9, 1, 0, 7, c_273)
def c_274 : List xR := [(0, .iconst 0, 0, []), (1, .istore_n 1, 0, []), (2, .iconst 0, 0, []), (3, .istore_n 2, 0, []), (4, .iload_n 2, 0, []), (5, .aload_n 0, 0, []), (6, .getfield 28, 98, []), (9, .sipush 960, 0, []), (12, .iaload, 0, []), (13, .if_icmp .ge 23, 0, []), (16, .iload_n 1, 0, []), (17, .aload_n 0, 0, []), (18, .getfield 28, 98, []), (21, .iload_n 2, 0, []), (22, .invokestatic 129, 233, []), (25, .iconst 1, 0, []), (26, .iadd, 0, []), (27, .iaload, 0, []), (28, .iadd, 0, []), (29, .istore_n 1, 0, []), (30, .iinc 2 1, 0, []), (33, .goto (-29), 0, []), (36, .iload_n 1, 0, []), (37, .ireturn, 0, [])]
def M_274 : xM := (9, 1, 0, 3, c_274)
def c_275 : List xR := [(0, .iload_n 1, 0, []), (1, .iconst 0, 0, []), (2, .bipush 63, 0, []), (4, .invokestatic 18, 222, []), (7, .ifCond .eq 12, 0, []), (10, .iload_n 2, 0, []), (11, .iconst 0, 0, []), (12, .iconst 1, 0, []), (13, .invokestatic 18, 222, []), (16, .ifCond .ne 9, 0, []), (19, .aload_n 0, 0, []), (20, .iconst (-1), 0, []), (21, .invokevirtual 94, 223, []), (24, .ireturn, 0, []), (25, .sipush 963, 0, []), (28, .iconst 2, 0, []), (29, .aload_n 0, 0, []), (30, .getfield 28, 98, []), (33, .sipush 978, 0, []), (36, .iaload, 0, []), (37, .imul, 0, []), (38, .iadd, 0, []), (39, .istore_n 3, 0, []), (40, .aload_n 0, 0, []), (41, .getfield 28, 98, []), (44, .sipush 978, 0, []), (47, .iaload, 0, []), (48, .bipush 6, 0, []), (50, .if_icmp .ne 10, 0, []), (53, .aload_n 0, 0, []), (54, .bipush (-5), 0, []), (56, .invokevirtual 94, 223, []), (59, .ireturn, 0, []), (60, .aload_n 0, 0, []), (61, .getfield 28, 98, []), (64, .iload_n 3, 0, []), (65, .iload_n 1, 0, []), (66, .iastore, 0, []), (67, .aload_n 0, 0, []), (68, .getfield 28, 98, []), (71, .iload_n 3, 0, []), (72, .iconst 1, 0, []), (73, .iadd, 0, []), (74, .iload_n 2, 0, []), (75, .iastore, 0, []), (76, .aload_n 0, 0, []), (77, .getfield 28, 98, []), (80, .sipush 978, 0, []), (83, .dup2, 0, []), (84, .iaload, 0, []), (85, .iconst 1, 0, []), (86, .iadd, 0, []), (87, .iastore, 0, []), (88, .aload_n 0, 0, []), (89, .aload_n 0, 0, []), (90, .getfield 28, 98, []), (93, .sipush 978, 0, [0, 1, 2, 3]), (96, .iaload, 0, []), (97, .invokevirtual 14, 224, []), (100, .ireturn, 0, [])]
def M_275 : xM := (9, 1, 0, 4, c_275)
def c_276 : List xR := [(0, .aload_n 0, 0, []), (1, .getfield 28, 98, []), (4, .sipush 978, 0, []), (7, .iaload, 0, []), (8, .istore_n 1, 0, []), (9, .aload_n 0, 0, []), (10, .getfield 28, 98, []), (13, .sipush 978, 0, []), (16, .iconst 0, 0, []), (17, .iastore, 0, []), (18, .iload_n 1, 0, []), (19, .ireturn, 0, [])]
def M_276 : xM := (9, 1, 0, 2, c_276)
def c_277 : List xR := [(0, .iconst 1, 0, []), (1, .istore_n 2, 0, []), (2, .iconst 0, 0, []), (3, .istore_n 3, 0, []), (4, .iload_n 3, 0, []), (5, .aload_n 0, 0, []), (6, .getfield 28, 98, []), (9, .sipush 978, 0, []), (12, .iaload, 0, []), (13, .if_icmp .ge 61, 0, []), (16, .iload_n 2, 0, []), (17, .ifCond .eq 49, 0, []), (20, .aload_n 0, 0, []), (21, .aload_n 0, 0, []), (22, .getfield 28, 98, []), (25, .sipush 963, 0, []), (28, .iconst 2, 0, []), (29, .iload_n 3, 0, []), (30, .imul, 0, []), (31, .iadd, 0, []), (32, .iaload, 0, []), (33, .invokevirtual 414, 331, []), (36, .iload_n 1, 0, []), (37, .if_icmp .ne 7, 0, []), (40, .iconst 1, 0, []), (41, .goto 4, 0, []), (44, .iconst 0, 0, []), (45, .aload_n 0, 0, [2]), (46, .getfield 28, 98, []), (49, .sipush 963, 0, []), (52, .iconst 2, 0, []), (53, .iload_n 3, 0, []), (54, .imul, 0, []), (55, .iadd, 0, []), (56, .iconst 1, 0, []), (57, .iadd, 0, []), (58, .iaload, 0, []), (59, .if_icmp .ne 7, 0, []), (62, .iconst 1, 0, []), (63, .goto 4, 0, []), (66, .iconst 0, 0, []), (67, .istore_n 2, 0, []), (68, .iinc 3 1, 0, []), (71, .goto (-67), 0, []), (74, .iload_n 2, 0, []), (75, .ireturn, 0, [])]
def M_277 : xM := (9, 2, 0, 4, c_277)
def c_278 : List xR := [(0, .iconst 0, 0, []), (1, .istore_n 1, 0, []), (2, .iconst 0, 0, []), (3, .istore_n 2, 0, []), (4, .iload_n 2, 0, []), (5, .bipush 24, 0, []), (7, .if_icmp .ge 35, 0, []), (10, .iload_n 1, 0, []), (11, .aload_n 0, 0, []), (12, .iload_n 2, 0, []), (13, .invokevirtual 104, 236, []), (16, .ifCond .eq 17, 0, []), (19, .aload_n 0, 0, []), (20, .iload_n 2, 0, []), (21, .invokevirtual 429, 344, []), (24, .ifCond .eq 9, 0, []), (27, .iconst 1, 0, []), (28, .iload_n 2, 0, []), (29, .ishl, 0, []), (30, .goto 4, 0, []), (33, .iconst 0, 0, []), (34, .ior, 0, []), (35, .istore_n 1, 0, []), (36, .iinc 2 1, 0, []), (39, .goto (-35), 0, []), (42, .iload_n 1, 0, []), (43, .ireturn, 0, [])]
def M_278 : xM := (9, 1, 0, 3, c_278)
def c_279 : List xR := [(0, .iload_n 1, 0, []), (1, .iconst 0, 0, []), (2, .iconst 1, 0, []), (3, .invokestatic 18, 222, []), (6, .ifCond .ne 5, 0, []), (9, .iconst (-1), 0, []), (10, .ireturn, 0, []), (11, .aload_n 0, 0, []), (12, .invokevirtual 432, 346, []), (15, .istore_n 2, 0, []), (16, .iconst (-1), 0, []), (17, .istore_n 3, 0, []), (18, .ldc 173, 7, []), (20, .istore 4, 0, []), (22, .iconst 0, 0, []), (23, .istore 5, 0, []), (25, .iload 5, 0, [6, 7]), (27, .iconst 1, 0, []), (28, .aload_n 0, 0, []), (29, .getfield 28, 98, []), (32, .sipush 961, 0, []), (35, .iaload, 0, []), (36, .ishl, 0, []), (37, .if_icmp .ge 64, 0, []), (40, .iload_n 2, 0, []), (41, .ifCond .eq 60, 0, []), (44, .iload_n 2, 0, []), (45, .aload_n 0, 0, []), (46, .iload 5, 0, []), (48, .invokevirtual 114, 235, []), (51, .invokestatic 342, 274, []), (54, .ifCond .eq 7, 0, []), (57, .iconst 1, 0, []), (58, .goto 4, 0, []), (61, .iconst 0, 0, []), (62, .istore 6, 0, [6, 7]), (64, .iload 6, 0, []), (66, .iload_n 2, 0, []), (67, .invokestatic 435, 347, []), (70, .iload 6, 0, []), (72, .isub, 0, []), (73, .invokestatic 369, 320, []), (76, .istore 7, 0, []), (78, .iload 7, 0, []), (80, .iload 4, 0, []), (82, .if_icmp .lt 6, 0, []), (85, .goto 10, 0, []), (88, .iload 7, 0, []), (90, .istore 4, 0, []), (92, .iload 5, 0, []), (94, .istore_n 3, 0, []), (95, .iinc 5 1, 0, []), (98, .goto (-73), 0, []), (101, .iload_n 3, 0, [0, 2, 5, 6, 7]), (102, .iconst (-1), 0, []), (103, .if_icmp .eq 7, 0, []), (106, .iload_n 1, 0, []), (107, .ifCond .ne 7, 0, []), (110, .iload_n 3, 0, []), (111, .goto 5, 0, []), (114, .iload 4, 0, []), (116, .ireturn, 0, [])]
def M_279 : xM := (9, 1, 0, 8, c_279)
def c_280 : List xR := [(0, .iload_n 1, 0, []), (1, .iconst 1, 0, []), (2, .bipush 20, 0, []), (4, .invokestatic 18, 222, []), (7, .ifCond .eq 13, 0, []), (10, .iload_n 2, 0, []), (11, .iconst 0, 0, []), (12, .bipush 99, 0, []), (14, .invokestatic 18, 222, []), (17, .ifCond .ne 7, 0, []), (20, .ldc2_w 438, 12, []), (23, .lreturn, 0, []), (24, .iconst 0, 0, []), (25, .istore_n 3, 0, []), (26, .iload_n 3, 0, [4, 5]), (27, .bipush 20, 0, []), (29, .if_icmp .gt 26, 0, []), (32, .aload_n 0, 0, []), (33, .getfield 81, 131, []), (36, .iload_n 3, 0, []), (37, .iload_n 3, 0, []), (38, .ifCond .ne 9, 0, []), (41, .ldc2_w 440, 13, []), (44, .goto 4, 0, []), (47, .lconst 0, 0, []), (48, .lastore, 0, []), (49, .iinc 3 1, 0, []), (52, .goto (-26), 0, []), (55, .iconst 0, 0, []), (56, .istore_n 3, 0, []), (57, .iload_n 3, 0, [4, 5]), (58, .iload_n 2, 0, []), (59, .if_icmp .ge 89, 0, []), (62, .iload_n 1, 0, []), (63, .iconst 1, 0, []), (64, .isub, 0, []), (65, .istore 4, 0, []), (67, .iload 4, 0, [5]), (69, .ifCond .lt 73, 0, []), (72, .aload_n 0, 0, []), (73, .getfield 81, 131, []), (76, .iload 4, 0, []), (78, .iconst 1, 0, []), (79, .iadd, 0, []), (80, .dup2, 0, []), (81, .laload, 0, []), (82, .aload_n 0, 0, []), (83, .getfield 81, 131, []), (86, .iload 4, 0, []), (88, .laload, 0, []), (89, .aload_n 0, 0, []), (90, .getfield 28, 98, []), (93, .sipush 975, 0, []), (96, .iaload, 0, []), (97, .i2l, 0, []), (98, .lmul, 0, []), (99, .ldc2_w 442, 14, []), (102, .ldiv, 0, []), (103, .ladd, 0, []), (104, .lastore, 0, []), (105, .aload_n 0, 0, []), (106, .getfield 81, 131, []), (109, .iload 4, 0, []), (111, .aload_n 0, 0, []), (112, .getfield 81, 131, []), (115, .iload 4, 0, []), (117, .laload, 0, []), (118, .bipush 10, 0, []), (120, .aload_n 0, 0, []), (121, .getfield 28, 98, []), (124, .sipush 975, 0, []), (127, .iaload, 0, []), (128, .isub, 0, []), (129, .i2l, 0, []), (130, .lmul, 0, []), (131, .ldc2_w 442, 14, []), (134, .ldiv, 0, []), (135, .lastore, 0, []), (136, .iinc 4 (-1), 0, []), (139, .goto (-72), 0, []), (142, .iinc 3 1, 0, []), (145, .goto (-88), 0, []), (148, .lconst 0, 0, []), (149, .lstore_n 3, 0, []), (150, .iconst 0, 0, []), (151, .istore 5, 0, []), (153, .iload 5, 0, [2]), (155, .iload_n 1, 0, []), (156, .if_icmp .ge 19, 0, []), (159, .lload_n 3, 0, []), (160, .aload_n 0, 0, []), (161, .getfield 81, 131, []), (164, .iload 5, 0, []), (166, .laload, 0, []), (167, .ladd, 0, []), (168, .lstore_n 3, 0, []), (169, .iinc 5 1, 0, []), (172, .goto (-19), 0, []), (175, .lload_n 3, 0, []), (176, .lreturn, 0, [])]
def M_280 : xM := (9, 3, 0, 6, c_280)
def c_281 : List xR := [(0, .aload_n 0, 0, []), (1, .iload_n 1, 0, []), (2, .invokevirtual 258, 306, []), (5, .ifCond .eq 10, 0, []), (8, .iload_n 2, 0, []), (9, .invokestatic 123, 228, []), (12, .ifCond .ne 5, 0, []), (15, .iconst (-1), 0, []), (16, .ireturn, 0, []), (17, .aload_n 0, 0, []), (18, .getfield 28, 98, []), (21, .sipush 980, 0, []), (24, .iaload, 0, []), (25, .istore_n 3, 0, []), (26, .aload_n 0, 0, []), (27, .getfield 28, 98, []), (30, .sipush 980, 0, []), (33, .iload_n 1, 0, []), (34, .iastore, 0, []), (35, .aload_n 0, 0, []), (36, .iload_n 2, 0, []), (37, .invokevirtual 333, 268, []), (40, .istore 4, 0, []), (42, .aload_n 0, 0, []), (43, .getfield 28, 98, []), (46, .sipush 980, 0, []), (49, .iload_n 3, 0, []), (50, .iastore, 0, []), (51, .iload 4, 0, []), (53, .ireturn, 0, [])]
def M_281 : xM := (9, 1, 0, 5, c_281)
def c_282 : List xR := [(0, .aload_n 0, 0, []), (1, .getfield 85, 132, []), (4, .ireturn, 0, [])]
def M_282 : xM := (9, 1, 0, 1, c_282)
def c_283 : List xR := [(0, .aload_n 0, 0, []), (1, .iconst (-1), 0, []), (2, .putfield 85, 132, []), (5, .aload_n 0, 0, []), (6, .iconst 1, 0, []), (7, .invokevirtual 251, 282, []), (10, .ifCond .ne 10, 0, []), (13, .aload_n 0, 0, []), (14, .bipush (-6), 0, []), (16, .invokevirtual 94, 223, []), (19, .ireturn, 0, []), (20, .aload_n 0, 0, []), (21, .iconst 1, 0, []), (22, .invokevirtual 357, 270, []), (25, .iconst 0, 0, []), (26, .istore_n 1, 0, []), (27, .iload_n 1, 0, [2, 3, 4]), (28, .sipush 15424, 0, []), (31, .if_icmp .ge 21, 0, []), (34, .aload_n 0, 0, []), (35, .getfield 72, 127, []), (38, .iload_n 1, 0, []), (39, .aload_n 0, 0, []), (40, .getfield 69, 126, []), (43, .iload_n 1, 0, []), (44, .iaload, 0, []), (45, .iastore, 0, []), (46, .iinc 1 1, 0, []), (49, .goto (-22), 0, []), (52, .aload_n 0, 0, []), (53, .getfield 11, 128, []), (56, .istore_n 1, 0, []), (57, .aload_n 0, 0, []), (58, .bipush 6, 0, []), (60, .invokevirtual 255, 303, []), (63, .aload_n 0, 0, []), (64, .iconst 0, 0, []), (65, .putfield 300, 123, []), (68, .aload_n 0, 0, []), (69, .iconst (-1), 0, []), (70, .putfield 303, 124, []), (73, .aload_n 0, 0, []), (74, .sipush 2400, 0, []), (77, .putfield 444, 133, []), (80, .aload_n 0, 0, []), (81, .getfield 444, 133, []), (84, .aload_n 0, 0, []), (85, .getfield 28, 98, []), (88, .sipush 987, 0, []), (91, .iaload, 0, []), (92, .iadd, 0, []), (93, .istore_n 2, 0, []), (94, .iconst 0, 0, []), (95, .istore_n 3, 0, []), (96, .aload_n 0, 0, [4]), (97, .getfield 444, 133, []), (100, .iload_n 2, 0, []), (101, .if_icmp .ge 73, 0, []), (104, .aload_n 0, 0, []), (105, .iload_n 2, 0, []), (106, .invokevirtual 447, 352, []), (109, .ifCond .eq 6, 0, []), (112, .goto 56, 0, []), (115, .aload_n 0, 0, []), (116, .iconst 1, 0, []), (117, .invokevirtual 363, 277, []), (120, .iconst 0, 0, []), (121, .istore 4, 0, []), (123, .iload 4, 0, [2]), (125, .sipush 15424, 0, []), (128, .if_icmp .ge 23, 0, []), (131, .aload_n 0, 0, []), (132, .getfield 69, 126, []), (135, .iload 4, 0, []), (137, .aload_n 0, 0, []), (138, .getfield 72, 127, []), (141, .iload 4, 0, []), (143, .iaload, 0, []), (144, .iastore, 0, []), (145, .iinc 4 1, 0, []), (148, .goto (-25), 0, []), (151, .aload_n 0, 0, []), (152, .iload_n 1, 0, []), (153, .putfield 11, 128, []), (156, .aload_n 0, 0, []), (157, .iload_n 3, 0, []), (158, .putfield 85, 132, []), (161, .aload_n 0, 0, []), (162, .bipush (-3), 0, []), (164, .invokevirtual 94, 223, []), (167, .ireturn, 0, []), (168, .iinc 3 1, 0, []), (171, .goto (-75), 0, []), (174, .aload_n 0, 0, []), (175, .aload_n 0, 0, []), (176, .getfield 300, 123, []), (179, .invokevirtual 14, 224, []), (182, .ireturn, 0, [])]
def M_283 : xM := (9, 1, 0, 5, c_283)
def c_284 : List xR := [(0, .aload_n 0, 0, []), (1, .iconst 1, 0, []), (2, .putfield 294, 121, []), (5, .aload_n 0, 0, []), (6, .iload_n 1, 0, []), (7, .putfield 261, 119, []), (10, .aload_n 0, 0, []), (11, .aload_n 0, 0, []), (12, .getfield 444, 133, []), (15, .putfield 264, 118, []), (18, .aload_n 0, 0, []), (19, .aload_n 0, 0, []), (20, .aload_n 0, 0, []), (21, .getfield 264, 118, []), (24, .invokevirtual 267, 247, []), (27, .putfield 450, 135, []), (30, .aload_n 0, 0, []), (31, .dup, 0, []), (32, .getfield 264, 118, []), (35, .iconst 1, 0, []), (36, .iadd, 0, []), (37, .putfield 264, 118, []), (40, .aload_n 0, 0, []), (41, .iconst 1, 0, []), (42, .putfield 453, 136, []), (45, .iconst 0, 0, []), (46, .istore_n 3, 0, []), (47, .iload_n 3, 0, [1]), (48, .aload_n 0, 0, []), (49, .getfield 450, 135, []), (52, .bipush 20, 0, []), (54, .if_icmp .ne 7, 0, []), (57, .iconst 2, 0, []), (58, .goto 4, 0, []), (61, .iconst 1, 0, []), (62, .if_icmp .ge 62, 0, [1]), (65, .iload_n 3, 0, []), (66, .ifCond .le 13, 0, []), (69, .aload_n 0, 0, []), (70, .dup, 0, []), (71, .getfield 264, 118, []), (74, .iconst 1, 0, []), (75, .iadd, 0, []), (76, .putfield 264, 118, []), (79, .aload_n 0, 0, [1]), (80, .iconst 0, 0, []), (81, .putfield 274, 120, []), (84, .aload_n 0, 0, []), (85, .getfield 88, 138, []), (88, .iload_n 3, 0, []), (89, .aload_n 0, 0, []), (90, .iload_n 2, 0, []), (91, .invokevirtual 291, 248, []), (94, .lastore, 0, []), (95, .aload_n 0, 0, []), (96, .aload_n 0, 0, []), (97, .getfield 453, 136, []), (100, .ifCond .eq 14, 0, []), (103, .aload_n 0, 0, []), (104, .getfield 274, 120, []), (107, .ifCond .ne 7, 0, []), (110, .iconst 1, 0, []), (111, .goto 4, 0, []), (114, .iconst 0, 0, []), (115, .putfield 453, 136, []), (118, .iinc 3 1, 0, []), (121, .goto (-74), 0, []), (124, .aload_n 0, 0, []), (125, .iconst 1, 0, []), (126, .putfield 456, 134, []), (129, .aload_n 0, 0, []), (130, .bipush 25, 0, []), (132, .invokevirtual 288, 252, []), (135, .ifCond .eq 30, 0, []), (138, .aload_n 0, 0, []), (139, .aload_n 0, 0, []), (140, .getfield 28, 98, []), (143, .sipush 3788, 0, []), (146, .aload_n 0, 0, []), (147, .getfield 264, 118, []), (150, .iadd, 0, []), (151, .iaload, 0, []), (152, .putfield 456, 134, []), (155, .aload_n 0, 0, []), (156, .dup, 0, []), (157, .getfield 264, 118, []), (160, .iconst 1, 0, []), (161, .iadd, 0, []), (162, .putfield 264, 118, []), (165, .aload_n 0, 0, [1, 3]), (166, .iconst 0, 0, []), (167, .putfield 274, 120, []), (170, .aload_n 0, 0, []), (171, .aload_n 0, 0, []), (172, .iconst 3, 0, []), (173, .invokevirtual 288, 252, []), (176, .ifCond .eq 11, 0, []), (179, .aload_n 0, 0, []), (180, .iload_n 2, 0, []), (181, .invokevirtual 315, 256, []), (184, .ifCond .eq 7, 0, []), (187, .iconst 1, 0, []), (188, .goto 4, 0, []), (191, .iconst 0, 0, []), (192, .putfield 459, 137, [1, 2, 3]), (195, .aload_n 0, 0, []), (196, .aload_n 0, 0, []), (197, .getfield 459, 137, []), (200, .ifCond .eq 14, 0, []), (203, .aload_n 0, 0, []), (204, .getfield 274, 120, []), (207, .ifCond .ne 7, 0, []), (210, .iconst 1, 0, []), (211, .goto 4, 0, []), (214, .iconst 0, 0, []), (215, .putfield 459, 137, []), (218, .aload_n 0, 0, []), (219, .dup, 0, []), (220, .getfield 264, 118, []), (223, .iconst 1, 0, []), (224, .iadd, 0, []), (225, .putfield 264, 118, []), (228, .return_, 0, [])]
def M_284 : xM := (9, 0, 0, 4, c_284)
def c_285 : List xR := [(0, .lload_n 0, 0, []), (1, .lconst 0, 0, []), (2, .lcmp, 0, []), (3, .ifCond .lt 11, 0, []), (6, .lload_n 0, 0, []), (7, .ldc2_w 462, 15, []), (10, .lcmp, 0, []), (11, .ifCond .le 7, 0, []), (14, .iconst (-1), 0, []), (15, .goto 5, 0, []), (18, .lload_n 0, 0, []), (19, .l2i, 0, []), (20, .ireturn, 0, [])]
def M_285 : xM := (9, 1, 1, 2, c_285)
def c_286 : List xR := [(0, .aload_n 0, 0, []), (1, .getfield 88, 138, []), (4, .iconst 0, 0, []), (5, .laload, 0, []), (6, .invokestatic 464, 355, []), (9, .istore_n 1, 0, []), (10, .aload_n 0, 0, []), (11, .getfield 450, 135, []), (14, .tableswitch 44 22 24 #[26, 32, 38], 0, []), (40, .aload_n 0, 0, []), (41, .iload_n 1, 0, []), (42, .invokevirtual 405, 314, []), (45, .ireturn, 0, []), (46, .aload_n 0, 0, []), (47, .iload_n 1, 0, []), (48, .invokevirtual 408, 322, []), (51, .ireturn, 0, []), (52, .aload_n 0, 0, []), (53, .iload_n 1, 0, []), (54, .invokevirtual 411, 324, []), (57, .ireturn, 0, []), (58, .aload_n 0, 0, []), (59, .iload_n 1, 0, []), (60, .aload_n 0, 0, []), (61, .getfield 88, 138, []), (64, .iconst 1, 0, []), (65, .laload, 0, []), (66, .invokestatic 464, 355, []), (69, .invokevirtual 399, 309, []), (72, .istore_n 2, 0, []), (73, .aload_n 0, 0, []), (74, .iload_n 2, 0, []), (75, .ifCond .ge 10, 0, []), (78, .aload_n 0, 0, []), (79, .getfield 303, 124, []), (82, .goto 4, 0, []), (85, .iload_n 2, 0, []), (86, .putfield 303, 124, []), (89, .iload_n 2, 0, []), (90, .ireturn, 0, [])]
def M_286 : xM := (9, 1, 0, 3, c_286)
def c_287 : List xR := [(0, .aload_n 0, 0, []), (1, .iload_n 1, 0, []), (2, .iconst 0, 0, []), (3, .invokevirtual 468, 353, []), (6, .aload_n 0, 0, []), (7, .getfield 456, 134, []), (10, .istore_n 2, 0, []), (11, .aload_n 0, 0, []), (12, .getfield 264, 118, []), (15, .istore_n 3, 0, []), (16, .iconst 0, 0, []), (17, .istore 4, 0, []), (19, .iload 4, 0, []), (21, .iload_n 2, 0, []), (22, .if_icmp .ge 51, 0, []), (25, .aload_n 0, 0, []), (26, .iload_n 1, 0, []), (27, .iconst 1, 0, []), (28, .invokevirtual 468, 353, []), (31, .aload_n 0, 0, []), (32, .getfield 459, 137, []), (35, .ifCond .ne 6, 0, []), (38, .goto 29, 0, []), (41, .aload_n 0, 0, []), (42, .getfield 453, 136, []), (45, .ifCond .eq 10, 0, []), (48, .aload_n 0, 0, []), (49, .invokevirtual 472, 354, []), (52, .ifCond .ge 5, 0, []), (55, .iconst 0, 0, []), (56, .ireturn, 0, []), (57, .aload_n 0, 0, []), (58, .dup, 0, []), (59, .getfield 300, 123, []), (62, .iconst 1, 0, []), (63, .iadd, 0, []), (64, .putfield 300, 123, []), (67, .iinc 4 1, 0, []), (70, .goto (-51), 0, []), (73, .aload_n 0, 0, []), (74, .iload_n 3, 0, []), (75, .putfield 444, 133, []), (78, .iconst 1, 0, []), (79, .ireturn, 0, [])]
def M_287 : xM := (9, 2, 0, 5, c_287)
def c_288 : List xR := [(0, .aload_n 0, 0, []), (1, .ldc2_w 475, 16, []), (4, .aload_n 0, 0, []), (5, .getfield 477, 141, []), (8, .i2l, 0, []), (9, .lmul, 0, []), (10, .ldc2_w 480, 17, []), (13, .ladd, 0, []), (14, .ldc2_w 482, 18, []), (17, .lrem, 0, []), (18, .l2i, 0, []), (19, .putfield 477, 141, []), (22, .aload_n 0, 0, []), (23, .getfield 477, 141, []), (26, .iload_n 1, 0, []), (27, .irem, 0, []), (28, .ireturn, 0, [])]
def M_288 : xM := (9, 1, 0, 2, c_288)
def c_289 : List xR := [(0, .aload_n 0, 0, []), (1, .bipush 40, 0, []), (3, .invokevirtual 484, 358, []), (6, .istore_n 1, 0, []), (7, .aload_n 0, 0, []), (8, .bipush 8, 0, []), (10, .invokevirtual 484, 358, []), (13, .istore_n 2, 0, []), (14, .aload_n 0, 0, []), (15, .bipush 8, 0, []), (17, .invokevirtual 484, 358, []), (20, .istore_n 3, 0, []), (21, .iload_n 3, 0, []), (22, .iconst 5, 0, []), (23, .if_icmp .ge 13, 0, []), (26, .aload_n 0, 0, []), (27, .iload_n 1, 0, []), (28, .iload_n 2, 0, []), (29, .invokevirtual 158, 264, []), (32, .pop, 0, []), (33, .goto 34, 0, []), (36, .iload_n 3, 0, []), (37, .bipush 7, 0, []), (39, .if_icmp .ge 12, 0, []), (42, .aload_n 0, 0, []), (43, .iload_n 1, 0, []), (44, .invokevirtual 393, 315, []), (47, .pop, 0, []), (48, .goto 19, 0, []), (51, .aload_n 0, 0, []), (52, .iload_n 2, 0, []), (53, .aload_n 0, 0, []), (54, .getfield 28, 98, []), (57, .sipush 960, 0, []), (60, .iaload, 0, []), (61, .invokestatic 336, 269, []), (64, .invokevirtual 396, 325, []), (67, .return_, 0, [])]
def M_289 : xM := (9, 0, 0, 4, c_289)
def c_290 : List xR := [(0, .iload_n 1, 0, []), (1, .iconst 0, 0, []), (2, .ldc 173, 7, []), (4, .invokestatic 18, 222, []), (7, .ifCond .eq 13, 0, []), (10, .iload_n 2, 0, []), (11, .iconst 1, 0, []), (12, .bipush 60, 0, []), (14, .invokestatic 18, 222, []), (17, .ifCond .ne 9, 0, []), (20, .aload_n 0, 0, []), (21, .iconst (-1), 0, []), (22, .invokevirtual 94, 223, []), (25, .ireturn, 0, []), (26, .aload_n 0, 0, []), (27, .iload_n 1, 0, []), (28, .putfield 477, 141, []), (31, .aload_n 0, 0, []), (32, .iconst 1, 0, []), (33, .putfield 487, 140, []), (36, .aload_n 0, 0, []), (37, .iconst 0, 0, []), (38, .invokevirtual 357, 270, []), (41, .iconst 0, 0, []), (42, .istore_n 3, 0, []), (43, .iload_n 3, 0, [1, 4]), (44, .iload_n 2, 0, []), (45, .if_icmp .ge 13, 0, []), (48, .aload_n 0, 0, []), (49, .invokevirtual 490, 357, []), (52, .iinc 3 1, 0, []), (55, .goto (-12), 0, []), (58, .aload_n 0, 0, []), (59, .invokevirtual 145, 254, []), (62, .istore_n 3, 0, []), (63, .iconst 0, 0, []), (64, .istore 4, 0, []), (66, .iload 4, 0, [1, 2]), (68, .bipush 40, 0, []), (70, .if_icmp .ge 22, 0, []), (73, .aload_n 0, 0, []), (74, .getfield 91, 139, []), (77, .iload 4, 0, []), (79, .aload_n 0, 0, []), (80, .iload 4, 0, []), (82, .invokevirtual 135, 241, []), (85, .iastore, 0, []), (86, .iinc 4 1, 0, []), (89, .goto (-23), 0, []), (92, .aload_n 0, 0, []), (93, .iconst 0, 0, []), (94, .invokevirtual 363, 277, []), (97, .aload_n 0, 0, []), (98, .iload_n 3, 0, []), (99, .invokevirtual 14, 224, []), (102, .ireturn, 0, [])]
def M_290 : xM := (9, 1, 0, 5, c_290)
def c_291 : List xR := [(0, .aload_n 0, 0, []), (1, .getfield 487, 140, []), (4, .ifCond .eq 22, 0, []), (7, .iload_n 1, 0, []), (8, .iconst 0, 0, []), (9, .bipush 39, 0, []), (11, .invokestatic 18, 222, []), (14, .ifCond .eq 12, 0, []), (17, .aload_n 0, 0, []), (18, .getfield 91, 139, []), (21, .iload_n 1, 0, []), (22, .iaload, 0, []), (23, .goto 4, 0, []), (26, .iconst (-1), 0, []), (27, .ireturn, 0, [])]
def M_291 : xM := (9, 1, 0, 2, c_291)
def c_292 : List xR := [(0, .iload_n 1, 0, []), (1, .tableswitch 190 0 17 #[87, 96, 101, 106, 115, 124, 133, 138, 143, 143, 143, 153, 160, 168, 177, 177, 177, 177], 0, []), (88, .aload_n 0, 0, []), (89, .getfield 28, 98, []), (92, .sipush 961, 0, []), (95, .iaload, 0, []), (96, .ireturn, 0, []), (97, .aload_n 0, 0, []), (98, .invokevirtual 420, 335, []), (101, .ireturn, 0, []), (102, .aload_n 0, 0, []), (103, .invokevirtual 145, 254, []), (106, .ireturn, 0, []), (107, .aload_n 0, 0, []), (108, .getfield 28, 98, []), (111, .sipush 960, 0, []), (114, .iaload, 0, []), (115, .ireturn, 0, []), (116, .aload_n 0, 0, []), (117, .getfield 28, 98, []), (120, .sipush 978, 0, []), (123, .iaload, 0, []), (124, .ireturn, 0, []), (125, .aload_n 0, 0, []), (126, .getfield 28, 98, []), (129, .sipush 979, 0, []), (132, .iaload, 0, []), (133, .ireturn, 0, []), (134, .aload_n 0, 0, []), (135, .getfield 11, 128, []), (138, .ireturn, 0, []), (139, .aload_n 0, 0, []), (140, .getfield 152, 109, []), (143, .ireturn, 0, []), (144, .aload_n 0, 0, []), (145, .getfield 7, 97, []), (148, .iload_n 1, 0, []), (149, .bipush 7, 0, []), (151, .isub, 0, []), (152, .iaload, 0, []), (153, .ireturn, 0, []), (154, .aload_n 0, 0, []), (155, .getfield 7, 97, []), (158, .iconst 5, 0, []), (159, .iaload, 0, []), (160, .ireturn, 0, []), (161, .aload_n 0, 0, []), (162, .getfield 7, 97, []), (165, .bipush 6, 0, []), (167, .iaload, 0, []), (168, .ireturn, 0, []), (169, .aload_n 0, 0, []), (170, .getfield 28, 98, []), (173, .sipush 980, 0, []), (176, .iaload, 0, []), (177, .ireturn, 0, []), (178, .aload_n 0, 0, []), (179, .getfield 28, 98, []), (182, .iload_n 1, 0, []), (183, .bipush 14, 0, []), (185, .isub, 0, []), (186, .invokestatic 149, 262, []), (189, .iaload, 0, []), (190, .ireturn, 0, []), (191, .iconst (-1), 0, []), (192, .ireturn, 0, [])]
def M_292 : xM := (9, 1, 0, 2, c_292)
def c_293 : List xR := [(0, .aload_n 0, 0, []), (1, .getfield 3, 96, []), (4, .ireturn, 0, [])]
def M_293 : xM := (9, 1, 0, 1, c_293)
def c_294 : List xR := [(0, .iload_n 0, 0, []), (1, .iload_n 0, 0, []), (2, .iconst 1, 0, []), (3, .iushr, 0, []), (4, .ldc_w 265, 3, []), (7, .iand, 0, []), (8, .isub, 0, []), (9, .istore_n 0, 0, []), (10, .iload_n 0, 0, []), (11, .ldc_w 266, 4, []), (14, .iand, 0, []), (15, .iload_n 0, 0, []), (16, .iconst 2, 0, []), (17, .iushr, 0, []), (18, .ldc_w 266, 4, []), (21, .iand, 0, []), (22, .iadd, 0, []), (23, .istore_n 0, 0, []), (24, .iload_n 0, 0, []), (25, .iload_n 0, 0, []), (26, .iconst 4, 0, []), (27, .iushr, 0, []), (28, .iadd, 0, []), (29, .ldc_w 267, 5, []), (32, .iand, 0, []), (33, .istore_n 0, 0, []), (34, .iload_n 0, 0, []), (35, .iload_n 0, 0, []), (36, .bipush 8, 0, []), (38, .iushr, 0, []), (39, .iadd, 0, []), (40, .istore_n 0, 0, []), (41, .iload_n 0, 0, []), (42, .iload_n 0, 0, []), (43, .bipush 16, 0, []), (45, .iushr, 0, []), (46, .iadd, 0, []), (47, .istore_n 0, 0, []), (48, .iload_n 0, 0, []), (49, .bipush 63, 0, []), (51, .iand, 0, []), (52, .ireturn, 0, [])]
def M_294 : xM := (12, 1, 1, 1, c_294)
def c_295 : List xR := [(0, .iload_n 1, 0, []), (1, .iload_n 2, 0, []), (2, .if_icmp .le 44, 0, []), (5, .new 43, 9999, []), (8, .dup, 0, []), (9, .new 45, 9999, []), (12, .dup, 0, []), (13, .invokespecial 47, 9999, []), (16, .ldc 48, 9999, []), (18, .invokevirtual 50, 9999, []), (21, .iload_n 1, 0, []), (22, .invokevirtual 54, 9999, []), (25, .ldc 57, 9999, []), (27, .invokevirtual 50, 9999, []), (30, .iload_n 2, 0, []), (31, .invokevirtual 54, 9999, []), (34, .ldc 59, 9999, []), (36, .invokevirtual 50, 9999, []), (39, .invokevirtual 61, 9999, []), (42, .invokespecial 65, 9999, []), (45, .athrow, 0, []), (46, .iload_n 1, 0, []), (47, .ifCond .ge 12, 0, []), (50, .new 68, 9999, []), (53, .dup, 0, []), (54, .iload_n 1, 0, []), (55, .invokespecial 70, 9999, []), (58, .athrow, 0, []), (59, .iload_n 2, 0, []), (60, .iload_n 0, 0, []), (61, .if_icmp .le 12, 0, []), (64, .new 68, 9999, []), (67, .dup, 0, []), (68, .iload_n 2, 0, []), (69, .invokespecial 70, 9999, []), (72, .athrow, 0, []), (73, .return_, 0, [])]
def M_295 : xM := (11, 0, 1, 3, c_295)
def c_296 : List xR := [(0, .iconst 0, 0, []), (1, .istore_n 3, 0, []), (2, .aload_n 0, 0, []), (3, .arraylength, 0, []), (4, .istore 4, 0, []), (6, .iload_n 3, 0, []), (7, .iload 4, 0, []), (9, .if_icmp .ge 13, 0, []), (12, .aload_n 0, 0, []), (13, .iload_n 3, 0, []), (14, .lload_n 1, 0, []), (15, .lastore, 0, []), (16, .iinc 3 1, 0, []), (19, .goto (-13), 0, []), (22, .return_, 0, [])]
def M_296 : xM := (11, 0, 1, 5, c_296)
def c_297 : List xR := [(0, .iconst 0, 0, []), (1, .istore_n 2, 0, []), (2, .aload_n 0, 0, []), (3, .arraylength, 0, []), (4, .istore_n 3, 0, []), (5, .iload_n 2, 0, []), (6, .iload_n 3, 0, []), (7, .if_icmp .ge 13, 0, []), (10, .aload_n 0, 0, []), (11, .iload_n 2, 0, []), (12, .iload_n 1, 0, []), (13, .iastore, 0, []), (14, .iinc 2 1, 0, []), (17, .goto (-12), 0, []), (20, .return_, 0, [])]
def M_297 : xM := (11, 0, 1, 4, c_297)
def c_298 : List xR := [(0, .aload_n 0, 0, []), (1, .arraylength, 0, []), (2, .iload_n 1, 0, []), (3, .iload_n 2, 0, []), (4, .invokestatic 13, 88, []), (7, .iload_n 1, 0, []), (8, .istore 4, 0, []), (10, .iload 4, 0, [1]), (12, .iload_n 2, 0, []), (13, .if_icmp .ge 14, 0, []), (16, .aload_n 0, 0, []), (17, .iload 4, 0, []), (19, .iload_n 3, 0, []), (20, .iastore, 0, []), (21, .iinc 4 1, 0, []), (24, .goto (-14), 0, []), (27, .return_, 0, [])]
def M_298 : xM := (11, 0, 1, 5, c_298)
def c_299 : List xR := [(0, .iload_n 1, 0, []), (1, .aload_n 0, 0, []), (2, .arraylength, 0, []), (3, .if_icmp .ne 11, 0, []), (6, .aload_n 0, 0, []), (7, .invokevirtual 316, 123, []), (10, .checkcast 317, 18, []), (13, .areturn, 0, []), (14, .iload_n 1, 0, []), (15, .newarray .int, 0, []), (17, .astore_n 2, 0, []), (18, .aload_n 0, 0, []), (19, .iconst 0, 0, []), (20, .aload_n 2, 0, []), (21, .iconst 0, 0, []), (22, .aload_n 0, 0, []), (23, .arraylength, 0, []), (24, .iload_n 1, 0, []), (25, .invokestatic 304, 124, []), (28, .invokestatic 150, 125, []), (31, .aload_n 2, 0, []), (32, .areturn, 0, [])]
def M_299 : xM := (11, 4, 1, 3, c_299)
def c_300 : List xR := [(0, .new 7, 0, []), (3, .dup, 0, []), (4, .invokespecial 9, 0, []), (7, .astore_n 1, 0, []), (8, .new 10, 23, []), (11, .dup, 0, []), (12, .invokespecial 12, 219, []), (15, .astore_n 2, 0, []), (16, .iconst 0, 0, []), (17, .istore_n 3, 0, []), (18, .iload_n 3, 0, []), (19, .aload_n 0, 0, []), (20, .arraylength, 0, []), (21, .bipush 6, 0, []), (23, .isub, 0, []), (24, .if_icmp .gt 1131, 0, []), (27, .aload_n 0, 0, []), (28, .iload_n 3, 0, []), (29, .iaload, 0, []), (30, .bipush 63, 0, []), (32, .iand, 0, []), (33, .tableswitch 1116 0 39 #[175, 208, 241, 274, 297, 330, 363, 426, 449, 462, 475, 488, 501, 514, 527, 550, 583, 606, 629, 652, 665, 698, 721, 744, 757, 770, 793, 816, 829, 862, 875, 888, 911, 945, 978, 1011, 1034, 1057, 1080, 1103], 0, []), (208, .aload_n 1, 0, []), (209, .aload_n 0, 0, []), (210, .iload_n 3, 0, []), (211, .iconst 1, 0, []), (212, .iadd, 0, []), (213, .iaload, 0, []), (214, .aload_n 0, 0, []), (215, .iload_n 3, 0, []), (216, .iconst 2, 0, []), (217, .iadd, 0, []), (218, .iaload, 0, []), (219, .invokevirtual 13, 19, []), (222, .aload_n 2, 0, []), (223, .aload_n 0, 0, []), (224, .iload_n 3, 0, []), (225, .iconst 1, 0, []), (226, .iadd, 0, []), (227, .iaload, 0, []), (228, .aload_n 0, 0, []), (229, .iload_n 3, 0, []), (230, .iconst 2, 0, []), (231, .iadd, 0, []), (232, .iaload, 0, []), (233, .invokevirtual 17, 227, []), (236, .if_icmp .eq 913, 0, []), (239, .iconst 0, 0, []), (240, .ireturn, 0, []), (241, .aload_n 1, 0, []), (242, .aload_n 0, 0, []), (243, .iload_n 3, 0, []), (244, .iconst 1, 0, []), (245, .iadd, 0, []), (246, .iaload, 0, []), (247, .aload_n 0, 0, []), (248, .iload_n 3, 0, []), (249, .iconst 2, 0, []), (250, .iadd, 0, []), (251, .iaload, 0, []), (252, .invokevirtual 18, 24, []), (255, .aload_n 2, 0, []), (256, .aload_n 0, 0, []), (257, .iload_n 3, 0, []), (258, .iconst 1, 0, []), (259, .iadd, 0, []), (260, .iaload, 0, []), (261, .aload_n 0, 0, []), (262, .iload_n 3, 0, []), (263, .iconst 2, 0, []), (264, .iadd, 0, []), (265, .iaload, 0, []), (266, .invokevirtual 21, 231, []), (269, .if_icmp .eq 880, 0, []), (272, .iconst 0, 0, []), (273, .ireturn, 0, []), (274, .aload_n 1, 0, []), (275, .aload_n 0, 0, []), (276, .iload_n 3, 0, []), (277, .iconst 1, 0, []), (278, .iadd, 0, []), (279, .iaload, 0, []), (280, .aload_n 0, 0, []), (281, .iload_n 3, 0, []), (282, .iconst 2, 0, []), (283, .iadd, 0, []), (284, .iaload, 0, []), (285, .invokevirtual 22, 25, []), (288, .aload_n 2, 0, []), (289, .aload_n 0, 0, []), (290, .iload_n 3, 0, []), (291, .iconst 1, 0, []), (292, .iadd, 0, []), (293, .iaload, 0, []), (294, .aload_n 0, 0, []), (295, .iload_n 3, 0, []), (296, .iconst 2, 0, []), (297, .iadd, 0, []), (298, .iaload, 0, []), (299, .invokevirtual 25, 232, []), (302, .if_icmp .eq 847, 0, []), (305, .iconst 0, 0, []), (306, .ireturn, 0, []), (307, .aload_n 1, 0, []), (308, .aload_n 0, 0, []), (309, .iload_n 3, 0, []), (310, .iconst 1, 0, []), (311, .iadd, 0, []), (312, .iaload, 0, []), (313, .invokevirtual 26, 28, []), (316, .aload_n 2, 0, []), (317, .aload_n 0, 0, []), (318, .iload_n 3, 0, []), (319, .iconst 1, 0, []), (320, .iadd, 0, []), (321, .iaload, 0, []), (322, .invokevirtual 30, 234, []), (325, .if_icmp .eq 824, 0, []), (328, .iconst 0, 0, []), (329, .ireturn, 0, []), (330, .aload_n 1, 0, []), (331, .aload_n 0, 0, []), (332, .iload_n 3, 0, []), (333, .iconst 1, 0, []), (334, .iadd, 0, []), (335, .iaload, 0, []), (336, .aload_n 0, 0, []), (337, .iload_n 3, 0, []), (338, .iconst 2, 0, []), (339, .iadd, 0, []), (340, .iaload, 0, []), (341, .invokevirtual 31, 30, []), (344, .aload_n 2, 0, []), (345, .aload_n 0, 0, []), (346, .iload_n 3, 0, []), (347, .iconst 1, 0, []), (348, .iadd, 0, []), (349, .iaload, 0, []), (350, .aload_n 0, 0, []), (351, .iload_n 3, 0, []), (352, .iconst 2, 0, []), (353, .iadd, 0, []), (354, .iaload, 0, []), (355, .invokevirtual 34, 238, []), (358, .if_icmp .eq 791, 0, []), (361, .iconst 0, 0, []), (362, .ireturn, 0, []), (363, .aload_n 1, 0, []), (364, .aload_n 0, 0, []), (365, .iload_n 3, 0, []), (366, .iconst 1, 0, []), (367, .iadd, 0, []), (368, .iaload, 0, []), (369, .aload_n 0, 0, []), (370, .iload_n 3, 0, []), (371, .iconst 2, 0, []), (372, .iadd, 0, []), (373, .iaload, 0, []), (374, .invokevirtual 35, 54, []), (377, .aload_n 2, 0, []), (378, .aload_n 0, 0, []), (379, .iload_n 3, 0, []), (380, .iconst 1, 0, []), (381, .iadd, 0, []), (382, .iaload, 0, []), (383, .aload_n 0, 0, []), (384, .iload_n 3, 0, []), (385, .iconst 2, 0, []), (386, .iadd, 0, []), (387, .iaload, 0, []), (388, .invokevirtual 38, 260, []), (391, .if_icmp .eq 758, 0, []), (394, .iconst 0, 0, []), (395, .ireturn, 0, []), (396, .aload_n 1, 0, []), (397, .aload_n 0, 0, []), (398, .iload_n 3, 0, []), (399, .iconst 1, 0, []), (400, .iadd, 0, []), (401, .iaload, 0, []), (402, .aload_n 0, 0, []), (403, .iload_n 3, 0, []), (404, .iconst 2, 0, []), (405, .iadd, 0, []), (406, .iaload, 0, []), (407, .aload_n 0, 0, []), (408, .iload_n 3, 0, []), (409, .iconst 3, 0, []), (410, .iadd, 0, []), (411, .iaload, 0, []), (412, .aload_n 0, 0, []), (413, .iload_n 3, 0, []), (414, .iconst 4, 0, []), (415, .iadd, 0, []), (416, .iaload, 0, []), (417, .aload_n 0, 0, []), (418, .iload_n 3, 0, []), (419, .iconst 5, 0, []), (420, .iadd, 0, []), (421, .iaload, 0, []), (422, .invokevirtual 39, 63, []), (425, .aload_n 2, 0, []), (426, .aload_n 0, 0, []), (427, .iload_n 3, 0, []), (428, .iconst 1, 0, []), (429, .iadd, 0, []), (430, .iaload, 0, []), (431, .aload_n 0, 0, []), (432, .iload_n 3, 0, []), (433, .iconst 2, 0, []), (434, .iadd, 0, []), (435, .iaload, 0, []), (436, .aload_n 0, 0, []), (437, .iload_n 3, 0, []), (438, .iconst 3, 0, []), (439, .iadd, 0, []), (440, .iaload, 0, []), (441, .aload_n 0, 0, []), (442, .iload_n 3, 0, []), (443, .iconst 4, 0, []), (444, .iadd, 0, []), (445, .iaload, 0, []), (446, .aload_n 0, 0, []), (447, .iload_n 3, 0, []), (448, .iconst 5, 0, []), (449, .iadd, 0, []), (450, .iaload, 0, []), (451, .invokevirtual 43, 279, []), (454, .if_icmp .eq 695, 0, []), (457, .iconst 0, 0, []), (458, .ireturn, 0, []), (459, .aload_n 1, 0, []), (460, .aload_n 0, 0, []), (461, .iload_n 3, 0, []), (462, .iconst 1, 0, []), (463, .iadd, 0, []), (464, .iaload, 0, []), (465, .invokevirtual 44, 65, []), (468, .aload_n 2, 0, []), (469, .aload_n 0, 0, []), (470, .iload_n 3, 0, []), (471, .iconst 1, 0, []), (472, .iadd, 0, []), (473, .iaload, 0, []), (474, .invokevirtual 47, 280, []), (477, .if_icmp .eq 672, 0, []), (480, .iconst 0, 0, []), (481, .ireturn, 0, []), (482, .aload_n 1, 0, []), (483, .invokevirtual 48, 66, []), (486, .aload_n 2, 0, []), (487, .invokevirtual 52, 263, []), (490, .if_icmp .eq 659, 0, []), (493, .iconst 0, 0, []), (494, .ireturn, 0, []), (495, .aload_n 1, 0, []), (496, .invokevirtual 53, 94, []), (499, .aload_n 2, 0, []), (500, .invokevirtual 56, 278, []), (503, .if_icmp .eq 646, 0, []), (506, .iconst 0, 0, []), (507, .ireturn, 0, []), (508, .aload_n 1, 0, []), (509, .invokevirtual 57, 95, []), (512, .aload_n 2, 0, []), (513, .invokevirtual 60, 281, []), (516, .if_icmp .eq 633, 0, []), (519, .iconst 0, 0, []), (520, .ireturn, 0, []), (521, .aload_n 1, 0, []), (522, .invokevirtual 61, 127, []), (525, .aload_n 2, 0, []), (526, .invokevirtual 64, 351, []), (529, .if_icmp .eq 620, 0, []), (532, .iconst 0, 0, []), (533, .ireturn, 0, []), (534, .aload_n 1, 0, []), (535, .invokevirtual 65, 156, []), (538, .aload_n 2, 0, []), (539, .invokevirtual 68, 304, []), (542, .if_icmp .eq 607, 0, []), (545, .iconst 0, 0, []), (546, .ireturn, 0, []), (547, .aload_n 1, 0, []), (548, .invokevirtual 69, 157, []), (551, .aload_n 2, 0, []), (552, .invokevirtual 72, 350, []), (555, .if_icmp .eq 594, 0, []), (558, .iconst 0, 0, []), (559, .ireturn, 0, []), (560, .aload_n 1, 0, []), (561, .aload_n 0, 0, []), (562, .iload_n 3, 0, []), (563, .iconst 1, 0, []), (564, .iadd, 0, []), (565, .iaload, 0, []), (566, .invokevirtual 73, 158, []), (569, .aload_n 2, 0, []), (570, .aload_n 0, 0, []), (571, .iload_n 3, 0, []), (572, .iconst 1, 0, []), (573, .iadd, 0, []), (574, .iaload, 0, []), (575, .invokevirtual 76, 305, []), (578, .if_icmp .eq 571, 0, []), (581, .iconst 0, 0, []), (582, .ireturn, 0, []), (583, .aload_n 1, 0, []), (584, .aload_n 0, 0, []), (585, .iload_n 3, 0, []), (586, .iconst 1, 0, []), (587, .iadd, 0, []), (588, .iaload, 0, []), (589, .aload_n 0, 0, []), (590, .iload_n 3, 0, []), (591, .iconst 2, 0, []), (592, .iadd, 0, []), (593, .iaload, 0, []), (594, .invokevirtual 77, 159, []), (597, .aload_n 2, 0, []), (598, .aload_n 0, 0, []), (599, .iload_n 3, 0, []), (600, .iconst 1, 0, []), (601, .iadd, 0, []), (602, .iaload, 0, []), (603, .aload_n 0, 0, []), (604, .iload_n 3, 0, []), (605, .iconst 2, 0, []), (606, .iadd, 0, []), (607, .iaload, 0, []), (608, .invokevirtual 80, 308, []), (611, .if_icmp .eq 538, 0, []), (614, .iconst 0, 0, []), (615, .ireturn, 0, []), (616, .aload_n 1, 0, []), (617, .aload_n 0, 0, []), (618, .iload_n 3, 0, []), (619, .iconst 1, 0, []), (620, .iadd, 0, []), (621, .iaload, 0, []), (622, .invokevirtual 81, 161, []), (625, .aload_n 2, 0, []), (626, .aload_n 0, 0, []), (627, .iload_n 3, 0, []), (628, .iconst 1, 0, []), (629, .iadd, 0, []), (630, .iaload, 0, []), (631, .invokevirtual 84, 313, []), (634, .if_icmp .eq 515, 0, []), (637, .iconst 0, 0, []), (638, .ireturn, 0, []), (639, .aload_n 1, 0, []), (640, .aload_n 0, 0, []), (641, .iload_n 3, 0, []), (642, .iconst 1, 0, []), (643, .iadd, 0, []), (644, .iaload, 0, []), (645, .invokevirtual 85, 162, []), (648, .aload_n 2, 0, []), (649, .aload_n 0, 0, []), (650, .iload_n 3, 0, []), (651, .iconst 1, 0, []), (652, .iadd, 0, []), (653, .iaload, 0, []), (654, .invokevirtual 88, 321, []), (657, .if_icmp .eq 492, 0, []), (660, .iconst 0, 0, []), (661, .ireturn, 0, []), (662, .aload_n 1, 0, []), (663, .aload_n 0, 0, []), (664, .iload_n 3, 0, []), (665, .iconst 1, 0, []), (666, .iadd, 0, []), (667, .iaload, 0, []), (668, .invokevirtual 89, 163, []), (671, .aload_n 2, 0, []), (672, .aload_n 0, 0, []), (673, .iload_n 3, 0, []), (674, .iconst 1, 0, []), (675, .iadd, 0, []), (676, .iaload, 0, []), (677, .invokevirtual 92, 323, []), (680, .if_icmp .eq 469, 0, []), (683, .iconst 0, 0, []), (684, .ireturn, 0, []), (685, .aload_n 1, 0, []), (686, .invokevirtual 93, 164, []), (689, .aload_n 2, 0, []), (690, .invokevirtual 96, 307, []), (693, .if_icmp .eq 456, 0, []), (696, .iconst 0, 0, []), (697, .ireturn, 0, []), (698, .aload_n 1, 0, []), (699, .aload_n 0, 0, []), (700, .iload_n 3, 0, []), (701, .iconst 1, 0, []), (702, .iadd, 0, []), (703, .iaload, 0, []), (704, .aload_n 0, 0, []), (705, .iload_n 3, 0, []), (706, .iconst 2, 0, []), (707, .iadd, 0, []), (708, .iaload, 0, []), (709, .invokevirtual 97, 166, []), (712, .aload_n 2, 0, []), (713, .aload_n 0, 0, []), (714, .iload_n 3, 0, []), (715, .iconst 1, 0, []), (716, .iadd, 0, []), (717, .iaload, 0, []), (718, .aload_n 0, 0, []), (719, .iload_n 3, 0, []), (720, .iconst 2, 0, []), (721, .iadd, 0, []), (722, .iaload, 0, []), (723, .invokevirtual 100, 328, []), (726, .if_icmp .eq 423, 0, []), (729, .iconst 0, 0, []), (730, .ireturn, 0, []), (731, .aload_n 1, 0, []), (732, .aload_n 0, 0, []), (733, .iload_n 3, 0, []), (734, .iconst 1, 0, []), (735, .iadd, 0, []), (736, .iaload, 0, []), (737, .invokevirtual 101, 168, []), (740, .aload_n 2, 0, []), (741, .aload_n 0, 0, []), (742, .iload_n 3, 0, []), (743, .iconst 1, 0, []), (744, .iadd, 0, []), (745, .iaload, 0, []), (746, .invokevirtual 104, 329, []), (749, .if_icmp .eq 400, 0, []), (752, .iconst 0, 0, []), (753, .ireturn, 0, []), (754, .aload_n 1, 0, []), (755, .aload_n 0, 0, []), (756, .iload_n 3, 0, []), (757, .iconst 1, 0, []), (758, .iadd, 0, []), (759, .iaload, 0, []), (760, .invokevirtual 105, 171, []), (763, .aload_n 2, 0, []), (764, .aload_n 0, 0, []), (765, .iload_n 3, 0, []), (766, .iconst 1, 0, []), (767, .iadd, 0, []), (768, .iaload, 0, []), (769, .invokevirtual 108, 330, []), (772, .if_icmp .eq 377, 0, []), (775, .iconst 0, 0, []), (776, .ireturn, 0, []), (777, .aload_n 1, 0, []), (778, .invokevirtual 109, 174, []), (781, .aload_n 2, 0, []), (782, .invokevirtual 112, 332, []), (785, .if_icmp .eq 364, 0, []), (788, .iconst 0, 0, []), (789, .ireturn, 0, []), (790, .aload_n 1, 0, []), (791, .invokevirtual 113, 176, []), (794, .aload_n 2, 0, []), (795, .invokevirtual 116, 334, []), (798, .if_icmp .eq 351, 0, []), (801, .iconst 0, 0, []), (802, .ireturn, 0, []), (803, .aload_n 1, 0, []), (804, .aload_n 0, 0, []), (805, .iload_n 3, 0, []), (806, .iconst 1, 0, []), (807, .iadd, 0, []), (808, .iaload, 0, []), (809, .invokevirtual 117, 178, []), (812, .aload_n 2, 0, []), (813, .aload_n 0, 0, []), (814, .iload_n 3, 0, []), (815, .iconst 1, 0, []), (816, .iadd, 0, []), (817, .iaload, 0, []), (818, .invokevirtual 120, 336, []), (821, .if_icmp .eq 328, 0, []), (824, .iconst 0, 0, []), (825, .ireturn, 0, []), (826, .aload_n 1, 0, []), (827, .aload_n 0, 0, []), (828, .iload_n 3, 0, []), (829, .iconst 1, 0, []), (830, .iadd, 0, []), (831, .iaload, 0, []), (832, .invokevirtual 121, 181, []), (835, .aload_n 2, 0, []), (836, .aload_n 0, 0, []), (837, .iload_n 3, 0, []), (838, .iconst 1, 0, []), (839, .iadd, 0, []), (840, .iaload, 0, []), (841, .invokevirtual 124, 337, []), (844, .if_icmp .eq 305, 0, []), (847, .iconst 0, 0, []), (848, .ireturn, 0, []), (849, .aload_n 1, 0, []), (850, .invokevirtual 125, 184, []), (853, .aload_n 2, 0, []), (854, .invokevirtual 128, 340, []), (857, .if_icmp .eq 292, 0, []), (860, .iconst 0, 0, []), (861, .ireturn, 0, []), (862, .aload_n 1, 0, []), (863, .aload_n 0, 0, []), (864, .iload_n 3, 0, []), (865, .iconst 1, 0, []), (866, .iadd, 0, []), (867, .iaload, 0, []), (868, .aload_n 0, 0, []), (869, .iload_n 3, 0, []), (870, .iconst 2, 0, []), (871, .iadd, 0, []), (872, .iaload, 0, []), (873, .invokevirtual 129, 186, []), (876, .aload_n 2, 0, []), (877, .aload_n 0, 0, []), (878, .iload_n 3, 0, []), (879, .iconst 1, 0, []), (880, .iadd, 0, []), (881, .iaload, 0, []), (882, .aload_n 0, 0, []), (883, .iload_n 3, 0, []), (884, .iconst 2, 0, []), (885, .iadd, 0, []), (886, .iaload, 0, []), (887, .invokevirtual 132, 341, []), (890, .if_icmp .eq 259, 0, []), (893, .iconst 0, 0, []), (894, .ireturn, 0, []), (895, .aload_n 1, 0, []), (896, .invokevirtual 133, 188, []), (899, .aload_n 2, 0, []), (900, .invokevirtual 136, 342, []), (903, .if_icmp .eq 246, 0, []), (906, .iconst 0, 0, []), (907, .ireturn, 0, []), (908, .aload_n 1, 0, []), (909, .invokevirtual 137, 189, []), (912, .aload_n 2, 0, []), (913, .invokevirtual 140, 343, []), (916, .if_icmp .eq 233, 0, []), (919, .iconst 0, 0, []), (920, .ireturn, 0, []), (921, .aload_n 1, 0, []), (922, .aload_n 0, 0, []), (923, .iload_n 3, 0, []), (924, .iconst 1, 0, []), (925, .iadd, 0, []), (926, .iaload, 0, []), (927, .invokevirtual 141, 194, []), (930, .aload_n 2, 0, []), (931, .aload_n 0, 0, []), (932, .iload_n 3, 0, []), (933, .iconst 1, 0, []), (934, .iadd, 0, []), (935, .iaload, 0, []), (936, .invokevirtual 144, 345, []), (939, .if_icmp .eq 210, 0, []), (942, .iconst 0, 0, []), (943, .ireturn, 0, []), (944, .aload_n 1, 0, []), (945, .aload_n 0, 0, []), (946, .iload_n 3, 0, []), (947, .iconst 1, 0, []), (948, .iadd, 0, []), (949, .iaload, 0, []), (950, .aload_n 0, 0, []), (951, .iload_n 3, 0, []), (952, .iconst 2, 0, []), (953, .iadd, 0, []), (954, .iaload, 0, []), (955, .invokevirtual 145, 197, []), (958, .aload_n 2, 0, []), (959, .aload_n 0, 0, []), (960, .iload_n 3, 0, []), (961, .iconst 1, 0, []), (962, .iadd, 0, []), (963, .iaload, 0, []), (964, .aload_n 0, 0, []), (965, .iload_n 3, 0, []), (966, .iconst 2, 0, []), (967, .iadd, 0, []), (968, .iaload, 0, []), (969, .invokevirtual 149, 348, []), (972, .lcmp, 0, []), (973, .ifCond .eq 176, 0, []), (976, .iconst 0, 0, []), (977, .ireturn, 0, []), (978, .aload_n 1, 0, []), (979, .aload_n 0, 0, []), (980, .iload_n 3, 0, []), (981, .iconst 1, 0, []), (982, .iadd, 0, []), (983, .iaload, 0, []), (984, .aload_n 0, 0, []), (985, .iload_n 3, 0, []), (986, .iconst 2, 0, []), (987, .iadd, 0, []), (988, .iaload, 0, []), (989, .invokevirtual 150, 200, []), (992, .aload_n 2, 0, []), (993, .aload_n 0, 0, []), (994, .iload_n 3, 0, []), (995, .iconst 1, 0, []), (996, .iadd, 0, []), (997, .iaload, 0, []), (998, .aload_n 0, 0, []), (999, .iload_n 3, 0, []), (1000, .iconst 2, 0, []), (1001, .iadd, 0, []), (1002, .iaload, 0, []), (1003, .invokevirtual 153, 349, []), (1006, .if_icmp .eq 143, 0, []), (1009, .iconst 0, 0, []), (1010, .ireturn, 0, []), (1011, .aload_n 1, 0, []), (1012, .aload_n 0, 0, []), (1013, .iload_n 3, 0, []), (1014, .iconst 1, 0, []), (1015, .iadd, 0, []), (1016, .iaload, 0, []), (1017, .aload_n 0, 0, []), (1018, .iload_n 3, 0, []), (1019, .iconst 2, 0, []), (1020, .iadd, 0, []), (1021, .iaload, 0, []), (1022, .invokevirtual 154, 202, []), (1025, .aload_n 2, 0, []), (1026, .aload_n 0, 0, []), (1027, .iload_n 3, 0, []), (1028, .iconst 1, 0, []), (1029, .iadd, 0, []), (1030, .iaload, 0, []), (1031, .aload_n 0, 0, []), (1032, .iload_n 3, 0, []), (1033, .iconst 2, 0, []), (1034, .iadd, 0, []), (1035, .iaload, 0, []), (1036, .invokevirtual 157, 356, []), (1039, .if_icmp .eq 110, 0, []), (1042, .iconst 0, 0, []), (1043, .ireturn, 0, []), (1044, .aload_n 1, 0, []), (1045, .aload_n 0, 0, []), (1046, .iload_n 3, 0, []), (1047, .iconst 1, 0, []), (1048, .iadd, 0, []), (1049, .iaload, 0, []), (1050, .invokevirtual 158, 206, []), (1053, .aload_n 2, 0, []), (1054, .aload_n 0, 0, []), (1055, .iload_n 3, 0, []), (1056, .iconst 1, 0, []), (1057, .iadd, 0, []), (1058, .iaload, 0, []), (1059, .invokevirtual 161, 359, []), (1062, .if_icmp .eq 87, 0, []), (1065, .iconst 0, 0, []), (1066, .ireturn, 0, []), (1067, .aload_n 1, 0, []), (1068, .aload_n 0, 0, []), (1069, .iload_n 3, 0, []), (1070, .iconst 1, 0, []), (1071, .iadd, 0, []), (1072, .iaload, 0, []), (1073, .invokevirtual 162, 207, []), (1076, .aload_n 2, 0, []), (1077, .aload_n 0, 0, []), (1078, .iload_n 3, 0, []), (1079, .iconst 1, 0, []), (1080, .iadd, 0, []), (1081, .iaload, 0, []), (1082, .invokevirtual 165, 221, []), (1085, .if_icmp .eq 64, 0, []), (1088, .iconst 0, 0, []), (1089, .ireturn, 0, []), (1090, .aload_n 1, 0, []), (1091, .aload_n 0, 0, []), (1092, .iload_n 3, 0, []), (1093, .iconst 1, 0, []), (1094, .iadd, 0, []), (1095, .iaload, 0, []), (1096, .invokevirtual 166, 216, []), (1099, .aload_n 2, 0, []), (1100, .aload_n 0, 0, []), (1101, .iload_n 3, 0, []), (1102, .iconst 1, 0, []), (1103, .iadd, 0, []), (1104, .iaload, 0, []), (1105, .invokevirtual 169, 225, []), (1108, .if_icmp .eq 41, 0, []), (1111, .iconst 0, 0, []), (1112, .ireturn, 0, []), (1113, .aload_n 1, 0, []), (1114, .aload_n 0, 0, []), (1115, .iload_n 3, 0, []), (1116, .iconst 1, 0, []), (1117, .iadd, 0, []), (1118, .iaload, 0, []), (1119, .invokevirtual 170, 217, []), (1122, .aload_n 2, 0, []), (1123, .aload_n 0, 0, []), (1124, .iload_n 3, 0, []), (1125, .iconst 1, 0, []), (1126, .iadd, 0, []), (1127, .iaload, 0, []), (1128, .invokevirtual 173, 360, []), (1131, .if_icmp .eq 18, 0, []), (1134, .iconst 0, 0, []), (1135, .ireturn, 0, []), (1136, .aload_n 1, 0, []), (1137, .invokevirtual 174, 218, []), (1140, .aload_n 2, 0, []), (1141, .invokevirtual 177, 361, []), (1144, .if_icmp .eq 5, 0, []), (1147, .iconst 0, 0, []), (1148, .ireturn, 0, []), (1149, .iinc 3 6, 0, []), (1152, .goto (-1134), 0, []), (1155, .iconst 1, 0, []), (1156, .ireturn, 0, [])]
def M_300 : xM := (10, 2, 1, 4, c_300)
def xprog : List xM := [M_0, M_1, M_2, M_3, M_4, M_5, M_6, M_7, M_8, M_9, M_10, M_11, M_12, M_13, M_14, M_15, M_16, M_17, M_18, M_19, M_20, M_21, M_22, M_23, M_24, M_25, M_26, M_27, M_28, M_29, M_30, M_31, M_32, M_33, M_34, M_35, M_36, M_37, M_38, M_39, M_40, M_41, M_42, M_43, M_44, M_45, M_46, M_47, M_48, M_49, M_50, M_51, M_52, M_53, M_54, M_55, M_56, M_57, M_58, M_59, M_60, M_61, M_62, M_63, M_64, M_65, M_66, M_67, M_68, M_69, M_70, M_71, M_72, M_73, M_74, M_75, M_76, M_77, M_78, M_79, M_80, M_81, M_82, M_83, M_84, M_85, M_86, M_87, M_88, M_89, M_90, M_91, M_92, M_93, M_94, M_95, M_96, M_97, M_98, M_99, M_100, M_101, M_102, M_103, M_104, M_105, M_106, M_107, M_108, M_109, M_110, M_111, M_112, M_113, M_114, M_115, M_116, M_117, M_118, M_119, M_120, M_121, M_122, M_123, M_124, M_125, M_126, M_127, M_128, M_129, M_130, M_131, M_132, M_133, M_134, M_135, M_136, M_137, M_138, M_139, M_140, M_141, M_142, M_143, M_144, M_145, M_146, M_147, M_148, M_149, M_150, M_151, M_152, M_153, M_154, M_155, M_156, M_157, M_158, M_159, M_160, M_161, M_162, M_163, M_164, M_165, M_166, M_167, M_168, M_169, M_170, M_171, M_172, M_173, M_174, M_175, M_176, M_177, M_178, M_179, M_180, M_181, M_182, M_183, M_184, M_185, M_186, M_187, M_188, M_189, M_190, M_191, M_192, M_193, M_194, M_195, M_196, M_197, M_198, M_199, M_200, M_201, M_202, M_203, M_204, M_205, M_206, M_207, M_208, M_209, M_210, M_211, M_212, M_213, M_214, M_215, M_216, M_217, M_218, M_219, M_220, M_221, M_222, M_223, M_224, M_225, M_226, M_227, M_228, M_229, M_230, M_231, M_232, M_233, M_234, M_235, M_236, M_237, M_238, M_239, M_240, M_241, M_242, M_243, M_244, M_245, M_246, M_247, M_248, M_249, M_250, M_251, M_252, M_253, M_254, M_255, M_256, M_257, M_258, M_259, M_260, M_261, M_262, M_263, M_264, M_265, M_266, M_267, M_268, M_269, M_270, M_271, M_272, M_273, M_274, M_275, M_276, M_277, M_278, M_279, M_280, M_281, M_282, M_283, M_284, M_285, M_286, M_287, M_288, M_289, M_290, M_291, M_292, M_293, M_294, M_295, M_296, M_297, M_298, M_299, M_300]
end
section
/-! ===== WHAT A RUN COMES TO: the abstract machine without its counter ===== -/
section XN
variable {β : Type}
def xdisp (go : Nat → List Value → List Value → xH → Option β) (cl : Nat → List Value → Nat → Nat → List Value → List Value → xH → Option β) (rn : Option Value → xH → Option β) : xN → Option β
  | .inl q => go q.1 q.2.1 q.2.2.1 q.2.2.2
  | .inr (.inl q) => cl q.1.1 q.1.2.1 q.1.2.2 q.2.1 q.2.2.1 q.2.2.2.1 q.2.2.2.2
  | .inr (.inr q) => rn q.1 q.2
abbrev xgo0 : Nat → List Value → List Value → xH → Option xN := fun pc ls st A => some (.inl (pc, ls, st, A))
abbrev xcl0 : Nat → List Value → Nat → Nat → List Value → List Value → xH → Option xN := fun mid args rk pc ls st A => some (.inr (.inl ((mid, args, rk), (pc, ls, st, A))))
abbrev xrn0 : Option Value → xH → Option xN := fun v A => some (.inr (.inr (v, A)))
variable (T : xT) (E : Nat × (Nat → Int32)) (own rt ini : Nat) (go : Nat → List Value → List Value → xH → Option β) (cl : Nat → List Value → Nat → Nat → List Value → List Value → xH → Option β) (rn : Option Value → xH → Option β)
theorem xn_inv (ik idx lk pc : Nat) (ls st : List Value) (A : xH) : xinv T own go cl ik idx lk pc ls st A = (xinv T own xgo0 xcl0 ik idx lk pc ls st A).bind (xdisp go cl rn) := by
  unfold xinv
  split
  · rfl
  · split
    · split <;> first
        | (split <;> first | rfl | (split <;> first | rfl | (simp only [Option.bind_assoc]; rfl)))
        | (split <;> first | rfl | (split <;> first | rfl))
    · rfl
theorem xn_sw (g : Nat → Option β) (g0 : Nat → Option xN) (h : ∀ q, g q = (g0 q).bind (xdisp go cl rn)) (pc dflt : Nat) (x : Int32) : ∀ (l : List Int) (c : Int), xsw g pc dflt x c l = (xsw g0 pc dflt x c l).bind (xdisp go cl rn)
  | [], c => h dflt
  | o :: l, c => by
    unfold xsw
    split
    · exact h _
    · exact xn_sw g g0 h pc dflt x l (c + 1)
theorem xn_ldA (v : Value) (k : Value → Option β) (k0 : Value → Option xN) (h : ∀ w, k w = (k0 w).bind (xdisp go cl rn)) : xldA v k = (xldA v k0).bind (xdisp go cl rn) := by
  unfold xldA
  split <;> first | exact h _ | rfl
theorem xn_ldI (v : Value) (k : Value → Option β) (k0 : Value → Option xN) (h : ∀ w, k w = (k0 w).bind (xdisp go cl rn)) : xldI v k = (xldI v k0).bind (xdisp go cl rn) := by
  unfold xldI
  split <;> first | exact h _ | rfl
theorem xn_ldL (v : Value) (k : Value → Option β) (k0 : Value → Option xN) (h : ∀ w, k w = (k0 w).bind (xdisp go cl rn)) : xldL v k = (xldL v k0).bind (xdisp go cl rn) := by
  unfold xldL
  split <;> first | exact h _ | rfl
theorem xn_st1 (ls : List Value) (i : Nat) (v : Value) (k : List Value → Option β) (k0 : List Value → Option xN) (h : ∀ w, k w = (k0 w).bind (xdisp go cl rn)) : xst1 ls i v k = (xst1 ls i v k0).bind (xdisp go cl rn) := by
  unfold xst1
  split
  · split
    · exact h _
    · split <;> first | exact h _ | rfl
  · rfl
theorem xn_st2 (ls : List Value) (i : Nat) (v : Value) (k : List Value → Option β) (k0 : List Value → Option xN) (h : ∀ w, k w = (k0 w).bind (xdisp go cl rn)) : xst2 ls i v k = (xst2 ls i v k0).bind (xdisp go cl rn) := by
  unfold xst2
  split
  · split
    · exact h _
    · split <;> first | exact h _ | rfl
  · rfl
theorem xn_icmp (c : ClassFile.Cond) (x y : Int32) (a b : Option β) (a0 b0 : Option xN) (h : a = a0.bind (xdisp go cl rn)) (h2 : b = b0.bind (xdisp go cl rn)) : xicmp c x y a b = (xicmp c x y a0 b0).bind (xdisp go cl rn) := by
  unfold xicmp
  split <;> split <;> assumption
theorem xn_get (lk idx pc : Nat) (ls st : List Value) (A : xH) : xget T own go lk idx pc ls st A = (xget T own xgo0 lk idx pc ls st A).bind (xdisp go cl rn) := by
  unfold xget
  split
  · rfl
  · split
    · split
      · split
        · simp only [Option.bind_assoc]; rfl
        · simp only [Option.bind_assoc]; rfl
        · simp only [Option.bind_assoc]
          congr 1
          funext q
          cases q <;> rfl
        · simp only [Option.bind_assoc]; rfl
      · rfl
    · rfl
theorem xn_put (lk idx pc : Nat) (ls st : List Value) (A : xH) : xput T own ini go lk idx pc ls st A = (xput T own ini xgo0 lk idx pc ls st A).bind (xdisp go cl rn) := by
  unfold xput
  split
  · rfl
  · split
    · split
      · split
        · split <;> first | rfl | (simp only [Option.bind_assoc]; rfl)
        · split
          · split <;> first | rfl | (simp only [Option.bind_assoc]; rfl)
          · rfl
        · split
          · split <;> first | rfl | (simp only [Option.bind_assoc]; rfl)
          · rfl
        · split <;> first | rfl | (simp only [Option.bind_assoc]; rfl)
        · rfl
      · rfl
    · rfl
theorem xn_newa (t : ArrayType) (pc : Nat) (ls st : List Value) (A : xH) : xnewa go t pc ls st A = (xnewa xgo0 t pc ls st A).bind (xdisp go cl rn) := by
  unfold xnewa
  split
  · split
    · rfl
    · split <;> rfl
  · rfl
theorem xn_bin (pc : Nat) (ls st : List Value) (A : xH) (f : Int32 → Int32 → Int32) : xbin go pc ls st A f = (xbin xgo0 pc ls st A f).bind (xdisp go cl rn) := by
  unfold xbin
  split <;> rfl
theorem xn_lbin (pc : Nat) (ls st : List Value) (A : xH) (f : Int64 → Int64 → Int64) : xlbin go pc ls st A f = (xlbin xgo0 pc ls st A f).bind (xdisp go cl rn) := by
  unfold xlbin
  split <;> rfl
theorem xn_binz (pc : Nat) (ls st : List Value) (A : xH) (f : Int32 → Int32 → Int32) : xbinz go pc ls st A f = (xbinz xgo0 pc ls st A f).bind (xdisp go cl rn) := by
  unfold xbinz
  split <;> first | rfl | (split <;> rfl)
theorem xn_lbinz (pc : Nat) (ls st : List Value) (A : xH) (f : Int64 → Int64 → Int64) : xlbinz go pc ls st A f = (xlbinz xgo0 pc ls st A f).bind (xdisp go cl rn) := by
  unfold xlbinz
  split <;> first | rfl | (split <;> rfl)
theorem xn_iald (t pc : Nat) (ls st : List Value) (A : xH) : xiald E go t pc ls st A = (xiald E xgo0 t pc ls st A).bind (xdisp go cl rn) := by
  unfold xiald
  split
  · simp only [Option.bind_assoc]; rfl
  · split
    · split <;> rfl
    · rfl
  · rfl
theorem xn_iast (t pc : Nat) (ls st : List Value) (A : xH) : xiast go t pc ls st A = (xiast xgo0 t pc ls st A).bind (xdisp go cl rn) := by
  unfold xiast
  split
  · simp only [Option.bind_assoc]; rfl
  · rfl
theorem xn_ldc (w lk idx pc : Nat) (ls st : List Value) (A : xH) : xldc T own go w lk idx pc ls st A = (xldc T own xgo0 w lk idx pc ls st A).bind (xdisp go cl rn) := by
  unfold xldc
  split
  · split <;> rfl
  · split
    · split <;> rfl
    · rfl
set_option maxHeartbeats 2000000 in
theorem xn_G (r : xR) (ls st : List Value) (A : xH) : xG T E own rt ini go cl rn r ls st A = (xeff T E own rt ini r ls st A).bind (xdisp go cl rn) := by
  obtain ⟨pc, ins, lk, dead⟩ := r
  unfold xeff
  cases ins <;> unfold xG <;> dsimp only <;> first
    | rfl
    | exact xn_inv ..
    | exact xn_get ..
    | exact xn_put ..
    | exact xn_newa ..
    | exact xn_bin ..
    | exact xn_lbin ..
    | exact xn_binz ..
    | exact xn_lbinz ..
    | exact xn_iald ..
    | exact xn_iast ..
    | exact xn_ldc ..
    | exact xn_ldA _ _ _ _ _ _ (fun _ => rfl)
    | exact xn_ldI _ _ _ _ _ _ (fun _ => rfl)
    | exact xn_ldL _ _ _ _ _ _ (fun _ => rfl)
    | (split <;> first
        | rfl
        | exact xn_icmp _ _ _ _ _ _ _ _ _ _ rfl rfl
        | exact xn_st1 _ _ _ _ _ _ _ _ (fun _ => rfl)
        | exact xn_st2 _ _ _ _ _ _ _ _ (fun _ => rfl)
        | exact xn_ldA _ _ _ _ _ _ (fun _ => xn_st1 _ _ _ _ _ _ _ _ (fun _ => rfl))
        | (refine xn_sw go cl rn _ _ ?_ _ _ _ _ _
           intro q
           rfl)
        | (simp only [Option.bind_assoc]; rfl)
        | (simp only [Option.bind_assoc]; congr 1; funext q; cases q <;> rfl)
        | (split <;> first
            | rfl
            | (simp only [Option.bind_assoc]; rfl)
            | (simp only [Option.bind_assoc]; congr 1; funext q; split <;> rfl)
            | (split <;> rfl)))
end XN
/-- one step, by its effect -/
def xon (P : List xM) (T : xT) (E : Nat × (Nat → Int32)) (call : Nat → List Value → xH → xO) (K : Nat → List Value → List Value → xH → xO) (m pc : Nat) (ls st : List Value) (A : xH) : xO := match P[m]? with
  | none => none
  | some M => match xfind M.2.2.2.2 pc with
    | none => none
    | some r => (xeff T E M.1 M.2.1 M.2.2.1 r (xmask r.2.2.2 ls) st A).bind (xdisp K (xcl call K) (fun v A => some (v, A)))
theorem xon_step {P : List xM} {T : xT} {E : Nat × (Nat → Int32)} {call : Nat → List Value → xH → xO} {K : Nat → List Value → List Value → xH → xO} {m pc : Nat} {ls st : List Value} {A : xH} {M : xM} (h : P[m]? = some M) : xstep T E call M K pc ls st A = xon P T E call K m pc ls st A := by
  unfold xstep xon
  rw [h]
  dsimp only
  cases xfind M.2.2.2.2 pc with
  | none => rfl
  | some r => exact xn_G ..
def xcallN (P : List xM) (T : xT) (E : Nat × (Nat → Int32)) (n d : Nat) : Nat → List Value → xH → xO := fun mid args B => match d with
  | 0 => none
  | e + 1 => xinto P mid args B fun l => xexec P T E n e mid 0 l [] B
theorem xexec_s (P : List xM) (T : xT) (E : Nat × (Nat → Int32)) (n d m pc : Nat) (ls st : List Value) (A : xH) : xexec P T E (n + 1) d m pc ls st A = xon P T E (xcallN P T E n d) (xexec P T E n d m) m pc ls st A := by
  show (match P[m]? with | none => none | some M => xstep T E _ M _ pc ls st A) = _
  cases h : P[m]? with
  | none => unfold xon; rw [h]
  | some M => exact xon_step h
/-- what a step needs of calls and of what goes on -/
theorem xcl_mono {c1 c2 : Nat → List Value → xH → xO} {K1 K2 : Nat → List Value → List Value → xH → xO} (hc : ∀ mid args B q, c1 mid args B = some q → c2 mid args B = some q) (hK : ∀ pc ls st A q, K1 pc ls st A = some q → K2 pc ls st A = some q) (mid : Nat) (args : List Value) (rk pc : Nat) (ls s : List Value) (A : xH) (q : Option Value × xH) (h : xcl c1 K1 mid args rk pc ls s A = some q) : xcl c2 K2 mid args rk pc ls s A = some q := by
  cases hq : c1 mid args A with
  | none =>
    unfold xcl at h
    split at h <;> rw [hq] at h <;> simp [xV, xI, xLo, xNn, xOp] at h
  | some w =>
    have hw := hc _ _ _ _ hq
    unfold xcl at h ⊢
    split at h <;> rw [hq] at h <;> rw [hw]
    all_goals
      obtain ⟨z, h1, h2⟩ := Option.bind_eq_some_iff.mp h
      rw [h1]
      first
        | exact hK _ _ _ _ _ h2
        | (obtain ⟨o, B⟩ := z
           cases o <;> exact hK _ _ _ _ _ h2)
theorem xcl_cont {cn : Nat → Nat → List Value → xH → xO} {Kn : Nat → Nat → List Value → List Value → xH → xO} {c : Nat → List Value → xH → xO} {K : Nat → List Value → List Value → xH → xO}
    (hcm : ∀ n k mid args B q, cn n mid args B = some q → cn (n + k) mid args B = some q) (hKm : ∀ n k pc ls st A q, Kn n pc ls st A = some q → Kn (n + k) pc ls st A = some q)
    (hc : ∀ mid args B q, c mid args B = some q → ∃ n, cn n mid args B = some q) (hK : ∀ pc ls st A q, K pc ls st A = some q → ∃ n, Kn n pc ls st A = some q) (mid : Nat) (args : List Value) (rk pc : Nat) (ls s : List Value) (A : xH) (q : Option Value × xH) (h : xcl c K mid args rk pc ls s A = some q) : ∃ n, xcl (cn n) (Kn n) mid args rk pc ls s A = some q := by
  cases hq : c mid args A with
  | none =>
    unfold xcl at h
    split at h <;> rw [hq] at h <;> simp [xV, xI, xLo, xNn, xOp] at h
  | some w =>
    obtain ⟨n1, hn1⟩ := hc _ _ _ _ hq
    have fin : ∀ (pc : Nat) (ls st : List Value) (B : xH), K pc ls st B = some q → ∃ n, cn n mid args A = some w ∧ Kn n pc ls st B = some q := by
      intro pc ls st B hB
      obtain ⟨n2, hn2⟩ := hK _ _ _ _ _ hB
      exact ⟨n1 + n2, hcm n1 n2 _ _ _ _ hn1, by rw [Nat.add_comm]; exact hKm n2 n1 _ _ _ _ _ hn2⟩
    unfold xcl at h
    split at h <;> rw [hq] at h
    all_goals
      obtain ⟨z, h1, h2⟩ := Option.bind_eq_some_iff.mp h
    · obtain ⟨n, a, b⟩ := fin _ _ _ _ h2
      exact ⟨n, by simp only [xcl]; rw [a, h1]; exact b⟩
    · obtain ⟨n, a, b⟩ := fin _ _ _ _ h2
      exact ⟨n, by simp only [xcl]; rw [a, h1]; exact b⟩
    · obtain ⟨n, a, b⟩ := fin _ _ _ _ h2
      exact ⟨n, by simp only [xcl]; rw [a, h1]; exact b⟩
    · obtain ⟨n, a, b⟩ := fin _ _ _ _ h2
      exact ⟨n, by simp only [xcl]; rw [a, h1]; exact b⟩
    · rename_i n0 n1' n2' n3'
      obtain ⟨o, B⟩ := z
      cases o with
      | none =>
        obtain ⟨n, a, b⟩ := fin _ _ _ _ h2
        refine ⟨n, ?_⟩
        unfold xcl
        split <;> first | contradiction | (rw [a, h1]; exact b)
      | some y =>
        obtain ⟨n, a, b⟩ := fin _ _ _ _ h2
        refine ⟨n, ?_⟩
        unfold xcl
        split <;> first | contradiction | (rw [a, h1]; exact b)
theorem xon_mono {P : List xM} {T : xT} {E : Nat × (Nat → Int32)} {c1 c2 : Nat → List Value → xH → xO} {K1 K2 : Nat → List Value → List Value → xH → xO} (hc : ∀ mid args B q, c1 mid args B = some q → c2 mid args B = some q) (hK : ∀ pc ls st A q, K1 pc ls st A = some q → K2 pc ls st A = some q) (m pc : Nat) (ls st : List Value) (A : xH) (q : Option Value × xH) (h : xon P T E c1 K1 m pc ls st A = some q) : xon P T E c2 K2 m pc ls st A = some q := by
  unfold xon at h ⊢
  split at h
  · cases h
  · split at h
    · cases h
    · obtain ⟨z, h1, h2⟩ := Option.bind_eq_some_iff.mp h
      rw [h1]
      obtain z | z | z := z
      · exact hK _ _ _ _ _ h2
      · exact xcl_mono hc hK _ _ _ _ _ _ _ _ h2
      · exact h2
theorem xon_cont {P : List xM} {T : xT} {E : Nat × (Nat → Int32)} {cn : Nat → Nat → List Value → xH → xO} {Kn : Nat → Nat → List Value → List Value → xH → xO} {c : Nat → List Value → xH → xO} {K : Nat → List Value → List Value → xH → xO}
    (hcm : ∀ n k mid args B q, cn n mid args B = some q → cn (n + k) mid args B = some q) (hKm : ∀ n k pc ls st A q, Kn n pc ls st A = some q → Kn (n + k) pc ls st A = some q)
    (hc : ∀ mid args B q, c mid args B = some q → ∃ n, cn n mid args B = some q) (hK : ∀ pc ls st A q, K pc ls st A = some q → ∃ n, Kn n pc ls st A = some q) (m pc : Nat) (ls st : List Value) (A : xH) (q : Option Value × xH) (h : xon P T E c K m pc ls st A = some q) : ∃ n, xon P T E (cn n) (Kn n) m pc ls st A = some q := by
  unfold xon at h ⊢
  split at h
  · cases h
  · split at h
    · cases h
    · obtain ⟨z, h1, h2⟩ := Option.bind_eq_some_iff.mp h
      rw [h1]
      obtain z | z | z := z
      · exact hK _ _ _ _ _ h2
      · exact xcl_cont hcm hKm hc hK _ _ _ _ _ _ _ _ h2
      · exact ⟨0, h2⟩
theorem xinto_mono {P : List xM} {mid : Nat} {args : List Value} {B : xH} {k1 k2 : List Value → xO} (h : ∀ l q, k1 l = some q → k2 l = some q) (q : Option Value × xH) (hq : xinto P mid args B k1 = some q) : xinto P mid args B k2 = some q := by
  unfold xinto at hq ⊢
  split at hq
  · cases hq
  · split at hq
    · rename_i h2; rw [if_pos h2]; exact h _ _ hq
    · cases hq
theorem xexec_1 (P : List xM) (T : xT) (E : Nat × (Nat → Int32)) : ∀ (n d m pc : Nat) (ls st : List Value) (A : xH) (q : Option Value × xH), xexec P T E n d m pc ls st A = some q → xexec P T E (n + 1) d m pc ls st A = some q
  | 0, _, _, _, _, _, _, _, h => by cases h
  | n + 1, d, m, pc, ls, st, A, q, h => by
    rw [xexec_s] at h ⊢
    refine xon_mono (fun mid args B w hw => ?_) (fun pc ls st A w hw => xexec_1 P T E n d m pc ls st A w hw) _ _ _ _ _ _ h
    unfold xcallN at hw ⊢
    cases d with
    | zero => cases hw
    | succ e => exact xinto_mono (fun l z hz => xexec_1 P T E n e mid 0 l [] B z hz) _ hw
theorem xexec_k (P : List xM) (T : xT) (E : Nat × (Nat → Int32)) (n k d m pc : Nat) (ls st : List Value) (A : xH) (q : Option Value × xH) (h : xexec P T E n d m pc ls st A = some q) : xexec P T E (n + k) d m pc ls st A = some q := by
  induction k with
  | zero => exact h
  | succ k ih => exact xexec_1 P T E _ d m pc ls st A q ih
/-- what a run from here comes to -/
noncomputable def xD (E : Nat × (Nat → Int32)) (d m pc : Nat) (ls st : List Value) (A : xH) : xO :=
  @dite xO (∃ q n, xexec xprog xtabs E n d m pc ls st A = some q) (Classical.propDecidable _) (fun h => some (Classical.choose h)) (fun _ => none)
theorem xD_iff {E : Nat × (Nat → Int32)} {d m pc : Nat} {ls st : List Value} {A : xH} {q : Option Value × xH} : xD E d m pc ls st A = some q ↔ ∃ n, xexec xprog xtabs E n d m pc ls st A = some q := by
  unfold xD
  by_cases h : ∃ q n, xexec xprog xtabs E n d m pc ls st A = some q
  · rw [dif_pos h]
    obtain ⟨n1, h1⟩ := Classical.choose_spec h
    constructor
    · intro e
      exact ⟨n1, by rw [h1]; exact e⟩
    · rintro ⟨n2, h2⟩
      have a := xexec_k _ _ _ n1 n2 _ _ _ _ _ _ _ h1
      have b := xexec_k _ _ _ n2 n1 _ _ _ _ _ _ _ h2
      rw [Nat.add_comm] at b
      exact a.symm.trans b
  · rw [dif_neg h]
    constructor
    · intro e; cases e
    · rintro ⟨n, e⟩; exact absurd ⟨q, n, e⟩ h
/-- a call -/
noncomputable def xC (E : Nat × (Nat → Int32)) (d mid : Nat) (args : List Value) (A : xH) : xO := xinto xprog mid args A fun l => xD E d mid 0 l [] A
noncomputable def xCD (E : Nat × (Nat → Int32)) (d : Nat) : Nat → List Value → xH → xO := fun mid args B => match d with
  | 0 => none
  | e + 1 => xC E e mid args B
theorem opt_ext {α : Type} {a b : Option α} (h : ∀ q, a = some q ↔ b = some q) : a = b := by
  cases a with
  | none =>
    cases b with
    | none => rfl
    | some y => exact absurd ((h y).mpr rfl) (by intro e; cases e)
  | some x => exact ((h x).mp rfl).symm
theorem xcallN_k {P : List xM} {T : xT} {E : Nat × (Nat → Int32)} (d n k mid : Nat) (args : List Value) (B : xH) (q : Option Value × xH) (h : xcallN P T E n d mid args B = some q) : xcallN P T E (n + k) d mid args B = some q := by
  unfold xcallN at h ⊢
  cases d with
  | zero => cases h
  | succ e => exact xinto_mono (fun l z hz => xexec_k P T E n k e mid 0 l [] B z hz) _ h
theorem xC_lim {E : Nat × (Nat → Int32)} {e mid : Nat} {args : List Value} {B : xH} {w : Option Value × xH} (hw : xC E e mid args B = some w) : ∃ n, xcallN xprog xtabs E n (e + 1) mid args B = some w := by
  unfold xC at hw
  cases hM : xprog[mid]? with
  | none => simp only [xinto, hM] at hw; cases hw
  | some M =>
    simp only [xinto, hM] at hw
    by_cases hr : xrecv M args B = true ∧ (xspread args).length ≤ M.2.2.2.1
    · rw [if_pos hr] at hw
      obtain ⟨n, hn⟩ := xD_iff.mp hw
      refine ⟨n, ?_⟩
      show xinto xprog mid args B (fun l => xexec xprog xtabs E n e mid 0 l [] B) = some w
      simp only [xinto, hM]
      rw [if_pos hr]
      exact hn
    · rw [if_neg hr] at hw
      cases hw
theorem xD_on (E : Nat × (Nat → Int32)) (d m pc : Nat) (ls st : List Value) (A : xH) : xD E d m pc ls st A = xon xprog xtabs E (xCD E d) (xD E d m) m pc ls st A := by
  refine opt_ext (fun q => ?_)
  constructor
  · intro h
    obtain ⟨n, hn⟩ := xD_iff.mp h
    cases n with
    | zero => cases hn
    | succ n =>
      rw [xexec_s] at hn
      refine xon_mono (fun mid args B w hw => ?_) (fun pc ls st A w hw => xD_iff.mpr ⟨n, hw⟩) _ _ _ _ _ _ hn
      unfold xcallN at hw
      unfold xCD
      cases d with
      | zero => cases hw
      | succ e => exact xinto_mono (fun l z hz => xD_iff.mpr ⟨n, hz⟩) _ hw
  · intro h
    obtain ⟨n, hn⟩ := xon_cont (cn := fun n => xcallN xprog xtabs E n d) (Kn := fun n => xexec xprog xtabs E n d m) (fun n k mid args B w hw => xcallN_k d n k mid args B w hw) (fun n k pc ls st A w hw => xexec_k _ _ _ n k d m pc ls st A w hw) (fun mid args B w hw => by
      unfold xCD at hw
      cases d with
      | zero => cases hw
      | succ e =>
        exact xC_lim hw) (fun pc ls st A w hw => xD_iff.mp hw) _ _ _ _ _ _ h
    exact xD_iff.mpr ⟨n + 1, by rw [xexec_s]; exact hn⟩
theorem xD_step (E : Nat × (Nat → Int32)) (d : Nat) {m : Nat} {M : xM} (h : xprog[m]? = some M) (pc : Nat) (ls st : List Value) (A : xH) : xD E (d + 1) m pc ls st A = xstep xtabs E (xC E d) M (xD E (d + 1) m) pc ls st A := by
  rw [xD_on, ← xon_step h]
  rfl
theorem xbex_ok (E : Nat × (Nat → Int32)) (d : Nat) {m : Nat} {M : xM} (h : xprog[m]? = some M) (stops : List Nat) : ∀ n, xbex xtabs E (xC E d) M (xD E (d + 1) m) stops n = xD E (d + 1) m
  | 0 => rfl
  | n + 1 => by
    funext pc ls st A
    rw [xD_step E d h]
    show xstep xtabs E (xC E d) M (fun pc ls st A => if stops.elem pc = true then xD E (d + 1) m pc ls st A else xbex xtabs E (xC E d) M (xD E (d + 1) m) stops n pc ls st A) pc ls st A = _
    rw [xbex_ok E d h stops n]
    congr 1
    funext pc ls st A
    split <;> rfl
/-- a block's equation: so many steps on, until the stops -/
theorem xD_bex (E : Nat × (Nat → Int32)) (d : Nat) {m : Nat} {M : xM} (h : xprog[m]? = some M) (stops : List Nat) (n pc : Nat) (ls st : List Value) (A : xH) : xD E (d + 1) m pc ls st A = xbex xtabs E (xC E d) M (xD E (d + 1) m) stops n pc ls st A := by
  rw [xbex_ok E d h stops n]
theorem xC_eq {E : Nat × (Nat → Int32)} {d mid : Nat} {args : List Value} {A : xH} {M : xM} (hM : xprog[mid]? = some M) (h : xrecv M args A = true) (hl : (xspread args).length ≤ M.2.2.2.1) : xC E d mid args A = xD E d mid 0 (xpad M.2.2.2.1 (xspread args)) [] A := by
  unfold xC xinto
  rw [hM]
  exact if_pos ⟨h, hl⟩
end
section
/-! ===== what each block does, an equation a block (printed by wip/whole/gen.py) ===== -/
-- History.init ()V
set_option maxRecDepth 100000 in
theorem h_0 : xprog[0]? = some M_0 := rfl
set_option maxRecDepth 100000 in
theorem e0_0 (E : Nat × (Nat → Int32)) (d : Nat) (r0 : Nat) (A : xH) : xD E (d + 1) 0 0 [.ref r0] [] A = (pF (A ++ [.inl (5, 16, .inr (.inr fun _ => none))]) r0 0 0 (.ref A.length)).bind fun A1 => (pF (A1 ++ [.inl (0, 16, .inl fun _ => 0)]) r0 0 1 (.ref A1.length)).bind fun A2 => (pF A2 r0 0 2 (.null)).bind fun A3 => (pF A3 r0 0 3 (.int (0 : Int32))).bind fun A4 => some (none, A4) := (xD_bex E d h_0 [] 90 0 _ _ _).trans rfl
-- History.clear ()V
set_option maxRecDepth 100000 in
theorem h_1 : xprog[1]? = some M_1 := rfl
set_option maxRecDepth 100000 in
theorem e1_0 (E : Nat × (Nat → Int32)) (d : Nat) (r0 : Nat) (A : xH) : xD E (d + 1) 1 0 [.ref r0] [] A = (pF A r0 0 3 (.int (0 : Int32))).bind fun A1 => some (none, A1) := (xD_bex E d h_1 [] 90 0 _ _ _).trans rfl
-- History.prepare (LTwinBuckets$Store;)V
set_option maxRecDepth 100000 in
theorem h_2 : xprog[2]? = some M_2 := rfl
set_option maxRecDepth 100000 in
theorem e2_0 (E : Nat × (Nat → Int32)) (d : Nat) (r0 : Nat) (r1 : Nat) (A : xH) : xD E (d + 1) 2 0 [.ref r0, .ref r1] [] A = (gO A r0 0 2).bind fun q1 => (match q1 with | none => (xV (xC E d 40 [.ref A.length] (A ++ [.inr (5, [.null, .null, .null, .null, .int 0, .int 0, .int 0, .int 0])]))).bind fun A2 => (pF A2 r0 0 2 (.ref A.length)).bind fun A3 => (gO A3 r0 0 2).bind fun q4 => (match q4 with | none => (xV (xC E d 42 [.null, .ref r1] A3)).bind fun A5 => some (none, A5) | some bq4 => (xV (xC E d 42 [.ref bq4, .ref r1] A3)).bind fun A6 => some (none, A6)) | some bq1 => (gO A r0 0 2).bind fun q7 => (match q7 with | none => (xV (xC E d 42 [.null, .ref r1] A)).bind fun A8 => some (none, A8) | some bq7 => (xV (xC E d 42 [.ref bq7, .ref r1] A)).bind fun A9 => some (none, A9))) := (xD_bex E d h_2 [] 90 0 _ _ _).trans rfl
-- History.commit (I)V
set_option maxRecDepth 100000 in
theorem h_3 : xprog[3]? = some M_3 := rfl
set_option maxRecDepth 100000 in
theorem e3_0 (E : Nat × (Nat → Int32)) (d : Nat) (r0 : Nat) (i1 : Int32) (A : xH) : xD E (d + 1) 3 0 [.ref r0, .int i1] [] A = (gO A r0 0 2).bind fun q1 => (match q1 with | none => (xOp (xC E d 4 [.ref r0, .null, .int i1] A)).bind fun q2 => (match q2.1 with | none => (pF q2.2 r0 0 2 (.null)).bind fun A3 => some (none, A3) | some bq2 => (pF q2.2 r0 0 2 (.ref bq2)).bind fun A4 => some (none, A4)) | some bq1 => (xOp (xC E d 4 [.ref r0, .ref bq1, .int i1] A)).bind fun q5 => (match q5.1 with | none => (pF q5.2 r0 0 2 (.null)).bind fun A6 => some (none, A6) | some bq5 => (pF q5.2 r0 0 2 (.ref bq5)).bind fun A7 => some (none, A7))) := (xD_bex E d h_3 [] 90 0 _ _ _).trans rfl
-- History.keep (LTwinBuckets$Store;I)LTwinBuckets$Store;
set_option maxRecDepth 100000 in
theorem h_4 : xprog[4]? = some M_4 := rfl
set_option maxRecDepth 100000 in
theorem e4_0 (E : Nat × (Nat → Int32)) (d : Nat) (r0 : Nat) (r1 : Nat) (i2 : Int32) (A : xH) : xD E (d + 1) 4 0 [.ref r0, .ref r1, .int i2, xJ, xJ] [] A = (gN A r0 0 0).bind fun n1 => (gI A r0 0 3).bind fun x2 => if x2 = (16 : Int32) then (aR 5 A n1 (0 : Int32)).bind fun q3 => (match q3 with | none => (gI A r0 0 3).bind fun x4 => if x4 = (16 : Int32) then xD E (d + 1) 4 35 [.ref r0, .ref r1, .int i2, .null, .int (1 : Int32)] [] A else xD E (d + 1) 4 90 [.ref r0, .ref r1, .int i2, .null, xJ] [] A | some bq3 => (gI A r0 0 3).bind fun x5 => if x5 = (16 : Int32) then xD E (d + 1) 4 35 [.ref r0, .ref r1, .int i2, .ref bq3, .int (1 : Int32)] [] A else xD E (d + 1) 4 90 [.ref r0, .ref r1, .int i2, .ref bq3, xJ] [] A) else (gI A r0 0 3).bind fun x6 => (aR 5 A n1 x6).bind fun q7 => (match q7 with | none => (gI A r0 0 3).bind fun x8 => if x8 = (16 : Int32) then xD E (d + 1) 4 35 [.ref r0, .ref r1, .int i2, .null, .int (1 : Int32)] [] A else xD E (d + 1) 4 90 [.ref r0, .ref r1, .int i2, .null, xJ] [] A | some bq7 => (gI A r0 0 3).bind fun x9 => if x9 = (16 : Int32) then xD E (d + 1) 4 35 [.ref r0, .ref r1, .int i2, .ref bq7, .int (1 : Int32)] [] A else xD E (d + 1) 4 90 [.ref r0, .ref r1, .int i2, .ref bq7, xJ] [] A) := (xD_bex E d h_4 [35, 90] 90 0 _ _ _).trans rfl
set_option maxRecDepth 100000 in
theorem e4_35a (E : Nat × (Nat → Int32)) (d : Nat) (r0 : Nat) (r1 : Nat) (i2 : Int32) (r3 : Nat) (i4 : Int32) (A : xH) : xD E (d + 1) 4 35 [.ref r0, .ref r1, .int i2, .ref r3, .int i4] [] A = if (16 : Int32) ≤ i4 then (gI A r0 0 3).bind fun x1 => (pF A r0 0 3 (.int (x1 - (1 : Int32)))).bind fun A2 => xD E (d + 1) 4 90 [.ref r0, .ref r1, .int i2, .ref r3, .int i4] [] A2 else (gN A r0 0 0).bind fun n3 => (gN A r0 0 0).bind fun n4 => (aR 5 A n4 i4).bind fun q5 => (match q5 with | none => (sR 5 A n3 (i4 - (1 : Int32)) none).bind fun A6 => (gN A6 r0 0 1).bind fun n7 => (gN A6 r0 0 1).bind fun n8 => (aI 0 A6 n8 i4).bind fun x9 => (sI 0 A6 n7 (i4 - (1 : Int32)) x9).bind fun A10 => xD E (d + 1) 4 35 [.ref r0, .ref r1, .int i2, .ref r3, .int (i4 + (1 : Int32))] [] A10 | some bq5 => (sR 5 A n3 (i4 - (1 : Int32)) (some bq5)).bind fun A11 => (gN A11 r0 0 1).bind fun n12 => (gN A11 r0 0 1).bind fun n13 => (aI 0 A11 n13 i4).bind fun x14 => (sI 0 A11 n12 (i4 - (1 : Int32)) x14).bind fun A15 => xD E (d + 1) 4 35 [.ref r0, .ref r1, .int i2, .ref r3, .int (i4 + (1 : Int32))] [] A15) := (xD_bex E d h_4 [35, 90] 90 35 _ _ _).trans rfl
set_option maxRecDepth 100000 in
theorem e4_35b (E : Nat × (Nat → Int32)) (d : Nat) (r0 : Nat) (r1 : Nat) (i2 : Int32) (i4 : Int32) (A : xH) : xD E (d + 1) 4 35 [.ref r0, .ref r1, .int i2, .null, .int i4] [] A = if (16 : Int32) ≤ i4 then (gI A r0 0 3).bind fun x1 => (pF A r0 0 3 (.int (x1 - (1 : Int32)))).bind fun A2 => xD E (d + 1) 4 90 [.ref r0, .ref r1, .int i2, .null, .int i4] [] A2 else (gN A r0 0 0).bind fun n3 => (gN A r0 0 0).bind fun n4 => (aR 5 A n4 i4).bind fun q5 => (match q5 with | none => (sR 5 A n3 (i4 - (1 : Int32)) none).bind fun A6 => (gN A6 r0 0 1).bind fun n7 => (gN A6 r0 0 1).bind fun n8 => (aI 0 A6 n8 i4).bind fun x9 => (sI 0 A6 n7 (i4 - (1 : Int32)) x9).bind fun A10 => xD E (d + 1) 4 35 [.ref r0, .ref r1, .int i2, .null, .int (i4 + (1 : Int32))] [] A10 | some bq5 => (sR 5 A n3 (i4 - (1 : Int32)) (some bq5)).bind fun A11 => (gN A11 r0 0 1).bind fun n12 => (gN A11 r0 0 1).bind fun n13 => (aI 0 A11 n13 i4).bind fun x14 => (sI 0 A11 n12 (i4 - (1 : Int32)) x14).bind fun A15 => xD E (d + 1) 4 35 [.ref r0, .ref r1, .int i2, .null, .int (i4 + (1 : Int32))] [] A15) := (xD_bex E d h_4 [35, 90] 90 35 _ _ _).trans rfl
set_option maxRecDepth 100000 in
theorem e4_90a (E : Nat × (Nat → Int32)) (d : Nat) (r0 : Nat) (r1 : Nat) (i2 : Int32) (r3 : Nat) (w4 : Value) (A : xH) : xD E (d + 1) 4 90 [.ref r0, .ref r1, .int i2, .ref r3, w4] [] A = (gN A r0 0 0).bind fun n1 => (gI A r0 0 3).bind fun x2 => (sR 5 A n1 x2 (some r1)).bind fun A3 => (gN A3 r0 0 1).bind fun n4 => (gI A3 r0 0 3).bind fun x5 => (sI 0 A3 n4 x5 i2).bind fun A6 => (gI A6 r0 0 3).bind fun x7 => (pF A6 r0 0 3 (.int (x7 + (1 : Int32)))).bind fun A8 => some (some (.ref r3), A8) := (xD_bex E d h_4 [35, 90] 90 90 _ _ _).trans rfl
set_option maxRecDepth 100000 in
theorem e4_90b (E : Nat × (Nat → Int32)) (d : Nat) (r0 : Nat) (r1 : Nat) (i2 : Int32) (w4 : Value) (A : xH) : xD E (d + 1) 4 90 [.ref r0, .ref r1, .int i2, .null, w4] [] A = (gN A r0 0 0).bind fun n1 => (gI A r0 0 3).bind fun x2 => (sR 5 A n1 x2 (some r1)).bind fun A3 => (gN A3 r0 0 1).bind fun n4 => (gI A3 r0 0 3).bind fun x5 => (sI 0 A3 n4 x5 i2).bind fun A6 => (gI A6 r0 0 3).bind fun x7 => (pF A6 r0 0 3 (.int (x7 + (1 : Int32)))).bind fun A8 => some (some (.null), A8) := (xD_bex E d h_4 [35, 90] 90 90 _ _ _).trans rfl
-- History.takeOver (LTwinBuckets$History;)V
set_option maxRecDepth 100000 in
theorem h_5 : xprog[5]? = some M_5 := rfl
set_option maxRecDepth 100000 in
theorem e5_0 (E : Nat × (Nat → Int32)) (d : Nat) (r0 : Nat) (r1 : Nat) (A : xH) : xD E (d + 1) 5 0 [.ref r0, .ref r1, xJ] [] A = xD E (d + 1) 5 2 [.ref r0, .ref r1, .int (0 : Int32)] [] A := (xD_bex E d h_5 [2] 90 0 _ _ _).trans rfl
set_option maxRecDepth 100000 in
theorem e5_2 (E : Nat × (Nat → Int32)) (d : Nat) (r0 : Nat) (r1 : Nat) (i2 : Int32) (A : xH) : xD E (d + 1) 5 2 [.ref r0, .ref r1, .int i2] [] A = (gI A r1 0 3).bind fun x1 => if x1 ≤ i2 then (pF A r1 0 3 (.int (0 : Int32))).bind fun A2 => some (none, A2) else (gN A r1 0 0).bind fun n3 => (gN A r1 0 0).bind fun n4 => (aR 5 A n4 i2).bind fun q5 => (match q5 with | none => (gN A r1 0 1).bind fun n6 => (aI 0 A n6 i2).bind fun x7 => (xOp (xC E d 4 [.ref r0, .null, .int x7] A)).bind fun q8 => (match q8.1 with | none => (sR 5 q8.2 n3 i2 none).bind fun A9 => xD E (d + 1) 5 2 [.ref r0, .ref r1, .int (i2 + (1 : Int32))] [] A9 | some bq8 => (sR 5 q8.2 n3 i2 (some bq8)).bind fun A10 => xD E (d + 1) 5 2 [.ref r0, .ref r1, .int (i2 + (1 : Int32))] [] A10) | some bq5 => (gN A r1 0 1).bind fun n11 => (aI 0 A n11 i2).bind fun x12 => (xOp (xC E d 4 [.ref r0, .ref bq5, .int x12] A)).bind fun q13 => (match q13.1 with | none => (sR 5 q13.2 n3 i2 none).bind fun A14 => xD E (d + 1) 5 2 [.ref r0, .ref r1, .int (i2 + (1 : Int32))] [] A14 | some bq13 => (sR 5 q13.2 n3 i2 (some bq13)).bind fun A15 => xD E (d + 1) 5 2 [.ref r0, .ref r1, .int (i2 + (1 : Int32))] [] A15)) := (xD_bex E d h_5 [2] 90 2 _ _ _).trans rfl
-- History.takeBack (LTwinBuckets$Store;)I
set_option maxRecDepth 100000 in
theorem h_6 : xprog[6]? = some M_6 := rfl
set_option maxRecDepth 100000 in
theorem e6_0 (E : Nat × (Nat → Int32)) (d : Nat) (r0 : Nat) (r1 : Nat) (A : xH) : xD E (d + 1) 6 0 [.ref r0, .ref r1] [] A = (gI A r0 0 3).bind fun x1 => if x1 = 0 then some (some (.int (-1 : Int32)), A) else (gN A r0 0 0).bind fun n2 => (gI A r0 0 3).bind fun x3 => (aR 5 A n2 (x3 - (1 : Int32))).bind fun q4 => (match q4 with | none => some (some (.int (-1 : Int32)), A) | some bq4 => (gI A r0 0 3).bind fun x5 => (pF A r0 0 3 (.int (x5 - (1 : Int32)))).bind fun A6 => (gN A6 r0 0 0).bind fun n7 => (gI A6 r0 0 3).bind fun x8 => (aR 5 A6 n7 x8).bind fun q9 => (match q9 with | none => (xV (xC E d 42 [.ref r1, .null] A6)).bind fun A10 => (gN A10 r0 0 1).bind fun n11 => (gI A10 r0 0 3).bind fun x12 => (aI 0 A10 n11 x12).bind fun x13 => some (some (.int x13), A10) | some bq9 => (xV (xC E d 42 [.ref r1, .ref bq9] A6)).bind fun A14 => (gN A14 r0 0 1).bind fun n15 => (gI A14 r0 0 3).bind fun x16 => (aI 0 A14 n15 x16).bind fun x17 => some (some (.int x17), A14))) := (xD_bex E d h_6 [] 90 0 _ _ _).trans rfl
-- Image.init ()V
set_option maxRecDepth 100000 in
theorem h_7 : xprog[7]? = some M_7 := rfl
set_option maxRecDepth 100000 in
theorem e7_0 (E : Nat × (Nat → Int32)) (d : Nat) (r0 : Nat) (A : xH) : xD E (d + 1) 7 0 [.ref r0] [] A = xD E (d + 1) 7 8 [.ref r0] [.ref A.length, .ref r0] (A ++ [.inr (5, [.null, .null, .null, .null, .int 0, .int 0, .int 0, .int 0])]) := (xD_bex E d h_7 [8, 19, 30] 90 0 _ _ _).trans rfl
set_option maxRecDepth 100000 in
theorem e7_8 (E : Nat × (Nat → Int32)) (d : Nat) (r0 : Nat) (s0 : Nat) (s1 : Nat) (A : xH) : xD E (d + 1) 7 8 [.ref r0] [.ref s1, .ref s0] A = (xV (xC E d 40 [.ref s1] A)).bind fun A1 => (pF A1 s0 1 0 (.ref s1)).bind fun A2 => xD E (d + 1) 7 19 [.ref r0] [.ref A2.length, .ref r0] (A2 ++ [.inr (3, [.null, .null, .null, .int 0, .int 0, .int 0, .int 0, .int 0])]) := (xD_bex E d h_7 [8, 19, 30] 90 8 _ _ _).trans rfl
set_option maxRecDepth 100000 in
theorem e7_19 (E : Nat × (Nat → Int32)) (d : Nat) (r0 : Nat) (s0 : Nat) (s1 : Nat) (A : xH) : xD E (d + 1) 7 19 [.ref r0] [.ref s1, .ref s0] A = (xV (xC E d 26 [.ref s1] A)).bind fun A1 => (pF A1 s0 1 1 (.ref s1)).bind fun A2 => xD E (d + 1) 7 30 [.ref r0] [.ref A2.length, .ref r0] (A2 ++ [.inr (4, [.null, .null, .int 0])]) := (xD_bex E d h_7 [8, 19, 30] 90 19 _ _ _).trans rfl
set_option maxRecDepth 100000 in
theorem e7_30 (E : Nat × (Nat → Int32)) (d : Nat) (w0 : Value) (s0 : Nat) (s1 : Nat) (A : xH) : xD E (d + 1) 7 30 [w0] [.ref s1, .ref s0] A = (xV (xC E d 35 [.ref s1] A)).bind fun A1 => (pF A1 s0 1 2 (.ref s1)).bind fun A2 => some (none, A2) := (xD_bex E d h_7 [8, 19, 30] 90 30 _ _ _).trans rfl
-- Pages.init ()V
set_option maxRecDepth 100000 in
theorem h_8 : xprog[8]? = some M_8 := rfl
set_option maxRecDepth 100000 in
theorem e8_0 (E : Nat × (Nat → Int32)) (d : Nat) (r0 : Nat) (A : xH) : xD E (d + 1) 8 0 [.ref r0] [] A = (pF (A ++ [.inl (0, 240, .inl fun _ => 0)]) r0 2 0 (.ref A.length)).bind fun A1 => some (none, A1) := (xD_bex E d h_8 [] 90 0 _ _ _).trans rfl
-- Pages.copyFrom (LTwinBuckets$Pages;)V
set_option maxRecDepth 100000 in
theorem h_9 : xprog[9]? = some M_9 := rfl
set_option maxRecDepth 100000 in
theorem e9_0 (E : Nat × (Nat → Int32)) (d : Nat) (r0 : Nat) (r1 : Nat) (A : xH) : xD E (d + 1) 9 0 [.ref r0, .ref r1] [] A = (gN A r1 2 0).bind fun n1 => (gN A r0 2 0).bind fun n2 => (gN A r0 2 0).bind fun n3 => (lA A n3).bind fun x4 => (xcopy A n1 (0 : Int32) n2 (0 : Int32) x4).bind fun A5 => some (none, A5) := (xD_bex E d h_9 [] 90 0 _ _ _).trans rfl
-- Pages.tell (II)I
set_option maxRecDepth 100000 in
theorem h_10 : xprog[10]? = some M_10 := rfl
set_option maxRecDepth 100000 in
theorem e10_0 (E : Nat × (Nat → Int32)) (d : Nat) (r0 : Nat) (i1 : Int32) (i2 : Int32) (A : xH) : xD E (d + 1) 10 0 [.ref r0, .int i1, .int i2] [] A = (xI (xC E d 140 [.int i1] A)).bind fun q1 => if q1.1 = 0 then some (some (.int (-1 : Int32)), q1.2) else if i2 < 0 then some (some (.int (-1 : Int32)), q1.2) else if i2 < (10 : Int32) then if i2 = 0 then (gN q1.2 r0 2 0).bind fun n2 => (aI 0 q1.2 n2 ((i1 * (10 : Int32)) + (0 : Int32))).bind fun x3 => some (some (.int x3), q1.2) else (xI (xC E d 11 [.ref r0, .int i1] q1.2)).bind fun q4 => if q4.1 = 0 then some (some (.int (-1 : Int32)), q4.2) else if i2 < (4 : Int32) then (gN q4.2 r0 2 0).bind fun n5 => (aI 0 q4.2 n5 ((i1 * (10 : Int32)) + i2)).bind fun x6 => some (some (.int x6), q4.2) else (xI (xC E d 14 [.ref r0, .int i1] q4.2)).bind fun q7 => if (xrem (i2 - (4 : Int32)) (3 : Int32)) < q7.1 then (gN q7.2 r0 2 0).bind fun n8 => (aI 0 q7.2 n8 ((i1 * (10 : Int32)) + i2)).bind fun x9 => some (some (.int x9), q7.2) else some (some (.int (-1 : Int32)), q7.2) else some (some (.int (-1 : Int32)), q1.2) := (xD_bex E d h_10 [] 90 0 _ _ _).trans rfl
-- Pages.isUsed (I)Z
set_option maxRecDepth 100000 in
theorem h_11 : xprog[11]? = some M_11 := rfl
set_option maxRecDepth 100000 in
theorem e11_0 (E : Nat × (Nat → Int32)) (d : Nat) (r0 : Nat) (i1 : Int32) (A : xH) : xD E (d + 1) 11 0 [.ref r0, .int i1] [] A = (gN A r0 2 0).bind fun n1 => (aI 0 A n1 ((i1 * (10 : Int32)) + (0 : Int32))).bind fun x2 => if x2 = 0 then some (some (.int (0 : Int32)), A) else some (some (.int (1 : Int32)), A) := (xD_bex E d h_11 [] 90 0 _ _ _).trans rfl
-- Pages.depth (I)I
set_option maxRecDepth 100000 in
theorem h_12 : xprog[12]? = some M_12 := rfl
set_option maxRecDepth 100000 in
theorem e12_0 (E : Nat × (Nat → Int32)) (d : Nat) (r0 : Nat) (i1 : Int32) (A : xH) : xD E (d + 1) 12 0 [.ref r0, .int i1] [] A = (gN A r0 2 0).bind fun n1 => (aI 0 A n1 ((i1 * (10 : Int32)) + (1 : Int32))).bind fun x2 => some (some (.int x2), A) := (xD_bex E d h_12 [] 90 0 _ _ _).trans rfl
-- Pages.prefix (I)I
set_option maxRecDepth 100000 in
theorem h_13 : xprog[13]? = some M_13 := rfl
set_option maxRecDepth 100000 in
theorem e13_0 (E : Nat × (Nat → Int32)) (d : Nat) (r0 : Nat) (i1 : Int32) (A : xH) : xD E (d + 1) 13 0 [.ref r0, .int i1] [] A = (gN A r0 2 0).bind fun n1 => (aI 0 A n1 ((i1 * (10 : Int32)) + (2 : Int32))).bind fun x2 => some (some (.int x2), A) := (xD_bex E d h_13 [] 90 0 _ _ _).trans rfl
-- Pages.many (I)I
set_option maxRecDepth 100000 in
theorem h_14 : xprog[14]? = some M_14 := rfl
set_option maxRecDepth 100000 in
theorem e14_0 (E : Nat × (Nat → Int32)) (d : Nat) (r0 : Nat) (i1 : Int32) (A : xH) : xD E (d + 1) 14 0 [.ref r0, .int i1] [] A = (gN A r0 2 0).bind fun n1 => (aI 0 A n1 ((i1 * (10 : Int32)) + (3 : Int32))).bind fun x2 => some (some (.int x2), A) := (xD_bex E d h_14 [] 90 0 _ _ _).trans rfl
-- Pages.keyAt (II)I
set_option maxRecDepth 100000 in
theorem h_15 : xprog[15]? = some M_15 := rfl
set_option maxRecDepth 100000 in
theorem e15_0 (E : Nat × (Nat → Int32)) (d : Nat) (r0 : Nat) (i1 : Int32) (i2 : Int32) (A : xH) : xD E (d + 1) 15 0 [.ref r0, .int i1, .int i2] [] A = (gN A r0 2 0).bind fun n1 => (aI 0 A n1 (((i1 * (10 : Int32)) + (4 : Int32)) + i2)).bind fun x2 => some (some (.int x2), A) := (xD_bex E d h_15 [] 90 0 _ _ _).trans rfl
-- Pages.valueAt (II)I
set_option maxRecDepth 100000 in
theorem h_16 : xprog[16]? = some M_16 := rfl
set_option maxRecDepth 100000 in
theorem e16_0 (E : Nat × (Nat → Int32)) (d : Nat) (r0 : Nat) (i1 : Int32) (i2 : Int32) (A : xH) : xD E (d + 1) 16 0 [.ref r0, .int i1, .int i2] [] A = (gN A r0 2 0).bind fun n1 => (aI 0 A n1 (((i1 * (10 : Int32)) + (7 : Int32)) + i2)).bind fun x2 => some (some (.int x2), A) := (xD_bex E d h_16 [] 90 0 _ _ _).trans rfl
-- Pages.setValue (III)V
set_option maxRecDepth 100000 in
theorem h_17 : xprog[17]? = some M_17 := rfl
set_option maxRecDepth 100000 in
theorem e17_0 (E : Nat × (Nat → Int32)) (d : Nat) (r0 : Nat) (i1 : Int32) (i2 : Int32) (i3 : Int32) (A : xH) : xD E (d + 1) 17 0 [.ref r0, .int i1, .int i2, .int i3] [] A = (gN A r0 2 0).bind fun n1 => (sI 0 A n1 (((i1 * (10 : Int32)) + (7 : Int32)) + i2) i3).bind fun A2 => some (none, A2) := (xD_bex E d h_17 [] 90 0 _ _ _).trans rfl
-- Pages.setPlace (III)V
set_option maxRecDepth 100000 in
theorem h_18 : xprog[18]? = some M_18 := rfl
set_option maxRecDepth 100000 in
theorem e18_0 (E : Nat × (Nat → Int32)) (d : Nat) (r0 : Nat) (i1 : Int32) (i2 : Int32) (i3 : Int32) (A : xH) : xD E (d + 1) 18 0 [.ref r0, .int i1, .int i2, .int i3] [] A = (gN A r0 2 0).bind fun n1 => (sI 0 A n1 ((i1 * (10 : Int32)) + (0 : Int32)) (1 : Int32)).bind fun A2 => (gN A2 r0 2 0).bind fun n3 => (sI 0 A2 n3 ((i1 * (10 : Int32)) + (1 : Int32)) i2).bind fun A4 => (gN A4 r0 2 0).bind fun n5 => (sI 0 A4 n5 ((i1 * (10 : Int32)) + (2 : Int32)) i3).bind fun A6 => some (none, A6) := (xD_bex E d h_18 [] 90 0 _ _ _).trans rfl
-- Pages.clear (I)V
set_option maxRecDepth 100000 in
theorem h_19 : xprog[19]? = some M_19 := rfl
set_option maxRecDepth 100000 in
theorem e19_0 (E : Nat × (Nat → Int32)) (d : Nat) (r0 : Nat) (i1 : Int32) (A : xH) : xD E (d + 1) 19 0 [.ref r0, .int i1] [] A = (gN A r0 2 0).bind fun n1 => (xV (xC E d 298 [.ref n1, .int (i1 * (10 : Int32)), .int ((i1 * (10 : Int32)) + (10 : Int32)), .int (0 : Int32)] A)).bind fun A2 => some (none, A2) := (xD_bex E d h_19 [] 90 0 _ _ _).trans rfl
-- Pages.find (II)I
set_option maxRecDepth 100000 in
theorem h_20 : xprog[20]? = some M_20 := rfl
set_option maxRecDepth 100000 in
theorem e20_0 (E : Nat × (Nat → Int32)) (d : Nat) (r0 : Nat) (i1 : Int32) (i2 : Int32) (A : xH) : xD E (d + 1) 20 0 [.ref r0, .int i1, .int i2, xJ] [] A = xD E (d + 1) 20 2 [.ref r0, .int i1, .int i2, .int (0 : Int32)] [] A := (xD_bex E d h_20 [2] 90 0 _ _ _).trans rfl
set_option maxRecDepth 100000 in
theorem e20_2 (E : Nat × (Nat → Int32)) (d : Nat) (r0 : Nat) (i1 : Int32) (i2 : Int32) (i3 : Int32) (A : xH) : xD E (d + 1) 20 2 [.ref r0, .int i1, .int i2, .int i3] [] A = (xI (xC E d 14 [.ref r0, .int i1] A)).bind fun q1 => if q1.1 ≤ i3 then some (some (.int (-1 : Int32)), q1.2) else (xI (xC E d 15 [.ref r0, .int i1, .int i3] q1.2)).bind fun q2 => if q2.1 = i2 then some (some (.int i3), q2.2) else xD E (d + 1) 20 2 [.ref r0, .int i1, .int i2, .int (i3 + (1 : Int32))] [] q2.2 := (xD_bex E d h_20 [2] 90 2 _ _ _).trans rfl
-- Pages.append (III)V
set_option maxRecDepth 100000 in
theorem h_21 : xprog[21]? = some M_21 := rfl
set_option maxRecDepth 100000 in
theorem e21_0 (E : Nat × (Nat → Int32)) (d : Nat) (r0 : Nat) (i1 : Int32) (i2 : Int32) (i3 : Int32) (A : xH) : xD E (d + 1) 21 0 [.ref r0, .int i1, .int i2, .int i3, xJ] [] A = (xI (xC E d 14 [.ref r0, .int i1] A)).bind fun q1 => if (3 : Int32) ≤ q1.1 then some (none, q1.2) else (gN q1.2 r0 2 0).bind fun n2 => (sI 0 q1.2 n2 (((i1 * (10 : Int32)) + (4 : Int32)) + q1.1) i2).bind fun A3 => (gN A3 r0 2 0).bind fun n4 => (sI 0 A3 n4 (((i1 * (10 : Int32)) + (7 : Int32)) + q1.1) i3).bind fun A5 => (gN A5 r0 2 0).bind fun n6 => (sI 0 A5 n6 ((i1 * (10 : Int32)) + (3 : Int32)) (q1.1 + (1 : Int32))).bind fun A7 => some (none, A7) := (xD_bex E d h_21 [] 90 0 _ _ _).trans rfl
-- Pages.removeAt (II)V
set_option maxRecDepth 100000 in
theorem h_22 : xprog[22]? = some M_22 := rfl
set_option maxRecDepth 100000 in
theorem e22_0 (E : Nat × (Nat → Int32)) (d : Nat) (r0 : Nat) (i1 : Int32) (i2 : Int32) (A : xH) : xD E (d + 1) 22 0 [.ref r0, .int i1, .int i2, xJ, xJ] [] A = (xI (xC E d 14 [.ref r0, .int i1] A)).bind fun q1 => xD E (d + 1) 22 11 [.ref r0, .int i1, .int i2, .int (q1.1 - (1 : Int32)), .int i2] [] q1.2 := (xD_bex E d h_22 [11] 90 0 _ _ _).trans rfl
set_option maxRecDepth 100000 in
theorem e22_11 (E : Nat × (Nat → Int32)) (d : Nat) (r0 : Nat) (i1 : Int32) (w2 : Value) (i3 : Int32) (i4 : Int32) (A : xH) : xD E (d + 1) 22 11 [.ref r0, .int i1, w2, .int i3, .int i4] [] A = if i3 ≤ i4 then (gN A r0 2 0).bind fun n1 => (sI 0 A n1 ((i1 * (10 : Int32)) + (3 : Int32)) i3).bind fun A2 => some (none, A2) else (gN A r0 2 0).bind fun n3 => (xI (xC E d 15 [.ref r0, .int i1, .int (i4 + (1 : Int32))] A)).bind fun q4 => (sI 0 q4.2 n3 (((i1 * (10 : Int32)) + (4 : Int32)) + i4) q4.1).bind fun A5 => (gN A5 r0 2 0).bind fun n6 => (xI (xC E d 16 [.ref r0, .int i1, .int (i4 + (1 : Int32))] A5)).bind fun q7 => (sI 0 q7.2 n6 (((i1 * (10 : Int32)) + (7 : Int32)) + i4) q7.1).bind fun A8 => xD E (d + 1) 22 11 [.ref r0, .int i1, xJ, .int i3, .int (i4 + (1 : Int32))] [] A8 := (xD_bex E d h_22 [11] 90 11 _ _ _).trans rfl
-- Pages.usedCount ()I
set_option maxRecDepth 100000 in
theorem h_23 : xprog[23]? = some M_23 := rfl
set_option maxRecDepth 100000 in
theorem e23_0 (E : Nat × (Nat → Int32)) (d : Nat) (r0 : Nat) (A : xH) : xD E (d + 1) 23 0 [.ref r0, xJ, xJ] [] A = xD E (d + 1) 23 4 [.ref r0, .int (0 : Int32), .int (0 : Int32)] [] A := (xD_bex E d h_23 [4] 90 0 _ _ _).trans rfl
set_option maxRecDepth 100000 in
theorem e23_4 (E : Nat × (Nat → Int32)) (d : Nat) (r0 : Nat) (i1 : Int32) (i2 : Int32) (A : xH) : xD E (d + 1) 23 4 [.ref r0, .int i1, .int i2] [] A = if (24 : Int32) ≤ i2 then some (some (.int i1), A) else (gN A r0 2 0).bind fun n1 => (aI 0 A n1 ((i2 * (10 : Int32)) + (0 : Int32))).bind fun x2 => xD E (d + 1) 23 4 [.ref r0, .int (i1 + x2), .int (i2 + (1 : Int32))] [] A := (xD_bex E d h_23 [4] 90 4 _ _ _).trans rfl
-- Pages.lowestFree ()I
set_option maxRecDepth 100000 in
theorem h_24 : xprog[24]? = some M_24 := rfl
set_option maxRecDepth 100000 in
theorem e24_0 (E : Nat × (Nat → Int32)) (d : Nat) (r0 : Nat) (A : xH) : xD E (d + 1) 24 0 [.ref r0, xJ] [] A = xD E (d + 1) 24 2 [.ref r0, .int (0 : Int32)] [] A := (xD_bex E d h_24 [2] 90 0 _ _ _).trans rfl
set_option maxRecDepth 100000 in
theorem e24_2 (E : Nat × (Nat → Int32)) (d : Nat) (r0 : Nat) (i1 : Int32) (A : xH) : xD E (d + 1) 24 2 [.ref r0, .int i1] [] A = if (24 : Int32) ≤ i1 then some (some (.int (-1 : Int32)), A) else (xI (xC E d 11 [.ref r0, .int i1] A)).bind fun q1 => if q1.1 = 0 then some (some (.int i1), q1.2) else xD E (d + 1) 24 2 [.ref r0, .int (i1 + (1 : Int32))] [] q1.2 := (xD_bex E d h_24 [2] 90 2 _ _ _).trans rfl
-- Pages.greatestDepth ()I
set_option maxRecDepth 100000 in
theorem h_25 : xprog[25]? = some M_25 := rfl
set_option maxRecDepth 100000 in
theorem e25_0 (E : Nat × (Nat → Int32)) (d : Nat) (r0 : Nat) (A : xH) : xD E (d + 1) 25 0 [.ref r0, xJ, xJ] [] A = xD E (d + 1) 25 4 [.ref r0, .int (0 : Int32), .int (0 : Int32)] [] A := (xD_bex E d h_25 [4] 90 0 _ _ _).trans rfl
set_option maxRecDepth 100000 in
theorem e25_4 (E : Nat × (Nat → Int32)) (d : Nat) (r0 : Nat) (i1 : Int32) (i2 : Int32) (A : xH) : xD E (d + 1) 25 4 [.ref r0, .int i1, .int i2] [] A = if (24 : Int32) ≤ i2 then some (some (.int i1), A) else (xI (xC E d 11 [.ref r0, .int i2] A)).bind fun q1 => if q1.1 = 0 then xD E (d + 1) 25 4 [.ref r0, .int i1, .int (i2 + (1 : Int32))] [] q1.2 else (xI (xC E d 12 [.ref r0, .int i2] q1.2)).bind fun q2 => xD E (d + 1) 25 4 [.ref r0, .int (xmax i1 q2.1), .int (i2 + (1 : Int32))] [] q2.2 := (xD_bex E d h_25 [4] 90 4 _ _ _).trans rfl
-- Rules.init ()V
set_option maxRecDepth 100000 in
theorem h_26 : xprog[26]? = some M_26 := rfl
set_option maxRecDepth 100000 in
theorem e26_0 (E : Nat × (Nat → Int32)) (d : Nat) (r0 : Nat) (A : xH) : xD E (d + 1) 26 0 [.ref r0] [] A = xD E (d + 1) 26 10 [.ref r0] [.ref A.length, .ref r0] (A ++ [.inl (4, 6, .inr (.inr fun _ => none))]) := (xD_bex E d h_26 [10, 18, 26] 90 0 _ _ _).trans rfl
set_option maxRecDepth 100000 in
theorem e26_10 (E : Nat × (Nat → Int32)) (d : Nat) (r0 : Nat) (s0 : Nat) (s1 : Nat) (A : xH) : xD E (d + 1) 26 10 [.ref r0] [.ref s1, .ref s0] A = (pF A s0 3 0 (.ref s1)).bind fun A1 => xD E (d + 1) 26 18 [.ref r0] [.ref A1.length, .ref r0] (A1 ++ [.inl (0, 7, .inl fun _ => 0)]) := (xD_bex E d h_26 [10, 18, 26] 90 10 _ _ _).trans rfl
set_option maxRecDepth 100000 in
theorem e26_18 (E : Nat × (Nat → Int32)) (d : Nat) (r0 : Nat) (s0 : Nat) (s1 : Nat) (A : xH) : xD E (d + 1) 26 18 [.ref r0] [.ref s1, .ref s0] A = (pF A s0 3 1 (.ref s1)).bind fun A1 => xD E (d + 1) 26 26 [.ref r0] [.ref A1.length, .ref r0] (A1 ++ [.inl (0, 64, .inl fun _ => 0)]) := (xD_bex E d h_26 [10, 18, 26] 90 18 _ _ _).trans rfl
set_option maxRecDepth 100000 in
theorem e26_26 (E : Nat × (Nat → Int32)) (d : Nat) (r0 : Nat) (s0 : Nat) (s1 : Nat) (A : xH) : xD E (d + 1) 26 26 [.ref r0] [.ref s1, .ref s0] A = (pF A s0 3 2 (.ref s1)).bind fun A1 => (pF A1 r0 3 3 (.int (0 : Int32))).bind fun A2 => (pF A2 r0 3 4 (.int (-1 : Int32))).bind fun A3 => (pF A3 r0 3 5 (.int (1 : Int32))).bind fun A4 => (pF A4 r0 3 6 (.int (0 : Int32))).bind fun A5 => (pF A5 r0 3 7 (.int (0 : Int32))).bind fun A6 => some (none, A6) := (xD_bex E d h_26 [10, 18, 26] 90 26 _ _ _).trans rfl
-- Rules.copyFrom (LTwinBuckets$Rules;)V
set_option maxRecDepth 100000 in
theorem h_27 : xprog[27]? = some M_27 := rfl
set_option maxRecDepth 100000 in
theorem e27_0 (E : Nat × (Nat → Int32)) (d : Nat) (r0 : Nat) (r1 : Nat) (A : xH) : xD E (d + 1) 27 0 [.ref r0, .ref r1, xJ] [] A = xD E (d + 1) 27 2 [.ref r0, .ref r1, .int (0 : Int32)] [] A := (xD_bex E d h_27 [2] 90 0 _ _ _).trans rfl
set_option maxRecDepth 100000 in
theorem e27_2 (E : Nat × (Nat → Int32)) (d : Nat) (r0 : Nat) (r1 : Nat) (i2 : Int32) (A : xH) : xD E (d + 1) 27 2 [.ref r0, .ref r1, .int i2] [] A = if (6 : Int32) ≤ i2 then (gI A r1 3 3).bind fun x1 => (pF A r0 3 3 (.int x1)).bind fun A2 => (gI A2 r1 3 4).bind fun x3 => (pF A2 r0 3 4 (.int x3)).bind fun A4 => (gI A4 r1 3 5).bind fun x5 => (pF A4 r0 3 5 (.int x5)).bind fun A6 => (gI A6 r1 3 6).bind fun x7 => (pF A6 r0 3 6 (.int x7)).bind fun A8 => (gI A8 r1 3 7).bind fun x9 => (pF A8 r0 3 7 (.int x9)).bind fun A10 => some (none, A10) else (gN A r0 3 0).bind fun n11 => (gN A r1 3 0).bind fun n12 => (aR 4 A n12 i2).bind fun q13 => (match q13 with | none => (sR 4 A n11 i2 none).bind fun A14 => xD E (d + 1) 27 2 [.ref r0, .ref r1, .int (i2 + (1 : Int32))] [] A14 | some bq13 => (sR 4 A n11 i2 (some bq13)).bind fun A15 => xD E (d + 1) 27 2 [.ref r0, .ref r1, .int (i2 + (1 : Int32))] [] A15) := (xD_bex E d h_27 [2] 90 2 _ _ _).trans rfl
-- Rules.hashBy (II)I
set_option maxRecDepth 100000 in
theorem h_28 : xprog[28]? = some M_28 := rfl
set_option maxRecDepth 100000 in
theorem e28_0 (E : Nat × (Nat → Int32)) (d : Nat) (i0 : Int32) (i1 : Int32) (A : xH) : xD E (d + 1) 28 0 [.int i0, .int i1] [] A = some (some (.int (xrem (((421 : Int32) * i0) + i1) (1024 : Int32))), A) := (xD_bex E d h_28 [] 90 0 _ _ _).trans rfl
-- Rules.hashOf (I)I
set_option maxRecDepth 100000 in
theorem h_29 : xprog[29]? = some M_29 := rfl
set_option maxRecDepth 100000 in
theorem e29_0 (E : Nat × (Nat → Int32)) (d : Nat) (r0 : Nat) (i1 : Int32) (A : xH) : xD E (d + 1) 29 0 [.ref r0, .int i1] [] A = (gI A r0 3 7).bind fun x1 => (xI (xC E d 28 [.int i1, .int x1] A)).bind fun q2 => some (some (.int q2.1), q2.2) := (xD_bex E d h_29 [] 90 0 _ _ _).trans rfl
-- Rules.addLaw (LTwinBuckets$Text;)I
set_option maxRecDepth 100000 in
theorem h_30 : xprog[30]? = some M_30 := rfl
set_option maxRecDepth 100000 in
theorem e30_0 (E : Nat × (Nat → Int32)) (d : Nat) (r0 : Nat) (r1 : Nat) (A : xH) : xD E (d + 1) 30 0 [.ref r0, .ref r1] [] A = (gN A r0 3 0).bind fun n1 => (gI A r0 3 3).bind fun x2 => (sR 4 A n1 x2 (some r1)).bind fun A3 => (gI A3 r0 3 3).bind fun x4 => (pF A3 r0 3 3 (.int (x4 + (1 : Int32)))).bind fun A5 => (gI A5 r0 3 3).bind fun x6 => some (some (.int (x6 - (1 : Int32))), A5) := (xD_bex E d h_30 [] 90 0 _ _ _).trans rfl
-- Rules.textOf (I)LTwinBuckets$Text;
set_option maxRecDepth 100000 in
theorem h_31 : xprog[31]? = some M_31 := rfl
set_option maxRecDepth 100000 in
theorem e31_0 (E : Nat × (Nat → Int32)) (d : Nat) (r0 : Nat) (i1 : Int32) (A : xH) : xD E (d + 1) 31 0 [.ref r0, .int i1] [] A = if i1 < 0 then some (some (.null), A) else (gI A r0 3 3).bind fun x1 => if x1 ≤ i1 then some (some (.null), A) else (gN A r0 3 0).bind fun n2 => (aR 4 A n2 i1).bind fun q3 => (match q3 with | none => some (some (.null), A) | some bq3 => some (some (.ref bq3), A)) := (xD_bex E d h_31 [] 90 0 _ _ _).trans rfl
-- Rules.fillWords (LTwinBuckets$Store;III)V
set_option maxRecDepth 100000 in
theorem h_32 : xprog[32]? = some M_32 := rfl
set_option maxRecDepth 100000 in
theorem e32_0 (E : Nat × (Nat → Int32)) (d : Nat) (r0 : Nat) (r1 : Nat) (i2 : Int32) (i3 : Int32) (i4 : Int32) (A : xH) : xD E (d + 1) 32 0 [.ref r0, .ref r1, .int i2, .int i3, .int i4] [] A = (gN A r0 3 1).bind fun n1 => (sI 0 A n1 (0 : Int32) i2).bind fun A2 => (gN A2 r0 3 1).bind fun n3 => (gN A2 r1 5 0).bind fun n4 => (xI (xC E d 11 [.ref n4, .int i2] A2)).bind fun q5 => if q5.1 = 0 then xD E (d + 1) 32 35 [.ref r0, .ref r1, .int i2, .int i3, .int i4] [.int (-1 : Int32), .int (1 : Int32), .ref n3] q5.2 else (gN q5.2 r1 5 0).bind fun n6 => (xI (xC E d 12 [.ref n6, .int i2] q5.2)).bind fun q7 => xD E (d + 1) 32 35 [.ref r0, .ref r1, .int i2, .int i3, .int i4] [.int q7.1, .int (1 : Int32), .ref n3] q7.2 := (xD_bex E d h_32 [35] 90 0 _ _ _).trans rfl
set_option maxRecDepth 100000 in
theorem e32_35 (E : Nat × (Nat → Int32)) (d : Nat) (r0 : Nat) (r1 : Nat) (i2 : Int32) (i3 : Int32) (i4 : Int32) (s0 : Nat) (s1 : Int32) (s2 : Int32) (A : xH) : xD E (d + 1) 32 35 [.ref r0, .ref r1, .int i2, .int i3, .int i4] [.int s2, .int s1, .ref s0] A = (sI 0 A s0 s1 s2).bind fun A1 => (gN A1 r0 3 1).bind fun n2 => (gN A1 r1 5 0).bind fun n3 => (xI (xC E d 14 [.ref n3, .int i2] A1)).bind fun q4 => (sI 0 q4.2 n2 (2 : Int32) q4.1).bind fun A5 => (gN A5 r0 3 1).bind fun n6 => (sI 0 A5 n6 (3 : Int32) i3).bind fun A7 => (gN A7 r0 3 1).bind fun n8 => (sI 0 A7 n8 (4 : Int32) i4).bind fun A9 => (gN A9 r0 3 1).bind fun n10 => (gI A9 r1 5 7).bind fun x11 => (sI 0 A9 n10 (5 : Int32) x11).bind fun A12 => (gN A12 r0 3 1).bind fun n13 => (gI A12 r0 3 6).bind fun x14 => (sI 0 A12 n13 (6 : Int32) x14).bind fun A15 => some (none, A15) := (xD_bex E d h_32 [35] 90 35 _ _ _).trans rfl
-- Rules.costOf (ILTwinBuckets$Store;I)I
set_option maxRecDepth 100000 in
theorem h_33 : xprog[33]? = some M_33 := rfl
set_option maxRecDepth 100000 in
theorem e33_0 (E : Nat × (Nat → Int32)) (d : Nat) (r0 : Nat) (i1 : Int32) (r2 : Nat) (i3 : Int32) (A : xH) : xD E (d + 1) 33 0 [.ref r0, .int i1, .ref r2, .int i3, xJ, xJ, xJ] [] A = (xOp (xC E d 31 [.ref r0, .int i1] A)).bind fun q1 => (match q1.1 with | none => some (some (.int (1 : Int32)), q1.2) | some bq1 => (xV (xC E d 32 [.ref r0, .ref r2, .int i3, .int (-1 : Int32), .int (-1 : Int32)] q1.2)).bind fun A2 => (gI A2 bq1 7 5).bind fun x3 => xD E (d + 1) 33 31 [.ref r0, .int i1, .ref r2, .int i3, .ref bq1, .int (x3 - (1 : Int32)), xJ] [] A2) := (xD_bex E d h_33 [31] 90 0 _ _ _).trans rfl
set_option maxRecDepth 100000 in
theorem e33_31a (E : Nat × (Nat → Int32)) (d : Nat) (r0 : Nat) (w1 : Value) (w2 : Value) (w3 : Value) (r4 : Nat) (i5 : Int32) (w6 : Value) (A : xH) : xD E (d + 1) 33 31 [.ref r0, w1, w2, w3, .ref r4, .int i5, w6] [] A = if i5 < 0 then some (some (.int (1 : Int32)), A) else (xI (xC E d 92 [.ref r4, .int i5, .int (0 : Int32)] A)).bind fun q1 => if q1.1 = (4 : Int32) then (gN q1.2 r0 3 1).bind fun n2 => (gN q1.2 r0 3 2).bind fun n3 => (xI (xC E d 96 [.ref r4, .int i5, .int (6 : Int32), .ref n2, .ref n3] q1.2)).bind fun q4 => if q4.1 = (1 : Int32) then (gN q4.2 r0 3 1).bind fun n5 => (gN q4.2 r0 3 2).bind fun n6 => (xI (xC E d 96 [.ref r4, .int i5, .int (2 : Int32), .ref n5, .ref n6] q4.2)).bind fun q7 => if q7.1 = (-2000000000 : Int32) then xD E (d + 1) 33 31 [.ref r0, xJ, xJ, xJ, .ref r4, .int (i5 + (-1 : Int32)), .int q7.1] [] q7.2 else some (some (.int (xmax (0 : Int32) (xmin q7.1 (99 : Int32)))), q7.2) else xD E (d + 1) 33 31 [.ref r0, xJ, xJ, xJ, .ref r4, .int (i5 + (-1 : Int32)), xJ] [] q4.2 else xD E (d + 1) 33 31 [.ref r0, xJ, xJ, xJ, .ref r4, .int (i5 + (-1 : Int32)), xJ] [] q1.2 := (xD_bex E d h_33 [31] 90 31 _ _ _).trans rfl
set_option maxRecDepth 100000 in
theorem e33_31b (E : Nat × (Nat → Int32)) (d : Nat) (r0 : Nat) (w1 : Value) (w2 : Value) (w3 : Value) (i5 : Int32) (w6 : Value) (A : xH) : xD E (d + 1) 33 31 [.ref r0, w1, w2, w3, .null, .int i5, w6] [] A = if i5 < 0 then some (some (.int (1 : Int32)), A) else (xI (xC E d 92 [.null, .int i5, .int (0 : Int32)] A)).bind fun q1 => if q1.1 = (4 : Int32) then (gN q1.2 r0 3 1).bind fun n2 => (gN q1.2 r0 3 2).bind fun n3 => (xI (xC E d 96 [.null, .int i5, .int (6 : Int32), .ref n2, .ref n3] q1.2)).bind fun q4 => if q4.1 = (1 : Int32) then (gN q4.2 r0 3 1).bind fun n5 => (gN q4.2 r0 3 2).bind fun n6 => (xI (xC E d 96 [.null, .int i5, .int (2 : Int32), .ref n5, .ref n6] q4.2)).bind fun q7 => if q7.1 = (-2000000000 : Int32) then xD E (d + 1) 33 31 [.ref r0, xJ, xJ, xJ, .null, .int (i5 + (-1 : Int32)), .int q7.1] [] q7.2 else some (some (.int (xmax (0 : Int32) (xmin q7.1 (99 : Int32)))), q7.2) else xD E (d + 1) 33 31 [.ref r0, xJ, xJ, xJ, .null, .int (i5 + (-1 : Int32)), xJ] [] q4.2 else xD E (d + 1) 33 31 [.ref r0, xJ, xJ, xJ, .null, .int (i5 + (-1 : Int32)), xJ] [] q1.2 := (xD_bex E d h_33 [31] 90 31 _ _ _).trans rfl
-- Rules.bars (ILTwinBuckets$Store;I)Z
set_option maxRecDepth 100000 in
theorem h_34 : xprog[34]? = some M_34 := rfl
set_option maxRecDepth 100000 in
theorem e34_0 (E : Nat × (Nat → Int32)) (d : Nat) (r0 : Nat) (i1 : Int32) (r2 : Nat) (i3 : Int32) (A : xH) : xD E (d + 1) 34 0 [.ref r0, .int i1, .ref r2, .int i3, xJ, xJ] [] A = (gI A r0 3 4).bind fun x1 => (xOp (xC E d 31 [.ref r0, .int x1] A)).bind fun q2 => (match q2.1 with | none => some (some (.int (0 : Int32)), q2.2) | some bq2 => (xI (xC E d 29 [.ref r0, .int i1] q2.2)).bind fun q3 => (xV (xC E d 32 [.ref r0, .ref r2, .int i3, .int i1, .int q3.1] q3.2)).bind fun A4 => xD E (d + 1) 34 32 [.ref r0, .int i1, .ref r2, .int i3, .ref bq2, .int (0 : Int32)] [] A4) := (xD_bex E d h_34 [32] 90 0 _ _ _).trans rfl
set_option maxRecDepth 100000 in
theorem e34_32a (E : Nat × (Nat → Int32)) (d : Nat) (r0 : Nat) (w1 : Value) (w2 : Value) (w3 : Value) (r4 : Nat) (i5 : Int32) (A : xH) : xD E (d + 1) 34 32 [.ref r0, w1, w2, w3, .ref r4, .int i5] [] A = (gI A r4 7 5).bind fun x1 => if x1 ≤ i5 then some (some (.int (0 : Int32)), A) else (xI (xC E d 92 [.ref r4, .int i5, .int (0 : Int32)] A)).bind fun q2 => if q2.1 = (5 : Int32) then (gN q2.2 r0 3 1).bind fun n3 => (gN q2.2 r0 3 2).bind fun n4 => (xI (xC E d 96 [.ref r4, .int i5, .int (6 : Int32), .ref n3, .ref n4] q2.2)).bind fun q5 => if q5.1 = (1 : Int32) then some (some (.int (1 : Int32)), q5.2) else xD E (d + 1) 34 32 [.ref r0, xJ, xJ, xJ, .ref r4, .int (i5 + (1 : Int32))] [] q5.2 else xD E (d + 1) 34 32 [.ref r0, xJ, xJ, xJ, .ref r4, .int (i5 + (1 : Int32))] [] q2.2 := (xD_bex E d h_34 [32] 90 32 _ _ _).trans rfl
set_option maxRecDepth 100000 in
theorem e34_32b (E : Nat × (Nat → Int32)) (d : Nat) (r0 : Nat) (w1 : Value) (w2 : Value) (w3 : Value) (i5 : Int32) (A : xH) : xD E (d + 1) 34 32 [.ref r0, w1, w2, w3, .null, .int i5] [] A = none := (xD_bex E d h_34 [32] 90 32 _ _ _).trans rfl
-- Sightings.init ()V
set_option maxRecDepth 100000 in
theorem h_35 : xprog[35]? = some M_35 := rfl
set_option maxRecDepth 100000 in
theorem e35_0 (E : Nat × (Nat → Int32)) (d : Nat) (r0 : Nat) (A : xH) : xD E (d + 1) 35 0 [.ref r0] [] A = (pF (A ++ [.inl (0, 6, .inl fun _ => 0)]) r0 4 0 (.ref A.length)).bind fun A1 => (pF (A1 ++ [.inl (0, 6, .inl fun _ => 0)]) r0 4 1 (.ref A1.length)).bind fun A2 => (pF A2 r0 4 2 (.int (0 : Int32))).bind fun A3 => some (none, A3) := (xD_bex E d h_35 [] 90 0 _ _ _).trans rfl
-- Sightings.copyFrom (LTwinBuckets$Sightings;)V
set_option maxRecDepth 100000 in
theorem h_36 : xprog[36]? = some M_36 := rfl
set_option maxRecDepth 100000 in
theorem e36_0 (E : Nat × (Nat → Int32)) (d : Nat) (r0 : Nat) (r1 : Nat) (A : xH) : xD E (d + 1) 36 0 [.ref r0, .ref r1] [] A = (gN A r1 4 0).bind fun n1 => (gN A r0 4 0).bind fun n2 => (xcopy A n1 (0 : Int32) n2 (0 : Int32) (6 : Int32)).bind fun A3 => (gN A3 r1 4 1).bind fun n4 => (gN A3 r0 4 1).bind fun n5 => (xcopy A3 n4 (0 : Int32) n5 (0 : Int32) (6 : Int32)).bind fun A6 => (gI A6 r1 4 2).bind fun x7 => (pF A6 r0 4 2 (.int x7)).bind fun A8 => some (none, A8) := (xD_bex E d h_36 [] 90 0 _ _ _).trans rfl
-- Sightings.add (II)I
set_option maxRecDepth 100000 in
theorem h_37 : xprog[37]? = some M_37 := rfl
set_option maxRecDepth 100000 in
theorem e37_0 (E : Nat × (Nat → Int32)) (d : Nat) (r0 : Nat) (i1 : Int32) (i2 : Int32) (A : xH) : xD E (d + 1) 37 0 [.ref r0, .int i1, .int i2] [] A = (gN A r0 4 0).bind fun n1 => (gI A r0 4 2).bind fun x2 => (sI 0 A n1 x2 i1).bind fun A3 => (gN A3 r0 4 1).bind fun n4 => (gI A3 r0 4 2).bind fun x5 => (sI 0 A3 n4 x5 i2).bind fun A6 => (gI A6 r0 4 2).bind fun x7 => (pF A6 r0 4 2 (.int (x7 + (1 : Int32)))).bind fun A8 => (gI A8 r0 4 2).bind fun x9 => some (some (.int x9), A8) := (xD_bex E d h_37 [] 90 0 _ _ _).trans rfl
-- Sightings.candidates (LTwinBuckets$Store;)I
set_option maxRecDepth 100000 in
theorem h_38 : xprog[38]? = some M_38 := rfl
set_option maxRecDepth 100000 in
theorem e38_0 (E : Nat × (Nat → Int32)) (d : Nat) (r0 : Nat) (r1 : Nat) (A : xH) : xD E (d + 1) 38 0 [.ref r0, .ref r1, xJ, xJ] [] A = xD E (d + 1) 38 4 [.ref r0, .ref r1, .int (0 : Int32), .int (0 : Int32)] [] A := (xD_bex E d h_38 [4] 90 0 _ _ _).trans rfl
set_option maxRecDepth 100000 in
theorem e38_4 (E : Nat × (Nat → Int32)) (d : Nat) (r0 : Nat) (r1 : Nat) (i2 : Int32) (i3 : Int32) (A : xH) : xD E (d + 1) 38 4 [.ref r0, .ref r1, .int i2, .int i3] [] A = if (24 : Int32) ≤ i3 then some (some (.int i2), A) else (gN A r1 5 0).bind fun n1 => (xI (xC E d 11 [.ref n1, .int i3] A)).bind fun q2 => if q2.1 = 0 then xD E (d + 1) 38 4 [.ref r0, .ref r1, .int i2, .int (i3 + (1 : Int32))] [] q2.2 else (xI (xC E d 39 [.ref r0, .ref r1, .int i3] q2.2)).bind fun q3 => if q3.1 = 0 then xD E (d + 1) 38 4 [.ref r0, .ref r1, .int i2, .int (i3 + (1 : Int32))] [] q3.2 else xD E (d + 1) 38 4 [.ref r0, .ref r1, .int (i2 ||| ((1 : Int32) <<< (i3 &&& 31))), .int (i3 + (1 : Int32))] [] q3.2 := (xD_bex E d h_38 [4] 90 4 _ _ _).trans rfl
-- Sightings.fits (LTwinBuckets$Store;I)Z
set_option maxRecDepth 100000 in
theorem h_39 : xprog[39]? = some M_39 := rfl
set_option maxRecDepth 100000 in
theorem e39_0 (E : Nat × (Nat → Int32)) (d : Nat) (r0 : Nat) (r1 : Nat) (i2 : Int32) (A : xH) : xD E (d + 1) 39 0 [.ref r0, .ref r1, .int i2, xJ, xJ] [] A = xD E (d + 1) 39 2 [.ref r0, .ref r1, .int i2, .int (0 : Int32), xJ] [] A := (xD_bex E d h_39 [2, 43] 90 0 _ _ _).trans rfl
set_option maxRecDepth 100000 in
theorem e39_2 (E : Nat × (Nat → Int32)) (d : Nat) (r0 : Nat) (r1 : Nat) (i2 : Int32) (i3 : Int32) (w4 : Value) (A : xH) : xD E (d + 1) 39 2 [.ref r0, .ref r1, .int i2, .int i3, w4] [] A = (gI A r0 4 2).bind fun x1 => if x1 ≤ i3 then some (some (.int (1 : Int32)), A) else (gN A r0 4 0).bind fun n2 => (aI 0 A n2 i3).bind fun x3 => (xI (xC E d 43 [.ref r1] A)).bind fun q4 => if q4.1 ≤ x3 then xD E (d + 1) 39 43 [.ref r0, .ref r1, .int i2, .int i3, xJ] [.int (0 : Int32)] q4.2 else (gN q4.2 r1 5 2).bind fun n5 => (gN q4.2 r0 4 0).bind fun n6 => (aI 0 q4.2 n6 i3).bind fun x7 => (aI 0 q4.2 n5 x7).bind fun x8 => if x8 = i2 then xD E (d + 1) 39 43 [.ref r0, .ref r1, .int i2, .int i3, xJ] [.int (1 : Int32)] q4.2 else xD E (d + 1) 39 43 [.ref r0, .ref r1, .int i2, .int i3, xJ] [.int (0 : Int32)] q4.2 := (xD_bex E d h_39 [2, 43] 90 2 _ _ _).trans rfl
set_option maxRecDepth 100000 in
theorem e39_43 (E : Nat × (Nat → Int32)) (d : Nat) (r0 : Nat) (r1 : Nat) (i2 : Int32) (i3 : Int32) (w4 : Value) (s0 : Int32) (A : xH) : xD E (d + 1) 39 43 [.ref r0, .ref r1, .int i2, .int i3, w4] [.int s0] A = (gN A r0 4 1).bind fun n1 => (aI 0 A n1 i3).bind fun x2 => if x2 = (1 : Int32) then if s0 = (1 : Int32) then xD E (d + 1) 39 2 [.ref r0, .ref r1, .int i2, .int (i3 + (1 : Int32)), .int s0] [] A else some (some (.int (0 : Int32)), A) else if s0 = (0 : Int32) then xD E (d + 1) 39 2 [.ref r0, .ref r1, .int i2, .int (i3 + (1 : Int32)), .int s0] [] A else some (some (.int (0 : Int32)), A) := (xD_bex E d h_39 [2, 43] 90 43 _ _ _).trans rfl
-- Integer.bitCount (I)I
set_option maxRecDepth 100000 in
theorem h_294 : xprog[294]? = some M_294 := rfl
set_option maxRecDepth 100000 in
theorem e294_0 (E : Nat × (Nat → Int32)) (d : Nat) (i0 : Int32) (A : xH) : xD E (d + 1) 294 0 [.int i0] [] A = some (some (.int ((((((((i0 - ((xushr i0 (1 : Int32)) &&& (1431655765 : Int32))) &&& (858993459 : Int32)) + ((xushr (i0 - ((xushr i0 (1 : Int32)) &&& (1431655765 : Int32))) (2 : Int32)) &&& (858993459 : Int32))) + (xushr (((i0 - ((xushr i0 (1 : Int32)) &&& (1431655765 : Int32))) &&& (858993459 : Int32)) + ((xushr (i0 - ((xushr i0 (1 : Int32)) &&& (1431655765 : Int32))) (2 : Int32)) &&& (858993459 : Int32))) (4 : Int32))) &&& (252645135 : Int32)) + (xushr (((((i0 - ((xushr i0 (1 : Int32)) &&& (1431655765 : Int32))) &&& (858993459 : Int32)) + ((xushr (i0 - ((xushr i0 (1 : Int32)) &&& (1431655765 : Int32))) (2 : Int32)) &&& (858993459 : Int32))) + (xushr (((i0 - ((xushr i0 (1 : Int32)) &&& (1431655765 : Int32))) &&& (858993459 : Int32)) + ((xushr (i0 - ((xushr i0 (1 : Int32)) &&& (1431655765 : Int32))) (2 : Int32)) &&& (858993459 : Int32))) (4 : Int32))) &&& (252645135 : Int32)) (8 : Int32))) + (xushr ((((((i0 - ((xushr i0 (1 : Int32)) &&& (1431655765 : Int32))) &&& (858993459 : Int32)) + ((xushr (i0 - ((xushr i0 (1 : Int32)) &&& (1431655765 : Int32))) (2 : Int32)) &&& (858993459 : Int32))) + (xushr (((i0 - ((xushr i0 (1 : Int32)) &&& (1431655765 : Int32))) &&& (858993459 : Int32)) + ((xushr (i0 - ((xushr i0 (1 : Int32)) &&& (1431655765 : Int32))) (2 : Int32)) &&& (858993459 : Int32))) (4 : Int32))) &&& (252645135 : Int32)) + (xushr (((((i0 - ((xushr i0 (1 : Int32)) &&& (1431655765 : Int32))) &&& (858993459 : Int32)) + ((xushr (i0 - ((xushr i0 (1 : Int32)) &&& (1431655765 : Int32))) (2 : Int32)) &&& (858993459 : Int32))) + (xushr (((i0 - ((xushr i0 (1 : Int32)) &&& (1431655765 : Int32))) &&& (858993459 : Int32)) + ((xushr (i0 - ((xushr i0 (1 : Int32)) &&& (1431655765 : Int32))) (2 : Int32)) &&& (858993459 : Int32))) (4 : Int32))) &&& (252645135 : Int32)) (8 : Int32))) (16 : Int32))) &&& (63 : Int32))), A) := (xD_bex E d h_294 [] 90 0 _ _ _).trans rfl
-- Arrays.rangeCheck (III)V
set_option maxRecDepth 100000 in
theorem h_295 : xprog[295]? = some M_295 := rfl
set_option maxRecDepth 100000 in
theorem e295_0 (E : Nat × (Nat → Int32)) (d : Nat) (i0 : Int32) (i1 : Int32) (i2 : Int32) (A : xH) : xD E (d + 1) 295 0 [.int i0, .int i1, .int i2] [] A = if i1 ≤ i2 then if 0 ≤ i1 then if i2 ≤ i0 then some (none, A) else none else none else none := (xD_bex E d h_295 [] 90 0 _ _ _).trans rfl
-- Arrays.fill0 ([JJ)V
set_option maxRecDepth 100000 in
theorem h_296 : xprog[296]? = some M_296 := rfl
set_option maxRecDepth 100000 in
theorem e296_0 (E : Nat × (Nat → Int32)) (d : Nat) (r0 : Nat) (j1 : Int64) (A : xH) : xD E (d + 1) 296 0 [.ref r0, .long j1, xJ, xJ, xJ] [] A = (lA A r0).bind fun x1 => xD E (d + 1) 296 6 [.ref r0, .long j1, xJ, .int (0 : Int32), .int x1] [] A := (xD_bex E d h_296 [6] 90 0 _ _ _).trans rfl
set_option maxRecDepth 100000 in
theorem e296_6 (E : Nat × (Nat → Int32)) (d : Nat) (r0 : Nat) (j1 : Int64) (i3 : Int32) (i4 : Int32) (A : xH) : xD E (d + 1) 296 6 [.ref r0, .long j1, xJ, .int i3, .int i4] [] A = if i4 ≤ i3 then some (none, A) else (sL A r0 i3 j1).bind fun A1 => xD E (d + 1) 296 6 [.ref r0, .long j1, xJ, .int (i3 + (1 : Int32)), .int i4] [] A1 := (xD_bex E d h_296 [6] 90 6 _ _ _).trans rfl
-- Arrays.fill1 ([II)V
set_option maxRecDepth 100000 in
theorem h_297 : xprog[297]? = some M_297 := rfl
set_option maxRecDepth 100000 in
theorem e297_0 (E : Nat × (Nat → Int32)) (d : Nat) (r0 : Nat) (i1 : Int32) (A : xH) : xD E (d + 1) 297 0 [.ref r0, .int i1, xJ, xJ] [] A = (lA A r0).bind fun x1 => xD E (d + 1) 297 5 [.ref r0, .int i1, .int (0 : Int32), .int x1] [] A := (xD_bex E d h_297 [5] 90 0 _ _ _).trans rfl
set_option maxRecDepth 100000 in
theorem e297_5 (E : Nat × (Nat → Int32)) (d : Nat) (r0 : Nat) (i1 : Int32) (i2 : Int32) (i3 : Int32) (A : xH) : xD E (d + 1) 297 5 [.ref r0, .int i1, .int i2, .int i3] [] A = if i3 ≤ i2 then some (none, A) else (sI 0 A r0 i2 i1).bind fun A1 => xD E (d + 1) 297 5 [.ref r0, .int i1, .int (i2 + (1 : Int32)), .int i3] [] A1 := (xD_bex E d h_297 [5] 90 5 _ _ _).trans rfl
-- Arrays.fill2 ([IIII)V
set_option maxRecDepth 100000 in
theorem h_298 : xprog[298]? = some M_298 := rfl
set_option maxRecDepth 100000 in
theorem e298_0 (E : Nat × (Nat → Int32)) (d : Nat) (r0 : Nat) (i1 : Int32) (i2 : Int32) (i3 : Int32) (A : xH) : xD E (d + 1) 298 0 [.ref r0, .int i1, .int i2, .int i3, xJ] [] A = (lA A r0).bind fun x1 => (xV (xC E d 295 [.int x1, .int i1, .int i2] A)).bind fun A2 => xD E (d + 1) 298 10 [.ref r0, .int i1, .int i2, .int i3, .int i1] [] A2 := (xD_bex E d h_298 [10] 90 0 _ _ _).trans rfl
set_option maxRecDepth 100000 in
theorem e298_10 (E : Nat × (Nat → Int32)) (d : Nat) (r0 : Nat) (w1 : Value) (i2 : Int32) (i3 : Int32) (i4 : Int32) (A : xH) : xD E (d + 1) 298 10 [.ref r0, w1, .int i2, .int i3, .int i4] [] A = if i2 ≤ i4 then some (none, A) else (sI 0 A r0 i4 i3).bind fun A1 => xD E (d + 1) 298 10 [.ref r0, xJ, .int i2, .int i3, .int (i4 + (1 : Int32))] [] A1 := (xD_bex E d h_298 [10] 90 10 _ _ _).trans rfl
-- Arrays.copyOf ([II)[I
set_option maxRecDepth 100000 in
theorem h_299 : xprog[299]? = some M_299 := rfl
set_option maxRecDepth 100000 in
theorem e299_0 (E : Nat × (Nat → Int32)) (d : Nat) (r0 : Nat) (i1 : Int32) (A : xH) : xD E (d + 1) 299 0 [.ref r0, .int i1, xJ] [] A = (lA A r0).bind fun x1 => if i1 = x1 then (xclone A r0).bind fun A2 => (xtag A2 A.length).bind fun q3 => if q3 = 0 then some (some (.ref A.length), A2) else none else if i1 < 0 ∨ 100000 < (i1).toNatClampNeg then none else (lA (A ++ [.inl (0, (i1).toNatClampNeg, .inl fun _ => 0)]) r0).bind fun x4 => (xcopy (A ++ [.inl (0, (i1).toNatClampNeg, .inl fun _ => 0)]) r0 (0 : Int32) A.length (0 : Int32) (xmin x4 i1)).bind fun A5 => some (some (.ref A.length), A5) := (xD_bex E d h_299 [] 90 0 _ _ _).trans rfl
end
section
/-! ===== what each block does, an equation a block (printed by wip/whole/gen.py) ===== -/
-- Store.init ()V
set_option maxRecDepth 100000 in
theorem h_40 : xprog[40]? = some M_40 := rfl
set_option maxRecDepth 100000 in
theorem e40_0 (E : Nat × (Nat → Int32)) (d : Nat) (r0 : Nat) (A : xH) : xD E (d + 1) 40 0 [.ref r0] [] A = xD E (d + 1) 40 8 [.ref r0] [.ref A.length, .ref r0] (A ++ [.inr (2, [.null])]) := (xD_bex E d h_40 [8, 19, 31, 40] 90 0 _ _ _).trans rfl
set_option maxRecDepth 100000 in
theorem e40_8 (E : Nat × (Nat → Int32)) (d : Nat) (r0 : Nat) (s0 : Nat) (s1 : Nat) (A : xH) : xD E (d + 1) 40 8 [.ref r0] [.ref s1, .ref s0] A = (xV (xC E d 8 [.ref s1] A)).bind fun A1 => (pF A1 s0 5 0 (.ref s1)).bind fun A2 => xD E (d + 1) 40 19 [.ref r0] [.ref A2.length, .ref r0] (A2 ++ [.inr (2, [.null])]) := (xD_bex E d h_40 [8, 19, 31, 40] 90 8 _ _ _).trans rfl
set_option maxRecDepth 100000 in
theorem e40_19 (E : Nat × (Nat → Int32)) (d : Nat) (r0 : Nat) (s0 : Nat) (s1 : Nat) (A : xH) : xD E (d + 1) 40 19 [.ref r0] [.ref s1, .ref s0] A = (xV (xC E d 8 [.ref s1] A)).bind fun A1 => (pF A1 s0 5 1 (.ref s1)).bind fun A2 => xD E (d + 1) 40 31 [.ref r0] [.ref A2.length, .ref r0] (A2 ++ [.inl (0, 64, .inl fun _ => 0)]) := (xD_bex E d h_40 [8, 19, 31, 40] 90 19 _ _ _).trans rfl
set_option maxRecDepth 100000 in
theorem e40_31 (E : Nat × (Nat → Int32)) (d : Nat) (r0 : Nat) (s0 : Nat) (s1 : Nat) (A : xH) : xD E (d + 1) 40 31 [.ref r0] [.ref s1, .ref s0] A = (pF A s0 5 2 (.ref s1)).bind fun A1 => xD E (d + 1) 40 40 [.ref r0] [.ref A1.length, .ref r0] (A1 ++ [.inl (0, 480, .inl fun _ => 0)]) := (xD_bex E d h_40 [8, 19, 31, 40] 90 31 _ _ _).trans rfl
set_option maxRecDepth 100000 in
theorem e40_40 (E : Nat × (Nat → Int32)) (d : Nat) (r0 : Nat) (s0 : Nat) (s1 : Nat) (A : xH) : xD E (d + 1) 40 40 [.ref r0] [.ref s1, .ref s0] A = (pF A s0 5 3 (.ref s1)).bind fun A1 => (pF A1 r0 5 4 (.int (0 : Int32))).bind fun A2 => (pF A2 r0 5 5 (.int (0 : Int32))).bind fun A3 => (pF A3 r0 5 6 (.int (0 : Int32))).bind fun A4 => (pF A4 r0 5 7 (.int (0 : Int32))).bind fun A5 => some (none, A5) := (xD_bex E d h_40 [8, 19, 31, 40] 90 40 _ _ _).trans rfl
-- Store.open ()V
set_option maxRecDepth 100000 in
theorem h_41 : xprog[41]? = some M_41 := rfl
set_option maxRecDepth 100000 in
theorem e41_0 (E : Nat × (Nat → Int32)) (d : Nat) (r0 : Nat) (A : xH) : xD E (d + 1) 41 0 [.ref r0] [] A = (gN A r0 5 0).bind fun n1 => (xV (xC E d 18 [.ref n1, .int (0 : Int32), .int (0 : Int32), .int (0 : Int32)] A)).bind fun A2 => (gN A2 r0 5 1).bind fun n3 => (xV (xC E d 18 [.ref n3, .int (0 : Int32), .int (0 : Int32), .int (0 : Int32)] A2)).bind fun A4 => some (none, A4) := (xD_bex E d h_41 [] 90 0 _ _ _).trans rfl
-- Store.copyFrom (LTwinBuckets$Store;)V
set_option maxRecDepth 100000 in
theorem h_42 : xprog[42]? = some M_42 := rfl
set_option maxRecDepth 100000 in
theorem e42_0 (E : Nat × (Nat → Int32)) (d : Nat) (r0 : Nat) (r1 : Nat) (A : xH) : xD E (d + 1) 42 0 [.ref r0, .ref r1] [] A = (gN A r0 5 0).bind fun n1 => (gN A r1 5 0).bind fun n2 => (xV (xC E d 9 [.ref n1, .ref n2] A)).bind fun A3 => (gN A3 r0 5 1).bind fun n4 => (gN A3 r1 5 1).bind fun n5 => (xV (xC E d 9 [.ref n4, .ref n5] A3)).bind fun A6 => (gN A6 r1 5 2).bind fun n7 => (gN A6 r0 5 2).bind fun n8 => (xcopy A6 n7 (0 : Int32) n8 (0 : Int32) (64 : Int32)).bind fun A9 => (gN A9 r1 5 3).bind fun n10 => (gN A9 r0 5 3).bind fun n11 => (gN A9 r0 5 3).bind fun n12 => (lA A9 n12).bind fun x13 => (xcopy A9 n10 (0 : Int32) n11 (0 : Int32) x13).bind fun A14 => (gI A14 r1 5 4).bind fun x15 => (pF A14 r0 5 4 (.int x15)).bind fun A16 => (gI A16 r1 5 5).bind fun x17 => (pF A16 r0 5 5 (.int x17)).bind fun A18 => (gI A18 r1 5 6).bind fun x19 => (pF A18 r0 5 6 (.int x19)).bind fun A20 => (gI A20 r1 5 7).bind fun x21 => (pF A20 r0 5 7 (.int x21)).bind fun A22 => some (none, A22) := (xD_bex E d h_42 [] 90 0 _ _ _).trans rfl
-- Store.slotsThere ()I
set_option maxRecDepth 100000 in
theorem h_43 : xprog[43]? = some M_43 := rfl
set_option maxRecDepth 100000 in
theorem e43_0 (E : Nat × (Nat → Int32)) (d : Nat) (r0 : Nat) (A : xH) : xD E (d + 1) 43 0 [.ref r0] [] A = (gI A r0 5 6).bind fun x1 => some (some (.int ((1 : Int32) <<< (x1 &&& 31))), A) := (xD_bex E d h_43 [] 90 0 _ _ _).trans rfl
-- Store.keysThere ()I
set_option maxRecDepth 100000 in
theorem h_44 : xprog[44]? = some M_44 := rfl
set_option maxRecDepth 100000 in
theorem e44_0 (E : Nat × (Nat → Int32)) (d : Nat) (r0 : Nat) (A : xH) : xD E (d + 1) 44 0 [.ref r0, xJ, xJ] [] A = xD E (d + 1) 44 4 [.ref r0, .int (0 : Int32), .int (0 : Int32)] [] A := (xD_bex E d h_44 [4] 90 0 _ _ _).trans rfl
set_option maxRecDepth 100000 in
theorem e44_4 (E : Nat × (Nat → Int32)) (d : Nat) (r0 : Nat) (i1 : Int32) (i2 : Int32) (A : xH) : xD E (d + 1) 44 4 [.ref r0, .int i1, .int i2] [] A = if (24 : Int32) ≤ i2 then some (some (.int i1), A) else (gN A r0 5 0).bind fun n1 => (xI (xC E d 14 [.ref n1, .int i2] A)).bind fun q2 => xD E (d + 1) 44 4 [.ref r0, .int (i1 + q2.1), .int (i2 + (1 : Int32))] [] q2.2 := (xD_bex E d h_44 [4] 90 4 _ _ _).trans rfl
-- Store.soughtIn (ILTwinBuckets$Rules;)I
set_option maxRecDepth 100000 in
theorem h_45 : xprog[45]? = some M_45 := rfl
set_option maxRecDepth 100000 in
theorem e45_0 (E : Nat × (Nat → Int32)) (d : Nat) (r0 : Nat) (i1 : Int32) (r2 : Nat) (A : xH) : xD E (d + 1) 45 0 [.ref r0, .int i1, .ref r2] [] A = (gN A r0 5 2).bind fun n1 => (xI (xC E d 29 [.ref r2, .int i1] A)).bind fun q2 => (aI 0 q2.2 n1 (q2.1 &&& (63 : Int32))).bind fun x3 => some (some (.int x3), q2.2) := (xD_bex E d h_45 [] 90 0 _ _ _).trans rfl
-- Store.valueOf (ILTwinBuckets$Rules;)I
set_option maxRecDepth 100000 in
theorem h_46 : xprog[46]? = some M_46 := rfl
set_option maxRecDepth 100000 in
theorem e46_0 (E : Nat × (Nat → Int32)) (d : Nat) (r0 : Nat) (i1 : Int32) (r2 : Nat) (A : xH) : xD E (d + 1) 46 0 [.ref r0, .int i1, .ref r2, xJ, xJ] [] A = (xI (xC E d 45 [.ref r0, .int i1, .ref r2] A)).bind fun q1 => (gN q1.2 r0 5 0).bind fun n2 => (xI (xC E d 20 [.ref n2, .int q1.1, .int i1] q1.2)).bind fun q3 => if q3.1 = (-1 : Int32) then some (some (.int (-1 : Int32)), q3.2) else (gN q3.2 r0 5 0).bind fun n4 => (xI (xC E d 16 [.ref n4, .int q1.1, .int q3.1] q3.2)).bind fun q5 => some (some (.int q5.1), q5.2) := (xD_bex E d h_46 [] 90 0 _ _ _).trans rfl
-- Store.isBarred (ILTwinBuckets$Rules;)Z
set_option maxRecDepth 100000 in
theorem h_47 : xprog[47]? = some M_47 := rfl
set_option maxRecDepth 100000 in
theorem e47_0 (E : Nat × (Nat → Int32)) (d : Nat) (r0 : Nat) (i1 : Int32) (r2 : Nat) (A : xH) : xD E (d + 1) 47 0 [.ref r0, .int i1, .ref r2] [] A = (xI (xC E d 45 [.ref r0, .int i1, .ref r2] A)).bind fun q1 => (xI (xC E d 34 [.ref r2, .int i1, .ref r0, .int q1.1] q1.2)).bind fun q2 => if x01 q2.1 = true then some (some (.int q2.1), q2.2) else none := (xD_bex E d h_47 [] 90 0 _ _ _).trans rfl
-- Store.placeKey (IILTwinBuckets$Rules;)I
set_option maxRecDepth 100000 in
theorem h_48 : xprog[48]? = some M_48 := rfl
set_option maxRecDepth 100000 in
theorem e48_0 (E : Nat × (Nat → Int32)) (d : Nat) (r0 : Nat) (i1 : Int32) (i2 : Int32) (r3 : Nat) (A : xH) : xD E (d + 1) 48 0 [.ref r0, .int i1, .int i2, .ref r3, xJ, xJ, xJ, xJ, xJ, xJ] [] A = (xI (xC E d 139 [.int i1] A)).bind fun q1 => if q1.1 = 0 then some (some (.int (-1 : Int32)), q1.2) else if i2 < 0 then some (some (.int (-1 : Int32)), q1.2) else if i2 ≤ (99 : Int32) then (xI (xC E d 45 [.ref r0, .int i1, .ref r3] q1.2)).bind fun q2 => (gN q2.2 r0 5 0).bind fun n3 => (xI (xC E d 20 [.ref n3, .int q2.1, .int i1] q2.2)).bind fun q4 => if q4.1 = (-1 : Int32) then (xI (xC E d 47 [.ref r0, .int i1, .ref r3] q4.2)).bind fun q5 => if q5.1 = 0 then (xI (xC E d 29 [.ref r3, .int i1] q5.2)).bind fun q6 => (xI (xC E d 49 [.ref r0, .int q2.1, .int q6.1, .ref r3] q6.2)).bind fun q7 => if 0 ≤ q7.1 then xD E (d + 1) 48 103 [.ref r0, .int i1, .int i2, .ref r3, .int q2.1, .int q4.1, .int q7.1, .int (0 : Int32), xJ, xJ] [] q7.2 else some (some (.int (-5 : Int32)), q7.2) else some (some (.int (-3 : Int32)), q5.2) else (gN q4.2 r0 5 0).bind fun n8 => (xV (xC E d 17 [.ref n8, .int q2.1, .int q4.1, .int i2] q4.2)).bind fun A9 => (xV (xC E d 55 [.ref r0, .int q2.1, .ref r3] A9)).bind fun A10 => some (some (.int (0 : Int32)), A10) else some (some (.int (-1 : Int32)), q1.2) := (xD_bex E d h_48 [103] 90 0 _ _ _).trans rfl
set_option maxRecDepth 100000 in
theorem e48_103 (E : Nat × (Nat → Int32)) (d : Nat) (r0 : Nat) (i1 : Int32) (i2 : Int32) (r3 : Nat) (w4 : Value) (w5 : Value) (i6 : Int32) (i7 : Int32) (w8 : Value) (w9 : Value) (A : xH) : xD E (d + 1) 48 103 [.ref r0, .int i1, .int i2, .ref r3, w4, w5, .int i6, .int i7, w8, w9] [] A = if i6 ≤ i7 then (xI (xC E d 45 [.ref r0, .int i1, .ref r3] A)).bind fun q1 => (gN q1.2 r0 5 0).bind fun n2 => (xV (xC E d 21 [.ref n2, .int q1.1, .int i1, .int i2] q1.2)).bind fun A3 => (xV (xC E d 55 [.ref r0, .int q1.1, .ref r3] A3)).bind fun A4 => some (some (.int i6), A4) else (xI (xC E d 45 [.ref r0, .int i1, .ref r3] A)).bind fun q5 => (xI (xC E d 50 [.ref r0, .int q5.1, .ref r3] q5.2)).bind fun q6 => (xV (xC E d 55 [.ref r0, .int q6.1, .ref r3] q6.2)).bind fun A7 => (xV (xC E d 55 [.ref r0, .int q5.1, .ref r3] A7)).bind fun A8 => xD E (d + 1) 48 103 [.ref r0, .int i1, .int i2, .ref r3, xJ, xJ, .int i6, .int (i7 + (1 : Int32)), .int q5.1, .int q6.1] [] A8 := (xD_bex E d h_48 [103] 90 103 _ _ _).trans rfl
-- Store.splitsNeeded (IILTwinBuckets$Rules;)I
set_option maxRecDepth 100000 in
theorem h_49 : xprog[49]? = some M_49 := rfl
set_option maxRecDepth 100000 in
theorem e49_0 (E : Nat × (Nat → Int32)) (d : Nat) (r0 : Nat) (i1 : Int32) (i2 : Int32) (r3 : Nat) (A : xH) : xD E (d + 1) 49 0 [.ref r0, .int i1, .int i2, .ref r3, xJ, xJ, xJ, xJ] [] A = (gN A r0 5 0).bind fun n1 => (xI (xC E d 14 [.ref n1, .int i1] A)).bind fun q2 => if (3 : Int32) ≤ q2.1 then xD E (d + 1) 49 20 [.ref r0, .int i1, .int i2, .ref r3, .int (0 : Int32), .int (0 : Int32), xJ, xJ] [] q2.2 else some (some (.int (0 : Int32)), q2.2) := (xD_bex E d h_49 [20, 67] 90 0 _ _ _).trans rfl
set_option maxRecDepth 100000 in
theorem e49_20 (E : Nat × (Nat → Int32)) (d : Nat) (r0 : Nat) (i1 : Int32) (i2 : Int32) (r3 : Nat) (i4 : Int32) (i5 : Int32) (w6 : Value) (w7 : Value) (A : xH) : xD E (d + 1) 49 20 [.ref r0, .int i1, .int i2, .ref r3, .int i4, .int i5, w6, w7] [] A = if (3 : Int32) ≤ i5 then (gN A r0 5 0).bind fun n1 => (xI (xC E d 12 [.ref n1, .int i1] A)).bind fun q2 => xD E (d + 1) 49 67 [.ref r0, .int i1, .int i2, .ref r3, .int i4, .int q2.1, .int q2.1, xJ] [] q2.2 else (gN A r0 5 0).bind fun n3 => (xI (xC E d 15 [.ref n3, .int i1, .int i5] A)).bind fun q4 => (xI (xC E d 29 [.ref r3, .int q4.1] q4.2)).bind fun q5 => xD E (d + 1) 49 20 [.ref r0, .int i1, .int i2, .ref r3, .int (i4 ||| (i2 ^^^ q5.1)), .int (i5 + (1 : Int32)), xJ, xJ] [] q5.2 := (xD_bex E d h_49 [20, 67] 90 20 _ _ _).trans rfl
set_option maxRecDepth 100000 in
theorem e49_67 (E : Nat × (Nat → Int32)) (d : Nat) (r0 : Nat) (w1 : Value) (w2 : Value) (w3 : Value) (i4 : Int32) (i5 : Int32) (i6 : Int32) (w7 : Value) (A : xH) : xD E (d + 1) 49 67 [.ref r0, w1, w2, w3, .int i4, .int i5, .int i6, w7] [] A = if (6 : Int32) ≤ i6 then some (some (.int (-5 : Int32)), A) else if ((i4 >>> (i6 &&& 31)) &&& (1 : Int32)) = 0 then xD E (d + 1) 49 67 [.ref r0, xJ, xJ, xJ, .int i4, .int i5, .int (i6 + (1 : Int32)), xJ] [] A else (gN A r0 5 0).bind fun n1 => (xI (xC E d 23 [.ref n1] A)).bind fun q2 => if (24 : Int32) < (q2.1 + ((i6 - i5) + (1 : Int32))) then some (some (.int (-5 : Int32)), q2.2) else some (some (.int ((i6 - i5) + (1 : Int32))), q2.2) := (xD_bex E d h_49 [20, 67] 90 67 _ _ _).trans rfl
-- Store.splitBucket (ILTwinBuckets$Rules;)I
set_option maxRecDepth 100000 in
theorem h_50 : xprog[50]? = some M_50 := rfl
set_option maxRecDepth 100000 in
theorem e50_0 (E : Nat × (Nat → Int32)) (d : Nat) (r0 : Nat) (i1 : Int32) (r2 : Nat) (A : xH) : xD E (d + 1) 50 0 [.ref r0, .int i1, .ref r2, xJ, xJ, xJ, xJ, xJ, xJ] [] A = (gN A r0 5 0).bind fun n1 => (xI (xC E d 24 [.ref n1] A)).bind fun q2 => if q2.1 = (-1 : Int32) then some (some (.int i1), q2.2) else (gN q2.2 r0 5 0).bind fun n3 => (xI (xC E d 12 [.ref n3, .int i1] q2.2)).bind fun q4 => (gN q4.2 r0 5 0).bind fun n5 => (xI (xC E d 13 [.ref n5, .int i1] q4.2)).bind fun q6 => (gN q6.2 r0 5 0).bind fun n7 => (xV (xC E d 19 [.ref n7, .int q2.1] q6.2)).bind fun A8 => (gN A8 r0 5 0).bind fun n9 => (xV (xC E d 18 [.ref n9, .int q2.1, .int (q4.1 + (1 : Int32)), .int (q6.1 + ((1 : Int32) <<< (q4.1 &&& 31)))] A8)).bind fun A10 => (gN A10 r0 5 0).bind fun n11 => (xV (xC E d 18 [.ref n11, .int i1, .int (q4.1 + (1 : Int32)), .int q6.1] A10)).bind fun A12 => xD E (d + 1) 50 82 [.ref r0, .int i1, .ref r2, .int q2.1, .int q4.1, .int q6.1, .int (0 : Int32), .int (0 : Int32), xJ] [] A12 := (xD_bex E d h_50 [82, 170] 90 0 _ _ _).trans rfl
set_option maxRecDepth 100000 in
theorem e50_82 (E : Nat × (Nat → Int32)) (d : Nat) (r0 : Nat) (i1 : Int32) (r2 : Nat) (i3 : Int32) (i4 : Int32) (w5 : Value) (i6 : Int32) (i7 : Int32) (w8 : Value) (A : xH) : xD E (d + 1) 50 82 [.ref r0, .int i1, .ref r2, .int i3, .int i4, w5, .int i6, .int i7, w8] [] A = if (3 : Int32) ≤ i7 then xD E (d + 1) 50 170 [.ref r0, .int i1, .ref r2, .int i3, .int i4, xJ, .int i6, .int i7, xJ] [] A else (gN A r0 5 0).bind fun n1 => (xI (xC E d 14 [.ref n1, .int i1] A)).bind fun q2 => if q2.1 ≤ i6 then xD E (d + 1) 50 170 [.ref r0, .int i1, .ref r2, .int i3, .int i4, xJ, .int i6, .int i7, xJ] [] q2.2 else (gN q2.2 r0 5 0).bind fun n3 => (xI (xC E d 15 [.ref n3, .int i1, .int i6] q2.2)).bind fun q4 => (xI (xC E d 29 [.ref r2, .int q4.1] q4.2)).bind fun q5 => if ((q5.1 >>> (i4 &&& 31)) &&& (1 : Int32)) = (1 : Int32) then (gN q5.2 r0 5 0).bind fun n6 => (gN q5.2 r0 5 0).bind fun n7 => (xI (xC E d 16 [.ref n7, .int i1, .int i6] q5.2)).bind fun q8 => (xV (xC E d 21 [.ref n6, .int i3, .int q4.1, .int q8.1] q8.2)).bind fun A9 => (gN A9 r0 5 0).bind fun n10 => (xV (xC E d 22 [.ref n10, .int i1, .int i6] A9)).bind fun A11 => xD E (d + 1) 50 82 [.ref r0, .int i1, .ref r2, .int i3, .int i4, xJ, .int i6, .int (i7 + (1 : Int32)), .int q4.1] [] A11 else xD E (d + 1) 50 82 [.ref r0, .int i1, .ref r2, .int i3, .int i4, xJ, .int (i6 + (1 : Int32)), .int (i7 + (1 : Int32)), .int q4.1] [] q5.2 := (xD_bex E d h_50 [82, 170] 90 82 _ _ _).trans rfl
set_option maxRecDepth 100000 in
theorem e50_170 (E : Nat × (Nat → Int32)) (d : Nat) (r0 : Nat) (w1 : Value) (w2 : Value) (i3 : Int32) (i4 : Int32) (w5 : Value) (w6 : Value) (w7 : Value) (w8 : Value) (A : xH) : xD E (d + 1) 50 170 [.ref r0, w1, w2, .int i3, .int i4, w5, w6, w7, w8] [] A = (xV (xC E d 51 [.ref r0, .int i3, .int i3] A)).bind fun A1 => (gI A1 r0 5 6).bind fun x2 => (pF A1 r0 5 6 (.int (xmax x2 (i4 + (1 : Int32))))).bind fun A3 => some (some (.int i3), A3) := (xD_bex E d h_50 [82, 170] 90 170 _ _ _).trans rfl
-- Store.giveSlots (II)V
set_option maxRecDepth 100000 in
theorem h_51 : xprog[51]? = some M_51 := rfl
set_option maxRecDepth 100000 in
theorem e51_0 (E : Nat × (Nat → Int32)) (d : Nat) (r0 : Nat) (i1 : Int32) (i2 : Int32) (A : xH) : xD E (d + 1) 51 0 [.ref r0, .int i1, .int i2, xJ, xJ] [] A = (gN A r0 5 0).bind fun n1 => (xI (xC E d 12 [.ref n1, .int i1] A)).bind fun q2 => (gN q2.2 r0 5 0).bind fun n3 => (xI (xC E d 13 [.ref n3, .int i1] q2.2)).bind fun q4 => xD E (d + 1) 51 21 [.ref r0, .int i1, .int i2, .int ((1 : Int32) <<< (q2.1 &&& 31)), .int q4.1] [] q4.2 := (xD_bex E d h_51 [21] 90 0 _ _ _).trans rfl
set_option maxRecDepth 100000 in
theorem e51_21 (E : Nat × (Nat → Int32)) (d : Nat) (r0 : Nat) (w1 : Value) (i2 : Int32) (i3 : Int32) (i4 : Int32) (A : xH) : xD E (d + 1) 51 21 [.ref r0, w1, .int i2, .int i3, .int i4] [] A = if (64 : Int32) ≤ i4 then some (none, A) else (gN A r0 5 2).bind fun n1 => (sI 0 A n1 i4 i2).bind fun A2 => xD E (d + 1) 51 21 [.ref r0, xJ, .int i2, .int i3, .int (i4 + i3)] [] A2 := (xD_bex E d h_51 [21] 90 21 _ _ _).trans rfl
-- Store.removeKey (ILTwinBuckets$Rules;)I
set_option maxRecDepth 100000 in
theorem h_52 : xprog[52]? = some M_52 := rfl
set_option maxRecDepth 100000 in
theorem e52_0 (E : Nat × (Nat → Int32)) (d : Nat) (r0 : Nat) (i1 : Int32) (r2 : Nat) (A : xH) : xD E (d + 1) 52 0 [.ref r0, .int i1, .ref r2, xJ, xJ, xJ, xJ, xJ, xJ, xJ, xJ] [] A = (xI (xC E d 139 [.int i1] A)).bind fun q1 => if q1.1 = 0 then some (some (.int (-1 : Int32)), q1.2) else (xI (xC E d 45 [.ref r0, .int i1, .ref r2] q1.2)).bind fun q2 => (gN q2.2 r0 5 0).bind fun n3 => (xI (xC E d 20 [.ref n3, .int q2.1, .int i1] q2.2)).bind fun q4 => if q4.1 = (-1 : Int32) then some (some (.int (-3 : Int32)), q4.2) else (gN q4.2 r0 5 0).bind fun n5 => (xV (xC E d 22 [.ref n5, .int q2.1, .int q4.1] q4.2)).bind fun A6 => (xV (xC E d 55 [.ref r0, .int q2.1, .ref r2] A6)).bind fun A7 => xD E (d + 1) 52 58 [.ref r0, .int i1, .ref r2, .int q2.1, .int q4.1, .int (0 : Int32), .int (0 : Int32), xJ, xJ, xJ, xJ] [] A7 := (xD_bex E d h_52 [58, 128, 154] 90 0 _ _ _).trans rfl
set_option maxRecDepth 100000 in
theorem e52_58 (E : Nat × (Nat → Int32)) (d : Nat) (r0 : Nat) (w1 : Value) (r2 : Nat) (i3 : Int32) (w4 : Value) (i5 : Int32) (i6 : Int32) (w7 : Value) (w8 : Value) (w9 : Value) (w10 : Value) (A : xH) : xD E (d + 1) 52 58 [.ref r0, w1, .ref r2, .int i3, w4, .int i5, .int i6, w7, w8, w9, w10] [] A = if (6 : Int32) ≤ i6 then (gN A r0 5 0).bind fun n1 => (xI (xC E d 25 [.ref n1] A)).bind fun q2 => (pF q2.2 r0 5 6 (.int q2.1)).bind fun A3 => some (some (.int i5), A3) else (xI (xC E d 53 [.ref r0, .int i3] A)).bind fun q4 => if q4.1 = (-1 : Int32) then (gN q4.2 r0 5 0).bind fun n5 => (xI (xC E d 25 [.ref n5] q4.2)).bind fun q6 => (pF q6.2 r0 5 6 (.int q6.1)).bind fun A7 => some (some (.int i5), A7) else (gN q4.2 r0 5 0).bind fun n8 => (xI (xC E d 14 [.ref n8, .int i3] q4.2)).bind fun q9 => (gN q9.2 r0 5 0).bind fun n10 => (xI (xC E d 14 [.ref n10, .int q4.1] q9.2)).bind fun q11 => if (q9.1 + q11.1) ≤ (3 : Int32) then (gN q11.2 r0 5 0).bind fun n12 => (xI (xC E d 13 [.ref n12, .int i3] q11.2)).bind fun q13 => (gN q13.2 r0 5 0).bind fun n14 => (xI (xC E d 13 [.ref n14, .int q4.1] q13.2)).bind fun q15 => if q15.1 ≤ q13.1 then xD E (d + 1) 52 128 [.ref r0, xJ, .ref r2, .int i3, xJ, .int i5, .int i6, .int q4.1, xJ, xJ, xJ] [.int (0 : Int32)] q15.2 else xD E (d + 1) 52 128 [.ref r0, xJ, .ref r2, .int i3, xJ, .int i5, .int i6, .int q4.1, xJ, xJ, xJ] [.int (1 : Int32)] q15.2 else (gN q11.2 r0 5 0).bind fun n16 => (xI (xC E d 25 [.ref n16] q11.2)).bind fun q17 => (pF q17.2 r0 5 6 (.int q17.1)).bind fun A18 => some (some (.int i5), A18) := (xD_bex E d h_52 [58, 128, 154] 90 58 _ _ _).trans rfl
set_option maxRecDepth 100000 in
theorem e52_128 (E : Nat × (Nat → Int32)) (d : Nat) (r0 : Nat) (w1 : Value) (r2 : Nat) (i3 : Int32) (w4 : Value) (i5 : Int32) (i6 : Int32) (i7 : Int32) (w8 : Value) (w9 : Value) (w10 : Value) (s0 : Int32) (A : xH) : xD E (d + 1) 52 128 [.ref r0, w1, .ref r2, .int i3, w4, .int i5, .int i6, .int i7, w8, w9, w10] [.int s0] A = if s0 = 0 then if s0 = 0 then xD E (d + 1) 52 154 [.ref r0, xJ, .ref r2, .int i3, xJ, .int i5, .int i6, .int i7, .int s0, .int i7, xJ] [.int i3] A else xD E (d + 1) 52 154 [.ref r0, xJ, .ref r2, .int i3, xJ, .int i5, .int i6, .int i7, .int s0, .int i7, xJ] [.int i7] A else if s0 = 0 then xD E (d + 1) 52 154 [.ref r0, xJ, .ref r2, .int i3, xJ, .int i5, .int i6, .int i7, .int s0, .int i3, xJ] [.int i3] A else xD E (d + 1) 52 154 [.ref r0, xJ, .ref r2, .int i3, xJ, .int i5, .int i6, .int i7, .int s0, .int i3, xJ] [.int i7] A := (xD_bex E d h_52 [58, 128, 154] 90 128 _ _ _).trans rfl
set_option maxRecDepth 100000 in
theorem e52_154 (E : Nat × (Nat → Int32)) (d : Nat) (r0 : Nat) (w1 : Value) (r2 : Nat) (w3 : Value) (w4 : Value) (i5 : Int32) (i6 : Int32) (w7 : Value) (w8 : Value) (i9 : Int32) (w10 : Value) (s0 : Int32) (A : xH) : xD E (d + 1) 52 154 [.ref r0, w1, .ref r2, w3, w4, .int i5, .int i6, w7, w8, .int i9, w10] [.int s0] A = (xV (xC E d 54 [.ref r0, .int i9, .int s0] A)).bind fun A1 => (xV (xC E d 55 [.ref r0, .int i9, .ref r2] A1)).bind fun A2 => (xV (xC E d 55 [.ref r0, .int s0, .ref r2] A2)).bind fun A3 => xD E (d + 1) 52 58 [.ref r0, xJ, .ref r2, .int i9, xJ, .int (i5 + (1 : Int32)), .int (i6 + (1 : Int32)), xJ, xJ, .int i9, .int s0] [] A3 := (xD_bex E d h_52 [58, 128, 154] 90 154 _ _ _).trans rfl
-- Store.twinOf (I)I
set_option maxRecDepth 100000 in
theorem h_53 : xprog[53]? = some M_53 := rfl
set_option maxRecDepth 100000 in
theorem e53_0 (E : Nat × (Nat → Int32)) (d : Nat) (r0 : Nat) (i1 : Int32) (A : xH) : xD E (d + 1) 53 0 [.ref r0, .int i1, xJ, xJ] [] A = (gN A r0 5 0).bind fun n1 => (xI (xC E d 12 [.ref n1, .int i1] A)).bind fun q2 => (gN q2.2 r0 5 0).bind fun n3 => (xI (xC E d 11 [.ref n3, .int i1] q2.2)).bind fun q4 => if q4.1 = 0 then some (some (.int (-1 : Int32)), q4.2) else if q2.1 = 0 then some (some (.int (-1 : Int32)), q4.2) else (gN q4.2 r0 5 2).bind fun n5 => (gN q4.2 r0 5 0).bind fun n6 => (xI (xC E d 13 [.ref n6, .int i1] q4.2)).bind fun q7 => (aI 0 q7.2 n5 (q7.1 ^^^ ((1 : Int32) <<< ((q2.1 - (1 : Int32)) &&& 31)))).bind fun x8 => (gN q7.2 r0 5 0).bind fun n9 => (xI (xC E d 12 [.ref n9, .int x8] q7.2)).bind fun q10 => if q10.1 = q2.1 then some (some (.int x8), q10.2) else some (some (.int (-1 : Int32)), q10.2) := (xD_bex E d h_53 [] 90 0 _ _ _).trans rfl
-- Store.joinTwins (II)V
set_option maxRecDepth 100000 in
theorem h_54 : xprog[54]? = some M_54 := rfl
set_option maxRecDepth 100000 in
theorem e54_0 (E : Nat × (Nat → Int32)) (d : Nat) (r0 : Nat) (i1 : Int32) (i2 : Int32) (A : xH) : xD E (d + 1) 54 0 [.ref r0, .int i1, .int i2, xJ] [] A = (xV (xC E d 51 [.ref r0, .int i2, .int i1] A)).bind fun A1 => xD E (d + 1) 54 8 [.ref r0, .int i1, .int i2, .int (0 : Int32)] [] A1 := (xD_bex E d h_54 [8] 90 0 _ _ _).trans rfl
set_option maxRecDepth 100000 in
theorem e54_8 (E : Nat × (Nat → Int32)) (d : Nat) (r0 : Nat) (i1 : Int32) (i2 : Int32) (i3 : Int32) (A : xH) : xD E (d + 1) 54 8 [.ref r0, .int i1, .int i2, .int i3] [] A = (gN A r0 5 0).bind fun n1 => (xI (xC E d 14 [.ref n1, .int i2] A)).bind fun q2 => if q2.1 ≤ i3 then (gN q2.2 r0 5 0).bind fun n3 => (xV (xC E d 19 [.ref n3, .int i2] q2.2)).bind fun A4 => (gN A4 r0 5 0).bind fun n5 => (gN A4 r0 5 0).bind fun n6 => (xI (xC E d 12 [.ref n6, .int i1] A4)).bind fun q7 => (gN q7.2 r0 5 0).bind fun n8 => (xI (xC E d 13 [.ref n8, .int i1] q7.2)).bind fun q9 => (xV (xC E d 18 [.ref n5, .int i1, .int (q7.1 - (1 : Int32)), .int q9.1] q9.2)).bind fun A10 => some (none, A10) else (gN q2.2 r0 5 0).bind fun n11 => (gN q2.2 r0 5 0).bind fun n12 => (xI (xC E d 15 [.ref n12, .int i2, .int i3] q2.2)).bind fun q13 => (gN q13.2 r0 5 0).bind fun n14 => (xI (xC E d 16 [.ref n14, .int i2, .int i3] q13.2)).bind fun q15 => (xV (xC E d 21 [.ref n11, .int i1, .int q13.1, .int q15.1] q15.2)).bind fun A16 => xD E (d + 1) 54 8 [.ref r0, .int i1, .int i2, .int (i3 + (1 : Int32))] [] A16 := (xD_bex E d h_54 [8] 90 8 _ _ _).trans rfl
-- Store.queueWrite (ILTwinBuckets$Rules;)V
set_option maxRecDepth 100000 in
theorem h_55 : xprog[55]? = some M_55 := rfl
set_option maxRecDepth 100000 in
theorem e55_0 (E : Nat × (Nat → Int32)) (d : Nat) (r0 : Nat) (i1 : Int32) (r2 : Nat) (A : xH) : xD E (d + 1) 55 0 [.ref r0, .int i1, .ref r2, xJ, xJ] [] A = (gI A r2 3 4).bind fun x1 => (xI (xC E d 33 [.ref r2, .int x1, .ref r0, .int i1] A)).bind fun q2 => (gI q2.2 r0 5 5).bind fun x3 => if x3 = (40 : Int32) then (xV (xC E d 57 [.ref r0] q2.2)).bind fun A4 => xD E (d + 1) 55 24 [.ref r0, .int i1, .ref r2, .int q2.1, xJ] [] A4 else xD E (d + 1) 55 24 [.ref r0, .int i1, .ref r2, .int q2.1, xJ] [] q2.2 := (xD_bex E d h_55 [24] 90 0 _ _ _).trans rfl
set_option maxRecDepth 100000 in
theorem e55_24 (E : Nat × (Nat → Int32)) (d : Nat) (r0 : Nat) (i1 : Int32) (w2 : Value) (i3 : Int32) (w4 : Value) (A : xH) : xD E (d + 1) 55 24 [.ref r0, .int i1, w2, .int i3, w4] [] A = (gI A r0 5 5).bind fun x1 => (xI (xC E d 56 [.ref r0, .int x1] A)).bind fun q2 => (gN q2.2 r0 5 3).bind fun n3 => (sI 0 q2.2 n3 q2.1 i1).bind fun A4 => (gN A4 r0 5 3).bind fun n5 => (sI 0 A4 n5 (q2.1 + (1 : Int32)) i3).bind fun A6 => (gN A6 r0 5 0).bind fun n7 => (gN A6 n7 2 0).bind fun n8 => (gN A6 r0 5 3).bind fun n9 => (xcopy A6 n8 (i1 * (10 : Int32)) n9 (q2.1 + (2 : Int32)) (10 : Int32)).bind fun A10 => (gI A10 r0 5 5).bind fun x11 => (pF A10 r0 5 5 (.int (x11 + (1 : Int32)))).bind fun A12 => (gI A12 r0 5 7).bind fun x13 => (pF A12 r0 5 7 (.int (xmin (x13 + (1 : Int32)) (999 : Int32)))).bind fun A14 => some (none, A14) := (xD_bex E d h_55 [24] 90 24 _ _ _).trans rfl
-- Store.writeAt (I)I
set_option maxRecDepth 100000 in
theorem h_56 : xprog[56]? = some M_56 := rfl
set_option maxRecDepth 100000 in
theorem e56_0 (E : Nat × (Nat → Int32)) (d : Nat) (r0 : Nat) (i1 : Int32) (A : xH) : xD E (d + 1) 56 0 [.ref r0, .int i1] [] A = (gI A r0 5 4).bind fun x1 => some (some (.int ((xrem (x1 + i1) (40 : Int32)) * (12 : Int32))), A) := (xD_bex E d h_56 [] 90 0 _ _ _).trans rfl
-- Store.doEldest ()V
set_option maxRecDepth 100000 in
theorem h_57 : xprog[57]? = some M_57 := rfl
set_option maxRecDepth 100000 in
theorem e57_0 (E : Nat × (Nat → Int32)) (d : Nat) (r0 : Nat) (A : xH) : xD E (d + 1) 57 0 [.ref r0, xJ] [] A = (xI (xC E d 56 [.ref r0, .int (0 : Int32)] A)).bind fun q1 => (gN q1.2 r0 5 3).bind fun n2 => (gN q1.2 r0 5 1).bind fun n3 => (gN q1.2 n3 2 0).bind fun n4 => (gN q1.2 r0 5 3).bind fun n5 => (aI 0 q1.2 n5 q1.1).bind fun x6 => (xcopy q1.2 n2 (q1.1 + (2 : Int32)) n4 (x6 * (10 : Int32)) (10 : Int32)).bind fun A7 => (gI A7 r0 5 4).bind fun x8 => (pF A7 r0 5 4 (.int (xrem (x8 + (1 : Int32)) (40 : Int32)))).bind fun A9 => (gI A9 r0 5 5).bind fun x10 => (pF A9 r0 5 5 (.int (x10 - (1 : Int32)))).bind fun A11 => some (none, A11) := (xD_bex E d h_57 [] 90 0 _ _ _).trans rfl
-- Store.tellWrite (II)I
set_option maxRecDepth 100000 in
theorem h_58 : xprog[58]? = some M_58 := rfl
set_option maxRecDepth 100000 in
theorem e58_0 (E : Nat × (Nat → Int32)) (d : Nat) (r0 : Nat) (i1 : Int32) (i2 : Int32) (A : xH) : xD E (d + 1) 58 0 [.ref r0, .int i1, .int i2, xJ] [] A = if i1 < 0 then some (some (.int (-1 : Int32)), A) else (gI A r0 5 5).bind fun x1 => if i1 < x1 then (xI (xC E d 56 [.ref r0, .int i1] A)).bind fun q2 => if i2 = (0 : Int32) then (gN q2.2 r0 5 3).bind fun n3 => (aI 0 q2.2 n3 q2.1).bind fun x4 => some (some (.int x4), q2.2) else if i2 = (1 : Int32) then (gN q2.2 r0 5 3).bind fun n5 => (aI 0 q2.2 n5 (q2.1 + (1 : Int32))).bind fun x6 => some (some (.int x6), q2.2) else if i2 = (2 : Int32) then (gN q2.2 r0 5 3).bind fun n7 => (aI 0 q2.2 n7 ((q2.1 + (2 : Int32)) + (0 : Int32))).bind fun x8 => if x8 = 0 then some (some (.int (-1 : Int32)), q2.2) else (gN q2.2 r0 5 3).bind fun n9 => (aI 0 q2.2 n9 ((q2.1 + (2 : Int32)) + (3 : Int32))).bind fun x10 => some (some (.int x10), q2.2) else some (some (.int (-1 : Int32)), q2.2) else some (some (.int (-1 : Int32)), A) := (xD_bex E d h_58 [] 90 0 _ _ _).trans rfl
-- Store.costOfWaiting ()I
set_option maxRecDepth 100000 in
theorem h_59 : xprog[59]? = some M_59 := rfl
set_option maxRecDepth 100000 in
theorem e59_0 (E : Nat × (Nat → Int32)) (d : Nat) (r0 : Nat) (A : xH) : xD E (d + 1) 59 0 [.ref r0, xJ, xJ] [] A = xD E (d + 1) 59 4 [.ref r0, .int (0 : Int32), .int (0 : Int32)] [] A := (xD_bex E d h_59 [4] 90 0 _ _ _).trans rfl
set_option maxRecDepth 100000 in
theorem e59_4 (E : Nat × (Nat → Int32)) (d : Nat) (r0 : Nat) (i1 : Int32) (i2 : Int32) (A : xH) : xD E (d + 1) 59 4 [.ref r0, .int i1, .int i2] [] A = (gI A r0 5 5).bind fun x1 => if x1 ≤ i2 then some (some (.int i1), A) else (gN A r0 5 3).bind fun n2 => (xI (xC E d 56 [.ref r0, .int i2] A)).bind fun q3 => (aI 0 q3.2 n2 (q3.1 + (1 : Int32))).bind fun x4 => xD E (d + 1) 59 4 [.ref r0, .int (i1 + x4), .int (i2 + (1 : Int32))] [] q3.2 := (xD_bex E d h_59 [4] 90 4 _ _ _).trans rfl
-- Store.doWrites (I)I
set_option maxRecDepth 100000 in
theorem h_60 : xprog[60]? = some M_60 := rfl
set_option maxRecDepth 100000 in
theorem e60_0 (E : Nat × (Nat → Int32)) (d : Nat) (r0 : Nat) (i1 : Int32) (A : xH) : xD E (d + 1) 60 0 [.ref r0, .int i1, xJ] [] A = if 0 ≤ i1 then (gI A r0 5 5).bind fun x1 => if i1 ≤ x1 then xD E (d + 1) 60 19 [.ref r0, .int i1, .int (0 : Int32)] [] A else some (some (.int (-3 : Int32)), A) else some (some (.int (-1 : Int32)), A) := (xD_bex E d h_60 [19] 90 0 _ _ _).trans rfl
set_option maxRecDepth 100000 in
theorem e60_19 (E : Nat × (Nat → Int32)) (d : Nat) (r0 : Nat) (i1 : Int32) (i2 : Int32) (A : xH) : xD E (d + 1) 60 19 [.ref r0, .int i1, .int i2] [] A = if i1 ≤ i2 then (gI A r0 5 5).bind fun x1 => some (some (.int x1), A) else (xV (xC E d 57 [.ref r0] A)).bind fun A2 => xD E (d + 1) 60 19 [.ref r0, .int i1, .int (i2 + (1 : Int32))] [] A2 := (xD_bex E d h_60 [19] 90 19 _ _ _).trans rfl
-- Store.losePower (ILTwinBuckets$Rules;)I
set_option maxRecDepth 100000 in
theorem h_61 : xprog[61]? = some M_61 := rfl
set_option maxRecDepth 100000 in
theorem e61_0 (E : Nat × (Nat → Int32)) (d : Nat) (r0 : Nat) (i1 : Int32) (r2 : Nat) (A : xH) : xD E (d + 1) 61 0 [.ref r0, .int i1, .ref r2, xJ, xJ] [] A = (xI (xC E d 60 [.ref r0, .int i1] A)).bind fun q1 => if 0 ≤ q1.1 then (pF q1.2 r0 5 5 (.int (0 : Int32))).bind fun A2 => (xV (xC E d 62 [.ref r0] A2)).bind fun A3 => (gN A3 r0 5 0).bind fun n4 => (gN A3 r0 5 1).bind fun n5 => (xV (xC E d 9 [.ref n4, .ref n5] A3)).bind fun A6 => xD E (d + 1) 61 35 [.ref r0, .int i1, .ref r2, .int q1.1, .int (0 : Int32)] [] A6 else some (some (.int q1.1), q1.2) := (xD_bex E d h_61 [35] 90 0 _ _ _).trans rfl
set_option maxRecDepth 100000 in
theorem e61_35 (E : Nat × (Nat → Int32)) (d : Nat) (r0 : Nat) (w1 : Value) (r2 : Nat) (w3 : Value) (i4 : Int32) (A : xH) : xD E (d + 1) 61 35 [.ref r0, w1, .ref r2, w3, .int i4] [] A = if (24 : Int32) ≤ i4 then (gN A r0 5 1).bind fun n1 => (gN A r0 5 0).bind fun n2 => (xV (xC E d 9 [.ref n1, .ref n2] A)).bind fun A3 => (gN A3 r0 5 0).bind fun n4 => (xI (xC E d 25 [.ref n4] A3)).bind fun q5 => (pF q5.2 r0 5 6 (.int q5.1)).bind fun A6 => (xI (xC E d 44 [.ref r0] A6)).bind fun q7 => some (some (.int q7.1), q7.2) else (gN A r0 5 1).bind fun n8 => (xI (xC E d 11 [.ref n8, .int i4] A)).bind fun q9 => if q9.1 = 0 then xD E (d + 1) 61 35 [.ref r0, xJ, .ref r2, xJ, .int (i4 + (1 : Int32))] [] q9.2 else (xV (xC E d 63 [.ref r0, .int i4, .ref r2] q9.2)).bind fun A10 => xD E (d + 1) 61 35 [.ref r0, xJ, .ref r2, xJ, .int (i4 + (1 : Int32))] [] A10 := (xD_bex E d h_61 [35] 90 35 _ _ _).trans rfl
-- Store.findOwners ()V
set_option maxRecDepth 100000 in
theorem h_62 : xprog[62]? = some M_62 := rfl
set_option maxRecDepth 100000 in
theorem e62_0 (E : Nat × (Nat → Int32)) (d : Nat) (r0 : Nat) (A : xH) : xD E (d + 1) 62 0 [.ref r0, xJ, xJ, xJ] [] A = (gN A r0 5 2).bind fun n1 => (xV (xC E d 297 [.ref n1, .int (-1 : Int32)] A)).bind fun A2 => xD E (d + 1) 62 10 [.ref r0, .int (0 : Int32), xJ, xJ] [] A2 := (xD_bex E d h_62 [10, 50] 90 0 _ _ _).trans rfl
set_option maxRecDepth 100000 in
theorem e62_10 (E : Nat × (Nat → Int32)) (d : Nat) (r0 : Nat) (i1 : Int32) (w2 : Value) (w3 : Value) (A : xH) : xD E (d + 1) 62 10 [.ref r0, .int i1, w2, w3] [] A = if (24 : Int32) ≤ i1 then some (none, A) else (gN A r0 5 1).bind fun n1 => (xI (xC E d 11 [.ref n1, .int i1] A)).bind fun q2 => if q2.1 = 0 then xD E (d + 1) 62 10 [.ref r0, .int (i1 + (1 : Int32)), xJ, xJ] [] q2.2 else (gN q2.2 r0 5 1).bind fun n3 => (xI (xC E d 12 [.ref n3, .int i1] q2.2)).bind fun q4 => (gN q4.2 r0 5 1).bind fun n5 => (xI (xC E d 13 [.ref n5, .int i1] q4.2)).bind fun q6 => xD E (d + 1) 62 50 [.ref r0, .int i1, .int ((1 : Int32) <<< (q4.1 &&& 31)), .int q6.1] [] q6.2 := (xD_bex E d h_62 [10, 50] 90 10 _ _ _).trans rfl
set_option maxRecDepth 100000 in
theorem e62_50 (E : Nat × (Nat → Int32)) (d : Nat) (r0 : Nat) (i1 : Int32) (i2 : Int32) (i3 : Int32) (A : xH) : xD E (d + 1) 62 50 [.ref r0, .int i1, .int i2, .int i3] [] A = if (64 : Int32) ≤ i3 then xD E (d + 1) 62 10 [.ref r0, .int (i1 + (1 : Int32)), .int i2, .int i3] [] A else (gN A r0 5 2).bind fun n1 => (aI 0 A n1 i3).bind fun x2 => if x2 = (-1 : Int32) then (gN A r0 5 2).bind fun n3 => (sI 0 A n3 i3 i1).bind fun A4 => xD E (d + 1) 62 50 [.ref r0, .int i1, .int i2, .int (i3 + i2)] [] A4 else (gN A r0 5 1).bind fun n5 => (gN A r0 5 2).bind fun n6 => (aI 0 A n6 i3).bind fun x7 => (xI (xC E d 12 [.ref n5, .int x7] A)).bind fun q8 => (gN q8.2 r0 5 1).bind fun n9 => (xI (xC E d 12 [.ref n9, .int i1] q8.2)).bind fun q10 => if q10.1 ≤ q8.1 then xD E (d + 1) 62 50 [.ref r0, .int i1, .int i2, .int (i3 + i2)] [] q10.2 else (gN q10.2 r0 5 2).bind fun n11 => (sI 0 q10.2 n11 i3 i1).bind fun A12 => xD E (d + 1) 62 50 [.ref r0, .int i1, .int i2, .int (i3 + i2)] [] A12 := (xD_bex E d h_62 [10, 50] 90 50 _ _ _).trans rfl
-- Store.rebuildBucket (ILTwinBuckets$Rules;)V
set_option maxRecDepth 100000 in
theorem h_63 : xprog[63]? = some M_63 := rfl
set_option maxRecDepth 100000 in
theorem e63_0 (E : Nat × (Nat → Int32)) (d : Nat) (r0 : Nat) (i1 : Int32) (r2 : Nat) (A : xH) : xD E (d + 1) 63 0 [.ref r0, .int i1, .ref r2, xJ, xJ, xJ, xJ, xJ, xJ] [] A = (gN A r0 5 1).bind fun n1 => (xI (xC E d 12 [.ref n1, .int i1] A)).bind fun q2 => (gN q2.2 r0 5 1).bind fun n3 => (xI (xC E d 13 [.ref n3, .int i1] q2.2)).bind fun q4 => xD E (d + 1) 63 27 [.ref r0, .int i1, .ref r2, .int (-1 : Int32), .int (0 : Int32), .int ((1 : Int32) <<< (q2.1 &&& 31)), .int q4.1, xJ, xJ] [] q4.2 := (xD_bex E d h_63 [27, 91, 124] 90 0 _ _ _).trans rfl
set_option maxRecDepth 100000 in
theorem e63_27 (E : Nat × (Nat → Int32)) (d : Nat) (r0 : Nat) (i1 : Int32) (r2 : Nat) (i3 : Int32) (i4 : Int32) (i5 : Int32) (i6 : Int32) (w7 : Value) (w8 : Value) (A : xH) : xD E (d + 1) 63 27 [.ref r0, .int i1, .ref r2, .int i3, .int i4, .int i5, .int i6, w7, w8] [] A = if (64 : Int32) ≤ i6 then (gN A r0 5 0).bind fun n1 => (xV (xC E d 19 [.ref n1, .int i1] A)).bind fun A2 => if i4 = 0 then some (none, A2) else xD E (d + 1) 63 91 [.ref r0, .int i1, .ref r2, .int i3, .int i4, .int i5, .int (6 : Int32), .int (1 : Int32), xJ] [] A2 else (gN A r0 5 2).bind fun n3 => (aI 0 A n3 i6).bind fun x4 => if x4 = i1 then if i4 = 0 then xD E (d + 1) 63 27 [.ref r0, .int i1, .ref r2, .int i6, .int (i4 + (1 : Int32)), .int i5, .int (i6 + i5), xJ, xJ] [] A else xD E (d + 1) 63 27 [.ref r0, .int i1, .ref r2, .int i3, .int (i4 + (1 : Int32)), .int i5, .int (i6 + i5), xJ, xJ] [] A else xD E (d + 1) 63 27 [.ref r0, .int i1, .ref r2, .int i3, .int i4, .int i5, .int (i6 + i5), xJ, xJ] [] A := (xD_bex E d h_63 [27, 91, 124] 90 27 _ _ _).trans rfl
set_option maxRecDepth 100000 in
theorem e63_91 (E : Nat × (Nat → Int32)) (d : Nat) (r0 : Nat) (i1 : Int32) (r2 : Nat) (i3 : Int32) (i4 : Int32) (w5 : Value) (i6 : Int32) (i7 : Int32) (w8 : Value) (A : xH) : xD E (d + 1) 63 91 [.ref r0, .int i1, .ref r2, .int i3, .int i4, w5, .int i6, .int i7, w8] [] A = if i4 ≤ i7 then (gN A r0 5 0).bind fun n1 => (xV (xC E d 18 [.ref n1, .int i1, .int i6, .int i3] A)).bind fun A2 => xD E (d + 1) 63 124 [.ref r0, .int i1, .ref r2, .int i3, .int i4, xJ, .int i6, .int (0 : Int32), xJ] [] A2 else xD E (d + 1) 63 91 [.ref r0, .int i1, .ref r2, .int i3, .int i4, xJ, .int (i6 + (-1 : Int32)), .int (i7 * (2 : Int32)), xJ] [] A := (xD_bex E d h_63 [27, 91, 124] 90 91 _ _ _).trans rfl
set_option maxRecDepth 100000 in
theorem e63_124 (E : Nat × (Nat → Int32)) (d : Nat) (r0 : Nat) (i1 : Int32) (r2 : Nat) (w3 : Value) (w4 : Value) (w5 : Value) (w6 : Value) (i7 : Int32) (w8 : Value) (A : xH) : xD E (d + 1) 63 124 [.ref r0, .int i1, .ref r2, w3, w4, w5, w6, .int i7, w8] [] A = (gN A r0 5 1).bind fun n1 => (xI (xC E d 14 [.ref n1, .int i1] A)).bind fun q2 => if q2.1 ≤ i7 then some (none, q2.2) else (gN q2.2 r0 5 1).bind fun n3 => (xI (xC E d 15 [.ref n3, .int i1, .int i7] q2.2)).bind fun q4 => (xI (xC E d 45 [.ref r0, .int q4.1, .ref r2] q4.2)).bind fun q5 => if q5.1 = i1 then (gN q5.2 r0 5 0).bind fun n6 => (gN q5.2 r0 5 1).bind fun n7 => (xI (xC E d 16 [.ref n7, .int i1, .int i7] q5.2)).bind fun q8 => (xV (xC E d 21 [.ref n6, .int i1, .int q4.1, .int q8.1] q8.2)).bind fun A9 => xD E (d + 1) 63 124 [.ref r0, .int i1, .ref r2, xJ, xJ, xJ, xJ, .int (i7 + (1 : Int32)), .int q4.1] [] A9 else xD E (d + 1) 63 124 [.ref r0, .int i1, .ref r2, xJ, xJ, xJ, xJ, .int (i7 + (1 : Int32)), .int q4.1] [] q5.2 := (xD_bex E d h_63 [27, 91, 124] 90 124 _ _ _).trans rfl
-- Store.keysNotAlike (LTwinBuckets$Store;LTwinBuckets$Rules;)I
set_option maxRecDepth 100000 in
theorem h_64 : xprog[64]? = some M_64 := rfl
set_option maxRecDepth 100000 in
theorem e64_0 (E : Nat × (Nat → Int32)) (d : Nat) (r0 : Nat) (r1 : Nat) (r2 : Nat) (A : xH) : xD E (d + 1) 64 0 [.ref r0, .ref r1, .ref r2, xJ, xJ, xJ] [] A = xD E (d + 1) 64 5 [.ref r0, .ref r1, .ref r2, .int (0 : Int32), .int (0 : Int32), xJ] [] A := (xD_bex E d h_64 [5, 15] 90 0 _ _ _).trans rfl
set_option maxRecDepth 100000 in
theorem e64_5 (E : Nat × (Nat → Int32)) (d : Nat) (r0 : Nat) (r1 : Nat) (r2 : Nat) (i3 : Int32) (i4 : Int32) (w5 : Value) (A : xH) : xD E (d + 1) 64 5 [.ref r0, .ref r1, .ref r2, .int i3, .int i4, w5] [] A = if (24 : Int32) ≤ i4 then some (some (.int i3), A) else xD E (d + 1) 64 15 [.ref r0, .ref r1, .ref r2, .int i3, .int i4, .int (0 : Int32)] [] A := (xD_bex E d h_64 [5, 15] 90 5 _ _ _).trans rfl
set_option maxRecDepth 100000 in
theorem e64_15 (E : Nat × (Nat → Int32)) (d : Nat) (r0 : Nat) (r1 : Nat) (r2 : Nat) (i3 : Int32) (i4 : Int32) (i5 : Int32) (A : xH) : xD E (d + 1) 64 15 [.ref r0, .ref r1, .ref r2, .int i3, .int i4, .int i5] [] A = (gN A r0 5 0).bind fun n1 => (xI (xC E d 14 [.ref n1, .int i4] A)).bind fun q2 => if q2.1 ≤ i5 then xD E (d + 1) 64 5 [.ref r0, .ref r1, .ref r2, .int i3, .int (i4 + (1 : Int32)), .int i5] [] q2.2 else (gN q2.2 r0 5 0).bind fun n3 => (xI (xC E d 15 [.ref n3, .int i4, .int i5] q2.2)).bind fun q4 => (xI (xC E d 46 [.ref r1, .int q4.1, .ref r2] q4.2)).bind fun q5 => (gN q5.2 r0 5 0).bind fun n6 => (xI (xC E d 16 [.ref n6, .int i4, .int i5] q5.2)).bind fun q7 => if q5.1 = q7.1 then xD E (d + 1) 64 15 [.ref r0, .ref r1, .ref r2, .int i3, .int i4, .int (i5 + (1 : Int32))] [] q7.2 else xD E (d + 1) 64 15 [.ref r0, .ref r1, .ref r2, .int (i3 + (1 : Int32)), .int i4, .int (i5 + (1 : Int32))] [] q7.2 := (xD_bex E d h_64 [5, 15] 90 15 _ _ _).trans rfl
-- Store.slotsNotAlike (LTwinBuckets$Store;)I
set_option maxRecDepth 100000 in
theorem h_65 : xprog[65]? = some M_65 := rfl
set_option maxRecDepth 100000 in
theorem e65_0 (E : Nat × (Nat → Int32)) (d : Nat) (r0 : Nat) (r1 : Nat) (A : xH) : xD E (d + 1) 65 0 [.ref r0, .ref r1, xJ, xJ, xJ] [] A = (xI (xC E d 43 [.ref r0] A)).bind fun q1 => (xI (xC E d 43 [.ref r1] q1.2)).bind fun q2 => (xI (xC E d 43 [.ref r0] q2.2)).bind fun q3 => (xI (xC E d 43 [.ref r1] q3.2)).bind fun q4 => xD E (d + 1) 65 29 [.ref r0, .ref r1, .int (xmin q1.1 q2.1), .int ((xmax q3.1 q4.1) - (xmin q1.1 q2.1)), .int (0 : Int32)] [] q4.2 := (xD_bex E d h_65 [29] 90 0 _ _ _).trans rfl
set_option maxRecDepth 100000 in
theorem e65_29 (E : Nat × (Nat → Int32)) (d : Nat) (r0 : Nat) (r1 : Nat) (i2 : Int32) (i3 : Int32) (i4 : Int32) (A : xH) : xD E (d + 1) 65 29 [.ref r0, .ref r1, .int i2, .int i3, .int i4] [] A = if i2 ≤ i4 then some (some (.int i3), A) else (gN A r0 5 2).bind fun n1 => (aI 0 A n1 i4).bind fun x2 => (gN A r1 5 2).bind fun n3 => (aI 0 A n3 i4).bind fun x4 => if x2 = x4 then xD E (d + 1) 65 29 [.ref r0, .ref r1, .int i2, .int i3, .int (i4 + (1 : Int32))] [] A else xD E (d + 1) 65 29 [.ref r0, .ref r1, .int i2, .int (i3 + (1 : Int32)), .int (i4 + (1 : Int32))] [] A := (xD_bex E d h_65 [29] 90 29 _ _ _).trans rfl
-- Store.wouldSplit (ILTwinBuckets$Rules;)Z
set_option maxRecDepth 100000 in
theorem h_66 : xprog[66]? = some M_66 := rfl
set_option maxRecDepth 100000 in
theorem e66_0 (E : Nat × (Nat → Int32)) (d : Nat) (r0 : Nat) (i1 : Int32) (r2 : Nat) (A : xH) : xD E (d + 1) 66 0 [.ref r0, .int i1, .ref r2, xJ] [] A = (xI (xC E d 45 [.ref r0, .int i1, .ref r2] A)).bind fun q1 => (gN q1.2 r0 5 0).bind fun n2 => (xI (xC E d 20 [.ref n2, .int q1.1, .int i1] q1.2)).bind fun q3 => if q3.1 = (-1 : Int32) then (xI (xC E d 29 [.ref r2, .int i1] q3.2)).bind fun q4 => (xI (xC E d 49 [.ref r0, .int q1.1, .int q4.1, .ref r2] q4.2)).bind fun q5 => if q5.1 ≤ 0 then some (some (.int (0 : Int32)), q5.2) else (xI (xC E d 47 [.ref r0, .int i1, .ref r2] q5.2)).bind fun q6 => if q6.1 = 0 then some (some (.int (1 : Int32)), q6.2) else some (some (.int (0 : Int32)), q6.2) else some (some (.int (0 : Int32)), q3.2) := (xD_bex E d h_66 [] 90 0 _ _ _).trans rfl
-- Store.bucketsBySalt (I[I)I
set_option maxRecDepth 100000 in
theorem h_67 : xprog[67]? = some M_67 := rfl
set_option maxRecDepth 100000 in
theorem e67_0 (E : Nat × (Nat → Int32)) (d : Nat) (r0 : Nat) (i1 : Int32) (r2 : Nat) (A : xH) : xD E (d + 1) 67 0 [.ref r0, .int i1, .ref r2, xJ, xJ, xJ] [] A = (xV (xC E d 297 [.ref r2, .int (0 : Int32)] A)).bind fun A1 => xD E (d + 1) 67 7 [.ref r0, .int i1, .ref r2, .int (0 : Int32), xJ, xJ] [] A1 := (xD_bex E d h_67 [7, 16, 85, 93] 90 0 _ _ _).trans rfl
set_option maxRecDepth 100000 in
theorem e67_7 (E : Nat × (Nat → Int32)) (d : Nat) (r0 : Nat) (i1 : Int32) (r2 : Nat) (i3 : Int32) (w4 : Value) (w5 : Value) (A : xH) : xD E (d + 1) 67 7 [.ref r0, .int i1, .ref r2, .int i3, w4, w5] [] A = if (24 : Int32) ≤ i3 then xD E (d + 1) 67 85 [.ref r0, .int i1, .ref r2, .int (1 : Int32), .int (32 : Int32), xJ] [] A else xD E (d + 1) 67 16 [.ref r0, .int i1, .ref r2, .int i3, .int (0 : Int32), xJ] [] A := (xD_bex E d h_67 [7, 16, 85, 93] 90 7 _ _ _).trans rfl
set_option maxRecDepth 100000 in
theorem e67_16 (E : Nat × (Nat → Int32)) (d : Nat) (r0 : Nat) (i1 : Int32) (r2 : Nat) (i3 : Int32) (i4 : Int32) (w5 : Value) (A : xH) : xD E (d + 1) 67 16 [.ref r0, .int i1, .ref r2, .int i3, .int i4, w5] [] A = (gN A r0 5 0).bind fun n1 => (xI (xC E d 14 [.ref n1, .int i3] A)).bind fun q2 => if q2.1 ≤ i4 then xD E (d + 1) 67 7 [.ref r0, .int i1, .ref r2, .int (i3 + (1 : Int32)), .int i4, xJ] [] q2.2 else (gN q2.2 r0 5 0).bind fun n3 => (xI (xC E d 15 [.ref n3, .int i3, .int i4] q2.2)).bind fun q4 => (xI (xC E d 28 [.int q4.1, .int i1] q4.2)).bind fun q5 => (aI 0 q5.2 r2 (q5.1 &&& (63 : Int32))).bind fun x6 => (sI 0 q5.2 r2 (q5.1 &&& (63 : Int32)) (x6 + (1 : Int32))).bind fun A7 => (aI 0 A7 r2 (q5.1 &&& (63 : Int32))).bind fun x8 => if x8 ≤ (3 : Int32) then xD E (d + 1) 67 16 [.ref r0, .int i1, .ref r2, .int i3, .int (i4 + (1 : Int32)), .int (q5.1 &&& (63 : Int32))] [] A7 else some (some (.int (25 : Int32)), A7) := (xD_bex E d h_67 [7, 16, 85, 93] 90 16 _ _ _).trans rfl
set_option maxRecDepth 100000 in
theorem e67_85 (E : Nat × (Nat → Int32)) (d : Nat) (w0 : Value) (w1 : Value) (r2 : Nat) (i3 : Int32) (i4 : Int32) (w5 : Value) (A : xH) : xD E (d + 1) 67 85 [w0, w1, .ref r2, .int i3, .int i4, w5] [] A = if i4 ≤ 0 then some (some (.int i3), A) else xD E (d + 1) 67 93 [xJ, xJ, .ref r2, .int i3, .int i4, .int (0 : Int32)] [] A := (xD_bex E d h_67 [7, 16, 85, 93] 90 85 _ _ _).trans rfl
set_option maxRecDepth 100000 in
theorem e67_93 (E : Nat × (Nat → Int32)) (d : Nat) (w0 : Value) (w1 : Value) (r2 : Nat) (i3 : Int32) (i4 : Int32) (i5 : Int32) (A : xH) : xD E (d + 1) 67 93 [w0, w1, .ref r2, .int i3, .int i4, .int i5] [] A = if i4 ≤ i5 then xD E (d + 1) 67 85 [xJ, xJ, .ref r2, .int i3, .int (i4 / (2 : Int32)), .int i5] [] A else (aI 0 A r2 i5).bind fun x1 => (aI 0 A r2 (i5 + i4)).bind fun x2 => (sI 0 A r2 i5 (x1 + x2)).bind fun A3 => (aI 0 A3 r2 i5).bind fun x4 => if x4 ≤ (3 : Int32) then xD E (d + 1) 67 93 [xJ, xJ, .ref r2, .int (i3 + (0 : Int32)), .int i4, .int (i5 + (1 : Int32))] [] A3 else xD E (d + 1) 67 93 [xJ, xJ, .ref r2, .int (i3 + (1 : Int32)), .int i4, .int (i5 + (1 : Int32))] [] A3 := (xD_bex E d h_67 [7, 16, 85, 93] 90 93 _ _ _).trans rfl
end
section
/-! ===== what each block does, an equation a block (printed by wip/whole/gen.py) ===== -/
-- Tape.init ()V
set_option maxRecDepth 100000 in
theorem h_68 : xprog[68]? = some M_68 := rfl
set_option maxRecDepth 100000 in
theorem e68_0 (E : Nat × (Nat → Int32)) (d : Nat) (r0 : Nat) (A : xH) : xD E (d + 1) 68 0 [.ref r0] [] A = (xV (xC E d 89 [.ref A.length] (A ++ [.inr (7, [.null, .null, .null, .null, .int 0, .int 0, .int 0])]))).bind fun A1 => (pF A1 r0 6 0 (.ref A.length)).bind fun A2 => (pF (A2 ++ [.inl (0, 400, .inl fun _ => 0)]) r0 6 1 (.ref A2.length)).bind fun A3 => (pF A3 r0 6 2 (.int (0 : Int32))).bind fun A4 => (pF A4 r0 6 3 (.int (0 : Int32))).bind fun A5 => (pF A5 r0 6 4 (.int (0 : Int32))).bind fun A6 => (pF A6 r0 6 5 (.int (0 : Int32))).bind fun A7 => (pF A7 r0 6 6 (.int (-1 : Int32))).bind fun A8 => (pF A8 r0 6 7 (.int (0 : Int32))).bind fun A9 => (pF A9 r0 6 8 (.int (0 : Int32))).bind fun A10 => (pF A10 r0 6 9 (.int (0 : Int32))).bind fun A11 => some (none, A11) := (xD_bex E d h_68 [] 90 0 _ _ _).trans rfl
-- Tape.addBytes (I)V
set_option maxRecDepth 100000 in
theorem h_69 : xprog[69]? = some M_69 := rfl
set_option maxRecDepth 100000 in
theorem e69_0 (E : Nat × (Nat → Int32)) (d : Nat) (r0 : Nat) (i1 : Int32) (A : xH) : xD E (d + 1) 69 0 [.ref r0, .int i1, xJ] [] A = xD E (d + 1) 69 3 [.ref r0, .int i1, .int (24 : Int32)] [] A := (xD_bex E d h_69 [3] 90 0 _ _ _).trans rfl
set_option maxRecDepth 100000 in
theorem e69_3 (E : Nat × (Nat → Int32)) (d : Nat) (r0 : Nat) (i1 : Int32) (i2 : Int32) (A : xH) : xD E (d + 1) 69 3 [.ref r0, .int i1, .int i2] [] A = if i2 < 0 then some (none, A) else (gI A r0 6 2).bind fun x1 => if (400 : Int32) ≤ x1 then some (none, A) else (gN A r0 6 1).bind fun n2 => (gI A r0 6 2).bind fun x3 => (sI 0 A n2 x3 ((xushr i1 i2) &&& (255 : Int32))).bind fun A4 => (gI A4 r0 6 2).bind fun x5 => (pF A4 r0 6 2 (.int (x5 + (1 : Int32)))).bind fun A6 => xD E (d + 1) 69 3 [.ref r0, .int i1, .int (i2 + (-8 : Int32))] [] A6 := (xD_bex E d h_69 [3] 90 3 _ _ _).trans rfl
-- Tape.take ()I
set_option maxRecDepth 100000 in
theorem h_70 : xprog[70]? = some M_70 := rfl
set_option maxRecDepth 100000 in
theorem e70_0 (E : Nat × (Nat → Int32)) (d : Nat) (r0 : Nat) (A : xH) : xD E (d + 1) 70 0 [.ref r0] [] A = (gI A r0 6 2).bind fun x1 => (pF A r0 6 3 (.int x1)).bind fun A2 => (pF A2 r0 6 2 (.int (0 : Int32))).bind fun A3 => (gI A3 r0 6 3).bind fun x4 => some (some (.int x4), A3) := (xD_bex E d h_70 [] 90 0 _ _ _).trans rfl
-- Tape.readText (Z)I
set_option maxRecDepth 100000 in
theorem h_71 : xprog[71]? = some M_71 := rfl
set_option maxRecDepth 100000 in
theorem e71_0 (E : Nat × (Nat → Int32)) (d : Nat) (r0 : Nat) (i1 : Int32) (A : xH) : xD E (d + 1) 71 0 [.ref r0, .int i1, xJ, xJ] [] A = if x01 i1 = true then (pF A r0 6 4 (.int i1)).bind fun A1 => (pF A1 r0 6 5 (.int (0 : Int32))).bind fun A2 => (pF A2 r0 6 8 (.int (0 : Int32))).bind fun A3 => (gN A3 r0 6 0).bind fun n4 => (xV (xC E d 91 [.ref n4] A3)).bind fun A5 => (xV (xC E d 72 [.ref r0] A5)).bind fun A6 => (xI (xC E d 76 [.ref r0] A6)).bind fun q7 => xD E (d + 1) 71 33 [.ref r0, .int i1, .int q7.1, .int (1 : Int32)] [] q7.2 else none := (xD_bex E d h_71 [33, 81] 90 0 _ _ _).trans rfl
set_option maxRecDepth 100000 in
theorem e71_33 (E : Nat × (Nat → Int32)) (d : Nat) (r0 : Nat) (w1 : Value) (i2 : Int32) (i3 : Int32) (A : xH) : xD E (d + 1) 71 33 [.ref r0, w1, .int i2, .int i3] [] A = if i2 = 0 then xD E (d + 1) 71 81 [.ref r0, xJ, .int i2, .int i3] [] A else (gI A r0 6 6).bind fun x1 => if x1 = (59 : Int32) then if (12 : Int32) < i3 then xD E (d + 1) 71 81 [.ref r0, xJ, .int i2, .int i3] [] A else (xV (xC E d 72 [.ref r0] A)).bind fun A2 => if (12 : Int32) ≤ i3 then xD E (d + 1) 71 33 [.ref r0, xJ, .int (0 : Int32), .int (i3 + (1 : Int32))] [] A2 else (xI (xC E d 76 [.ref r0] A2)).bind fun q3 => if q3.1 = 0 then xD E (d + 1) 71 33 [.ref r0, xJ, .int (0 : Int32), .int (i3 + (1 : Int32))] [] q3.2 else xD E (d + 1) 71 33 [.ref r0, xJ, .int (1 : Int32), .int (i3 + (1 : Int32))] [] q3.2 else xD E (d + 1) 71 81 [.ref r0, xJ, .int i2, .int i3] [] A := (xD_bex E d h_71 [33, 81] 90 33 _ _ _).trans rfl
set_option maxRecDepth 100000 in
theorem e71_81 (E : Nat × (Nat → Int32)) (d : Nat) (r0 : Nat) (w1 : Value) (i2 : Int32) (w3 : Value) (A : xH) : xD E (d + 1) 71 81 [.ref r0, w1, .int i2, w3] [] A = if i2 = 0 then (gI A r0 6 7).bind fun x1 => some (some (.int x1), A) else (gI A r0 6 6).bind fun x2 => if x2 = (-1 : Int32) then some (some (.int (-1 : Int32)), A) else (gI A r0 6 7).bind fun x3 => some (some (.int x3), A) := (xD_bex E d h_71 [33, 81] 90 81 _ _ _).trans rfl
-- Tape.next ()V
set_option maxRecDepth 100000 in
theorem h_72 : xprog[72]? = some M_72 := rfl
set_option maxRecDepth 100000 in
theorem e72_0 (E : Nat × (Nat → Int32)) (d : Nat) (r0 : Nat) (A : xH) : xD E (d + 1) 72 0 [.ref r0] [] A = (gI A r0 6 8).bind fun x1 => (pF A r0 6 7 (.int x1)).bind fun A2 => xD E (d + 1) 72 8 [.ref r0] [] A2 := (xD_bex E d h_72 [8, 46, 112, 164, 198, 280] 90 0 _ _ _).trans rfl
set_option maxRecDepth 100000 in
theorem e72_8 (E : Nat × (Nat → Int32)) (d : Nat) (r0 : Nat) (A : xH) : xD E (d + 1) 72 8 [.ref r0] [] A = (gI A r0 6 7).bind fun x1 => (gI A r0 6 3).bind fun x2 => if x2 ≤ x1 then xD E (d + 1) 72 46 [.ref r0] [] A else (gN A r0 6 1).bind fun n3 => (gI A r0 6 7).bind fun x4 => (aI 0 A n3 x4).bind fun x5 => if x5 = (32 : Int32) then (gI A r0 6 7).bind fun x6 => (pF A r0 6 7 (.int (x6 + (1 : Int32)))).bind fun A7 => xD E (d + 1) 72 8 [.ref r0] [] A7 else xD E (d + 1) 72 46 [.ref r0] [] A := (xD_bex E d h_72 [8, 46, 112, 164, 198, 280] 90 8 _ _ _).trans rfl
set_option maxRecDepth 100000 in
theorem e72_46 (E : Nat × (Nat → Int32)) (d : Nat) (r0 : Nat) (A : xH) : xD E (d + 1) 72 46 [.ref r0] [] A = (gI A r0 6 7).bind fun x1 => (pF A r0 6 8 (.int x1)).bind fun A2 => (pF A2 r0 6 9 (.int (0 : Int32))).bind fun A3 => (gI A3 r0 6 7).bind fun x4 => (gI A3 r0 6 3).bind fun x5 => if x4 < x5 then (gN A3 r0 6 1).bind fun n6 => (gI A3 r0 6 7).bind fun x7 => (aI 0 A3 n6 x7).bind fun x8 => if x8 < (97 : Int32) then xD E (d + 1) 72 164 [.ref r0] [] A3 else (gN A3 r0 6 1).bind fun n9 => (gI A3 r0 6 7).bind fun x10 => (aI 0 A3 n9 x10).bind fun x11 => if (122 : Int32) < x11 then xD E (d + 1) 72 164 [.ref r0] [] A3 else (pF A3 r0 6 6 (.int (-2 : Int32))).bind fun A12 => xD E (d + 1) 72 112 [.ref r0] [] A12 else (pF A3 r0 6 6 (.int (-1 : Int32))).bind fun A13 => some (none, A13) := (xD_bex E d h_72 [8, 46, 112, 164, 198, 280] 90 46 _ _ _).trans rfl
set_option maxRecDepth 100000 in
theorem e72_112 (E : Nat × (Nat → Int32)) (d : Nat) (r0 : Nat) (A : xH) : xD E (d + 1) 72 112 [.ref r0] [] A = (gI A r0 6 8).bind fun x1 => (gI A r0 6 3).bind fun x2 => if x2 ≤ x1 then some (none, A) else (gN A r0 6 1).bind fun n3 => (gI A r0 6 8).bind fun x4 => (aI 0 A n3 x4).bind fun x5 => if x5 < (97 : Int32) then some (none, A) else (gN A r0 6 1).bind fun n6 => (gI A r0 6 8).bind fun x7 => (aI 0 A n6 x7).bind fun x8 => if (122 : Int32) < x8 then some (none, A) else (gI A r0 6 8).bind fun x9 => (pF A r0 6 8 (.int (x9 + (1 : Int32)))).bind fun A10 => xD E (d + 1) 72 112 [.ref r0] [] A10 := (xD_bex E d h_72 [8, 46, 112, 164, 198, 280] 90 112 _ _ _).trans rfl
set_option maxRecDepth 100000 in
theorem e72_164 (E : Nat × (Nat → Int32)) (d : Nat) (r0 : Nat) (A : xH) : xD E (d + 1) 72 164 [.ref r0] [] A = (gN A r0 6 1).bind fun n1 => (gI A r0 6 7).bind fun x2 => (aI 0 A n1 x2).bind fun x3 => if x3 < (48 : Int32) then xD E (d + 1) 72 280 [.ref r0] [] A else (gN A r0 6 1).bind fun n4 => (gI A r0 6 7).bind fun x5 => (aI 0 A n4 x5).bind fun x6 => if (57 : Int32) < x6 then xD E (d + 1) 72 280 [.ref r0] [] A else (pF A r0 6 6 (.int (-3 : Int32))).bind fun A7 => xD E (d + 1) 72 198 [.ref r0] [] A7 := (xD_bex E d h_72 [8, 46, 112, 164, 198, 280] 90 164 _ _ _).trans rfl
set_option maxRecDepth 100000 in
theorem e72_198 (E : Nat × (Nat → Int32)) (d : Nat) (r0 : Nat) (A : xH) : xD E (d + 1) 72 198 [.ref r0] [] A = (gI A r0 6 8).bind fun x1 => (gI A r0 6 3).bind fun x2 => if x2 ≤ x1 then some (none, A) else (gN A r0 6 1).bind fun n3 => (gI A r0 6 8).bind fun x4 => (aI 0 A n3 x4).bind fun x5 => if x5 < (48 : Int32) then some (none, A) else (gN A r0 6 1).bind fun n6 => (gI A r0 6 8).bind fun x7 => (aI 0 A n6 x7).bind fun x8 => if (57 : Int32) < x8 then some (none, A) else (gI A r0 6 9).bind fun x9 => (gN A r0 6 1).bind fun n10 => (gI A r0 6 8).bind fun x11 => (aI 0 A n10 x11).bind fun x12 => (pF A r0 6 9 (.int (xmin (((x9 * (10 : Int32)) + x12) - (48 : Int32)) (1001 : Int32)))).bind fun A13 => (gI A13 r0 6 8).bind fun x14 => (pF A13 r0 6 8 (.int (x14 + (1 : Int32)))).bind fun A15 => xD E (d + 1) 72 198 [.ref r0] [] A15 := (xD_bex E d h_72 [8, 46, 112, 164, 198, 280] 90 198 _ _ _).trans rfl
set_option maxRecDepth 100000 in
theorem e72_280 (E : Nat × (Nat → Int32)) (d : Nat) (r0 : Nat) (A : xH) : xD E (d + 1) 72 280 [.ref r0] [] A = (gN A r0 6 1).bind fun n1 => (gI A r0 6 7).bind fun x2 => (aI 0 A n1 x2).bind fun x3 => (pF A r0 6 6 (.int x3)).bind fun A4 => (gI A4 r0 6 8).bind fun x5 => (pF A4 r0 6 8 (.int (x5 + (1 : Int32)))).bind fun A6 => some (none, A6) := (xD_bex E d h_72 [8, 46, 112, 164, 198, 280] 90 280 _ _ _).trans rfl
-- Tape.isWord (Ljava/lang/String;)Z
set_option maxRecDepth 100000 in
theorem h_73 : xprog[73]? = some M_73 := rfl
set_option maxRecDepth 100000 in
theorem e73_0 (E : Nat × (Nat → Int32)) (d : Nat) (r0 : Nat) (k1 : UInt32) (A : xH) : xD E (d + 1) 73 0 [.ref r0, .float k1, xJ] [] A = (gI A r0 6 6).bind fun x1 => if x1 = (-2 : Int32) then (gI A r0 6 8).bind fun x2 => (gI A r0 6 7).bind fun x3 => (xslen xSTR k1).bind fun x4 => if (x2 - x3) = x4 then xD E (d + 1) 73 29 [.ref r0, .float k1, .int (0 : Int32)] [] A else some (some (.int (0 : Int32)), A) else some (some (.int (0 : Int32)), A) := (xD_bex E d h_73 [29] 90 0 _ _ _).trans rfl
set_option maxRecDepth 100000 in
theorem e73_29 (E : Nat × (Nat → Int32)) (d : Nat) (r0 : Nat) (k1 : UInt32) (i2 : Int32) (A : xH) : xD E (d + 1) 73 29 [.ref r0, .float k1, .int i2] [] A = (xslen xSTR k1).bind fun x1 => if x1 ≤ i2 then some (some (.int (1 : Int32)), A) else (gN A r0 6 1).bind fun n2 => (gI A r0 6 7).bind fun x3 => (aI 0 A n2 (x3 + i2)).bind fun x4 => (xsat xSTR k1 i2).bind fun x5 => if x4 = x5 then xD E (d + 1) 73 29 [.ref r0, .float k1, .int (i2 + (1 : Int32))] [] A else some (some (.int (0 : Int32)), A) := (xD_bex E d h_73 [29] 90 29 _ _ _).trans rfl
-- Tape.passWord (Ljava/lang/String;)Z
set_option maxRecDepth 100000 in
theorem h_74 : xprog[74]? = some M_74 := rfl
set_option maxRecDepth 100000 in
theorem e74_0 (E : Nat × (Nat → Int32)) (d : Nat) (r0 : Nat) (k1 : UInt32) (A : xH) : xD E (d + 1) 74 0 [.ref r0, .float k1, xJ] [] A = (xI (xC E d 73 [.ref r0, .float k1] A)).bind fun q1 => if q1.1 = 0 then if x01 q1.1 = true then some (some (.int q1.1), q1.2) else none else (xV (xC E d 72 [.ref r0] q1.2)).bind fun A2 => if x01 q1.1 = true then some (some (.int q1.1), A2) else none := (xD_bex E d h_74 [] 90 0 _ _ _).trans rfl
-- Tape.passSign (C)Z
set_option maxRecDepth 100000 in
theorem h_75 : xprog[75]? = some M_75 := rfl
set_option maxRecDepth 100000 in
theorem e75_0 (E : Nat × (Nat → Int32)) (d : Nat) (r0 : Nat) (i1 : Int32) (A : xH) : xD E (d + 1) 75 0 [.ref r0, .int i1, xJ] [] A = (gI A r0 6 6).bind fun x1 => if x1 = i1 then if (1 : Int32) = 0 then some (some (.int (1 : Int32)), A) else (xV (xC E d 72 [.ref r0] A)).bind fun A2 => some (some (.int (1 : Int32)), A2) else if (0 : Int32) = 0 then some (some (.int (0 : Int32)), A) else (xV (xC E d 72 [.ref r0] A)).bind fun A3 => some (some (.int (0 : Int32)), A3) := (xD_bex E d h_75 [] 90 0 _ _ _).trans rfl
-- Tape.readClause ()Z
set_option maxRecDepth 100000 in
theorem h_76 : xprog[76]? = some M_76 := rfl
set_option maxRecDepth 100000 in
theorem e76_0 (E : Nat × (Nat → Int32)) (d : Nat) (r0 : Nat) (A : xH) : xD E (d + 1) 76 0 [.ref r0, xJ] [] A = xD E (d + 1) 76 2 [.ref r0, .int (0 : Int32)] [] A := (xD_bex E d h_76 [2, 41, 93] 90 0 _ _ _).trans rfl
set_option maxRecDepth 100000 in
theorem e76_2 (E : Nat × (Nat → Int32)) (d : Nat) (r0 : Nat) (i1 : Int32) (A : xH) : xD E (d + 1) 76 2 [.ref r0, .int i1] [] A = if (8 : Int32) ≤ i1 then (gI A r0 6 4).bind fun x1 => if x1 = 0 then (xI (xC E d 77 [.ref r0] A)).bind fun q2 => xD E (d + 1) 76 41 [.ref r0, .int i1] [.int q2.1] q2.2 else (xI (xC E d 78 [.ref r0] A)).bind fun q3 => xD E (d + 1) 76 41 [.ref r0, .int i1] [.int q3.1] q3.2 else (gN A r0 6 0).bind fun n4 => (xV (xC E d 93 [.ref n4, .int i1, .int (0 : Int32)] A)).bind fun A5 => xD E (d + 1) 76 2 [.ref r0, .int (i1 + (1 : Int32))] [] A5 := (xD_bex E d h_76 [2, 41, 93] 90 2 _ _ _).trans rfl
set_option maxRecDepth 100000 in
theorem e76_41 (E : Nat × (Nat → Int32)) (d : Nat) (r0 : Nat) (w1 : Value) (s0 : Int32) (A : xH) : xD E (d + 1) 76 41 [.ref r0, w1] [.int s0] A = if s0 = 0 then xD E (d + 1) 76 93 [.ref r0, .int s0] [] A else (xI (xC E d 74 [.ref r0, .float 22] A)).bind fun q1 => if q1.1 = 0 then xD E (d + 1) 76 93 [.ref r0, .int s0] [] q1.2 else (gN q1.2 r0 6 0).bind fun n2 => (gN q1.2 r0 6 0).bind fun n3 => (gI q1.2 n3 7 4).bind fun x4 => (xV (xC E d 93 [.ref n2, .int (6 : Int32), .int x4] q1.2)).bind fun A5 => (xI (xC E d 80 [.ref r0, .int (0 : Int32)] A5)).bind fun q6 => (gN q6.2 r0 6 0).bind fun n7 => (gN q6.2 r0 6 0).bind fun n8 => (gI q6.2 n8 7 4).bind fun x9 => (xV (xC E d 93 [.ref n7, .int (7 : Int32), .int x9] q6.2)).bind fun A10 => xD E (d + 1) 76 93 [.ref r0, .int q6.1] [] A10 := (xD_bex E d h_76 [2, 41, 93] 90 41 _ _ _).trans rfl
set_option maxRecDepth 100000 in
theorem e76_93 (E : Nat × (Nat → Int32)) (d : Nat) (r0 : Nat) (i1 : Int32) (A : xH) : xD E (d + 1) 76 93 [.ref r0, .int i1] [] A = if i1 = 0 then if x01 i1 = true then some (some (.int i1), A) else none else (gN A r0 6 0).bind fun n1 => (gI A n1 7 5).bind fun x2 => (pF A n1 7 5 (.int (x2 + (1 : Int32)))).bind fun A3 => if x01 i1 = true then some (some (.int i1), A3) else none := (xD_bex E d h_76 [2, 41, 93] 90 93 _ _ _).trans rfl
-- Tape.readRule ()Z
set_option maxRecDepth 100000 in
theorem h_77 : xprog[77]? = some M_77 := rfl
set_option maxRecDepth 100000 in
theorem e77_0 (E : Nat × (Nat → Int32)) (d : Nat) (r0 : Nat) (A : xH) : xD E (d + 1) 77 0 [.ref r0] [] A = (xI (xC E d 74 [.ref r0, .float 20] A)).bind fun q1 => if q1.1 = 0 then (gN q1.2 r0 6 0).bind fun n2 => (xV (xC E d 93 [.ref n2, .int (0 : Int32), .int (4 : Int32)] q1.2)).bind fun A3 => (xI (xC E d 74 [.ref r0, .float 21] A3)).bind fun q4 => if q4.1 = 0 then some (some (.int (0 : Int32)), q4.2) else (xI (xC E d 79 [.ref r0, .int (2 : Int32)] q4.2)).bind fun q5 => if q5.1 = 0 then some (some (.int (0 : Int32)), q5.2) else some (some (.int (1 : Int32)), q5.2) else (gN q1.2 r0 6 0).bind fun n6 => (xV (xC E d 93 [.ref n6, .int (0 : Int32), .int (5 : Int32)] q1.2)).bind fun A7 => some (some (.int (1 : Int32)), A7) := (xD_bex E d h_77 [] 90 0 _ _ _).trans rfl
-- Tape.readOrder ()Z
set_option maxRecDepth 100000 in
theorem h_78 : xprog[78]? = some M_78 := rfl
set_option maxRecDepth 100000 in
theorem e78_0 (E : Nat × (Nat → Int32)) (d : Nat) (r0 : Nat) (A : xH) : xD E (d + 1) 78 0 [.ref r0, xJ] [] A = (xI (xC E d 74 [.ref r0, .float 1] A)).bind fun q1 => if q1.1 = 0 then (xI (xC E d 74 [.ref r0, .float 16] q1.2)).bind fun q2 => if q2.1 = 0 then (xI (xC E d 74 [.ref r0, .float 17] q2.2)).bind fun q3 => if q3.1 = 0 then (gN q3.2 r0 6 0).bind fun n4 => (xV (xC E d 93 [.ref n4, .int (0 : Int32), .int (3 : Int32)] q3.2)).bind fun A5 => (xI (xC E d 74 [.ref r0, .float 18] A5)).bind fun q6 => if q6.1 = 0 then xD E (d + 1) 78 138 [.ref r0, .int (0 : Int32)] [] q6.2 else (xI (xC E d 79 [.ref r0, .int (2 : Int32)] q6.2)).bind fun q7 => if q7.1 = 0 then xD E (d + 1) 78 138 [.ref r0, .int (0 : Int32)] [] q7.2 else xD E (d + 1) 78 138 [.ref r0, .int (1 : Int32)] [] q7.2 else (gN q3.2 r0 6 0).bind fun n8 => (xV (xC E d 93 [.ref n8, .int (0 : Int32), .int (2 : Int32)] q3.2)).bind fun A9 => (xI (xC E d 79 [.ref r0, .int (2 : Int32)] A9)).bind fun q10 => xD E (d + 1) 78 138 [.ref r0, .int q10.1] [] q10.2 else (gN q2.2 r0 6 0).bind fun n11 => (xV (xC E d 93 [.ref n11, .int (0 : Int32), .int (1 : Int32)] q2.2)).bind fun A12 => (xI (xC E d 79 [.ref r0, .int (2 : Int32)] A12)).bind fun q13 => xD E (d + 1) 78 138 [.ref r0, .int q13.1] [] q13.2 else (gN q1.2 r0 6 0).bind fun n14 => (xV (xC E d 93 [.ref n14, .int (0 : Int32), .int (0 : Int32)] q1.2)).bind fun A15 => (xI (xC E d 79 [.ref r0, .int (2 : Int32)] A15)).bind fun q16 => if q16.1 = 0 then xD E (d + 1) 78 138 [.ref r0, .int (0 : Int32)] [] q16.2 else (xI (xC E d 74 [.ref r0, .float 15] q16.2)).bind fun q17 => if q17.1 = 0 then xD E (d + 1) 78 138 [.ref r0, .int (0 : Int32)] [] q17.2 else (xI (xC E d 79 [.ref r0, .int (4 : Int32)] q17.2)).bind fun q18 => if q18.1 = 0 then xD E (d + 1) 78 138 [.ref r0, .int (0 : Int32)] [] q18.2 else xD E (d + 1) 78 138 [.ref r0, .int (1 : Int32)] [] q18.2 := (xD_bex E d h_78 [138, 191] 90 0 _ _ _).trans rfl
set_option maxRecDepth 100000 in
theorem e78_138 (E : Nat × (Nat → Int32)) (d : Nat) (r0 : Nat) (i1 : Int32) (A : xH) : xD E (d + 1) 78 138 [.ref r0, .int i1] [] A = (gN A r0 6 0).bind fun n1 => (xV (xC E d 93 [.ref n1, .int (1 : Int32), .int (1 : Int32)] A)).bind fun A2 => if i1 = 0 then if x01 i1 = true then some (some (.int i1), A2) else none else (xI (xC E d 74 [.ref r0, .float 19] A2)).bind fun q3 => if q3.1 = 0 then if x01 i1 = true then some (some (.int i1), q3.2) else none else (gI q3.2 r0 6 6).bind fun x4 => if x4 = (-3 : Int32) then (gI q3.2 r0 6 9).bind fun x5 => if x5 < (1 : Int32) then xD E (d + 1) 78 191 [.ref r0, .int i1] [.int (0 : Int32)] q3.2 else (gI q3.2 r0 6 9).bind fun x6 => if (20 : Int32) < x6 then xD E (d + 1) 78 191 [.ref r0, .int i1] [.int (0 : Int32)] q3.2 else xD E (d + 1) 78 191 [.ref r0, .int i1] [.int (1 : Int32)] q3.2 else xD E (d + 1) 78 191 [.ref r0, .int i1] [.int (0 : Int32)] q3.2 := (xD_bex E d h_78 [138, 191] 90 138 _ _ _).trans rfl
set_option maxRecDepth 100000 in
theorem e78_191 (E : Nat × (Nat → Int32)) (d : Nat) (r0 : Nat) (w1 : Value) (s0 : Int32) (A : xH) : xD E (d + 1) 78 191 [.ref r0, w1] [.int s0] A = (gN A r0 6 0).bind fun n1 => (gI A r0 6 9).bind fun x2 => (xV (xC E d 93 [.ref n1, .int (1 : Int32), .int x2] A)).bind fun A3 => if s0 = 0 then if x01 s0 = true then some (some (.int s0), A3) else none else (xV (xC E d 72 [.ref r0] A3)).bind fun A4 => if x01 s0 = true then some (some (.int s0), A4) else none := (xD_bex E d h_78 [138, 191] 90 191 _ _ _).trans rfl
-- Tape.readSumPart (I)Z
set_option maxRecDepth 100000 in
theorem h_79 : xprog[79]? = some M_79 := rfl
set_option maxRecDepth 100000 in
theorem e79_0 (E : Nat × (Nat → Int32)) (d : Nat) (r0 : Nat) (i1 : Int32) (A : xH) : xD E (d + 1) 79 0 [.ref r0, .int i1, xJ] [] A = (gN A r0 6 0).bind fun n1 => (gN A r0 6 0).bind fun n2 => (gI A n2 7 4).bind fun x3 => (xV (xC E d 93 [.ref n1, .int i1, .int x3] A)).bind fun A4 => (xI (xC E d 83 [.ref r0, .int (0 : Int32)] A4)).bind fun q5 => (gN q5.2 r0 6 0).bind fun n6 => (gN q5.2 r0 6 0).bind fun n7 => (gI q5.2 n7 7 4).bind fun x8 => (xV (xC E d 93 [.ref n6, .int (i1 + (1 : Int32)), .int x8] q5.2)).bind fun A9 => if x01 q5.1 = true then some (some (.int q5.1), A9) else none := (xD_bex E d h_79 [] 90 0 _ _ _).trans rfl
-- Tape.readTest (I)Z
set_option maxRecDepth 100000 in
theorem h_80 : xprog[80]? = some M_80 := rfl
set_option maxRecDepth 100000 in
theorem e80_0 (E : Nat × (Nat → Int32)) (d : Nat) (r0 : Nat) (i1 : Int32) (A : xH) : xD E (d + 1) 80 0 [.ref r0, .int i1, xJ, xJ, xJ] [] A = (xI (xC E d 81 [.ref r0, .int i1] A)).bind fun q1 => xD E (d + 1) 80 8 [.ref r0, .int i1, .int q1.1, .int (0 : Int32), xJ] [] q1.2 := (xD_bex E d h_80 [8] 90 0 _ _ _).trans rfl
set_option maxRecDepth 100000 in
theorem e80_8 (E : Nat × (Nat → Int32)) (d : Nat) (r0 : Nat) (i1 : Int32) (i2 : Int32) (i3 : Int32) (w4 : Value) (A : xH) : xD E (d + 1) 80 8 [.ref r0, .int i1, .int i2, .int i3, w4] [] A = if (400 : Int32) ≤ i3 then if x01 i2 = true then some (some (.int i2), A) else none else if i2 = 0 then if x01 i2 = true then some (some (.int i2), A) else none else (xI (xC E d 74 [.ref r0, .float 25] A)).bind fun q1 => if q1.1 = 0 then if x01 i2 = true then some (some (.int i2), q1.2) else none else (gN q1.2 r0 6 0).bind fun n2 => (gI q1.2 n2 7 4).bind fun x3 => (gN q1.2 r0 6 0).bind fun n4 => (xV (xC E d 94 [.ref n4, .int (4 : Int32), .int (0 : Int32)] q1.2)).bind fun A5 => (xI (xC E d 81 [.ref r0, .int i1] A5)).bind fun q6 => (gN q6.2 r0 6 0).bind fun n7 => (xV (xC E d 95 [.ref n7, .int x3] q6.2)).bind fun A8 => xD E (d + 1) 80 8 [.ref r0, .int i1, .int q6.1, .int (i3 + (1 : Int32)), .int x3] [] A8 := (xD_bex E d h_80 [8] 90 8 _ _ _).trans rfl
-- Tape.readBoth (I)Z
set_option maxRecDepth 100000 in
theorem h_81 : xprog[81]? = some M_81 := rfl
set_option maxRecDepth 100000 in
theorem e81_0 (E : Nat × (Nat → Int32)) (d : Nat) (r0 : Nat) (i1 : Int32) (A : xH) : xD E (d + 1) 81 0 [.ref r0, .int i1, xJ, xJ, xJ] [] A = (xI (xC E d 82 [.ref r0, .int i1] A)).bind fun q1 => xD E (d + 1) 81 8 [.ref r0, .int i1, .int q1.1, .int (0 : Int32), xJ] [] q1.2 := (xD_bex E d h_81 [8] 90 0 _ _ _).trans rfl
set_option maxRecDepth 100000 in
theorem e81_8 (E : Nat × (Nat → Int32)) (d : Nat) (r0 : Nat) (i1 : Int32) (i2 : Int32) (i3 : Int32) (w4 : Value) (A : xH) : xD E (d + 1) 81 8 [.ref r0, .int i1, .int i2, .int i3, w4] [] A = if (400 : Int32) ≤ i3 then if x01 i2 = true then some (some (.int i2), A) else none else if i2 = 0 then if x01 i2 = true then some (some (.int i2), A) else none else (xI (xC E d 74 [.ref r0, .float 24] A)).bind fun q1 => if q1.1 = 0 then if x01 i2 = true then some (some (.int i2), q1.2) else none else (gN q1.2 r0 6 0).bind fun n2 => (gI q1.2 n2 7 4).bind fun x3 => (gN q1.2 r0 6 0).bind fun n4 => (xV (xC E d 94 [.ref n4, .int (3 : Int32), .int (0 : Int32)] q1.2)).bind fun A5 => (xI (xC E d 82 [.ref r0, .int i1] A5)).bind fun q6 => (gN q6.2 r0 6 0).bind fun n7 => (xV (xC E d 95 [.ref n7, .int x3] q6.2)).bind fun A8 => xD E (d + 1) 81 8 [.ref r0, .int i1, .int q6.1, .int (i3 + (1 : Int32)), .int x3] [] A8 := (xD_bex E d h_81 [8] 90 8 _ _ _).trans rfl
-- Tape.readPlain (I)Z
set_option maxRecDepth 100000 in
theorem h_82 : xprog[82]? = some M_82 := rfl
set_option maxRecDepth 100000 in
theorem e82_0 (E : Nat × (Nat → Int32)) (d : Nat) (r0 : Nat) (i1 : Int32) (A : xH) : xD E (d + 1) 82 0 [.ref r0, .int i1, xJ, xJ, xJ] [] A = xD E (d + 1) 82 4 [.ref r0, .int i1, .int (0 : Int32), .int (0 : Int32), xJ] [] A := (xD_bex E d h_82 [4, 36, 124, 157, 181] 90 0 _ _ _).trans rfl
set_option maxRecDepth 100000 in
theorem e82_4 (E : Nat × (Nat → Int32)) (d : Nat) (r0 : Nat) (i1 : Int32) (i2 : Int32) (i3 : Int32) (w4 : Value) (A : xH) : xD E (d + 1) 82 4 [.ref r0, .int i1, .int i2, .int i3, w4] [] A = if (400 : Int32) ≤ i3 then xD E (d + 1) 82 36 [.ref r0, .int i1, .int i2, .int i3, xJ] [] A else (xI (xC E d 74 [.ref r0, .float 23] A)).bind fun q1 => if q1.1 = 0 then xD E (d + 1) 82 36 [.ref r0, .int i1, .int i2, .int i3, xJ] [] q1.2 else if i2 = 0 then xD E (d + 1) 82 4 [.ref r0, .int i1, .int (1 : Int32), .int (i3 + (1 : Int32)), xJ] [] q1.2 else xD E (d + 1) 82 4 [.ref r0, .int i1, .int (0 : Int32), .int (i3 + (1 : Int32)), xJ] [] q1.2 := (xD_bex E d h_82 [4, 36, 124, 157, 181] 90 4 _ _ _).trans rfl
set_option maxRecDepth 100000 in
theorem e82_36 (E : Nat × (Nat → Int32)) (d : Nat) (r0 : Nat) (i1 : Int32) (i2 : Int32) (w3 : Value) (w4 : Value) (A : xH) : xD E (d + 1) 82 36 [.ref r0, .int i1, .int i2, w3, w4] [] A = (gI A r0 6 6).bind fun x1 => if x1 = (40 : Int32) then if (8 : Int32) ≤ i1 then xD E (d + 1) 82 181 [.ref r0, .int i1, .int i2, .int (0 : Int32), xJ] [] A else (xI (xC E d 75 [.ref r0, .int (40 : Int32)] A)).bind fun q2 => if q2.1 = 0 then xD E (d + 1) 82 181 [.ref r0, .int i1, .int i2, .int (0 : Int32), xJ] [] q2.2 else (xI (xC E d 80 [.ref r0, .int (i1 + (1 : Int32))] q2.2)).bind fun q3 => if q3.1 = 0 then xD E (d + 1) 82 181 [.ref r0, .int i1, .int i2, .int (0 : Int32), xJ] [] q3.2 else (xI (xC E d 75 [.ref r0, .int (41 : Int32)] q3.2)).bind fun q4 => if q4.1 = 0 then xD E (d + 1) 82 181 [.ref r0, .int i1, .int i2, .int (0 : Int32), xJ] [] q4.2 else xD E (d + 1) 82 181 [.ref r0, .int i1, .int i2, .int (1 : Int32), xJ] [] q4.2 else (xI (xC E d 83 [.ref r0, .int i1] A)).bind fun q5 => (gI q5.2 r0 6 6).bind fun x6 => if x6 = (60 : Int32) then xD E (d + 1) 82 124 [.ref r0, .int i1, .int i2, .int q5.1, xJ] [.int (10 : Int32)] q5.2 else (gI q5.2 r0 6 6).bind fun x7 => if x7 = (62 : Int32) then xD E (d + 1) 82 124 [.ref r0, .int i1, .int i2, .int q5.1, xJ] [.int (11 : Int32)] q5.2 else xD E (d + 1) 82 124 [.ref r0, .int i1, .int i2, .int q5.1, xJ] [.int (12 : Int32)] q5.2 := (xD_bex E d h_82 [4, 36, 124, 157, 181] 90 36 _ _ _).trans rfl
set_option maxRecDepth 100000 in
theorem e82_124 (E : Nat × (Nat → Int32)) (d : Nat) (r0 : Nat) (i1 : Int32) (i2 : Int32) (i3 : Int32) (w4 : Value) (s0 : Int32) (A : xH) : xD E (d + 1) 82 124 [.ref r0, .int i1, .int i2, .int i3, w4] [.int s0] A = if i3 = 0 then (gN A r0 6 0).bind fun n1 => (xV (xC E d 94 [.ref n1, .int s0, .int (0 : Int32)] A)).bind fun A2 => xD E (d + 1) 82 181 [.ref r0, .int i1, .int i2, .int (0 : Int32), .int s0] [] A2 else (xI (xC E d 75 [.ref r0, .int (60 : Int32)] A)).bind fun q3 => if q3.1 = 0 then (xI (xC E d 75 [.ref r0, .int (62 : Int32)] q3.2)).bind fun q4 => if q4.1 = 0 then (xI (xC E d 75 [.ref r0, .int (61 : Int32)] q4.2)).bind fun q5 => if q5.1 = 0 then (gN q5.2 r0 6 0).bind fun n6 => (xV (xC E d 94 [.ref n6, .int s0, .int (0 : Int32)] q5.2)).bind fun A7 => xD E (d + 1) 82 181 [.ref r0, .int i1, .int i2, .int (0 : Int32), .int s0] [] A7 else xD E (d + 1) 82 157 [.ref r0, .int i1, .int i2, .int i3, .int s0] [] q5.2 else xD E (d + 1) 82 157 [.ref r0, .int i1, .int i2, .int i3, .int s0] [] q4.2 else xD E (d + 1) 82 157 [.ref r0, .int i1, .int i2, .int i3, .int s0] [] q3.2 := (xD_bex E d h_82 [4, 36, 124, 157, 181] 90 124 _ _ _).trans rfl
set_option maxRecDepth 100000 in
theorem e82_157 (E : Nat × (Nat → Int32)) (d : Nat) (r0 : Nat) (i1 : Int32) (i2 : Int32) (w3 : Value) (i4 : Int32) (A : xH) : xD E (d + 1) 82 157 [.ref r0, .int i1, .int i2, w3, .int i4] [] A = (xI (xC E d 83 [.ref r0, .int i1] A)).bind fun q1 => if q1.1 = 0 then (gN q1.2 r0 6 0).bind fun n2 => (xV (xC E d 94 [.ref n2, .int i4, .int (0 : Int32)] q1.2)).bind fun A3 => xD E (d + 1) 82 181 [.ref r0, .int i1, .int i2, .int (0 : Int32), .int i4] [] A3 else (gN q1.2 r0 6 0).bind fun n4 => (xV (xC E d 94 [.ref n4, .int i4, .int (0 : Int32)] q1.2)).bind fun A5 => xD E (d + 1) 82 181 [.ref r0, .int i1, .int i2, .int (1 : Int32), .int i4] [] A5 := (xD_bex E d h_82 [4, 36, 124, 157, 181] 90 157 _ _ _).trans rfl
set_option maxRecDepth 100000 in
theorem e82_181 (E : Nat × (Nat → Int32)) (d : Nat) (r0 : Nat) (w1 : Value) (i2 : Int32) (i3 : Int32) (w4 : Value) (A : xH) : xD E (d + 1) 82 181 [.ref r0, w1, .int i2, .int i3, w4] [] A = if i3 = 0 then if x01 i3 = true then some (some (.int i3), A) else none else if i2 = 0 then if x01 i3 = true then some (some (.int i3), A) else none else (gN A r0 6 0).bind fun n1 => (xV (xC E d 94 [.ref n1, .int (2 : Int32), .int (0 : Int32)] A)).bind fun A2 => if x01 i3 = true then some (some (.int i3), A2) else none := (xD_bex E d h_82 [4, 36, 124, 157, 181] 90 181 _ _ _).trans rfl
-- Tape.readSum (I)Z
set_option maxRecDepth 100000 in
theorem h_83 : xprog[83]? = some M_83 := rfl
set_option maxRecDepth 100000 in
theorem e83_0 (E : Nat × (Nat → Int32)) (d : Nat) (r0 : Nat) (i1 : Int32) (A : xH) : xD E (d + 1) 83 0 [.ref r0, .int i1, xJ, xJ, xJ] [] A = (xI (xC E d 84 [.ref r0, .int i1] A)).bind fun q1 => xD E (d + 1) 83 8 [.ref r0, .int i1, .int q1.1, .int (0 : Int32), xJ] [] q1.2 := (xD_bex E d h_83 [8, 52] 90 0 _ _ _).trans rfl
set_option maxRecDepth 100000 in
theorem e83_8 (E : Nat × (Nat → Int32)) (d : Nat) (r0 : Nat) (i1 : Int32) (i2 : Int32) (i3 : Int32) (w4 : Value) (A : xH) : xD E (d + 1) 83 8 [.ref r0, .int i1, .int i2, .int i3, w4] [] A = if (400 : Int32) ≤ i3 then if x01 i2 = true then some (some (.int i2), A) else none else if i2 = 0 then if x01 i2 = true then some (some (.int i2), A) else none else (gI A r0 6 6).bind fun x1 => if x1 = (43 : Int32) then (gI A r0 6 6).bind fun x2 => if x2 = (43 : Int32) then xD E (d + 1) 83 52 [.ref r0, .int i1, .int i2, .int i3, xJ] [.int (5 : Int32)] A else xD E (d + 1) 83 52 [.ref r0, .int i1, .int i2, .int i3, xJ] [.int (6 : Int32)] A else (gI A r0 6 6).bind fun x3 => if x3 = (45 : Int32) then (gI A r0 6 6).bind fun x4 => if x4 = (43 : Int32) then xD E (d + 1) 83 52 [.ref r0, .int i1, .int i2, .int i3, xJ] [.int (5 : Int32)] A else xD E (d + 1) 83 52 [.ref r0, .int i1, .int i2, .int i3, xJ] [.int (6 : Int32)] A else if x01 i2 = true then some (some (.int i2), A) else none := (xD_bex E d h_83 [8, 52] 90 8 _ _ _).trans rfl
set_option maxRecDepth 100000 in
theorem e83_52 (E : Nat × (Nat → Int32)) (d : Nat) (r0 : Nat) (i1 : Int32) (w2 : Value) (i3 : Int32) (w4 : Value) (s0 : Int32) (A : xH) : xD E (d + 1) 83 52 [.ref r0, .int i1, w2, .int i3, w4] [.int s0] A = (xV (xC E d 72 [.ref r0] A)).bind fun A1 => (xI (xC E d 84 [.ref r0, .int i1] A1)).bind fun q2 => (gN q2.2 r0 6 0).bind fun n3 => (xV (xC E d 94 [.ref n3, .int s0, .int (0 : Int32)] q2.2)).bind fun A4 => xD E (d + 1) 83 8 [.ref r0, .int i1, .int q2.1, .int (i3 + (1 : Int32)), .int s0] [] A4 := (xD_bex E d h_83 [8, 52] 90 52 _ _ _).trans rfl
-- Tape.readTerm (I)Z
set_option maxRecDepth 100000 in
theorem h_84 : xprog[84]? = some M_84 := rfl
set_option maxRecDepth 100000 in
theorem e84_0 (E : Nat × (Nat → Int32)) (d : Nat) (r0 : Nat) (i1 : Int32) (A : xH) : xD E (d + 1) 84 0 [.ref r0, .int i1, xJ, xJ, xJ] [] A = (xI (xC E d 85 [.ref r0, .int i1] A)).bind fun q1 => xD E (d + 1) 84 8 [.ref r0, .int i1, .int q1.1, .int (0 : Int32), xJ] [] q1.2 := (xD_bex E d h_84 [8, 46, 76] 90 0 _ _ _).trans rfl
set_option maxRecDepth 100000 in
theorem e84_8 (E : Nat × (Nat → Int32)) (d : Nat) (r0 : Nat) (i1 : Int32) (i2 : Int32) (i3 : Int32) (w4 : Value) (A : xH) : xD E (d + 1) 84 8 [.ref r0, .int i1, .int i2, .int i3, w4] [] A = if (400 : Int32) ≤ i3 then if x01 i2 = true then some (some (.int i2), A) else none else if i2 = 0 then if x01 i2 = true then some (some (.int i2), A) else none else (gI A r0 6 6).bind fun x1 => if x1 = (42 : Int32) then xD E (d + 1) 84 46 [.ref r0, .int i1, .int i2, .int i3, xJ] [] A else (gI A r0 6 6).bind fun x2 => if x2 = (47 : Int32) then xD E (d + 1) 84 46 [.ref r0, .int i1, .int i2, .int i3, xJ] [] A else (gI A r0 6 6).bind fun x3 => if x3 = (37 : Int32) then xD E (d + 1) 84 46 [.ref r0, .int i1, .int i2, .int i3, xJ] [] A else if x01 i2 = true then some (some (.int i2), A) else none := (xD_bex E d h_84 [8, 46, 76] 90 8 _ _ _).trans rfl
set_option maxRecDepth 100000 in
theorem e84_46 (E : Nat × (Nat → Int32)) (d : Nat) (r0 : Nat) (i1 : Int32) (w2 : Value) (i3 : Int32) (w4 : Value) (A : xH) : xD E (d + 1) 84 46 [.ref r0, .int i1, w2, .int i3, w4] [] A = (gI A r0 6 6).bind fun x1 => if x1 = (42 : Int32) then xD E (d + 1) 84 76 [.ref r0, .int i1, xJ, .int i3, xJ] [.int (7 : Int32)] A else (gI A r0 6 6).bind fun x2 => if x2 = (47 : Int32) then xD E (d + 1) 84 76 [.ref r0, .int i1, xJ, .int i3, xJ] [.int (8 : Int32)] A else xD E (d + 1) 84 76 [.ref r0, .int i1, xJ, .int i3, xJ] [.int (9 : Int32)] A := (xD_bex E d h_84 [8, 46, 76] 90 46 _ _ _).trans rfl
set_option maxRecDepth 100000 in
theorem e84_76 (E : Nat × (Nat → Int32)) (d : Nat) (r0 : Nat) (i1 : Int32) (w2 : Value) (i3 : Int32) (w4 : Value) (s0 : Int32) (A : xH) : xD E (d + 1) 84 76 [.ref r0, .int i1, w2, .int i3, w4] [.int s0] A = (xV (xC E d 72 [.ref r0] A)).bind fun A1 => (xI (xC E d 85 [.ref r0, .int i1] A1)).bind fun q2 => (gN q2.2 r0 6 0).bind fun n3 => (xV (xC E d 94 [.ref n3, .int s0, .int (0 : Int32)] q2.2)).bind fun A4 => xD E (d + 1) 84 8 [.ref r0, .int i1, .int q2.1, .int (i3 + (1 : Int32)), .int s0] [] A4 := (xD_bex E d h_84 [8, 46, 76] 90 76 _ _ _).trans rfl
-- Tape.readPart (I)Z
set_option maxRecDepth 100000 in
theorem h_85 : xprog[85]? = some M_85 := rfl
set_option maxRecDepth 100000 in
theorem e85_0 (E : Nat × (Nat → Int32)) (d : Nat) (r0 : Nat) (i1 : Int32) (A : xH) : xD E (d + 1) 85 0 [.ref r0, .int i1, xJ] [] A = (gI A r0 6 6).bind fun x1 => if x1 = (91 : Int32) then if (8 : Int32) ≤ i1 then some (some (.int (0 : Int32)), A) else (xI (xC E d 75 [.ref r0, .int (91 : Int32)] A)).bind fun q2 => if q2.1 = 0 then some (some (.int (0 : Int32)), q2.2) else (xI (xC E d 83 [.ref r0, .int (i1 + (1 : Int32))] q2.2)).bind fun q3 => if q3.1 = 0 then some (some (.int (0 : Int32)), q3.2) else (xI (xC E d 75 [.ref r0, .int (93 : Int32)] q3.2)).bind fun q4 => if q4.1 = 0 then some (some (.int (0 : Int32)), q4.2) else some (some (.int (1 : Int32)), q4.2) else (gI A r0 6 5).bind fun x5 => if x5 = (50 : Int32) then some (some (.int (0 : Int32)), A) else (gI A r0 6 5).bind fun x6 => (pF A r0 6 5 (.int (x6 + (1 : Int32)))).bind fun A7 => (gI A7 r0 6 6).bind fun x8 => if x8 = (-3 : Int32) then (gI A7 r0 6 9).bind fun x9 => if (1000 : Int32) < x9 then xD E (d + 1) 85 107 [.ref r0, .int i1, xJ] [] A7 else (gN A7 r0 6 0).bind fun n10 => (gI A7 r0 6 9).bind fun x11 => (xV (xC E d 94 [.ref n10, .int (0 : Int32), .int x11] A7)).bind fun A12 => (xV (xC E d 72 [.ref r0] A12)).bind fun A13 => some (some (.int (1 : Int32)), A13) else xD E (d + 1) 85 107 [.ref r0, .int i1, xJ] [] A7 := (xD_bex E d h_85 [107, 132, 176] 90 0 _ _ _).trans rfl
set_option maxRecDepth 100000 in
theorem e85_107 (E : Nat × (Nat → Int32)) (d : Nat) (r0 : Nat) (w1 : Value) (w2 : Value) (A : xH) : xD E (d + 1) 85 107 [.ref r0, w1, w2] [] A = (gI A r0 6 4).bind fun x1 => if x1 = 0 then xD E (d + 1) 85 132 [.ref r0, xJ, xJ] [] A else (xI (xC E d 74 [.ref r0, .float 2] A)).bind fun q2 => if q2.1 = 0 then xD E (d + 1) 85 132 [.ref r0, xJ, xJ] [] q2.2 else (xI (xC E d 86 [.ref r0, .int (0 : Int32), .int (1000 : Int32)] q2.2)).bind fun q3 => if x01 q3.1 = true then some (some (.int q3.1), q3.2) else none := (xD_bex E d h_85 [107, 132, 176] 90 107 _ _ _).trans rfl
set_option maxRecDepth 100000 in
theorem e85_132 (E : Nat × (Nat → Int32)) (d : Nat) (r0 : Nat) (w1 : Value) (w2 : Value) (A : xH) : xD E (d + 1) 85 132 [.ref r0, w1, w2] [] A = (gI A r0 6 4).bind fun x1 => if x1 = 0 then (gI A r0 6 4).bind fun x2 => if x2 = 0 then (xI (xC E d 87 [.ref r0] A)).bind fun q3 => xD E (d + 1) 85 176 [.ref r0, xJ, xJ] [.int q3.1] q3.2 else (xI (xC E d 88 [.ref r0] A)).bind fun q4 => xD E (d + 1) 85 176 [.ref r0, xJ, xJ] [.int q4.1] q4.2 else (xI (xC E d 74 [.ref r0, .float 3] A)).bind fun q5 => if q5.1 = 0 then (gI q5.2 r0 6 4).bind fun x6 => if x6 = 0 then (xI (xC E d 87 [.ref r0] q5.2)).bind fun q7 => xD E (d + 1) 85 176 [.ref r0, xJ, xJ] [.int q7.1] q7.2 else (xI (xC E d 88 [.ref r0] q5.2)).bind fun q8 => xD E (d + 1) 85 176 [.ref r0, xJ, xJ] [.int q8.1] q8.2 else (xI (xC E d 86 [.ref r0, .int (1000 : Int32), .int (24 : Int32)] q5.2)).bind fun q9 => if x01 q9.1 = true then some (some (.int q9.1), q9.2) else none := (xD_bex E d h_85 [107, 132, 176] 90 132 _ _ _).trans rfl
set_option maxRecDepth 100000 in
theorem e85_176 (E : Nat × (Nat → Int32)) (d : Nat) (r0 : Nat) (w1 : Value) (w2 : Value) (s0 : Int32) (A : xH) : xD E (d + 1) 85 176 [.ref r0, w1, w2] [.int s0] A = if s0 = (-1 : Int32) then some (some (.int (0 : Int32)), A) else (gN A r0 6 0).bind fun n1 => (xV (xC E d 94 [.ref n1, .int (1 : Int32), .int s0] A)).bind fun A2 => (xV (xC E d 72 [.ref r0] A2)).bind fun A3 => some (some (.int (1 : Int32)), A3) := (xD_bex E d h_85 [107, 132, 176] 90 176 _ _ _).trans rfl
-- Tape.readAsked (II)Z
set_option maxRecDepth 100000 in
theorem h_86 : xprog[86]? = some M_86 := rfl
set_option maxRecDepth 100000 in
theorem e86_0 (E : Nat × (Nat → Int32)) (d : Nat) (r0 : Nat) (i1 : Int32) (i2 : Int32) (A : xH) : xD E (d + 1) 86 0 [.ref r0, .int i1, .int i2] [] A = (gI A r0 6 6).bind fun x1 => if x1 = (-3 : Int32) then (gI A r0 6 9).bind fun x2 => if x2 < i2 then (gN A r0 6 0).bind fun n3 => (gN A n3 7 3).bind fun n4 => (gN A r0 6 0).bind fun n5 => (gI A n5 7 6).bind fun x6 => (gI A r0 6 9).bind fun x7 => (sI 0 A n4 x6 (i1 + x7)).bind fun A8 => (gN A8 r0 6 0).bind fun n9 => (gN A8 r0 6 0).bind fun n10 => (gI A8 n10 7 6).bind fun x11 => (xV (xC E d 94 [.ref n9, .int (1 : Int32), .int ((6 : Int32) + x11)] A8)).bind fun A12 => (gN A12 r0 6 0).bind fun n13 => (gI A12 n13 7 6).bind fun x14 => (pF A12 n13 7 6 (.int (x14 + (1 : Int32)))).bind fun A15 => (xV (xC E d 72 [.ref r0] A15)).bind fun A16 => some (some (.int (1 : Int32)), A16) else some (some (.int (0 : Int32)), A) else some (some (.int (0 : Int32)), A) := (xD_bex E d h_86 [] 90 0 _ _ _).trans rfl
-- Tape.lawWord ()I
set_option maxRecDepth 100000 in
theorem h_87 : xprog[87]? = some M_87 := rfl
set_option maxRecDepth 100000 in
theorem e87_0 (E : Nat × (Nat → Int32)) (d : Nat) (r0 : Nat) (A : xH) : xD E (d + 1) 87 0 [.ref r0] [] A = (xI (xC E d 73 [.ref r0, .float 10] A)).bind fun q1 => if q1.1 = 0 then (xI (xC E d 73 [.ref r0, .float 11] q1.2)).bind fun q2 => if q2.1 = 0 then (xI (xC E d 73 [.ref r0, .float 3] q2.2)).bind fun q3 => if q3.1 = 0 then (xI (xC E d 73 [.ref r0, .float 12] q3.2)).bind fun q4 => if q4.1 = 0 then (xI (xC E d 73 [.ref r0, .float 13] q4.2)).bind fun q5 => if q5.1 = 0 then (xI (xC E d 73 [.ref r0, .float 4] q5.2)).bind fun q6 => if q6.1 = 0 then (xI (xC E d 73 [.ref r0, .float 14] q6.2)).bind fun q7 => if q7.1 = 0 then some (some (.int (-1 : Int32)), q7.2) else some (some (.int (6 : Int32)), q7.2) else some (some (.int (5 : Int32)), q6.2) else some (some (.int (4 : Int32)), q5.2) else some (some (.int (3 : Int32)), q4.2) else some (some (.int (2 : Int32)), q3.2) else some (some (.int (1 : Int32)), q2.2) else some (some (.int (0 : Int32)), q1.2) := (xD_bex E d h_87 [] 90 0 _ _ _).trans rfl
-- Tape.orderWord ()I
set_option maxRecDepth 100000 in
theorem h_88 : xprog[88]? = some M_88 := rfl
set_option maxRecDepth 100000 in
theorem e88_0 (E : Nat × (Nat → Int32)) (d : Nat) (r0 : Nat) (A : xH) : xD E (d + 1) 88 0 [.ref r0] [] A = (xI (xC E d 73 [.ref r0, .float 4] A)).bind fun q1 => if q1.1 = 0 then (xI (xC E d 73 [.ref r0, .float 5] q1.2)).bind fun q2 => if q2.1 = 0 then (xI (xC E d 73 [.ref r0, .float 6] q2.2)).bind fun q3 => if q3.1 = 0 then (xI (xC E d 73 [.ref r0, .float 7] q3.2)).bind fun q4 => if q4.1 = 0 then (xI (xC E d 73 [.ref r0, .float 8] q4.2)).bind fun q5 => if q5.1 = 0 then (xI (xC E d 73 [.ref r0, .float 9] q5.2)).bind fun q6 => if q6.1 = 0 then some (some (.int (-1 : Int32)), q6.2) else some (some (.int (5 : Int32)), q6.2) else some (some (.int (4 : Int32)), q5.2) else some (some (.int (3 : Int32)), q4.2) else some (some (.int (2 : Int32)), q3.2) else some (some (.int (1 : Int32)), q2.2) else some (some (.int (0 : Int32)), q1.2) := (xD_bex E d h_88 [] 90 0 _ _ _).trans rfl
-- Text.init0 ()V
set_option maxRecDepth 100000 in
theorem h_89 : xprog[89]? = some M_89 := rfl
set_option maxRecDepth 100000 in
theorem e89_0 (E : Nat × (Nat → Int32)) (d : Nat) (r0 : Nat) (A : xH) : xD E (d + 1) 89 0 [.ref r0] [] A = (pF A r0 7 4 (.int (0 : Int32))).bind fun A1 => (pF A1 r0 7 5 (.int (0 : Int32))).bind fun A2 => (pF A2 r0 7 6 (.int (0 : Int32))).bind fun A3 => xD E (d + 1) 89 25 [.ref r0] [.ref A3.length, .ref r0] (A3 ++ [.inl (0, 400, .inl fun _ => 0)]) := (xD_bex E d h_89 [25, 34, 42, 50] 90 0 _ _ _).trans rfl
set_option maxRecDepth 100000 in
theorem e89_25 (E : Nat × (Nat → Int32)) (d : Nat) (r0 : Nat) (s0 : Nat) (s1 : Nat) (A : xH) : xD E (d + 1) 89 25 [.ref r0] [.ref s1, .ref s0] A = (pF A s0 7 0 (.ref s1)).bind fun A1 => xD E (d + 1) 89 34 [.ref r0] [.ref A1.length, .ref r0] (A1 ++ [.inl (0, 400, .inl fun _ => 0)]) := (xD_bex E d h_89 [25, 34, 42, 50] 90 25 _ _ _).trans rfl
set_option maxRecDepth 100000 in
theorem e89_34 (E : Nat × (Nat → Int32)) (d : Nat) (r0 : Nat) (s0 : Nat) (s1 : Nat) (A : xH) : xD E (d + 1) 89 34 [.ref r0] [.ref s1, .ref s0] A = (pF A s0 7 1 (.ref s1)).bind fun A1 => xD E (d + 1) 89 42 [.ref r0] [.ref A1.length, .ref r0] (A1 ++ [.inl (0, 96, .inl fun _ => 0)]) := (xD_bex E d h_89 [25, 34, 42, 50] 90 34 _ _ _).trans rfl
set_option maxRecDepth 100000 in
theorem e89_42 (E : Nat × (Nat → Int32)) (d : Nat) (r0 : Nat) (s0 : Nat) (s1 : Nat) (A : xH) : xD E (d + 1) 89 42 [.ref r0] [.ref s1, .ref s0] A = (pF A s0 7 2 (.ref s1)).bind fun A1 => xD E (d + 1) 89 50 [.ref r0] [.ref A1.length, .ref r0] (A1 ++ [.inl (0, 50, .inl fun _ => 0)]) := (xD_bex E d h_89 [25, 34, 42, 50] 90 42 _ _ _).trans rfl
set_option maxRecDepth 100000 in
theorem e89_50 (E : Nat × (Nat → Int32)) (d : Nat) (w0 : Value) (s0 : Nat) (s1 : Nat) (A : xH) : xD E (d + 1) 89 50 [w0] [.ref s1, .ref s0] A = (pF A s0 7 3 (.ref s1)).bind fun A1 => some (none, A1) := (xD_bex E d h_89 [25, 34, 42, 50] 90 50 _ _ _).trans rfl
-- Text.init1 (LTwinBuckets$Text;)V
set_option maxRecDepth 100000 in
theorem h_90 : xprog[90]? = some M_90 := rfl
set_option maxRecDepth 100000 in
theorem e90_0 (E : Nat × (Nat → Int32)) (d : Nat) (r0 : Nat) (r1 : Nat) (A : xH) : xD E (d + 1) 90 0 [.ref r0, .ref r1] [] A = (pF A r0 7 4 (.int (0 : Int32))).bind fun A1 => (pF A1 r0 7 5 (.int (0 : Int32))).bind fun A2 => (pF A2 r0 7 6 (.int (0 : Int32))).bind fun A3 => (gN A3 r1 7 0).bind fun n4 => (gI A3 r1 7 4).bind fun x5 => (xNn (xC E d 299 [.ref n4, .int x5] A3)).bind fun q6 => (pF q6.2 r0 7 0 (.ref q6.1)).bind fun A7 => (gN A7 r1 7 1).bind fun n8 => (gI A7 r1 7 4).bind fun x9 => (xNn (xC E d 299 [.ref n8, .int x9] A7)).bind fun q10 => (pF q10.2 r0 7 1 (.ref q10.1)).bind fun A11 => (gN A11 r1 7 2).bind fun n12 => (gI A11 r1 7 5).bind fun x13 => (xNn (xC E d 299 [.ref n12, .int (x13 * (8 : Int32))] A11)).bind fun q14 => (pF q14.2 r0 7 2 (.ref q14.1)).bind fun A15 => (gN A15 r1 7 3).bind fun n16 => (gI A15 r1 7 6).bind fun x17 => (xNn (xC E d 299 [.ref n16, .int x17] A15)).bind fun q18 => (pF q18.2 r0 7 3 (.ref q18.1)).bind fun A19 => (gI A19 r1 7 4).bind fun x20 => (pF A19 r0 7 4 (.int x20)).bind fun A21 => (gI A21 r1 7 5).bind fun x22 => xD E (d + 1) 90 95 [.ref r0, .ref r1] [.int x22, .ref r0] A21 := (xD_bex E d h_90 [95] 90 0 _ _ _).trans rfl
set_option maxRecDepth 100000 in
theorem e90_95 (E : Nat × (Nat → Int32)) (d : Nat) (r0 : Nat) (r1 : Nat) (s0 : Nat) (s1 : Int32) (A : xH) : xD E (d + 1) 90 95 [.ref r0, .ref r1] [.int s1, .ref s0] A = (pF A s0 7 5 (.int s1)).bind fun A1 => (gI A1 r1 7 6).bind fun x2 => (pF A1 r0 7 6 (.int x2)).bind fun A3 => some (none, A3) := (xD_bex E d h_90 [95] 90 95 _ _ _).trans rfl
-- Text.clear ()V
set_option maxRecDepth 100000 in
theorem h_91 : xprog[91]? = some M_91 := rfl
set_option maxRecDepth 100000 in
theorem e91_0 (E : Nat × (Nat → Int32)) (d : Nat) (r0 : Nat) (A : xH) : xD E (d + 1) 91 0 [.ref r0] [] A = (pF A r0 7 4 (.int (0 : Int32))).bind fun A1 => (pF A1 r0 7 5 (.int (0 : Int32))).bind fun A2 => (pF A2 r0 7 6 (.int (0 : Int32))).bind fun A3 => some (none, A3) := (xD_bex E d h_91 [] 90 0 _ _ _).trans rfl
-- Text.cell (II)I
set_option maxRecDepth 100000 in
theorem h_92 : xprog[92]? = some M_92 := rfl
set_option maxRecDepth 100000 in
theorem e92_0 (E : Nat × (Nat → Int32)) (d : Nat) (r0 : Nat) (i1 : Int32) (i2 : Int32) (A : xH) : xD E (d + 1) 92 0 [.ref r0, .int i1, .int i2] [] A = (gN A r0 7 2).bind fun n1 => (aI 0 A n1 ((i1 * (8 : Int32)) + i2)).bind fun x2 => some (some (.int x2), A) := (xD_bex E d h_92 [] 90 0 _ _ _).trans rfl
-- Text.setCell (II)V
set_option maxRecDepth 100000 in
theorem h_93 : xprog[93]? = some M_93 := rfl
set_option maxRecDepth 100000 in
theorem e93_0 (E : Nat × (Nat → Int32)) (d : Nat) (r0 : Nat) (i1 : Int32) (i2 : Int32) (A : xH) : xD E (d + 1) 93 0 [.ref r0, .int i1, .int i2] [] A = (gN A r0 7 2).bind fun n1 => (gI A r0 7 5).bind fun x2 => (sI 0 A n1 ((x2 * (8 : Int32)) + i1) i2).bind fun A3 => some (none, A3) := (xD_bex E d h_93 [] 90 0 _ _ _).trans rfl
-- Text.emit (II)V
set_option maxRecDepth 100000 in
theorem h_94 : xprog[94]? = some M_94 := rfl
set_option maxRecDepth 100000 in
theorem e94_0 (E : Nat × (Nat → Int32)) (d : Nat) (r0 : Nat) (i1 : Int32) (i2 : Int32) (A : xH) : xD E (d + 1) 94 0 [.ref r0, .int i1, .int i2] [] A = (gI A r0 7 4).bind fun x1 => (gN A r0 7 0).bind fun n2 => (lA A n2).bind fun x3 => if x3 ≤ x1 then some (none, A) else (gN A r0 7 0).bind fun n4 => (gI A r0 7 4).bind fun x5 => (sI 0 A n4 x5 i1).bind fun A6 => (gN A6 r0 7 1).bind fun n7 => (gI A6 r0 7 4).bind fun x8 => (sI 0 A6 n7 x8 i2).bind fun A9 => (gI A9 r0 7 4).bind fun x10 => (pF A9 r0 7 4 (.int (x10 + (1 : Int32)))).bind fun A11 => some (none, A11) := (xD_bex E d h_94 [] 90 0 _ _ _).trans rfl
-- Text.aim (I)V
set_option maxRecDepth 100000 in
theorem h_95 : xprog[95]? = some M_95 := rfl
set_option maxRecDepth 100000 in
theorem e95_0 (E : Nat × (Nat → Int32)) (d : Nat) (r0 : Nat) (i1 : Int32) (A : xH) : xD E (d + 1) 95 0 [.ref r0, .int i1] [] A = if i1 < 0 then some (none, A) else (gI A r0 7 4).bind fun x1 => if x1 ≤ i1 then some (none, A) else (gN A r0 7 1).bind fun n2 => (gI A r0 7 4).bind fun x3 => (sI 0 A n2 i1 x3).bind fun A4 => some (none, A4) := (xD_bex E d h_95 [] 90 0 _ _ _).trans rfl
-- Text.worth (II[I[I)I
set_option maxRecDepth 100000 in
theorem h_96 : xprog[96]? = some M_96 := rfl
set_option maxRecDepth 100000 in
theorem e96_0 (E : Nat × (Nat → Int32)) (d : Nat) (r0 : Nat) (i1 : Int32) (i2 : Int32) (r3 : Nat) (r4 : Nat) (A : xH) : xD E (d + 1) 96 0 [.ref r0, .int i1, .int i2, .ref r3, .ref r4, xJ, xJ, xJ, xJ, xJ, xJ, xJ] [] A = (xI (xC E d 92 [.ref r0, .int i1, .int i2] A)).bind fun q1 => (xI (xC E d 92 [.ref r0, .int i1, .int (i2 + (1 : Int32))] q1.2)).bind fun q2 => xD E (d + 1) 96 25 [.ref r0, .int i1, .int i2, .ref r3, .ref r4, .int q1.1, .int q2.1, .int (0 : Int32), .int q1.1, xJ, xJ, xJ] [] q2.2 := (xD_bex E d h_96 [25, 142, 160, 182, 237] 90 0 _ _ _).trans rfl
set_option maxRecDepth 100000 in
theorem e96_25 (E : Nat × (Nat → Int32)) (d : Nat) (r0 : Nat) (w1 : Value) (w2 : Value) (r3 : Nat) (r4 : Nat) (i5 : Int32) (i6 : Int32) (i7 : Int32) (i8 : Int32) (w9 : Value) (w10 : Value) (w11 : Value) (A : xH) : xD E (d + 1) 96 25 [.ref r0, w1, w2, .ref r3, .ref r4, .int i5, .int i6, .int i7, .int i8, w9, w10, w11] [] A = if i6 ≤ i8 then if i5 = i6 then some (some (.int (1 : Int32)), A) else (aI 0 A r4 (0 : Int32)).bind fun x1 => some (some (.int x1), A) else (lA A r4).bind fun x2 => if x2 ≤ i7 then if i5 = i6 then some (some (.int (1 : Int32)), A) else (aI 0 A r4 (0 : Int32)).bind fun x3 => some (some (.int x3), A) else (gN A r0 7 0).bind fun n4 => (aI 0 A n4 i8).bind fun x5 => (gN A r0 7 1).bind fun n6 => (aI 0 A n6 i8).bind fun x7 => if x5 = 0 then (sI 0 A r4 i7 x7).bind fun A8 => xD E (d + 1) 96 25 [.ref r0, xJ, xJ, .ref r3, .ref r4, .int i5, .int i6, .int (i7 + (1 : Int32)), .int (i8 + (1 : Int32)), .int x5, .int x7, xJ] [] A8 else if x5 = (1 : Int32) then (aI 0 A r3 x7).bind fun x9 => (sI 0 A r4 i7 x9).bind fun A10 => xD E (d + 1) 96 25 [.ref r0, xJ, xJ, .ref r3, .ref r4, .int i5, .int i6, .int (i7 + (1 : Int32)), .int (i8 + (1 : Int32)), .int x5, .int x7, xJ] [] A10 else if i7 = 0 then some (some (.int (-2000000000 : Int32)), A) else if x5 = (2 : Int32) then (aI 0 A r4 (i7 - (1 : Int32))).bind fun x11 => (sI 0 A r4 (i7 - (1 : Int32)) ((1 : Int32) - x11)).bind fun A12 => xD E (d + 1) 96 25 [.ref r0, xJ, xJ, .ref r3, .ref r4, .int i5, .int i6, .int i7, .int (i8 + (1 : Int32)), .int x5, .int x7, xJ] [] A12 else if x5 = (3 : Int32) then xD E (d + 1) 96 142 [.ref r0, xJ, xJ, .ref r3, .ref r4, .int i5, .int i6, .int i7, .int i8, .int x5, .int x7, xJ] [] A else if x5 = (4 : Int32) then xD E (d + 1) 96 142 [.ref r0, xJ, xJ, .ref r3, .ref r4, .int i5, .int i6, .int i7, .int i8, .int x5, .int x7, xJ] [] A else if i7 = (1 : Int32) then some (some (.int (-2000000000 : Int32)), A) else (aI 0 A r4 ((i7 + (-1 : Int32)) - (1 : Int32))).bind fun x13 => xD E (d + 1) 96 237 [.ref r0, xJ, xJ, .ref r3, .ref r4, .int i5, .int i6, .int (i7 + (-1 : Int32)), .int i8, .int x5, .int x7, xJ] [.long (x13).toInt64, .int x5, .int ((i7 + (-1 : Int32)) - (1 : Int32)), .ref r4] A := (xD_bex E d h_96 [25, 142, 160, 182, 237] 90 25 _ _ _).trans rfl
set_option maxRecDepth 100000 in
theorem e96_142 (E : Nat × (Nat → Int32)) (d : Nat) (r0 : Nat) (w1 : Value) (w2 : Value) (r3 : Nat) (r4 : Nat) (i5 : Int32) (i6 : Int32) (i7 : Int32) (i8 : Int32) (i9 : Int32) (i10 : Int32) (w11 : Value) (A : xH) : xD E (d + 1) 96 142 [.ref r0, w1, w2, .ref r3, .ref r4, .int i5, .int i6, .int i7, .int i8, .int i9, .int i10, w11] [] A = (aI 0 A r4 (i7 - (1 : Int32))).bind fun x1 => if i9 = (4 : Int32) then xD E (d + 1) 96 160 [.ref r0, xJ, xJ, .ref r3, .ref r4, .int i5, .int i6, .int i7, .int i8, .int i9, .int i10, xJ] [.int (1 : Int32), .int x1] A else xD E (d + 1) 96 160 [.ref r0, xJ, xJ, .ref r3, .ref r4, .int i5, .int i6, .int i7, .int i8, .int i9, .int i10, xJ] [.int (0 : Int32), .int x1] A := (xD_bex E d h_96 [25, 142, 160, 182, 237] 90 142 _ _ _).trans rfl
set_option maxRecDepth 100000 in
theorem e96_160 (E : Nat × (Nat → Int32)) (d : Nat) (r0 : Nat) (w1 : Value) (w2 : Value) (r3 : Nat) (r4 : Nat) (i5 : Int32) (i6 : Int32) (i7 : Int32) (i8 : Int32) (w9 : Value) (i10 : Int32) (w11 : Value) (s0 : Int32) (s1 : Int32) (A : xH) : xD E (d + 1) 96 160 [.ref r0, w1, w2, .ref r3, .ref r4, .int i5, .int i6, .int i7, .int i8, w9, .int i10, w11] [.int s1, .int s0] A = if s0 = s1 then if (1 : Int32) = 0 then xD E (d + 1) 96 182 [.ref r0, xJ, xJ, .ref r3, .ref r4, .int i5, .int i6, .int i7, .int i8, xJ, .int i10, .int (1 : Int32)] [.int (1 : Int32), .int i7] A else xD E (d + 1) 96 182 [.ref r0, xJ, xJ, .ref r3, .ref r4, .int i5, .int i6, .int i7, .int i8, xJ, .int i10, .int (1 : Int32)] [.int (0 : Int32), .int i7] A else if (0 : Int32) = 0 then xD E (d + 1) 96 182 [.ref r0, xJ, xJ, .ref r3, .ref r4, .int i5, .int i6, .int i7, .int i8, xJ, .int i10, .int (0 : Int32)] [.int (1 : Int32), .int i7] A else xD E (d + 1) 96 182 [.ref r0, xJ, xJ, .ref r3, .ref r4, .int i5, .int i6, .int i7, .int i8, xJ, .int i10, .int (0 : Int32)] [.int (0 : Int32), .int i7] A := (xD_bex E d h_96 [25, 142, 160, 182, 237] 90 160 _ _ _).trans rfl
set_option maxRecDepth 100000 in
theorem e96_182 (E : Nat × (Nat → Int32)) (d : Nat) (r0 : Nat) (w1 : Value) (w2 : Value) (r3 : Nat) (r4 : Nat) (i5 : Int32) (i6 : Int32) (w7 : Value) (i8 : Int32) (w9 : Value) (i10 : Int32) (i11 : Int32) (s0 : Int32) (s1 : Int32) (A : xH) : xD E (d + 1) 96 182 [.ref r0, w1, w2, .ref r3, .ref r4, .int i5, .int i6, w7, .int i8, w9, .int i10, .int i11] [.int s1, .int s0] A = if i11 = 0 then xD E (d + 1) 96 25 [.ref r0, xJ, xJ, .ref r3, .ref r4, .int i5, .int i6, .int (s0 - s1), .int (i8 + (1 : Int32)), xJ, .int i10, .int i11] [] A else xD E (d + 1) 96 25 [.ref r0, xJ, xJ, .ref r3, .ref r4, .int i5, .int i6, .int (s0 - s1), .int ((xmax i8 (i10 - (1 : Int32))) + (1 : Int32)), xJ, .int i10, .int i11] [] A := (xD_bex E d h_96 [25, 142, 160, 182, 237] 90 182 _ _ _).trans rfl
set_option maxRecDepth 100000 in
theorem e96_237 (E : Nat × (Nat → Int32)) (d : Nat) (r0 : Nat) (w1 : Value) (w2 : Value) (r3 : Nat) (r4 : Nat) (i5 : Int32) (i6 : Int32) (i7 : Int32) (i8 : Int32) (w9 : Value) (w10 : Value) (w11 : Value) (s0 : Nat) (s1 : Int32) (s2 : Int32) (s3 : Int64) (A : xH) : xD E (d + 1) 96 237 [.ref r0, w1, w2, .ref r3, .ref r4, .int i5, .int i6, .int i7, .int i8, w9, w10, w11] [.long s3, .int s2, .int s1, .ref s0] A = (aI 0 A r4 i7).bind fun x1 => (xI (xC E d 97 [.int s2, .long s3, .long (x1).toInt64] A)).bind fun q2 => (sI 0 q2.2 s0 s1 q2.1).bind fun A3 => (aI 0 A3 r4 (i7 - (1 : Int32))).bind fun x4 => if x4 = (-2000000000 : Int32) then some (some (.int (-2000000000 : Int32)), A3) else xD E (d + 1) 96 25 [.ref r0, xJ, xJ, .ref r3, .ref r4, .int i5, .int i6, .int i7, .int (i8 + (1 : Int32)), xJ, xJ, xJ] [] A3 := (xD_bex E d h_96 [25, 142, 160, 182, 237] 90 237 _ _ _).trans rfl
-- Text.combine (IJJ)I
set_option maxRecDepth 100000 in
theorem h_97 : xprog[97]? = some M_97 := rfl
set_option maxRecDepth 100000 in
theorem e97_0 (E : Nat × (Nat → Int32)) (d : Nat) (i0 : Int32) (j1 : Int64) (j3 : Int64) (A : xH) : xD E (d + 1) 97 0 [.int i0, .long j1, xJ, .long j3, xJ, xJ, xJ] [] A = if i0 = (5 : Int32) then xD E (d + 1) 97 153 [.int i0, .long j1, xJ, .long j3, xJ, .long (j1 + j3), xJ] [] A else if i0 = (6 : Int32) then xD E (d + 1) 97 153 [.int i0, .long j1, xJ, .long j3, xJ, .long (j1 - j3), xJ] [] A else if i0 = (7 : Int32) then xD E (d + 1) 97 153 [.int i0, .long j1, xJ, .long j3, xJ, .long (j1 * j3), xJ] [] A else if i0 = (8 : Int32) then if (lg_cmp j3 (0 : Int64)) = 0 then xD E (d + 1) 97 153 [.int i0, .long j1, xJ, .long j3, xJ, .long (-2000000000 : Int64), xJ] [] A else if j3 = 0 then none else xD E (d + 1) 97 153 [.int i0, .long j1, xJ, .long j3, xJ, .long (j1 / j3), xJ] [] A else if i0 = (9 : Int32) then if (lg_cmp j3 (0 : Int64)) = 0 then xD E (d + 1) 97 153 [.int i0, .long j1, xJ, .long j3, xJ, .long (-2000000000 : Int64), xJ] [] A else if j3 = 0 then none else xD E (d + 1) 97 153 [.int i0, .long j1, xJ, .long j3, xJ, .long (xlrem j1 j3), xJ] [] A else if i0 = (10 : Int32) then if 0 ≤ (lg_cmp j1 j3) then xD E (d + 1) 97 153 [.int i0, .long j1, xJ, .long j3, xJ, .long (0 : Int64), xJ] [] A else xD E (d + 1) 97 153 [.int i0, .long j1, xJ, .long j3, xJ, .long (1 : Int64), xJ] [] A else if i0 = (11 : Int32) then if (lg_cmp j1 j3) ≤ 0 then xD E (d + 1) 97 153 [.int i0, .long j1, xJ, .long j3, xJ, .long (0 : Int64), xJ] [] A else xD E (d + 1) 97 153 [.int i0, .long j1, xJ, .long j3, xJ, .long (1 : Int64), xJ] [] A else if (lg_cmp j1 j3) = 0 then xD E (d + 1) 97 153 [.int i0, .long j1, xJ, .long j3, xJ, .long (1 : Int64), xJ] [] A else xD E (d + 1) 97 153 [.int i0, .long j1, xJ, .long j3, xJ, .long (0 : Int64), xJ] [] A := (xD_bex E d h_97 [153] 90 0 _ _ _).trans rfl
set_option maxRecDepth 100000 in
theorem e97_153 (E : Nat × (Nat → Int32)) (d : Nat) (w0 : Value) (w1 : Value) (w2 : Value) (w3 : Value) (w4 : Value) (j5 : Int64) (A : xH) : xD E (d + 1) 97 153 [w0, w1, w2, w3, w4, .long j5, xJ] [] A = if (lg_cmp j5 (-1000000000 : Int64)) < 0 then some (some (.int (-2000000000 : Int32)), A) else if (lg_cmp j5 (1000000000 : Int64)) ≤ 0 then some (some (.int ((j5).toInt32)), A) else some (some (.int (-2000000000 : Int32)), A) := (xD_bex E d h_97 [153] 90 153 _ _ _).trans rfl
end
section
/-! ===== what each block does, an equation a block (printed by wip/whole/gen.py) ===== -/
-- TB.init ()V
set_option maxRecDepth 100000 in
theorem h_98 : xprog[98]? = some M_98 := rfl
set_option maxRecDepth 100000 in
theorem e98_0 (E : Nat × (Nat → Int32)) (d : Nat) (r0 : Nat) (A : xH) : xD E (d + 1) 98 0 [.ref r0] [] A = xD E (d + 1) 98 8 [.ref r0] [.ref A.length, .ref r0] (A ++ [.inr (5, [.null, .null, .null, .null, .int 0, .int 0, .int 0, .int 0])]) := (xD_bex E d h_98 [8, 19, 30, 41, 52, 63, 74, 86, 93, 105, 113, 121, 129, 137] 90 0 _ _ _).trans rfl
set_option maxRecDepth 100000 in
theorem e98_8 (E : Nat × (Nat → Int32)) (d : Nat) (r0 : Nat) (s0 : Nat) (s1 : Nat) (A : xH) : xD E (d + 1) 98 8 [.ref r0] [.ref s1, .ref s0] A = (xV (xC E d 40 [.ref s1] A)).bind fun A1 => (pF A1 s0 8 0 (.ref s1)).bind fun A2 => xD E (d + 1) 98 19 [.ref r0] [.ref A2.length, .ref r0] (A2 ++ [.inr (5, [.null, .null, .null, .null, .int 0, .int 0, .int 0, .int 0])]) := (xD_bex E d h_98 [8, 19, 30, 41, 52, 63, 74, 86, 93, 105, 113, 121, 129, 137] 90 8 _ _ _).trans rfl
set_option maxRecDepth 100000 in
theorem e98_19 (E : Nat × (Nat → Int32)) (d : Nat) (r0 : Nat) (s0 : Nat) (s1 : Nat) (A : xH) : xD E (d + 1) 98 19 [.ref r0] [.ref s1, .ref s0] A = (xV (xC E d 40 [.ref s1] A)).bind fun A1 => (pF A1 s0 8 1 (.ref s1)).bind fun A2 => xD E (d + 1) 98 30 [.ref r0] [.ref A2.length, .ref r0] (A2 ++ [.inr (5, [.null, .null, .null, .null, .int 0, .int 0, .int 0, .int 0])]) := (xD_bex E d h_98 [8, 19, 30, 41, 52, 63, 74, 86, 93, 105, 113, 121, 129, 137] 90 19 _ _ _).trans rfl
set_option maxRecDepth 100000 in
theorem e98_30 (E : Nat × (Nat → Int32)) (d : Nat) (r0 : Nat) (s0 : Nat) (s1 : Nat) (A : xH) : xD E (d + 1) 98 30 [.ref r0] [.ref s1, .ref s0] A = (xV (xC E d 40 [.ref s1] A)).bind fun A1 => (pF A1 s0 8 2 (.ref s1)).bind fun A2 => xD E (d + 1) 98 41 [.ref r0] [.ref A2.length, .ref r0] (A2 ++ [.inr (3, [.null, .null, .null, .int 0, .int 0, .int 0, .int 0, .int 0])]) := (xD_bex E d h_98 [8, 19, 30, 41, 52, 63, 74, 86, 93, 105, 113, 121, 129, 137] 90 30 _ _ _).trans rfl
set_option maxRecDepth 100000 in
theorem e98_41 (E : Nat × (Nat → Int32)) (d : Nat) (r0 : Nat) (s0 : Nat) (s1 : Nat) (A : xH) : xD E (d + 1) 98 41 [.ref r0] [.ref s1, .ref s0] A = (xV (xC E d 26 [.ref s1] A)).bind fun A1 => (pF A1 s0 8 3 (.ref s1)).bind fun A2 => xD E (d + 1) 98 52 [.ref r0] [.ref A2.length, .ref r0] (A2 ++ [.inr (4, [.null, .null, .int 0])]) := (xD_bex E d h_98 [8, 19, 30, 41, 52, 63, 74, 86, 93, 105, 113, 121, 129, 137] 90 41 _ _ _).trans rfl
set_option maxRecDepth 100000 in
theorem e98_52 (E : Nat × (Nat → Int32)) (d : Nat) (r0 : Nat) (s0 : Nat) (s1 : Nat) (A : xH) : xD E (d + 1) 98 52 [.ref r0] [.ref s1, .ref s0] A = (xV (xC E d 35 [.ref s1] A)).bind fun A1 => (pF A1 s0 8 4 (.ref s1)).bind fun A2 => xD E (d + 1) 98 63 [.ref r0] [.ref A2.length, .ref r0] (A2 ++ [.inr (0, [.null, .null, .null, .int 0])]) := (xD_bex E d h_98 [8, 19, 30, 41, 52, 63, 74, 86, 93, 105, 113, 121, 129, 137] 90 52 _ _ _).trans rfl
set_option maxRecDepth 100000 in
theorem e98_63 (E : Nat × (Nat → Int32)) (d : Nat) (r0 : Nat) (s0 : Nat) (s1 : Nat) (A : xH) : xD E (d + 1) 98 63 [.ref r0] [.ref s1, .ref s0] A = (xV (xC E d 0 [.ref s1] A)).bind fun A1 => (pF A1 s0 8 5 (.ref s1)).bind fun A2 => xD E (d + 1) 98 74 [.ref r0] [.ref A2.length, .ref r0] (A2 ++ [.inr (0, [.null, .null, .null, .int 0])]) := (xD_bex E d h_98 [8, 19, 30, 41, 52, 63, 74, 86, 93, 105, 113, 121, 129, 137] 90 63 _ _ _).trans rfl
set_option maxRecDepth 100000 in
theorem e98_74 (E : Nat × (Nat → Int32)) (d : Nat) (r0 : Nat) (s0 : Nat) (s1 : Nat) (A : xH) : xD E (d + 1) 98 74 [.ref r0] [.ref s1, .ref s0] A = (xV (xC E d 0 [.ref s1] A)).bind fun A1 => (pF A1 s0 8 6 (.ref s1)).bind fun A2 => xD E (d + 1) 98 86 [.ref r0] [.ref A2.length, .ref r0] (A2 ++ [.inl (6, 2, .inr (.inr fun _ => none))]) := (xD_bex E d h_98 [8, 19, 30, 41, 52, 63, 74, 86, 93, 105, 113, 121, 129, 137] 90 74 _ _ _).trans rfl
set_option maxRecDepth 100000 in
theorem e98_86 (E : Nat × (Nat → Int32)) (d : Nat) (r0 : Nat) (s0 : Nat) (s1 : Nat) (A : xH) : xD E (d + 1) 98 86 [.ref r0] [.ref s1, .ref s0] A = (pF A s0 8 7 (.ref s1)).bind fun A1 => xD E (d + 1) 98 93 [.ref r0] [.ref A1.length, .ref r0] (A1 ++ [.inr (6, [.null, .null, .int 0, .int 0, .int 0, .int 0, .int 0, .int 0, .int 0, .int 0])]) := (xD_bex E d h_98 [8, 19, 30, 41, 52, 63, 74, 86, 93, 105, 113, 121, 129, 137] 90 86 _ _ _).trans rfl
set_option maxRecDepth 100000 in
theorem e98_93 (E : Nat × (Nat → Int32)) (d : Nat) (r0 : Nat) (s0 : Nat) (s1 : Nat) (A : xH) : xD E (d + 1) 98 93 [.ref r0] [.ref s1, .ref s0] A = (xV (xC E d 68 [.ref s1] A)).bind fun A1 => (pF A1 s0 8 8 (.ref s1)).bind fun A2 => xD E (d + 1) 98 105 [.ref r0] [.ref A2.length, .ref r0] (A2 ++ [.inl (0, 56, .inl fun _ => 0)]) := (xD_bex E d h_98 [8, 19, 30, 41, 52, 63, 74, 86, 93, 105, 113, 121, 129, 137] 90 93 _ _ _).trans rfl
set_option maxRecDepth 100000 in
theorem e98_105 (E : Nat × (Nat → Int32)) (d : Nat) (r0 : Nat) (s0 : Nat) (s1 : Nat) (A : xH) : xD E (d + 1) 98 105 [.ref r0] [.ref s1, .ref s0] A = (pF A s0 8 9 (.ref s1)).bind fun A1 => xD E (d + 1) 98 113 [.ref r0] [.ref A1.length, .ref r0] (A1 ++ [.inl (0, 7, .inl fun _ => 0)]) := (xD_bex E d h_98 [8, 19, 30, 41, 52, 63, 74, 86, 93, 105, 113, 121, 129, 137] 90 105 _ _ _).trans rfl
set_option maxRecDepth 100000 in
theorem e98_113 (E : Nat × (Nat → Int32)) (d : Nat) (r0 : Nat) (s0 : Nat) (s1 : Nat) (A : xH) : xD E (d + 1) 98 113 [.ref r0] [.ref s1, .ref s0] A = (pF A s0 8 10 (.ref s1)).bind fun A1 => xD E (d + 1) 98 121 [.ref r0] [.ref A1.length, .ref r0] (A1 ++ [.inl (0, 40, .inl fun _ => 0)]) := (xD_bex E d h_98 [8, 19, 30, 41, 52, 63, 74, 86, 93, 105, 113, 121, 129, 137] 90 113 _ _ _).trans rfl
set_option maxRecDepth 100000 in
theorem e98_121 (E : Nat × (Nat → Int32)) (d : Nat) (r0 : Nat) (s0 : Nat) (s1 : Nat) (A : xH) : xD E (d + 1) 98 121 [.ref r0] [.ref s1, .ref s0] A = (pF A s0 8 11 (.ref s1)).bind fun A1 => xD E (d + 1) 98 129 [.ref r0] [.ref A1.length, .ref r0] (A1 ++ [.inl (0, 64, .inl fun _ => 0)]) := (xD_bex E d h_98 [8, 19, 30, 41, 52, 63, 74, 86, 93, 105, 113, 121, 129, 137] 90 121 _ _ _).trans rfl
set_option maxRecDepth 100000 in
theorem e98_129 (E : Nat × (Nat → Int32)) (d : Nat) (r0 : Nat) (s0 : Nat) (s1 : Nat) (A : xH) : xD E (d + 1) 98 129 [.ref r0] [.ref s1, .ref s0] A = (pF A s0 8 12 (.ref s1)).bind fun A1 => xD E (d + 1) 98 137 [.ref r0] [.ref A1.length, .ref r0] (A1 ++ [.inl (3, 20, .inr (.inl fun _ => 0))]) := (xD_bex E d h_98 [8, 19, 30, 41, 52, 63, 74, 86, 93, 105, 113, 121, 129, 137] 90 129 _ _ _).trans rfl
set_option maxRecDepth 100000 in
theorem e98_137 (E : Nat × (Nat → Int32)) (d : Nat) (r0 : Nat) (s0 : Nat) (s1 : Nat) (A : xH) : xD E (d + 1) 98 137 [.ref r0] [.ref s1, .ref s0] A = (pF A s0 8 13 (.ref s1)).bind fun A1 => (pF A1 r0 8 14 (.int (0 : Int32))).bind fun A2 => (pF A2 r0 8 15 (.int (-1 : Int32))).bind fun A3 => (pF A3 r0 8 16 (.int (-1 : Int32))).bind fun A4 => (pF A4 r0 8 17 (.int (0 : Int32))).bind fun A5 => (gN A5 r0 8 0).bind fun n6 => (xV (xC E d 41 [.ref n6] A5)).bind fun A7 => (gN A7 r0 8 11).bind fun n8 => (xV (xC E d 297 [.ref n8, .int (-1 : Int32)] A7)).bind fun A9 => some (none, A9) := (xD_bex E d h_98 [8, 19, 30, 41, 52, 63, 74, 86, 93, 105, 113, 121, 129, 137] 90 137 _ _ _).trans rfl
-- TB.of (II)I
set_option maxRecDepth 100000 in
theorem h_99 : xprog[99]? = some M_99 := rfl
set_option maxRecDepth 100000 in
theorem e99_0 (E : Nat × (Nat → Int32)) (d : Nat) (r0 : Nat) (i1 : Int32) (i2 : Int32) (A : xH) : xD E (d + 1) 99 0 [.ref r0, .int i1, .int i2] [] A = (gN A r0 8 0).bind fun n1 => (gN A n1 5 0).bind fun n2 => (xI (xC E d 10 [.ref n2, .int i1, .int i2] A)).bind fun q3 => some (some (.int q3.1), q3.2) := (xD_bex E d h_99 [] 90 0 _ _ _).trans rfl
-- TB.page (II)I
set_option maxRecDepth 100000 in
theorem h_100 : xprog[100]? = some M_100 := rfl
set_option maxRecDepth 100000 in
theorem e100_0 (E : Nat × (Nat → Int32)) (d : Nat) (r0 : Nat) (i1 : Int32) (i2 : Int32) (A : xH) : xD E (d + 1) 100 0 [.ref r0, .int i1, .int i2] [] A = (gN A r0 8 0).bind fun n1 => (gN A n1 5 1).bind fun n2 => (xI (xC E d 10 [.ref n2, .int i1, .int i2] A)).bind fun q3 => some (some (.int q3.1), q3.2) := (xD_bex E d h_100 [] 90 0 _ _ _).trans rfl
-- TB.write (II)I
set_option maxRecDepth 100000 in
theorem h_101 : xprog[101]? = some M_101 := rfl
set_option maxRecDepth 100000 in
theorem e101_0 (E : Nat × (Nat → Int32)) (d : Nat) (r0 : Nat) (i1 : Int32) (i2 : Int32) (A : xH) : xD E (d + 1) 101 0 [.ref r0, .int i1, .int i2] [] A = (gN A r0 8 0).bind fun n1 => (xI (xC E d 58 [.ref n1, .int i1, .int i2] A)).bind fun q2 => some (some (.int q2.1), q2.2) := (xD_bex E d h_101 [] 90 0 _ _ _).trans rfl
-- TB.slot (I)I
set_option maxRecDepth 100000 in
theorem h_102 : xprog[102]? = some M_102 := rfl
set_option maxRecDepth 100000 in
theorem e102_0 (E : Nat × (Nat → Int32)) (d : Nat) (r0 : Nat) (i1 : Int32) (A : xH) : xD E (d + 1) 102 0 [.ref r0, .int i1] [] A = if i1 < 0 then some (some (.int (-1 : Int32)), A) else (gN A r0 8 0).bind fun n1 => (xI (xC E d 43 [.ref n1] A)).bind fun q2 => if q2.1 ≤ i1 then some (some (.int (-1 : Int32)), q2.2) else (gN q2.2 r0 8 0).bind fun n3 => (gN q2.2 n3 5 2).bind fun n4 => (aI 0 q2.2 n4 i1).bind fun x5 => some (some (.int x5), q2.2) := (xD_bex E d h_102 [] 90 0 _ _ _).trans rfl
-- TB.key (II)I
set_option maxRecDepth 100000 in
theorem h_103 : xprog[103]? = some M_103 := rfl
set_option maxRecDepth 100000 in
theorem e103_0 (E : Nat × (Nat → Int32)) (d : Nat) (r0 : Nat) (i1 : Int32) (i2 : Int32) (A : xH) : xD E (d + 1) 103 0 [.ref r0, .int i1, .int i2] [] A = (xI (xC E d 139 [.int i1] A)).bind fun q1 => if q1.1 = 0 then some (some (.int (-1 : Int32)), q1.2) else if i2 = (0 : Int32) then (gN q1.2 r0 8 3).bind fun n2 => (xI (xC E d 29 [.ref n2, .int i1] q1.2)).bind fun q3 => some (some (.int q3.1), q3.2) else if i2 = (1 : Int32) then (gN q1.2 r0 8 0).bind fun n4 => (gN q1.2 r0 8 3).bind fun n5 => (xI (xC E d 46 [.ref n4, .int i1, .ref n5] q1.2)).bind fun q6 => some (some (.int q6.1), q6.2) else if i2 = (2 : Int32) then (gN q1.2 r0 8 0).bind fun n7 => (gN q1.2 r0 8 3).bind fun n8 => (xI (xC E d 45 [.ref n7, .int i1, .ref n8] q1.2)).bind fun q9 => some (some (.int q9.1), q9.2) else if i2 = (3 : Int32) then (gN q1.2 r0 8 0).bind fun n10 => (gN q1.2 r0 8 3).bind fun n11 => (xI (xC E d 47 [.ref n10, .int i1, .ref n11] q1.2)).bind fun q12 => if q12.1 = 0 then some (some (.int (0 : Int32)), q12.2) else some (some (.int (1 : Int32)), q12.2) else some (some (.int (-1 : Int32)), q1.2) := (xD_bex E d h_103 [] 90 0 _ _ _).trans rfl
-- TB.terms (II)I
set_option maxRecDepth 100000 in
theorem h_104 : xprog[104]? = some M_104 := rfl
set_option maxRecDepth 100000 in
theorem e104_0 (E : Nat × (Nat → Int32)) (d : Nat) (r0 : Nat) (i1 : Int32) (i2 : Int32) (A : xH) : xD E (d + 1) 104 0 [.ref r0, .int i1, .int i2, xJ] [] A = if i2 < 0 then (xI (xC E d 141 [.ref r0, .int (-1 : Int32)] A)).bind fun q1 => some (some (.int q1.1), q1.2) else (xI (xC E d 144 [.int i1] A)).bind fun q2 => if i2 ≤ q2.1 then if i1 = (3 : Int32) then (gN q2.2 r0 8 0).bind fun n3 => (xI (xC E d 44 [.ref n3] q2.2)).bind fun q4 => if q4.1 ≤ 0 then xD E (d + 1) 104 40 [.ref r0, .int i1, .int i2, xJ] [] q4.2 else (xI (xC E d 141 [.ref r0, .int (-3 : Int32)] q4.2)).bind fun q5 => some (some (.int q5.1), q5.2) else xD E (d + 1) 104 40 [.ref r0, .int i1, .int i2, xJ] [] q2.2 else (xI (xC E d 141 [.ref r0, .int (-1 : Int32)] q2.2)).bind fun q6 => some (some (.int q6.1), q6.2) := (xD_bex E d h_104 [40] 90 0 _ _ _).trans rfl
set_option maxRecDepth 100000 in
theorem e104_40 (E : Nat × (Nat → Int32)) (d : Nat) (r0 : Nat) (i1 : Int32) (i2 : Int32) (w3 : Value) (A : xH) : xD E (d + 1) 104 40 [.ref r0, .int i1, .int i2, w3] [] A = (xI (xC E d 145 [.ref r0, .int i1] A)).bind fun q1 => (xV (xC E d 146 [.ref r0, .int i1, .int i2] q1.2)).bind fun A2 => (gN A2 r0 8 5).bind fun n3 => (xV (xC E d 1 [.ref n3] A2)).bind fun A4 => (xI (xC E d 142 [.ref r0, .int q1.1] A4)).bind fun q5 => some (some (.int q5.1), q5.2) := (xD_bex E d h_104 [40] 90 40 _ _ _).trans rfl
-- TB.feed (IIIII)I
set_option maxRecDepth 100000 in
theorem h_105 : xprog[105]? = some M_105 := rfl
set_option maxRecDepth 100000 in
theorem e105_0 (E : Nat × (Nat → Int32)) (d : Nat) (r0 : Nat) (i1 : Int32) (i2 : Int32) (i3 : Int32) (i4 : Int32) (i5 : Int32) (A : xH) : xD E (d + 1) 105 0 [.ref r0, .int i1, .int i2, .int i3, .int i4, .int i5] [] A = (gN A r0 8 8).bind fun n1 => (gI A n1 6 2).bind fun x2 => if (x2 + (20 : Int32)) ≤ (400 : Int32) then (gN A r0 8 8).bind fun n3 => (xV (xC E d 69 [.ref n3, .int i1] A)).bind fun A4 => (gN A4 r0 8 8).bind fun n5 => (xV (xC E d 69 [.ref n5, .int i2] A4)).bind fun A6 => (gN A6 r0 8 8).bind fun n7 => (xV (xC E d 69 [.ref n7, .int i3] A6)).bind fun A8 => (gN A8 r0 8 8).bind fun n9 => (xV (xC E d 69 [.ref n9, .int i4] A8)).bind fun A10 => (gN A10 r0 8 8).bind fun n11 => (xV (xC E d 69 [.ref n11, .int i5] A10)).bind fun A12 => (gN A12 r0 8 8).bind fun n13 => (gI A12 n13 6 2).bind fun x14 => some (some (.int x14), A12) else some (some (.int (-1 : Int32)), A) := (xD_bex E d h_105 [] 90 0 _ _ _).trans rfl
-- TB.end (I)I
set_option maxRecDepth 100000 in
theorem h_106 : xprog[106]? = some M_106 := rfl
set_option maxRecDepth 100000 in
theorem e106_0 (E : Nat × (Nat → Int32)) (d : Nat) (r0 : Nat) (i1 : Int32) (A : xH) : xD E (d + 1) 106 0 [.ref r0, .int i1] [] A = if i1 < 0 then some (some (.int (-1 : Int32)), A) else (gN A r0 8 8).bind fun n1 => (gI A n1 6 2).bind fun x2 => if i1 ≤ x2 then (gN A r0 8 8).bind fun n3 => (pF A n3 6 2 (.int i1)).bind fun A4 => some (some (.int i1), A4) else some (some (.int (-1 : Int32)), A) := (xD_bex E d h_106 [] 90 0 _ _ _).trans rfl
-- TB.row ()I
set_option maxRecDepth 100000 in
theorem h_107 : xprog[107]? = some M_107 := rfl
set_option maxRecDepth 100000 in
theorem e107_0 (E : Nat × (Nat → Int32)) (d : Nat) (r0 : Nat) (A : xH) : xD E (d + 1) 107 0 [.ref r0, xJ, xJ, xJ] [] A = (gN A r0 8 8).bind fun n1 => (xI (xC E d 70 [.ref n1] A)).bind fun q2 => if q2.1 = 0 then (xI (xC E d 141 [.ref r0, .int (-6 : Int32)] q2.2)).bind fun q3 => some (some (.int q3.1), q3.2) else xD E (d + 1) 107 23 [.ref r0, .int q2.1, .int (0 : Int32), .int (0 : Int32)] [] q2.2 := (xD_bex E d h_107 [23] 90 0 _ _ _).trans rfl
set_option maxRecDepth 100000 in
theorem e107_23 (E : Nat × (Nat → Int32)) (d : Nat) (r0 : Nat) (i1 : Int32) (i2 : Int32) (i3 : Int32) (A : xH) : xD E (d + 1) 107 23 [.ref r0, .int i1, .int i2, .int i3] [] A = if i1 ≤ (i3 + (1 : Int32)) then (pF A r0 8 14 (.int (((i1 + (1 : Int32)) / (2 : Int32)) - i2))).bind fun A1 => (gN A1 r0 8 5).bind fun n2 => (xV (xC E d 1 [.ref n2] A1)).bind fun A3 => (xI (xC E d 142 [.ref r0, .int i2] A3)).bind fun q4 => some (some (.int q4.1), q4.2) else (gN A r0 8 0).bind fun n5 => (gN A r0 8 8).bind fun n6 => (gN A n6 6 1).bind fun n7 => (aI 0 A n7 i3).bind fun x8 => (gN A r0 8 8).bind fun n9 => (gN A n9 6 1).bind fun n10 => (aI 0 A n10 (i3 + (1 : Int32))).bind fun x11 => (gN A r0 8 3).bind fun n12 => (xI (xC E d 48 [.ref n5, .int x8, .int x11, .ref n12] A)).bind fun q13 => if q13.1 < 0 then xD E (d + 1) 107 23 [.ref r0, .int i1, .int i2, .int (i3 + (2 : Int32))] [] q13.2 else xD E (d + 1) 107 23 [.ref r0, .int i1, .int (i2 + (1 : Int32)), .int (i3 + (2 : Int32))] [] q13.2 := (xD_bex E d h_107 [23] 90 23 _ _ _).trans rfl
-- TB.tears ()I
set_option maxRecDepth 100000 in
theorem h_108 : xprog[108]? = some M_108 := rfl
set_option maxRecDepth 100000 in
theorem e108_0 (E : Nat × (Nat → Int32)) (d : Nat) (r0 : Nat) (A : xH) : xD E (d + 1) 108 0 [.ref r0] [] A = (gI A r0 8 14).bind fun x1 => some (some (.int x1), A) := (xD_bex E d h_108 [] 90 0 _ _ _).trans rfl
-- TB.law ()I
set_option maxRecDepth 100000 in
theorem h_109 : xprog[109]? = some M_109 := rfl
set_option maxRecDepth 100000 in
theorem e109_0 (E : Nat × (Nat → Int32)) (d : Nat) (r0 : Nat) (A : xH) : xD E (d + 1) 109 0 [.ref r0] [] A = (gN A r0 8 8).bind fun n1 => (xI (xC E d 70 [.ref n1] A)).bind fun q2 => (gN q2.2 r0 8 3).bind fun n3 => (gI q2.2 n3 3 3).bind fun x4 => if x4 < (6 : Int32) then (gN q2.2 r0 8 8).bind fun n5 => (xI (xC E d 71 [.ref n5, .int (0 : Int32)] q2.2)).bind fun q6 => (pF q6.2 r0 8 15 (.int q6.1)).bind fun A7 => (gI A7 r0 8 15).bind fun x8 => if x8 = (-1 : Int32) then (gN A7 r0 8 3).bind fun n9 => (gN (A7 ++ [.inr (7, [.null, .null, .null, .null, .int 0, .int 0, .int 0])]) r0 8 8).bind fun n10 => (gN (A7 ++ [.inr (7, [.null, .null, .null, .null, .int 0, .int 0, .int 0])]) n10 6 0).bind fun n11 => (xV (xC E d 90 [.ref A7.length, .ref n11] (A7 ++ [.inr (7, [.null, .null, .null, .null, .int 0, .int 0, .int 0])]))).bind fun A12 => (xI (xC E d 30 [.ref n9, .ref A7.length] A12)).bind fun q13 => (xI (xC E d 142 [.ref r0, .int q13.1] q13.2)).bind fun q14 => some (some (.int q14.1), q14.2) else (xI (xC E d 141 [.ref r0, .int (-6 : Int32)] A7)).bind fun q15 => some (some (.int q15.1), q15.2) else (xI (xC E d 141 [.ref r0, .int (-5 : Int32)] q2.2)).bind fun q16 => some (some (.int q16.1), q16.2) := (xD_bex E d h_109 [] 90 0 _ _ _).trans rfl
-- TB.orders ()I
set_option maxRecDepth 100000 in
theorem h_110 : xprog[110]? = some M_110 := rfl
set_option maxRecDepth 100000 in
theorem e110_0 (E : Nat × (Nat → Int32)) (d : Nat) (r0 : Nat) (A : xH) : xD E (d + 1) 110 0 [.ref r0, xJ] [] A = (gN A r0 8 8).bind fun n1 => (xI (xC E d 70 [.ref n1] A)).bind fun q2 => (pF q2.2 r0 8 16 (.int (-1 : Int32))).bind fun A3 => (gN A3 r0 8 8).bind fun n4 => (xI (xC E d 71 [.ref n4, .int (1 : Int32)] A3)).bind fun q5 => (pF q5.2 r0 8 15 (.int q5.1)).bind fun A6 => (gI A6 r0 8 15).bind fun x7 => if x7 = (-1 : Int32) then (gN A6 r0 8 2).bind fun n8 => (gN A6 r0 8 0).bind fun n9 => (xV (xC E d 42 [.ref n8, .ref n9] A6)).bind fun A10 => (gN A10 r0 8 6).bind fun n11 => (xV (xC E d 1 [.ref n11] A10)).bind fun A12 => (gN A12 r0 8 9).bind fun n13 => (sI 0 A12 n13 (1 : Int32) (0 : Int32)).bind fun A14 => (gN A14 r0 8 9).bind fun n15 => (sI 0 A14 n15 (2 : Int32) (-1 : Int32)).bind fun A16 => xD E (d + 1) 110 74 [.ref r0, .int (0 : Int32)] [] A16 else (xI (xC E d 141 [.ref r0, .int (-6 : Int32)] A6)).bind fun q17 => some (some (.int q17.1), q17.2) := (xD_bex E d h_110 [74] 90 0 _ _ _).trans rfl
set_option maxRecDepth 100000 in
theorem e110_74 (E : Nat × (Nat → Int32)) (d : Nat) (r0 : Nat) (i1 : Int32) (A : xH) : xD E (d + 1) 110 74 [.ref r0, .int i1] [] A = (gN A r0 8 8).bind fun n1 => (gN A n1 6 0).bind fun n2 => (gI A n2 7 5).bind fun x3 => if x3 ≤ i1 then (gN A r0 8 5).bind fun n4 => (gN A r0 8 6).bind fun n5 => (xV (xC E d 5 [.ref n4, .ref n5] A)).bind fun A6 => (gN A6 r0 8 9).bind fun n7 => (aI 0 A6 n7 (1 : Int32)).bind fun x8 => (xI (xC E d 142 [.ref r0, .int x8] A6)).bind fun q9 => some (some (.int q9.1), q9.2) else (gN A r0 8 8).bind fun n10 => (gN A n10 6 0).bind fun n11 => (xI (xC E d 148 [.ref r0, .ref n11, .int i1] A)).bind fun q12 => if q12.1 = 0 then (pF q12.2 r0 8 16 (.int i1)).bind fun A13 => (gN A13 r0 8 0).bind fun n14 => (gN A13 r0 8 2).bind fun n15 => (xV (xC E d 42 [.ref n14, .ref n15] A13)).bind fun A16 => (xI (xC E d 141 [.ref r0, .int (-3 : Int32)] A16)).bind fun q17 => some (some (.int q17.1), q17.2) else xD E (d + 1) 110 74 [.ref r0, .int (i1 + (1 : Int32))] [] q12.2 := (xD_bex E d h_110 [74] 90 74 _ _ _).trans rfl
-- TB.fault ()I
set_option maxRecDepth 100000 in
theorem h_111 : xprog[111]? = some M_111 := rfl
set_option maxRecDepth 100000 in
theorem e111_0 (E : Nat × (Nat → Int32)) (d : Nat) (r0 : Nat) (A : xH) : xD E (d + 1) 111 0 [.ref r0] [] A = (gI A r0 8 15).bind fun x1 => some (some (.int x1), A) := (xD_bex E d h_111 [] 90 0 _ _ _).trans rfl
-- TB.stopped ()I
set_option maxRecDepth 100000 in
theorem h_112 : xprog[112]? = some M_112 := rfl
set_option maxRecDepth 100000 in
theorem e112_0 (E : Nat × (Nat → Int32)) (d : Nat) (r0 : Nat) (A : xH) : xD E (d + 1) 112 0 [.ref r0] [] A = (gI A r0 8 16).bind fun x1 => some (some (.int x1), A) := (xD_bex E d h_112 [] 90 0 _ _ _).trans rfl
-- TB.force (I)I
set_option maxRecDepth 100000 in
theorem h_113 : xprog[113]? = some M_113 := rfl
set_option maxRecDepth 100000 in
theorem e113_0 (E : Nat × (Nat → Int32)) (d : Nat) (r0 : Nat) (i1 : Int32) (A : xH) : xD E (d + 1) 113 0 [.ref r0, .int i1, xJ] [] A = if i1 < (-1 : Int32) then (xI (xC E d 141 [.ref r0, .int (-2 : Int32)] A)).bind fun q1 => some (some (.int q1.1), q1.2) else (gN A r0 8 3).bind fun n2 => (gI A n2 3 3).bind fun x3 => if i1 < x3 then (gN A r0 8 3).bind fun n4 => (gI A n4 3 4).bind fun x5 => (gN A r0 8 3).bind fun n6 => (pF A n6 3 4 (.int i1)).bind fun A7 => (xI (xC E d 142 [.ref r0, .int x5] A7)).bind fun q8 => some (some (.int q8.1), q8.2) else (xI (xC E d 141 [.ref r0, .int (-2 : Int32)] A)).bind fun q9 => some (some (.int q9.1), q9.2) := (xD_bex E d h_113 [] 90 0 _ _ _).trans rfl
-- TB.put (II)I
set_option maxRecDepth 100000 in
theorem h_114 : xprog[114]? = some M_114 := rfl
set_option maxRecDepth 100000 in
theorem e114_0 (E : Nat × (Nat → Int32)) (d : Nat) (r0 : Nat) (i1 : Int32) (i2 : Int32) (A : xH) : xD E (d + 1) 114 0 [.ref r0, .int i1, .int i2] [] A = (gN A r0 8 5).bind fun n1 => (xI (xC E d 147 [.ref r0, .int (0 : Int32), .int i1, .int i2, .ref n1] A)).bind fun q2 => (xI (xC E d 143 [.ref r0, .int q2.1] q2.2)).bind fun q3 => some (some (.int q3.1), q3.2) := (xD_bex E d h_114 [] 90 0 _ _ _).trans rfl
-- TB.drop (I)I
set_option maxRecDepth 100000 in
theorem h_115 : xprog[115]? = some M_115 := rfl
set_option maxRecDepth 100000 in
theorem e115_0 (E : Nat × (Nat → Int32)) (d : Nat) (r0 : Nat) (i1 : Int32) (A : xH) : xD E (d + 1) 115 0 [.ref r0, .int i1] [] A = (gN A r0 8 5).bind fun n1 => (xI (xC E d 147 [.ref r0, .int (1 : Int32), .int i1, .int (0 : Int32), .ref n1] A)).bind fun q2 => (xI (xC E d 143 [.ref r0, .int q2.1] q2.2)).bind fun q3 => some (some (.int q3.1), q3.2) := (xD_bex E d h_115 [] 90 0 _ _ _).trans rfl
-- TB.flush (I)I
set_option maxRecDepth 100000 in
theorem h_116 : xprog[116]? = some M_116 := rfl
set_option maxRecDepth 100000 in
theorem e116_0 (E : Nat × (Nat → Int32)) (d : Nat) (r0 : Nat) (i1 : Int32) (A : xH) : xD E (d + 1) 116 0 [.ref r0, .int i1] [] A = (gN A r0 8 5).bind fun n1 => (xI (xC E d 147 [.ref r0, .int (2 : Int32), .int i1, .int (0 : Int32), .ref n1] A)).bind fun q2 => (xI (xC E d 143 [.ref r0, .int q2.1] q2.2)).bind fun q3 => some (some (.int q3.1), q3.2) := (xD_bex E d h_116 [] 90 0 _ _ _).trans rfl
-- TB.crash (I)I
set_option maxRecDepth 100000 in
theorem h_117 : xprog[117]? = some M_117 := rfl
set_option maxRecDepth 100000 in
theorem e117_0 (E : Nat × (Nat → Int32)) (d : Nat) (r0 : Nat) (i1 : Int32) (A : xH) : xD E (d + 1) 117 0 [.ref r0, .int i1] [] A = (gN A r0 8 5).bind fun n1 => (xI (xC E d 147 [.ref r0, .int (3 : Int32), .int i1, .int (0 : Int32), .ref n1] A)).bind fun q2 => (xI (xC E d 143 [.ref r0, .int q2.1] q2.2)).bind fun q3 => some (some (.int q3.1), q3.2) := (xD_bex E d h_117 [] 90 0 _ _ _).trans rfl
-- TB.undo ()I
set_option maxRecDepth 100000 in
theorem h_118 : xprog[118]? = some M_118 := rfl
set_option maxRecDepth 100000 in
theorem e118_0 (E : Nat × (Nat → Int32)) (d : Nat) (r0 : Nat) (A : xH) : xD E (d + 1) 118 0 [.ref r0, xJ] [] A = (gN A r0 8 5).bind fun n1 => (gN A r0 8 0).bind fun n2 => (xI (xC E d 6 [.ref n1, .ref n2] A)).bind fun q3 => if q3.1 = (-1 : Int32) then (xI (xC E d 141 [.ref r0, .int (-3 : Int32)] q3.2)).bind fun q4 => some (some (.int q4.1), q4.2) else (xI (xC E d 142 [.ref r0, .int q3.1] q3.2)).bind fun q5 => some (some (.int q5.1), q5.2) := (xD_bex E d h_118 [] 90 0 _ _ _).trans rfl
-- TB.behind (II)I
set_option maxRecDepth 100000 in
theorem h_119 : xprog[119]? = some M_119 := rfl
set_option maxRecDepth 100000 in
theorem e119_0 (E : Nat × (Nat → Int32)) (d : Nat) (r0 : Nat) (i1 : Int32) (i2 : Int32) (A : xH) : xD E (d + 1) 119 0 [.ref r0, .int i1, .int i2] [] A = (xI (xC E d 139 [.int i2] A)).bind fun q1 => if q1.1 = 0 then some (some (.int (-1 : Int32)), q1.2) else (xI (xC E d 150 [.ref r0, .int i1] q1.2)).bind fun q2 => if q2.1 = 0 then some (some (.int (-1 : Int32)), q2.2) else (gN q2.2 r0 8 1).bind fun n3 => (gN q2.2 r0 8 3).bind fun n4 => (xI (xC E d 46 [.ref n3, .int i2, .ref n4] q2.2)).bind fun q5 => some (some (.int q5.1), q5.2) := (xD_bex E d h_119 [] 90 0 _ _ _).trans rfl
-- TB.lost (I)I
set_option maxRecDepth 100000 in
theorem h_120 : xprog[120]? = some M_120 := rfl
set_option maxRecDepth 100000 in
theorem e120_0 (E : Nat × (Nat → Int32)) (d : Nat) (r0 : Nat) (i1 : Int32) (A : xH) : xD E (d + 1) 120 0 [.ref r0, .int i1] [] A = (xI (xC E d 150 [.ref r0, .int i1] A)).bind fun q1 => if q1.1 = 0 then some (some (.int (-1 : Int32)), q1.2) else (gN q1.2 r0 8 0).bind fun n2 => (gN q1.2 r0 8 1).bind fun n3 => (gN q1.2 r0 8 3).bind fun n4 => (xI (xC E d 64 [.ref n2, .ref n3, .ref n4] q1.2)).bind fun q5 => some (some (.int q5.1), q5.2) := (xD_bex E d h_120 [] 90 0 _ _ _).trans rfl
-- TB.torn (I)I
set_option maxRecDepth 100000 in
theorem h_121 : xprog[121]? = some M_121 := rfl
set_option maxRecDepth 100000 in
theorem e121_0 (E : Nat × (Nat → Int32)) (d : Nat) (r0 : Nat) (i1 : Int32) (A : xH) : xD E (d + 1) 121 0 [.ref r0, .int i1] [] A = (xI (xC E d 150 [.ref r0, .int i1] A)).bind fun q1 => if q1.1 = 0 then some (some (.int (-1 : Int32)), q1.2) else (gN q1.2 r0 8 0).bind fun n2 => (gN q1.2 r0 8 1).bind fun n3 => (xI (xC E d 65 [.ref n2, .ref n3] q1.2)).bind fun q4 => some (some (.int q4.1), q4.2) := (xD_bex E d h_121 [] 90 0 _ _ _).trans rfl
-- TB.splits ()I
set_option maxRecDepth 100000 in
theorem h_122 : xprog[122]? = some M_122 := rfl
set_option maxRecDepth 100000 in
theorem e122_0 (E : Nat × (Nat → Int32)) (d : Nat) (r0 : Nat) (A : xH) : xD E (d + 1) 122 0 [.ref r0, xJ, xJ] [] A = xD E (d + 1) 122 4 [.ref r0, .int (0 : Int32), .int (0 : Int32)] [] A := (xD_bex E d h_122 [4] 90 0 _ _ _).trans rfl
set_option maxRecDepth 100000 in
theorem e122_4 (E : Nat × (Nat → Int32)) (d : Nat) (r0 : Nat) (i1 : Int32) (i2 : Int32) (A : xH) : xD E (d + 1) 122 4 [.ref r0, .int i1, .int i2] [] A = if (1000 : Int32) ≤ i2 then some (some (.int i1), A) else (gN A r0 8 0).bind fun n1 => (gN A r0 8 3).bind fun n2 => (xI (xC E d 66 [.ref n1, .int i2, .ref n2] A)).bind fun q3 => if q3.1 = 0 then xD E (d + 1) 122 4 [.ref r0, .int i1, .int (i2 + (1 : Int32))] [] q3.2 else xD E (d + 1) 122 4 [.ref r0, .int (i1 + (1 : Int32)), .int (i2 + (1 : Int32))] [] q3.2 := (xD_bex E d h_122 [4] 90 4 _ _ _).trans rfl
-- TB.room ()I
set_option maxRecDepth 100000 in
theorem h_123 : xprog[123]? = some M_123 := rfl
set_option maxRecDepth 100000 in
theorem e123_0 (E : Nat × (Nat → Int32)) (d : Nat) (r0 : Nat) (A : xH) : xD E (d + 1) 123 0 [.ref r0] [] A = (gN A r0 8 0).bind fun n1 => (gN A n1 5 0).bind fun n2 => (xI (xC E d 23 [.ref n2] A)).bind fun q3 => (gN q3.2 r0 8 0).bind fun n4 => (xI (xC E d 44 [.ref n4] q3.2)).bind fun q5 => some (some (.int ((q3.1 * (3 : Int32)) - q5.1)), q5.2) := (xD_bex E d h_123 [] 90 0 _ _ _).trans rfl
-- TB.twin (I)I
set_option maxRecDepth 100000 in
theorem h_124 : xprog[124]? = some M_124 := rfl
set_option maxRecDepth 100000 in
theorem e124_0 (E : Nat × (Nat → Int32)) (d : Nat) (r0 : Nat) (i1 : Int32) (A : xH) : xD E (d + 1) 124 0 [.ref r0, .int i1] [] A = (xI (xC E d 140 [.int i1] A)).bind fun q1 => if q1.1 = 0 then some (some (.int (-1 : Int32)), q1.2) else (gN q1.2 r0 8 0).bind fun n2 => (xI (xC E d 53 [.ref n2, .int i1] q1.2)).bind fun q3 => some (some (.int q3.1), q3.2) := (xD_bex E d h_124 [] 90 0 _ _ _).trans rfl
-- TB.salts (I)I
set_option maxRecDepth 100000 in
theorem h_125 : xprog[125]? = some M_125 := rfl
set_option maxRecDepth 100000 in
theorem e125_0 (E : Nat × (Nat → Int32)) (d : Nat) (r0 : Nat) (i1 : Int32) (A : xH) : xD E (d + 1) 125 0 [.ref r0, .int i1, xJ, xJ, xJ, xJ] [] A = xD E (d + 1) 125 8 [.ref r0, .int i1, .int (-1 : Int32), .int (25 : Int32), .int (0 : Int32), xJ] [] A := (xD_bex E d h_125 [8] 90 0 _ _ _).trans rfl
set_option maxRecDepth 100000 in
theorem e125_8 (E : Nat × (Nat → Int32)) (d : Nat) (r0 : Nat) (i1 : Int32) (i2 : Int32) (i3 : Int32) (i4 : Int32) (w5 : Value) (A : xH) : xD E (d + 1) 125 8 [.ref r0, .int i1, .int i2, .int i3, .int i4, w5] [] A = if (32 : Int32) ≤ i4 then if i2 = (-1 : Int32) then some (some (.int (-1 : Int32)), A) else if i1 < 0 then some (some (.int (-1 : Int32)), A) else if i1 ≤ (1 : Int32) then if i1 = 0 then some (some (.int i2), A) else some (some (.int i3), A) else some (some (.int (-1 : Int32)), A) else (gN A r0 8 0).bind fun n1 => (gN A r0 8 12).bind fun n2 => (xI (xC E d 67 [.ref n1, .int i4, .ref n2] A)).bind fun q3 => if i3 ≤ q3.1 then xD E (d + 1) 125 8 [.ref r0, .int i1, .int i2, .int i3, .int (i4 + (1 : Int32)), .int q3.1] [] q3.2 else xD E (d + 1) 125 8 [.ref r0, .int i1, .int i4, .int q3.1, .int (i4 + (1 : Int32)), .int q3.1] [] q3.2 := (xD_bex E d h_125 [8] 90 8 _ _ _).trans rfl
-- TB.spent ()I
set_option maxRecDepth 100000 in
theorem h_126 : xprog[126]? = some M_126 := rfl
set_option maxRecDepth 100000 in
theorem e126_0 (E : Nat × (Nat → Int32)) (d : Nat) (r0 : Nat) (A : xH) : xD E (d + 1) 126 0 [.ref r0] [] A = (gN A r0 8 0).bind fun n1 => (xI (xC E d 59 [.ref n1] A)).bind fun q2 => some (some (.int q2.1), q2.2) := (xD_bex E d h_126 [] 90 0 _ _ _).trans rfl
-- TB.seen (II)I
set_option maxRecDepth 100000 in
theorem h_127 : xprog[127]? = some M_127 := rfl
set_option maxRecDepth 100000 in
theorem e127_0 (E : Nat × (Nat → Int32)) (d : Nat) (r0 : Nat) (i1 : Int32) (i2 : Int32) (A : xH) : xD E (d + 1) 127 0 [.ref r0, .int i1, .int i2] [] A = if i1 < 0 then (xI (xC E d 141 [.ref r0, .int (-1 : Int32)] A)).bind fun q1 => some (some (.int q1.1), q1.2) else if (64 : Int32) ≤ i1 then (xI (xC E d 141 [.ref r0, .int (-1 : Int32)] A)).bind fun q2 => some (some (.int q2.1), q2.2) else if i2 < 0 then (xI (xC E d 141 [.ref r0, .int (-1 : Int32)] A)).bind fun q3 => some (some (.int q3.1), q3.2) else if i2 ≤ (1 : Int32) then (gN A r0 8 4).bind fun n4 => (gI A n4 4 2).bind fun x5 => if x5 < (6 : Int32) then (gN A r0 8 4).bind fun n6 => (xI (xC E d 37 [.ref n6, .int i1, .int i2] A)).bind fun q7 => (xI (xC E d 142 [.ref r0, .int q7.1] q7.2)).bind fun q8 => some (some (.int q8.1), q8.2) else (xI (xC E d 141 [.ref r0, .int (-5 : Int32)] A)).bind fun q9 => some (some (.int q9.1), q9.2) else (xI (xC E d 141 [.ref r0, .int (-1 : Int32)] A)).bind fun q10 => some (some (.int q10.1), q10.2) := (xD_bex E d h_127 [] 90 0 _ _ _).trans rfl
-- TB.forget ()I
set_option maxRecDepth 100000 in
theorem h_128 : xprog[128]? = some M_128 := rfl
set_option maxRecDepth 100000 in
theorem e128_0 (E : Nat × (Nat → Int32)) (d : Nat) (r0 : Nat) (A : xH) : xD E (d + 1) 128 0 [.ref r0, xJ] [] A = (gN A r0 8 4).bind fun n1 => (gI A n1 4 2).bind fun x2 => (gN A r0 8 4).bind fun n3 => (pF A n3 4 2 (.int (0 : Int32))).bind fun A4 => some (some (.int x2), A4) := (xD_bex E d h_128 [] 90 0 _ _ _).trans rfl
-- TB.canBe ()I
set_option maxRecDepth 100000 in
theorem h_129 : xprog[129]? = some M_129 := rfl
set_option maxRecDepth 100000 in
theorem e129_0 (E : Nat × (Nat → Int32)) (d : Nat) (r0 : Nat) (A : xH) : xD E (d + 1) 129 0 [.ref r0] [] A = (gN A r0 8 4).bind fun n1 => (gN A r0 8 0).bind fun n2 => (xI (xC E d 38 [.ref n1, .ref n2] A)).bind fun q3 => some (some (.int q3.1), q3.2) := (xD_bex E d h_129 [] 90 0 _ _ _).trans rfl
-- TB.read (I)I
set_option maxRecDepth 100000 in
theorem h_130 : xprog[130]? = some M_130 := rfl
set_option maxRecDepth 100000 in
theorem e130_0 (E : Nat × (Nat → Int32)) (d : Nat) (r0 : Nat) (i1 : Int32) (A : xH) : xD E (d + 1) 130 0 [.ref r0, .int i1, xJ, xJ, xJ, xJ, xJ, xJ, xJ] [] A = (gN A r0 8 4).bind fun n1 => (gN A r0 8 0).bind fun n2 => (xI (xC E d 38 [.ref n1, .ref n2] A)).bind fun q3 => if q3.1 = 0 then some (some (.int (-1 : Int32)), q3.2) else if i1 < 0 then some (some (.int (-1 : Int32)), q3.2) else if i1 ≤ (1 : Int32) then (xI (xC E d 294 [.int q3.1] q3.2)).bind fun q4 => xD E (d + 1) 130 42 [.ref r0, .int i1, .int q3.1, .int q4.1, .int (0 : Int32), .int (25 : Int32), .int (0 : Int32), xJ, xJ] [] q4.2 else some (some (.int (-1 : Int32)), q3.2) := (xD_bex E d h_130 [42] 90 0 _ _ _).trans rfl
set_option maxRecDepth 100000 in
theorem e130_42 (E : Nat × (Nat → Int32)) (d : Nat) (r0 : Nat) (i1 : Int32) (i2 : Int32) (i3 : Int32) (i4 : Int32) (i5 : Int32) (i6 : Int32) (w7 : Value) (w8 : Value) (A : xH) : xD E (d + 1) 130 42 [.ref r0, .int i1, .int i2, .int i3, .int i4, .int i5, .int i6, w7, w8] [] A = (gN A r0 8 0).bind fun n1 => (xI (xC E d 43 [.ref n1] A)).bind fun q2 => if q2.1 ≤ i6 then if i1 = 0 then some (some (.int i4), q2.2) else some (some (.int i5), q2.2) else (gN q2.2 r0 8 0).bind fun n3 => (gN q2.2 n3 5 2).bind fun n4 => (aI 0 q2.2 n4 i6).bind fun x5 => if i5 ≤ (xmax ((i2 >>> (x5 &&& 31)) &&& (1 : Int32)) (i3 - ((i2 >>> (x5 &&& 31)) &&& (1 : Int32)))) then xD E (d + 1) 130 42 [.ref r0, .int i1, .int i2, .int i3, .int i4, .int i5, .int (i6 + (1 : Int32)), .int ((i2 >>> (x5 &&& 31)) &&& (1 : Int32)), .int (xmax ((i2 >>> (x5 &&& 31)) &&& (1 : Int32)) (i3 - ((i2 >>> (x5 &&& 31)) &&& (1 : Int32))))] [] q2.2 else xD E (d + 1) 130 42 [.ref r0, .int i1, .int i2, .int i3, .int i6, .int (xmax ((i2 >>> (x5 &&& 31)) &&& (1 : Int32)) (i3 - ((i2 >>> (x5 &&& 31)) &&& (1 : Int32)))), .int (i6 + (1 : Int32)), .int ((i2 >>> (x5 &&& 31)) &&& (1 : Int32)), .int (xmax ((i2 >>> (x5 &&& 31)) &&& (1 : Int32)) (i3 - ((i2 >>> (x5 &&& 31)) &&& (1 : Int32))))] [] q2.2 := (xD_bex E d h_130 [42] 90 42 _ _ _).trans rfl
-- TB.few (II)J
set_option maxRecDepth 100000 in
theorem h_131 : xprog[131]? = some M_131 := rfl
set_option maxRecDepth 100000 in
theorem e131_0 (E : Nat × (Nat → Int32)) (d : Nat) (r0 : Nat) (i1 : Int32) (i2 : Int32) (A : xH) : xD E (d + 1) 131 0 [.ref r0, .int i1, .int i2, xJ, xJ, xJ] [] A = if i1 < (1 : Int32) then some (some (.long (-1 : Int64)), A) else if (20 : Int32) < i1 then some (some (.long (-1 : Int64)), A) else if i2 < 0 then some (some (.long (-1 : Int64)), A) else if i2 ≤ (99 : Int32) then (gN A r0 8 13).bind fun n1 => (xV (xC E d 296 [.ref n1, .long (0 : Int64)] A)).bind fun A2 => (gN A2 r0 8 13).bind fun n3 => (sL A2 n3 (0 : Int32) (1000000000000 : Int64)).bind fun A4 => xD E (d + 1) 131 44 [.ref r0, .int i1, .int i2, .int (0 : Int32), xJ, xJ] [] A4 else some (some (.long (-1 : Int64)), A) := (xD_bex E d h_131 [44, 65] 90 0 _ _ _).trans rfl
set_option maxRecDepth 100000 in
theorem e131_44 (E : Nat × (Nat → Int32)) (d : Nat) (r0 : Nat) (i1 : Int32) (i2 : Int32) (i3 : Int32) (w4 : Value) (w5 : Value) (A : xH) : xD E (d + 1) 131 44 [.ref r0, .int i1, .int i2, .int i3, w4, w5] [] A = if i2 ≤ i3 then xD E (d + 1) 131 65 [.ref r0, .int i1, .int i2, .long (0 : Int64), xJ, .int (0 : Int32)] [] A else (xV (xC E d 151 [.ref r0, .int i1] A)).bind fun A1 => xD E (d + 1) 131 44 [.ref r0, .int i1, .int i2, .int (i3 + (1 : Int32)), xJ, xJ] [] A1 := (xD_bex E d h_131 [44, 65] 90 44 _ _ _).trans rfl
set_option maxRecDepth 100000 in
theorem e131_65 (E : Nat × (Nat → Int32)) (d : Nat) (r0 : Nat) (i1 : Int32) (w2 : Value) (j3 : Int64) (i5 : Int32) (A : xH) : xD E (d + 1) 131 65 [.ref r0, .int i1, w2, .long j3, xJ, .int i5] [] A = if i1 ≤ i5 then some (some (.long j3), A) else (gN A r0 8 13).bind fun n1 => (aL A n1 i5).bind fun x2 => xD E (d + 1) 131 65 [.ref r0, .int i1, xJ, .long (j3 + x2), xJ, .int (i5 + (1 : Int32))] [] A := (xD_bex E d h_131 [44, 65] 90 65 _ _ _).trans rfl
-- TB.compare (II)I
set_option maxRecDepth 100000 in
theorem h_132 : xprog[132]? = some M_132 := rfl
set_option maxRecDepth 100000 in
theorem e132_0 (E : Nat × (Nat → Int32)) (d : Nat) (r0 : Nat) (i1 : Int32) (i2 : Int32) (A : xH) : xD E (d + 1) 132 0 [.ref r0, .int i1, .int i2] [] A = if i1 < (-1 : Int32) then some (some (.int (-1 : Int32)), A) else (gN A r0 8 3).bind fun n1 => (gI A n1 3 3).bind fun x2 => if x2 ≤ i1 then some (some (.int (-1 : Int32)), A) else (xI (xC E d 140 [.int i2] A)).bind fun q3 => if q3.1 = 0 then some (some (.int (-1 : Int32)), q3.2) else (gN q3.2 r0 8 3).bind fun n4 => (gN q3.2 r0 8 0).bind fun n5 => (xI (xC E d 33 [.ref n4, .int i1, .ref n5, .int i2] q3.2)).bind fun q6 => some (some (.int q6.1), q6.2) := (xD_bex E d h_132 [] 90 0 _ _ _).trans rfl
-- TB.years (II)I
set_option maxRecDepth 100000 in
theorem h_133 : xprog[133]? = some M_133 := rfl
set_option maxRecDepth 100000 in
theorem e133_0 (E : Nat × (Nat → Int32)) (d : Nat) (r0 : Nat) (i1 : Int32) (i2 : Int32) (A : xH) : xD E (d + 1) 133 0 [.ref r0, .int i1, .int i2, xJ, xJ, xJ, xJ, xJ] [] A = if i1 < 0 then (xI (xC E d 141 [.ref r0, .int (-1 : Int32)] A)).bind fun q1 => some (some (.int q1.1), q1.2) else if (1000000 : Int32) < i1 then (xI (xC E d 141 [.ref r0, .int (-1 : Int32)] A)).bind fun q2 => some (some (.int q2.1), q2.2) else if i2 < (1 : Int32) then (xI (xC E d 141 [.ref r0, .int (-1 : Int32)] A)).bind fun q3 => some (some (.int q3.1), q3.2) else if i2 ≤ (60 : Int32) then (gN A r0 8 1).bind fun n4 => (gN A r0 8 0).bind fun n5 => (xV (xC E d 42 [.ref n4, .ref n5] A)).bind fun A6 => xD E (d + 1) 133 44 [.ref r0, .int i1, .int i2, .int i1, .int (0 : Int32), xJ, xJ, xJ] [] A6 else (xI (xC E d 141 [.ref r0, .int (-1 : Int32)] A)).bind fun q7 => some (some (.int q7.1), q7.2) := (xD_bex E d h_133 [44, 101] 90 0 _ _ _).trans rfl
set_option maxRecDepth 100000 in
theorem e133_44 (E : Nat × (Nat → Int32)) (d : Nat) (r0 : Nat) (w1 : Value) (i2 : Int32) (i3 : Int32) (i4 : Int32) (w5 : Value) (w6 : Value) (w7 : Value) (A : xH) : xD E (d + 1) 133 44 [.ref r0, w1, .int i2, .int i3, .int i4, w5, w6, w7] [] A = if i2 ≤ i4 then xD E (d + 1) 133 101 [.ref r0, xJ, .int i2, .int i3, .int (0 : Int32), xJ, xJ, xJ] [] A else (xI (xC E d 152 [.int i3] A)).bind fun q1 => (xI (xC E d 152 [.int q1.1] q1.2)).bind fun q2 => (xI (xC E d 152 [.int q2.1] q2.2)).bind fun q3 => (xV (xC E d 153 [.ref r0, .int (xrem q1.1 (40 : Int32)), .int (xrem q2.1 (8 : Int32)), .int (xrem q3.1 (8 : Int32))] q3.2)).bind fun A4 => xD E (d + 1) 133 44 [.ref r0, xJ, .int i2, .int q3.1, .int (i4 + (1 : Int32)), .int q1.1, .int q2.1, .int q3.1] [] A4 := (xD_bex E d h_133 [44, 101] 90 44 _ _ _).trans rfl
set_option maxRecDepth 100000 in
theorem e133_101 (E : Nat × (Nat → Int32)) (d : Nat) (r0 : Nat) (w1 : Value) (w2 : Value) (w3 : Value) (i4 : Int32) (w5 : Value) (w6 : Value) (w7 : Value) (A : xH) : xD E (d + 1) 133 101 [.ref r0, w1, w2, w3, .int i4, w5, w6, w7] [] A = if (40 : Int32) ≤ i4 then (gN A r0 8 1).bind fun n1 => (xI (xC E d 44 [.ref n1] A)).bind fun q2 => (xI (xC E d 142 [.ref r0, .int q2.1] q2.2)).bind fun q3 => some (some (.int q3.1), q3.2) else (gN A r0 8 11).bind fun n4 => (gN A r0 8 1).bind fun n5 => (gN A r0 8 3).bind fun n6 => (xI (xC E d 46 [.ref n5, .int i4, .ref n6] A)).bind fun q7 => (sI 0 q7.2 n4 i4 q7.1).bind fun A8 => xD E (d + 1) 133 101 [.ref r0, xJ, xJ, xJ, .int (i4 + (1 : Int32)), xJ, xJ, xJ] [] A8 := (xD_bex E d h_133 [44, 101] 90 101 _ _ _).trans rfl
-- TB.drawn (I)I
set_option maxRecDepth 100000 in
theorem h_134 : xprog[134]? = some M_134 := rfl
set_option maxRecDepth 100000 in
theorem e134_0 (E : Nat × (Nat → Int32)) (d : Nat) (r0 : Nat) (i1 : Int32) (A : xH) : xD E (d + 1) 134 0 [.ref r0, .int i1] [] A = if i1 < 0 then some (some (.int (-1 : Int32)), A) else if (40 : Int32) ≤ i1 then some (some (.int (-1 : Int32)), A) else (gN A r0 8 11).bind fun n1 => (aI 0 A n1 i1).bind fun x2 => some (some (.int x2), A) := (xD_bex E d h_134 [] 90 0 _ _ _).trans rfl
-- TB.image (I)I
set_option maxRecDepth 100000 in
theorem h_135 : xprog[135]? = some M_135 := rfl
set_option maxRecDepth 100000 in
theorem e135_0 (E : Nat × (Nat → Int32)) (d : Nat) (r0 : Nat) (i1 : Int32) (A : xH) : xD E (d + 1) 135 0 [.ref r0, .int i1, xJ] [] A = if i1 < 0 then (xI (xC E d 141 [.ref r0, .int (-1 : Int32)] A)).bind fun q1 => some (some (.int q1.1), q1.2) else if i1 < (2 : Int32) then (gN A r0 8 7).bind fun n2 => (aR 6 A n2 i1).bind fun q3 => (match q3 with | none => (xV (xC E d 7 [.ref A.length] (A ++ [.inr (1, [.null, .null, .null])]))).bind fun A4 => (gN A4 r0 8 7).bind fun n5 => (sR 6 A4 n5 i1 (some A.length)).bind fun A6 => xD E (d + 1) 135 41 [.ref r0, .int i1, .ref A.length] [] A6 | some bq3 => xD E (d + 1) 135 41 [.ref r0, .int i1, .ref bq3] [] A) else (xI (xC E d 141 [.ref r0, .int (-1 : Int32)] A)).bind fun q7 => some (some (.int q7.1), q7.2) := (xD_bex E d h_135 [41] 90 0 _ _ _).trans rfl
set_option maxRecDepth 100000 in
theorem e135_41a (E : Nat × (Nat → Int32)) (d : Nat) (r0 : Nat) (w1 : Value) (r2 : Nat) (A : xH) : xD E (d + 1) 135 41 [.ref r0, w1, .ref r2] [] A = (gN A r2 1 0).bind fun n1 => (gN A r0 8 0).bind fun n2 => (xV (xC E d 42 [.ref n1, .ref n2] A)).bind fun A3 => (gN A3 r2 1 1).bind fun n4 => (gN A3 r0 8 3).bind fun n5 => (xV (xC E d 27 [.ref n4, .ref n5] A3)).bind fun A6 => (gN A6 r2 1 2).bind fun n7 => (gN A6 r0 8 4).bind fun n8 => (xV (xC E d 36 [.ref n7, .ref n8] A6)).bind fun A9 => (xI (xC E d 142 [.ref r0, .int (0 : Int32)] A9)).bind fun q10 => some (some (.int q10.1), q10.2) := (xD_bex E d h_135 [41] 90 41 _ _ _).trans rfl
set_option maxRecDepth 100000 in
theorem e135_41b (E : Nat × (Nat → Int32)) (d : Nat) (r0 : Nat) (w1 : Value) (A : xH) : xD E (d + 1) 135 41 [.ref r0, w1, .null] [] A = none := (xD_bex E d h_135 [41] 90 41 _ _ _).trans rfl
-- TB.back (I)I
set_option maxRecDepth 100000 in
theorem h_136 : xprog[136]? = some M_136 := rfl
set_option maxRecDepth 100000 in
theorem e136_0 (E : Nat × (Nat → Int32)) (d : Nat) (r0 : Nat) (i1 : Int32) (A : xH) : xD E (d + 1) 136 0 [.ref r0, .int i1, xJ] [] A = if i1 < 0 then (xI (xC E d 141 [.ref r0, .int (-1 : Int32)] A)).bind fun q1 => some (some (.int q1.1), q1.2) else if i1 < (2 : Int32) then (gN A r0 8 7).bind fun n2 => (aR 6 A n2 i1).bind fun q3 => (match q3 with | none => (xI (xC E d 141 [.ref r0, .int (-2 : Int32)] A)).bind fun q4 => some (some (.int q4.1), q4.2) | some bq3 => (gN A r0 8 0).bind fun n5 => (gN A bq3 1 0).bind fun n6 => (xV (xC E d 42 [.ref n5, .ref n6] A)).bind fun A7 => (gN A7 r0 8 3).bind fun n8 => (gN A7 bq3 1 1).bind fun n9 => (xV (xC E d 27 [.ref n8, .ref n9] A7)).bind fun A10 => (gN A10 r0 8 4).bind fun n11 => (gN A10 bq3 1 2).bind fun n12 => (xV (xC E d 36 [.ref n11, .ref n12] A10)).bind fun A13 => (gN A13 r0 8 5).bind fun n14 => (xV (xC E d 1 [.ref n14] A13)).bind fun A15 => (xI (xC E d 142 [.ref r0, .int (0 : Int32)] A15)).bind fun q16 => some (some (.int q16.1), q16.2)) else (xI (xC E d 141 [.ref r0, .int (-1 : Int32)] A)).bind fun q17 => some (some (.int q17.1), q17.2) := (xD_bex E d h_136 [] 90 0 _ _ _).trans rfl
-- TB.count (I)I
set_option maxRecDepth 100000 in
theorem h_137 : xprog[137]? = some M_137 := rfl
set_option maxRecDepth 100000 in
theorem e137_0 (E : Nat × (Nat → Int32)) (d : Nat) (r0 : Nat) (i1 : Int32) (A : xH) : xD E (d + 1) 137 0 [.ref r0, .int i1] [] A = if i1 = (0 : Int32) then (gN A r0 8 0).bind fun n1 => (gI A n1 5 6).bind fun x2 => some (some (.int x2), A) else if i1 = (1 : Int32) then (gN A r0 8 0).bind fun n3 => (gN A n3 5 0).bind fun n4 => (xI (xC E d 23 [.ref n4] A)).bind fun q5 => some (some (.int q5.1), q5.2) else if i1 = (2 : Int32) then (gN A r0 8 0).bind fun n6 => (xI (xC E d 44 [.ref n6] A)).bind fun q7 => some (some (.int q7.1), q7.2) else if i1 = (3 : Int32) then (gN A r0 8 0).bind fun n8 => (gI A n8 5 5).bind fun x9 => some (some (.int x9), A) else if i1 = (4 : Int32) then (gN A r0 8 4).bind fun n10 => (gI A n10 4 2).bind fun x11 => some (some (.int x11), A) else if i1 = (5 : Int32) then (gN A r0 8 3).bind fun n12 => (gI A n12 3 3).bind fun x13 => some (some (.int x13), A) else if i1 = (6 : Int32) then (gN A r0 8 5).bind fun n14 => (gI A n14 0 3).bind fun x15 => some (some (.int x15), A) else if i1 = (7 : Int32) then (gN A r0 8 8).bind fun n16 => (gI A n16 6 2).bind fun x17 => some (some (.int x17), A) else if i1 = (8 : Int32) then (gN A r0 8 10).bind fun n18 => (aI 0 A n18 (1 : Int32)).bind fun x19 => some (some (.int x19), A) else if i1 = (9 : Int32) then (gN A r0 8 10).bind fun n20 => (aI 0 A n20 (2 : Int32)).bind fun x21 => some (some (.int x21), A) else if i1 = (10 : Int32) then (gN A r0 8 10).bind fun n22 => (aI 0 A n22 (3 : Int32)).bind fun x23 => some (some (.int x23), A) else if i1 = (11 : Int32) then (gN A r0 8 10).bind fun n24 => (aI 0 A n24 (5 : Int32)).bind fun x25 => some (some (.int x25), A) else if i1 = (12 : Int32) then (gN A r0 8 10).bind fun n26 => (aI 0 A n26 (6 : Int32)).bind fun x27 => some (some (.int x27), A) else if i1 = (13 : Int32) then (gN A r0 8 3).bind fun n28 => (gI A n28 3 4).bind fun x29 => some (some (.int x29), A) else if i1 = (14 : Int32) then (xI (xC E d 145 [.ref r0, .int (i1 - (14 : Int32))] A)).bind fun q30 => some (some (.int q30.1), q30.2) else if i1 = (15 : Int32) then (xI (xC E d 145 [.ref r0, .int (i1 - (14 : Int32))] A)).bind fun q31 => some (some (.int q31.1), q31.2) else if i1 = (16 : Int32) then (xI (xC E d 145 [.ref r0, .int (i1 - (14 : Int32))] A)).bind fun q32 => some (some (.int q32.1), q32.2) else if i1 = (17 : Int32) then (xI (xC E d 145 [.ref r0, .int (i1 - (14 : Int32))] A)).bind fun q33 => some (some (.int q33.1), q33.2) else some (some (.int (-1 : Int32)), A) := (xD_bex E d h_137 [] 90 0 _ _ _).trans rfl
-- TB.status ()I
set_option maxRecDepth 100000 in
theorem h_138 : xprog[138]? = some M_138 := rfl
set_option maxRecDepth 100000 in
theorem e138_0 (E : Nat × (Nat → Int32)) (d : Nat) (r0 : Nat) (A : xH) : xD E (d + 1) 138 0 [.ref r0] [] A = (gI A r0 8 17).bind fun x1 => some (some (.int x1), A) := (xD_bex E d h_138 [] 90 0 _ _ _).trans rfl
-- TB.isKey (I)Z
set_option maxRecDepth 100000 in
theorem h_139 : xprog[139]? = some M_139 := rfl
set_option maxRecDepth 100000 in
theorem e139_0 (E : Nat × (Nat → Int32)) (d : Nat) (i0 : Int32) (A : xH) : xD E (d + 1) 139 0 [.int i0] [] A = if i0 < 0 then some (some (.int (0 : Int32)), A) else if (1000 : Int32) ≤ i0 then some (some (.int (0 : Int32)), A) else some (some (.int (1 : Int32)), A) := (xD_bex E d h_139 [] 90 0 _ _ _).trans rfl
-- TB.isBucket (I)Z
set_option maxRecDepth 100000 in
theorem h_140 : xprog[140]? = some M_140 := rfl
set_option maxRecDepth 100000 in
theorem e140_0 (E : Nat × (Nat → Int32)) (d : Nat) (i0 : Int32) (A : xH) : xD E (d + 1) 140 0 [.int i0] [] A = if i0 < 0 then some (some (.int (0 : Int32)), A) else if (24 : Int32) ≤ i0 then some (some (.int (0 : Int32)), A) else some (some (.int (1 : Int32)), A) := (xD_bex E d h_140 [] 90 0 _ _ _).trans rfl
-- TB.refuse (I)I
set_option maxRecDepth 100000 in
theorem h_141 : xprog[141]? = some M_141 := rfl
set_option maxRecDepth 100000 in
theorem e141_0 (E : Nat × (Nat → Int32)) (d : Nat) (r0 : Nat) (i1 : Int32) (A : xH) : xD E (d + 1) 141 0 [.ref r0, .int i1] [] A = (pF A r0 8 17 (.int i1)).bind fun A1 => (gN A1 r0 8 10).bind fun n2 => (aI 0 A1 n2 (-i1)).bind fun x3 => (sI 0 A1 n2 (-i1) (x3 + (1 : Int32))).bind fun A4 => some (some (.int i1), A4) := (xD_bex E d h_141 [] 90 0 _ _ _).trans rfl
-- TB.grant (I)I
set_option maxRecDepth 100000 in
theorem h_142 : xprog[142]? = some M_142 := rfl
set_option maxRecDepth 100000 in
theorem e142_0 (E : Nat × (Nat → Int32)) (d : Nat) (r0 : Nat) (i1 : Int32) (A : xH) : xD E (d + 1) 142 0 [.ref r0, .int i1] [] A = (pF A r0 8 17 (.int (0 : Int32))).bind fun A1 => some (some (.int i1), A1) := (xD_bex E d h_142 [] 90 0 _ _ _).trans rfl
-- TB.answer (I)I
set_option maxRecDepth 100000 in
theorem h_143 : xprog[143]? = some M_143 := rfl
set_option maxRecDepth 100000 in
theorem e143_0 (E : Nat × (Nat → Int32)) (d : Nat) (r0 : Nat) (i1 : Int32) (A : xH) : xD E (d + 1) 143 0 [.ref r0, .int i1] [] A = if 0 ≤ i1 then (xI (xC E d 142 [.ref r0, .int i1] A)).bind fun q1 => some (some (.int q1.1), q1.2) else (xI (xC E d 141 [.ref r0, .int i1] A)).bind fun q2 => some (some (.int q2.1), q2.2) := (xD_bex E d h_143 [] 90 0 _ _ _).trans rfl
-- TB.mostOfTerm (I)I
set_option maxRecDepth 100000 in
theorem h_144 : xprog[144]? = some M_144 := rfl
set_option maxRecDepth 100000 in
theorem e144_0 (E : Nat × (Nat → Int32)) (d : Nat) (i0 : Int32) (A : xH) : xD E (d + 1) 144 0 [.int i0] [] A = if i0 = (0 : Int32) then some (some (.int (999 : Int32)), A) else if i0 = (1 : Int32) then some (some (.int (10 : Int32)), A) else if i0 = (2 : Int32) then some (some (.int (9 : Int32)), A) else if i0 = (3 : Int32) then some (some (.int (999 : Int32)), A) else some (some (.int (-1 : Int32)), A) := (xD_bex E d h_144 [] 90 0 _ _ _).trans rfl
-- TB.termNow (I)I
set_option maxRecDepth 100000 in
theorem h_145 : xprog[145]? = some M_145 := rfl
set_option maxRecDepth 100000 in
theorem e145_0 (E : Nat × (Nat → Int32)) (d : Nat) (r0 : Nat) (i1 : Int32) (A : xH) : xD E (d + 1) 145 0 [.ref r0, .int i1] [] A = if i1 = (0 : Int32) then (gN A r0 8 0).bind fun n1 => (gI A n1 5 7).bind fun x2 => some (some (.int x2), A) else if i1 = (1 : Int32) then (gN A r0 8 3).bind fun n3 => (gI A n3 3 5).bind fun x4 => some (some (.int x4), A) else if i1 = (2 : Int32) then (gN A r0 8 3).bind fun n5 => (gI A n5 3 6).bind fun x6 => some (some (.int x6), A) else (gN A r0 8 3).bind fun n7 => (gI A n7 3 7).bind fun x8 => some (some (.int x8), A) := (xD_bex E d h_145 [] 90 0 _ _ _).trans rfl
-- TB.setTerm (II)V
set_option maxRecDepth 100000 in
theorem h_146 : xprog[146]? = some M_146 := rfl
set_option maxRecDepth 100000 in
theorem e146_0 (E : Nat × (Nat → Int32)) (d : Nat) (r0 : Nat) (i1 : Int32) (i2 : Int32) (A : xH) : xD E (d + 1) 146 0 [.ref r0, .int i1, .int i2] [] A = if i1 = (0 : Int32) then (gN A r0 8 0).bind fun n1 => (pF A n1 5 7 (.int i2)).bind fun A2 => some (none, A2) else if i1 = (1 : Int32) then (gN A r0 8 3).bind fun n3 => (pF A n3 3 5 (.int i2)).bind fun A4 => some (none, A4) else if i1 = (2 : Int32) then (gN A r0 8 3).bind fun n5 => (pF A n5 3 6 (.int i2)).bind fun A6 => some (none, A6) else (gN A r0 8 3).bind fun n7 => (pF A n7 3 7 (.int i2)).bind fun A8 => some (none, A8) := (xD_bex E d h_146 [] 90 0 _ _ _).trans rfl
-- TB.act (IIILTwinBuckets$History;)I
set_option maxRecDepth 100000 in
theorem h_147 : xprog[147]? = some M_147 := rfl
set_option maxRecDepth 100000 in
theorem e147_0 (E : Nat × (Nat → Int32)) (d : Nat) (r0 : Nat) (i1 : Int32) (i2 : Int32) (i3 : Int32) (r4 : Nat) (A : xH) : xD E (d + 1) 147 0 [.ref r0, .int i1, .int i2, .int i3, .ref r4, xJ] [] A = (gN A r0 8 0).bind fun n1 => (xV (xC E d 2 [.ref r4, .ref n1] A)).bind fun A2 => if i1 = (0 : Int32) then (gN A2 r0 8 0).bind fun n3 => (gN A2 r0 8 3).bind fun n4 => (xI (xC E d 48 [.ref n3, .int i2, .int i3, .ref n4] A2)).bind fun q5 => if q5.1 < 0 then some (some (.int q5.1), q5.2) else (xV (xC E d 3 [.ref r4, .int i1] q5.2)).bind fun A6 => some (some (.int q5.1), A6) else if i1 = (1 : Int32) then (gN A2 r0 8 0).bind fun n7 => (gN A2 r0 8 3).bind fun n8 => (xI (xC E d 52 [.ref n7, .int i2, .ref n8] A2)).bind fun q9 => if q9.1 < 0 then some (some (.int q9.1), q9.2) else (xV (xC E d 3 [.ref r4, .int i1] q9.2)).bind fun A10 => some (some (.int q9.1), A10) else if i1 = (2 : Int32) then (gN A2 r0 8 0).bind fun n11 => (xI (xC E d 60 [.ref n11, .int i2] A2)).bind fun q12 => if q12.1 < 0 then some (some (.int q12.1), q12.2) else (xV (xC E d 3 [.ref r4, .int i1] q12.2)).bind fun A13 => some (some (.int q12.1), A13) else (gN A2 r0 8 0).bind fun n14 => (gN A2 r0 8 3).bind fun n15 => (xI (xC E d 61 [.ref n14, .int i2, .ref n15] A2)).bind fun q16 => if q16.1 < 0 then some (some (.int q16.1), q16.2) else (xV (xC E d 3 [.ref r4, .int i1] q16.2)).bind fun A17 => some (some (.int q16.1), A17) := (xD_bex E d h_147 [] 90 0 _ _ _).trans rfl
-- TB.runClause (LTwinBuckets$Text;I)Z
set_option maxRecDepth 100000 in
theorem h_148 : xprog[148]? = some M_148 := rfl
set_option maxRecDepth 100000 in
theorem e148_0 (E : Nat × (Nat → Int32)) (d : Nat) (r0 : Nat) (r1 : Nat) (i2 : Int32) (A : xH) : xD E (d + 1) 148 0 [.ref r0, .ref r1, .int i2, xJ, xJ, xJ, xJ, xJ, xJ] [] A = (xI (xC E d 92 [.ref r1, .int i2, .int (0 : Int32)] A)).bind fun q1 => (xI (xC E d 92 [.ref r1, .int i2, .int (1 : Int32)] q1.2)).bind fun q2 => xD E (d + 1) 148 18 [.ref r0, .ref r1, .int i2, .int q1.1, .int q2.1, .int (0 : Int32), xJ, xJ, xJ] [] q2.2 := (xD_bex E d h_148 [18, 118] 90 0 _ _ _).trans rfl
set_option maxRecDepth 100000 in
theorem e148_18 (E : Nat × (Nat → Int32)) (d : Nat) (r0 : Nat) (r1 : Nat) (i2 : Int32) (i3 : Int32) (i4 : Int32) (i5 : Int32) (w6 : Value) (w7 : Value) (w8 : Value) (A : xH) : xD E (d + 1) 148 18 [.ref r0, .ref r1, .int i2, .int i3, .int i4, .int i5, w6, w7, w8] [] A = if i4 ≤ i5 then some (some (.int (1 : Int32)), A) else (xV (xC E d 149 [.ref r0, .ref r1] A)).bind fun A1 => (gN A1 r0 8 9).bind fun n2 => (gN A1 r0 8 3).bind fun n3 => (gN A1 n3 3 2).bind fun n4 => (xI (xC E d 96 [.ref r1, .int i2, .int (6 : Int32), .ref n2, .ref n4] A1)).bind fun q5 => if q5.1 = (1 : Int32) then (gN q5.2 r0 8 9).bind fun n6 => (gN q5.2 r0 8 3).bind fun n7 => (gN q5.2 n7 3 2).bind fun n8 => (xI (xC E d 96 [.ref r1, .int i2, .int (2 : Int32), .ref n6, .ref n8] q5.2)).bind fun q9 => (gN q9.2 r0 8 9).bind fun n10 => (gN q9.2 r0 8 3).bind fun n11 => (gN q9.2 n11 3 2).bind fun n12 => (xI (xC E d 96 [.ref r1, .int i2, .int (4 : Int32), .ref n10, .ref n12] q9.2)).bind fun q13 => if q9.1 = (-2000000000 : Int32) then some (some (.int (0 : Int32)), q13.2) else if q13.1 = (-2000000000 : Int32) then some (some (.int (0 : Int32)), q13.2) else xD E (d + 1) 148 118 [.ref r0, .ref r1, .int i2, .int i3, .int i4, .int i5, .int q9.1, .int q13.1, xJ] [.ref r0, .int q13.1, .int q9.1, .int i3, .ref r0] q13.2 else xD E (d + 1) 148 18 [.ref r0, .ref r1, .int i2, .int i3, .int i4, .int (i5 + (1 : Int32)), xJ, xJ, xJ] [] q5.2 := (xD_bex E d h_148 [18, 118] 90 18 _ _ _).trans rfl
set_option maxRecDepth 100000 in
theorem e148_118 (E : Nat × (Nat → Int32)) (d : Nat) (r0 : Nat) (r1 : Nat) (i2 : Int32) (i3 : Int32) (i4 : Int32) (i5 : Int32) (w6 : Value) (w7 : Value) (w8 : Value) (s0 : Nat) (s1 : Int32) (s2 : Int32) (s3 : Int32) (s4 : Nat) (A : xH) : xD E (d + 1) 148 118 [.ref r0, .ref r1, .int i2, .int i3, .int i4, .int i5, w6, w7, w8] [.ref s4, .int s3, .int s2, .int s1, .ref s0] A = (gN A s4 8 6).bind fun n1 => (xI (xC E d 147 [.ref s0, .int s1, .int s2, .int s3, .ref n1] A)).bind fun q2 => if 0 ≤ q2.1 then (gN q2.2 r0 8 9).bind fun n3 => (aI 0 q2.2 n3 (1 : Int32)).bind fun x4 => (sI 0 q2.2 n3 (1 : Int32) (x4 + (1 : Int32))).bind fun A5 => if i3 = 0 then (gN A5 r0 8 9).bind fun n6 => (sI 0 A5 n6 (2 : Int32) q2.1).bind fun A7 => xD E (d + 1) 148 18 [.ref r0, .ref r1, .int i2, .int i3, .int i4, .int (i5 + (1 : Int32)), xJ, xJ, .int q2.1] [] A7 else xD E (d + 1) 148 18 [.ref r0, .ref r1, .int i2, .int i3, .int i4, .int (i5 + (1 : Int32)), xJ, xJ, .int q2.1] [] A5 else some (some (.int (0 : Int32)), q2.2) := (xD_bex E d h_148 [18, 118] 90 118 _ _ _).trans rfl
-- TB.fillOrderWords (LTwinBuckets$Text;)V
set_option maxRecDepth 100000 in
theorem h_149 : xprog[149]? = some M_149 := rfl
set_option maxRecDepth 100000 in
theorem e149_0 (E : Nat × (Nat → Int32)) (d : Nat) (r0 : Nat) (r1 : Nat) (A : xH) : xD E (d + 1) 149 0 [.ref r0, .ref r1, xJ, xJ] [] A = (gN A r0 8 9).bind fun n1 => (gN A r0 8 0).bind fun n2 => (gI A n2 5 7).bind fun x3 => (sI 0 A n1 (0 : Int32) x3).bind fun A4 => (gN A4 r0 8 9).bind fun n5 => (gN A4 r0 8 0).bind fun n6 => (gI A4 n6 5 6).bind fun x7 => (sI 0 A4 n5 (3 : Int32) x7).bind fun A8 => (gN A8 r0 8 9).bind fun n9 => (gN A8 r0 8 0).bind fun n10 => (gI A8 n10 5 5).bind fun x11 => (sI 0 A8 n9 (4 : Int32) x11).bind fun A12 => (gN A12 r0 8 9).bind fun n13 => (gN A12 r0 8 0).bind fun n14 => (xI (xC E d 44 [.ref n14] A12)).bind fun q15 => (sI 0 q15.2 n13 (5 : Int32) q15.1).bind fun A16 => xD E (d + 1) 149 54 [.ref r0, .ref r1, .int (0 : Int32), xJ] [] A16 := (xD_bex E d h_149 [54] 90 0 _ _ _).trans rfl
set_option maxRecDepth 100000 in
theorem e149_54 (E : Nat × (Nat → Int32)) (d : Nat) (r0 : Nat) (r1 : Nat) (i2 : Int32) (w3 : Value) (A : xH) : xD E (d + 1) 149 54 [.ref r0, .ref r1, .int i2, w3] [] A = (gI A r1 7 6).bind fun x1 => if x1 ≤ i2 then some (none, A) else (gN A r1 7 3).bind fun n2 => (aI 0 A n2 i2).bind fun x3 => (gN A r0 8 9).bind fun n4 => if (1000 : Int32) ≤ x3 then (gN A r0 8 0).bind fun n5 => (gN A n5 5 0).bind fun n6 => (xI (xC E d 10 [.ref n6, .int (x3 - (1000 : Int32)), .int (3 : Int32)] A)).bind fun q7 => (sI 0 q7.2 n4 ((6 : Int32) + i2) q7.1).bind fun A8 => xD E (d + 1) 149 54 [.ref r0, .ref r1, .int (i2 + (1 : Int32)), .int x3] [] A8 else (gN A r0 8 0).bind fun n9 => (gN A r0 8 3).bind fun n10 => (xI (xC E d 46 [.ref n9, .int x3, .ref n10] A)).bind fun q11 => (sI 0 q11.2 n4 ((6 : Int32) + i2) q11.1).bind fun A12 => xD E (d + 1) 149 54 [.ref r0, .ref r1, .int (i2 + (1 : Int32)), .int x3] [] A12 := (xD_bex E d h_149 [54] 90 54 _ _ _).trans rfl
-- TB.losePowerOnPaper (I)Z
set_option maxRecDepth 100000 in
theorem h_150 : xprog[150]? = some M_150 := rfl
set_option maxRecDepth 100000 in
theorem e150_0 (E : Nat × (Nat → Int32)) (d : Nat) (r0 : Nat) (i1 : Int32) (A : xH) : xD E (d + 1) 150 0 [.ref r0, .int i1] [] A = if i1 < 0 then some (some (.int (0 : Int32)), A) else (gN A r0 8 0).bind fun n1 => (gI A n1 5 5).bind fun x2 => if i1 ≤ x2 then (gN A r0 8 1).bind fun n3 => (gN A r0 8 0).bind fun n4 => (xV (xC E d 42 [.ref n3, .ref n4] A)).bind fun A5 => (gN A5 r0 8 1).bind fun n6 => (gN A5 r0 8 3).bind fun n7 => (xI (xC E d 61 [.ref n6, .int i1, .ref n7] A5)).bind fun q8 => some (some (.int (1 : Int32)), q8.2) else some (some (.int (0 : Int32)), A) := (xD_bex E d h_150 [] 90 0 _ _ _).trans rfl
-- TB.oneWriteMore (I)V
set_option maxRecDepth 100000 in
theorem h_151 : xprog[151]? = some M_151 := rfl
set_option maxRecDepth 100000 in
theorem e151_0 (E : Nat × (Nat → Int32)) (d : Nat) (r0 : Nat) (i1 : Int32) (A : xH) : xD E (d + 1) 151 0 [.ref r0, .int i1, xJ, xJ, xJ, xJ, xJ] [] A = xD E (d + 1) 151 4 [.ref r0, .int i1, .int (i1 - (1 : Int32)), xJ, xJ, xJ, xJ] [] A := (xD_bex E d h_151 [4] 90 0 _ _ _).trans rfl
set_option maxRecDepth 100000 in
theorem e151_4 (E : Nat × (Nat → Int32)) (d : Nat) (r0 : Nat) (w1 : Value) (i2 : Int32) (w3 : Value) (w4 : Value) (w5 : Value) (w6 : Value) (A : xH) : xD E (d + 1) 151 4 [.ref r0, w1, .int i2, w3, w4, w5, w6] [] A = if i2 < 0 then some (none, A) else (gN A r0 8 13).bind fun n1 => (aL A n1 i2).bind fun x2 => (gN A r0 8 3).bind fun n3 => (gI A n3 3 5).bind fun x4 => if i2 = 0 then (gN A r0 8 13).bind fun n5 => (sL A n5 i2 (((x2 * ((((10 : Int32) - x4)).toInt64)) / (10 : Int64)) + (0 : Int64))).bind fun A6 => xD E (d + 1) 151 4 [.ref r0, xJ, .int (i2 + (-1 : Int32)), .long ((x2 * ((((10 : Int32) - x4)).toInt64)) / (10 : Int64)), xJ, .long (0 : Int64), xJ] [] A6 else (gN A r0 8 13).bind fun n7 => (aL A n7 (i2 - (1 : Int32))).bind fun x8 => (gN A r0 8 3).bind fun n9 => (gI A n9 3 5).bind fun x10 => (gN A r0 8 13).bind fun n11 => (sL A n11 i2 (((x2 * ((((10 : Int32) - x4)).toInt64)) / (10 : Int64)) + ((x8 * ((x10).toInt64)) / (10 : Int64)))).bind fun A12 => xD E (d + 1) 151 4 [.ref r0, xJ, .int (i2 + (-1 : Int32)), .long ((x2 * ((((10 : Int32) - x4)).toInt64)) / (10 : Int64)), xJ, .long ((x8 * ((x10).toInt64)) / (10 : Int64)), xJ] [] A12 := (xD_bex E d h_151 [4] 90 4 _ _ _).trans rfl
-- TB.nextDraw (I)I
set_option maxRecDepth 100000 in
theorem h_152 : xprog[152]? = some M_152 := rfl
set_option maxRecDepth 100000 in
theorem e152_0 (E : Nat × (Nat → Int32)) (d : Nat) (i0 : Int32) (A : xH) : xD E (d + 1) 152 0 [.int i0] [] A = some (some (.int (((xlrem ((((i0).toInt64) * (1103 : Int64)) + (12345 : Int64)) (1000003 : Int64))).toInt32)), A) := (xD_bex E d h_152 [] 90 0 _ _ _).trans rfl
-- TB.actOnPaper (III)V
set_option maxRecDepth 100000 in
theorem h_153 : xprog[153]? = some M_153 := rfl
set_option maxRecDepth 100000 in
theorem e153_0 (E : Nat × (Nat → Int32)) (d : Nat) (r0 : Nat) (i1 : Int32) (i2 : Int32) (i3 : Int32) (A : xH) : xD E (d + 1) 153 0 [.ref r0, .int i1, .int i2, .int i3] [] A = if (4 : Int32) < i3 then if (6 : Int32) < i3 then (gN A r0 8 1).bind fun n1 => (gN A r0 8 1).bind fun n2 => (gI A n2 5 5).bind fun x3 => (gN A r0 8 3).bind fun n4 => (xI (xC E d 61 [.ref n1, .int (xmin i2 x3), .ref n4] A)).bind fun q5 => some (none, q5.2) else (gN A r0 8 1).bind fun n6 => (gN A r0 8 3).bind fun n7 => (xI (xC E d 52 [.ref n6, .int i1, .ref n7] A)).bind fun q8 => some (none, q8.2) else (gN A r0 8 1).bind fun n9 => (gN A r0 8 3).bind fun n10 => (xI (xC E d 48 [.ref n9, .int i1, .int i2, .ref n10] A)).bind fun q11 => some (none, q11.2) := (xD_bex E d h_153 [] 90 0 _ _ _).trans rfl
end
section
/-! ===== what each block does, an equation a block (printed by wip/whole/gen.py) ===== -/
-- Model.lies (III)Z
set_option maxRecDepth 100000 in
theorem h_154 : xprog[154]? = some M_154 := rfl
set_option maxRecDepth 100000 in
theorem e154_0 (E : Nat × (Nat → Int32)) (d : Nat) (i0 : Int32) (i1 : Int32) (i2 : Int32) (A : xH) : xD E (d + 1) 154 0 [.int i0, .int i1, .int i2] [] A = if i0 < i1 then some (some (.int (0 : Int32)), A) else if i2 < i0 then some (some (.int (0 : Int32)), A) else some (some (.int (1 : Int32)), A) := (xD_bex E d h_154 [] 90 0 _ _ _).trans rfl
-- Model.lesser (II)I
set_option maxRecDepth 100000 in
theorem h_155 : xprog[155]? = some M_155 := rfl
set_option maxRecDepth 100000 in
theorem e155_0 (E : Nat × (Nat → Int32)) (d : Nat) (i0 : Int32) (i1 : Int32) (A : xH) : xD E (d + 1) 155 0 [.int i0, .int i1] [] A = if i1 ≤ i0 then some (some (.int i1), A) else some (some (.int i0), A) := (xD_bex E d h_155 [] 90 0 _ _ _).trans rfl
-- Model.greater (II)I
set_option maxRecDepth 100000 in
theorem h_156 : xprog[156]? = some M_156 := rfl
set_option maxRecDepth 100000 in
theorem e156_0 (E : Nat × (Nat → Int32)) (d : Nat) (i0 : Int32) (i1 : Int32) (A : xH) : xD E (d + 1) 156 0 [.int i0, .int i1] [] A = if i0 ≤ i1 then some (some (.int i1), A) else some (some (.int i0), A) := (xD_bex E d h_156 [] 90 0 _ _ _).trans rfl
-- Model.refuses (I)I
set_option maxRecDepth 100000 in
theorem h_157 : xprog[157]? = some M_157 := rfl
set_option maxRecDepth 100000 in
theorem e157_0 (E : Nat × (Nat → Int32)) (d : Nat) (r0 : Nat) (i1 : Int32) (A : xH) : xD E (d + 1) 157 0 [.ref r0, .int i1] [] A = (pF A r0 9 0 (.int i1)).bind fun A1 => (gN A1 r0 9 1).bind fun n2 => (aI 0 A1 n2 (-i1)).bind fun x3 => (sI 0 A1 n2 (-i1) (x3 + (1 : Int32))).bind fun A4 => some (some (.int i1), A4) := (xD_bex E d h_157 [] 90 0 _ _ _).trans rfl
-- Model.good (I)I
set_option maxRecDepth 100000 in
theorem h_158 : xprog[158]? = some M_158 := rfl
set_option maxRecDepth 100000 in
theorem e158_0 (E : Nat × (Nat → Int32)) (d : Nat) (r0 : Nat) (i1 : Int32) (A : xH) : xD E (d + 1) 158 0 [.ref r0, .int i1] [] A = (pF A r0 9 0 (.int (0 : Int32))).bind fun A1 => some (some (.int i1), A1) := (xD_bex E d h_158 [] 90 0 _ _ _).trans rfl
-- Model.settled (I)I
set_option maxRecDepth 100000 in
theorem h_159 : xprog[159]? = some M_159 := rfl
set_option maxRecDepth 100000 in
theorem e159_0 (E : Nat × (Nat → Int32)) (d : Nat) (r0 : Nat) (i1 : Int32) (A : xH) : xD E (d + 1) 159 0 [.ref r0, .int i1] [] A = (pF A r0 9 32 (.int (0 : Int32))).bind fun A1 => (xI (xC E d 158 [.ref r0, .int i1] A1)).bind fun q2 => some (some (.int q2.1), q2.2) := (xD_bex E d h_159 [] 90 0 _ _ _).trans rfl
-- Model.isIn (II)Z
set_option maxRecDepth 100000 in
theorem h_160 : xprog[160]? = some M_160 := rfl
set_option maxRecDepth 100000 in
theorem e160_0 (E : Nat × (Nat → Int32)) (d : Nat) (i0 : Int32) (i1 : Int32) (A : xH) : xD E (d + 1) 160 0 [.int i0, .int i1] [] A = if ((i0 >>> (i1 &&& 31)) &&& (1 : Int32)) = (1 : Int32) then some (some (.int (1 : Int32)), A) else some (some (.int (0 : Int32)), A) := (xD_bex E d h_160 [] 90 0 _ _ _).trans rfl
-- Model.ones (I)I
set_option maxRecDepth 100000 in
theorem h_161 : xprog[161]? = some M_161 := rfl
set_option maxRecDepth 100000 in
theorem e161_0 (E : Nat × (Nat → Int32)) (d : Nat) (i0 : Int32) (A : xH) : xD E (d + 1) 161 0 [.int i0, xJ, xJ] [] A = xD E (d + 1) 161 4 [.int i0, .int (0 : Int32), .int (0 : Int32)] [] A := (xD_bex E d h_161 [4] 90 0 _ _ _).trans rfl
set_option maxRecDepth 100000 in
theorem e161_4 (E : Nat × (Nat → Int32)) (d : Nat) (i0 : Int32) (i1 : Int32) (i2 : Int32) (A : xH) : xD E (d + 1) 161 4 [.int i0, .int i1, .int i2] [] A = if (24 : Int32) ≤ i2 then some (some (.int i1), A) else xD E (d + 1) 161 4 [.int i0, .int (i1 + ((i0 >>> (i2 &&& 31)) &&& (1 : Int32))), .int (i2 + (1 : Int32))] [] A := (xD_bex E d h_161 [4] 90 4 _ _ _).trans rfl
-- Model.isBucket (I)Z
set_option maxRecDepth 100000 in
theorem h_162 : xprog[162]? = some M_162 := rfl
set_option maxRecDepth 100000 in
theorem e162_0 (E : Nat × (Nat → Int32)) (d : Nat) (i0 : Int32) (A : xH) : xD E (d + 1) 162 0 [.int i0] [] A = (xI (xC E d 154 [.int i0, .int (0 : Int32), .int (23 : Int32)] A)).bind fun q1 => if x01 q1.1 = true then some (some (.int q1.1), q1.2) else none := (xD_bex E d h_162 [] 90 0 _ _ _).trans rfl
-- Model.isKey (I)Z
set_option maxRecDepth 100000 in
theorem h_163 : xprog[163]? = some M_163 := rfl
set_option maxRecDepth 100000 in
theorem e163_0 (E : Nat × (Nat → Int32)) (d : Nat) (i0 : Int32) (A : xH) : xD E (d + 1) 163 0 [.int i0] [] A = (xI (xC E d 154 [.int i0, .int (0 : Int32), .int (999 : Int32)] A)).bind fun q1 => if x01 q1.1 = true then some (some (.int q1.1), q1.2) else none := (xD_bex E d h_163 [] 90 0 _ _ _).trans rfl
-- Model.init ()V
set_option maxRecDepth 100000 in
theorem h_164 : xprog[164]? = some M_164 := rfl
set_option maxRecDepth 100000 in
theorem e164_0 (E : Nat × (Nat → Int32)) (d : Nat) (r0 : Nat) (A : xH) : xD E (d + 1) 164 0 [.ref r0] [] A = xD E (d + 1) 164 9 [.ref r0] [.ref A.length, .ref r0] (A ++ [.inl (0, 7, .inl fun _ => 0)]) := (xD_bex E d h_164 [9, 18, 27, 34, 43, 51, 117, 189, 261, 333, 405, 477, 549, 621, 693, 765, 810, 817, 831, 840, 849, 857, 865, 874, 883, 892, 900, 908, 920, 928] 90 0 _ _ _).trans rfl
set_option maxRecDepth 100000 in
theorem e164_9 (E : Nat × (Nat → Int32)) (d : Nat) (r0 : Nat) (s0 : Nat) (s1 : Nat) (A : xH) : xD E (d + 1) 164 9 [.ref r0] [.ref s1, .ref s0] A = (pF A s0 9 1 (.ref s1)).bind fun A1 => xD E (d + 1) 164 18 [.ref r0] [.ref A1.length, .ref r0] (A1 ++ [.inl (0, 6588, .inl fun _ => 0)]) := (xD_bex E d h_164 [9, 18, 27, 34, 43, 51, 117, 189, 261, 333, 405, 477, 549, 621, 693, 765, 810, 817, 831, 840, 849, 857, 865, 874, 883, 892, 900, 908, 920, 928] 90 9 _ _ _).trans rfl
set_option maxRecDepth 100000 in
theorem e164_18 (E : Nat × (Nat → Int32)) (d : Nat) (r0 : Nat) (s0 : Nat) (s1 : Nat) (A : xH) : xD E (d + 1) 164 18 [.ref r0] [.ref s1, .ref s0] A = (pF A s0 9 2 (.ref s1)).bind fun A1 => xD E (d + 1) 164 27 [.ref r0] [.ref A1.length, .ref r0] (A1 ++ [.inl (0, 13176, .inl fun _ => 0)]) := (xD_bex E d h_164 [9, 18, 27, 34, 43, 51, 117, 189, 261, 333, 405, 477, 549, 621, 693, 765, 810, 817, 831, 840, 849, 857, 865, 874, 883, 892, 900, 908, 920, 928] 90 18 _ _ _).trans rfl
set_option maxRecDepth 100000 in
theorem e164_27 (E : Nat × (Nat → Int32)) (d : Nat) (r0 : Nat) (s0 : Nat) (s1 : Nat) (A : xH) : xD E (d + 1) 164 27 [.ref r0] [.ref s1, .ref s0] A = (pF A s0 9 3 (.ref s1)).bind fun A1 => xD E (d + 1) 164 34 [.ref r0] [.ref A1.length, .ref r0] (A1 ++ [.inl (2, 2, .inl fun _ => 0)]) := (xD_bex E d h_164 [9, 18, 27, 34, 43, 51, 117, 189, 261, 333, 405, 477, 549, 621, 693, 765, 810, 817, 831, 840, 849, 857, 865, 874, 883, 892, 900, 908, 920, 928] 90 27 _ _ _).trans rfl
set_option maxRecDepth 100000 in
theorem e164_34 (E : Nat × (Nat → Int32)) (d : Nat) (r0 : Nat) (s0 : Nat) (s1 : Nat) (A : xH) : xD E (d + 1) 164 34 [.ref r0] [.ref s1, .ref s0] A = (pF A s0 9 4 (.ref s1)).bind fun A1 => xD E (d + 1) 164 43 [.ref r0] [.ref A1.length, .ref r0] (A1 ++ [.inl (0, 3852, .inl fun _ => 0)]) := (xD_bex E d h_164 [9, 18, 27, 34, 43, 51, 117, 189, 261, 333, 405, 477, 549, 621, 693, 765, 810, 817, 831, 840, 849, 857, 865, 874, 883, 892, 900, 908, 920, 928] 90 34 _ _ _).trans rfl
set_option maxRecDepth 100000 in
theorem e164_43 (E : Nat × (Nat → Int32)) (d : Nat) (r0 : Nat) (s0 : Nat) (s1 : Nat) (A : xH) : xD E (d + 1) 164 43 [.ref r0] [.ref s1, .ref s0] A = (pF A s0 9 5 (.ref s1)).bind fun A1 => xD E (d + 1) 164 51 [.ref r0] [.ref A1.length, .ref r0] (A1 ++ [.inl (1, 126, .inl fun _ => 0)]) := (xD_bex E d h_164 [9, 18, 27, 34, 43, 51, 117, 189, 261, 333, 405, 477, 549, 621, 693, 765, 810, 817, 831, 840, 849, 857, 865, 874, 883, 892, 900, 908, 920, 928] 90 43 _ _ _).trans rfl
set_option maxRecDepth 100000 in
theorem e164_51 (E : Nat × (Nat → Int32)) (d : Nat) (r0 : Nat) (s0 : Nat) (s1 : Nat) (A : xH) : xD E (d + 1) 164 51 [.ref r0] [.ref s1, .ref s0] A = (sI 1 A s1 (0 : Int32) (99 : Int32)).bind fun A1 => (sI 1 A1 s1 (1 : Int32) (111 : Int32)).bind fun A2 => (sI 1 A2 s1 (2 : Int32) (115 : Int32)).bind fun A3 => (sI 1 A3 s1 (3 : Int32) (116 : Int32)).bind fun A4 => (sI 1 A4 s1 (4 : Int32) (115 : Int32)).bind fun A5 => (sI 1 A5 s1 (5 : Int32) (32 : Int32)).bind fun A6 => (sI 1 A6 s1 (6 : Int32) (98 : Int32)).bind fun A7 => (sI 1 A7 s1 (7 : Int32) (97 : Int32)).bind fun A8 => (sI 1 A8 s1 (8 : Int32) (114 : Int32)).bind fun A9 => (sI 1 A9 s1 (9 : Int32) (115 : Int32)).bind fun A10 => (sI 1 A10 s1 (10 : Int32) (32 : Int32)).bind fun A11 => (sI 1 A11 s1 (11 : Int32) (105 : Int32)).bind fun A12 => xD E (d + 1) 164 117 [.ref r0] [.ref s1, .ref s0] A12 := (xD_bex E d h_164 [9, 18, 27, 34, 43, 51, 117, 189, 261, 333, 405, 477, 549, 621, 693, 765, 810, 817, 831, 840, 849, 857, 865, 874, 883, 892, 900, 908, 920, 928] 90 51 _ _ _).trans rfl
set_option maxRecDepth 100000 in
theorem e164_117 (E : Nat × (Nat → Int32)) (d : Nat) (r0 : Nat) (s0 : Nat) (s1 : Nat) (A : xH) : xD E (d + 1) 164 117 [.ref r0] [.ref s1, .ref s0] A = (sI 1 A s1 (12 : Int32) (102 : Int32)).bind fun A1 => (sI 1 A1 s1 (13 : Int32) (32 : Int32)).bind fun A2 => (sI 1 A2 s1 (14 : Int32) (111 : Int32)).bind fun A3 => (sI 1 A3 s1 (15 : Int32) (114 : Int32)).bind fun A4 => (sI 1 A4 s1 (16 : Int32) (32 : Int32)).bind fun A5 => (sI 1 A5 s1 (17 : Int32) (97 : Int32)).bind fun A6 => (sI 1 A6 s1 (18 : Int32) (110 : Int32)).bind fun A7 => (sI 1 A7 s1 (19 : Int32) (100 : Int32)).bind fun A8 => (sI 1 A8 s1 (20 : Int32) (32 : Int32)).bind fun A9 => (sI 1 A9 s1 (21 : Int32) (110 : Int32)).bind fun A10 => (sI 1 A10 s1 (22 : Int32) (111 : Int32)).bind fun A11 => (sI 1 A11 s1 (23 : Int32) (116 : Int32)).bind fun A12 => xD E (d + 1) 164 189 [.ref r0] [.ref s1, .ref s0] A12 := (xD_bex E d h_164 [9, 18, 27, 34, 43, 51, 117, 189, 261, 333, 405, 477, 549, 621, 693, 765, 810, 817, 831, 840, 849, 857, 865, 874, 883, 892, 900, 908, 920, 928] 90 117 _ _ _).trans rfl
set_option maxRecDepth 100000 in
theorem e164_189 (E : Nat × (Nat → Int32)) (d : Nat) (r0 : Nat) (s0 : Nat) (s1 : Nat) (A : xH) : xD E (d + 1) 164 189 [.ref r0] [.ref s1, .ref s0] A = (sI 1 A s1 (24 : Int32) (32 : Int32)).bind fun A1 => (sI 1 A1 s1 (25 : Int32) (98 : Int32)).bind fun A2 => (sI 1 A2 s1 (26 : Int32) (117 : Int32)).bind fun A3 => (sI 1 A3 s1 (27 : Int32) (99 : Int32)).bind fun A4 => (sI 1 A4 s1 (28 : Int32) (107 : Int32)).bind fun A5 => (sI 1 A5 s1 (29 : Int32) (101 : Int32)).bind fun A6 => (sI 1 A6 s1 (30 : Int32) (116 : Int32)).bind fun A7 => (sI 1 A7 s1 (31 : Int32) (32 : Int32)).bind fun A8 => (sI 1 A8 s1 (32 : Int32) (100 : Int32)).bind fun A9 => (sI 1 A9 s1 (33 : Int32) (101 : Int32)).bind fun A10 => (sI 1 A10 s1 (34 : Int32) (112 : Int32)).bind fun A11 => (sI 1 A11 s1 (35 : Int32) (116 : Int32)).bind fun A12 => xD E (d + 1) 164 261 [.ref r0] [.ref s1, .ref s0] A12 := (xD_bex E d h_164 [9, 18, 27, 34, 43, 51, 117, 189, 261, 333, 405, 477, 549, 621, 693, 765, 810, 817, 831, 840, 849, 857, 865, 874, 883, 892, 900, 908, 920, 928] 90 189 _ _ _).trans rfl
set_option maxRecDepth 100000 in
theorem e164_261 (E : Nat × (Nat → Int32)) (d : Nat) (r0 : Nat) (s0 : Nat) (s1 : Nat) (A : xH) : xD E (d + 1) 164 261 [.ref r0] [.ref s1, .ref s0] A = (sI 1 A s1 (36 : Int32) (104 : Int32)).bind fun A1 => (sI 1 A1 s1 (37 : Int32) (32 : Int32)).bind fun A2 => (sI 1 A2 s1 (38 : Int32) (107 : Int32)).bind fun A3 => (sI 1 A3 s1 (39 : Int32) (101 : Int32)).bind fun A4 => (sI 1 A4 s1 (40 : Int32) (121 : Int32)).bind fun A5 => (sI 1 A5 s1 (41 : Int32) (32 : Int32)).bind fun A6 => (sI 1 A6 s1 (42 : Int32) (104 : Int32)).bind fun A7 => (sI 1 A7 s1 (43 : Int32) (97 : Int32)).bind fun A8 => (sI 1 A8 s1 (44 : Int32) (115 : Int32)).bind fun A9 => (sI 1 A9 s1 (45 : Int32) (104 : Int32)).bind fun A10 => (sI 1 A10 s1 (46 : Int32) (32 : Int32)).bind fun A11 => (sI 1 A11 s1 (47 : Int32) (109 : Int32)).bind fun A12 => xD E (d + 1) 164 333 [.ref r0] [.ref s1, .ref s0] A12 := (xD_bex E d h_164 [9, 18, 27, 34, 43, 51, 117, 189, 261, 333, 405, 477, 549, 621, 693, 765, 810, 817, 831, 840, 849, 857, 865, 874, 883, 892, 900, 908, 920, 928] 90 261 _ _ _).trans rfl
set_option maxRecDepth 100000 in
theorem e164_333 (E : Nat × (Nat → Int32)) (d : Nat) (r0 : Nat) (s0 : Nat) (s1 : Nat) (A : xH) : xD E (d + 1) 164 333 [.ref r0] [.ref s1, .ref s0] A = (sI 1 A s1 (48 : Int32) (111 : Int32)).bind fun A1 => (sI 1 A1 s1 (49 : Int32) (111 : Int32)).bind fun A2 => (sI 1 A2 s1 (50 : Int32) (100 : Int32)).bind fun A3 => (sI 1 A3 s1 (51 : Int32) (32 : Int32)).bind fun A4 => (sI 1 A4 s1 (52 : Int32) (109 : Int32)).bind fun A5 => (sI 1 A5 s1 (53 : Int32) (97 : Int32)).bind fun A6 => (sI 1 A6 s1 (54 : Int32) (110 : Int32)).bind fun A7 => (sI 1 A7 s1 (55 : Int32) (121 : Int32)).bind fun A8 => (sI 1 A8 s1 (56 : Int32) (32 : Int32)).bind fun A9 => (sI 1 A9 s1 (57 : Int32) (116 : Int32)).bind fun A10 => (sI 1 A10 s1 (58 : Int32) (105 : Int32)).bind fun A11 => (sI 1 A11 s1 (59 : Int32) (109 : Int32)).bind fun A12 => xD E (d + 1) 164 405 [.ref r0] [.ref s1, .ref s0] A12 := (xD_bex E d h_164 [9, 18, 27, 34, 43, 51, 117, 189, 261, 333, 405, 477, 549, 621, 693, 765, 810, 817, 831, 840, 849, 857, 865, 874, 883, 892, 900, 908, 920, 928] 90 333 _ _ _).trans rfl
set_option maxRecDepth 100000 in
theorem e164_405 (E : Nat × (Nat → Int32)) (d : Nat) (r0 : Nat) (s0 : Nat) (s1 : Nat) (A : xH) : xD E (d + 1) 164 405 [.ref r0] [.ref s1, .ref s0] A = (sI 1 A s1 (60 : Int32) (101 : Int32)).bind fun A1 => (sI 1 A1 s1 (61 : Int32) (32 : Int32)).bind fun A2 => (sI 1 A2 s1 (62 : Int32) (100 : Int32)).bind fun A3 => (sI 1 A3 s1 (63 : Int32) (111 : Int32)).bind fun A4 => (sI 1 A4 s1 (64 : Int32) (110 : Int32)).bind fun A5 => (sI 1 A5 s1 (65 : Int32) (101 : Int32)).bind fun A6 => (sI 1 A6 s1 (66 : Int32) (32 : Int32)).bind fun A7 => (sI 1 A7 s1 (67 : Int32) (108 : Int32)).bind fun A8 => (sI 1 A8 s1 (68 : Int32) (97 : Int32)).bind fun A9 => (sI 1 A9 s1 (69 : Int32) (116 : Int32)).bind fun A10 => (sI 1 A10 s1 (70 : Int32) (101 : Int32)).bind fun A11 => (sI 1 A11 s1 (71 : Int32) (115 : Int32)).bind fun A12 => xD E (d + 1) 164 477 [.ref r0] [.ref s1, .ref s0] A12 := (xD_bex E d h_164 [9, 18, 27, 34, 43, 51, 117, 189, 261, 333, 405, 477, 549, 621, 693, 765, 810, 817, 831, 840, 849, 857, 865, 874, 883, 892, 900, 908, 920, 928] 90 405 _ _ _).trans rfl
set_option maxRecDepth 100000 in
theorem e164_477 (E : Nat × (Nat → Int32)) (d : Nat) (r0 : Nat) (s0 : Nat) (s1 : Nat) (A : xH) : xD E (d + 1) 164 477 [.ref r0] [.ref s1, .ref s0] A = (sI 1 A s1 (72 : Int32) (116 : Int32)).bind fun A1 => (sI 1 A1 s1 (73 : Int32) (32 : Int32)).bind fun A2 => (sI 1 A2 s1 (74 : Int32) (100 : Int32)).bind fun A3 => (sI 1 A3 s1 (75 : Int32) (101 : Int32)).bind fun A4 => (sI 1 A4 s1 (76 : Int32) (101 : Int32)).bind fun A5 => (sI 1 A5 s1 (77 : Int32) (112 : Int32)).bind fun A6 => (sI 1 A6 s1 (78 : Int32) (32 : Int32)).bind fun A7 => (sI 1 A7 s1 (79 : Int32) (119 : Int32)).bind fun A8 => (sI 1 A8 s1 (80 : Int32) (97 : Int32)).bind fun A9 => (sI 1 A9 s1 (81 : Int32) (105 : Int32)).bind fun A10 => (sI 1 A10 s1 (82 : Int32) (116 : Int32)).bind fun A11 => (sI 1 A11 s1 (83 : Int32) (115 : Int32)).bind fun A12 => xD E (d + 1) 164 549 [.ref r0] [.ref s1, .ref s0] A12 := (xD_bex E d h_164 [9, 18, 27, 34, 43, 51, 117, 189, 261, 333, 405, 477, 549, 621, 693, 765, 810, 817, 831, 840, 849, 857, 865, 874, 883, 892, 900, 908, 920, 928] 90 477 _ _ _).trans rfl
set_option maxRecDepth 100000 in
theorem e164_549 (E : Nat × (Nat → Int32)) (d : Nat) (r0 : Nat) (s0 : Nat) (s1 : Nat) (A : xH) : xD E (d + 1) 164 549 [.ref r0] [.ref s1, .ref s0] A = (sI 1 A s1 (84 : Int32) (32 : Int32)).bind fun A1 => (sI 1 A1 s1 (85 : Int32) (107 : Int32)).bind fun A2 => (sI 1 A2 s1 (86 : Int32) (101 : Int32)).bind fun A3 => (sI 1 A3 s1 (87 : Int32) (121 : Int32)).bind fun A4 => (sI 1 A4 s1 (88 : Int32) (115 : Int32)).bind fun A5 => (sI 1 A5 s1 (89 : Int32) (32 : Int32)).bind fun A6 => (sI 1 A6 s1 (90 : Int32) (118 : Int32)).bind fun A7 => (sI 1 A7 s1 (91 : Int32) (97 : Int32)).bind fun A8 => (sI 1 A8 s1 (92 : Int32) (108 : Int32)).bind fun A9 => (sI 1 A9 s1 (93 : Int32) (117 : Int32)).bind fun A10 => (sI 1 A10 s1 (94 : Int32) (101 : Int32)).bind fun A11 => (sI 1 A11 s1 (95 : Int32) (32 : Int32)).bind fun A12 => xD E (d + 1) 164 621 [.ref r0] [.ref s1, .ref s0] A12 := (xD_bex E d h_164 [9, 18, 27, 34, 43, 51, 117, 189, 261, 333, 405, 477, 549, 621, 693, 765, 810, 817, 831, 840, 849, 857, 865, 874, 883, 892, 900, 908, 920, 928] 90 549 _ _ _).trans rfl
set_option maxRecDepth 100000 in
theorem e164_621 (E : Nat × (Nat → Int32)) (d : Nat) (r0 : Nat) (s0 : Nat) (s1 : Nat) (A : xH) : xD E (d + 1) 164 621 [.ref r0] [.ref s1, .ref s0] A = (sI 1 A s1 (96 : Int32) (112 : Int32)).bind fun A1 => (sI 1 A1 s1 (97 : Int32) (117 : Int32)).bind fun A2 => (sI 1 A2 s1 (98 : Int32) (116 : Int32)).bind fun A3 => (sI 1 A3 s1 (99 : Int32) (32 : Int32)).bind fun A4 => (sI 1 A4 s1 (100 : Int32) (97 : Int32)).bind fun A5 => (sI 1 A5 s1 (101 : Int32) (115 : Int32)).bind fun A6 => (sI 1 A6 s1 (102 : Int32) (32 : Int32)).bind fun A7 => (sI 1 A7 s1 (103 : Int32) (100 : Int32)).bind fun A8 => (sI 1 A8 s1 (104 : Int32) (114 : Int32)).bind fun A9 => (sI 1 A9 s1 (105 : Int32) (111 : Int32)).bind fun A10 => (sI 1 A10 s1 (106 : Int32) (112 : Int32)).bind fun A11 => (sI 1 A11 s1 (107 : Int32) (32 : Int32)).bind fun A12 => xD E (d + 1) 164 693 [.ref r0] [.ref s1, .ref s0] A12 := (xD_bex E d h_164 [9, 18, 27, 34, 43, 51, 117, 189, 261, 333, 405, 477, 549, 621, 693, 765, 810, 817, 831, 840, 849, 857, 865, 874, 883, 892, 900, 908, 920, 928] 90 621 _ _ _).trans rfl
set_option maxRecDepth 100000 in
theorem e164_693 (E : Nat × (Nat → Int32)) (d : Nat) (r0 : Nat) (s0 : Nat) (s1 : Nat) (A : xH) : xD E (d + 1) 164 693 [.ref r0] [.ref s1, .ref s0] A = (sI 1 A s1 (108 : Int32) (102 : Int32)).bind fun A1 => (sI 1 A1 s1 (109 : Int32) (108 : Int32)).bind fun A2 => (sI 1 A2 s1 (110 : Int32) (117 : Int32)).bind fun A3 => (sI 1 A3 s1 (111 : Int32) (115 : Int32)).bind fun A4 => (sI 1 A4 s1 (112 : Int32) (104 : Int32)).bind fun A5 => (sI 1 A5 s1 (113 : Int32) (32 : Int32)).bind fun A6 => (sI 1 A6 s1 (114 : Int32) (99 : Int32)).bind fun A7 => (sI 1 A7 s1 (115 : Int32) (114 : Int32)).bind fun A8 => (sI 1 A8 s1 (116 : Int32) (97 : Int32)).bind fun A9 => (sI 1 A9 s1 (117 : Int32) (115 : Int32)).bind fun A10 => (sI 1 A10 s1 (118 : Int32) (104 : Int32)).bind fun A11 => (sI 1 A11 s1 (119 : Int32) (32 : Int32)).bind fun A12 => xD E (d + 1) 164 765 [.ref r0] [.ref s1, .ref s0] A12 := (xD_bex E d h_164 [9, 18, 27, 34, 43, 51, 117, 189, 261, 333, 405, 477, 549, 621, 693, 765, 810, 817, 831, 840, 849, 857, 865, 874, 883, 892, 900, 908, 920, 928] 90 693 _ _ _).trans rfl
set_option maxRecDepth 100000 in
theorem e164_765 (E : Nat × (Nat → Int32)) (d : Nat) (r0 : Nat) (s0 : Nat) (s1 : Nat) (A : xH) : xD E (d + 1) 164 765 [.ref r0] [.ref s1, .ref s0] A = (sI 1 A s1 (120 : Int32) (116 : Int32)).bind fun A1 => (sI 1 A1 s1 (121 : Int32) (105 : Int32)).bind fun A2 => (sI 1 A2 s1 (122 : Int32) (109 : Int32)).bind fun A3 => (sI 1 A3 s1 (123 : Int32) (101 : Int32)).bind fun A4 => (sI 1 A4 s1 (124 : Int32) (115 : Int32)).bind fun A5 => (sI 1 A5 s1 (125 : Int32) (32 : Int32)).bind fun A6 => (pF A6 s0 9 7 (.ref s1)).bind fun A7 => xD E (d + 1) 164 810 [.ref r0] [.ref A7.length, .ref r0] (A7 ++ [.inl (1, 400, .inl fun _ => 0)]) := (xD_bex E d h_164 [9, 18, 27, 34, 43, 51, 117, 189, 261, 333, 405, 477, 549, 621, 693, 765, 810, 817, 831, 840, 849, 857, 865, 874, 883, 892, 900, 908, 920, 928] 90 765 _ _ _).trans rfl
set_option maxRecDepth 100000 in
theorem e164_810 (E : Nat × (Nat → Int32)) (d : Nat) (r0 : Nat) (s0 : Nat) (s1 : Nat) (A : xH) : xD E (d + 1) 164 810 [.ref r0] [.ref s1, .ref s0] A = (pF A s0 9 11 (.ref s1)).bind fun A1 => xD E (d + 1) 164 817 [.ref r0] [.ref A1.length, .ref r0] (A1 ++ [.inl (0, 5, .inl fun _ => 0)]) := (xD_bex E d h_164 [9, 18, 27, 34, 43, 51, 117, 189, 261, 333, 405, 477, 549, 621, 693, 765, 810, 817, 831, 840, 849, 857, 865, 874, 883, 892, 900, 908, 920, 928] 90 810 _ _ _).trans rfl
set_option maxRecDepth 100000 in
theorem e164_817 (E : Nat × (Nat → Int32)) (d : Nat) (r0 : Nat) (s0 : Nat) (s1 : Nat) (A : xH) : xD E (d + 1) 164 817 [.ref r0] [.ref s1, .ref s0] A = (pF A s0 9 12 (.ref s1)).bind fun A1 => (pF A1 r0 9 14 (.int (-1 : Int32))).bind fun A2 => xD E (d + 1) 164 831 [.ref r0] [.ref A2.length, .ref r0] (A2 ++ [.inl (0, 401, .inl fun _ => 0)]) := (xD_bex E d h_164 [9, 18, 27, 34, 43, 51, 117, 189, 261, 333, 405, 477, 549, 621, 693, 765, 810, 817, 831, 840, 849, 857, 865, 874, 883, 892, 900, 908, 920, 928] 90 817 _ _ _).trans rfl
set_option maxRecDepth 100000 in
theorem e164_831 (E : Nat × (Nat → Int32)) (d : Nat) (r0 : Nat) (s0 : Nat) (s1 : Nat) (A : xH) : xD E (d + 1) 164 831 [.ref r0] [.ref s1, .ref s0] A = (pF A s0 9 15 (.ref s1)).bind fun A1 => xD E (d + 1) 164 840 [.ref r0] [.ref A1.length, .ref r0] (A1 ++ [.inl (0, 401, .inl fun _ => 0)]) := (xD_bex E d h_164 [9, 18, 27, 34, 43, 51, 117, 189, 261, 333, 405, 477, 549, 621, 693, 765, 810, 817, 831, 840, 849, 857, 865, 874, 883, 892, 900, 908, 920, 928] 90 831 _ _ _).trans rfl
set_option maxRecDepth 100000 in
theorem e164_840 (E : Nat × (Nat → Int32)) (d : Nat) (r0 : Nat) (s0 : Nat) (s1 : Nat) (A : xH) : xD E (d + 1) 164 840 [.ref r0] [.ref s1, .ref s0] A = (pF A s0 9 16 (.ref s1)).bind fun A1 => xD E (d + 1) 164 849 [.ref r0] [.ref A1.length, .ref r0] (A1 ++ [.inl (0, 401, .inl fun _ => 0)]) := (xD_bex E d h_164 [9, 18, 27, 34, 43, 51, 117, 189, 261, 333, 405, 477, 549, 621, 693, 765, 810, 817, 831, 840, 849, 857, 865, 874, 883, 892, 900, 908, 920, 928] 90 840 _ _ _).trans rfl
set_option maxRecDepth 100000 in
theorem e164_849 (E : Nat × (Nat → Int32)) (d : Nat) (r0 : Nat) (s0 : Nat) (s1 : Nat) (A : xH) : xD E (d + 1) 164 849 [.ref r0] [.ref s1, .ref s0] A = (pF A s0 9 17 (.ref s1)).bind fun A1 => xD E (d + 1) 164 857 [.ref r0] [.ref A1.length, .ref r0] (A1 ++ [.inl (0, 7, .inl fun _ => 0)]) := (xD_bex E d h_164 [9, 18, 27, 34, 43, 51, 117, 189, 261, 333, 405, 477, 549, 621, 693, 765, 810, 817, 831, 840, 849, 857, 865, 874, 883, 892, 900, 908, 920, 928] 90 849 _ _ _).trans rfl
set_option maxRecDepth 100000 in
theorem e164_857 (E : Nat × (Nat → Int32)) (d : Nat) (r0 : Nat) (s0 : Nat) (s1 : Nat) (A : xH) : xD E (d + 1) 164 857 [.ref r0] [.ref s1, .ref s0] A = (pF A s0 9 26 (.ref s1)).bind fun A1 => xD E (d + 1) 164 865 [.ref r0] [.ref A1.length, .ref r0] (A1 ++ [.inl (0, 64, .inl fun _ => 0)]) := (xD_bex E d h_164 [9, 18, 27, 34, 43, 51, 117, 189, 261, 333, 405, 477, 549, 621, 693, 765, 810, 817, 831, 840, 849, 857, 865, 874, 883, 892, 900, 908, 920, 928] 90 857 _ _ _).trans rfl
set_option maxRecDepth 100000 in
theorem e164_865 (E : Nat × (Nat → Int32)) (d : Nat) (r0 : Nat) (s0 : Nat) (s1 : Nat) (A : xH) : xD E (d + 1) 164 865 [.ref r0] [.ref s1, .ref s0] A = (pF A s0 9 29 (.ref s1)).bind fun A1 => xD E (d + 1) 164 874 [.ref r0] [.ref A1.length, .ref r0] (A1 ++ [.inl (0, 15424, .inl fun _ => 0)]) := (xD_bex E d h_164 [9, 18, 27, 34, 43, 51, 117, 189, 261, 333, 405, 477, 549, 621, 693, 765, 810, 817, 831, 840, 849, 857, 865, 874, 883, 892, 900, 908, 920, 928] 90 865 _ _ _).trans rfl
set_option maxRecDepth 100000 in
theorem e164_874 (E : Nat × (Nat → Int32)) (d : Nat) (r0 : Nat) (s0 : Nat) (s1 : Nat) (A : xH) : xD E (d + 1) 164 874 [.ref r0] [.ref s1, .ref s0] A = (pF A s0 9 30 (.ref s1)).bind fun A1 => xD E (d + 1) 164 883 [.ref r0] [.ref A1.length, .ref r0] (A1 ++ [.inl (0, 15424, .inl fun _ => 0)]) := (xD_bex E d h_164 [9, 18, 27, 34, 43, 51, 117, 189, 261, 333, 405, 477, 549, 621, 693, 765, 810, 817, 831, 840, 849, 857, 865, 874, 883, 892, 900, 908, 920, 928] 90 874 _ _ _).trans rfl
set_option maxRecDepth 100000 in
theorem e164_883 (E : Nat × (Nat → Int32)) (d : Nat) (r0 : Nat) (s0 : Nat) (s1 : Nat) (A : xH) : xD E (d + 1) 164 883 [.ref r0] [.ref s1, .ref s0] A = (pF A s0 9 31 (.ref s1)).bind fun A1 => xD E (d + 1) 164 892 [.ref r0] [.ref A1.length, .ref r0] (A1 ++ [.inl (0, 1000, .inl fun _ => 0)]) := (xD_bex E d h_164 [9, 18, 27, 34, 43, 51, 117, 189, 261, 333, 405, 477, 549, 621, 693, 765, 810, 817, 831, 840, 849, 857, 865, 874, 883, 892, 900, 908, 920, 928] 90 883 _ _ _).trans rfl
set_option maxRecDepth 100000 in
theorem e164_892 (E : Nat × (Nat → Int32)) (d : Nat) (r0 : Nat) (s0 : Nat) (s1 : Nat) (A : xH) : xD E (d + 1) 164 892 [.ref r0] [.ref s1, .ref s0] A = (pF A s0 9 33 (.ref s1)).bind fun A1 => xD E (d + 1) 164 900 [.ref r0] [.ref A1.length, .ref r0] (A1 ++ [.inl (0, 64, .inl fun _ => 0)]) := (xD_bex E d h_164 [9, 18, 27, 34, 43, 51, 117, 189, 261, 333, 405, 477, 549, 621, 693, 765, 810, 817, 831, 840, 849, 857, 865, 874, 883, 892, 900, 908, 920, 928] 90 892 _ _ _).trans rfl
set_option maxRecDepth 100000 in
theorem e164_900 (E : Nat × (Nat → Int32)) (d : Nat) (r0 : Nat) (s0 : Nat) (s1 : Nat) (A : xH) : xD E (d + 1) 164 900 [.ref r0] [.ref s1, .ref s0] A = (pF A s0 9 34 (.ref s1)).bind fun A1 => xD E (d + 1) 164 908 [.ref r0] [.ref A1.length, .ref r0] (A1 ++ [.inl (3, 21, .inr (.inl fun _ => 0))]) := (xD_bex E d h_164 [9, 18, 27, 34, 43, 51, 117, 189, 261, 333, 405, 477, 549, 621, 693, 765, 810, 817, 831, 840, 849, 857, 865, 874, 883, 892, 900, 908, 920, 928] 90 900 _ _ _).trans rfl
set_option maxRecDepth 100000 in
theorem e164_908 (E : Nat × (Nat → Int32)) (d : Nat) (r0 : Nat) (s0 : Nat) (s1 : Nat) (A : xH) : xD E (d + 1) 164 908 [.ref r0] [.ref s1, .ref s0] A = (pF A s0 9 35 (.ref s1)).bind fun A1 => (pF A1 r0 9 36 (.int (-1 : Int32))).bind fun A2 => xD E (d + 1) 164 920 [.ref r0] [.ref A2.length, .ref r0] (A2 ++ [.inl (3, 2, .inr (.inl fun _ => 0))]) := (xD_bex E d h_164 [9, 18, 27, 34, 43, 51, 117, 189, 261, 333, 405, 477, 549, 621, 693, 765, 810, 817, 831, 840, 849, 857, 865, 874, 883, 892, 900, 908, 920, 928] 90 908 _ _ _).trans rfl
set_option maxRecDepth 100000 in
theorem e164_920 (E : Nat × (Nat → Int32)) (d : Nat) (r0 : Nat) (s0 : Nat) (s1 : Nat) (A : xH) : xD E (d + 1) 164 920 [.ref r0] [.ref s1, .ref s0] A = (pF A s0 9 42 (.ref s1)).bind fun A1 => xD E (d + 1) 164 928 [.ref r0] [.ref A1.length, .ref r0] (A1 ++ [.inl (0, 40, .inl fun _ => 0)]) := (xD_bex E d h_164 [9, 18, 27, 34, 43, 51, 117, 189, 261, 333, 405, 477, 549, 621, 693, 765, 810, 817, 831, 840, 849, 857, 865, 874, 883, 892, 900, 908, 920, 928] 90 920 _ _ _).trans rfl
set_option maxRecDepth 100000 in
theorem e164_928 (E : Nat × (Nat → Int32)) (d : Nat) (r0 : Nat) (s0 : Nat) (s1 : Nat) (A : xH) : xD E (d + 1) 164 928 [.ref r0] [.ref s1, .ref s0] A = (pF A s0 9 43 (.ref s1)).bind fun A1 => (gN A1 r0 9 2).bind fun n2 => (sI 0 A1 n2 (975 : Int32) (1 : Int32)).bind fun A3 => (gN A3 r0 9 2).bind fun n4 => (sI 0 A3 n4 (980 : Int32) (-1 : Int32)).bind fun A5 => (gN A5 r0 9 2).bind fun n6 => (sI 0 A5 n6 (0 : Int32) (1 : Int32)).bind fun A7 => (gN A7 r0 9 2).bind fun n8 => (sI 0 A7 n8 (240 : Int32) (1 : Int32)).bind fun A9 => some (none, A9) := (xD_bex E d h_164 [9, 18, 27, 34, 43, 51, 117, 189, 261, 333, 405, 477, 549, 621, 693, 765, 810, 817, 831, 840, 849, 857, 865, 874, 883, 892, 900, 908, 920, 928] 90 928 _ _ _).trans rfl
-- Model.laysAside (I)V
set_option maxRecDepth 100000 in
theorem h_165 : xprog[165]? = some M_165 := rfl
set_option maxRecDepth 100000 in
theorem e165_0 (E : Nat × (Nat → Int32)) (d : Nat) (r0 : Nat) (i1 : Int32) (A : xH) : xD E (d + 1) 165 0 [.ref r0, .int i1, xJ] [] A = xD E (d + 1) 165 2 [.ref r0, .int i1, .int (0 : Int32)] [] A := (xD_bex E d h_165 [2] 90 0 _ _ _).trans rfl
set_option maxRecDepth 100000 in
theorem e165_2 (E : Nat × (Nat → Int32)) (d : Nat) (r0 : Nat) (i1 : Int32) (i2 : Int32) (A : xH) : xD E (d + 1) 165 2 [.ref r0, .int i1, .int i2] [] A = if (963 : Int32) ≤ i2 then some (none, A) else (gN A r0 9 5).bind fun n1 => (gN A r0 9 2).bind fun n2 => (aI 0 A n2 i2).bind fun x3 => (sI 0 A n1 (((963 : Int32) * i1) + i2) x3).bind fun A4 => xD E (d + 1) 165 2 [.ref r0, .int i1, .int (i2 + (1 : Int32))] [] A4 := (xD_bex E d h_165 [2] 90 2 _ _ _).trans rfl
-- Model.takesBack (I)V
set_option maxRecDepth 100000 in
theorem h_166 : xprog[166]? = some M_166 := rfl
set_option maxRecDepth 100000 in
theorem e166_0 (E : Nat × (Nat → Int32)) (d : Nat) (r0 : Nat) (i1 : Int32) (A : xH) : xD E (d + 1) 166 0 [.ref r0, .int i1, xJ] [] A = xD E (d + 1) 166 2 [.ref r0, .int i1, .int (0 : Int32)] [] A := (xD_bex E d h_166 [2] 90 0 _ _ _).trans rfl
set_option maxRecDepth 100000 in
theorem e166_2 (E : Nat × (Nat → Int32)) (d : Nat) (r0 : Nat) (i1 : Int32) (i2 : Int32) (A : xH) : xD E (d + 1) 166 2 [.ref r0, .int i1, .int i2] [] A = if (963 : Int32) ≤ i2 then some (none, A) else (gN A r0 9 2).bind fun n1 => (gN A r0 9 5).bind fun n2 => (aI 0 A n2 (((963 : Int32) * i1) + i2)).bind fun x3 => (sI 0 A n1 i2 x3).bind fun A4 => xD E (d + 1) 166 2 [.ref r0, .int i1, .int (i2 + (1 : Int32))] [] A4 := (xD_bex E d h_166 [2] 90 2 _ _ _).trans rfl
-- Model.image (I)I
set_option maxRecDepth 100000 in
theorem h_167 : xprog[167]? = some M_167 := rfl
set_option maxRecDepth 100000 in
theorem e167_0 (E : Nat × (Nat → Int32)) (d : Nat) (r0 : Nat) (i1 : Int32) (A : xH) : xD E (d + 1) 167 0 [.ref r0, .int i1, xJ] [] A = (xI (xC E d 154 [.int i1, .int (0 : Int32), .int (1 : Int32)] A)).bind fun q1 => if q1.1 = 0 then (xI (xC E d 157 [.ref r0, .int (-1 : Int32)] q1.2)).bind fun q2 => some (some (.int q2.1), q2.2) else xD E (d + 1) 167 17 [.ref r0, .int i1, .int (0 : Int32)] [] q1.2 := (xD_bex E d h_167 [17] 90 0 _ _ _).trans rfl
set_option maxRecDepth 100000 in
theorem e167_17 (E : Nat × (Nat → Int32)) (d : Nat) (r0 : Nat) (i1 : Int32) (i2 : Int32) (A : xH) : xD E (d + 1) 167 17 [.ref r0, .int i1, .int i2] [] A = if (6588 : Int32) ≤ i2 then (gN A r0 9 4).bind fun n1 => (sI 2 A n1 i1 (1 : Int32)).bind fun A2 => (xI (xC E d 158 [.ref r0, .int (0 : Int32)] A2)).bind fun q3 => some (some (.int q3.1), q3.2) else (gN A r0 9 3).bind fun n4 => (gN A r0 9 2).bind fun n5 => (aI 0 A n5 i2).bind fun x6 => (sI 0 A n4 (((6588 : Int32) * i1) + i2) x6).bind fun A7 => xD E (d + 1) 167 17 [.ref r0, .int i1, .int (i2 + (1 : Int32))] [] A7 := (xD_bex E d h_167 [17] 90 17 _ _ _).trans rfl
-- Model.back (I)I
set_option maxRecDepth 100000 in
theorem h_168 : xprog[168]? = some M_168 := rfl
set_option maxRecDepth 100000 in
theorem e168_0 (E : Nat × (Nat → Int32)) (d : Nat) (r0 : Nat) (i1 : Int32) (A : xH) : xD E (d + 1) 168 0 [.ref r0, .int i1, xJ] [] A = (xI (xC E d 154 [.int i1, .int (0 : Int32), .int (1 : Int32)] A)).bind fun q1 => if q1.1 = 0 then (xI (xC E d 157 [.ref r0, .int (-1 : Int32)] q1.2)).bind fun q2 => some (some (.int q2.1), q2.2) else (gN q1.2 r0 9 4).bind fun n3 => (aI 2 q1.2 n3 i1).bind fun x4 => if x4 = 0 then (xI (xC E d 157 [.ref r0, .int (-2 : Int32)] q1.2)).bind fun q5 => some (some (.int q5.1), q5.2) else xD E (d + 1) 168 33 [.ref r0, .int i1, .int (0 : Int32)] [] q1.2 := (xD_bex E d h_168 [33] 90 0 _ _ _).trans rfl
set_option maxRecDepth 100000 in
theorem e168_33 (E : Nat × (Nat → Int32)) (d : Nat) (r0 : Nat) (i1 : Int32) (i2 : Int32) (A : xH) : xD E (d + 1) 168 33 [.ref r0, .int i1, .int i2] [] A = if (6588 : Int32) ≤ i2 then (xI (xC E d 159 [.ref r0, .int (0 : Int32)] A)).bind fun q1 => some (some (.int q1.1), q1.2) else (gN A r0 9 2).bind fun n2 => (gN A r0 9 3).bind fun n3 => (aI 0 A n3 (((6588 : Int32) * i1) + i2)).bind fun x4 => (sI 0 A n2 i2 x4).bind fun A5 => xD E (d + 1) 168 33 [.ref r0, .int i1, .int (i2 + (1 : Int32))] [] A5 := (xD_bex E d h_168 [33] 90 33 _ _ _).trans rfl
-- Model.at (II)I
set_option maxRecDepth 100000 in
theorem h_169 : xprog[169]? = some M_169 := rfl
set_option maxRecDepth 100000 in
theorem e169_0 (E : Nat × (Nat → Int32)) (d : Nat) (i0 : Int32) (i1 : Int32) (A : xH) : xD E (d + 1) 169 0 [.int i0, .int i1] [] A = some (some (.int (((10 : Int32) * i0) + i1)), A) := (xD_bex E d h_169 [] 90 0 _ _ _).trans rfl
-- Model.isUsed (I)Z
set_option maxRecDepth 100000 in
theorem h_170 : xprog[170]? = some M_170 := rfl
set_option maxRecDepth 100000 in
theorem e170_0 (E : Nat × (Nat → Int32)) (d : Nat) (r0 : Nat) (i1 : Int32) (A : xH) : xD E (d + 1) 170 0 [.ref r0, .int i1] [] A = (gN A r0 9 2).bind fun n1 => (xI (xC E d 169 [.int i1, .int (0 : Int32)] A)).bind fun q2 => (aI 0 q2.2 n1 q2.1).bind fun x3 => if x3 = (1 : Int32) then some (some (.int (1 : Int32)), q2.2) else some (some (.int (0 : Int32)), q2.2) := (xD_bex E d h_170 [] 90 0 _ _ _).trans rfl
-- Model.usedMany ()I
set_option maxRecDepth 100000 in
theorem h_171 : xprog[171]? = some M_171 := rfl
set_option maxRecDepth 100000 in
theorem e171_0 (E : Nat × (Nat → Int32)) (d : Nat) (r0 : Nat) (A : xH) : xD E (d + 1) 171 0 [.ref r0, xJ, xJ] [] A = xD E (d + 1) 171 4 [.ref r0, .int (0 : Int32), .int (0 : Int32)] [] A := (xD_bex E d h_171 [4] 90 0 _ _ _).trans rfl
set_option maxRecDepth 100000 in
theorem e171_4 (E : Nat × (Nat → Int32)) (d : Nat) (r0 : Nat) (i1 : Int32) (i2 : Int32) (A : xH) : xD E (d + 1) 171 4 [.ref r0, .int i1, .int i2] [] A = if (24 : Int32) ≤ i2 then some (some (.int i1), A) else (gN A r0 9 2).bind fun n1 => (xI (xC E d 169 [.int i2, .int (0 : Int32)] A)).bind fun q2 => (aI 0 q2.2 n1 q2.1).bind fun x3 => xD E (d + 1) 171 4 [.ref r0, .int (i1 + x3), .int (i2 + (1 : Int32))] [] q2.2 := (xD_bex E d h_171 [4] 90 4 _ _ _).trans rfl
-- Model.keyMany ()I
set_option maxRecDepth 100000 in
theorem h_172 : xprog[172]? = some M_172 := rfl
set_option maxRecDepth 100000 in
theorem e172_0 (E : Nat × (Nat → Int32)) (d : Nat) (r0 : Nat) (A : xH) : xD E (d + 1) 172 0 [.ref r0, xJ, xJ] [] A = xD E (d + 1) 172 4 [.ref r0, .int (0 : Int32), .int (0 : Int32)] [] A := (xD_bex E d h_172 [4] 90 0 _ _ _).trans rfl
set_option maxRecDepth 100000 in
theorem e172_4 (E : Nat × (Nat → Int32)) (d : Nat) (r0 : Nat) (i1 : Int32) (i2 : Int32) (A : xH) : xD E (d + 1) 172 4 [.ref r0, .int i1, .int i2] [] A = if (24 : Int32) ≤ i2 then some (some (.int i1), A) else (xI (xC E d 170 [.ref r0, .int i2] A)).bind fun q1 => if q1.1 = 0 then xD E (d + 1) 172 4 [.ref r0, .int (i1 + (0 : Int32)), .int (i2 + (1 : Int32))] [] q1.2 else (gN q1.2 r0 9 2).bind fun n2 => (xI (xC E d 169 [.int i2, .int (3 : Int32)] q1.2)).bind fun q3 => (aI 0 q3.2 n2 q3.1).bind fun x4 => xD E (d + 1) 172 4 [.ref r0, .int (i1 + x4), .int (i2 + (1 : Int32))] [] q3.2 := (xD_bex E d h_172 [4] 90 4 _ _ _).trans rfl
-- Model.lowBits (II)I
set_option maxRecDepth 100000 in
theorem h_173 : xprog[173]? = some M_173 := rfl
set_option maxRecDepth 100000 in
theorem e173_0 (E : Nat × (Nat → Int32)) (d : Nat) (i0 : Int32) (i1 : Int32) (A : xH) : xD E (d + 1) 173 0 [.int i0, .int i1] [] A = some (some (.int (i0 &&& (((1 : Int32) <<< (i1 &&& 31)) - (1 : Int32)))), A) := (xD_bex E d h_173 [] 90 0 _ _ _).trans rfl
-- Model.hashOf (I)I
set_option maxRecDepth 100000 in
theorem h_174 : xprog[174]? = some M_174 := rfl
set_option maxRecDepth 100000 in
theorem e174_0 (E : Nat × (Nat → Int32)) (d : Nat) (r0 : Nat) (i1 : Int32) (A : xH) : xD E (d + 1) 174 0 [.ref r0, .int i1] [] A = (gN A r0 9 2).bind fun n1 => (aI 0 A n1 (977 : Int32)).bind fun x2 => some (some (.int (xrem (((421 : Int32) * i1) + x2) (1024 : Int32))), A) := (xD_bex E d h_174 [] 90 0 _ _ _).trans rfl
-- Model.ownerOf (I)I
set_option maxRecDepth 100000 in
theorem h_175 : xprog[175]? = some M_175 := rfl
set_option maxRecDepth 100000 in
theorem e175_0 (E : Nat × (Nat → Int32)) (d : Nat) (r0 : Nat) (i1 : Int32) (A : xH) : xD E (d + 1) 175 0 [.ref r0, .int i1, xJ] [] A = xD E (d + 1) 175 2 [.ref r0, .int i1, .int (0 : Int32)] [] A := (xD_bex E d h_175 [2] 90 0 _ _ _).trans rfl
set_option maxRecDepth 100000 in
theorem e175_2 (E : Nat × (Nat → Int32)) (d : Nat) (r0 : Nat) (i1 : Int32) (i2 : Int32) (A : xH) : xD E (d + 1) 175 2 [.ref r0, .int i1, .int i2] [] A = (xI (xC E d 170 [.ref r0, .int i2] A)).bind fun q1 => if q1.1 = 0 then xD E (d + 1) 175 2 [.ref r0, .int i1, .int (i2 + (1 : Int32))] [] q1.2 else (gN q1.2 r0 9 2).bind fun n2 => (xI (xC E d 169 [.int i2, .int (2 : Int32)] q1.2)).bind fun q3 => (aI 0 q3.2 n2 q3.1).bind fun x4 => (gN q3.2 r0 9 2).bind fun n5 => (xI (xC E d 169 [.int i2, .int (1 : Int32)] q3.2)).bind fun q6 => (aI 0 q6.2 n5 q6.1).bind fun x7 => (xI (xC E d 173 [.int i1, .int x7] q6.2)).bind fun q8 => if x4 = q8.1 then some (some (.int i2), q8.2) else xD E (d + 1) 175 2 [.ref r0, .int i1, .int (i2 + (1 : Int32))] [] q8.2 := (xD_bex E d h_175 [2] 90 2 _ _ _).trans rfl
-- Model.soughtIn (I)I
set_option maxRecDepth 100000 in
theorem h_176 : xprog[176]? = some M_176 := rfl
set_option maxRecDepth 100000 in
theorem e176_0 (E : Nat × (Nat → Int32)) (d : Nat) (r0 : Nat) (i1 : Int32) (A : xH) : xD E (d + 1) 176 0 [.ref r0, .int i1] [] A = (xI (xC E d 174 [.ref r0, .int i1] A)).bind fun q1 => (xI (xC E d 175 [.ref r0, .int q1.1] q1.2)).bind fun q2 => some (some (.int q2.1), q2.2) := (xD_bex E d h_176 [] 90 0 _ _ _).trans rfl
-- Model.placeOf (I)I
set_option maxRecDepth 100000 in
theorem h_177 : xprog[177]? = some M_177 := rfl
set_option maxRecDepth 100000 in
theorem e177_0 (E : Nat × (Nat → Int32)) (d : Nat) (r0 : Nat) (i1 : Int32) (A : xH) : xD E (d + 1) 177 0 [.ref r0, .int i1, xJ, xJ] [] A = (xI (xC E d 176 [.ref r0, .int i1] A)).bind fun q1 => xD E (d + 1) 177 8 [.ref r0, .int i1, .int q1.1, .int (0 : Int32)] [] q1.2 := (xD_bex E d h_177 [8] 90 0 _ _ _).trans rfl
set_option maxRecDepth 100000 in
theorem e177_8 (E : Nat × (Nat → Int32)) (d : Nat) (r0 : Nat) (i1 : Int32) (i2 : Int32) (i3 : Int32) (A : xH) : xD E (d + 1) 177 8 [.ref r0, .int i1, .int i2, .int i3] [] A = (gN A r0 9 2).bind fun n1 => (xI (xC E d 169 [.int i2, .int (3 : Int32)] A)).bind fun q2 => (aI 0 q2.2 n1 q2.1).bind fun x3 => if x3 ≤ i3 then some (some (.int (-1 : Int32)), q2.2) else (gN q2.2 r0 9 2).bind fun n4 => (xI (xC E d 169 [.int i2, .int ((4 : Int32) + i3)] q2.2)).bind fun q5 => (aI 0 q5.2 n4 q5.1).bind fun x6 => if x6 = i1 then some (some (.int i3), q5.2) else xD E (d + 1) 177 8 [.ref r0, .int i1, .int i2, .int (i3 + (1 : Int32))] [] q5.2 := (xD_bex E d h_177 [8] 90 8 _ _ _).trans rfl
-- Model.valueOrNone (I)I
set_option maxRecDepth 100000 in
theorem h_178 : xprog[178]? = some M_178 := rfl
set_option maxRecDepth 100000 in
theorem e178_0 (E : Nat × (Nat → Int32)) (d : Nat) (r0 : Nat) (i1 : Int32) (A : xH) : xD E (d + 1) 178 0 [.ref r0, .int i1, xJ] [] A = (xI (xC E d 177 [.ref r0, .int i1] A)).bind fun q1 => if q1.1 = (-1 : Int32) then some (some (.int (-1 : Int32)), q1.2) else (gN q1.2 r0 9 2).bind fun n2 => (xI (xC E d 176 [.ref r0, .int i1] q1.2)).bind fun q3 => (xI (xC E d 169 [.int q3.1, .int ((7 : Int32) + q1.1)] q3.2)).bind fun q4 => (aI 0 q4.2 n2 q4.1).bind fun x5 => some (some (.int x5), q4.2) := (xD_bex E d h_178 [] 90 0 _ _ _).trans rfl
-- Model.toldOf (II)I
set_option maxRecDepth 100000 in
theorem h_179 : xprog[179]? = some M_179 := rfl
set_option maxRecDepth 100000 in
theorem e179_0 (E : Nat × (Nat → Int32)) (d : Nat) (r0 : Nat) (i1 : Int32) (i2 : Int32) (A : xH) : xD E (d + 1) 179 0 [.ref r0, .int i1, .int i2] [] A = if i2 = 0 then (gN A r0 9 2).bind fun n1 => (aI 0 A n1 (i1 + (0 : Int32))).bind fun x2 => some (some (.int x2), A) else (gN A r0 9 2).bind fun n3 => (aI 0 A n3 (i1 + (0 : Int32))).bind fun x4 => if x4 = 0 then some (some (.int (-1 : Int32)), A) else (xI (xC E d 154 [.int i2, .int (1 : Int32), .int (9 : Int32)] A)).bind fun q5 => if q5.1 = 0 then some (some (.int (-1 : Int32)), q5.2) else if (3 : Int32) < i2 then (gN q5.2 r0 9 2).bind fun n6 => (aI 0 q5.2 n6 (i1 + (3 : Int32))).bind fun x7 => if x7 ≤ (xrem (i2 - (4 : Int32)) (3 : Int32)) then some (some (.int (-1 : Int32)), q5.2) else (gN q5.2 r0 9 2).bind fun n8 => (aI 0 q5.2 n8 (i1 + i2)).bind fun x9 => some (some (.int x9), q5.2) else (gN q5.2 r0 9 2).bind fun n10 => (aI 0 q5.2 n10 (i1 + i2)).bind fun x11 => some (some (.int x11), q5.2) := (xD_bex E d h_179 [] 90 0 _ _ _).trans rfl
-- Model.of (II)I
set_option maxRecDepth 100000 in
theorem h_180 : xprog[180]? = some M_180 := rfl
set_option maxRecDepth 100000 in
theorem e180_0 (E : Nat × (Nat → Int32)) (d : Nat) (r0 : Nat) (i1 : Int32) (i2 : Int32) (A : xH) : xD E (d + 1) 180 0 [.ref r0, .int i1, .int i2] [] A = (xI (xC E d 162 [.int i1] A)).bind fun q1 => if q1.1 = 0 then some (some (.int (-1 : Int32)), q1.2) else (xI (xC E d 169 [.int i1, .int (0 : Int32)] q1.2)).bind fun q2 => (xI (xC E d 179 [.ref r0, .int q2.1, .int i2] q2.2)).bind fun q3 => some (some (.int q3.1), q3.2) := (xD_bex E d h_180 [] 90 0 _ _ _).trans rfl
-- Model.page (II)I
set_option maxRecDepth 100000 in
theorem h_181 : xprog[181]? = some M_181 := rfl
set_option maxRecDepth 100000 in
theorem e181_0 (E : Nat × (Nat → Int32)) (d : Nat) (r0 : Nat) (i1 : Int32) (i2 : Int32) (A : xH) : xD E (d + 1) 181 0 [.ref r0, .int i1, .int i2] [] A = (xI (xC E d 162 [.int i1] A)).bind fun q1 => if q1.1 = 0 then some (some (.int (-1 : Int32)), q1.2) else (xI (xC E d 169 [.int i1, .int (0 : Int32)] q1.2)).bind fun q2 => (xI (xC E d 179 [.ref r0, .int ((240 : Int32) + q2.1), .int i2] q2.2)).bind fun q3 => some (some (.int q3.1), q3.2) := (xD_bex E d h_181 [] 90 0 _ _ _).trans rfl
-- Model.writeAt (I)I
set_option maxRecDepth 100000 in
theorem h_182 : xprog[182]? = some M_182 := rfl
set_option maxRecDepth 100000 in
theorem e182_0 (E : Nat × (Nat → Int32)) (d : Nat) (i0 : Int32) (A : xH) : xD E (d + 1) 182 0 [.int i0] [] A = some (some (.int ((480 : Int32) + ((12 : Int32) * i0))), A) := (xD_bex E d h_182 [] 90 0 _ _ _).trans rfl
-- Model.write (II)I
set_option maxRecDepth 100000 in
theorem h_183 : xprog[183]? = some M_183 := rfl
set_option maxRecDepth 100000 in
theorem e183_0 (E : Nat × (Nat → Int32)) (d : Nat) (r0 : Nat) (i1 : Int32) (i2 : Int32) (A : xH) : xD E (d + 1) 183 0 [.ref r0, .int i1, .int i2, xJ] [] A = (gN A r0 9 2).bind fun n1 => (aI 0 A n1 (960 : Int32)).bind fun x2 => (xI (xC E d 154 [.int i1, .int (0 : Int32), .int (x2 - (1 : Int32))] A)).bind fun q3 => if q3.1 = 0 then some (some (.int (-1 : Int32)), q3.2) else (xI (xC E d 182 [.int i1] q3.2)).bind fun q4 => if i2 = (0 : Int32) then (gN q4.2 r0 9 2).bind fun n5 => (aI 0 q4.2 n5 (q4.1 + (0 : Int32))).bind fun x6 => some (some (.int x6), q4.2) else if i2 = (1 : Int32) then (gN q4.2 r0 9 2).bind fun n7 => (aI 0 q4.2 n7 (q4.1 + (1 : Int32))).bind fun x8 => some (some (.int x8), q4.2) else if i2 = (2 : Int32) then (gN q4.2 r0 9 2).bind fun n9 => (aI 0 q4.2 n9 ((q4.1 + (2 : Int32)) + (0 : Int32))).bind fun x10 => if x10 = (1 : Int32) then (gN q4.2 r0 9 2).bind fun n11 => (aI 0 q4.2 n11 ((q4.1 + (2 : Int32)) + (3 : Int32))).bind fun x12 => some (some (.int x12), q4.2) else some (some (.int (-1 : Int32)), q4.2) else some (some (.int (-1 : Int32)), q4.2) := (xD_bex E d h_183 [] 90 0 _ _ _).trans rfl
-- Model.slot (I)I
set_option maxRecDepth 100000 in
theorem h_184 : xprog[184]? = some M_184 := rfl
set_option maxRecDepth 100000 in
theorem e184_0 (E : Nat × (Nat → Int32)) (d : Nat) (r0 : Nat) (i1 : Int32) (A : xH) : xD E (d + 1) 184 0 [.ref r0, .int i1] [] A = (gN A r0 9 2).bind fun n1 => (aI 0 A n1 (961 : Int32)).bind fun x2 => (xI (xC E d 154 [.int i1, .int (0 : Int32), .int (((1 : Int32) <<< (x2 &&& 31)) - (1 : Int32))] A)).bind fun q3 => if q3.1 = 0 then some (some (.int (-1 : Int32)), q3.2) else (xI (xC E d 175 [.ref r0, .int i1] q3.2)).bind fun q4 => some (some (.int q4.1), q4.2) := (xD_bex E d h_184 [] 90 0 _ _ _).trans rfl
-- Model.key (II)I
set_option maxRecDepth 100000 in
theorem h_185 : xprog[185]? = some M_185 := rfl
set_option maxRecDepth 100000 in
theorem e185_0 (E : Nat × (Nat → Int32)) (d : Nat) (r0 : Nat) (i1 : Int32) (i2 : Int32) (A : xH) : xD E (d + 1) 185 0 [.ref r0, .int i1, .int i2] [] A = (xI (xC E d 163 [.int i1] A)).bind fun q1 => if q1.1 = 0 then some (some (.int (-1 : Int32)), q1.2) else if i2 = (0 : Int32) then (xI (xC E d 174 [.ref r0, .int i1] q1.2)).bind fun q2 => some (some (.int q2.1), q2.2) else if i2 = (1 : Int32) then (xI (xC E d 178 [.ref r0, .int i1] q1.2)).bind fun q3 => some (some (.int q3.1), q3.2) else if i2 = (2 : Int32) then (xI (xC E d 176 [.ref r0, .int i1] q1.2)).bind fun q4 => some (some (.int q4.1), q4.2) else if i2 = (3 : Int32) then (xI (xC E d 234 [.ref r0, .int i1] q1.2)).bind fun q5 => if q5.1 = 0 then some (some (.int (0 : Int32)), q5.2) else some (some (.int (1 : Int32)), q5.2) else some (some (.int (-1 : Int32)), q1.2) := (xD_bex E d h_185 [] 90 0 _ _ _).trans rfl
-- Model.isTerm (II)Z
set_option maxRecDepth 100000 in
theorem h_186 : xprog[186]? = some M_186 := rfl
set_option maxRecDepth 100000 in
theorem e186_0 (E : Nat × (Nat → Int32)) (d : Nat) (i0 : Int32) (i1 : Int32) (A : xH) : xD E (d + 1) 186 0 [.int i0, .int i1] [] A = if i0 = (0 : Int32) then (xI (xC E d 154 [.int i1, .int (0 : Int32), .int (999 : Int32)] A)).bind fun q1 => if x01 q1.1 = true then some (some (.int q1.1), q1.2) else none else if i0 = (1 : Int32) then (xI (xC E d 154 [.int i1, .int (0 : Int32), .int (10 : Int32)] A)).bind fun q2 => if x01 q2.1 = true then some (some (.int q2.1), q2.2) else none else if i0 = (2 : Int32) then (xI (xC E d 154 [.int i1, .int (0 : Int32), .int (9 : Int32)] A)).bind fun q3 => if x01 q3.1 = true then some (some (.int q3.1), q3.2) else none else if i0 = (3 : Int32) then (xI (xC E d 154 [.int i1, .int (0 : Int32), .int (999 : Int32)] A)).bind fun q4 => if x01 q4.1 = true then some (some (.int q4.1), q4.2) else none else some (some (.int (0 : Int32)), A) := (xD_bex E d h_186 [] 90 0 _ _ _).trans rfl
-- Model.termAt (I)I
set_option maxRecDepth 100000 in
theorem h_187 : xprog[187]? = some M_187 := rfl
set_option maxRecDepth 100000 in
theorem e187_0 (E : Nat × (Nat → Int32)) (d : Nat) (i0 : Int32) (A : xH) : xD E (d + 1) 187 0 [.int i0] [] A = if i0 = (0 : Int32) then some (some (.int (962 : Int32)), A) else if i0 = (1 : Int32) then some (some (.int (975 : Int32)), A) else if i0 = (2 : Int32) then some (some (.int (976 : Int32)), A) else some (some (.int (977 : Int32)), A) := (xD_bex E d h_187 [] 90 0 _ _ _).trans rfl
-- Model.terms (II)I
set_option maxRecDepth 100000 in
theorem h_188 : xprog[188]? = some M_188 := rfl
set_option maxRecDepth 100000 in
theorem e188_0 (E : Nat × (Nat → Int32)) (d : Nat) (r0 : Nat) (i1 : Int32) (i2 : Int32) (A : xH) : xD E (d + 1) 188 0 [.ref r0, .int i1, .int i2, xJ] [] A = (xI (xC E d 186 [.int i1, .int i2] A)).bind fun q1 => if q1.1 = 0 then (xI (xC E d 157 [.ref r0, .int (-1 : Int32)] q1.2)).bind fun q2 => some (some (.int q2.1), q2.2) else if i1 = (3 : Int32) then (xI (xC E d 172 [.ref r0] q1.2)).bind fun q3 => if q3.1 ≤ 0 then xD E (d + 1) 188 33 [.ref r0, .int i1, .int i2, xJ] [] q3.2 else (xI (xC E d 157 [.ref r0, .int (-3 : Int32)] q3.2)).bind fun q4 => some (some (.int q4.1), q4.2) else xD E (d + 1) 188 33 [.ref r0, .int i1, .int i2, xJ] [] q1.2 := (xD_bex E d h_188 [33] 90 0 _ _ _).trans rfl
set_option maxRecDepth 100000 in
theorem e188_33 (E : Nat × (Nat → Int32)) (d : Nat) (r0 : Nat) (i1 : Int32) (i2 : Int32) (w3 : Value) (A : xH) : xD E (d + 1) 188 33 [.ref r0, .int i1, .int i2, w3] [] A = (gN A r0 9 2).bind fun n1 => (xI (xC E d 187 [.int i1] A)).bind fun q2 => (aI 0 q2.2 n1 q2.1).bind fun x3 => (gN q2.2 r0 9 2).bind fun n4 => (xI (xC E d 187 [.int i1] q2.2)).bind fun q5 => (sI 0 q5.2 n4 q5.1 i2).bind fun A6 => (xI (xC E d 159 [.ref r0, .int x3] A6)).bind fun q7 => some (some (.int q7.1), q7.2) := (xD_bex E d h_188 [33] 90 33 _ _ _).trans rfl
-- Model.row ()I
set_option maxRecDepth 100000 in
theorem h_189 : xprog[189]? = some M_189 := rfl
set_option maxRecDepth 100000 in
theorem e189_0 (E : Nat × (Nat → Int32)) (d : Nat) (r0 : Nat) (A : xH) : xD E (d + 1) 189 0 [.ref r0, xJ, xJ, xJ, xJ] [] A = (gI A r0 9 13).bind fun x1 => (pF A r0 9 13 (.int (0 : Int32))).bind fun A2 => if x1 = 0 then (xI (xC E d 157 [.ref r0, .int (-6 : Int32)] A2)).bind fun q3 => some (some (.int q3.1), q3.2) else (pF A2 r0 9 6 (.int (xrem x1 (2 : Int32)))).bind fun A4 => xD E (d + 1) 189 32 [.ref r0, .int x1, .int (0 : Int32), .int (0 : Int32), xJ] [] A4 := (xD_bex E d h_189 [32, 82] 90 0 _ _ _).trans rfl
set_option maxRecDepth 100000 in
theorem e189_32 (E : Nat × (Nat → Int32)) (d : Nat) (r0 : Nat) (i1 : Int32) (i2 : Int32) (i3 : Int32) (w4 : Value) (A : xH) : xD E (d + 1) 189 32 [.ref r0, .int i1, .int i2, .int i3, w4] [] A = if i1 < (i3 + (2 : Int32)) then (xI (xC E d 159 [.ref r0, .int i2] A)).bind fun q1 => some (some (.int q1.1), q1.2) else (gN A r0 9 11).bind fun n2 => (aI 1 A n2 i3).bind fun x3 => (gN A r0 9 11).bind fun n4 => (aI 1 A n4 (i3 + (1 : Int32))).bind fun x5 => (xI (xC E d 243 [.ref r0, .int (x3 &&& (255 : Int32)), .int x5] A)).bind fun q6 => if q6.1 < 0 then if (0 : Int32) = 0 then xD E (d + 1) 189 82 [.ref r0, .int i1, .int i2, .int i3, .int (0 : Int32)] [.int (0 : Int32), .int i2] q6.2 else xD E (d + 1) 189 82 [.ref r0, .int i1, .int i2, .int i3, .int (0 : Int32)] [.int (1 : Int32), .int i2] q6.2 else if (1 : Int32) = 0 then xD E (d + 1) 189 82 [.ref r0, .int i1, .int i2, .int i3, .int (1 : Int32)] [.int (0 : Int32), .int i2] q6.2 else xD E (d + 1) 189 82 [.ref r0, .int i1, .int i2, .int i3, .int (1 : Int32)] [.int (1 : Int32), .int i2] q6.2 := (xD_bex E d h_189 [32, 82] 90 32 _ _ _).trans rfl
set_option maxRecDepth 100000 in
theorem e189_82 (E : Nat × (Nat → Int32)) (d : Nat) (r0 : Nat) (i1 : Int32) (w2 : Value) (i3 : Int32) (i4 : Int32) (s0 : Int32) (s1 : Int32) (A : xH) : xD E (d + 1) 189 82 [.ref r0, .int i1, w2, .int i3, .int i4] [.int s1, .int s0] A = (gI A r0 9 6).bind fun x1 => if i4 = 0 then (pF A r0 9 6 (.int (x1 + (1 : Int32)))).bind fun A2 => xD E (d + 1) 189 32 [.ref r0, .int i1, .int (s0 + s1), .int (i3 + (2 : Int32)), .int i4] [] A2 else (pF A r0 9 6 (.int (x1 + (0 : Int32)))).bind fun A3 => xD E (d + 1) 189 32 [.ref r0, .int i1, .int (s0 + s1), .int (i3 + (2 : Int32)), .int i4] [] A3 := (xD_bex E d h_189 [32, 82] 90 82 _ _ _).trans rfl
-- Model.tears ()I
set_option maxRecDepth 100000 in
theorem h_190 : xprog[190]? = some M_190 := rfl
set_option maxRecDepth 100000 in
theorem e190_0 (E : Nat × (Nat → Int32)) (d : Nat) (r0 : Nat) (A : xH) : xD E (d + 1) 190 0 [.ref r0] [] A = (gI A r0 9 6).bind fun x1 => some (some (.int x1), A) := (xD_bex E d h_190 [] 90 0 _ _ _).trans rfl
-- Model.feed (IIIII)I
set_option maxRecDepth 100000 in
theorem h_191 : xprog[191]? = some M_191 := rfl
set_option maxRecDepth 100000 in
theorem e191_0 (E : Nat × (Nat → Int32)) (d : Nat) (r0 : Nat) (i1 : Int32) (i2 : Int32) (i3 : Int32) (i4 : Int32) (i5 : Int32) (A : xH) : xD E (d + 1) 191 0 [.ref r0, .int i1, .int i2, .int i3, .int i4, .int i5, xJ] [] A = (gI A r0 9 13).bind fun x1 => if (x1 + (20 : Int32)) ≤ (400 : Int32) then (gN A r0 9 12).bind fun n2 => (sI 0 A n2 (0 : Int32) i1).bind fun A3 => (gN A3 r0 9 12).bind fun n4 => (sI 0 A3 n4 (1 : Int32) i2).bind fun A5 => (gN A5 r0 9 12).bind fun n6 => (sI 0 A5 n6 (2 : Int32) i3).bind fun A7 => (gN A7 r0 9 12).bind fun n8 => (sI 0 A7 n8 (3 : Int32) i4).bind fun A9 => (gN A9 r0 9 12).bind fun n10 => (sI 0 A9 n10 (4 : Int32) i5).bind fun A11 => xD E (d + 1) 191 55 [.ref r0, .int i1, .int i2, .int i3, .int i4, .int i5, .int (0 : Int32)] [] A11 else some (some (.int (-1 : Int32)), A) := (xD_bex E d h_191 [55] 90 0 _ _ _).trans rfl
set_option maxRecDepth 100000 in
theorem e191_55 (E : Nat × (Nat → Int32)) (d : Nat) (r0 : Nat) (w1 : Value) (w2 : Value) (w3 : Value) (w4 : Value) (w5 : Value) (i6 : Int32) (A : xH) : xD E (d + 1) 191 55 [.ref r0, w1, w2, w3, w4, w5, .int i6] [] A = if (20 : Int32) ≤ i6 then (gI A r0 9 13).bind fun x1 => (pF A r0 9 13 (.int (x1 + (20 : Int32)))).bind fun A2 => (gI A2 r0 9 13).bind fun x3 => some (some (.int x3), A2) else (gN A r0 9 11).bind fun n4 => (gI A r0 9 13).bind fun x5 => (gN A r0 9 12).bind fun n6 => (aI 0 A n6 (i6 / (4 : Int32))).bind fun x7 => (sI 1 A n4 (x5 + i6) (((x7 >>> (((24 : Int32) - ((8 : Int32) * (xrem i6 (4 : Int32)))) &&& 31))).toInt8.toInt32)).bind fun A8 => xD E (d + 1) 191 55 [.ref r0, xJ, xJ, xJ, xJ, xJ, .int (i6 + (1 : Int32))] [] A8 := (xD_bex E d h_191 [55] 90 55 _ _ _).trans rfl
-- Model.end (I)I
set_option maxRecDepth 100000 in
theorem h_192 : xprog[192]? = some M_192 := rfl
set_option maxRecDepth 100000 in
theorem e192_0 (E : Nat × (Nat → Int32)) (d : Nat) (r0 : Nat) (i1 : Int32) (A : xH) : xD E (d + 1) 192 0 [.ref r0, .int i1] [] A = (gI A r0 9 13).bind fun x1 => (xI (xC E d 154 [.int i1, .int (0 : Int32), .int x1] A)).bind fun q2 => if q2.1 = 0 then some (some (.int (-1 : Int32)), q2.2) else (pF q2.2 r0 9 13 (.int i1)).bind fun A3 => some (some (.int i1), A3) := (xD_bex E d h_192 [] 90 0 _ _ _).trans rfl
-- Model.isSmall (I)Z
set_option maxRecDepth 100000 in
theorem h_193 : xprog[193]? = some M_193 := rfl
set_option maxRecDepth 100000 in
theorem e193_0 (E : Nat × (Nat → Int32)) (d : Nat) (i0 : Int32) (A : xH) : xD E (d + 1) 193 0 [.int i0] [] A = if i0 < (97 : Int32) then some (some (.int (0 : Int32)), A) else if (122 : Int32) < i0 then some (some (.int (0 : Int32)), A) else some (some (.int (1 : Int32)), A) := (xD_bex E d h_193 [] 90 0 _ _ _).trans rfl
-- Model.isDigit (I)Z
set_option maxRecDepth 100000 in
theorem h_194 : xprog[194]? = some M_194 := rfl
set_option maxRecDepth 100000 in
theorem e194_0 (E : Nat × (Nat → Int32)) (d : Nat) (i0 : Int32) (A : xH) : xD E (d + 1) 194 0 [.int i0] [] A = if i0 < (48 : Int32) then some (some (.int (0 : Int32)), A) else if (57 : Int32) < i0 then some (some (.int (0 : Int32)), A) else some (some (.int (1 : Int32)), A) := (xD_bex E d h_194 [] 90 0 _ _ _).trans rfl
-- Model.wordOf (II)I
set_option maxRecDepth 100000 in
theorem h_195 : xprog[195]? = some M_195 := rfl
set_option maxRecDepth 100000 in
theorem e195_0 (E : Nat × (Nat → Int32)) (d : Nat) (r0 : Nat) (i1 : Int32) (i2 : Int32) (A : xH) : xD E (d + 1) 195 0 [.ref r0, .int i1, .int i2, xJ, xJ, xJ, xJ, xJ] [] A = xD E (d + 1) 195 5 [.ref r0, .int i1, .int i2, .int (1 : Int32), .int (0 : Int32), xJ, xJ, xJ] [] A := (xD_bex E d h_195 [5, 18, 57, 104] 90 0 _ _ _).trans rfl
set_option maxRecDepth 100000 in
theorem e195_5 (E : Nat × (Nat → Int32)) (d : Nat) (r0 : Nat) (i1 : Int32) (i2 : Int32) (i3 : Int32) (i4 : Int32) (w5 : Value) (w6 : Value) (w7 : Value) (A : xH) : xD E (d + 1) 195 5 [.ref r0, .int i1, .int i2, .int i3, .int i4, w5, w6, w7] [] A = (gN A r0 9 7).bind fun n1 => (lA A n1).bind fun x2 => if x2 ≤ i4 then some (some (.int (0 : Int32)), A) else xD E (d + 1) 195 18 [.ref r0, .int i1, .int i2, .int i3, .int i4, .int (0 : Int32), xJ, xJ] [] A := (xD_bex E d h_195 [5, 18, 57, 104] 90 5 _ _ _).trans rfl
set_option maxRecDepth 100000 in
theorem e195_18 (E : Nat × (Nat → Int32)) (d : Nat) (r0 : Nat) (i1 : Int32) (i2 : Int32) (i3 : Int32) (i4 : Int32) (i5 : Int32) (w6 : Value) (w7 : Value) (A : xH) : xD E (d + 1) 195 18 [.ref r0, .int i1, .int i2, .int i3, .int i4, .int i5, w6, w7] [] A = (gN A r0 9 7).bind fun n1 => (aI 1 A n1 (i4 + i5)).bind fun x2 => if x2 = (32 : Int32) then if i5 = (i2 - i1) then xD E (d + 1) 195 57 [.ref r0, .int i1, .int i2, .int i3, .int i4, .int i5, .int (1 : Int32), .int (0 : Int32)] [] A else xD E (d + 1) 195 57 [.ref r0, .int i1, .int i2, .int i3, .int i4, .int i5, .int (0 : Int32), .int (0 : Int32)] [] A else xD E (d + 1) 195 18 [.ref r0, .int i1, .int i2, .int i3, .int i4, .int (i5 + (1 : Int32)), xJ, xJ] [] A := (xD_bex E d h_195 [5, 18, 57, 104] 90 18 _ _ _).trans rfl
set_option maxRecDepth 100000 in
theorem e195_57 (E : Nat × (Nat → Int32)) (d : Nat) (r0 : Nat) (i1 : Int32) (i2 : Int32) (i3 : Int32) (i4 : Int32) (i5 : Int32) (i6 : Int32) (i7 : Int32) (A : xH) : xD E (d + 1) 195 57 [.ref r0, .int i1, .int i2, .int i3, .int i4, .int i5, .int i6, .int i7] [] A = if i5 ≤ i7 then xD E (d + 1) 195 104 [.ref r0, .int i1, .int i2, .int i3, .int i4, .int i5, .int i6, .int i7] [] A else if i6 = 0 then xD E (d + 1) 195 104 [.ref r0, .int i1, .int i2, .int i3, .int i4, .int i5, .int i6, .int i7] [] A else (gN A r0 9 7).bind fun n1 => (aI 1 A n1 (i4 + i7)).bind fun x2 => (gN A r0 9 11).bind fun n3 => (aI 1 A n3 (i1 + i7)).bind fun x4 => if x2 = x4 then xD E (d + 1) 195 57 [.ref r0, .int i1, .int i2, .int i3, .int i4, .int i5, .int (1 : Int32), .int (i7 + (1 : Int32))] [] A else xD E (d + 1) 195 57 [.ref r0, .int i1, .int i2, .int i3, .int i4, .int i5, .int (0 : Int32), .int (i7 + (1 : Int32))] [] A := (xD_bex E d h_195 [5, 18, 57, 104] 90 57 _ _ _).trans rfl
set_option maxRecDepth 100000 in
theorem e195_104 (E : Nat × (Nat → Int32)) (d : Nat) (r0 : Nat) (i1 : Int32) (i2 : Int32) (i3 : Int32) (i4 : Int32) (i5 : Int32) (i6 : Int32) (w7 : Value) (A : xH) : xD E (d + 1) 195 104 [.ref r0, .int i1, .int i2, .int i3, .int i4, .int i5, .int i6, w7] [] A = if i6 = 0 then xD E (d + 1) 195 5 [.ref r0, .int i1, .int i2, .int (i3 + (1 : Int32)), .int (i4 + (i5 + (1 : Int32))), .int i5, .int i6, xJ] [] A else some (some (.int i3), A) := (xD_bex E d h_195 [5, 18, 57, 104] 90 104 _ _ _).trans rfl
-- Model.cutsUp (I)V
set_option maxRecDepth 100000 in
theorem h_196 : xprog[196]? = some M_196 := rfl
set_option maxRecDepth 100000 in
theorem e196_0 (E : Nat × (Nat → Int32)) (d : Nat) (r0 : Nat) (i1 : Int32) (A : xH) : xD E (d + 1) 196 0 [.ref r0, .int i1, xJ, xJ, xJ, xJ] [] A = (pF A r0 9 18 (.int (0 : Int32))).bind fun A1 => xD E (d + 1) 196 7 [.ref r0, .int i1, .int (0 : Int32), xJ, xJ, xJ] [] A1 := (xD_bex E d h_196 [7, 43, 75, 100, 169] 90 0 _ _ _).trans rfl
set_option maxRecDepth 100000 in
theorem e196_7 (E : Nat × (Nat → Int32)) (d : Nat) (r0 : Nat) (i1 : Int32) (i2 : Int32) (w3 : Value) (w4 : Value) (w5 : Value) (A : xH) : xD E (d + 1) 196 7 [.ref r0, .int i1, .int i2, w3, w4, w5] [] A = if i1 ≤ i2 then (gN A r0 9 17).bind fun n1 => (gI A r0 9 18).bind fun x2 => (sI 0 A n1 x2 i1).bind fun A3 => (gN A3 r0 9 15).bind fun n4 => (gI A3 r0 9 18).bind fun x5 => (sI 0 A3 n4 x5 (0 : Int32)).bind fun A6 => (gN A6 r0 9 16).bind fun n7 => (gI A6 r0 9 18).bind fun x8 => (sI 0 A6 n7 x8 (0 : Int32)).bind fun A9 => some (none, A9) else (gN A r0 9 11).bind fun n10 => (aI 1 A n10 i2).bind fun x11 => if x11 = (32 : Int32) then xD E (d + 1) 196 7 [.ref r0, .int i1, .int (i2 + (1 : Int32)), .int x11, xJ, xJ] [] A else (xI (xC E d 193 [.int x11] A)).bind fun q12 => if q12.1 = 0 then (xI (xC E d 194 [.int x11] q12.2)).bind fun q13 => if q13.1 = 0 then xD E (d + 1) 196 100 [.ref r0, .int i1, .int i2, .int x11, .int (i2 + (1 : Int32)), xJ] [] q13.2 else xD E (d + 1) 196 75 [.ref r0, .int i1, .int i2, .int x11, .int (i2 + (1 : Int32)), xJ] [] q13.2 else xD E (d + 1) 196 43 [.ref r0, .int i1, .int i2, .int x11, .int (i2 + (1 : Int32)), xJ] [] q12.2 := (xD_bex E d h_196 [7, 43, 75, 100, 169] 90 7 _ _ _).trans rfl
set_option maxRecDepth 100000 in
theorem e196_43 (E : Nat × (Nat → Int32)) (d : Nat) (r0 : Nat) (i1 : Int32) (i2 : Int32) (i3 : Int32) (i4 : Int32) (w5 : Value) (A : xH) : xD E (d + 1) 196 43 [.ref r0, .int i1, .int i2, .int i3, .int i4, w5] [] A = if i1 ≤ i4 then (xI (xC E d 194 [.int i3] A)).bind fun q1 => if q1.1 = 0 then xD E (d + 1) 196 100 [.ref r0, .int i1, .int i2, .int i3, .int i4, xJ] [] q1.2 else xD E (d + 1) 196 75 [.ref r0, .int i1, .int i2, .int i3, .int i4, xJ] [] q1.2 else (gN A r0 9 11).bind fun n2 => (aI 1 A n2 i4).bind fun x3 => (xI (xC E d 193 [.int x3] A)).bind fun q4 => if q4.1 = 0 then (xI (xC E d 194 [.int i3] q4.2)).bind fun q5 => if q5.1 = 0 then xD E (d + 1) 196 100 [.ref r0, .int i1, .int i2, .int i3, .int i4, xJ] [] q5.2 else xD E (d + 1) 196 75 [.ref r0, .int i1, .int i2, .int i3, .int i4, xJ] [] q5.2 else xD E (d + 1) 196 43 [.ref r0, .int i1, .int i2, .int i3, .int (i4 + (1 : Int32)), xJ] [] q4.2 := (xD_bex E d h_196 [7, 43, 75, 100, 169] 90 43 _ _ _).trans rfl
set_option maxRecDepth 100000 in
theorem e196_75 (E : Nat × (Nat → Int32)) (d : Nat) (r0 : Nat) (i1 : Int32) (i2 : Int32) (i3 : Int32) (i4 : Int32) (w5 : Value) (A : xH) : xD E (d + 1) 196 75 [.ref r0, .int i1, .int i2, .int i3, .int i4, w5] [] A = if i1 ≤ i4 then xD E (d + 1) 196 100 [.ref r0, .int i1, .int i2, .int i3, .int i4, xJ] [] A else (gN A r0 9 11).bind fun n1 => (aI 1 A n1 i4).bind fun x2 => (xI (xC E d 194 [.int x2] A)).bind fun q3 => if q3.1 = 0 then xD E (d + 1) 196 100 [.ref r0, .int i1, .int i2, .int i3, .int i4, xJ] [] q3.2 else xD E (d + 1) 196 75 [.ref r0, .int i1, .int i2, .int i3, .int (i4 + (1 : Int32)), xJ] [] q3.2 := (xD_bex E d h_196 [7, 43, 75, 100, 169] 90 75 _ _ _).trans rfl
set_option maxRecDepth 100000 in
theorem e196_100 (E : Nat × (Nat → Int32)) (d : Nat) (r0 : Nat) (i1 : Int32) (i2 : Int32) (i3 : Int32) (i4 : Int32) (w5 : Value) (A : xH) : xD E (d + 1) 196 100 [.ref r0, .int i1, .int i2, .int i3, .int i4, w5] [] A = (gN A r0 9 17).bind fun n1 => (gI A r0 9 18).bind fun x2 => (sI 0 A n1 x2 i2).bind fun A3 => (gN A3 r0 9 16).bind fun n4 => (gI A3 r0 9 18).bind fun x5 => (sI 0 A3 n4 x5 (0 : Int32)).bind fun A6 => (gN A6 r0 9 15).bind fun n7 => (gI A6 r0 9 18).bind fun x8 => (xI (xC E d 193 [.int i3] A6)).bind fun q9 => if q9.1 = 0 then (xI (xC E d 194 [.int i3] q9.2)).bind fun q10 => if q10.1 = 0 then (sI 0 q10.2 n7 x8 ((100 : Int32) + (i3 &&& (255 : Int32)))).bind fun A11 => xD E (d + 1) 196 169 [.ref r0, .int i1, .int i2, .int i3, .int i4, .int i2] [] A11 else (sI 0 q10.2 n7 x8 (50 : Int32)).bind fun A12 => xD E (d + 1) 196 169 [.ref r0, .int i1, .int i2, .int i3, .int i4, .int i2] [] A12 else (xI (xC E d 195 [.ref r0, .int i2, .int i4] q9.2)).bind fun q13 => (sI 0 q13.2 n7 x8 q13.1).bind fun A14 => xD E (d + 1) 196 169 [.ref r0, .int i1, .int i2, .int i3, .int i4, .int i2] [] A14 := (xD_bex E d h_196 [7, 43, 75, 100, 169] 90 100 _ _ _).trans rfl
set_option maxRecDepth 100000 in
theorem e196_169 (E : Nat × (Nat → Int32)) (d : Nat) (r0 : Nat) (i1 : Int32) (w2 : Value) (i3 : Int32) (i4 : Int32) (i5 : Int32) (A : xH) : xD E (d + 1) 196 169 [.ref r0, .int i1, w2, .int i3, .int i4, .int i5] [] A = if i4 ≤ i5 then (gI A r0 9 18).bind fun x1 => (pF A r0 9 18 (.int (x1 + (1 : Int32)))).bind fun A2 => xD E (d + 1) 196 7 [.ref r0, .int i1, .int i4, .int i3, .int i4, .int i5] [] A2 else (xI (xC E d 194 [.int i3] A)).bind fun q3 => if q3.1 = 0 then (gI q3.2 r0 9 18).bind fun x4 => (pF q3.2 r0 9 18 (.int (x4 + (1 : Int32)))).bind fun A5 => xD E (d + 1) 196 7 [.ref r0, .int i1, .int i4, .int i3, .int i4, .int i5] [] A5 else (gN q3.2 r0 9 16).bind fun n6 => (gI q3.2 r0 9 18).bind fun x7 => (gN q3.2 r0 9 16).bind fun n8 => (gI q3.2 r0 9 18).bind fun x9 => (aI 0 q3.2 n8 x9).bind fun x10 => if x10 ≤ (1000000 : Int32) then (gN q3.2 r0 9 16).bind fun n11 => (gI q3.2 r0 9 18).bind fun x12 => (aI 0 q3.2 n11 x12).bind fun x13 => (gN q3.2 r0 9 11).bind fun n14 => (aI 1 q3.2 n14 i5).bind fun x15 => (sI 0 q3.2 n6 x7 ((((10 : Int32) * x13) + x15) - (48 : Int32))).bind fun A16 => xD E (d + 1) 196 169 [.ref r0, .int i1, xJ, .int i3, .int i4, .int (i5 + (1 : Int32))] [] A16 else (gN q3.2 r0 9 16).bind fun n17 => (gI q3.2 r0 9 18).bind fun x18 => (aI 0 q3.2 n17 x18).bind fun x19 => (sI 0 q3.2 n6 x7 x19).bind fun A20 => xD E (d + 1) 196 169 [.ref r0, .int i1, xJ, .int i3, .int i4, .int (i5 + (1 : Int32))] [] A20 := (xD_bex E d h_196 [7, 43, 75, 100, 169] 90 169 _ _ _).trans rfl
-- Model.fine ()Z
set_option maxRecDepth 100000 in
theorem h_197 : xprog[197]? = some M_197 := rfl
set_option maxRecDepth 100000 in
theorem e197_0 (E : Nat × (Nat → Int32)) (d : Nat) (r0 : Nat) (A : xH) : xD E (d + 1) 197 0 [.ref r0] [] A = (gI A r0 9 21).bind fun x1 => if x1 = (-1 : Int32) then some (some (.int (1 : Int32)), A) else some (some (.int (0 : Int32)), A) := (xD_bex E d h_197 [] 90 0 _ _ _).trans rfl
-- Model.faults ()V
set_option maxRecDepth 100000 in
theorem h_198 : xprog[198]? = some M_198 := rfl
set_option maxRecDepth 100000 in
theorem e198_0 (E : Nat × (Nat → Int32)) (d : Nat) (r0 : Nat) (A : xH) : xD E (d + 1) 198 0 [.ref r0] [] A = (xI (xC E d 197 [.ref r0] A)).bind fun q1 => if q1.1 = 0 then some (none, q1.2) else (gN q1.2 r0 9 17).bind fun n2 => (gI q1.2 r0 9 19).bind fun x3 => (aI 0 q1.2 n2 x3).bind fun x4 => (pF q1.2 r0 9 21 (.int x4)).bind fun A5 => some (none, A5) := (xD_bex E d h_198 [] 90 0 _ _ _).trans rfl
-- Model.takes0 (I)Z
set_option maxRecDepth 100000 in
theorem h_199 : xprog[199]? = some M_199 := rfl
set_option maxRecDepth 100000 in
theorem e199_0 (E : Nat × (Nat → Int32)) (d : Nat) (r0 : Nat) (i1 : Int32) (A : xH) : xD E (d + 1) 199 0 [.ref r0, .int i1, xJ] [] A = (xI (xC E d 197 [.ref r0] A)).bind fun q1 => if q1.1 = 0 then xD E (d + 1) 199 25 [.ref r0, .int i1, xJ] [.int (0 : Int32)] q1.2 else (gN q1.2 r0 9 15).bind fun n2 => (gI q1.2 r0 9 19).bind fun x3 => (aI 0 q1.2 n2 x3).bind fun x4 => if x4 = i1 then xD E (d + 1) 199 25 [.ref r0, .int i1, xJ] [.int (1 : Int32)] q1.2 else xD E (d + 1) 199 25 [.ref r0, .int i1, xJ] [.int (0 : Int32)] q1.2 := (xD_bex E d h_199 [25] 90 0 _ _ _).trans rfl
set_option maxRecDepth 100000 in
theorem e199_25 (E : Nat × (Nat → Int32)) (d : Nat) (r0 : Nat) (w1 : Value) (w2 : Value) (s0 : Int32) (A : xH) : xD E (d + 1) 199 25 [.ref r0, w1, w2] [.int s0] A = if s0 = 0 then if x01 s0 = true then some (some (.int s0), A) else none else (gI A r0 9 19).bind fun x1 => (pF A r0 9 19 (.int (x1 + (1 : Int32)))).bind fun A2 => if x01 s0 = true then some (some (.int s0), A2) else none := (xD_bex E d h_199 [25] 90 25 _ _ _).trans rfl
-- Model.must (I)V
set_option maxRecDepth 100000 in
theorem h_200 : xprog[200]? = some M_200 := rfl
set_option maxRecDepth 100000 in
theorem e200_0 (E : Nat × (Nat → Int32)) (d : Nat) (r0 : Nat) (i1 : Int32) (A : xH) : xD E (d + 1) 200 0 [.ref r0, .int i1] [] A = (xI (xC E d 199 [.ref r0, .int i1] A)).bind fun q1 => if q1.1 = 0 then (xV (xC E d 198 [.ref r0] q1.2)).bind fun A2 => some (none, A2) else some (none, q1.2) := (xD_bex E d h_200 [] 90 0 _ _ _).trans rfl
-- Model.leaf ()V
set_option maxRecDepth 100000 in
theorem h_201 : xprog[201]? = some M_201 := rfl
set_option maxRecDepth 100000 in
theorem e201_0 (E : Nat × (Nat → Int32)) (d : Nat) (r0 : Nat) (A : xH) : xD E (d + 1) 201 0 [.ref r0] [] A = (gI A r0 9 20).bind fun x1 => if x1 = (50 : Int32) then (xV (xC E d 198 [.ref r0] A)).bind fun A2 => xD E (d + 1) 201 13 [.ref r0] [] A2 else xD E (d + 1) 201 13 [.ref r0] [] A := (xD_bex E d h_201 [13] 90 0 _ _ _).trans rfl
set_option maxRecDepth 100000 in
theorem e201_13 (E : Nat × (Nat → Int32)) (d : Nat) (r0 : Nat) (A : xH) : xD E (d + 1) 201 13 [.ref r0] [] A = (gI A r0 9 20).bind fun x1 => (pF A r0 9 20 (.int (x1 + (1 : Int32)))).bind fun A2 => (xI (xC E d 197 [.ref r0] A2)).bind fun q3 => if q3.1 = 0 then some (none, q3.2) else (gI q3.2 r0 9 19).bind fun x4 => (pF q3.2 r0 9 19 (.int (x4 + (1 : Int32)))).bind fun A5 => some (none, A5) := (xD_bex E d h_201 [13] 90 13 _ _ _).trans rfl
-- Model.sign (C)I
set_option maxRecDepth 100000 in
theorem h_202 : xprog[202]? = some M_202 := rfl
set_option maxRecDepth 100000 in
theorem e202_0 (E : Nat × (Nat → Int32)) (d : Nat) (i0 : Int32) (A : xH) : xD E (d + 1) 202 0 [.int i0] [] A = some (some (.int ((100 : Int32) + i0)), A) := (xD_bex E d h_202 [] 90 0 _ _ _).trans rfl
-- Model.mustNumber (II)V
set_option maxRecDepth 100000 in
theorem h_203 : xprog[203]? = some M_203 := rfl
set_option maxRecDepth 100000 in
theorem e203_0 (E : Nat × (Nat → Int32)) (d : Nat) (r0 : Nat) (i1 : Int32) (i2 : Int32) (A : xH) : xD E (d + 1) 203 0 [.ref r0, .int i1, .int i2] [] A = (xI (xC E d 197 [.ref r0] A)).bind fun q1 => if q1.1 = 0 then xD E (d + 1) 203 42 [.ref r0, .int i1, .int i2] [] q1.2 else (gN q1.2 r0 9 15).bind fun n2 => (gI q1.2 r0 9 19).bind fun x3 => (aI 0 q1.2 n2 x3).bind fun x4 => if x4 = (50 : Int32) then (gN q1.2 r0 9 16).bind fun n5 => (gI q1.2 r0 9 19).bind fun x6 => (aI 0 q1.2 n5 x6).bind fun x7 => (xI (xC E d 154 [.int x7, .int i1, .int i2] q1.2)).bind fun q8 => if q8.1 = 0 then (xV (xC E d 198 [.ref r0] q8.2)).bind fun A9 => xD E (d + 1) 203 42 [.ref r0, .int i1, .int i2] [] A9 else xD E (d + 1) 203 42 [.ref r0, .int i1, .int i2] [] q8.2 else (xV (xC E d 198 [.ref r0] q1.2)).bind fun A10 => xD E (d + 1) 203 42 [.ref r0, .int i1, .int i2] [] A10 := (xD_bex E d h_203 [42] 90 0 _ _ _).trans rfl
set_option maxRecDepth 100000 in
theorem e203_42 (E : Nat × (Nat → Int32)) (d : Nat) (r0 : Nat) (w1 : Value) (w2 : Value) (A : xH) : xD E (d + 1) 203 42 [.ref r0, w1, w2] [] A = (xI (xC E d 197 [.ref r0] A)).bind fun q1 => if q1.1 = 0 then some (none, q1.2) else (gI q1.2 r0 9 19).bind fun x2 => (pF q1.2 r0 9 19 (.int (x2 + (1 : Int32)))).bind fun A3 => some (none, A3) := (xD_bex E d h_203 [42] 90 42 _ _ _).trans rfl
-- Model.readClause ()V
set_option maxRecDepth 100000 in
theorem h_204 : xprog[204]? = some M_204 := rfl
set_option maxRecDepth 100000 in
theorem e204_0 (E : Nat × (Nat → Int32)) (d : Nat) (r0 : Nat) (A : xH) : xD E (d + 1) 204 0 [.ref r0] [] A = (xI (xC E d 199 [.ref r0, .int (1 : Int32)] A)).bind fun q1 => if q1.1 = 0 then (xV (xC E d 200 [.ref r0, .int (2 : Int32)] q1.2)).bind fun A2 => (xI (xC E d 199 [.ref r0, .int (3 : Int32)] A2)).bind fun q3 => if q3.1 = 0 then some (none, q3.2) else (xV (xC E d 207 [.ref r0, .int (0 : Int32)] q3.2)).bind fun A4 => some (none, A4) else (xV (xC E d 210 [.ref r0, .int (0 : Int32)] q1.2)).bind fun A5 => (xI (xC E d 199 [.ref r0, .int (3 : Int32)] A5)).bind fun q6 => if q6.1 = 0 then some (none, q6.2) else (xV (xC E d 207 [.ref r0, .int (0 : Int32)] q6.2)).bind fun A7 => some (none, A7) := (xD_bex E d h_204 [] 90 0 _ _ _).trans rfl
-- Model.readOrder ()V
set_option maxRecDepth 100000 in
theorem h_205 : xprog[205]? = some M_205 := rfl
set_option maxRecDepth 100000 in
theorem e205_0 (E : Nat × (Nat → Int32)) (d : Nat) (r0 : Nat) (A : xH) : xD E (d + 1) 205 0 [.ref r0] [] A = (xI (xC E d 199 [.ref r0, .int (20 : Int32)] A)).bind fun q1 => if q1.1 = 0 then (xI (xC E d 199 [.ref r0, .int (22 : Int32)] q1.2)).bind fun q2 => if q2.1 = 0 then (xI (xC E d 199 [.ref r0, .int (23 : Int32)] q2.2)).bind fun q3 => if q3.1 = 0 then (xV (xC E d 200 [.ref r0, .int (24 : Int32)] q3.2)).bind fun A4 => xD E (d + 1) 205 47 [.ref r0] [] A4 else xD E (d + 1) 205 47 [.ref r0] [] q3.2 else xD E (d + 1) 205 47 [.ref r0] [] q2.2 else (xV (xC E d 210 [.ref r0, .int (0 : Int32)] q1.2)).bind fun A5 => (xV (xC E d 200 [.ref r0, .int (21 : Int32)] A5)).bind fun A6 => xD E (d + 1) 205 47 [.ref r0] [] A6 := (xD_bex E d h_205 [47] 90 0 _ _ _).trans rfl
set_option maxRecDepth 100000 in
theorem e205_47 (E : Nat × (Nat → Int32)) (d : Nat) (r0 : Nat) (A : xH) : xD E (d + 1) 205 47 [.ref r0] [] A = (xV (xC E d 210 [.ref r0, .int (0 : Int32)] A)).bind fun A1 => (xI (xC E d 199 [.ref r0, .int (25 : Int32)] A1)).bind fun q2 => if q2.1 = 0 then (xI (xC E d 199 [.ref r0, .int (3 : Int32)] q2.2)).bind fun q3 => if q3.1 = 0 then some (none, q3.2) else (xV (xC E d 207 [.ref r0, .int (0 : Int32)] q3.2)).bind fun A4 => some (none, A4) else (xV (xC E d 203 [.ref r0, .int (1 : Int32), .int (20 : Int32)] q2.2)).bind fun A5 => (xI (xC E d 199 [.ref r0, .int (3 : Int32)] A5)).bind fun q6 => if q6.1 = 0 then some (none, q6.2) else (xV (xC E d 207 [.ref r0, .int (0 : Int32)] q6.2)).bind fun A7 => some (none, A7) := (xD_bex E d h_205 [47] 90 47 _ _ _).trans rfl
-- Model.readOne ()V
set_option maxRecDepth 100000 in
theorem h_206 : xprog[206]? = some M_206 := rfl
set_option maxRecDepth 100000 in
theorem e206_0 (E : Nat × (Nat → Int32)) (d : Nat) (r0 : Nat) (A : xH) : xD E (d + 1) 206 0 [.ref r0] [] A = (gI A r0 9 10).bind fun x1 => if x1 = 0 then (xV (xC E d 204 [.ref r0] A)).bind fun A2 => some (none, A2) else (xV (xC E d 205 [.ref r0] A)).bind fun A3 => some (none, A3) := (xD_bex E d h_206 [] 90 0 _ _ _).trans rfl
-- Model.readTest (I)V
set_option maxRecDepth 100000 in
theorem h_207 : xprog[207]? = some M_207 := rfl
set_option maxRecDepth 100000 in
theorem e207_0 (E : Nat × (Nat → Int32)) (d : Nat) (r0 : Nat) (i1 : Int32) (A : xH) : xD E (d + 1) 207 0 [.ref r0, .int i1] [] A = (xV (xC E d 208 [.ref r0, .int i1] A)).bind fun A1 => xD E (d + 1) 207 5 [.ref r0, .int i1] [] A1 := (xD_bex E d h_207 [5] 90 0 _ _ _).trans rfl
set_option maxRecDepth 100000 in
theorem e207_5 (E : Nat × (Nat → Int32)) (d : Nat) (r0 : Nat) (i1 : Int32) (A : xH) : xD E (d + 1) 207 5 [.ref r0, .int i1] [] A = (xI (xC E d 199 [.ref r0, .int (4 : Int32)] A)).bind fun q1 => if q1.1 = 0 then some (none, q1.2) else (xV (xC E d 208 [.ref r0, .int i1] q1.2)).bind fun A2 => xD E (d + 1) 207 5 [.ref r0, .int i1] [] A2 := (xD_bex E d h_207 [5] 90 5 _ _ _).trans rfl
-- Model.readBoth (I)V
set_option maxRecDepth 100000 in
theorem h_208 : xprog[208]? = some M_208 := rfl
set_option maxRecDepth 100000 in
theorem e208_0 (E : Nat × (Nat → Int32)) (d : Nat) (r0 : Nat) (i1 : Int32) (A : xH) : xD E (d + 1) 208 0 [.ref r0, .int i1] [] A = (xV (xC E d 209 [.ref r0, .int i1] A)).bind fun A1 => xD E (d + 1) 208 5 [.ref r0, .int i1] [] A1 := (xD_bex E d h_208 [5] 90 0 _ _ _).trans rfl
set_option maxRecDepth 100000 in
theorem e208_5 (E : Nat × (Nat → Int32)) (d : Nat) (r0 : Nat) (i1 : Int32) (A : xH) : xD E (d + 1) 208 5 [.ref r0, .int i1] [] A = (xI (xC E d 199 [.ref r0, .int (5 : Int32)] A)).bind fun q1 => if q1.1 = 0 then some (none, q1.2) else (xV (xC E d 209 [.ref r0, .int i1] q1.2)).bind fun A2 => xD E (d + 1) 208 5 [.ref r0, .int i1] [] A2 := (xD_bex E d h_208 [5] 90 5 _ _ _).trans rfl
-- Model.readPlain (I)V
set_option maxRecDepth 100000 in
theorem h_209 : xprog[209]? = some M_209 := rfl
set_option maxRecDepth 100000 in
theorem e209_0 (E : Nat × (Nat → Int32)) (d : Nat) (r0 : Nat) (i1 : Int32) (A : xH) : xD E (d + 1) 209 0 [.ref r0, .int i1, xJ, xJ] [] A = xD E (d + 1) 209 2 [.ref r0, .int i1, .int (1 : Int32), xJ] [] A := (xD_bex E d h_209 [2, 53] 90 0 _ _ _).trans rfl
set_option maxRecDepth 100000 in
theorem e209_2 (E : Nat × (Nat → Int32)) (d : Nat) (r0 : Nat) (i1 : Int32) (i2 : Int32) (w3 : Value) (A : xH) : xD E (d + 1) 209 2 [.ref r0, .int i1, .int i2, w3] [] A = if i2 = 0 then (xI (xC E d 197 [.ref r0] A)).bind fun q1 => if q1.1 = 0 then some (none, q1.2) else (gN q1.2 r0 9 15).bind fun n2 => (gI q1.2 r0 9 19).bind fun x3 => (aI 0 q1.2 n2 x3).bind fun x4 => (xI (xC E d 202 [.int (40 : Int32)] q1.2)).bind fun q5 => if x4 = q5.1 then if i1 = (8 : Int32) then (xV (xC E d 198 [.ref r0] q5.2)).bind fun A6 => xD E (d + 1) 209 53 [.ref r0, .int i1, .int i2, .int x4] [] A6 else xD E (d + 1) 209 53 [.ref r0, .int i1, .int i2, .int x4] [] q5.2 else (xV (xC E d 210 [.ref r0, .int i1] q5.2)).bind fun A7 => (xI (xC E d 202 [.int (60 : Int32)] A7)).bind fun q8 => (xI (xC E d 199 [.ref r0, .int q8.1] q8.2)).bind fun q9 => if q9.1 = 0 then (xI (xC E d 202 [.int (62 : Int32)] q9.2)).bind fun q10 => (xI (xC E d 199 [.ref r0, .int q10.1] q10.2)).bind fun q11 => if q11.1 = 0 then (xI (xC E d 202 [.int (61 : Int32)] q11.2)).bind fun q12 => (xV (xC E d 200 [.ref r0, .int q12.1] q12.2)).bind fun A13 => (xV (xC E d 210 [.ref r0, .int i1] A13)).bind fun A14 => some (none, A14) else (xV (xC E d 210 [.ref r0, .int i1] q11.2)).bind fun A15 => some (none, A15) else (xV (xC E d 210 [.ref r0, .int i1] q9.2)).bind fun A16 => some (none, A16) else (xI (xC E d 199 [.ref r0, .int (6 : Int32)] A)).bind fun q17 => xD E (d + 1) 209 2 [.ref r0, .int i1, .int q17.1, xJ] [] q17.2 := (xD_bex E d h_209 [2, 53] 90 2 _ _ _).trans rfl
set_option maxRecDepth 100000 in
theorem e209_53 (E : Nat × (Nat → Int32)) (d : Nat) (r0 : Nat) (i1 : Int32) (w2 : Value) (w3 : Value) (A : xH) : xD E (d + 1) 209 53 [.ref r0, .int i1, w2, w3] [] A = (xI (xC E d 197 [.ref r0] A)).bind fun q1 => if q1.1 = 0 then some (none, q1.2) else (gI q1.2 r0 9 19).bind fun x2 => (pF q1.2 r0 9 19 (.int (x2 + (1 : Int32)))).bind fun A3 => (xV (xC E d 207 [.ref r0, .int (i1 + (1 : Int32))] A3)).bind fun A4 => (xI (xC E d 202 [.int (41 : Int32)] A4)).bind fun q5 => (xV (xC E d 200 [.ref r0, .int q5.1] q5.2)).bind fun A6 => some (none, A6) := (xD_bex E d h_209 [2, 53] 90 53 _ _ _).trans rfl
-- Model.readSum (I)V
set_option maxRecDepth 100000 in
theorem h_210 : xprog[210]? = some M_210 := rfl
set_option maxRecDepth 100000 in
theorem e210_0 (E : Nat × (Nat → Int32)) (d : Nat) (r0 : Nat) (i1 : Int32) (A : xH) : xD E (d + 1) 210 0 [.ref r0, .int i1] [] A = (xV (xC E d 211 [.ref r0, .int i1] A)).bind fun A1 => xD E (d + 1) 210 5 [.ref r0, .int i1] [] A1 := (xD_bex E d h_210 [5] 90 0 _ _ _).trans rfl
set_option maxRecDepth 100000 in
theorem e210_5 (E : Nat × (Nat → Int32)) (d : Nat) (r0 : Nat) (i1 : Int32) (A : xH) : xD E (d + 1) 210 5 [.ref r0, .int i1] [] A = (xI (xC E d 202 [.int (43 : Int32)] A)).bind fun q1 => (xI (xC E d 199 [.ref r0, .int q1.1] q1.2)).bind fun q2 => if q2.1 = 0 then (xI (xC E d 202 [.int (45 : Int32)] q2.2)).bind fun q3 => (xI (xC E d 199 [.ref r0, .int q3.1] q3.2)).bind fun q4 => if q4.1 = 0 then some (none, q4.2) else (xV (xC E d 211 [.ref r0, .int i1] q4.2)).bind fun A5 => xD E (d + 1) 210 5 [.ref r0, .int i1] [] A5 else (xV (xC E d 211 [.ref r0, .int i1] q2.2)).bind fun A6 => xD E (d + 1) 210 5 [.ref r0, .int i1] [] A6 := (xD_bex E d h_210 [5] 90 5 _ _ _).trans rfl
-- Model.readTerm (I)V
set_option maxRecDepth 100000 in
theorem h_211 : xprog[211]? = some M_211 := rfl
set_option maxRecDepth 100000 in
theorem e211_0 (E : Nat × (Nat → Int32)) (d : Nat) (r0 : Nat) (i1 : Int32) (A : xH) : xD E (d + 1) 211 0 [.ref r0, .int i1] [] A = (xV (xC E d 212 [.ref r0, .int i1] A)).bind fun A1 => xD E (d + 1) 211 5 [.ref r0, .int i1] [] A1 := (xD_bex E d h_211 [5] 90 0 _ _ _).trans rfl
set_option maxRecDepth 100000 in
theorem e211_5 (E : Nat × (Nat → Int32)) (d : Nat) (r0 : Nat) (i1 : Int32) (A : xH) : xD E (d + 1) 211 5 [.ref r0, .int i1] [] A = (xI (xC E d 202 [.int (42 : Int32)] A)).bind fun q1 => (xI (xC E d 199 [.ref r0, .int q1.1] q1.2)).bind fun q2 => if q2.1 = 0 then (xI (xC E d 202 [.int (47 : Int32)] q2.2)).bind fun q3 => (xI (xC E d 199 [.ref r0, .int q3.1] q3.2)).bind fun q4 => if q4.1 = 0 then (xI (xC E d 202 [.int (37 : Int32)] q4.2)).bind fun q5 => (xI (xC E d 199 [.ref r0, .int q5.1] q5.2)).bind fun q6 => if q6.1 = 0 then some (none, q6.2) else (xV (xC E d 212 [.ref r0, .int i1] q6.2)).bind fun A7 => xD E (d + 1) 211 5 [.ref r0, .int i1] [] A7 else (xV (xC E d 212 [.ref r0, .int i1] q4.2)).bind fun A8 => xD E (d + 1) 211 5 [.ref r0, .int i1] [] A8 else (xV (xC E d 212 [.ref r0, .int i1] q2.2)).bind fun A9 => xD E (d + 1) 211 5 [.ref r0, .int i1] [] A9 := (xD_bex E d h_211 [5] 90 5 _ _ _).trans rfl
-- Model.readPart (I)V
set_option maxRecDepth 100000 in
theorem h_212 : xprog[212]? = some M_212 := rfl
set_option maxRecDepth 100000 in
theorem e212_0 (E : Nat × (Nat → Int32)) (d : Nat) (r0 : Nat) (i1 : Int32) (A : xH) : xD E (d + 1) 212 0 [.ref r0, .int i1, xJ] [] A = (xI (xC E d 197 [.ref r0] A)).bind fun q1 => if q1.1 = 0 then some (none, q1.2) else (gN q1.2 r0 9 15).bind fun n2 => (gI q1.2 r0 9 19).bind fun x3 => (aI 0 q1.2 n2 x3).bind fun x4 => (xI (xC E d 202 [.int (91 : Int32)] q1.2)).bind fun q5 => if x4 = q5.1 then if i1 = (8 : Int32) then (xV (xC E d 198 [.ref r0] q5.2)).bind fun A6 => xD E (d + 1) 212 37 [.ref r0, .int i1, .int x4] [] A6 else xD E (d + 1) 212 37 [.ref r0, .int i1, .int x4] [] q5.2 else if x4 = (50 : Int32) then (gN q5.2 r0 9 16).bind fun n7 => (gI q5.2 r0 9 19).bind fun x8 => (aI 0 q5.2 n7 x8).bind fun x9 => if x9 ≤ (1000 : Int32) then xD E (d + 1) 212 111 [.ref r0, .int i1, .int x4] [] q5.2 else xD E (d + 1) 212 95 [.ref r0, .int i1, .int x4] [] q5.2 else xD E (d + 1) 212 95 [.ref r0, .int i1, .int x4] [] q5.2 := (xD_bex E d h_212 [37, 95, 111, 135] 90 0 _ _ _).trans rfl
set_option maxRecDepth 100000 in
theorem e212_37 (E : Nat × (Nat → Int32)) (d : Nat) (r0 : Nat) (i1 : Int32) (w2 : Value) (A : xH) : xD E (d + 1) 212 37 [.ref r0, .int i1, w2] [] A = (xI (xC E d 197 [.ref r0] A)).bind fun q1 => if q1.1 = 0 then some (none, q1.2) else (gI q1.2 r0 9 19).bind fun x2 => (pF q1.2 r0 9 19 (.int (x2 + (1 : Int32)))).bind fun A3 => (xV (xC E d 210 [.ref r0, .int (i1 + (1 : Int32))] A3)).bind fun A4 => (xI (xC E d 202 [.int (93 : Int32)] A4)).bind fun q5 => (xV (xC E d 200 [.ref r0, .int q5.1] q5.2)).bind fun A6 => some (none, A6) := (xD_bex E d h_212 [37, 95, 111, 135] 90 37 _ _ _).trans rfl
set_option maxRecDepth 100000 in
theorem e212_95 (E : Nat × (Nat → Int32)) (d : Nat) (r0 : Nat) (w1 : Value) (i2 : Int32) (A : xH) : xD E (d + 1) 212 95 [.ref r0, w1, .int i2] [] A = (gI A r0 9 8).bind fun x1 => if i2 < x1 then (xV (xC E d 198 [.ref r0] A)).bind fun A2 => some (none, A2) else (gI A r0 9 9).bind fun x3 => if x3 < i2 then (xV (xC E d 198 [.ref r0] A)).bind fun A4 => some (none, A4) else xD E (d + 1) 212 111 [.ref r0, xJ, .int i2] [] A := (xD_bex E d h_212 [37, 95, 111, 135] 90 95 _ _ _).trans rfl
set_option maxRecDepth 100000 in
theorem e212_111 (E : Nat × (Nat → Int32)) (d : Nat) (r0 : Nat) (w1 : Value) (i2 : Int32) (A : xH) : xD E (d + 1) 212 111 [.ref r0, w1, .int i2] [] A = (xV (xC E d 201 [.ref r0] A)).bind fun A1 => (gI A1 r0 9 10).bind fun x2 => if x2 = 0 then xD E (d + 1) 212 135 [.ref r0, xJ, .int i2] [] A1 else if i2 = (12 : Int32) then (xV (xC E d 203 [.ref r0, .int (0 : Int32), .int (23 : Int32)] A1)).bind fun A3 => xD E (d + 1) 212 135 [.ref r0, xJ, .int i2] [] A3 else xD E (d + 1) 212 135 [.ref r0, xJ, .int i2] [] A1 := (xD_bex E d h_212 [37, 95, 111, 135] 90 111 _ _ _).trans rfl
set_option maxRecDepth 100000 in
theorem e212_135 (E : Nat × (Nat → Int32)) (d : Nat) (r0 : Nat) (w1 : Value) (i2 : Int32) (A : xH) : xD E (d + 1) 212 135 [.ref r0, w1, .int i2] [] A = (gI A r0 9 10).bind fun x1 => if x1 = 0 then some (none, A) else if i2 = (19 : Int32) then (xV (xC E d 203 [.ref r0, .int (0 : Int32), .int (999 : Int32)] A)).bind fun A2 => some (none, A2) else some (none, A) := (xD_bex E d h_212 [37, 95, 111, 135] 90 135 _ _ _).trans rfl
-- Model.reads ()Z
set_option maxRecDepth 100000 in
theorem h_213 : xprog[213]? = some M_213 := rfl
set_option maxRecDepth 100000 in
theorem e213_0 (E : Nat × (Nat → Int32)) (d : Nat) (r0 : Nat) (A : xH) : xD E (d + 1) 213 0 [.ref r0, xJ] [] A = (gI A r0 9 13).bind fun x1 => (xV (xC E d 196 [.ref r0, .int x1] A)).bind fun A2 => (pF A2 r0 9 13 (.int (0 : Int32))).bind fun A3 => (pF A3 r0 9 19 (.int (0 : Int32))).bind fun A4 => (pF A4 r0 9 20 (.int (0 : Int32))).bind fun A5 => (pF A5 r0 9 21 (.int (-1 : Int32))).bind fun A6 => (xV (xC E d 206 [.ref r0] A6)).bind fun A7 => xD E (d + 1) 213 34 [.ref r0, .int (1 : Int32)] [] A7 := (xD_bex E d h_213 [34] 90 0 _ _ _).trans rfl
set_option maxRecDepth 100000 in
theorem e213_34 (E : Nat × (Nat → Int32)) (d : Nat) (r0 : Nat) (i1 : Int32) (A : xH) : xD E (d + 1) 213 34 [.ref r0, .int i1] [] A = (xI (xC E d 202 [.int (59 : Int32)] A)).bind fun q1 => (xI (xC E d 199 [.ref r0, .int q1.1] q1.2)).bind fun q2 => if q2.1 = 0 then (xI (xC E d 197 [.ref r0] q2.2)).bind fun q3 => if q3.1 = 0 then (gI q3.2 r0 9 21).bind fun x4 => (pF q3.2 r0 9 14 (.int x4)).bind fun A5 => (xI (xC E d 197 [.ref r0] A5)).bind fun q6 => if x01 q6.1 = true then some (some (.int q6.1), q6.2) else none else (gI q3.2 r0 9 19).bind fun x7 => (gI q3.2 r0 9 18).bind fun x8 => if x8 ≤ x7 then (gI q3.2 r0 9 21).bind fun x9 => (pF q3.2 r0 9 14 (.int x9)).bind fun A10 => (xI (xC E d 197 [.ref r0] A10)).bind fun q11 => if x01 q11.1 = true then some (some (.int q11.1), q11.2) else none else (xV (xC E d 198 [.ref r0] q3.2)).bind fun A12 => (gI A12 r0 9 21).bind fun x13 => (pF A12 r0 9 14 (.int x13)).bind fun A14 => (xI (xC E d 197 [.ref r0] A14)).bind fun q15 => if x01 q15.1 = true then some (some (.int q15.1), q15.2) else none else if i1 = (12 : Int32) then (xV (xC E d 198 [.ref r0] q2.2)).bind fun A16 => (xI (xC E d 197 [.ref r0] A16)).bind fun q17 => if q17.1 = 0 then xD E (d + 1) 213 34 [.ref r0, .int (i1 + (1 : Int32))] [] q17.2 else (xV (xC E d 206 [.ref r0] q17.2)).bind fun A18 => xD E (d + 1) 213 34 [.ref r0, .int (i1 + (1 : Int32))] [] A18 else (xI (xC E d 197 [.ref r0] q2.2)).bind fun q19 => if q19.1 = 0 then xD E (d + 1) 213 34 [.ref r0, .int (i1 + (1 : Int32))] [] q19.2 else (xV (xC E d 206 [.ref r0] q19.2)).bind fun A20 => xD E (d + 1) 213 34 [.ref r0, .int (i1 + (1 : Int32))] [] A20 := (xD_bex E d h_213 [34] 90 34 _ _ _).trans rfl
-- Model.readsAs (Z)Z
set_option maxRecDepth 100000 in
theorem h_214 : xprog[214]? = some M_214 := rfl
set_option maxRecDepth 100000 in
theorem e214_0 (E : Nat × (Nat → Int32)) (d : Nat) (r0 : Nat) (i1 : Int32) (A : xH) : xD E (d + 1) 214 0 [.ref r0, .int i1] [] A = if x01 i1 = true then (pF A r0 9 10 (.int i1)).bind fun A1 => if i1 = 0 then xD E (d + 1) 214 17 [.ref r0, .int i1] [.int (7 : Int32), .ref r0] A1 else xD E (d + 1) 214 17 [.ref r0, .int i1] [.int (12 : Int32), .ref r0] A1 else none := (xD_bex E d h_214 [17] 90 0 _ _ _).trans rfl
set_option maxRecDepth 100000 in
theorem e214_17 (E : Nat × (Nat → Int32)) (d : Nat) (r0 : Nat) (i1 : Int32) (s0 : Nat) (s1 : Int32) (A : xH) : xD E (d + 1) 214 17 [.ref r0, .int i1] [.int s1, .ref s0] A = (pF A s0 9 8 (.int s1)).bind fun A1 => if i1 = 0 then (pF A1 r0 9 9 (.int (13 : Int32))).bind fun A2 => (xI (xC E d 213 [.ref r0] A2)).bind fun q3 => if x01 q3.1 = true then some (some (.int q3.1), q3.2) else none else (pF A1 r0 9 9 (.int (19 : Int32))).bind fun A4 => (xI (xC E d 213 [.ref r0] A4)).bind fun q5 => if x01 q5.1 = true then some (some (.int q5.1), q5.2) else none := (xD_bex E d h_214 [17] 90 17 _ _ _).trans rfl
-- Model.lays (I)V
set_option maxRecDepth 100000 in
theorem h_215 : xprog[215]? = some M_215 := rfl
set_option maxRecDepth 100000 in
theorem e215_0 (E : Nat × (Nat → Int32)) (d : Nat) (r0 : Nat) (i1 : Int32) (A : xH) : xD E (d + 1) 215 0 [.ref r0, .int i1, xJ] [] A = (gN A r0 9 2).bind fun n1 => (gI A r0 9 18).bind fun x2 => (sI 0 A n1 ((981 : Int32) + i1) x2).bind fun A3 => xD E (d + 1) 215 16 [.ref r0, .int i1, .int (0 : Int32)] [] A3 := (xD_bex E d h_215 [16] 90 0 _ _ _).trans rfl
set_option maxRecDepth 100000 in
theorem e215_16 (E : Nat × (Nat → Int32)) (d : Nat) (r0 : Nat) (i1 : Int32) (i2 : Int32) (A : xH) : xD E (d + 1) 215 16 [.ref r0, .int i1, .int i2] [] A = (gI A r0 9 18).bind fun x1 => if x1 ≤ i2 then some (none, A) else (gN A r0 9 2).bind fun n2 => (gN A r0 9 15).bind fun n3 => (aI 0 A n3 i2).bind fun x4 => (sI 0 A n2 (((988 : Int32) + ((400 : Int32) * i1)) + i2) x4).bind fun A5 => (gN A5 r0 9 2).bind fun n6 => (gN A5 r0 9 16).bind fun n7 => (aI 0 A5 n7 i2).bind fun x8 => (sI 0 A5 n6 (((3788 : Int32) + ((400 : Int32) * i1)) + i2) x8).bind fun A9 => xD E (d + 1) 215 16 [.ref r0, .int i1, .int (i2 + (1 : Int32))] [] A9 := (xD_bex E d h_215 [16] 90 16 _ _ _).trans rfl
-- Model.law ()I
set_option maxRecDepth 100000 in
theorem h_216 : xprog[216]? = some M_216 := rfl
set_option maxRecDepth 100000 in
theorem e216_0 (E : Nat × (Nat → Int32)) (d : Nat) (r0 : Nat) (A : xH) : xD E (d + 1) 216 0 [.ref r0] [] A = (gN A r0 9 2).bind fun n1 => (aI 0 A n1 (979 : Int32)).bind fun x2 => if x2 = (6 : Int32) then (pF A r0 9 13 (.int (0 : Int32))).bind fun A3 => (xI (xC E d 157 [.ref r0, .int (-5 : Int32)] A3)).bind fun q4 => some (some (.int q4.1), q4.2) else (xI (xC E d 214 [.ref r0, .int (0 : Int32)] A)).bind fun q5 => if q5.1 = 0 then (xI (xC E d 157 [.ref r0, .int (-6 : Int32)] q5.2)).bind fun q6 => some (some (.int q6.1), q6.2) else (gN q5.2 r0 9 2).bind fun n7 => (aI 0 q5.2 n7 (979 : Int32)).bind fun x8 => (xV (xC E d 215 [.ref r0, .int x8] q5.2)).bind fun A9 => (gN A9 r0 9 2).bind fun n10 => (aI 0 A9 n10 (979 : Int32)).bind fun x11 => (sI 0 A9 n10 (979 : Int32) (x11 + (1 : Int32))).bind fun A12 => (gN A12 r0 9 2).bind fun n13 => (aI 0 A12 n13 (979 : Int32)).bind fun x14 => (xI (xC E d 158 [.ref r0, .int (x14 - (1 : Int32))] A12)).bind fun q15 => some (some (.int q15.1), q15.2) := (xD_bex E d h_216 [] 90 0 _ _ _).trans rfl
-- Model.fault ()I
set_option maxRecDepth 100000 in
theorem h_217 : xprog[217]? = some M_217 := rfl
set_option maxRecDepth 100000 in
theorem e217_0 (E : Nat × (Nat → Int32)) (d : Nat) (r0 : Nat) (A : xH) : xD E (d + 1) 217 0 [.ref r0] [] A = (gI A r0 9 14).bind fun x1 => some (some (.int x1), A) := (xD_bex E d h_217 [] 90 0 _ _ _).trans rfl
-- Model.isLaw (I)Z
set_option maxRecDepth 100000 in
theorem h_218 : xprog[218]? = some M_218 := rfl
set_option maxRecDepth 100000 in
theorem e218_0 (E : Nat × (Nat → Int32)) (d : Nat) (r0 : Nat) (i1 : Int32) (A : xH) : xD E (d + 1) 218 0 [.ref r0, .int i1] [] A = (gN A r0 9 2).bind fun n1 => (aI 0 A n1 (979 : Int32)).bind fun x2 => (xI (xC E d 154 [.int i1, .int (-1 : Int32), .int (x2 - (1 : Int32))] A)).bind fun q3 => if x01 q3.1 = true then some (some (.int q3.1), q3.2) else none := (xD_bex E d h_218 [] 90 0 _ _ _).trans rfl
-- Model.force (I)I
set_option maxRecDepth 100000 in
theorem h_219 : xprog[219]? = some M_219 := rfl
set_option maxRecDepth 100000 in
theorem e219_0 (E : Nat × (Nat → Int32)) (d : Nat) (r0 : Nat) (i1 : Int32) (A : xH) : xD E (d + 1) 219 0 [.ref r0, .int i1, xJ] [] A = (xI (xC E d 218 [.ref r0, .int i1] A)).bind fun q1 => if q1.1 = 0 then (xI (xC E d 157 [.ref r0, .int (-2 : Int32)] q1.2)).bind fun q2 => some (some (.int q2.1), q2.2) else (gN q1.2 r0 9 2).bind fun n3 => (aI 0 q1.2 n3 (980 : Int32)).bind fun x4 => (gN q1.2 r0 9 2).bind fun n5 => (sI 0 q1.2 n5 (980 : Int32) i1).bind fun A6 => (xI (xC E d 158 [.ref r0, .int x4] A6)).bind fun q7 => some (some (.int q7.1), q7.2) := (xD_bex E d h_219 [] 90 0 _ _ _).trans rfl
-- Model.codeAt (I)I
set_option maxRecDepth 100000 in
theorem h_220 : xprog[220]? = some M_220 := rfl
set_option maxRecDepth 100000 in
theorem e220_0 (E : Nat × (Nat → Int32)) (d : Nat) (r0 : Nat) (i1 : Int32) (A : xH) : xD E (d + 1) 220 0 [.ref r0, .int i1] [] A = (gI A r0 9 23).bind fun x1 => if x1 ≤ i1 then some (some (.int (0 : Int32)), A) else (gN A r0 9 2).bind fun n2 => (aI 0 A n2 ((988 : Int32) + i1)).bind fun x3 => some (some (.int x3), A) := (xD_bex E d h_220 [] 90 0 _ _ _).trans rfl
-- Model.passes0 (I)Z
set_option maxRecDepth 100000 in
theorem h_221 : xprog[221]? = some M_221 := rfl
set_option maxRecDepth 100000 in
theorem e221_0 (E : Nat × (Nat → Int32)) (d : Nat) (r0 : Nat) (i1 : Int32) (A : xH) : xD E (d + 1) 221 0 [.ref r0, .int i1, xJ] [] A = (gI A r0 9 22).bind fun x1 => (xI (xC E d 220 [.ref r0, .int x1] A)).bind fun q2 => if q2.1 = i1 then xD E (d + 1) 221 17 [.ref r0, .int i1, xJ] [.int (1 : Int32)] q2.2 else xD E (d + 1) 221 17 [.ref r0, .int i1, xJ] [.int (0 : Int32)] q2.2 := (xD_bex E d h_221 [17] 90 0 _ _ _).trans rfl
set_option maxRecDepth 100000 in
theorem e221_17 (E : Nat × (Nat → Int32)) (d : Nat) (r0 : Nat) (w1 : Value) (w2 : Value) (s0 : Int32) (A : xH) : xD E (d + 1) 221 17 [.ref r0, w1, w2] [.int s0] A = if s0 = 0 then if x01 s0 = true then some (some (.int s0), A) else none else (gI A r0 9 22).bind fun x1 => (pF A r0 9 22 (.int (x1 + (1 : Int32)))).bind fun A2 => if x01 s0 = true then some (some (.int s0), A2) else none := (xD_bex E d h_221 [17] 90 17 _ _ _).trans rfl
-- Model.bounded (JZ)J
set_option maxRecDepth 100000 in
theorem h_222 : xprog[222]? = some M_222 := rfl
set_option maxRecDepth 100000 in
theorem e222_0 (E : Nat × (Nat → Int32)) (d : Nat) (r0 : Nat) (j1 : Int64) (i3 : Int32) (A : xH) : xD E (d + 1) 222 0 [.ref r0, .long j1, xJ, .int i3] [] A = if i3 = 0 then (gI A r0 9 24).bind fun x1 => if x1 = 0 then some (some (.long j1), A) else some (some (.long (0 : Int64)), A) else xD E (d + 1) 222 9 [.ref r0, .long j1, xJ, .int i3] [.int (lg_cmp j1 (1000000000 : Int64))] A := (xD_bex E d h_222 [9, 17, 20] 90 0 _ _ _).trans rfl
set_option maxRecDepth 100000 in
theorem e222_9 (E : Nat × (Nat → Int32)) (d : Nat) (r0 : Nat) (j1 : Int64) (w3 : Value) (s0 : Int32) (A : xH) : xD E (d + 1) 222 9 [.ref r0, .long j1, xJ, w3] [.int s0] A = if 0 < s0 then xD E (d + 1) 222 20 [.ref r0, .long j1, xJ, xJ] [] A else xD E (d + 1) 222 17 [.ref r0, .long j1, xJ, xJ] [.int (lg_cmp j1 (-1000000000 : Int64))] A := (xD_bex E d h_222 [9, 17, 20] 90 9 _ _ _).trans rfl
set_option maxRecDepth 100000 in
theorem e222_17 (E : Nat × (Nat → Int32)) (d : Nat) (r0 : Nat) (j1 : Int64) (w3 : Value) (s0 : Int32) (A : xH) : xD E (d + 1) 222 17 [.ref r0, .long j1, xJ, w3] [.int s0] A = if 0 ≤ s0 then (gI A r0 9 24).bind fun x1 => if x1 = 0 then some (some (.long j1), A) else some (some (.long (0 : Int64)), A) else xD E (d + 1) 222 20 [.ref r0, .long j1, xJ, xJ] [] A := (xD_bex E d h_222 [9, 17, 20] 90 17 _ _ _).trans rfl
set_option maxRecDepth 100000 in
theorem e222_20 (E : Nat × (Nat → Int32)) (d : Nat) (r0 : Nat) (j1 : Int64) (w3 : Value) (A : xH) : xD E (d + 1) 222 20 [.ref r0, .long j1, xJ, w3] [] A = (pF A r0 9 24 (.int (1 : Int32))).bind fun A1 => (gI A1 r0 9 24).bind fun x2 => if x2 = 0 then some (some (.long j1), A1) else some (some (.long (0 : Int64)), A1) := (xD_bex E d h_222 [9, 17, 20] 90 20 _ _ _).trans rfl
-- Model.sumOf (Z)J
set_option maxRecDepth 100000 in
theorem h_223 : xprog[223]? = some M_223 := rfl
set_option maxRecDepth 100000 in
theorem e223_0 (E : Nat × (Nat → Int32)) (d : Nat) (r0 : Nat) (i1 : Int32) (A : xH) : xD E (d + 1) 223 0 [.ref r0, .int i1, xJ, xJ, xJ, xJ, xJ] [] A = (xLo (xC E d 224 [.ref r0, .int i1] A)).bind fun q1 => xD E (d + 1) 223 6 [.ref r0, .int i1, .long q1.1, xJ, xJ, xJ, xJ] [] q1.2 := (xD_bex E d h_223 [6, 59] 90 0 _ _ _).trans rfl
set_option maxRecDepth 100000 in
theorem e223_6 (E : Nat × (Nat → Int32)) (d : Nat) (r0 : Nat) (i1 : Int32) (j2 : Int64) (w4 : Value) (w5 : Value) (w6 : Value) (A : xH) : xD E (d + 1) 223 6 [.ref r0, .int i1, .long j2, xJ, w4, w5, w6] [] A = (gI A r0 9 22).bind fun x1 => (xI (xC E d 220 [.ref r0, .int x1] A)).bind fun q2 => (xI (xC E d 202 [.int (43 : Int32)] q2.2)).bind fun q3 => if q2.1 = q3.1 then (gI q3.2 r0 9 22).bind fun x4 => (xI (xC E d 220 [.ref r0, .int x4] q3.2)).bind fun q5 => (xI (xC E d 202 [.int (43 : Int32)] q5.2)).bind fun q6 => if q5.1 = q6.1 then xD E (d + 1) 223 59 [.ref r0, .int i1, .long j2, xJ, xJ, xJ, xJ] [.int (1 : Int32)] q6.2 else xD E (d + 1) 223 59 [.ref r0, .int i1, .long j2, xJ, xJ, xJ, xJ] [.int (0 : Int32)] q6.2 else (gI q3.2 r0 9 22).bind fun x7 => (xI (xC E d 220 [.ref r0, .int x7] q3.2)).bind fun q8 => (xI (xC E d 202 [.int (45 : Int32)] q8.2)).bind fun q9 => if q8.1 = q9.1 then (gI q9.2 r0 9 22).bind fun x10 => (xI (xC E d 220 [.ref r0, .int x10] q9.2)).bind fun q11 => (xI (xC E d 202 [.int (43 : Int32)] q11.2)).bind fun q12 => if q11.1 = q12.1 then xD E (d + 1) 223 59 [.ref r0, .int i1, .long j2, xJ, xJ, xJ, xJ] [.int (1 : Int32)] q12.2 else xD E (d + 1) 223 59 [.ref r0, .int i1, .long j2, xJ, xJ, xJ, xJ] [.int (0 : Int32)] q12.2 else some (some (.long j2), q9.2) := (xD_bex E d h_223 [6, 59] 90 6 _ _ _).trans rfl
set_option maxRecDepth 100000 in
theorem e223_59 (E : Nat × (Nat → Int32)) (d : Nat) (r0 : Nat) (i1 : Int32) (j2 : Int64) (w4 : Value) (w5 : Value) (w6 : Value) (s0 : Int32) (A : xH) : xD E (d + 1) 223 59 [.ref r0, .int i1, .long j2, xJ, w4, w5, w6] [.int s0] A = (gI A r0 9 22).bind fun x1 => (pF A r0 9 22 (.int (x1 + (1 : Int32)))).bind fun A2 => (xLo (xC E d 224 [.ref r0, .int i1] A2)).bind fun q3 => if s0 = 0 then (xLo (xC E d 222 [.ref r0, .long (j2 - q3.1), .int i1] q3.2)).bind fun q4 => xD E (d + 1) 223 6 [.ref r0, .int i1, .long q4.1, xJ, .int s0, .long q3.1, xJ] [] q4.2 else (xLo (xC E d 222 [.ref r0, .long (j2 + q3.1), .int i1] q3.2)).bind fun q5 => xD E (d + 1) 223 6 [.ref r0, .int i1, .long q5.1, xJ, .int s0, .long q3.1, xJ] [] q5.2 := (xD_bex E d h_223 [6, 59] 90 59 _ _ _).trans rfl
end
section
/-! ===== what each block does, an equation a block (printed by wip/whole/gen.py) ===== -/
-- Model.termOf (Z)J
set_option maxRecDepth 100000 in
theorem h_224 : xprog[224]? = some M_224 := rfl
set_option maxRecDepth 100000 in
theorem e224_0 (E : Nat × (Nat → Int32)) (d : Nat) (r0 : Nat) (i1 : Int32) (A : xH) : xD E (d + 1) 224 0 [.ref r0, .int i1, xJ, xJ, xJ, xJ, xJ] [] A = (xLo (xC E d 225 [.ref r0, .int i1] A)).bind fun q1 => xD E (d + 1) 224 6 [.ref r0, .int i1, .long q1.1, xJ, xJ, xJ, xJ] [] q1.2 := (xD_bex E d h_224 [6, 54, 121] 90 0 _ _ _).trans rfl
set_option maxRecDepth 100000 in
theorem e224_6 (E : Nat × (Nat → Int32)) (d : Nat) (r0 : Nat) (i1 : Int32) (j2 : Int64) (w4 : Value) (w5 : Value) (w6 : Value) (A : xH) : xD E (d + 1) 224 6 [.ref r0, .int i1, .long j2, xJ, w4, w5, w6] [] A = (gI A r0 9 22).bind fun x1 => (xI (xC E d 220 [.ref r0, .int x1] A)).bind fun q2 => (xI (xC E d 202 [.int (42 : Int32)] q2.2)).bind fun q3 => if q2.1 = q3.1 then xD E (d + 1) 224 54 [.ref r0, .int i1, .long j2, xJ, xJ, xJ, xJ] [] q3.2 else (gI q3.2 r0 9 22).bind fun x4 => (xI (xC E d 220 [.ref r0, .int x4] q3.2)).bind fun q5 => (xI (xC E d 202 [.int (47 : Int32)] q5.2)).bind fun q6 => if q5.1 = q6.1 then xD E (d + 1) 224 54 [.ref r0, .int i1, .long j2, xJ, xJ, xJ, xJ] [] q6.2 else (gI q6.2 r0 9 22).bind fun x7 => (xI (xC E d 220 [.ref r0, .int x7] q6.2)).bind fun q8 => (xI (xC E d 202 [.int (37 : Int32)] q8.2)).bind fun q9 => if q8.1 = q9.1 then xD E (d + 1) 224 54 [.ref r0, .int i1, .long j2, xJ, xJ, xJ, xJ] [] q9.2 else some (some (.long j2), q9.2) := (xD_bex E d h_224 [6, 54, 121] 90 6 _ _ _).trans rfl
set_option maxRecDepth 100000 in
theorem e224_54 (E : Nat × (Nat → Int32)) (d : Nat) (r0 : Nat) (i1 : Int32) (j2 : Int64) (w4 : Value) (w5 : Value) (w6 : Value) (A : xH) : xD E (d + 1) 224 54 [.ref r0, .int i1, .long j2, xJ, w4, w5, w6] [] A = (gI A r0 9 22).bind fun x1 => (xI (xC E d 220 [.ref r0, .int x1] A)).bind fun q2 => (gI q2.2 r0 9 22).bind fun x3 => (pF q2.2 r0 9 22 (.int (x3 + (1 : Int32)))).bind fun A4 => (xLo (xC E d 225 [.ref r0, .int i1] A4)).bind fun q5 => (xI (xC E d 202 [.int (42 : Int32)] q5.2)).bind fun q6 => if q2.1 = q6.1 then xD E (d + 1) 224 121 [.ref r0, .int i1, .long j2, xJ, .int q2.1, .long q5.1, xJ] [] q6.2 else if (lg_cmp q5.1 (0 : Int64)) = 0 then (gI q6.2 r0 9 24).bind fun x7 => if x7 = 0 then if i1 = 0 then (pF q6.2 r0 9 24 (.int (0 : Int32))).bind fun A8 => xD E (d + 1) 224 121 [.ref r0, .int i1, .long j2, xJ, .int q2.1, .long (1 : Int64), xJ] [] A8 else (pF q6.2 r0 9 24 (.int (1 : Int32))).bind fun A9 => xD E (d + 1) 224 121 [.ref r0, .int i1, .long j2, xJ, .int q2.1, .long (1 : Int64), xJ] [] A9 else (pF q6.2 r0 9 24 (.int (1 : Int32))).bind fun A10 => xD E (d + 1) 224 121 [.ref r0, .int i1, .long j2, xJ, .int q2.1, .long (1 : Int64), xJ] [] A10 else xD E (d + 1) 224 121 [.ref r0, .int i1, .long j2, xJ, .int q2.1, .long q5.1, xJ] [] q6.2 := (xD_bex E d h_224 [6, 54, 121] 90 54 _ _ _).trans rfl
set_option maxRecDepth 100000 in
theorem e224_121 (E : Nat × (Nat → Int32)) (d : Nat) (r0 : Nat) (i1 : Int32) (j2 : Int64) (i4 : Int32) (j5 : Int64) (A : xH) : xD E (d + 1) 224 121 [.ref r0, .int i1, .long j2, xJ, .int i4, .long j5, xJ] [] A = (xI (xC E d 202 [.int (42 : Int32)] A)).bind fun q1 => if i4 = q1.1 then (xLo (xC E d 222 [.ref r0, .long (j2 * j5), .int i1] q1.2)).bind fun q2 => xD E (d + 1) 224 6 [.ref r0, .int i1, .long q2.1, xJ, .int i4, .long j5, xJ] [] q2.2 else (xI (xC E d 202 [.int (47 : Int32)] q1.2)).bind fun q3 => if i4 = q3.1 then if j5 = 0 then none else (xLo (xC E d 222 [.ref r0, .long (j2 / j5), .int i1] q3.2)).bind fun q4 => xD E (d + 1) 224 6 [.ref r0, .int i1, .long q4.1, xJ, .int i4, .long j5, xJ] [] q4.2 else if j5 = 0 then none else (xLo (xC E d 222 [.ref r0, .long (xlrem j2 j5), .int i1] q3.2)).bind fun q5 => xD E (d + 1) 224 6 [.ref r0, .int i1, .long q5.1, xJ, .int i4, .long j5, xJ] [] q5.2 := (xD_bex E d h_224 [6, 54, 121] 90 121 _ _ _).trans rfl
-- Model.partOf (Z)J
set_option maxRecDepth 100000 in
theorem h_225 : xprog[225]? = some M_225 := rfl
set_option maxRecDepth 100000 in
theorem e225_0 (E : Nat × (Nat → Int32)) (d : Nat) (r0 : Nat) (i1 : Int32) (A : xH) : xD E (d + 1) 225 0 [.ref r0, .int i1, xJ, xJ] [] A = (xI (xC E d 202 [.int (91 : Int32)] A)).bind fun q1 => (xI (xC E d 221 [.ref r0, .int q1.1] q1.2)).bind fun q2 => if q2.1 = 0 then (gI q2.2 r0 9 22).bind fun x3 => (xI (xC E d 220 [.ref r0, .int x3] q2.2)).bind fun q4 => (gI q4.2 r0 9 22).bind fun x5 => (pF q4.2 r0 9 22 (.int (x5 + (1 : Int32)))).bind fun A6 => (gI A6 r0 9 25).bind fun x7 => if x7 = 0 then xD E (d + 1) 225 94 [.ref r0, .int i1, .int q4.1, .int (0 : Int32)] [] A6 else if q4.1 = (12 : Int32) then xD E (d + 1) 225 70 [.ref r0, .int i1, .int q4.1, .int (0 : Int32)] [] A6 else if q4.1 = (19 : Int32) then xD E (d + 1) 225 70 [.ref r0, .int i1, .int q4.1, .int (0 : Int32)] [] A6 else xD E (d + 1) 225 94 [.ref r0, .int i1, .int q4.1, .int (0 : Int32)] [] A6 else (xLo (xC E d 223 [.ref r0, .int i1] q2.2)).bind fun q8 => (gI q8.2 r0 9 22).bind fun x9 => (pF q8.2 r0 9 22 (.int (x9 + (1 : Int32)))).bind fun A10 => some (some (.long q8.1), A10) := (xD_bex E d h_225 [70, 94] 90 0 _ _ _).trans rfl
set_option maxRecDepth 100000 in
theorem e225_70 (E : Nat × (Nat → Int32)) (d : Nat) (r0 : Nat) (i1 : Int32) (i2 : Int32) (w3 : Value) (A : xH) : xD E (d + 1) 225 70 [.ref r0, .int i1, .int i2, w3] [] A = (gN A r0 9 2).bind fun n1 => (gI A r0 9 22).bind fun x2 => (aI 0 A n1 ((3788 : Int32) + x2)).bind fun x3 => (gI A r0 9 22).bind fun x4 => (pF A r0 9 22 (.int (x4 + (1 : Int32)))).bind fun A5 => xD E (d + 1) 225 94 [.ref r0, .int i1, .int i2, .int x3] [] A5 := (xD_bex E d h_225 [70, 94] 90 70 _ _ _).trans rfl
set_option maxRecDepth 100000 in
theorem e225_94 (E : Nat × (Nat → Int32)) (d : Nat) (r0 : Nat) (i1 : Int32) (i2 : Int32) (i3 : Int32) (A : xH) : xD E (d + 1) 225 94 [.ref r0, .int i1, .int i2, .int i3] [] A = if i1 = 0 then some (some (.long (0 : Int64)), A) else (gI A r0 9 24).bind fun x1 => if x1 = 0 then if i2 = (50 : Int32) then (gN A r0 9 2).bind fun n2 => (gI A r0 9 22).bind fun x3 => (aI 0 A n2 (((3788 : Int32) + x3) - (1 : Int32))).bind fun x4 => some (some (.long ((x4).toInt64)), A) else (gI A r0 9 25).bind fun x5 => if x5 = 0 then (gN A r0 9 26).bind fun n6 => (aI 0 A n6 (i2 - (7 : Int32))).bind fun x7 => some (some (.long ((x7).toInt64)), A) else (xI (xC E d 226 [.ref r0, .int i2, .int i3] A)).bind fun q8 => some (some (.long ((q8.1).toInt64)), q8.2) else some (some (.long (0 : Int64)), A) := (xD_bex E d h_225 [70, 94] 90 94 _ _ _).trans rfl
-- Model.orderValue (II)I
set_option maxRecDepth 100000 in
theorem h_226 : xprog[226]? = some M_226 := rfl
set_option maxRecDepth 100000 in
theorem e226_0 (E : Nat × (Nat → Int32)) (d : Nat) (r0 : Nat) (i1 : Int32) (i2 : Int32) (A : xH) : xD E (d + 1) 226 0 [.ref r0, .int i1, .int i2] [] A = if i1 = (12 : Int32) then (xI (xC E d 170 [.ref r0, .int i2] A)).bind fun q1 => if q1.1 = 0 then some (some (.int (-1 : Int32)), q1.2) else (gN q1.2 r0 9 2).bind fun n2 => (xI (xC E d 169 [.int i2, .int (3 : Int32)] q1.2)).bind fun q3 => (aI 0 q3.2 n2 q3.1).bind fun x4 => some (some (.int x4), q3.2) else if i1 = (13 : Int32) then (gN A r0 9 2).bind fun n5 => (aI 0 A n5 (962 : Int32)).bind fun x6 => some (some (.int x6), A) else if i1 = (14 : Int32) then (gI A r0 9 27).bind fun x7 => some (some (.int x7), A) else if i1 = (15 : Int32) then (gI A r0 9 28).bind fun x8 => some (some (.int x8), A) else if i1 = (16 : Int32) then (gN A r0 9 2).bind fun n9 => (aI 0 A n9 (961 : Int32)).bind fun x10 => some (some (.int x10), A) else if i1 = (17 : Int32) then (gN A r0 9 2).bind fun n11 => (aI 0 A n11 (960 : Int32)).bind fun x12 => some (some (.int x12), A) else if i1 = (18 : Int32) then (xI (xC E d 172 [.ref r0] A)).bind fun q13 => some (some (.int q13.1), q13.2) else (xI (xC E d 178 [.ref r0, .int i2] A)).bind fun q14 => some (some (.int q14.1), q14.2) := (xD_bex E d h_226 [] 90 0 _ _ _).trans rfl
-- Model.testOf (Z)Z
set_option maxRecDepth 100000 in
theorem h_227 : xprog[227]? = some M_227 := rfl
set_option maxRecDepth 100000 in
theorem e227_0 (E : Nat × (Nat → Int32)) (d : Nat) (r0 : Nat) (i1 : Int32) (A : xH) : xD E (d + 1) 227 0 [.ref r0, .int i1, xJ, xJ] [] A = (xI (xC E d 228 [.ref r0, .int i1] A)).bind fun q1 => xD E (d + 1) 227 6 [.ref r0, .int i1, .int q1.1, xJ] [] q1.2 := (xD_bex E d h_227 [6, 28] 90 0 _ _ _).trans rfl
set_option maxRecDepth 100000 in
theorem e227_6 (E : Nat × (Nat → Int32)) (d : Nat) (r0 : Nat) (i1 : Int32) (i2 : Int32) (w3 : Value) (A : xH) : xD E (d + 1) 227 6 [.ref r0, .int i1, .int i2, w3] [] A = (xI (xC E d 221 [.ref r0, .int (4 : Int32)] A)).bind fun q1 => if q1.1 = 0 then if x01 i2 = true then some (some (.int i2), q1.2) else none else if i1 = 0 then xD E (d + 1) 227 28 [.ref r0, .int i1, .int i2, xJ] [.int (0 : Int32), .ref r0] q1.2 else if i2 = 0 then xD E (d + 1) 227 28 [.ref r0, .int i1, .int i2, xJ] [.int (1 : Int32), .ref r0] q1.2 else xD E (d + 1) 227 28 [.ref r0, .int i1, .int i2, xJ] [.int (0 : Int32), .ref r0] q1.2 := (xD_bex E d h_227 [6, 28] 90 6 _ _ _).trans rfl
set_option maxRecDepth 100000 in
theorem e227_28 (E : Nat × (Nat → Int32)) (d : Nat) (r0 : Nat) (i1 : Int32) (i2 : Int32) (w3 : Value) (s0 : Nat) (s1 : Int32) (A : xH) : xD E (d + 1) 227 28 [.ref r0, .int i1, .int i2, w3] [.int s1, .ref s0] A = (xI (xC E d 228 [.ref s0, .int s1] A)).bind fun q1 => if i2 = 0 then if q1.1 = 0 then xD E (d + 1) 227 6 [.ref r0, .int i1, .int (0 : Int32), .int q1.1] [] q1.2 else xD E (d + 1) 227 6 [.ref r0, .int i1, .int (1 : Int32), .int q1.1] [] q1.2 else xD E (d + 1) 227 6 [.ref r0, .int i1, .int (1 : Int32), .int q1.1] [] q1.2 := (xD_bex E d h_227 [6, 28] 90 28 _ _ _).trans rfl
-- Model.bothOf (Z)Z
set_option maxRecDepth 100000 in
theorem h_228 : xprog[228]? = some M_228 := rfl
set_option maxRecDepth 100000 in
theorem e228_0 (E : Nat × (Nat → Int32)) (d : Nat) (r0 : Nat) (i1 : Int32) (A : xH) : xD E (d + 1) 228 0 [.ref r0, .int i1, xJ, xJ] [] A = (xI (xC E d 229 [.ref r0, .int i1] A)).bind fun q1 => xD E (d + 1) 228 6 [.ref r0, .int i1, .int q1.1, xJ] [] q1.2 := (xD_bex E d h_228 [6, 28] 90 0 _ _ _).trans rfl
set_option maxRecDepth 100000 in
theorem e228_6 (E : Nat × (Nat → Int32)) (d : Nat) (r0 : Nat) (i1 : Int32) (i2 : Int32) (w3 : Value) (A : xH) : xD E (d + 1) 228 6 [.ref r0, .int i1, .int i2, w3] [] A = (xI (xC E d 221 [.ref r0, .int (5 : Int32)] A)).bind fun q1 => if q1.1 = 0 then if x01 i2 = true then some (some (.int i2), q1.2) else none else if i1 = 0 then xD E (d + 1) 228 28 [.ref r0, .int i1, .int i2, xJ] [.int (0 : Int32), .ref r0] q1.2 else if i2 = 0 then xD E (d + 1) 228 28 [.ref r0, .int i1, .int i2, xJ] [.int (0 : Int32), .ref r0] q1.2 else xD E (d + 1) 228 28 [.ref r0, .int i1, .int i2, xJ] [.int (1 : Int32), .ref r0] q1.2 := (xD_bex E d h_228 [6, 28] 90 6 _ _ _).trans rfl
set_option maxRecDepth 100000 in
theorem e228_28 (E : Nat × (Nat → Int32)) (d : Nat) (r0 : Nat) (i1 : Int32) (i2 : Int32) (w3 : Value) (s0 : Nat) (s1 : Int32) (A : xH) : xD E (d + 1) 228 28 [.ref r0, .int i1, .int i2, w3] [.int s1, .ref s0] A = (xI (xC E d 229 [.ref s0, .int s1] A)).bind fun q1 => if i2 = 0 then xD E (d + 1) 228 6 [.ref r0, .int i1, .int (0 : Int32), .int q1.1] [] q1.2 else if q1.1 = 0 then xD E (d + 1) 228 6 [.ref r0, .int i1, .int (0 : Int32), .int q1.1] [] q1.2 else xD E (d + 1) 228 6 [.ref r0, .int i1, .int (1 : Int32), .int q1.1] [] q1.2 := (xD_bex E d h_228 [6, 28] 90 28 _ _ _).trans rfl
-- Model.plainOf (Z)Z
set_option maxRecDepth 100000 in
theorem h_229 : xprog[229]? = some M_229 := rfl
set_option maxRecDepth 100000 in
theorem e229_0 (E : Nat × (Nat → Int32)) (d : Nat) (r0 : Nat) (i1 : Int32) (A : xH) : xD E (d + 1) 229 0 [.ref r0, .int i1, xJ] [] A = xD E (d + 1) 229 2 [.ref r0, .int i1, .int (0 : Int32)] [] A := (xD_bex E d h_229 [2] 90 0 _ _ _).trans rfl
set_option maxRecDepth 100000 in
theorem e229_2 (E : Nat × (Nat → Int32)) (d : Nat) (r0 : Nat) (i1 : Int32) (i2 : Int32) (A : xH) : xD E (d + 1) 229 2 [.ref r0, .int i1, .int i2] [] A = (xI (xC E d 221 [.ref r0, .int (6 : Int32)] A)).bind fun q1 => if q1.1 = 0 then (xI (xC E d 230 [.ref r0, .int i1] q1.2)).bind fun q2 => if q2.1 = i2 then some (some (.int (0 : Int32)), q2.2) else some (some (.int (1 : Int32)), q2.2) else if i2 = 0 then xD E (d + 1) 229 2 [.ref r0, .int i1, .int (1 : Int32)] [] q1.2 else xD E (d + 1) 229 2 [.ref r0, .int i1, .int (0 : Int32)] [] q1.2 := (xD_bex E d h_229 [2] 90 2 _ _ _).trans rfl
-- Model.positiveOf (Z)Z
set_option maxRecDepth 100000 in
theorem h_230 : xprog[230]? = some M_230 := rfl
set_option maxRecDepth 100000 in
theorem e230_0 (E : Nat × (Nat → Int32)) (d : Nat) (r0 : Nat) (i1 : Int32) (A : xH) : xD E (d + 1) 230 0 [.ref r0, .int i1, xJ, xJ, xJ, xJ, xJ] [] A = (xI (xC E d 202 [.int (40 : Int32)] A)).bind fun q1 => (xI (xC E d 221 [.ref r0, .int q1.1] q1.2)).bind fun q2 => if q2.1 = 0 then (xLo (xC E d 223 [.ref r0, .int i1] q2.2)).bind fun q3 => (gI q3.2 r0 9 22).bind fun x4 => (xI (xC E d 220 [.ref r0, .int x4] q3.2)).bind fun q5 => (gI q5.2 r0 9 22).bind fun x6 => (pF q5.2 r0 9 22 (.int (x6 + (1 : Int32)))).bind fun A7 => (xLo (xC E d 223 [.ref r0, .int i1] A7)).bind fun q8 => if i1 = 0 then some (some (.int (0 : Int32)), q8.2) else (gI q8.2 r0 9 24).bind fun x9 => if x9 = 0 then (xI (xC E d 202 [.int (60 : Int32)] q8.2)).bind fun q10 => if q5.1 = q10.1 then if 0 ≤ (lg_cmp q3.1 q8.1) then some (some (.int (0 : Int32)), q10.2) else some (some (.int (1 : Int32)), q10.2) else (xI (xC E d 202 [.int (62 : Int32)] q10.2)).bind fun q11 => if q5.1 = q11.1 then if (lg_cmp q3.1 q8.1) ≤ 0 then some (some (.int (0 : Int32)), q11.2) else some (some (.int (1 : Int32)), q11.2) else if (lg_cmp q3.1 q8.1) = 0 then some (some (.int (1 : Int32)), q11.2) else some (some (.int (0 : Int32)), q11.2) else some (some (.int (0 : Int32)), q8.2) else (xI (xC E d 227 [.ref r0, .int i1] q2.2)).bind fun q12 => (gI q12.2 r0 9 22).bind fun x13 => (pF q12.2 r0 9 22 (.int (x13 + (1 : Int32)))).bind fun A14 => if x01 q12.1 = true then some (some (.int q12.1), A14) else none := (xD_bex E d h_230 [] 90 0 _ _ _).trans rfl
-- Model.setsAsked (III)V
set_option maxRecDepth 100000 in
theorem h_231 : xprog[231]? = some M_231 := rfl
set_option maxRecDepth 100000 in
theorem e231_0 (E : Nat × (Nat → Int32)) (d : Nat) (r0 : Nat) (i1 : Int32) (i2 : Int32) (i3 : Int32) (A : xH) : xD E (d + 1) 231 0 [.ref r0, .int i1, .int i2, .int i3] [] A = (gN A r0 9 26).bind fun n1 => (sI 0 A n1 (0 : Int32) i1).bind fun A2 => (gN A2 r0 9 26).bind fun n3 => (xI (xC E d 170 [.ref r0, .int i1] A2)).bind fun q4 => if q4.1 = 0 then xD E (d + 1) 231 34 [.ref r0, .int i1, .int i2, .int i3] [.int (-1 : Int32), .int (1 : Int32), .ref n3] q4.2 else (gN q4.2 r0 9 2).bind fun n5 => (xI (xC E d 169 [.int i1, .int (1 : Int32)] q4.2)).bind fun q6 => (aI 0 q6.2 n5 q6.1).bind fun x7 => xD E (d + 1) 231 34 [.ref r0, .int i1, .int i2, .int i3] [.int x7, .int (1 : Int32), .ref n3] q6.2 := (xD_bex E d h_231 [34] 90 0 _ _ _).trans rfl
set_option maxRecDepth 100000 in
theorem e231_34 (E : Nat × (Nat → Int32)) (d : Nat) (r0 : Nat) (i1 : Int32) (i2 : Int32) (i3 : Int32) (s0 : Nat) (s1 : Int32) (s2 : Int32) (A : xH) : xD E (d + 1) 231 34 [.ref r0, .int i1, .int i2, .int i3] [.int s2, .int s1, .ref s0] A = (sI 0 A s0 s1 s2).bind fun A1 => (gN A1 r0 9 26).bind fun n2 => (sI 0 A1 n2 (2 : Int32) i2).bind fun A3 => (gN A3 r0 9 26).bind fun n4 => (sI 0 A3 n4 (3 : Int32) i3).bind fun A5 => (gN A5 r0 9 26).bind fun n6 => (gN A5 r0 9 2).bind fun n7 => (aI 0 A5 n7 (976 : Int32)).bind fun x8 => (sI 0 A5 n6 (4 : Int32) x8).bind fun A9 => (gN A9 r0 9 26).bind fun n10 => (xI (xC E d 170 [.ref r0, .int i1] A9)).bind fun q11 => if q11.1 = 0 then (sI 0 q11.2 n10 (5 : Int32) (0 : Int32)).bind fun A12 => (gN A12 r0 9 26).bind fun n13 => (gN A12 r0 9 2).bind fun n14 => (aI 0 A12 n14 (962 : Int32)).bind fun x15 => (sI 0 A12 n13 (6 : Int32) x15).bind fun A16 => some (none, A16) else (gN q11.2 r0 9 2).bind fun n17 => (xI (xC E d 169 [.int i1, .int (3 : Int32)] q11.2)).bind fun q18 => (aI 0 q18.2 n17 q18.1).bind fun x19 => (sI 0 q18.2 n10 (5 : Int32) x19).bind fun A20 => (gN A20 r0 9 26).bind fun n21 => (gN A20 r0 9 2).bind fun n22 => (aI 0 A20 n22 (962 : Int32)).bind fun x23 => (sI 0 A20 n21 (6 : Int32) x23).bind fun A24 => some (none, A24) := (xD_bex E d h_231 [34] 90 34 _ _ _).trans rfl
-- Model.tells (II)I
set_option maxRecDepth 100000 in
theorem h_232 : xprog[232]? = some M_232 := rfl
set_option maxRecDepth 100000 in
theorem e232_0 (E : Nat × (Nat → Int32)) (d : Nat) (r0 : Nat) (i1 : Int32) (i2 : Int32) (A : xH) : xD E (d + 1) 232 0 [.ref r0, .int i1, .int i2, xJ, xJ, xJ, xJ, xJ, xJ, xJ] [] A = (gN A r0 9 2).bind fun n1 => (aI 0 A n1 (980 : Int32)).bind fun x2 => if x2 = (-1 : Int32) then some (some (.int i2), A) else (pF A r0 9 25 (.int (0 : Int32))).bind fun A3 => (gN A3 r0 9 2).bind fun n4 => (aI 0 A3 n4 (980 : Int32)).bind fun x5 => (pF A3 r0 9 22 (.int ((400 : Int32) * x5))).bind fun A6 => (gI A6 r0 9 22).bind fun x7 => (gN A6 r0 9 2).bind fun n8 => (gN A6 r0 9 2).bind fun n9 => (aI 0 A6 n9 (980 : Int32)).bind fun x10 => (aI 0 A6 n8 ((981 : Int32) + x10)).bind fun x11 => (pF A6 r0 9 23 (.int (x7 + x11))).bind fun A12 => xD E (d + 1) 232 64 [.ref r0, .int i1, .int i2, .long (i2).toInt64, xJ, xJ, xJ, xJ, xJ, xJ] [] A12 := (xD_bex E d h_232 [64, 115, 149] 90 0 _ _ _).trans rfl
set_option maxRecDepth 100000 in
theorem e232_64 (E : Nat × (Nat → Int32)) (d : Nat) (r0 : Nat) (i1 : Int32) (w2 : Value) (j3 : Int64) (w5 : Value) (w6 : Value) (w7 : Value) (w8 : Value) (w9 : Value) (A : xH) : xD E (d + 1) 232 64 [.ref r0, .int i1, w2, .long j3, xJ, w5, w6, w7, w8, w9] [] A = (gI A r0 9 22).bind fun x1 => (gI A r0 9 23).bind fun x2 => if x2 ≤ x1 then some (some (.int ((j3).toInt32)), A) else (gI A r0 9 22).bind fun x3 => (xI (xC E d 220 [.ref r0, .int x3] A)).bind fun q4 => (pF q4.2 r0 9 24 (.int (0 : Int32))).bind fun A5 => (gI A5 r0 9 22).bind fun x6 => (pF A5 r0 9 22 (.int (x6 + (1 : Int32)))).bind fun A7 => if q4.1 = (2 : Int32) then xD E (d + 1) 232 115 [.ref r0, .int i1, xJ, .long j3, xJ, .int q4.1, xJ, xJ, xJ, xJ] [.long (1 : Int64)] A7 else (xLo (xC E d 223 [.ref r0, .int (1 : Int32)] A7)).bind fun q8 => xD E (d + 1) 232 115 [.ref r0, .int i1, xJ, .long j3, xJ, .int q4.1, xJ, xJ, xJ, xJ] [.long q8.1] q8.2 := (xD_bex E d h_232 [64, 115, 149] 90 64 _ _ _).trans rfl
set_option maxRecDepth 100000 in
theorem e232_115 (E : Nat × (Nat → Int32)) (d : Nat) (r0 : Nat) (i1 : Int32) (w2 : Value) (j3 : Int64) (i5 : Int32) (w6 : Value) (w7 : Value) (w8 : Value) (w9 : Value) (s0 : Int64) (A : xH) : xD E (d + 1) 232 115 [.ref r0, .int i1, w2, .long j3, xJ, .int i5, w6, w7, w8, w9] [.long s0] A = (gI A r0 9 24).bind fun x1 => (pF A r0 9 24 (.int (0 : Int32))).bind fun A2 => (xI (xC E d 221 [.ref r0, .int (3 : Int32)] A2)).bind fun q3 => if q3.1 = 0 then xD E (d + 1) 232 149 [.ref r0, .int i1, xJ, .long j3, xJ, .int i5, .long s0, xJ, .int x1, xJ] [.int (1 : Int32)] q3.2 else (xI (xC E d 227 [.ref r0, .int (1 : Int32)] q3.2)).bind fun q4 => if q4.1 = 0 then xD E (d + 1) 232 149 [.ref r0, .int i1, xJ, .long j3, xJ, .int i5, .long s0, xJ, .int x1, xJ] [.int (0 : Int32)] q4.2 else xD E (d + 1) 232 149 [.ref r0, .int i1, xJ, .long j3, xJ, .int i5, .long s0, xJ, .int x1, xJ] [.int (1 : Int32)] q4.2 := (xD_bex E d h_232 [64, 115, 149] 90 115 _ _ _).trans rfl
set_option maxRecDepth 100000 in
theorem e232_149 (E : Nat × (Nat → Int32)) (d : Nat) (r0 : Nat) (i1 : Int32) (w2 : Value) (j3 : Int64) (i5 : Int32) (j6 : Int64) (i8 : Int32) (w9 : Value) (s0 : Int32) (A : xH) : xD E (d + 1) 232 149 [.ref r0, .int i1, w2, .long j3, xJ, .int i5, .long j6, xJ, .int i8, w9] [.int s0] A = if i5 = i1 then if s0 = 0 then (gI A r0 9 22).bind fun x1 => (pF A r0 9 22 (.int (x1 + (1 : Int32)))).bind fun A2 => xD E (d + 1) 232 64 [.ref r0, .int i1, xJ, .long j3, xJ, .int i5, .long j6, xJ, .int i8, .int s0] [] A2 else (gI A r0 9 24).bind fun x3 => if x3 = 0 then if i8 = 0 then if 0 ≤ (lg_cmp j6 (0 : Int64)) then if (lg_cmp j6 (99 : Int64)) ≤ 0 then (gI A r0 9 22).bind fun x4 => (pF A r0 9 22 (.int (x4 + (1 : Int32)))).bind fun A5 => xD E (d + 1) 232 64 [.ref r0, .int i1, xJ, .long j6, xJ, .int i5, .long j6, xJ, .int i8, .int s0] [] A5 else (gI A r0 9 22).bind fun x6 => (pF A r0 9 22 (.int (x6 + (1 : Int32)))).bind fun A7 => xD E (d + 1) 232 64 [.ref r0, .int i1, xJ, .long (99 : Int64), xJ, .int i5, .long j6, xJ, .int i8, .int s0] [] A7 else (gI A r0 9 22).bind fun x8 => (pF A r0 9 22 (.int (x8 + (1 : Int32)))).bind fun A9 => xD E (d + 1) 232 64 [.ref r0, .int i1, xJ, .long (0 : Int64), xJ, .int i5, .long j6, xJ, .int i8, .int s0] [] A9 else (gI A r0 9 22).bind fun x10 => (pF A r0 9 22 (.int (x10 + (1 : Int32)))).bind fun A11 => xD E (d + 1) 232 64 [.ref r0, .int i1, xJ, .long j3, xJ, .int i5, .long j6, xJ, .int i8, .int s0] [] A11 else (gI A r0 9 22).bind fun x12 => (pF A r0 9 22 (.int (x12 + (1 : Int32)))).bind fun A13 => xD E (d + 1) 232 64 [.ref r0, .int i1, xJ, .long j3, xJ, .int i5, .long j6, xJ, .int i8, .int s0] [] A13 else (gI A r0 9 22).bind fun x14 => (pF A r0 9 22 (.int (x14 + (1 : Int32)))).bind fun A15 => xD E (d + 1) 232 64 [.ref r0, .int i1, xJ, .long j3, xJ, .int i5, .long j6, xJ, .int i8, .int s0] [] A15 := (xD_bex E d h_232 [64, 115, 149] 90 149 _ _ _).trans rfl
-- Model.costsOf (I)I
set_option maxRecDepth 100000 in
theorem h_233 : xprog[233]? = some M_233 := rfl
set_option maxRecDepth 100000 in
theorem e233_0 (E : Nat × (Nat → Int32)) (d : Nat) (r0 : Nat) (i1 : Int32) (A : xH) : xD E (d + 1) 233 0 [.ref r0, .int i1] [] A = (xV (xC E d 231 [.ref r0, .int i1, .int (-1 : Int32), .int (-1 : Int32)] A)).bind fun A1 => (xI (xC E d 232 [.ref r0, .int (1 : Int32), .int (1 : Int32)] A1)).bind fun q2 => some (some (.int q2.1), q2.2) := (xD_bex E d h_233 [] 90 0 _ _ _).trans rfl
-- Model.isBarred (I)Z
set_option maxRecDepth 100000 in
theorem h_234 : xprog[234]? = some M_234 := rfl
set_option maxRecDepth 100000 in
theorem e234_0 (E : Nat × (Nat → Int32)) (d : Nat) (r0 : Nat) (i1 : Int32) (A : xH) : xD E (d + 1) 234 0 [.ref r0, .int i1] [] A = (xI (xC E d 176 [.ref r0, .int i1] A)).bind fun q1 => (xI (xC E d 174 [.ref r0, .int i1] q1.2)).bind fun q2 => (xV (xC E d 231 [.ref r0, .int q1.1, .int i1, .int q2.1] q2.2)).bind fun A3 => (xI (xC E d 232 [.ref r0, .int (2 : Int32), .int (0 : Int32)] A3)).bind fun q4 => if q4.1 = (1 : Int32) then some (some (.int (1 : Int32)), q4.2) else some (some (.int (0 : Int32)), q4.2) := (xD_bex E d h_234 [] 90 0 _ _ _).trans rfl
-- Model.copies (II)V
set_option maxRecDepth 100000 in
theorem h_235 : xprog[235]? = some M_235 := rfl
set_option maxRecDepth 100000 in
theorem e235_0 (E : Nat × (Nat → Int32)) (d : Nat) (r0 : Nat) (i1 : Int32) (i2 : Int32) (A : xH) : xD E (d + 1) 235 0 [.ref r0, .int i1, .int i2, xJ] [] A = xD E (d + 1) 235 2 [.ref r0, .int i1, .int i2, .int (0 : Int32)] [] A := (xD_bex E d h_235 [2] 90 0 _ _ _).trans rfl
set_option maxRecDepth 100000 in
theorem e235_2 (E : Nat × (Nat → Int32)) (d : Nat) (r0 : Nat) (i1 : Int32) (i2 : Int32) (i3 : Int32) (A : xH) : xD E (d + 1) 235 2 [.ref r0, .int i1, .int i2, .int i3] [] A = if (10 : Int32) ≤ i3 then some (none, A) else (gN A r0 9 2).bind fun n1 => (gN A r0 9 2).bind fun n2 => (aI 0 A n2 (i1 + i3)).bind fun x3 => (sI 0 A n1 (i2 + i3) x3).bind fun A4 => xD E (d + 1) 235 2 [.ref r0, .int i1, .int i2, .int (i3 + (1 : Int32))] [] A4 := (xD_bex E d h_235 [2] 90 2 _ _ _).trans rfl
-- Model.doesEldest ()V
set_option maxRecDepth 100000 in
theorem h_236 : xprog[236]? = some M_236 := rfl
set_option maxRecDepth 100000 in
theorem e236_0 (E : Nat × (Nat → Int32)) (d : Nat) (r0 : Nat) (A : xH) : xD E (d + 1) 236 0 [.ref r0, xJ] [] A = (gN A r0 9 2).bind fun n1 => (aI 0 A n1 (480 : Int32)).bind fun x2 => (xI (xC E d 169 [.int x2, .int (0 : Int32)] A)).bind fun q3 => (xV (xC E d 235 [.ref r0, .int (482 : Int32), .int ((240 : Int32) + q3.1)] q3.2)).bind fun A4 => (gN A4 r0 9 2).bind fun n5 => (aI 0 A4 n5 (960 : Int32)).bind fun x6 => (sI 0 A4 n5 (960 : Int32) (x6 - (1 : Int32))).bind fun A7 => xD E (d + 1) 236 37 [.ref r0, .int (0 : Int32)] [] A7 := (xD_bex E d h_236 [37] 90 0 _ _ _).trans rfl
set_option maxRecDepth 100000 in
theorem e236_37 (E : Nat × (Nat → Int32)) (d : Nat) (r0 : Nat) (i1 : Int32) (A : xH) : xD E (d + 1) 236 37 [.ref r0, .int i1] [] A = (gN A r0 9 2).bind fun n1 => (aI 0 A n1 (960 : Int32)).bind fun x2 => if ((12 : Int32) * x2) ≤ i1 then some (none, A) else (gN A r0 9 2).bind fun n3 => (gN A r0 9 2).bind fun n4 => (aI 0 A n4 ((492 : Int32) + i1)).bind fun x5 => (sI 0 A n3 ((480 : Int32) + i1) x5).bind fun A6 => xD E (d + 1) 236 37 [.ref r0, .int (i1 + (1 : Int32))] [] A6 := (xD_bex E d h_236 [37] 90 37 _ _ _).trans rfl
-- Model.writes (I)V
set_option maxRecDepth 100000 in
theorem h_237 : xprog[237]? = some M_237 := rfl
set_option maxRecDepth 100000 in
theorem e237_0 (E : Nat × (Nat → Int32)) (d : Nat) (r0 : Nat) (i1 : Int32) (A : xH) : xD E (d + 1) 237 0 [.ref r0, .int i1, xJ] [] A = (gN A r0 9 2).bind fun n1 => (aI 0 A n1 (960 : Int32)).bind fun x2 => if x2 = (40 : Int32) then (xV (xC E d 236 [.ref r0] A)).bind fun A3 => xD E (d + 1) 237 17 [.ref r0, .int i1, xJ] [] A3 else xD E (d + 1) 237 17 [.ref r0, .int i1, xJ] [] A := (xD_bex E d h_237 [17, 95] 90 0 _ _ _).trans rfl
set_option maxRecDepth 100000 in
theorem e237_17 (E : Nat × (Nat → Int32)) (d : Nat) (r0 : Nat) (i1 : Int32) (w2 : Value) (A : xH) : xD E (d + 1) 237 17 [.ref r0, .int i1, w2] [] A = (gN A r0 9 2).bind fun n1 => (aI 0 A n1 (960 : Int32)).bind fun x2 => (xI (xC E d 182 [.int x2] A)).bind fun q3 => (gN q3.2 r0 9 2).bind fun n4 => (sI 0 q3.2 n4 (q3.1 + (0 : Int32)) i1).bind fun A5 => (gN A5 r0 9 2).bind fun n6 => (xI (xC E d 233 [.ref r0, .int i1] A5)).bind fun q7 => (sI 0 q7.2 n6 (q3.1 + (1 : Int32)) q7.1).bind fun A8 => (xI (xC E d 169 [.int i1, .int (0 : Int32)] A8)).bind fun q9 => (xV (xC E d 235 [.ref r0, .int q9.1, .int (q3.1 + (2 : Int32))] q9.2)).bind fun A10 => (gN A10 r0 9 2).bind fun n11 => (aI 0 A10 n11 (960 : Int32)).bind fun x12 => (sI 0 A10 n11 (960 : Int32) (x12 + (1 : Int32))).bind fun A13 => (gN A13 r0 9 2).bind fun n14 => (gN A13 r0 9 2).bind fun n15 => (aI 0 A13 n15 (962 : Int32)).bind fun x16 => xD E (d + 1) 237 95 [.ref r0, .int i1, .int q3.1] [.int (x16 + (1 : Int32)), .int (999 : Int32), .int (962 : Int32), .ref n14] A13 := (xD_bex E d h_237 [17, 95] 90 17 _ _ _).trans rfl
set_option maxRecDepth 100000 in
theorem e237_95 (E : Nat × (Nat → Int32)) (d : Nat) (w0 : Value) (w1 : Value) (w2 : Value) (s0 : Nat) (s1 : Int32) (s2 : Int32) (s3 : Int32) (A : xH) : xD E (d + 1) 237 95 [w0, w1, w2] [.int s3, .int s2, .int s1, .ref s0] A = (xI (xC E d 155 [.int s2, .int s3] A)).bind fun q1 => (sI 0 q1.2 s0 s1 q1.1).bind fun A2 => some (none, A2) := (xD_bex E d h_237 [17, 95] 90 95 _ _ _).trans rfl
-- Model.comesInto (III)V
set_option maxRecDepth 100000 in
theorem h_238 : xprog[238]? = some M_238 := rfl
set_option maxRecDepth 100000 in
theorem e238_0 (E : Nat × (Nat → Int32)) (d : Nat) (r0 : Nat) (i1 : Int32) (i2 : Int32) (i3 : Int32) (A : xH) : xD E (d + 1) 238 0 [.ref r0, .int i1, .int i2, .int i3, xJ] [] A = (gN A r0 9 2).bind fun n1 => (xI (xC E d 169 [.int i1, .int (3 : Int32)] A)).bind fun q2 => (aI 0 q2.2 n1 q2.1).bind fun x3 => (gN q2.2 r0 9 2).bind fun n4 => (xI (xC E d 169 [.int i1, .int ((4 : Int32) + x3)] q2.2)).bind fun q5 => (sI 0 q5.2 n4 q5.1 i2).bind fun A6 => (gN A6 r0 9 2).bind fun n7 => (xI (xC E d 169 [.int i1, .int ((7 : Int32) + x3)] A6)).bind fun q8 => (sI 0 q8.2 n7 q8.1 i3).bind fun A9 => (gN A9 r0 9 2).bind fun n10 => (xI (xC E d 169 [.int i1, .int (3 : Int32)] A9)).bind fun q11 => (sI 0 q11.2 n10 q11.1 (x3 + (1 : Int32))).bind fun A12 => some (none, A12) := (xD_bex E d h_238 [] 90 0 _ _ _).trans rfl
-- Model.goesOut (II)V
set_option maxRecDepth 100000 in
theorem h_239 : xprog[239]? = some M_239 := rfl
set_option maxRecDepth 100000 in
theorem e239_0 (E : Nat × (Nat → Int32)) (d : Nat) (r0 : Nat) (i1 : Int32) (i2 : Int32) (A : xH) : xD E (d + 1) 239 0 [.ref r0, .int i1, .int i2, xJ, xJ] [] A = (gN A r0 9 2).bind fun n1 => (xI (xC E d 169 [.int i1, .int (3 : Int32)] A)).bind fun q2 => (aI 0 q2.2 n1 q2.1).bind fun x3 => xD E (d + 1) 239 16 [.ref r0, .int i1, .int i2, .int (x3 - (1 : Int32)), .int i2] [] q2.2 := (xD_bex E d h_239 [16] 90 0 _ _ _).trans rfl
set_option maxRecDepth 100000 in
theorem e239_16 (E : Nat × (Nat → Int32)) (d : Nat) (r0 : Nat) (i1 : Int32) (w2 : Value) (i3 : Int32) (i4 : Int32) (A : xH) : xD E (d + 1) 239 16 [.ref r0, .int i1, w2, .int i3, .int i4] [] A = if i3 ≤ i4 then (gN A r0 9 2).bind fun n1 => (xI (xC E d 169 [.int i1, .int (3 : Int32)] A)).bind fun q2 => (sI 0 q2.2 n1 q2.1 i3).bind fun A3 => some (none, A3) else (gN A r0 9 2).bind fun n4 => (xI (xC E d 169 [.int i1, .int ((4 : Int32) + i4)] A)).bind fun q5 => (gN q5.2 r0 9 2).bind fun n6 => (xI (xC E d 169 [.int i1, .int (((4 : Int32) + i4) + (1 : Int32))] q5.2)).bind fun q7 => (aI 0 q7.2 n6 q7.1).bind fun x8 => (sI 0 q7.2 n4 q5.1 x8).bind fun A9 => (gN A9 r0 9 2).bind fun n10 => (xI (xC E d 169 [.int i1, .int ((7 : Int32) + i4)] A9)).bind fun q11 => (gN q11.2 r0 9 2).bind fun n12 => (xI (xC E d 169 [.int i1, .int (((7 : Int32) + i4) + (1 : Int32))] q11.2)).bind fun q13 => (aI 0 q13.2 n12 q13.1).bind fun x14 => (sI 0 q13.2 n10 q11.1 x14).bind fun A15 => xD E (d + 1) 239 16 [.ref r0, .int i1, xJ, .int i3, .int (i4 + (1 : Int32))] [] A15 := (xD_bex E d h_239 [16] 90 16 _ _ _).trans rfl
-- Model.lowestFree ()I
set_option maxRecDepth 100000 in
theorem h_240 : xprog[240]? = some M_240 := rfl
set_option maxRecDepth 100000 in
theorem e240_0 (E : Nat × (Nat → Int32)) (d : Nat) (r0 : Nat) (A : xH) : xD E (d + 1) 240 0 [.ref r0, xJ] [] A = xD E (d + 1) 240 2 [.ref r0, .int (0 : Int32)] [] A := (xD_bex E d h_240 [2] 90 0 _ _ _).trans rfl
set_option maxRecDepth 100000 in
theorem e240_2 (E : Nat × (Nat → Int32)) (d : Nat) (r0 : Nat) (i1 : Int32) (A : xH) : xD E (d + 1) 240 2 [.ref r0, .int i1] [] A = if (24 : Int32) ≤ i1 then if i1 = (24 : Int32) then some (some (.int (-1 : Int32)), A) else some (some (.int i1), A) else (xI (xC E d 170 [.ref r0, .int i1] A)).bind fun q1 => if q1.1 = 0 then if i1 = (24 : Int32) then some (some (.int (-1 : Int32)), q1.2) else some (some (.int i1), q1.2) else xD E (d + 1) 240 2 [.ref r0, .int (i1 + (1 : Int32))] [] q1.2 := (xD_bex E d h_240 [2] 90 2 _ _ _).trans rfl
-- Model.splits0 (I)Z
set_option maxRecDepth 100000 in
theorem h_241 : xprog[241]? = some M_241 := rfl
set_option maxRecDepth 100000 in
theorem e241_0 (E : Nat × (Nat → Int32)) (d : Nat) (r0 : Nat) (i1 : Int32) (A : xH) : xD E (d + 1) 241 0 [.ref r0, .int i1, xJ, xJ, xJ, xJ] [] A = (gN A r0 9 2).bind fun n1 => (xI (xC E d 169 [.int i1, .int (1 : Int32)] A)).bind fun q2 => (aI 0 q2.2 n1 q2.1).bind fun x3 => (xI (xC E d 240 [.ref r0] q2.2)).bind fun q4 => if x3 = (6 : Int32) then some (some (.int (0 : Int32)), q4.2) else if q4.1 = (-1 : Int32) then some (some (.int (0 : Int32)), q4.2) else (gN q4.2 r0 9 2).bind fun n5 => (aI 0 q4.2 n5 (961 : Int32)).bind fun x6 => if x3 = x6 then (gN q4.2 r0 9 2).bind fun n7 => (aI 0 q4.2 n7 (961 : Int32)).bind fun x8 => (sI 0 q4.2 n7 (961 : Int32) (x8 + (1 : Int32))).bind fun A9 => xD E (d + 1) 241 53 [.ref r0, .int i1, .int x3, .int q4.1, xJ, xJ] [] A9 else xD E (d + 1) 241 53 [.ref r0, .int i1, .int x3, .int q4.1, xJ, xJ] [] q4.2 := (xD_bex E d h_241 [53, 125, 128] 90 0 _ _ _).trans rfl
set_option maxRecDepth 100000 in
theorem e241_53 (E : Nat × (Nat → Int32)) (d : Nat) (r0 : Nat) (i1 : Int32) (i2 : Int32) (i3 : Int32) (w4 : Value) (w5 : Value) (A : xH) : xD E (d + 1) 241 53 [.ref r0, .int i1, .int i2, .int i3, w4, w5] [] A = (gN A r0 9 2).bind fun n1 => (xI (xC E d 169 [.int i3, .int (0 : Int32)] A)).bind fun q2 => (sI 0 q2.2 n1 q2.1 (1 : Int32)).bind fun A3 => (gN A3 r0 9 2).bind fun n4 => (xI (xC E d 169 [.int i3, .int (1 : Int32)] A3)).bind fun q5 => (sI 0 q5.2 n4 q5.1 (i2 + (1 : Int32))).bind fun A6 => (gN A6 r0 9 2).bind fun n7 => (xI (xC E d 169 [.int i3, .int (2 : Int32)] A6)).bind fun q8 => (gN q8.2 r0 9 2).bind fun n9 => (xI (xC E d 169 [.int i1, .int (2 : Int32)] q8.2)).bind fun q10 => (aI 0 q10.2 n9 q10.1).bind fun x11 => (sI 0 q10.2 n7 q8.1 (x11 + ((1 : Int32) <<< (i2 &&& 31)))).bind fun A12 => (gN A12 r0 9 2).bind fun n13 => (xI (xC E d 169 [.int i3, .int (3 : Int32)] A12)).bind fun q14 => (sI 0 q14.2 n13 q14.1 (0 : Int32)).bind fun A15 => (gN A15 r0 9 2).bind fun n16 => (xI (xC E d 169 [.int i1, .int (1 : Int32)] A15)).bind fun q17 => (sI 0 q17.2 n16 q17.1 (i2 + (1 : Int32))).bind fun A18 => xD E (d + 1) 241 125 [.ref r0, .int i1, .int i2, .int i3, xJ, xJ] [] A18 := (xD_bex E d h_241 [53, 125, 128] 90 53 _ _ _).trans rfl
set_option maxRecDepth 100000 in
theorem e241_125 (E : Nat × (Nat → Int32)) (d : Nat) (r0 : Nat) (i1 : Int32) (i2 : Int32) (i3 : Int32) (w4 : Value) (w5 : Value) (A : xH) : xD E (d + 1) 241 125 [.ref r0, .int i1, .int i2, .int i3, w4, w5] [] A = xD E (d + 1) 241 128 [.ref r0, .int i1, .int i2, .int i3, .int (0 : Int32), xJ] [] A := (xD_bex E d h_241 [53, 125, 128] 90 125 _ _ _).trans rfl
set_option maxRecDepth 100000 in
theorem e241_128 (E : Nat × (Nat → Int32)) (d : Nat) (r0 : Nat) (i1 : Int32) (i2 : Int32) (i3 : Int32) (i4 : Int32) (w5 : Value) (A : xH) : xD E (d + 1) 241 128 [.ref r0, .int i1, .int i2, .int i3, .int i4, w5] [] A = (gN A r0 9 2).bind fun n1 => (xI (xC E d 169 [.int i1, .int (3 : Int32)] A)).bind fun q2 => (aI 0 q2.2 n1 q2.1).bind fun x3 => if x3 ≤ i4 then (xV (xC E d 237 [.ref r0, .int i3] q2.2)).bind fun A4 => (xV (xC E d 237 [.ref r0, .int i1] A4)).bind fun A5 => some (some (.int (1 : Int32)), A5) else (gN q2.2 r0 9 2).bind fun n6 => (xI (xC E d 169 [.int i1, .int ((4 : Int32) + i4)] q2.2)).bind fun q7 => (aI 0 q7.2 n6 q7.1).bind fun x8 => (xI (xC E d 174 [.ref r0, .int x8] q7.2)).bind fun q9 => (xI (xC E d 160 [.int q9.1, .int i2] q9.2)).bind fun q10 => if q10.1 = 0 then xD E (d + 1) 241 128 [.ref r0, .int i1, .int i2, .int i3, .int (i4 + (1 : Int32)), .int x8] [] q10.2 else (gN q10.2 r0 9 2).bind fun n11 => (xI (xC E d 169 [.int i1, .int ((7 : Int32) + i4)] q10.2)).bind fun q12 => (aI 0 q12.2 n11 q12.1).bind fun x13 => (xV (xC E d 238 [.ref r0, .int i3, .int x8, .int x13] q12.2)).bind fun A14 => (xV (xC E d 239 [.ref r0, .int i1, .int i4] A14)).bind fun A15 => xD E (d + 1) 241 128 [.ref r0, .int i1, .int i2, .int i3, .int i4, .int x8] [] A15 := (xD_bex E d h_241 [53, 125, 128] 90 128 _ _ _).trans rfl
-- Model.comes (II)I
set_option maxRecDepth 100000 in
theorem h_242 : xprog[242]? = some M_242 := rfl
set_option maxRecDepth 100000 in
theorem e242_0 (E : Nat × (Nat → Int32)) (d : Nat) (r0 : Nat) (i1 : Int32) (i2 : Int32) (A : xH) : xD E (d + 1) 242 0 [.ref r0, .int i1, .int i2, xJ] [] A = xD E (d + 1) 242 2 [.ref r0, .int i1, .int i2, .int (0 : Int32)] [] A := (xD_bex E d h_242 [2] 90 0 _ _ _).trans rfl
set_option maxRecDepth 100000 in
theorem e242_2 (E : Nat × (Nat → Int32)) (d : Nat) (r0 : Nat) (i1 : Int32) (i2 : Int32) (i3 : Int32) (A : xH) : xD E (d + 1) 242 2 [.ref r0, .int i1, .int i2, .int i3] [] A = (gN A r0 9 2).bind fun n1 => (xI (xC E d 176 [.ref r0, .int i1] A)).bind fun q2 => (xI (xC E d 169 [.int q2.1, .int (3 : Int32)] q2.2)).bind fun q3 => (aI 0 q3.2 n1 q3.1).bind fun x4 => if x4 = (3 : Int32) then (xI (xC E d 176 [.ref r0, .int i1] q3.2)).bind fun q5 => (xI (xC E d 241 [.ref r0, .int q5.1] q5.2)).bind fun q6 => if q6.1 = 0 then some (some (.int (-1 : Int32)), q6.2) else xD E (d + 1) 242 2 [.ref r0, .int i1, .int i2, .int (i3 + (1 : Int32))] [] q6.2 else (xI (xC E d 176 [.ref r0, .int i1] q3.2)).bind fun q7 => (xV (xC E d 238 [.ref r0, .int q7.1, .int i1, .int i2] q7.2)).bind fun A8 => (xI (xC E d 176 [.ref r0, .int i1] A8)).bind fun q9 => (xV (xC E d 237 [.ref r0, .int q9.1] q9.2)).bind fun A10 => some (some (.int i3), A10) := (xD_bex E d h_242 [2] 90 2 _ _ _).trans rfl
-- Model.puts (II)I
set_option maxRecDepth 100000 in
theorem h_243 : xprog[243]? = some M_243 := rfl
set_option maxRecDepth 100000 in
theorem e243_0 (E : Nat × (Nat → Int32)) (d : Nat) (r0 : Nat) (i1 : Int32) (i2 : Int32) (A : xH) : xD E (d + 1) 243 0 [.ref r0, .int i1, .int i2, xJ, xJ] [] A = (xI (xC E d 163 [.int i1] A)).bind fun q1 => if q1.1 = 0 then some (some (.int (-1 : Int32)), q1.2) else (xI (xC E d 154 [.int i2, .int (0 : Int32), .int (99 : Int32)] q1.2)).bind fun q2 => if q2.1 = 0 then some (some (.int (-1 : Int32)), q2.2) else (xI (xC E d 177 [.ref r0, .int i1] q2.2)).bind fun q3 => if q3.1 = (-1 : Int32) then (xI (xC E d 234 [.ref r0, .int i1] q3.2)).bind fun q4 => if q4.1 = 0 then (xV (xC E d 165 [.ref r0, .int (2 : Int32)] q4.2)).bind fun A5 => (xI (xC E d 242 [.ref r0, .int i1, .int i2] A5)).bind fun q6 => if q6.1 = (-1 : Int32) then (xV (xC E d 166 [.ref r0, .int (2 : Int32)] q6.2)).bind fun A7 => some (some (.int (-5 : Int32)), A7) else some (some (.int q6.1), q6.2) else some (some (.int (-3 : Int32)), q4.2) else (gN q3.2 r0 9 2).bind fun n8 => (xI (xC E d 176 [.ref r0, .int i1] q3.2)).bind fun q9 => (xI (xC E d 169 [.int q9.1, .int ((7 : Int32) + q3.1)] q9.2)).bind fun q10 => (sI 0 q10.2 n8 q10.1 i2).bind fun A11 => (xI (xC E d 176 [.ref r0, .int i1] A11)).bind fun q12 => (xV (xC E d 237 [.ref r0, .int q12.1] q12.2)).bind fun A13 => some (some (.int (0 : Int32)), A13) := (xD_bex E d h_243 [] 90 0 _ _ _).trans rfl
-- Model.twinOf (I)I
set_option maxRecDepth 100000 in
theorem h_244 : xprog[244]? = some M_244 := rfl
set_option maxRecDepth 100000 in
theorem e244_0 (E : Nat × (Nat → Int32)) (d : Nat) (r0 : Nat) (i1 : Int32) (A : xH) : xD E (d + 1) 244 0 [.ref r0, .int i1, xJ, xJ] [] A = (gN A r0 9 2).bind fun n1 => (xI (xC E d 169 [.int i1, .int (1 : Int32)] A)).bind fun q2 => (aI 0 q2.2 n1 q2.1).bind fun x3 => xD E (d + 1) 244 13 [.ref r0, .int i1, .int x3, .int (0 : Int32)] [] q2.2 := (xD_bex E d h_244 [13] 90 0 _ _ _).trans rfl
set_option maxRecDepth 100000 in
theorem e244_13 (E : Nat × (Nat → Int32)) (d : Nat) (r0 : Nat) (i1 : Int32) (i2 : Int32) (i3 : Int32) (A : xH) : xD E (d + 1) 244 13 [.ref r0, .int i1, .int i2, .int i3] [] A = if (24 : Int32) ≤ i3 then some (some (.int (-1 : Int32)), A) else if i2 ≤ 0 then some (some (.int (-1 : Int32)), A) else (xI (xC E d 170 [.ref r0, .int i3] A)).bind fun q1 => if q1.1 = 0 then xD E (d + 1) 244 13 [.ref r0, .int i1, .int i2, .int (i3 + (1 : Int32))] [] q1.2 else (gN q1.2 r0 9 2).bind fun n2 => (xI (xC E d 169 [.int i3, .int (1 : Int32)] q1.2)).bind fun q3 => (aI 0 q3.2 n2 q3.1).bind fun x4 => if x4 = i2 then (gN q3.2 r0 9 2).bind fun n5 => (xI (xC E d 169 [.int i3, .int (2 : Int32)] q3.2)).bind fun q6 => (aI 0 q6.2 n5 q6.1).bind fun x7 => (gN q6.2 r0 9 2).bind fun n8 => (xI (xC E d 169 [.int i1, .int (2 : Int32)] q6.2)).bind fun q9 => (aI 0 q9.2 n8 q9.1).bind fun x10 => if (x7 ^^^ x10) = ((1 : Int32) <<< ((i2 - (1 : Int32)) &&& 31)) then some (some (.int i3), q9.2) else xD E (d + 1) 244 13 [.ref r0, .int i1, .int i2, .int (i3 + (1 : Int32))] [] q9.2 else xD E (d + 1) 244 13 [.ref r0, .int i1, .int i2, .int (i3 + (1 : Int32))] [] q3.2 := (xD_bex E d h_244 [13] 90 13 _ _ _).trans rfl
-- Model.canJoin (I)Z
set_option maxRecDepth 100000 in
theorem h_245 : xprog[245]? = some M_245 := rfl
set_option maxRecDepth 100000 in
theorem e245_0 (E : Nat × (Nat → Int32)) (d : Nat) (r0 : Nat) (i1 : Int32) (A : xH) : xD E (d + 1) 245 0 [.ref r0, .int i1, xJ] [] A = (xI (xC E d 244 [.ref r0, .int i1] A)).bind fun q1 => if q1.1 = (-1 : Int32) then some (some (.int (0 : Int32)), q1.2) else (gN q1.2 r0 9 2).bind fun n2 => (xI (xC E d 169 [.int i1, .int (3 : Int32)] q1.2)).bind fun q3 => (aI 0 q3.2 n2 q3.1).bind fun x4 => (gN q3.2 r0 9 2).bind fun n5 => (xI (xC E d 169 [.int q1.1, .int (3 : Int32)] q3.2)).bind fun q6 => (aI 0 q6.2 n5 q6.1).bind fun x7 => if (3 : Int32) < (x4 + x7) then some (some (.int (0 : Int32)), q6.2) else some (some (.int (1 : Int32)), q6.2) := (xD_bex E d h_245 [] 90 0 _ _ _).trans rfl
-- Model.joins (I)I
set_option maxRecDepth 100000 in
theorem h_246 : xprog[246]? = some M_246 := rfl
set_option maxRecDepth 100000 in
theorem e246_0 (E : Nat × (Nat → Int32)) (d : Nat) (r0 : Nat) (i1 : Int32) (A : xH) : xD E (d + 1) 246 0 [.ref r0, .int i1, xJ, xJ, xJ, xJ, xJ] [] A = (xI (xC E d 244 [.ref r0, .int i1] A)).bind fun q1 => (gN q1.2 r0 9 2).bind fun n2 => (xI (xC E d 169 [.int i1, .int (2 : Int32)] q1.2)).bind fun q3 => (aI 0 q3.2 n2 q3.1).bind fun x4 => (gN q3.2 r0 9 2).bind fun n5 => (xI (xC E d 169 [.int q1.1, .int (2 : Int32)] q3.2)).bind fun q6 => (aI 0 q6.2 n5 q6.1).bind fun x7 => if x7 ≤ x4 then xD E (d + 1) 246 34 [.ref r0, .int i1, .int q1.1, xJ, xJ, xJ, xJ] [.int (0 : Int32)] q6.2 else xD E (d + 1) 246 34 [.ref r0, .int i1, .int q1.1, xJ, xJ, xJ, xJ] [.int (1 : Int32)] q6.2 := (xD_bex E d h_246 [34, 55, 75] 90 0 _ _ _).trans rfl
set_option maxRecDepth 100000 in
theorem e246_34 (E : Nat × (Nat → Int32)) (d : Nat) (r0 : Nat) (i1 : Int32) (i2 : Int32) (w3 : Value) (w4 : Value) (w5 : Value) (w6 : Value) (s0 : Int32) (A : xH) : xD E (d + 1) 246 34 [.ref r0, .int i1, .int i2, w3, w4, w5, w6] [.int s0] A = if s0 = 0 then if s0 = 0 then xD E (d + 1) 246 55 [.ref r0, .int i1, .int i2, .int s0, .int i2, xJ, xJ] [.int i1] A else xD E (d + 1) 246 55 [.ref r0, .int i1, .int i2, .int s0, .int i2, xJ, xJ] [.int i2] A else if s0 = 0 then xD E (d + 1) 246 55 [.ref r0, .int i1, .int i2, .int s0, .int i1, xJ, xJ] [.int i1] A else xD E (d + 1) 246 55 [.ref r0, .int i1, .int i2, .int s0, .int i1, xJ, xJ] [.int i2] A := (xD_bex E d h_246 [34, 55, 75] 90 34 _ _ _).trans rfl
set_option maxRecDepth 100000 in
theorem e246_55 (E : Nat × (Nat → Int32)) (d : Nat) (r0 : Nat) (w1 : Value) (w2 : Value) (w3 : Value) (i4 : Int32) (w5 : Value) (w6 : Value) (s0 : Int32) (A : xH) : xD E (d + 1) 246 55 [.ref r0, w1, w2, w3, .int i4, w5, w6] [.int s0] A = (gN A r0 9 2).bind fun n1 => (xI (xC E d 169 [.int i4, .int (1 : Int32)] A)).bind fun q2 => (aI 0 q2.2 n1 q2.1).bind fun x3 => (sI 0 q2.2 n1 q2.1 (x3 - (1 : Int32))).bind fun A4 => xD E (d + 1) 246 75 [.ref r0, xJ, xJ, xJ, .int i4, .int s0, .int (0 : Int32)] [] A4 := (xD_bex E d h_246 [34, 55, 75] 90 55 _ _ _).trans rfl
set_option maxRecDepth 100000 in
theorem e246_75 (E : Nat × (Nat → Int32)) (d : Nat) (r0 : Nat) (w1 : Value) (w2 : Value) (w3 : Value) (i4 : Int32) (i5 : Int32) (i6 : Int32) (A : xH) : xD E (d + 1) 246 75 [.ref r0, w1, w2, w3, .int i4, .int i5, .int i6] [] A = (gN A r0 9 2).bind fun n1 => (xI (xC E d 169 [.int i5, .int (3 : Int32)] A)).bind fun q2 => (aI 0 q2.2 n1 q2.1).bind fun x3 => if x3 ≤ i6 then (gN q2.2 r0 9 2).bind fun n4 => (xI (xC E d 169 [.int i5, .int (0 : Int32)] q2.2)).bind fun q5 => (sI 0 q5.2 n4 q5.1 (0 : Int32)).bind fun A6 => (gN A6 r0 9 2).bind fun n7 => (xI (xC E d 169 [.int i5, .int (3 : Int32)] A6)).bind fun q8 => (sI 0 q8.2 n7 q8.1 (0 : Int32)).bind fun A9 => (xV (xC E d 237 [.ref r0, .int i4] A9)).bind fun A10 => (xV (xC E d 237 [.ref r0, .int i5] A10)).bind fun A11 => some (some (.int i4), A11) else (gN q2.2 r0 9 2).bind fun n12 => (xI (xC E d 169 [.int i5, .int ((4 : Int32) + i6)] q2.2)).bind fun q13 => (aI 0 q13.2 n12 q13.1).bind fun x14 => (gN q13.2 r0 9 2).bind fun n15 => (xI (xC E d 169 [.int i5, .int ((7 : Int32) + i6)] q13.2)).bind fun q16 => (aI 0 q16.2 n15 q16.1).bind fun x17 => (xV (xC E d 238 [.ref r0, .int i4, .int x14, .int x17] q16.2)).bind fun A18 => xD E (d + 1) 246 75 [.ref r0, xJ, xJ, xJ, .int i4, .int i5, .int (i6 + (1 : Int32))] [] A18 := (xD_bex E d h_246 [34, 55, 75] 90 75 _ _ _).trans rfl
-- Model.deepestOf ()I
set_option maxRecDepth 100000 in
theorem h_247 : xprog[247]? = some M_247 := rfl
set_option maxRecDepth 100000 in
theorem e247_0 (E : Nat × (Nat → Int32)) (d : Nat) (r0 : Nat) (A : xH) : xD E (d + 1) 247 0 [.ref r0, xJ, xJ] [] A = xD E (d + 1) 247 4 [.ref r0, .int (0 : Int32), .int (0 : Int32)] [] A := (xD_bex E d h_247 [4] 90 0 _ _ _).trans rfl
set_option maxRecDepth 100000 in
theorem e247_4 (E : Nat × (Nat → Int32)) (d : Nat) (r0 : Nat) (i1 : Int32) (i2 : Int32) (A : xH) : xD E (d + 1) 247 4 [.ref r0, .int i1, .int i2] [] A = if (24 : Int32) ≤ i2 then some (some (.int i1), A) else (xI (xC E d 170 [.ref r0, .int i2] A)).bind fun q1 => if q1.1 = 0 then xD E (d + 1) 247 4 [.ref r0, .int i1, .int (i2 + (1 : Int32))] [] q1.2 else (gN q1.2 r0 9 2).bind fun n2 => (xI (xC E d 169 [.int i2, .int (1 : Int32)] q1.2)).bind fun q3 => (aI 0 q3.2 n2 q3.1).bind fun x4 => (xI (xC E d 156 [.int i1, .int x4] q3.2)).bind fun q5 => xD E (d + 1) 247 4 [.ref r0, .int q5.1, .int (i2 + (1 : Int32))] [] q5.2 := (xD_bex E d h_247 [4] 90 4 _ _ _).trans rfl
-- Model.drops (I)I
set_option maxRecDepth 100000 in
theorem h_248 : xprog[248]? = some M_248 := rfl
set_option maxRecDepth 100000 in
theorem e248_0 (E : Nat × (Nat → Int32)) (d : Nat) (r0 : Nat) (i1 : Int32) (A : xH) : xD E (d + 1) 248 0 [.ref r0, .int i1, xJ, xJ, xJ] [] A = (xI (xC E d 163 [.int i1] A)).bind fun q1 => if q1.1 = 0 then some (some (.int (-1 : Int32)), q1.2) else (xI (xC E d 177 [.ref r0, .int i1] q1.2)).bind fun q2 => if q2.1 = (-1 : Int32) then some (some (.int (-3 : Int32)), q2.2) else (xI (xC E d 176 [.ref r0, .int i1] q2.2)).bind fun q3 => (xV (xC E d 239 [.ref r0, .int q3.1, .int q2.1] q3.2)).bind fun A4 => (xV (xC E d 237 [.ref r0, .int q3.1] A4)).bind fun A5 => xD E (d + 1) 248 43 [.ref r0, .int i1, .int q2.1, .int q3.1, .int (0 : Int32)] [] A5 := (xD_bex E d h_248 [43] 90 0 _ _ _).trans rfl
set_option maxRecDepth 100000 in
theorem e248_43 (E : Nat × (Nat → Int32)) (d : Nat) (r0 : Nat) (w1 : Value) (w2 : Value) (i3 : Int32) (i4 : Int32) (A : xH) : xD E (d + 1) 248 43 [.ref r0, w1, w2, .int i3, .int i4] [] A = (xI (xC E d 245 [.ref r0, .int i3] A)).bind fun q1 => if q1.1 = 0 then (gN q1.2 r0 9 2).bind fun n2 => (xI (xC E d 247 [.ref r0] q1.2)).bind fun q3 => (sI 0 q3.2 n2 (961 : Int32) q3.1).bind fun A4 => some (some (.int i4), A4) else (xI (xC E d 246 [.ref r0, .int i3] q1.2)).bind fun q5 => xD E (d + 1) 248 43 [.ref r0, xJ, xJ, .int q5.1, .int (i4 + (1 : Int32))] [] q5.2 := (xD_bex E d h_248 [43] 90 43 _ _ _).trans rfl
-- Model.deepestPage (I)I
set_option maxRecDepth 100000 in
theorem h_249 : xprog[249]? = some M_249 := rfl
set_option maxRecDepth 100000 in
theorem e249_0 (E : Nat × (Nat → Int32)) (d : Nat) (r0 : Nat) (i1 : Int32) (A : xH) : xD E (d + 1) 249 0 [.ref r0, .int i1, xJ, xJ, xJ] [] A = xD E (d + 1) 249 4 [.ref r0, .int i1, .int (-1 : Int32), .int (0 : Int32), xJ] [] A := (xD_bex E d h_249 [4, 89] 90 0 _ _ _).trans rfl
set_option maxRecDepth 100000 in
theorem e249_4 (E : Nat × (Nat → Int32)) (d : Nat) (r0 : Nat) (i1 : Int32) (i2 : Int32) (i3 : Int32) (w4 : Value) (A : xH) : xD E (d + 1) 249 4 [.ref r0, .int i1, .int i2, .int i3, w4] [] A = if (24 : Int32) ≤ i3 then some (some (.int i2), A) else (xI (xC E d 169 [.int i3, .int (0 : Int32)] A)).bind fun q1 => (gN q1.2 r0 9 2).bind fun n2 => (aI 0 q1.2 n2 (((240 : Int32) + q1.1) + (0 : Int32))).bind fun x3 => if x3 = 0 then xD E (d + 1) 249 4 [.ref r0, .int i1, .int i2, .int (i3 + (1 : Int32)), .int ((240 : Int32) + q1.1)] [] q1.2 else (gN q1.2 r0 9 2).bind fun n4 => (aI 0 q1.2 n4 (((240 : Int32) + q1.1) + (2 : Int32))).bind fun x5 => (gN q1.2 r0 9 2).bind fun n6 => (aI 0 q1.2 n6 (((240 : Int32) + q1.1) + (1 : Int32))).bind fun x7 => (xI (xC E d 173 [.int i1, .int x7] q1.2)).bind fun q8 => if x5 = q8.1 then if i2 = (-1 : Int32) then xD E (d + 1) 249 4 [.ref r0, .int i1, .int i3, .int (i3 + (1 : Int32)), .int ((240 : Int32) + q1.1)] [] q8.2 else (gN q8.2 r0 9 2).bind fun n9 => (aI 0 q8.2 n9 (((240 : Int32) + q1.1) + (1 : Int32))).bind fun x10 => (gN q8.2 r0 9 2).bind fun n11 => (xI (xC E d 169 [.int i2, .int (1 : Int32)] q8.2)).bind fun q12 => (aI 0 q12.2 n11 ((240 : Int32) + q12.1)).bind fun x13 => xD E (d + 1) 249 89 [.ref r0, .int i1, .int i2, .int i3, .int ((240 : Int32) + q1.1)] [.int x13, .int x10] q12.2 else xD E (d + 1) 249 4 [.ref r0, .int i1, .int i2, .int (i3 + (1 : Int32)), .int ((240 : Int32) + q1.1)] [] q8.2 := (xD_bex E d h_249 [4, 89] 90 4 _ _ _).trans rfl
set_option maxRecDepth 100000 in
theorem e249_89 (E : Nat × (Nat → Int32)) (d : Nat) (r0 : Nat) (i1 : Int32) (i2 : Int32) (i3 : Int32) (w4 : Value) (s0 : Int32) (s1 : Int32) (A : xH) : xD E (d + 1) 249 89 [.ref r0, .int i1, .int i2, .int i3, w4] [.int s1, .int s0] A = if s0 ≤ s1 then xD E (d + 1) 249 4 [.ref r0, .int i1, .int i2, .int (i3 + (1 : Int32)), xJ] [] A else xD E (d + 1) 249 4 [.ref r0, .int i1, .int i3, .int (i3 + (1 : Int32)), xJ] [] A := (xD_bex E d h_249 [4, 89] 90 89 _ _ _).trans rfl
-- Model.builds (II)V
set_option maxRecDepth 100000 in
theorem h_250 : xprog[250]? = some M_250 := rfl
set_option maxRecDepth 100000 in
theorem e250_0 (E : Nat × (Nat → Int32)) (d : Nat) (r0 : Nat) (i1 : Int32) (i2 : Int32) (A : xH) : xD E (d + 1) 250 0 [.ref r0, .int i1, .int i2, xJ, xJ, xJ, xJ, xJ] [] A = (xI (xC E d 169 [.int i1, .int (0 : Int32)] A)).bind fun q1 => xD E (d + 1) 250 23 [.ref r0, .int i1, .int i2, .int ((240 : Int32) + q1.1), .int (0 : Int32), .int (0 : Int32), .int (((1 : Int32) <<< (i2 &&& 31)) - (1 : Int32)), xJ] [] q1.2 := (xD_bex E d h_250 [23, 58, 94, 133, 146] 90 0 _ _ _).trans rfl
set_option maxRecDepth 100000 in
theorem e250_23 (E : Nat × (Nat → Int32)) (d : Nat) (r0 : Nat) (i1 : Int32) (i2 : Int32) (i3 : Int32) (i4 : Int32) (i5 : Int32) (i6 : Int32) (w7 : Value) (A : xH) : xD E (d + 1) 250 23 [.ref r0, .int i1, .int i2, .int i3, .int i4, .int i5, .int i6, w7] [] A = if i6 < 0 then xD E (d + 1) 250 58 [.ref r0, .int i1, .int i2, .int i3, .int i4, .int i5, .int i2, xJ] [] A else (gN A r0 9 29).bind fun n1 => (aI 0 A n1 i6).bind fun x2 => if x2 = i1 then xD E (d + 1) 250 23 [.ref r0, .int i1, .int i2, .int i3, .int (i4 + (1 : Int32)), .int i6, .int (i6 + (-1 : Int32)), xJ] [] A else xD E (d + 1) 250 23 [.ref r0, .int i1, .int i2, .int i3, .int i4, .int i5, .int (i6 + (-1 : Int32)), xJ] [] A := (xD_bex E d h_250 [23, 58, 94, 133, 146] 90 23 _ _ _).trans rfl
set_option maxRecDepth 100000 in
theorem e250_58 (E : Nat × (Nat → Int32)) (d : Nat) (r0 : Nat) (i1 : Int32) (i2 : Int32) (i3 : Int32) (i4 : Int32) (i5 : Int32) (i6 : Int32) (w7 : Value) (A : xH) : xD E (d + 1) 250 58 [.ref r0, .int i1, .int i2, .int i3, .int i4, .int i5, .int i6, w7] [] A = if i4 ≤ ((1 : Int32) <<< ((i2 - i6) &&& 31)) then (gN A r0 9 2).bind fun n1 => (xI (xC E d 169 [.int i1, .int (0 : Int32)] A)).bind fun q2 => if i4 ≤ 0 then xD E (d + 1) 250 94 [.ref r0, .int i1, .int i2, .int i3, .int i4, .int i5, .int i6, xJ] [.int (0 : Int32), .int q2.1, .ref n1] q2.2 else xD E (d + 1) 250 94 [.ref r0, .int i1, .int i2, .int i3, .int i4, .int i5, .int i6, xJ] [.int (1 : Int32), .int q2.1, .ref n1] q2.2 else xD E (d + 1) 250 58 [.ref r0, .int i1, .int i2, .int i3, .int i4, .int i5, .int (i6 + (-1 : Int32)), xJ] [] A := (xD_bex E d h_250 [23, 58, 94, 133, 146] 90 58 _ _ _).trans rfl
set_option maxRecDepth 100000 in
theorem e250_94 (E : Nat × (Nat → Int32)) (d : Nat) (r0 : Nat) (i1 : Int32) (i2 : Int32) (i3 : Int32) (i4 : Int32) (i5 : Int32) (i6 : Int32) (w7 : Value) (s0 : Nat) (s1 : Int32) (s2 : Int32) (A : xH) : xD E (d + 1) 250 94 [.ref r0, .int i1, .int i2, .int i3, .int i4, .int i5, .int i6, w7] [.int s2, .int s1, .ref s0] A = (sI 0 A s0 s1 s2).bind fun A1 => (gN A1 r0 9 2).bind fun n2 => (xI (xC E d 169 [.int i1, .int (1 : Int32)] A1)).bind fun q3 => (sI 0 q3.2 n2 q3.1 i6).bind fun A4 => (gN A4 r0 9 2).bind fun n5 => (xI (xC E d 169 [.int i1, .int (2 : Int32)] A4)).bind fun q6 => (sI 0 q6.2 n5 q6.1 i5).bind fun A7 => (gN A7 r0 9 2).bind fun n8 => (xI (xC E d 169 [.int i1, .int (3 : Int32)] A7)).bind fun q9 => (sI 0 q9.2 n8 q9.1 (0 : Int32)).bind fun A10 => xD E (d + 1) 250 133 [.ref r0, .int i1, .int i2, .int i3, .int i4, .int i5, .int i6, .int (0 : Int32)] [] A10 := (xD_bex E d h_250 [23, 58, 94, 133, 146] 90 94 _ _ _).trans rfl
set_option maxRecDepth 100000 in
theorem e250_133 (E : Nat × (Nat → Int32)) (d : Nat) (r0 : Nat) (i1 : Int32) (i2 : Int32) (i3 : Int32) (i4 : Int32) (w5 : Value) (w6 : Value) (i7 : Int32) (A : xH) : xD E (d + 1) 250 133 [.ref r0, .int i1, .int i2, .int i3, .int i4, w5, w6, .int i7] [] A = (gN A r0 9 2).bind fun n1 => (aI 0 A n1 (i3 + (3 : Int32))).bind fun x2 => if x2 ≤ i7 then some (none, A) else xD E (d + 1) 250 146 [.ref r0, .int i1, .int i2, .int i3, .int i4, xJ, xJ, .int i7] [] A := (xD_bex E d h_250 [23, 58, 94, 133, 146] 90 133 _ _ _).trans rfl
set_option maxRecDepth 100000 in
theorem e250_146 (E : Nat × (Nat → Int32)) (d : Nat) (r0 : Nat) (i1 : Int32) (i2 : Int32) (i3 : Int32) (i4 : Int32) (w5 : Value) (w6 : Value) (i7 : Int32) (A : xH) : xD E (d + 1) 250 146 [.ref r0, .int i1, .int i2, .int i3, .int i4, w5, w6, .int i7] [] A = if i4 ≤ 0 then some (none, A) else (gN A r0 9 29).bind fun n1 => (gN A r0 9 2).bind fun n2 => (aI 0 A n2 ((i3 + (4 : Int32)) + i7)).bind fun x3 => (xI (xC E d 174 [.ref r0, .int x3] A)).bind fun q4 => (xI (xC E d 173 [.int q4.1, .int i2] q4.2)).bind fun q5 => (aI 0 q5.2 n1 q5.1).bind fun x6 => if x6 = i1 then (gN q5.2 r0 9 2).bind fun n7 => (aI 0 q5.2 n7 ((i3 + (4 : Int32)) + i7)).bind fun x8 => (gN q5.2 r0 9 2).bind fun n9 => (aI 0 q5.2 n9 ((i3 + (7 : Int32)) + i7)).bind fun x10 => (xV (xC E d 238 [.ref r0, .int i1, .int x8, .int x10] q5.2)).bind fun A11 => xD E (d + 1) 250 133 [.ref r0, .int i1, .int i2, .int i3, .int i4, xJ, xJ, .int (i7 + (1 : Int32))] [] A11 else xD E (d + 1) 250 133 [.ref r0, .int i1, .int i2, .int i3, .int i4, xJ, xJ, .int (i7 + (1 : Int32))] [] q5.2 := (xD_bex E d h_250 [23, 58, 94, 133, 146] 90 146 _ _ _).trans rfl
-- Model.loses (I)V
set_option maxRecDepth 100000 in
theorem h_251 : xprog[251]? = some M_251 := rfl
set_option maxRecDepth 100000 in
theorem e251_0 (E : Nat × (Nat → Int32)) (d : Nat) (r0 : Nat) (i1 : Int32) (A : xH) : xD E (d + 1) 251 0 [.ref r0, .int i1, xJ, xJ] [] A = xD E (d + 1) 251 2 [.ref r0, .int i1, .int (0 : Int32), xJ] [] A := (xD_bex E d h_251 [2, 21, 72, 98, 118] 90 0 _ _ _).trans rfl
set_option maxRecDepth 100000 in
theorem e251_2 (E : Nat × (Nat → Int32)) (d : Nat) (r0 : Nat) (i1 : Int32) (i2 : Int32) (w3 : Value) (A : xH) : xD E (d + 1) 251 2 [.ref r0, .int i1, .int i2, w3] [] A = if i1 ≤ i2 then xD E (d + 1) 251 21 [.ref r0, .int i1, .int (0 : Int32), .int (0 : Int32)] [] A else (xV (xC E d 236 [.ref r0] A)).bind fun A1 => xD E (d + 1) 251 2 [.ref r0, .int i1, .int (i2 + (1 : Int32)), xJ] [] A1 := (xD_bex E d h_251 [2, 21, 72, 98, 118] 90 2 _ _ _).trans rfl
set_option maxRecDepth 100000 in
theorem e251_21 (E : Nat × (Nat → Int32)) (d : Nat) (r0 : Nat) (w1 : Value) (i2 : Int32) (i3 : Int32) (A : xH) : xD E (d + 1) 251 21 [.ref r0, w1, .int i2, .int i3] [] A = if (24 : Int32) ≤ i3 then xD E (d + 1) 251 72 [.ref r0, xJ, .int i2, .int (0 : Int32)] [] A else (gN A r0 9 2).bind fun n1 => (xI (xC E d 169 [.int i3, .int (0 : Int32)] A)).bind fun q2 => (aI 0 q2.2 n1 ((240 : Int32) + q2.1)).bind fun x3 => if x3 = (1 : Int32) then (gN q2.2 r0 9 2).bind fun n4 => (xI (xC E d 169 [.int i3, .int (1 : Int32)] q2.2)).bind fun q5 => (aI 0 q5.2 n4 ((240 : Int32) + q5.1)).bind fun x6 => (xI (xC E d 156 [.int i2, .int x6] q5.2)).bind fun q7 => xD E (d + 1) 251 21 [.ref r0, xJ, .int q7.1, .int (i3 + (1 : Int32))] [] q7.2 else xD E (d + 1) 251 21 [.ref r0, xJ, .int i2, .int (i3 + (1 : Int32))] [] q2.2 := (xD_bex E d h_251 [2, 21, 72, 98, 118] 90 21 _ _ _).trans rfl
set_option maxRecDepth 100000 in
theorem e251_72 (E : Nat × (Nat → Int32)) (d : Nat) (r0 : Nat) (w1 : Value) (i2 : Int32) (i3 : Int32) (A : xH) : xD E (d + 1) 251 72 [.ref r0, w1, .int i2, .int i3] [] A = if ((1 : Int32) <<< (i2 &&& 31)) ≤ i3 then xD E (d + 1) 251 98 [.ref r0, xJ, .int i2, .int (0 : Int32)] [] A else (gN A r0 9 29).bind fun n1 => (xI (xC E d 249 [.ref r0, .int i3] A)).bind fun q2 => (sI 0 q2.2 n1 i3 q2.1).bind fun A3 => xD E (d + 1) 251 72 [.ref r0, xJ, .int i2, .int (i3 + (1 : Int32))] [] A3 := (xD_bex E d h_251 [2, 21, 72, 98, 118] 90 72 _ _ _).trans rfl
set_option maxRecDepth 100000 in
theorem e251_98 (E : Nat × (Nat → Int32)) (d : Nat) (r0 : Nat) (w1 : Value) (i2 : Int32) (i3 : Int32) (A : xH) : xD E (d + 1) 251 98 [.ref r0, w1, .int i2, .int i3] [] A = if (24 : Int32) ≤ i3 then xD E (d + 1) 251 118 [.ref r0, xJ, .int i2, .int (0 : Int32)] [] A else (xV (xC E d 250 [.ref r0, .int i3, .int i2] A)).bind fun A1 => xD E (d + 1) 251 98 [.ref r0, xJ, .int i2, .int (i3 + (1 : Int32))] [] A1 := (xD_bex E d h_251 [2, 21, 72, 98, 118] 90 98 _ _ _).trans rfl
set_option maxRecDepth 100000 in
theorem e251_118 (E : Nat × (Nat → Int32)) (d : Nat) (r0 : Nat) (w1 : Value) (w2 : Value) (i3 : Int32) (A : xH) : xD E (d + 1) 251 118 [.ref r0, w1, w2, .int i3] [] A = if (240 : Int32) ≤ i3 then (gN A r0 9 2).bind fun n1 => (sI 0 A n1 (960 : Int32) (0 : Int32)).bind fun A2 => (gN A2 r0 9 2).bind fun n3 => (xI (xC E d 247 [.ref r0] A2)).bind fun q4 => (sI 0 q4.2 n3 (961 : Int32) q4.1).bind fun A5 => some (none, A5) else (gN A r0 9 2).bind fun n6 => (gN A r0 9 2).bind fun n7 => (aI 0 A n7 i3).bind fun x8 => (sI 0 A n6 ((240 : Int32) + i3) x8).bind fun A9 => xD E (d + 1) 251 118 [.ref r0, xJ, xJ, .int (i3 + (1 : Int32))] [] A9 := (xD_bex E d h_251 [2, 21, 72, 98, 118] 90 118 _ _ _).trans rfl
-- Model.keepsAside (I)V
set_option maxRecDepth 100000 in
theorem h_252 : xprog[252]? = some M_252 := rfl
set_option maxRecDepth 100000 in
theorem e252_0 (E : Nat × (Nat → Int32)) (d : Nat) (r0 : Nat) (i1 : Int32) (A : xH) : xD E (d + 1) 252 0 [.ref r0, .int i1, xJ, xJ] [] A = (gI A r0 9 32).bind fun x1 => if x1 = (16 : Int32) then xD E (d + 1) 252 15 [.ref r0, .int i1, .int (964 : Int32), .int (0 : Int32)] [] A else xD E (d + 1) 252 55 [.ref r0, .int i1, .int (964 : Int32), .int (0 : Int32)] [] A := (xD_bex E d h_252 [15, 55] 90 0 _ _ _).trans rfl
set_option maxRecDepth 100000 in
theorem e252_15 (E : Nat × (Nat → Int32)) (d : Nat) (r0 : Nat) (i1 : Int32) (i2 : Int32) (i3 : Int32) (A : xH) : xD E (d + 1) 252 15 [.ref r0, .int i1, .int i2, .int i3] [] A = if ((15 : Int32) * i2) ≤ i3 then (gI A r0 9 32).bind fun x1 => (pF A r0 9 32 (.int (x1 - (1 : Int32)))).bind fun A2 => xD E (d + 1) 252 55 [.ref r0, .int i1, .int i2, .int (0 : Int32)] [] A2 else (gN A r0 9 30).bind fun n3 => (gN A r0 9 30).bind fun n4 => (aI 0 A n4 (i3 + i2)).bind fun x5 => (sI 0 A n3 i3 x5).bind fun A6 => xD E (d + 1) 252 15 [.ref r0, .int i1, .int i2, .int (i3 + (1 : Int32))] [] A6 := (xD_bex E d h_252 [15, 55] 90 15 _ _ _).trans rfl
set_option maxRecDepth 100000 in
theorem e252_55 (E : Nat × (Nat → Int32)) (d : Nat) (r0 : Nat) (i1 : Int32) (i2 : Int32) (i3 : Int32) (A : xH) : xD E (d + 1) 252 55 [.ref r0, .int i1, .int i2, .int i3] [] A = if (963 : Int32) ≤ i3 then (gN A r0 9 30).bind fun n1 => (gI A r0 9 32).bind fun x2 => (sI 0 A n1 ((i2 * x2) + (963 : Int32)) i1).bind fun A3 => (gI A3 r0 9 32).bind fun x4 => (pF A3 r0 9 32 (.int (x4 + (1 : Int32)))).bind fun A5 => some (none, A5) else (gN A r0 9 30).bind fun n6 => (gI A r0 9 32).bind fun x7 => (gN A r0 9 5).bind fun n8 => (aI 0 A n8 ((2889 : Int32) + i3)).bind fun x9 => (sI 0 A n6 ((i2 * x7) + i3) x9).bind fun A10 => xD E (d + 1) 252 55 [.ref r0, .int i1, .int i2, .int (i3 + (1 : Int32))] [] A10 := (xD_bex E d h_252 [15, 55] 90 55 _ _ _).trans rfl
-- Model.undo ()I
set_option maxRecDepth 100000 in
theorem h_253 : xprog[253]? = some M_253 := rfl
set_option maxRecDepth 100000 in
theorem e253_0 (E : Nat × (Nat → Int32)) (d : Nat) (r0 : Nat) (A : xH) : xD E (d + 1) 253 0 [.ref r0, xJ, xJ] [] A = (gI A r0 9 32).bind fun x1 => if x1 = 0 then (xI (xC E d 157 [.ref r0, .int (-3 : Int32)] A)).bind fun q2 => some (some (.int q2.1), q2.2) else (gI A r0 9 32).bind fun x3 => (pF A r0 9 32 (.int (x3 - (1 : Int32)))).bind fun A4 => (gI A4 r0 9 32).bind fun x5 => xD E (d + 1) 253 35 [.ref r0, .int ((964 : Int32) * x5), .int (0 : Int32)] [] A4 := (xD_bex E d h_253 [35] 90 0 _ _ _).trans rfl
set_option maxRecDepth 100000 in
theorem e253_35 (E : Nat × (Nat → Int32)) (d : Nat) (r0 : Nat) (i1 : Int32) (i2 : Int32) (A : xH) : xD E (d + 1) 253 35 [.ref r0, .int i1, .int i2] [] A = if (963 : Int32) ≤ i2 then (gN A r0 9 30).bind fun n1 => (aI 0 A n1 (i1 + (963 : Int32))).bind fun x2 => (xI (xC E d 158 [.ref r0, .int x2] A)).bind fun q3 => some (some (.int q3.1), q3.2) else (gN A r0 9 2).bind fun n4 => (gN A r0 9 30).bind fun n5 => (aI 0 A n5 (i1 + i2)).bind fun x6 => (sI 0 A n4 i2 x6).bind fun A7 => xD E (d + 1) 253 35 [.ref r0, .int i1, .int (i2 + (1 : Int32))] [] A7 := (xD_bex E d h_253 [35] 90 35 _ _ _).trans rfl
-- Model.goodOr (I)I
set_option maxRecDepth 100000 in
theorem h_254 : xprog[254]? = some M_254 := rfl
set_option maxRecDepth 100000 in
theorem e254_0 (E : Nat × (Nat → Int32)) (d : Nat) (r0 : Nat) (i1 : Int32) (A : xH) : xD E (d + 1) 254 0 [.ref r0, .int i1] [] A = if 0 ≤ i1 then (xI (xC E d 158 [.ref r0, .int i1] A)).bind fun q1 => some (some (.int q1.1), q1.2) else (xI (xC E d 157 [.ref r0, .int i1] A)).bind fun q2 => some (some (.int q2.1), q2.2) := (xD_bex E d h_254 [] 90 0 _ _ _).trans rfl
-- Model.keptOr (II)I
set_option maxRecDepth 100000 in
theorem h_255 : xprog[255]? = some M_255 := rfl
set_option maxRecDepth 100000 in
theorem e255_0 (E : Nat × (Nat → Int32)) (d : Nat) (r0 : Nat) (i1 : Int32) (i2 : Int32) (A : xH) : xD E (d + 1) 255 0 [.ref r0, .int i1, .int i2] [] A = if i2 < 0 then some (some (.int i2), A) else (xV (xC E d 252 [.ref r0, .int i1] A)).bind fun A1 => some (some (.int i2), A1) := (xD_bex E d h_255 [] 90 0 _ _ _).trans rfl
-- Model.putsKept (II)I
set_option maxRecDepth 100000 in
theorem h_256 : xprog[256]? = some M_256 := rfl
set_option maxRecDepth 100000 in
theorem e256_0 (E : Nat × (Nat → Int32)) (d : Nat) (r0 : Nat) (i1 : Int32) (i2 : Int32) (A : xH) : xD E (d + 1) 256 0 [.ref r0, .int i1, .int i2] [] A = (xV (xC E d 165 [.ref r0, .int (3 : Int32)] A)).bind fun A1 => (xI (xC E d 243 [.ref r0, .int i1, .int i2] A1)).bind fun q2 => (xI (xC E d 255 [.ref r0, .int (0 : Int32), .int q2.1] q2.2)).bind fun q3 => some (some (.int q3.1), q3.2) := (xD_bex E d h_256 [] 90 0 _ _ _).trans rfl
-- Model.dropsKept (I)I
set_option maxRecDepth 100000 in
theorem h_257 : xprog[257]? = some M_257 := rfl
set_option maxRecDepth 100000 in
theorem e257_0 (E : Nat × (Nat → Int32)) (d : Nat) (r0 : Nat) (i1 : Int32) (A : xH) : xD E (d + 1) 257 0 [.ref r0, .int i1] [] A = (xV (xC E d 165 [.ref r0, .int (3 : Int32)] A)).bind fun A1 => (xI (xC E d 248 [.ref r0, .int i1] A1)).bind fun q2 => (xI (xC E d 255 [.ref r0, .int (1 : Int32), .int q2.1] q2.2)).bind fun q3 => some (some (.int q3.1), q3.2) := (xD_bex E d h_257 [] 90 0 _ _ _).trans rfl
-- Model.flushesKept (I)I
set_option maxRecDepth 100000 in
theorem h_258 : xprog[258]? = some M_258 := rfl
set_option maxRecDepth 100000 in
theorem e258_0 (E : Nat × (Nat → Int32)) (d : Nat) (r0 : Nat) (i1 : Int32) (A : xH) : xD E (d + 1) 258 0 [.ref r0, .int i1, xJ] [] A = if 0 ≤ i1 then (gN A r0 9 2).bind fun n1 => (aI 0 A n1 (960 : Int32)).bind fun x2 => if i1 ≤ x2 then (xV (xC E d 165 [.ref r0, .int (3 : Int32)] A)).bind fun A3 => xD E (d + 1) 258 28 [.ref r0, .int i1, .int (0 : Int32)] [] A3 else some (some (.int (-3 : Int32)), A) else some (some (.int (-1 : Int32)), A) := (xD_bex E d h_258 [28] 90 0 _ _ _).trans rfl
set_option maxRecDepth 100000 in
theorem e258_28 (E : Nat × (Nat → Int32)) (d : Nat) (r0 : Nat) (i1 : Int32) (i2 : Int32) (A : xH) : xD E (d + 1) 258 28 [.ref r0, .int i1, .int i2] [] A = if i1 ≤ i2 then (gN A r0 9 2).bind fun n1 => (aI 0 A n1 (960 : Int32)).bind fun x2 => (xI (xC E d 255 [.ref r0, .int (2 : Int32), .int x2] A)).bind fun q3 => some (some (.int q3.1), q3.2) else (xV (xC E d 236 [.ref r0] A)).bind fun A4 => xD E (d + 1) 258 28 [.ref r0, .int i1, .int (i2 + (1 : Int32))] [] A4 := (xD_bex E d h_258 [28] 90 28 _ _ _).trans rfl
-- Model.crashesKept (I)I
set_option maxRecDepth 100000 in
theorem h_259 : xprog[259]? = some M_259 := rfl
set_option maxRecDepth 100000 in
theorem e259_0 (E : Nat × (Nat → Int32)) (d : Nat) (r0 : Nat) (i1 : Int32) (A : xH) : xD E (d + 1) 259 0 [.ref r0, .int i1] [] A = if 0 ≤ i1 then (gN A r0 9 2).bind fun n1 => (aI 0 A n1 (960 : Int32)).bind fun x2 => if i1 ≤ x2 then (xV (xC E d 165 [.ref r0, .int (3 : Int32)] A)).bind fun A3 => (xV (xC E d 251 [.ref r0, .int i1] A3)).bind fun A4 => (xI (xC E d 172 [.ref r0] A4)).bind fun q5 => (xI (xC E d 255 [.ref r0, .int (3 : Int32), .int q5.1] q5.2)).bind fun q6 => some (some (.int q6.1), q6.2) else some (some (.int (-3 : Int32)), A) else some (some (.int (-1 : Int32)), A) := (xD_bex E d h_259 [] 90 0 _ _ _).trans rfl
-- Model.put (II)I
set_option maxRecDepth 100000 in
theorem h_260 : xprog[260]? = some M_260 := rfl
set_option maxRecDepth 100000 in
theorem e260_0 (E : Nat × (Nat → Int32)) (d : Nat) (r0 : Nat) (i1 : Int32) (i2 : Int32) (A : xH) : xD E (d + 1) 260 0 [.ref r0, .int i1, .int i2] [] A = (xI (xC E d 256 [.ref r0, .int i1, .int i2] A)).bind fun q1 => (xI (xC E d 254 [.ref r0, .int q1.1] q1.2)).bind fun q2 => some (some (.int q2.1), q2.2) := (xD_bex E d h_260 [] 90 0 _ _ _).trans rfl
-- Model.drop (I)I
set_option maxRecDepth 100000 in
theorem h_261 : xprog[261]? = some M_261 := rfl
set_option maxRecDepth 100000 in
theorem e261_0 (E : Nat × (Nat → Int32)) (d : Nat) (r0 : Nat) (i1 : Int32) (A : xH) : xD E (d + 1) 261 0 [.ref r0, .int i1] [] A = (xI (xC E d 257 [.ref r0, .int i1] A)).bind fun q1 => (xI (xC E d 254 [.ref r0, .int q1.1] q1.2)).bind fun q2 => some (some (.int q2.1), q2.2) := (xD_bex E d h_261 [] 90 0 _ _ _).trans rfl
-- Model.flush (I)I
set_option maxRecDepth 100000 in
theorem h_262 : xprog[262]? = some M_262 := rfl
set_option maxRecDepth 100000 in
theorem e262_0 (E : Nat × (Nat → Int32)) (d : Nat) (r0 : Nat) (i1 : Int32) (A : xH) : xD E (d + 1) 262 0 [.ref r0, .int i1] [] A = (xI (xC E d 258 [.ref r0, .int i1] A)).bind fun q1 => (xI (xC E d 254 [.ref r0, .int q1.1] q1.2)).bind fun q2 => some (some (.int q2.1), q2.2) := (xD_bex E d h_262 [] 90 0 _ _ _).trans rfl
-- Model.crash (I)I
set_option maxRecDepth 100000 in
theorem h_263 : xprog[263]? = some M_263 := rfl
set_option maxRecDepth 100000 in
theorem e263_0 (E : Nat × (Nat → Int32)) (d : Nat) (r0 : Nat) (i1 : Int32) (A : xH) : xD E (d + 1) 263 0 [.ref r0, .int i1] [] A = (xI (xC E d 259 [.ref r0, .int i1] A)).bind fun q1 => (xI (xC E d 254 [.ref r0, .int q1.1] q1.2)).bind fun q2 => some (some (.int q2.1), q2.2) := (xD_bex E d h_263 [] 90 0 _ _ _).trans rfl
-- Model.behind (II)I
set_option maxRecDepth 100000 in
theorem h_264 : xprog[264]? = some M_264 := rfl
set_option maxRecDepth 100000 in
theorem e264_0 (E : Nat × (Nat → Int32)) (d : Nat) (r0 : Nat) (i1 : Int32) (i2 : Int32) (A : xH) : xD E (d + 1) 264 0 [.ref r0, .int i1, .int i2, xJ] [] A = (gN A r0 9 2).bind fun n1 => (aI 0 A n1 (960 : Int32)).bind fun x2 => (xI (xC E d 154 [.int i1, .int (0 : Int32), .int x2] A)).bind fun q3 => if q3.1 = 0 then some (some (.int (-1 : Int32)), q3.2) else (xI (xC E d 163 [.int i2] q3.2)).bind fun q4 => if q4.1 = 0 then some (some (.int (-1 : Int32)), q4.2) else (xV (xC E d 165 [.ref r0, .int (0 : Int32)] q4.2)).bind fun A5 => (xV (xC E d 251 [.ref r0, .int i1] A5)).bind fun A6 => (xI (xC E d 178 [.ref r0, .int i2] A6)).bind fun q7 => (xV (xC E d 166 [.ref r0, .int (0 : Int32)] q7.2)).bind fun A8 => some (some (.int q7.1), A8) := (xD_bex E d h_264 [] 90 0 _ _ _).trans rfl
-- Model.lost (I)I
set_option maxRecDepth 100000 in
theorem h_265 : xprog[265]? = some M_265 := rfl
set_option maxRecDepth 100000 in
theorem e265_0 (E : Nat × (Nat → Int32)) (d : Nat) (r0 : Nat) (i1 : Int32) (A : xH) : xD E (d + 1) 265 0 [.ref r0, .int i1, xJ, xJ] [] A = (gN A r0 9 2).bind fun n1 => (aI 0 A n1 (960 : Int32)).bind fun x2 => (xI (xC E d 154 [.int i1, .int (0 : Int32), .int x2] A)).bind fun q3 => if q3.1 = 0 then some (some (.int (-1 : Int32)), q3.2) else xD E (d + 1) 265 20 [.ref r0, .int i1, .int (0 : Int32), xJ] [] q3.2 := (xD_bex E d h_265 [20, 58] 90 0 _ _ _).trans rfl
set_option maxRecDepth 100000 in
theorem e265_20 (E : Nat × (Nat → Int32)) (d : Nat) (r0 : Nat) (i1 : Int32) (i2 : Int32) (w3 : Value) (A : xH) : xD E (d + 1) 265 20 [.ref r0, .int i1, .int i2, w3] [] A = if (1000 : Int32) ≤ i2 then (xV (xC E d 165 [.ref r0, .int (0 : Int32)] A)).bind fun A1 => (xV (xC E d 251 [.ref r0, .int i1] A1)).bind fun A2 => xD E (d + 1) 265 58 [.ref r0, .int i1, .int (0 : Int32), .int (0 : Int32)] [] A2 else (gN A r0 9 33).bind fun n3 => (xI (xC E d 178 [.ref r0, .int i2] A)).bind fun q4 => (sI 0 q4.2 n3 i2 q4.1).bind fun A5 => xD E (d + 1) 265 20 [.ref r0, .int i1, .int (i2 + (1 : Int32)), xJ] [] A5 := (xD_bex E d h_265 [20, 58] 90 20 _ _ _).trans rfl
set_option maxRecDepth 100000 in
theorem e265_58 (E : Nat × (Nat → Int32)) (d : Nat) (r0 : Nat) (w1 : Value) (i2 : Int32) (i3 : Int32) (A : xH) : xD E (d + 1) 265 58 [.ref r0, w1, .int i2, .int i3] [] A = if (1000 : Int32) ≤ i3 then (xV (xC E d 166 [.ref r0, .int (0 : Int32)] A)).bind fun A1 => some (some (.int i2), A1) else (gN A r0 9 33).bind fun n2 => (aI 0 A n2 i3).bind fun x3 => if x3 = (-1 : Int32) then xD E (d + 1) 265 58 [.ref r0, xJ, .int (i2 + (0 : Int32)), .int (i3 + (1 : Int32))] [] A else (xI (xC E d 178 [.ref r0, .int i3] A)).bind fun q4 => (gN q4.2 r0 9 33).bind fun n5 => (aI 0 q4.2 n5 i3).bind fun x6 => if q4.1 = x6 then xD E (d + 1) 265 58 [.ref r0, xJ, .int (i2 + (0 : Int32)), .int (i3 + (1 : Int32))] [] q4.2 else xD E (d + 1) 265 58 [.ref r0, xJ, .int (i2 + (1 : Int32)), .int (i3 + (1 : Int32))] [] q4.2 := (xD_bex E d h_265 [20, 58] 90 58 _ _ _).trans rfl
-- Model.torn (I)I
set_option maxRecDepth 100000 in
theorem h_266 : xprog[266]? = some M_266 := rfl
set_option maxRecDepth 100000 in
theorem e266_0 (E : Nat × (Nat → Int32)) (d : Nat) (r0 : Nat) (i1 : Int32) (A : xH) : xD E (d + 1) 266 0 [.ref r0, .int i1, xJ, xJ] [] A = (gN A r0 9 2).bind fun n1 => (aI 0 A n1 (960 : Int32)).bind fun x2 => (xI (xC E d 154 [.int i1, .int (0 : Int32), .int x2] A)).bind fun q3 => if q3.1 = 0 then some (some (.int (-1 : Int32)), q3.2) else xD E (d + 1) 266 20 [.ref r0, .int i1, .int (0 : Int32), xJ] [] q3.2 := (xD_bex E d h_266 [20, 57] 90 0 _ _ _).trans rfl
set_option maxRecDepth 100000 in
theorem e266_20 (E : Nat × (Nat → Int32)) (d : Nat) (r0 : Nat) (i1 : Int32) (i2 : Int32) (w3 : Value) (A : xH) : xD E (d + 1) 266 20 [.ref r0, .int i1, .int i2, w3] [] A = if (64 : Int32) ≤ i2 then (xV (xC E d 165 [.ref r0, .int (0 : Int32)] A)).bind fun A1 => (xV (xC E d 251 [.ref r0, .int i1] A1)).bind fun A2 => xD E (d + 1) 266 57 [.ref r0, .int i1, .int (0 : Int32), .int (0 : Int32)] [] A2 else (gN A r0 9 34).bind fun n3 => (xI (xC E d 184 [.ref r0, .int i2] A)).bind fun q4 => (sI 0 q4.2 n3 i2 q4.1).bind fun A5 => xD E (d + 1) 266 20 [.ref r0, .int i1, .int (i2 + (1 : Int32)), xJ] [] A5 := (xD_bex E d h_266 [20, 57] 90 20 _ _ _).trans rfl
set_option maxRecDepth 100000 in
theorem e266_57 (E : Nat × (Nat → Int32)) (d : Nat) (r0 : Nat) (w1 : Value) (i2 : Int32) (i3 : Int32) (A : xH) : xD E (d + 1) 266 57 [.ref r0, w1, .int i2, .int i3] [] A = if (64 : Int32) ≤ i3 then (xV (xC E d 166 [.ref r0, .int (0 : Int32)] A)).bind fun A1 => some (some (.int i2), A1) else (xI (xC E d 184 [.ref r0, .int i3] A)).bind fun q2 => (gN q2.2 r0 9 34).bind fun n3 => (aI 0 q2.2 n3 i3).bind fun x4 => if q2.1 = x4 then xD E (d + 1) 266 57 [.ref r0, xJ, .int (i2 + (0 : Int32)), .int (i3 + (1 : Int32))] [] q2.2 else xD E (d + 1) 266 57 [.ref r0, xJ, .int (i2 + (1 : Int32)), .int (i3 + (1 : Int32))] [] q2.2 := (xD_bex E d h_266 [20, 57] 90 57 _ _ _).trans rfl
-- Model.wouldSplit (I)Z
set_option maxRecDepth 100000 in
theorem h_267 : xprog[267]? = some M_267 := rfl
set_option maxRecDepth 100000 in
theorem e267_0 (E : Nat × (Nat → Int32)) (d : Nat) (r0 : Nat) (i1 : Int32) (A : xH) : xD E (d + 1) 267 0 [.ref r0, .int i1, xJ] [] A = (gN A r0 9 2).bind fun n1 => (xI (xC E d 176 [.ref r0, .int i1] A)).bind fun q2 => (xI (xC E d 169 [.int q2.1, .int (3 : Int32)] q2.2)).bind fun q3 => (aI 0 q3.2 n1 q3.1).bind fun x4 => if x4 < (3 : Int32) then some (some (.int (0 : Int32)), q3.2) else (xI (xC E d 177 [.ref r0, .int i1] q3.2)).bind fun q5 => if q5.1 = (-1 : Int32) then (xI (xC E d 234 [.ref r0, .int i1] q5.2)).bind fun q6 => if q6.1 = 0 then (xV (xC E d 165 [.ref r0, .int (0 : Int32)] q6.2)).bind fun A7 => (xI (xC E d 242 [.ref r0, .int i1, .int (0 : Int32)] A7)).bind fun q8 => (xV (xC E d 166 [.ref r0, .int (0 : Int32)] q8.2)).bind fun A9 => if q8.1 ≤ 0 then some (some (.int (0 : Int32)), A9) else some (some (.int (1 : Int32)), A9) else some (some (.int (0 : Int32)), q6.2) else some (some (.int (0 : Int32)), q5.2) := (xD_bex E d h_267 [] 90 0 _ _ _).trans rfl
-- Model.splits ()I
set_option maxRecDepth 100000 in
theorem h_268 : xprog[268]? = some M_268 := rfl
set_option maxRecDepth 100000 in
theorem e268_0 (E : Nat × (Nat → Int32)) (d : Nat) (r0 : Nat) (A : xH) : xD E (d + 1) 268 0 [.ref r0, xJ, xJ] [] A = xD E (d + 1) 268 4 [.ref r0, .int (0 : Int32), .int (0 : Int32)] [] A := (xD_bex E d h_268 [4] 90 0 _ _ _).trans rfl
set_option maxRecDepth 100000 in
theorem e268_4 (E : Nat × (Nat → Int32)) (d : Nat) (r0 : Nat) (i1 : Int32) (i2 : Int32) (A : xH) : xD E (d + 1) 268 4 [.ref r0, .int i1, .int i2] [] A = if (1000 : Int32) ≤ i2 then some (some (.int i1), A) else (xI (xC E d 267 [.ref r0, .int i2] A)).bind fun q1 => if q1.1 = 0 then xD E (d + 1) 268 4 [.ref r0, .int (i1 + (0 : Int32)), .int (i2 + (1 : Int32))] [] q1.2 else xD E (d + 1) 268 4 [.ref r0, .int (i1 + (1 : Int32)), .int (i2 + (1 : Int32))] [] q1.2 := (xD_bex E d h_268 [4] 90 4 _ _ _).trans rfl
-- Model.room ()I
set_option maxRecDepth 100000 in
theorem h_269 : xprog[269]? = some M_269 := rfl
set_option maxRecDepth 100000 in
theorem e269_0 (E : Nat × (Nat → Int32)) (d : Nat) (r0 : Nat) (A : xH) : xD E (d + 1) 269 0 [.ref r0] [] A = (xI (xC E d 171 [.ref r0] A)).bind fun q1 => (xI (xC E d 172 [.ref r0] q1.2)).bind fun q2 => some (some (.int (((3 : Int32) * q1.1) - q2.1)), q2.2) := (xD_bex E d h_269 [] 90 0 _ _ _).trans rfl
-- Model.twin (I)I
set_option maxRecDepth 100000 in
theorem h_270 : xprog[270]? = some M_270 := rfl
set_option maxRecDepth 100000 in
theorem e270_0 (E : Nat × (Nat → Int32)) (d : Nat) (r0 : Nat) (i1 : Int32) (A : xH) : xD E (d + 1) 270 0 [.ref r0, .int i1] [] A = (xI (xC E d 162 [.int i1] A)).bind fun q1 => if q1.1 = 0 then some (some (.int (-1 : Int32)), q1.2) else (xI (xC E d 170 [.ref r0, .int i1] q1.2)).bind fun q2 => if q2.1 = 0 then some (some (.int (-1 : Int32)), q2.2) else (xI (xC E d 244 [.ref r0, .int i1] q2.2)).bind fun q3 => some (some (.int q3.1), q3.2) := (xD_bex E d h_270 [] 90 0 _ _ _).trans rfl
-- Model.empties ()V
set_option maxRecDepth 100000 in
theorem h_271 : xprog[271]? = some M_271 := rfl
set_option maxRecDepth 100000 in
theorem e271_0 (E : Nat × (Nat → Int32)) (d : Nat) (r0 : Nat) (A : xH) : xD E (d + 1) 271 0 [.ref r0, xJ] [] A = xD E (d + 1) 271 2 [.ref r0, .int (0 : Int32)] [] A := (xD_bex E d h_271 [2] 90 0 _ _ _).trans rfl
set_option maxRecDepth 100000 in
theorem e271_2 (E : Nat × (Nat → Int32)) (d : Nat) (r0 : Nat) (i1 : Int32) (A : xH) : xD E (d + 1) 271 2 [.ref r0, .int i1] [] A = if (963 : Int32) ≤ i1 then (gN A r0 9 2).bind fun n1 => (sI 0 A n1 (0 : Int32) (1 : Int32)).bind fun A2 => (gN A2 r0 9 2).bind fun n3 => (sI 0 A2 n3 (240 : Int32) (1 : Int32)).bind fun A4 => some (none, A4) else (gN A r0 9 2).bind fun n5 => (sI 0 A n5 i1 (0 : Int32)).bind fun A6 => xD E (d + 1) 271 2 [.ref r0, .int (i1 + (1 : Int32))] [] A6 := (xD_bex E d h_271 [2] 90 2 _ _ _).trans rfl
-- Model.neededBy (I)I
set_option maxRecDepth 100000 in
theorem h_272 : xprog[272]? = some M_272 := rfl
set_option maxRecDepth 100000 in
theorem e272_0 (E : Nat × (Nat → Int32)) (d : Nat) (r0 : Nat) (i1 : Int32) (A : xH) : xD E (d + 1) 272 0 [.ref r0, .int i1, xJ] [] A = (xV (xC E d 271 [.ref r0] A)).bind fun A1 => (gN A1 r0 9 2).bind fun n2 => (sI 0 A1 n2 (977 : Int32) i1).bind fun A3 => xD E (d + 1) 272 15 [.ref r0, .int i1, .int (0 : Int32)] [] A3 := (xD_bex E d h_272 [15] 90 0 _ _ _).trans rfl
set_option maxRecDepth 100000 in
theorem e272_15 (E : Nat × (Nat → Int32)) (d : Nat) (r0 : Nat) (w1 : Value) (i2 : Int32) (A : xH) : xD E (d + 1) 272 15 [.ref r0, w1, .int i2] [] A = if (1000 : Int32) ≤ i2 then (xI (xC E d 171 [.ref r0] A)).bind fun q1 => some (some (.int q1.1), q1.2) else (gN A r0 9 33).bind fun n2 => (aI 0 A n2 i2).bind fun x3 => if x3 = (-1 : Int32) then xD E (d + 1) 272 15 [.ref r0, xJ, .int (i2 + (1 : Int32))] [] A else (xI (xC E d 242 [.ref r0, .int i2, .int (0 : Int32)] A)).bind fun q4 => if q4.1 = (-1 : Int32) then some (some (.int (-1 : Int32)), q4.2) else xD E (d + 1) 272 15 [.ref r0, xJ, .int (i2 + (1 : Int32))] [] q4.2 := (xD_bex E d h_272 [15] 90 15 _ _ _).trans rfl
-- Model.salts (I)I
set_option maxRecDepth 100000 in
theorem h_273 : xprog[273]? = some M_273 := rfl
set_option maxRecDepth 100000 in
theorem e273_0 (E : Nat × (Nat → Int32)) (d : Nat) (r0 : Nat) (i1 : Int32) (A : xH) : xD E (d + 1) 273 0 [.ref r0, .int i1, xJ, xJ, xJ, xJ, xJ] [] A = (xI (xC E d 154 [.int i1, .int (0 : Int32), .int (1 : Int32)] A)).bind fun q1 => if q1.1 = 0 then some (some (.int (-1 : Int32)), q1.2) else xD E (d + 1) 273 13 [.ref r0, .int i1, .int (0 : Int32), xJ, xJ, xJ, xJ] [] q1.2 := (xD_bex E d h_273 [13, 60] 90 0 _ _ _).trans rfl
set_option maxRecDepth 100000 in
theorem e273_13 (E : Nat × (Nat → Int32)) (d : Nat) (r0 : Nat) (i1 : Int32) (i2 : Int32) (w3 : Value) (w4 : Value) (w5 : Value) (w6 : Value) (A : xH) : xD E (d + 1) 273 13 [.ref r0, .int i1, .int i2, w3, w4, w5, w6] [] A = if (1000 : Int32) ≤ i2 then (gN A r0 9 2).bind fun n1 => (aI 0 A n1 (977 : Int32)).bind fun x2 => (xV (xC E d 165 [.ref r0, .int (0 : Int32)] A)).bind fun A3 => xD E (d + 1) 273 60 [.ref r0, .int i1, .int x2, .int (-1 : Int32), .int (1000000 : Int32), .int (0 : Int32), xJ] [] A3 else (gN A r0 9 33).bind fun n4 => (xI (xC E d 178 [.ref r0, .int i2] A)).bind fun q5 => (sI 0 q5.2 n4 i2 q5.1).bind fun A6 => xD E (d + 1) 273 13 [.ref r0, .int i1, .int (i2 + (1 : Int32)), xJ, xJ, xJ, xJ] [] A6 := (xD_bex E d h_273 [13, 60] 90 13 _ _ _).trans rfl
set_option maxRecDepth 100000 in
theorem e273_60 (E : Nat × (Nat → Int32)) (d : Nat) (r0 : Nat) (i1 : Int32) (i2 : Int32) (i3 : Int32) (i4 : Int32) (i5 : Int32) (w6 : Value) (A : xH) : xD E (d + 1) 273 60 [.ref r0, .int i1, .int i2, .int i3, .int i4, .int i5, w6] [] A = if (32 : Int32) ≤ i5 then (xV (xC E d 166 [.ref r0, .int (0 : Int32)] A)).bind fun A1 => (gN A1 r0 9 2).bind fun n2 => (sI 0 A1 n2 (977 : Int32) i2).bind fun A3 => if i3 = (-1 : Int32) then some (some (.int i3), A3) else if i1 = 0 then some (some (.int i3), A3) else some (some (.int i4), A3) else (xI (xC E d 272 [.ref r0, .int i5] A)).bind fun q4 => if q4.1 = (-1 : Int32) then xD E (d + 1) 273 60 [.ref r0, .int i1, .int i2, .int i3, .int i4, .int (i5 + (1 : Int32)), .int q4.1] [] q4.2 else if q4.1 < i4 then xD E (d + 1) 273 60 [.ref r0, .int i1, .int i2, .int i5, .int q4.1, .int (i5 + (1 : Int32)), .int q4.1] [] q4.2 else xD E (d + 1) 273 60 [.ref r0, .int i1, .int i2, .int i3, .int i4, .int (i5 + (1 : Int32)), .int q4.1] [] q4.2 := (xD_bex E d h_273 [13, 60] 90 60 _ _ _).trans rfl
-- Model.spent ()I
set_option maxRecDepth 100000 in
theorem h_274 : xprog[274]? = some M_274 := rfl
set_option maxRecDepth 100000 in
theorem e274_0 (E : Nat × (Nat → Int32)) (d : Nat) (r0 : Nat) (A : xH) : xD E (d + 1) 274 0 [.ref r0, xJ, xJ] [] A = xD E (d + 1) 274 4 [.ref r0, .int (0 : Int32), .int (0 : Int32)] [] A := (xD_bex E d h_274 [4] 90 0 _ _ _).trans rfl
set_option maxRecDepth 100000 in
theorem e274_4 (E : Nat × (Nat → Int32)) (d : Nat) (r0 : Nat) (i1 : Int32) (i2 : Int32) (A : xH) : xD E (d + 1) 274 4 [.ref r0, .int i1, .int i2] [] A = (gN A r0 9 2).bind fun n1 => (aI 0 A n1 (960 : Int32)).bind fun x2 => if x2 ≤ i2 then some (some (.int i1), A) else (gN A r0 9 2).bind fun n3 => (xI (xC E d 182 [.int i2] A)).bind fun q4 => (aI 0 q4.2 n3 (q4.1 + (1 : Int32))).bind fun x5 => xD E (d + 1) 274 4 [.ref r0, .int (i1 + x5), .int (i2 + (1 : Int32))] [] q4.2 := (xD_bex E d h_274 [4] 90 4 _ _ _).trans rfl
-- Model.seen (II)I
set_option maxRecDepth 100000 in
theorem h_275 : xprog[275]? = some M_275 := rfl
set_option maxRecDepth 100000 in
theorem e275_0 (E : Nat × (Nat → Int32)) (d : Nat) (r0 : Nat) (i1 : Int32) (i2 : Int32) (A : xH) : xD E (d + 1) 275 0 [.ref r0, .int i1, .int i2, xJ] [] A = (xI (xC E d 154 [.int i1, .int (0 : Int32), .int (63 : Int32)] A)).bind fun q1 => if q1.1 = 0 then (xI (xC E d 157 [.ref r0, .int (-1 : Int32)] q1.2)).bind fun q2 => some (some (.int q2.1), q2.2) else (xI (xC E d 154 [.int i2, .int (0 : Int32), .int (1 : Int32)] q1.2)).bind fun q3 => if q3.1 = 0 then (xI (xC E d 157 [.ref r0, .int (-1 : Int32)] q3.2)).bind fun q4 => some (some (.int q4.1), q4.2) else (gN q3.2 r0 9 2).bind fun n5 => (aI 0 q3.2 n5 (978 : Int32)).bind fun x6 => (gN q3.2 r0 9 2).bind fun n7 => (aI 0 q3.2 n7 (978 : Int32)).bind fun x8 => if x8 = (6 : Int32) then (xI (xC E d 157 [.ref r0, .int (-5 : Int32)] q3.2)).bind fun q9 => some (some (.int q9.1), q9.2) else (gN q3.2 r0 9 2).bind fun n10 => (sI 0 q3.2 n10 ((963 : Int32) + ((2 : Int32) * x6)) i1).bind fun A11 => (gN A11 r0 9 2).bind fun n12 => (sI 0 A11 n12 (((963 : Int32) + ((2 : Int32) * x6)) + (1 : Int32)) i2).bind fun A13 => (gN A13 r0 9 2).bind fun n14 => (aI 0 A13 n14 (978 : Int32)).bind fun x15 => (sI 0 A13 n14 (978 : Int32) (x15 + (1 : Int32))).bind fun A16 => (gN A16 r0 9 2).bind fun n17 => xD E (d + 1) 275 93 [.ref r0, .int i1, .int i2, .int ((963 : Int32) + ((2 : Int32) * x6))] [.ref n17, .ref r0] A16 := (xD_bex E d h_275 [93] 90 0 _ _ _).trans rfl
set_option maxRecDepth 100000 in
theorem e275_93 (E : Nat × (Nat → Int32)) (d : Nat) (w0 : Value) (w1 : Value) (w2 : Value) (w3 : Value) (s0 : Nat) (s1 : Nat) (A : xH) : xD E (d + 1) 275 93 [w0, w1, w2, w3] [.ref s1, .ref s0] A = (aI 0 A s1 (978 : Int32)).bind fun x1 => (xI (xC E d 158 [.ref s0, .int x1] A)).bind fun q2 => some (some (.int q2.1), q2.2) := (xD_bex E d h_275 [93] 90 93 _ _ _).trans rfl
-- Model.forget ()I
set_option maxRecDepth 100000 in
theorem h_276 : xprog[276]? = some M_276 := rfl
set_option maxRecDepth 100000 in
theorem e276_0 (E : Nat × (Nat → Int32)) (d : Nat) (r0 : Nat) (A : xH) : xD E (d + 1) 276 0 [.ref r0, xJ] [] A = (gN A r0 9 2).bind fun n1 => (aI 0 A n1 (978 : Int32)).bind fun x2 => (gN A r0 9 2).bind fun n3 => (sI 0 A n3 (978 : Int32) (0 : Int32)).bind fun A4 => some (some (.int x2), A4) := (xD_bex E d h_276 [] 90 0 _ _ _).trans rfl
-- Model.isSo (I)Z
set_option maxRecDepth 100000 in
theorem h_277 : xprog[277]? = some M_277 := rfl
set_option maxRecDepth 100000 in
theorem e277_0 (E : Nat × (Nat → Int32)) (d : Nat) (r0 : Nat) (i1 : Int32) (A : xH) : xD E (d + 1) 277 0 [.ref r0, .int i1, xJ, xJ] [] A = xD E (d + 1) 277 4 [.ref r0, .int i1, .int (1 : Int32), .int (0 : Int32)] [] A := (xD_bex E d h_277 [4, 45] 90 0 _ _ _).trans rfl
set_option maxRecDepth 100000 in
theorem e277_4 (E : Nat × (Nat → Int32)) (d : Nat) (r0 : Nat) (i1 : Int32) (i2 : Int32) (i3 : Int32) (A : xH) : xD E (d + 1) 277 4 [.ref r0, .int i1, .int i2, .int i3] [] A = (gN A r0 9 2).bind fun n1 => (aI 0 A n1 (978 : Int32)).bind fun x2 => if x2 ≤ i3 then if x01 i2 = true then some (some (.int i2), A) else none else if i2 = 0 then xD E (d + 1) 277 4 [.ref r0, .int i1, .int (0 : Int32), .int (i3 + (1 : Int32))] [] A else (gN A r0 9 2).bind fun n3 => (aI 0 A n3 ((963 : Int32) + ((2 : Int32) * i3))).bind fun x4 => (xI (xC E d 184 [.ref r0, .int x4] A)).bind fun q5 => if q5.1 = i1 then xD E (d + 1) 277 45 [.ref r0, .int i1, .int i2, .int i3] [.int (1 : Int32)] q5.2 else xD E (d + 1) 277 45 [.ref r0, .int i1, .int i2, .int i3] [.int (0 : Int32)] q5.2 := (xD_bex E d h_277 [4, 45] 90 4 _ _ _).trans rfl
set_option maxRecDepth 100000 in
theorem e277_45 (E : Nat × (Nat → Int32)) (d : Nat) (r0 : Nat) (i1 : Int32) (w2 : Value) (i3 : Int32) (s0 : Int32) (A : xH) : xD E (d + 1) 277 45 [.ref r0, .int i1, w2, .int i3] [.int s0] A = (gN A r0 9 2).bind fun n1 => (aI 0 A n1 (((963 : Int32) + ((2 : Int32) * i3)) + (1 : Int32))).bind fun x2 => if s0 = x2 then xD E (d + 1) 277 4 [.ref r0, .int i1, .int (1 : Int32), .int (i3 + (1 : Int32))] [] A else xD E (d + 1) 277 4 [.ref r0, .int i1, .int (0 : Int32), .int (i3 + (1 : Int32))] [] A := (xD_bex E d h_277 [4, 45] 90 45 _ _ _).trans rfl
-- Model.canBe ()I
set_option maxRecDepth 100000 in
theorem h_278 : xprog[278]? = some M_278 := rfl
set_option maxRecDepth 100000 in
theorem e278_0 (E : Nat × (Nat → Int32)) (d : Nat) (r0 : Nat) (A : xH) : xD E (d + 1) 278 0 [.ref r0, xJ, xJ] [] A = xD E (d + 1) 278 4 [.ref r0, .int (0 : Int32), .int (0 : Int32)] [] A := (xD_bex E d h_278 [4] 90 0 _ _ _).trans rfl
set_option maxRecDepth 100000 in
theorem e278_4 (E : Nat × (Nat → Int32)) (d : Nat) (r0 : Nat) (i1 : Int32) (i2 : Int32) (A : xH) : xD E (d + 1) 278 4 [.ref r0, .int i1, .int i2] [] A = if (24 : Int32) ≤ i2 then some (some (.int i1), A) else (xI (xC E d 170 [.ref r0, .int i2] A)).bind fun q1 => if q1.1 = 0 then xD E (d + 1) 278 4 [.ref r0, .int (i1 ||| (0 : Int32)), .int (i2 + (1 : Int32))] [] q1.2 else (xI (xC E d 277 [.ref r0, .int i2] q1.2)).bind fun q2 => if q2.1 = 0 then xD E (d + 1) 278 4 [.ref r0, .int (i1 ||| (0 : Int32)), .int (i2 + (1 : Int32))] [] q2.2 else xD E (d + 1) 278 4 [.ref r0, .int (i1 ||| ((1 : Int32) <<< (i2 &&& 31))), .int (i2 + (1 : Int32))] [] q2.2 := (xD_bex E d h_278 [4] 90 4 _ _ _).trans rfl
-- Model.read (I)I
set_option maxRecDepth 100000 in
theorem h_279 : xprog[279]? = some M_279 := rfl
set_option maxRecDepth 100000 in
theorem e279_0 (E : Nat × (Nat → Int32)) (d : Nat) (r0 : Nat) (i1 : Int32) (A : xH) : xD E (d + 1) 279 0 [.ref r0, .int i1, xJ, xJ, xJ, xJ, xJ, xJ] [] A = (xI (xC E d 154 [.int i1, .int (0 : Int32), .int (1 : Int32)] A)).bind fun q1 => if q1.1 = 0 then some (some (.int (-1 : Int32)), q1.2) else (xI (xC E d 278 [.ref r0] q1.2)).bind fun q2 => xD E (d + 1) 279 25 [.ref r0, .int i1, .int q2.1, .int (-1 : Int32), .int (1000000 : Int32), .int (0 : Int32), xJ, xJ] [] q2.2 := (xD_bex E d h_279 [25, 62, 101] 90 0 _ _ _).trans rfl
set_option maxRecDepth 100000 in
theorem e279_25 (E : Nat × (Nat → Int32)) (d : Nat) (r0 : Nat) (i1 : Int32) (i2 : Int32) (i3 : Int32) (i4 : Int32) (i5 : Int32) (w6 : Value) (w7 : Value) (A : xH) : xD E (d + 1) 279 25 [.ref r0, .int i1, .int i2, .int i3, .int i4, .int i5, w6, w7] [] A = (gN A r0 9 2).bind fun n1 => (aI 0 A n1 (961 : Int32)).bind fun x2 => if ((1 : Int32) <<< (x2 &&& 31)) ≤ i5 then xD E (d + 1) 279 101 [.ref r0, .int i1, .int i2, .int i3, .int i4, .int i5, xJ, xJ] [] A else if i2 = 0 then xD E (d + 1) 279 101 [.ref r0, .int i1, .int i2, .int i3, .int i4, .int i5, xJ, xJ] [] A else (xI (xC E d 175 [.ref r0, .int i5] A)).bind fun q3 => (xI (xC E d 160 [.int i2, .int q3.1] q3.2)).bind fun q4 => if q4.1 = 0 then xD E (d + 1) 279 62 [.ref r0, .int i1, .int i2, .int i3, .int i4, .int i5, xJ, xJ] [.int (0 : Int32)] q4.2 else xD E (d + 1) 279 62 [.ref r0, .int i1, .int i2, .int i3, .int i4, .int i5, xJ, xJ] [.int (1 : Int32)] q4.2 := (xD_bex E d h_279 [25, 62, 101] 90 25 _ _ _).trans rfl
set_option maxRecDepth 100000 in
theorem e279_62 (E : Nat × (Nat → Int32)) (d : Nat) (r0 : Nat) (i1 : Int32) (i2 : Int32) (i3 : Int32) (i4 : Int32) (i5 : Int32) (w6 : Value) (w7 : Value) (s0 : Int32) (A : xH) : xD E (d + 1) 279 62 [.ref r0, .int i1, .int i2, .int i3, .int i4, .int i5, w6, w7] [.int s0] A = (xI (xC E d 161 [.int i2] A)).bind fun q1 => (xI (xC E d 156 [.int s0, .int (q1.1 - s0)] q1.2)).bind fun q2 => if q2.1 < i4 then xD E (d + 1) 279 25 [.ref r0, .int i1, .int i2, .int i5, .int q2.1, .int (i5 + (1 : Int32)), .int s0, .int q2.1] [] q2.2 else xD E (d + 1) 279 25 [.ref r0, .int i1, .int i2, .int i3, .int i4, .int (i5 + (1 : Int32)), .int s0, .int q2.1] [] q2.2 := (xD_bex E d h_279 [25, 62, 101] 90 62 _ _ _).trans rfl
set_option maxRecDepth 100000 in
theorem e279_101 (E : Nat × (Nat → Int32)) (d : Nat) (w0 : Value) (i1 : Int32) (w2 : Value) (i3 : Int32) (i4 : Int32) (w5 : Value) (w6 : Value) (w7 : Value) (A : xH) : xD E (d + 1) 279 101 [w0, .int i1, w2, .int i3, .int i4, w5, w6, w7] [] A = if i3 = (-1 : Int32) then some (some (.int i3), A) else if i1 = 0 then some (some (.int i3), A) else some (some (.int i4), A) := (xD_bex E d h_279 [25, 62, 101] 90 101 _ _ _).trans rfl
-- Model.few (II)J
set_option maxRecDepth 100000 in
theorem h_280 : xprog[280]? = some M_280 := rfl
set_option maxRecDepth 100000 in
theorem e280_0 (E : Nat × (Nat → Int32)) (d : Nat) (r0 : Nat) (i1 : Int32) (i2 : Int32) (A : xH) : xD E (d + 1) 280 0 [.ref r0, .int i1, .int i2, xJ, xJ, xJ] [] A = (xI (xC E d 154 [.int i1, .int (1 : Int32), .int (20 : Int32)] A)).bind fun q1 => if q1.1 = 0 then some (some (.long (-1 : Int64)), q1.2) else (xI (xC E d 154 [.int i2, .int (0 : Int32), .int (99 : Int32)] q1.2)).bind fun q2 => if q2.1 = 0 then some (some (.long (-1 : Int64)), q2.2) else xD E (d + 1) 280 26 [.ref r0, .int i1, .int i2, .int (0 : Int32), xJ, xJ] [] q2.2 := (xD_bex E d h_280 [26, 57, 67, 153] 90 0 _ _ _).trans rfl
set_option maxRecDepth 100000 in
theorem e280_26 (E : Nat × (Nat → Int32)) (d : Nat) (r0 : Nat) (i1 : Int32) (i2 : Int32) (i3 : Int32) (w4 : Value) (w5 : Value) (A : xH) : xD E (d + 1) 280 26 [.ref r0, .int i1, .int i2, .int i3, w4, w5] [] A = if (20 : Int32) < i3 then xD E (d + 1) 280 57 [.ref r0, .int i1, .int i2, .int (0 : Int32), xJ, xJ] [] A else (gN A r0 9 35).bind fun n1 => if i3 = 0 then (sL A n1 i3 (1000000000000 : Int64)).bind fun A2 => xD E (d + 1) 280 26 [.ref r0, .int i1, .int i2, .int (i3 + (1 : Int32)), xJ, xJ] [] A2 else (sL A n1 i3 (0 : Int64)).bind fun A3 => xD E (d + 1) 280 26 [.ref r0, .int i1, .int i2, .int (i3 + (1 : Int32)), xJ, xJ] [] A3 := (xD_bex E d h_280 [26, 57, 67, 153] 90 26 _ _ _).trans rfl
set_option maxRecDepth 100000 in
theorem e280_57 (E : Nat × (Nat → Int32)) (d : Nat) (r0 : Nat) (i1 : Int32) (i2 : Int32) (i3 : Int32) (w4 : Value) (w5 : Value) (A : xH) : xD E (d + 1) 280 57 [.ref r0, .int i1, .int i2, .int i3, w4, w5] [] A = if i2 ≤ i3 then xD E (d + 1) 280 153 [.ref r0, .int i1, .int i2, .long (0 : Int64), xJ, .int (0 : Int32)] [] A else xD E (d + 1) 280 67 [.ref r0, .int i1, .int i2, .int i3, .int (i1 - (1 : Int32)), xJ] [] A := (xD_bex E d h_280 [26, 57, 67, 153] 90 57 _ _ _).trans rfl
set_option maxRecDepth 100000 in
theorem e280_67 (E : Nat × (Nat → Int32)) (d : Nat) (r0 : Nat) (i1 : Int32) (i2 : Int32) (i3 : Int32) (i4 : Int32) (w5 : Value) (A : xH) : xD E (d + 1) 280 67 [.ref r0, .int i1, .int i2, .int i3, .int i4, w5] [] A = if i4 < 0 then xD E (d + 1) 280 57 [.ref r0, .int i1, .int i2, .int (i3 + (1 : Int32)), .int i4, xJ] [] A else (gN A r0 9 35).bind fun n1 => (aL A n1 (i4 + (1 : Int32))).bind fun x2 => (gN A r0 9 35).bind fun n3 => (aL A n3 i4).bind fun x4 => (gN A r0 9 2).bind fun n5 => (aI 0 A n5 (975 : Int32)).bind fun x6 => (sL A n1 (i4 + (1 : Int32)) (x2 + ((x4 * ((x6).toInt64)) / (10 : Int64)))).bind fun A7 => (gN A7 r0 9 35).bind fun n8 => (gN A7 r0 9 35).bind fun n9 => (aL A7 n9 i4).bind fun x10 => (gN A7 r0 9 2).bind fun n11 => (aI 0 A7 n11 (975 : Int32)).bind fun x12 => (sL A7 n8 i4 ((x10 * ((((10 : Int32) - x12)).toInt64)) / (10 : Int64))).bind fun A13 => xD E (d + 1) 280 67 [.ref r0, .int i1, .int i2, .int i3, .int (i4 + (-1 : Int32)), xJ] [] A13 := (xD_bex E d h_280 [26, 57, 67, 153] 90 67 _ _ _).trans rfl
set_option maxRecDepth 100000 in
theorem e280_153 (E : Nat × (Nat → Int32)) (d : Nat) (r0 : Nat) (i1 : Int32) (w2 : Value) (j3 : Int64) (i5 : Int32) (A : xH) : xD E (d + 1) 280 153 [.ref r0, .int i1, w2, .long j3, xJ, .int i5] [] A = if i1 ≤ i5 then some (some (.long j3), A) else (gN A r0 9 35).bind fun n1 => (aL A n1 i5).bind fun x2 => xD E (d + 1) 280 153 [.ref r0, .int i1, xJ, .long (j3 + x2), xJ, .int (i5 + (1 : Int32))] [] A := (xD_bex E d h_280 [26, 57, 67, 153] 90 153 _ _ _).trans rfl
-- Model.compare (II)I
set_option maxRecDepth 100000 in
theorem h_281 : xprog[281]? = some M_281 := rfl
set_option maxRecDepth 100000 in
theorem e281_0 (E : Nat × (Nat → Int32)) (d : Nat) (r0 : Nat) (i1 : Int32) (i2 : Int32) (A : xH) : xD E (d + 1) 281 0 [.ref r0, .int i1, .int i2, xJ, xJ] [] A = (xI (xC E d 218 [.ref r0, .int i1] A)).bind fun q1 => if q1.1 = 0 then some (some (.int (-1 : Int32)), q1.2) else (xI (xC E d 162 [.int i2] q1.2)).bind fun q2 => if q2.1 = 0 then some (some (.int (-1 : Int32)), q2.2) else (gN q2.2 r0 9 2).bind fun n3 => (aI 0 q2.2 n3 (980 : Int32)).bind fun x4 => (gN q2.2 r0 9 2).bind fun n5 => (sI 0 q2.2 n5 (980 : Int32) i1).bind fun A6 => (xI (xC E d 233 [.ref r0, .int i2] A6)).bind fun q7 => (gN q7.2 r0 9 2).bind fun n8 => (sI 0 q7.2 n8 (980 : Int32) x4).bind fun A9 => some (some (.int q7.1), A9) := (xD_bex E d h_281 [] 90 0 _ _ _).trans rfl
-- Model.stopped ()I
set_option maxRecDepth 100000 in
theorem h_282 : xprog[282]? = some M_282 := rfl
set_option maxRecDepth 100000 in
theorem e282_0 (E : Nat × (Nat → Int32)) (d : Nat) (r0 : Nat) (A : xH) : xD E (d + 1) 282 0 [.ref r0] [] A = (gI A r0 9 36).bind fun x1 => some (some (.int x1), A) := (xD_bex E d h_282 [] 90 0 _ _ _).trans rfl
-- Model.orders ()I
set_option maxRecDepth 100000 in
theorem h_283 : xprog[283]? = some M_283 := rfl
set_option maxRecDepth 100000 in
theorem e283_0 (E : Nat × (Nat → Int32)) (d : Nat) (r0 : Nat) (A : xH) : xD E (d + 1) 283 0 [.ref r0, xJ, xJ, xJ, xJ] [] A = (pF A r0 9 36 (.int (-1 : Int32))).bind fun A1 => (xI (xC E d 214 [.ref r0, .int (1 : Int32)] A1)).bind fun q2 => if q2.1 = 0 then (xI (xC E d 157 [.ref r0, .int (-6 : Int32)] q2.2)).bind fun q3 => some (some (.int q3.1), q3.2) else (xV (xC E d 165 [.ref r0, .int (1 : Int32)] q2.2)).bind fun A4 => xD E (d + 1) 283 27 [.ref r0, .int (0 : Int32), xJ, xJ, xJ] [] A4 := (xD_bex E d h_283 [27, 96, 123] 90 0 _ _ _).trans rfl
set_option maxRecDepth 100000 in
theorem e283_27 (E : Nat × (Nat → Int32)) (d : Nat) (r0 : Nat) (i1 : Int32) (w2 : Value) (w3 : Value) (w4 : Value) (A : xH) : xD E (d + 1) 283 27 [.ref r0, .int i1, w2, w3, w4] [] A = if (15424 : Int32) ≤ i1 then (gI A r0 9 32).bind fun x1 => (xV (xC E d 215 [.ref r0, .int (6 : Int32)] A)).bind fun A2 => (pF A2 r0 9 27 (.int (0 : Int32))).bind fun A3 => (pF A3 r0 9 28 (.int (-1 : Int32))).bind fun A4 => (pF A4 r0 9 37 (.int (2400 : Int32))).bind fun A5 => (gI A5 r0 9 37).bind fun x6 => (gN A5 r0 9 2).bind fun n7 => (aI 0 A5 n7 (987 : Int32)).bind fun x8 => xD E (d + 1) 283 96 [.ref r0, .int x1, .int (x6 + x8), .int (0 : Int32), xJ] [] A5 else (gN A r0 9 31).bind fun n9 => (gN A r0 9 30).bind fun n10 => (aI 0 A n10 i1).bind fun x11 => (sI 0 A n9 i1 x11).bind fun A12 => xD E (d + 1) 283 27 [.ref r0, .int (i1 + (1 : Int32)), xJ, xJ, xJ] [] A12 := (xD_bex E d h_283 [27, 96, 123] 90 27 _ _ _).trans rfl
set_option maxRecDepth 100000 in
theorem e283_96 (E : Nat × (Nat → Int32)) (d : Nat) (r0 : Nat) (i1 : Int32) (i2 : Int32) (i3 : Int32) (w4 : Value) (A : xH) : xD E (d + 1) 283 96 [.ref r0, .int i1, .int i2, .int i3, w4] [] A = (gI A r0 9 37).bind fun x1 => if i2 ≤ x1 then (gI A r0 9 27).bind fun x2 => (xI (xC E d 158 [.ref r0, .int x2] A)).bind fun q3 => some (some (.int q3.1), q3.2) else (xI (xC E d 287 [.ref r0, .int i2] A)).bind fun q4 => if q4.1 = 0 then (xV (xC E d 166 [.ref r0, .int (1 : Int32)] q4.2)).bind fun A5 => xD E (d + 1) 283 123 [.ref r0, .int i1, .int i2, .int i3, .int (0 : Int32)] [] A5 else xD E (d + 1) 283 96 [.ref r0, .int i1, .int i2, .int (i3 + (1 : Int32)), xJ] [] q4.2 := (xD_bex E d h_283 [27, 96, 123] 90 96 _ _ _).trans rfl
set_option maxRecDepth 100000 in
theorem e283_123 (E : Nat × (Nat → Int32)) (d : Nat) (r0 : Nat) (i1 : Int32) (w2 : Value) (i3 : Int32) (i4 : Int32) (A : xH) : xD E (d + 1) 283 123 [.ref r0, .int i1, w2, .int i3, .int i4] [] A = if (15424 : Int32) ≤ i4 then (pF A r0 9 32 (.int i1)).bind fun A1 => (pF A1 r0 9 36 (.int i3)).bind fun A2 => (xI (xC E d 157 [.ref r0, .int (-3 : Int32)] A2)).bind fun q3 => some (some (.int q3.1), q3.2) else (gN A r0 9 30).bind fun n4 => (gN A r0 9 31).bind fun n5 => (aI 0 A n5 i4).bind fun x6 => (sI 0 A n4 i4 x6).bind fun A7 => xD E (d + 1) 283 123 [.ref r0, .int i1, xJ, .int i3, .int (i4 + (1 : Int32))] [] A7 := (xD_bex E d h_283 [27, 96, 123] 90 123 _ _ _).trans rfl
-- Model.goesAlong (IZ)V
set_option maxRecDepth 100000 in
theorem h_284 : xprog[284]? = some M_284 := rfl
set_option maxRecDepth 100000 in
theorem e284_0 (E : Nat × (Nat → Int32)) (d : Nat) (r0 : Nat) (i1 : Int32) (i2 : Int32) (A : xH) : xD E (d + 1) 284 0 [.ref r0, .int i1, .int i2, xJ] [] A = (pF A r0 9 25 (.int (1 : Int32))).bind fun A1 => (pF A1 r0 9 23 (.int i1)).bind fun A2 => (gI A2 r0 9 37).bind fun x3 => (pF A2 r0 9 22 (.int x3)).bind fun A4 => (gI A4 r0 9 22).bind fun x5 => (xI (xC E d 220 [.ref r0, .int x5] A4)).bind fun q6 => (pF q6.2 r0 9 39 (.int q6.1)).bind fun A7 => (gI A7 r0 9 22).bind fun x8 => (pF A7 r0 9 22 (.int (x8 + (1 : Int32)))).bind fun A9 => (pF A9 r0 9 40 (.int (1 : Int32))).bind fun A10 => xD E (d + 1) 284 47 [.ref r0, .int i1, .int i2, .int (0 : Int32)] [] A10 := (xD_bex E d h_284 [47, 62, 79, 165, 192] 90 0 _ _ _).trans rfl
set_option maxRecDepth 100000 in
theorem e284_47 (E : Nat × (Nat → Int32)) (d : Nat) (r0 : Nat) (w1 : Value) (i2 : Int32) (i3 : Int32) (A : xH) : xD E (d + 1) 284 47 [.ref r0, w1, .int i2, .int i3] [] A = (gI A r0 9 39).bind fun x1 => if x1 = (20 : Int32) then xD E (d + 1) 284 62 [.ref r0, xJ, .int i2, .int i3] [.int (2 : Int32), .int i3] A else xD E (d + 1) 284 62 [.ref r0, xJ, .int i2, .int i3] [.int (1 : Int32), .int i3] A := (xD_bex E d h_284 [47, 62, 79, 165, 192] 90 47 _ _ _).trans rfl
set_option maxRecDepth 100000 in
theorem e284_62 (E : Nat × (Nat → Int32)) (d : Nat) (r0 : Nat) (w1 : Value) (i2 : Int32) (i3 : Int32) (s0 : Int32) (s1 : Int32) (A : xH) : xD E (d + 1) 284 62 [.ref r0, w1, .int i2, .int i3] [.int s1, .int s0] A = if s1 ≤ s0 then (pF A r0 9 38 (.int (1 : Int32))).bind fun A1 => (xI (xC E d 221 [.ref r0, .int (25 : Int32)] A1)).bind fun q2 => if q2.1 = 0 then xD E (d + 1) 284 165 [.ref r0, xJ, .int i2, .int i3] [] q2.2 else (gN q2.2 r0 9 2).bind fun n3 => (gI q2.2 r0 9 22).bind fun x4 => (aI 0 q2.2 n3 ((3788 : Int32) + x4)).bind fun x5 => (pF q2.2 r0 9 38 (.int x5)).bind fun A6 => (gI A6 r0 9 22).bind fun x7 => (pF A6 r0 9 22 (.int (x7 + (1 : Int32)))).bind fun A8 => xD E (d + 1) 284 165 [.ref r0, xJ, .int i2, .int i3] [] A8 else if i3 ≤ 0 then xD E (d + 1) 284 79 [.ref r0, xJ, .int i2, .int i3] [] A else (gI A r0 9 22).bind fun x9 => (pF A r0 9 22 (.int (x9 + (1 : Int32)))).bind fun A10 => xD E (d + 1) 284 79 [.ref r0, xJ, .int i2, .int i3] [] A10 := (xD_bex E d h_284 [47, 62, 79, 165, 192] 90 62 _ _ _).trans rfl
set_option maxRecDepth 100000 in
theorem e284_79 (E : Nat × (Nat → Int32)) (d : Nat) (r0 : Nat) (w1 : Value) (i2 : Int32) (i3 : Int32) (A : xH) : xD E (d + 1) 284 79 [.ref r0, w1, .int i2, .int i3] [] A = (pF A r0 9 24 (.int (0 : Int32))).bind fun A1 => (gN A1 r0 9 42).bind fun n2 => (xLo (xC E d 223 [.ref r0, .int i2] A1)).bind fun q3 => (sL q3.2 n2 i3 q3.1).bind fun A4 => (gI A4 r0 9 40).bind fun x5 => if x5 = 0 then (pF A4 r0 9 40 (.int (0 : Int32))).bind fun A6 => xD E (d + 1) 284 47 [.ref r0, xJ, .int i2, .int (i3 + (1 : Int32))] [] A6 else (gI A4 r0 9 24).bind fun x7 => if x7 = 0 then (pF A4 r0 9 40 (.int (1 : Int32))).bind fun A8 => xD E (d + 1) 284 47 [.ref r0, xJ, .int i2, .int (i3 + (1 : Int32))] [] A8 else (pF A4 r0 9 40 (.int (0 : Int32))).bind fun A9 => xD E (d + 1) 284 47 [.ref r0, xJ, .int i2, .int (i3 + (1 : Int32))] [] A9 := (xD_bex E d h_284 [47, 62, 79, 165, 192] 90 79 _ _ _).trans rfl
set_option maxRecDepth 100000 in
theorem e284_165 (E : Nat × (Nat → Int32)) (d : Nat) (r0 : Nat) (w1 : Value) (i2 : Int32) (w3 : Value) (A : xH) : xD E (d + 1) 284 165 [.ref r0, w1, .int i2, w3] [] A = (pF A r0 9 24 (.int (0 : Int32))).bind fun A1 => (xI (xC E d 221 [.ref r0, .int (3 : Int32)] A1)).bind fun q2 => if q2.1 = 0 then xD E (d + 1) 284 192 [.ref r0, xJ, .int i2, xJ] [.int (1 : Int32), .ref r0] q2.2 else (xI (xC E d 227 [.ref r0, .int i2] q2.2)).bind fun q3 => if q3.1 = 0 then xD E (d + 1) 284 192 [.ref r0, xJ, .int i2, xJ] [.int (0 : Int32), .ref r0] q3.2 else xD E (d + 1) 284 192 [.ref r0, xJ, .int i2, xJ] [.int (1 : Int32), .ref r0] q3.2 := (xD_bex E d h_284 [47, 62, 79, 165, 192] 90 165 _ _ _).trans rfl
set_option maxRecDepth 100000 in
theorem e284_192 (E : Nat × (Nat → Int32)) (d : Nat) (r0 : Nat) (w1 : Value) (w2 : Value) (w3 : Value) (s0 : Nat) (s1 : Int32) (A : xH) : xD E (d + 1) 284 192 [.ref r0, w1, w2, w3] [.int s1, .ref s0] A = if x01 s1 = true then (pF A s0 9 41 (.int s1)).bind fun A1 => (gI A1 r0 9 41).bind fun x2 => if x2 = 0 then (pF A1 r0 9 41 (.int (0 : Int32))).bind fun A3 => (gI A3 r0 9 22).bind fun x4 => (pF A3 r0 9 22 (.int (x4 + (1 : Int32)))).bind fun A5 => some (none, A5) else (gI A1 r0 9 24).bind fun x6 => if x6 = 0 then (pF A1 r0 9 41 (.int (1 : Int32))).bind fun A7 => (gI A7 r0 9 22).bind fun x8 => (pF A7 r0 9 22 (.int (x8 + (1 : Int32)))).bind fun A9 => some (none, A9) else (pF A1 r0 9 41 (.int (0 : Int32))).bind fun A10 => (gI A10 r0 9 22).bind fun x11 => (pF A10 r0 9 22 (.int (x11 + (1 : Int32)))).bind fun A12 => some (none, A12) else none := (xD_bex E d h_284 [47, 62, 79, 165, 192] 90 192 _ _ _).trans rfl
-- Model.small (J)I
set_option maxRecDepth 100000 in
theorem h_285 : xprog[285]? = some M_285 := rfl
set_option maxRecDepth 100000 in
theorem e285_0 (E : Nat × (Nat → Int32)) (d : Nat) (j0 : Int64) (A : xH) : xD E (d + 1) 285 0 [.long j0, xJ] [] A = if (lg_cmp j0 (0 : Int64)) < 0 then some (some (.int (-1 : Int32)), A) else if (lg_cmp j0 (1000000 : Int64)) ≤ 0 then some (some (.int ((j0).toInt32)), A) else some (some (.int (-1 : Int32)), A) := (xD_bex E d h_285 [] 90 0 _ _ _).trans rfl
-- Model.obeys ()I
set_option maxRecDepth 100000 in
theorem h_286 : xprog[286]? = some M_286 := rfl
set_option maxRecDepth 100000 in
theorem e286_0 (E : Nat × (Nat → Int32)) (d : Nat) (r0 : Nat) (A : xH) : xD E (d + 1) 286 0 [.ref r0, xJ, xJ] [] A = (gN A r0 9 42).bind fun n1 => (aL A n1 (0 : Int32)).bind fun x2 => (xI (xC E d 285 [.long x2] A)).bind fun q3 => (gI q3.2 r0 9 39).bind fun x4 => if x4 = (22 : Int32) then (xI (xC E d 257 [.ref r0, .int q3.1] q3.2)).bind fun q5 => some (some (.int q5.1), q5.2) else if x4 = (23 : Int32) then (xI (xC E d 258 [.ref r0, .int q3.1] q3.2)).bind fun q6 => some (some (.int q6.1), q6.2) else if x4 = (24 : Int32) then (xI (xC E d 259 [.ref r0, .int q3.1] q3.2)).bind fun q7 => some (some (.int q7.1), q7.2) else (gN q3.2 r0 9 42).bind fun n8 => (aL q3.2 n8 (1 : Int32)).bind fun x9 => (xI (xC E d 285 [.long x9] q3.2)).bind fun q10 => (xI (xC E d 256 [.ref r0, .int q3.1, .int q10.1] q10.2)).bind fun q11 => if 0 ≤ q11.1 then (pF q11.2 r0 9 28 (.int q11.1)).bind fun A12 => some (some (.int q11.1), A12) else (gI q11.2 r0 9 28).bind fun x13 => (pF q11.2 r0 9 28 (.int x13)).bind fun A14 => some (some (.int q11.1), A14) := (xD_bex E d h_286 [] 90 0 _ _ _).trans rfl
-- Model.runs (I)Z
set_option maxRecDepth 100000 in
theorem h_287 : xprog[287]? = some M_287 := rfl
set_option maxRecDepth 100000 in
theorem e287_0 (E : Nat × (Nat → Int32)) (d : Nat) (r0 : Nat) (i1 : Int32) (A : xH) : xD E (d + 1) 287 0 [.ref r0, .int i1, xJ, xJ, xJ] [] A = (xV (xC E d 284 [.ref r0, .int i1, .int (0 : Int32)] A)).bind fun A1 => (gI A1 r0 9 38).bind fun x2 => (gI A1 r0 9 22).bind fun x3 => xD E (d + 1) 287 19 [.ref r0, .int i1, .int x2, .int x3, .int (0 : Int32)] [] A1 := (xD_bex E d h_287 [19] 90 0 _ _ _).trans rfl
set_option maxRecDepth 100000 in
theorem e287_19 (E : Nat × (Nat → Int32)) (d : Nat) (r0 : Nat) (i1 : Int32) (i2 : Int32) (i3 : Int32) (i4 : Int32) (A : xH) : xD E (d + 1) 287 19 [.ref r0, .int i1, .int i2, .int i3, .int i4] [] A = if i2 ≤ i4 then (pF A r0 9 37 (.int i3)).bind fun A1 => some (some (.int (1 : Int32)), A1) else (xV (xC E d 284 [.ref r0, .int i1, .int (1 : Int32)] A)).bind fun A2 => (gI A2 r0 9 41).bind fun x3 => if x3 = 0 then xD E (d + 1) 287 19 [.ref r0, .int i1, .int i2, .int i3, .int (i4 + (1 : Int32))] [] A2 else (gI A2 r0 9 40).bind fun x4 => if x4 = 0 then some (some (.int (0 : Int32)), A2) else (xI (xC E d 286 [.ref r0] A2)).bind fun q5 => if 0 ≤ q5.1 then (gI q5.2 r0 9 27).bind fun x6 => (pF q5.2 r0 9 27 (.int (x6 + (1 : Int32)))).bind fun A7 => xD E (d + 1) 287 19 [.ref r0, .int i1, .int i2, .int i3, .int (i4 + (1 : Int32))] [] A7 else some (some (.int (0 : Int32)), q5.2) := (xD_bex E d h_287 [19] 90 19 _ _ _).trans rfl
-- Model.draws (I)I
set_option maxRecDepth 100000 in
theorem h_288 : xprog[288]? = some M_288 := rfl
set_option maxRecDepth 100000 in
theorem e288_0 (E : Nat × (Nat → Int32)) (d : Nat) (r0 : Nat) (i1 : Int32) (A : xH) : xD E (d + 1) 288 0 [.ref r0, .int i1] [] A = (gI A r0 9 45).bind fun x1 => (pF A r0 9 45 (.int ((xlrem (((1103 : Int64) * ((x1).toInt64)) + (12345 : Int64)) (1000003 : Int64))).toInt32)).bind fun A2 => (gI A2 r0 9 45).bind fun x3 => if i1 = 0 then none else some (some (.int (xrem x3 i1)), A2) := (xD_bex E d h_288 [] 90 0 _ _ _).trans rfl
-- Model.drawnAct ()V
set_option maxRecDepth 100000 in
theorem h_289 : xprog[289]? = some M_289 := rfl
set_option maxRecDepth 100000 in
theorem e289_0 (E : Nat × (Nat → Int32)) (d : Nat) (r0 : Nat) (A : xH) : xD E (d + 1) 289 0 [.ref r0, xJ, xJ, xJ] [] A = (xI (xC E d 288 [.ref r0, .int (40 : Int32)] A)).bind fun q1 => (xI (xC E d 288 [.ref r0, .int (8 : Int32)] q1.2)).bind fun q2 => (xI (xC E d 288 [.ref r0, .int (8 : Int32)] q2.2)).bind fun q3 => if (5 : Int32) ≤ q3.1 then if (7 : Int32) ≤ q3.1 then (gN q3.2 r0 9 2).bind fun n4 => (aI 0 q3.2 n4 (960 : Int32)).bind fun x5 => (xI (xC E d 155 [.int q2.1, .int x5] q3.2)).bind fun q6 => (xV (xC E d 251 [.ref r0, .int q6.1] q6.2)).bind fun A7 => some (none, A7) else (xI (xC E d 248 [.ref r0, .int q1.1] q3.2)).bind fun q8 => some (none, q8.2) else (xI (xC E d 243 [.ref r0, .int q1.1, .int q2.1] q3.2)).bind fun q9 => some (none, q9.2) := (xD_bex E d h_289 [] 90 0 _ _ _).trans rfl
-- Model.years (II)I
set_option maxRecDepth 100000 in
theorem h_290 : xprog[290]? = some M_290 := rfl
set_option maxRecDepth 100000 in
theorem e290_0 (E : Nat × (Nat → Int32)) (d : Nat) (r0 : Nat) (i1 : Int32) (i2 : Int32) (A : xH) : xD E (d + 1) 290 0 [.ref r0, .int i1, .int i2, xJ, xJ] [] A = (xI (xC E d 154 [.int i1, .int (0 : Int32), .int (1000000 : Int32)] A)).bind fun q1 => if q1.1 = 0 then (xI (xC E d 157 [.ref r0, .int (-1 : Int32)] q1.2)).bind fun q2 => some (some (.int q2.1), q2.2) else (xI (xC E d 154 [.int i2, .int (1 : Int32), .int (60 : Int32)] q1.2)).bind fun q3 => if q3.1 = 0 then (xI (xC E d 157 [.ref r0, .int (-1 : Int32)] q3.2)).bind fun q4 => some (some (.int q4.1), q4.2) else (pF q3.2 r0 9 45 (.int i1)).bind fun A5 => (pF A5 r0 9 44 (.int (1 : Int32))).bind fun A6 => (xV (xC E d 165 [.ref r0, .int (0 : Int32)] A6)).bind fun A7 => xD E (d + 1) 290 43 [.ref r0, .int i1, .int i2, .int (0 : Int32), xJ] [] A7 := (xD_bex E d h_290 [43, 66] 90 0 _ _ _).trans rfl
set_option maxRecDepth 100000 in
theorem e290_43 (E : Nat × (Nat → Int32)) (d : Nat) (r0 : Nat) (w1 : Value) (i2 : Int32) (i3 : Int32) (w4 : Value) (A : xH) : xD E (d + 1) 290 43 [.ref r0, w1, .int i2, .int i3, w4] [] A = if i2 ≤ i3 then (xI (xC E d 172 [.ref r0] A)).bind fun q1 => xD E (d + 1) 290 66 [.ref r0, xJ, .int i2, .int q1.1, .int (0 : Int32)] [] q1.2 else (xV (xC E d 289 [.ref r0] A)).bind fun A2 => xD E (d + 1) 290 43 [.ref r0, xJ, .int i2, .int (i3 + (1 : Int32)), xJ] [] A2 := (xD_bex E d h_290 [43, 66] 90 43 _ _ _).trans rfl
set_option maxRecDepth 100000 in
theorem e290_66 (E : Nat × (Nat → Int32)) (d : Nat) (r0 : Nat) (w1 : Value) (w2 : Value) (i3 : Int32) (i4 : Int32) (A : xH) : xD E (d + 1) 290 66 [.ref r0, w1, w2, .int i3, .int i4] [] A = if (40 : Int32) ≤ i4 then (xV (xC E d 166 [.ref r0, .int (0 : Int32)] A)).bind fun A1 => (xI (xC E d 158 [.ref r0, .int i3] A1)).bind fun q2 => some (some (.int q2.1), q2.2) else (gN A r0 9 43).bind fun n3 => (xI (xC E d 178 [.ref r0, .int i4] A)).bind fun q4 => (sI 0 q4.2 n3 i4 q4.1).bind fun A5 => xD E (d + 1) 290 66 [.ref r0, xJ, xJ, .int i3, .int (i4 + (1 : Int32))] [] A5 := (xD_bex E d h_290 [43, 66] 90 66 _ _ _).trans rfl
-- Model.drawn (I)I
set_option maxRecDepth 100000 in
theorem h_291 : xprog[291]? = some M_291 := rfl
set_option maxRecDepth 100000 in
theorem e291_0 (E : Nat × (Nat → Int32)) (d : Nat) (r0 : Nat) (i1 : Int32) (A : xH) : xD E (d + 1) 291 0 [.ref r0, .int i1] [] A = (gI A r0 9 44).bind fun x1 => if x1 = 0 then some (some (.int (-1 : Int32)), A) else (xI (xC E d 154 [.int i1, .int (0 : Int32), .int (39 : Int32)] A)).bind fun q2 => if q2.1 = 0 then some (some (.int (-1 : Int32)), q2.2) else (gN q2.2 r0 9 43).bind fun n3 => (aI 0 q2.2 n3 i1).bind fun x4 => some (some (.int x4), q2.2) := (xD_bex E d h_291 [] 90 0 _ _ _).trans rfl
-- Model.count (I)I
set_option maxRecDepth 100000 in
theorem h_292 : xprog[292]? = some M_292 := rfl
set_option maxRecDepth 100000 in
theorem e292_0 (E : Nat × (Nat → Int32)) (d : Nat) (r0 : Nat) (i1 : Int32) (A : xH) : xD E (d + 1) 292 0 [.ref r0, .int i1] [] A = if i1 = (0 : Int32) then (gN A r0 9 2).bind fun n1 => (aI 0 A n1 (961 : Int32)).bind fun x2 => some (some (.int x2), A) else if i1 = (1 : Int32) then (xI (xC E d 171 [.ref r0] A)).bind fun q3 => some (some (.int q3.1), q3.2) else if i1 = (2 : Int32) then (xI (xC E d 172 [.ref r0] A)).bind fun q4 => some (some (.int q4.1), q4.2) else if i1 = (3 : Int32) then (gN A r0 9 2).bind fun n5 => (aI 0 A n5 (960 : Int32)).bind fun x6 => some (some (.int x6), A) else if i1 = (4 : Int32) then (gN A r0 9 2).bind fun n7 => (aI 0 A n7 (978 : Int32)).bind fun x8 => some (some (.int x8), A) else if i1 = (5 : Int32) then (gN A r0 9 2).bind fun n9 => (aI 0 A n9 (979 : Int32)).bind fun x10 => some (some (.int x10), A) else if i1 = (6 : Int32) then (gI A r0 9 32).bind fun x11 => some (some (.int x11), A) else if i1 = (7 : Int32) then (gI A r0 9 13).bind fun x12 => some (some (.int x12), A) else if i1 = (8 : Int32) then (gN A r0 9 1).bind fun n13 => (aI 0 A n13 (i1 - (7 : Int32))).bind fun x14 => some (some (.int x14), A) else if i1 = (9 : Int32) then (gN A r0 9 1).bind fun n15 => (aI 0 A n15 (i1 - (7 : Int32))).bind fun x16 => some (some (.int x16), A) else if i1 = (10 : Int32) then (gN A r0 9 1).bind fun n17 => (aI 0 A n17 (i1 - (7 : Int32))).bind fun x18 => some (some (.int x18), A) else if i1 = (11 : Int32) then (gN A r0 9 1).bind fun n19 => (aI 0 A n19 (5 : Int32)).bind fun x20 => some (some (.int x20), A) else if i1 = (12 : Int32) then (gN A r0 9 1).bind fun n21 => (aI 0 A n21 (6 : Int32)).bind fun x22 => some (some (.int x22), A) else if i1 = (13 : Int32) then (gN A r0 9 2).bind fun n23 => (aI 0 A n23 (980 : Int32)).bind fun x24 => some (some (.int x24), A) else if i1 = (14 : Int32) then (gN A r0 9 2).bind fun n25 => (xI (xC E d 187 [.int (i1 - (14 : Int32))] A)).bind fun q26 => (aI 0 q26.2 n25 q26.1).bind fun x27 => some (some (.int x27), q26.2) else if i1 = (15 : Int32) then (gN A r0 9 2).bind fun n28 => (xI (xC E d 187 [.int (i1 - (14 : Int32))] A)).bind fun q29 => (aI 0 q29.2 n28 q29.1).bind fun x30 => some (some (.int x30), q29.2) else if i1 = (16 : Int32) then (gN A r0 9 2).bind fun n31 => (xI (xC E d 187 [.int (i1 - (14 : Int32))] A)).bind fun q32 => (aI 0 q32.2 n31 q32.1).bind fun x33 => some (some (.int x33), q32.2) else if i1 = (17 : Int32) then (gN A r0 9 2).bind fun n34 => (xI (xC E d 187 [.int (i1 - (14 : Int32))] A)).bind fun q35 => (aI 0 q35.2 n34 q35.1).bind fun x36 => some (some (.int x36), q35.2) else some (some (.int (-1 : Int32)), A) := (xD_bex E d h_292 [] 90 0 _ _ _).trans rfl
-- Model.status ()I
set_option maxRecDepth 100000 in
theorem h_293 : xprog[293]? = some M_293 := rfl
set_option maxRecDepth 100000 in
theorem e293_0 (E : Nat × (Nat → Int32)) (d : Nat) (r0 : Nat) (A : xH) : xD E (d + 1) 293 0 [.ref r0] [] A = (gI A r0 9 0).bind fun x1 => some (some (.int x1), A) := (xD_bex E d h_293 [] 90 0 _ _ _).trans rfl
end
section
/-! ===== what each block does, an equation a block (printed by wip/whole/gen.py) ===== -/
-- Law.law ([I)Z
set_option maxRecDepth 100000 in
theorem h_300 : xprog[300]? = some M_300 := rfl
set_option maxRecDepth 100000 in
theorem e300_0 (E : Nat × (Nat → Int32)) (d : Nat)  (A : xH) : xD E (d + 1) 300 0 [.float 0, xJ, xJ, xJ] [] A = (xV (xC E d 98 [.ref A.length] (A ++ [.inr (8, [.null, .null, .null, .null, .null, .null, .null, .null, .null, .null, .null, .null, .null, .null, .int 0, .int 0, .int 0, .int 0])]))).bind fun A1 => (xV (xC E d 164 [.ref A1.length] (A1 ++ [.inr (9, [.int 0, .null, .null, .null, .null, .null, .int 0, .null, .int 0, .int 0, .int 0, .null, .null, .int 0, .int 0, .null, .null, .null, .int 0, .int 0, .int 0, .int 0, .int 0, .int 0, .int 0, .int 0, .null, .int 0, .int 0, .null, .null, .null, .int 0, .null, .null, .null, .int 0, .int 0, .int 0, .int 0, .int 0, .int 0, .null, .null, .int 0, .int 0])]))).bind fun A2 => xD E (d + 1) 300 18 [.float 0, .ref A.length, .ref A1.length, .int (0 : Int32)] [] A2 := (xD_bex E d h_300 [18, 208, 241, 274, 307, 330, 363, 396, 459, 482, 495, 508, 521, 534, 547, 560, 583, 616, 639, 662, 685, 698, 731, 754, 777, 790, 803, 826, 849, 862, 895, 908, 921, 944, 978, 1011, 1044, 1067, 1090, 1113, 1136, 1149] 90 0 _ _ _).trans rfl
set_option maxRecDepth 100000 in
theorem e300_18 (E : Nat × (Nat → Int32)) (d : Nat) (r1 : Nat) (r2 : Nat) (i3 : Int32) (A : xH) : xD E (d + 1) 300 18 [.float 0, .ref r1, .ref r2, .int i3] [] A = if ((Int32.ofNat E.1) - (6 : Int32)) < i3 then some (some (.int (1 : Int32)), A) else if i3 < 0 ∨ E.1 ≤ (i3).toNatClampNeg then none else if ((E.2 (i3).toNatClampNeg) &&& (63 : Int32)) = (0 : Int32) then xD E (d + 1) 300 208 [.float 0, .ref r1, .ref r2, .int i3] [] A else if ((E.2 (i3).toNatClampNeg) &&& (63 : Int32)) = (1 : Int32) then xD E (d + 1) 300 241 [.float 0, .ref r1, .ref r2, .int i3] [] A else if ((E.2 (i3).toNatClampNeg) &&& (63 : Int32)) = (2 : Int32) then xD E (d + 1) 300 274 [.float 0, .ref r1, .ref r2, .int i3] [] A else if ((E.2 (i3).toNatClampNeg) &&& (63 : Int32)) = (3 : Int32) then xD E (d + 1) 300 307 [.float 0, .ref r1, .ref r2, .int i3] [] A else if ((E.2 (i3).toNatClampNeg) &&& (63 : Int32)) = (4 : Int32) then xD E (d + 1) 300 330 [.float 0, .ref r1, .ref r2, .int i3] [] A else if ((E.2 (i3).toNatClampNeg) &&& (63 : Int32)) = (5 : Int32) then xD E (d + 1) 300 363 [.float 0, .ref r1, .ref r2, .int i3] [] A else if ((E.2 (i3).toNatClampNeg) &&& (63 : Int32)) = (6 : Int32) then xD E (d + 1) 300 396 [.float 0, .ref r1, .ref r2, .int i3] [] A else if ((E.2 (i3).toNatClampNeg) &&& (63 : Int32)) = (7 : Int32) then xD E (d + 1) 300 459 [.float 0, .ref r1, .ref r2, .int i3] [] A else if ((E.2 (i3).toNatClampNeg) &&& (63 : Int32)) = (8 : Int32) then xD E (d + 1) 300 482 [.float 0, .ref r1, .ref r2, .int i3] [] A else if ((E.2 (i3).toNatClampNeg) &&& (63 : Int32)) = (9 : Int32) then xD E (d + 1) 300 495 [.float 0, .ref r1, .ref r2, .int i3] [] A else if ((E.2 (i3).toNatClampNeg) &&& (63 : Int32)) = (10 : Int32) then xD E (d + 1) 300 508 [.float 0, .ref r1, .ref r2, .int i3] [] A else if ((E.2 (i3).toNatClampNeg) &&& (63 : Int32)) = (11 : Int32) then xD E (d + 1) 300 521 [.float 0, .ref r1, .ref r2, .int i3] [] A else if ((E.2 (i3).toNatClampNeg) &&& (63 : Int32)) = (12 : Int32) then xD E (d + 1) 300 534 [.float 0, .ref r1, .ref r2, .int i3] [] A else if ((E.2 (i3).toNatClampNeg) &&& (63 : Int32)) = (13 : Int32) then xD E (d + 1) 300 547 [.float 0, .ref r1, .ref r2, .int i3] [] A else if ((E.2 (i3).toNatClampNeg) &&& (63 : Int32)) = (14 : Int32) then xD E (d + 1) 300 560 [.float 0, .ref r1, .ref r2, .int i3] [] A else if ((E.2 (i3).toNatClampNeg) &&& (63 : Int32)) = (15 : Int32) then xD E (d + 1) 300 583 [.float 0, .ref r1, .ref r2, .int i3] [] A else if ((E.2 (i3).toNatClampNeg) &&& (63 : Int32)) = (16 : Int32) then xD E (d + 1) 300 616 [.float 0, .ref r1, .ref r2, .int i3] [] A else if ((E.2 (i3).toNatClampNeg) &&& (63 : Int32)) = (17 : Int32) then xD E (d + 1) 300 639 [.float 0, .ref r1, .ref r2, .int i3] [] A else if ((E.2 (i3).toNatClampNeg) &&& (63 : Int32)) = (18 : Int32) then xD E (d + 1) 300 662 [.float 0, .ref r1, .ref r2, .int i3] [] A else if ((E.2 (i3).toNatClampNeg) &&& (63 : Int32)) = (19 : Int32) then xD E (d + 1) 300 685 [.float 0, .ref r1, .ref r2, .int i3] [] A else if ((E.2 (i3).toNatClampNeg) &&& (63 : Int32)) = (20 : Int32) then xD E (d + 1) 300 698 [.float 0, .ref r1, .ref r2, .int i3] [] A else if ((E.2 (i3).toNatClampNeg) &&& (63 : Int32)) = (21 : Int32) then xD E (d + 1) 300 731 [.float 0, .ref r1, .ref r2, .int i3] [] A else if ((E.2 (i3).toNatClampNeg) &&& (63 : Int32)) = (22 : Int32) then xD E (d + 1) 300 754 [.float 0, .ref r1, .ref r2, .int i3] [] A else if ((E.2 (i3).toNatClampNeg) &&& (63 : Int32)) = (23 : Int32) then xD E (d + 1) 300 777 [.float 0, .ref r1, .ref r2, .int i3] [] A else if ((E.2 (i3).toNatClampNeg) &&& (63 : Int32)) = (24 : Int32) then xD E (d + 1) 300 790 [.float 0, .ref r1, .ref r2, .int i3] [] A else if ((E.2 (i3).toNatClampNeg) &&& (63 : Int32)) = (25 : Int32) then xD E (d + 1) 300 803 [.float 0, .ref r1, .ref r2, .int i3] [] A else if ((E.2 (i3).toNatClampNeg) &&& (63 : Int32)) = (26 : Int32) then xD E (d + 1) 300 826 [.float 0, .ref r1, .ref r2, .int i3] [] A else if ((E.2 (i3).toNatClampNeg) &&& (63 : Int32)) = (27 : Int32) then xD E (d + 1) 300 849 [.float 0, .ref r1, .ref r2, .int i3] [] A else if ((E.2 (i3).toNatClampNeg) &&& (63 : Int32)) = (28 : Int32) then xD E (d + 1) 300 862 [.float 0, .ref r1, .ref r2, .int i3] [] A else if ((E.2 (i3).toNatClampNeg) &&& (63 : Int32)) = (29 : Int32) then xD E (d + 1) 300 895 [.float 0, .ref r1, .ref r2, .int i3] [] A else if ((E.2 (i3).toNatClampNeg) &&& (63 : Int32)) = (30 : Int32) then xD E (d + 1) 300 908 [.float 0, .ref r1, .ref r2, .int i3] [] A else if ((E.2 (i3).toNatClampNeg) &&& (63 : Int32)) = (31 : Int32) then xD E (d + 1) 300 921 [.float 0, .ref r1, .ref r2, .int i3] [] A else if ((E.2 (i3).toNatClampNeg) &&& (63 : Int32)) = (32 : Int32) then xD E (d + 1) 300 944 [.float 0, .ref r1, .ref r2, .int i3] [] A else if ((E.2 (i3).toNatClampNeg) &&& (63 : Int32)) = (33 : Int32) then xD E (d + 1) 300 978 [.float 0, .ref r1, .ref r2, .int i3] [] A else if ((E.2 (i3).toNatClampNeg) &&& (63 : Int32)) = (34 : Int32) then xD E (d + 1) 300 1011 [.float 0, .ref r1, .ref r2, .int i3] [] A else if ((E.2 (i3).toNatClampNeg) &&& (63 : Int32)) = (35 : Int32) then xD E (d + 1) 300 1044 [.float 0, .ref r1, .ref r2, .int i3] [] A else if ((E.2 (i3).toNatClampNeg) &&& (63 : Int32)) = (36 : Int32) then xD E (d + 1) 300 1067 [.float 0, .ref r1, .ref r2, .int i3] [] A else if ((E.2 (i3).toNatClampNeg) &&& (63 : Int32)) = (37 : Int32) then xD E (d + 1) 300 1090 [.float 0, .ref r1, .ref r2, .int i3] [] A else if ((E.2 (i3).toNatClampNeg) &&& (63 : Int32)) = (38 : Int32) then xD E (d + 1) 300 1113 [.float 0, .ref r1, .ref r2, .int i3] [] A else if ((E.2 (i3).toNatClampNeg) &&& (63 : Int32)) = (39 : Int32) then xD E (d + 1) 300 1136 [.float 0, .ref r1, .ref r2, .int i3] [] A else xD E (d + 1) 300 1149 [.float 0, .ref r1, .ref r2, .int i3] [] A := (xD_bex E d h_300 [18, 208, 241, 274, 307, 330, 363, 396, 459, 482, 495, 508, 521, 534, 547, 560, 583, 616, 639, 662, 685, 698, 731, 754, 777, 790, 803, 826, 849, 862, 895, 908, 921, 944, 978, 1011, 1044, 1067, 1090, 1113, 1136, 1149] 90 18 _ _ _).trans rfl
set_option maxRecDepth 100000 in
theorem e300_208 (E : Nat × (Nat → Int32)) (d : Nat) (r1 : Nat) (r2 : Nat) (i3 : Int32) (A : xH) : xD E (d + 1) 300 208 [.float 0, .ref r1, .ref r2, .int i3] [] A = if (i3 + (1 : Int32)) < 0 ∨ E.1 ≤ ((i3 + (1 : Int32))).toNatClampNeg then none else if (i3 + (2 : Int32)) < 0 ∨ E.1 ≤ ((i3 + (2 : Int32))).toNatClampNeg then none else (xI (xC E d 99 [.ref r1, .int (E.2 ((i3 + (1 : Int32))).toNatClampNeg), .int (E.2 ((i3 + (2 : Int32))).toNatClampNeg)] A)).bind fun q1 => if (i3 + (1 : Int32)) < 0 ∨ E.1 ≤ ((i3 + (1 : Int32))).toNatClampNeg then none else if (i3 + (2 : Int32)) < 0 ∨ E.1 ≤ ((i3 + (2 : Int32))).toNatClampNeg then none else (xI (xC E d 180 [.ref r2, .int (E.2 ((i3 + (1 : Int32))).toNatClampNeg), .int (E.2 ((i3 + (2 : Int32))).toNatClampNeg)] q1.2)).bind fun q2 => if q1.1 = q2.1 then xD E (d + 1) 300 1149 [.float 0, .ref r1, .ref r2, .int i3] [] q2.2 else some (some (.int (0 : Int32)), q2.2) := (xD_bex E d h_300 [18, 208, 241, 274, 307, 330, 363, 396, 459, 482, 495, 508, 521, 534, 547, 560, 583, 616, 639, 662, 685, 698, 731, 754, 777, 790, 803, 826, 849, 862, 895, 908, 921, 944, 978, 1011, 1044, 1067, 1090, 1113, 1136, 1149] 90 208 _ _ _).trans rfl
set_option maxRecDepth 100000 in
theorem e300_241 (E : Nat × (Nat → Int32)) (d : Nat) (r1 : Nat) (r2 : Nat) (i3 : Int32) (A : xH) : xD E (d + 1) 300 241 [.float 0, .ref r1, .ref r2, .int i3] [] A = if (i3 + (1 : Int32)) < 0 ∨ E.1 ≤ ((i3 + (1 : Int32))).toNatClampNeg then none else if (i3 + (2 : Int32)) < 0 ∨ E.1 ≤ ((i3 + (2 : Int32))).toNatClampNeg then none else (xI (xC E d 100 [.ref r1, .int (E.2 ((i3 + (1 : Int32))).toNatClampNeg), .int (E.2 ((i3 + (2 : Int32))).toNatClampNeg)] A)).bind fun q1 => if (i3 + (1 : Int32)) < 0 ∨ E.1 ≤ ((i3 + (1 : Int32))).toNatClampNeg then none else if (i3 + (2 : Int32)) < 0 ∨ E.1 ≤ ((i3 + (2 : Int32))).toNatClampNeg then none else (xI (xC E d 181 [.ref r2, .int (E.2 ((i3 + (1 : Int32))).toNatClampNeg), .int (E.2 ((i3 + (2 : Int32))).toNatClampNeg)] q1.2)).bind fun q2 => if q1.1 = q2.1 then xD E (d + 1) 300 1149 [.float 0, .ref r1, .ref r2, .int i3] [] q2.2 else some (some (.int (0 : Int32)), q2.2) := (xD_bex E d h_300 [18, 208, 241, 274, 307, 330, 363, 396, 459, 482, 495, 508, 521, 534, 547, 560, 583, 616, 639, 662, 685, 698, 731, 754, 777, 790, 803, 826, 849, 862, 895, 908, 921, 944, 978, 1011, 1044, 1067, 1090, 1113, 1136, 1149] 90 241 _ _ _).trans rfl
set_option maxRecDepth 100000 in
theorem e300_274 (E : Nat × (Nat → Int32)) (d : Nat) (r1 : Nat) (r2 : Nat) (i3 : Int32) (A : xH) : xD E (d + 1) 300 274 [.float 0, .ref r1, .ref r2, .int i3] [] A = if (i3 + (1 : Int32)) < 0 ∨ E.1 ≤ ((i3 + (1 : Int32))).toNatClampNeg then none else if (i3 + (2 : Int32)) < 0 ∨ E.1 ≤ ((i3 + (2 : Int32))).toNatClampNeg then none else (xI (xC E d 101 [.ref r1, .int (E.2 ((i3 + (1 : Int32))).toNatClampNeg), .int (E.2 ((i3 + (2 : Int32))).toNatClampNeg)] A)).bind fun q1 => if (i3 + (1 : Int32)) < 0 ∨ E.1 ≤ ((i3 + (1 : Int32))).toNatClampNeg then none else if (i3 + (2 : Int32)) < 0 ∨ E.1 ≤ ((i3 + (2 : Int32))).toNatClampNeg then none else (xI (xC E d 183 [.ref r2, .int (E.2 ((i3 + (1 : Int32))).toNatClampNeg), .int (E.2 ((i3 + (2 : Int32))).toNatClampNeg)] q1.2)).bind fun q2 => if q1.1 = q2.1 then xD E (d + 1) 300 1149 [.float 0, .ref r1, .ref r2, .int i3] [] q2.2 else some (some (.int (0 : Int32)), q2.2) := (xD_bex E d h_300 [18, 208, 241, 274, 307, 330, 363, 396, 459, 482, 495, 508, 521, 534, 547, 560, 583, 616, 639, 662, 685, 698, 731, 754, 777, 790, 803, 826, 849, 862, 895, 908, 921, 944, 978, 1011, 1044, 1067, 1090, 1113, 1136, 1149] 90 274 _ _ _).trans rfl
set_option maxRecDepth 100000 in
theorem e300_307 (E : Nat × (Nat → Int32)) (d : Nat) (r1 : Nat) (r2 : Nat) (i3 : Int32) (A : xH) : xD E (d + 1) 300 307 [.float 0, .ref r1, .ref r2, .int i3] [] A = if (i3 + (1 : Int32)) < 0 ∨ E.1 ≤ ((i3 + (1 : Int32))).toNatClampNeg then none else (xI (xC E d 102 [.ref r1, .int (E.2 ((i3 + (1 : Int32))).toNatClampNeg)] A)).bind fun q1 => if (i3 + (1 : Int32)) < 0 ∨ E.1 ≤ ((i3 + (1 : Int32))).toNatClampNeg then none else (xI (xC E d 184 [.ref r2, .int (E.2 ((i3 + (1 : Int32))).toNatClampNeg)] q1.2)).bind fun q2 => if q1.1 = q2.1 then xD E (d + 1) 300 1149 [.float 0, .ref r1, .ref r2, .int i3] [] q2.2 else some (some (.int (0 : Int32)), q2.2) := (xD_bex E d h_300 [18, 208, 241, 274, 307, 330, 363, 396, 459, 482, 495, 508, 521, 534, 547, 560, 583, 616, 639, 662, 685, 698, 731, 754, 777, 790, 803, 826, 849, 862, 895, 908, 921, 944, 978, 1011, 1044, 1067, 1090, 1113, 1136, 1149] 90 307 _ _ _).trans rfl
set_option maxRecDepth 100000 in
theorem e300_330 (E : Nat × (Nat → Int32)) (d : Nat) (r1 : Nat) (r2 : Nat) (i3 : Int32) (A : xH) : xD E (d + 1) 300 330 [.float 0, .ref r1, .ref r2, .int i3] [] A = if (i3 + (1 : Int32)) < 0 ∨ E.1 ≤ ((i3 + (1 : Int32))).toNatClampNeg then none else if (i3 + (2 : Int32)) < 0 ∨ E.1 ≤ ((i3 + (2 : Int32))).toNatClampNeg then none else (xI (xC E d 103 [.ref r1, .int (E.2 ((i3 + (1 : Int32))).toNatClampNeg), .int (E.2 ((i3 + (2 : Int32))).toNatClampNeg)] A)).bind fun q1 => if (i3 + (1 : Int32)) < 0 ∨ E.1 ≤ ((i3 + (1 : Int32))).toNatClampNeg then none else if (i3 + (2 : Int32)) < 0 ∨ E.1 ≤ ((i3 + (2 : Int32))).toNatClampNeg then none else (xI (xC E d 185 [.ref r2, .int (E.2 ((i3 + (1 : Int32))).toNatClampNeg), .int (E.2 ((i3 + (2 : Int32))).toNatClampNeg)] q1.2)).bind fun q2 => if q1.1 = q2.1 then xD E (d + 1) 300 1149 [.float 0, .ref r1, .ref r2, .int i3] [] q2.2 else some (some (.int (0 : Int32)), q2.2) := (xD_bex E d h_300 [18, 208, 241, 274, 307, 330, 363, 396, 459, 482, 495, 508, 521, 534, 547, 560, 583, 616, 639, 662, 685, 698, 731, 754, 777, 790, 803, 826, 849, 862, 895, 908, 921, 944, 978, 1011, 1044, 1067, 1090, 1113, 1136, 1149] 90 330 _ _ _).trans rfl
set_option maxRecDepth 100000 in
theorem e300_363 (E : Nat × (Nat → Int32)) (d : Nat) (r1 : Nat) (r2 : Nat) (i3 : Int32) (A : xH) : xD E (d + 1) 300 363 [.float 0, .ref r1, .ref r2, .int i3] [] A = if (i3 + (1 : Int32)) < 0 ∨ E.1 ≤ ((i3 + (1 : Int32))).toNatClampNeg then none else if (i3 + (2 : Int32)) < 0 ∨ E.1 ≤ ((i3 + (2 : Int32))).toNatClampNeg then none else (xI (xC E d 104 [.ref r1, .int (E.2 ((i3 + (1 : Int32))).toNatClampNeg), .int (E.2 ((i3 + (2 : Int32))).toNatClampNeg)] A)).bind fun q1 => if (i3 + (1 : Int32)) < 0 ∨ E.1 ≤ ((i3 + (1 : Int32))).toNatClampNeg then none else if (i3 + (2 : Int32)) < 0 ∨ E.1 ≤ ((i3 + (2 : Int32))).toNatClampNeg then none else (xI (xC E d 188 [.ref r2, .int (E.2 ((i3 + (1 : Int32))).toNatClampNeg), .int (E.2 ((i3 + (2 : Int32))).toNatClampNeg)] q1.2)).bind fun q2 => if q1.1 = q2.1 then xD E (d + 1) 300 1149 [.float 0, .ref r1, .ref r2, .int i3] [] q2.2 else some (some (.int (0 : Int32)), q2.2) := (xD_bex E d h_300 [18, 208, 241, 274, 307, 330, 363, 396, 459, 482, 495, 508, 521, 534, 547, 560, 583, 616, 639, 662, 685, 698, 731, 754, 777, 790, 803, 826, 849, 862, 895, 908, 921, 944, 978, 1011, 1044, 1067, 1090, 1113, 1136, 1149] 90 363 _ _ _).trans rfl
set_option maxRecDepth 100000 in
theorem e300_396 (E : Nat × (Nat → Int32)) (d : Nat) (r1 : Nat) (r2 : Nat) (i3 : Int32) (A : xH) : xD E (d + 1) 300 396 [.float 0, .ref r1, .ref r2, .int i3] [] A = if (i3 + (1 : Int32)) < 0 ∨ E.1 ≤ ((i3 + (1 : Int32))).toNatClampNeg then none else if (i3 + (2 : Int32)) < 0 ∨ E.1 ≤ ((i3 + (2 : Int32))).toNatClampNeg then none else if (i3 + (3 : Int32)) < 0 ∨ E.1 ≤ ((i3 + (3 : Int32))).toNatClampNeg then none else if (i3 + (4 : Int32)) < 0 ∨ E.1 ≤ ((i3 + (4 : Int32))).toNatClampNeg then none else if (i3 + (5 : Int32)) < 0 ∨ E.1 ≤ ((i3 + (5 : Int32))).toNatClampNeg then none else (xI (xC E d 105 [.ref r1, .int (E.2 ((i3 + (1 : Int32))).toNatClampNeg), .int (E.2 ((i3 + (2 : Int32))).toNatClampNeg), .int (E.2 ((i3 + (3 : Int32))).toNatClampNeg), .int (E.2 ((i3 + (4 : Int32))).toNatClampNeg), .int (E.2 ((i3 + (5 : Int32))).toNatClampNeg)] A)).bind fun q1 => if (i3 + (1 : Int32)) < 0 ∨ E.1 ≤ ((i3 + (1 : Int32))).toNatClampNeg then none else if (i3 + (2 : Int32)) < 0 ∨ E.1 ≤ ((i3 + (2 : Int32))).toNatClampNeg then none else if (i3 + (3 : Int32)) < 0 ∨ E.1 ≤ ((i3 + (3 : Int32))).toNatClampNeg then none else if (i3 + (4 : Int32)) < 0 ∨ E.1 ≤ ((i3 + (4 : Int32))).toNatClampNeg then none else if (i3 + (5 : Int32)) < 0 ∨ E.1 ≤ ((i3 + (5 : Int32))).toNatClampNeg then none else (xI (xC E d 191 [.ref r2, .int (E.2 ((i3 + (1 : Int32))).toNatClampNeg), .int (E.2 ((i3 + (2 : Int32))).toNatClampNeg), .int (E.2 ((i3 + (3 : Int32))).toNatClampNeg), .int (E.2 ((i3 + (4 : Int32))).toNatClampNeg), .int (E.2 ((i3 + (5 : Int32))).toNatClampNeg)] q1.2)).bind fun q2 => if q1.1 = q2.1 then xD E (d + 1) 300 1149 [.float 0, .ref r1, .ref r2, .int i3] [] q2.2 else some (some (.int (0 : Int32)), q2.2) := (xD_bex E d h_300 [18, 208, 241, 274, 307, 330, 363, 396, 459, 482, 495, 508, 521, 534, 547, 560, 583, 616, 639, 662, 685, 698, 731, 754, 777, 790, 803, 826, 849, 862, 895, 908, 921, 944, 978, 1011, 1044, 1067, 1090, 1113, 1136, 1149] 90 396 _ _ _).trans rfl
set_option maxRecDepth 100000 in
theorem e300_459 (E : Nat × (Nat → Int32)) (d : Nat) (r1 : Nat) (r2 : Nat) (i3 : Int32) (A : xH) : xD E (d + 1) 300 459 [.float 0, .ref r1, .ref r2, .int i3] [] A = if (i3 + (1 : Int32)) < 0 ∨ E.1 ≤ ((i3 + (1 : Int32))).toNatClampNeg then none else (xI (xC E d 106 [.ref r1, .int (E.2 ((i3 + (1 : Int32))).toNatClampNeg)] A)).bind fun q1 => if (i3 + (1 : Int32)) < 0 ∨ E.1 ≤ ((i3 + (1 : Int32))).toNatClampNeg then none else (xI (xC E d 192 [.ref r2, .int (E.2 ((i3 + (1 : Int32))).toNatClampNeg)] q1.2)).bind fun q2 => if q1.1 = q2.1 then xD E (d + 1) 300 1149 [.float 0, .ref r1, .ref r2, .int i3] [] q2.2 else some (some (.int (0 : Int32)), q2.2) := (xD_bex E d h_300 [18, 208, 241, 274, 307, 330, 363, 396, 459, 482, 495, 508, 521, 534, 547, 560, 583, 616, 639, 662, 685, 698, 731, 754, 777, 790, 803, 826, 849, 862, 895, 908, 921, 944, 978, 1011, 1044, 1067, 1090, 1113, 1136, 1149] 90 459 _ _ _).trans rfl
set_option maxRecDepth 100000 in
theorem e300_482 (E : Nat × (Nat → Int32)) (d : Nat) (r1 : Nat) (r2 : Nat) (i3 : Int32) (A : xH) : xD E (d + 1) 300 482 [.float 0, .ref r1, .ref r2, .int i3] [] A = (xI (xC E d 107 [.ref r1] A)).bind fun q1 => (xI (xC E d 189 [.ref r2] q1.2)).bind fun q2 => if q1.1 = q2.1 then xD E (d + 1) 300 1149 [.float 0, .ref r1, .ref r2, .int i3] [] q2.2 else some (some (.int (0 : Int32)), q2.2) := (xD_bex E d h_300 [18, 208, 241, 274, 307, 330, 363, 396, 459, 482, 495, 508, 521, 534, 547, 560, 583, 616, 639, 662, 685, 698, 731, 754, 777, 790, 803, 826, 849, 862, 895, 908, 921, 944, 978, 1011, 1044, 1067, 1090, 1113, 1136, 1149] 90 482 _ _ _).trans rfl
set_option maxRecDepth 100000 in
theorem e300_495 (E : Nat × (Nat → Int32)) (d : Nat) (r1 : Nat) (r2 : Nat) (i3 : Int32) (A : xH) : xD E (d + 1) 300 495 [.float 0, .ref r1, .ref r2, .int i3] [] A = (xI (xC E d 108 [.ref r1] A)).bind fun q1 => (xI (xC E d 190 [.ref r2] q1.2)).bind fun q2 => if q1.1 = q2.1 then xD E (d + 1) 300 1149 [.float 0, .ref r1, .ref r2, .int i3] [] q2.2 else some (some (.int (0 : Int32)), q2.2) := (xD_bex E d h_300 [18, 208, 241, 274, 307, 330, 363, 396, 459, 482, 495, 508, 521, 534, 547, 560, 583, 616, 639, 662, 685, 698, 731, 754, 777, 790, 803, 826, 849, 862, 895, 908, 921, 944, 978, 1011, 1044, 1067, 1090, 1113, 1136, 1149] 90 495 _ _ _).trans rfl
set_option maxRecDepth 100000 in
theorem e300_508 (E : Nat × (Nat → Int32)) (d : Nat) (r1 : Nat) (r2 : Nat) (i3 : Int32) (A : xH) : xD E (d + 1) 300 508 [.float 0, .ref r1, .ref r2, .int i3] [] A = (xI (xC E d 109 [.ref r1] A)).bind fun q1 => (xI (xC E d 216 [.ref r2] q1.2)).bind fun q2 => if q1.1 = q2.1 then xD E (d + 1) 300 1149 [.float 0, .ref r1, .ref r2, .int i3] [] q2.2 else some (some (.int (0 : Int32)), q2.2) := (xD_bex E d h_300 [18, 208, 241, 274, 307, 330, 363, 396, 459, 482, 495, 508, 521, 534, 547, 560, 583, 616, 639, 662, 685, 698, 731, 754, 777, 790, 803, 826, 849, 862, 895, 908, 921, 944, 978, 1011, 1044, 1067, 1090, 1113, 1136, 1149] 90 508 _ _ _).trans rfl
set_option maxRecDepth 100000 in
theorem e300_521 (E : Nat × (Nat → Int32)) (d : Nat) (r1 : Nat) (r2 : Nat) (i3 : Int32) (A : xH) : xD E (d + 1) 300 521 [.float 0, .ref r1, .ref r2, .int i3] [] A = (xI (xC E d 110 [.ref r1] A)).bind fun q1 => (xI (xC E d 283 [.ref r2] q1.2)).bind fun q2 => if q1.1 = q2.1 then xD E (d + 1) 300 1149 [.float 0, .ref r1, .ref r2, .int i3] [] q2.2 else some (some (.int (0 : Int32)), q2.2) := (xD_bex E d h_300 [18, 208, 241, 274, 307, 330, 363, 396, 459, 482, 495, 508, 521, 534, 547, 560, 583, 616, 639, 662, 685, 698, 731, 754, 777, 790, 803, 826, 849, 862, 895, 908, 921, 944, 978, 1011, 1044, 1067, 1090, 1113, 1136, 1149] 90 521 _ _ _).trans rfl
set_option maxRecDepth 100000 in
theorem e300_534 (E : Nat × (Nat → Int32)) (d : Nat) (r1 : Nat) (r2 : Nat) (i3 : Int32) (A : xH) : xD E (d + 1) 300 534 [.float 0, .ref r1, .ref r2, .int i3] [] A = (xI (xC E d 111 [.ref r1] A)).bind fun q1 => (xI (xC E d 217 [.ref r2] q1.2)).bind fun q2 => if q1.1 = q2.1 then xD E (d + 1) 300 1149 [.float 0, .ref r1, .ref r2, .int i3] [] q2.2 else some (some (.int (0 : Int32)), q2.2) := (xD_bex E d h_300 [18, 208, 241, 274, 307, 330, 363, 396, 459, 482, 495, 508, 521, 534, 547, 560, 583, 616, 639, 662, 685, 698, 731, 754, 777, 790, 803, 826, 849, 862, 895, 908, 921, 944, 978, 1011, 1044, 1067, 1090, 1113, 1136, 1149] 90 534 _ _ _).trans rfl
set_option maxRecDepth 100000 in
theorem e300_547 (E : Nat × (Nat → Int32)) (d : Nat) (r1 : Nat) (r2 : Nat) (i3 : Int32) (A : xH) : xD E (d + 1) 300 547 [.float 0, .ref r1, .ref r2, .int i3] [] A = (xI (xC E d 112 [.ref r1] A)).bind fun q1 => (xI (xC E d 282 [.ref r2] q1.2)).bind fun q2 => if q1.1 = q2.1 then xD E (d + 1) 300 1149 [.float 0, .ref r1, .ref r2, .int i3] [] q2.2 else some (some (.int (0 : Int32)), q2.2) := (xD_bex E d h_300 [18, 208, 241, 274, 307, 330, 363, 396, 459, 482, 495, 508, 521, 534, 547, 560, 583, 616, 639, 662, 685, 698, 731, 754, 777, 790, 803, 826, 849, 862, 895, 908, 921, 944, 978, 1011, 1044, 1067, 1090, 1113, 1136, 1149] 90 547 _ _ _).trans rfl
set_option maxRecDepth 100000 in
theorem e300_560 (E : Nat × (Nat → Int32)) (d : Nat) (r1 : Nat) (r2 : Nat) (i3 : Int32) (A : xH) : xD E (d + 1) 300 560 [.float 0, .ref r1, .ref r2, .int i3] [] A = if (i3 + (1 : Int32)) < 0 ∨ E.1 ≤ ((i3 + (1 : Int32))).toNatClampNeg then none else (xI (xC E d 113 [.ref r1, .int (E.2 ((i3 + (1 : Int32))).toNatClampNeg)] A)).bind fun q1 => if (i3 + (1 : Int32)) < 0 ∨ E.1 ≤ ((i3 + (1 : Int32))).toNatClampNeg then none else (xI (xC E d 219 [.ref r2, .int (E.2 ((i3 + (1 : Int32))).toNatClampNeg)] q1.2)).bind fun q2 => if q1.1 = q2.1 then xD E (d + 1) 300 1149 [.float 0, .ref r1, .ref r2, .int i3] [] q2.2 else some (some (.int (0 : Int32)), q2.2) := (xD_bex E d h_300 [18, 208, 241, 274, 307, 330, 363, 396, 459, 482, 495, 508, 521, 534, 547, 560, 583, 616, 639, 662, 685, 698, 731, 754, 777, 790, 803, 826, 849, 862, 895, 908, 921, 944, 978, 1011, 1044, 1067, 1090, 1113, 1136, 1149] 90 560 _ _ _).trans rfl
set_option maxRecDepth 100000 in
theorem e300_583 (E : Nat × (Nat → Int32)) (d : Nat) (r1 : Nat) (r2 : Nat) (i3 : Int32) (A : xH) : xD E (d + 1) 300 583 [.float 0, .ref r1, .ref r2, .int i3] [] A = if (i3 + (1 : Int32)) < 0 ∨ E.1 ≤ ((i3 + (1 : Int32))).toNatClampNeg then none else if (i3 + (2 : Int32)) < 0 ∨ E.1 ≤ ((i3 + (2 : Int32))).toNatClampNeg then none else (xI (xC E d 114 [.ref r1, .int (E.2 ((i3 + (1 : Int32))).toNatClampNeg), .int (E.2 ((i3 + (2 : Int32))).toNatClampNeg)] A)).bind fun q1 => if (i3 + (1 : Int32)) < 0 ∨ E.1 ≤ ((i3 + (1 : Int32))).toNatClampNeg then none else if (i3 + (2 : Int32)) < 0 ∨ E.1 ≤ ((i3 + (2 : Int32))).toNatClampNeg then none else (xI (xC E d 260 [.ref r2, .int (E.2 ((i3 + (1 : Int32))).toNatClampNeg), .int (E.2 ((i3 + (2 : Int32))).toNatClampNeg)] q1.2)).bind fun q2 => if q1.1 = q2.1 then xD E (d + 1) 300 1149 [.float 0, .ref r1, .ref r2, .int i3] [] q2.2 else some (some (.int (0 : Int32)), q2.2) := (xD_bex E d h_300 [18, 208, 241, 274, 307, 330, 363, 396, 459, 482, 495, 508, 521, 534, 547, 560, 583, 616, 639, 662, 685, 698, 731, 754, 777, 790, 803, 826, 849, 862, 895, 908, 921, 944, 978, 1011, 1044, 1067, 1090, 1113, 1136, 1149] 90 583 _ _ _).trans rfl
set_option maxRecDepth 100000 in
theorem e300_616 (E : Nat × (Nat → Int32)) (d : Nat) (r1 : Nat) (r2 : Nat) (i3 : Int32) (A : xH) : xD E (d + 1) 300 616 [.float 0, .ref r1, .ref r2, .int i3] [] A = if (i3 + (1 : Int32)) < 0 ∨ E.1 ≤ ((i3 + (1 : Int32))).toNatClampNeg then none else (xI (xC E d 115 [.ref r1, .int (E.2 ((i3 + (1 : Int32))).toNatClampNeg)] A)).bind fun q1 => if (i3 + (1 : Int32)) < 0 ∨ E.1 ≤ ((i3 + (1 : Int32))).toNatClampNeg then none else (xI (xC E d 261 [.ref r2, .int (E.2 ((i3 + (1 : Int32))).toNatClampNeg)] q1.2)).bind fun q2 => if q1.1 = q2.1 then xD E (d + 1) 300 1149 [.float 0, .ref r1, .ref r2, .int i3] [] q2.2 else some (some (.int (0 : Int32)), q2.2) := (xD_bex E d h_300 [18, 208, 241, 274, 307, 330, 363, 396, 459, 482, 495, 508, 521, 534, 547, 560, 583, 616, 639, 662, 685, 698, 731, 754, 777, 790, 803, 826, 849, 862, 895, 908, 921, 944, 978, 1011, 1044, 1067, 1090, 1113, 1136, 1149] 90 616 _ _ _).trans rfl
set_option maxRecDepth 100000 in
theorem e300_639 (E : Nat × (Nat → Int32)) (d : Nat) (r1 : Nat) (r2 : Nat) (i3 : Int32) (A : xH) : xD E (d + 1) 300 639 [.float 0, .ref r1, .ref r2, .int i3] [] A = if (i3 + (1 : Int32)) < 0 ∨ E.1 ≤ ((i3 + (1 : Int32))).toNatClampNeg then none else (xI (xC E d 116 [.ref r1, .int (E.2 ((i3 + (1 : Int32))).toNatClampNeg)] A)).bind fun q1 => if (i3 + (1 : Int32)) < 0 ∨ E.1 ≤ ((i3 + (1 : Int32))).toNatClampNeg then none else (xI (xC E d 262 [.ref r2, .int (E.2 ((i3 + (1 : Int32))).toNatClampNeg)] q1.2)).bind fun q2 => if q1.1 = q2.1 then xD E (d + 1) 300 1149 [.float 0, .ref r1, .ref r2, .int i3] [] q2.2 else some (some (.int (0 : Int32)), q2.2) := (xD_bex E d h_300 [18, 208, 241, 274, 307, 330, 363, 396, 459, 482, 495, 508, 521, 534, 547, 560, 583, 616, 639, 662, 685, 698, 731, 754, 777, 790, 803, 826, 849, 862, 895, 908, 921, 944, 978, 1011, 1044, 1067, 1090, 1113, 1136, 1149] 90 639 _ _ _).trans rfl
set_option maxRecDepth 100000 in
theorem e300_662 (E : Nat × (Nat → Int32)) (d : Nat) (r1 : Nat) (r2 : Nat) (i3 : Int32) (A : xH) : xD E (d + 1) 300 662 [.float 0, .ref r1, .ref r2, .int i3] [] A = if (i3 + (1 : Int32)) < 0 ∨ E.1 ≤ ((i3 + (1 : Int32))).toNatClampNeg then none else (xI (xC E d 117 [.ref r1, .int (E.2 ((i3 + (1 : Int32))).toNatClampNeg)] A)).bind fun q1 => if (i3 + (1 : Int32)) < 0 ∨ E.1 ≤ ((i3 + (1 : Int32))).toNatClampNeg then none else (xI (xC E d 263 [.ref r2, .int (E.2 ((i3 + (1 : Int32))).toNatClampNeg)] q1.2)).bind fun q2 => if q1.1 = q2.1 then xD E (d + 1) 300 1149 [.float 0, .ref r1, .ref r2, .int i3] [] q2.2 else some (some (.int (0 : Int32)), q2.2) := (xD_bex E d h_300 [18, 208, 241, 274, 307, 330, 363, 396, 459, 482, 495, 508, 521, 534, 547, 560, 583, 616, 639, 662, 685, 698, 731, 754, 777, 790, 803, 826, 849, 862, 895, 908, 921, 944, 978, 1011, 1044, 1067, 1090, 1113, 1136, 1149] 90 662 _ _ _).trans rfl
set_option maxRecDepth 100000 in
theorem e300_685 (E : Nat × (Nat → Int32)) (d : Nat) (r1 : Nat) (r2 : Nat) (i3 : Int32) (A : xH) : xD E (d + 1) 300 685 [.float 0, .ref r1, .ref r2, .int i3] [] A = (xI (xC E d 118 [.ref r1] A)).bind fun q1 => (xI (xC E d 253 [.ref r2] q1.2)).bind fun q2 => if q1.1 = q2.1 then xD E (d + 1) 300 1149 [.float 0, .ref r1, .ref r2, .int i3] [] q2.2 else some (some (.int (0 : Int32)), q2.2) := (xD_bex E d h_300 [18, 208, 241, 274, 307, 330, 363, 396, 459, 482, 495, 508, 521, 534, 547, 560, 583, 616, 639, 662, 685, 698, 731, 754, 777, 790, 803, 826, 849, 862, 895, 908, 921, 944, 978, 1011, 1044, 1067, 1090, 1113, 1136, 1149] 90 685 _ _ _).trans rfl
set_option maxRecDepth 100000 in
theorem e300_698 (E : Nat × (Nat → Int32)) (d : Nat) (r1 : Nat) (r2 : Nat) (i3 : Int32) (A : xH) : xD E (d + 1) 300 698 [.float 0, .ref r1, .ref r2, .int i3] [] A = if (i3 + (1 : Int32)) < 0 ∨ E.1 ≤ ((i3 + (1 : Int32))).toNatClampNeg then none else if (i3 + (2 : Int32)) < 0 ∨ E.1 ≤ ((i3 + (2 : Int32))).toNatClampNeg then none else (xI (xC E d 119 [.ref r1, .int (E.2 ((i3 + (1 : Int32))).toNatClampNeg), .int (E.2 ((i3 + (2 : Int32))).toNatClampNeg)] A)).bind fun q1 => if (i3 + (1 : Int32)) < 0 ∨ E.1 ≤ ((i3 + (1 : Int32))).toNatClampNeg then none else if (i3 + (2 : Int32)) < 0 ∨ E.1 ≤ ((i3 + (2 : Int32))).toNatClampNeg then none else (xI (xC E d 264 [.ref r2, .int (E.2 ((i3 + (1 : Int32))).toNatClampNeg), .int (E.2 ((i3 + (2 : Int32))).toNatClampNeg)] q1.2)).bind fun q2 => if q1.1 = q2.1 then xD E (d + 1) 300 1149 [.float 0, .ref r1, .ref r2, .int i3] [] q2.2 else some (some (.int (0 : Int32)), q2.2) := (xD_bex E d h_300 [18, 208, 241, 274, 307, 330, 363, 396, 459, 482, 495, 508, 521, 534, 547, 560, 583, 616, 639, 662, 685, 698, 731, 754, 777, 790, 803, 826, 849, 862, 895, 908, 921, 944, 978, 1011, 1044, 1067, 1090, 1113, 1136, 1149] 90 698 _ _ _).trans rfl
set_option maxRecDepth 100000 in
theorem e300_731 (E : Nat × (Nat → Int32)) (d : Nat) (r1 : Nat) (r2 : Nat) (i3 : Int32) (A : xH) : xD E (d + 1) 300 731 [.float 0, .ref r1, .ref r2, .int i3] [] A = if (i3 + (1 : Int32)) < 0 ∨ E.1 ≤ ((i3 + (1 : Int32))).toNatClampNeg then none else (xI (xC E d 120 [.ref r1, .int (E.2 ((i3 + (1 : Int32))).toNatClampNeg)] A)).bind fun q1 => if (i3 + (1 : Int32)) < 0 ∨ E.1 ≤ ((i3 + (1 : Int32))).toNatClampNeg then none else (xI (xC E d 265 [.ref r2, .int (E.2 ((i3 + (1 : Int32))).toNatClampNeg)] q1.2)).bind fun q2 => if q1.1 = q2.1 then xD E (d + 1) 300 1149 [.float 0, .ref r1, .ref r2, .int i3] [] q2.2 else some (some (.int (0 : Int32)), q2.2) := (xD_bex E d h_300 [18, 208, 241, 274, 307, 330, 363, 396, 459, 482, 495, 508, 521, 534, 547, 560, 583, 616, 639, 662, 685, 698, 731, 754, 777, 790, 803, 826, 849, 862, 895, 908, 921, 944, 978, 1011, 1044, 1067, 1090, 1113, 1136, 1149] 90 731 _ _ _).trans rfl
set_option maxRecDepth 100000 in
theorem e300_754 (E : Nat × (Nat → Int32)) (d : Nat) (r1 : Nat) (r2 : Nat) (i3 : Int32) (A : xH) : xD E (d + 1) 300 754 [.float 0, .ref r1, .ref r2, .int i3] [] A = if (i3 + (1 : Int32)) < 0 ∨ E.1 ≤ ((i3 + (1 : Int32))).toNatClampNeg then none else (xI (xC E d 121 [.ref r1, .int (E.2 ((i3 + (1 : Int32))).toNatClampNeg)] A)).bind fun q1 => if (i3 + (1 : Int32)) < 0 ∨ E.1 ≤ ((i3 + (1 : Int32))).toNatClampNeg then none else (xI (xC E d 266 [.ref r2, .int (E.2 ((i3 + (1 : Int32))).toNatClampNeg)] q1.2)).bind fun q2 => if q1.1 = q2.1 then xD E (d + 1) 300 1149 [.float 0, .ref r1, .ref r2, .int i3] [] q2.2 else some (some (.int (0 : Int32)), q2.2) := (xD_bex E d h_300 [18, 208, 241, 274, 307, 330, 363, 396, 459, 482, 495, 508, 521, 534, 547, 560, 583, 616, 639, 662, 685, 698, 731, 754, 777, 790, 803, 826, 849, 862, 895, 908, 921, 944, 978, 1011, 1044, 1067, 1090, 1113, 1136, 1149] 90 754 _ _ _).trans rfl
set_option maxRecDepth 100000 in
theorem e300_777 (E : Nat × (Nat → Int32)) (d : Nat) (r1 : Nat) (r2 : Nat) (i3 : Int32) (A : xH) : xD E (d + 1) 300 777 [.float 0, .ref r1, .ref r2, .int i3] [] A = (xI (xC E d 122 [.ref r1] A)).bind fun q1 => (xI (xC E d 268 [.ref r2] q1.2)).bind fun q2 => if q1.1 = q2.1 then xD E (d + 1) 300 1149 [.float 0, .ref r1, .ref r2, .int i3] [] q2.2 else some (some (.int (0 : Int32)), q2.2) := (xD_bex E d h_300 [18, 208, 241, 274, 307, 330, 363, 396, 459, 482, 495, 508, 521, 534, 547, 560, 583, 616, 639, 662, 685, 698, 731, 754, 777, 790, 803, 826, 849, 862, 895, 908, 921, 944, 978, 1011, 1044, 1067, 1090, 1113, 1136, 1149] 90 777 _ _ _).trans rfl
set_option maxRecDepth 100000 in
theorem e300_790 (E : Nat × (Nat → Int32)) (d : Nat) (r1 : Nat) (r2 : Nat) (i3 : Int32) (A : xH) : xD E (d + 1) 300 790 [.float 0, .ref r1, .ref r2, .int i3] [] A = (xI (xC E d 123 [.ref r1] A)).bind fun q1 => (xI (xC E d 269 [.ref r2] q1.2)).bind fun q2 => if q1.1 = q2.1 then xD E (d + 1) 300 1149 [.float 0, .ref r1, .ref r2, .int i3] [] q2.2 else some (some (.int (0 : Int32)), q2.2) := (xD_bex E d h_300 [18, 208, 241, 274, 307, 330, 363, 396, 459, 482, 495, 508, 521, 534, 547, 560, 583, 616, 639, 662, 685, 698, 731, 754, 777, 790, 803, 826, 849, 862, 895, 908, 921, 944, 978, 1011, 1044, 1067, 1090, 1113, 1136, 1149] 90 790 _ _ _).trans rfl
set_option maxRecDepth 100000 in
theorem e300_803 (E : Nat × (Nat → Int32)) (d : Nat) (r1 : Nat) (r2 : Nat) (i3 : Int32) (A : xH) : xD E (d + 1) 300 803 [.float 0, .ref r1, .ref r2, .int i3] [] A = if (i3 + (1 : Int32)) < 0 ∨ E.1 ≤ ((i3 + (1 : Int32))).toNatClampNeg then none else (xI (xC E d 124 [.ref r1, .int (E.2 ((i3 + (1 : Int32))).toNatClampNeg)] A)).bind fun q1 => if (i3 + (1 : Int32)) < 0 ∨ E.1 ≤ ((i3 + (1 : Int32))).toNatClampNeg then none else (xI (xC E d 270 [.ref r2, .int (E.2 ((i3 + (1 : Int32))).toNatClampNeg)] q1.2)).bind fun q2 => if q1.1 = q2.1 then xD E (d + 1) 300 1149 [.float 0, .ref r1, .ref r2, .int i3] [] q2.2 else some (some (.int (0 : Int32)), q2.2) := (xD_bex E d h_300 [18, 208, 241, 274, 307, 330, 363, 396, 459, 482, 495, 508, 521, 534, 547, 560, 583, 616, 639, 662, 685, 698, 731, 754, 777, 790, 803, 826, 849, 862, 895, 908, 921, 944, 978, 1011, 1044, 1067, 1090, 1113, 1136, 1149] 90 803 _ _ _).trans rfl
set_option maxRecDepth 100000 in
theorem e300_826 (E : Nat × (Nat → Int32)) (d : Nat) (r1 : Nat) (r2 : Nat) (i3 : Int32) (A : xH) : xD E (d + 1) 300 826 [.float 0, .ref r1, .ref r2, .int i3] [] A = if (i3 + (1 : Int32)) < 0 ∨ E.1 ≤ ((i3 + (1 : Int32))).toNatClampNeg then none else (xI (xC E d 125 [.ref r1, .int (E.2 ((i3 + (1 : Int32))).toNatClampNeg)] A)).bind fun q1 => if (i3 + (1 : Int32)) < 0 ∨ E.1 ≤ ((i3 + (1 : Int32))).toNatClampNeg then none else (xI (xC E d 273 [.ref r2, .int (E.2 ((i3 + (1 : Int32))).toNatClampNeg)] q1.2)).bind fun q2 => if q1.1 = q2.1 then xD E (d + 1) 300 1149 [.float 0, .ref r1, .ref r2, .int i3] [] q2.2 else some (some (.int (0 : Int32)), q2.2) := (xD_bex E d h_300 [18, 208, 241, 274, 307, 330, 363, 396, 459, 482, 495, 508, 521, 534, 547, 560, 583, 616, 639, 662, 685, 698, 731, 754, 777, 790, 803, 826, 849, 862, 895, 908, 921, 944, 978, 1011, 1044, 1067, 1090, 1113, 1136, 1149] 90 826 _ _ _).trans rfl
set_option maxRecDepth 100000 in
theorem e300_849 (E : Nat × (Nat → Int32)) (d : Nat) (r1 : Nat) (r2 : Nat) (i3 : Int32) (A : xH) : xD E (d + 1) 300 849 [.float 0, .ref r1, .ref r2, .int i3] [] A = (xI (xC E d 126 [.ref r1] A)).bind fun q1 => (xI (xC E d 274 [.ref r2] q1.2)).bind fun q2 => if q1.1 = q2.1 then xD E (d + 1) 300 1149 [.float 0, .ref r1, .ref r2, .int i3] [] q2.2 else some (some (.int (0 : Int32)), q2.2) := (xD_bex E d h_300 [18, 208, 241, 274, 307, 330, 363, 396, 459, 482, 495, 508, 521, 534, 547, 560, 583, 616, 639, 662, 685, 698, 731, 754, 777, 790, 803, 826, 849, 862, 895, 908, 921, 944, 978, 1011, 1044, 1067, 1090, 1113, 1136, 1149] 90 849 _ _ _).trans rfl
set_option maxRecDepth 100000 in
theorem e300_862 (E : Nat × (Nat → Int32)) (d : Nat) (r1 : Nat) (r2 : Nat) (i3 : Int32) (A : xH) : xD E (d + 1) 300 862 [.float 0, .ref r1, .ref r2, .int i3] [] A = if (i3 + (1 : Int32)) < 0 ∨ E.1 ≤ ((i3 + (1 : Int32))).toNatClampNeg then none else if (i3 + (2 : Int32)) < 0 ∨ E.1 ≤ ((i3 + (2 : Int32))).toNatClampNeg then none else (xI (xC E d 127 [.ref r1, .int (E.2 ((i3 + (1 : Int32))).toNatClampNeg), .int (E.2 ((i3 + (2 : Int32))).toNatClampNeg)] A)).bind fun q1 => if (i3 + (1 : Int32)) < 0 ∨ E.1 ≤ ((i3 + (1 : Int32))).toNatClampNeg then none else if (i3 + (2 : Int32)) < 0 ∨ E.1 ≤ ((i3 + (2 : Int32))).toNatClampNeg then none else (xI (xC E d 275 [.ref r2, .int (E.2 ((i3 + (1 : Int32))).toNatClampNeg), .int (E.2 ((i3 + (2 : Int32))).toNatClampNeg)] q1.2)).bind fun q2 => if q1.1 = q2.1 then xD E (d + 1) 300 1149 [.float 0, .ref r1, .ref r2, .int i3] [] q2.2 else some (some (.int (0 : Int32)), q2.2) := (xD_bex E d h_300 [18, 208, 241, 274, 307, 330, 363, 396, 459, 482, 495, 508, 521, 534, 547, 560, 583, 616, 639, 662, 685, 698, 731, 754, 777, 790, 803, 826, 849, 862, 895, 908, 921, 944, 978, 1011, 1044, 1067, 1090, 1113, 1136, 1149] 90 862 _ _ _).trans rfl
set_option maxRecDepth 100000 in
theorem e300_895 (E : Nat × (Nat → Int32)) (d : Nat) (r1 : Nat) (r2 : Nat) (i3 : Int32) (A : xH) : xD E (d + 1) 300 895 [.float 0, .ref r1, .ref r2, .int i3] [] A = (xI (xC E d 128 [.ref r1] A)).bind fun q1 => (xI (xC E d 276 [.ref r2] q1.2)).bind fun q2 => if q1.1 = q2.1 then xD E (d + 1) 300 1149 [.float 0, .ref r1, .ref r2, .int i3] [] q2.2 else some (some (.int (0 : Int32)), q2.2) := (xD_bex E d h_300 [18, 208, 241, 274, 307, 330, 363, 396, 459, 482, 495, 508, 521, 534, 547, 560, 583, 616, 639, 662, 685, 698, 731, 754, 777, 790, 803, 826, 849, 862, 895, 908, 921, 944, 978, 1011, 1044, 1067, 1090, 1113, 1136, 1149] 90 895 _ _ _).trans rfl
set_option maxRecDepth 100000 in
theorem e300_908 (E : Nat × (Nat → Int32)) (d : Nat) (r1 : Nat) (r2 : Nat) (i3 : Int32) (A : xH) : xD E (d + 1) 300 908 [.float 0, .ref r1, .ref r2, .int i3] [] A = (xI (xC E d 129 [.ref r1] A)).bind fun q1 => (xI (xC E d 278 [.ref r2] q1.2)).bind fun q2 => if q1.1 = q2.1 then xD E (d + 1) 300 1149 [.float 0, .ref r1, .ref r2, .int i3] [] q2.2 else some (some (.int (0 : Int32)), q2.2) := (xD_bex E d h_300 [18, 208, 241, 274, 307, 330, 363, 396, 459, 482, 495, 508, 521, 534, 547, 560, 583, 616, 639, 662, 685, 698, 731, 754, 777, 790, 803, 826, 849, 862, 895, 908, 921, 944, 978, 1011, 1044, 1067, 1090, 1113, 1136, 1149] 90 908 _ _ _).trans rfl
set_option maxRecDepth 100000 in
theorem e300_921 (E : Nat × (Nat → Int32)) (d : Nat) (r1 : Nat) (r2 : Nat) (i3 : Int32) (A : xH) : xD E (d + 1) 300 921 [.float 0, .ref r1, .ref r2, .int i3] [] A = if (i3 + (1 : Int32)) < 0 ∨ E.1 ≤ ((i3 + (1 : Int32))).toNatClampNeg then none else (xI (xC E d 130 [.ref r1, .int (E.2 ((i3 + (1 : Int32))).toNatClampNeg)] A)).bind fun q1 => if (i3 + (1 : Int32)) < 0 ∨ E.1 ≤ ((i3 + (1 : Int32))).toNatClampNeg then none else (xI (xC E d 279 [.ref r2, .int (E.2 ((i3 + (1 : Int32))).toNatClampNeg)] q1.2)).bind fun q2 => if q1.1 = q2.1 then xD E (d + 1) 300 1149 [.float 0, .ref r1, .ref r2, .int i3] [] q2.2 else some (some (.int (0 : Int32)), q2.2) := (xD_bex E d h_300 [18, 208, 241, 274, 307, 330, 363, 396, 459, 482, 495, 508, 521, 534, 547, 560, 583, 616, 639, 662, 685, 698, 731, 754, 777, 790, 803, 826, 849, 862, 895, 908, 921, 944, 978, 1011, 1044, 1067, 1090, 1113, 1136, 1149] 90 921 _ _ _).trans rfl
set_option maxRecDepth 100000 in
theorem e300_944 (E : Nat × (Nat → Int32)) (d : Nat) (r1 : Nat) (r2 : Nat) (i3 : Int32) (A : xH) : xD E (d + 1) 300 944 [.float 0, .ref r1, .ref r2, .int i3] [] A = if (i3 + (1 : Int32)) < 0 ∨ E.1 ≤ ((i3 + (1 : Int32))).toNatClampNeg then none else if (i3 + (2 : Int32)) < 0 ∨ E.1 ≤ ((i3 + (2 : Int32))).toNatClampNeg then none else (xLo (xC E d 131 [.ref r1, .int (E.2 ((i3 + (1 : Int32))).toNatClampNeg), .int (E.2 ((i3 + (2 : Int32))).toNatClampNeg)] A)).bind fun q1 => if (i3 + (1 : Int32)) < 0 ∨ E.1 ≤ ((i3 + (1 : Int32))).toNatClampNeg then none else if (i3 + (2 : Int32)) < 0 ∨ E.1 ≤ ((i3 + (2 : Int32))).toNatClampNeg then none else (xLo (xC E d 280 [.ref r2, .int (E.2 ((i3 + (1 : Int32))).toNatClampNeg), .int (E.2 ((i3 + (2 : Int32))).toNatClampNeg)] q1.2)).bind fun q2 => if (lg_cmp q1.1 q2.1) = 0 then xD E (d + 1) 300 1149 [.float 0, .ref r1, .ref r2, .int i3] [] q2.2 else some (some (.int (0 : Int32)), q2.2) := (xD_bex E d h_300 [18, 208, 241, 274, 307, 330, 363, 396, 459, 482, 495, 508, 521, 534, 547, 560, 583, 616, 639, 662, 685, 698, 731, 754, 777, 790, 803, 826, 849, 862, 895, 908, 921, 944, 978, 1011, 1044, 1067, 1090, 1113, 1136, 1149] 90 944 _ _ _).trans rfl
set_option maxRecDepth 100000 in
theorem e300_978 (E : Nat × (Nat → Int32)) (d : Nat) (r1 : Nat) (r2 : Nat) (i3 : Int32) (A : xH) : xD E (d + 1) 300 978 [.float 0, .ref r1, .ref r2, .int i3] [] A = if (i3 + (1 : Int32)) < 0 ∨ E.1 ≤ ((i3 + (1 : Int32))).toNatClampNeg then none else if (i3 + (2 : Int32)) < 0 ∨ E.1 ≤ ((i3 + (2 : Int32))).toNatClampNeg then none else (xI (xC E d 132 [.ref r1, .int (E.2 ((i3 + (1 : Int32))).toNatClampNeg), .int (E.2 ((i3 + (2 : Int32))).toNatClampNeg)] A)).bind fun q1 => if (i3 + (1 : Int32)) < 0 ∨ E.1 ≤ ((i3 + (1 : Int32))).toNatClampNeg then none else if (i3 + (2 : Int32)) < 0 ∨ E.1 ≤ ((i3 + (2 : Int32))).toNatClampNeg then none else (xI (xC E d 281 [.ref r2, .int (E.2 ((i3 + (1 : Int32))).toNatClampNeg), .int (E.2 ((i3 + (2 : Int32))).toNatClampNeg)] q1.2)).bind fun q2 => if q1.1 = q2.1 then xD E (d + 1) 300 1149 [.float 0, .ref r1, .ref r2, .int i3] [] q2.2 else some (some (.int (0 : Int32)), q2.2) := (xD_bex E d h_300 [18, 208, 241, 274, 307, 330, 363, 396, 459, 482, 495, 508, 521, 534, 547, 560, 583, 616, 639, 662, 685, 698, 731, 754, 777, 790, 803, 826, 849, 862, 895, 908, 921, 944, 978, 1011, 1044, 1067, 1090, 1113, 1136, 1149] 90 978 _ _ _).trans rfl
set_option maxRecDepth 100000 in
theorem e300_1011 (E : Nat × (Nat → Int32)) (d : Nat) (r1 : Nat) (r2 : Nat) (i3 : Int32) (A : xH) : xD E (d + 1) 300 1011 [.float 0, .ref r1, .ref r2, .int i3] [] A = if (i3 + (1 : Int32)) < 0 ∨ E.1 ≤ ((i3 + (1 : Int32))).toNatClampNeg then none else if (i3 + (2 : Int32)) < 0 ∨ E.1 ≤ ((i3 + (2 : Int32))).toNatClampNeg then none else (xI (xC E d 133 [.ref r1, .int (E.2 ((i3 + (1 : Int32))).toNatClampNeg), .int (E.2 ((i3 + (2 : Int32))).toNatClampNeg)] A)).bind fun q1 => if (i3 + (1 : Int32)) < 0 ∨ E.1 ≤ ((i3 + (1 : Int32))).toNatClampNeg then none else if (i3 + (2 : Int32)) < 0 ∨ E.1 ≤ ((i3 + (2 : Int32))).toNatClampNeg then none else (xI (xC E d 290 [.ref r2, .int (E.2 ((i3 + (1 : Int32))).toNatClampNeg), .int (E.2 ((i3 + (2 : Int32))).toNatClampNeg)] q1.2)).bind fun q2 => if q1.1 = q2.1 then xD E (d + 1) 300 1149 [.float 0, .ref r1, .ref r2, .int i3] [] q2.2 else some (some (.int (0 : Int32)), q2.2) := (xD_bex E d h_300 [18, 208, 241, 274, 307, 330, 363, 396, 459, 482, 495, 508, 521, 534, 547, 560, 583, 616, 639, 662, 685, 698, 731, 754, 777, 790, 803, 826, 849, 862, 895, 908, 921, 944, 978, 1011, 1044, 1067, 1090, 1113, 1136, 1149] 90 1011 _ _ _).trans rfl
set_option maxRecDepth 100000 in
theorem e300_1044 (E : Nat × (Nat → Int32)) (d : Nat) (r1 : Nat) (r2 : Nat) (i3 : Int32) (A : xH) : xD E (d + 1) 300 1044 [.float 0, .ref r1, .ref r2, .int i3] [] A = if (i3 + (1 : Int32)) < 0 ∨ E.1 ≤ ((i3 + (1 : Int32))).toNatClampNeg then none else (xI (xC E d 134 [.ref r1, .int (E.2 ((i3 + (1 : Int32))).toNatClampNeg)] A)).bind fun q1 => if (i3 + (1 : Int32)) < 0 ∨ E.1 ≤ ((i3 + (1 : Int32))).toNatClampNeg then none else (xI (xC E d 291 [.ref r2, .int (E.2 ((i3 + (1 : Int32))).toNatClampNeg)] q1.2)).bind fun q2 => if q1.1 = q2.1 then xD E (d + 1) 300 1149 [.float 0, .ref r1, .ref r2, .int i3] [] q2.2 else some (some (.int (0 : Int32)), q2.2) := (xD_bex E d h_300 [18, 208, 241, 274, 307, 330, 363, 396, 459, 482, 495, 508, 521, 534, 547, 560, 583, 616, 639, 662, 685, 698, 731, 754, 777, 790, 803, 826, 849, 862, 895, 908, 921, 944, 978, 1011, 1044, 1067, 1090, 1113, 1136, 1149] 90 1044 _ _ _).trans rfl
set_option maxRecDepth 100000 in
theorem e300_1067 (E : Nat × (Nat → Int32)) (d : Nat) (r1 : Nat) (r2 : Nat) (i3 : Int32) (A : xH) : xD E (d + 1) 300 1067 [.float 0, .ref r1, .ref r2, .int i3] [] A = if (i3 + (1 : Int32)) < 0 ∨ E.1 ≤ ((i3 + (1 : Int32))).toNatClampNeg then none else (xI (xC E d 135 [.ref r1, .int (E.2 ((i3 + (1 : Int32))).toNatClampNeg)] A)).bind fun q1 => if (i3 + (1 : Int32)) < 0 ∨ E.1 ≤ ((i3 + (1 : Int32))).toNatClampNeg then none else (xI (xC E d 167 [.ref r2, .int (E.2 ((i3 + (1 : Int32))).toNatClampNeg)] q1.2)).bind fun q2 => if q1.1 = q2.1 then xD E (d + 1) 300 1149 [.float 0, .ref r1, .ref r2, .int i3] [] q2.2 else some (some (.int (0 : Int32)), q2.2) := (xD_bex E d h_300 [18, 208, 241, 274, 307, 330, 363, 396, 459, 482, 495, 508, 521, 534, 547, 560, 583, 616, 639, 662, 685, 698, 731, 754, 777, 790, 803, 826, 849, 862, 895, 908, 921, 944, 978, 1011, 1044, 1067, 1090, 1113, 1136, 1149] 90 1067 _ _ _).trans rfl
set_option maxRecDepth 100000 in
theorem e300_1090 (E : Nat × (Nat → Int32)) (d : Nat) (r1 : Nat) (r2 : Nat) (i3 : Int32) (A : xH) : xD E (d + 1) 300 1090 [.float 0, .ref r1, .ref r2, .int i3] [] A = if (i3 + (1 : Int32)) < 0 ∨ E.1 ≤ ((i3 + (1 : Int32))).toNatClampNeg then none else (xI (xC E d 136 [.ref r1, .int (E.2 ((i3 + (1 : Int32))).toNatClampNeg)] A)).bind fun q1 => if (i3 + (1 : Int32)) < 0 ∨ E.1 ≤ ((i3 + (1 : Int32))).toNatClampNeg then none else (xI (xC E d 168 [.ref r2, .int (E.2 ((i3 + (1 : Int32))).toNatClampNeg)] q1.2)).bind fun q2 => if q1.1 = q2.1 then xD E (d + 1) 300 1149 [.float 0, .ref r1, .ref r2, .int i3] [] q2.2 else some (some (.int (0 : Int32)), q2.2) := (xD_bex E d h_300 [18, 208, 241, 274, 307, 330, 363, 396, 459, 482, 495, 508, 521, 534, 547, 560, 583, 616, 639, 662, 685, 698, 731, 754, 777, 790, 803, 826, 849, 862, 895, 908, 921, 944, 978, 1011, 1044, 1067, 1090, 1113, 1136, 1149] 90 1090 _ _ _).trans rfl
set_option maxRecDepth 100000 in
theorem e300_1113 (E : Nat × (Nat → Int32)) (d : Nat) (r1 : Nat) (r2 : Nat) (i3 : Int32) (A : xH) : xD E (d + 1) 300 1113 [.float 0, .ref r1, .ref r2, .int i3] [] A = if (i3 + (1 : Int32)) < 0 ∨ E.1 ≤ ((i3 + (1 : Int32))).toNatClampNeg then none else (xI (xC E d 137 [.ref r1, .int (E.2 ((i3 + (1 : Int32))).toNatClampNeg)] A)).bind fun q1 => if (i3 + (1 : Int32)) < 0 ∨ E.1 ≤ ((i3 + (1 : Int32))).toNatClampNeg then none else (xI (xC E d 292 [.ref r2, .int (E.2 ((i3 + (1 : Int32))).toNatClampNeg)] q1.2)).bind fun q2 => if q1.1 = q2.1 then xD E (d + 1) 300 1149 [.float 0, .ref r1, .ref r2, .int i3] [] q2.2 else some (some (.int (0 : Int32)), q2.2) := (xD_bex E d h_300 [18, 208, 241, 274, 307, 330, 363, 396, 459, 482, 495, 508, 521, 534, 547, 560, 583, 616, 639, 662, 685, 698, 731, 754, 777, 790, 803, 826, 849, 862, 895, 908, 921, 944, 978, 1011, 1044, 1067, 1090, 1113, 1136, 1149] 90 1113 _ _ _).trans rfl
set_option maxRecDepth 100000 in
theorem e300_1136 (E : Nat × (Nat → Int32)) (d : Nat) (r1 : Nat) (r2 : Nat) (i3 : Int32) (A : xH) : xD E (d + 1) 300 1136 [.float 0, .ref r1, .ref r2, .int i3] [] A = (xI (xC E d 138 [.ref r1] A)).bind fun q1 => (xI (xC E d 293 [.ref r2] q1.2)).bind fun q2 => if q1.1 = q2.1 then xD E (d + 1) 300 1149 [.float 0, .ref r1, .ref r2, .int i3] [] q2.2 else some (some (.int (0 : Int32)), q2.2) := (xD_bex E d h_300 [18, 208, 241, 274, 307, 330, 363, 396, 459, 482, 495, 508, 521, 534, 547, 560, 583, 616, 639, 662, 685, 698, 731, 754, 777, 790, 803, 826, 849, 862, 895, 908, 921, 944, 978, 1011, 1044, 1067, 1090, 1113, 1136, 1149] 90 1136 _ _ _).trans rfl
set_option maxRecDepth 100000 in
theorem e300_1149 (E : Nat × (Nat → Int32)) (d : Nat) (r1 : Nat) (r2 : Nat) (i3 : Int32) (A : xH) : xD E (d + 1) 300 1149 [.float 0, .ref r1, .ref r2, .int i3] [] A = xD E (d + 1) 300 18 [.float 0, .ref r1, .ref r2, .int (i3 + (6 : Int32))] [] A := (xD_bex E d h_300 [18, 208, 241, 274, 307, 330, 363, 396, 459, 482, 495, 508, 521, 534, 547, 560, 583, 616, 639, 662, 685, 698, 731, 754, 777, 790, 803, 826, 849, 862, 895, 908, 921, 944, 978, 1011, 1044, 1067, 1090, 1113, 1136, 1149] 90 1149 _ _ _).trans rfl
end
section
/-! ===== what an effect of the abstract machine says of the stack it began with ===== -/
section XI
variable {T : xT} {E : Nat × (Nat → Int32)} {own rt ini : Nat} {pc : Nat} {ls st : List Value} {A : xH} {n : xN}
theorem i_bin {f : Int32 → Int32 → Int32} (h : xbin xgo0 pc ls st A f = some n) : ∃ x y s, st = .int y :: .int x :: s ∧ n = .inl (pc + 1, ls, .int (f x y) :: s, A) := by
  unfold xbin at h
  split at h
  · exact ⟨_, _, _, rfl, (Option.some.inj h).symm⟩
  · cases h
theorem i_lbin {f : Int64 → Int64 → Int64} (h : xlbin xgo0 pc ls st A f = some n) : ∃ x y s, st = .long y :: .long x :: s ∧ n = .inl (pc + 1, ls, .long (f x y) :: s, A) := by
  unfold xlbin at h
  split at h
  · exact ⟨_, _, _, rfl, (Option.some.inj h).symm⟩
  · cases h
theorem i_binz {f : Int32 → Int32 → Int32} (h : xbinz xgo0 pc ls st A f = some n) : ∃ x y s, st = .int y :: .int x :: s ∧ ¬ y = 0 ∧ n = .inl (pc + 1, ls, .int (f x y) :: s, A) := by
  unfold xbinz at h
  split at h
  · split at h
    · cases h
    · rename_i hz
      exact ⟨_, _, _, rfl, hz, (Option.some.inj h).symm⟩
  · cases h
theorem i_lbinz {f : Int64 → Int64 → Int64} (h : xlbinz xgo0 pc ls st A f = some n) : ∃ x y s, st = .long y :: .long x :: s ∧ ¬ y = 0 ∧ n = .inl (pc + 1, ls, .long (f x y) :: s, A) := by
  unfold xlbinz at h
  split at h
  · split at h
    · cases h
    · rename_i hz
      exact ⟨_, _, _, rfl, hz, (Option.some.inj h).symm⟩
  · cases h
theorem i_ldI {v : Value} {k : Value → Option xN} (h : xldI v k = some n) : ∃ x, v = .int x ∧ k (.int x) = some n := by
  unfold xldI at h
  split at h
  · exact ⟨_, rfl, h⟩
  · cases h
theorem i_ldL {v : Value} {k : Value → Option xN} (h : xldL v k = some n) : ∃ x, v = .long x ∧ k (.long x) = some n := by
  unfold xldL at h
  split at h
  · exact ⟨_, rfl, h⟩
  · cases h
theorem i_ldA {v : Value} {k : Value → Option xN} (h : xldA v k = some n) : ((∃ x, v = .ref x) ∨ v = .null ∨ ∃ x, v = .float x) ∧ k v = some n := by
  unfold xldA at h
  split at h
  · exact ⟨Or.inl ⟨_, rfl⟩, h⟩
  · exact ⟨Or.inr (Or.inl rfl), h⟩
  · exact ⟨Or.inr (Or.inr ⟨_, rfl⟩), h⟩
  · cases h
theorem i_st1 {i : Nat} {v : Value} {k : List Value → Option xN} (h : xst1 ls i v k = some n) : i < ls.length ∧ (∀ j, i = j + 1 → (xg ls j).category ≠ 2) ∧ k (xs ls i v) = some n := by
  unfold xst1 at h
  split at h
  · rename_i hi
    refine ⟨hi, ?_⟩
    split at h
    · exact ⟨fun j e => by omega, h⟩
    · rename_i j
      split at h
      · cases h
      · rename_i hc
        exact ⟨fun j' e => by have : j' = j := by omega
                              subst this; exact hc, h⟩
  · cases h
theorem i_st2 {i : Nat} {v : Value} {k : List Value → Option xN} (h : xst2 ls i v k = some n) : i + 1 < ls.length ∧ (∀ j, i = j + 1 → (xg ls j).category ≠ 2) ∧ k (xs (xs ls i v) (i + 1) xJ) = some n := by
  unfold xst2 at h
  split at h
  · rename_i hi
    refine ⟨hi, ?_⟩
    split at h
    · exact ⟨fun j e => by omega, h⟩
    · rename_i j
      split at h
      · cases h
      · rename_i hc
        exact ⟨fun j' e => by have : j' = j := by omega
                              subst this; exact hc, h⟩
  · cases h
theorem i_bind {α : Type} {o : Option α} {k : α → Option xN} (h : o.bind k = some n) : ∃ x, o = some x ∧ k x = some n := Option.bind_eq_some_iff.mp h
end XI
/-! heap reads and writes, taken apart -/
theorem j_gI {A : xH} {a ci k : Nat} {x : Int32} (h : gI A a ci k = some x) : ∃ fs, A[a]? = some (.inr (ci, fs)) ∧ fs[k]? = some (.int x) := by
  unfold gI gV at h
  cases hA : A[a]? with
  | none => simp [hA] at h
  | some c =>
    obtain c | ⟨c, fs⟩ := c
    · simp [hA] at h
    · simp only [hA] at h
      by_cases e : c = ci
      · subst e
        simp only [if_true] at h
        split at h
        · rename_i y hy
          cases h
          exact ⟨fs, rfl, hy⟩
        · cases h
      · simp [e] at h
theorem j_gN {A : xH} {a ci k b : Nat} (h : gN A a ci k = some b) : ∃ fs, A[a]? = some (.inr (ci, fs)) ∧ fs[k]? = some (.ref b) := by
  unfold gN gV at h
  cases hA : A[a]? with
  | none => simp [hA] at h
  | some c =>
    obtain c | ⟨c, fs⟩ := c
    · simp [hA] at h
    · simp only [hA] at h
      by_cases e : c = ci
      · subst e
        simp only [if_true] at h
        split at h
        · rename_i y hy
          cases h
          exact ⟨fs, rfl, hy⟩
        · cases h
      · simp [e] at h
theorem j_gO {A : xH} {a ci k : Nat} {o : Option Nat} (h : gO A a ci k = some o) : ∃ fs, A[a]? = some (.inr (ci, fs)) ∧ fs[k]? = some (va_rf o) := by
  unfold gO gV at h
  cases hA : A[a]? with
  | none => simp [hA] at h
  | some c =>
    obtain c | ⟨c, fs⟩ := c
    · simp [hA] at h
    · simp only [hA] at h
      by_cases e : c = ci
      · subst e
        simp only [if_true] at h
        split at h
        · rename_i y hy
          cases h
          exact ⟨fs, rfl, hy⟩
        · rename_i hy
          cases h
          exact ⟨fs, rfl, hy⟩
        · cases h
      · simp [e] at h
theorem j_pF {A B : xH} {a ci k : Nat} {v : Value} (h : pF A a ci k v = some B) : ∃ fs, A[a]? = some (.inr (ci, fs)) ∧ k < fs.length ∧ B = A.set a (.inr (ci, fs.set k v)) := by
  unfold pF at h
  cases hA : A[a]? with
  | none => simp [hA] at h
  | some c =>
    obtain c | ⟨c, fs⟩ := c
    · simp [hA] at h
    · simp only [hA] at h
      split at h
      · rename_i e
        obtain ⟨e1, e2⟩ := e
        subst e1
        cases h
        exact ⟨fs, rfl, e2, rfl⟩
      · cases h
theorem j_lA {A : xH} {a : Nat} {x : Int32} (h : lA A a = some x) : ∃ t n f, A[a]? = some (.inl (t, n, f)) ∧ x = Int32.ofNat n := by
  unfold lA at h
  split at h
  · rename_i t n f hA
    cases h
    exact ⟨t, n, f, hA, rfl⟩
  · cases h
theorem j_tag {A : xH} {a t : Nat} (h : xtag A a = some t) : ∃ n f, A[a]? = some (.inl (t, n, f)) := by
  unfold xtag at h
  split at h
  · rename_i t n f hA
    cases h
    exact ⟨n, f, hA⟩
  · cases h
theorem j_cls {A : xH} {a c : Nat} (h : xcls A a = some c) : ∃ fs, A[a]? = some (.inr (c, fs)) := by
  unfold xcls at h
  split at h
  · rename_i c fs hA
    cases h
    exact ⟨fs, hA⟩
  · cases h
theorem j_aI {t : Nat} {A : xH} {a : Nat} {i x : Int32} (h : aI t A a i = some x) : ∃ n f, A[a]? = some (.inl (t, n, .inl f)) ∧ vp_in i n ∧ x = f i.toNatClampNeg := by
  unfold aI at h
  split at h
  · rename_i t' n f hA
    split at h
    · rename_i e
      subst e
      split at h
      · cases h
      · rename_i hi
        cases h
        exact ⟨n, f, hA, hi, rfl⟩
    · cases h
  · cases h
theorem j_sI {t : Nat} {A B : xH} {a : Nat} {i x : Int32} (h : sI t A a i x = some B) : ∃ n f, A[a]? = some (.inl (t, n, .inl f)) ∧ vp_in i n ∧ B = A.set a (.inl (t, n, .inl (upd f i.toNatClampNeg (xnar t x)))) := by
  unfold sI at h
  split at h
  · rename_i t' n f hA
    split at h
    · rename_i e
      subst e
      split at h
      · cases h
      · rename_i hi
        cases h
        exact ⟨n, f, hA, hi, rfl⟩
    · cases h
  · cases h
theorem j_aL {A : xH} {a : Nat} {i : Int32} {x : Int64} (h : aL A a i = some x) : ∃ n f, A[a]? = some (.inl (3, n, .inr (.inl f))) ∧ vp_in i n ∧ x = f i.toNatClampNeg := by
  unfold aL at h
  split at h
  · rename_i t' n f hA
    split at h
    · rename_i e
      subst e
      split at h
      · cases h
      · rename_i hi
        cases h
        exact ⟨n, f, hA, hi, rfl⟩
    · cases h
  · cases h
theorem j_sL {A B : xH} {a : Nat} {i : Int32} {x : Int64} (h : sL A a i x = some B) : ∃ n f, A[a]? = some (.inl (3, n, .inr (.inl f))) ∧ vp_in i n ∧ B = A.set a (.inl (3, n, .inr (.inl (vp_updL f i.toNatClampNeg x)))) := by
  unfold sL at h
  split at h
  · rename_i t' n f hA
    split at h
    · rename_i e
      subst e
      split at h
      · cases h
      · rename_i hi
        cases h
        exact ⟨n, f, hA, hi, rfl⟩
    · cases h
  · cases h
theorem j_aR {t : Nat} {A : xH} {a : Nat} {i : Int32} {o : Option Nat} (h : aR t A a i = some o) : ∃ n f, A[a]? = some (.inl (t, n, .inr (.inr f))) ∧ vp_in i n ∧ o = f i.toNatClampNeg := by
  unfold aR at h
  split at h
  · rename_i t' n f hA
    split at h
    · rename_i e
      subst e
      split at h
      · cases h
      · rename_i hi
        cases h
        exact ⟨n, f, hA, hi, rfl⟩
    · cases h
  · cases h
theorem j_sR {t : Nat} {A B : xH} {a : Nat} {i : Int32} {o : Option Nat} (h : sR t A a i o = some B) : ∃ n f, A[a]? = some (.inl (t, n, .inr (.inr f))) ∧ xelok A t o = true ∧ vp_in i n ∧ B = A.set a (.inl (t, n, .inr (.inr (va_up f i.toNatClampNeg o)))) := by
  unfold sR at h
  split at h
  · rename_i t' n f hA
    split at h
    · rename_i e
      obtain ⟨e, e2⟩ := e
      subst e
      split at h
      · cases h
      · rename_i hi
        cases h
        exact ⟨n, f, hA, e2, hi, rfl⟩
    · cases h
  · cases h
theorem j_copy {A B : xH} {a b : Nat} {sp dp n : Int32} (h : xcopy A a sp b dp n = some B) : ∃ n0 f n1 g, A[a]? = some (.inl (0, n0, .inl f)) ∧ A[b]? = some (.inl (0, n1, .inl g)) ∧ ¬ sp < 0 ∧ ¬ dp < 0 ∧ ¬ n < 0 ∧ sp.toNatClampNeg + n.toNatClampNeg ≤ n0 ∧ dp.toNatClampNeg + n.toNatClampNeg ≤ n1 ∧ B = A.set b (.inl (0, n1, .inl (va_cpy f g sp.toNatClampNeg dp.toNatClampNeg n.toNatClampNeg))) := by
  unfold xcopy at h
  split at h
  · rename_i t n0 f t' n1 g hA hB
    split at h
    · rename_i e
      obtain ⟨e1, e2, e3, e4, e5, e6, e7⟩ := e
      subst e1; subst e2
      cases h
      exact ⟨n0, f, n1, g, hA, hB, e3, e4, e5, e6, e7, rfl⟩
    · cases h
  · cases h
theorem j_clone {A B : xH} {a : Nat} (h : xclone A a = some B) : ∃ n f, A[a]? = some (.inl (0, n, .inl f)) ∧ B = A ++ [.inl (0, n, .inl f)] := by
  unfold xclone at h
  split at h
  · rename_i t n f hA
    split at h
    · rename_i e
      subst e
      cases h
      exact ⟨n, f, hA, rfl⟩
    · cases h
  · cases h
/-! what a set or a push leaves as it was -/
theorem xtok_set {A : xH} {k : Nat} {c : xA} (h : xtok A) (hc : ∀ t n f, c = .inl (t, n, f) → t < 7) : xtok (A.set k c) := by
  intro j t n f hj
  rw [List.getElem?_set] at hj
  split at hj
  · split at hj
    · exact hc t n f (Option.some.inj hj)
    · cases hj
  · exact h j t n f hj
theorem xtok_app {A : xH} {c : xA} (h : xtok A) (hc : ∀ t n f, c = .inl (t, n, f) → t < 7) : xtok (A ++ [c]) := by
  intro j t n f hj
  rw [List.getElem?_append] at hj
  split at hj
  · exact h j t n f hj
  · have : [c][j - A.length]? = some (.inl (t, n, f)) := hj
    cases hz : j - A.length with
    | zero => rw [hz] at this; exact hc t n f (Option.some.inj this)
    | succ z => rw [hz] at this; simp at this
section XM
variable {base : Nat} {old : Nat → Nat} {dA : Nat → ClassId} {D : va_G} {E : Nat × (Nat → Int32)}
/-- a cell was set -/
theorem xRel.set {A : xH} {H H1 : Heap} {k : Nat} {c : xA} (h : xRel base old dA D A H) (hc : ∀ t n f, c = .inl (t, n, f) → t < 7) (hz : H1.size = H.size) (hP : va_P D xclasses ((xw base old dA A).set k (base + k, xce base old dA c)) H1) : xRel base old dA D (A.set k c) H1 := by
  refine ⟨?_, by rw [xw_set]; exact hP, xtok_set h.2.2 hc⟩
  rw [List.length_set, hz]
  exact h.1
theorem xEnv_same {U U' : State} (hv : U'.vm = U.vm) (hh : U'.heap = U.heap) (h : xEnv base old dA D E U) : xEnv base old dA D E U' := by
  obtain ⟨h1, h2, ⟨h3, h4, h5⟩, h6, h7, h8, h9, h10, h11, h12, h13⟩ := h
  have al : U.vm.Alike U'.vm := by rw [hv]; exact Vm.Alike.refl U.vm
  have nw : ∀ w ∈ xnest, w.onTables = true := by
    intro w hw
    revert w
    unfold xnest
    decide
  refine ⟨va_K.moved al h1, fun w hw => (h2 w hw).same (nw w hw) hv.symm, ⟨?_, ?_, ?_⟩, h6.same rfl hv.symm, by rw [hh]; exact va_X.moved al h7, h8, by rw [hh]; exact h9, by rw [hh]; exact vk_S.moved al h10, fun e he => ?_, by rw [hh]; exact va_Z.moved al h12, by rw [hh]; exact va_Zq.moved al h13⟩
  · exact va_AO.moved al h3
  · exact va_AO.moved al h4
  · exact va_AO.moved al h5
  · obtain ⟨tx, ht⟩ := h11 e he
    exact ⟨tx, ht.same hv⟩
/-- at a callee's entry -/
theorem xEnv_warm {s U : State} {H : Heap} {locs : List Loc} (hU : U.heap = H) (hW : s.WarmedH U.vm) (hS : va_S (fun q => base ≤ q) s.heap H locs) (h : xEnv base old dA D E s) : xEnv base old dA D E U := by
  obtain ⟨h1, h2, ⟨h3, h4, h5⟩, h6, h7, h8, h9, h10, h11, h12, h13⟩ := h
  have al := hW.alike
  have kp : ∀ q : Nat, q < s.heap.size → ¬ base ≤ q → U.heap[q]? = s.heap[q]? := fun q a b => by rw [hU]; exact hS.2.1 q a b
  have nw : ∀ w ∈ xnest, ∃ a i y hh, w = .methodLinkNest a i y hh := by
    intro w hw
    revert w
    unfold xnest
    simp
  refine ⟨va_K.moved al h1, fun w hw => ?_, ⟨va_AO.moved al h3, va_AO.moved al h4, va_AO.moved al h5⟩, ?_, (va_X.moved al h7).kept (kp _ (by omega) (by omega)), h8, ?_, (vk_S.moved al h10).kept kp, fun e he => ?_, ?_, ?_⟩
  · obtain ⟨a, i, y, hh, e⟩ := nw w hw
    have := h2 w hw
    rw [e] at this ⊢
    exact this.warmM hW
  · exact h6.warmC hW
  · rw [hU]
    exact Nat.le_trans h9 hS.1
  · obtain ⟨tx, ht⟩ := h11 e he
    exact ⟨tx, ht.warm hW⟩
  · exact (va_Z.moved al h12).kept kp
  · exact (va_Zq.moved al h13).kept kp
end XM
end
section
/-! ===== one instruction of the abstract machine is one of the machine's ===== -/
section XS
variable {base : Nat} {old : Nat → Nat} {dA : Nat → ClassId} {D : va_G} {E : Nat × (Nat → Int32)}
variable {p : Program} {l : Launch} {e : Env} {R : Room} {s : State} {m : MethodId} {args : Array Value} {below : List Frame} {meth : Method} {c : Code} {Q : State → Prop}
theorem W.bound {H : Heap} {locs : List Loc} {cells slots : Nat} {g : JFrame} (k : H.size ≤ s.heap.size + cells → W p l e R s m args below meth c H locs cells slots Q g) : W p l e R s m args below meth c H locs cells slots Q g := by
  intro T hT X
  have h : T.heap.size ≤ s.heap.size + cells := X.same.2.2.1
  rw [hT] at h
  exact k h T hT X
/-- the cells are there -/
def xAt (base : Nat) (old : Nat → Nat) (dA : Nat → ClassId) (D : va_G) (s : State) (A : xH) (H : Heap) (locs : List Loc) : Prop := va_P D xclasses (xw base old dA A) H ∧ xtok A ∧ va_S (fun q => base ≤ q) s.heap H locs
/-- from this state of the abstract machine the machine comes to Q -/
def xK (base : Nat) (old : Nat → Nat) (dA : Nat → ClassId) (D : va_G) (p : Program) (l : Launch) (e : Env) (R : Room) (s : State) (m : MethodId) (args : Array Value) (below : List Frame) (meth : Method) (c : Code) (Q : State → Prop) (a0 s0 pc : Nat) (als st : List Value) (A : xH) : Prop :=
  ∀ (H : Heap) (locs : List Loc) (ls : Array Slot), xAt base old dA D s A H locs → xLoc base old als ls → W p l e R s m args below meth c H locs (A.length - a0) (xsl A - s0) Q (F0 m pc ls (st.map (xv base old)))
/-- what holds in a method's body -/
def xCx (base : Nat) (old : Nat → Nat) (dA : Nat → ClassId) (D : va_G) (E : Nat × (Nat → Int32)) (p : Program) (s : State) (m : MethodId) (args : Array Value) (meth : Method) (c : Code) (M : xM) (b : ByteArray) (a0 : Nat) : Prop :=
  p.tables.exec = Jvm.exec ∧ c.code = b ∧ c.maxLocals = M.2.2.2.1 ∧ s.vm.findClass (xcn M.1) = some m.cls ∧ (∀ w ∈ gw, w.before args s = true) ∧ xEnv base old dA D E s ∧ (M.2.2.1 = 2 → meth.name = "<init>") ∧ s.heap.size = base + a0
theorem xAt.lo {A : xH} {H : Heap} {locs : List Loc} {a0 : Nat} (h : xAt base old dA D s A H locs) (hz : s.heap.size = base + a0) (ha : a0 ≤ A.length) : base + A.length ≤ H.size := by
  by_cases h0 : A.length = 0
  · have := h.2.2.1
    omega
  · have hlt : A.length - 1 < A.length := by omega
    have hg : A[A.length - 1]? = some A[A.length - 1] := List.getElem?_eq_getElem hlt
    have := (h.1 _ _ (xw_get hg)).lt
    have h2 : base + (A.length - 1) < H.size := this
    omega
/-- the heap's size is known -/
theorem xK.size {a0 s0 pc : Nat} {als st : List Value} {A : xH} (hz : s.heap.size = base + a0) (ha : a0 ≤ A.length)
    (k : ∀ (H : Heap) (locs : List Loc) (ls : Array Slot), xAt base old dA D s A H locs → H.size = base + A.length → xLoc base old als ls → W p l e R s m args below meth c H locs (A.length - a0) (xsl A - s0) Q (F0 m pc ls (st.map (xv base old)))) :
    xK base old dA D p l e R s m args below meth c Q a0 s0 pc als st A := by
  intro H locs ls hX hl
  refine W.bound (fun hb => ?_)
  have h1 := hX.lo hz ha
  exact k H locs ls hX (by omega) hl
/-- a new cell stands where it must -/
theorem xnew_at {A : xH} {H1 : Heap} {a0 q n : Nat} {cE : va_E} {D : va_G} (hz : s.heap.size = base + a0) (ha : a0 ≤ A.length) (hP : va_P D xclasses (xw base old dA A ++ [(q, cE)]) H1) (hD : va_D (fun q => base ≤ q) (xw base old dA A ++ [(q, cE)])) (hb : H1.size ≤ s.heap.size + (A.length - a0 + 1)) : q = base + A.length := by
  have hlen : (xw base old dA A).length = A.length := by unfold xw; simp
  have hlast : (xw base old dA A ++ [(q, cE)])[A.length]? = some (q, cE) := by
    rw [List.getElem?_append_right (by omega), hlen, Nat.sub_self]
    rfl
  have h1 : base ≤ q := hD.2 _ _ hlast
  have h2 : q < H1.size := (hP _ _ hlast).lt
  by_cases h3 : q < base + A.length
  · exfalso
    have hk : q - base < A.length := by omega
    have hg : A[q - base]? = some A[q - base] := List.getElem?_eq_getElem hk
    have h4 : (xw base old dA A ++ [(q, cE)])[q - base]? = some (base + (q - base), xce base old dA A[q - base]) := by
      rw [List.getElem?_append_left (by omega)]
      exact xw_get hg
    have := hD.1 _ _ _ _ h4 hlast (by show base + (q - base) = q; omega)
    omega
  · omega
theorem cat_sum (base : Nat) (old : Nat → Nat) : ∀ (st : List Value), ((st.map (xv base old)).map fun v => v.category).sum = xcat st
  | [] => rfl
  | v :: st => by
    show (xv base old v).category + ((st.map (xv base old)).map fun v => v.category).sum = v.category + xcat st
    rw [cat_sum base old st, xv_cat]
variable {M : xM} {b : ByteArray} {a0 s0 : Nat}
/-- getfield -/
theorem i_get {T : xT} {own lk idx pc : Nat} {ls st : List Value} {A : xH} {n : xN} (h : xget T own xgo0 lk idx pc ls st A = some n) : ∃ o i ci k kd a s1 fs v, T.1[lk]? = some (o, i, ci, k, kd) ∧ o = own ∧ i = idx ∧ st = .ref a :: s1 ∧ A[a]? = some (.inr (ci, fs)) ∧ fs[k]? = some v ∧ n = .inl (pc + 3, ls, v :: s1, A) := by
  unfold xget at h
  split at h
  · cases h
  · rename_i o i ci k kd hT
    split at h
    · rename_i ho
      split at h
      · rename_i a s1
        split at h
        · obtain ⟨x, h1, h2⟩ := i_bind h
          obtain ⟨fs, g1, g2⟩ := j_gI h1
          exact ⟨o, i, ci, k, _, a, s1, fs, _, hT, ho.1, ho.2, rfl, g1, g2, (Option.some.inj h2).symm⟩
        · obtain ⟨x, h1, h2⟩ := i_bind h
          obtain ⟨fs, g1, g2⟩ := j_gI h1
          exact ⟨o, i, ci, k, _, a, s1, fs, _, hT, ho.1, ho.2, rfl, g1, g2, (Option.some.inj h2).symm⟩
        · obtain ⟨x, h1, h2⟩ := i_bind h
          obtain ⟨fs, g1, g2⟩ := j_gO h1
          refine ⟨o, i, ci, k, _, a, s1, fs, va_rf x, hT, ho.1, ho.2, rfl, g1, g2, ?_⟩
          cases x <;> exact (Option.some.inj h2).symm
        · obtain ⟨x, h1, h2⟩ := i_bind h
          obtain ⟨fs, g1, g2⟩ := j_gN h1
          exact ⟨o, i, ci, k, _, a, s1, fs, _, hT, ho.1, ho.2, rfl, g1, g2, (Option.some.inj h2).symm⟩
      · cases h
    · cases h
theorem go_get {lk idx pc : Nat} {als st : List Value} {A : xH} {pc' : Nat} {als' st' : List Value} {A' : xH} (C : xCx base old dA D E p s m args meth c M b a0) (hdg : decode b pc = .ok (.getfield idx, 3)) (h : xget xtabs M.1 xgo0 lk idx pc als st A = some (.inl (pc', als', st', A'))) (kk : xK base old dA D p l e R s m args below meth c Q a0 s0 pc' als' st' A') : xK base old dA D p l e R s m args below meth c Q a0 s0 pc als st A := by
  obtain ⟨hx, hb, hml, hown, hts, henv, hini, hz⟩ := C
  obtain ⟨o, i, ci, k, kd, a, s1, fs, v, hT, rfl, rfl, rfl, hA, hv, e⟩ := i_get h
  cases e
  obtain ⟨hci, hF⟩ := fl_all _ (List.mem_of_getElem? hT)
  obtain ⟨C, T, N, ty, hc, hty, hCn, hws, htyok, hnm, hinst, hini2, hT1⟩ := xk_all ci hci
  obtain ⟨hk, hlink, -⟩ := hF C T N ty hc hty
  intro H locs ls hX hl
  refine va_get (D := D) (ci := ci) (v := xv base old v) (C := C) (T := T) (N := N) (ref := C) hx hb hts hws hown henv.1 hX.1 a (xw_get hA) hc k hk (hts _ hlink) (by rw [hT1 k hk]; exact fun _ h => h) (by rw [List.getElem?_map, hv]; rfl) hdg (kk H locs ls hX hl)
/-- putfield -/
theorem i_put {T : xT} {own ini lk idx pc : Nat} {ls st : List Value} {A : xH} {n : xN} (h : xput T own ini xgo0 lk idx pc ls st A = some n) : ∃ o i ci k kd a s1 fs v, T.1[lk]? = some (o, i, ci, k, kd) ∧ o = own ∧ i = idx ∧ st = v :: .ref a :: s1 ∧ A[a]? = some (.inr (ci, fs)) ∧ k < fs.length ∧ n = .inl (pc + 3, ls, s1, A.set a (.inr (ci, fs.set k v))) ∧ ((kd = 0 ∧ ∃ x, v = .int x) ∨ (kd = 1 ∧ ∃ x, v = .int x ∧ x01 x = true) ∨ (kd = 2 ∧ (ini = 2 ∧ ci = own) ∧ ∃ b, v = .ref b) ∨ (kd = 3 ∧ ((∃ b, v = .ref b) ∨ v = .null))) := by
  unfold xput at h
  split at h
  · cases h
  · rename_i o i ci k kd hT
    split at h
    · rename_i ho
      split at h
      · rename_i v a s1
        split at h
        · split at h
          · rename_i x
            obtain ⟨B, h1, h2⟩ := i_bind h
            obtain ⟨fs, g1, g2, g3⟩ := j_pF h1
            subst g3
            exact ⟨o, i, ci, k, _, a, s1, fs, _, hT, ho.1, ho.2, rfl, g1, g2, (Option.some.inj h2).symm, Or.inl ⟨rfl, _, rfl⟩⟩
          · cases h
        · split at h
          · rename_i x
            split at h
            · rename_i h01
              obtain ⟨B, h1, h2⟩ := i_bind h
              obtain ⟨fs, g1, g2, g3⟩ := j_pF h1
              subst g3
              exact ⟨o, i, ci, k, _, a, s1, fs, _, hT, ho.1, ho.2, rfl, g1, g2, (Option.some.inj h2).symm, Or.inr (Or.inl ⟨rfl, _, rfl, h01⟩)⟩
            · cases h
          · cases h
        · split at h
          · rename_i hini
            split at h
            · obtain ⟨B, h1, h2⟩ := i_bind h
              obtain ⟨fs, g1, g2, g3⟩ := j_pF h1
              subst g3
              exact ⟨o, i, ci, k, _, a, s1, fs, _, hT, ho.1, ho.2, rfl, g1, g2, (Option.some.inj h2).symm, Or.inr (Or.inr (Or.inl ⟨rfl, hini, _, rfl⟩))⟩
            · cases h
          · cases h
        · split at h
          · obtain ⟨B, h1, h2⟩ := i_bind h
            obtain ⟨fs, g1, g2, g3⟩ := j_pF h1
            subst g3
            exact ⟨o, i, ci, k, _, a, s1, fs, _, hT, ho.1, ho.2, rfl, g1, g2, (Option.some.inj h2).symm, Or.inr (Or.inr (Or.inr ⟨rfl, Or.inl ⟨_, rfl⟩⟩))⟩
          · obtain ⟨B, h1, h2⟩ := i_bind h
            obtain ⟨fs, g1, g2, g3⟩ := j_pF h1
            subst g3
            exact ⟨o, i, ci, k, _, a, s1, fs, _, hT, ho.1, ho.2, rfl, g1, g2, (Option.some.inj h2).symm, Or.inr (Or.inr (Or.inr ⟨rfl, Or.inr rfl⟩))⟩
          · cases h
        · cases h
      · cases h
    · cases h
theorem obj_lt {k : Nat} {fs : List Value} {ci : Nat} : ∀ t n f, (.inr (ci, fs) : xA) = .inl (t, n, f) → t < 7 := fun _ _ _ h => by cases h
theorem nar01 {x : Int32} (h : x01 x = true) : narrow .boolean (.int x) = .int x := by
  unfold x01 at h
  rcases (Bool.or_eq_true _ _).mp h with h | h
  · have : x = 0 := by simpa using h
    subst this; rfl
  · have : x = 1 := by simpa using h
    subst this; rfl
theorem put_fits {kd : Nat} {ty : FieldType} {v : Value} (hk : (kd = 0 ∧ ty = .int ∧ ∃ x, v = .int x) ∨ (kd = 1 ∧ ty = .boolean ∧ ∃ x, v = .int x ∧ x01 x = true) ∨ (((∃ n, ty = .object n) ∨ ∃ t, ty = .array t) ∧ ((∃ b, v = .ref b) ∨ v = .null))) : narrow ty (xv base old v) = xv base old v ∧ fits ty (xv base old v) = true := by
  rcases hk with ⟨-, rfl, x, rfl⟩ | ⟨-, rfl, x, rfl, h⟩ | ⟨⟨n, rfl⟩ | ⟨t, rfl⟩, ⟨b, rfl⟩ | rfl⟩
  · exact ⟨rfl, rfl⟩
  · exact ⟨nar01 h, h⟩
  · exact ⟨rfl, rfl⟩
  · exact ⟨rfl, rfl⟩
  · exact ⟨rfl, rfl⟩
  · exact ⟨rfl, rfl⟩
theorem xsl_obj {A : xH} {a ci k : Nat} {fs : List Value} {v : Value} (hA : A[a]? = some (.inr (ci, fs))) : xsl (A.set a (.inr (ci, fs.set k v))) = xsl A := xsl_set A a _ _ hA (by show (fs.set k v).length = fs.length; simp)
theorem go_put {lk idx pc : Nat} {als st : List Value} {A : xH} {pc' : Nat} {als' st' : List Value} {A' : xH} (C : xCx base old dA D E p s m args meth c M b a0) (hdg : decode b pc = .ok (.putfield idx, 3)) (h : xput xtabs M.1 M.2.2.1 xgo0 lk idx pc als st A = some (.inl (pc', als', st', A'))) (kk : xK base old dA D p l e R s m args below meth c Q a0 s0 pc' als' st' A') : xK base old dA D p l e R s m args below meth c Q a0 s0 pc als st A := by
  obtain ⟨hx, hb, hml, hown, hts, henv, hini, hz⟩ := C
  obtain ⟨o, i, ci, k, kd, a, s1, fs, v, hT, rfl, rfl, rfl, hA, hl, e, hk⟩ := i_put h
  cases e
  obtain ⟨hci, hF⟩ := fl_all _ (List.mem_of_getElem? hT)
  obtain ⟨C, T, N, ty, hc, hty, hCn, hws, htyok, hnm, hinst, hini2, hT1⟩ := xk_all ci hci
  obtain ⟨hkN, hlink, hkk⟩ := hF C T N ty hc hty
  intro H locs ls hX hlo
  have kk2 : ∀ (H1 : Heap) (locs1 : List Loc), va_P D xclasses ((xw base old dA A).set a (base + a, .inr (ci, (fs.map (xv base old)).set k (xv base old v)))) H1 → va_D (fun q => base ≤ q) ((xw base old dA A).set a (base + a, .inr (ci, (fs.map (xv base old)).set k (xv base old v)))) → va_S (fun q => base ≤ q) s.heap H1 locs1 → W p l e R s m args below meth c H1 locs1 (A.length - a0) (xsl A - s0) Q (F0 m (pc + 3) ls (st'.map (xv base old))) := by
    intro H1 locs1 hP _ hS
    have hP' : va_P D xclasses (xw base old dA (A.set a (.inr (ci, fs.set k v)))) H1 := by
      rw [xw_set]
      show va_P D xclasses ((xw base old dA A).set a (base + a, .inr (ci, (fs.set k v).map (xv base old)))) H1
      rw [List.map_set]
      exact hP
    have := kk H1 locs1 ls ⟨hP', xtok_set hX.2.1 (fun _ _ _ h => by cases h), hS⟩ hlo
    rw [List.length_set, xsl_obj hA] at this
    exact this
  have hl' : k < (fs.map (xv base old)).length := by simpa using hl
  have hsame : ∀ x, s.fieldFound? (T k).1 (T k).2.1 (T k).2.2.1 = some x → s.fieldFound? C (T k).2.1 (T k).2.2.1 = some x := by rw [hT1 k hkN]; exact fun _ h => h
  rcases hk with ⟨rfl, x, rfl⟩ | ⟨rfl, x, rfl, h01⟩ | ⟨rfl, ⟨hi2, hio⟩, b1, rfl⟩ | ⟨rfl, hv⟩
  · obtain ⟨ht, hf⟩ := hkk
    obtain ⟨n1, n2⟩ := put_fits (base := base) (old := old) (kd := 0) (ty := ty k) (v := .int x) (Or.inl ⟨rfl, ht, x, rfl⟩)
    exact va_put (D := D) (ci := ci) (C := C) (T := T) (N := N) (ref := C) (ty := ty k) hx hb hts hws ty htyok hnm hown henv.1 hX.1 xw_D hX.2.2 a (xw_get hA) hc k hkN (hts _ hlink) hsame hf (htyok k hkN) n1 n2 hl' hdg kk2
  · obtain ⟨ht, hf⟩ := hkk
    obtain ⟨n1, n2⟩ := put_fits (base := base) (old := old) (kd := 1) (ty := ty k) (v := .int x) (Or.inr (Or.inl ⟨rfl, ht, x, rfl, h01⟩))
    exact va_put (D := D) (ci := ci) (C := C) (T := T) (N := N) (ref := C) (ty := ty k) hx hb hts hws ty htyok hnm hown henv.1 hX.1 xw_D hX.2.2 a (xw_get hA) hc k hkN (hts _ hlink) hsame hf (htyok k hkN) n1 n2 hl' hdg kk2
  · obtain ⟨ht, hf⟩ := hkk
    obtain ⟨n1, n2⟩ := put_fits (base := base) (old := old) (kd := 2) (ty := ty k) (v := .ref b1) (Or.inr (Or.inr ⟨ht, Or.inl ⟨b1, rfl⟩⟩))
    refine va_putF (D := D) (ci := ci) (C := C) (T := T) (N := N) (ref := C) (ty := ty k) hx hb hts hws ty htyok hnm hown henv.1 hX.1 xw_D hX.2.2 a (xw_get hA) hc k hkN (hts _ hlink) hsame hf (hini hi2) (by rw [hT1 k hkN, hCn, hio]) (htyok k hkN) n1 n2 hl' hdg kk2
  · obtain ⟨ht, hf⟩ := hkk
    obtain ⟨n1, n2⟩ := put_fits (base := base) (old := old) (kd := 3) (ty := ty k) (v := v) (Or.inr (Or.inr ⟨ht, hv⟩))
    exact va_put (D := D) (ci := ci) (C := C) (T := T) (N := N) (ref := C) (ty := ty k) hx hb hts hws ty htyok hnm hown henv.1 hX.1 xw_D hX.2.2 a (xw_get hA) hc k hkN (hts _ hlink) hsame hf (htyok k hkN) n1 n2 hl' hdg kk2
end XS
end
section
/-! ===== arrays, new cells ===== -/
section XS2
variable {base : Nat} {old : Nat → Nat} {dA : Nat → ClassId} {D : va_G} {E : Nat × (Nat → Int32)}
variable {p : Program} {l : Launch} {e : Env} {R : Room} {s : State} {m : MethodId} {args : Array Value} {below : List Frame} {meth : Method} {c : Code} {Q : State → Prop}
variable {M : xM} {b : ByteArray} {a0 s0 : Nat}
/-- behind a store into cell a -/
theorem st_done {A : xH} {a pc : Nat} {cN c0 : xA} {als st : List Value} {H : Heap} {locs : List Loc} {ls : Array Slot} (hX : xAt base old dA D s A H locs) (hlo : xLoc base old als ls) (hA : A[a]? = some c0) (kk : xK base old dA D p l e R s m args below meth c Q a0 s0 pc als st (A.set a cN)) (hsz : xsz cN = xsz c0) (ht : ∀ t n f, cN = .inl (t, n, f) → t < 7) :
    ∀ (H1 : Heap) (locs1 : List Loc), va_P D xclasses ((xw base old dA A).set a (base + a, xce base old dA cN)) H1 → va_D (fun q => base ≤ q) ((xw base old dA A).set a (base + a, xce base old dA cN)) → va_S (fun q => base ≤ q) s.heap H1 locs1 → W p l e R s m args below meth c H1 locs1 (A.length - a0) (xsl A - s0) Q (F0 m pc ls (st.map (xv base old))) := by
  intro H1 locs1 hP _ hS
  have := kk H1 locs1 ls ⟨by rw [xw_set]; exact hP, xtok_set hX.2.1 ht, hS⟩ hlo
  rw [List.length_set, xsl_set A a _ _ hA hsz] at this
  exact this
/-- behind a new cell -/
theorem new_done {A : xH} {pc n : Nat} {cN : xA} {als st : List Value} {H : Heap} {locs : List Loc} {ls : Array Slot} (hz : s.heap.size = base + a0) (ha : a0 ≤ A.length) (hs : s0 ≤ xsl A) (hX : xAt base old dA D s A H locs) (hlo : xLoc base old als ls) (kk : xK base old dA D p l e R s m args below meth c Q a0 s0 pc als (.ref A.length :: st) (A ++ [cN])) (hsz : xsz cN = n) (ht : ∀ t n f, cN = .inl (t, n, f) → t < 7) :
    ∀ (q : Nat) (H1 : Heap), va_P D xclasses (xw base old dA A ++ [(q, xce base old dA cN)]) H1 → va_D (fun q => base ≤ q) (xw base old dA A ++ [(q, xce base old dA cN)]) → va_S (fun q => base ≤ q) s.heap H1 locs → W p l e R s m args below meth c H1 locs (A.length - a0 + 1) (xsl A - s0 + n) Q (F0 m pc ls (.ref q :: st.map (xv base old))) := by
  intro q H1 hP hD hS
  refine W.bound (fun hb => ?_)
  have hq : q = base + A.length := xnew_at (n := 0) hz ha hP hD hb
  subst hq
  have := kk H1 locs ls ⟨by rw [xw_app]; exact hP, xtok_app hX.2.1 ht, hS⟩ hlo
  rw [List.length_append, xsl_app, hsz] at this
  have e1 : A.length + [cN].length - a0 = A.length - a0 + 1 := by simp; omega
  have e2 : xsl A + n - s0 = xsl A - s0 + n := by omega
  rw [e1, e2] at this
  exact this
theorem ra_prim {cA : ClassId} {t : FieldType} {ty : FieldType} (e : ty = t) (hp : t = .int ∨ t = .byte ∨ t = .boolean ∨ t = .long) (h : va_RA s cA ty) : s.vm.findClass ("[" ++ t.toString) = some cA := by
  subst e
  rcases hp with rfl | rfl | rfl | rfl <;> exact h
theorem ra_obj {cA : ClassId} {C : String} {ty : FieldType} (e : ty = .object C) (h : va_RA s cA ty) : s.vm.findClass ("[" ++ (FieldType.object C).toString) = some cA := by
  subst e
  obtain ⟨_, _, -, -, -, g⟩ := h
  exact g
theorem cls_at {t : Nat} {cA : ClassId} (ht : t < 7) (hK : va_K D xclasses (xtys dA) s) (hK' : va_K D xclasses (xtys dA ++ [(cA, xtyT t)]) s) : cA = dA t := by
  have h1 : va_RA s (dA t) (xtyT t) := (hK.2 t _ (xtys_at dA ht)).2
  have h2 : va_RA s cA (xtyT t) := (hK'.2 7 (cA, xtyT t) rfl).2
  generalize hty : xtyT t = ty at h1 h2
  rcases (show t = 0 ∨ t = 1 ∨ t = 2 ∨ t = 3 ∨ t = 4 ∨ t = 5 ∨ t = 6 by omega) with rfl | rfl | rfl | rfl | rfl | rfl | rfl
  · exact Option.some.inj ((ra_prim hty.symm (Or.inl rfl) h2).symm.trans (ra_prim hty.symm (Or.inl rfl) h1))
  · exact Option.some.inj ((ra_prim hty.symm (Or.inr (Or.inl rfl)) h2).symm.trans (ra_prim hty.symm (Or.inr (Or.inl rfl)) h1))
  · exact Option.some.inj ((ra_prim hty.symm (Or.inr (Or.inr (Or.inl rfl))) h2).symm.trans (ra_prim hty.symm (Or.inr (Or.inr (Or.inl rfl))) h1))
  · exact Option.some.inj ((ra_prim hty.symm (Or.inr (Or.inr (Or.inr rfl))) h2).symm.trans (ra_prim hty.symm (Or.inr (Or.inr (Or.inr rfl))) h1))
  · exact Option.some.inj ((ra_obj hty.symm h2).symm.trans (ra_obj hty.symm h1))
  · exact Option.some.inj ((ra_obj hty.symm h2).symm.trans (ra_obj hty.symm h1))
  · exact Option.some.inj ((ra_obj hty.symm h2).symm.trans (ra_obj hty.symm h1))
theorem i_iald {t pc : Nat} {ls st : List Value} {A : xH} {n : xN} (h : xiald E xgo0 t pc ls st A = some n) : (∃ i a s1 x, st = .int i :: .ref a :: s1 ∧ aI t A a i = some x ∧ n = .inl (pc + 1, ls, .int x :: s1, A)) ∨ ∃ i s1, t = 0 ∧ st = .int i :: .float 0 :: s1 ∧ vp_in i E.1 ∧ n = .inl (pc + 1, ls, .int (E.2 i.toNatClampNeg) :: s1, A) := by
  unfold xiald at h
  split at h
  · obtain ⟨x, h1, h2⟩ := i_bind h
    exact Or.inl ⟨_, _, _, x, rfl, h1, (Option.some.inj h2).symm⟩
  · split at h
    · rename_i hb
      obtain ⟨rfl, rfl⟩ := hb
      split at h
      · cases h
      · rename_i hi
        exact Or.inr ⟨_, _, rfl, rfl, hi, (Option.some.inj h).symm⟩
    · cases h
  · cases h
theorem go_iald {pc : Nat} {als st : List Value} {A : xH} {pc' : Nat} {als' st' : List Value} {A' : xH} (C : xCx base old dA D E p s m args meth c M b a0) (hdg : decode b pc = .ok (.iaload, 1)) (h : xiald E xgo0 0 pc als st A = some (.inl (pc', als', st', A'))) (kk : xK base old dA D p l e R s m args below meth c Q a0 s0 pc' als' st' A') : xK base old dA D p l e R s m args below meth c Q a0 s0 pc als st A := by
  obtain ⟨hx, hb, hml, hown, hts, henv, hini, hz⟩ := C
  intro H locs ls hX hl
  rcases i_iald h with ⟨i, a, s1, x, rfl, h1, e⟩ | ⟨i, s1, -, rfl, hi, e⟩
  · cases e
    obtain ⟨n, f, hA, hi, rfl⟩ := j_aI h1
    exact va_iald hx hb henv.1 hX.1 a 0 (xw_get hA) rfl hi hdg (kk H locs ls hX hl)
  · cases e
    obtain ⟨-, -, -, -, hXs, hbl, hbs, -⟩ := henv
    exact va_sld (b := old 0) hx hb hXs (by omega) (by omega) hX.2.2 hi hdg (kk H locs ls hX hl)
theorem go_bald {t pc : Nat} {als st : List Value} {A : xH} {pc' : Nat} {als' st' : List Value} {A' : xH} (C : xCx base old dA D E p s m args meth c M b a0) (hdg : decode b pc = .ok (.baload, 1)) (ht : t = 1 ∨ t = 2) (h : xiald E xgo0 t pc als st A = some (.inl (pc', als', st', A'))) (kk : xK base old dA D p l e R s m args below meth c Q a0 s0 pc' als' st' A') : xK base old dA D p l e R s m args below meth c Q a0 s0 pc als st A := by
  obtain ⟨hx, hb, hml, hown, hts, henv, hini, hz⟩ := C
  intro H locs ls hX hl
  rcases i_iald h with ⟨i, a, s1, x, rfl, h1, e⟩ | ⟨i, s1, h0, rfl, hi, e⟩
  · cases e
    obtain ⟨n, f, hA, hi, rfl⟩ := j_aI h1
    rcases ht with rfl | rfl
    · exact va_bald hx hb henv.1 hX.1 a 1 (xw_get hA) rfl hi hdg (kk H locs ls hX hl)
    · exact va_zald hx hb henv.1 hX.1 a 2 (xw_get hA) rfl hi hdg (kk H locs ls hX hl)
  · omega
theorem i_iast {t pc : Nat} {ls st : List Value} {A : xH} {n : xN} (h : xiast xgo0 t pc ls st A = some n) : ∃ x i a s1 B, st = .int x :: .int i :: .ref a :: s1 ∧ sI t A a i x = some B ∧ n = .inl (pc + 1, ls, s1, B) := by
  unfold xiast at h
  split at h
  · obtain ⟨x, h1, h2⟩ := i_bind h
    exact ⟨_, _, _, _, x, rfl, h1, (Option.some.inj h2).symm⟩
  · cases h
theorem arr_lt {t n : Nat} {f : (Nat → Int32) ⊕ (Nat → Int64) ⊕ (Nat → Option Nat)} (h : t < 7) : ∀ t' n' f', (.inl (t, n, f) : xA) = .inl (t', n', f') → t' < 7 := fun _ _ _ e => by cases e; exact h
theorem go_iast {pc : Nat} {als st : List Value} {A : xH} {pc' : Nat} {als' st' : List Value} {A' : xH} (C : xCx base old dA D E p s m args meth c M b a0) (hdg : decode b pc = .ok (.iastore, 1)) (h : xiast xgo0 0 pc als st A = some (.inl (pc', als', st', A'))) (kk : xK base old dA D p l e R s m args below meth c Q a0 s0 pc' als' st' A') : xK base old dA D p l e R s m args below meth c Q a0 s0 pc als st A := by
  obtain ⟨hx, hb, hml, hown, hts, henv, hini, hz⟩ := C
  intro H locs ls hX hl
  obtain ⟨x, i, a, s1, B, rfl, h1, e⟩ := i_iast h
  cases e
  obtain ⟨n, f, hA, hi, rfl⟩ := j_sI h1
  exact va_iast (x := x) hx hb henv.1 hX.1 xw_D hX.2.2 a 0 (xw_get hA) rfl hi hdg (st_done hX hl hA kk rfl (arr_lt (by decide)))
theorem go_bast {t pc : Nat} {als st : List Value} {A : xH} {pc' : Nat} {als' st' : List Value} {A' : xH} (C : xCx base old dA D E p s m args meth c M b a0) (hdg : decode b pc = .ok (.bastore, 1)) (ht : t = 1 ∨ t = 2) (h : xiast xgo0 t pc als st A = some (.inl (pc', als', st', A'))) (kk : xK base old dA D p l e R s m args below meth c Q a0 s0 pc' als' st' A') : xK base old dA D p l e R s m args below meth c Q a0 s0 pc als st A := by
  obtain ⟨hx, hb, hml, hown, hts, henv, hini, hz⟩ := C
  intro H locs ls hX hl
  obtain ⟨x, i, a, s1, B, rfl, h1, e⟩ := i_iast h
  cases e
  obtain ⟨n, f, hA, hi, rfl⟩ := j_sI h1
  rcases ht with rfl | rfl
  · exact va_bast (x := x) hx hb henv.1 hX.1 xw_D hX.2.2 a 1 (xw_get hA) rfl hi hdg (st_done hX hl hA kk rfl (arr_lt (by decide)))
  · exact va_zast (x := x) hx hb henv.1 hX.1 xw_D hX.2.2 a 2 (xw_get hA) rfl hi hdg (st_done hX hl hA kk rfl (arr_lt (by decide)))
theorem go_lald {pc : Nat} {als s1 : List Value} {A : xH} {i : Int32} {a : Nat} {x : Int64} (C : xCx base old dA D E p s m args meth c M b a0) (hdg : decode b pc = .ok (.laload, 1)) (h : aL A a i = some x) (kk : xK base old dA D p l e R s m args below meth c Q a0 s0 (pc + 1) als (.long x :: s1) A) : xK base old dA D p l e R s m args below meth c Q a0 s0 pc als (.int i :: .ref a :: s1) A := by
  obtain ⟨hx, hb, hml, hown, hts, henv, hini, hz⟩ := C
  intro H locs ls hX hl
  obtain ⟨n, f, hA, hi, rfl⟩ := j_aL h
  exact va_lald hx hb henv.1 hX.1 a 3 (xw_get hA) rfl hi hdg (kk H locs ls hX hl)
theorem go_last {pc : Nat} {als s1 : List Value} {A B : xH} {i : Int32} {a : Nat} {x : Int64} (C : xCx base old dA D E p s m args meth c M b a0) (hdg : decode b pc = .ok (.lastore, 1)) (h : sL A a i x = some B) (kk : xK base old dA D p l e R s m args below meth c Q a0 s0 (pc + 1) als s1 B) : xK base old dA D p l e R s m args below meth c Q a0 s0 pc als (.long x :: .int i :: .ref a :: s1) A := by
  obtain ⟨hx, hb, hml, hown, hts, henv, hini, hz⟩ := C
  intro H locs ls hX hl
  obtain ⟨n, f, hA, hi, rfl⟩ := j_sL h
  exact va_last (x := x) hx hb henv.1 hX.1 xw_D hX.2.2 a 3 (xw_get hA) rfl hi hdg (st_done hX hl hA kk rfl (arr_lt (by decide)))
theorem tyT_obj {t : Nat} (h : t = 4 ∨ t = 5 ∨ t = 6) : xtyT t = .object (xelC t) ∧ t < 7 := by
  rcases h with rfl | rfl | rfl <;> exact ⟨rfl, by decide⟩
theorem go_aald {t pc : Nat} {als s1 : List Value} {A : xH} {i : Int32} {a : Nat} {o : Option Nat} (C : xCx base old dA D E p s m args meth c M b a0) (hdg : decode b pc = .ok (.aaload, 1)) (ht : t = 4 ∨ t = 5 ∨ t = 6) (h : aR t A a i = some o) (kk : xK base old dA D p l e R s m args below meth c Q a0 s0 (pc + 1) als (va_rf o :: s1) A) : xK base old dA D p l e R s m args below meth c Q a0 s0 pc als (.int i :: .ref a :: s1) A := by
  obtain ⟨hx, hb, hml, hown, hts, henv, hini, hz⟩ := C
  intro H locs ls hX hl
  obtain ⟨n, f, hA, hi, rfl⟩ := j_aR h
  obtain ⟨t1, t2⟩ := tyT_obj ht
  have hk := kk H locs ls hX hl
  have e9 : xv base old (va_rf (f i.toNatClampNeg)) = va_rf ((f i.toNatClampNeg).map (base + ·)) := by
    cases f i.toNatClampNeg <;> rfl
  refine va_aldq (C := xelC t) hx hb henv.1 hX.1 a t (xw_get hA) (by rw [← t1]; exact xtys_at dA t2) hi hdg ?_
  show W p l e R s m args below meth c H locs _ _ Q (F0 m (pc + 1) ls (va_rf ((f i.toNatClampNeg).map (base + ·)) :: s1.map (xv base old)))
  rw [← e9]
  exact hk
theorem el_cls {t : Nat} (h : t = 4 ∨ t = 5 ∨ t = 6) : ∃ r : vw_C, xclasses[xelem t]? = some r ∧ r.1 = xelC t := by
  rcases h with rfl | rfl | rfl
  · exact ⟨_, rfl, rfl⟩
  · exact ⟨_, rfl, rfl⟩
  · exact ⟨_, rfl, rfl⟩
theorem map_up {f : Nat → Option Nat} {k : Nat} {o : Option Nat} {g : Nat → Nat} : (fun j => (va_up f k o j).map g) = va_up (fun j => (f j).map g) k (o.map g) := by
  funext j
  unfold va_up
  by_cases h : j = k
  · simp [h]
  · simp [h]
theorem go_aast {t pc : Nat} {als s1 : List Value} {A B : xH} {i : Int32} {a : Nat} {o : Option Nat} (C : xCx base old dA D E p s m args meth c M b a0) (hdg : decode b pc = .ok (.aastore, 1)) (ht : t = 4 ∨ t = 5 ∨ t = 6) (h : sR t A a i o = some B) (kk : xK base old dA D p l e R s m args below meth c Q a0 s0 (pc + 1) als s1 B) : xK base old dA D p l e R s m args below meth c Q a0 s0 pc als (va_rf o :: .int i :: .ref a :: s1) A := by
  obtain ⟨hx, hb, hml, hown, hts, henv, hini, hz⟩ := C
  intro H locs ls hX hl
  obtain ⟨n, f, hA, hel, hi, rfl⟩ := j_sR h
  obtain ⟨t1, t2⟩ := tyT_obj ht
  obtain ⟨r, hr, hrn⟩ := el_cls ht
  have fin := st_done (p := p) (l := l) (e := e) (R := R) (m := m) (args := args) (below := below) (meth := meth) (c := c) (Q := Q) (a0 := a0) (s0 := s0) hX hl hA kk rfl (arr_lt t2)
  have e3 : xce base old dA (.inl (t, n, .inr (.inr (va_up f i.toNatClampNeg o)))) = .inl (dA t, n, .inr (.inr (.inr (.inr (va_up (fun j => (f j).map (base + ·)) i.toNatClampNeg (o.map (base + ·))))))) := by
    show (.inl (dA t, n, .inr (.inr (.inr (.inr (fun j => (va_up f i.toNatClampNeg o j).map (base + ·)))))) : va_E) = _
    rw [map_up]
  rw [e3] at fin
  cases o with
  | none => exact va_astqN (C := xelC t) hx hb henv.1 hX.1 xw_D hX.2.2 a t (xw_get hA) (by rw [← t1]; exact xtys_at dA t2) hi hdg fin
  | some bb =>
    have hcl : xcls A bb = some (xelem t) := by simpa [xelok] using hel
    obtain ⟨vs, hB⟩ := j_cls hcl
    exact va_astq (r := r) hx hb henv.1 hX.1 xw_D hX.2.2 a t bb (xelem t) (xw_get hA) (by rw [hrn, ← t1]; exact xtys_at dA t2) (xw_get hB) hr hi hdg fin
theorem go_alen {pc : Nat} {als s1 : List Value} {A : xH} {a : Nat} {x : Int32} (C : xCx base old dA D E p s m args meth c M b a0) (hdg : decode b pc = .ok (.arraylength, 1)) (h : lA A a = some x) (kk : xK base old dA D p l e R s m args below meth c Q a0 s0 (pc + 1) als (.int x :: s1) A) : xK base old dA D p l e R s m args below meth c Q a0 s0 pc als (.ref a :: s1) A := by
  obtain ⟨hx, hb, hml, hown, hts, henv, hini, hz⟩ := C
  intro H locs ls hX hl
  obtain ⟨t, n, f, hA, rfl⟩ := j_lA h
  have ht := hX.2.1 a t n f hA
  have hw := xw_get (base := base) (old := old) (dA := dA) hA
  obtain f | f | f := f
  · exact va_alen (x := (n, .inl f)) (ty := xtyT t) hx hb henv.1 hX.1 a t hw (xtys_at dA ht) rfl hdg (kk H locs ls hX hl)
  · exact va_alen (x := (n, .inr (.inl f))) (ty := xtyT t) hx hb henv.1 hX.1 a t hw (xtys_at dA ht) rfl hdg (kk H locs ls hX hl)
  · exact va_alen (x := (n, .inr (.inr (.inr (.inr fun j => (f j).map (base + ·)))))) (ty := xtyT t) hx hb henv.1 hX.1 a t hw (xtys_at dA ht) rfl hdg (kk H locs ls hX hl)
theorem go_slen {pc : Nat} {als s1 : List Value} {A : xH} (C : xCx base old dA D E p s m args meth c M b a0) (hdg : decode b pc = .ok (.arraylength, 1)) (kk : xK base old dA D p l e R s m args below meth c Q a0 s0 (pc + 1) als (.int (Int32.ofNat E.1) :: s1) A) : xK base old dA D p l e R s m args below meth c Q a0 s0 pc als (.float 0 :: s1) A := by
  obtain ⟨hx, hb, hml, hown, hts, henv, hini, hz⟩ := C
  intro H locs ls hX hl
  obtain ⟨-, -, -, -, hXs, hbl, hbs, -⟩ := henv
  exact va_slen (b := old 0) hx hb hXs (by omega) (by omega) hX.2.2 hdg (kk H locs ls hX hl)
theorem i_newa {t : ArrayType} {pc : Nat} {ls st : List Value} {A : xH} {n : xN} (h : xnewa xgo0 t pc ls st A = some n) : ∃ k s1 tg cN, st = .int k :: s1 ∧ ¬ k < 0 ∧ k.toNatClampNeg ≤ 100000 ∧ n = .inl (pc + 2, ls, .ref A.length :: s1, A ++ [cN]) ∧ ((t = .int ∧ tg = 0 ∧ cN = .inl (0, k.toNatClampNeg, .inl fun _ => 0)) ∨ (t = .byte ∧ tg = 1 ∧ cN = .inl (1, k.toNatClampNeg, .inl fun _ => 0)) ∨ (t = .boolean ∧ tg = 2 ∧ cN = .inl (2, k.toNatClampNeg, .inl fun _ => 0)) ∨ (t = .long ∧ tg = 3 ∧ cN = .inl (3, k.toNatClampNeg, .inr (.inl fun _ => 0)))) := by
  unfold xnewa at h
  split at h
  · split at h
    · cases h
    · rename_i hk
      have h1 := fun q => hk (Or.inl q)
      have h2 := Nat.not_lt.mp (fun q => hk (Or.inr q))
      split at h
      · exact ⟨_, _, 0, _, rfl, h1, h2, (Option.some.inj h).symm, Or.inl ⟨rfl, rfl, rfl⟩⟩
      · exact ⟨_, _, 1, _, rfl, h1, h2, (Option.some.inj h).symm, Or.inr (Or.inl ⟨rfl, rfl, rfl⟩)⟩
      · exact ⟨_, _, 2, _, rfl, h1, h2, (Option.some.inj h).symm, Or.inr (Or.inr (Or.inl ⟨rfl, rfl, rfl⟩))⟩
      · exact ⟨_, _, 3, _, rfl, h1, h2, (Option.some.inj h).symm, Or.inr (Or.inr (Or.inr ⟨rfl, rfl, rfl⟩))⟩
      · cases h
  · cases h
/-- room for a new cell -/
theorem new_room {A : xH} {cN : xA} {R : Room} (ha : a0 ≤ A.length) (hs : s0 ≤ xsl A) (h1 : (A ++ [cN]).length - a0 ≤ R.cells) (h2 : xsl (A ++ [cN]) - s0 ≤ R.slots) : A.length - a0 + 1 ≤ R.cells ∧ xsl A - s0 + xsz cN ≤ R.slots := by
  rw [List.length_append] at h1
  rw [xsl_app] at h2
  simp at h1
  omega
theorem go_newa {t : ArrayType} {pc : Nat} {als st : List Value} {A : xH} {pc' : Nat} {als' st' : List Value} {A' : xH} (C : xCx base old dA D E p s m args meth c M b a0) (ha : a0 ≤ A.length) (hs : s0 ≤ xsl A) (h1 : A'.length - a0 ≤ R.cells) (h2 : xsl A' - s0 ≤ R.slots) (hdg : decode b pc = .ok (.newarray t, 2)) (h : xnewa xgo0 t pc als st A = some (.inl (pc', als', st', A'))) (kk : xK base old dA D p l e R s m args below meth c Q a0 s0 pc' als' st' A') : xK base old dA D p l e R s m args below meth c Q a0 s0 pc als st A := by
  obtain ⟨hx, hb, hml, hown, hts, henv, hini, hz⟩ := C
  intro H locs ls hX hl
  obtain ⟨k, s1, tg, cN, rfl, hk0, hk1, e, hc⟩ := i_newa h
  cases e
  obtain ⟨r1, r2⟩ := new_room ha hs h1 h2
  have hA : ∀ q, s.heap.size ≤ q → (fun q => base ≤ q) q := fun q hq => by show base ≤ q; omega
  rcases hc with ⟨rfl, rfl, rfl⟩ | ⟨rfl, rfl, rfl⟩ | ⟨rfl, rfl, rfl⟩ | ⟨rfl, rfl, rfl⟩
  · refine va_newa (atype := .int) (ty := xtyT 0) (a0 := (k.toNatClampNeg, .inl fun _ => 0)) hx hb (hts _ wy_int) rfl henv.1 hX.1 xw_D hX.2.2 hA (fun cA => rfl) hk0 rfl (by show k.toNatClampNeg * 4 ≤ _; omega) r1 r2 hdg (fun q cA H1 hK' hP hD hS => ?_)
    have := cls_at (by decide) henv.1 hK'
    subst this
    exact new_done hz ha hs hX hl kk rfl (arr_lt (by decide)) q H1 hP hD hS
  · refine va_newa (atype := .byte) (ty := xtyT 1) (a0 := (k.toNatClampNeg, .inl fun _ => 0)) hx hb (hts _ wy_byte) rfl henv.1 hX.1 xw_D hX.2.2 hA (fun cA => rfl) hk0 rfl (by show k.toNatClampNeg * 1 ≤ _; omega) r1 r2 hdg (fun q cA H1 hK' hP hD hS => ?_)
    have := cls_at (by decide) henv.1 hK'
    subst this
    exact new_done hz ha hs hX hl kk rfl (arr_lt (by decide)) q H1 hP hD hS
  · refine va_newa (atype := .boolean) (ty := xtyT 2) (a0 := (k.toNatClampNeg, .inl fun _ => 0)) hx hb (hts _ wy_boolean) rfl henv.1 hX.1 xw_D hX.2.2 hA (fun cA => rfl) hk0 rfl (by show k.toNatClampNeg * 1 ≤ _; omega) r1 r2 hdg (fun q cA H1 hK' hP hD hS => ?_)
    have := cls_at (by decide) henv.1 hK'
    subst this
    exact new_done hz ha hs hX hl kk rfl (arr_lt (by decide)) q H1 hP hD hS
  · refine va_newa (atype := .long) (ty := xtyT 3) (a0 := (k.toNatClampNeg, .inr (.inl fun _ => 0))) hx hb (hts _ wy_long) rfl henv.1 hX.1 xw_D hX.2.2 hA (fun cA => rfl) hk0 rfl (by show k.toNatClampNeg * 8 ≤ _; omega) r1 r2 hdg (fun q cA H1 hK' hP hD hS => ?_)
    have := cls_at (by decide) henv.1 hK'
    subst this
    exact new_done hz ha hs hX hl kk rfl (arr_lt (by decide)) q H1 hP hD hS
theorem go_anew {lk idx pc : Nat} {als s1 : List Value} {A : xH} {o i t : Nat} {fs : List Value} {k : Int32} (C : xCx base old dA D E p s m args meth c M b a0) (ha : a0 ≤ A.length) (hs : s0 ≤ xsl A) (h1 : (A ++ [(.inl (t, k.toNatClampNeg, .inr (.inr fun _ => none)) : xA)]).length - a0 ≤ R.cells) (h2 : xsl (A ++ [.inl (t, k.toNatClampNeg, .inr (.inr fun _ => none))]) - s0 ≤ R.slots) (hdg : decode b pc = .ok (.anewarray idx, 3)) (hT : xKL[lk]? = some (o, i, t, fs)) (ho : o = M.1 ∧ i = idx ∧ 4 ≤ t ∧ t ≤ 6) (hk : ¬ (k < 0 ∨ 100000 < k.toNatClampNeg)) (kk : xK base old dA D p l e R s m args below meth c Q a0 s0 (pc + 3) als (.ref A.length :: s1) (A ++ [.inl (t, k.toNatClampNeg, .inr (.inr fun _ => none))])) : xK base old dA D p l e R s m args below meth c Q a0 s0 pc als (.int k :: s1) A := by
  obtain ⟨hx, hb, hml, hown, hts, henv, hini, hz⟩ := C
  intro H locs ls hX hl
  obtain ⟨rfl, rfl, h4, h6⟩ := ho
  obtain ⟨r1, r2⟩ := new_room ha hs h1 h2
  have hA : ∀ q, s.heap.size ≤ q → (fun q => base ≤ q) q := fun q hq => by show base ≤ q; omega
  have hk0 := fun q => hk (Or.inl q)
  have hk1 := Nat.not_lt.mp (fun q => hk (Or.inr q))
  have hlink : Cond.classLink (xcn M.1) i (xelC t) ∈ gw := by
    rcases kl_all _ (List.mem_of_getElem? hT) with ⟨q, -⟩ | ⟨-, -, q⟩ | ⟨q, -⟩
    · exfalso; have : t = 0 := q; omega
    · exact q
    · exfalso; have : 100 ≤ t := q; omega
  have ht : t = 4 ∨ t = 5 ∨ t = 6 := by omega
  obtain ⟨t1, t2⟩ := tyT_obj ht
  have hover : va_AO (xelC t) s := by
    obtain ⟨-, -, ⟨o1, o2, o3⟩, -⟩ := henv
    rcases ht with rfl | rfl | rfl
    · exact o1
    · exact o2
    · exact o3
  refine va_newq (C := xelC t) hx hb hown (hts _ hlink) hover henv.1 hX.1 xw_D hX.2.2 hA hk0 rfl (by omega) r1 r2 hdg (fun q cA H1 hK' hP hD hS => ?_)
  rw [← t1] at hK'
  have := cls_at t2 henv.1 hK'
  subst this
  exact new_done hz ha hs hX hl kk rfl (arr_lt t2) q H1 hP hD hS
theorem map_dflt {fs : List Value} (h : ∀ v ∈ fs, v = .null ∨ v = .int 0) : fs.map (xv base old) = fs := by
  induction fs with
  | nil => rfl
  | cons v fs ih =>
    rw [List.map_cons, ih (fun w hw => h w (List.mem_cons_of_mem _ hw))]
    rcases h v List.mem_cons_self with rfl | rfl <;> rfl
theorem kl_plain : ∀ e ∈ xKL, ∀ v ∈ e.2.2.2, v = .null ∨ v = .int 0 := by
  unfold xKL
  decide
theorem go_new {lk idx pc : Nat} {als st : List Value} {A : xH} {o i t : Nat} {fs : List Value} (C : xCx base old dA D E p s m args meth c M b a0) (ha : a0 ≤ A.length) (hs : s0 ≤ xsl A) (h1 : (A ++ [(.inr (t - 100, fs) : xA)]).length - a0 ≤ R.cells) (h2 : xsl (A ++ [.inr (t - 100, fs)]) - s0 ≤ R.slots) (hdg : decode b pc = .ok (.new idx, 3)) (hT : xKL[lk]? = some (o, i, t, fs)) (ho : o = M.1 ∧ i = idx) (h100 : 100 ≤ t) (kk : xK base old dA D p l e R s m args below meth c Q a0 s0 (pc + 3) als (.ref A.length :: st) (A ++ [.inr (t - 100, fs)])) : xK base old dA D p l e R s m args below meth c Q a0 s0 pc als st A := by
  obtain ⟨hx, hb, hml, hown, hts, henv, hini, hz⟩ := C
  intro H locs ls hX hl
  obtain ⟨rfl, rfl⟩ := ho
  obtain ⟨r1, r2⟩ := new_room ha hs h1 h2
  have hA : ∀ q, s.heap.size ≤ q → (fun q => base ≤ q) q := fun q hq => by show base ≤ q; omega
  rcases kl_all _ (List.mem_of_getElem? hT) with ⟨q, -⟩ | ⟨-, q, -⟩ | ⟨-, hlt, hlink, hF⟩
  · exfalso; have : t = 0 := q; omega
  · exfalso; have : t ≤ 6 := q; omega
  · have hlt' : t - 100 < 10 := by have : t < 110 := hlt; omega
    obtain ⟨C, T, N, ty, hc, hty, hCn, hws, htyok, hnm, hinst, hini2, hT1⟩ := xk_all (t - 100) hlt'
    obtain ⟨hlen, hdf⟩ := hF C T N ty hc hty
    have hlen' : fs.length = N := hlen
    have hmap := map_dflt (base := base) (old := old) (kl_plain _ (List.mem_of_getElem? hT))
    have hlink' : Cond.classLink (xcn M.1) i C ∈ gw := by rw [hCn]; exact hlink
    refine va_new (D := D) (ci := t - 100) (C := C) (T := T) (N := N) (fs := fs) hx hb hts hws ty htyok hown (hts _ hlink') (hts _ hinst) (hts _ hini2) henv.1 hX.1 xw_D hX.2.2 hA hc (fun j hj => (hdf j hj).1) r1 (by rw [← hlen']; exact r2) hdg (fun q H1 hP hD hS => ?_)
    have e9 : xce base old dA (.inr (t - 100, fs)) = .inr (t - 100, fs) := by
      show (.inr (t - 100, fs.map (xv base old)) : va_E) = _
      rw [hmap]
    have := new_done (cN := .inr (t - 100, fs)) hz ha hs hX hl kk (n := N) hlen' (fun _ _ _ h => by cases h) q H1
    rw [e9] at this
    exact this hP hD hS
end XS2
end
section
/-! ===== every instruction that neither calls nor returns ===== -/
section XS3
variable {base : Nat} {old : Nat → Nat} {dA : Nat → ClassId} {D : va_G} {E : Nat × (Nat → Int32)}
variable {p : Program} {l : Launch} {e : Env} {R : Room} {s : State} {m : MethodId} {args : Array Value} {below : List Frame} {meth : Method} {c : Code} {Q : State → Prop}
variable {M : xM} {b : ByteArray} {a0 s0 : Nat}
theorem row_dec {pc lk : Nat} {ins : Instr} {dead : List Nat} (hr : xrok b (pc, ins, lk, dead) = true) : ∃ n, decode b pc = .ok (ins, n) ∧ (xplain ins = true → xlen ins ≠ 0 → n = xlen ins) ∧ xoffs pc ins = true ∧ xlkk ins lk = true := by
  unfold xrok at hr
  dsimp only at hr
  split at hr
  · rename_i i n hd
    simp only [Bool.and_eq_true, decide_eq_true_eq] at hr
    obtain ⟨⟨⟨h1, h2⟩, h3⟩, h4⟩ := hr
    subst h1
    refine ⟨n, hd, fun hp hl => ?_, h3, h4⟩
    simp only [Bool.or_eq_true, beq_iff_eq, Bool.not_eq_true'] at h2
    rcases h2 with (h2 | h2) | h2
    · exact absurd h2 hl
    · rw [hp] at h2; cases h2
    · exact h2.symm
  · cases hr
theorem tgt_ok {pc : Nat} {o : Int} (h : xtgt pc o = true) : (pc : Int) + o = (xti pc o : Int) := by
  unfold xtgt at h
  unfold xti
  have := of_decide_eq_true h
  omega
theorem i_sw {go : Nat → Option xN} {pc dflt : Nat} {x : Int32} {n : xN} : ∀ (lo : List Int) (c : Int), xsw go pc dflt x c lo = some n → (∃ (k : Nat) (o : Int), lo[k]? = some o ∧ x = Int32.ofInt (c + k) ∧ go (xti pc o) = some n) ∨ ((∀ k, k < lo.length → x ≠ Int32.ofInt (c + (k : Int))) ∧ go dflt = some n)
  | [], c, h => Or.inr ⟨fun k hk => absurd hk (Nat.not_lt_zero k), h⟩
  | o :: lo, c, h => by
    unfold xsw at h
    split at h
    · rename_i hx
      exact Or.inl ⟨0, o, rfl, by simpa using hx, h⟩
    · rename_i hx
      rcases i_sw lo (c + 1) h with ⟨k, o', h1, h2, h3⟩ | ⟨h1, h2⟩
      · exact Or.inl ⟨k + 1, o', by simpa using h1, by rw [h2]; congr 1; push_cast; omega, h3⟩
      · refine Or.inr ⟨fun k hk => ?_, h2⟩
        cases k with
        | zero => simpa using hx
        | succ k =>
          have := h1 k (by simpa using hk)
          intro e
          apply this
          rw [e]
          congr 1
          push_cast
          omega
theorem go_sw {pc : Nat} {als s1 : List Value} {A : xH} {d lo hi : Int} {offs : Array Int} {n : Nat} {x : Int32} {pc' : Nat} {als' st' : List Value} {A' : xH} (C : xCx base old dA D E p s m args meth c M b a0) (hdg : decode b pc = .ok (.tableswitch d lo hi offs, n)) (ho : xoffs pc (.tableswitch d lo hi offs) = true) (h : xsw (fun q => (some (.inl (q, als, s1, A)) : Option xN)) pc (xti pc d) x lo offs.toList = some (.inl (pc', als', st', A'))) (kk : xK base old dA D p l e R s m args below meth c Q a0 s0 pc' als' st' A') : xK base old dA D p l e R s m args below meth c Q a0 s0 pc als (.int x :: s1) A := by
  obtain ⟨hx, hb, hml, hown, hts, henv, hini, hz⟩ := C
  intro H locs ls hX hl
  simp only [xoffs, Bool.and_eq_true, decide_eq_true_eq, List.all_eq_true] at ho
  obtain ⟨⟨⟨⟨h1, h2⟩, h3⟩, h4⟩, h5⟩ := ho
  rcases i_sw _ _ h with ⟨k, o, g1, g2, g3⟩ | ⟨g1, g3⟩
  · cases g3
    have hk : k < offs.toList.length := (List.getElem?_eq_some_iff.mp g1).1
    have hxi : x.toInt = lo + k := by
      rw [g2]
      exact Int32.toInt_ofInt_of_le (by omega) (by omega)
    exact lv_tableIn hx hb hdg (by omega) (by omega) (by rw [hxi, show (lo + (k : Int) - lo).toNat = k by omega, ← Array.getElem?_toList]; exact g1) (tgt_ok (h2 o (List.mem_of_getElem? g1))) (kk H locs ls hX hl)
  · cases g3
    refine lv_tableOut hx hb hdg ?_ (tgt_ok h1) (kk H locs ls hX hl)
    by_cases q : x.toInt < lo
    · exact Or.inl q
    · by_cases q2 : hi < x.toInt
      · exact Or.inr q2
      · exfalso
        refine g1 (x.toInt - lo).toNat (by omega) ?_
        rw [show lo + (((x.toInt - lo).toNat : Nat) : Int) = x.toInt by omega, Int32.ofInt_toInt]
theorem go_icmp {cd : ClassFile.Cond} {off : Int} {pc : Nat} {als s1 : List Value} {A : xH} {x y : Int32} {pc' : Nat} {als' st' : List Value} {A' : xH} (C : xCx base old dA D E p s m args meth c M b a0) (hdg : decode b pc = .ok (.if_icmp cd off, 3)) (ht : (pc : Int) + off = (xti pc off : Int)) (h : xicmp cd x y (some (.inl (xti pc off, als, s1, A)) : Option xN) (some (.inl (pc + 3, als, s1, A)) : Option xN) = some (.inl (pc', als', st', A'))) (kk : xK base old dA D p l e R s m args below meth c Q a0 s0 pc' als' st' A') : xK base old dA D p l e R s m args below meth c Q a0 s0 pc als (.int y :: .int x :: s1) A := by
  obtain ⟨hx, hb, hml, hown, hts, henv, hini, hz⟩ := C
  intro H locs ls hX hl
  cases cd <;> dsimp only [xicmp] at h
  · exact lv_icmp_eq hx hb hdg ht (fun q => by rw [if_pos q] at h; cases h; exact kk H locs ls hX hl) (fun q => by rw [if_neg q] at h; cases h; exact kk H locs ls hX hl)
  · exact lv_icmp_ne hx hb hdg ht (fun q => by rw [if_neg q] at h; cases h; exact kk H locs ls hX hl) (fun q => by rw [if_pos q] at h; cases h; exact kk H locs ls hX hl)
  · exact lv_icmp_lt hx hb hdg ht (fun q => by rw [if_pos q] at h; cases h; exact kk H locs ls hX hl) (fun q => by rw [if_neg q] at h; cases h; exact kk H locs ls hX hl)
  · exact lv_icmp_ge hx hb hdg ht (fun q => by rw [if_pos q] at h; cases h; exact kk H locs ls hX hl) (fun q => by rw [if_neg q] at h; cases h; exact kk H locs ls hX hl)
  · exact lv_icmp_gt hx hb hdg ht (fun q => by rw [if_pos q] at h; cases h; exact kk H locs ls hX hl) (fun q => by rw [if_neg q] at h; cases h; exact kk H locs ls hX hl)
  · exact lv_icmp_le hx hb hdg ht (fun q => by rw [if_pos q] at h; cases h; exact kk H locs ls hX hl) (fun q => by rw [if_neg q] at h; cases h; exact kk H locs ls hX hl)
theorem go_if {cd : ClassFile.Cond} {off : Int} {pc : Nat} {als s1 : List Value} {A : xH} {x : Int32} {pc' : Nat} {als' st' : List Value} {A' : xH} (C : xCx base old dA D E p s m args meth c M b a0) (hdg : decode b pc = .ok (.ifCond cd off, 3)) (ht : (pc : Int) + off = (xti pc off : Int)) (h : xicmp cd x 0 (some (.inl (xti pc off, als, s1, A)) : Option xN) (some (.inl (pc + 3, als, s1, A)) : Option xN) = some (.inl (pc', als', st', A'))) (kk : xK base old dA D p l e R s m args below meth c Q a0 s0 pc' als' st' A') : xK base old dA D p l e R s m args below meth c Q a0 s0 pc als (.int x :: s1) A := by
  obtain ⟨hx, hb, hml, hown, hts, henv, hini, hz⟩ := C
  intro H locs ls hX hl
  cases cd <;> dsimp only [xicmp] at h
  · exact lv_if_eq hx hb hdg ht (fun q => by rw [if_pos q] at h; cases h; exact kk H locs ls hX hl) (fun q => by rw [if_neg q] at h; cases h; exact kk H locs ls hX hl)
  · exact lv_if_ne hx hb hdg ht (fun q => by rw [if_neg q] at h; cases h; exact kk H locs ls hX hl) (fun q => by rw [if_pos q] at h; cases h; exact kk H locs ls hX hl)
  · exact lv_if_lt hx hb hdg ht (fun q => by rw [if_pos q] at h; cases h; exact kk H locs ls hX hl) (fun q => by rw [if_neg q] at h; cases h; exact kk H locs ls hX hl)
  · exact lv_if_ge hx hb hdg ht (fun q => by rw [if_pos q] at h; cases h; exact kk H locs ls hX hl) (fun q => by rw [if_neg q] at h; cases h; exact kk H locs ls hX hl)
  · exact lv_if_gt hx hb hdg ht (fun q => by rw [if_pos q] at h; cases h; exact kk H locs ls hX hl) (fun q => by rw [if_neg q] at h; cases h; exact kk H locs ls hX hl)
  · exact lv_if_le hx hb hdg ht (fun q => by rw [if_pos q] at h; cases h; exact kk H locs ls hX hl) (fun q => by rw [if_neg q] at h; cases h; exact kk H locs ls hX hl)
theorem go_ldc {w lk idx pc : Nat} {als st : List Value} {A : xH} {pc' : Nat} {als' st' : List Value} {A' : xH} (C : xCx base old dA D E p s m args meth c M b a0) (hdg : (w = 2 ∧ decode b pc = .ok (.ldc idx, 2)) ∨ (w = 3 ∧ decode b pc = .ok (.ldc_w idx, 3))) (h : xldc xtabs M.1 xgo0 w lk idx pc als st A = some (.inl (pc', als', st', A'))) (kk : xK base old dA D p l e R s m args below meth c Q a0 s0 pc' als' st' A') : xK base old dA D p l e R s m args below meth c Q a0 s0 pc als st A := by
  obtain ⟨hx, hb, hml, hown, hts, henv, hini, hz⟩ := C
  intro H locs ls hX hl
  unfold xldc at h
  split at h
  · rename_i o i v hT
    split at h
    · rename_i ho
      obtain ⟨rfl, rfl⟩ := ho
      cases h
      have hw := ci_all _ (List.mem_of_getElem? (show xCI[lk]? = some _ from hT))
      rcases hdg with ⟨rfl, hdg⟩ | ⟨rfl, hdg⟩
      · exact lv_ldc hx hb hown (hts _ hw) hdg (kk H locs ls hX hl)
      · exact lv_ldcw hx hb hown (hts _ hw) hdg (kk H locs ls hX hl)
    · cases h
  · split at h
    · rename_i o i k hT
      split at h
      · rename_i ho
        obtain ⟨rfl, rfl, rfl⟩ := ho
        cases h
        obtain ⟨-, -, -, -, -, -, -, -, hR, -⟩ := henv
        have hm : (M.1, i, k) ∈ xSL := List.mem_of_getElem? (show xSL[lk - 1000]? = some _ from hT)
        obtain ⟨tx, hR⟩ := hR _ hm
        have hk : (UInt32.ofNat k).toNat = k := by
          have : ∀ e ∈ xSL, (UInt32.ofNat e.2.2).toNat = e.2.2 := by unfold xSL; decide
          exact this _ hm
        rcases hdg with ⟨-, hdg⟩ | ⟨h3, -⟩
        · refine va_ldcS hx hb hown hR hdg ?_
          have := kk H locs ls hX hl
          have e9 : xv base old (.float (UInt32.ofNat k)) = .ref (old k) := by
            show Value.ref (old (UInt32.ofNat k).toNat) = _
            rw [hk]
          rw [List.map_cons, e9] at this
          exact this
        · omega
      · cases h
    · cases h
/-- astore, aload: what may lie there -/
theorem xv_ref {v : Value} (h : (∃ x, v = .ref x) ∨ v = .null ∨ ∃ x, v = .float x) : ((∃ x, xv base old v = .ref x) ∨ xv base old v = .null) ∧ (∀ k, v ≠ .retAddr k) := by
  rcases h with ⟨x, rfl⟩ | rfl | ⟨x, rfl⟩
  · exact ⟨Or.inl ⟨_, rfl⟩, fun k h => by cases h⟩
  · exact ⟨Or.inr rfl, fun k h => by cases h⟩
  · exact ⟨Or.inl ⟨_, rfl⟩, fun k h => by cases h⟩
theorem go_aload {i pc w : Nat} {als st : List Value} {A : xH} (C : xCx base old dA D E p s m args meth c M b a0) (hdg : (∃ n : Fin 4, n.val = i ∧ w = 1 ∧ decode b pc = .ok (.aload_n n, 1)) ∨ (w = 2 ∧ decode b pc = .ok (.aload i, 2))) (hv : (∃ x, xg als i = .ref x) ∨ xg als i = .null ∨ ∃ x, xg als i = .float x) (kk : xK base old dA D p l e R s m args below meth c Q a0 s0 (pc + w) als (xg als i :: st) A) : xK base old dA D p l e R s m args below meth c Q a0 s0 pc als st A := by
  obtain ⟨hx, hb, hml, hown, hts, henv, hini, hz⟩ := C
  intro H locs ls hX hl
  have hk := kk H locs ls hX hl
  obtain ⟨h1, h2⟩ := xv_ref (base := base) (old := old) hv
  have hat := hl.2.2 i h2
  rw [List.map_cons] at hk
  rcases h1 with ⟨x, h1⟩ | h1
  · rw [h1] at hat hk
    rcases hdg with ⟨n, hn, rfl, hdg⟩ | ⟨rfl, hdg⟩
    · exact lv_aload_n hx hb hdg hn hat hk
    · exact lv_aload hx hb hdg hat hk
  · rw [h1] at hat hk
    rcases hdg with ⟨n, hn, rfl, hdg⟩ | ⟨rfl, hdg⟩
    · exact lv_aload_nN hx hb hdg hn hat hk
    · exact lv_aloadN hx hb hdg hat hk
theorem go_astore {i pc w : Nat} {als s1 : List Value} {v : Value} {A : xH} (C : xCx base old dA D E p s m args meth c M b a0) (hdg : (∃ n : Fin 4, n.val = i ∧ w = 1 ∧ decode b pc = .ok (.astore_n n, 1)) ∨ (w = 2 ∧ decode b pc = .ok (.astore i, 2))) (hv : (∃ x, v = .ref x) ∨ v = .null ∨ ∃ x, v = .float x) (hi : i < als.length) (hp : ∀ j, i = j + 1 → (xg als j).category ≠ 2) (kk : xK base old dA D p l e R s m args below meth c Q a0 s0 (pc + w) (xs als i v) s1 A) : xK base old dA D p l e R s m args below meth c Q a0 s0 pc als (v :: s1) A := by
  obtain ⟨hx, hb, hml, hown, hts, henv, hini, hz⟩ := C
  intro H locs ls hX hl
  obtain ⟨h1, h2⟩ := xv_ref (base := base) (old := old) hv
  have fin : ∀ ls' : Array Slot, lv_has ls' als.length ((i, xv base old v) :: (xlv base old als).filter (fun q => !(q.1 == i) && !(q.1 + 1 == i && q.2.category == 2))) → W p l e R s m args below meth c H locs (A.length - a0) (xsl A - s0) Q (F0 m (pc + w) ls' (s1.map (xv base old))) := fun ls' h' => kk H locs ls' hX (xLoc.st1 hi hp h')
  show W p l e R s m args below meth c H locs (A.length - a0) (xsl A - s0) Q (F0 m pc ls (xv base old v :: s1.map (xv base old)))
  rcases h1 with ⟨x, h1⟩ | h1
  · rw [h1] at fin ⊢
    rcases hdg with ⟨n, hn, rfl, hdg⟩ | ⟨rfl, hdg⟩
    · exact lv_astore_n hx hb hdg hn hl.has hi rfl fin
    · exact lv_astore hx hb hdg hl.has hi rfl fin
  · rw [h1] at fin ⊢
    rcases hdg with ⟨n, hn, rfl, hdg⟩ | ⟨rfl, hdg⟩
    · exact lv_astore_nN hx hb hdg hn hl.has hi rfl fin
    · exact lv_astoreN hx hb hdg hl.has hi rfl fin
end XS3
end
section
/-! ===== String.length and String.charAt of the class's constants ===== -/
theorem gw_goodIn {w0 : Cond} (h : w0 ∈ gw) : GoodIn gw (w0 :: gw) := by
  intro w hw
  have hm : w ∈ gw := by
    rcases List.mem_cons.mp hw with rfl | hw
    · exact h
    · exact hw
  exact ⟨hm, good_of_word (gw_good hm)⟩
section XSTR
variable {base : Nat} {old : Nat → Nat} {dA : Nat → ClassId} {D : va_G} {E : Nat × (Nat → Int32)}
variable {p : Program} {l : Launch} {e : Env} {R : Room} {s : State} {m : MethodId} {args : Array Value} {below : List Frame} {meth : Method} {c : Code} {Q : State → Prop} {H : Heap} {locs : List Loc} {cells slots : Nat}
/-- a contract of a method that changes nothing -/
def xPure (base : Nat) (old : Nat → Nat) (dA : Nat → ClassId) (D : va_G) (E : Nat × (Nat → Int32)) (l : Launch) (y : MethodName) (bytes : ByteArray) (maxL : Nat) (ret : Option FieldType) (fr lo : Nat) (As : List Value) (v : Option Value) : Prop :=
  Met l y (.code y bytes maxL ret :: gw) { frames := fr, cells := 0, slots := 0, locals := lo } (fun a U => a = As.toArray ∧ xEnv base old dA D E U) (fun _ st o t => o = .returned v ∧ t.heap = st.heap) 0 0 (fun _ => False)
theorem run_pure {pc : Nat} {ls : Array Slot} {st0 rest : List Value} {v : Option Value} (hr : va_Run p l e R s m args below meth c H locs cells slots 0 0 (F0 m pc ls st0) rest (fun st o t => o = .returned v ∧ t.heap = st.heap) (fun _ => False)) (kk : W p l e R s m args below meth c H locs cells slots Q (F0 m (pc + 3) ls (v.toList ++ rest))) : W p l e R s m args below meth c H locs cells slots Q (F0 m pc ls st0) := by
  intro T hT X
  obtain ⟨v', st₀, t, T', L, h0, X', hL, e1, e2, ⟨hv, hh⟩, st⟩ := hr T hT X
  cases hv
  obtain ⟨t2, a1, b1⟩ := kk T' (by rw [e1, hh, h0]) (Stand.forget X' (fun q h => (hL q h).elim))
  exact ⟨t2, st t2 a1, b1⟩
theorem call_S {cc bytes : ByteArray} {own : String} {idx pc maxL n fr lo : Nat} {y : MethodName} {ret : Option FieldType} {As rest : List Value} {v : Option Value} {ls : Array Slot} (hx : p.tables.exec = Jvm.exec) (hb : c.code = cc) (hml : c.maxLocals = ls.size) (hown : s.vm.findClass own = some m.cls) (hts : ∀ w ∈ gw, w.before args s = true) (henv : xEnv base old dA D E s) (hS : va_S (fun q => base ≤ q) s.heap H locs)
    (hM : xPure base old dA D E l y bytes maxL ret fr lo As v) (hc : Cond.code y bytes maxL ret ∈ gw) (hi : Cond.initialized y.cls ∈ gw) (hl : Cond.methodLink own idx y ∈ gw) (hst : Cond.static y ∈ gw) (hd : y.cls ≠ "java/lang/invoke/MethodHandle" ∧ y.cls ≠ "java/lang/invoke/VarHandle" ∧ (parseMethodDescriptor y.desc).map (fun d => d.parameters.length) = some n) (hn : As.length = n) (hR : fr + 1 ≤ R.frames ∧ 8 + (maxL + 11) + lo ≤ R.locals) (hW : (rest.map fun v => v.category).sum ≤ 8) (hdg : decode cc pc = .ok (.invokestatic idx, 3)) (hf : cells ≤ R.cells ∧ slots ≤ R.slots)
    (kk : W p l e R s m args below meth c H locs cells slots Q (F0 m (pc + 3) ls (v.toList ++ rest))) : W p l e R s m args below meth c H locs cells slots Q (F0 m pc ls (As.reverse ++ rest)) :=
  run_pure (va_runS (Ts := gw) (nL := ls.size) ⟨hx, hb, hml, hown, hts⟩ hM ⟨callB_of n hts (gw_goodIn hc) rfl rfl rfl (hts _ hi) (hts _ hl) hd hR, hts _ hst⟩ ⟨fun a U g mk q => ⟨q.1, xEnv_same (U := U) (U' := U.calling g mk a) rfl rfl q.2⟩, fun U hU hW => ⟨rfl, xEnv_warm hU hW hS henv⟩⟩ rfl hn rfl rfl (lv_room hW) hdg hf) kk
theorem call_V {cc bytes : ByteArray} {own : String} {idx pc maxL n fr lo b : Nat} {y : MethodName} {ret : Option FieldType} {As rest : List Value} {v : Option Value} {ls : Array Slot} (hx : p.tables.exec = Jvm.exec) (hb : c.code = cc) (hml : c.maxLocals = ls.size) (hown : s.vm.findClass own = some m.cls) (hts : ∀ w ∈ gw, w.before args s = true) (henv : xEnv base old dA D E s) (hS : va_S (fun q => base ≤ q) s.heap H locs)
    (hM : xPure base old dA D E l y bytes maxL ret fr lo (.ref b :: As) v) (hc : Cond.code y bytes maxL ret ∈ gw) (hi : Cond.initialized y.cls ∈ gw) (hl : Cond.methodLink own idx y ∈ gw) (hin : Cond.instanceMethod y ∈ gw) (hse : Cond.selects y.cls y y ∈ gw) (hd : y.cls ≠ "java/lang/invoke/MethodHandle" ∧ y.cls ≠ "java/lang/invoke/VarHandle" ∧ (parseMethodDescriptor y.desc).map (fun d => d.parameters.length) = some n) (hn : As.length = n) (hrc : ∃ cellB : Cell, H[b]? = some cellB ∧ cellB.vm.isStatics = false ∧ s.vm.findClass y.cls = some cellB.cls) (hR : fr + 1 ≤ R.frames ∧ 8 + (maxL + 11) + lo ≤ R.locals) (hW : (rest.map fun v => v.category).sum ≤ 8) (hdg : decode cc pc = .ok (.invokevirtual idx, 3)) (hf : cells ≤ R.cells ∧ slots ≤ R.slots)
    (kk : W p l e R s m args below meth c H locs cells slots Q (F0 m (pc + 3) ls (v.toList ++ rest))) : W p l e R s m args below meth c H locs cells slots Q (F0 m pc ls (As.reverse ++ .ref b :: rest)) :=
  run_pure (va_runV (Ts := gw) (nL := ls.size) (C := y.cls) ⟨hx, hb, hml, hown, hts⟩ hM ⟨callB_of n hts (gw_goodIn hc) rfl rfl rfl (hts _ hi) (hts _ hl) hd hR, hts _ hin, hts _ hse⟩ ⟨fun a U g mk q => ⟨q.1, xEnv_same (U := U) (U' := U.calling g mk a) rfl rfl q.2⟩, hrc, fun U hU hW => ⟨rfl, xEnv_warm hU hW hS henv⟩⟩ rfl hn rfl rfl (lv_room hW) hdg hf) kk
end XSTR
section XSTR2
variable (base : Nat) (old : Nat → Nat) (dA : Nat → ClassId) (D : va_G) (E : Nat × (Nat → Int32)) (l : Launch)
def zCk : MethodName := ⟨"jdk/internal/util/Preconditions", "checkIndex", "(IILjava/util/function/BiFunction;)I"⟩
def zSk : MethodName := ⟨"java/lang/String", "checkIndex", "(II)V"⟩
def zLa : MethodName := ⟨"java/lang/StringLatin1", "charAt", "([BI)C"⟩
def zCo : MethodName := ⟨"java/lang/String", "coder", "()B"⟩
def zIs : MethodName := ⟨"java/lang/String", "isLatin1", "()Z"⟩
theorem z_ck_0 : decode prog_20_method_11_code 0 = .ok (.iload_n 0, 1) := by decide +kernel
theorem z_ck_1 : decode prog_20_method_11_code 1 = .ok (.ifCond .lt 8, 3) := by decide +kernel
theorem z_ck_4 : decode prog_20_method_11_code 4 = .ok (.iload_n 0, 1) := by decide +kernel
theorem z_ck_5 : decode prog_20_method_11_code 5 = .ok (.iload_n 1, 1) := by decide +kernel
theorem z_ck_6 : decode prog_20_method_11_code 6 = .ok (.if_icmp .lt 10, 3) := by decide +kernel
theorem z_ck_9 : decode prog_20_method_11_code 9 = .ok (.aload_n 2, 1) := by decide +kernel
theorem z_ck_10 : decode prog_20_method_11_code 10 = .ok (.iload_n 0, 1) := by decide +kernel
theorem z_ck_11 : decode prog_20_method_11_code 11 = .ok (.iload_n 1, 1) := by decide +kernel
theorem z_ck_12 : decode prog_20_method_11_code 12 = .ok (.invokestatic 95, 3) := by decide +kernel
theorem z_ck_16 : decode prog_20_method_11_code 16 = .ok (.iload_n 0, 1) := by decide +kernel
theorem z_ck_17 : decode prog_20_method_11_code 17 = .ok (.ireturn, 1) := by decide +kernel
theorem z_sk_0 : decode prog_15_method_155_code 0 = .ok (.iload_n 0, 1) := by decide +kernel
theorem z_sk_1 : decode prog_15_method_155_code 1 = .ok (.iload_n 1, 1) := by decide +kernel
theorem z_sk_2 : decode prog_15_method_155_code 2 = .ok (.getstatic 1053, 3) := by decide +kernel
theorem z_sk_5 : decode prog_15_method_155_code 5 = .ok (.invokestatic 1059, 3) := by decide +kernel
theorem z_sk_8 : decode prog_15_method_155_code 8 = .ok (.pop, 1) := by decide +kernel
theorem z_sk_9 : decode prog_15_method_155_code 9 = .ok (.return_, 1) := by decide +kernel
theorem z_la_0 : decode prog_16_method_2_code 0 = .ok (.iload_n 1, 1) := by decide +kernel
theorem z_la_1 : decode prog_16_method_2_code 1 = .ok (.aload_n 0, 1) := by decide +kernel
theorem z_la_2 : decode prog_16_method_2_code 2 = .ok (.arraylength, 1) := by decide +kernel
theorem z_la_3 : decode prog_16_method_2_code 3 = .ok (.invokestatic 9, 3) := by decide +kernel
theorem z_la_6 : decode prog_16_method_2_code 6 = .ok (.aload_n 0, 1) := by decide +kernel
theorem z_la_7 : decode prog_16_method_2_code 7 = .ok (.iload_n 1, 1) := by decide +kernel
theorem z_la_8 : decode prog_16_method_2_code 8 = .ok (.baload, 1) := by decide +kernel
theorem z_la_9 : decode prog_16_method_2_code 9 = .ok (.sipush 255, 3) := by decide +kernel
theorem z_la_12 : decode prog_16_method_2_code 12 = .ok (.iand, 1) := by decide +kernel
theorem z_la_13 : decode prog_16_method_2_code 13 = .ok (.i2c, 1) := by decide +kernel
theorem z_la_14 : decode prog_16_method_2_code 14 = .ok (.ireturn, 1) := by decide +kernel
theorem z_co_0 : decode prog_15_method_152_code 0 = .ok (.getstatic 38, 3) := by decide +kernel
theorem z_co_3 : decode prog_15_method_152_code 3 = .ok (.ifCond .eq 10, 3) := by decide +kernel
theorem z_co_6 : decode prog_15_method_152_code 6 = .ok (.aload_n 0, 1) := by decide +kernel
theorem z_co_7 : decode prog_15_method_152_code 7 = .ok (.getfield 15, 3) := by decide +kernel
theorem z_co_10 : decode prog_15_method_152_code 10 = .ok (.goto 4, 3) := by decide +kernel
theorem z_co_13 : decode prog_15_method_152_code 13 = .ok (.iconst 1, 1) := by decide +kernel
theorem z_co_14 : decode prog_15_method_152_code 14 = .ok (.ireturn, 1) := by decide +kernel
theorem z_is_0 : decode prog_15_method_154_code 0 = .ok (.getstatic 38, 3) := by decide +kernel
theorem z_is_3 : decode prog_15_method_154_code 3 = .ok (.ifCond .eq 14, 3) := by decide +kernel
theorem z_is_6 : decode prog_15_method_154_code 6 = .ok (.aload_n 0, 1) := by decide +kernel
theorem z_is_7 : decode prog_15_method_154_code 7 = .ok (.getfield 15, 3) := by decide +kernel
theorem z_is_10 : decode prog_15_method_154_code 10 = .ok (.ifCond .ne 7, 3) := by decide +kernel
theorem z_is_13 : decode prog_15_method_154_code 13 = .ok (.iconst 1, 1) := by decide +kernel
theorem z_is_14 : decode prog_15_method_154_code 14 = .ok (.goto 4, 3) := by decide +kernel
theorem z_is_17 : decode prog_15_method_154_code 17 = .ok (.iconst 0, 1) := by decide +kernel
theorem z_is_18 : decode prog_15_method_154_code 18 = .ok (.ireturn, 1) := by decide +kernel
theorem z_len_0 : decode prog_15_method_54_code 0 = .ok (.aload_n 0, 1) := by decide +kernel
theorem z_len_1 : decode prog_15_method_54_code 1 = .ok (.getfield 9, 3) := by decide +kernel
theorem z_len_4 : decode prog_15_method_54_code 4 = .ok (.arraylength, 1) := by decide +kernel
theorem z_len_5 : decode prog_15_method_54_code 5 = .ok (.aload_n 0, 1) := by decide +kernel
theorem z_len_6 : decode prog_15_method_54_code 6 = .ok (.invokevirtual 335, 3) := by decide +kernel
theorem z_len_9 : decode prog_15_method_54_code 9 = .ok (.ishr, 1) := by decide +kernel
theorem z_len_10 : decode prog_15_method_54_code 10 = .ok (.ireturn, 1) := by decide +kernel
theorem z_at_0 : decode prog_15_method_56_code 0 = .ok (.aload_n 0, 1) := by decide +kernel
theorem z_at_1 : decode prog_15_method_56_code 1 = .ok (.invokevirtual 492, 3) := by decide +kernel
theorem z_at_4 : decode prog_15_method_56_code 4 = .ok (.ifCond .eq 12, 3) := by decide +kernel
theorem z_at_7 : decode prog_15_method_56_code 7 = .ok (.aload_n 0, 1) := by decide +kernel
theorem z_at_8 : decode prog_15_method_56_code 8 = .ok (.getfield 9, 3) := by decide +kernel
theorem z_at_11 : decode prog_15_method_56_code 11 = .ok (.iload_n 1, 1) := by decide +kernel
theorem z_at_12 : decode prog_15_method_56_code 12 = .ok (.invokestatic 495, 3) := by decide +kernel
theorem z_at_15 : decode prog_15_method_56_code 15 = .ok (.ireturn, 1) := by decide +kernel
theorem z_at_16 : decode prog_15_method_56_code 16 = .ok (.aload_n 0, 1) := by decide +kernel
theorem z_at_17 : decode prog_15_method_56_code 17 = .ok (.getfield 9, 3) := by decide +kernel
theorem z_at_20 : decode prog_15_method_56_code 20 = .ok (.iload_n 1, 1) := by decide +kernel
theorem z_at_21 : decode prog_15_method_56_code 21 = .ok (.invokestatic 498, 3) := by decide +kernel
theorem z_at_24 : decode prog_15_method_56_code 24 = .ok (.ireturn, 1) := by decide +kernel
theorem zw_ck_c : Cond.code zCk prog_20_method_11_code 3 (some .int) ∈ gw := gm3 144 rfl rfl
theorem zw_ck_i : Cond.initialized zCk.cls ∈ gw := gm1 15 rfl rfl
theorem zw_ck_s : Cond.static zCk ∈ gw := gm3 143 rfl rfl
theorem zw_sk_ck : Cond.methodLink "java/lang/String" 1059 zCk ∈ gw := gm3 142 rfl rfl
theorem zw_sk_c : Cond.code zSk prog_15_method_155_code 2 none ∈ gw := gm3 139 rfl rfl
theorem zw_sk_i : Cond.initialized zSk.cls ∈ gw := gm1 13 rfl rfl
theorem zw_sk_s : Cond.static zSk ∈ gw := gm3 138 rfl rfl
theorem zw_sk_f : Cond.fieldLink "java/lang/String" 1053 "jdk/internal/util/Preconditions" "SIOOBE_FORMATTER" "Ljava/util/function/BiFunction;" ∈ gw := gm3 140 rfl rfl
theorem zw_la_sk : Cond.methodLink "java/lang/StringLatin1" 9 zSk ∈ gw := gm3 137 rfl rfl
theorem zw_la_c : Cond.code zLa prog_16_method_2_code 2 (some .char) ∈ gw := gm3 136 rfl rfl
theorem zw_la_i : Cond.initialized zLa.cls ∈ gw := gm1 14 rfl rfl
theorem zw_la_s : Cond.static zLa ∈ gw := gm3 135 rfl rfl
theorem zw_co_f : Cond.fieldLink "java/lang/String" 38 "java/lang/String" "COMPACT_STRINGS" "Z" ∈ gw := gm3 124 rfl rfl
theorem zw_co_g : Cond.fieldLink "java/lang/String" 15 "java/lang/String" "coder" "B" ∈ gw := gm8 76 rfl rfl
theorem zw_co_c : Cond.code zCo prog_15_method_152_code 1 (some .byte) ∈ gw := gm3 123 rfl rfl
theorem zw_co_i : Cond.initialized zCo.cls ∈ gw := gm1 13 rfl rfl
theorem zw_co_n : Cond.instanceMethod zCo ∈ gw := gm3 121 rfl rfl
theorem zw_co_s : Cond.selects zCo.cls zCo zCo ∈ gw := gm3 122 rfl rfl
theorem zw_len_g : Cond.fieldLink "java/lang/String" 9 "java/lang/String" "value" "[B" ∈ gw := gm8 75 rfl rfl
theorem zw_len_co : Cond.methodLink "java/lang/String" 335 zCo ∈ gw := gm3 120 rfl rfl
theorem zw_is_c : Cond.code zIs prog_15_method_154_code 1 (some .boolean) ∈ gw := gm3 133 rfl rfl
theorem zw_is_n : Cond.instanceMethod zIs ∈ gw := gm3 131 rfl rfl
theorem zw_is_s : Cond.selects zIs.cls zIs zIs ∈ gw := gm3 132 rfl rfl
theorem zw_at_is : Cond.methodLink "java/lang/String" 492 zIs ∈ gw := gm3 130 rfl rfl
theorem zw_at_la : Cond.methodLink "java/lang/String" 495 zLa ∈ gw := gm3 134 rfl rfl
theorem zw_len_c : Cond.code xsLen prog_15_method_54_code 1 (some .int) ∈ gw := gm3 119 rfl rfl
theorem zw_len_n : Cond.instanceMethod xsLen ∈ gw := gm3 117 rfl rfl
theorem zw_len_s : Cond.selects xsLen.cls xsLen xsLen ∈ gw := gm3 118 rfl rfl
theorem zw_len_i : Cond.initialized xsLen.cls ∈ gw := gm1 13 rfl rfl
theorem zw_at_c : Cond.code xsAt prog_15_method_56_code 2 (some .char) ∈ gw := gm3 129 rfl rfl
theorem zw_at_n : Cond.instanceMethod xsAt ∈ gw := gm3 127 rfl rfl
theorem zw_at_s : Cond.selects xsAt.cls xsAt xsAt ∈ gw := gm3 128 rfl rfl
theorem zw_at_i : Cond.initialized xsAt.cls ∈ gw := gm1 13 rfl rfl
theorem c_ck (i n : Int32) (f : Value) (hf : f = .null ∨ ∃ a, f = .ref a) (h0 : ¬ i < 0) (h1 : i < n) : xPure base old dA D E l zCk prog_20_method_11_code 3 (some .int) 0 0 [.int i, .int n, f] (some (.int i)) := by
  refine Met.ofW (cc := prog_20_method_11_code) (maxL := 3) (ret := some .int) (by decide) rfl ?_
  intro p e s m args below meth c s₁ B hml hv
  obtain ⟨rfl, henv⟩ := hv
  have hx := B.exec
  have hb := B.bytes
  have hr := B.returns
  have hlocks := B.notSynchronized
  have hl := lv_entry ([.int i, .int n, f]) (n := 3) (by rcases hf with rfl | ⟨a, rfl⟩ <;> exact Nat.le_of_ble_eq_true rfl)
  rw [lg_entry_eq]
  generalize (lg_sl ([.int i, .int n, f]) ++ List.replicate (3 - (lg_sl ([.int i, .int n, f])).length) Slot.unset).toArray = ls at hl ⊢
  have hl0 : ls[0]? = some (.val (.int i)) := hl.2.2 (0, .int i) (by simp [lv_args])
  have hl1 : ls[1]? = some (.val (.int n)) := hl.2.2 (1, .int n) (by simp [lv_args, Value.category])
  refine lv_iload_n hx hb z_ck_0 rfl hl0 ?_
  refine lv_if_lt (tgt := 9) hx hb z_ck_1 (by decide) (fun q => absurd q h0) (fun _ => ?_)
  refine lv_iload_n hx hb z_ck_4 rfl hl0 ?_
  refine lv_iload_n hx hb z_ck_5 rfl hl1 ?_
  refine lv_icmp_lt (tgt := 16) hx hb z_ck_6 (by decide) (fun _ => ?_) (fun q => absurd h1 q)
  refine lv_iload_n hx hb z_ck_16 rfl hl0 ?_
  exact W.iret (v := i) hx hb hr (fun t ht hW => ⟨rfl, ht⟩) (fun _ h => by cases h) z_ck_17
theorem c_sk (i n : Int32) (h0 : ¬ i < 0) (h1 : i < n) : xPure base old dA D E l zSk prog_15_method_155_code 2 none 1 22 [.int i, .int n] none := by
  refine Met.ofW (cc := prog_15_method_155_code) (maxL := 2) (ret := none) (by decide) rfl ?_
  intro p e s m args below meth c s₁ B hml hv
  obtain ⟨rfl, henv⟩ := hv
  have hx := B.exec
  have hb := B.bytes
  have hr := B.returns
  have hlocks := B.notSynchronized
  have hts : ∀ w ∈ gw, w.before _ s = true := fun w hw => atoms_spec B.pre w (List.mem_cons_of_mem _ hw)
  have hown : s.vm.findClass "java/lang/String" = some m.cls := findClass_of_methodNamed B.named
  have hS : va_S (fun q => base ≤ q) s.heap s.heap [] := va_S.rf
  have hl := lv_entry ([.int i, .int n]) (n := 2) (Nat.le_of_ble_eq_true rfl)
  rw [lg_entry_eq]
  generalize (lg_sl ([.int i, .int n]) ++ List.replicate (2 - (lg_sl ([.int i, .int n])).length) Slot.unset).toArray = ls at hl ⊢
  have hl : lv_has ls 2 [(0, .int i), (1, .int n)] := hl
  obtain ⟨-, -, -, -, -, -, -, -, -, -, hZq⟩ := id henv
  refine lv_iload_n hx hb z_sk_0 rfl (lv_at hl 0 rfl) ?_
  refine lv_iload_n hx hb z_sk_1 rfl (lv_at hl 1 rfl) ?_
  have go : ∀ f : Value, (f = .null ∨ ∃ a, f = .ref a) → W p l e (headSpec (.code zSk prog_15_method_155_code 2 none :: gw) { frames := 1, cells := 0, slots := 0, locals := 22 }).room s m #[.int i, .int n] below meth c s.heap [] 0 0 (MQ below (fun _ st o t => o = .returned none ∧ t.heap = st.heap) #[.int i, .int n] s 0 0 (fun _ => False)) (F0 m 5 ls [f, .int n, .int i]) := by
    intro f hf
    refine call_S (base := base) (old := old) (dA := dA) (D := D) (E := E) (own := "java/lang/String") (As := [.int i, .int n, f]) (rest := []) (n := 3) hx hb (by rw [hml]; exact hl.1.symm) hown hts henv hS (c_ck base old dA D E l i n f hf h0 h1) zw_ck_c zw_ck_i zw_sk_ck zw_ck_s (by decide +kernel) rfl ⟨Nat.le_of_ble_eq_true rfl, Nat.le_of_ble_eq_true rfl⟩ (Nat.le_of_ble_eq_true rfl) z_sk_5 ⟨Nat.le_refl _, Nat.le_refl _⟩ ?_
    refine lv_pop (va := .int i) hx hb z_sk_8 rfl ?_
    exact W.vret hx hb hr (fun t ht hW => ⟨rfl, ht⟩) (fun _ h => by cases h) z_sk_9
  rcases hZq with hZ | ⟨t, hZ⟩
  · exact va_gets hx hb hZ hS hown (hts _ zw_sk_f) (fun _ h => h) z_sk_2 (go .null (Or.inl rfl))
  · exact va_gets hx hb hZ hS hown (hts _ zw_sk_f) (fun _ h => h) z_sk_2 (go (.ref t) (Or.inr ⟨t, rfl⟩))
theorem xstr_len : ∀ i, i < xSTR.length → (xSTR.map List.length).getD i 0 = (xSTR.getD i []).length := by decide
theorem xstr_small : ∀ i, i < xSTR.length → ((xSTR.getD i []).length < 100 ∧ ∀ j, j < (xSTR.getD i []).length → (((((xSTR.getD i []).getD j 0) &&& 255).toUInt32 % 65536).toInt32 = (xSTR.getD i []).getD j 0 ∧ narrow .char (.int ((xSTR.getD i []).getD j 0)) = .int ((xSTR.getD i []).getD j 0))) := by decide +kernel
theorem c_la (i : Nat) (hi : i < xSTR.length) (k : Int32) (hk : vp_in k (xSTR.getD i []).length) : xPure base old dA D E l zLa prog_16_method_2_code 2 (some .char) 2 43 [.ref (old (100 + i)), .int k] (some (.int ((xSTR.getD i []).getD k.toNatClampNeg 0))) := by
  refine Met.ofW (cc := prog_16_method_2_code) (maxL := 2) (ret := some .char) (by decide) rfl ?_
  intro p e s m args below meth c s₁ B hml hv
  obtain ⟨rfl, henv⟩ := hv
  have hx := B.exec
  have hb := B.bytes
  have hr := B.returns
  have hlocks := B.notSynchronized
  have hts : ∀ w ∈ gw, w.before _ s = true := fun w hw => atoms_spec B.pre w (List.mem_cons_of_mem _ hw)
  have hown : s.vm.findClass "java/lang/StringLatin1" = some m.cls := findClass_of_methodNamed B.named
  have hS : va_S (fun q => base ≤ q) s.heap s.heap [] := va_S.rf
  have hl := lv_entry ([.ref (old (100 + i)), .int k]) (n := 2) (Nat.le_of_ble_eq_true rfl)
  rw [lg_entry_eq]
  generalize (lg_sl ([.ref (old (100 + i)), .int k]) ++ List.replicate (2 - (lg_sl ([.ref (old (100 + i)), .int k])).length) Slot.unset).toArray = ls at hl ⊢
  have hl : lv_has ls 2 [(0, .ref (old (100 + i))), (1, .int k)] := hl
  obtain ⟨-, -, -, -, -, -, -, hVS, -⟩ := id henv
  obtain ⟨-, -, -, hT⟩ := hVS.1 i hi
  have hlen := xstr_len i hi
  rw [hlen] at hT
  have hsm := xstr_small i hi
  have hk0 : ¬ k < 0 := fun q => hk (Or.inl q)
  have hk1 : k.toNatClampNeg < (xSTR.getD i []).length := Nat.not_le.mp fun q => hk (Or.inr q)
  obtain ⟨j, hj, rfl⟩ := vp_in_of hk (by omega)
  have hjc : (nI j).toNatClampNeg = j := nI_clamp (by omega)
  refine lv_iload_n hx hb z_la_0 rfl (lv_at hl 1 rfl) ?_
  refine lv_aload_n hx hb z_la_1 rfl (lv_at hl 0 rfl) ?_
  refine va_tlen hx hb hT hS (v := nI (xSTR.getD i []).length) rfl z_la_2 ?_
  refine call_S (base := base) (old := old) (dA := dA) (D := D) (E := E) (own := "java/lang/StringLatin1") (As := [.int (nI j), .int (nI (xSTR.getD i []).length)]) (rest := []) (n := 2) hx hb (by rw [hml]; exact hl.1.symm) hown hts henv hS (c_sk base old dA D E l (nI j) (nI (xSTR.getD i []).length) hk0 (nI_lt hj (by omega))) zw_sk_c zw_sk_i zw_la_sk zw_sk_s (by decide +kernel) rfl ⟨Nat.le_of_ble_eq_true rfl, Nat.le_of_ble_eq_true rfl⟩ (Nat.le_of_ble_eq_true rfl) z_la_3 ⟨Nat.le_refl _, Nat.le_refl _⟩ ?_
  refine lv_aload_n hx hb z_la_6 rfl (lv_at hl 0 rfl) ?_
  refine lv_iload_n hx hb z_la_7 rfl (lv_at hl 1 rfl) ?_
  refine va_tb hx hb hT hS hk rfl z_la_8 ?_
  refine lv_sipush (v := 255) hx hb z_la_9 (by decide) ?_
  refine lv_iand hx hb z_la_12 ?_
  refine lv_i2c hx hb z_la_13 rfl ?_
  rw [hjc] at *
  rw [(hsm.2 j hj).1]
  exact W.zret (ty := .char) hx hb hr (hsm.2 j hj).2 (fun t ht hW => ⟨rfl, ht⟩) (fun _ h => by cases h) z_la_14
theorem c_co (i : Nat) (hi : i < xSTR.length) : xPure base old dA D E l zCo prog_15_method_152_code 1 (some .byte) 0 0 [.ref (old (1 + i))] (some (.int 0)) := by
  refine Met.ofW (cc := prog_15_method_152_code) (maxL := 1) (ret := some .byte) (by decide) rfl ?_
  intro p e s m args below meth c s₁ B hml hv
  obtain ⟨rfl, henv⟩ := hv
  have hx := B.exec
  have hb := B.bytes
  have hr := B.returns
  have hlocks := B.notSynchronized
  have hts : ∀ w ∈ gw, w.before _ s = true := fun w hw => atoms_spec B.pre w (List.mem_cons_of_mem _ hw)
  have hown : s.vm.findClass "java/lang/String" = some m.cls := findClass_of_methodNamed B.named
  have hS : va_S (fun q => base ≤ q) s.heap s.heap [] := va_S.rf
  have hl := lv_entry ([.ref (old (1 + i))]) (n := 1) (Nat.le_of_ble_eq_true rfl)
  rw [lg_entry_eq]
  generalize (lg_sl ([.ref (old (1 + i))]) ++ List.replicate (1 - (lg_sl ([.ref (old (1 + i))])).length) Slot.unset).toArray = ls at hl ⊢
  have hl : lv_has ls 1 [(0, .ref (old (1 + i)))] := hl
  obtain ⟨-, -, -, -, -, -, -, hVS, -, hZ, -⟩ := id henv
  obtain ⟨-, hco, -, -⟩ := hVS.1 i hi
  refine va_gets hx hb hZ hS hown (hts _ zw_co_f) (fun _ h => h) z_co_0 ?_
  refine lv_if_eq (tgt := 13) hx hb z_co_3 (by decide) (fun q => absurd q (by decide)) (fun _ => ?_)
  refine lv_aload_n hx hb z_co_6 rfl (lv_at hl 0 rfl) ?_
  refine vk_getf hx hb hco hS hown (hts _ zw_co_g) (fun _ h => h) z_co_7 ?_
  refine lv_goto (tgt := 14) hx hb z_co_10 (by decide) ?_
  exact W.zret (ty := .byte) hx hb hr rfl (fun t ht hW => ⟨rfl, ht⟩) (fun _ h => by cases h) z_co_14
theorem c_is (i : Nat) (hi : i < xSTR.length) : xPure base old dA D E l zIs prog_15_method_154_code 1 (some .boolean) 0 0 [.ref (old (1 + i))] (some (.int 1)) := by
  refine Met.ofW (cc := prog_15_method_154_code) (maxL := 1) (ret := some .boolean) (by decide) rfl ?_
  intro p e s m args below meth c s₁ B hml hv
  obtain ⟨rfl, henv⟩ := hv
  have hx := B.exec
  have hb := B.bytes
  have hr := B.returns
  have hlocks := B.notSynchronized
  have hts : ∀ w ∈ gw, w.before _ s = true := fun w hw => atoms_spec B.pre w (List.mem_cons_of_mem _ hw)
  have hown : s.vm.findClass "java/lang/String" = some m.cls := findClass_of_methodNamed B.named
  have hS : va_S (fun q => base ≤ q) s.heap s.heap [] := va_S.rf
  have hl := lv_entry ([.ref (old (1 + i))]) (n := 1) (Nat.le_of_ble_eq_true rfl)
  rw [lg_entry_eq]
  generalize (lg_sl ([.ref (old (1 + i))]) ++ List.replicate (1 - (lg_sl ([.ref (old (1 + i))])).length) Slot.unset).toArray = ls at hl ⊢
  have hl : lv_has ls 1 [(0, .ref (old (1 + i)))] := hl
  obtain ⟨-, -, -, -, -, -, -, hVS, -, hZ, -⟩ := id henv
  obtain ⟨-, hco, -, -⟩ := hVS.1 i hi
  refine va_gets hx hb hZ hS hown (hts _ zw_co_f) (fun _ h => h) z_is_0 ?_
  refine lv_if_eq (tgt := 17) hx hb z_is_3 (by decide) (fun q => absurd q (by decide)) (fun _ => ?_)
  refine lv_aload_n hx hb z_is_6 rfl (lv_at hl 0 rfl) ?_
  refine vk_getf hx hb hco hS hown (hts _ zw_co_g) (fun _ h => h) z_is_7 ?_
  refine lv_if_ne (tgt := 17) hx hb z_is_10 (by decide) (fun q => absurd rfl q) (fun _ => ?_)
  refine lv_iconst (v := 1) hx hb z_is_13 (by decide) ?_
  refine lv_goto (tgt := 18) hx hb z_is_14 (by decide) ?_
  exact W.zret (ty := .boolean) hx hb hr rfl (fun t ht hW => ⟨rfl, ht⟩) (fun _ h => by cases h) z_is_18
theorem c_len (i : Nat) (hi : i < xSTR.length) : xPure base old dA D E l xsLen prog_15_method_54_code 1 (some .int) 1 20 [.ref (old (1 + i))] (some (.int (Int32.ofNat (xSTR.getD i []).length))) := by
  refine Met.ofW (cc := prog_15_method_54_code) (maxL := 1) (ret := some .int) (by decide) rfl ?_
  intro p e s m args below meth c s₁ B hml hv
  obtain ⟨rfl, henv⟩ := hv
  have hx := B.exec
  have hb := B.bytes
  have hr := B.returns
  have hlocks := B.notSynchronized
  have hts : ∀ w ∈ gw, w.before _ s = true := fun w hw => atoms_spec B.pre w (List.mem_cons_of_mem _ hw)
  have hown : s.vm.findClass "java/lang/String" = some m.cls := findClass_of_methodNamed B.named
  have hS : va_S (fun q => base ≤ q) s.heap s.heap [] := va_S.rf
  have hl := lv_entry ([.ref (old (1 + i))]) (n := 1) (Nat.le_of_ble_eq_true rfl)
  rw [lg_entry_eq]
  generalize (lg_sl ([.ref (old (1 + i))]) ++ List.replicate (1 - (lg_sl ([.ref (old (1 + i))])).length) Slot.unset).toArray = ls at hl ⊢
  have hl : lv_has ls 1 [(0, .ref (old (1 + i)))] := hl
  obtain ⟨-, -, -, -, -, -, -, hVS, -⟩ := id henv
  obtain ⟨hO, hco, hva, hT⟩ := hVS.1 i hi
  have hlen := xstr_len i hi
  rw [hlen] at hT
  refine lv_aload_n hx hb z_len_0 rfl (lv_at hl 0 rfl) ?_
  refine vk_getf hx hb hva hS hown (hts _ zw_len_g) (fun _ h => h) z_len_1 ?_
  refine va_tlen hx hb hT hS (v := Int32.ofNat (xSTR.getD i []).length) rfl z_len_4 ?_
  refine lv_aload_n hx hb z_len_5 rfl (lv_at hl 0 rfl) ?_
  refine call_V (base := base) (old := old) (dA := dA) (D := D) (E := E) (own := "java/lang/String") (As := []) (rest := [.int (Int32.ofNat (xSTR.getD i []).length)]) (n := 0) hx hb (by rw [hml]; exact hl.1.symm) hown hts henv hS (c_co base old dA D E l i hi) zw_co_c zw_co_i zw_len_co zw_co_n zw_co_s (by decide +kernel) rfl (vk_recv (adK := fun i => old (1 + i)) hVS hi hS) ⟨Nat.le_of_ble_eq_true rfl, Nat.le_of_ble_eq_true rfl⟩ (Nat.le_of_ble_eq_true rfl) z_len_6 ⟨Nat.le_refl _, Nat.le_refl _⟩ ?_
  refine lv_ishr hx hb z_len_9 ?_
  rw [sb_shr0]
  exact W.iret hx hb hr (fun t ht hW => ⟨rfl, ht⟩) (fun _ h => by cases h) z_len_10
theorem c_at (i : Nat) (hi : i < xSTR.length) (k : Int32) (hk : vp_in k (xSTR.getD i []).length) : xPure base old dA D E l xsAt prog_15_method_56_code 2 (some .char) 3 64 [.ref (old (1 + i)), .int k] (some (.int ((xSTR.getD i []).getD k.toNatClampNeg 0))) := by
  refine Met.ofW (cc := prog_15_method_56_code) (maxL := 2) (ret := some .char) (by decide) rfl ?_
  intro p e s m args below meth c s₁ B hml hv
  obtain ⟨rfl, henv⟩ := hv
  have hx := B.exec
  have hb := B.bytes
  have hr := B.returns
  have hlocks := B.notSynchronized
  have hts : ∀ w ∈ gw, w.before _ s = true := fun w hw => atoms_spec B.pre w (List.mem_cons_of_mem _ hw)
  have hown : s.vm.findClass "java/lang/String" = some m.cls := findClass_of_methodNamed B.named
  have hS : va_S (fun q => base ≤ q) s.heap s.heap [] := va_S.rf
  have hl := lv_entry ([.ref (old (1 + i)), .int k]) (n := 2) (Nat.le_of_ble_eq_true rfl)
  rw [lg_entry_eq]
  generalize (lg_sl ([.ref (old (1 + i)), .int k]) ++ List.replicate (2 - (lg_sl ([.ref (old (1 + i)), .int k])).length) Slot.unset).toArray = ls at hl ⊢
  have hl : lv_has ls 2 [(0, .ref (old (1 + i))), (1, .int k)] := hl
  obtain ⟨-, -, -, -, -, -, -, hVS, -⟩ := id henv
  obtain ⟨hO, hco, hva, hT⟩ := hVS.1 i hi
  have hn : ∀ j, j < (xSTR.getD i []).length → narrow .char (.int ((xSTR.getD i []).getD j 0)) = .int ((xSTR.getD i []).getD j 0) := fun j hj => ((xstr_small i hi).2 j hj).2
  have hk1 : k.toNatClampNeg < (xSTR.getD i []).length := Nat.not_le.mp fun q => hk (Or.inr q)
  refine lv_aload_n hx hb z_at_0 rfl (lv_at hl 0 rfl) ?_
  refine call_V (base := base) (old := old) (dA := dA) (D := D) (E := E) (own := "java/lang/String") (As := []) (rest := []) (n := 0) hx hb (by rw [hml]; exact hl.1.symm) hown hts henv hS (c_is base old dA D E l i hi) zw_is_c zw_co_i zw_at_is zw_is_n zw_is_s (by decide +kernel) rfl (vk_recv (adK := fun i => old (1 + i)) hVS hi hS) ⟨Nat.le_of_ble_eq_true rfl, Nat.le_of_ble_eq_true rfl⟩ (Nat.le_of_ble_eq_true rfl) z_at_1 ⟨Nat.le_refl _, Nat.le_refl _⟩ ?_
  refine lv_if_eq (tgt := 16) hx hb z_at_4 (by decide) (fun q => absurd q (by decide)) (fun _ => ?_)
  refine lv_aload_n hx hb z_at_7 rfl (lv_at hl 0 rfl) ?_
  refine vk_getf hx hb hva hS hown (hts _ zw_len_g) (fun _ h => h) z_at_8 ?_
  refine lv_iload_n hx hb z_at_11 rfl (lv_at hl 1 rfl) ?_
  refine call_S (base := base) (old := old) (dA := dA) (D := D) (E := E) (own := "java/lang/String") (As := [.ref (old (100 + i)), .int k]) (rest := []) (n := 2) hx hb (by rw [hml]; exact hl.1.symm) hown hts henv hS (c_la base old dA D E l i hi k hk) zw_la_c zw_la_i zw_at_la zw_la_s (by decide +kernel) rfl ⟨Nat.le_of_ble_eq_true rfl, Nat.le_of_ble_eq_true rfl⟩ (Nat.le_of_ble_eq_true rfl) z_at_12 ⟨Nat.le_refl _, Nat.le_refl _⟩ ?_
  exact W.zret (ty := .char) hx hb hr (hn _ hk1) (fun t ht hW => ⟨rfl, ht⟩) (fun _ h => by cases h) z_at_15
end XSTR2
end
section
/-! ===== one instruction, whichever; calls; returns ===== -/
section XS4
variable {base : Nat} {old : Nat → Nat} {dA : Nat → ClassId} {D : va_G} {E : Nat × (Nat → Int32)}
variable {p : Program} {l : Launch} {e : Env} {R : Room} {s : State} {m : MethodId} {args : Array Value} {below : List Frame} {meth : Method} {c : Code} {Q : State → Prop}
variable {M : xM} {b : ByteArray} {a0 s0 : Nat}
theorem i_inv {T : xT} {own ik idx lk pc : Nat} {ls st : List Value} {A : xH} {n : xN} (h : xinv T own xgo0 xcl0 ik idx lk pc ls st A = some n) : ∃ kd mid na rk, T.2.1[lk]? = some (own, idx, kd, mid, na, rk) ∧ xkd ik kd = true ∧ (
    (kd = 6 ∧ ∃ a s1, st = .ref a :: s1 ∧ xcat s1 ≤ 8 ∧ n = .inl (pc + 3, ls, s1, A)) ∨
    (kd = 7 ∧ ∃ x y s1, st = .int y :: .int x :: s1 ∧ xcat s1 ≤ 8 ∧ n = .inl (pc + 3, ls, .int (xmax x y) :: s1, A)) ∨
    (kd = 8 ∧ ∃ x y s1, st = .int y :: .int x :: s1 ∧ xcat s1 ≤ 8 ∧ n = .inl (pc + 3, ls, .int (xmin x y) :: s1, A)) ∨
    (kd = 9 ∧ ∃ k dp bb sp a s1 B, st = .int k :: .int dp :: .ref bb :: .int sp :: .ref a :: s1 ∧ xcat s1 ≤ 8 ∧ xcopy A a sp bb dp k = some B ∧ n = .inl (pc + 3, ls, s1, B)) ∨
    (kd = 10 ∧ ∃ k s1 x, st = .float k :: s1 ∧ xcat s1 ≤ 8 ∧ xslen T.2.2.2.2.2.2 k = some x ∧ n = .inl (pc + 3, ls, .int x :: s1, A)) ∨
    (kd = 11 ∧ ∃ i k s1 x, st = .int i :: .float k :: s1 ∧ xcat s1 ≤ 8 ∧ xsat T.2.2.2.2.2.2 k i = some x ∧ n = .inl (pc + 3, ls, .int x :: s1, A)) ∨
    (kd = 12 ∧ ∃ a s1 B, st = .ref a :: s1 ∧ xcat s1 ≤ 8 ∧ xclone A a = some B ∧ n = .inl (pc + 3, ls, .ref A.length :: s1, B)) ∨
    (kd < 6 ∧ ∃ as s1, xpop na [] st = some (as, s1) ∧ xcat s1 ≤ 8 ∧ n = .inr (.inl ((mid, as, rk), (pc + 3, ls, s1, A))))) := by
  unfold xinv at h
  split at h
  · cases h
  · rename_i o i kd mid na rk hT
    split at h
    · rename_i ho
      obtain ⟨rfl, rfl, hk⟩ := ho
      refine ⟨kd, mid, na, rk, hT, hk, ?_⟩
      split at h
      · split at h
        · split at h
          · rename_i hc
            exact Or.inl ⟨rfl, _, _, rfl, hc, (Option.some.inj h).symm⟩
          · cases h
        · cases h
      · split at h
        · split at h
          · rename_i hc
            exact Or.inr (Or.inl ⟨rfl, _, _, _, rfl, hc, (Option.some.inj h).symm⟩)
          · cases h
        · cases h
      · split at h
        · split at h
          · rename_i hc
            exact Or.inr (Or.inr (Or.inl ⟨rfl, _, _, _, rfl, hc, (Option.some.inj h).symm⟩))
          · cases h
        · cases h
      · split at h
        · split at h
          · rename_i hc
            obtain ⟨B, h1, h2⟩ := i_bind h
            exact Or.inr (Or.inr (Or.inr (Or.inl ⟨rfl, _, _, _, _, _, _, B, rfl, hc, h1, (Option.some.inj h2).symm⟩)))
          · cases h
        · cases h
      · split at h
        · split at h
          · rename_i hc
            obtain ⟨B, h1, h2⟩ := i_bind h
            exact Or.inr (Or.inr (Or.inr (Or.inr (Or.inl ⟨rfl, _, _, B, rfl, hc, h1, (Option.some.inj h2).symm⟩))))
          · cases h
        · cases h
      · split at h
        · split at h
          · rename_i hc
            obtain ⟨B, h1, h2⟩ := i_bind h
            exact Or.inr (Or.inr (Or.inr (Or.inr (Or.inr (Or.inl ⟨rfl, _, _, _, B, rfl, hc, h1, (Option.some.inj h2).symm⟩)))))
          · cases h
        · cases h
      · split at h
        · split at h
          · rename_i hc
            obtain ⟨B, h1, h2⟩ := i_bind h
            exact Or.inr (Or.inr (Or.inr (Or.inr (Or.inr (Or.inr (Or.inl ⟨rfl, _, _, B, rfl, hc, h1, (Option.some.inj h2).symm⟩))))))
          · cases h
        · cases h
      · rename_i n6 n7 n8 n9 n10 n11 n12
        have hlt : kd < 6 := by
          have m6 : kd ≠ 6 := n6
          have m7 : kd ≠ 7 := n7
          have m8 : kd ≠ 8 := n8
          have m9 : kd ≠ 9 := n9
          have m10 : kd ≠ 10 := n10
          have m11 : kd ≠ 11 := n11
          have m12 : kd ≠ 12 := n12
          unfold xkd at hk
          split at hk
          · simp only [Bool.or_eq_true, beq_iff_eq] at hk; omega
          · simp only [Bool.or_eq_true, beq_iff_eq] at hk; omega
          · simp only [Bool.or_eq_true, beq_iff_eq] at hk; omega
        split at h
        · cases h
        · rename_i as s1 hp
          split at h
          · rename_i hc
            exact Or.inr (Or.inr (Or.inr (Or.inr (Or.inr (Or.inr (Or.inr ⟨hlt, as, s1, hp, hc, (Option.some.inj h).symm⟩))))))
          · cases h
    · cases h
theorem str_ok {k : UInt32} {x : List Int32} (h : xstr xSTR k = some x) : ∃ i, i < xSTR.length ∧ k.toNat = 1 + i ∧ x = xSTR.getD i [] := by
  unfold xstr at h
  split at h
  · cases h
  · rename_i hk
    refine ⟨k.toNat - 1, (List.getElem?_eq_some_iff.mp h).1, ?_, ?_⟩
    · have : k.toNat ≠ 0 := fun q => hk (by rw [← UInt32.toNat_inj]; exact q)
      omega
    · rw [List.getD_eq_getElem?_getD, h]
      rfl
theorem go_inv {ik idx lk pc : Nat} {als st : List Value} {A : xH} {pc' : Nat} {als' st' : List Value} {A' : xH} (C : xCx base old dA D E p s m args meth c M b a0) (hal : als.length = M.2.2.2.1) (ha : a0 ≤ A.length) (hs : s0 ≤ xsl A) (h1 : A'.length - a0 ≤ R.cells) (h2 : xsl A' - s0 ≤ R.slots) (hfr : 4 ≤ R.frames) (hlo : 100 ≤ R.locals) (hik : ik < 3)
    (hdg : (ik = 0 → decode b pc = .ok (.invokevirtual idx, 3)) ∧ (ik = 1 → decode b pc = .ok (.invokespecial idx, 3)) ∧ (ik = 2 → decode b pc = .ok (.invokestatic idx, 3))) (h : xinv xtabs M.1 xgo0 xcl0 ik idx lk pc als st A = some (.inl (pc', als', st', A'))) (kk : xK base old dA D p l e R s m args below meth c Q a0 s0 pc' als' st' A') : xK base old dA D p l e R s m args below meth c Q a0 s0 pc als st A := by
  obtain ⟨hx, hb, hml, hown, hts, henv, hini, hz⟩ := C
  obtain ⟨kd, mid, na, rk, hT, hkd, hc⟩ := i_inv h
  have hlink := ml_all _ (List.mem_of_getElem? (show xML[lk]? = some _ from hT))
  intro H locs ls hX hl
  have hmlL : c.maxLocals = ls.size := by rw [hml, ← hal]; exact hl.1.symm
  rcases hc with ⟨rfl, a, s1, rfl, hcat, e1⟩ | ⟨rfl, x, y, s1, rfl, hcat, e1⟩ | ⟨rfl, x, y, s1, rfl, hcat, e1⟩ | ⟨rfl, k, dp, bb, sp, a, s1, B, rfl, hcat, hcp, e1⟩ | ⟨rfl, k, s1, x, rfl, hcat, hsl, e1⟩ | ⟨rfl, i, k, s1, x, rfl, hcat, hsl, e1⟩ | ⟨rfl, a, s1, B, rfl, hcat, hcl, e1⟩ | ⟨-, as, s1, -, -, e1⟩
  · cases e1
    have hik1 : ik = 1 := by
      match ik, hik, hkd with
      | 0, _, q => exact absurd q (by decide)
      | 1, _, _ => rfl
      | 2, _, q => exact absurd q (by decide)
    refine W.objInit hx hb hown (hts _ hlink) (hts _ wo_inst) (hts _ wo_code) (g := F0 m pc ls (.ref (base + a) :: st'.map (xv base old))) rfl hmlL.symm rfl (hdg.2.1 hik1) (by omega) ?_ (kk H locs ls hX hl)
    show 2 * 0 + ((st'.map (xv base old)).map fun v => v.category).sum + 12 ≤ R.locals
    rw [cat_sum]
    omega
  · cases e1
    have hik2 : ik = 2 := by
      match ik, hik, hkd with
      | 0, _, q => exact absurd q (by decide)
      | 1, _, q => exact absurd q (by decide)
      | 2, _, _ => rfl
    exact va_mmax (x := x) (y := y) hx hb hmlL hown (hts _ hlink) (hts _ wm_max_s) (hts _ wm_i) (hts _ wm_max_c) (by omega) (by rw [cat_sum]; omega) h1 h2 (hdg.2.2 hik2) (kk H locs ls hX hl)
  · cases e1
    have hik2 : ik = 2 := by
      match ik, hik, hkd with
      | 0, _, q => exact absurd q (by decide)
      | 1, _, q => exact absurd q (by decide)
      | 2, _, _ => rfl
    exact va_mmin (x := x) (y := y) hx hb hmlL hown (hts _ hlink) (hts _ wm_min_s) (hts _ wm_i) (hts _ wm_min_c) (by omega) (by rw [cat_sum]; omega) h1 h2 (hdg.2.2 hik2) (kk H locs ls hX hl)
  · cases e1
    have hik2 : ik = 2 := by
      match ik, hik, hkd with
      | 0, _, q => exact absurd q (by decide)
      | 1, _, q => exact absurd q (by decide)
      | 2, _, _ => rfl
    obtain ⟨n0, f, n1, g, hA, hB, e3, e4, e5, e6, e7, rfl⟩ := j_copy hcp
    have hnf : nativeFrameWords "java/lang/System" "arraycopy" 5 + 11 ≤ 80 := by decide
    exact va_copyi (ty := .int) hx hb hmlL hown (hts _ hlink) (hts _ wa_n) (hts _ wa_s) (hts _ wa_i) henv.1 hX.1 xw_D hX.2.2 a bb 0 0 (xw_get hA) (xw_get hB) rfl rfl rfl e3 e4 e5 e6 e7 (fun _ _ => rfl) (by omega) (by rw [cat_sum]; omega) (hdg.2.2 hik2) (st_done hX hl hB kk rfl (arr_lt (by decide)))
  · cases e1
    have hik0 : ik = 0 := by
      match ik, hik, hkd with
      | 0, _, _ => rfl
      | 1, _, q => exact absurd q (by decide)
      | 2, _, q => exact absurd q (by decide)
    unfold xslen at hsl
    obtain ⟨xl, hs1, hs2⟩ := Option.map_eq_some_iff.mp hsl
    obtain ⟨i, hi, hki, rfl⟩ := str_ok hs1
    subst hs2
    have hVS := henv.2.2.2.2.2.2.2.1
    have e2 : xv base old (.float k) = .ref (old (1 + i)) := by
      show Value.ref (old k.toNat) = _
      rw [hki]
    show W p l e R s m args below meth c H locs _ _ Q (F0 m pc ls (xv base old (.float k) :: s1.map (xv base old)))
    rw [e2]
    exact call_V (base := base) (old := old) (dA := dA) (D := D) (E := E) (As := []) (n := 0) hx hb hmlL hown hts henv hX.2.2 (c_len base old dA D E l i hi) zw_len_c zw_len_i hlink zw_len_n zw_len_s (by decide +kernel) rfl (vk_recv (adK := fun i => old (1 + i)) hVS hi hX.2.2) ⟨by omega, by omega⟩ (by rw [cat_sum]; exact hcat) (hdg.1 hik0) ⟨h1, h2⟩ (kk H locs ls hX hl)
  · cases e1
    have hik0 : ik = 0 := by
      match ik, hik, hkd with
      | 0, _, _ => rfl
      | 1, _, q => exact absurd q (by decide)
      | 2, _, q => exact absurd q (by decide)
    unfold xsat at hsl
    obtain ⟨xl, hs1, hs2⟩ := Option.bind_eq_some_iff.mp hsl
    obtain ⟨j, hj, hki, rfl⟩ := str_ok hs1
    split at hs2
    · cases hs2
    · rename_i hin
      cases hs2
      have hVS := henv.2.2.2.2.2.2.2.1
      have e2 : xv base old (.float k) = .ref (old (1 + j)) := by
        show Value.ref (old k.toNat) = _
        rw [hki]
      show W p l e R s m args below meth c H locs _ _ Q (F0 m pc ls (.int i :: xv base old (.float k) :: s1.map (xv base old)))
      rw [e2]
      exact call_V (base := base) (old := old) (dA := dA) (D := D) (E := E) (As := [.int i]) (n := 1) hx hb hmlL hown hts henv hX.2.2 (c_at base old dA D E l j hj i hin) zw_at_c zw_at_i hlink zw_at_n zw_at_s (by decide +kernel) rfl (vk_recv (adK := fun i => old (1 + i)) hVS hj hX.2.2) ⟨by omega, by omega⟩ (by rw [cat_sum]; exact hcat) (hdg.1 hik0) ⟨h1, h2⟩ (kk H locs ls hX hl)
  · cases e1
    have hik0 : ik = 0 := by
      match ik, hik, hkd with
      | 0, _, _ => rfl
      | 1, _, q => exact absurd q (by decide)
      | 2, _, q => exact absurd q (by decide)
    obtain ⟨n, f, hA, rfl⟩ := j_clone hcl
    obtain ⟨r1, r2⟩ := new_room ha hs h1 h2
    have hAq : ∀ q, s.heap.size ≤ q → (fun q => base ≤ q) q := fun q hq => by show base ≤ q; omega
    have hnm : s.vm.findClass "[I" = some (dA 0) := (henv.1.2 0 _ rfl).2
    refine va_clone (ad := "[I") (x := (n, .inl f)) (ty := .int) hx hb hmlL hown (hts _ hlink) (hts _ wc_same) (hts _ wc_nat) (hts _ wc_inst) (hts _ wc_sel) henv.2.2.2.1 henv.1 hX.1 xw_D hX.2.2 hAq a 0 (xw_get hA) rfl hnm (fun i v hv => ?_) (by omega) (by rw [cat_sum]; omega) r1 r2 (hdg.1 hik0) (fun q H1 _ hP hD hS => new_done hz ha hs hX hl kk rfl (arr_lt (by decide)) q H1 hP hD hS)
    have hlt : i < n := by
      have := (Array.getElem?_eq_some_iff.mp hv).1
      rw [vp_cell_i, arrV_size] at this
      exact this
    rw [vp_cell_i, arrV_read _ _ hlt] at hv
    cases hv
    rfl
  · cases e1
theorem ret_no {pc lk : Nat} {ins : Instr} {dead : List Nat} {als st : List Value} {A : xH} {q : Nat × List Value × List Value × xH} (hi : ins = .ireturn ∨ ins = .lreturn ∨ ins = .areturn ∨ ins = .return_) (h : xeff xtabs E M.1 M.2.1 M.2.2.1 (pc, ins, lk, dead) als st A = some (.inl q)) : False := by
  unfold xeff at h
  rcases hi with rfl | rfl | rfl | rfl <;> unfold xG at h <;> dsimp only at h <;> split at h <;> first
    | cases h
    | (split at h <;> first | cases h | (split at h <;> cases h))
theorem i_icmp_n {cd : ClassFile.Cond} {x y : Int32} {a b : Option xN} {n : xN} (h : xicmp cd x y a b = some n) : a = some n ∨ b = some n := by
  unfold xicmp at h
  split at h <;> split at h <;> first | exact Or.inl h | exact Or.inr h
set_option maxHeartbeats 4000000 in
/-- every instruction that goes on within the frame -/
theorem xgo {pc lk : Nat} {ins : Instr} {dead : List Nat} {als st : List Value} {A : xH} {pc' : Nat} {als' st' : List Value} {A' : xH} (C : xCx base old dA D E p s m args meth c M b a0) (hal : als.length = M.2.2.2.1) (ha : a0 ≤ A.length) (hs : s0 ≤ xsl A) (h1 : A'.length - a0 ≤ R.cells) (h2 : xsl A' - s0 ≤ R.slots) (hfr : 4 ≤ R.frames) (hlo : 100 ≤ R.locals) (hr : xrok b (pc, ins, lk, dead) = true) (h : xeff xtabs E M.1 M.2.1 M.2.2.1 (pc, ins, lk, dead) als st A = some (.inl (pc', als', st', A'))) (kk : xK base old dA D p l e R s m args below meth c Q a0 s0 pc' als' st' A') : xK base old dA D p l e R s m args below meth c Q a0 s0 pc als st A := by
  obtain ⟨n, hdec, hlen, hoff, hlk⟩ := row_dec hr
  obtain ⟨hx, hb, hml, hown, hts, henv, hini, hz⟩ := id C
  have st1 : ∀ {i w : Nat} {v : Value} {s1 : List Value}, i < als.length → (∀ j, i = j + 1 → (xg als j).category ≠ 2) → xK base old dA D p l e R s m args below meth c Q a0 s0 (pc + w) (xs als i v) s1 A → ∀ (H : Heap) (locs : List Loc), xAt base old dA D s A H locs → ∀ ls' : Array Slot, lv_has ls' als.length ((i, xv base old v) :: (xlv base old als).filter (fun q => !(q.1 == i) && !(q.1 + 1 == i && q.2.category == 2))) → W p l e R s m args below meth c H locs (A.length - a0) (xsl A - s0) Q (F0 m (pc + w) ls' (s1.map (xv base old))) := fun hi hp k H locs hX ls' h' => k H locs ls' hX (xLoc.st1 hi hp h')
  have st2 : ∀ {i w : Nat} {v : Value} {s1 : List Value}, i + 1 < als.length → (∀ j, i = j + 1 → (xg als j).category ≠ 2) → xK base old dA D p l e R s m args below meth c Q a0 s0 (pc + w) (xs (xs als i v) (i + 1) xJ) s1 A → ∀ (H : Heap) (locs : List Loc), xAt base old dA D s A H locs → ∀ ls' : Array Slot, lv_has ls' als.length ((i, xv base old v) :: (xlv base old als).filter (fun q => !(q.1 == i) && (!(q.1 == i + 1) && !(q.1 + 1 == i && q.2.category == 2)))) → W p l e R s m args below meth c H locs (A.length - a0) (xsl A - s0) Q (F0 m (pc + w) ls' (s1.map (xv base old))) := fun hi hp k H locs hX ls' h' => k H locs ls' hX (xLoc.st2 hi hp h')
  cases ins with
  | aload_n i =>
    unfold xeff at h; unfold xG at h; dsimp only at h
    obtain ⟨hv, e1⟩ := i_ldA h
    cases e1
    have hd := hlen rfl (by simp [xlen]); subst hd
    exact go_aload C (Or.inl ⟨i, rfl, rfl, hdec⟩) hv kk
  | aload i =>
    unfold xeff at h; unfold xG at h; dsimp only at h
    obtain ⟨hv, e1⟩ := i_ldA h
    cases e1
    have hd := hlen rfl (by simp [xlen]); subst hd
    exact go_aload C (Or.inr ⟨rfl, hdec⟩) hv kk
  | iload_n i =>
    unfold xeff at h; unfold xG at h; dsimp only at h
    obtain ⟨x, hv, e1⟩ := i_ldI h
    cases e1
    have hd := hlen rfl (by simp [xlen]); subst hd
    exact fun H locs ls hX hl => lv_iload_n hx hb hdec rfl (hl.at hv (fun k h => by cases h)) (kk H locs ls hX hl)
  | iload i =>
    unfold xeff at h; unfold xG at h; dsimp only at h
    obtain ⟨x, hv, e1⟩ := i_ldI h
    cases e1
    have hd := hlen rfl (by simp [xlen]); subst hd
    exact fun H locs ls hX hl => lv_iload hx hb hdec (hl.at hv (fun k h => by cases h)) (kk H locs ls hX hl)
  | lload_n i =>
    unfold xeff at h; unfold xG at h; dsimp only at h
    obtain ⟨x, hv, e1⟩ := i_ldL h
    cases e1
    have hd := hlen rfl (by simp [xlen]); subst hd
    exact fun H locs ls hX hl => lv_lload_n hx hb hdec rfl (hl.at hv (fun k h => by cases h)) (kk H locs ls hX hl)
  | lload i =>
    unfold xeff at h; unfold xG at h; dsimp only at h
    obtain ⟨x, hv, e1⟩ := i_ldL h
    cases e1
    have hd := hlen rfl (by simp [xlen]); subst hd
    exact fun H locs ls hX hl => lv_lload hx hb hdec (hl.at hv (fun k h => by cases h)) (kk H locs ls hX hl)
  | iconst i =>
    unfold xeff at h; unfold xG at h; dsimp only at h
    cases h
    have hd := hlen rfl (by simp [xlen]); subst hd
    exact fun H locs ls hX hl => lv_iconst hx hb hdec rfl (kk H locs ls hX hl)
  | bipush i =>
    unfold xeff at h; unfold xG at h; dsimp only at h
    cases h
    have hd := hlen rfl (by simp [xlen]); subst hd
    exact fun H locs ls hX hl => lv_bipush hx hb hdec rfl (kk H locs ls hX hl)
  | sipush i =>
    unfold xeff at h; unfold xG at h; dsimp only at h
    cases h
    have hd := hlen rfl (by simp [xlen]); subst hd
    exact fun H locs ls hX hl => lv_sipush hx hb hdec rfl (kk H locs ls hX hl)
  | lconst i =>
    unfold xeff at h; unfold xG at h; dsimp only at h
    cases h
    have hd := hlen rfl (by simp [xlen]); subst hd
    exact fun H locs ls hX hl => lv_lconst hx hb hdec rfl (kk H locs ls hX hl)
  | aconst_null =>
    unfold xeff at h; unfold xG at h; dsimp only at h
    cases h
    have hd := hlen rfl (by simp [xlen]); subst hd
    exact fun H locs ls hX hl => lv_null hx hb hdec (kk H locs ls hX hl)
  | getfield i =>
    unfold xeff at h; unfold xG at h; dsimp only at h
    have hd := hlen rfl (by simp [xlen]); subst hd
    exact go_get C hdec h kk
  | putfield i =>
    unfold xeff at h; unfold xG at h; dsimp only at h
    have hd := hlen rfl (by simp [xlen]); subst hd
    exact go_put C hdec h kk
  | invokevirtual i =>
    unfold xeff at h; unfold xG at h; dsimp only at h
    have hd := hlen rfl (by simp [xlen]); subst hd
    exact go_inv (ik := 0) C hal ha hs h1 h2 hfr hlo (by decide) ⟨fun _ => hdec, fun q => absurd q (by decide), fun q => absurd q (by decide)⟩ h kk
  | invokespecial i =>
    unfold xeff at h; unfold xG at h; dsimp only at h
    have hd := hlen rfl (by simp [xlen]); subst hd
    exact go_inv (ik := 1) C hal ha hs h1 h2 hfr hlo (by decide) ⟨fun q => absurd q (by decide), fun _ => hdec, fun q => absurd q (by decide)⟩ h kk
  | invokestatic i =>
    unfold xeff at h; unfold xG at h; dsimp only at h
    have hd := hlen rfl (by simp [xlen]); subst hd
    exact go_inv (ik := 2) C hal ha hs h1 h2 hfr hlo (by decide) ⟨fun q => absurd q (by decide), fun q => absurd q (by decide), fun _ => hdec⟩ h kk
  | ireturn => exact (ret_no (Or.inl rfl) h).elim
  | lreturn => exact (ret_no (Or.inr (Or.inl rfl)) h).elim
  | areturn => exact (ret_no (Or.inr (Or.inr (Or.inl rfl))) h).elim
  | return_ => exact (ret_no (Or.inr (Or.inr (Or.inr rfl))) h).elim
  | if_icmp cd off =>
    have hd := hlen rfl (by simp [xlen]); subst hd
    unfold xeff at h; unfold xG at h; dsimp only at h
    split at h
    · exact go_icmp C hdec (tgt_ok hoff) h kk
    · cases h
  | ifCond cd off =>
    have hd := hlen rfl (by simp [xlen]); subst hd
    unfold xeff at h; unfold xG at h; dsimp only at h
    split at h
    · exact go_if C hdec (tgt_ok hoff) h kk
    · cases h
  | ifnonnull off =>
    have hd := hlen rfl (by simp [xlen]); subst hd
    unfold xeff at h; unfold xG at h; dsimp only at h
    split at h
    · cases h
      exact fun H locs ls hX hl => lv_ifnonnull hx hb hdec (tgt_ok hoff) (kk H locs ls hX hl)
    · cases h
      exact fun H locs ls hX hl => lv_ifnonnullN hx hb hdec (kk H locs ls hX hl)
    · cases h
  | goto off =>
    unfold xeff at h; unfold xG at h; dsimp only at h
    have hd := hlen rfl (by simp [xlen]); subst hd
    cases h
    exact fun H locs ls hX hl => lv_goto hx hb hdec (tgt_ok hoff) (kk H locs ls hX hl)
  | tableswitch d lo hi offs =>
    unfold xeff at h; unfold xG at h; dsimp only at h
    split at h
    · exact go_sw C hdec hoff h kk
    · cases h
  | istore_n i =>
    have hd := hlen rfl (by simp [xlen]); subst hd
    unfold xeff at h; unfold xG at h; dsimp only at h
    split at h
    · obtain ⟨hi, hp, e1⟩ := i_st1 h
      cases e1
      exact fun H locs ls hX hl => lv_istore_n hx hb hdec rfl hl.has hi rfl (st1 hi hp kk H locs hX)
    · cases h
  | istore i =>
    have hd := hlen rfl (by simp [xlen]); subst hd
    unfold xeff at h; unfold xG at h; dsimp only at h
    split at h
    · obtain ⟨hi, hp, e1⟩ := i_st1 h
      cases e1
      exact fun H locs ls hX hl => lv_istore hx hb hdec hl.has hi rfl (st1 hi hp kk H locs hX)
    · cases h
  | lstore_n i =>
    have hd := hlen rfl (by simp [xlen]); subst hd
    unfold xeff at h; unfold xG at h; dsimp only at h
    split at h
    · obtain ⟨hi, hp, e1⟩ := i_st2 h
      cases e1
      exact fun H locs ls hX hl => lv_lstore_n hx hb hdec rfl hl.has hi rfl (st2 hi hp kk H locs hX)
    · cases h
  | lstore i =>
    have hd := hlen rfl (by simp [xlen]); subst hd
    unfold xeff at h; unfold xG at h; dsimp only at h
    split at h
    · obtain ⟨hi, hp, e1⟩ := i_st2 h
      cases e1
      exact fun H locs ls hX hl => lv_lstore hx hb hdec hl.has hi rfl (st2 hi hp kk H locs hX)
    · cases h
  | astore_n i =>
    have hd := hlen rfl (by simp [xlen]); subst hd
    unfold xeff at h; unfold xG at h; dsimp only at h
    split at h
    · obtain ⟨hv, h⟩ := i_ldA h
      obtain ⟨hi, hp, e1⟩ := i_st1 h
      cases e1
      exact go_astore C (Or.inl ⟨i, rfl, rfl, hdec⟩) hv hi hp kk
    · cases h
  | astore i =>
    have hd := hlen rfl (by simp [xlen]); subst hd
    unfold xeff at h; unfold xG at h; dsimp only at h
    split at h
    · obtain ⟨hv, h⟩ := i_ldA h
      obtain ⟨hi, hp, e1⟩ := i_st1 h
      cases e1
      exact go_astore C (Or.inr ⟨rfl, hdec⟩) hv hi hp kk
    · cases h
  | iinc i k =>
    have hd := hlen rfl (by simp [xlen]); subst hd
    unfold xeff at h; unfold xG at h; dsimp only at h
    split at h
    · rename_i x hv
      obtain ⟨hi, hp, e1⟩ := i_st1 h
      cases e1
      intro H locs ls hX hl
      have hm : (i, Value.int x) ∈ xlv base old als := by
        have := xlv_mem (base := base) (old := old) (als := als) (i := i) (by rw [hv]; exact fun k h => by cases h)
        rw [hv] at this
        exact this
      obtain ⟨k1, hk1⟩ := List.getElem?_of_mem hm
      exact lv_iinc hx hb hdec hl.has hk1 rfl hi rfl (st1 (s1 := st) hi hp kk H locs hX)
    · cases h
  | iadd =>
    unfold xeff at h; unfold xG at h; dsimp only at h
    have hd := hlen rfl (by simp [xlen]); subst hd
    obtain ⟨x, y, s1, rfl, e1⟩ := i_bin h; cases e1
    exact fun H locs ls hX hl => lv_iadd hx hb hdec (kk H locs ls hX hl)
  | isub =>
    unfold xeff at h; unfold xG at h; dsimp only at h
    have hd := hlen rfl (by simp [xlen]); subst hd
    obtain ⟨x, y, s1, rfl, e1⟩ := i_bin h; cases e1
    exact fun H locs ls hX hl => lv_isub hx hb hdec (kk H locs ls hX hl)
  | imul =>
    unfold xeff at h; unfold xG at h; dsimp only at h
    have hd := hlen rfl (by simp [xlen]); subst hd
    obtain ⟨x, y, s1, rfl, e1⟩ := i_bin h; cases e1
    exact fun H locs ls hX hl => lv_imul hx hb hdec (kk H locs ls hX hl)
  | iand =>
    unfold xeff at h; unfold xG at h; dsimp only at h
    have hd := hlen rfl (by simp [xlen]); subst hd
    obtain ⟨x, y, s1, rfl, e1⟩ := i_bin h; cases e1
    exact fun H locs ls hX hl => lv_iand hx hb hdec (kk H locs ls hX hl)
  | ior =>
    unfold xeff at h; unfold xG at h; dsimp only at h
    have hd := hlen rfl (by simp [xlen]); subst hd
    obtain ⟨x, y, s1, rfl, e1⟩ := i_bin h; cases e1
    exact fun H locs ls hX hl => lv_ior hx hb hdec (kk H locs ls hX hl)
  | ixor =>
    unfold xeff at h; unfold xG at h; dsimp only at h
    have hd := hlen rfl (by simp [xlen]); subst hd
    obtain ⟨x, y, s1, rfl, e1⟩ := i_bin h; cases e1
    exact fun H locs ls hX hl => lv_ixor hx hb hdec (kk H locs ls hX hl)
  | ishl =>
    unfold xeff at h; unfold xG at h; dsimp only at h
    have hd := hlen rfl (by simp [xlen]); subst hd
    obtain ⟨x, y, s1, rfl, e1⟩ := i_bin h; cases e1
    exact fun H locs ls hX hl => lv_ishl hx hb hdec (kk H locs ls hX hl)
  | ishr =>
    unfold xeff at h; unfold xG at h; dsimp only at h
    have hd := hlen rfl (by simp [xlen]); subst hd
    obtain ⟨x, y, s1, rfl, e1⟩ := i_bin h; cases e1
    exact fun H locs ls hX hl => lv_ishr hx hb hdec (kk H locs ls hX hl)
  | iushr =>
    unfold xeff at h; unfold xG at h; dsimp only at h
    have hd := hlen rfl (by simp [xlen]); subst hd
    obtain ⟨x, y, s1, rfl, e1⟩ := i_bin h; cases e1
    exact fun H locs ls hX hl => lv_iushr hx hb hdec rfl (kk H locs ls hX hl)
  | idiv =>
    unfold xeff at h; unfold xG at h; dsimp only at h
    have hd := hlen rfl (by simp [xlen]); subst hd
    obtain ⟨x, y, s1, rfl, hne, e1⟩ := i_binz h; cases e1
    exact fun H locs ls hX hl => lv_idiv hx hb hdec hne (kk H locs ls hX hl)
  | irem =>
    unfold xeff at h; unfold xG at h; dsimp only at h
    have hd := hlen rfl (by simp [xlen]); subst hd
    obtain ⟨x, y, s1, rfl, hne, e1⟩ := i_binz h; cases e1
    exact fun H locs ls hX hl => lv_irem hx hb hdec hne (kk H locs ls hX hl)
  | ineg =>
    have hd := hlen rfl (by simp [xlen]); subst hd
    unfold xeff at h; unfold xG at h; dsimp only at h
    split at h
    · cases h
      exact fun H locs ls hX hl => lv_ineg hx hb hdec (kk H locs ls hX hl)
    · cases h
  | ladd =>
    unfold xeff at h; unfold xG at h; dsimp only at h
    have hd := hlen rfl (by simp [xlen]); subst hd
    obtain ⟨x, y, s1, rfl, e1⟩ := i_lbin h; cases e1
    exact fun H locs ls hX hl => lv_ladd hx hb hdec (kk H locs ls hX hl)
  | lsub =>
    unfold xeff at h; unfold xG at h; dsimp only at h
    have hd := hlen rfl (by simp [xlen]); subst hd
    obtain ⟨x, y, s1, rfl, e1⟩ := i_lbin h; cases e1
    exact fun H locs ls hX hl => lv_lsub hx hb hdec (kk H locs ls hX hl)
  | lmul =>
    unfold xeff at h; unfold xG at h; dsimp only at h
    have hd := hlen rfl (by simp [xlen]); subst hd
    obtain ⟨x, y, s1, rfl, e1⟩ := i_lbin h; cases e1
    exact fun H locs ls hX hl => lv_lmul hx hb hdec (kk H locs ls hX hl)
  | ldiv =>
    unfold xeff at h; unfold xG at h; dsimp only at h
    have hd := hlen rfl (by simp [xlen]); subst hd
    obtain ⟨x, y, s1, rfl, hne, e1⟩ := i_lbinz h; cases e1
    exact fun H locs ls hX hl => lv_ldiv hx hb hdec hne (kk H locs ls hX hl)
  | lrem =>
    unfold xeff at h; unfold xG at h; dsimp only at h
    have hd := hlen rfl (by simp [xlen]); subst hd
    obtain ⟨x, y, s1, rfl, hne, e1⟩ := i_lbinz h; cases e1
    exact fun H locs ls hX hl => lv_lrem hx hb hdec hne (kk H locs ls hX hl)
  | lcmp =>
    have hd := hlen rfl (by simp [xlen]); subst hd
    unfold xeff at h; unfold xG at h; dsimp only at h
    split at h
    · cases h
      exact fun H locs ls hX hl => W.lcmp hx hb hdec (kk H locs ls hX hl)
    · cases h
  | i2l =>
    have hd := hlen rfl (by simp [xlen]); subst hd
    unfold xeff at h; unfold xG at h; dsimp only at h
    split at h
    · cases h
      exact fun H locs ls hX hl => lv_i2l hx hb hdec rfl (kk H locs ls hX hl)
    · cases h
  | l2i =>
    have hd := hlen rfl (by simp [xlen]); subst hd
    unfold xeff at h; unfold xG at h; dsimp only at h
    split at h
    · cases h
      exact fun H locs ls hX hl => lv_l2i hx hb hdec rfl (kk H locs ls hX hl)
    · cases h
  | i2b =>
    have hd := hlen rfl (by simp [xlen]); subst hd
    unfold xeff at h; unfold xG at h; dsimp only at h
    split at h
    · cases h
      exact fun H locs ls hX hl => lv_i2b hx hb hdec rfl (kk H locs ls hX hl)
    · cases h
  | dup =>
    have hd := hlen rfl (by simp [xlen]); subst hd
    unfold xeff at h; unfold xG at h; dsimp only at h
    split at h
    · split at h
      · rename_i hc
        cases h
        exact fun H locs ls hX hl => lv_dup hx hb hdec (by rw [xv_cat]; exact hc) (kk H locs ls hX hl)
      · cases h
    · cases h
  | pop =>
    have hd := hlen rfl (by simp [xlen]); subst hd
    unfold xeff at h; unfold xG at h; dsimp only at h
    split at h
    · split at h
      · rename_i hc
        cases h
        exact fun H locs ls hX hl => lv_pop hx hb hdec (by rw [xv_cat]; exact hc) (kk H locs ls hX hl)
      · cases h
    · cases h
  | dup2 =>
    have hd := hlen rfl (by simp [xlen]); subst hd
    unfold xeff at h; unfold xG at h; dsimp only at h
    split at h
    · split at h
      · rename_i hc
        cases h
        exact fun H locs ls hX hl => lv_dup2_11 hx hb hdec (by rw [xv_cat]; exact hc.1) (by rw [xv_cat]; exact hc.2) (kk H locs ls hX hl)
      · cases h
    · cases h
  | iaload =>
    unfold xeff at h; unfold xG at h; dsimp only at h
    have hd := hlen rfl (by simp [xlen]); subst hd
    exact go_iald C hdec h kk
  | baload =>
    unfold xeff at h; unfold xG at h; dsimp only at h
    have hd := hlen rfl (by simp [xlen]); subst hd
    exact go_bald C hdec (by simpa [xlkk] using hlk) h kk
  | iastore =>
    unfold xeff at h; unfold xG at h; dsimp only at h
    have hd := hlen rfl (by simp [xlen]); subst hd
    exact go_iast C hdec h kk
  | bastore =>
    unfold xeff at h; unfold xG at h; dsimp only at h
    have hd := hlen rfl (by simp [xlen]); subst hd
    exact go_bast C hdec (by simpa [xlkk] using hlk) h kk
  | laload =>
    have hd := hlen rfl (by simp [xlen]); subst hd
    unfold xeff at h; unfold xG at h; dsimp only at h
    split at h
    · obtain ⟨x, g1, g2⟩ := i_bind h
      cases g2
      exact go_lald C hdec g1 kk
    · cases h
  | lastore =>
    have hd := hlen rfl (by simp [xlen]); subst hd
    unfold xeff at h; unfold xG at h; dsimp only at h
    split at h
    · obtain ⟨x, g1, g2⟩ := i_bind h
      cases g2
      exact go_last C hdec g1 kk
    · cases h
  | aaload =>
    have hd := hlen rfl (by simp [xlen]); subst hd
    have hlk' : lk = 4 ∨ lk = 5 ∨ lk = 6 := by
      simp only [xlkk, Bool.or_eq_true, beq_iff_eq] at hlk
      omega
    unfold xeff at h; unfold xG at h; dsimp only at h
    split at h
    · obtain ⟨x, g1, g2⟩ := i_bind h
      refine go_aald C hdec hlk' g1 ?_
      cases x <;> cases g2 <;> exact kk
    · cases h
  | aastore =>
    have hd := hlen rfl (by simp [xlen]); subst hd
    have hlk' : lk = 4 ∨ lk = 5 ∨ lk = 6 := by
      simp only [xlkk, Bool.or_eq_true, beq_iff_eq] at hlk
      omega
    unfold xeff at h; unfold xG at h; dsimp only at h
    split at h
    · obtain ⟨x, g1, g2⟩ := i_bind h
      cases g2
      exact go_aast (o := some _) C hdec hlk' g1 kk
    · obtain ⟨x, g1, g2⟩ := i_bind h
      cases g2
      exact go_aast (o := none) C hdec hlk' g1 kk
    · cases h
  | arraylength =>
    have hd := hlen rfl (by simp [xlen]); subst hd
    unfold xeff at h; unfold xG at h; dsimp only at h
    split at h
    · obtain ⟨x, g1, g2⟩ := i_bind h
      cases g2
      exact go_alen C hdec g1 kk
    · split at h
      · rename_i hb0
        subst hb0
        cases h
        exact go_slen C hdec kk
      · cases h
    · cases h
  | newarray t =>
    unfold xeff at h; unfold xG at h; dsimp only at h
    have hd := hlen rfl (by simp [xlen]); subst hd
    exact go_newa C ha hs h1 h2 hdec h kk
  | anewarray i =>
    have hd := hlen rfl (by simp [xlen]); subst hd
    unfold xeff at h; unfold xG at h; dsimp only at h
    split at h
    · rename_i hT
      split at h
      · rename_i ho
        split at h
        · cases h
        · rename_i hk
          cases h
          exact go_anew C ha hs h1 h2 hdec hT ho hk kk
      · cases h
    · cases h
  | new i =>
    have hd := hlen rfl (by simp [xlen]); subst hd
    unfold xeff at h; unfold xG at h; dsimp only at h
    split at h
    · rename_i o9 i9 c9 f9 hT
      split at h
      · rename_i ho
        cases h
        have h100 : 100 ≤ c9 := by
          have q : xlkk (.new i) lk = true := hlk
          unfold xlkk at q
          dsimp only at q
          rw [show xKL[lk]? = some _ from hT] at q
          exact of_decide_eq_true q
        exact go_new C ha hs h1 h2 hdec hT ho h100 kk
      · cases h
    · cases h
  | checkcast i =>
    have hd := hlen rfl (by simp [xlen]); subst hd
    unfold xeff at h; unfold xG at h; dsimp only at h
    split at h
    · rename_i o i' t fs a s1 hT
      split at h
      · rename_i ho
        obtain ⟨rfl, rfl, rfl⟩ := ho
        obtain ⟨q, g1, g2⟩ := i_bind h
        split at g2
        · rename_i hq
          subst hq
          cases g2
          intro H locs ls hX hl
          obtain ⟨n, f, hA⟩ := j_tag g1
          have hlink : Cond.classLink (xcn M.1) i' "[I" ∈ gw := by
            rcases kl_all _ (List.mem_of_getElem? (show xKL[lk]? = some _ from hT)) with ⟨-, q⟩ | ⟨q, -⟩ | ⟨q, -⟩
            · exact q
            · exact absurd (show 4 ≤ 0 from q) (by decide)
            · exact absurd (show 100 ≤ 0 from q) (by decide)
          have hw := xw_get (base := base) (old := old) (dA := dA) hA
          have hnm : s.vm.findClass "[I" = some (dA 0) := (henv.1.2 0 _ rfl).2
          obtain f | f | f := f
          · exact va_castA (x := (n, .inl f)) hx hb hown (hts _ hlink) hX.1 a hw hnm hdec (kk H locs ls hX hl)
          · exact va_castA (x := (n, .inr (.inl f))) hx hb hown (hts _ hlink) hX.1 a hw hnm hdec (kk H locs ls hX hl)
          · exact va_castA (x := (n, .inr (.inr (.inr (.inr fun j => (f j).map (base + ·)))))) hx hb hown (hts _ hlink) hX.1 a hw hnm hdec (kk H locs ls hX hl)
        · cases g2
      · cases h
    · cases h
  | ldc i =>
    unfold xeff at h; unfold xG at h; dsimp only at h
    have hd := hlen rfl (by simp [xlen]); subst hd
    exact go_ldc C (Or.inl ⟨rfl, hdec⟩) h kk
  | ldc_w i =>
    unfold xeff at h; unfold xG at h; dsimp only at h
    have hd := hlen rfl (by simp [xlen]); subst hd
    exact go_ldc C (Or.inr ⟨rfl, hdec⟩) h kk
  | ldc2_w i =>
    have hd := hlen rfl (by simp [xlen]); subst hd
    unfold xeff at h; unfold xG at h; dsimp only at h
    split at h
    · rename_i o i' v hT
      split at h
      · rename_i ho
        obtain ⟨rfl, rfl⟩ := ho
        cases h
        have hw := cL_all _ (List.mem_of_getElem? (show xCL[lk]? = some _ from hT))
        exact fun H locs ls hX hl => lv_ldc2 hx hb hown (hts _ hw) hdec (kk H locs ls hX hl)
      · cases h
    · cases h
  | _ => exfalso; unfold xeff at h; unfold xG at h; dsimp only at h; cases h
end XS4
end
section
/-! ===== sizes only grow ===== -/
def xgrow (ls : List Value) (A : xH) : xN → Prop
  | .inl q => A.length ≤ q.2.2.2.length ∧ xsl A ≤ xsl q.2.2.2 ∧ q.2.1.length = ls.length
  | .inr (.inl q) => q.2.2.2.2 = A ∧ q.2.2.1.length = ls.length
  | .inr (.inr q) => q.2 = A
section XGR
variable {T : xT} {E : Nat × (Nat → Int32)} {own rt ini : Nat} {pc : Nat} {ls st : List Value} {A : xH} {n : xN}
theorem gx_rf {q : Nat × List Value × List Value × xH} (h : q.2.2.2 = A) (h2 : q.2.1.length = ls.length) : xgrow ls A (.inl q) := by
  show A.length ≤ q.2.2.2.length ∧ xsl A ≤ xsl q.2.2.2 ∧ _
  rw [h]
  exact ⟨Nat.le_refl _, Nat.le_refl _, h2⟩
theorem gx_set {a b : Nat} {c c0 : xA} {l2 : List Value} (hA : A[a]? = some c0) (hz : xsz c = xsz c0) : xgrow ls A (.inl (b, ls, l2, A.set a c)) := by
  show A.length ≤ (A.set a c).length ∧ xsl A ≤ xsl (A.set a c) ∧ ls.length = ls.length
  rw [List.length_set, xsl_set A a c c0 hA hz]
  exact ⟨Nat.le_refl _, Nat.le_refl _, rfl⟩
theorem gx_app {b : Nat} {c : xA} {l2 : List Value} : xgrow ls A (.inl (b, ls, l2, A ++ [c])) := by
  show A.length ≤ (A ++ [c]).length ∧ xsl A ≤ xsl (A ++ [c]) ∧ ls.length = ls.length
  rw [List.length_append, xsl_app]
  exact ⟨Nat.le_add_right _ _, Nat.le_add_right _ _, rfl⟩
theorem gx_get {lk idx : Nat} (h : xget T own xgo0 lk idx pc ls st A = some n) : xgrow ls A n := by
  obtain ⟨_, _, _, _, _, _, _, _, _, -, -, -, -, -, -, rfl⟩ := i_get h
  exact gx_rf rfl rfl
theorem gx_put {lk idx : Nat} (h : xput T own ini xgo0 lk idx pc ls st A = some n) : xgrow ls A n := by
  obtain ⟨_, _, _, _, _, _, _, fs, v, -, -, -, -, hA, -, rfl, -⟩ := i_put h
  exact gx_set hA (by show (fs.set _ v).length = fs.length; simp)
theorem gx_inv {ik idx lk : Nat} (h : xinv T own xgo0 xcl0 ik idx lk pc ls st A = some n) : xgrow ls A n := by
  obtain ⟨kd, mid, na, rk, -, -, hc⟩ := i_inv h
  rcases hc with ⟨-, a, s1, -, -, rfl⟩ | ⟨-, x, y, s1, -, -, rfl⟩ | ⟨-, x, y, s1, -, -, rfl⟩ | ⟨-, k, dp, bb, sp, a, s1, B, -, -, hcp, rfl⟩ | ⟨-, k, s1, x, -, -, -, rfl⟩ | ⟨-, i, k, s1, x, -, -, -, rfl⟩ | ⟨-, a, s1, B, -, -, hcl, rfl⟩ | ⟨-, as, s1, -, -, rfl⟩
  · exact gx_rf rfl rfl
  · exact gx_rf rfl rfl
  · exact gx_rf rfl rfl
  · obtain ⟨n0, f, n1, g, hA, hB, -, -, -, -, -, rfl⟩ := j_copy hcp
    exact gx_set hB rfl
  · exact gx_rf rfl rfl
  · exact gx_rf rfl rfl
  · obtain ⟨n, f, hA, rfl⟩ := j_clone hcl
    exact gx_app
  · exact ⟨rfl, rfl⟩
theorem gx_newa {t : ArrayType} (h : xnewa xgo0 t pc ls st A = some n) : xgrow ls A n := by
  obtain ⟨k, s1, tg, cN, -, -, -, rfl, -⟩ := i_newa h
  exact gx_app
theorem gx_iald {t : Nat} (h : xiald E xgo0 t pc ls st A = some n) : xgrow ls A n := by
  rcases i_iald h with ⟨_, _, _, _, -, -, rfl⟩ | ⟨_, _, -, -, -, rfl⟩
  · exact gx_rf rfl rfl
  · exact gx_rf rfl rfl
theorem gx_iast {t : Nat} (h : xiast xgo0 t pc ls st A = some n) : xgrow ls A n := by
  obtain ⟨_, _, _, _, _, -, h1, rfl⟩ := i_iast h
  obtain ⟨n, f, hA, -, rfl⟩ := j_sI h1
  exact gx_set hA rfl
theorem gx_ldc {w lk idx : Nat} (h : xldc T own xgo0 w lk idx pc ls st A = some n) : xgrow ls A n := by
  unfold xldc at h
  split at h
  · split at h
    · cases h; exact gx_rf rfl rfl
    · cases h
  · split at h
    · split at h
      · cases h; exact gx_rf rfl rfl
      · cases h
    · cases h
theorem gx_sw {dflt : Nat} {x : Int32} {lo : List Int} {cc : Int} {s1 : List Value} (h : xsw (fun q => (some (.inl (q, ls, s1, A)) : Option xN)) pc dflt x cc lo = some n) : xgrow ls A n := by
  rcases i_sw _ _ h with ⟨_, _, -, -, g⟩ | ⟨-, g⟩
  · cases g; exact gx_rf rfl rfl
  · cases g; exact gx_rf rfl rfl
theorem gx_icmp {cd : ClassFile.Cond} {x y : Int32} {t1 t2 : Nat} {s1 : List Value} (h : xicmp cd x y (some (.inl (t1, ls, s1, A)) : Option xN) (some (.inl (t2, ls, s1, A)) : Option xN) = some n) : xgrow ls A n := by
  rcases i_icmp_n h with g | g
  · cases g; exact gx_rf rfl rfl
  · cases g; exact gx_rf rfl rfl
set_option maxHeartbeats 4000000 in
theorem xeff_grow {r : xR} (h : xeff T E own rt ini r ls st A = some n) : xgrow ls A n := by
  obtain ⟨pc, ins, lk, dead⟩ := r
  unfold xeff at h
  cases ins <;> unfold xG at h <;> dsimp only at h <;> first
    | (cases h; exact gx_rf rfl rfl)
    | (cases h; done)
    | exact gx_get h
    | exact gx_put h
    | exact gx_inv h
    | exact gx_newa h
    | exact gx_iald h
    | exact gx_iast h
    | exact gx_ldc h
    | (obtain ⟨_, _, _, -, rfl⟩ := i_bin h; exact gx_rf rfl rfl)
    | (obtain ⟨_, _, _, -, rfl⟩ := i_lbin h; exact gx_rf rfl rfl)
    | (obtain ⟨_, _, _, -, -, rfl⟩ := i_binz h; exact gx_rf rfl rfl)
    | (obtain ⟨_, _, _, -, -, rfl⟩ := i_lbinz h; exact gx_rf rfl rfl)
    | (obtain ⟨-, g⟩ := i_ldA h; cases g; exact gx_rf rfl rfl)
    | (obtain ⟨_, -, g⟩ := i_ldI h; cases g; exact gx_rf rfl rfl)
    | (obtain ⟨_, -, g⟩ := i_ldL h; cases g; exact gx_rf rfl rfl)
    | (split at h <;> first
        | (cases h; done)
        | (cases h; exact gx_rf rfl rfl)
        | (cases h; rfl)
        | exact gx_icmp h
        | exact gx_sw h
        | (obtain ⟨-, -, g⟩ := i_st1 h; cases g; exact gx_rf rfl (xs_len ..))
        | (obtain ⟨-, -, g⟩ := i_st2 h; cases g; exact gx_rf rfl ((xs_len ..).trans (xs_len ..)))
        | (obtain ⟨-, h2⟩ := i_ldA h; obtain ⟨-, -, g⟩ := i_st1 h2; cases g; exact gx_rf rfl (xs_len ..))
        | (obtain ⟨x, g1, g2⟩ := i_bind h; cases g2; exact gx_rf rfl rfl)
        | (obtain ⟨x, g1, g2⟩ := i_bind h; cases g2; obtain ⟨_, _, hA, -, rfl⟩ := j_sL g1; exact gx_set hA rfl)
        | (obtain ⟨x, g1, g2⟩ := i_bind h; cases g2; obtain ⟨_, _, hA, -, -, rfl⟩ := j_sR g1; exact gx_set hA rfl)
        | (obtain ⟨x, g1, g2⟩ := i_bind h; cases x <;> cases g2 <;> exact gx_rf rfl rfl)
        | (split at h <;> first
            | (cases h; done)
            | (cases h; exact gx_rf rfl rfl)
            | (cases h; rfl)
            | (cases h; exact gx_app)
            | (obtain ⟨x, g1, g2⟩ := i_bind h; split at g2 <;> first | (cases g2; exact gx_rf rfl rfl) | (cases g2; done))
            | (split at h <;> first
                | (cases h; done)
                | (cases h; rfl)
                | (cases h; exact gx_app)
                | (cases h; exact gx_rf rfl rfl))))
theorem inv_noret {ik idx lk : Nat} {q : Option Value × xH} (h : xinv T own xgo0 xcl0 ik idx lk pc ls st A = some (.inr (.inr q))) : False := by
  obtain ⟨kd, mid, na, rk, -, -, hc⟩ := i_inv h
  rcases hc with ⟨_, _, _, -, -, q⟩ | ⟨_, _, _, _, -, -, q⟩ | ⟨_, _, _, _, -, -, q⟩ | ⟨_, _, _, _, _, _, _, _, -, -, -, q⟩ | ⟨_, _, _, _, -, -, -, q⟩ | ⟨_, _, _, _, _, -, -, -, q⟩ | ⟨_, _, _, _, -, -, -, q⟩ | ⟨_, _, _, -, -, q⟩ <;> cases q
set_option maxHeartbeats 4000000 in
/-- only a call calls, only a return returns -/
theorem xeff_kind {ins : Instr} {lk : Nat} {dead : List Nat} (h : xeff T E own rt ini (pc, ins, lk, dead) ls st A = some n) : (∃ q, n = .inl q) ∨ (∃ i, ins = .invokevirtual i ∨ ins = .invokespecial i ∨ ins = .invokestatic i) ∨ (ins = .ireturn ∨ ins = .lreturn ∨ ins = .areturn ∨ ins = .return_) := by
  unfold xeff at h
  cases ins <;> first
    | exact Or.inr (Or.inl ⟨_, Or.inl rfl⟩)
    | exact Or.inr (Or.inl ⟨_, Or.inr (Or.inl rfl)⟩)
    | exact Or.inr (Or.inl ⟨_, Or.inr (Or.inr rfl)⟩)
    | exact Or.inr (Or.inr (Or.inl rfl))
    | exact Or.inr (Or.inr (Or.inr (Or.inl rfl)))
    | exact Or.inr (Or.inr (Or.inr (Or.inr (Or.inl rfl))))
    | exact Or.inr (Or.inr (Or.inr (Or.inr (Or.inr rfl))))
    | left
  all_goals
    unfold xG at h
    dsimp only at h
    first
    | (cases h; exact ⟨_, rfl⟩)
    | (cases h; done)
    | (obtain ⟨_, _, _, _, _, _, _, _, _, -, -, -, -, -, -, rfl⟩ := i_get h; exact ⟨_, rfl⟩)
    | (obtain ⟨_, _, _, _, _, _, _, fs, v, -, -, -, -, hA, -, rfl, -⟩ := i_put h; exact ⟨_, rfl⟩)
    | (obtain ⟨k, s1, tg, cN, -, -, -, rfl, -⟩ := i_newa h; exact ⟨_, rfl⟩)
    | (rcases i_iald h with ⟨_, _, _, _, -, -, rfl⟩ | ⟨_, _, -, -, -, rfl⟩ <;> exact ⟨_, rfl⟩)
    | (obtain ⟨_, _, _, _, _, -, h1, rfl⟩ := i_iast h; exact ⟨_, rfl⟩)
    | (unfold xldc at h; split at h <;> split at h <;> first | (cases h; exact ⟨_, rfl⟩) | (cases h; done) | (split at h <;> first | (cases h; exact ⟨_, rfl⟩) | (cases h; done)))
    | (obtain ⟨_, _, _, -, rfl⟩ := i_bin h; exact ⟨_, rfl⟩)
    | (obtain ⟨_, _, _, -, rfl⟩ := i_lbin h; exact ⟨_, rfl⟩)
    | (obtain ⟨_, _, _, -, -, rfl⟩ := i_binz h; exact ⟨_, rfl⟩)
    | (obtain ⟨_, _, _, -, -, rfl⟩ := i_lbinz h; exact ⟨_, rfl⟩)
    | (obtain ⟨-, g⟩ := i_ldA h; cases g; exact ⟨_, rfl⟩)
    | (obtain ⟨_, -, g⟩ := i_ldI h; cases g; exact ⟨_, rfl⟩)
    | (obtain ⟨_, -, g⟩ := i_ldL h; cases g; exact ⟨_, rfl⟩)
    | (split at h <;> first
        | (cases h; done)
        | (cases h; exact ⟨_, rfl⟩)
        | (rcases i_icmp_n h with g | g <;> cases g <;> exact ⟨_, rfl⟩)
        | (rcases i_sw _ _ h with ⟨_, _, -, -, g⟩ | ⟨-, g⟩ <;> cases g <;> exact ⟨_, rfl⟩)
        | (obtain ⟨-, -, g⟩ := i_st1 h; cases g; exact ⟨_, rfl⟩)
        | (obtain ⟨-, -, g⟩ := i_st2 h; cases g; exact ⟨_, rfl⟩)
        | (obtain ⟨-, h2⟩ := i_ldA h; obtain ⟨-, -, g⟩ := i_st1 h2; cases g; exact ⟨_, rfl⟩)
        | (obtain ⟨x, g1, g2⟩ := i_bind h; cases g2; exact ⟨_, rfl⟩)
        | (obtain ⟨x, g1, g2⟩ := i_bind h; cases x <;> cases g2 <;> exact ⟨_, rfl⟩)
        | (split at h <;> first
            | (cases h; done)
            | (cases h; exact ⟨_, rfl⟩)
            | (obtain ⟨x, g1, g2⟩ := i_bind h; split at g2 <;> first | (cases g2; exact ⟨_, rfl⟩) | (cases g2; done))
            | (split at h <;> first
                | (cases h; done)
                | (cases h; exact ⟨_, rfl⟩))))
end XGR
theorem xcl_inv {call : Nat → List Value → xH → xO} {K : Nat → List Value → List Value → xH → xO} {mid rk pc : Nat} {as ls s1 : List Value} {A : xH} {q : Option Value × xH} (h : xcl call K mid as rk pc ls s1 A = some q) : ∃ v A1, call mid as A = some (v, A1) ∧ K pc ls (v.toList ++ s1) A1 = some q := by
  cases hc : call mid as A with
  | none =>
    unfold xcl at h
    split at h <;> rw [hc] at h <;> simp [xV, xI, xLo, xNn, xOp] at h
  | some w =>
    obtain ⟨v, A1⟩ := w
    refine ⟨v, A1, rfl, ?_⟩
    unfold xcl at h
    split at h <;> rw [hc] at h
    · obtain ⟨z, g1, g2⟩ := Option.bind_eq_some_iff.mp h
      simp only [xV, Option.bind_some] at g1
      cases v with
      | none => cases g1; exact g2
      | some v => cases g1
    · obtain ⟨z, g1, g2⟩ := Option.bind_eq_some_iff.mp h
      simp only [xI, Option.bind_some] at g1
      split at g1
      · cases g1; exact g2
      · cases g1
    · obtain ⟨z, g1, g2⟩ := Option.bind_eq_some_iff.mp h
      simp only [xLo, Option.bind_some] at g1
      split at g1
      · cases g1; exact g2
      · cases g1
    · obtain ⟨z, g1, g2⟩ := Option.bind_eq_some_iff.mp h
      simp only [xNn, Option.bind_some] at g1
      split at g1
      · cases g1; exact g2
      · cases g1
    · obtain ⟨z, g1, g2⟩ := Option.bind_eq_some_iff.mp h
      simp only [xOp, Option.bind_some] at g1
      split at g1
      · cases g1; exact g2
      · cases g1; exact g2
      · cases g1
/-- a step, taken apart -/
theorem xon_inv {P : List xM} {T : xT} {E : Nat × (Nat → Int32)} {call : Nat → List Value → xH → xO} {K : Nat → List Value → List Value → xH → xO} {m pc : Nat} {ls st : List Value} {A : xH} {q : Option Value × xH} (h : xon P T E call K m pc ls st A = some q) : ∃ M r, P[m]? = some M ∧ r ∈ M.2.2.2.2 ∧ r.1 = pc ∧ ((∃ w, xeff T E M.1 M.2.1 M.2.2.1 r (xmask r.2.2.2 ls) st A = some (.inl w) ∧ K w.1 w.2.1 w.2.2.1 w.2.2.2 = some q) ∨ (∃ w v A1, xeff T E M.1 M.2.1 M.2.2.1 r (xmask r.2.2.2 ls) st A = some (.inr (.inl w)) ∧ call w.1.1 w.1.2.1 w.2.2.2.2 = some (v, A1) ∧ K w.2.1 w.2.2.1 (v.toList ++ w.2.2.2.1) A1 = some q) ∨ xeff T E M.1 M.2.1 M.2.2.1 r (xmask r.2.2.2 ls) st A = some (.inr (.inr q))) := by
  unfold xon at h
  split at h
  · cases h
  · rename_i M hM
    split at h
    · cases h
    · rename_i r hr
      have hf : ∀ (l : List xR) (r : xR), xfind l pc = some r → r ∈ l ∧ r.1 = pc := by
        intro l
        induction l with
        | nil => intro r h; cases h
        | cons a l ih =>
          intro r h
          unfold xfind at h
          split at h
          · rename_i e
            cases h
            exact ⟨List.mem_cons_self, e⟩
          · exact ⟨List.mem_cons_of_mem _ (ih r h).1, (ih r h).2⟩
      obtain ⟨z, g1, g2⟩ := Option.bind_eq_some_iff.mp h
      refine ⟨M, r, hM, (hf _ _ hr).1, (hf _ _ hr).2, ?_⟩
      obtain w | w | w := z
      · exact Or.inl ⟨w, g1, g2⟩
      · obtain ⟨v, A1, k1, k2⟩ := xcl_inv g2
        exact Or.inr (Or.inl ⟨w, v, A1, g1, k1, k2⟩)
      · refine Or.inr (Or.inr ?_)
        rw [g1]
        congr 2
        congr 1
        exact Option.some.inj g2
theorem xexec_grow (P : List xM) (T : xT) (E : Nat × (Nat → Int32)) : ∀ (n d m pc : Nat) (ls st : List Value) (A : xH) (q : Option Value × xH), xexec P T E n d m pc ls st A = some q → A.length ≤ q.2.length ∧ xsl A ≤ xsl q.2
  | 0, _, _, _, _, _, _, _, h => by cases h
  | n + 1, d, m, pc, ls, st, A, q, h => by
    rw [xexec_s] at h
    obtain ⟨M, r, -, -, -, hc⟩ := xon_inv h
    rcases hc with ⟨w, g1, g2⟩ | ⟨w, v, A1, g1, g2, g3⟩ | g1
    · have h1 : A.length ≤ w.2.2.2.length ∧ xsl A ≤ xsl w.2.2.2 ∧ _ := xeff_grow g1
      have h2 := xexec_grow P T E n d m _ _ _ _ _ g2
      omega
    · have h1 : w.2.2.2.2 = A := (show _ ∧ _ from xeff_grow g1).1
      have h3 := xexec_grow P T E n d m _ _ _ _ _ g3
      unfold xcallN at g2
      cases d with
      | zero => cases g2
      | succ e =>
        dsimp only at g2
        unfold xinto at g2
        split at g2
        · cases g2
        · split at g2
          · have h2 := xexec_grow P T E n e _ _ _ _ _ _ g2
            rw [h1] at h2
            dsimp only at h2
            omega
          · cases g2
    · have h1 : q.2 = A := xeff_grow g1
      rw [h1]
      exact ⟨Nat.le_refl _, Nat.le_refl _⟩
end
section
/-! ===== calls, returns, and the whole: what the abstract machine comes to, the machine comes to ===== -/
theorem xpop_inv : ∀ (n : Nat) (acc st as s1 : List Value), xpop n acc st = some (as, s1) → ∃ pre, st = pre ++ s1 ∧ as = pre.reverse ++ acc ∧ pre.length = n
  | 0, acc, st, as, s1, h => by
    cases h
    exact ⟨[], rfl, rfl, rfl⟩
  | n + 1, acc, [], as, s1, h => by cases h
  | n + 1, acc, v :: st, as, s1, h => by
    obtain ⟨pre, h1, h2, h3⟩ := xpop_inv n (v :: acc) st as s1 h
    exact ⟨v :: pre, by rw [h1]; rfl, by rw [h2]; simp, by rw [← h3]; rfl⟩
/-- the locals with which a method begins -/
theorem sl_len (base : Nat) (old : Nat → Nat) : ∀ as : List Value, (lg_sl (as.map (xv base old))).length = (xspread as).length
  | [] => rfl
  | v :: as => by
    have ih := sl_len base old as
    have e : lg_sl ((v :: as).map (xv base old)) = (if (xv base old v).category = 2 then [.val (xv base old v), .second] else [.val (xv base old v)]) ++ lg_sl (as.map (xv base old)) := by
      simp [lg_sl]
    rw [e, List.length_append, ih, xv_cat]
    cases v <;> simp [Value.category, xspread] <;> omega
theorem args_mem (base : Nat) (old : Nat → Nat) : ∀ (as : List Value) (i k : Nat), (∀ z, xg (xspread as) i ≠ .retAddr z) → (k + i, xv base old (xg (xspread as) i)) ∈ lv_args k (as.map (xv base old))
  | [], i, k, h => absurd rfl (h 0)
  | v :: as, i, k, h => by
    show _ ∈ (k, xv base old v) :: lv_args (if (xv base old v).category = 2 then k + 2 else k + 1) (as.map (xv base old))
    rw [xv_cat]
    cases v with
    | long x =>
      match i, h with
      | 0, _ => exact List.mem_cons_self
      | 1, h => exact absurd rfl (h 0)
      | j + 2, h =>
        have := args_mem base old as j (k + 2) h
        rw [show k + (j + 2) = k + 2 + j by omega]
        exact List.mem_cons_of_mem _ this
    | double x =>
      match i, h with
      | 0, h => exact absurd rfl (h 0)
      | 1, h => exact absurd rfl (h 0)
      | j + 2, h =>
        have := args_mem base old as j (k + 2) h
        rw [show k + (j + 2) = k + 2 + j by omega]
        exact List.mem_cons_of_mem _ this
    | int x =>
      match i, h with
      | 0, _ => exact List.mem_cons_self
      | j + 1, h =>
        have := args_mem base old as j (k + 1) h
        rw [show k + (j + 1) = k + 1 + j by omega]
        exact List.mem_cons_of_mem _ this
    | float x =>
      match i, h with
      | 0, _ => exact List.mem_cons_self
      | j + 1, h =>
        have := args_mem base old as j (k + 1) h
        rw [show k + (j + 1) = k + 1 + j by omega]
        exact List.mem_cons_of_mem _ this
    | null =>
      match i, h with
      | 0, _ => exact List.mem_cons_self
      | j + 1, h =>
        have := args_mem base old as j (k + 1) h
        rw [show k + (j + 1) = k + 1 + j by omega]
        exact List.mem_cons_of_mem _ this
    | ref x =>
      match i, h with
      | 0, _ => exact List.mem_cons_self
      | j + 1, h =>
        have := args_mem base old as j (k + 1) h
        rw [show k + (j + 1) = k + 1 + j by omega]
        exact List.mem_cons_of_mem _ this
    | retAddr x =>
      match i, h with
      | 0, h => exact absurd rfl (h x)
      | j + 1, h =>
        have := args_mem base old as j (k + 1) h
        rw [show k + (j + 1) = k + 1 + j by omega]
        exact List.mem_cons_of_mem _ this
theorem xpad_len : ∀ (n : Nat) (l : List Value), l.length ≤ n → (xpad n l).length = n
  | 0, l, h => by
    have : l = [] := List.length_eq_zero_iff.mp (by omega)
    subst this; rfl
  | n + 1, [], _ => by
    show (xpad n []).length + 1 = n + 1
    rw [xpad_len n [] (Nat.zero_le _)]
  | n + 1, v :: l, h => by
    show (xpad n l).length + 1 = n + 1
    rw [xpad_len n l (by simpa using h)]
theorem xpad_get : ∀ (n : Nat) (l : List Value) (i : Nat), l.length ≤ n → xg (xpad n l) i = xg l i
  | 0, l, i, _ => rfl
  | n + 1, [], i, _ => by
    cases i with
    | zero => rfl
    | succ i => exact xpad_get n [] i (Nat.zero_le _)
  | n + 1, v :: l, i, h => by
    cases i with
    | zero => rfl
    | succ i => exact xpad_get n l i (by simpa using h)
theorem xLoc_entry {base : Nat} {old : Nat → Nat} {as : List Value} {n : Nat} (h : (xspread as).length ≤ n) : xLoc base old (xpad n (xspread as)) ((lg_sl (as.map (xv base old)) ++ List.replicate (n - (lg_sl (as.map (xv base old))).length) Slot.unset).toArray) := by
  have hl := lv_entry (as.map (xv base old)) (n := n) (by rw [sl_len]; exact h)
  refine ⟨hl.1.trans (xpad_len n _ h).symm, hl.2.1, fun i hi => ?_⟩
  rw [xpad_get n _ i h] at hi ⊢
  have := args_mem base old as i 0 hi
  rw [Nat.zero_add] at this
  exact hl.2.2 _ this
set_option maxRecDepth 100000 in
theorem xprog_len : xprog.length = 301 := by decide +kernel
set_option maxRecDepth 100000 in
theorem xmeta_len : xmeta.length = 301 := by decide +kernel
theorem xprog_some {mid : Nat} (h : mid < 301) : ∃ M, xprog[mid]? = some M := by
  cases hq : xprog[mid]? with
  | none =>
    have := List.getElem?_eq_none_iff.mp hq
    rw [xprog_len] at this
    omega
  | some M => exact ⟨M, rfl⟩
theorem xmeta_some {mid : Nat} (h : mid < 301) : ∃ y, xmeta[mid]? = some y := by
  cases hq : xmeta[mid]? with
  | none =>
    have := List.getElem?_eq_none_iff.mp hq
    rw [xmeta_len] at this
    omega
  | some M => exact ⟨M, rfl⟩
section XMAIN
variable {base : Nat} {old : Nat → Nat} {dA : Nat → ClassId} {D : va_G} {E : Nat × (Nat → Int32)}
def xPc (base : Nat) (old : Nat → Nat) (dA : Nat → ClassId) (D : va_G) (E : Nat × (Nat → Int32)) (as : List Value) (A : xH) : Array Value → State → Prop := fun a U => a = (as.map (xv base old)).toArray ∧ U.heap.size = base + A.length ∧ va_P D xclasses (xw base old dA A) U.heap ∧ xtok A ∧ xEnv base old dA D E U
def xQc (base : Nat) (old : Nat → Nat) (dA : Nat → ClassId) (D : va_G) (v : Option Value) (A' : xH) : Array Value → State → Outcome → State → Prop := fun _ st o t => o = .returned (v.map (xv base old)) ∧ va_P D xclasses (xw base old dA A') t.heap ∧ xtok A' ∧ va_F (fun q => base ≤ q) st t
def xrm (d : Nat) (A A' : xH) : Room := { frames := d + 4, cells := A'.length - A.length, slots := xsl A' - xsl A, locals := 64 * d + 100 }
/-- the contract of a run of the abstract machine -/
def xMet (base : Nat) (old : Nat → Nat) (dA : Nat → ClassId) (D : va_G) (E : Nat × (Nat → Int32)) (l : Launch) (d : Nat) (y : MethodName) (b : ByteArray) (mx : Nat) (rt : Option FieldType) (as : List Value) (A : xH) (v : Option Value) (A' : xH) : Prop :=
  Met l y (.code y b mx rt :: gw) (xrm d A A') (xPc base old dA D E as A) (xQc base old dA D v A') (A'.length - A.length) (xsl A' - xsl A) (fun q => base ≤ q)
variable {p : Program} {l : Launch} {e : Env} {R : Room} {s : State} {m : MethodId} {args : Array Value} {below : List Frame} {meth : Method} {c : Code} {Q : State → Prop}
variable {M : xM} {b : ByteArray} {a0 s0 : Nat}
theorem run_done {pc : Nat} {als s1 : List Value} {A A' : xH} {v : Option Value} {H : Heap} {locs : List Loc} {ls : Array Slot} {st0 : List Value} {a : Array Value} (ha : a0 ≤ A.length) (hs : s0 ≤ xsl A) (hg : A.length ≤ A'.length ∧ xsl A ≤ xsl A') (hX : xAt base old dA D s A H locs) (hl : xLoc base old als ls)
    (hr : va_Run p l e R s m args below meth c H locs (A.length - a0) (xsl A - s0) (A'.length - A.length) (xsl A' - xsl A) (F0 m pc ls st0) (s1.map (xv base old)) (xQc base old dA D v A' a) (fun q => base ≤ q)) (kk : xK base old dA D p l e R s m args below meth c Q a0 s0 (pc + 3) als (v.toList ++ s1) A') :
    W p l e R s m args below meth c H locs (A.length - a0) (xsl A - s0) Q (F0 m pc ls st0) := by
  intro T hT X
  obtain ⟨v', st₀, t, T', L, h0, X', hL, e1, e2, ⟨hv, hP, htk, hF⟩, st⟩ := hr T hT X
  cases hv
  have hS : va_S (fun q => base ≤ q) s.heap T'.heap (locs ++ L) := by
    obtain ⟨hF1, hF2⟩ := hF
    rw [h0] at hF1 hF2
    refine ⟨?_, fun q h1 h2 => ?_, fun q hq => ?_⟩
    · rw [e1]
      exact Nat.le_trans hX.2.2.1 hF1
    · rw [e1, hF2 q (Nat.lt_of_lt_of_le h1 hX.2.2.1) h2]
      exact hX.2.2.2.1 q h1 h2
    · rcases List.mem_append.mp hq with h | h
      · exact hX.2.2.2.2 q h
      · exact hL q h
  have hk := kk T'.heap (locs ++ L) ls ⟨by rw [e1]; exact hP, htk, hS⟩ hl
  have c1 : A.length - a0 + (A'.length - A.length) = A'.length - a0 := by omega
  have c2 : xsl A - s0 + (xsl A' - xsl A) = xsl A' - s0 := by omega
  rw [c1, c2] at X'
  obtain ⟨t2, a1, b1⟩ := hk T' rfl X'
  refine ⟨t2, st t2 ?_, b1⟩
  have e3 : (v.toList ++ s1).map (xv base old) = (v.map (xv base old)).toList ++ s1.map (xv base old) := by
    cases v <;> rfl
  rw [e3] at a1
  exact a1
theorem call_ok {ik idx lk pc : Nat} {als st : List Value} {A A' : xH} {v : Option Value} {w : (Nat × List Value × Nat) × (Nat × List Value × List Value × xH)} {d : Nat} (C : xCx base old dA D E p s m args meth c M b a0) (hal : als.length = M.2.2.2.1) (ha : a0 ≤ A.length) (hs : s0 ≤ xsl A) (hg : A.length ≤ A'.length ∧ xsl A ≤ xsl A') (h1 : A'.length - a0 ≤ R.cells) (h2 : xsl A' - s0 ≤ R.slots) (hfr : d + 5 ≤ R.frames) (hlo : 64 * (d + 1) + 100 ≤ R.locals) (hik : ik < 3)
    (hdg : (ik = 0 → decode b pc = .ok (.invokevirtual idx, 3)) ∧ (ik = 1 → decode b pc = .ok (.invokespecial idx, 3)) ∧ (ik = 2 → decode b pc = .ok (.invokestatic idx, 3))) (h : xinv xtabs M.1 xgo0 xcl0 ik idx lk pc als st A = some (.inr (.inl w)))
    (hrec : ∀ M', xprog[w.1.1]? = some M' → xrecv M' w.1.2.1 A = true)
    (hM : ∀ (M' : xM) (y : MethodName) (b' : ByteArray) (rt : Option FieldType), w.1.1 < 300 → xprog[w.1.1]? = some M' → xmeta[w.1.1]? = some (y, b', rt) → xMet base old dA D E l d y b' M'.2.2.2.1 rt w.1.2.1 A v A')
    (kk : xK base old dA D p l e R s m args below meth c Q a0 s0 w.2.1 w.2.2.1 (v.toList ++ w.2.2.2.1) A') : xK base old dA D p l e R s m args below meth c Q a0 s0 pc als st A := by
  obtain ⟨hx, hb, hml, hown, hts, henv, hini, hz⟩ := C
  obtain ⟨kd, mid, na, rk, hT, hkd, hc⟩ := i_inv h
  have hlink := ml_all _ (List.mem_of_getElem? (show xML[lk]? = some _ from hT))
  rcases hc with ⟨_, _, _, -, -, q⟩ | ⟨_, _, _, _, -, -, q⟩ | ⟨_, _, _, _, -, -, q⟩ | ⟨_, _, _, _, _, _, _, _, -, -, -, q⟩ | ⟨_, _, _, _, -, -, -, q⟩ | ⟨_, _, _, _, _, -, -, -, q⟩ | ⟨_, _, _, _, -, -, -, q⟩ | ⟨hk6, as, s1, hpop, hcat, q⟩
  · cases q
  · cases q
  · cases q
  · cases q
  · cases q
  · cases q
  · cases q
  cases q
  dsimp only at hrec hM kk
  obtain ⟨pre, rfl, has, hlen⟩ := xpop_inv _ _ _ _ _ hpop
  rw [List.append_nil] at has
  have hst : ((pre ++ s1).map (xv base old)) = (as.map (xv base old)).reverse ++ s1.map (xv base old) := by
    rw [has, List.map_append, List.map_reverse, List.reverse_reverse]
  have hasl : as.length = na := by rw [has, List.length_reverse, hlen]
  refine xK.size hz ha (fun H locs ls hX hsz hl => ?_)
  rw [hst]
  have hmlL : c.maxLocals = ls.size := by rw [hml, ← hal]; exact hl.1.symm
  have hroom : A.length - a0 + (A'.length - A.length) ≤ R.cells ∧ xsl A - s0 + (xsl A' - xsl A) ≤ R.slots := by omega
  have hW8 : ((s1.map (xv base old)).map fun v => v.category).sum ≤ 8 := by rw [cat_sum]; exact hcat
  have hpreS : ∀ U : State, U.heap = H → s.WarmedH U.vm → xPc base old dA D E as A (as.map (xv base old)).toArray U := fun U hU hW => ⟨rfl, by rw [hU]; exact hsz, by rw [hU]; exact hX.1, hX.2.1, xEnv_warm hU hW hX.2.2 henv⟩
  have hblind : FrameBlind (xPc base old dA D E as A) := fun a U g mk q => ⟨q.1, q.2.1, q.2.2.1, q.2.2.2.1, xEnv_same (U := U) (U' := U.calling g mk a) rfl rfl q.2.2.2.2⟩
  have main : ∀ (k0 : Nat) (nst : Bool), xLk M.1 idx k0 mid na nst → k0 < 3 → (k0 = 0 → ik = 0) → (k0 = 1 → ik = 2) → (k0 = 2 → ik = 1) → W p l e R s m args below meth c H locs (A.length - a0) (xsl A - s0) Q (F0 m pc ls ((as.map (xv base old)).reverse ++ s1.map (xv base old))) := by
    intro k0 nst hL hk0 hi0 hi1 hi2
    obtain ⟨hmid, hL⟩ := hL
    obtain ⟨M', hP⟩ := xprog_some (mid := mid) (by omega)
    obtain ⟨⟨y, b', rt⟩, hY⟩ := xmeta_some (mid := mid) (by omega)
    obtain ⟨hl1, hl2, hl3, hl4⟩ := hL M' y b' rt hP hY
    obtain ⟨g1, g2, g3, g4, g5, g6, g7, g8⟩ := mk_all mid hmid M' y b' rt hP hY
    have hMet := hM M' y b' rt hmid hP hY
    have hrc := hrec M' hP
    have hroom2 : (xrm d A A').frames + 1 ≤ R.frames ∧ 8 + (M'.2.2.2.1 + 11) + (xrm d A A').locals ≤ R.locals := by
      refine ⟨hfr, ?_⟩
      show 8 + (M'.2.2.2.1 + 11) + (64 * d + 100) ≤ R.locals
      omega
    have recv : ∀ a as', as = .ref a :: as' → M'.1 < 10 → (M'.2.2.1 = 0 ∨ M'.2.2.1 = 2) → ∃ cellB : Cell, H[base + a]? = some cellB ∧ cellB.vm.isStatics = false ∧ s.vm.findClass y.cls = some cellB.cls := by
      intro a as' e hlt hst
      rw [e] at hrc
      have hcl : xcls A a = some M'.1 := by
        unfold xrecv at hrc
        rcases hst with q | q <;> rw [q] at hrc <;> simpa using hrc
      obtain ⟨fs, hA⟩ := j_cls hcl
      obtain ⟨C, T, N, ty, hc, hty, hCn, -⟩ := xk_all M'.1 hlt
      have := va_recv henv.1 hX.1 hc (xw_get hA)
      rw [g2, ← hCn]
      exact this
    have hcons : k0 ≠ 1 → ∃ a as', as = .ref a :: as' := by
      intro hne
      unfold xrecv at hrc
      have hn1 : M'.2.2.1 ≠ 1 := by rw [hl2]; exact hne
      split at hrc
      · rename_i q; exact absurd q hn1
      · split at hrc
        · exact ⟨_, _, rfl⟩
        · cases hrc
    match k0, hk0 with
    | 0, _ =>
      obtain ⟨a, as', e⟩ := hcons (by decide)
      rw [hl2] at g7
      obtain ⟨hlt, gi, gs⟩ := g7
      have hrcv := recv a as' e hlt (Or.inl hl2)
      subst e
      have hn : (as'.map (xv base old)).length = na - 1 := by rw [List.length_map, ← hasl]; simp
      have hl3' : (parseMethodDescriptor y.desc).map (fun d => d.parameters.length) = some (na - 1) := hl3
      have hstk : (((Value.ref a :: as').map (xv base old)).reverse ++ s1.map (xv base old)) = (as'.map (xv base old)).reverse ++ .ref (base + a) :: s1.map (xv base old) := by
        simp [xv]
      rw [hstk]
      cases nst with
      | false =>
        refine run_done ha hs hg hX hl (va_runV (Ts := gw) (nL := ls.size) (C := y.cls) (b := base + a) (As := as'.map (xv base old)) ⟨hx, hb, hmlL, hown, hts⟩ hMet ⟨callB_of (na - 1) hts (gw_goodIn g1) rfl rfl rfl (hts _ g5) (hts _ (by simpa using hl1)) ⟨g4.1, g4.2, hl3'⟩ hroom2, hts _ gi, hts _ gs⟩ ⟨hblind, hrcv, hpreS⟩ rfl hn rfl rfl (lv_room hW8) (hdg.1 (hi0 rfl)) hroom) kk
      | true =>
        refine run_done ha hs hg hX hl (va_runVN (Ts := gw) (nL := ls.size) (C := y.cls) (host := "TwinBuckets") (b := base + a) (As := as'.map (xv base old)) ⟨hx, hb, hmlL, hown, hts⟩ hMet ⟨va_cnB (na - 1) hts (gw_goodIn g1) rfl rfl rfl (henv.2.1 _ (by simpa using hl1)) (hts _ g5) ⟨g4.1, g4.2, hl3'⟩ hroom2, hts _ gi, hts _ gs⟩ ⟨hblind, hrcv, hpreS⟩ rfl hn rfl rfl (lv_room hW8) (hdg.1 (hi0 rfl)) hroom) kk
    | 1, _ =>
      rw [hl2] at g7
      have hn : (as.map (xv base old)).length = na := by rw [List.length_map, ← hasl]
      have hl3' : (parseMethodDescriptor y.desc).map (fun d => d.parameters.length) = some na := hl3
      cases nst with
      | false =>
        refine run_done ha hs hg hX hl (va_runS (Ts := gw) (nL := ls.size) (As := as.map (xv base old)) ⟨hx, hb, hmlL, hown, hts⟩ hMet ⟨callB_of na hts (gw_goodIn g1) rfl rfl rfl (hts _ g5) (hts _ (by simpa using hl1)) ⟨g4.1, g4.2, hl3'⟩ hroom2, hts _ g7⟩ ⟨hblind, hpreS⟩ rfl hn rfl rfl (lv_room hW8) (hdg.2.2 (hi1 rfl)) hroom) kk
      | true =>
        refine run_done ha hs hg hX hl (va_runSN (Ts := gw) (nL := ls.size) (host := "TwinBuckets") (As := as.map (xv base old)) ⟨hx, hb, hmlL, hown, hts⟩ hMet ⟨va_cnB na hts (gw_goodIn g1) rfl rfl rfl (henv.2.1 _ (by simpa using hl1)) (hts _ g5) ⟨g4.1, g4.2, hl3'⟩ hroom2, hts _ g7, trivial⟩ ⟨hblind, hpreS⟩ rfl hn rfl rfl (lv_room hW8) (hdg.2.2 (hi1 rfl)) hroom) kk
    | 2, _ =>
      obtain ⟨a, as', e⟩ := hcons (by decide)
      rw [hl2] at g7
      obtain ⟨hlt, -, gi, gn, hrt⟩ := g7
      subst e
      have hn : (as'.map (xv base old)).length = na - 1 := by rw [List.length_map, ← hasl]; simp
      have hl3' : (parseMethodDescriptor y.desc).map (fun d => d.parameters.length) = some (na - 1) := hl3
      have hstk : (((Value.ref a :: as').map (xv base old)).reverse ++ s1.map (xv base old)) = (as'.map (xv base old)).reverse ++ .ref (base + a) :: s1.map (xv base old) := by
        simp [xv]
      rw [hstk]
      subst hrt
      cases nst with
      | false =>
        refine run_done ha hs hg hX hl (va_runI (Ts := gw) (nL := ls.size) (b := base + a) (As := as'.map (xv base old)) ⟨hx, hb, hmlL, hown, hts⟩ hMet ⟨callB_of (na - 1) hts (gw_goodIn g1) rfl rfl rfl (hts _ g5) (hts _ (by simpa using hl1)) ⟨g4.1, g4.2, hl3'⟩ hroom2, gn, hts _ gi⟩ ⟨hblind, hpreS⟩ rfl hn rfl rfl (lv_room hW8) (hdg.2.1 (hi2 rfl)) hroom) kk
      | true =>
        refine run_done ha hs hg hX hl (va_runIN (Ts := gw) (nL := ls.size) (host := "TwinBuckets") (b := base + a) (As := as'.map (xv base old)) ⟨hx, hb, hmlL, hown, hts⟩ hMet ⟨va_cnB (na - 1) hts (gw_goodIn g1) rfl rfl rfl (henv.2.1 _ (by simpa using hl1)) (hts _ g5) ⟨g4.1, g4.2, hl3'⟩ hroom2, gn, hts _ gi⟩ ⟨hblind, hpreS⟩ rfl hn rfl rfl (lv_room hW8) (hdg.2.1 (hi2 rfl)) hroom) kk
  unfold xMLok at hlink
  dsimp only at hlink
  match kd, hk6 with
  | 0, _ => exact main 0 false hlink (by decide) (fun _ => by match ik, hik, hkd with | 0, _, _ => rfl | 1, _, q => exact absurd q (by decide) | 2, _, q => exact absurd q (by decide)) (fun q => absurd q (by decide)) (fun q => absurd q (by decide))
  | 1, _ => exact main 1 false hlink (by decide) (fun q => absurd q (by decide)) (fun _ => by match ik, hik, hkd with | 0, _, q => exact absurd q (by decide) | 1, _, q => exact absurd q (by decide) | 2, _, _ => rfl) (fun q => absurd q (by decide))
  | 2, _ => exact main 2 false hlink (by decide) (fun q => absurd q (by decide)) (fun q => absurd q (by decide)) (fun _ => by match ik, hik, hkd with | 0, _, q => exact absurd q (by decide) | 1, _, _ => rfl | 2, _, q => exact absurd q (by decide))
  | 3, _ => exact main 0 true hlink (by decide) (fun _ => by match ik, hik, hkd with | 0, _, _ => rfl | 1, _, q => exact absurd q (by decide) | 2, _, q => exact absurd q (by decide)) (fun q => absurd q (by decide)) (fun q => absurd q (by decide))
  | 4, _ => exact main 1 true hlink (by decide) (fun q => absurd q (by decide)) (fun _ => by match ik, hik, hkd with | 0, _, q => exact absurd q (by decide) | 1, _, q => exact absurd q (by decide) | 2, _, _ => rfl) (fun q => absurd q (by decide))
  | 5, _ => exact main 2 true hlink (by decide) (fun q => absurd q (by decide)) (fun q => absurd q (by decide)) (fun _ => by match ik, hik, hkd with | 0, _, q => exact absurd q (by decide) | 1, _, _ => rfl | 2, _, q => exact absurd q (by decide))
/-- the end of a method with a contract -/
theorem ret_ok {pc lk : Nat} {ins : Instr} {dead : List Nat} {als st : List Value} {A' : xH} {v : Option Value} {rt : Option FieldType} (C : xCx base old dA D E p s m args meth c M b a0) (hr : xrok b (pc, ins, lk, dead) = true) (hret : meth.sig.returnType = rt) (hlocks : meth.locks = false) (hrk : match M.2.1 with
    | 0 => rt = none
    | 1 => rt = some .int
    | 2 => rt = some .boolean
    | 3 => rt = some .long
    | _ => ∃ r, rt = some r ∧ ((∃ n, r = .object n) ∨ ∃ t, r = .array t)) (h : xeff xtabs E M.1 M.2.1 M.2.2.1 (pc, ins, lk, dead) als st A' = some (.inr (.inr (v, A')))) :
    xK base old dA D p l e R s m args below meth c (MQ below (xQc base old dA D v A') args s (A'.length - a0) (xsl A' - s0) (fun q => base ≤ q)) a0 s0 pc als st A' := by
  obtain ⟨n, hdec, hlen, -, -⟩ := row_dec hr
  obtain ⟨hx, hb, hml, hown, hts, henv, hini, hz⟩ := C
  intro H locs ls hX hl
  have post : ∀ (v : Option Value) (t : State), t.heap = H → s.WarmedH t.vm → xQc base old dA D v A' args s (.returned (v.map (xv base old))) t := fun v t ht hW => ⟨rfl, by rw [ht]; exact hX.1, hX.2.1, hX.2.2.F ht⟩
  unfold xeff at h
  by_cases hi : ins = .ireturn ∨ ins = .lreturn ∨ ins = .areturn ∨ ins = .return_
  · rcases hi with rfl | rfl | rfl | rfl
    · have hd := hlen rfl (by simp [xlen]); subst hd
      unfold xG at h; dsimp only at h
      split at h
      · rename_i x
        split at h
        · rename_i q
          cases h
          rw [q] at hrk
          exact W.iret (v := x) hx hb (hret.trans hrk) (post (some (.int x))) hX.2.2.2.2 hdec hlocks
        · rename_i q
          split at h
          · rename_i h01
            cases h
            rw [q] at hrk
            exact W.zret (ty := .boolean) (v := x) hx hb (hret.trans hrk) (nar01 h01) (post (some (.int x))) hX.2.2.2.2 hdec hlocks
          · cases h
        · cases h
      · cases h
    · have hd := hlen rfl (by simp [xlen]); subst hd
      unfold xG at h; dsimp only at h
      split at h
      · rename_i x
        split at h
        · rename_i q
          cases h
          rw [q] at hrk
          exact W.lret (v := x) hx hb (hret.trans hrk) (post (some (.long x))) hX.2.2.2.2 hdec hlocks
        · cases h
      · cases h
    · have hd := hlen rfl (by simp [xlen]); subst hd
      unfold xG at h; dsimp only at h
      split at h
      · rename_i a
        split at h
        · rename_i q
          cases h
          rw [q] at hrk
          obtain ⟨r, hr1, hr2⟩ := hrk
          exact W.aret (v := .ref (base + a)) hx hb (hret.trans hr1) hr2 (Or.inr ⟨_, rfl⟩) (post (some (.ref a))) hX.2.2.2.2 hdec hlocks
        · cases h
      · split at h
        · rename_i q
          cases h
          rw [q] at hrk
          obtain ⟨r, hr1, hr2⟩ := hrk
          exact W.aret (v := .null) hx hb (hret.trans hr1) hr2 (Or.inl rfl) (post (some .null)) hX.2.2.2.2 hdec hlocks
        · cases h
      · cases h
    · have hd := hlen rfl (by simp [xlen]); subst hd
      unfold xG at h; dsimp only at h
      split at h
      · split at h
        · rename_i q
          cases h
          rw [q] at hrk
          exact W.vret hx hb (hret.trans hrk) (post none) hX.2.2.2.2 hdec hlocks
        · cases h
      · cases h
  · rcases xeff_kind (show xeff xtabs E M.1 M.2.1 M.2.2.1 (pc, ins, lk, dead) als st A' = _ from h) with ⟨q, hq⟩ | ⟨i, hq⟩ | hq
    · cases hq
    · exfalso
      rcases hq with rfl | rfl | rfl
      · exact inv_noret (show xinv xtabs M.1 xgo0 xcl0 0 i lk pc als st A' = _ from h)
      · exact inv_noret (show xinv xtabs M.1 xgo0 xcl0 1 i lk pc als st A' = _ from h)
      · exact inv_noret (show xinv xtabs M.1 xgo0 xcl0 2 i lk pc als st A' = _ from h)
    · exact absurd hq hi
theorem xmask_len : ∀ (is : List Nat) (l : List Value), (xmask is l).length = l.length
  | [], _ => rfl
  | i :: is, l => by
    show (xmask is (xs l i xJ)).length = l.length
    rw [xmask_len is, xs_len]
def xSnd (base : Nat) (old : Nat → Nat) (dA : Nat → ClassId) (D : va_G) (E : Nat × (Nat → Int32)) (n : Nat) : Prop :=
  ∀ (d mid pc : Nat) (als st : List Value) (A : xH) (v : Option Value) (A' : xH), xexec xprog xtabs E n d mid pc als st A = some (v, A') →
  ∀ (p : Program) (l : Launch) (e : Env) (R : Room) (s : State) (m : MethodId) (args : Array Value) (below : List Frame) (meth : Method) (c : Code) (Q : State → Prop) (M : xM) (y : MethodName) (b : ByteArray) (rt : Option FieldType) (a0 s0 : Nat), xprog[mid]? = some M → xmeta[mid]? = some (y, b, rt) → xCx base old dA D E p s m args meth c M b a0 → als.length = M.2.2.2.1 → a0 ≤ A.length → s0 ≤ xsl A → A'.length - a0 ≤ R.cells → xsl A' - s0 ≤ R.slots → d + 4 ≤ R.frames → 64 * d + 100 ≤ R.locals →
  (∀ (pc lk : Nat) (ins : Instr) (dead : List Nat) (als st : List Value), xrok b (pc, ins, lk, dead) = true → xeff xtabs E M.1 M.2.1 M.2.2.1 (pc, ins, lk, dead) als st A' = some (.inr (.inr (v, A'))) → xK base old dA D p l e R s m args below meth c Q a0 s0 pc als st A') → xK base old dA D p l e R s m args below meth c Q a0 s0 pc als st A
/-- a run's contract, by what is known of shorter runs -/
theorem xmet_of {n : Nat} (IH : xSnd base old dA D E n) {d mid : Nat} {as : List Value} {A A' : xH} {v : Option Value} (h : xinto xprog mid as A (fun l => xexec xprog xtabs E n d mid 0 l [] A) = some (v, A')) (hmid : mid < 300) {M : xM} {y : MethodName} {b : ByteArray} {rt : Option FieldType} (hM : xprog[mid]? = some M) (hY : xmeta[mid]? = some (y, b, rt)) : xMet base old dA D E l d y b M.2.2.2.1 rt as A v A' := by
  obtain ⟨g1, g2, g3, g4, g5, g6, g7, g8⟩ := mk_all mid hmid M y b rt hM hY
  unfold xinto at h
  rw [hM] at h
  dsimp only at h
  split at h
  · rename_i hc
    obtain ⟨hrc, hsp⟩ := hc
    have hgr := xexec_grow _ _ _ _ _ _ _ _ _ _ _ h
    refine Met.ofW (cc := b) (maxL := M.2.2.2.1) (ret := rt) g3 rfl ?_
    intro p e s m args below meth c s₁ B hml hv
    obtain ⟨rfl, hsz, hP, htk, henv⟩ := hv
    have hown : s.vm.findClass (xcn M.1) = some m.cls := by rw [← g2]; exact findClass_of_methodNamed B.named
    have hts : ∀ w ∈ gw, w.before _ s = true := fun w hw => atoms_spec B.pre w (List.mem_cons_of_mem _ hw)
    have hin : M.2.2.1 = 2 → meth.name = "<init>" := by
      intro q
      rw [q] at g7
      rw [(name_of_methodNamed B.named B.method).1]
      exact g7.2.2.2.1
    have C : xCx base old dA D E p s m (as.map (xv base old)).toArray meth c M b A.length := ⟨B.exec, B.bytes, hml, hown, hts, henv, hin, hsz⟩
    have hK := IH d mid 0 _ [] A v A' h p l e (xrm d A A') s m _ below meth c (MQ below (xQc base old dA D v A') (as.map (xv base old)).toArray s (A'.length - A.length) (xsl A' - xsl A) (fun q => base ≤ q)) M y b rt A.length (xsl A) hM hY C (xpad_len _ _ hsp) (Nat.le_refl _) (Nat.le_refl _) (Nat.le_refl _) (Nat.le_refl _) (Nat.le_refl _) (Nat.le_refl _) (fun pc lk ins dead als st hr hh => ret_ok C hr B.returns B.notSynchronized g6 hh)
    rw [lg_entry_eq]
    have := hK s.heap [] _ ⟨hP, htk, va_S.rf⟩ (xLoc_entry hsp)
    rw [Nat.sub_self, Nat.sub_self] at this
    exact this
  · cases h
theorem xsound : ∀ n, xSnd base old dA D E n
  | 0 => fun d mid pc als st A v A' h => by cases h
  | n + 1 => by
    have IH := xsound n
    intro d mid pc als st A v A' h p l e R s m args below meth c Q M y b rt a0 s0 hM hY C hal ha hs h1 h2 hfr hlo hend
    have hmid : mid < 301 := by
      have := (List.getElem?_eq_some_iff.mp hM).1
      rw [xprog_len] at this
      exact this
    rw [xexec_s] at h
    obtain ⟨M', r, hM', hr, hpc, hc⟩ := xon_inv h
    cases hM.symm.trans hM'
    have hrow : xrok b r = true := List.all_eq_true.mp (dk_all mid hmid M y b rt hM hY) r hr
    obtain ⟨pc', ins, lk, dead⟩ := r
    have hpc' : pc' = pc := hpc
    subst hpc'
    dsimp only at hc
    have hal' : (xmask dead als).length = M.2.2.2.1 := by rw [xmask_len]; exact hal
    suffices hK : xK base old dA D p l e R s m args below meth c Q a0 s0 pc' (xmask dead als) st A from fun H locs ls hX hl => hK H locs ls hX (xLoc.mask dead als hl)
    rcases hc with ⟨w, g1, g2⟩ | ⟨w, v1, A1, g1, g2, g3⟩ | g1
    · have k1 : A.length ≤ w.2.2.2.length ∧ xsl A ≤ xsl w.2.2.2 ∧ w.2.1.length = (xmask dead als).length := xeff_grow g1
      have k2 := xexec_grow _ _ _ _ _ _ _ _ _ _ _ g2
      dsimp only at k2
      obtain ⟨wp, wl, ws, wA⟩ := w
      dsimp only at k1 k2 g2
      exact xgo C hal' ha hs (by omega) (by omega) (by omega) (by omega) hrow g1 (IH d mid wp wl ws wA v A' g2 p l e R s m args below meth c Q M y b rt a0 s0 hM hY C (k1.2.2.trans hal') (by omega) (by omega) h1 h2 hfr hlo hend)
    · have k1 : w.2.2.2.2 = A ∧ w.2.2.1.length = (xmask dead als).length := xeff_grow g1
      have k3 := xexec_grow _ _ _ _ _ _ _ _ _ _ _ g3
      dsimp only at k3
      cases d with
      | zero => cases g2
      | succ d =>
        rw [k1.1] at g2
        have g2' : xinto xprog w.1.1 w.1.2.1 A (fun l => xexec xprog xtabs E n d w.1.1 0 l [] A) = some (v1, A1) := g2
        have hinto : ∀ M', xprog[w.1.1]? = some M' → xrecv M' w.1.2.1 A = true ∧ (A.length ≤ A1.length ∧ xsl A ≤ xsl A1) := by
          intro M' hM1
          have q := g2'
          unfold xinto at q
          rw [hM1] at q
          dsimp only at q
          split at q
          · rename_i hcc
            have := xexec_grow _ _ _ _ _ _ _ _ _ _ _ q
            exact ⟨hcc.1, this⟩
          · cases q
        have hA1 : A.length ≤ A1.length ∧ xsl A ≤ xsl A1 := by
          cases hq : xprog[w.1.1]? with
          | none => rw [xinto, hq] at g2'; cases g2'
          | some M' => exact (hinto M' hq).2
        have kont : xK base old dA D p l e R s m args below meth c Q a0 s0 w.2.1 w.2.2.1 (v1.toList ++ w.2.2.2.1) A1 := IH (d + 1) mid _ _ _ A1 v A' g3 p l e R s m args below meth c Q M y b rt a0 s0 hM hY C (k1.2.trans hal') (by omega) (by omega) h1 h2 hfr hlo hend
        obtain ⟨nn, hdec, hlen, -, -⟩ := row_dec hrow
        rcases xeff_kind g1 with ⟨q, hq⟩ | ⟨i, hq⟩ | hq
        · cases hq
        · rcases hq with rfl | rfl | rfl
          · have hd := hlen rfl (by simp [xlen]); subst hd
            exact call_ok (ik := 0) (d := d) C hal' ha hs hA1 (by omega) (by omega) (by omega) (by omega) (by decide) ⟨fun _ => hdec, fun q => absurd q (by decide), fun q => absurd q (by decide)⟩ (show xinv xtabs M.1 xgo0 xcl0 0 i lk pc' (xmask dead als) st A = _ from g1) (fun M' hM1 => (hinto M' hM1).1) (fun M' y' b' rt' hlt hM1 hY1 => xmet_of IH g2' hlt hM1 hY1) kont
          · have hd := hlen rfl (by simp [xlen]); subst hd
            exact call_ok (ik := 1) (d := d) C hal' ha hs hA1 (by omega) (by omega) (by omega) (by omega) (by decide) ⟨fun q => absurd q (by decide), fun _ => hdec, fun q => absurd q (by decide)⟩ (show xinv xtabs M.1 xgo0 xcl0 1 i lk pc' (xmask dead als) st A = _ from g1) (fun M' hM1 => (hinto M' hM1).1) (fun M' y' b' rt' hlt hM1 hY1 => xmet_of IH g2' hlt hM1 hY1) kont
          · have hd := hlen rfl (by simp [xlen]); subst hd
            exact call_ok (ik := 2) (d := d) C hal' ha hs hA1 (by omega) (by omega) (by omega) (by omega) (by decide) ⟨fun q => absurd q (by decide), fun q => absurd q (by decide), fun _ => hdec⟩ (show xinv xtabs M.1 xgo0 xcl0 2 i lk pc' (xmask dead als) st A = _ from g1) (fun M' hM1 => (hinto M' hM1).1) (fun M' y' b' rt' hlt hM1 hY1 => xmet_of IH g2' hlt hM1 hY1) kont
        · exfalso
          rcases hq with rfl | rfl | rfl | rfl <;> (unfold xeff at g1; unfold xG at g1; dsimp only at g1; split at g1 <;> first | cases g1 | (split at g1 <;> first | cases g1 | (split at g1 <;> cases g1)))
    · have k1 : A' = A := xeff_grow g1
      subst k1
      exact hend pc' lk ins dead _ st hrow g1
end XMAIN
end
