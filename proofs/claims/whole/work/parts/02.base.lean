/-! THE PURE MACHINE, its words: ints, longs, references as (site of making, which of them); a heap as three functions -/
abbrev IM : Type := Nat → Nat → Nat → Int32
abbrev JM : Type := Nat → Nat → Nat → Int64
abbrev RM : Type := Nat → Nat → Nat → Option (Nat × Nat)
abbrev AV : Type := Int32 ⊕ (Int64 ⊕ Option (Nat × Nat))
abbrev vi (x : Int32) : AV := .inl x
abbrev vl (x : Int64) : AV := .inr (.inl x)
abbrev vr (s j : Nat) : AV := .inr (.inr (some (s, j)))
abbrev vn : AV := .inr (.inr none)
/-- how many cells are made; ints; longs; references -/
abbrev AH : Type := Nat × IM × JM × RM
/-- an instruction as it stands; which locals are kept ahead of it (bits; 0: all); three numbers; the place of its word; its constants; a switch's rows -/
abbrev AE : Type := Instr × Nat × Nat × Nat × Nat × Nat × Int32 × Int64 × List (Int32 × Nat)
def E0 (i : Instr) (m : Nat) : AE := (i, m, 0, 0, 0, 0, 0, 0, [])
def EA (i : Instr) (m a : Nat) : AE := (i, m, a, 0, 0, 0, 0, 0, [])
def EK (i : Instr) (m a p : Nat) (k : Int32) : AE := (i, m, a, 0, 0, p, k, 0, [])
def EL (i : Instr) (m p : Nat) (k : Int64) : AE := (i, m, 0, 0, 0, p, 0, k, [])
def EP (i : Instr) (m a b c p : Nat) : AE := (i, m, a, b, c, p, 0, 0, [])
def ES (i : Instr) (m a : Nat) (l : List (Int32 × Nat)) : AE := (i, m, a, 0, 0, 0, 0, 0, l)
def eI (e : AE) : Instr := e.1
def eM (e : AE) : Nat := e.2.1
def eA (e : AE) : Nat := e.2.2.1
def eB (e : AE) : Nat := e.2.2.2.1
def eC (e : AE) : Nat := e.2.2.2.2.1
def eP (e : AE) : Nat := e.2.2.2.2.2.1
def eK (e : AE) : Int32 := e.2.2.2.2.2.2.1
def eJ (e : AE) : Int64 := e.2.2.2.2.2.2.2.1
def eS (e : AE) : List (Int32 × Nat) := e.2.2.2.2.2.2.2.2
def updI (I : IM) (s j k : Nat) (v : Int32) : IM := fun a b c => bif Nat.beq a s && (Nat.beq c k && Nat.beq b j) then v else I a b c
def updJ (I : JM) (s j k : Nat) (v : Int64) : JM := fun a b c => bif Nat.beq a s && (Nat.beq c k && Nat.beq b j) then v else I a b c
def updR (I : RM) (s j k : Nat) (v : Option (Nat × Nat)) : RM := fun a b c => bif Nat.beq a s && (Nat.beq c k && Nat.beq b j) then v else I a b c
def zerI (I : IM) (s j : Nat) : IM := fun a b c => bif Nat.beq a s && Nat.beq b j then 0 else I a b c
def zerJ (I : JM) (s j : Nat) : JM := fun a b c => bif Nat.beq a s && Nat.beq b j then 0 else I a b c
def zerR (I : RM) (s j : Nat) : RM := fun a b c => bif Nat.beq a s && Nat.beq b j then none else I a b c
def cpyI (I : IM) (s j s2 j2 sp dp n : Nat) : IM := fun a b c => bif Nat.beq a s2 && Nat.beq b j2 then va_cpy (I s j) (I s2 j2) sp dp n c else I a b c
def cpyJ (I : JM) (s j s2 j2 sp dp n : Nat) : JM := fun a b c => bif Nat.beq a s2 && Nat.beq b j2 then va_cpy (I s j) (I s2 j2) sp dp n c else I a b c
def lgt : List AV → Nat → Option AV
  | [], _ => none
  | a :: _, 0 => some a
  | _ :: l, i + 1 => lgt l i
def lst : List AV → Nat → AV → List AV
  | [], _, _ => []
  | _ :: l, 0, v => v :: l
  | a :: l, i + 1, v => a :: lst l i v
def isL : Option AV → Bool
  | some (.inr (.inl _)) => true
  | _ => false
def maskL : Nat → List AV → List AV
  | _, [] => []
  | m, a :: l => (bif Nat.beq (m % 2) 1 then a else vn) :: maskL (m / 2) l
def mkL (m : Nat) (L : List AV) : List AV := bif Nat.beq m 0 then L else maskL m L
def catV : AV → Nat
  | .inr (.inl _) => 2
  | _ => 1
def catS : List AV → Nat
  | [] => 0
  | a :: l => catV a + catS l
/-- a method's locals at its entry: a long takes two places -/
def argL : List AV → List AV
  | [] => []
  | .inr (.inl x) :: l => vl x :: vn :: argL l
  | a :: l => a :: argL l
def padL (n : Nat) (l : List AV) : List AV := l ++ List.replicate (n - l.length) vn
def popN : Nat → List AV → List AV → Option (List AV × List AV)
  | 0, st, acc => some (acc, st)
  | _ + 1, [], _ => none
  | n + 1, a :: st, acc => popN n st (a :: acc)
def swf : List (Int32 × Nat) → Nat → Int32 → Nat
  | [], d, _ => d
  | (k, t) :: r, d, x => if x = k then t else swf r d x
abbrev RS : Type := (Option AV × AH) ⊕ (Nat × Nat × Nat × List AV × List AV × AH)
def nx (c s pc : Nat) (L st : List AV) (h : AH) : Option RS := some (.inr (c, s, pc, L, st, h))
def pI (st : List AV) (k : Int32 → List AV → Option RS) : Option RS := match st with
  | .inl x :: r => k x r
  | _ => none
def pJ (st : List AV) (k : Int64 → List AV → Option RS) : Option RS := match st with
  | .inr (.inl x) :: r => k x r
  | _ => none
def pR (st : List AV) (k : Nat → Nat → List AV → Option RS) : Option RS := match st with
  | .inr (.inr (some (a, b))) :: r => k a b r
  | _ => none
def gI (o : Option AV) (k : Int32 → Option RS) : Option RS := match o with
  | some (.inl x) => k x
  | _ => none
def gJ (o : Option AV) (k : Int64 → Option RS) : Option RS := match o with
  | some (.inr (.inl x)) => k x
  | _ => none
def gR (o : Option AV) (k : Nat → Nat → Option RS) : Option RS := match o with
  | some (.inr (.inr (some (a, b)))) => k a b
  | _ => none
def gd (b : Bool) (k : Option RS) : Option RS := bif b then k else none
/-- an index within -/
def inA (x : Int32) (n : Nat) : Bool := !(decide (x < 0) || Nat.ble n x.toNatClampNeg)
def condI (op : Jvm.ClassFile.Cond) (a b : Int32) : Prop := match op with
  | .eq => a = b
  | .ne => ¬ a = b
  | .lt => a < b
  | .ge => b ≤ a
  | .gt => b < a
  | .le => a ≤ b
