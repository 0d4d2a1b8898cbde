/-! THE PURE MACHINE: one instruction, a method's run, a call -/
def kdx (s : Nat) : Nat := bif Nat.ble 900 s then (bif Nat.beq s 991 then 22 else bif Nat.beq s 990 then 90 else bif Nat.ble s 903 || Nat.beq s 950 then 20 else 98) else kd s
def kdr (s : Nat) : Nat := bif Nat.beq s 990 then 90 else bif Nat.ble s 10 then s else 98
def rdI (I : IM) (s j k : Nat) : Int32 := bif Nat.ble 900 s then (bif Nat.beq s 950 then I 950 0 k else (STl s).getD k 0) else I s j k
def len (h : AH) (s j : Nat) : Nat := bif Nat.beq s 950 then (h.2.1 951 0 0).toNatClampNeg else LENf s j
def condB (op : Jvm.ClassFile.Cond) (a b : Int32) : Bool := match op with
  | .eq => decide (a = b)
  | .ne => decide (¬ a = b)
  | .lt => decide (a < b)
  | .ge => decide (b ≤ a)
  | .gt => decide (b < a)
  | .le => decide (a ≤ b)
def amCallI (f : Nat → List AV → AH → Option (Option AV × AH)) (y : Nat) (e : AE) (c s pc : Nat) (L as rest : List AV) (h : AH) : Option RS :=
  gd (Nat.ble (eA e) 259 && (Nat.ble (catS rest) 8 && (Nat.ble (c + MCf (eA e)) (MCf y) && Nat.ble (s + MSf (eA e)) (MSf y))))
    (match f (eA e) as h with
    | some (some v, h') => nx (c + MCf (eA e)) (s + MSf (eA e)) (pc + 3) L (v :: rest) h'
    | some (none, h') => nx (c + MCf (eA e)) (s + MSf (eA e)) (pc + 3) L rest h'
    | none => none)
def amCallV (f : Nat → List AV → AH → Option (Option AV × AH)) (y : Nat) (e : AE) (c s pc : Nat) (L st : List AV) (h : AH) : Option RS :=
  match popN (eB e) st [] with
  | some (as, .inr (.inr (some (s1, j1))) :: rest) => gd (Nat.beq (kdr s1) (rcv (eA e))) (amCallI f y e c s pc L (vr s1 j1 :: as) rest h)
  | _ => none
def amCallS (f : Nat → List AV → AH → Option (Option AV × AH)) (y : Nat) (e : AE) (c s pc : Nat) (L st : List AV) (h : AH) : Option RS :=
  match popN (eB e) st [] with
  | some (as, rest) => amCallI f y e c s pc L as rest h
  | _ => none
def amCopy (c s pc : Nat) (L st : List AV) (h : AH) : Option RS :=
  pI st fun n r => pI r fun dp r => pR r fun s2 j2 r => pI r fun sp r => pR r fun s1 j1 r =>
    gd (Nat.ble (catS r) 8 && (Nat.ble s1 84 && (Nat.ble s2 84 && (Nat.beq (kd s1) (kd s2) && !(decide (sp < 0) || (decide (dp < 0) || decide (n < 0)))))))
      (gd (Nat.ble (sp.toNatClampNeg + n.toNatClampNeg) (LENf s1 j1) && Nat.ble (dp.toNatClampNeg + n.toNatClampNeg) (LENf s2 j2))
        (bif Nat.beq (kd s1) 20 then nx c s (pc + 3) L r (h.1, cpyI h.2.1 s1 j1 s2 j2 sp.toNatClampNeg dp.toNatClampNeg n.toNatClampNeg, h.2.2)
         else gd (Nat.beq (kd s1) 21) (nx c s (pc + 3) L r (h.1, h.2.1, cpyJ h.2.2.1 s1 j1 s2 j2 sp.toNatClampNeg dp.toNatClampNeg n.toNatClampNeg, h.2.2.2))))
def amNew (y : Nat) (c s pc a n : Nat) (L r : List AV) (h : AH) : Option RS :=
  match TAB[h.1]? with
  | some (s1, j1) => gd (Nat.beq s1 a && (Nat.ble (c + 1) (MCf y) && Nat.ble (s + n) (MSf y)))
      (nx (c + 1) (s + n) pc L (vr s1 j1 :: r) (h.1 + 1, zerI h.2.1 s1 j1, zerJ h.2.2.1 s1 j1, zerR h.2.2.2 s1 j1))
  | none => none
def amNewA (y : Nat) (c s pc a : Nat) (n : Int32) (L r : List AV) (h : AH) : Option RS :=
  match TAB[h.1]? with
  | some (_, j1) => gd (!(decide (n < 0)) && Nat.beq n.toNatClampNeg (LENf a j1)) (amNew y c s pc a (LENf a j1) L r h)
  | none => none
def amGetF (e : AE) (c s pc : Nat) (L st : List AV) (h : AH) : Option RS :=
  pR st fun s1 j1 r => bif Nat.beq (eA e) 90
    then gd (Nat.beq s1 990) (bif Nat.beq (eB e) 0 then nx c s (pc + 3) L (vr 991 0 :: r) h else nx c s (pc + 3) L (vi 0 :: r) h)
    else gd (Nat.beq s1 (eA e)) (bif Nat.beq (eC e) 0 then nx c s (pc + 3) L (vi (h.2.1 s1 j1 (eB e)) :: r) h
      else match h.2.2.2 s1 j1 (eB e) with
        | some (a, b) => nx c s (pc + 3) L (vr a b :: r) h
        | none => none)
def amPutF (e : AE) (c s pc : Nat) (L st : List AV) (h : AH) : Option RS :=
  bif Nat.beq (eC e) 1
    then pR st fun a b r => pR r fun s1 j1 r => gd (Nat.beq s1 (eA e)) (gd (Nat.ble (a + 1) 900) (nx c s (pc + 3) L r (h.1, h.2.1, h.2.2.1, updR h.2.2.2 s1 j1 (eB e) (some (a, b)))))
    else pI st fun x r => pR r fun s1 j1 r => gd (Nat.beq s1 (eA e)) (gd (Nat.beq (eC e) 0 || decide (x &&& 1 = x)) (nx c s (pc + 3) L r (h.1, updI h.2.1 s1 j1 (eB e) x, h.2.2)))
def amI (f : Nat → List AV → AH → Option (Option AV × AH)) (y : Nat) (e : AE) (c s pc : Nat) (L st : List AV) (h : AH) : Option RS :=
  match eI e with
  | .iconst _ => nx c s (pc + 1) L (vi (eK e) :: st) h
  | .bipush _ => nx c s (pc + 2) L (vi (eK e) :: st) h
  | .sipush _ => nx c s (pc + 3) L (vi (eK e) :: st) h
  | .ldc _ => bif Nat.beq (eC e) 1 then nx c s (pc + 2) L (vr (eA e) 0 :: st) h else nx c s (pc + 2) L (vi (eK e) :: st) h
  | .ldc_w _ => nx c s (pc + 3) L (vi (eK e) :: st) h
  | .ldc2_w _ => nx c s (pc + 3) L (vl (eJ e) :: st) h
  | .lconst _ => nx c s (pc + 1) L (vl (eJ e) :: st) h
  | .iload_n _ => gI (lgt L (eA e)) fun x => nx c s (pc + 1) L (vi x :: st) h
  | .iload _ => gI (lgt L (eA e)) fun x => nx c s (pc + 2) L (vi x :: st) h
  | .lload_n _ => gJ (lgt L (eA e)) fun x => nx c s (pc + 1) L (vl x :: st) h
  | .lload _ => gJ (lgt L (eA e)) fun x => nx c s (pc + 2) L (vl x :: st) h
  | .aload_n _ => gR (lgt L (eA e)) fun a b => nx c s (pc + 1) L (vr a b :: st) h
  | .aload _ => gR (lgt L (eA e)) fun a b => nx c s (pc + 2) L (vr a b :: st) h
  | .istore_n _ => pI st fun x r => gd (!(isL (lgt L (eA e - 1)))) (nx c s (pc + 1) (lst L (eA e) (vi x)) r h)
  | .istore _ => pI st fun x r => gd (!(isL (lgt L (eA e - 1)))) (nx c s (pc + 2) (lst L (eA e) (vi x)) r h)
  | .lstore_n _ => pJ st fun x r => gd (!(isL (lgt L (eA e - 1)))) (nx c s (pc + 1) (lst (lst L (eA e) (vl x)) (eA e + 1) vn) r h)
  | .lstore _ => pJ st fun x r => gd (!(isL (lgt L (eA e - 1)))) (nx c s (pc + 2) (lst (lst L (eA e) (vl x)) (eA e + 1) vn) r h)
  | .astore_n _ => pR st fun a b r => gd (!(isL (lgt L (eA e - 1)))) (nx c s (pc + 1) (lst L (eA e) (vr a b)) r h)
  | .astore _ => pR st fun a b r => gd (!(isL (lgt L (eA e - 1)))) (nx c s (pc + 2) (lst L (eA e) (vr a b)) r h)
  | .iinc _ _ => gI (lgt L (eA e)) fun x => gd (!(isL (lgt L (eA e - 1)))) (nx c s (pc + 3) (lst L (eA e) (vi (x + eK e))) st h)
  | .iadd => pI st fun b r => pI r fun a r => nx c s (pc + 1) L (vi (a + b) :: r) h
  | .isub => pI st fun b r => pI r fun a r => nx c s (pc + 1) L (vi (a - b) :: r) h
  | .imul => pI st fun b r => pI r fun a r => nx c s (pc + 1) L (vi (a * b) :: r) h
  | .idiv => pI st fun b r => pI r fun a r => gd (!(decide (b = 0))) (nx c s (pc + 1) L (vi (a / b) :: r) h)
  | .irem => pI st fun b r => pI r fun a r => gd (!(decide (b = 0))) (nx c s (pc + 1) L (vi (a - a / b * b) :: r) h)
  | .ineg => pI st fun a r => nx c s (pc + 1) L (vi (-a) :: r) h
  | .iand => pI st fun b r => pI r fun a r => nx c s (pc + 1) L (vi (a &&& b) :: r) h
  | .ior => pI st fun b r => pI r fun a r => nx c s (pc + 1) L (vi (a ||| b) :: r) h
  | .ixor => pI st fun b r => pI r fun a r => nx c s (pc + 1) L (vi (a ^^^ b) :: r) h
  | .ishl => pI st fun b r => pI r fun a r => nx c s (pc + 1) L (vi (a <<< (b &&& 31)) :: r) h
  | .ishr => pI st fun b r => pI r fun a r => nx c s (pc + 1) L (vi (a >>> (b &&& 31)) :: r) h
  | .iushr => pI st fun b r => pI r fun a r => nx c s (pc + 1) L (vi (a.toUInt32 >>> (b.toUInt32 &&& Int32.toUInt32 31)).toInt32 :: r) h
  | .ladd => pJ st fun b r => pJ r fun a r => nx c s (pc + 1) L (vl (a + b) :: r) h
  | .land => pJ st fun b r => pJ r fun a r => nx c s (pc + 1) L (vl (a &&& b) :: r) h
  | .lor => pJ st fun b r => pJ r fun a r => nx c s (pc + 1) L (vl (a ||| b) :: r) h
  | .lshl => pI st fun b r => pJ r fun a r => nx c s (pc + 1) L (vl (a <<< (b.toInt64 &&& 63)) :: r) h
  | .lcmp => pJ st fun b r => pJ r fun a r => nx c s (pc + 1) L (vi (lg_cmp a b) :: r) h
  | .i2l => pI st fun a r => nx c s (pc + 1) L (vl a.toInt64 :: r) h
  | .l2i => pJ st fun a r => nx c s (pc + 1) L (vi a.toInt32 :: r) h
  | .i2b => pI st fun a r => nx c s (pc + 1) L (vi a.toInt8.toInt32 :: r) h
  | .i2s => pI st fun a r => nx c s (pc + 1) L (vi a.toInt16.toInt32 :: r) h
  | .i2c => pI st fun a r => nx c s (pc + 1) L (vi (a.toUInt32 % 65536).toInt32 :: r) h
  | .dup => match st with
    | a :: r => gd (Nat.beq (catV a) 1) (nx c s (pc + 1) L (a :: a :: r) h)
    | _ => none
  | .dup2 => match st with
    | a :: b :: r => gd (Nat.beq (catV a) 1 && Nat.beq (catV b) 1) (nx c s (pc + 1) L (a :: b :: a :: b :: r) h)
    | _ => none
  | .pop => match st with
    | a :: r => gd (Nat.beq (catV a) 1) (nx c s (pc + 1) L r h)
    | _ => none
  | .ifCond op _ => pI st fun a r => nx c s (bif condB op a 0 then eA e else pc + 3) L r h
  | .if_icmp op _ => pI st fun b r => pI r fun a r => nx c s (bif condB op a b then eA e else pc + 3) L r h
  | .goto _ => nx c s (eA e) L st h
  | .tableswitch _ _ _ _ => pI st fun x r => nx c s (swf (eS e) (eA e) x) L r h
  | .lookupswitch _ _ => pI st fun x r => nx c s (swf (eS e) (eA e) x) L r h
  | .getfield _ => amGetF e c s pc L st h
  | .putfield _ => amPutF e c s pc L st h
  | .getstatic _ => bif Nat.beq (eA e) 980 then nx c s (pc + 3) L (vi 1 :: st) h else nx c s (pc + 3) L (vr (eA e) 0 :: st) h
  | .iaload => pI st fun i r => pR r fun s1 j1 r => gd (Nat.beq (kdx s1) 20) (gd (inA i (len h s1 j1)) (nx c s (pc + 1) L (vi (rdI h.2.1 s1 j1 i.toNatClampNeg) :: r) h))
  | .baload => pI st fun i r => pR r fun s1 j1 r => gd (Nat.beq (kdx s1) 22) (gd (inA i (len h s1 j1)) (nx c s (pc + 1) L (vi (rdI h.2.1 s1 j1 i.toNatClampNeg) :: r) h))
  | .saload => pI st fun i r => pR r fun s1 j1 r => gd (Nat.beq (kdx s1) 23) (gd (inA i (len h s1 j1)) (nx c s (pc + 1) L (vi (h.2.1 s1 j1 i.toNatClampNeg) :: r) h))
  | .laload => pI st fun i r => pR r fun s1 j1 r => gd (Nat.beq (kdx s1) 21) (gd (inA i (len h s1 j1)) (nx c s (pc + 1) L (vl (h.2.2.1 s1 j1 i.toNatClampNeg) :: r) h))
  | .aaload => pI st fun i r => pR r fun s1 j1 r => gd (Nat.beq (kdx s1) 24) (gd (inA i (len h s1 j1)) (match h.2.2.2 s1 j1 i.toNatClampNeg with
      | some (a, b) => nx c s (pc + 1) L (vr a b :: r) h
      | none => none))
  | .iastore => pI st fun x r => pI r fun i r => pR r fun s1 j1 r => gd (Nat.ble s1 84 && Nat.beq (kd s1) 20) (gd (inA i (LENf s1 j1)) (nx c s (pc + 1) L r (h.1, updI h.2.1 s1 j1 i.toNatClampNeg x, h.2.2)))
  | .bastore => pI st fun x r => pI r fun i r => pR r fun s1 j1 r => gd (Nat.ble s1 84 && Nat.beq (kd s1) 22) (gd (inA i (LENf s1 j1)) (nx c s (pc + 1) L r (h.1, updI h.2.1 s1 j1 i.toNatClampNeg x.toInt8.toInt32, h.2.2)))
  | .sastore => pI st fun x r => pI r fun i r => pR r fun s1 j1 r => gd (Nat.ble s1 84 && Nat.beq (kd s1) 23) (gd (inA i (LENf s1 j1)) (nx c s (pc + 1) L r (h.1, updI h.2.1 s1 j1 i.toNatClampNeg x.toInt16.toInt32, h.2.2)))
  | .lastore => pJ st fun x r => pI r fun i r => pR r fun s1 j1 r => gd (Nat.ble s1 84 && Nat.beq (kd s1) 21) (gd (inA i (LENf s1 j1)) (nx c s (pc + 1) L r (h.1, h.2.1, updJ h.2.2.1 s1 j1 i.toNatClampNeg x, h.2.2.2)))
  | .aastore => pR st fun a b r => pI r fun i r => pR r fun s1 j1 r => gd (Nat.ble s1 84 && (Nat.beq (kd s1) 24 && Nat.beq a 6)) (gd (inA i (LENf s1 j1)) (nx c s (pc + 1) L r (h.1, h.2.1, h.2.2.1, updR h.2.2.2 s1 j1 i.toNatClampNeg (some (a, b)))))
  | .arraylength => pR st fun s1 j1 r => gd (Nat.ble 20 (kdx s1) && Nat.ble (kdx s1) 24) (nx c s (pc + 1) L (vi (Int32.ofNat (len h s1 j1)) :: r) h)
  | .new _ => gd (Nat.ble (eA e) 10) (amNew y c s (pc + 3) (eA e) (eB e) L st h)
  | .newarray _ => pI st fun n r => amNewA y c s (pc + 2) (eA e) n L r h
  | .anewarray _ => pI st fun n r => amNewA y c s (pc + 3) (eA e) n L r h
  | .invokevirtual _ => gd (Nat.beq (eC e) 1) (amCallV f y e c s pc L st h)
  | .invokespecial _ => bif Nat.beq (eC e) 3 then pR st fun _ _ r => gd (Nat.ble (catS r) 8) (nx c s (pc + 3) L r h) else gd (Nat.beq (eC e) 2) (amCallV f y e c s pc L st h)
  | .invokestatic _ => bif Nat.beq (eC e) 0 then amCallS f y e c s pc L st h
      else bif Nat.beq (eC e) 4 then pI st fun b r => pI r fun a r => gd (Nat.ble (catS r) 8 && (Nat.ble c (MCf y) && Nat.ble s (MSf y))) (nx c s (pc + 3) L (vi (if a < b then b else a) :: r) h)
      else bif Nat.beq (eC e) 5 then pI st fun b r => pI r fun a r => gd (Nat.ble (catS r) 8 && (Nat.ble c (MCf y) && Nat.ble s (MSf y))) (nx c s (pc + 3) L (vi (if b < a then b else a) :: r) h)
      else gd (Nat.beq (eC e) 6) (amCopy c s pc L st h)
  | .ireturn => match st with
    | [.inl x] => gd (Nat.ble c (MCf y) && Nat.ble s (MSf y) && (Nat.beq (RTf y) 1 || (Nat.beq (RTf y) 2 && decide (x &&& 1 = x)) || (Nat.beq (RTf y) 4 && decide (x.toInt8.toInt32 = x)))) (some (.inl (some (vi x), h)))
    | _ => none
  | .lreturn => match st with
    | [.inr (.inl x)] => gd (Nat.ble c (MCf y) && Nat.ble s (MSf y) && Nat.beq (RTf y) 3) (some (.inl (some (vl x), h)))
    | _ => none
  | .return_ => match st with
    | [] => gd (Nat.ble c (MCf y) && Nat.ble s (MSf y) && Nat.beq (RTf y) 0) (some (.inl (none, h)))
    | _ => none
  | _ => none
def amLoop (f : Nat → List AV → AH → Option (Option AV × AH)) (y : Nat) : Nat → Nat → Nat → Nat → List AV → List AV → AH → Option (Option AV × AH)
  | 0, _, _, _, _, _, _ => none
  | n + 1, c, s, pc, L, st, h => match tbl y pc with
    | none => none
    | some e => match amI f y e c s pc (mkL (eM e) L) st h with
      | none => none
      | some (.inl q) => some q
      | some (.inr q) => amLoop f y n q.1 q.2.1 q.2.2.1 q.2.2.2.1 q.2.2.2.2.1 q.2.2.2.2.2
def amCall : Nat → Nat → Nat → List AV → AH → Option (Option AV × AH)
  | 0, _, _, _, _ => none
  | D + 1, n, y, as, h => bif Nat.ble (argL as).length (mxl y) then amLoop (amCall D n) y n 0 0 0 (padL (mxl y) (argL as)) [] h else none
def WP (D y pc : Nat) (L st : List AV) (h : AH) (Q : Option AV → AH → Prop) : Prop := ∃ n r h', amLoop (amCall D n) y n 0 0 pc L st h = some (r, h') ∧ Q r h'
def Call (D y : Nat) (as : List AV) (h : AH) (K : Option AV → AH → Prop) : Prop := ∃ n r h', amCall D n y as h = some (r, h') ∧ K r h'
def f00 : Nat → List AV → AH → Option (Option AV × AH) := fun _ _ _ => none
/-- a stretch without calls -/
def amB (y : Nat) : Nat → Nat → List AV → List AV → AH → Option (Nat × List AV × List AV × AH)
  | 0, pc, L, st, h => some (pc, L, st, h)
  | n + 1, pc, L, st, h => match tbl y pc with
    | none => none
    | some e => match amI f00 y e 0 0 pc (mkL (eM e) L) st h with
      | some (.inr (0, 0, pc', L', st', h')) => amB y n pc' L' st' h'
      | _ => none
