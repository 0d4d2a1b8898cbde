/-! THE FRAME: what a pure frame says of the real one; a row an instruction -/
def okS (h : AH) (st : List AV) : Prop := ∀ v ∈ st, okV h v
def HO (h : AH) (n0 Lx : Nat) (xs : Nat → Int32) : Prop := okR h ∧ okA h ∧ h.1 ≤ TAB.length ∧ (∀ j, h.2.1 950 0 j = xs j) ∧ (h.2.1 951 0 0).toNatClampNeg = Lx ∧ n0 ≤ h.1
/-- what is not written, and stays -/
def Stat (sp : Nat → Nat) (A : Nat → Prop) (Lx : Nat) (xs : Nat → Int32) (U : State) (H : Heap) : Prop :=
  va_Z "HeldTillSet$Bench" "LEAST" "[I" (.ref (sp 900)) A U H ∧ va_T .int (sp 900) 11 (fun j => .int ((STl 900).getD j 0)) A U H ∧
  va_Z "HeldTillSet$Bench" "GREATEST" "[I" (.ref (sp 901)) A U H ∧ va_T .int (sp 901) 11 (fun j => .int ((STl 901).getD j 0)) A U H ∧
  va_Z "HeldTillSet$Acts" "ABOVE" "[I" (.ref (sp 902)) A U H ∧ va_T .int (sp 902) 8 (fun j => .int ((STl 902).getD j 0)) A U H ∧
  va_Z "HeldTillSet$Acts" "BODIES" "[I" (.ref (sp 903)) A U H ∧ va_T .int (sp 903) 32 (fun j => .int ((STl 903).getD j 0)) A U H ∧
  va_Z "java/lang/String" "COMPACT_STRINGS" "Z" (.int 1) A U H ∧ vk_R "HeldTillSet$Law" 73 "gwfhnk" (sp 990) U ∧ va_O "java/lang/String" (sp 990) A U H ∧
  va_OF "java/lang/String" "coder" "B" (.int 0) (sp 990) A U H ∧ va_OF "java/lang/String" "value" "[B" (.ref (sp 991)) (sp 990) A U H ∧ va_T .byte (sp 991) 6 (fun j => .int ((STl 991).getD j 0)) A U H ∧
  va_AO "HeldTillSet$Shelf" U ∧ va_Nw (.fieldLinkNest "HeldTillSet$Search" 87 "HeldTillSet$Work" "shop" "LHeldTillSet$Shop;" "HeldTillSet") U ∧ va_Nw (.fieldLinkNest "HeldTillSet$Search" 22 "HeldTillSet$Work" "bench" "LHeldTillSet$Bench;" "HeldTillSet") U ∧
  va_T .int (sp 950) Lx (fun j => .int (xs j)) A U H
def Cx (p : Program) (R : Room) (s : State) (m : MethodId) (args : Array Value) (meth : Method) (c : Code) (y D : Nat) (A : Nat → Prop) (Dg : va_G) (cA : Nat → ClassId) (sp : Nat → Nat) (Lx : Nat) (xs : Nat → Int32) : Prop :=
  p.tables.exec = Jvm.exec ∧ c.code = yCd y ∧ c.maxLocals = mxl y ∧ s.vm.findClass (own y) = some m.cls ∧ (∀ w ∈ wsAll, w.before args s = true) ∧ meth.sig.returnType = yRt y ∧ meth.locks = false ∧ ((yNm y).name = "<init>" → meth.name = "<init>") ∧
  D + 1 ≤ R.frames ∧ 60 * D + 60 ≤ R.locals ∧ MCf y ≤ R.cells ∧ MSf y ≤ R.slots ∧ va_K Dg vwCl (tysh cA) s ∧ Stat sp A Lx xs s s.heap ∧ ∀ q, s.heap.size ≤ q → A q
def Rl (s : State) (y : Nat) (A : Nat → Prop) (Dg : va_G) (cA : Nat → ClassId) (sp : Nat → Nat) (n0 : Nat) (ad0 : Nat → Nat) (Lx : Nat) (xs : Nat → Int32) (ad : Nat → Nat) (H : Heap) (locs : List Loc) (ls : Array Slot) (Lo st : List AV) (h : AH) : Prop :=
  lv_has ls (mxl y) (lvL ad sp Lo) ∧ Lo.length = mxl y ∧ okS h Lo ∧ okS h st ∧ va_P Dg vwCl (wsh ad sp cA h) H ∧ va_D A (wsh ad sp cA h) ∧ HO h n0 Lx xs ∧ va_S A s.heap H locs ∧ ∀ i, i < n0 → ad i = ad0 i
def Wq (p : Program) (l : Launch) (e : Env) (R : Room) (s : State) (m : MethodId) (args : Array Value) (below : List Frame) (meth : Method) (c : Code) (y : Nat) (A : Nat → Prop) (Dg : va_G) (cA : Nat → ClassId) (sp : Nat → Nat) (n0 : Nat) (ad0 : Nat → Nat) (Lx : Nat) (xs : Nat → Int32) (Q : State → Prop) (cc ss pc : Nat) (Lo st : List AV) (h : AH) : Prop :=
  ∀ (ad : Nat → Nat) (H : Heap) (locs : List Loc) (ls : Array Slot), Rl s y A Dg cA sp n0 ad0 Lx xs ad H locs ls Lo st h → W p l e R s m args below meth c H locs cc ss Q (F0 m pc ls (st.map (emV ad sp)))
theorem okS_tl {h : AH} {a : AV} {r : List AV} (k : okS h (a :: r)) : okS h r := fun v hv => k v (List.mem_cons_of_mem _ hv)
theorem okS_cons {h : AH} {a : AV} {r : List AV} (ha : okV h a) (k : okS h r) : okS h (a :: r) := fun v hv => by
  rcases List.mem_cons.mp hv with rfl | hv
  · exact ha
  · exact k v hv
theorem okS_i {h : AH} {x : Int32} {r : List AV} (k : okS h r) : okS h (vi x :: r) := okS_cons (okV_vi h x) k
theorem okS_l {h : AH} {x : Int64} {r : List AV} (k : okS h r) : okS h (vl x :: r) := okS_cons (okV_vl h x) k
section SND
variable {p : Program} {l : Launch} {e : Env} {R : Room} {s : State} {m : MethodId} {args : Array Value} {below : List Frame} {meth : Method} {c : Code} {y D : Nat} {A : Nat → Prop} {Dg : va_G} {cA : Nat → ClassId} {sp : Nat → Nat} {n0 : Nat} {ad0 : Nat → Nat} {Lx : Nat} {xs : Nat → Int32} {Q : State → Prop}
variable {cc ss pc : Nat} {Lo st r : List AV} {h : AH} {ad : Nat → Nat} {H : Heap} {locs : List Loc} {ls : Array Slot}
theorem Rl.stk {st' : List AV} (h1 : Rl s y A Dg cA sp n0 ad0 Lx xs ad H locs ls Lo st h) (h2 : okS h st') : Rl s y A Dg cA sp n0 ad0 Lx xs ad H locs ls Lo st' h := ⟨h1.1, h1.2.1, h1.2.2.1, h2, h1.2.2.2.2⟩
theorem Rl.okst (h1 : Rl s y A Dg cA sp n0 ad0 Lx xs ad H locs ls Lo st h) : okS h st := h1.2.2.2.1
theorem Rl.get (h1 : Rl s y A Dg cA sp n0 ad0 Lx xs ad H locs ls Lo st h) {i : Nat} {a : AV} (hl : lgt Lo i = some a) (hs : isSet a = true) : ls[i]? = some (.val (emV ad sp a)) := h1.1.2.2 (i, emV ad sp a) (lvL_mem.mpr ⟨a, lgt_lt hl, hl, hs, rfl⟩)
theorem s_mask (mk : Nat) (K : Wq p l e R s m args below meth c y A Dg cA sp n0 ad0 Lx xs Q cc ss pc (mkL mk Lo) st h) : Wq p l e R s m args below meth c y A Dg cA sp n0 ad0 Lx xs Q cc ss pc Lo st h := by
  intro ad H locs ls hR
  refine K ad H locs ls ⟨⟨hR.1.1, hR.1.2.1, fun q hq => ?_⟩, (mkL_len mk Lo).trans hR.2.1, fun v hv => ?_, hR.2.2.2⟩
  · obtain ⟨i, v⟩ := q
    obtain ⟨a, h1, h2, h3, rfl⟩ := lvL_mem.mp hq
    exact hR.1.2.2 (i, _) (lvL_mem.mpr ⟨a, by rw [mkL_len] at h1; exact h1, mkL_get mk Lo i a h2 h3, h3, rfl⟩)
  · rcases mkL_mem mk Lo v hv with rfl | hv
    · exact okV_vn h
    · exact hR.2.2.1 v hv
theorem s_iadd (C : Cx p R s m args meth c y D A Dg cA sp Lx xs) {b : Int32} {a : Int32}  (hd : decode (yCd y) pc = .ok (.iadd, 1)) (K : Wq p l e R s m args below meth c y A Dg cA sp n0 ad0 Lx xs Q cc ss (pc + 1) Lo (vi (a + b) :: r) h) : Wq p l e R s m args below meth c y A Dg cA sp n0 ad0 Lx xs Q cc ss pc Lo (vi b :: vi a :: r) h := by
  intro ad H locs ls hR
  exact lv_iadd C.1 C.2.1  hd (K ad H locs ls (hR.stk (okS_i (okS_tl (okS_tl hR.okst)))))
theorem s_isub (C : Cx p R s m args meth c y D A Dg cA sp Lx xs) {b : Int32} {a : Int32}  (hd : decode (yCd y) pc = .ok (.isub, 1)) (K : Wq p l e R s m args below meth c y A Dg cA sp n0 ad0 Lx xs Q cc ss (pc + 1) Lo (vi (a - b) :: r) h) : Wq p l e R s m args below meth c y A Dg cA sp n0 ad0 Lx xs Q cc ss pc Lo (vi b :: vi a :: r) h := by
  intro ad H locs ls hR
  exact lv_isub C.1 C.2.1  hd (K ad H locs ls (hR.stk (okS_i (okS_tl (okS_tl hR.okst)))))
theorem s_imul (C : Cx p R s m args meth c y D A Dg cA sp Lx xs) {b : Int32} {a : Int32}  (hd : decode (yCd y) pc = .ok (.imul, 1)) (K : Wq p l e R s m args below meth c y A Dg cA sp n0 ad0 Lx xs Q cc ss (pc + 1) Lo (vi (a * b) :: r) h) : Wq p l e R s m args below meth c y A Dg cA sp n0 ad0 Lx xs Q cc ss pc Lo (vi b :: vi a :: r) h := by
  intro ad H locs ls hR
  exact lv_imul C.1 C.2.1  hd (K ad H locs ls (hR.stk (okS_i (okS_tl (okS_tl hR.okst)))))
theorem s_iand (C : Cx p R s m args meth c y D A Dg cA sp Lx xs) {b : Int32} {a : Int32}  (hd : decode (yCd y) pc = .ok (.iand, 1)) (K : Wq p l e R s m args below meth c y A Dg cA sp n0 ad0 Lx xs Q cc ss (pc + 1) Lo (vi (a &&& b) :: r) h) : Wq p l e R s m args below meth c y A Dg cA sp n0 ad0 Lx xs Q cc ss pc Lo (vi b :: vi a :: r) h := by
  intro ad H locs ls hR
  exact lv_iand C.1 C.2.1  hd (K ad H locs ls (hR.stk (okS_i (okS_tl (okS_tl hR.okst)))))
theorem s_ior (C : Cx p R s m args meth c y D A Dg cA sp Lx xs) {b : Int32} {a : Int32}  (hd : decode (yCd y) pc = .ok (.ior, 1)) (K : Wq p l e R s m args below meth c y A Dg cA sp n0 ad0 Lx xs Q cc ss (pc + 1) Lo (vi (a ||| b) :: r) h) : Wq p l e R s m args below meth c y A Dg cA sp n0 ad0 Lx xs Q cc ss pc Lo (vi b :: vi a :: r) h := by
  intro ad H locs ls hR
  exact lv_ior C.1 C.2.1  hd (K ad H locs ls (hR.stk (okS_i (okS_tl (okS_tl hR.okst)))))
theorem s_ixor (C : Cx p R s m args meth c y D A Dg cA sp Lx xs) {b : Int32} {a : Int32}  (hd : decode (yCd y) pc = .ok (.ixor, 1)) (K : Wq p l e R s m args below meth c y A Dg cA sp n0 ad0 Lx xs Q cc ss (pc + 1) Lo (vi (a ^^^ b) :: r) h) : Wq p l e R s m args below meth c y A Dg cA sp n0 ad0 Lx xs Q cc ss pc Lo (vi b :: vi a :: r) h := by
  intro ad H locs ls hR
  exact lv_ixor C.1 C.2.1  hd (K ad H locs ls (hR.stk (okS_i (okS_tl (okS_tl hR.okst)))))
theorem s_ishl (C : Cx p R s m args meth c y D A Dg cA sp Lx xs) {b : Int32} {a : Int32}  (hd : decode (yCd y) pc = .ok (.ishl, 1)) (K : Wq p l e R s m args below meth c y A Dg cA sp n0 ad0 Lx xs Q cc ss (pc + 1) Lo (vi (a <<< (b &&& 31)) :: r) h) : Wq p l e R s m args below meth c y A Dg cA sp n0 ad0 Lx xs Q cc ss pc Lo (vi b :: vi a :: r) h := by
  intro ad H locs ls hR
  exact lv_ishl C.1 C.2.1  hd (K ad H locs ls (hR.stk (okS_i (okS_tl (okS_tl hR.okst)))))
theorem s_ishr (C : Cx p R s m args meth c y D A Dg cA sp Lx xs) {b : Int32} {a : Int32}  (hd : decode (yCd y) pc = .ok (.ishr, 1)) (K : Wq p l e R s m args below meth c y A Dg cA sp n0 ad0 Lx xs Q cc ss (pc + 1) Lo (vi (a >>> (b &&& 31)) :: r) h) : Wq p l e R s m args below meth c y A Dg cA sp n0 ad0 Lx xs Q cc ss pc Lo (vi b :: vi a :: r) h := by
  intro ad H locs ls hR
  exact lv_ishr C.1 C.2.1  hd (K ad H locs ls (hR.stk (okS_i (okS_tl (okS_tl hR.okst)))))
theorem s_idiv (C : Cx p R s m args meth c y D A Dg cA sp Lx xs) {b : Int32} {a : Int32} (hne : ¬ b = 0) (hd : decode (yCd y) pc = .ok (.idiv, 1)) (K : Wq p l e R s m args below meth c y A Dg cA sp n0 ad0 Lx xs Q cc ss (pc + 1) Lo (vi (a / b) :: r) h) : Wq p l e R s m args below meth c y A Dg cA sp n0 ad0 Lx xs Q cc ss pc Lo (vi b :: vi a :: r) h := by
  intro ad H locs ls hR
  exact lv_idiv C.1 C.2.1  hd hne (K ad H locs ls (hR.stk (okS_i (okS_tl (okS_tl hR.okst)))))
theorem s_irem (C : Cx p R s m args meth c y D A Dg cA sp Lx xs) {b : Int32} {a : Int32} (hne : ¬ b = 0) (hd : decode (yCd y) pc = .ok (.irem, 1)) (K : Wq p l e R s m args below meth c y A Dg cA sp n0 ad0 Lx xs Q cc ss (pc + 1) Lo (vi (a - a / b * b) :: r) h) : Wq p l e R s m args below meth c y A Dg cA sp n0 ad0 Lx xs Q cc ss pc Lo (vi b :: vi a :: r) h := by
  intro ad H locs ls hR
  exact lv_irem C.1 C.2.1  hd hne (K ad H locs ls (hR.stk (okS_i (okS_tl (okS_tl hR.okst)))))
theorem s_iushr (C : Cx p R s m args meth c y D A Dg cA sp Lx xs) {b : Int32} {a : Int32}  (hd : decode (yCd y) pc = .ok (.iushr, 1)) (K : Wq p l e R s m args below meth c y A Dg cA sp n0 ad0 Lx xs Q cc ss (pc + 1) Lo (vi (a.toUInt32 >>> (b.toUInt32 &&& Int32.toUInt32 31)).toInt32 :: r) h) : Wq p l e R s m args below meth c y A Dg cA sp n0 ad0 Lx xs Q cc ss pc Lo (vi b :: vi a :: r) h := by
  intro ad H locs ls hR
  exact lv_iushr C.1 C.2.1  hd rfl (K ad H locs ls (hR.stk (okS_i (okS_tl (okS_tl hR.okst)))))
theorem s_ineg (C : Cx p R s m args meth c y D A Dg cA sp Lx xs) {a : Int32}  (hd : decode (yCd y) pc = .ok (.ineg, 1)) (K : Wq p l e R s m args below meth c y A Dg cA sp n0 ad0 Lx xs Q cc ss (pc + 1) Lo (vi (-a) :: r) h) : Wq p l e R s m args below meth c y A Dg cA sp n0 ad0 Lx xs Q cc ss pc Lo (vi a :: r) h := by
  intro ad H locs ls hR
  exact lv_ineg C.1 C.2.1  hd (K ad H locs ls (hR.stk (okS_i (okS_tl hR.okst))))
theorem s_ladd (C : Cx p R s m args meth c y D A Dg cA sp Lx xs) {b : Int64} {a : Int64}  (hd : decode (yCd y) pc = .ok (.ladd, 1)) (K : Wq p l e R s m args below meth c y A Dg cA sp n0 ad0 Lx xs Q cc ss (pc + 1) Lo (vl (a + b) :: r) h) : Wq p l e R s m args below meth c y A Dg cA sp n0 ad0 Lx xs Q cc ss pc Lo (vl b :: vl a :: r) h := by
  intro ad H locs ls hR
  exact lv_ladd C.1 C.2.1  hd (K ad H locs ls (hR.stk (okS_l (okS_tl (okS_tl hR.okst)))))
theorem s_land (C : Cx p R s m args meth c y D A Dg cA sp Lx xs) {b : Int64} {a : Int64}  (hd : decode (yCd y) pc = .ok (.land, 1)) (K : Wq p l e R s m args below meth c y A Dg cA sp n0 ad0 Lx xs Q cc ss (pc + 1) Lo (vl (a &&& b) :: r) h) : Wq p l e R s m args below meth c y A Dg cA sp n0 ad0 Lx xs Q cc ss pc Lo (vl b :: vl a :: r) h := by
  intro ad H locs ls hR
  exact lv_land C.1 C.2.1  hd (K ad H locs ls (hR.stk (okS_l (okS_tl (okS_tl hR.okst)))))
theorem s_lor (C : Cx p R s m args meth c y D A Dg cA sp Lx xs) {b : Int64} {a : Int64}  (hd : decode (yCd y) pc = .ok (.lor, 1)) (K : Wq p l e R s m args below meth c y A Dg cA sp n0 ad0 Lx xs Q cc ss (pc + 1) Lo (vl (a ||| b) :: r) h) : Wq p l e R s m args below meth c y A Dg cA sp n0 ad0 Lx xs Q cc ss pc Lo (vl b :: vl a :: r) h := by
  intro ad H locs ls hR
  exact lv_lor C.1 C.2.1  hd (K ad H locs ls (hR.stk (okS_l (okS_tl (okS_tl hR.okst)))))
theorem s_lshl (C : Cx p R s m args meth c y D A Dg cA sp Lx xs) {b : Int32} {a : Int64}  (hd : decode (yCd y) pc = .ok (.lshl, 1)) (K : Wq p l e R s m args below meth c y A Dg cA sp n0 ad0 Lx xs Q cc ss (pc + 1) Lo (vl (a <<< (b.toInt64 &&& 63)) :: r) h) : Wq p l e R s m args below meth c y A Dg cA sp n0 ad0 Lx xs Q cc ss pc Lo (vi b :: vl a :: r) h := by
  intro ad H locs ls hR
  exact lv_lshl C.1 C.2.1  hd rfl (K ad H locs ls (hR.stk (okS_l (okS_tl (okS_tl hR.okst)))))
theorem s_lcmp (C : Cx p R s m args meth c y D A Dg cA sp Lx xs) {b : Int64} {a : Int64}  (hd : decode (yCd y) pc = .ok (.lcmp, 1)) (K : Wq p l e R s m args below meth c y A Dg cA sp n0 ad0 Lx xs Q cc ss (pc + 1) Lo (vi (lg_cmp a b) :: r) h) : Wq p l e R s m args below meth c y A Dg cA sp n0 ad0 Lx xs Q cc ss pc Lo (vl b :: vl a :: r) h := by
  intro ad H locs ls hR
  exact W.lcmp C.1 C.2.1  hd (K ad H locs ls (hR.stk (okS_i (okS_tl (okS_tl hR.okst)))))
theorem s_i2l (C : Cx p R s m args meth c y D A Dg cA sp Lx xs) {a : Int32}  (hd : decode (yCd y) pc = .ok (.i2l, 1)) (K : Wq p l e R s m args below meth c y A Dg cA sp n0 ad0 Lx xs Q cc ss (pc + 1) Lo (vl a.toInt64 :: r) h) : Wq p l e R s m args below meth c y A Dg cA sp n0 ad0 Lx xs Q cc ss pc Lo (vi a :: r) h := by
  intro ad H locs ls hR
  exact lv_i2l C.1 C.2.1  hd rfl (K ad H locs ls (hR.stk (okS_l (okS_tl hR.okst))))
theorem s_l2i (C : Cx p R s m args meth c y D A Dg cA sp Lx xs) {a : Int64}  (hd : decode (yCd y) pc = .ok (.l2i, 1)) (K : Wq p l e R s m args below meth c y A Dg cA sp n0 ad0 Lx xs Q cc ss (pc + 1) Lo (vi a.toInt32 :: r) h) : Wq p l e R s m args below meth c y A Dg cA sp n0 ad0 Lx xs Q cc ss pc Lo (vl a :: r) h := by
  intro ad H locs ls hR
  exact lv_l2i C.1 C.2.1  hd rfl (K ad H locs ls (hR.stk (okS_i (okS_tl hR.okst))))
theorem s_i2b (C : Cx p R s m args meth c y D A Dg cA sp Lx xs) {a : Int32}  (hd : decode (yCd y) pc = .ok (.i2b, 1)) (K : Wq p l e R s m args below meth c y A Dg cA sp n0 ad0 Lx xs Q cc ss (pc + 1) Lo (vi a.toInt8.toInt32 :: r) h) : Wq p l e R s m args below meth c y A Dg cA sp n0 ad0 Lx xs Q cc ss pc Lo (vi a :: r) h := by
  intro ad H locs ls hR
  exact lv_i2b C.1 C.2.1  hd rfl (K ad H locs ls (hR.stk (okS_i (okS_tl hR.okst))))
theorem s_i2s (C : Cx p R s m args meth c y D A Dg cA sp Lx xs) {a : Int32}  (hd : decode (yCd y) pc = .ok (.i2s, 1)) (K : Wq p l e R s m args below meth c y A Dg cA sp n0 ad0 Lx xs Q cc ss (pc + 1) Lo (vi a.toInt16.toInt32 :: r) h) : Wq p l e R s m args below meth c y A Dg cA sp n0 ad0 Lx xs Q cc ss pc Lo (vi a :: r) h := by
  intro ad H locs ls hR
  exact lv_i2s C.1 C.2.1  hd rfl (K ad H locs ls (hR.stk (okS_i (okS_tl hR.okst))))
theorem s_i2c (C : Cx p R s m args meth c y D A Dg cA sp Lx xs) {a : Int32}  (hd : decode (yCd y) pc = .ok (.i2c, 1)) (K : Wq p l e R s m args below meth c y A Dg cA sp n0 ad0 Lx xs Q cc ss (pc + 1) Lo (vi (a.toUInt32 % 65536).toInt32 :: r) h) : Wq p l e R s m args below meth c y A Dg cA sp n0 ad0 Lx xs Q cc ss pc Lo (vi a :: r) h := by
  intro ad H locs ls hR
  exact lv_i2c C.1 C.2.1  hd rfl (K ad H locs ls (hR.stk (okS_i (okS_tl hR.okst))))
theorem s_iconst (C : Cx p R s m args meth c y D A Dg cA sp Lx xs)  {n : Int} {k : Int32} (hv : Int32.ofInt n = k) (hd : decode (yCd y) pc = .ok (.iconst n, 1)) (K : Wq p l e R s m args below meth c y A Dg cA sp n0 ad0 Lx xs Q cc ss (pc + 1) Lo (vi k :: r) h) : Wq p l e R s m args below meth c y A Dg cA sp n0 ad0 Lx xs Q cc ss pc Lo (r) h := by
  intro ad H locs ls hR
  exact lv_iconst C.1 C.2.1  hd hv (K ad H locs ls (hR.stk (okS_i hR.okst)))
theorem s_bipush (C : Cx p R s m args meth c y D A Dg cA sp Lx xs)  {n : Int} {k : Int32} (hv : (Int8.ofInt n).toInt32 = k) (hd : decode (yCd y) pc = .ok (.bipush n, 2)) (K : Wq p l e R s m args below meth c y A Dg cA sp n0 ad0 Lx xs Q cc ss (pc + 2) Lo (vi k :: r) h) : Wq p l e R s m args below meth c y A Dg cA sp n0 ad0 Lx xs Q cc ss pc Lo (r) h := by
  intro ad H locs ls hR
  exact lv_bipush C.1 C.2.1  hd hv (K ad H locs ls (hR.stk (okS_i hR.okst)))
theorem s_sipush (C : Cx p R s m args meth c y D A Dg cA sp Lx xs)  {n : Int} {k : Int32} (hv : (Int16.ofInt n).toInt32 = k) (hd : decode (yCd y) pc = .ok (.sipush n, 3)) (K : Wq p l e R s m args below meth c y A Dg cA sp n0 ad0 Lx xs Q cc ss (pc + 3) Lo (vi k :: r) h) : Wq p l e R s m args below meth c y A Dg cA sp n0 ad0 Lx xs Q cc ss pc Lo (r) h := by
  intro ad H locs ls hR
  exact lv_sipush C.1 C.2.1  hd hv (K ad H locs ls (hR.stk (okS_i hR.okst)))
theorem s_lconst (C : Cx p R s m args meth c y D A Dg cA sp Lx xs)  {n : Fin 2} {k : Int64} (hv : Int64.ofNat (n : Nat) = k) (hd : decode (yCd y) pc = .ok (.lconst n, 1)) (K : Wq p l e R s m args below meth c y A Dg cA sp n0 ad0 Lx xs Q cc ss (pc + 1) Lo (vl k :: r) h) : Wq p l e R s m args below meth c y A Dg cA sp n0 ad0 Lx xs Q cc ss pc Lo (r) h := by
  intro ad H locs ls hR
  exact lv_lconst C.1 C.2.1  hd hv (K ad H locs ls (hR.stk (okS_l hR.okst)))
theorem s_ldc (C : Cx p R s m args meth c y D A Dg cA sp Lx xs) {i : Nat} {k : Int32} (hw : (.constant (own y) i k : Jvm.Cond) ∈ wsAll) (hd : decode (yCd y) pc = .ok (.ldc i, 2)) (K : Wq p l e R s m args below meth c y A Dg cA sp n0 ad0 Lx xs Q cc ss (pc + 2) Lo (vi k :: st) h) : Wq p l e R s m args below meth c y A Dg cA sp n0 ad0 Lx xs Q cc ss pc Lo st h := by
  intro ad H locs ls hR
  exact lv_ldc C.1 C.2.1 C.2.2.2.1 (C.2.2.2.2.1 _ hw) hd (K ad H locs ls (hR.stk (okS_i hR.okst)))
theorem s_ldc_w (C : Cx p R s m args meth c y D A Dg cA sp Lx xs) {i : Nat} {k : Int32} (hw : (.constant (own y) i k : Jvm.Cond) ∈ wsAll) (hd : decode (yCd y) pc = .ok (.ldc_w i, 3)) (K : Wq p l e R s m args below meth c y A Dg cA sp n0 ad0 Lx xs Q cc ss (pc + 3) Lo (vi k :: st) h) : Wq p l e R s m args below meth c y A Dg cA sp n0 ad0 Lx xs Q cc ss pc Lo st h := by
  intro ad H locs ls hR
  exact lv_ldcw C.1 C.2.1 C.2.2.2.1 (C.2.2.2.2.1 _ hw) hd (K ad H locs ls (hR.stk (okS_i hR.okst)))
theorem s_ldc2_w (C : Cx p R s m args meth c y D A Dg cA sp Lx xs) {i : Nat} {k : Int64} (hw : (.constantLong (own y) i k : Jvm.Cond) ∈ wsAll) (hd : decode (yCd y) pc = .ok (.ldc2_w i, 3)) (K : Wq p l e R s m args below meth c y A Dg cA sp n0 ad0 Lx xs Q cc ss (pc + 3) Lo (vl k :: st) h) : Wq p l e R s m args below meth c y A Dg cA sp n0 ad0 Lx xs Q cc ss pc Lo st h := by
  intro ad H locs ls hR
  exact lv_ldc2 C.1 C.2.1 C.2.2.2.1 (C.2.2.2.2.1 _ hw) hd (K ad H locs ls (hR.stk (okS_l hR.okst)))
theorem s_iload_n (C : Cx p R s m args meth c y D A Dg cA sp Lx xs) {k : Fin 4} {i : Nat} {x : Int32} (hi : (k : Nat) = i) (hl : lgt Lo i = some (vi x)) (hd : decode (yCd y) pc = .ok (.iload_n k, 1)) (K : Wq p l e R s m args below meth c y A Dg cA sp n0 ad0 Lx xs Q cc ss (pc + 1) Lo (vi x :: st) h) : Wq p l e R s m args below meth c y A Dg cA sp n0 ad0 Lx xs Q cc ss pc Lo st h := by
  intro ad H locs ls hR
  exact lv_iload_n C.1 C.2.1 hd hi (hR.get hl rfl) (K ad H locs ls (hR.stk (okS_i hR.okst)))
theorem s_iload (C : Cx p R s m args meth c y D A Dg cA sp Lx xs) {k i : Nat} {x : Int32} (hi : k = i) (hl : lgt Lo i = some (vi x)) (hd : decode (yCd y) pc = .ok (.iload k, 2)) (K : Wq p l e R s m args below meth c y A Dg cA sp n0 ad0 Lx xs Q cc ss (pc + 2) Lo (vi x :: st) h) : Wq p l e R s m args below meth c y A Dg cA sp n0 ad0 Lx xs Q cc ss pc Lo st h := by
  intro ad H locs ls hR
  subst hi
  exact lv_iload C.1 C.2.1 hd (hR.get hl rfl) (K ad H locs ls (hR.stk (okS_i hR.okst)))
theorem s_lload_n (C : Cx p R s m args meth c y D A Dg cA sp Lx xs) {k : Fin 4} {i : Nat} {x : Int64} (hi : (k : Nat) = i) (hl : lgt Lo i = some (vl x)) (hd : decode (yCd y) pc = .ok (.lload_n k, 1)) (K : Wq p l e R s m args below meth c y A Dg cA sp n0 ad0 Lx xs Q cc ss (pc + 1) Lo (vl x :: st) h) : Wq p l e R s m args below meth c y A Dg cA sp n0 ad0 Lx xs Q cc ss pc Lo st h := by
  intro ad H locs ls hR
  exact lv_lload_n C.1 C.2.1 hd hi (hR.get hl rfl) (K ad H locs ls (hR.stk (okS_l hR.okst)))
theorem s_lload (C : Cx p R s m args meth c y D A Dg cA sp Lx xs) {k i : Nat} {x : Int64} (hi : k = i) (hl : lgt Lo i = some (vl x)) (hd : decode (yCd y) pc = .ok (.lload k, 2)) (K : Wq p l e R s m args below meth c y A Dg cA sp n0 ad0 Lx xs Q cc ss (pc + 2) Lo (vl x :: st) h) : Wq p l e R s m args below meth c y A Dg cA sp n0 ad0 Lx xs Q cc ss pc Lo st h := by
  intro ad H locs ls hR
  subst hi
  exact lv_lload C.1 C.2.1 hd (hR.get hl rfl) (K ad H locs ls (hR.stk (okS_l hR.okst)))
theorem s_aload_n (C : Cx p R s m args meth c y D A Dg cA sp Lx xs) {k : Fin 4} {i a b : Nat} (hi : (k : Nat) = i) (hl : lgt Lo i = some (vr a b)) (hd : decode (yCd y) pc = .ok (.aload_n k, 1)) (K : Wq p l e R s m args below meth c y A Dg cA sp n0 ad0 Lx xs Q cc ss (pc + 1) Lo (vr a b :: st) h) : Wq p l e R s m args below meth c y A Dg cA sp n0 ad0 Lx xs Q cc ss pc Lo st h := by
  intro ad H locs ls hR
  exact lv_aload_n C.1 C.2.1 hd hi (hR.get hl rfl) (K ad H locs ls (hR.stk (okS_cons (hR.2.2.1 _ (lgt_mem hl)) hR.okst)))
theorem s_aload (C : Cx p R s m args meth c y D A Dg cA sp Lx xs) {k i a b : Nat} (hi : k = i) (hl : lgt Lo i = some (vr a b)) (hd : decode (yCd y) pc = .ok (.aload k, 2)) (K : Wq p l e R s m args below meth c y A Dg cA sp n0 ad0 Lx xs Q cc ss (pc + 2) Lo (vr a b :: st) h) : Wq p l e R s m args below meth c y A Dg cA sp n0 ad0 Lx xs Q cc ss pc Lo st h := by
  intro ad H locs ls hR
  subst hi
  exact lv_aload C.1 C.2.1 hd (hR.get hl rfl) (K ad H locs ls (hR.stk (okS_cons (hR.2.2.1 _ (lgt_mem hl)) hR.okst)))
theorem Rl.put1 {v : AV} {w : Value} {i : Nat} {ls' : Array Slot} (h1 : Rl s y A Dg cA sp n0 ad0 Lx xs ad H locs ls Lo (v :: r) h) (hw : w = emV ad sp v) (hs : isSet v = true) (h2 : lv_has ls' (mxl y) ((i, w) :: (lvL ad sp Lo).filter (fun q => !(q.1 == i) && !(q.1 + 1 == i && q.2.category == 2)))) (hi : i < mxl y) (hno : isL (lgt Lo (i - 1)) = false) : Rl s y A Dg cA sp n0 ad0 Lx xs ad H locs ls' (lst Lo i v) r h :=
  ⟨lv_set_has h1.2.1 hw hs h2 hi hno, (lst_len Lo i v).trans h1.2.1, fun u hu => (lst_mem hu).elim (fun z => z ▸ h1.okst v List.mem_cons_self) (fun z => h1.2.2.1 u z), okS_tl h1.okst, h1.2.2.2.2⟩
theorem Rl.put2 {x : Int64} {i : Nat} {ls' : Array Slot} (h1 : Rl s y A Dg cA sp n0 ad0 Lx xs ad H locs ls Lo (vl x :: r) h) (h2 : lv_has ls' (mxl y) ((i, .long x) :: (lvL ad sp Lo).filter (fun q => !(q.1 == i) && (!(q.1 == i + 1) && !(q.1 + 1 == i && q.2.category == 2))))) (hi : i + 1 < mxl y) (hno : isL (lgt Lo (i - 1)) = false) : Rl s y A Dg cA sp n0 ad0 Lx xs ad H locs ls' (lst (lst Lo i (vl x)) (i + 1) vn) r h :=
  ⟨lv_set_hasL h1.2.1 h2 hi hno, by rw [lst_len, lst_len]; exact h1.2.1, fun u hu => (lst_mem hu).elim (fun z => z ▸ okV_vn h) (fun hu => (lst_mem hu).elim (fun z => z ▸ okV_vl h x) (fun z => h1.2.2.1 u z)), okS_tl h1.okst, h1.2.2.2.2⟩
theorem s_istore_n (C : Cx p R s m args meth c y D A Dg cA sp Lx xs) {k : Fin 4} {i : Nat} {x : Int32} (hi : (k : Nat) = i) (hn : i < mxl y) (hno : isL (lgt Lo (i - 1)) = false) (hd : decode (yCd y) pc = .ok (.istore_n k, 1)) (K : Wq p l e R s m args below meth c y A Dg cA sp n0 ad0 Lx xs Q cc ss (pc + 1) (lst Lo i (vi x)) r h) : Wq p l e R s m args below meth c y A Dg cA sp n0 ad0 Lx xs Q cc ss pc Lo (vi x :: r) h := by
  intro ad H locs ls hR
  exact lv_istore_n (lv := lvL ad sp Lo) C.1 C.2.1 hd hi hR.1 hn rfl (fun ls' hl => K ad H locs ls' (hR.put1 rfl rfl hl hn hno))
theorem s_istore (C : Cx p R s m args meth c y D A Dg cA sp Lx xs) {k i : Nat} {x : Int32} (hi : k = i) (hn : i < mxl y) (hno : isL (lgt Lo (i - 1)) = false) (hd : decode (yCd y) pc = .ok (.istore k, 2)) (K : Wq p l e R s m args below meth c y A Dg cA sp n0 ad0 Lx xs Q cc ss (pc + 2) (lst Lo i (vi x)) r h) : Wq p l e R s m args below meth c y A Dg cA sp n0 ad0 Lx xs Q cc ss pc Lo (vi x :: r) h := by
  intro ad H locs ls hR
  subst hi
  exact lv_istore (lv := lvL ad sp Lo) C.1 C.2.1 hd hR.1 hn rfl (fun ls' hl => K ad H locs ls' (hR.put1 rfl rfl hl hn hno))
theorem s_astore_n (C : Cx p R s m args meth c y D A Dg cA sp Lx xs) {k : Fin 4} {i : Nat} {a b : Nat} (hi : (k : Nat) = i) (hn : i < mxl y) (hno : isL (lgt Lo (i - 1)) = false) (hd : decode (yCd y) pc = .ok (.astore_n k, 1)) (K : Wq p l e R s m args below meth c y A Dg cA sp n0 ad0 Lx xs Q cc ss (pc + 1) (lst Lo i (vr a b)) r h) : Wq p l e R s m args below meth c y A Dg cA sp n0 ad0 Lx xs Q cc ss pc Lo (vr a b :: r) h := by
  intro ad H locs ls hR
  exact lv_astore_n (lv := lvL ad sp Lo) C.1 C.2.1 hd hi hR.1 hn rfl (fun ls' hl => K ad H locs ls' (hR.put1 rfl rfl hl hn hno))
theorem s_astore (C : Cx p R s m args meth c y D A Dg cA sp Lx xs) {k i : Nat} {a b : Nat} (hi : k = i) (hn : i < mxl y) (hno : isL (lgt Lo (i - 1)) = false) (hd : decode (yCd y) pc = .ok (.astore k, 2)) (K : Wq p l e R s m args below meth c y A Dg cA sp n0 ad0 Lx xs Q cc ss (pc + 2) (lst Lo i (vr a b)) r h) : Wq p l e R s m args below meth c y A Dg cA sp n0 ad0 Lx xs Q cc ss pc Lo (vr a b :: r) h := by
  intro ad H locs ls hR
  subst hi
  exact lv_astore (lv := lvL ad sp Lo) C.1 C.2.1 hd hR.1 hn rfl (fun ls' hl => K ad H locs ls' (hR.put1 rfl rfl hl hn hno))
theorem s_lstore_n (C : Cx p R s m args meth c y D A Dg cA sp Lx xs) {k : Fin 4} {i : Nat} {x : Int64} (hi : (k : Nat) = i) (hn : i + 1 < mxl y) (hno : isL (lgt Lo (i - 1)) = false) (hd : decode (yCd y) pc = .ok (.lstore_n k, 1)) (K : Wq p l e R s m args below meth c y A Dg cA sp n0 ad0 Lx xs Q cc ss (pc + 1) (lst (lst Lo i (vl x)) (i + 1) vn) r h) : Wq p l e R s m args below meth c y A Dg cA sp n0 ad0 Lx xs Q cc ss pc Lo (vl x :: r) h := by
  intro ad H locs ls hR
  exact lv_lstore_n (lv := lvL ad sp Lo) C.1 C.2.1 hd hi hR.1 hn rfl (fun ls' hl => K ad H locs ls' (hR.put2 hl hn hno))
theorem s_lstore (C : Cx p R s m args meth c y D A Dg cA sp Lx xs) {k i : Nat} {x : Int64} (hi : k = i) (hn : i + 1 < mxl y) (hno : isL (lgt Lo (i - 1)) = false) (hd : decode (yCd y) pc = .ok (.lstore k, 2)) (K : Wq p l e R s m args below meth c y A Dg cA sp n0 ad0 Lx xs Q cc ss (pc + 2) (lst (lst Lo i (vl x)) (i + 1) vn) r h) : Wq p l e R s m args below meth c y A Dg cA sp n0 ad0 Lx xs Q cc ss pc Lo (vl x :: r) h := by
  intro ad H locs ls hR
  subst hi
  exact lv_lstore (lv := lvL ad sp Lo) C.1 C.2.1 hd hR.1 hn rfl (fun ls' hl => K ad H locs ls' (hR.put2 hl hn hno))
theorem s_iinc (C : Cx p R s m args meth c y D A Dg cA sp Lx xs) {k i : Nat} {n : Int} {x v : Int32} (hi : k = i) (hv : Int32.ofInt n = v) (hl : lgt Lo i = some (vi x)) (hn : i < mxl y) (hno : isL (lgt Lo (i - 1)) = false) (hd : decode (yCd y) pc = .ok (.iinc k n, 3)) (K : Wq p l e R s m args below meth c y A Dg cA sp n0 ad0 Lx xs Q cc ss (pc + 3) (lst Lo i (vi (x + v))) st h) : Wq p l e R s m args below meth c y A Dg cA sp n0 ad0 Lx xs Q cc ss pc Lo st h := by
  intro ad H locs ls hR
  subst hi
  obtain ⟨j, hj⟩ := List.getElem?_of_mem (lvL_mem.mpr ⟨vi x, lgt_lt hl, hl, rfl, rfl⟩ : (k, emV ad sp (vi x)) ∈ lvL ad sp Lo)
  exact lv_iinc (lv := lvL ad sp Lo) (v := x + v) C.1 C.2.1 hd hR.1 hj (by rw [hv]) hn rfl (fun ls' hl' => K ad H locs ls' (Rl.put1 (v := vi (x + v)) (hR.stk (okS_i hR.okst)) rfl rfl hl' hn hno))
theorem em_cat {ad sp : Nat → Nat} {v : AV} : (emV ad sp v).category = catV v := by
  rcases v with x | x | q
  · rfl
  · rfl
  · cases q <;> rfl
theorem s_dup (C : Cx p R s m args meth c y D A Dg cA sp Lx xs) {a : AV} (hc : catV a = 1) (hd : decode (yCd y) pc = .ok (.dup, 1)) (K : Wq p l e R s m args below meth c y A Dg cA sp n0 ad0 Lx xs Q cc ss (pc + 1) Lo (a :: a :: r) h) : Wq p l e R s m args below meth c y A Dg cA sp n0 ad0 Lx xs Q cc ss pc Lo (a :: r) h := by
  intro ad H locs ls hR
  exact lv_dup C.1 C.2.1 hd (em_cat.trans hc) (K ad H locs ls (hR.stk (okS_cons (hR.okst a List.mem_cons_self) hR.okst)))
theorem s_pop (C : Cx p R s m args meth c y D A Dg cA sp Lx xs) {a : AV} (hc : catV a = 1) (hd : decode (yCd y) pc = .ok (.pop, 1)) (K : Wq p l e R s m args below meth c y A Dg cA sp n0 ad0 Lx xs Q cc ss (pc + 1) Lo r h) : Wq p l e R s m args below meth c y A Dg cA sp n0 ad0 Lx xs Q cc ss pc Lo (a :: r) h := by
  intro ad H locs ls hR
  exact lv_pop C.1 C.2.1 hd (em_cat.trans hc) (K ad H locs ls (hR.stk (okS_tl hR.okst)))
theorem s_dup2 (C : Cx p R s m args meth c y D A Dg cA sp Lx xs) {a b : AV} (hc : catV a = 1) (hc2 : catV b = 1) (hd : decode (yCd y) pc = .ok (.dup2, 1)) (K : Wq p l e R s m args below meth c y A Dg cA sp n0 ad0 Lx xs Q cc ss (pc + 1) Lo (a :: b :: a :: b :: r) h) : Wq p l e R s m args below meth c y A Dg cA sp n0 ad0 Lx xs Q cc ss pc Lo (a :: b :: r) h := by
  intro ad H locs ls hR
  exact lv_dup2_11 C.1 C.2.1 hd (em_cat.trans hc) (em_cat.trans hc2) (K ad H locs ls (hR.stk (okS_cons (hR.okst a List.mem_cons_self) (okS_cons (hR.okst b (List.mem_cons_of_mem _ List.mem_cons_self)) hR.okst))))
theorem s_goto (C : Cx p R s m args meth c y D A Dg cA sp Lx xs) {o : Int} {t : Nat} (ht : (pc : Int) + o = (t : Int)) (hd : decode (yCd y) pc = .ok (.goto o, 3)) (K : Wq p l e R s m args below meth c y A Dg cA sp n0 ad0 Lx xs Q cc ss t Lo st h) : Wq p l e R s m args below meth c y A Dg cA sp n0 ad0 Lx xs Q cc ss pc Lo st h := by
  intro ad H locs ls hR
  exact lv_goto C.1 C.2.1 hd ht (K ad H locs ls hR)
theorem s_ifCond (C : Cx p R s m args meth c y D A Dg cA sp Lx xs) {op : Jvm.ClassFile.Cond} {o : Int} {t : Nat} {a : Int32} (ht : (pc : Int) + o = (t : Int)) (hd : decode (yCd y) pc = .ok (.ifCond op o, 3)) (K : Wq p l e R s m args below meth c y A Dg cA sp n0 ad0 Lx xs Q cc ss (bif condB op a 0 then t else pc + 3) Lo r h) : Wq p l e R s m args below meth c y A Dg cA sp n0 ad0 Lx xs Q cc ss pc Lo (vi a :: r) h := by
  intro ad H locs ls hR
  have K := K ad H locs ls (hR.stk (okS_tl hR.okst))
  cases op
  · refine lv_if_eq C.1 C.2.1 hd ht (fun hc => ?_) (fun hc => ?_) <;> simpa [condB, hc] using K
  · refine lv_if_ne C.1 C.2.1 hd ht (fun hc => ?_) (fun hc => ?_) <;> simpa [condB, hc] using K
  · refine lv_if_lt C.1 C.2.1 hd ht (fun hc => ?_) (fun hc => ?_) <;> simpa [condB, hc] using K
  · refine lv_if_ge C.1 C.2.1 hd ht (fun hc => ?_) (fun hc => ?_) <;> simpa [condB, hc] using K
  · refine lv_if_gt C.1 C.2.1 hd ht (fun hc => ?_) (fun hc => ?_) <;> simpa [condB, hc] using K
  · refine lv_if_le C.1 C.2.1 hd ht (fun hc => ?_) (fun hc => ?_) <;> simpa [condB, hc] using K
theorem s_icmp (C : Cx p R s m args meth c y D A Dg cA sp Lx xs) {op : Jvm.ClassFile.Cond} {o : Int} {t : Nat} {a b : Int32} (ht : (pc : Int) + o = (t : Int)) (hd : decode (yCd y) pc = .ok (.if_icmp op o, 3)) (K : Wq p l e R s m args below meth c y A Dg cA sp n0 ad0 Lx xs Q cc ss (bif condB op a b then t else pc + 3) Lo r h) : Wq p l e R s m args below meth c y A Dg cA sp n0 ad0 Lx xs Q cc ss pc Lo (vi b :: vi a :: r) h := by
  intro ad H locs ls hR
  have K := K ad H locs ls (hR.stk (okS_tl (okS_tl hR.okst)))
  cases op
  · refine lv_icmp_eq C.1 C.2.1 hd ht (fun hc => ?_) (fun hc => ?_) <;> simpa [condB, hc] using K
  · refine lv_icmp_ne C.1 C.2.1 hd ht (fun hc => ?_) (fun hc => ?_) <;> simpa [condB, hc] using K
  · refine lv_icmp_lt C.1 C.2.1 hd ht (fun hc => ?_) (fun hc => ?_) <;> simpa [condB, hc] using K
  · refine lv_icmp_ge C.1 C.2.1 hd ht (fun hc => ?_) (fun hc => ?_) <;> simpa [condB, hc] using K
  · refine lv_icmp_gt C.1 C.2.1 hd ht (fun hc => ?_) (fun hc => ?_) <;> simpa [condB, hc] using K
  · refine lv_icmp_le C.1 C.2.1 hd ht (fun hc => ?_) (fun hc => ?_) <;> simpa [condB, hc] using K
theorem sw_look : ∀ (ps : List (Int × Int)) (l : List (Int32 × Nat)) (pc d : Nat) (dd : Int) (x : Int32), (pc : Int) + dd = (d : Int) → l.map (fun q => (q.1.toInt, (q.2 : Int))) = ps.map (fun p => (p.1, (pc : Int) + p.2)) → (pc : Int) + Op.lookupswitch.offset ps dd x.toInt = (swf l d x : Int)
  | [], [], pc, d, dd, x, h, _ => by simpa [Op.lookupswitch.offset, swf] using h
  | [], _ :: _, _, _, _, _, _, h => by simp at h
  | _ :: _, [], _, _, _, _, _, h => by simp at h
  | (k, o) :: ps, (z, t) :: l, pc, d, dd, x, h, hl => by
    simp only [List.map_cons, List.cons.injEq, Prod.mk.injEq] at hl
    obtain ⟨⟨h1, h2⟩, h3⟩ := hl
    have ih := sw_look ps l pc d dd x h h3
    by_cases hx : x = z
    · subst hx
      have e : Op.lookupswitch.offset ((k, o) :: ps) dd x.toInt = o := by
        rw [h1]; simp [Op.lookupswitch.offset]
      rw [e, swf, if_pos rfl, h2]
    · rw [swf, if_neg hx, ← ih, lv_osw (a := k) (k := z) hx h1]
theorem s_lookup (C : Cx p R s m args meth c y D A Dg cA sp Lx xs) {d : Int} {ps : Array (Int × Int)} {t n : Nat} {sw : List (Int32 × Nat)} {x : Int32} (h1 : (pc : Int) + d = (t : Int)) (h2 : sw.map (fun q => (q.1.toInt, (q.2 : Int))) = ps.toList.map (fun p => (p.1, (pc : Int) + p.2))) (h3 : (ps.toList.zip (ps.toList.drop 1)).all (fun (a, next) => a.1 < next.1) = true) (hd : decode (yCd y) pc = .ok (.lookupswitch d ps, n)) (K : Wq p l e R s m args below meth c y A Dg cA sp n0 ad0 Lx xs Q cc ss (swf sw t x) Lo r h) : Wq p l e R s m args below meth c y A Dg cA sp n0 ad0 Lx xs Q cc ss pc Lo (vi x :: r) h := by
  intro ad H locs ls hR
  exact lv_lookup C.1 C.2.1 hd h3 rfl (sw_look ps.toList sw pc t d x h1 h2) (K ad H locs ls (hR.stk (okS_tl hR.okst)))
theorem swf_at : ∀ (l : List (Int32 × Nat)) (d : Nat) (x : Int32) (lo : Int) (b : Nat), (∀ i, i < l.length → (l.map (fun q => q.1.toInt))[i]? = some (lo + ((b + i : Nat) : Int))) → (∀ i, i < l.length → x.toInt = lo + ((b + i : Nat) : Int) → some (swf l d x) = (l.map (fun q => q.2))[i]?) ∧ ((∀ i, i < l.length → x.toInt ≠ lo + ((b + i : Nat) : Int)) → swf l d x = d)
  | [], d, x, lo, b, _ => ⟨fun i h => absurd h (Nat.not_lt_zero i), fun _ => rfl⟩
  | (k, t) :: l, d, x, lo, b, hk => by
    have h0 : k.toInt = lo + (b : Int) := by simpa using hk 0 (Nat.succ_pos _)
    have ih := swf_at l d x lo (b + 1) (fun i hi => by
      have := hk (i + 1) (Nat.succ_lt_succ hi)
      simp only [List.map_cons, List.getElem?_cons_succ] at this
      rw [this]; congr 2; push_cast; omega)
    constructor
    · intro i hi hx
      cases i with
      | zero =>
        have : x = k := Int32.toInt_inj.mp (by rw [hx, h0]; simp)
        rw [swf, if_pos this]; rfl
      | succ i =>
        have hne : ¬ x = k := fun z => by
          subst z
          rw [h0] at hx
          push_cast at hx
          omega
        rw [swf, if_neg hne]
        exact ih.1 i (Nat.lt_of_succ_lt_succ hi) (by rw [hx]; push_cast; omega)
    · intro hx
      have hne : ¬ x = k := fun z => by
        subst z
        exact hx 0 (Nat.succ_pos _) (by simpa using h0)
      rw [swf, if_neg hne]
      exact ih.2 (fun i hi e => hx (i + 1) (Nat.succ_lt_succ hi) (by rw [e]; push_cast; omega))
theorem s_table (C : Cx p R s m args meth c y D A Dg cA sp Lx xs) {d lo hi : Int} {offs : Array Int} {t n : Nat} {sw : List (Int32 × Nat)} {x : Int32} (h1 : (pc : Int) + d = (t : Int)) (h2 : sw.map (fun q => q.1.toInt) = (List.range (hi - lo + 1).toNat).map (fun (i : Nat) => lo + (i : Int))) (h3 : sw.map (fun q => (q.2 : Int)) = offs.toList.map (fun o => (pc : Int) + o)) (hd : decode (yCd y) pc = .ok (.tableswitch d lo hi offs, n)) (K : Wq p l e R s m args below meth c y A Dg cA sp n0 ad0 Lx xs Q cc ss (swf sw t x) Lo r h) : Wq p l e R s m args below meth c y A Dg cA sp n0 ad0 Lx xs Q cc ss pc Lo (vi x :: r) h := by
  intro ad H locs ls hR
  have K := K ad H locs ls (hR.stk (okS_tl hR.okst))
  have hlen : sw.length = (hi - lo + 1).toNat := by
    have := congrArg List.length h2
    simpa using this
  have hs := swf_at sw t x lo 0 (fun i hi' => by
    rw [h2, List.getElem?_map, List.getElem?_range (by omega)]
    simp)
  by_cases hx : x.toInt < lo ∨ hi < x.toInt
  · rw [hs.2 (fun i hi' e => by
      rw [hlen] at hi'
      simp only [Nat.zero_add] at e
      omega)] at K
    exact lv_tableOut C.1 C.2.1 hd hx h1 K
  · have hx1 : ¬ x.toInt < lo := fun z => hx (Or.inl z)
    have hx2 : ¬ hi < x.toInt := fun z => hx (Or.inr z)
    have hi' : (x.toInt - lo).toNat < sw.length := by rw [hlen]; omega
    have e1 := hs.1 (x.toInt - lo).toNat hi' (by simp only [Nat.zero_add]; omega)
    have hol : sw.length = offs.size := by
      have := congrArg List.length h3
      simpa using this
    have e3 : (sw.map (fun q => (q.2 : Int)))[(x.toInt - lo).toNat]? = (offs.toList.map (fun o => (pc : Int) + o))[(x.toInt - lo).toNat]? := by rw [h3]
    have e4 : offs[(x.toInt - lo).toNat]? = some (offs[(x.toInt - lo).toNat]'(by omega)) := Array.getElem?_eq_getElem (by omega)
    refine lv_tableIn C.1 C.2.1 hd hx1 hx2 e4 ?_ K
    have e5 : offs.toList[(x.toInt - lo).toNat]? = some (offs[(x.toInt - lo).toNat]'(by omega)) := by
      rw [Array.getElem?_toList]; exact e4
    rw [List.getElem?_map, List.getElem?_map, e5] at e3
    rw [List.getElem?_map] at e1
    cases hq : sw[(x.toInt - lo).toNat]? with
    | none => rw [hq] at e1; cases e1
    | some q =>
      rw [hq] at e1 e3
      simp only [Option.map_some, Option.some.injEq] at e1 e3
      rw [e1]
      exact e3.symm
end SND
