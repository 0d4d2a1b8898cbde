/-! THE LAW'S BODY: what a walk of it may use, and its rows -/
abbrev WT : Type := Nat → Nat → Nat → List AV → List AV → AH → Prop
def LwR (Lx : Nat) (xs : Nat → Int32) (P : WT) : Prop :=
  (∀ (n c s pc : Nat) (L st : List AV) (h : AH) (q : Nat × Nat × Nat × List AV × List AV × AH), amSt f00 260 n c s pc L st h = some q → P q.1 q.2.1 q.2.2.1 q.2.2.2.1 q.2.2.2.2.1 q.2.2.2.2.2 → P c s pc L st h) ∧
  (∀ (c s pc : Nat) (L st : List AV) (h : AH) (e : AE) (y c' s' : Nat) (as L' rest : List AV) (T : Option AV → AH → Prop), tbl 260 pc = some e → (∀ (f : Nat → List AV → AH → Option (Option AV × AH)) (r : Option AV) (h' : AH), f y as h = some (r, h') → amI f 260 e c s pc (mkL (eM e) L) st h = some (.inr (c', s', pc + 3, L', r.toList ++ rest, h'))) → Call 900 y as h T → (∀ r h', T r h' → P c' s' (pc + 3) L' (r.toList ++ rest) h') → P c s pc L st h) ∧
  (∀ (c s pc : Nat) (L st : List AV) (h : AH), (HO h 0 Lx xs → P c s pc L st h) → P c s pc L st h) ∧
  (∀ (c s pc : Nat) (L st : List AV) (I : IM) (J : JM) (R1 R2 : RM), agR R1 R2 101 → okR (101, I, J, R2) → P c s pc L st (101, I, J, R2) → P c s pc L st (101, I, J, R1))
theorem f00_no {y : Nat} {as : List AV} {h : AH} {z : Option AV × AH} (e : f00 y as h = some z) : False := by
  have e : (none : Option (Option AV × AH)) = some z := e
  cases e
section LAW2
variable {p : Program} {l : Launch} {e : Env} {R : Room} {s : State} {m : MethodId} {args : Array Value} {below : List Frame} {meth : Method} {c : Code} {A : Nat → Prop} {Dg : va_G} {cA : Nat → ClassId} {sp : Nat → Nat} {ad0 : Nat → Nat} {Lx : Nat} {xs : Nat → Int32} {Q : State → Prop}
theorem wq_lwR (C : Cx p R s m args meth c 260 900 A Dg cA sp Lx xs) : LwR Lx xs (fun cc ss pc Lo st h => Wq p l e R s m args below meth c 260 A Dg cA sp 0 ad0 Lx xs Q cc ss pc Lo st h) := by
  have hT : ∀ pc e0, tbl 260 pc = some e0 → okE 260 pc e0 = true := fun pc e0 he => okE_of 260 pc e0 (Nat.le_refl _) he
  refine ⟨?_, ?_, ?_, ?_⟩
  · intro n cc ss pc Lo st h q hs K
    exact st_ok C (fun _ _ _ _ _ _ z => (f00_no z).elim) (fun _ _ _ _ _ z => (f00_no z).elim) hT n cc ss pc Lo st h q hs K
  · intro cc ss pc Lo st h e0 y c' s' as L' rest T he hs cl K
    obtain ⟨n, r, h', h1, h2⟩ := cl
    refine s_mask (eM e0) ?_
    exact step_ok C (fun y' as' h1 rv h1' hy z => call_ok l okM_of (fun y pc e0 hy he => okE_of y pc e0 (by omega) he) 900 n y' as' h1 rv h1' hy z) (fun y' as' h1 v h1' z => num_call 900 n y' as' h1 v h1' z) okM_of (hT _ _ he) (hs (amCall 900 n) r h' h1) (K r h' h2)
  · intro cc ss pc Lo st h K ad H locs ls hR
    exact K hR.hH ad H locs ls hR
  · intro cc ss pc Lo st I J R1 R2 h1 h2 K
    exact Wq_ag h1 h2 (by decide +kernel) K
end LAW2
theorem ialoadc_ok {f : Nat → List AV → AH → Option (Option AV × AH)} {y : Nat} {e : AE} {c s pc n : Nat} {L r : List AV} {s1 j1 : Nat} {i : Int32} {h : AH} (hi : eI e = .iaload) (hk : Nat.beq (kdx s1) 20 = true) (hl : len h s1 j1 = n) (hin : inA i n = true) : amI f y e c s pc L (vi i :: vr s1 j1 :: r) h = some (.inr (c, s, pc + 1, L, vi (rdI h.2.1 s1 j1 i.toNatClampNeg) :: r, h)) := by
  unfold amI
  rw [hi]
  simp only [pI, pR]
  rw [hl, gd_t hk, gd_t hin]
  rfl
theorem inA_iZ {k n : Nat} (h : k < n) (hn : n ≤ 3072) : inA (iZ (k : Int)) n = true := by
  unfold inA
  rw [iZ_ck (by omega)]
  have h1 : ¬ iZ (k : Int) < 0 := by
    rw [i_0]
    exact nlt (by omega) (by omega) (by omega)
  have h2 : Nat.ble n k = false := by
    rw [← Bool.not_eq_true, Nat.ble_eq]
    omega
  rw [h2, decide_eq_false h1]
  rfl
theorem callW_ok {f : Nat → List AV → AH → Option (Option AV × AH)} {y c s i n pp y' pc : Nat} {L st as rest : List AV} {s1 j1 : Nat} {h h' : AH} {r : Option AV} (hf : f y' (vr s1 j1 :: as) h = some (r, h')) (hp : popN n st [] = some (as, vr s1 j1 :: rest)) (hb : (Nat.beq (kdr s1) (rcv y') && (Nat.ble y' 259 && (Nat.ble (catS rest) 8 && (Nat.beq (MCf y') 0 && Nat.beq (MSf y') 0)))) = true) (hc : Nat.ble c (MCf y) = true) (hs : Nat.ble s (MSf y) = true) : amI f y (EP (.invokevirtual i) 0 y' n 1 pp) c s pc L st h = some (.inr (c, s, pc + 3, L, r.toList ++ rest, h')) := by
  simp only [Bool.and_eq_true] at hb
  obtain ⟨b1, b2, b3, b4, b5⟩ := hb
  have b4 := nb_iff.mp b4
  have b5 := nb_iff.mp b5
  unfold amI
  show gd _ (amCallV f y (EP (.invokevirtual i) 0 y' n 1 pp) c s pc L st h) = _
  rw [gd_t (show (eC (EP (Instr.invokevirtual i) 0 y' n 1 pp)).beq 1 = true from rfl)]
  unfold amCallV
  rw [show eB (EP (.invokevirtual i) 0 y' n 1 pp) = n from rfl, hp]
  dsimp only
  rw [show eA (EP (.invokevirtual i) 0 y' n 1 pp) = y' from rfl, gd_t b1]
  unfold amCallI
  rw [show eA (EP (.invokevirtual i) 0 y' n 1 pp) = y' from rfl, b4, b5, Nat.add_zero, Nat.add_zero, gd_t (by rw [b2, b3, hc, hs]; rfl), hf]
  cases r <;> rfl
section LWR
variable {Lx : Nat} {xs : Nat → Int32} {P : WT} {c s pc c' s' pc' : Nat} {L st L' st' : List AV} {h h' : AH} {I : IM} {J : JM}
theorem LwR.one (hP : LwR Lx xs P) {e : AE} (he : tbl 260 pc = some e) (hs : amI f00 260 e c s pc (mkL (eM e) L) st h = some (.inr (c', s', pc', L', st', h'))) (K : P c' s' pc' L' st' h') : P c s pc L st h := by
  refine hP.1 1 c s pc L st h (c', s', pc', L', st', h') ?_ K
  unfold amSt
  rw [he]
  dsimp only
  rw [hs]
  rfl
theorem LwR.know (hP : LwR Lx xs P) (K : HO h 0 Lx xs → P c s pc L st h) : P c s pc L st h := hP.2.2.1 _ _ _ _ _ _ K
/-- one number of the script is read -/
theorem LwR.rd (hP : LwR Lx xs P) {k : Int32} {kz : Int} {t j : Nat} {x1 x2 : AV} (h0 : tbl 260 pc = some (EA (.aload_n 0) 0 0)) (h1 : tbl 260 (pc + 1) = some (EA (.iload_n 3) 0 3)) (h2 : tbl 260 (pc + 2) = some (EK (.iconst kz) 0 0 0 k)) (h3 : tbl 260 (pc + 3) = some (E0 .iadd 0)) (h4 : tbl 260 (pc + 4) = some (E0 .iaload 0)) (hk : k = iZ (j : Int)) (hj : t + j < Lx) (hL : Lx ≤ 3072) (K : P c s (pc + 5) [vr 950 0, x1, x2, vi (iZ (t : Int))] (vi (xs (t + j)) :: st) h) : P c s pc [vr 950 0, x1, x2, vi (iZ (t : Int))] st h := by
  refine hP.know fun hO => ?_
  refine hP.one (c' := c) (s' := s) (pc' := pc + 1) (L' := [vr 950 0, x1, x2, vi (iZ (t : Int))]) (st' := vr 950 0 :: st) (h' := h) h0 rfl ?_
  refine hP.one (c' := c) (s' := s) (pc' := pc + 2) (L' := [vr 950 0, x1, x2, vi (iZ (t : Int))]) (st' := vi (iZ (t : Int)) :: vr 950 0 :: st) (h' := h) h1 rfl ?_
  refine hP.one (c' := c) (s' := s) (pc' := pc + 3) (L' := [vr 950 0, x1, x2, vi (iZ (t : Int))]) (st' := vi k :: vi (iZ (t : Int)) :: vr 950 0 :: st) (h' := h) h2 rfl ?_
  refine hP.one (c' := c) (s' := s) (pc' := pc + 4) (L' := [vr 950 0, x1, x2, vi (iZ (t : Int))]) (st' := vi (iZ (t : Int) + k) :: vr 950 0 :: st) (h' := h) h3 rfl ?_
  have e1 : iZ (t : Int) + k = iZ ((t + j : Nat) : Int) := by
    rw [hk, iZ_add]
    congr 1
  rw [e1]
  refine hP.one (c' := c) (s' := s) (pc' := pc + 5) (L' := [vr 950 0, x1, x2, vi (iZ (t : Int))]) (st' := vi (xs (t + j)) :: st) (h' := h) h4 ?_ K
  have := ialoadc_ok (f := f00) (y := 260) (e := E0 .iaload 0) (c := c) (s := s) (pc := pc + 4) (L := mkL 0 [vr 950 0, x1, x2, vi (iZ (t : Int))]) (r := st) (s1 := 950) (j1 := 0) (h := h) rfl rfl (show len h 950 0 = Lx from hO.2.2.2.2.1) (inA_iZ hj hL)
  rw [iZ_ck (by omega), show rdI h.2.1 950 0 (t + j) = h.2.1 950 0 (t + j) from rfl, hO.2.2.2.1] at this
  exact this
/-- a call of one of the two -/
theorem LwR.cal (hP : LwR Lx xs P) {y n pp i s1 : Nat} {as rest : List AV} {T : Option AV → AH → Prop} (cl : Call 900 y (vr s1 0 :: as) h T) (he : tbl 260 pc = some (EP (.invokevirtual i) 0 y n 1 pp)) (hp : popN n st [] = some (as, vr s1 0 :: rest)) (hb : (Nat.beq (kdr s1) (rcv y) && (Nat.ble y 259 && (Nat.ble (catS rest) 8 && (Nat.beq (MCf y) 0 && Nat.beq (MSf y) 0)))) = true) (K : ∀ r h', T r h' → P 101 4471 (pc + 3) L (r.toList ++ rest) h') : P 101 4471 pc L st h :=
  hP.2.1 101 4471 pc L st h _ y 101 4471 (vr s1 0 :: as) L rest T he (fun f r h' hf => callW_ok hf hp hb (by decide +kernel) (by decide +kernel)) cl K
abbrev LsT (t : Nat) : List AV := [vr 950 0, vr 9 0, vr 10 0, vi (iZ (t : Int))]
/-- behind a pair of answers: on to the next six numbers -/
def GoOn (P : WT) (t c : Nat) : Prop := ∀ (g : Sg) (I : IM) (J : JM) (b : Bool), XR g I J b → MR g I J → SOK g c → P 101 4471 1480 (LsT t) [] (101, I, J, R0 b)
theorem LwR.icmp (hP : LwR Lx xs P) {o : Int} {x : Int32} {t : Nat} (he : tbl 260 pc = some (EA (.if_icmp .eq o) 0 1480)) (K : P 101 4471 1480 (LsT t) [] h) : P 101 4471 pc (LsT t) [vi x, vi x] h := by
  refine hP.one (c' := 101) (s' := 4471) (pc' := 1480) (L' := LsT t) (st' := []) (h' := h) he ?_ K
  show nx 101 4471 (bif decide (x = x) then 1480 else pc + 3) (LsT t) [] h = _
  rw [decide_eq_true rfl]
  rfl
theorem LwR.op (hP : LwR Lx xs P) {y z n t k pc2 i1 p1 i2 p2 : Nat} {o : Int} {as st1 st2 : List AV} {g : Sg} {b : Bool} (hop : Op y z as) (hc : k < 512) (hX : XR g I J b) (hM : MR g I J) (hO : SOK g k) (hK : GoOn P t (k + 1))
    (he1 : tbl 260 pc = some (EP (.invokevirtual i1) 0 y n 1 p1)) (hp1 : popN n st1 [] = some (as, vr 9 0 :: [])) (hb1 : (Nat.beq (kdr 9) (rcv y) && (Nat.ble y 259 && (Nat.ble (catS []) 8 && (Nat.beq (MCf y) 0 && Nat.beq (MSf y) 0)))) = true)
    (hm : tbl 260 (pc + 3) = some (EA (.aload_n 2) 0 2)) (rds : ∀ (x : Int32) (h1 : AH), P 101 4471 pc2 (LsT t) (st2 ++ [vr 10 0, vi x]) h1 → P 101 4471 (pc + 4) (LsT t) [vr 10 0, vi x] h1)
    (he2 : tbl 260 pc2 = some (EP (.invokevirtual i2) 0 z n 1 p2)) (hp2 : ∀ x : Int32, popN n (st2 ++ [vr 10 0, vi x]) [] = some (as, vr 10 0 :: [vi x])) (hb2 : ∀ x : Int32, (Nat.beq (kdr 10) (rcv z) && (Nat.ble z 259 && (Nat.ble (catS [vi x]) 8 && (Nat.beq (MCf z) 0 && Nat.beq (MSf z) 0)))) = true)
    (hi : tbl 260 (pc2 + 3) = some (EA (.if_icmp .eq o) 0 1480)) : P 101 4471 pc (LsT t) st1 (101, I, J, R0 b) := by
  refine hP.cal (hop g k I J b hc hX hM hO) he1 hp1 hb1 ?_
  rintro _ _ ⟨x, I1, J1, rfl, rfl, cl⟩
  refine hP.one (c' := 101) (s' := 4471) (pc' := pc + 4) (L' := LsT t) (st' := [vr 10 0, vi x]) (h' := (101, I1, J1, R0 b)) hm rfl ?_
  refine rds x _ ?_
  refine hP.cal cl he2 (hp2 x) (hb2 x) ?_
  rintro _ _ ⟨x2, I2, J2, rfl, rfl, rfl, g', hX', hM', hO'⟩
  exact hP.icmp hi (hK g' I2 J2 b hX' hM' hO')
end LWR
