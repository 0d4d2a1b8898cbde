/-! A RUN OF THE PURE MACHINE IS A CONTRACT OF THE REAL ONE -/
def NI (k : Option RS) : Prop := ∀ q, k ≠ some (.inl q)
theorem ni_none : NI none := fun _ z => by cases z
theorem ni_nx {c s pc : Nat} {L st : List AV} {h : AH} : NI (nx c s pc L st h) := fun _ z => by cases z
theorem ni_I {st : List AV} {k : Int32 → List AV → Option RS} (h : ∀ x r, NI (k x r)) : NI (pI st k) := by
  unfold pI; split
  · exact h _ _
  · exact ni_none
theorem ni_J {st : List AV} {k : Int64 → List AV → Option RS} (h : ∀ x r, NI (k x r)) : NI (pJ st k) := by
  unfold pJ; split
  · exact h _ _
  · exact ni_none
theorem ni_R {st : List AV} {k : Nat → Nat → List AV → Option RS} (h : ∀ a b r, NI (k a b r)) : NI (pR st k) := by
  unfold pR; split
  · exact h _ _ _
  · exact ni_none
theorem ni_gI {v : Option AV} {k : Int32 → Option RS} (h : ∀ x, NI (k x)) : NI (gI v k) := by
  unfold gI; split
  · exact h _
  · exact ni_none
theorem ni_gJ {v : Option AV} {k : Int64 → Option RS} (h : ∀ x, NI (k x)) : NI (gJ v k) := by
  unfold gJ; split
  · exact h _
  · exact ni_none
theorem ni_gR {v : Option AV} {k : Nat → Nat → Option RS} (h : ∀ a b, NI (k a b)) : NI (gR v k) := by
  unfold gR; split
  · exact h _ _
  · exact ni_none
theorem ni_gd {b : Bool} {k : Option RS} (h : NI k) : NI (gd b k) := by
  cases b
  · exact ni_none
  · exact h
theorem ni_if {b : Bool} {k k2 : Option RS} (h : NI k) (h2 : NI k2) : NI (bif b then k else k2) := by
  cases b
  · exact h2
  · exact h
theorem ni_callI {f : Nat → List AV → AH → Option (Option AV × AH)} {y : Nat} {e : AE} {c s pc : Nat} {L as r : List AV} {h : AH} : NI (amCallI f y e c s pc L as r h) := by
  unfold amCallI
  refine ni_gd ?_
  split
  · exact ni_nx
  · exact ni_nx
  · exact ni_none
theorem ni_callV {f : Nat → List AV → AH → Option (Option AV × AH)} {y : Nat} {e : AE} {c s pc : Nat} {L st : List AV} {h : AH} : NI (amCallV f y e c s pc L st h) := by
  unfold amCallV
  split
  · exact ni_gd ni_callI
  · exact ni_none
theorem ni_callS {f : Nat → List AV → AH → Option (Option AV × AH)} {y : Nat} {e : AE} {c s pc : Nat} {L st : List AV} {h : AH} : NI (amCallS f y e c s pc L st h) := by
  unfold amCallS
  split
  · exact ni_callI
  · exact ni_none
theorem ni_copy {c s pc : Nat} {L st : List AV} {h : AH} : NI (amCopy c s pc L st h) := by
  unfold amCopy
  exact ni_I fun _ _ => ni_I fun _ _ => ni_R fun _ _ _ => ni_I fun _ _ => ni_R fun _ _ _ => ni_gd (ni_gd (ni_if ni_nx (ni_gd ni_nx)))
theorem ni_new {y c s pc a n : Nat} {L r : List AV} {h : AH} : NI (amNew y c s pc a n L r h) := by
  unfold amNew
  split
  · exact ni_gd ni_nx
  · exact ni_none
theorem ni_newA {y c s pc a : Nat} {n : Int32} {L r : List AV} {h : AH} : NI (amNewA y c s pc a n L r h) := by
  unfold amNewA
  split
  · exact ni_gd ni_new
  · exact ni_none
theorem ni_getF {e : AE} {c s pc : Nat} {L st : List AV} {h : AH} : NI (amGetF e c s pc L st h) := by
  unfold amGetF
  refine ni_R fun _ _ _ => ni_if (ni_gd (ni_if ni_nx ni_nx)) (ni_gd (ni_if ni_nx ?_))
  split
  · exact ni_nx
  · exact ni_none
theorem ni_putF {e : AE} {c s pc : Nat} {L st : List AV} {h : AH} : NI (amPutF e c s pc L st h) := by
  unfold amPutF
  exact ni_if (ni_R fun _ _ _ => ni_R fun _ _ _ => ni_gd (ni_gd ni_nx)) (ni_I fun _ _ => ni_R fun _ _ _ => ni_gd (ni_gd ni_nx))
/-- which instructions end a method, and with what -/
theorem ret_of {f : Nat → List AV → AH → Option (Option AV × AH)} {y : Nat} {e0 : AE} {c s pc : Nat} {L st : List AV} {h h' : AH} {rv : Option AV} (hs : amI f y e0 c s pc L st h = some (.inl (rv, h'))) :
    h' = h ∧ c ≤ MCf y ∧ s ≤ MSf y ∧ ((∃ x, eI e0 = .ireturn ∧ st = [vi x] ∧ rv = some (vi x) ∧ (RTf y = 1 ∨ (RTf y = 2 ∧ x &&& 1 = x) ∨ (RTf y = 4 ∧ x.toInt8.toInt32 = x))) ∨ (∃ x, eI e0 = .lreturn ∧ st = [vl x] ∧ rv = some (vl x) ∧ RTf y = 3) ∨ (eI e0 = .return_ ∧ st = [] ∧ rv = none ∧ RTf y = 0)) := by
  unfold amI at hs
  cases hi : eI e0 <;> rw [hi] at hs <;> dsimp only at hs
  case ireturn =>
    split at hs
    · next x =>
      obtain ⟨hb, hs⟩ := gd_some hs
      simp only [Bool.and_eq_true, Bool.or_eq_true, nb_iff, decide_eq_true_eq] at hb
      cases hs
      refine ⟨rfl, Nat.le_of_ble_eq_true hb.1.1, Nat.le_of_ble_eq_true hb.1.2, Or.inl ⟨x, rfl, rfl, rfl, ?_⟩⟩
      rcases hb.2 with (z | z) | z
      · exact Or.inl z
      · exact Or.inr (Or.inl z)
      · exact Or.inr (Or.inr z)
    · cases hs
  case lreturn =>
    split at hs
    · next x =>
      obtain ⟨hb, hs⟩ := gd_some hs
      simp only [Bool.and_eq_true, nb_iff] at hb
      cases hs
      exact ⟨rfl, Nat.le_of_ble_eq_true hb.1.1, Nat.le_of_ble_eq_true hb.1.2, Or.inr (Or.inl ⟨x, rfl, rfl, rfl, hb.2⟩)⟩
    · cases hs
  case return_ =>
    split at hs
    · obtain ⟨hb, hs⟩ := gd_some hs
      simp only [Bool.and_eq_true, nb_iff] at hb
      cases hs
      exact ⟨rfl, Nat.le_of_ble_eq_true hb.1.1, Nat.le_of_ble_eq_true hb.1.2, Or.inr (Or.inr ⟨rfl, rfl, rfl, hb.2⟩)⟩
    · cases hs
  all_goals
    exfalso
    refine absurd hs ?_
    generalize (rv, h') = qq
    revert qq
    show NI _
    repeat' first
      | exact ni_none
      | exact ni_nx
      | exact ni_callV
      | exact ni_callS
      | exact ni_copy
      | exact ni_new
      | exact ni_newA
      | exact ni_getF
      | exact ni_putF
      | refine ni_I fun _ _ => ?_
      | refine ni_J fun _ _ => ?_
      | refine ni_R fun _ _ _ => ?_
      | refine ni_gI fun _ => ?_
      | refine ni_gJ fun _ => ?_
      | refine ni_gR fun _ _ => ?_
      | refine ni_gd ?_
      | refine ni_if ?_ ?_
      | split
theorem num_loop {f : Nat → List AV → AH → Option (Option AV × AH)} {y : Nat} : ∀ (n c s pc : Nat) (L st : List AV) (h h' : AH) (v : AV), amLoop f y n c s pc L st h = some (some v, h') → (∃ x, v = vi x) ∨ ∃ x, v = vl x
  | 0, c, s, pc, L, st, h, h', v, hs => by cases hs
  | n + 1, c, s, pc, L, st, h, h', v, hs => by
    unfold amLoop at hs
    split at hs
    · cases hs
    · split at hs
      · cases hs
      · next q hq =>
        cases hs
        obtain ⟨-, -, -, ⟨x, -, -, hx, -⟩ | ⟨x, -, -, hx, -⟩ | ⟨-, -, hx, -⟩⟩ := ret_of hq
        · cases hx; exact Or.inl ⟨x, rfl⟩
        · cases hx; exact Or.inr ⟨x, rfl⟩
        · cases hx
      · exact num_loop n _ _ _ _ _ _ _ _ hs
theorem num_call : ∀ (D n y : Nat) (as : List AV) (h : AH) (v : AV) (h' : AH), amCall D n y as h = some (some v, h') → (∃ x, v = vi x) ∨ ∃ x, v = vl x
  | 0, _, _, _, _, _, _, hs => by cases hs
  | D + 1, n, y, as, h, v, h', hs => by
    unfold amCall at hs
    cases hb : Nat.ble (argL as).length (mxl y) <;> rw [hb] at hs
    · cases hs
    · exact num_loop _ _ _ _ _ _ _ _ _ hs
theorem rt_all {y : Nat} (hm : okM y = true) : (RTf y = 0 → yRt y = none) ∧ (RTf y = 1 → yRt y = some .int) ∧ (RTf y = 2 → yRt y = some .boolean) ∧ (RTf y = 3 → yRt y = some .long) ∧ (RTf y = 4 → yRt y = some .byte) := by
  simp only [okM, Bool.and_eq_true] at hm
  obtain ⟨-, -, -, -, -, -, -, h⟩ := hm
  refine ⟨fun z => ?_, fun z => ?_, fun z => ?_, fun z => ?_, fun z => ?_⟩ <;> rw [z] at h
  · exact of_decide_eq_true h
  · exact of_decide_eq_true h
  · exact of_decide_eq_true h
  · exact of_decide_eq_true h
  · have h : (decide (yRt y = some .byte) && true) = true := h
    rw [Bool.and_true] at h
    exact of_decide_eq_true h
section SNR
variable {p : Program} {l : Launch} {e : Env} {R : Room} {s : State} {m : MethodId} {args : Array Value} {below : List Frame} {meth : Method} {c : Code} {y D : Nat} {A : Nat → Prop} {Dg : va_G} {cA : Nat → ClassId} {sp : Nat → Nat} {n0 : Nat} {ad0 : Nat → Nat} {Lx : Nat} {xs : Nat → Int32} {Q : State → Prop}
variable {cc ss pc : Nat} {Lo st r : List AV} {h : AH} {ad : Nat → Nat} {H : Heap} {locs : List Loc} {ls : Array Slot}
theorem ret_Q (C : Cx p R s m args meth c y D A Dg cA sp Lx xs) (hR : Rl s y A Dg cA sp n0 ad0 Lx xs ad H locs ls Lo st h) (rv : Option AV) : ∀ t : State, t.heap = H → s.WarmedH t.vm → Qm sp A Dg cA Lx xs n0 ad0 rv h args s (.returned (rv.map numV)) t := by
  intro t ht hW
  exact ⟨⟨ad, rfl, hR.2.2.2.2.2.2.2.2, hR.hH.2.2.2.2.2, Wld_now C hR t ht hW⟩, hR.hS.F ht⟩
theorem ret_ok (hm : okM y = true) (C : Cx p R s m args meth c y D A Dg cA sp Lx xs) {f : Nat → List AV → AH → Option (Option AV × AH)} {e0 : AE} (hE : okE y pc e0 = true) {rv : Option AV} {h' : AH} (hs : amI f y e0 cc ss pc Lo st h = some (.inl (rv, h'))) : Wq p l e R s m args below meth c y A Dg cA sp n0 ad0 Lx xs (MQ below (Qm sp A Dg cA Lx xs n0 ad0 rv h') args s (MCf y) (MSf y) A) cc ss pc Lo st h := by
  intro ad H locs ls hR
  obtain ⟨rfl, h1, h2, hc⟩ := ret_of hs
  have hd := dec_of hE
  have hlocks : meth.locks = false := C.2.2.2.2.2.2.1
  have hret := C.2.2.2.2.2.1
  obtain ⟨r0, r1, r2, r3, r4⟩ := rt_all hm
  refine W.widen h1 h2 ?_
  rcases hc with ⟨x, hi, rfl, rfl, hk⟩ | ⟨x, hi, rfl, rfl, hk⟩ | ⟨hi, rfl, rfl, hk⟩
  · rw [hi] at hd
    have hd := hd (Nat.succ_ne_zero _)
    rcases hk with hk | ⟨hk, hx⟩ | ⟨hk, hx⟩
    · exact W.zret C.1 C.2.1 (hret.trans (r1 hk)) rfl (ret_Q C hR (some (vi x))) hR.hS.2.2 hd
    · exact W.zret C.1 C.2.1 (hret.trans (r2 hk)) (congrArg Value.int hx) (ret_Q C hR (some (vi x))) hR.hS.2.2 hd
    · exact W.zret C.1 C.2.1 (hret.trans (r4 hk)) (congrArg Value.int hx) (ret_Q C hR (some (vi x))) hR.hS.2.2 hd
  · rw [hi] at hd
    have hd := hd (Nat.succ_ne_zero _)
    exact W.lret C.1 C.2.1 (hret.trans (r3 hk)) (ret_Q C hR (some (vl x))) hR.hS.2.2 hd
  · rw [hi] at hd
    have hd := hd (Nat.succ_ne_zero _)
    exact W.vret C.1 C.2.1 (hret.trans (r0 hk)) (ret_Q C hR none) hR.hS.2.2 hd
theorem loop_ok (hm : okM y = true) (C : Cx p R s m args meth c y D A Dg cA sp Lx xs) {f : Nat → List AV → AH → Option (Option AV × AH)} (hf : ∀ y' as h rv h', y' ≤ 259 → f y' as h = some (rv, h') → Ctr l D y' as h rv h') (hN : ∀ y' as h v h', f y' as h = some (some v, h') → (∃ x, v = vi x) ∨ ∃ x, v = vl x) (hM : ∀ y', y' ≤ 259 → okM y' = true) (hT : ∀ pc e0, tbl y pc = some e0 → okE y pc e0 = true) {rv : Option AV} {h' : AH} : ∀ (n cc ss pc : Nat) (Lo st : List AV) (h : AH), amLoop f y n cc ss pc Lo st h = some (rv, h') → Wq p l e R s m args below meth c y A Dg cA sp n0 ad0 Lx xs (MQ below (Qm sp A Dg cA Lx xs n0 ad0 rv h') args s (MCf y) (MSf y) A) cc ss pc Lo st h
  | 0, _, _, _, _, _, _, hs => by cases hs
  | n + 1, cc, ss, pc, Lo, st, h, hs => by
    unfold amLoop at hs
    split at hs
    · cases hs
    · next e0 he =>
      refine s_mask (eM e0) ?_
      split at hs
      · cases hs
      · next q hq =>
        cases hs
        exact ret_ok hm C (hT _ _ he) hq
      · next q hq => exact step_ok C hf hN hM (hT _ _ he) hq (loop_ok hm C hf hN hM hT n _ _ _ _ _ _ hs)
end SNR
theorem argL_get {ad sp : Nat → Nat} : ∀ (as : List AV) (k i : Nat) (a : AV), lgt (argL as) i = some a → isSet a = true → (k + i, emV ad sp a) ∈ lv_args k (as.map (emV ad sp))
  | [], _, _, _, h, _ => by cases h
  | .inl x :: as, k, 0, a, h, _ => by
    cases h
    exact List.mem_cons_self
  | .inl x :: as, k, i + 1, a, h, hs => by
    have := argL_get (ad := ad) (sp := sp) as (k + 1) i a h hs
    refine List.mem_cons_of_mem _ ?_
    rw [show k + (i + 1) = k + 1 + i by omega]
    exact this
  | .inr (.inl x) :: as, k, 0, a, h, _ => by
    cases h
    exact List.mem_cons_self
  | .inr (.inl x) :: as, k, 1, a, h, hs => by
    cases h
    cases hs
  | .inr (.inl x) :: as, k, i + 2, a, h, hs => by
    have := argL_get (ad := ad) (sp := sp) as (k + 2) i a h hs
    refine List.mem_cons_of_mem _ ?_
    rw [show k + (i + 2) = k + 2 + i by omega]
    exact this
  | .inr (.inr q) :: as, k, 0, a, h, _ => by
    cases h
    exact List.mem_cons_self
  | .inr (.inr q) :: as, k, i + 1, a, h, hs => by
    have := argL_get (ad := ad) (sp := sp) as (k + 1) i a h hs
    refine List.mem_cons_of_mem _ ?_
    rw [show k + (i + 1) = k + 1 + i by omega]
    cases q <;> exact this
theorem argL_len {ad sp : Nat → Nat} : ∀ (as : List AV), (lg_sl (as.map (emV ad sp))).length = (argL as).length
  | [] => rfl
  | .inl x :: as => by
    have := argL_len (ad := ad) (sp := sp) as
    simp only [lg_sl] at this ⊢
    simp only [List.map_cons, List.flatMap_cons, List.length_append, this]
    simp [emV, argL, Value.category]
    omega
  | .inr (.inl x) :: as => by
    have := argL_len (ad := ad) (sp := sp) as
    simp only [lg_sl] at this ⊢
    simp only [List.map_cons, List.flatMap_cons, List.length_append, this]
    simp [emV, argL, Value.category]
    omega
  | .inr (.inr q) :: as => by
    have := argL_len (ad := ad) (sp := sp) as
    simp only [lg_sl] at this ⊢
    simp only [List.map_cons, List.flatMap_cons, List.length_append, this]
    cases q <;> simp [emV, argL, Value.category] <;> omega
theorem argL_mem {v : AV} : ∀ (as : List AV), v ∈ argL as → v = vn ∨ v ∈ as
  | [], h => by cases h
  | .inl x :: as, h => by
    rcases List.mem_cons.mp h with h | h
    · exact Or.inr (by rw [h]; exact List.mem_cons_self)
    · exact (argL_mem as h).imp id (List.mem_cons_of_mem _)
  | .inr (.inl x) :: as, h => by
    rcases List.mem_cons.mp h with h | h
    · exact Or.inr (by rw [h]; exact List.mem_cons_self)
    · rcases List.mem_cons.mp h with h | h
      · exact Or.inl h
      · exact (argL_mem as h).imp id (List.mem_cons_of_mem _)
  | .inr (.inr q) :: as, h => by
    rcases List.mem_cons.mp h with h | h
    · exact Or.inr (by rw [h]; exact List.mem_cons_self)
    · exact (argL_mem as h).imp id (List.mem_cons_of_mem _)
theorem lgt_app : ∀ (a b : List AV) (i : Nat), lgt (a ++ b) i = if i < a.length then lgt a i else lgt b (i - a.length)
  | [], b, i => by simp
  | x :: a, b, 0 => by simp [lgt]
  | x :: a, b, i + 1 => by
    simp only [List.cons_append, lgt, lgt_app a b i, List.length_cons]
    by_cases h : i < a.length
    · rw [if_pos h, if_pos (by omega)]
    · rw [if_neg h, if_neg (by omega)]
      congr 1
      omega
theorem lgt_rep : ∀ (n i : Nat) (a : AV), lgt (List.replicate n vn) i = some a → a = vn
  | 0, _, _, h => by cases h
  | n + 1, 0, a, h => by cases h; rfl
  | n + 1, i + 1, a, h => lgt_rep n i a h
theorem padL_get {n i : Nat} {l : List AV} {a : AV} (h : lgt (padL n l) i = some a) (hs : isSet a = true) : lgt l i = some a := by
  unfold padL at h
  rw [lgt_app] at h
  split at h
  · exact h
  · rw [lgt_rep _ _ _ h] at hs
    cases hs
set_option maxHeartbeats 1000000 in
/-- THE BRIDGE: a run of the pure machine is a contract -/
theorem call_ok (l : Launch) (hM : ∀ y', y' ≤ 259 → okM y' = true) (hT : ∀ y pc e0, y ≤ 259 → tbl y pc = some e0 → okE y pc e0 = true) : ∀ (D n y : Nat) (as : List AV) (h : AH) (rv : Option AV) (h' : AH), y ≤ 259 → amCall D n y as h = some (rv, h') → Ctr l D y as h rv h'
  | 0, _, _, _, _, _, _, _, hs => by cases hs
  | D + 1, n, y, as, h, rv, h', hy, hs => by
    intro sp A Dg cA Lx xs ad hok
    unfold amCall at hs
    cases hb : Nat.ble (argL as).length (mxl y) <;> rw [hb] at hs
    · cases hs
    have hlen := Nat.le_of_ble_eq_true hb
    have hm := hM y hy
    obtain ⟨m1, m2, m3, m4, m5, m6, m7, m8⟩ := okM_all hm
    refine Met.ofW (cc := yCd y) (maxL := mxl y) (ret := yRt y) m5 rfl ?_
    intro p e s m args below meth c s₁ B hml hv
    obtain ⟨rfl, hW⟩ := hv
    have hts := atoms_spec (ws := wsY y) B.pre
    have C : Cx p (rmD (D + 1) y) s m (as.map (emV ad sp)).toArray meth c y D A Dg cA sp Lx xs :=
      ⟨B.exec, B.bytes, hml, findClass_of_methodNamed B.named, fun w hw => hts w (List.mem_cons_of_mem _ hw), B.returns, B.notSynchronized, fun hi => ((name_of_methodNamed B.named B.method).1).trans hi,
        Nat.le_refl _, by show 60 * D + 60 ≤ 60 * (D + 1); omega, Nat.le_refl _, Nat.le_refl _, hW.2.1, hW.2.2.2.2.1, hW.2.2.2.2.2⟩
    have hl := lv_entry (as.map (emV ad sp)) (n := mxl y) (by rw [argL_len]; exact hlen)
    rw [lg_entry_eq]
    have hH := hW.2.2.2.1
    have K := loop_ok (A := A) (Dg := Dg) (cA := cA) (sp := sp) (n0 := h.1) (ad0 := ad) (below := below) (l := l) (e := e) hm C (fun y' as' h1 rv1 h1' hy' z => call_ok l hM hT D n y' as' h1 rv1 h1' hy' z) (fun y' as' h1 v h1' z => num_call D n y' as' h1 v h1' z) hM (fun pc e0 z => hT y pc e0 hy z) n 0 0 0 (padL (mxl y) (argL as)) [] h hs
    refine K ad s.heap [] _ ⟨⟨hl.1, hl.2.1, fun q hq => ?_⟩, ?_, fun v hv => ?_, fun v hv => absurd hv List.not_mem_nil, hW.1, hW.2.2.1, ⟨hH.1, hH.2.1, hH.2.2.1, hH.2.2.2.1, hH.2.2.2.2.1, Nat.le_refl _⟩, va_S.rf, fun i _ => rfl⟩
    · obtain ⟨i, v⟩ := q
      obtain ⟨a, h1, h2, h3, rfl⟩ := lvL_mem.mp hq
      have := argL_get (ad := ad) (sp := sp) as 0 i a (padL_get h2 h3) h3
      rw [Nat.zero_add] at this
      exact hl.2.2 (i, _) this
    · unfold padL
      rw [List.length_append, List.length_replicate]
      omega
    · unfold padL at hv
      rcases List.mem_append.mp hv with hv | hv
      · rcases argL_mem as hv with rfl | hv
        · exact okV_vn h
        · exact hok v hv
      · rw [List.eq_of_mem_replicate hv]
        exact okV_vn h
