/-! CALLS, AND EVERY STEP -/
def numV : AV → Value
  | .inl x => .int x
  | .inr (.inl x) => .long x
  | _ => .null
def wsY (y : Nat) : List Cond := Cond.code (yNm y) (yCd y) (mxl y) (yRt y) :: wsAll
def rmD (D y : Nat) : Room := { frames := D, cells := MCf y, slots := MSf y, locals := 60 * D }
def Wld (sp : Nat → Nat) (A : Nat → Prop) (Dg : va_G) (cA : Nat → ClassId) (Lx : Nat) (xs : Nat → Int32) (ad : Nat → Nat) (h : AH) (U : State) : Prop :=
  va_P Dg vwCl (wsh ad sp cA h) U.heap ∧ va_K Dg vwCl (tysh cA) U ∧ va_D A (wsh ad sp cA h) ∧ HO h 0 Lx xs ∧ Stat sp A Lx xs U U.heap ∧ ∀ q, U.heap.size ≤ q → A q
def Qm (sp : Nat → Nat) (A : Nat → Prop) (Dg : va_G) (cA : Nat → ClassId) (Lx : Nat) (xs : Nat → Int32) (n0 : Nat) (ad0 : Nat → Nat) (r : Option AV) (h' : AH) : Array Value → State → Outcome → State → Prop := fun _ st oc t =>
  (∃ ad' : Nat → Nat, oc = .returned (r.map numV) ∧ (∀ i, i < n0 → ad' i = ad0 i) ∧ n0 ≤ h'.1 ∧ Wld sp A Dg cA Lx xs ad' h' t) ∧ va_F A st t
/-- what a run of the pure machine says of the real one -/
def Ctr (l : Launch) (D y : Nat) (as : List AV) (h : AH) (r : Option AV) (h' : AH) : Prop :=
  ∀ (sp : Nat → Nat) (A : Nat → Prop) (Dg : va_G) (cA : Nat → ClassId) (Lx : Nat) (xs : Nat → Int32) (ad : Nat → Nat), okS h as →
    Met l (yNm y) (wsY y) (rmD D y) (va_Pc (as.map (emV ad sp)) (Wld sp A Dg cA Lx xs ad h)) (Qm sp A Dg cA Lx xs h.1 ad r h') (MCf y) (MSf y) A
theorem Stat.kept {sp : Nat → Nat} {A : Nat → Prop} {Lx : Nat} {xs : Nat → Int32} {U : State} {H H1 : Heap} (h : Stat sp A Lx xs U H) (hq : ∀ a : Nat, a < H.size → ¬ A a → H1[a]? = H[a]?) : Stat sp A Lx xs U H1 := by
  obtain ⟨a1, a2, a3, a4, a5, a6, a7, a8, a9, a10, a11, a12, a13, a14, a15, a16, a17, a18⟩ := h
  exact ⟨a1.kept hq, a2.kept hq, a3.kept hq, a4.kept hq, a5.kept hq, a6.kept hq, a7.kept hq, a8.kept hq, a9.kept hq, a10, a11.kept hq, a12.kept hq, a13.kept hq, a14.kept hq, a15, a16, a17, a18.kept hq⟩
theorem Stat.warm {sp : Nat → Nat} {A : Nat → Prop} {Lx : Nat} {xs : Nat → Int32} {s U : State} {H : Heap} (hW : s.WarmedH U.vm) (h : Stat sp A Lx xs s H) : Stat sp A Lx xs U H := by
  obtain ⟨a1, a2, a3, a4, a5, a6, a7, a8, a9, a10, a11, a12, a13, a14, a15, a16, a17, a18⟩ := h
  have hv := hW.alike
  exact ⟨a1.moved hv, a2.moved hv, a3.moved hv, a4.moved hv, a5.moved hv, a6.moved hv, a7.moved hv, a8.moved hv, a9.moved hv, a10.warm hW, a11.moved hv, a12.moved hv, a13.moved hv, a14.moved hv, a15.moved hv, a16.warmF hW, a17.warmF hW, a18.moved hv⟩
theorem Stat.same {sp : Nat → Nat} {A : Nat → Prop} {Lx : Nat} {xs : Nat → Int32} {s U : State} {H : Heap} (hv : U.vm = s.vm) (h : Stat sp A Lx xs s H) : Stat sp A Lx xs U H := by
  obtain ⟨a1, a2, a3, a4, a5, a6, a7, a8, a9, a10, a11, a12, a13, a14, a15, a16, a17, a18⟩ := h
  have hv2 : s.vm.Alike U.vm := by rw [hv]; exact Vm.Alike.refl _
  exact ⟨a1.moved hv2, a2.moved hv2, a3.moved hv2, a4.moved hv2, a5.moved hv2, a6.moved hv2, a7.moved hv2, a8.moved hv2, a9.moved hv2, a10.same hv, a11.moved hv2, a12.moved hv2, a13.moved hv2, a14.moved hv2, a15.moved hv2, a16.same rfl hv.symm, a17.same rfl hv.symm, a18.moved hv2⟩
theorem blind {sp : Nat → Nat} {A : Nat → Prop} {Dg : va_G} {cA : Nat → ClassId} {Lx : Nat} {xs : Nat → Int32} {ad : Nat → Nat} {h : AH} {av : List Value} : FrameBlind (va_Pc av (Wld sp A Dg cA Lx xs ad h)) := by
  intro a U g mk q
  obtain ⟨q0, q1, q2, q3, q4, q5, q6⟩ := q
  exact ⟨q0, q1, va_K.moved (u := U) (U := U.calling g mk a) (Vm.Alike.refl U.vm) q2, q3, q4, Stat.same (s := U) rfl q5, q6⟩
theorem good_wsAll {w : Cond} (h : w ∈ wsAll) : (w.onTables && w.keeps) = true ∨ ∃ ty, w = .arrayClass ty := good_of_word (List.mem_filter.mp h).2
theorem goodIn_all {ws : List Cond} (h : ∀ w ∈ ws, w ∈ wsAll) : GoodIn wsAll ws := fun w hw => ⟨h w hw, good_wsAll (h w hw)⟩
theorem popN_spec : ∀ (n : Nat) (st acc as rest : List AV), popN n st acc = some (as, rest) → ∃ ys, st = ys ++ rest ∧ as = ys.reverse ++ acc ∧ ys.length = n
  | 0, st, acc, as, rest, h => by
    cases h
    exact ⟨[], rfl, rfl, rfl⟩
  | n + 1, [], acc, as, rest, h => by cases h
  | n + 1, a :: st, acc, as, rest, h => by
    obtain ⟨ys, h1, h2, h3⟩ := popN_spec n st (a :: acc) as rest h
    exact ⟨a :: ys, by rw [h1]; rfl, by rw [h2]; simp, by simp [h3]⟩
theorem live_mono {h h' : AH} (hn : h.1 ≤ h'.1) {q : Nat × Nat} (hq : liveQ h q) : liveQ h' q := List.take_subset_take_left _ hn hq
section SNC
variable {p : Program} {l : Launch} {e : Env} {R : Room} {s : State} {m : MethodId} {args : Array Value} {below : List Frame} {meth : Method} {c : Code} {y D : Nat} {A : Nat → Prop} {Dg : va_G} {cA : Nat → ClassId} {sp : Nat → Nat} {n0 : Nat} {ad0 : Nat → Nat} {Lx : Nat} {xs : Nat → Int32} {Q : State → Prop}
variable {cc ss pc : Nat} {Lo st r : List AV} {h : AH} {ad : Nat → Nat} {H : Heap} {locs : List Loc} {ls : Array Slot}
theorem go_run {mc ms : Nat} {st0 rest : List Value} {a0 : Array Value} {rv : Option AV} {h' : AH} (hr : va_Run p l e R s m args below meth c H locs cc ss mc ms (F0 m pc ls st0) rest (Qm sp A Dg cA Lx xs h.1 ad rv h' a0) A) (hS : va_S A s.heap H locs)
    (K : ∀ (ad' : Nat → Nat) (H1 : Heap) (locs1 : List Loc), (∀ i, i < h.1 → ad' i = ad i) → h.1 ≤ h'.1 → va_P Dg vwCl (wsh ad' sp cA h') H1 → va_D A (wsh ad' sp cA h') → HO h' 0 Lx xs → va_S A s.heap H1 locs1 → W p l e R s m args below meth c H1 locs1 (cc + mc) (ss + ms) Q (F0 m (pc + 3) ls ((rv.map numV).toList ++ rest))) : W p l e R s m args below meth c H locs cc ss Q (F0 m pc ls st0) := by
  intro T hT X
  obtain ⟨v, st₀, t, T', L, h0, X', hL, e1, e2, ⟨⟨ad', hv, ha, hn, hw⟩, hz, hk⟩, st⟩ := hr T hT X
  cases hv
  rw [h0] at hz hk
  have hS1 : va_S A s.heap T'.heap (locs ++ L) := ⟨Nat.le_trans hS.1 (by rw [e1]; exact hz), fun q h1 h2 => by rw [e1, hk q (Nat.lt_of_lt_of_le h1 hS.1) h2]; exact hS.2.1 q h1 h2, fun q hq => by
      rcases List.mem_append.mp hq with h | h
      · exact hS.2.2 q h
      · exact hL q h⟩
  obtain ⟨t2, a1, b1⟩ := K ad' T'.heap (locs ++ L) ha hn (by rw [e1]; exact hw.1) hw.2.2.1 hw.2.2.2.1 hS1 T' rfl X'
  exact ⟨t2, st t2 a1, b1⟩
theorem Wld_now (C : Cx p R s m args meth c y D A Dg cA sp Lx xs) (hR : Rl s y A Dg cA sp n0 ad0 Lx xs ad H locs ls Lo st h) : ∀ U : State, U.heap = H → s.WarmedH U.vm → Wld sp A Dg cA Lx xs ad h U := by
  intro U hU hW
  have hH := hR.hH
  refine ⟨by rw [hU]; exact hR.hP, va_K.moved hW.alike C.hK, hR.hD, ⟨hH.1, hH.2.1, hH.2.2.1, hH.2.2.2.1, hH.2.2.2.2.1, Nat.zero_le _⟩, ?_, fun q hq => C.hA q (Nat.le_trans hR.hS.1 (by rw [← hU]; exact hq))⟩
  rw [hU]
  exact (C.hS.warm hW).kept (fun a h1 h2 => hR.hS.2.1 a h1 h2)
/-- behind a call: the caller's frame over the new heap -/
theorem Rl.back {h' : AH} {ad' : Nat → Nat} {H1 : Heap} {locs1 : List Loc} {st' : List AV} (hR : Rl s y A Dg cA sp n0 ad0 Lx xs ad H locs ls Lo st h) (ha : ∀ i, i < h.1 → ad' i = ad i) (hn : h.1 ≤ h'.1) (hst : okS h' st') (hP : va_P Dg vwCl (wsh ad' sp cA h') H1) (hD : va_D A (wsh ad' sp cA h')) (hH : HO h' 0 Lx xs) (hS : va_S A s.heap H1 locs1) : Rl s y A Dg cA sp n0 ad0 Lx xs ad' H1 locs1 ls Lo st' h' :=
  hR.grown ha (fun q hq => live_mono hn hq) hst hP hD ⟨hH.1, hH.2.1, hH.2.2.1, hH.2.2.2.1, hH.2.2.2.2.1, Nat.le_trans hR.hH.2.2.2.2.2 hn⟩ hS
theorem num_em {ad sp : Nat → Nat} {v : AV} (hv : (∃ x, v = vi x) ∨ ∃ x, v = vl x) : numV v = emV ad sp v := by
  rcases hv with ⟨x, rfl⟩ | ⟨x, rfl⟩ <;> rfl
theorem okM_all {y' : Nat} (hm : okM y' = true) : (Cond.code (yNm y') (yCd y') (mxl y') (yRt y')) ∈ wsAll ∧ (.initialized (own y') : Jvm.Cond) ∈ wsAll ∧ (stf y' = true → (.static (yNm y') : Jvm.Cond) ∈ wsAll) ∧ (stf y' = false → (.instanceMethod (yNm y') : Jvm.Cond) ∈ wsAll ∧ ((yNm y').name = "<init>" ∨ (.selects (own y') (yNm y') (yNm y') : Jvm.Cond) ∈ wsAll)) ∧ plainName (own y') = true ∧ mxl y' ≤ 41 ∧ (own y' ≠ "java/lang/invoke/MethodHandle" ∧ own y' ≠ "java/lang/invoke/VarHandle") ∧ (rcv y' = 99 ∨ (rcv y' ≤ 10 ∧ RXf (rcv y') = own y') ∨ (rcv y' = 90 ∧ own y' = "java/lang/String")) := by
  simp only [okM, Bool.and_eq_true] at hm
  obtain ⟨h1, h2, h3, h4, h5, h6, h7, h8⟩ := hm
  refine ⟨wOK_in h1, wOK_in h2, fun hs => ?_, fun hs => ?_, h4, Nat.le_of_ble_eq_true h5, of_decide_eq_true h6, of_decide_eq_true h7⟩
  · rw [hs] at h3
    exact wOK_in h3
  · rw [hs] at h3
    simp only [cond_false, Bool.and_eq_true, Bool.or_eq_true, decide_eq_true_eq] at h3
    exact ⟨wOK_in h3.1, h3.2.imp id wOK_in⟩
theorem s_call_room (C : Cx p R s m args meth c y D A Dg cA sp Lx xs) {y' : Nat} (hm : mxl y' ≤ 41) : (rmD D y').frames + 1 ≤ R.frames ∧ 8 + (mxl y' + 11) + (rmD D y').locals ≤ R.locals := by
  have h1 := C.2.2.2.2.2.2.2.2.1
  have h2 := C.2.2.2.2.2.2.2.2.2.1
  constructor
  · exact h1
  · show 8 + (mxl y' + 11) + 60 * D ≤ R.locals
    omega
theorem okS_app {h : AH} {a b : List AV} (k : okS h (a ++ b)) : okS h a ∧ okS h b := ⟨fun v hv => k v (List.mem_append_left _ hv), fun v hv => k v (List.mem_append_right _ hv)⟩
theorem okS_rev {h : AH} {a : List AV} (k : okS h a) : okS h a.reverse := fun v hv => k v (List.mem_reverse.mp hv)
theorem s_callS (C : Cx p R s m args meth c y D A Dg cA sp Lx xs) {y' i : Nat} {as rest : List AV} {rv : Option AV} {h' : AH} (hm : okM y' = true) (hst : stf y' = true) (hctr : Ctr l D y' as h rv h') (hrv : ∀ v, rv = some v → (∃ x, v = vi x) ∨ ∃ x, v = vl x) (hc : catS rest ≤ 8) (h1 : cc + MCf y' ≤ R.cells) (h2 : ss + MSf y' ≤ R.slots) (hn : (parseMethodDescriptor (yNm y').desc).map (fun d => d.parameters.length) = some as.length) (hw : (.methodLink (own y) i (yNm y') : Jvm.Cond) ∈ wsAll) (hd : decode (yCd y) pc = .ok (.invokestatic i, 3)) (K : Wq p l e R s m args below meth c y A Dg cA sp n0 ad0 Lx xs Q (cc + MCf y') (ss + MSf y') (pc + 3) Lo (rv.toList ++ rest) h') : Wq p l e R s m args below meth c y A Dg cA sp n0 ad0 Lx xs Q cc ss pc Lo (as.reverse ++ rest) h := by
  intro ad H locs ls hR
  obtain ⟨m1, m2, m3, -, -, m6, m7, -⟩ := okM_all hm
  obtain ⟨o1, o2⟩ := okS_app hR.okst
  have o3 : okS h as := by have := okS_rev o1; rwa [List.reverse_reverse] at this
  have hM := hctr sp A Dg cA Lx xs ad o3
  have cw := va_cwS (R := R) (s := s) (args := args) (own := own y) (index := i) (y := yNm y') (bytes := yCd y') (maxL := mxl y') (ret := yRt y') (mc := MCf y') (ms := MSf y') (Ts := wsAll) (ws := wsY y') (ws' := wsAll) (rm := rmD D y') as.length C.hts (goodIn_all (by
    intro w hw'
    simp only [va_wsS, wsY, List.cons_append, List.nil_append, List.mem_cons] at hw'
    rcases hw' with rfl | rfl | rfl | rfl | hw'
    · exact hw
    · exact m3 hst
    · exact m2
    · exact m1
    · exact hw')) rfl rfl rfl ⟨m7.1, m7.2, hn⟩ (s_call_room C m6)
  have hrun := va_runS (e := e) (below := below) (meth := meth) (nL := mxl y) (As := as.map (emV ad sp)) (rest := rest.map (emV ad sp)) (H := H) (locs := locs) (cells := cc) (slots := ss) (g := F0 m pc ls ((as.reverse ++ rest).map (emV ad sp))) ⟨C.1, C.2.1, C.2.2.1, C.2.2.2.1, C.hts⟩ hM cw ⟨blind, fun U hU hW => ⟨rfl, Wld_now C hR U hU hW⟩⟩ rfl (by simp) hR.1.1 (by simp [List.map_append, List.map_reverse]) (by
    show 2 * 0 + ((rest.map (emV ad sp)).map fun v => v.category).sum ≤ 8
    rw [catS_em]; omega) hd ⟨h1, h2⟩
  refine go_run hrun hR.hS (fun ad' H1 locs1 ha hnn hP hD hH hS => ?_)
  have o4 : okS h' rest := okS_up (fun q hq => live_mono hnn hq) o2
  have o5 : okS h' (rv.toList ++ rest) := by
    intro v hv
    rcases List.mem_append.mp hv with hv | hv
    · have : rv = some v := by simpa using hv
      rcases hrv v this with ⟨x, rfl⟩ | ⟨x, rfl⟩
      · exact okV_vi _ _
      · exact okV_vl _ _
    · exact o4 v hv
  have K := K ad' H1 locs1 ls (hR.back ha hnn o5 hP hD hH hS)
  have e : (rv.toList ++ rest).map (emV ad' sp) = (rv.map numV).toList ++ rest.map (emV ad sp) := by
    rw [List.map_append, emS_ad ha o2]
    congr 1
    cases rv with
    | none => rfl
    | some v =>
      show [emV ad' sp v] = [numV v]
      rw [num_em (hrv v rfl)]
  rw [e] at K
  exact K
theorem recv_at (C : Cx p R s m args meth c y D A Dg cA sp Lx xs) (hR : Rl s y A Dg cA sp n0 ad0 Lx xs ad H locs ls Lo st h) {s1 j1 y' : Nat} (hv : okV h (vr s1 j1)) (hm : okM y' = true) (hk : kdr s1 = rcv y') : ∃ cell : Cell, H[rho ad sp (s1, j1)]? = some cell ∧ cell.vm.isStatics = false ∧ s.vm.findClass (own y') = some cell.cls := by
  obtain ⟨-, -, -, -, -, -, -, m8⟩ := okM_all hm
  by_cases h10 : s1 ≤ 10
  · have e : kdr s1 = s1 := by
      have : s1 = 0 ∨ s1 = 1 ∨ s1 = 2 ∨ s1 = 3 ∨ s1 = 4 ∨ s1 = 5 ∨ s1 = 6 ∨ s1 = 7 ∨ s1 = 8 ∨ s1 = 9 ∨ s1 = 10 := by omega
      rcases this with rfl | rfl | rfl | rfl | rfl | rfl | rfl | rfl | rfl | rfl | rfl <;> rfl
    rw [e] at hk
    rcases m8 with m8 | ⟨-, m8⟩ | ⟨m8, -⟩
    · omega
    · rw [← m8, ← hk]
      have hq : liveQ h (s1, j1) := (hv (s1, j1) rfl).resolve_left (by show ¬ 900 ≤ s1; omega)
      have he := wsh_at (ad := ad) (sp := sp) (cA := cA) hq
      rw [ent_obj h10] at he
      exact va_recv C.hK hR.hP (cl_at h10) he
    · omega
  · by_cases h990 : s1 = 990
    · subst h990
      have e : kdr 990 = 90 := rfl
      rw [e] at hk
      rcases m8 with m8 | ⟨m8, -⟩ | ⟨-, m8⟩
      · omega
      · omega
      · rw [m8, rho_sp (by decide)]
        obtain ⟨-, -, -, -, -, -, -, -, -, -, z, -⟩ := C.hS
        obtain ⟨cell, z1, z2, z3, -⟩ := z.kept hR.hS.2.1
        exact ⟨cell, z1, z2, z3⟩
    · have e : kdr s1 = 98 := by
        unfold kdr
        rw [show Nat.beq s1 990 = false by rw [← Bool.not_eq_true, nb_iff]; exact h990, show Nat.ble s1 10 = false by rw [← Bool.not_eq_true]; intro z; exact h10 (Nat.le_of_ble_eq_true z)]
        rfl
      rw [e] at hk
      rcases m8 with m8 | ⟨m8, -⟩ | ⟨m8, -⟩ <;> omega
theorem s_callV (C : Cx p R s m args meth c y D A Dg cA sp Lx xs) {y' i s1 j1 : Nat} {as rest : List AV} {rv : Option AV} {h' : AH} (hm : okM y' = true) (hst : stf y' = false) (hni : ¬ (yNm y').name = "<init>") (hk : kdr s1 = rcv y') (hctr : Ctr l D y' (vr s1 j1 :: as) h rv h') (hrv : ∀ v, rv = some v → (∃ x, v = vi x) ∨ ∃ x, v = vl x) (hc : catS rest ≤ 8) (h1 : cc + MCf y' ≤ R.cells) (h2 : ss + MSf y' ≤ R.slots) (hn : (parseMethodDescriptor (yNm y').desc).map (fun d => d.parameters.length) = some as.length) (hw : (.methodLink (own y) i (yNm y') : Jvm.Cond) ∈ wsAll) (hd : decode (yCd y) pc = .ok (.invokevirtual i, 3)) (K : Wq p l e R s m args below meth c y A Dg cA sp n0 ad0 Lx xs Q (cc + MCf y') (ss + MSf y') (pc + 3) Lo (rv.toList ++ rest) h') : Wq p l e R s m args below meth c y A Dg cA sp n0 ad0 Lx xs Q cc ss pc Lo (as.reverse ++ vr s1 j1 :: rest) h := by
  intro ad H locs ls hR
  obtain ⟨m1, m2, -, m4, -, m6, m7, -⟩ := okM_all hm
  have m4 := m4 hst
  obtain ⟨o1, o2⟩ := okS_app hR.okst
  have o3 : okS h as := by have := okS_rev o1; rwa [List.reverse_reverse] at this
  have hM := hctr sp A Dg cA Lx xs ad (okS_cons (o2 _ List.mem_cons_self) o3)
  have hsel := m4.2.resolve_left hni
  have cw := cwV (R := R) (s := s) (args := args) (own := own y) (C := own y') (index := i) (y := yNm y') (bytes := yCd y') (maxL := mxl y') (ret := yRt y') (mc := MCf y') (ms := MSf y') (Ts := wsAll) (ws := wsY y') (ws' := wsAll) (rm := rmD D y') as.length C.hts (goodIn_all (by
    intro w hw'
    simp only [wsV, wsY, List.cons_append, List.nil_append, List.mem_cons] at hw'
    rcases hw' with rfl | rfl | rfl | rfl | rfl | hw'
    · exact hw
    · exact m4.1
    · exact hsel
    · exact m2
    · exact m1
    · exact hw')) rfl rfl rfl ⟨rfl, m7.1, m7.2, hn⟩ (s_call_room C m6)
  have hrun := va_runV (e := e) (below := below) (meth := meth) (nL := mxl y) (As := as.map (emV ad sp)) (rest := rest.map (emV ad sp)) (b := rho ad sp (s1, j1)) (H := H) (locs := locs) (cells := cc) (slots := ss) (g := F0 m pc ls ((as.reverse ++ vr s1 j1 :: rest).map (emV ad sp))) ⟨C.1, C.2.1, C.2.2.1, C.2.2.2.1, C.hts⟩ hM cw ⟨blind, recv_at C hR (o2 _ List.mem_cons_self) hm hk, fun U hU hW => ⟨rfl, Wld_now C hR U hU hW⟩⟩ rfl (by simp) hR.1.1 (by simp [List.map_append, List.map_reverse]; rfl) (by
    show 2 * 0 + ((rest.map (emV ad sp)).map fun v => v.category).sum ≤ 8
    rw [catS_em]; omega) hd ⟨h1, h2⟩
  refine go_run hrun hR.hS (fun ad' H1 locs1 ha hnn hP hD hH hS => ?_)
  have o4 : okS h' rest := okS_up (fun q hq => live_mono hnn hq) (okS_tl o2)
  have o5 : okS h' (rv.toList ++ rest) := by
    intro v hv
    rcases List.mem_append.mp hv with hv | hv
    · have : rv = some v := by simpa using hv
      rcases hrv v this with ⟨x, rfl⟩ | ⟨x, rfl⟩
      · exact okV_vi _ _
      · exact okV_vl _ _
    · exact o4 v hv
  have K := K ad' H1 locs1 ls (hR.back ha hnn o5 hP hD hH hS)
  have e : (rv.toList ++ rest).map (emV ad' sp) = (rv.map numV).toList ++ rest.map (emV ad sp) := by
    rw [List.map_append, emS_ad ha (okS_tl o2)]
    congr 1
    cases rv with
    | none => rfl
    | some v =>
      show [emV ad' sp v] = [numV v]
      rw [num_em (hrv v rfl)]
  rw [e] at K
  exact K
theorem s_callI (C : Cx p R s m args meth c y D A Dg cA sp Lx xs) {y' i s1 j1 : Nat} {as rest : List AV} {rv : Option AV} {h' : AH} (hm : okM y' = true) (hst : stf y' = false) (hini : (yNm y').name = "<init>") (hret : yRt y' = none) (hk : kdr s1 = rcv y') (hctr : Ctr l D y' (vr s1 j1 :: as) h rv h') (hrv : ∀ v, rv = some v → (∃ x, v = vi x) ∨ ∃ x, v = vl x) (hc : catS rest ≤ 8) (h1 : cc + MCf y' ≤ R.cells) (h2 : ss + MSf y' ≤ R.slots) (hn : (parseMethodDescriptor (yNm y').desc).map (fun d => d.parameters.length) = some as.length) (hw : (.methodLink (own y) i (yNm y') : Jvm.Cond) ∈ wsAll) (hd : decode (yCd y) pc = .ok (.invokespecial i, 3)) (K : Wq p l e R s m args below meth c y A Dg cA sp n0 ad0 Lx xs Q (cc + MCf y') (ss + MSf y') (pc + 3) Lo (rv.toList ++ rest) h') : Wq p l e R s m args below meth c y A Dg cA sp n0 ad0 Lx xs Q cc ss pc Lo (as.reverse ++ vr s1 j1 :: rest) h := by
  intro ad H locs ls hR
  obtain ⟨m1, m2, -, m4, -, m6, m7, -⟩ := okM_all hm
  have m4 := m4 hst
  obtain ⟨o1, o2⟩ := okS_app hR.okst
  have o3 : okS h as := by have := okS_rev o1; rwa [List.reverse_reverse] at this
  have hM := hctr sp A Dg cA Lx xs ad (okS_cons (o2 _ List.mem_cons_self) o3)
  have hwl : wsY y' = Cond.code (yNm y') (yCd y') (mxl y') none :: wsAll := by unfold wsY; rw [hret]
  have cw := cwI (R := R) (s := s) (args := args) (own := own y) (index := i) (y := yNm y') (bytes := yCd y') (maxL := mxl y') (mc := MCf y') (ms := MSf y') (Ts := wsAll) (ws := wsY y') (ws' := wsAll) (rm := rmD D y') as.length C.hts (goodIn_all (by
    intro w hw'
    simp only [wsY, List.mem_cons] at hw'
    rcases hw' with rfl | hw'
    · exact m1
    · exact hw')) hwl rfl rfl (C.hts _ m2) (C.hts _ hw) (C.hts _ m4.1) hini ⟨m7.1, m7.2, hn⟩ (s_call_room C m6)
  have hrun := va_runI (e := e) (below := below) (meth := meth) (nL := mxl y) (As := as.map (emV ad sp)) (rest := rest.map (emV ad sp)) (b := rho ad sp (s1, j1)) (H := H) (locs := locs) (cells := cc) (slots := ss) (g := F0 m pc ls ((as.reverse ++ vr s1 j1 :: rest).map (emV ad sp))) ⟨C.1, C.2.1, C.2.2.1, C.2.2.2.1, C.hts⟩ hM cw ⟨blind, fun U hU hW => ⟨rfl, Wld_now C hR U hU hW⟩⟩ rfl (by simp) hR.1.1 (by simp [List.map_append, List.map_reverse]; rfl) (by
    show 2 * 0 + ((rest.map (emV ad sp)).map fun v => v.category).sum ≤ 8
    rw [catS_em]; omega) hd ⟨h1, h2⟩
  refine go_run hrun hR.hS (fun ad' H1 locs1 ha hnn hP hD hH hS => ?_)
  have o4 : okS h' rest := okS_up (fun q hq => live_mono hnn hq) (okS_tl o2)
  have o5 : okS h' (rv.toList ++ rest) := by
    intro v hv
    rcases List.mem_append.mp hv with hv | hv
    · have : rv = some v := by simpa using hv
      rcases hrv v this with ⟨x, rfl⟩ | ⟨x, rfl⟩
      · exact okV_vi _ _
      · exact okV_vl _ _
    · exact o4 v hv
  have K := K ad' H1 locs1 ls (hR.back ha hnn o5 hP hD hH hS)
  have e : (rv.toList ++ rest).map (emV ad' sp) = (rv.map numV).toList ++ rest.map (emV ad sp) := by
    rw [List.map_append, emS_ad ha (okS_tl o2)]
    congr 1
    cases rv with
    | none => rfl
    | some v =>
      show [emV ad' sp v] = [numV v]
      rw [num_em (hrv v rfl)]
  rw [e] at K
  exact K
end SNC
