/-! THE HEAP'S INSTRUCTIONS -/
theorem flds_in {ci : Nat} (hci : ci ≤ 10) : ∀ w ∈ u_ws (RXf ci) (TXf ci) (nfl ci), w ∈ wsAll := by
  intro w hw
  have h1 := List.all_eq_true.mp (List.all_eq_true.mp flds_all ci (List.mem_range.mpr (by omega))) w hw
  simp only [Bool.and_eq_true, decide_eq_true_eq] at h1
  exact List.mem_filter.mpr h1
theorem le10 {P : Nat → Prop} (h0 : P 0) (h1 : P 1) (h2 : P 2) (h3 : P 3) (h4 : P 4) (h5 : P 5) (h6 : P 6) (h7 : P 7) (h8 : P 8) (h9 : P 9) (h10 : P 10) {ci : Nat} (hci : ci ≤ 10) : P ci := by
  have : ci = 0 ∨ ci = 1 ∨ ci = 2 ∨ ci = 3 ∨ ci = 4 ∨ ci = 5 ∨ ci = 6 ∨ ci = 7 ∨ ci = 8 ∨ ci = 9 ∨ ci = 10 := by omega
  rcases this with rfl | rfl | rfl | rfl | rfl | rfl | rfl | rfl | rfl | rfl | rfl <;> assumption
theorem cl_at {ci : Nat} (hci : ci ≤ 10) : vwCl[ci]? = some (RXf ci, TXf ci, nfl ci) := le10 (P := fun ci => vwCl[ci]? = some (RXf ci, TXf ci, nfl ci)) rfl rfl rfl rfl rfl rfl rfl rfl rfl rfl rfl hci
theorem ty_at {ci : Nat} (hci : ci ≤ 10) : ∀ k, k < nfl ci → parseFieldDescriptor (TXf ci k).2.2.1 = some (tyf ci k) := le10 (P := fun ci => ∀ k, k < nfl ci → parseFieldDescriptor (TXf ci k).2.2.1 = some (tyf ci k)) tyX0_ok tyX1_ok tyX2_ok tyX3_ok tyX4_ok tyX5_ok tyX6_ok tyX7_ok tyX8_ok tyX9_ok tyX10_ok hci
theorem nm_at {ci : Nat} (hci : ci ≤ 10) : ∀ a, a < nfl ci → ∀ b, b < nfl ci → a ≠ b → (TXf ci a).2.1 ≠ (TXf ci b).2.1 := le10 (P := fun ci => ∀ a, a < nfl ci → ∀ b, b < nfl ci → a ≠ b → (TXf ci a).2.1 ≠ (TXf ci b).2.1) nmX0 nmX1 nmX2 nmX3 nmX4 nmX5 nmX6 nmX7 nmX8 nmX9 nmX10 hci
theorem nb_iff {a b : Nat} : Nat.beq a b = true ↔ a = b := ⟨Nat.eq_of_beq_eq_true, fun h => h ▸ Nat.beq_refl a⟩
theorem updI_ne {I : IM} {s j k : Nat} {v : Int32} {s' j' : Nat} (h : (s', j') ≠ (s, j)) : updI I s j k v s' j' = I s' j' := by
  funext c
  simp only [updI]
  cases hb : (Nat.beq s' s && (Nat.beq c k && Nat.beq j' j)) with
  | false => rfl
  | true =>
    simp only [Bool.and_eq_true, nb_iff] at hb
    exact absurd (by rw [hb.1, hb.2.2]) h
theorem updJ_ne {I : JM} {s j k : Nat} {v : Int64} {s' j' : Nat} (h : (s', j') ≠ (s, j)) : updJ I s j k v s' j' = I s' j' := by
  funext c
  simp only [updJ]
  cases hb : (Nat.beq s' s && (Nat.beq c k && Nat.beq j' j)) with
  | false => rfl
  | true =>
    simp only [Bool.and_eq_true, nb_iff] at hb
    exact absurd (by rw [hb.1, hb.2.2]) h
theorem updR_ne {I : RM} {s j k : Nat} {v : Option (Nat × Nat)} {s' j' : Nat} (h : (s', j') ≠ (s, j)) : updR I s j k v s' j' = I s' j' := by
  funext c
  simp only [updR]
  cases hb : (Nat.beq s' s && (Nat.beq c k && Nat.beq j' j)) with
  | false => rfl
  | true =>
    simp only [Bool.and_eq_true, nb_iff] at hb
    exact absurd (by rw [hb.1, hb.2.2]) h
theorem updI_eq {I : IM} {s j k : Nat} {v : Int32} : updI I s j k v s j = fun c => if c = k then v else I s j c := by
  funext c
  simp only [updI]
  by_cases hc : c = k
  · subst hc
    rw [if_pos rfl]
    rw [show (Nat.beq s s && (Nat.beq c c && Nat.beq j j)) = true by simp]
    rfl
  · rw [if_neg hc]
    rw [show Nat.beq c k = false by rw [← Bool.not_eq_true, nb_iff]; exact hc]
    simp
theorem updJ_eq {I : JM} {s j k : Nat} {v : Int64} : updJ I s j k v s j = fun c => if c = k then v else I s j c := by
  funext c
  simp only [updJ]
  by_cases hc : c = k
  · subst hc
    rw [if_pos rfl]
    rw [show (Nat.beq s s && (Nat.beq c c && Nat.beq j j)) = true by simp]
    rfl
  · rw [if_neg hc]
    rw [show Nat.beq c k = false by rw [← Bool.not_eq_true, nb_iff]; exact hc]
    simp
theorem updR_eq {I : RM} {s j k : Nat} {v : Option (Nat × Nat)} : updR I s j k v s j = fun c => if c = k then v else I s j c := by
  funext c
  simp only [updR]
  by_cases hc : c = k
  · subst hc
    rw [if_pos rfl]
    rw [show (Nat.beq s s && (Nat.beq c c && Nat.beq j j)) = true by simp]
    rfl
  · rw [if_neg hc]
    rw [show Nat.beq c k = false by rw [← Bool.not_eq_true, nb_iff]; exact hc]
    simp
theorem inA_in {i : Int32} {n : Nat} (h : inA i n = true) : vp_in i n := by
  intro z
  simp only [inA, Bool.not_eq_true', Bool.or_eq_false_iff, decide_eq_false_iff_not] at h
  rcases z with z | z
  · exact h.1 z
  · have := Nat.ble_eq_true_of_le z
    rw [h.2] at this
    cases this
theorem ent_obj {ad sp : Nat → Nat} {cA : Nat → ClassId} {h : AH} {ci j : Nat} (hci : ci ≤ 10) : ent ad sp cA h (ci, j) = .inr (ci, entO ad sp h ci j) := by
  simp only [ent, if_pos hci]
theorem kd_lo {s : Nat} (h : s ≤ 10) : kd s = s := le10 (P := fun s => kd s = s) rfl rfl rfl rfl rfl rfl rfl rfl rfl rfl rfl h
theorem ent_arr {ad sp : Nat → Nat} {cA : Nat → ClassId} {h : AH} {s j : Nat} (hs : 20 ≤ kd s) : ent ad sp cA h (s, j) = .inl (entA ad sp cA h s j) := by
  have : ¬ s ≤ 10 := fun z => by rw [kd_lo z] at hs; omega
  simp only [ent, if_neg this]
/-- the same cell contents -/
theorem ent_same {ad sp : Nat → Nat} {cA : Nat → ClassId} {h h' : AH} {q : Nat × Nat} (h1 : h'.2.1 q.1 q.2 = h.2.1 q.1 q.2) (h2 : h'.2.2.1 q.1 q.2 = h.2.2.1 q.1 q.2) (h3 : h'.2.2.2 q.1 q.2 = h.2.2.2 q.1 q.2) : ent ad sp cA h' q = ent ad sp cA h q := by
  simp only [ent, entO, entA, h1, h2, h3]
theorem map_set {α : Type} (f : Nat → α) (n k : Nat) (v : α) : ((List.range n).map f).set k v = (List.range n).map (fun i => if i = k then v else f i) := by
  apply List.ext_getElem?
  intro i
  by_cases hi : i = k
  · subst hi
    by_cases hl : i < n
    · rw [List.getElem?_set_self (by simpa using hl)]
      simp [hl]
    · rw [List.getElem?_eq_none (by simpa using Nat.le_of_not_lt hl), List.getElem?_eq_none (by simpa using Nat.le_of_not_lt hl)]
  · rw [List.getElem?_set_ne (Ne.symm hi)]
    simp only [List.getElem?_map]
    by_cases hl : i < n
    · rw [List.getElem?_range hl]
      simp [hi]
    · rw [List.getElem?_eq_none (by simpa using Nat.le_of_not_lt hl)]
      rfl
section SNH
variable {p : Program} {l : Launch} {e : Env} {R : Room} {s : State} {m : MethodId} {args : Array Value} {below : List Frame} {meth : Method} {c : Code} {y D : Nat} {A : Nat → Prop} {Dg : va_G} {cA : Nat → ClassId} {sp : Nat → Nat} {n0 : Nat} {ad0 : Nat → Nat} {Lx : Nat} {xs : Nat → Int32} {Q : State → Prop}
variable {cc ss pc : Nat} {Lo st r : List AV} {h : AH} {ad : Nat → Nat} {H : Heap} {locs : List Loc} {ls : Array Slot}
theorem Cx.hts (C : Cx p R s m args meth c y D A Dg cA sp Lx xs) : ∀ w ∈ wsAll, w.before args s = true := C.2.2.2.2.1
theorem Cx.hK (C : Cx p R s m args meth c y D A Dg cA sp Lx xs) : va_K Dg vwCl (tysh cA) s := C.2.2.2.2.2.2.2.2.2.2.2.2.1
theorem Cx.hS (C : Cx p R s m args meth c y D A Dg cA sp Lx xs) : Stat sp A Lx xs s s.heap := C.2.2.2.2.2.2.2.2.2.2.2.2.2.1
theorem Cx.hA (C : Cx p R s m args meth c y D A Dg cA sp Lx xs) : ∀ q, s.heap.size ≤ q → A q := C.2.2.2.2.2.2.2.2.2.2.2.2.2.2
theorem Rl.hP (hR : Rl s y A Dg cA sp n0 ad0 Lx xs ad H locs ls Lo st h) : va_P Dg vwCl (wsh ad sp cA h) H := hR.2.2.2.2.1
theorem Rl.hD (hR : Rl s y A Dg cA sp n0 ad0 Lx xs ad H locs ls Lo st h) : va_D A (wsh ad sp cA h) := hR.2.2.2.2.2.1
theorem Rl.hH (hR : Rl s y A Dg cA sp n0 ad0 Lx xs ad H locs ls Lo st h) : HO h n0 Lx xs := hR.2.2.2.2.2.2.1
theorem Rl.hS (hR : Rl s y A Dg cA sp n0 ad0 Lx xs ad H locs ls Lo st h) : va_S A s.heap H locs := hR.2.2.2.2.2.2.2.1
theorem Rl.live {ci j : Nat} (hR : Rl s y A Dg cA sp n0 ad0 Lx xs ad H locs ls Lo (vr ci j :: r) h) (hci : ci < 900) : liveQ h (ci, j) := (hR.okst (vr ci j) List.mem_cons_self (ci, j) rfl).resolve_left (by show ¬ 900 ≤ ci; omega)
theorem s_getI (C : Cx p R s m args meth c y D A Dg cA sp Lx xs) {i ci k j : Nat} (hci : ci ≤ 10) (hk : k < nfl ci) (href : isRefS ci k = false) (hw : (.fieldLink (own y) i (TXf ci k).1 (TXf ci k).2.1 (TXf ci k).2.2.1 : Jvm.Cond) ∈ wsAll) (hd : decode (yCd y) pc = .ok (.getfield i, 3)) (K : Wq p l e R s m args below meth c y A Dg cA sp n0 ad0 Lx xs Q cc ss (pc + 3) Lo (vi (h.2.1 ci j k) :: r) h) : Wq p l e R s m args below meth c y A Dg cA sp n0 ad0 Lx xs Q cc ss pc Lo (vr ci j :: r) h := by
  intro ad H locs ls hR
  have hq := hR.live (by omega)
  have he := wsh_at (ad := ad) (sp := sp) (cA := cA) hq
  rw [ent_obj hci] at he
  refine va_get (Ts := wsAll) C.1 C.2.1 C.hts (flds_in hci) C.2.2.2.1 C.hK hR.hP _ he (cl_at hci) k hk (C.hts _ hw) (fun x hx => hx) (v := .int (h.2.1 ci j k)) ?_ hd (K ad H locs ls (hR.stk (okS_i (okS_tl hR.okst))))
  simp [entO, hk, href]
theorem live_val {h : AH} (hH : okR h) {ci j k : Nat} {q : Nat × Nat} (hq : liveQ h (ci, j)) (hc : ci ≤ 10 ∧ k < nfl ci ∧ isRefS ci k = true ∨ 10 < ci ∧ kd ci = 24 ∧ k < LENf ci j) (hr : h.2.2.2 ci j k = some q) : okV h (.inr (.inr (some q))) := by
  intro q' e
  cases e
  exact Or.inr (hH (ci, j) hq k q hc hr)
theorem s_getR (C : Cx p R s m args meth c y D A Dg cA sp Lx xs) {i ci k j a b : Nat} (hci : ci ≤ 10) (hk : k < nfl ci) (href : isRefS ci k = true) (hr : h.2.2.2 ci j k = some (a, b)) (hw : (.fieldLink (own y) i (TXf ci k).1 (TXf ci k).2.1 (TXf ci k).2.2.1 : Jvm.Cond) ∈ wsAll) (hd : decode (yCd y) pc = .ok (.getfield i, 3)) (K : Wq p l e R s m args below meth c y A Dg cA sp n0 ad0 Lx xs Q cc ss (pc + 3) Lo (vr a b :: r) h) : Wq p l e R s m args below meth c y A Dg cA sp n0 ad0 Lx xs Q cc ss pc Lo (vr ci j :: r) h := by
  intro ad H locs ls hR
  have hq := hR.live (by omega)
  have he := wsh_at (ad := ad) (sp := sp) (cA := cA) hq
  rw [ent_obj hci] at he
  refine va_get (Ts := wsAll) C.1 C.2.1 C.hts (flds_in hci) C.2.2.2.1 C.hK hR.hP _ he (cl_at hci) k hk (C.hts _ hw) (fun x hx => hx) (v := .ref (rho ad sp (a, b))) ?_ hd (K ad H locs ls (hR.stk (okS_cons (live_val hR.hH.1 hq (Or.inl ⟨hci, hk, href⟩) hr) (okS_tl hR.okst))))
  simp [entO, hk, href, hr, va_rf]
theorem s_getN (C : Cx p R s m args meth c y D A Dg cA sp Lx xs) {i ci k j a b : Nat} {n d : String} (hci : ci ≤ 10) (hk : k < nfl ci) (href : isRefS ci k = true) (hr : h.2.2.2 ci j k = some (a, b)) (ht : TXf ci k = ("HeldTillSet$Work", n, d, true)) (hw : va_Nw (.fieldLinkNest (own y) i "HeldTillSet$Work" n d "HeldTillSet") s) (hd : decode (yCd y) pc = .ok (.getfield i, 3)) (K : Wq p l e R s m args below meth c y A Dg cA sp n0 ad0 Lx xs Q cc ss (pc + 3) Lo (vr a b :: r) h) : Wq p l e R s m args below meth c y A Dg cA sp n0 ad0 Lx xs Q cc ss pc Lo (vr ci j :: r) h := by
  intro ad H locs ls hR
  have hq := hR.live (by omega)
  have he := wsh_at (ad := ad) (sp := sp) (cA := cA) hq
  rw [ent_obj hci] at he
  refine va_getN (Ts := wsAll) (host := "HeldTillSet") (ref := "HeldTillSet$Work") C.1 C.2.1 C.hts (flds_in hci) C.2.2.2.1 C.hK hR.hP _ he (cl_at hci) k hk (by rw [ht]; exact va_Nw.use rfl hw) (fun x hx => by rw [ht] at hx ⊢; exact hx) (v := .ref (rho ad sp (a, b))) ?_ hd (K ad H locs ls (hR.stk (okS_cons (live_val hR.hH.1 hq (Or.inl ⟨hci, hk, href⟩) hr) (okS_tl hR.okst))))
  simp [entO, hk, href, hr, va_rf]
theorem HO_I {h : AH} {n0 Lx : Nat} {xs : Nat → Int32} {s1 j1 k : Nat} {x : Int32} (hs : s1 < 900) (hH : HO h n0 Lx xs) : HO (h.1, updI h.2.1 s1 j1 k x, h.2.2) n0 Lx xs := by
  have e1 : (updI h.2.1 s1 j1 k x) 950 0 = h.2.1 950 0 := updI_ne (fun z => by cases z; omega)
  have e2 : (updI h.2.1 s1 j1 k x) 951 0 = h.2.1 951 0 := updI_ne (fun z => by cases z; omega)
  refine ⟨hH.1, hH.2.1, hH.2.2.1, fun j => ?_, ?_, hH.2.2.2.2.2⟩
  · show (updI h.2.1 s1 j1 k x) 950 0 j = xs j
    rw [e1]; exact hH.2.2.2.1 j
  · show ((updI h.2.1 s1 j1 k x) 951 0 0).toNatClampNeg = Lx
    rw [e2]; exact hH.2.2.2.2.1
theorem updR_live {h : AH} {s1 j1 k a b : Nat} {q q' : Nat × Nat} {k' : Nat} (hr : (updR h.2.2.2 s1 j1 k (some (a, b))) q.1 q.2 k' = some q') : q' = (a, b) ∨ h.2.2.2 q.1 q.2 k' = some q' := by
  by_cases hqq : q = (s1, j1)
  · subst hqq
    have e : (updR h.2.2.2 s1 j1 k (some (a, b))) s1 j1 = _ := updR_eq
    dsimp only at hr
    rw [e] at hr
    dsimp only at hr
    split at hr
    · cases hr; exact Or.inl rfl
    · exact Or.inr hr
  · have e : (updR h.2.2.2 s1 j1 k (some (a, b))) q.1 q.2 = h.2.2.2 q.1 q.2 := updR_ne (fun z => hqq z)
    rw [e] at hr
    exact Or.inr hr
theorem HO_R {h : AH} {n0 Lx : Nat} {xs : Nat → Int32} {s1 j1 k a b : Nat} (hl : liveQ h (a, b)) (hH : HO h n0 Lx xs) : HO (h.1, h.2.1, h.2.2.1, updR h.2.2.2 s1 j1 k (some (a, b))) n0 Lx xs := by
  refine ⟨fun q hq k' q' hc hr => ?_, fun hn q hq h24 k' q' hr => ?_, hH.2.2⟩
  · rcases updR_live (h := h) hr with rfl | hr
    · exact hl
    · exact hH.1 q hq k' q' hc hr
  · rcases updR_live (h := h) hr with rfl | hr
    · exact hl
    · exact hH.2.1 hn q hq h24 k' q' hr
theorem okS_to {h h' : AH} {st : List AV} (hn : h'.1 = h.1) (k : okS h st) : okS h' st := fun v hv q e => by
  have := k v hv q e
  unfold liveQ at this ⊢
  rw [hn]
  exact this
/-- behind a write -/
theorem Rl.wrote {h' : AH} {H1 : Heap} {locs1 : List Loc} {st' : List AV} (hR : Rl s y A Dg cA sp n0 ad0 Lx xs ad H locs ls Lo st h) (hn : h'.1 = h.1) (hst : okS h st') (hP : va_P Dg vwCl (wsh ad sp cA h') H1) (hD : va_D A (wsh ad sp cA h')) (hH : HO h' n0 Lx xs) (hS : va_S A s.heap H1 locs1) : Rl s y A Dg cA sp n0 ad0 Lx xs ad H1 locs1 ls Lo st' h' :=
  ⟨hR.1, hR.2.1, okS_to hn hR.2.2.1, okS_to hn hst, hP, hD, hH, hS, hR.2.2.2.2.2.2.2.2⟩
theorem ent_putI {h : AH} {ci j k : Nat} {x : Int32} (hci : ci ≤ 10) (href : isRefS ci k = false) : ent ad sp cA (h.1, updI h.2.1 ci j k x, h.2.2) (ci, j) = .inr (ci, (entO ad sp h ci j).set k (.int x)) := by
  rw [ent_obj hci]
  unfold entO
  rw [map_set]
  congr 2
  apply List.map_congr_left
  intro i _
  dsimp only
  rw [updI_eq]
  by_cases hi : i = k
  · subst hi
    simp [href]
  · simp [hi]
theorem ent_putR {h : AH} {ci j k a b : Nat} (hci : ci ≤ 10) (href : isRefS ci k = true) : ent ad sp cA (h.1, h.2.1, h.2.2.1, updR h.2.2.2 ci j k (some (a, b))) (ci, j) = .inr (ci, (entO ad sp h ci j).set k (.ref (rho ad sp (a, b)))) := by
  rw [ent_obj hci]
  unfold entO
  rw [map_set]
  congr 2
  apply List.map_congr_left
  intro i _
  dsimp only
  rw [updR_eq]
  by_cases hi : i = k
  · subst hi
    simp [href, va_rf]
  · simp [hi]
theorem entO_len {ad sp : Nat → Nat} {h : AH} {ci j : Nat} : (entO ad sp h ci j).length = nfl ci := by simp [entO]
theorem s_putI (C : Cx p R s m args meth c y D A Dg cA sp Lx xs) {i ci k j : Nat} {x : Int32} (hci : ci ≤ 10) (hk : k < nfl ci) (href : isRefS ci k = false) (hw : (.fieldLink (own y) i (TXf ci k).1 (TXf ci k).2.1 (TXf ci k).2.2.1 : Jvm.Cond) ∈ wsAll) (hfin : (TXf ci k).2.2.2 = false) (hn : narrow (tyf ci k) (.int x) = .int x) (hf : fits (tyf ci k) (.int x) = true) (hd : decode (yCd y) pc = .ok (.putfield i, 3)) (K : Wq p l e R s m args below meth c y A Dg cA sp n0 ad0 Lx xs Q cc ss (pc + 3) Lo r (h.1, updI h.2.1 ci j k x, h.2.2)) : Wq p l e R s m args below meth c y A Dg cA sp n0 ad0 Lx xs Q cc ss pc Lo (vi x :: vr ci j :: r) h := by
  intro ad H locs ls hR
  have hq : liveQ h (ci, j) := (hR.okst (vr ci j) (List.mem_cons_of_mem _ List.mem_cons_self) (ci, j) rfl).resolve_left (by show ¬ 900 ≤ ci; omega)
  have he := wsh_at (ad := ad) (sp := sp) (cA := cA) hq
  rw [ent_obj hci] at he
  have hset := wsh_set (h := h) (ad := ad) (sp := sp) (cA := cA) (h' := (h.1, updI h.2.1 ci j k x, h.2.2)) rfl hq (ent_putI hci href) (fun q' _ hne => (ent_same (h := h) (updI_ne hne) rfl rfl))
  refine va_put (Ts := wsAll) C.1 C.2.1 C.hts (flds_in hci) (tyf ci) (ty_at hci) (nm_at hci) C.2.2.2.1 C.hK hR.hP hR.hD hR.hS _ he (cl_at hci) k hk (C.hts _ hw) (fun x hx => hx) hfin (v := .int x) (ty_at hci k hk) hn hf (by rw [entO_len]; exact hk) hd (fun H1 locs1 hP hD hS => ?_)
  rw [hset] at hP hD
  exact K ad H1 locs1 ls (hR.wrote rfl (okS_tl (okS_tl hR.okst)) hP hD (HO_I (by omega) hR.hH) hS)
theorem s_putIF (C : Cx p R s m args meth c y D A Dg cA sp Lx xs) {i ci k j : Nat} {x : Int32} (hci : ci ≤ 10) (hk : k < nfl ci) (href : isRefS ci k = false) (hw : (.fieldLink (own y) i (TXf ci k).1 (TXf ci k).2.1 (TXf ci k).2.2.1 : Jvm.Cond) ∈ wsAll) (hfin : (TXf ci k).2.2.2 = true) (hini : (yNm y).name = "<init>") (hown : (TXf ci k).1 = own y) (hn : narrow (tyf ci k) (.int x) = .int x) (hf : fits (tyf ci k) (.int x) = true) (hd : decode (yCd y) pc = .ok (.putfield i, 3)) (K : Wq p l e R s m args below meth c y A Dg cA sp n0 ad0 Lx xs Q cc ss (pc + 3) Lo r (h.1, updI h.2.1 ci j k x, h.2.2)) : Wq p l e R s m args below meth c y A Dg cA sp n0 ad0 Lx xs Q cc ss pc Lo (vi x :: vr ci j :: r) h := by
  intro ad H locs ls hR
  have hq : liveQ h (ci, j) := (hR.okst (vr ci j) (List.mem_cons_of_mem _ List.mem_cons_self) (ci, j) rfl).resolve_left (by show ¬ 900 ≤ ci; omega)
  have he := wsh_at (ad := ad) (sp := sp) (cA := cA) hq
  rw [ent_obj hci] at he
  have hset := wsh_set (h := h) (ad := ad) (sp := sp) (cA := cA) (h' := (h.1, updI h.2.1 ci j k x, h.2.2)) rfl hq (ent_putI hci href) (fun q' _ hne => (ent_same (h := h) (updI_ne hne) rfl rfl))
  refine va_putF (Ts := wsAll) C.1 C.2.1 C.hts (flds_in hci) (tyf ci) (ty_at hci) (nm_at hci) C.2.2.2.1 C.hK hR.hP hR.hD hR.hS _ he (cl_at hci) k hk (C.hts _ hw) (fun x hx => hx) hfin (C.2.2.2.2.2.2.2.1 hini) hown (v := .int x) (ty_at hci k hk) hn hf (by rw [entO_len]; exact hk) hd (fun H1 locs1 hP hD hS => ?_)
  rw [hset] at hP hD
  exact K ad H1 locs1 ls (hR.wrote rfl (okS_tl (okS_tl hR.okst)) hP hD (HO_I (by omega) hR.hH) hS)
theorem s_putR (C : Cx p R s m args meth c y D A Dg cA sp Lx xs) {i ci k j : Nat} {a b : Nat} (hab : a < 900) (hci : ci ≤ 10) (hk : k < nfl ci) (href : isRefS ci k = true) (hw : (.fieldLink (own y) i (TXf ci k).1 (TXf ci k).2.1 (TXf ci k).2.2.1 : Jvm.Cond) ∈ wsAll) (hfin : (TXf ci k).2.2.2 = false) (hn : ∀ q, narrow (tyf ci k) (.ref q) = .ref q) (hf : ∀ q, fits (tyf ci k) (.ref q) = true) (hd : decode (yCd y) pc = .ok (.putfield i, 3)) (K : Wq p l e R s m args below meth c y A Dg cA sp n0 ad0 Lx xs Q cc ss (pc + 3) Lo r (h.1, h.2.1, h.2.2.1, updR h.2.2.2 ci j k (some (a, b)))) : Wq p l e R s m args below meth c y A Dg cA sp n0 ad0 Lx xs Q cc ss pc Lo (vr a b :: vr ci j :: r) h := by
  intro ad H locs ls hR
  have hq : liveQ h (ci, j) := (hR.okst (vr ci j) (List.mem_cons_of_mem _ List.mem_cons_self) (ci, j) rfl).resolve_left (by show ¬ 900 ≤ ci; omega)
  have hl : liveQ h (a, b) := (hR.okst (vr a b) List.mem_cons_self (a, b) rfl).resolve_left (by show ¬ 900 ≤ a; omega)
  have he := wsh_at (ad := ad) (sp := sp) (cA := cA) hq
  rw [ent_obj hci] at he
  have hset := wsh_set (h := h) (ad := ad) (sp := sp) (cA := cA) (h' := (h.1, h.2.1, h.2.2.1, updR h.2.2.2 ci j k (some (a, b)))) rfl hq (ent_putR hci href) (fun q' _ hne => (ent_same (h := h) rfl rfl (updR_ne hne)))
  refine va_put (Ts := wsAll) C.1 C.2.1 C.hts (flds_in hci) (tyf ci) (ty_at hci) (nm_at hci) C.2.2.2.1 C.hK hR.hP hR.hD hR.hS _ he (cl_at hci) k hk (C.hts _ hw) (fun x hx => hx) hfin (v := .ref (rho ad sp (a, b))) (ty_at hci k hk) (hn _) (hf _) (by rw [entO_len]; exact hk) hd (fun H1 locs1 hP hD hS => ?_)
  rw [hset] at hP hD
  exact K ad H1 locs1 ls (hR.wrote rfl (okS_tl (okS_tl hR.okst)) hP hD (HO_R hl hR.hH) hS)
theorem s_putRF (C : Cx p R s m args meth c y D A Dg cA sp Lx xs) {i ci k j : Nat} {a b : Nat} (hab : a < 900) (hci : ci ≤ 10) (hk : k < nfl ci) (href : isRefS ci k = true) (hw : (.fieldLink (own y) i (TXf ci k).1 (TXf ci k).2.1 (TXf ci k).2.2.1 : Jvm.Cond) ∈ wsAll) (hfin : (TXf ci k).2.2.2 = true) (hini : (yNm y).name = "<init>") (hown : (TXf ci k).1 = own y) (hn : ∀ q, narrow (tyf ci k) (.ref q) = .ref q) (hf : ∀ q, fits (tyf ci k) (.ref q) = true) (hd : decode (yCd y) pc = .ok (.putfield i, 3)) (K : Wq p l e R s m args below meth c y A Dg cA sp n0 ad0 Lx xs Q cc ss (pc + 3) Lo r (h.1, h.2.1, h.2.2.1, updR h.2.2.2 ci j k (some (a, b)))) : Wq p l e R s m args below meth c y A Dg cA sp n0 ad0 Lx xs Q cc ss pc Lo (vr a b :: vr ci j :: r) h := by
  intro ad H locs ls hR
  have hq : liveQ h (ci, j) := (hR.okst (vr ci j) (List.mem_cons_of_mem _ List.mem_cons_self) (ci, j) rfl).resolve_left (by show ¬ 900 ≤ ci; omega)
  have hl : liveQ h (a, b) := (hR.okst (vr a b) List.mem_cons_self (a, b) rfl).resolve_left (by show ¬ 900 ≤ a; omega)
  have he := wsh_at (ad := ad) (sp := sp) (cA := cA) hq
  rw [ent_obj hci] at he
  have hset := wsh_set (h := h) (ad := ad) (sp := sp) (cA := cA) (h' := (h.1, h.2.1, h.2.2.1, updR h.2.2.2 ci j k (some (a, b)))) rfl hq (ent_putR hci href) (fun q' _ hne => (ent_same (h := h) rfl rfl (updR_ne hne)))
  refine va_putF (Ts := wsAll) C.1 C.2.1 C.hts (flds_in hci) (tyf ci) (ty_at hci) (nm_at hci) C.2.2.2.1 C.hK hR.hP hR.hD hR.hS _ he (cl_at hci) k hk (C.hts _ hw) (fun x hx => hx) hfin (C.2.2.2.2.2.2.2.1 hini) hown (v := .ref (rho ad sp (a, b))) (ty_at hci k hk) (hn _) (hf _) (by rw [entO_len]; exact hk) hd (fun H1 locs1 hP hD hS => ?_)
  rw [hset] at hP hD
  exact K ad H1 locs1 ls (hR.wrote rfl (okS_tl (okS_tl hR.okst)) hP hD (HO_R hl hR.hH) hS)
end SNH
