/-! COPIES AND MAKINGS -/
theorem cpyI_ne {I : IM} {s j s2 j2 sp dp n s' j' : Nat} (h : (s', j') ≠ (s2, j2)) : cpyI I s j s2 j2 sp dp n s' j' = I s' j' := by
  funext c
  simp only [cpyI]
  cases hb : (Nat.beq s' s2 && Nat.beq j' j2) with
  | false => rfl
  | true =>
    simp only [Bool.and_eq_true, nb_iff] at hb
    exact absurd (by rw [hb.1, hb.2]) h
theorem cpyI_eq {I : IM} {s j s2 j2 sp dp n : Nat} : cpyI I s j s2 j2 sp dp n s2 j2 = va_cpy (I s j) (I s2 j2) sp dp n := by
  funext c
  simp only [cpyI]
  rw [show (Nat.beq s2 s2 && Nat.beq j2 j2) = true by simp]
  rfl
theorem cpyJ_ne {I : JM} {s j s2 j2 sp dp n s' j' : Nat} (h : (s', j') ≠ (s2, j2)) : cpyJ I s j s2 j2 sp dp n s' j' = I s' j' := by
  funext c
  simp only [cpyJ]
  cases hb : (Nat.beq s' s2 && Nat.beq j' j2) with
  | false => rfl
  | true =>
    simp only [Bool.and_eq_true, nb_iff] at hb
    exact absurd (by rw [hb.1, hb.2]) h
theorem cpyJ_eq {I : JM} {s j s2 j2 sp dp n : Nat} : cpyJ I s j s2 j2 sp dp n s2 j2 = va_cpy (I s j) (I s2 j2) sp dp n := by
  funext c
  simp only [cpyJ]
  rw [show (Nat.beq s2 s2 && Nat.beq j2 j2) = true by simp]
  rfl
theorem zerI_ne {I : IM} {s j s' j' : Nat} (h : (s', j') ≠ (s, j)) : zerI I s j s' j' = I s' j' := by
  funext c
  simp only [zerI]
  cases hb : (Nat.beq s' s && Nat.beq j' j) with
  | false => rfl
  | true =>
    simp only [Bool.and_eq_true, nb_iff] at hb
    exact absurd (by rw [hb.1, hb.2]) h
theorem zerI_eq {I : IM} {s j : Nat} : zerI I s j s j = fun _ => 0 := by
  funext c
  simp only [zerI]
  rw [show (Nat.beq s s && Nat.beq j j) = true by simp]
  rfl
theorem zerJ_ne {I : JM} {s j s' j' : Nat} (h : (s', j') ≠ (s, j)) : zerJ I s j s' j' = I s' j' := by
  funext c
  simp only [zerJ]
  cases hb : (Nat.beq s' s && Nat.beq j' j) with
  | false => rfl
  | true =>
    simp only [Bool.and_eq_true, nb_iff] at hb
    exact absurd (by rw [hb.1, hb.2]) h
theorem zerJ_eq {I : JM} {s j : Nat} : zerJ I s j s j = fun _ => 0 := by
  funext c
  simp only [zerJ]
  rw [show (Nat.beq s s && Nat.beq j j) = true by simp]
  rfl
theorem zerR_ne {I : RM} {s j s' j' : Nat} (h : (s', j') ≠ (s, j)) : zerR I s j s' j' = I s' j' := by
  funext c
  simp only [zerR]
  cases hb : (Nat.beq s' s && Nat.beq j' j) with
  | false => rfl
  | true =>
    simp only [Bool.and_eq_true, nb_iff] at hb
    exact absurd (by rw [hb.1, hb.2]) h
theorem zerR_eq {I : RM} {s j : Nat} : zerR I s j s j = fun _ => none := by
  funext c
  simp only [zerR]
  rw [show (Nat.beq s s && Nat.beq j j) = true by simp]
  rfl
def mkH (h : AH) (s1 j1 : Nat) : AH := (h.1 + 1, zerI h.2.1 s1 j1, zerJ h.2.2.1 s1 j1, zerR h.2.2.2 s1 j1)
def exA (ad : Nat → Nat) (n q : Nat) : Nat → Nat := fun i => if i = n then q else ad i
theorem live_new {h : AH} {q : Nat × Nat} (ht : TAB[h.1]? = some q) : liveQ (h.1 + 1, h.2) q := by
  obtain ⟨h1, h2⟩ := List.getElem?_eq_some_iff.mp ht
  unfold liveQ
  rw [List.take_add_one, ht]
  exact List.mem_append_right _ (by simp)
theorem live_old {h : AH} {x : IM × JM × RM} {q : Nat × Nat} (hq : liveQ h q) : liveQ (h.1 + 1, x) q := by
  unfold liveQ at hq ⊢
  rw [List.take_add_one]
  exact List.mem_append_left _ hq
theorem live_mk {h : AH} {x : IM × JM × RM} {q0 q : Nat × Nat} (ht : TAB[h.1]? = some q0) (hq : liveQ (h.1 + 1, x) q) : liveQ h q ∨ q = q0 := by
  unfold liveQ at hq
  rw [List.take_add_one, ht] at hq
  rcases List.mem_append.mp hq with hq | hq
  · exact Or.inl hq
  · exact Or.inr (by simpa using hq)
theorem live_ne {h : AH} {q0 q : Nat × Nat} (ht : TAB[h.1]? = some q0) (hq : liveQ h q) : q ≠ q0 := by
  rintro rfl
  obtain ⟨h1, h2⟩ := live_idx hq
  obtain ⟨h3, h4⟩ := List.getElem?_eq_some_iff.mp ht
  have : TAB.idxOf q = h.1 := by rw [← h4]; exact List.Nodup.idxOf_getElem TAB_nodup _ h3
  omega
theorem idx_new {h : AH} {q0 : Nat × Nat} (ht : TAB[h.1]? = some q0) : TAB.idxOf q0 = h.1 := by
  obtain ⟨h3, h4⟩ := List.getElem?_eq_some_iff.mp ht
  rw [← h4]; exact List.Nodup.idxOf_getElem TAB_nodup _ h3
theorem ent_mk {ad sp : Nat → Nat} {cA : Nat → ClassId} {h : AH} {s1 j1 q : Nat} (ht : TAB[h.1]? = some (s1, j1)) (hR : okR h) (hA : okA h) {q' : Nat × Nat} (hq : liveQ h q') : ent (exA ad h.1 q) sp cA (mkH h s1 j1) q' = ent ad sp cA h q' := by
  have hne := live_ne ht hq
  have hlt : h.1 < TAB.length := (List.getElem?_eq_some_iff.mp ht).1
  have hr : ∀ q2, liveQ h q2 → rho (exA ad h.1 q) sp q2 = rho ad sp q2 := fun q2 h2 => rho_ad (fun i hi => by simp only [exA]; rw [if_neg (by omega)]) (Or.inr h2)
  obtain ⟨a, b⟩ := q'
  have e1 : (mkH h s1 j1).2.1 a b = h.2.1 a b := zerI_ne hne
  have e2 : (mkH h s1 j1).2.2.1 a b = h.2.2.1 a b := zerJ_ne hne
  have e3 : (mkH h s1 j1).2.2.2 a b = h.2.2.2 a b := zerR_ne hne
  unfold ent
  dsimp only
  split
  · next h10 =>
    congr 2
    unfold entO
    apply List.map_congr_left
    intro k hk
    have hk := List.mem_range.mp hk
    rw [e1, e3]
    cases hf : isRefS a k with
    | false => rfl
    | true =>
      simp only [if_true]
      cases hx : h.2.2.2 a b k with
      | none => rfl
      | some q2 => exact congrArg Value.ref (hr q2 (hR (a, b) hq k q2 (Or.inl ⟨h10, hk, hf⟩) hx))
  · unfold entA
    rw [e1, e2, e3]
    congr 3
    split
    · rfl
    · split
      · next h24 =>
        congr 4
        funext k
        cases hx : h.2.2.2 a b k with
        | none => rfl
        | some q2 => exact congrArg some (hr q2 (hA hlt (a, b) hq h24 k q2 hx))
      · rfl
theorem wsh_mk {ad sp : Nat → Nat} {cA : Nat → ClassId} {h : AH} {s1 j1 q : Nat} (ht : TAB[h.1]? = some (s1, j1)) (hR : okR h) (hA : okA h) {e0 : va_E} (he : ent (exA ad h.1 q) sp cA (mkH h s1 j1) (s1, j1) = e0) : wsh ad sp cA h ++ [(q, e0)] = wsh (exA ad h.1 q) sp cA (mkH h s1 j1) := by
  have hs : (s1, j1) ∈ TAB := List.mem_of_getElem? ht
  have h900 : ¬ 900 ≤ s1 := by have := TAB_low _ hs; simp at this; omega
  unfold wsh
  show _ = (TAB.take (h.1 + 1)).map _
  rw [List.take_add_one, ht]
  simp only [Option.toList, List.map_append, List.map_cons, List.map_nil, he]
  congr 1
  · apply List.map_congr_left
    intro q' hq
    have hq : liveQ h q' := hq
    rw [ent_mk ht hR hA hq]
    rw [rho_ad (ad := ad) (ad' := exA ad h.1 q) (h := h) (fun i hi => by simp only [exA]; rw [if_neg (by omega)]) (Or.inr hq)]
  · congr 2
    unfold rho
    rw [if_neg h900, idx_new ht]
    simp [exA]
theorem okR_mk {h : AH} {s1 j1 : Nat} (ht : TAB[h.1]? = some (s1, j1)) (hR : okR h) : okR (mkH h s1 j1) := by
  intro q hq k q' hc hr
  rcases live_mk ht hq with hq | rfl
  · have e3 : (mkH h s1 j1).2.2.2 q.1 q.2 = h.2.2.2 q.1 q.2 := zerR_ne (live_ne ht hq)
    rw [e3] at hr
    exact live_old (hR q hq k q' hc hr)
  · have e3 : (mkH h s1 j1).2.2.2 s1 j1 = fun _ => none := zerR_eq
    dsimp only at hr
    rw [e3] at hr
    cases hr
theorem okA_mk {h : AH} {s1 j1 : Nat} (ht : TAB[h.1]? = some (s1, j1)) (hA : okA h) : okA (mkH h s1 j1) := by
  intro hn q hq h24 k q' hr
  rcases live_mk ht hq with hq | rfl
  · have e3 : (mkH h s1 j1).2.2.2 q.1 q.2 = h.2.2.2 q.1 q.2 := zerR_ne (live_ne ht hq)
    rw [e3] at hr
    exact live_old (hA (List.getElem?_eq_some_iff.mp ht).1 q hq h24 k q' hr)
  · have e3 : (mkH h s1 j1).2.2.2 s1 j1 = fun _ => none := zerR_eq
    dsimp only at hr
    rw [e3] at hr
    cases hr
theorem HO_mk {h : AH} {n0 Lx : Nat} {xs : Nat → Int32} {s1 j1 : Nat} (ht : TAB[h.1]? = some (s1, j1)) (hH : HO h n0 Lx xs) : HO (mkH h s1 j1) n0 Lx xs := by
  have hs : (s1, j1) ∈ TAB := List.mem_of_getElem? ht
  have h900 : s1 < 900 := by have := TAB_low _ hs; simp at this; omega
  have e1 : (mkH h s1 j1).2.1 950 0 = h.2.1 950 0 := zerI_ne (fun z => by cases z; omega)
  have e2 : (mkH h s1 j1).2.1 951 0 = h.2.1 951 0 := zerI_ne (fun z => by cases z; omega)
  refine ⟨okR_mk ht hH.1, okA_mk ht hH.2.1, ?_, fun j => by rw [e1]; exact hH.2.2.2.1 j, by rw [e2]; exact hH.2.2.2.2.1, ?_⟩
  · have := (List.getElem?_eq_some_iff.mp ht).1
    show h.1 + 1 ≤ _
    omega
  · have := hH.2.2.2.2.2
    show n0 ≤ h.1 + 1
    omega
section SNM
variable {p : Program} {l : Launch} {e : Env} {R : Room} {s : State} {m : MethodId} {args : Array Value} {below : List Frame} {meth : Method} {c : Code} {y D : Nat} {A : Nat → Prop} {Dg : va_G} {cA : Nat → ClassId} {sp : Nat → Nat} {n0 : Nat} {ad0 : Nat → Nat} {Lx : Nat} {xs : Nat → Int32} {Q : State → Prop}
variable {cc ss pc : Nat} {Lo st r : List AV} {h : AH} {ad : Nat → Nat} {H : Heap} {locs : List Loc} {ls : Array Slot}
theorem okV_to {h h' : AH} {v : AV} (hm : ∀ q, liveQ h q → liveQ h' q) (k : okV h v) : okV h' v := fun q e => (k q e).imp id (hm q)
theorem okS_up {h h' : AH} {st : List AV} (hm : ∀ q, liveQ h q → liveQ h' q) (k : okS h st) : okS h' st := fun v hv => okV_to hm (k v hv)
/-- another heap, other addresses, that agree on what was there -/
theorem Rl.grown {h' : AH} {ad' : Nat → Nat} {H1 : Heap} {locs1 : List Loc} {st' : List AV} (hR : Rl s y A Dg cA sp n0 ad0 Lx xs ad H locs ls Lo st h) (ha : ∀ i, i < h.1 → ad' i = ad i) (hm : ∀ q, liveQ h q → liveQ h' q) (hst : okS h' st') (hP : va_P Dg vwCl (wsh ad' sp cA h') H1) (hD : va_D A (wsh ad' sp cA h')) (hH : HO h' n0 Lx xs) (hS : va_S A s.heap H1 locs1) : Rl s y A Dg cA sp n0 ad0 Lx xs ad' H1 locs1 ls Lo st' h' := by
  refine ⟨⟨hR.1.1, hR.1.2.1, fun q hq => ?_⟩, hR.2.1, okS_up hm hR.2.2.1, hst, hP, hD, hH, hS, fun i hi => ?_⟩
  · obtain ⟨i, v⟩ := q
    obtain ⟨a, h1, h2, h3, rfl⟩ := lvL_mem.mp hq
    rw [emV_ad ha (hR.2.2.1 a (lgt_mem h2))]
    exact hR.1.2.2 (i, _) (lvL_mem.mpr ⟨a, h1, h2, h3, rfl⟩)
  · have h1 := hR.hH.2.2.2.2.2
    rw [ha i (by omega)]
    exact hR.2.2.2.2.2.2.2.2 i hi
theorem exA_old {ad : Nat → Nat} {n q : Nat} : ∀ i, i < n → exA ad n q i = ad i := fun i hi => by simp only [exA]; rw [if_neg (by omega)]
theorem rho_new {ad sp : Nat → Nat} {h : AH} {s1 j1 q : Nat} (ht : TAB[h.1]? = some (s1, j1)) : rho (exA ad h.1 q) sp (s1, j1) = q := by
  have hs : (s1, j1) ∈ TAB := List.mem_of_getElem? ht
  have h900 : ¬ 900 ≤ s1 := by have := TAB_low _ hs; simp at this; omega
  unfold rho
  rw [if_neg h900, idx_new ht]
  simp [exA]
theorem dflt_O : ∀ ci, ci ≤ 10 → ∀ j, j < nfl ci → defaultValue (tyf ci j) = if isRefS ci j = true then .null else .int 0 := by
  intro ci hci
  exact le10 (P := fun ci => ∀ j, j < nfl ci → defaultValue (tyf ci j) = if isRefS ci j = true then .null else .int 0) (by decide +kernel) (by decide +kernel) (by decide +kernel) (by decide +kernel) (by decide +kernel) (by decide +kernel) (by decide +kernel) (by decide +kernel) (by decide +kernel) (by decide +kernel) (by decide +kernel) hci
theorem s_new (C : Cx p R s m args meth c y D A Dg cA sp Lx xs) {i a j1 : Nat} (ht : TAB[h.1]? = some (a, j1)) (ha : a ≤ 10) (h1 : cc + 1 ≤ R.cells) (h2 : ss + nfl a ≤ R.slots) (hw : (.classLink (own y) i (RXf a) : Jvm.Cond) ∈ wsAll) (hd : decode (yCd y) pc = .ok (.new i, 3)) (K : Wq p l e R s m args below meth c y A Dg cA sp n0 ad0 Lx xs Q (cc + 1) (ss + nfl a) (pc + 3) Lo (vr a j1 :: st) (mkH h a j1)) : Wq p l e R s m args below meth c y A Dg cA sp n0 ad0 Lx xs Q cc ss pc Lo st h := by
  intro ad H locs ls hR
  have hent : ∀ q, ent (exA ad h.1 q) sp cA (mkH h a j1) (a, j1) = .inr (a, (List.range (nfl a)).map fun k => if isRefS a k = true then Value.null else .int 0) := by
    intro q
    rw [ent_obj ha]
    unfold entO
    congr 2
    apply List.map_congr_left
    intro k _
    have e1 : (mkH h a j1).2.1 a j1 = fun _ => 0 := zerI_eq
    have e3 : (mkH h a j1).2.2.2 a j1 = fun _ => none := zerR_eq
    rw [e1, e3]
    rfl
  refine va_new (Ts := wsAll) (fs := (List.range (nfl a)).map fun k => if isRefS a k = true then Value.null else .int 0) C.1 C.2.1 C.hts (flds_in ha) (tyf a) (ty_at ha) C.2.2.2.1 (C.hts _ hw) (C.hts _ (ins_at ha)) (C.hts _ (ini_at ha)) C.hK hR.hP hR.hD hR.hS C.hA (cl_at ha) (fun j hj => ?_) h1 h2 hd (fun q H1 hP hD hS => ?_)
  · rw [dflt_O a ha j hj]
    simp [vp_V, hj]
  · rw [wsh_mk ht hR.hH.1 hR.hH.2.1 (hent q)] at hP hD
    have K := K (exA ad h.1 q) H1 locs ls (hR.grown exA_old (fun q' => live_old) (okS_cons (fun q' z => by cases z; exact Or.inr (live_new (h := (h.1, (mkH h a j1).2)) ht)) (okS_up (fun q' => live_old) hR.okst)) hP hD (HO_mk ht hR.hH) hS)
    have e : (vr a j1 :: st).map (emV (exA ad h.1 q) sp) = .ref q :: st.map (emV ad sp) := by
      rw [List.map_cons, emS_ad exA_old hR.okst]
      congr 1
      exact congrArg Value.ref (rho_new ht)
    rw [e] at K
    exact K
theorem LEN_le : ∀ q ∈ TAB, LENf q.1 q.2 ≤ 400 := by decide +kernel
theorem K_len {s1 j1 n : Nat} (ht : TAB[n]? = some (s1, j1)) : LENf s1 j1 ≤ 400 := LEN_le (s1, j1) (List.mem_of_getElem? ht)
def a0F (k n : Nat) : vp_A := (n, if k = 21 then .inr (.inl (fun _ => 0)) else if k = 24 then .inr (.inr (.inr (.inr (fun _ => none)))) else .inl (fun _ => 0))
theorem ent_new {ad sp : Nat → Nat} {cA : Nat → ClassId} {h : AH} {a j1 : Nat} (hk : 20 ≤ kd a) : ent ad sp cA (mkH h a j1) (a, j1) = .inl (cA (kd a), a0F (kd a) (LENf a j1)) := by
  rw [ent_arr hk]
  unfold entA a0F
  have e1 : (mkH h a j1).2.1 a j1 = fun _ => 0 := zerI_eq
  have e2 : (mkH h a j1).2.2.1 a j1 = fun _ => 0 := zerJ_eq
  have e3 : (mkH h a j1).2.2.2 a j1 = fun _ => none := zerR_eq
  rw [e1, e2, e3]
  rfl
theorem same_c {U : State} {c1 c2 : ClassId} {ty : FieldType} (h1 : va_RA U c1 ty) (h2 : va_RA U c2 ty) : c1 = c2 := by
  cases ty with
  | object C =>
    obtain ⟨_, _, _, _, _, a⟩ := h1
    obtain ⟨_, _, _, _, _, b⟩ := h2
    exact Option.some.inj (a.symm.trans b)
  | _ => exact Option.some.inj (Eq.trans (Eq.symm h1) h2)
theorem s_newa (C : Cx p R s m args meth c y D A Dg cA sp Lx xs) {t : ArrayType} {a j1 : Nat} {n : Int32} (ht : TAB[h.1]? = some (a, j1)) (h20 : 20 ≤ kd a) (h23 : kd a ≤ 23) (hty : newarray.typeOf t = atyF (kd a)) (hn : ¬ n < 0) (hN : n.toNatClampNeg = LENf a j1) (h1 : cc + 1 ≤ R.cells) (h2 : ss + LENf a j1 ≤ R.slots) (hw : (.arrayClass (atyF (kd a)) : Jvm.Cond) ∈ wsAll) (hd : decode (yCd y) pc = .ok (.newarray t, 2)) (K : Wq p l e R s m args below meth c y A Dg cA sp n0 ad0 Lx xs Q (cc + 1) (ss + LENf a j1) (pc + 2) Lo (vr a j1 :: r) (mkH h a j1)) : Wq p l e R s m args below meth c y A Dg cA sp n0 ad0 Lx xs Q cc ss pc Lo (vi n :: r) h := by
  intro ad H locs ls hR
  have hlen := K_len ht
  have hcell : ∀ cA' : ClassId, vp_cell cA' (a0F (kd a) (LENf a j1)) = arrV cA' (LENf a j1) (fun _ => defaultValue (atyF (kd a))) := by
    intro cA'
    have : kd a = 20 ∨ kd a = 21 ∨ kd a = 22 ∨ kd a = 23 := by omega
    rcases this with e | e | e | e <;> rw [e] <;> rfl
  have hbyt : LENf a j1 * componentBytes (atyF (kd a)) ≤ 536870912 := by
    have : kd a = 20 ∨ kd a = 21 ∨ kd a = 22 ∨ kd a = 23 := by omega
    have h8 : componentBytes (atyF (kd a)) ≤ 8 := by rcases this with e | e | e | e <;> rw [e] <;> decide
    exact Nat.le_trans (Nat.mul_le_mul hlen h8) (by decide)
  refine va_newa (atype := t) (ty := atyF (kd a)) (a0 := a0F (kd a) (LENf a j1)) C.1 C.2.1 (by rw [hty]; exact C.hts _ hw) hty C.hK hR.hP hR.hD hR.hS C.hA hcell hn hN hbyt h1 h2 hd (fun q c1 H1 hK1 hP hD hS => ?_)
  have hc1 : c1 = cA (kd a) := by
    have g1 := (hK1.2 5 (c1, atyF (kd a)) rfl).2
    have : kd a = 20 ∨ kd a = 21 ∨ kd a = 22 ∨ kd a = 23 := by omega
    rcases this with e | e | e | e <;> rw [e] at g1 ⊢
    · exact same_c g1 (C.hK.2 0 (cA 20, .int) rfl).2
    · exact same_c g1 (C.hK.2 1 (cA 21, .long) rfl).2
    · exact same_c g1 (C.hK.2 2 (cA 22, .byte) rfl).2
    · exact same_c g1 (C.hK.2 3 (cA 23, .short) rfl).2
  subst hc1
  rw [wsh_mk ht hR.hH.1 hR.hH.2.1 (ent_new h20)] at hP hD
  have K := K (exA ad h.1 q) H1 locs ls (hR.grown exA_old (fun q' => live_old) (okS_cons (fun q' z => by cases z; exact Or.inr (live_new (h := (h.1, (mkH h a j1).2)) ht)) (okS_up (fun q' => live_old) (okS_tl hR.okst))) hP hD (HO_mk ht hR.hH) hS)
  have e : (vr a j1 :: r).map (emV (exA ad h.1 q) sp) = .ref q :: r.map (emV ad sp) := by
    rw [List.map_cons, emS_ad exA_old (okS_tl hR.okst)]
    congr 1
    exact congrArg Value.ref (rho_new ht)
  rw [e] at K
  exact K
theorem s_newq (C : Cx p R s m args meth c y D A Dg cA sp Lx xs) {i j1 : Nat} {n : Int32} (ht : TAB[h.1]? = some (40, j1)) (hn : ¬ n < 0) (hN : n.toNatClampNeg = LENf 40 j1) (h1 : cc + 1 ≤ R.cells) (h2 : ss + LENf 40 j1 ≤ R.slots) (hw : (.classLink (own y) i "HeldTillSet$Shelf" : Jvm.Cond) ∈ wsAll) (hd : decode (yCd y) pc = .ok (.anewarray i, 3)) (K : Wq p l e R s m args below meth c y A Dg cA sp n0 ad0 Lx xs Q (cc + 1) (ss + LENf 40 j1) (pc + 3) Lo (vr 40 j1 :: r) (mkH h 40 j1)) : Wq p l e R s m args below meth c y A Dg cA sp n0 ad0 Lx xs Q cc ss pc Lo (vi n :: r) h := by
  intro ad H locs ls hR
  have hlen := K_len ht
  have hao : va_AO "HeldTillSet$Shelf" s := C.hS.2.2.2.2.2.2.2.2.2.2.2.2.2.2.1
  refine va_newq C.1 C.2.1 C.2.2.2.1 (C.hts _ hw) hao C.hK hR.hP hR.hD hR.hS C.hA hn hN (by omega) h1 h2 hd (fun q c1 H1 hK1 hP hD hS => ?_)
  have hc1 : c1 = cA 24 := same_c (hK1.2 5 (c1, .object "HeldTillSet$Shelf") rfl).2 (C.hK.2 4 (cA 24, .object "HeldTillSet$Shelf") rfl).2
  subst hc1
  have he : ent (exA ad h.1 q) sp cA (mkH h 40 j1) (40, j1) = .inl (cA 24, LENf 40 j1, .inr (.inr (.inr (.inr (fun _ => none))))) := ent_new (by decide)
  rw [wsh_mk ht hR.hH.1 hR.hH.2.1 he] at hP hD
  have K := K (exA ad h.1 q) H1 locs ls (hR.grown exA_old (fun q' => live_old) (okS_cons (fun q' z => by cases z; exact Or.inr (live_new (h := (h.1, (mkH h 40 j1).2)) ht)) (okS_up (fun q' => live_old) (okS_tl hR.okst))) hP hD (HO_mk ht hR.hH) hS)
  have e : (vr 40 j1 :: r).map (emV (exA ad h.1 q) sp) = .ref q :: r.map (emV ad sp) := by
    rw [List.map_cons, emS_ad exA_old (okS_tl hR.okst)]
    congr 1
    exact congrArg Value.ref (rho_new ht)
  rw [e] at K
  exact K
theorem HO_C {h : AH} {n0 Lx : Nat} {xs : Nat → Int32} {s j s2 j2 a b n : Nat} (hs : s2 < 900) (hH : HO h n0 Lx xs) : HO (h.1, cpyI h.2.1 s j s2 j2 a b n, h.2.2) n0 Lx xs := by
  have e1 : (cpyI h.2.1 s j s2 j2 a b n) 950 0 = h.2.1 950 0 := cpyI_ne (fun z => by cases z; omega)
  have e2 : (cpyI h.2.1 s j s2 j2 a b n) 951 0 = h.2.1 951 0 := cpyI_ne (fun z => by cases z; omega)
  refine ⟨hH.1, hH.2.1, hH.2.2.1, fun j => ?_, ?_, hH.2.2.2.2.2⟩
  · show (cpyI h.2.1 s _ s2 j2 a b n) 950 0 j = xs j
    rw [e1]; exact hH.2.2.2.1 j
  · show ((cpyI h.2.1 s j s2 j2 a b n) 951 0 0).toNatClampNeg = Lx
    rw [e2]; exact hH.2.2.2.2.1
theorem s_copyI (C : Cx p R s m args meth c y D A Dg cA sp Lx xs) {i s1 j1 s2 j2 : Nat} {a b n : Int32} (hc : catS r ≤ 8) (hs1 : s1 ≤ 84) (hs2 : s2 ≤ 84) (hk1 : kd s1 = 20) (hk2 : kd s2 = 20) (h1 : ¬ a < 0) (h2 : ¬ b < 0) (h3 : ¬ n < 0) (h4 : a.toNatClampNeg + n.toNatClampNeg ≤ LENf s1 j1) (h5 : b.toNatClampNeg + n.toNatClampNeg ≤ LENf s2 j2) (hw : (.methodLink (own y) i arraycopyName : Jvm.Cond) ∈ wsAll) (hd : decode (yCd y) pc = .ok (.invokestatic i, 3)) (K : Wq p l e R s m args below meth c y A Dg cA sp n0 ad0 Lx xs Q cc ss (pc + 3) Lo r (h.1, cpyI h.2.1 s1 j1 s2 j2 a.toNatClampNeg b.toNatClampNeg n.toNatClampNeg, h.2.2)) : Wq p l e R s m args below meth c y A Dg cA sp n0 ad0 Lx xs Q cc ss pc Lo (vi n :: vi b :: vr s2 j2 :: vi a :: vr s1 j1 :: r) h := by
  intro ad H locs ls hR
  have hq2 : liveQ h (s2, j2) := hR.live2 (by omega)
  have hq1 : liveQ h (s1, j1) := (hR.okst (vr s1 j1) (by simp) (s1, j1) rfl).resolve_left (by show ¬ 900 ≤ s1; omega)
  have he1 := wsh_at (ad := ad) (sp := sp) (cA := cA) hq1
  have he2 := wsh_at (ad := ad) (sp := sp) (cA := cA) hq2
  rw [ent_arr (by rw [hk1]; decide)] at he1
  rw [ent_arr (by rw [hk2]; decide)] at he2
  simp only [entA, hk1] at he1
  simp only [entA, hk2] at he2
  have hset := wsh_set (h := h) (h' := (h.1, cpyI h.2.1 s1 j1 s2 j2 a.toNatClampNeg b.toNatClampNeg n.toNatClampNeg, h.2.2)) (ad := ad) (sp := sp) (cA := cA) (e' := .inl (cA 20, LENf s2 j2, .inl (va_cpy (h.2.1 s1 j1) (h.2.1 s2 j2) a.toNatClampNeg b.toNatClampNeg n.toNatClampNeg))) rfl hq2 (by rw [ent_arr (by rw [hk2]; decide)]; simp only [entA, hk2, cpyI_eq]; rfl) (fun q' _ hne => ent_same (h := h) (cpyI_ne hne) rfl rfl)
  refine va_copyi C.1 C.2.1 (C.2.2.1.trans hR.1.1.symm) C.2.2.2.1 (C.hts _ hw) (C.hts _ w_ac1) (C.hts _ w_ac2) (C.hts _ w_is) C.hK hR.hP hR.hD hR.hS _ _ 0 0 he1 he2 rfl rfl rfl h1 h2 h3 h4 h5 (fun _ _ => rfl) ?_ ?_ hd (fun H1 locs1 hP hD hS => ?_)
  · have := C.2.2.2.2.2.2.2.2.1; omega
  · have h6 := C.2.2.2.2.2.2.2.2.2.1
    have h7 := catS_em (ad := ad) (sp := sp) r
    have h8 : nativeFrameWords "java/lang/System" "arraycopy" 5 + 11 ≤ 52 := by decide +kernel
    omega
  · rw [hset] at hP hD
    exact K ad H1 locs1 ls (hR.wrote rfl (okS_tl (okS_tl (okS_tl (okS_tl (okS_tl hR.okst))))) hP hD (HO_C (by omega) hR.hH) hS)
theorem s_copyJ (C : Cx p R s m args meth c y D A Dg cA sp Lx xs) {i s1 j1 s2 j2 : Nat} {a b n : Int32} (hc : catS r ≤ 8) (hs1 : s1 ≤ 84) (hs2 : s2 ≤ 84) (hk1 : kd s1 = 21) (hk2 : kd s2 = 21) (h1 : ¬ a < 0) (h2 : ¬ b < 0) (h3 : ¬ n < 0) (h4 : a.toNatClampNeg + n.toNatClampNeg ≤ LENf s1 j1) (h5 : b.toNatClampNeg + n.toNatClampNeg ≤ LENf s2 j2) (hw : (.methodLink (own y) i arraycopyName : Jvm.Cond) ∈ wsAll) (hd : decode (yCd y) pc = .ok (.invokestatic i, 3)) (K : Wq p l e R s m args below meth c y A Dg cA sp n0 ad0 Lx xs Q cc ss (pc + 3) Lo r (h.1, h.2.1, cpyJ h.2.2.1 s1 j1 s2 j2 a.toNatClampNeg b.toNatClampNeg n.toNatClampNeg, h.2.2.2)) : Wq p l e R s m args below meth c y A Dg cA sp n0 ad0 Lx xs Q cc ss pc Lo (vi n :: vi b :: vr s2 j2 :: vi a :: vr s1 j1 :: r) h := by
  intro ad H locs ls hR
  have hq2 : liveQ h (s2, j2) := hR.live2 (by omega)
  have hq1 : liveQ h (s1, j1) := (hR.okst (vr s1 j1) (by simp) (s1, j1) rfl).resolve_left (by show ¬ 900 ≤ s1; omega)
  have he1 := wsh_at (ad := ad) (sp := sp) (cA := cA) hq1
  have he2 := wsh_at (ad := ad) (sp := sp) (cA := cA) hq2
  rw [ent_arr (by rw [hk1]; decide)] at he1
  rw [ent_arr (by rw [hk2]; decide)] at he2
  simp only [entA, hk1] at he1
  simp only [entA, hk2] at he2
  have hset := wsh_set (h := h) (h' := (h.1, h.2.1, cpyJ h.2.2.1 s1 j1 s2 j2 a.toNatClampNeg b.toNatClampNeg n.toNatClampNeg, h.2.2.2)) (ad := ad) (sp := sp) (cA := cA) (e' := .inl (cA 21, LENf s2 j2, .inr (.inl (va_cpy (h.2.2.1 s1 j1) (h.2.2.1 s2 j2) a.toNatClampNeg b.toNatClampNeg n.toNatClampNeg)))) rfl hq2 (by rw [ent_arr (by rw [hk2]; decide)]; simp only [entA, hk2, cpyJ_eq]; rfl) (fun q' _ hne => ent_same (h := h) rfl (cpyJ_ne hne) rfl)
  refine va_copyl C.1 C.2.1 (C.2.2.1.trans hR.1.1.symm) C.2.2.2.1 (C.hts _ hw) (C.hts _ w_ac1) (C.hts _ w_ac2) (C.hts _ w_is) C.hK hR.hP hR.hD hR.hS _ _ 1 1 he1 he2 rfl rfl rfl h1 h2 h3 h4 h5 (fun _ _ => rfl) ?_ ?_ hd (fun H1 locs1 hP hD hS => ?_)
  · have := C.2.2.2.2.2.2.2.2.1; omega
  · have h6 := C.2.2.2.2.2.2.2.2.2.1
    have h7 := catS_em (ad := ad) (sp := sp) r
    have h8 : nativeFrameWords "java/lang/System" "arraycopy" 5 + 11 ≤ 52 := by decide +kernel
    omega
  · rw [hset] at hP hD
    exact K ad H1 locs1 ls (hR.wrote rfl (okS_tl (okS_tl (okS_tl (okS_tl (okS_tl hR.okst))))) hP hD (HO_J hR.hH) hS)
end SNM
