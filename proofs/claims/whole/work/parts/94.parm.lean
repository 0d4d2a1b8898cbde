/-! THE PARSER, the model: its pieces -/
def mvI (c : Nat) : Int := if c < 128 then (c : Int) else if c ≤ 255 then (c : Int) - 256 else -1
def mV (c : Nat) : Int32 := iZ (mvI c)
theorem mvI_b (c : Nat) : (c < 128 ∧ mvI c = c) ∨ (128 ≤ c ∧ -128 ≤ mvI c ∧ mvI c ≤ -1) := by
  unfold mvI
  split
  · exact Or.inl ⟨by omega, rfl⟩
  · split
    · exact Or.inr ⟨by omega, by omega, by omega⟩
    · exact Or.inr ⟨by omega, by omega, by omega⟩
theorem mV_toInt (c : Nat) : (mV c).toInt = mvI c := by
  have := mvI_b c
  exact iZ_toInt (by omega) (by omega)
theorem mV_is {c k : Nat} {z : Int32} (hk : k < 128) (hz : z.toInt = k) : mV c = z ↔ c = k := by
  have := mvI_b c
  rw [eq_i, mV_toInt, hz]
  omega
theorem mV_isn {c k : Nat} {z : Int32} (hk : k < 128) (hz : z.toInt = k) : ¬ mV c = z ↔ ¬ c = k := not_congr (mV_is hk hz)
theorem mv_all : ∀ c : Fin 256, (iZ (c.val : Int)).toInt8.toInt32 = iZ (mvI c.val) := by decide +kernel
theorem am_all : ∀ a : Fin 128, ((iZ (a.val : Int)).toInt8.toInt32).toInt8.toInt32 = iZ (a.val : Int) := by decide +kernel
def pMd (s _j k : Nat) : Bool := (Nat.beq s 54 && Nat.ble 130 k) || ((Nat.beq s 55 && Nat.ble 130 k) || (Nat.beq s 10 && (Nat.ble 21 k && Nat.ble k 24)))
theorem pMd_iff {s j k : Nat} : pMd s j k = true ↔ (s = 54 ∧ 130 ≤ k) ∨ (s = 55 ∧ 130 ≤ k) ∨ (s = 10 ∧ 21 ≤ k ∧ k ≤ 24) := by
  unfold pMd
  simp only [Bool.or_eq_true, Bool.and_eq_true, nb_iff, Nat.ble_eq]
def MS (I : IM) (tp : List Nat) (p o : Nat) (S : List Nat) : Prop := I 10 0 21 = iZ (p : Int) ∧ I 10 0 22 = -1 ∧ I 10 0 23 = iZ (o : Int) ∧ I 10 0 24 = iZ (S.length : Int) ∧ (∀ (k w : Nat), S[k]? = some w → I 54 0 (130 + k) = iZ (am w : Int) ∧ I 55 0 (130 + k) = iZ (wi w : Int)) ∧ TpM I tp ∧ p ≤ tp.length
def MF (I : IM) (tp : List Nat) (f q a : Nat) : Prop := I 10 0 22 = iZ (f : Int) ∧ f ≤ tp.length ∧ I 10 0 21 = iZ (q : Int) ∧ q ≤ tp.length ∧ I 10 0 24 = iZ (a : Int) ∧ TpM I tp
def MPQ (I : IM) (tp : List Nat) (p0 o : Nat) (S : List Nat) (r : Rs) : Prop := match r with
  | .inl f => ∃ q a, p0 ≤ q ∧ a ≤ S.length + (q - p0) + 1 ∧ MF I tp f q a
  | .inr (q, T) => MS I tp q o (S ++ T)
theorem am_lt {w : Nat} (h : tkOK w) : am w < 128 := by
  unfold am
  unfold tkOK isOp at h
  split
  · omega
  · split
    · omega
    · split
      · omega
      · split <;> omega
theorem MS.fr {I I' : IM} {tp S : List Nat} {p o : Nat} (h : MS I tp p o S) (e : ∀ s k, (s = 10 ∧ 20 ≤ k ∧ k ≤ 24) ∨ s = 53 ∨ s = 54 ∨ s = 55 → I' s 0 k = I s 0 k) : MS I' tp p o S := by
  obtain ⟨h1, h2, h3, h4, h5, ⟨h6, h7⟩, h8⟩ := h
  exact ⟨(e _ _ (by omega)).trans h1, (e _ _ (by omega)).trans h2, (e _ _ (by omega)).trans h3, (e _ _ (by omega)).trans h4, fun k w hk => ⟨(e _ _ (by omega)).trans (h5 k w hk).1, (e _ _ (by omega)).trans (h5 k w hk).2⟩, ⟨(e _ _ (by omega)).trans h6, fun k x hk => (e _ _ (by omega)).trans (h7 k x hk)⟩, h8⟩
section PARM
variable {D : Nat} {I : IM} {J : JM} {b : Bool} {tp S : List Nat} {p o f q a : Nat}
theorem MS.go (h : MS I tp p o S) (hp : p < tp.length) : MS (updI I 10 0 21 (I 10 0 21 + (1 : Int32))) tp (p + 1) o S := by
  obtain ⟨h1, h2, h3, h4, h5, ⟨h6, h7⟩, h8⟩ := h
  have e : ∀ s k, ¬ (s = 10 ∧ k = 21) → updI I 10 0 21 (I 10 0 21 + (1 : Int32)) s 0 k = I s 0 k := fun s k z => by rw [updI_if, if_neg (by omega)]
  exact ⟨by rw [uI_eq, h1, iZ_s], (e _ _ (by omega)).trans h2, (e _ _ (by omega)).trans h3, (e _ _ (by omega)).trans h4, fun k w hk => ⟨(e _ _ (by omega)).trans (h5 k w hk).1, (e _ _ (by omega)).trans (h5 k w hk).2⟩, ⟨(e _ _ (by omega)).trans h6, fun k x hk => (e _ _ (by omega)).trans (h7 k x hk)⟩, by omega⟩
theorem MS.op {o' : Nat} {z : Int32} (h : MS I tp p o S) (hz : z = iZ (o' : Int)) : MS (updI I 10 0 23 z) tp p o' S := by
  obtain ⟨h1, h2, h3, h4, h5, ⟨h6, h7⟩, h8⟩ := h
  have e : ∀ s k, ¬ (s = 10 ∧ k = 23) → updI I 10 0 23 z s 0 k = I s 0 k := fun s k z => by rw [updI_if, if_neg (by omega)]
  exact ⟨(e _ _ (by omega)).trans h1, (e _ _ (by omega)).trans h2, by rw [uI_eq, hz], (e _ _ (by omega)).trans h4, fun k w hk => ⟨(e _ _ (by omega)).trans (h5 k w hk).1, (e _ _ (by omega)).trans (h5 k w hk).2⟩, ⟨(e _ _ (by omega)).trans h6, fun k x hk => (e _ _ (by omega)).trans (h7 k x hk)⟩, h8⟩
theorem MF.op {z : Int32} (h : MF I tp f q a) : MF (updI I 10 0 23 z) tp f q a := by
  obtain ⟨h1, h2, h3, h4, h5, h6, h7⟩ := h
  have e : ∀ s k, ¬ (s = 10 ∧ k = 23) → updI I 10 0 23 z s 0 k = I s 0 k := fun s k z => by rw [updI_if, if_neg (by omega)]
  exact ⟨(e _ _ (by omega)).trans h1, h2, (e _ _ (by omega)).trans h3, h4, (e _ _ (by omega)).trans h5, (e _ _ (by omega)).trans h6, fun k x hk => (e _ _ (by omega)).trans (h7 k x hk)⟩
theorem pMd_go : Fr pMd I (updI I 10 0 21 (I 10 0 21 + (1 : Int32))) := Fr.id.upd (pMd_iff.mpr (by omega))
theorem p_look (hN : tpOK tp) (h1 : I 10 0 21 = iZ (q : Int)) (hT : TpM I tp) (hq : q ≤ tp.length) : Pu (D + 1) 151 [vr 10 0] I J b (mV (chT tp q)) := by
  have hN1 := hN.1
  refine t_X10_look I J b ?_
  rw [h1, hT.1]
  refine ifs (fun c1 => ?_) (fun c1 => ?_)
  · rw [iZ_le (by omega) (by omega) (by omega) (by omega)] at c1
    rw [chT_end (by omega)]
    exact ⟨rfl, rfl⟩
  · rw [iZ_le (by omega) (by omega) (by omega) (by omega)] at c1
    have hlt : q < tp.length := by omega
    have h255 := chT_le hN.2 hlt
    rw [iZ_ck (by omega), hT.2 q _ (chT_at hlt), mv_all ⟨chT tp q, by omega⟩]
    exact ⟨vp_iZ (by omega) (by omega) (by omega), rfl, rfl⟩
theorem p_look_s (hN : tpOK tp) (h : MS I tp p o S) : Pu (D + 1) 151 [vr 10 0] I J b (mV (chT tp p)) := p_look hN h.1 h.2.2.2.2.2.1 h.2.2.2.2.2.2
theorem e_faulty_s (hN : tpOK tp) (h : MS I tp p o S) : Call (D + 1) 152 [vr 10 0] (101, I, J, R0 b) (RVf b fun I' J' => J' = J ∧ Fr pMd I I' ∧ MF I' tp p p S.length) := by
  obtain ⟨h1, h2, h3, h4, h5, ⟨h6, h7⟩, h8⟩ := h
  refine t_X10_faulty I J b ?_
  rw [h2, h1]
  have e : ∀ s k, ¬ (s = 10 ∧ k = 22) → updI I 10 0 22 (iZ (p : Int)) s 0 k = I s 0 k := fun s k z => by rw [updI_if, if_neg (by omega)]
  exact ifn (by decide) (RVf.mk ⟨rfl, Fr.id.upd (pMd_iff.mpr (by omega)), uI_eq, h8, (e _ _ (by omega)).trans h1, h8, (e _ _ (by omega)).trans h4, (e _ _ (by omega)).trans h6, fun k x hk => (e _ _ (by omega)).trans (h7 k x hk)⟩)
theorem e_faulty_f (hN : tpOK tp) (h : MF I tp f q a) : Call (D + 1) 152 [vr 10 0] (101, I, J, R0 b) (RVf b fun I' J' => J' = J ∧ Fr pMd I I' ∧ MF I' tp f q a) := by
  have hN1 := hN.1
  have h2 := h.2.1
  refine t_X10_faulty I J b ?_
  rw [h.1]
  exact ifp (by rw [i_0]; exact tle (by omega) (by omega) (by omega)) (RVf.mk ⟨rfl, Fr.id, h⟩)
theorem e_step_s {w : Nat} {x y : Int32} (h : MS I tp p o S) (hl : S.length < 130) (hw : tkOK w) (hx : x = iZ (am w : Int)) (hy : y = iZ (wi w : Int)) : Call (D + 1) 153 [vr 10 0, vi x, vi y] (101, I, J, R0 b) (RVf b fun I' J' => J' = J ∧ Fr pMd I I' ∧ MS I' tp p o (S ++ [w])) := by
  obtain ⟨h1, h2, h3, h4, h5, ⟨h6, h7⟩, h8⟩ := h
  have ha := am_all ⟨am w, am_lt hw⟩
  dsimp only at ha
  subst hx
  refine t_X10_addStep _ _ I J b ?_
  have e0 : (130 : Int32) + iZ (S.length : Int) = iZ ((130 + S.length : Nat) : Int) := by
    rw [show (130 : Int32) = iZ 130 from rfl, iZ_add]
    congr 1
  rw [h4, e0, iZ_ck (by omega), iZ_s, ha]
  have hv : vp_in (iZ ((130 + S.length : Nat) : Int)) 260 := vp_iZ (by omega) (by omega) (by omega)
  have e : ∀ s k, ¬ ((s = 54 ∨ s = 55) ∧ k = 130 + S.length) → ¬ (s = 10 ∧ k = 24) → updI (updI (updI I 54 0 (130 + S.length) (iZ (am w : Int))) 55 0 (130 + S.length) y) 10 0 24 (iZ ((S.length + 1 : Nat) : Int)) s 0 k = I s 0 k := fun s k z1 z2 => by rw [updI_if, if_neg (by omega), updI_if, if_neg (by omega), updI_if, if_neg (by omega)]
  refine ⟨hv, hv, RVf.mk ⟨rfl, ((Fr.id.upd (pMd_iff.mpr (by omega))).upd (pMd_iff.mpr (by omega))).upd (pMd_iff.mpr (by omega)), (e _ _ (by omega) (by omega)).trans h1, (e _ _ (by omega) (by omega)).trans h2, (e _ _ (by omega) (by omega)).trans h3, ?_, fun k x hk => ?_, ⟨(e _ _ (by omega) (by omega)).trans h6, fun k x hk => (e _ _ (by omega) (by omega)).trans (h7 k x hk)⟩, h8⟩⟩
  · rw [uI_eq, List.length_append]
    rfl
  · rw [List.getElem?_append] at hk
    split at hk
    · next hlt => exact ⟨(e _ _ (by omega) (by omega)).trans (h5 k x hk).1, (e _ _ (by omega) (by omega)).trans (h5 k x hk).2⟩
    · next hge =>
      have hlt : k - S.length < 1 := by
        rw [List.getElem?_eq_some_iff] at hk
        exact hk.1
      have hk0 : k - S.length = 0 := by omega
      rw [hk0] at hk
      cases hk
      refine ⟨?_, ?_⟩
      · rw [updI_if, if_neg (by omega), updI_if, if_neg (by omega), updI_if, if_pos (by omega)]
      · rw [updI_if, if_neg (by omega), updI_if, if_pos (by omega)]
        exact hy
theorem e_step_f {x y : Int32} (h : MF I tp f q a) (hl : a < 130) : Call (D + 1) 153 [vr 10 0, vi x, vi y] (101, I, J, R0 b) (RVf b fun I' J' => J' = J ∧ Fr pMd I I' ∧ MF I' tp f q (a + 1)) := by
  obtain ⟨h1, h2, h3, h4, h5, h6, h7⟩ := h
  refine t_X10_addStep _ _ I J b ?_
  have e0 : (130 : Int32) + iZ (a : Int) = iZ ((130 + a : Nat) : Int) := by
    rw [show (130 : Int32) = iZ 130 from rfl, iZ_add]
    congr 1
  rw [h5, e0, iZ_ck (by omega), iZ_s]
  have hv : vp_in (iZ ((130 + a : Nat) : Int)) 260 := vp_iZ (by omega) (by omega) (by omega)
  generalize hz : (x.toInt8.toInt32).toInt8.toInt32 = z
  have e : ∀ s k, ¬ (s = 54 ∨ s = 55) → ¬ (s = 10 ∧ k = 24) → updI (updI (updI I 54 0 (130 + a) z) 55 0 (130 + a) y) 10 0 24 (iZ ((a + 1 : Nat) : Int)) s 0 k = I s 0 k := fun s k z1 z2 => by rw [updI_if, if_neg (by omega), updI_if, if_neg (by omega), updI_if, if_neg (by omega)]
  exact ⟨hv, hv, RVf.mk ⟨rfl, ((Fr.id.upd (pMd_iff.mpr (by omega))).upd (pMd_iff.mpr (by omega))).upd (pMd_iff.mpr (by omega)), (e _ _ (by omega) (by omega)).trans h1, h2, (e _ _ (by omega) (by omega)).trans h3, h4, uI_eq, (e _ _ (by omega) (by omega)).trans h6, fun k x hk => (e _ _ (by omega) (by omega)).trans (h7 k x hk)⟩⟩
def nmR (c : Nat) : Int32 := if nmO c < 6 then iZ (nmO c : Int) else -1
theorem p_nm {c : Nat} : Pu (D + 1) 154 [vi (mV c)] I J b (nmR c) := by
  have key : ∀ (k : Nat) (z : Int32), k < 128 → z.toInt = k → nmR k = nmR c ∨ ¬ mV c = z := fun k z hk hz => by
    by_cases h : c = k
    · exact Or.inl (by rw [h])
    · exact Or.inr ((mV_isn hk hz).mpr h)
  refine t_X10_nameOf _ I J b ?_
  refine ift (mV_is (k := 102) (by omega) rfl) (fun h => ⟨by rw [h]; rfl, rfl⟩) (fun h1 => ift (mV_is (k := 103) (by omega) rfl) (fun h => ⟨by rw [h]; rfl, rfl⟩) (fun h2 => ift (mV_is (k := 104) (by omega) rfl) (fun h => ⟨by rw [h]; rfl, rfl⟩) (fun h3 => ift (mV_is (k := 105) (by omega) rfl) (fun h => ⟨by rw [h]; rfl, rfl⟩) (fun _ => ift (mV_is (k := 106) (by omega) rfl) (fun h => ⟨by rw [h]; rfl, rfl⟩) (fun _ => ift (mV_is (k := 107) (by omega) rfl) (fun h => ⟨by rw [h]; rfl, rfl⟩) (fun h4 => ?_))))))
  refine ift (mV_is (k := 108) (by omega) rfl) (fun h => ⟨by rw [h]; rfl, rfl⟩) (fun _ => ift (mV_is (k := 109) (by omega) rfl) (fun h => ⟨by rw [h]; rfl, rfl⟩) (fun _ => ift (mV_is (k := 110) (by omega) rfl) (fun h => ⟨by rw [h]; rfl, rfl⟩) (fun h5 => ift (mV_is (k := 111) (by omega) rfl) (fun h => ⟨by rw [h]; rfl, rfl⟩) (fun _ => ift (mV_is (k := 112) (by omega) rfl) (fun h => ⟨by rw [h]; rfl, rfl⟩) (fun _ => ift (mV_is (k := 113) (by omega) rfl) (fun h => ⟨by rw [h]; rfl, rfl⟩) (fun _ => ?_))))))
  refine ift (mV_is (k := 114) (by omega) rfl) (fun h => ⟨by rw [h]; rfl, rfl⟩) (fun _ => ift (mV_is (k := 115) (by omega) rfl) (fun h => ⟨by rw [h]; rfl, rfl⟩) (fun _ => ift (mV_is (k := 116) (by omega) rfl) (fun h => ⟨by rw [h]; rfl, rfl⟩) (fun _ => ift (mV_is (k := 117) (by omega) rfl) (fun h => ⟨by rw [h]; rfl, rfl⟩) (fun _ => ift (mV_is (k := 118) (by omega) rfl) (fun h => ⟨by rw [h]; rfl, rfl⟩) (fun _ => ift (mV_is (k := 119) (by omega) rfl) (fun h => ⟨by rw [h]; rfl, rfl⟩) (fun h6 => ⟨?_, rfl⟩))))))
  have e : nmO c = 9 := by
    unfold nmO
    rw [if_neg h2, if_neg h6, if_neg h1, if_neg h3, if_neg h5, if_neg h4]
  unfold nmR
  rw [e]
  rfl
theorem e_opens (hN : tpOK tp) (h : MS I tp p o S) (ho : o ≤ 6) (hp : p < tp.length) : Call (D + 2) 155 [vr 10 0] (101, I, J, R0 b) (RIf b fun x I' J' => J' = J ∧ Fr pMd I I' ∧ (o < 6 → x = 1 ∧ MS I' tp (p + 1) (o + 1) S) ∧ (¬ o < 6 → x = 0 ∧ MF I' tp p p S.length)) := by
  have hh := h
  obtain ⟨h1, h2, h3, h4, h5, ⟨h6, h7⟩, h8⟩ := h
  refine t_X10_opens I J b ?_
  rw [h3]
  refine ifs (fun c1 => ?_) (fun c1 => ?_)
  · rw [i_6, iZ_eq (by omega) (by omega) (by omega) (by omega)] at c1
    have hm := (hh.op (o' := o + 1) (z := iZ (o : Int) + (1 : Int32)) (by rw [iZ_s])).go hp
    rw [updI_if, if_neg (by omega)] at hm
    refine RIf.mk ⟨rfl, (Fr.id.upd (pMd_iff.mpr (by omega))).upd (pMd_iff.mpr (by omega)), fun _ => ⟨rfl, hm⟩, fun z => absurd z (by omega)⟩
  · have c1 := Classical.not_not.mp c1
    rw [i_6, iZ_eq (by omega) (by omega) (by omega) (by omega)] at c1
    refine (e_faulty_s (D := D) hN hh).mono ?_
    rintro r h ⟨I1, J1, rfl, rfl, rfl, hf, hm⟩
    exact RVf.mk (RIf.mk ⟨rfl, hf, fun z => absurd z (by omega), fun _ => ⟨rfl, hm⟩⟩)
theorem inD {c : Nat} : inB (mV c) 48 57 = isDg c := by
  have hb := mvI_b c
  have ht := mV_toInt c
  cases hd : isDg c
  · exact inB_no (l := 48) (h := 57) rfl rfl (fun z => by
      have : ¬ (48 ≤ c ∧ c ≤ 57) := of_decide_eq_false hd
      omega)
  · exact inB_of (l := 48) (h := 57) rfl rfl (by
      have : 48 ≤ c ∧ c ≤ 57 := of_decide_eq_true hd
      omega)
/-- a figure -/
def fgE (tp : List Nat) (p : Nat) (q : Nat) (u : Nat) : Rs := if isDg (chT tp q) then .inl q else .inr (q, [1000 + u])
theorem am_lit {v : Nat} (hv : v ≤ 9999) : tkOK (1000 + v) ∧ am (1000 + v) = 1 ∧ wi (1000 + v) = v := by
  refine ⟨Or.inl ⟨by omega, by omega⟩, ?_, ?_⟩
  · unfold am
    rw [if_pos (by omega)]
  · unfold wi
    rw [if_pos (by omega)]
    omega
theorem w_fig {p0 : Nat} {I0 : IM} (hN : tpOK tp) (hl9 : S.length ≤ p0) : ∀ (m l v p : Nat) (I : IM), m + l = 4 → v < 10 ^ l → p0 ≤ p → (l = 0 → p = p0) → MS I tp p o S → Fr pMd I0 I → WP (D + 2) 156 4 [vr 10 0, vi (iZ (v : Int)), vi (iZ (l : Int))] [] (101, I, J, R0 b) (RVf b fun I' J' => J' = J ∧ Fr pMd I0 I' ∧ MPQ I' tp p0 o S (if l = 0 ∧ isDg (chT tp p) = false then .inl p0 else fgE tp p (nuE tp m p v).1 (nuE tp m p v).2)) := by
  have hN1 := hN.1
  -- at the end of the figure
  have hE1 : ∀ (v p : Nat) (I : IM), v ≤ 9999 → p0 ≤ p → MS I tp p o S → Fr pMd I0 I → Call (D + 2) 151 [vr 10 0] (101, I, J, R0 b) (RIf b fun x7 I8 J9 => Call (D + 2) 135 [vi x7, vi 48, vi 57] (101, I8, J9, R0 b) (RIf b fun x10 I11 J12 => (if x10 = 0 then Call (D + 2) 153 [vr 10 0, vi 1, vi (iZ (v : Int))] (101, I11, J12, R0 b) (RVf b fun I14 J15 => (RVf b fun I' J' => J' = J ∧ Fr pMd I0 I' ∧ MPQ I' tp p0 o S (fgE tp p p v)) none (101, I14, J15, R0 b)) else Call (D + 2) 152 [vr 10 0] (101, I11, J12, R0 b) (RVf b fun I17 J18 => Call (D + 2) 153 [vr 10 0, vi 1, vi (iZ (v : Int))] (101, I17, J18, R0 b) (RVf b fun I20 J21 => (RVf b fun I' J' => J' = J ∧ Fr pMd I0 I' ∧ MPQ I' tp p0 o S (fgE tp p p v)) none (101, I20, J21, R0 b)))))) := fun v p I hv hp hS hF => by
    have hpN := hS.2.2.2.2.2.2
    obtain ⟨a1, a2, a3⟩ := am_lit hv
    refine (p_look_s (D := D + 1) hN hS).use ((p_M_in (D := D + 1) _ 48 57).use ?_)
    rw [inD]
    cases hd : isDg (chT tp p)
    · refine ifp rfl ((e_step_s (D := D + 1) (w := 1000 + v) hS (by omega) a1 (by rw [a2]; rfl) (by rw [a3])).mono ?_)
      rintro r h ⟨I1, J1, rfl, rfl, rfl, hf, hm⟩
      refine RVf.mk (RVf.mk ⟨rfl, hF.tr hf, ?_⟩)
      unfold fgE
      rw [hd]
      exact hm
    · refine ifn (by decide) ((e_faulty_s (D := D + 1) hN hS).mono ?_)
      rintro r h ⟨I1, J1, rfl, rfl, rfl, hf, hm⟩
      refine RVf.mk ((e_step_f (D := D + 1) hm (by omega)).mono ?_)
      rintro r h ⟨I2, J2, rfl, rfl, rfl, hf2, hm2⟩
      refine RVf.mk (RVf.mk ⟨rfl, (hF.tr hf).tr hf2, ?_⟩)
      unfold fgE
      rw [hd]
      exact ⟨p, S.length + 1, hp, by omega, hm2⟩
  intro m
  induction m with
  | zero =>
    intro l v p I hl hv hp hl0 hS hF
    have : l = 4 := by omega
    subst this
    have hv : v < 10000 := hv
    refine t_X10_figure_4 _ _ I J b (ifp (by decide) (ifn (by decide) ?_))
    rw [if_neg (by rintro ⟨z, _⟩; omega)]
    exact hE1 v p I (by omega) hp hS hF
  | succ m ih =>
    intro l v p I hl hv hp hl0 hS hF
    have hl3 : l ≤ 3 := by omega
    have hv9 : v < 1000 := Nat.lt_of_lt_of_le hv (Nat.pow_le_pow_right (by omega) hl3)
    refine t_X10_figure_4 _ _ I J b (ifn (by rw [show (4 : Int32) = iZ 4 from rfl]; exact nle (by omega) (by omega) (by omega)) ?_)
    refine (p_look_s (D := D + 1) hN hS).use ((p_M_in (D := D + 1) _ 48 57).use ?_)
    rw [inD]
    cases hd : isDg (chT tp p)
    · have e : nuE tp (m + 1) p v = (p, v) := by
        unfold nuE
        rw [if_neg (by rw [hd]; decide)]
      rw [e]
      refine ifp rfl (ifs (fun c1 => ?_) (fun c1 => ?_))
      · rw [i_0, iZ_eq (by omega) (by omega) (by omega) (by omega)] at c1
        have hl0' : l = 0 := by omega
        have hpp := hl0 hl0'
        subst hpp
        rw [if_pos ⟨hl0', rfl⟩]
        refine (e_faulty_s (D := D + 1) hN hS).mono ?_
        rintro r h ⟨I1, J1, rfl, rfl, rfl, hf, hm⟩
        refine RVf.mk ((e_step_f (D := D + 1) hm (by have := hS.2.2.2.2.2.2; omega)).mono ?_)
        rintro r h ⟨I2, J2, rfl, rfl, rfl, hf2, hm2⟩
        exact RVf.mk (RVf.mk ⟨rfl, (hF.tr hf).tr hf2, p, S.length + 1, Nat.le_refl _, by omega, hm2⟩)
      · rw [i_0, iZ_eq (by omega) (by omega) (by omega) (by omega)] at c1
        rw [if_neg (by rintro ⟨z, _⟩; omega)]
        exact hE1 v p I (by omega) hp hS hF
    · have hc : 48 ≤ chT tp p ∧ chT tp p ≤ 57 := of_decide_eq_true hd
      have hlt := chT_lt (tp := tp) (p := p) (by omega)
      have e : nuE tp (m + 1) p v = nuE tp m (p + 1) (10 * v + (chT tp p - 48)) := by
        conv => lhs; unfold nuE
        rw [if_pos hd]
      have ev : (10 : Int32) * iZ (v : Int) + mV (chT tp p) - (48 : Int32) = iZ ((10 * v + (chT tp p - 48) : Nat) : Int) := by
        have hm : mV (chT tp p) = iZ (chT tp p : Int) := by
          unfold mV mvI
          rw [if_pos (by omega)]
        rw [i_10, hm, show (48 : Int32) = iZ 48 from rfl, iZ_mul, iZ_add, iZ_sub]
        congr 1
        omega
      refine ifn (by decide) ((p_look_s (D := D + 1) hN hS).use ?_)
      rw [ev, iZ_s, if_neg (by simp), e]
      have := ih (l + 1) (10 * v + (chT tp p - 48)) (p + 1) _ (by omega) (by rw [Nat.pow_succ]; omega) (by omega) (by omega) (hS.go hlt) (hF.tr pMd_go)
      rw [if_neg (by rintro ⟨z, _⟩; omega)] at this
      exact this
theorem e_fig (hN : tpOK tp) (hS : MS I tp p o S) (hl9 : S.length ≤ p) : Call (D + 3) 156 [vr 10 0] (101, I, J, R0 b) (RVf b fun I' J' => J' = J ∧ Fr pMd I I' ∧ MPQ I' tp p o S (if isDg (chT tp p) = false then .inl p else fgE tp p (nuE tp 4 p 0).1 (nuE tp 4 p 0).2)) := by
  have := w_fig (D := D) (J := J) (b := b) (I0 := I) hN hl9 4 0 0 p I (by omega) (by omega) (Nat.le_refl _) (fun _ => rfl) hS Fr.id
  refine t_X10_figure I J b (WP.mono this ?_)
  rintro r h ⟨I1, J1, rfl, rfl, rfl, hf, hm⟩
  refine RVf.mk ⟨rfl, hf, ?_⟩
  cases hd : isDg (chT tp p)
  · rw [hd, if_pos ⟨rfl, rfl⟩] at hm
    rw [if_pos rfl]
    exact hm
  · rw [hd, if_neg (by simp)] at hm
    rw [if_neg (by simp)]
    exact hm
end PARM
