/-! OPS IN THOUGHT: order, done, byHand -/
theorem lackO_no {sh : Nat → Sh} {x : Int32} {so : Nat} (h : ¬ (0 ≤ x.toInt ∧ x.toInt < 6)) : lackO sh x so = -1 := by unfold lackO; rw [if_neg h]
theorem lackO_s {sh : Nat → Sh} {s so : Nat} (hs : s < 6) : lackO sh (iZ (s : Int)) so = lackV (sh s) so := by
  unfold lackO
  rw [iZ_toInt (by omega) (by omega), if_pos (by omega), Int.toNat_natCast]
theorem sh_ex {x : Int32} (h : 0 ≤ x.toInt ∧ x.toInt < 6) : ∃ s : Nat, s < 6 ∧ x = iZ (s : Int) := ⟨x.toInt.toNat, by omega, by
  rw [show ((x.toInt.toNat : Nat) : Int) = x.toInt by omega, iZ_self]⟩
def aPl (g : Sg) (x : Int32) (f : List Nat → Int32) : Int32 := if lackO (gS g) x 0 = 0 then f (plan (gN g) (gS g x.toInt.toNat)) else lackO (gS g) x 0
theorem aPl_no {g : Sg} {x : Int32} {f : List Nat → Int32} (h : ¬ (0 ≤ x.toInt ∧ x.toInt < 6)) : aPl g x f = -1 := by
  unfold aPl
  rw [lackO_no h, if_neg (by decide)]
section OPA
variable {D : Nat} {g : Sg} {c : Nat} {I : IM} {J : JM} {b : Bool}
theorem c_plan {x v : Int32} {A : IM → JM → Prop} {f : List Nat → Int32} (hX : XR g I J b) (hO : SOK g c) (hv : v = aPl g x f) (K : ∀ L I', L.Nodup → (∀ j ∈ L, j < gN g) → v = f L → Fr pCt I I' → XR g I' J b → PlC I' L → A I' J) : Call (D + 2) 127 [vr 9 0, vi x] (101, I, J, R0 b) (RIf b fun x1 I2 J3 => (if x1 = 0 then A I2 J3 else RIf b (fun z I' J' => z = v ∧ J' = J ∧ Fr pCt I I') (some (vi x1)) (101, I2, J3, R0 b))) := by
  refine (e_readPlan hX.1.1 hO.1.1 (hX.sh hO)).useI ?_
  rintro y I1 J1 ⟨rfl, rfl, hf, hL⟩
  unfold aPl at hv
  refine ifs (fun h => ?_) (fun h => ?_)
  · rw [if_pos h] at hv
    obtain ⟨h1, h2⟩ := plan_ok (gN g) (gS g x.toInt.toNat)
    exact K _ I1 h1 h2 hv (pPl_ct hf) (hX.fr (pPl_ct hf)) (hL h)
  · rw [if_neg h] at hv
    exact RIf.tx hv.symm (pPl_ct hf)
theorem m_plan {s : Nat} {v : Int32} {A : IM → JM → Prop} {f : List Nat → Int32} (hM : MR g I J) (hO : SOK g c) (hs : s < 6) (hv : v = aPl g (iZ (s : Int)) f) (K : ∀ I', sK (gS g s) = 2 → v = f (plan (gN g) (gS g s)) → Fr pTh I I' → MR g I' J → PlM I' (plan (gN g) (gS g s)) → A I' J) : Call (D + 4) 187 [vr 10 0, vi (iZ (s : Int))] (101, I, J, R0 b) (RIf b fun x7 I8 J9 => (if 0 ≤ x7 then A I8 J9 else RIf b (fun z I' J' => z = v ∧ J' = J ∧ Fr pTh I I') (some (vi x7)) (101, I8, J9, R0 b))) := by
  refine (e_layOr hs hO.1.1 (hO.2.2.2.1 s hs).1 hM.bn.1 (hM.sh s hs)).useI ?_
  rintro y I1 J1 ⟨rfl, rfl, hf, hL⟩
  unfold aPl at hv
  rw [lackO_s hs, iZ_toInt (by omega) (by omega), Int.toNat_natCast] at hv
  rcases lackV_cases (gS g s) 0 with h | h | ⟨h, h2, h3⟩
  · rw [h] at hv hL ⊢
    rw [if_neg (by decide)] at hv
    exact ifn (by decide) (RIf.tm hv.symm (pLm_th hf))
  · rw [h] at hv hL ⊢
    rw [if_neg (by decide)] at hv
    exact ifn (by decide) (RIf.tm hv.symm (pLm_th hf))
  · rw [h] at hv hL ⊢
    rw [if_pos rfl] at hv
    exact ifp (by decide) (K I1 h2 hv (pLm_th hf) (hM.fr (pLm_th hf)) (hL rfl))
theorem inB_f {x lo hi : Int32} (h : inB x lo hi = false) : x < lo ∨ hi < x := by
  unfold inB at h
  rw [Bool.and_eq_false_iff, decide_eq_false_iff_not, decide_eq_false_iff_not] at h
  rcases h with h | h
  · exact Or.inl (Int32.not_le.mp h)
  · exact Or.inr (Int32.not_le.mp h)
theorem inB_t {x lo hi : Int32} (h : inB x lo hi = true) : ¬ x < lo ∧ ¬ hi < x := by
  unfold inB at h
  rw [Bool.and_eq_true, decide_eq_true_eq, decide_eq_true_eq] at h
  exact ⟨Int32.not_lt.mpr h.1, Int32.not_lt.mpr h.2⟩
theorem in01 {x : Int32} (h : inB x 0 1 = true) : x = 0 ∨ x = 1 := by
  obtain ⟨v, rfl, v1, v2⟩ := iZ_ex x
  obtain ⟨h1, h2⟩ := inB_t h
  rw [i_0, iZ_lt (by omega) (by omega) (by omega) (by omega)] at h1
  rw [i_1, iZ_lt (by omega) (by omega) (by omega) (by omega)] at h2
  rcases (show v = 0 ∨ v = 1 by omega) with rfl | rfl
  · exact Or.inl rfl
  · exact Or.inr rfl
theorem in02 {x : Int32} (h1 : ¬ x < 0) (h2 : ¬ (2 : Int32) < x) : x = 0 ∨ x = 1 ∨ x = 2 := by
  obtain ⟨v, rfl, v1, v2⟩ := iZ_ex x
  rw [i_0, iZ_lt (by omega) (by omega) (by omega) (by omega)] at h1
  rw [i_2, iZ_lt (by omega) (by omega) (by omega) (by omega)] at h2
  rcases (show v = 0 ∨ v = 1 ∨ v = 2 by omega) with rfl | rfl | rfl
  · exact Or.inl rfl
  · exact Or.inr (Or.inl rfl)
  · exact Or.inr (Or.inr rfl)
def fOrder (P : Pa) (k w : Int32) (L : List Nat) : Int32 := match (goL P L)[k.toInt.toNat]? with
  | none => -2
  | some e => iZ ((if w = 0 then xg e else if w = 1 then xf e else xs e : Nat) : Int)
def aOrder (x k w : Int32) (g : Sg) : Int32 := if k < 0 ∨ w < 0 ∨ 2 < w then -1 else aPl g x (fOrder (parS g) k w)
theorem aOrder_n {x k w : Int32} (h : k < 0 ∨ w < 0 ∨ 2 < w) : aOrder x k w g = -1 := by unfold aOrder; rw [if_pos h]
theorem aOrder_y {x k w : Int32} (h1 : ¬ k < 0) (h2 : ¬ w < 0) (h3 : ¬ (2 : Int32) < w) : aOrder x k w g = aPl g x (fOrder (parS g) k w) := by
  unfold aOrder
  rw [if_neg (by
    rintro (z | z | z)
    · exact h1 z
    · exact h2 z
    · exact h3 z)]
theorem cX_order {x k w : Int32} (hX : XR g I J b) (hO : SOK g c) : TX (D + 9) 87 [vr 9 0, vi x, vi k, vi w] I J b (aOrder x k w g) := by
  refine t_X9_order _ _ _ I J b ?_
  refine ifs (fun h1 => ?_) (fun h1 => ifs (fun h2 => ?_) (fun h2 => ifs (fun h3 => ?_) (fun h3 => ?_)))
  · exact RIf.tx (aOrder_n (Or.inl h1)).symm Fr.id
  · exact RIf.tx (aOrder_n (Or.inr (Or.inl h2))).symm Fr.id
  · have hw := in02 h2 (Int32.not_lt.mpr h3)
    refine c_plan hX hO (aOrder_y h1 h2 (Int32.not_lt.mpr h3)) (fun L I1 hN hn hv hf1 hX1 hL1 => ?_)
    rw [hv]
    refine c_ot hX1 hO hL1 hN hn (fun I2 hf2 hX2 hW2 hL2 hS2 hB2 => ?_)
    obtain ⟨hG, g1, g2, g3, g4, g5, g6⟩ := goL_ok (parS_ok hO) hN hn
    have hff := hf1.tr hf2
    obtain ⟨kv, rfl, k1, k2⟩ := iZ_ex k
    rw [i_0, iZ_lt (by omega) (by omega) (by omega) (by omega)] at h1
    unfold fOrder
    rw [iZ_toInt k1 k2, iZ_cn (by omega) k2]
    refine ifs (fun h4 => ?_) (fun h4 => ?_)
    · rw [iZ_lt (by omega) (by omega) (by omega) (by omega)] at h4
      obtain ⟨e, he⟩ : ∃ e, (goL (parS g) L)[kv.toNat]? = some e := ⟨_, List.getElem?_eq_getElem (by omega)⟩
      obtain ⟨_, e2, e3, e4, _⟩ := hW2.2.2.2.2.2.1 _ _ he
      rw [he, e2, e3, e4]
      have hvv : vp_in (iZ kv) 35 := vp_iZ (by omega) (by omega) (by omega)
      rcases hw with rfl | rfl | rfl
      · exact ifn (fun z => z rfl) ⟨hvv, RIf.tx rfl hff⟩
      · exact ifp (by decide) (ifn (fun z => z rfl) ⟨hvv, RIf.tx rfl hff⟩)
      · exact ifp (by decide) (ifp (by decide) ⟨hvv, RIf.tx rfl hff⟩)
    · rw [iZ_lt (by omega) (by omega) (by omega) (by omega)] at h4
      rw [List.getElem?_eq_none (by omega)]
      exact RIf.tx rfl hff
  · exact RIf.tx (aOrder_n (Or.inr (Or.inr (Int32.not_le.mp h3)))).symm Fr.id
theorem cM_order {x k w : Int32} (hM : MR g I J) (hO : SOK g c) : TM (D + 9) 188 [vr 10 0, vi x, vi k, vi w] I J b (aOrder x k w g) := by
  refine t_X10_order _ _ _ I J b ?_
  refine (p_M_isShelf x).use ?_
  rw [inB_05]
  by_cases hx : 0 ≤ x.toInt ∧ x.toInt < 6
  · rw [decide_eq_true hx]
    obtain ⟨s, hs, rfl⟩ := sh_ex hx
    refine ifn (by decide) (ifs (fun h1 => ?_) (fun h1 => ?_))
    · exact RIf.tm (aOrder_n (Or.inl h1)).symm Fr.id
    · refine (p_M_in w 0 2).use ?_
      cases hw : inB w 0 2
      · exact ifn (fun z => z rfl) (RIf.tm (aOrder_n (Or.inr (inB_f hw))).symm Fr.id)
      · obtain ⟨w1, w2⟩ := inB_t hw
        have hw := in02 w1 w2
        refine ifp (by decide) ?_
        refine m_plan hM hO hs (aOrder_y h1 w1 w2) (fun I1 hk hv hf1 hM1 hL1 => ?_)
        rw [hv]
        obtain ⟨hN, hn⟩ := plan_ok (gN g) (gS g s)
        refine m_go hM1 hO hL1 hN hn (fun I2 hf2 hM2 hH2 hX2 h49 hL2 => ?_)
        obtain ⟨hG, g1, g2, g3, g4, g5, g6⟩ := goL_ok (parS_ok hO) hN hn
        have hff := hf1.tr (pGf_sub hf2)
        obtain ⟨kv, rfl, k1, k2⟩ := iZ_ex k
        rw [i_0, iZ_lt (by omega) (by omega) (by omega) (by omega)] at h1
        unfold fOrder
        rw [iZ_toInt k1 k2, iZ_cn (by omega) k2, h49]
        refine ifs (fun h4 => ?_) (fun h4 => ?_)
        · rw [iZ_lt (by omega) (by omega) (by omega) (by omega)] at h4
          obtain ⟨e, he⟩ : ∃ e, (goL (parS g) (plan (gN g) (gS g s)))[kv.toNat]? = some e := ⟨_, List.getElem?_eq_getElem (by omega)⟩
          have hem := List.mem_of_getElem? he
          have hxj : xj e < gN g := g3 e hem
          have hn7 := hO.1.1
          obtain ⟨x1, x2, x3⟩ := hX2.1 e (by simpa using hem)
          have h66 := (hH2.2.2.2 e (by simpa using hem)).ex (P := parS g) rfl (hG.1 e hem) hG.2
          rw [he, hL2.2 _ _ (goL_at (parS_ok hO) hN hn he), iZ_ck (by omega), x1, x2, h66]
          have hv1 : vp_in (iZ kv) 7 := vp_iZ (by omega) (by omega) (by omega)
          have hv2 : vp_in (iZ (xj e : Int)) 7 := vp_iZ (by omega) (by omega) (by omega)
          rcases hw with rfl | rfl | rfl
          · exact ifn (fun z => z rfl) ⟨hv1, hv2, RIf.tm rfl hff⟩
          · exact ifp (by decide) (ifn (fun z => z rfl) ⟨hv1, hv2, RIf.tm rfl hff⟩)
          · exact ifp (by decide) (ifp (by decide) ⟨hv1, hv2, RIf.tm rfl hff⟩)
        · rw [iZ_lt (by omega) (by omega) (by omega) (by omega)] at h4
          rw [List.getElem?_eq_none (by omega)]
          exact RIf.tm rfl hff
  · rw [decide_eq_false hx]
    refine ifp rfl (RIf.tm ?_ Fr.id)
    unfold aOrder
    split
    · rfl
    · rw [aPl_no hx]
theorem op_order (x k w : Int32) : Op 87 188 [vi x, vi k, vi w] := Op.th (aOrder x k w) (fun g c I J b hX hO => cX_order (D := 891) hX hO) (fun g c I J b hM hO => cM_order (D := 891) hM hO)
def aDone (x w : Int32) (g : Sg) : Int32 := if inB w 0 1 = false then -1 else aPl g x (fun L => if w = 0 then iZ ((goL (parS g) L).length : Int) else iZ (ltE (goL (parS g) L) : Int))
theorem aDone_n {x w : Int32} (h : inB w 0 1 = false) : aDone x w g = -1 := by unfold aDone; rw [if_pos h]
theorem aDone_y {x w : Int32} (h : inB w 0 1 = true) : aDone x w g = aPl g x (fun L => if w = 0 then iZ ((goL (parS g) L).length : Int) else iZ (ltE (goL (parS g) L) : Int)) := by
  unfold aDone
  rw [if_neg (by rw [h]; decide)]
theorem cX_done {x w : Int32} (hX : XR g I J b) (hO : SOK g c) : TX (D + 9) 88 [vr 9 0, vi x, vi w] I J b (aDone x w g) := by
  refine t_X9_done _ _ I J b ?_
  refine (p_X_isZeroOrOne w).use ?_
  cases hw : inB w 0 1
  · exact ifn (fun z => z rfl) (RIf.tx (aDone_n hw).symm Fr.id)
  · refine ifp (by decide) ?_
    refine c_plan hX hO (aDone_y hw) (fun L I1 hN hn hv hf1 hX1 hL1 => ?_)
    rw [hv]
    refine c_ot hX1 hO hL1 hN hn (fun I2 hf2 hX2 hW2 hL2 hS2 hB2 => ?_)
    obtain ⟨hG, _⟩ := goL_ok (parS_ok hO) hN hn
    rcases in01 hw with rfl | rfl
    · exact ifn (fun z => z rfl) (RIf.tx rfl (hf1.tr hf2))
    · refine ifp (by decide) ?_
      exact (p_latest hW2 (fun e he => hG.xle he)).use (RIf.tx rfl (hf1.tr hf2))
theorem cM_done {x w : Int32} (hM : MR g I J) (hO : SOK g c) : TM (D + 9) 189 [vr 10 0, vi x, vi w] I J b (aDone x w g) := by
  refine t_X10_done _ _ I J b ?_
  refine (p_M_isShelf x).use ?_
  rw [inB_05]
  by_cases hx : 0 ≤ x.toInt ∧ x.toInt < 6
  · rw [decide_eq_true hx]
    obtain ⟨s, hs, rfl⟩ := sh_ex hx
    refine ifn (by decide) ?_
    refine (p_M_in w 0 1).use ?_
    cases hw : inB w 0 1
    · exact ifn (fun z => z rfl) (RIf.tm (aDone_n hw).symm Fr.id)
    · refine ifp (by decide) ?_
      refine m_plan hM hO hs (aDone_y hw) (fun I1 hk hv hf1 hM1 hL1 => ?_)
      rw [hv]
      obtain ⟨hN, hn⟩ := plan_ok (gN g) (gS g s)
      refine m_go hM1 hO hL1 hN hn (fun I2 hf2 hM2 hH2 hX2 h49 hL2 => ?_)
      obtain ⟨hG, g1, g2, g3, _⟩ := goL_ok (parS_ok hO) hN hn
      have hff := hf1.tr (pGf_sub hf2)
      rcases in01 hw with rfl | rfl
      · exact ifn (fun z => z rfl) (RIf.tm h49 hff)
      · refine ifp (by decide) ?_
        obtain ⟨a, _, ha, hp⟩ := p_doneNow (D := D + 7) (J := J) (b := b) hH2 (hM2.mb hO) (parS_ok hO) hG g3
        refine hp.use (RIf.tm ?_ hff)
        rw [ha rfl]
        rfl
  · rw [decide_eq_false hx]
    refine ifp rfl (RIf.tm ?_ Fr.id)
    unfold aDone
    split
    · rfl
    · rw [aPl_no hx]
theorem op_done (x w : Int32) : Op 88 189 [vi x, vi w] := Op.th (aDone x w) (fun g c I J b hX hO => cX_done (D := 891) hX hO) (fun g c I J b hM hO => cM_done (D := 891) hM hO)
def aByHand (x w : Int32) (g : Sg) : Int32 := if inB w 0 1 = false then -1 else aPl g x (fun L => if w = 0 then iZ (hbF (goL (parS g) L) 0 : Int) else iZ (mC (goL (parS g) L) : Int))
theorem aByHand_n {x w : Int32} (h : inB w 0 1 = false) : aByHand x w g = -1 := by unfold aByHand; rw [if_pos h]
theorem aByHand_y {x w : Int32} (h : inB w 0 1 = true) : aByHand x w g = aPl g x (fun L => if w = 0 then iZ (hbF (goL (parS g) L) 0 : Int) else iZ (mC (goL (parS g) L) : Int)) := by
  unfold aByHand
  rw [if_neg (by rw [h]; decide)]
theorem cX_byHand {x w : Int32} (hX : XR g I J b) (hO : SOK g c) : TX (D + 9) 102 [vr 9 0, vi x, vi w] I J b (aByHand x w g) := by
  refine t_X9_byHand _ _ I J b ?_
  refine (p_X_isZeroOrOne w).use ?_
  cases hw : inB w 0 1
  · exact ifn (fun z => z rfl) (RIf.tx (aByHand_n hw).symm Fr.id)
  · refine ifp (by decide) ?_
    refine c_plan hX hO (aByHand_y hw) (fun L I1 hN hn hv hf1 hX1 hL1 => ?_)
    rw [hv]
    refine c_ot hX1 hO hL1 hN hn (fun I2 hf2 hX2 hW2 hL2 hS2 hB2 => ?_)
    obtain ⟨hG, _⟩ := goL_ok (parS_ok hO) hN hn
    rcases in01 hw with rfl | rfl
    · refine ifn (fun z => z rfl) ?_
      refine (p_heldByHands hW2 (fun e he => (hG.1 e he).1) (fun e he => (hG.1 e he).2.2.2.2.1)).use (RIf.tx ?_ (hf1.tr hf2))
      simp
    · refine ifp (by decide) ?_
      refine (p_clampsAtOnce hW2 (fun e he => hG.xle he) (fun e he => ?_) (fun e he => (hG.1 e he).2.2.2.2.2)).use (RIf.tx rfl (hf1.tr hf2))
      have := (hG.1 e he).2.2.1
      have := hG.2
      omega
theorem cM_byHand {x w : Int32} (hM : MR g I J) (hO : SOK g c) : TM (D + 9) 210 [vr 10 0, vi x, vi w] I J b (aByHand x w g) := by
  refine t_X10_byHand _ _ I J b ?_
  refine (p_M_isShelf x).use ?_
  rw [inB_05]
  by_cases hx : 0 ≤ x.toInt ∧ x.toInt < 6
  · rw [decide_eq_true hx]
    obtain ⟨s, hs, rfl⟩ := sh_ex hx
    refine ifn (by decide) ?_
    refine (p_M_in w 0 1).use ?_
    cases hw : inB w 0 1
    · exact ifn (fun z => z rfl) (RIf.tm (aByHand_n hw).symm Fr.id)
    · refine ifp (by decide) ?_
      refine m_plan hM hO hs (aByHand_y hw) (fun I1 hk hv hf1 hM1 hL1 => ?_)
      rw [hv]
      obtain ⟨hN, hn⟩ := plan_ok (gN g) (gS g s)
      refine m_go hM1 hO hL1 hN hn (fun I2 hf2 hM2 hH2 hX2 h49 hL2 => ?_)
      obtain ⟨hG, g1, g2, g3, g4, g5, g6⟩ := goL_ok (parS_ok hO) hN hn
      have hff := hf1.tr (pGf_sub hf2)
      rcases in01 hw with rfl | rfl
      · refine ifp (by decide) ?_
        refine (w_byHand (D := D + 8) (J := J) (b := b) hX2 hL2 (fun k e he => goL_at (parS_ok hO) hN hn he) h49 g5 (fun e he => (hG.1 e he).1) _ 0 0 _ (by omega) rfl (by omega) rfl).mono ?_
        rintro r h ⟨rfl, rfl⟩
        exact RIf.tm (by simp) hff
      · exact ifn (fun z => z rfl) (RIf.tm hX2.2 hff)
  · rw [decide_eq_false hx]
    refine ifp rfl (RIf.tm ?_ Fr.id)
    unfold aByHand
    split
    · rfl
    · rw [aPl_no hx]
theorem op_byHand (x w : Int32) : Op 102 210 [vi x, vi w] := Op.th (aByHand x w) (fun g c I J b hX hO => cX_byHand (D := 891) hX hO) (fun g c I J b hM hO => cM_byHand (D := 891) hM hO)
end OPA
