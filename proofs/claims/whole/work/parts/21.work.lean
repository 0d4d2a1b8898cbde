/-! THE CLASS'S WORK: what it reads -/
def WkR (w r : Nat) (I : IM) : Prop := LENf 30 w = r ∧ LENf 31 w = r ∧ LENf 32 w = r ∧ LENf 33 w = r ∧ LENf 34 w = r ∧ LENf 35 w = r ∧ I 8 w 2 = iZ (r : Int) ∧ r ≤ 35
def EnAt (w : Nat) (I : IM) (E : List En) : Prop := ∀ (k : Nat) (e : En), E[k]? = some e → I 30 w k = iZ (xj e : Int) ∧ I 31 w k = iZ (xg e : Int) ∧ I 32 w k = iZ (xf e : Int) ∧ I 33 w k = iZ (xs e : Int) ∧ I 34 w k = iZ (xh e : Int) ∧ I 35 w k = iZ (xc e : Int)
def WkAt (w r : Nat) (I : IM) (E : List En) (f nw : Nat) : Prop := WkR w r I ∧ I 8 w 10 = iZ (E.length : Int) ∧ I 8 w 9 = iZ (f : Int) ∧ I 8 w 11 = iZ (bs (E.drop f) : Int) ∧ I 8 w 12 = iZ (nw : Int) ∧ EnAt w I E ∧ E.length ≤ r ∧ f ≤ E.length
def BeAt (I : IM) (P : Pa) : Prop := I 1 0 1 = iZ (pn P : Int) ∧ ∀ j q, j < pn P → q < 6 → I 20 0 (6 * j + q) = iZ (pT P j q : Int)
def ShAt (I : IM) (P : Pa) : Prop := I 7 0 3 = iZ (pH P : Int) ∧ I 7 0 4 = iZ (pC P : Int) ∧ I 7 0 5 = bI (pN P) ∧ ∀ j n, j < pn P → n < pn P → I 29 0 (8 * j + n) = iZ (pM P j n : Int)
section WORK
variable {D w r f nw m : Nat} {I : IM} {J : JM} {b : Bool} {E : List En} {P : Pa}
theorem p_numberOf {j q : Nat} {x : Int32} (hx : x = iZ (q : Int)) (hj : j < 7) (hq : q < 6) : Pu (D + 1) 11 [vr 1 0, vi (iZ (j : Int)), vi x] I J b (I 20 0 (6 * j + q)) := by
  subst hx
  refine t_X1_numberOf _ _ I J b ?_
  have e1 : iZ (j : Int) * 6 + iZ (q : Int) = iZ ((6 * j + q : Nat) : Int) := by
    rw [i_6, iZ_mul, iZ_add]
    congr 1
    omega
  rw [e1, i_0, i_42]
  refine ifn (nlt (by omega) (by omega) (by omega)) (ifn (nle (by omega) (by omega) (by omega)) ⟨vp_iZ (by omega) (by omega) (by omega), ?_, rfl⟩)
  rw [iZ_ck (by omega)]
theorem p_num {j q : Nat} {x : Int32} (hB : BeAt I P) (hP : PaOK P) (hx : x = iZ (q : Int)) (hj : j < pn P) (hq : q < 6) : Pu (D + 1) 11 [vr 1 0, vi (iZ (j : Int)), vi x] I J b (iZ (pT P j q : Int)) :=
  (p_numberOf hx (by have := hP.1; omega) hq).eq (hB.2 j q hj hq)
theorem p_isKnown {j n : Nat} (hj : j < 7) (hn : n < 8) : Pu (D + 1) 58 [vi (iZ (j : Int)), vi (iZ (n : Int))] I J b 1 := by
  refine t_X7_isKnown _ _ I J b ?_
  rw [i_0, i_7, i_8]
  exact ifn (nlt (by omega) (by omega) (by omega)) (ifn (nle (by omega) (by omega) (by omega)) (ifn (nlt (by omega) (by omega) (by omega)) (ifn (nle (by omega) (by omega) (by omega)) ⟨rfl, rfl⟩)))
theorem p_minutesOf {j n : Nat} (hS : ShAt I P) (hP : PaOK P) (hj : j < pn P) (hn : n < pn P) : Pu (D + 2) 57 [vr 7 0, vi (iZ (j : Int)), vi (iZ (n : Int))] I J b (iZ (pM P j n : Int)) := by
  have h7 := hP.1
  refine t_X7_minutesOf _ _ I J b ?_
  refine (p_isKnown (by omega) (by omega)).use ?_
  have e1 : iZ (j : Int) * 8 + iZ (n : Int) = iZ ((8 * j + n : Nat) : Int) := by
    rw [i_8, iZ_mul, iZ_add]
    congr 1
    omega
  rw [e1]
  refine ifn (by decide) ⟨vp_iZ (by omega) (by omega) (by omega), ?_, rfl⟩
  rw [iZ_ck (by omega), hS.2.2.2 j n hj hn]
theorem w_handsFree (hW : WkAt w r I E f nw) (hx : ∀ e ∈ E, xs e ≤ 1000000) (hm : m ≤ 1100000) : ∀ (T : List En) (k : Nat) (a : Int) (v : Int32), k ≤ E.length → E.drop k = T → v = iZ (a - (hAt T m : Int)) → WP D 69 10 [vr 8 w, vi (iZ (m : Int)), vi (iZ a), vi (iZ (k : Int))] [] (101, I, J, R0 b) (fun r h => r = some (vi v) ∧ h = (101, I, J, R0 b)) := by
  obtain ⟨⟨g30, g31, g32, g33, g34, g35, gr, gr2⟩, hl, hf, hbs, hn, hE, hr, hfl⟩ := hW
  intro T
  induction T with
  | nil =>
    intro k a v hk0 hT hv
    have := dr_nil hT
    refine t_X8_handsFree_10 w _ _ _ I J b ?_
    rw [hl]
    exact ifp (tle (by omega) (by omega) (by omega)) ⟨by rw [hv]; simp [hAt], rfl⟩
  | cons e T ih =>
    intro k a v hk0 hT hv
    obtain ⟨h1, h2, h3⟩ := dr_cons hT
    obtain ⟨_, _, _, e4, e5, _⟩ := hE k e h1
    have hs := hx e (List.mem_of_getElem? h1)
    refine t_X8_handsFree_10 w _ _ _ I J b ?_
    rw [hl, iZ_ck (by omega), e4, e5, iZ_s, iZ_sub, g33, g34]
    refine ifn (nle (by omega) (by omega) (by omega)) ⟨vp_iZ (by omega) (by omega) (by omega), ?_⟩
    refine ifs (fun c => ?_) (fun c => ⟨vp_iZ (by omega) (by omega) (by omega), ?_⟩)
    · rw [iZ_le (by omega) (by omega) (by omega) (by omega)] at c
      refine ih (k + 1) a v (by omega) h2 ?_
      rw [hv]
      simp only [hAt]
      rw [if_neg (by omega)]
      congr 1
      omega
    · rw [iZ_le (by omega) (by omega) (by omega) (by omega)] at c
      refine ih (k + 1) _ v (by omega) h2 ?_
      rw [hv]
      simp only [hAt]
      rw [if_pos (by omega)]
      congr 1
      omega
theorem p_handsFree (hW : WkAt w r I E f nw) (hS : ShAt I P) (hx : ∀ e ∈ E, xs e ≤ 1000000) (hm : m ≤ 1100000) : Pu (D + 1) 69 [vr 8 w, vi (iZ (m : Int))] I J b (iZ ((pH P : Int) - (hAt E m : Int))) := by
  refine t_X8_handsFree w _ I J b ?_
  rw [hS.1]
  exact w_handsFree hW hx hm E 0 _ _ (by omega) rfl rfl
theorem w_clampsUsed (hW : WkAt w r I E f nw) (hx : ∀ e ∈ E, xs e ≤ 1000000) (hm : m ≤ 1100000) : ∀ (T : List En) (k : Nat) (a : Int) (v : Int32), k ≤ E.length → E.drop k = T → v = iZ (a + (cAt T m : Int)) → WP D 70 4 [vr 8 w, vi (iZ (m : Int)), vi (iZ a), vi (iZ (k : Int))] [] (101, I, J, R0 b) (fun r h => r = some (vi v) ∧ h = (101, I, J, R0 b)) := by
  obtain ⟨⟨g30, g31, g32, g33, g34, g35, gr, gr2⟩, hl, hf, hbs, hn, hE, hr, hfl⟩ := hW
  intro T
  induction T with
  | nil =>
    intro k a v hk0 hT hv
    have := dr_nil hT
    refine t_X8_clampsUsed_4 w _ _ _ I J b ?_
    rw [hl]
    exact ifp (tle (by omega) (by omega) (by omega)) ⟨by rw [hv]; simp [cAt], rfl⟩
  | cons e T ih =>
    intro k a v hk0 hT hv
    obtain ⟨h1, h2, h3⟩ := dr_cons hT
    obtain ⟨_, _, _, e4, _, e6⟩ := hE k e h1
    have hs := hx e (List.mem_of_getElem? h1)
    refine t_X8_clampsUsed_4 w _ _ _ I J b ?_
    rw [hl, iZ_ck (by omega), e4, e6, iZ_s, iZ_add, g33, g35]
    refine ifn (nle (by omega) (by omega) (by omega)) ⟨vp_iZ (by omega) (by omega) (by omega), ?_⟩
    refine ifs (fun c => ?_) (fun c => ⟨vp_iZ (by omega) (by omega) (by omega), ?_⟩)
    · rw [iZ_le (by omega) (by omega) (by omega) (by omega)] at c
      refine ih (k + 1) a v (by omega) h2 ?_
      rw [hv]
      simp only [cAt]
      rw [if_neg (by omega)]
      congr 1
      omega
    · rw [iZ_le (by omega) (by omega) (by omega) (by omega)] at c
      refine ih (k + 1) _ v (by omega) h2 ?_
      rw [hv]
      simp only [cAt]
      rw [if_pos (by omega)]
      congr 1
      omega
theorem p_clampsUsed (hW : WkAt w r I E f nw) (hx : ∀ e ∈ E, xs e ≤ 1000000) (hm : m ≤ 1100000) : Pu (D + 1) 70 [vr 8 w, vi (iZ (m : Int))] I J b (iZ (cAt E m : Int)) := by
  refine t_X8_clampsUsed w _ I J b ?_
  exact w_clampsUsed hW hx hm E 0 0 _ (by omega) rfl (by congr 1; omega)
theorem w_nextHandFree (hW : WkAt w r I E f nw) (hx : ∀ e ∈ E, xs e ≤ 1000000) (hh : ∀ e ∈ E, xh e ≤ 2) (hm : m ≤ 1100000) : ∀ (T : List En) (k : Nat) (a : Nat) (v : Int32), k ≤ E.length → E.drop k = T → a ≤ 1000000 → v = iZ (nxF T m a : Int) → WP D 71 5 [vr 8 w, vi (iZ (m : Int)), vi (iZ (a : Int)), vi (iZ (k : Int))] [] (101, I, J, R0 b) (fun r h => r = some (vi v) ∧ h = (101, I, J, R0 b)) := by
  obtain ⟨⟨g30, g31, g32, g33, g34, g35, gr, gr2⟩, hl, hf, hbs, hn, hE, hr, hfl⟩ := hW
  intro T
  induction T with
  | nil =>
    intro k a v hk0 hT ha hv
    have := dr_nil hT
    refine t_X8_nextHandFree_5 w _ _ _ I J b ?_
    rw [hl]
    exact ifp (tle (by omega) (by omega) (by omega)) ⟨by rw [hv]; simp [nxF], rfl⟩
  | cons e T ih =>
    intro k a v hk0 hT ha hv
    obtain ⟨h1, h2, h3⟩ := dr_cons hT
    obtain ⟨_, _, _, e4, e5, _⟩ := hE k e h1
    have hs := hx e (List.mem_of_getElem? h1)
    have hs2 := hh e (List.mem_of_getElem? h1)
    refine t_X8_nextHandFree_5 w _ _ _ I J b ?_
    rw [hl, iZ_ck (by omega), e4, e5, iZ_s, g33, g34]
    refine ifn (nle (by omega) (by omega) (by omega)) ⟨vp_iZ (by omega) (by omega) (by omega), ?_⟩
    simp only [nxF] at hv
    refine ifs (fun c => ?_) (fun c => ⟨vp_iZ (by omega) (by omega) (by omega), ?_⟩)
    · rw [i_0, iZ_le (by omega) (by omega) (by omega) (by omega)] at c
      rw [if_neg (by omega)] at hv
      exact ih (k + 1) a v (by omega) h2 ha hv
    · rw [i_0, iZ_le (by omega) (by omega) (by omega) (by omega)] at c
      refine ifs (fun c2 => ?_) (fun c2 => ⟨vp_iZ (by omega) (by omega) (by omega), ?_⟩)
      · rw [iZ_le (by omega) (by omega) (by omega) (by omega)] at c2
        rw [if_neg (by omega)] at hv
        exact ih (k + 1) a v (by omega) h2 ha hv
      · rw [iZ_le (by omega) (by omega) (by omega) (by omega)] at c2
        rw [if_pos (by omega)] at hv
        have e7 : (if iZ (xs e : Int) < iZ (a : Int) then iZ (xs e : Int) else iZ (a : Int)) = iZ ((min a (xs e) : Nat) : Int) := by
          by_cases hlt : xs e < a
          · rw [if_pos (tlt (by omega) (by omega) (by omega)), Nat.min_eq_right (by omega)]
          · rw [if_neg (nlt (by omega) (by omega) (by omega)), Nat.min_eq_left (by omega)]
        rw [e7]
        exact ih (k + 1) _ v (by omega) h2 (by omega) hv
theorem p_nextHandFree (hW : WkAt w r I E f nw) (hx : ∀ e ∈ E, xs e ≤ 1000000) (hh : ∀ e ∈ E, xh e ≤ 2) (hm : m ≤ 1100000) : Pu (D + 1) 71 [vr 8 w, vi (iZ (m : Int))] I J b (iZ (nxF E m 1000000 : Int)) := by
  refine t_X8_nextHandFree w _ I J b ?_
  exact w_nextHandFree hW hx hh hm E 0 1000000 _ (by omega) rfl (by omega) rfl
theorem and_iZ (x y : Nat) : iZ (x : Int) &&& iZ (y : Int) = iZ ((x &&& y : Nat) : Int) := by
  show Int32.ofInt x &&& Int32.ofInt y = Int32.ofInt ((x &&& y : Nat) : Int)
  rw [Int32.ofInt_eq_ofNat, Int32.ofInt_eq_ofNat, Int32.ofInt_eq_ofNat]
  apply Int32.toBitVec_inj.1
  simp
theorem and_lt7 {x y : Nat} (h : x < 128) : x &&& y < 128 := Nat.lt_of_le_of_lt Nat.and_le_left h
theorem w_isSprung {j : Nat} (hW : WkAt w r I E f nw) (hx : ∀ e ∈ E, xs e ≤ 1000000) (h7 : ∀ e ∈ E, xj e < 7) (h128 : pT P j 5 < 128) (hm : m ≤ 1100000) : ∀ (T : List En) (k : Nat) (v : Int32), k ≤ E.length → E.drop k = T → f ≤ k → v = bI (T.any fun e => tb (pT P j 5) (xj e) && decide (xs e ≤ m)) → WP D 72 27 [vr 8 w, vn, vi (iZ (m : Int)), vi (iZ ((pT P j 5 &&& bs (E.drop f) : Nat) : Int)), vi (iZ (k : Int))] [] (101, I, J, R0 b) (fun r h => r = some (vi v) ∧ h = (101, I, J, R0 b)) := by
  obtain ⟨⟨g30, g31, g32, g33, g34, g35, gr, gr2⟩, hl, hf, hbs, hn, hE, hr, hfl⟩ := hW
  intro T
  induction T with
  | nil =>
    intro k v hk0 hT hk hv
    have := dr_nil hT
    refine t_X8_isSprung_27 w _ _ _ I J b ?_
    rw [hl]
    exact ifp (tle (by omega) (by omega) (by omega)) ⟨by rw [hv]; rfl, rfl⟩
  | cons e T ih =>
    intro k v hk0 hT hk hv
    obtain ⟨h1, h2, h3⟩ := dr_cons hT
    obtain ⟨e1, _, _, e4, _, _⟩ := hE k e h1
    have he := List.mem_of_getElem? h1
    have hs := hx e he
    have hj7 := h7 e he
    refine t_X8_isSprung_27 w _ _ _ I J b ?_
    rw [hl, iZ_ck (by omega), e1, e4, iZ_s, g30, g33]
    refine ifn (nle (by omega) (by omega) (by omega)) ⟨vp_iZ (by omega) (by omega) (by omega), ?_⟩
    have hin : (bs (E.drop f)).testBit (xj e) = true := by
      rw [bs_bit]
      simp only [List.any_eq_true]
      refine ⟨e, ?_, by simp⟩
      have : e ∈ E.drop k := by rw [hT]; simp
      exact List.drop_subset_drop_left _ hk this
    have hB : bs (E.drop f) < 128 := bs_lt (fun x hx => h7 x (List.mem_of_mem_drop hx))
    have ht : tb (pT P j 5 &&& bs (E.drop f)) (xj e) = tb (pT P j 5) (xj e) := by
      rw [tb_bit (and_lt7 h128) hj7, tb_bit h128 hj7, Nat.testBit_and, hin, Bool.and_true]
    simp only [List.any_cons] at hv
    refine ifs (fun c => ?_) (fun c => ⟨vp_iZ (by omega) (by omega) (by omega), ?_⟩)
    · have c2 : tb (pT P j 5) (xj e) = false := by
        rw [← ht]
        exact decide_eq_false c
      rw [c2, Bool.false_and, Bool.false_or] at hv
      exact ih (k + 1) v (by omega) h2 (by omega) hv
    · have c2 : tb (pT P j 5) (xj e) = true := by
        rw [← ht]
        exact decide_eq_true (Classical.not_not.mp c)
      rw [c2, Bool.true_and] at hv
      refine ifs (fun c3 => ?_) (fun c3 => ?_)
      · rw [iZ_lt (by omega) (by omega) (by omega) (by omega)] at c3
        rw [decide_eq_false (by omega), Bool.false_or] at hv
        exact ih (k + 1) v (by omega) h2 (by omega) hv
      · rw [iZ_lt (by omega) (by omega) (by omega) (by omega)] at c3
        rw [decide_eq_true (by omega), Bool.true_or] at hv
        exact ⟨by rw [hv]; rfl, rfl⟩
theorem p_isSprung {j : Nat} (hW : WkAt w r I E f nw) (hB : BeAt I P) (hP : PaOK P) (hj : j < pn P) (hx : ∀ e ∈ E, xs e ≤ 1000000) (h7 : ∀ e ∈ E, xj e < 7) (hm : m ≤ 1100000) : Pu (D + 2) 72 [vr 8 w, vi (iZ (j : Int)), vi (iZ (m : Int))] I J b (bI (spr P E f j m)) := by
  have h128 : pT P j 5 < 128 := (hP.2.2.2 j hj).2.2.2.2.2.1
  refine t_X8_isSprung w _ _ I J b ?_
  refine (p_num hB hP (x := 5) (q := 5) rfl hj (by omega)).use ?_
  have hW2 := hW
  obtain ⟨_, hl, hf, hbs, _⟩ := hW2
  rw [hbs, and_iZ]
  have hb7 : bs (E.drop f) < 128 := bs_lt (fun x hx => h7 x (List.mem_of_mem_drop hx))
  refine ifs (fun c => ?_) (fun c => ?_)
  · rw [hf]
    exact w_isSprung hW hx h7 h128 hm _ f _ hW.2.2.2.2.2.2.2 rfl (Nat.le_refl _) rfl
  · have hz : pT P j 5 &&& bs (E.drop f) < 128 := and_lt7 h128
    have c := Classical.not_not.mp c
    rw [i_0, iZ_eq (by omega) (by omega) (by omega) (by omega)] at c
    have hs : spr P E f j m = false := by
      unfold spr
      rw [List.any_eq_false]
      intro e he
      have he7 := h7 e (List.mem_of_mem_drop he)
      rw [tb_bit h128 he7]
      have h1 : (bs (E.drop f)).testBit (xj e) = true := by
        rw [bs_bit]
        simp only [List.any_eq_true]
        exact ⟨e, he, by simp⟩
      have h2 : (pT P j 5 &&& bs (E.drop f)).testBit (xj e) = false := by
        rw [show pT P j 5 &&& bs (E.drop f) = 0 by omega]
        simp
      rw [Nat.testBit_and, h1, Bool.and_true] at h2
      rw [h2]
      simp
    rw [hs]
    exact ⟨rfl, rfl⟩
def oI (o : Option Nat) : Int32 := match o with
  | none => -2
  | some m => iZ (m : Int)
theorem w_beginning {j : Nat} (hW : WkAt w r I E f nw) (hB : BeAt I P) (hS : ShAt I P) (hP : PaOK P) (hG : Gd P E nw) (hj : j < pn P) : ∀ (n i m : Nat) (v : Int32), n + i = E.length + 1 → m ≤ 1000000 → v = oI (match wtS (pH P) (pT P j 1) E n m with
      | none => none
      | some m => if spr P E f j m then none else some m) → WP (D + 2) 65 51 [vr 8 w, vi (iZ (j : Int)), vi (iZ (pT P j 1 : Int)), vi (iZ (m : Int)), vi (iZ (i : Int))] [] (101, I, J, R0 b) (fun r h => r = some (vi v) ∧ h = (101, I, J, R0 b)) := by
  have hx : ∀ e ∈ E, xs e ≤ 1000000 := fun e he => hG.xle he
  have h7 : ∀ e ∈ E, xj e < 7 := fun e he => (hG.1 e he).1
  have hh : ∀ e ∈ E, xh e ≤ 2 := fun e he => (hG.1 e he).2.2.2.2.1
  have hr : E.length ≤ 35 := Nat.le_trans hW.2.2.2.2.2.2.1 hW.1.2.2.2.2.2.2.2
  have hend : ∀ (m : Nat) (v : Int32), m ≤ 1000000 → v = oI (if spr P E f j m then none else some m) → Call (D + 2) 72 [vr 8 w, vi (iZ (j : Int)), vi (iZ (m : Int))] (101, I, J, R0 b) (RIf b fun x7 I8 J9 => (if x7 = 0 then (fun r h => r = some (vi v) ∧ h = (101, I, J, R0 b)) (some (vi (iZ (m : Int)))) (101, I8, J9, R0 b) else (fun r h => r = some (vi v) ∧ h = (101, I, J, R0 b)) (some (vi (-2))) (101, I8, J9, R0 b))) := by
    intro m v hm hv
    refine (p_isSprung hW hB hP hj hx h7 (by omega)).use ?_
    cases hs : spr P E f j m <;> rw [hs] at hv
    · exact ifp rfl ⟨by rw [hv]; rfl, rfl⟩
    · exact ifn (by decide) ⟨by rw [hv]; rfl, rfl⟩
  intro n
  induction n with
  | zero =>
    intro i m v hi hm hv
    refine t_X8_beginning_51 w _ _ _ _ I J b ?_
    rw [hW.2.1]
    exact ifp (tlt (by omega) (by omega) (by omega)) (hend m v hm hv)
  | succ n ih =>
    intro i m v hi hm hv
    have hha := hAt_le (c := 2) hh m
    have hH := hP.2.1
    have h1 := (hP.2.2.2 j hj).2.1
    refine t_X8_beginning_51 w _ _ _ _ I J b ?_
    rw [hW.2.1]
    refine ifn (nlt (by omega) (by omega) (by omega)) ?_
    refine (p_handsFree hW hS hx (by omega)).use ?_
    unfold wtS at hv
    refine ifs (fun c => ?_) (fun c => ?_)
    · rw [iZ_le (by omega) (by omega) (by omega) (by omega)] at c
      rw [if_pos (by omega)] at hv
      exact hend m v hm hv
    · rw [iZ_le (by omega) (by omega) (by omega) (by omega)] at c
      rw [if_neg (by omega)] at hv
      refine (p_nextHandFree hW hx hh (by omega)).use ?_
      have hnx := nxF_le E m 1000000
      refine ifs (fun c2 => ?_) (fun c2 => ?_)
      · rw [i_nv, iZ_lt (by omega) (by omega) (by omega) (by omega)] at c2
        rw [if_pos (by omega)] at hv
        rw [iZ_s]
        exact ih (i + 1) _ v (by omega) (by omega) hv
      · rw [i_nv, iZ_lt (by omega) (by omega) (by omega) (by omega)] at c2
        rw [if_neg (by omega)] at hv
        exact ⟨by rw [hv]; rfl, rfl⟩
theorem p_beginning {j : Nat} (hW : WkAt w r I E f nw) (hB : BeAt I P) (hS : ShAt I P) (hP : PaOK P) (hG : Gd P E nw) (hj : j < pn P) : Pu (D + 3) 65 [vr 8 w, vi (iZ (j : Int))] I J b (oI (beg P E f nw j)) := by
  have hn := hG.2
  refine t_X8_beginning w _ I J b ?_
  refine (p_num hB hP (x := 1) (q := 1) rfl hj (by omega)).use ?_
  refine (p_num hB hP (x := 4) (q := 4) rfl hj (by omega)).use ?_
  rw [hW.2.2.2.1, hS.1, hW.2.2.2.2.1]
  have h1 := (hP.2.2.2 j hj).2.1
  have hH := hP.2.1
  unfold beg
  refine ifs (fun c => ?_) (fun c => ifs (fun c2 => ?_) (fun c2 => ?_))
  · rw [if_neg (by
      intro z
      exact c (of_decide_eq_true z.1))]
    exact ⟨rfl, rfl⟩
  · rw [iZ_le (by omega) (by omega) (by omega) (by omega)] at c2
    rw [if_pos ⟨decide_eq_true (Classical.not_not.mp c), by omega⟩]
    rw [i_0]
    exact w_beginning hW hB hS hP hG hj (E.length + 1) 0 nw _ rfl (by omega) rfl
  · rw [iZ_le (by omega) (by omega) (by omega) (by omega)] at c2
    rw [if_neg (by omega)]
    exact ⟨rfl, rfl⟩
end WORK
