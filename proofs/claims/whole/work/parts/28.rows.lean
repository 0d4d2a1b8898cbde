/-! ORDERS ON SHELVES; hands and clamps read off -/
def hbF (T : List En) (a : Nat) : Nat := T.foldl (fun a e => if 0 < xh e then a ||| 2 ^ xj e else a) a
theorem hbF_lt {T : List En} (h : ∀ e ∈ T, xj e < 7) {a : Nat} (ha : a < 128) : hbF T a < 128 := by
  induction T generalizing a with
  | nil => exact ha
  | cons e T ih =>
    unfold hbF
    rw [List.foldl_cons]
    refine ih (fun x hx => h x (by simp [hx])) ?_
    split
    · exact ob_lt ha (h e (by simp))
    · exact ha
section ROWS
variable {D w r f nw : Nat} {I : IM} {J : JM} {b : Bool} {E : List En} {P : Pa}
theorem w_heldByHands (hW : WkAt w r I E f nw) (h7 : ∀ e ∈ E, xj e < 7) (hh : ∀ e ∈ E, xh e ≤ 2) : ∀ (T : List En) (k a : Nat) (v : Int32), k ≤ E.length → E.drop k = T → a < 128 → v = iZ (hbF T a : Int) → WP D 76 7 [vr 8 w, vi (iZ (a : Int)), vi (iZ (k : Int))] [] (101, I, J, R0 b) (fun r h => r = some (vi v) ∧ h = (101, I, J, R0 b)) := by
  obtain ⟨⟨g30, g31, g32, g33, g34, g35, gr, gr2⟩, hl, hf, hbs, hn, hE, hr, hfl⟩ := hW
  intro T
  induction T with
  | nil =>
    intro k a v hk0 hT ha hv
    have := dr_nil hT
    refine t_X8_heldByHands_7 w _ _ I J b ?_
    rw [hl]
    exact ifp (tle (by omega) (by omega) (by omega)) ⟨by rw [hv]; rfl, rfl⟩
  | cons e T ih =>
    intro k a v hk0 hT ha hv
    obtain ⟨h1, h2, h3⟩ := dr_cons hT
    obtain ⟨e1, _, _, _, e5, _⟩ := hE k e h1
    have hj := h7 e (List.mem_of_getElem? h1)
    have hhe := hh e (List.mem_of_getElem? h1)
    refine t_X8_heldByHands_7 w _ _ I J b ?_
    rw [hl, iZ_ck (by omega), e1, e5, iZ_s, g30, g34]
    have hvv : vp_in (iZ (k : Int)) r := vp_iZ (by omega) (by omega) (by omega)
    unfold hbF at hv
    rw [List.foldl_cons] at hv
    refine ifn (nle (by omega) (by omega) (by omega)) ⟨hvv, ifs (fun c => ?_) (fun c => ⟨hvv, ?_⟩)⟩
    · rw [i_0, iZ_le (by omega) (by omega) (by omega) (by omega)] at c
      rw [if_neg (by omega)] at hv
      exact ih (k + 1) a v (by omega) h2 ha hv
    · rw [i_0, iZ_le (by omega) (by omega) (by omega) (by omega)] at c
      rw [if_pos (by omega)] at hv
      have := ob_bit ha hj
      unfold ob at this
      rw [this]
      exact ih (k + 1) _ v (by omega) h2 (ob_lt ha hj) hv
theorem p_heldByHands (hW : WkAt w r I E f nw) (h7 : ∀ e ∈ E, xj e < 7) (hh : ∀ e ∈ E, xh e ≤ 2) : Pu (D + 1) 76 [vr 8 w] I J b (iZ (hbF (E.drop f) 0 : Int)) := by
  refine t_X8_heldByHands w I J b ?_
  rw [hW.2.2.1]
  exact w_heldByHands hW h7 hh _ f 0 _ hW.2.2.2.2.2.2.2 rfl (by omega) rfl
theorem w_byHand {L : List Nat} (hX : XtAt I E 0) (hL : PlM I L) (hLE : ∀ (k : Nat) (e : En), E[k]? = some e → L[k]? = some (xj e)) (h49 : I 10 0 49 = iZ (E.length : Int)) (hE7 : E.length ≤ 7) (h7 : ∀ e ∈ E, xj e < 7) : ∀ (T : List En) (k a : Nat) (v : Int32), k ≤ E.length → E.drop k = T → a < 128 → v = iZ (hbF T a : Int) → WP D 210 50 [vr 10 0, vn, vn, vn, vi (iZ (a : Int)), vi (iZ (k : Int))] [] (101, I, J, R0 b) (fun r h => r = some (vi v) ∧ h = (101, I, J, R0 b)) := by
  intro T
  induction T with
  | nil =>
    intro k a v hk0 hT ha hv
    have := dr_nil hT
    refine t_X10_byHand_50 _ _ I J b ?_
    rw [h49]
    exact ifp (tle (by omega) (by omega) (by omega)) ⟨by rw [hv]; rfl, rfl⟩
  | cons e T ih =>
    intro k a v hk0 hT ha hv
    obtain ⟨h1, h2, h3⟩ := dr_cons hT
    have he := List.mem_of_getElem? h1
    have hj := h7 e he
    have h67 := (hX.1 e (by simpa using he)).2.2
    refine t_X10_byHand_50 _ _ I J b ?_
    rw [h49, iZ_ck (by omega), hL.2 k _ (hLE k e h1), iZ_ck (by omega), h67, iZ_s]
    have hvv : vp_in (iZ (k : Int)) 7 := vp_iZ (by omega) (by omega) (by omega)
    unfold hbF at hv
    rw [List.foldl_cons] at hv
    refine ifn (nle (by omega) (by omega) (by omega)) ⟨hvv, vp_iZ (by omega) (by omega) (by omega), ?_⟩
    by_cases hz : 0 < xh e
    · rw [if_pos hz] at hv
      rw [decide_eq_true hz]
      have := ob_bit ha hj
      unfold ob at this
      rw [this]
      exact ifn (fun z => z rfl) ⟨hvv, ih (k + 1) _ v (by omega) h2 (ob_lt ha hj) hv⟩
    · rw [if_neg hz] at hv
      rw [decide_eq_false hz]
      exact ifp (by decide) (ih (k + 1) a v (by omega) h2 ha hv)
theorem cAt_take {T : List En} {k m : Nat} {e : En} (h : T[k]? = some e) : cAt (T.take (k + 1)) m = cAt (T.take k) m + (if m < xs e then xc e else 0) := by
  rw [List.take_add_one, h, cAt_app]
  simp [cAt]
theorem w_clamps_in (hW : WkAt w r I E f nw) (hx : ∀ e ∈ E, xs e ≤ 1000000) {a i : Nat} {e0 : En} (hi : E[i]? = some e0) (hf0 : xf e0 ≤ 1000000) {Q : Option AV → AH → Prop} (ha : a ≤ 100) (hc : ∀ e ∈ E, xc e ≤ 1) (hQ : WP D 77 4 [vr 8 w, vi (iZ ((max a (cAt (E.take (i + 1)) (xf e0)) : Nat) : Int)), vi (iZ ((i + 1 : Nat) : Int)), vn, vn] [] (101, I, J, R0 b) Q) : ∀ (n k : Nat), n + k = i + 1 → WP D 77 17 [vr 8 w, vi (iZ (a : Int)), vi (iZ (i : Int)), vi (iZ (cAt (E.take k) (xf e0) : Int)), vi (iZ (k : Int))] [] (101, I, J, R0 b) Q := by
  have hil : i < E.length := (List.getElem?_eq_some_iff.mp hi).1
  obtain ⟨⟨g30, g31, g32, g33, g34, g35, gr, gr2⟩, hl, hf, hbs, hn, hE, hr, hfl⟩ := hW
  obtain ⟨_, _, i3, _⟩ := hE i e0 hi
  intro n
  induction n with
  | zero =>
    intro k hk
    have hcl := cAt_le (E := E.take k) (c := 1) (fun e he => hc e (List.mem_of_mem_take he)) (xf e0)
    have hln : (E.take k).length ≤ E.length := by simp; omega
    refine t_X8_clampsAtOnce_17 w _ _ _ _ I J b (ifp (tlt (by omega) (by omega) (by omega)) ?_)
    have hk2 : k = i + 1 := by omega
    subst hk2
    have e7 : (if iZ (a : Int) < iZ (cAt (E.take (i + 1)) (xf e0) : Int) then iZ (cAt (E.take (i + 1)) (xf e0) : Int) else iZ (a : Int)) = iZ ((max a (cAt (E.take (i + 1)) (xf e0)) : Nat) : Int) := by
      by_cases hlt : a < cAt (E.take (i + 1)) (xf e0)
      · rw [if_pos (tlt (by omega) (by omega) (by omega)), Nat.max_eq_right (by omega)]
      · rw [if_neg (nlt (by omega) (by omega) (by omega)), Nat.max_eq_left (by omega)]
    rw [e7, iZ_s]
    exact hQ
  | succ n ih =>
    intro k hk
    have hkl : k < E.length := by omega
    obtain ⟨ek, hek⟩ : ∃ e, E[k]? = some e := ⟨E[k], List.getElem?_eq_getElem hkl⟩
    obtain ⟨_, _, _, k4, _, k6⟩ := hE k ek hek
    have hs := hx ek (List.mem_of_getElem? hek)
    have ht := cAt_take (m := xf e0) hek
    refine t_X8_clampsAtOnce_17 w _ _ _ _ I J b (ifn (nlt (by omega) (by omega) (by omega)) ?_)
    rw [iZ_ck (by omega), iZ_ck (by omega), i3, k4, k6, iZ_s, g32, g33, g35]
    have hvv : vp_in (iZ (k : Int)) r := vp_iZ (by omega) (by omega) (by omega)
    refine ⟨hvv, vp_iZ (by omega) (by omega) (by omega), ifs (fun c => ?_) (fun c => ⟨hvv, ?_⟩)⟩
    · rw [iZ_le (by omega) (by omega) (by omega) (by omega)] at c
      rw [if_neg (by omega)] at ht
      rw [i_0, iZ_add, show ((cAt (E.take k) (xf e0) : Nat) : Int) + 0 = ((cAt (E.take (k + 1)) (xf e0) : Nat) : Int) by omega]
      exact ih (k + 1) (by omega)
    · rw [iZ_le (by omega) (by omega) (by omega) (by omega)] at c
      rw [if_pos (by omega)] at ht
      rw [iZ_add, show ((cAt (E.take k) (xf e0) : Nat) : Int) + (xc ek : Int) = ((cAt (E.take (k + 1)) (xf e0) : Nat) : Int) by omega]
      exact ih (k + 1) (by omega)
theorem w_clampsAtOnce (hW : WkAt w r I E f nw) (hx : ∀ e ∈ E, xs e ≤ 1000000) (hf0 : ∀ e ∈ E, xf e ≤ 1000000) (hc : ∀ e ∈ E, xc e ≤ 1) : ∀ (n i a : Nat) (v : Int32), n + i = E.length → a = (List.range i).foldl (fun a i => max a (cAt (E.take (i + 1)) (xf (E.getD i (0, 0, 0, 0, 0, 0))))) 0 → a ≤ 100 → v = iZ (mC E : Int) → WP D 77 4 [vr 8 w, vi (iZ (a : Int)), vi (iZ (i : Int)), vn, vn] [] (101, I, J, R0 b) (fun r h => r = some (vi v) ∧ h = (101, I, J, R0 b)) := by
  have hr35 : E.length ≤ 35 := Nat.le_trans hW.2.2.2.2.2.2.1 hW.1.2.2.2.2.2.2.2
  intro n
  induction n with
  | zero =>
    intro i a v hi ha ha1 hv
    refine t_X8_clampsAtOnce_4 w _ _ I J b ?_
    rw [hW.2.1]
    refine ifp (tle (by omega) (by omega) (by omega)) ⟨?_, rfl⟩
    rw [hv, ha]
    unfold mC
    rw [show i = E.length by omega]
  | succ n ih =>
    intro i a v hi ha ha1 hv
    have hil : i < E.length := by omega
    have hei : E[i]? = some E[i] := List.getElem?_eq_getElem hil
    refine t_X8_clampsAtOnce_4 w _ _ I J b ?_
    rw [hW.2.1]
    refine ifn (nle (by omega) (by omega) (by omega)) ?_
    have hcl := cAt_le (E := E.take (i + 1)) (c := 1) (fun e he => hc e (List.mem_of_mem_take he)) (xf E[i])
    have hln : (E.take (i + 1)).length ≤ E.length := by simp; omega
    refine w_clamps_in (k := 0) (n := i + 1) hW hx hei (hf0 _ (List.mem_of_getElem? hei)) ha1 hc ?_ (by omega)
    refine ih (i + 1) _ v (by omega) ?_ ?_ hv
    · rw [List.range_succ, List.foldl_append, ← ha]
      simp [List.getD, hei]
    · exact Nat.max_le.mpr ⟨ha1, by omega⟩
theorem p_clampsAtOnce (hW : WkAt w r I E f nw) (hx : ∀ e ∈ E, xs e ≤ 1000000) (hf0 : ∀ e ∈ E, xf e ≤ 1000000) (hc : ∀ e ∈ E, xc e ≤ 1) : Pu (D + 1) 77 [vr 8 w] I J b (iZ (mC E : Int)) := by
  refine t_X8_clampsAtOnce w I J b ?_
  exact w_clampsAtOnce hW hx hf0 hc E.length 0 0 _ (by omega) rfl (by omega) rfl
/-- the order that a row tells -/
def plS (n : Nat) (q : Sh) : Nat → Nat → List Nat → List Nat
  | 0, _, acc => acc
  | m + 1, k, acc => if (0 ≤ (sC q k).toInt32.toInt ∧ (sC q k).toInt32.toInt < n) ∧ acc.contains (sC q k).toInt32.toInt.toNat = false then plS n q m (k + 1) (acc ++ [(sC q k).toInt32.toInt.toNat]) else acc
def plan (n : Nat) (q : Sh) : List Nat := plS n q (sL q) 0 []
theorem plS_ok {n : Nat} {q : Sh} : ∀ (m k : Nat) (acc : List Nat), acc.Nodup → (∀ j ∈ acc, j < n) → (plS n q m k acc).Nodup ∧ ∀ j ∈ plS n q m k acc, j < n
  | 0, k, acc, h1, h2 => ⟨h1, h2⟩
  | m + 1, k, acc, h1, h2 => by
    unfold plS
    split
    · next h =>
      refine plS_ok m (k + 1) _ ?_ ?_
      · rw [List.nodup_append]
        refine ⟨h1, by simp, fun a ha b hb => ?_⟩
        have hb : b = (sC q k).toInt32.toInt.toNat := by simpa using hb
        subst hb
        rintro rfl
        have := h.2
        simp only [List.contains_eq_mem, decide_eq_false_iff_not] at this
        exact this ha
      · intro j hj
        rcases List.mem_append.mp hj with hj | hj
        · exact h2 j hj
        · have : j = (sC q k).toInt32.toInt.toNat := by simpa using hj
          subst this
          omega
    · exact ⟨h1, h2⟩
theorem plan_ok (n : Nat) (q : Sh) : (plan n q).Nodup ∧ ∀ j ∈ plan n q, j < n := plS_ok _ _ _ (by simp) (by simp)
/-- why no row of a sort is there -/
def lackV (q : Sh) (so : Nat) : Int32 := if sK q = 0 then -11 else if sK q = 2 ∧ sA q = so then 0 else -12
theorem lackV_0 {q : Sh} {so : Nat} (h : sK q = 0) : lackV q so = -11 := by unfold lackV; rw [if_pos h]
theorem lackV_n {q : Sh} {so : Nat} (h0 : sK q ≠ 0) (h : ¬ (sK q = 2 ∧ sA q = so)) : lackV q so = -12 := by unfold lackV; rw [if_neg h0, if_neg h]
theorem lackV_y {q : Sh} {so : Nat} (h : sK q = 2) (h2 : sA q = so) : lackV q so = 0 := by unfold lackV; rw [if_neg (by omega), if_pos ⟨h, h2⟩]
theorem shH_0 {q : Sh} (h : sK q = 0) : shH q = -1 := by unfold shH; rw [if_pos h]
theorem shH_1 {q : Sh} (h : sK q = 1) : shH q = (sA q : Int) := by unfold shH; rw [if_neg (by omega), if_pos h]
theorem shH_2 {q : Sh} (h : sK q = 2) : shH q = -2 - (sA q : Int) := by unfold shH; rw [if_neg (by omega), if_neg (by omega)]
theorem p_lackOfRow {s so : Nat} {q : Sh} (hq : ShC I J s q) (hok : ShOK q) (hso : so ≤ 4) {x : Int32} (hx : x = iZ (so : Int)) : Pu (D + 1) 50 [vr 6 s, vi x] I J b (lackV q so) := by
  subst hx
  have h2 := hok.1
  refine t_X6_lackOfRow s _ I J b ?_
  rw [hq.1]
  by_cases h0 : sK q = 0
  · rw [lackV_0 h0, h0]
    exact ifn (fun z => z rfl) ⟨rfl, rfl⟩
  · refine ifp (by rw [i_0]; exact nne (by omega) (by omega) (by omega) (by omega) (by omega)) ?_
    by_cases h3 : sK q = 2
    · obtain ⟨q1, _⟩ := hok.2.2 h3
      rw [h3, (hq.2.2 h3).1]
      refine ifn (fun z => z rfl) ?_
      by_cases h4 : sA q = so
      · rw [lackV_y h3 h4, h4]
        exact ifn (fun z => z rfl) ⟨rfl, rfl⟩
      · rw [lackV_n h0 (fun z => h4 z.2)]
        exact ifp (nne (by omega) (by omega) (by omega) (by omega) (by omega)) ⟨rfl, rfl⟩
    · rw [lackV_n h0 (fun z => h3 z.1)]
      exact ifp (by rw [i_2]; exact nne (by omega) (by omega) (by omega) (by omega) (by omega)) ⟨rfl, rfl⟩
theorem p_rowFault {s so : Nat} {q : Sh} (hs : s < 6) (hq : ShM I J s q) (hok : ShOK q) (hso : so ≤ 4) {x : Int32} (hx : x = iZ (so : Int)) : Pu (D + 1) 181 [vr 10 0, vi (iZ (s : Int)), vi x] I J b (lackV q so) := by
  subst hx
  have h2 := hok.1
  have hvs : vp_in (iZ (s : Int)) 6 := vp_iZ (by omega) (by omega) (by omega)
  refine t_X10_rowFault _ _ I J b ⟨hvs, ?_⟩
  rw [iZ_ck (by omega), hq.1]
  by_cases h0 : sK q = 0
  · rw [lackV_0 h0, shH_0 h0]
    exact ifn (fun z => z rfl) ⟨rfl, rfl⟩
  · by_cases h1 : sK q = 1
    · have hA := hok.2.1 h1
      rw [lackV_n h0 (by omega), shH_1 h1]
      refine ifp (by rw [i_m1]; exact nne (by omega) (by omega) (by omega) (by omega) (by omega)) ⟨hvs, ?_⟩
      exact ifp (by rw [i_m2, iZ_sub]; exact nne (by omega) (by omega) (by omega) (by omega) (by omega)) ⟨rfl, rfl⟩
    · have hk : sK q = 2 := by omega
      obtain ⟨q1, _⟩ := hok.2.2 hk
      rw [shH_2 hk]
      refine ifp (by rw [i_m1]; exact nne (by omega) (by omega) (by omega) (by omega) (by omega)) ⟨hvs, ?_⟩
      by_cases h3 : sA q = so
      · rw [lackV_y hk h3, h3]
        exact ifn (fun z => z (by rw [i_m2, iZ_sub])) ⟨rfl, rfl⟩
      · rw [lackV_n h0 (fun z => h3 z.2)]
        exact ifp (by rw [i_m2, iZ_sub]; exact nne (by omega) (by omega) (by omega) (by omega) (by omega)) ⟨rfl, rfl⟩
def pPl (s _j k : Nat) : Bool := Nat.beq s 42 || (Nat.beq s 9 && Nat.beq k 11)
theorem PlC.snoc {L : List Nat} {j : Nat} (h : PlC I L) : PlC (updI (updI I 42 0 L.length (iZ (j : Int))) 9 0 11 (iZ (L.length : Int) + (1 : Int32))) (L ++ [j]) := by
  refine ⟨?_, fun k x hk => ?_⟩
  · rw [uI_eq, iZ_s]
    simp
  · rcases snoc_at hk with ⟨h1, h2⟩ | ⟨h1, h2⟩
    · have h3 : k ≠ L.length := by omega
      simp only [updI_if]
      simpa [h3] using h.2 k x h1
    · subst h1 h2
      simp [updI_if]
theorem PlM.snoc {L : List Nat} {j : Nat} (h : PlM I L) : PlM (updI (updI I 68 0 L.length (iZ (j : Int))) 10 0 48 (iZ (L.length : Int) + (1 : Int32))) (L ++ [j]) := by
  refine ⟨?_, fun k x hk => ?_⟩
  · rw [uI_eq, iZ_s]
    simp
  · rcases snoc_at hk with ⟨h1, h2⟩ | ⟨h1, h2⟩
    · have h3 : k ≠ L.length := by omega
      simp only [updI_if]
      simpa [h3] using h.2 k x h1
    · subst h1 h2
      simp [updI_if]
theorem p_isJ {x : Int32} {n : Nat} (h1 : I 1 0 1 = iZ (n : Int)) (hn : n ≤ 7) : Pu (D + 1) 125 [vr 9 0, vi x] I J b (bI (decide (0 ≤ x.toInt ∧ x.toInt < n))) := by
  refine (p_X_isJoint x).eq ?_
  unfold fBench_size
  rw [h1]
  congr 1
  rw [Bool.eq_iff_iff]
  simp only [Bool.and_eq_true, decide_eq_true_eq]
  rw [Int32.le_iff_toInt_le, Int32.lt_iff_toInt_lt, iZ_toInt (by omega) (by omega)]
  exact Iff.rfl
theorem full7 {L : List Nat} (hn : L.Nodup) (h7 : ∀ j ∈ L, j < 7) (hl : 7 ≤ L.length) {j : Nat} (hj : j < 7) : L.contains j = true := by
  have h1 := nd_pc L hn h7
  have h2 := nd_len hn (Nat.le_refl 7) h7
  have hlt : bl L < 128 := bl_lt (n := 7) h7
  have := pc_7 ⟨bl L, hlt⟩ ⟨j, hj⟩ (by dsimp only; omega)
  dsimp only at this
  rwa [bl_bit] at this
theorem w_readPlan {s n : Nat} {q : Sh} (hs : s < 6) (hn : n ≤ 7) (hk : sK q = 2) (hok : ShOK q) : ∀ (m k : Nat) (acc : List Nat) (I0 I : IM), m + k = sL q → acc.Nodup → (∀ j ∈ acc, j < n) → PlC I acc → I 1 0 1 = iZ (n : Int) → ShC I J s q → Fr pPl I0 I → WP (D + 1) 127 39 [vr 9 0, vn, vr 6 s, vn, vi (iZ (bl acc : Int)), vi (iZ (k : Int)), vn] [] (101, I, J, R0 b) (RIf b fun x I' J' => x = 0 ∧ J' = J ∧ Fr pPl I0 I' ∧ PlC I' (plS n q m k acc)) := by
  obtain ⟨q1, q2, _⟩ := hok.2.2 hk
  intro m
  induction m with
  | zero =>
    intro k acc I0 I hm hnd hlt hL h1 hq hF
    obtain ⟨_, hln, _⟩ := hq.2.2 hk
    refine t_X9_readPlan_39 s _ _ I J b ?_
    rw [hln]
    exact ifp (tle (by omega) (by omega) (by omega)) (RIf.mk ⟨rfl, rfl, hF, hL⟩)
  | succ m ih =>
    intro k acc I0 I hm hnd hlt hL h1 hq hF
    obtain ⟨hsa, hln, hc⟩ := hq.2.2 hk
    have hlen := nd_len hnd hn hlt
    have hB : bl acc < 128 := bl_lt (n := 7) (fun j hj => Nat.lt_of_lt_of_le (hlt j hj) hn)
    refine t_X9_readPlan_39 s _ _ I J b ?_
    rw [hln, hL.1, iZ_ck (by omega), hc k (by omega)]
    unfold plS
    refine ifn (nle (by omega) (by omega) (by omega)) (ifs (fun c => ?_) (fun c => ⟨vp_iZ (by omega) (by omega) (by omega), ?_⟩))
    · rw [i_7, iZ_le (by omega) (by omega) (by omega) (by omega)] at c
      rw [if_neg]
      · exact RIf.mk ⟨rfl, rfl, hF, hL⟩
      · rintro ⟨⟨z1, z2⟩, z3⟩
        rw [full7 hnd (fun j hj => Nat.lt_of_lt_of_le (hlt j hj) hn) (by omega) (by omega)] at z3
        cases z3
    · rw [i_7, iZ_le (by omega) (by omega) (by omega) (by omega)] at c
      refine (p_isJ h1 hn).use ?_
      by_cases hj : 0 ≤ (sC q k).toInt32.toInt ∧ (sC q k).toInt32.toInt < n
      · rw [decide_eq_true hj]
        refine ifn (by decide) ?_
        obtain ⟨j, hjj⟩ : ∃ j : Nat, (sC q k).toInt32.toInt = j := ⟨(sC q k).toInt32.toInt.toNat, by omega⟩
        have hx : (sC q k).toInt32 = iZ (j : Int) := by rw [← hjj, iZ_self]
        rw [hjj] at hj ⊢
        rw [hx, Int.toNat_natCast]
        have htb : tb (bl acc) j = acc.contains j := by rw [tb_bit hB (by omega), bl_bit]
        refine ifs (fun c2 => ?_) (fun c2 => ?_)
        · have c3 : acc.contains j = false := by rw [← htb]; exact decide_eq_false c2
          rw [if_pos ⟨hj, c3⟩, hL.1, iZ_ck (by omega), iZ_s]
          refine ⟨vp_iZ (by omega) (by omega) (by omega), ?_⟩
          have := ob_bit hB (show j < 7 by omega)
          unfold ob at this
          rw [this, ← bl_app]
          have hup : ∀ s' k', s' ≠ 42 → (s' ≠ 9 ∨ k' ≠ 11) → ∀ j', updI (updI I 42 0 acc.length (iZ (j : Int))) 9 0 11 (iZ (acc.length : Int) + (1 : Int32)) s' j' k' = I s' j' k' := by
            intro s' k' z1 z2 j'
            rw [updI_if, if_neg (by omega), updI_if, if_neg (by omega)]
          refine ih (k + 1) (acc ++ [j]) I0 _ (by omega) ?_ ?_ hL.snoc ((hup _ _ (by omega) (by omega) _).trans h1) ?_ ((hF.upd rfl).upd rfl)
          · rw [List.nodup_append]
            refine ⟨hnd, by simp, fun a ha b hb => ?_⟩
            have hb : b = j := by simpa using hb
            subst hb
            rintro rfl
            simp only [List.contains_eq_mem, decide_eq_false_iff_not] at c3
            exact c3 ha
          · intro y hy
            rcases List.mem_append.mp hy with hy | hy
            · exact hlt y hy
            · have : y = j := by simpa using hy
              subst this
              omega
          · obtain ⟨z1, z2, z3⟩ := hq
            refine ⟨(hup _ _ (by omega) (by omega) _).trans z1, fun h => (hup _ _ (by omega) (by omega) _).trans (z2 h), fun h => ?_⟩
            obtain ⟨y1, y2, y3⟩ := z3 h
            exact ⟨(hup _ _ (by omega) (by omega) _).trans y1, (hup _ _ (by omega) (by omega) _).trans y2, y3⟩
        · have c3 : acc.contains j = true := by rw [← htb]; exact decide_eq_true (Classical.not_not.mp c2)
          rw [if_neg (by rw [c3]; simp)]
          exact RIf.mk ⟨rfl, rfl, hF, hL⟩
      · rw [decide_eq_false hj]
        refine ifp rfl ?_
        rw [if_neg (fun z => hj z.1)]
        exact RIf.mk ⟨rfl, rfl, hF, hL⟩
/-- all six shelves -/
def ShCs (I : IM) (J : JM) (sh : Nat → Sh) : Prop := ∀ s, s < 6 → ShC I J s (sh s) ∧ ShOK (sh s)
def ShMs (I : IM) (J : JM) (sh : Nat → Sh) : Prop := ∀ s, s < 6 → ShM I J s (sh s) ∧ ShOK (sh s)
/-- what an order on a shelf lacks -/
def lackO (sh : Nat → Sh) (x : Int32) (so : Nat) : Int32 := if 0 ≤ x.toInt ∧ x.toInt < 6 then lackV (sh x.toInt.toNat) so else -1
theorem inB_05 (x : Int32) : inB x 0 5 = decide (0 ≤ x.toInt ∧ x.toInt < 6) := by
  rw [inB_eq, Bool.eq_iff_iff]
  have e0 : (0 : Int32).toInt = 0 := rfl
  have e5 : (5 : Int32).toInt = 5 := rfl
  simp only [Bool.and_eq_true, decide_eq_true_eq, e0, e5]
  omega
theorem e_readPlan {x : Int32} {n : Nat} {sh : Nat → Sh} (h1 : I 1 0 1 = iZ (n : Int)) (hn : n ≤ 7) (hsh : ShCs I J sh) : Call (D + 2) 127 [vr 9 0, vi x] (101, I, J, R0 b) (RIf b fun y I' J' => y = lackO sh x 0 ∧ J' = J ∧ Fr pPl I I' ∧ (y = 0 → PlC I' (plan n (sh x.toInt.toNat)))) := by
  refine t_X9_readPlan _ I J b ?_
  refine (p_X_isShelf x).use ?_
  rw [inB_05]
  unfold lackO
  by_cases hx : 0 ≤ x.toInt ∧ x.toInt < 6
  · rw [decide_eq_true hx, if_pos hx]
    obtain ⟨s, hs⟩ : ∃ s : Nat, x.toInt = s := ⟨x.toInt.toNat, by omega⟩
    have hxs : x = iZ (s : Int) := by rw [← hs, iZ_self]
    have hs6 : s < 6 := by omega
    obtain ⟨hq, hok⟩ := hsh s hs6
    rw [hs, hxs, Int.toNat_natCast, iZ_ck (by omega)]
    refine ifp (by decide) ⟨vp_iZ (by omega) (by omega) (by omega), ?_⟩
    refine (p_lackOfRow hq hok (by omega) (x := 0) (so := 0) rfl).use ?_
    unfold lackV
    by_cases c0 : sK (sh s) = 0
    · rw [if_pos c0]
      exact ifn (by decide) (RIf.mk ⟨rfl, rfl, Fr.id, fun h => absurd h (by decide)⟩)
    · rw [if_neg c0]
      by_cases c2 : sK (sh s) = 2 ∧ sA (sh s) = 0
      · rw [if_pos c2]
        refine ifp rfl ?_
        have hL0 : PlC (updI I 9 0 11 0) [] := ⟨uI_eq, by intro k j h; simp at h⟩
        refine (w_readPlan (D := D) hs6 hn c2.1 hok (sL (sh s)) 0 [] I (updI I 9 0 11 0) (by omega) (by simp) (by simp) hL0 ?_ ?_ (Fr.id.upd rfl)).mono ?_
        · simp only [updI_if]
          simpa using h1
        · obtain ⟨z1, z2, z3⟩ := hq
          refine ⟨?_, ?_, ?_⟩ <;> simp only [updI_if] <;> simpa using by assumption
        · rintro r h ⟨y, I', J', rfl, rfl, rfl, rfl, hF, hL⟩
          exact RIf.mk ⟨rfl, rfl, hF, fun _ => hL⟩
      · rw [if_neg c2]
        exact ifn (by decide) (RIf.mk ⟨rfl, rfl, Fr.id, fun h => absurd h (by decide)⟩)
  · rw [decide_eq_false hx, if_neg hx]
    exact ifn (fun z => z rfl) (RIf.mk ⟨rfl, rfl, Fr.id, fun h => absurd h (by decide)⟩)
end ROWS
