/-! OPS IN THOUGHT: which, the two programs -/
section OPM
variable {D n : Nat} {g : Sg} {c : Nat} {I : IM} {J : JM} {b : Bool}
theorem w_bind {s : Nat} {q : Sh} {I0 : IM} (hs : s < 6) (hq : ShC I0 J s q) (hk : sK q = 2) (hok : ShOK q) (hs1 : sA q = 1) (hn : n ≤ 7) (h1 : I0 1 0 1 = iZ (n : Int)) : ∀ (m k : Nat) (due : Nat → Option Int) (I : IM), k + m = 31 → (∀ s j k, s ≠ 36 → I s j k = I0 s j k) → DuC I due → WP D 39 6 [vr 5 0, vr 6 s, vi (iZ ((2 * k : Nat) : Int)), vn, vn] [] (101, I, J, R0 b) (RIf b fun x I' J' => J' = J ∧ (∀ s j k, s ≠ 36 → I' s j k = I0 s j k) ∧ x = bI (bdF n q m k due).isSome ∧ ∀ d, bdF n q m k due = some d → DuC I' d) := by
  obtain ⟨q1, q2, q3, q4⟩ := hok.2.2 hk
  obtain ⟨_, c2, c3⟩ := hq.2.2 hk
  intro m
  induction m with
  | zero =>
    intro k due I hkm hI hd
    refine t_X5_bindTo_6 s _ I J b ?_
    rw [hI _ _ _ (by omega), c2]
    exact ifp (tle (by omega) (by omega) (by omega)) (RIf.mk ⟨rfl, hI, rfl, fun d h => by
      have h : some due = some d := h
      cases h
      exact hd⟩)
  | succ m ih =>
    intro k due I hkm hI hd
    have hno : bdF n q (m + 1) k due = none → RIf b (fun x I' J' => J' = J ∧ (∀ s j k, s ≠ 36 → I' s j k = I0 s j k) ∧ x = bI (bdF n q (m + 1) k due).isSome ∧ ∀ d, bdF n q (m + 1) k due = some d → DuC I' d) (some (vi 0)) (101, I, J, R0 b) := fun h => RIf.mk ⟨rfl, hI, by rw [h]; rfl, fun d z => by rw [h] at z; cases z⟩
    refine t_X5_bindTo_6 s _ I J b ?_
    rw [hI 6 s 3 (by omega), hI 1 0 1 (by omega), c2, h1]
    refine ifs (fun z1 => ?_) (fun z1 => ?_)
    · have z1 := (tle' (by omega) (by omega) (by omega) (by omega)).mp z1
      have hb : bdF n q (m + 1) k due = some due := by
        unfold bdF
        rw [if_pos (by omega)]
      refine RIf.mk ⟨rfl, hI, by rw [hb]; rfl, fun d h => ?_⟩
      rw [hb] at h
      cases h
      exact hd
    · have z2 : 2 * k < sL q := by
        apply Classical.byContradiction
        intro z
        exact z1 (tle (by omega) (by omega) (by omega))
      refine ⟨vp_iZ (by omega) (by omega) (by omega), ?_⟩
      rw [iZ_ck (by omega), c3 (2 * k) (by omega)]
      have hbe : bdF n q (m + 1) k due = if 0 ≤ (sC q (2 * k)).toInt32.toInt ∧ (sC q (2 * k)).toInt32.toInt < n ∧ 2 * k + 1 < sL q ∧ (due (sC q (2 * k)).toInt32.toInt.toNat = none ∨ due (sC q (2 * k)).toInt32.toInt.toNat = some (sC q (2 * k + 1)).toInt32.toInt) then bdF n q m (k + 1) (duU due (sC q (2 * k)).toInt32.toInt.toNat (sC q (2 * k + 1)).toInt32.toInt) else none := by
        conv => lhs; unfold bdF
        rw [if_neg (by omega)]
      generalize hX : (sC q (2 * k)).toInt32 = X at hbe ⊢
      obtain ⟨x, rfl, x1, x2⟩ := iZ_ex X
      rw [iZ_toInt x1 x2] at hbe
      refine ifs (fun z3 => ?_) (fun z3 => ?_)
      · rw [i_0, iZ_lt (by omega) (by omega) (by omega) (by omega)] at z3
        exact hno (by rw [hbe, if_neg (fun z => by omega)])
      · rw [i_0, iZ_lt (by omega) (by omega) (by omega) (by omega)] at z3
        refine ifs (fun z4 => ?_) (fun z4 => ?_)
        · have z4 := (tle' (by omega) (by omega) (by omega) (by omega)).mp z4
          exact hno (by rw [hbe, if_neg (fun z => by omega)])
        · have z5 : x < n := by
            apply Classical.byContradiction
            intro z
            exact z4 (tle (by omega) (by omega) (by omega))
          obtain ⟨j, rfl⟩ : ∃ j : Nat, x = (j : Int) := ⟨x.toNat, by omega⟩
          rw [iZ_s]
          refine ifs (fun z6 => ?_) (fun z6 => ?_)
          · rw [iZ_lt (by omega) (by omega) (by omega) (by omega)] at z6
            have hvj : vp_in (iZ (j : Int)) 7 := vp_iZ (by omega) (by omega) (by omega)
            refine ⟨vp_iZ (by omega) (by omega) (by omega), hvj, ?_⟩
            rw [iZ_ck (by omega), iZ_ck (by omega), c3 (2 * k + 1) (by omega)]
            obtain ⟨w1, w2⟩ := q4 hs1 (2 * k + 1) (by omega)
            rw [Int.toNat_natCast] at hbe
            generalize hY : (sC q (2 * k + 1)).toInt32 = Y at hbe w1 w2 ⊢
            obtain ⟨y, rfl, y1, y2⟩ := iZ_ex Y
            rw [iZ_toInt y1 y2] at hbe w1 w2
            obtain ⟨d1, d2⟩ := hd j (by omega)
            have h22 : iZ ((2 * k : Nat) : Int) + 2 = iZ ((2 * (k + 1) : Nat) : Int) := by
              rw [show (2 : Int32) = iZ 2 from rfl, iZ_add]
              congr 1
            have hgo : bdF n q (m + 1) k due = bdF n q m (k + 1) (duU due j y) → WP D 39 6 [vr 5 0, vr 6 s, vi (iZ ((2 * k : Nat) : Int) + 2), vn, vn] [] (101, updI I 36 0 j (iZ y), J, R0 b) (RIf b (fun x I' J' => J' = J ∧ (∀ s j k, s ≠ 36 → I' s j k = I0 s j k) ∧ x = bI (bdF n q (m + 1) k due).isSome ∧ ∀ d, bdF n q (m + 1) k due = some d → DuC I' d)) := by
              intro h
              rw [h22, h]
              refine ih (k + 1) (duU due j y) _ (by omega) (fun s2 j2 k2 z => by rw [updI_if, if_neg (by omega)]; exact hI s2 j2 k2 z) (fun j2 hj2 => ?_)
              unfold duU
              by_cases hjj : j2 = j
              · subst hjj
                rw [uI_eq, if_pos rfl]
                exact ⟨rfl, fun x z => by cases z; exact ⟨w1, w2⟩⟩
              · rw [updI_if, if_neg (by omega), if_neg hjj]
                exact hd j2 hj2
            rw [d1]
            cases hdj : due j with
            | none =>
              exact ifp rfl ⟨hvj, hgo (by rw [hbe, if_pos ⟨by omega, by omega, by omega, Or.inl hdj⟩])⟩
            | some x =>
              obtain ⟨r1, r2⟩ := d2 x hdj
              refine ifn (by show ¬ iZ x = iZ (-100000); exact nne (by omega) (by omega) (by omega) (by omega) (by omega)) ⟨hvj, ?_⟩
              show (if iZ x = iZ y then _ else _)
              refine ifs (fun z7 => ?_) (fun z7 => ?_)
              · rw [iZ_eq (by omega) (by omega) (by omega) (by omega)] at z7
                subst z7
                exact ⟨hvj, hgo (by rw [hbe, if_pos ⟨by omega, by omega, by omega, Or.inr hdj⟩])⟩
              · rw [iZ_eq (by omega) (by omega) (by omega) (by omega)] at z7
                refine hno ?_
                rw [hbe, if_neg]
                rintro ⟨_, _, _, u | u⟩
                · rw [hdj] at u; cases u
                · rw [hdj] at u
                  cases u
                  exact z7 rfl
          · rw [iZ_lt (by omega) (by omega) (by omega) (by omega)] at z6
            exact hno (by rw [hbe, if_neg (fun z => by omega)])
def dgF (L : List Nat) (a : Int32) : Int32 := L.foldl (fun (a : Int32) (j : Nat) => a * (10 : Int32) + iZ (j : Int)) a
theorem p_digits {L : List Nat} (hn : n ≤ 7) (h1 : I 1 0 1 = iZ (n : Int)) (hl : L.length = n) (hL : ∀ (k j : Nat), L[k]? = some j → I 37 0 k = iZ (j : Int)) : Pu (D + 1) 45 [vr 5 0] I J b (dgF L 0) := by
  have hw : ∀ (r k : Nat) (a v : Int32), r + k = n → v = dgF (L.drop k) a → WP D 45 4 [vr 5 0, vi a, vi (iZ (k : Int))] [] (101, I, J, R0 b) (fun r h => r = some (vi v) ∧ h = (101, I, J, R0 b)) := by
    intro r
    induction r with
    | zero =>
      intro k a v hk hv
      refine t_X5_foundAsDigits_4 _ _ I J b ?_
      rw [h1]
      refine ifp (tle (by omega) (by omega) (by omega)) ⟨?_, rfl⟩
      rw [hv, List.drop_eq_nil_of_le (by omega)]
      rfl
    | succ r ih =>
      intro k a v hk hv
      refine t_X5_foundAsDigits_4 _ _ I J b ?_
      rw [h1]
      refine ifn (nle (by omega) (by omega) (by omega)) ⟨vp_iZ (by omega) (by omega) (by omega), ?_⟩
      have hg : L[k]? = some L[k] := List.getElem?_eq_getElem (by omega)
      rw [iZ_ck (by omega), hL k _ hg, iZ_s]
      refine ih (k + 1) _ v (by omega) ?_
      rw [hv, List.drop_eq_getElem_cons (by omega)]
      rfl
  exact t_X5_foundAsDigits I J b (hw n 0 0 _ (by omega) rfl)
theorem in05x {x : Int32} (h : inB x 0 5 = true) : ∃ s : Nat, s < 6 ∧ x = iZ (s : Int) := by
  rw [inB_eq, Bool.and_eq_true, decide_eq_true_eq, decide_eq_true_eq] at h
  have h0 : (0 : Int32).toInt = 0 := rfl
  have h5 : (5 : Int32).toInt = 5 := rfl
  obtain ⟨v, v1, rfl⟩ := nn_ex (x := x) (by rw [lt_i]; omega)
  rw [iZ_toInt (by omega) (by omega)] at h
  exact ⟨v, by omega, rfl⟩
def fWhich (P : Pa) (n : Nat) (sh : Option (Nat × Sh)) (w : Int32) : Int32 := if w = 0 then iZ (((pms n n []).foldl (fLk P n sh) 0 : Nat) : Int) else match (pms n n []).find? (fun L => isW P n L && lkS P sh L) with
  | none => -2
  | some L => dgF L 0
def aWhich (x w : Int32) (g : Sg) : Int32 := if inB x 0 5 = false then -1 else if inB w 0 1 = false then -1 else if lackV (gS g x.toInt.toNat) 1 = 0 then fWhich (parS g) (gN g) (some (x.toInt.toNat, gS g x.toInt.toNat)) w else lackV (gS g x.toInt.toNat) 1
theorem aWhich_x {x w : Int32} (h : inB x 0 5 = false) : aWhich x w g = -1 := by unfold aWhich; rw [if_pos h]
theorem aWhich_w {x w : Int32} (h : inB x 0 5 = true) (h2 : inB w 0 1 = false) : aWhich x w g = -1 := by unfold aWhich; rw [if_neg (by rw [h]; decide), if_pos h2]
theorem aWhich_l {s : Nat} {w : Int32} (hs : s < 6) (h : inB (iZ (s : Int)) 0 5 = true) (h2 : inB w 0 1 = true) (h3 : ¬ lackV (gS g s) 1 = 0) : aWhich (iZ (s : Int)) w g = lackV (gS g s) 1 := by
  unfold aWhich
  rw [if_neg (by rw [h]; decide), if_neg (by rw [h2]; decide), iZ_toInt (by omega) (by omega), Int.toNat_natCast, if_neg h3]
theorem aWhich_y {s : Nat} {w : Int32} (hs : s < 6) (h : inB (iZ (s : Int)) 0 5 = true) (h2 : inB w 0 1 = true) (h3 : lackV (gS g s) 1 = 0) : aWhich (iZ (s : Int)) w g = fWhich (parS g) (gN g) (some (s, gS g s)) w := by
  unfold aWhich
  rw [if_neg (by rw [h]; decide), if_neg (by rw [h2]; decide), iZ_toInt (by omega) (by omega), Int.toNat_natCast, if_pos h3]
theorem fWhich_0 {P : Pa} {sh : Option (Nat × Sh)} : fWhich P n sh 0 = iZ (((pms n n []).foldl (fLk P n sh) 0 : Nat) : Int) := if_pos rfl
theorem fWhich_1 {P : Pa} {sh : Option (Nat × Sh)} : fWhich P n sh 1 = match (pms n n []).find? (fun L => isW P n L && lkS P sh L) with
  | none => -2
  | some L => dgF L 0 := if_neg (by decide)
theorem cX_which {x w : Int32} (hX : XR g I J b) (hO : SOK g c) : TX (D + 16) 100 [vr 9 0, vi x, vi w] I J b (aWhich x w g) := by
  have n7 := hO.1.1
  have hp := parS_ok hO
  refine t_X9_which _ _ I J b ?_
  refine (p_X_isShelf (D := D + 14) x).use ?_
  cases hx : inB x 0 5
  · exact ifp rfl (RIf.tx (aWhich_x hx).symm Fr.id)
  refine ifn (by decide) ?_
  refine (p_X_isZeroOrOne (D := D + 14) w).use ?_
  cases hw : inB w 0 1
  · exact ifn (fun z => z rfl) (RIf.tx (aWhich_w hx hw).symm Fr.id)
  refine ifp (by decide) ?_
  obtain ⟨s, hs, rfl⟩ := in05x hx
  have hvs : vp_in (iZ (s : Int)) 6 := vp_iZ (by omega) (by omega) (by omega)
  rw [iZ_ck (by omega)]
  refine ⟨hvs, ?_⟩
  obtain ⟨hq, hok⟩ := hX.sh hO s hs
  refine (p_lackOfRow (D := D + 14) hq hok (by omega) (x := 1) (so := 1) rfl).use ?_
  by_cases hl : lackV (gS g s) 1 = 0
  · refine ifp hl ?_
    rw [aWhich_y hs hx hw hl]
    obtain ⟨l1, l2⟩ := lackV_is hl
    refine (e_open (D := D + 8) (hX.BL hO)).useV ?_
    rintro I1 J1 ⟨rfl, hf1, hS1⟩
    refine ⟨hvs, t_X5_bindTo s I1 J1 b ?_⟩
    have hX1 := hX.fr (pSp_ct hf1)
    refine (e_free (D := D + 12)).useV ?_
    rintro I2 J2 ⟨rfl, k1, k2, k3⟩
    have hX2 := hX1.fr (fre_ct k1)
    have hS2 := hS1.fre k1
    refine (w_bind (n := gN g) (I0 := I2) hs (hX2.sh hO s hs).1 l1 hok l2 n7 hX2.1.1 31 0 noD I2 (by omega) (fun _ _ _ _ => rfl) k3).mono ?_
    rintro y h ⟨x13, I3, J3, rfl, rfl, rfl, y1, rfl, y2⟩
    refine RIf.mk ?_
    have hf3 : Fr pCt I2 I3 := fun t j k z => y1 t j k (by
      rintro rfl
      have : pCt 36 j k = true := pCt_iff.mpr (by omega)
      rw [this] at z
      cases z)
    have hX3 := hX2.fr hf3
    have hff := ((pSp_ct hf1).tr (fre_ct k1)).tr hf3
    have hS3 : ShAt I3 (parS g) := hS2.fre (fun t j k z1 z2 => y1 t j k z1)
    have hlk := fun L hL => ful_lk (P := parS g) (n := gN g) (s := s) (q := gS g s) (L := L) (parS_ok hO) rfl hL
    have hlt := all_lt (n := gN g) (parS_ok hO) rfl rfl
    have h57 : I3 5 0 7 = 0 := (y1 _ _ _ (by omega)).trans k2
    cases hb : bdF (gN g) (gS g s) 31 0 noD with
    | none =>
      rw [hb] at hlk
      refine ifp rfl ?_
      rw [h57]
      rcases in01 hw with rfl | rfl
      · refine ifn (fun z => z rfl) (RIf.tx ?_ hff)
        rw [fWhich_0, fLk_0 _ hlk]
        rfl
      · refine ifp (by decide) (ifp (by decide) (RIf.tx ?_ hff))
        rw [fWhich_1, List.find?_eq_none.mpr (fun L hL => by rw [hlk L hL]; decide)]
    | some d =>
      rw [hb] at hlk y2
      have hd3 := y2 d rfl
      refine ifn (show ¬ (1 : Int32) = 0 by decide) ?_
      rcases in01 hw with rfl | rfl
      · refine ifn (fun z => z rfl) ?_
        refine c_go (P := parS g) (aim := 1) (lim := 1000000) hX3 hO rfl hp.2.1 hp.2.2.1 hS3 hd3 rfl rfl (by omega) (by omega) (by omega) (by omega) (fun z => by cases z) (fun I4 k4 k5 k6 k7 k8 => ifn (fun z => z rfl) (RIf.tx ?_ (hff.tr k4)))
        rw [k8.2.2.2.1, fWhich_0]
        exact congrArg (fun k : Nat => iZ (k : Int)) (cp_1d _ _ hlt hlk rfl rfl)
      · refine ifp (by decide) ?_
        refine c_go (P := parS g) (aim := 0) (lim := 1000000) hX3 hO rfl hp.2.1 hp.2.2.1 hS3 hd3 rfl rfl (by omega) (by omega) (by omega) (by omega) (fun z => by cases z) (fun I4 k4 k5 k6 k7 k8 => ifp (by decide) ?_)
        have hc := cp_0 (P := parS g) (n := gN g) (due := d) (st := st0 1000000) rfl (pms (gN g) (gN g) [])
        rw [find_same (r := fun L => isW (parS g) (gN g) L && lkS (parS g) (some (s, gS g s)) L) _ (fun L hL => by
          rw [hlk L hL, show decide (ltE (goL (parS g) L) < (st0 1000000).2.2.2.1) = true from decide_eq_true (hlt L hL), Bool.and_true])] at hc
        rw [fWhich_1]
        cases hfd : (pms (gN g) (gN g) []).find? (fun L => isW (parS g) (gN g) L && lkS (parS g) (some (s, gS g s)) L) with
        | none =>
          rw [hfd] at hc
          rw [k8.2.2.2.1, hc]
          exact ifp (show iZ ((0 : Nat) : Int) ≤ 0 by decide) (RIf.tx rfl (hff.tr k4))
        | some L =>
          rw [hfd] at hc
          have h1 : ((pms (gN g) (gN g) []).foldl (cst (parS g) (gN g) d 0) (st0 1000000)).1 = 1 := by rw [hc]; rfl
          have h2 : ((pms (gN g) (gN g) []).foldl (cst (parS g) (gN g) d 0) (st0 1000000)).2.1 = L := by rw [hc]; rfl
          obtain ⟨_, m2, m3⟩ := k8.2.2.2.2.1 (by rw [h1]; omega)
          rw [h2] at m2 m3
          rw [k8.2.2.2.1, h1]
          refine ifn (by decide) ?_
          exact (p_digits (D := D + 14) n7 k5.1.1 m2 m3).use (RIf.tx rfl (hff.tr k4))
  · exact ifn hl (RIf.tx (aWhich_l hs hx hw hl).symm Fr.id)
theorem w_digM {L : List Nat} {lk : Nat} {v : Int32} (hn : n ≤ 7) (h1 : I 10 0 1 = iZ (n : Int)) (h53 : I 10 0 53 = iZ (lk : Int)) (hlk : lk ≤ 900000) (hL : 0 < lk → L.length = n ∧ (∀ (k j : Nat), L[k]? = some j → I 70 0 k = iZ (j : Int)) ∧ v = dgF L 0) (h0 : lk = 0 → v = -2) {I0 : IM} (hf : Fr pTh I0 I) : ∀ (r k : Nat) (a : Int32), r + k = n → (0 < lk → dgF L 0 = dgF (L.drop k) a) → WP D 208 53 [vr 10 0, vn, vn, vi a, vi (iZ (k : Int))] [] (101, I, J, R0 b) (RIf b (fun z I' J' => z = v ∧ J' = J ∧ Fr pTh I0 I')) := by
  intro r
  induction r with
  | zero =>
    intro k a hk ha
    refine t_X10_which_53 _ _ I J b ?_
    rw [h1, h53]
    refine ifp (tle (by omega) (by omega) (by omega)) ?_
    refine ifs (fun c1 => ?_) (fun c1 => ?_)
    · rw [i_0, iZ_eq (by omega) (by omega) (by omega) (by omega)] at c1
      obtain ⟨b1, b2, b3⟩ := hL (by omega)
      refine RIf.tm ?_ hf
      rw [b3, ha (by omega), List.drop_eq_nil_of_le (by omega)]
      rfl
    · have c1 := Classical.not_not.mp c1
      rw [i_0, iZ_eq (by omega) (by omega) (by omega) (by omega)] at c1
      exact RIf.tm (h0 (by omega)).symm hf
  | succ r ih =>
    intro k a hk ha
    refine t_X10_which_53 _ _ I J b ?_
    rw [h1]
    refine ifn (nle (by omega) (by omega) (by omega)) ⟨vp_iZ (by omega) (by omega) (by omega), ?_⟩
    rw [iZ_ck (by omega), iZ_s]
    refine ih (k + 1) _ (by omega) (fun hp => ?_)
    obtain ⟨b1, b2, b3⟩ := hL hp
    have hg : L[k]? = some L[k] := List.getElem?_eq_getElem (by omega)
    rw [ha hp, b2 k _ hg, List.drop_eq_getElem_cons (by omega), Int32.mul_comm]
    rfl
theorem cM_which {x w : Int32} (hM : MR g I J) (hO : SOK g c) : TM (D + 18) 208 [vr 10 0, vi x, vi w] I J b (aWhich x w g) := by
  have n7 := hO.1.1
  refine t_X10_which _ _ I J b ?_
  refine (p_M_isShelf (D := D + 15) x).use ?_
  cases hx : inB x 0 5
  · exact ifp rfl (RIf.tm (aWhich_x hx).symm Fr.id)
  refine ifn (by decide) ?_
  refine (p_M_in w 0 1).use ?_
  cases hw : inB w 0 1
  · exact ifn (fun z => z rfl) (RIf.tm (aWhich_w hx hw).symm Fr.id)
  refine ifp (by decide) ?_
  obtain ⟨s, hs, rfl⟩ := in05x hx
  have hok := (hO.2.2.2.1 s hs).1
  have hq := hM.sh s hs
  have hrf := p_rowFault (D := D + 16) (J := J) (b := b) hs hq hok (so := 1) (by omega) (x := 1) rfl
  refine hrf.use ?_
  by_cases hl : lackV (gS g s) 1 = 0
  · obtain ⟨l1, l2⟩ := lackV_is hl
    rw [aWhich_y hs hx hw hl, hl]
    refine ifp (by decide) ?_
    have hcx : McX (parS g) (some (s, gS g s)) I J := ⟨hM.mb hO, hM.st hO, hM.drawn, fun s2 q2 z => by
      cases z
      exact ⟨rfl, hs, hq, l1, hok, by omega⟩⟩
    refine (e_find (D := D) (n := gN g) (sh := some (s, gS g s)) (parS_ok hO) rfl hcx rfl).useV ?_
    rintro I1 J1 ⟨rfl, hf1, k1⟩
    rw [mgF_e] at k1
    obtain ⟨m1, m2, m3, m4, m5, m6⟩ := k1
    dsimp only at m3 m4 m5
    rcases in01 hw with rfl | rfl
    · refine ifn (fun z => z rfl) (RIf.tm ?_ hf1)
      rw [m3, fWhich_0]
    · refine ifp (by decide) ?_
      rw [fl_find] at m5
      rw [fWhich_1]
      have h1 : I1 10 0 1 = iZ (gN g : Int) := (hM.fr hf1).bn.1
      cases hfd : (pms (gN g) (gN g) []).find? (fun L => isW (parS g) (gN g) L && lkS (parS g) (some (s, gS g s)) L) with
      | none =>
        rw [hfd] at m5
        have m5 : _ = 0 := m5
        exact w_digM (L := []) n7 h1 m3 m4 (fun z => by omega) (fun _ => rfl) hf1 (gN g) 0 0 (by omega) (fun z => by omega)
      | some L =>
        rw [hfd] at m5
        exact w_digM (L := L) n7 h1 m3 m4 (fun _ => ⟨m5.2.1, m5.2.2, rfl⟩) (fun z => by have := m5.1; omega) hf1 (gN g) 0 0 (by omega) (fun _ => rfl)
  · have hneg : ¬ 0 ≤ lackV (gS g s) 1 := by
      unfold lackV at hl ⊢
      split
      · decide
      · next h0 =>
        rw [if_neg h0] at hl
        split
        · next h1 => rw [if_pos h1] at hl; exact absurd rfl hl
        · decide
    exact ifn hneg (hrf.use (RIf.tm (aWhich_l hs hx hw hl).symm Fr.id))
theorem op_which (x w : Int32) : Op 100 208 [vi x, vi w] := Op.th (aWhich x w) (fun g c I J b hX hO => cX_which (D := 884) hX hO) (fun g c I J b hM hO => cM_which (D := 882) hM hO)
end OPM
