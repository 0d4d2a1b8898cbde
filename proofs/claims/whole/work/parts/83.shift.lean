/-! CHANGES: shift -/
def qSft (qs qo : Sh) (i j n : Nat) : Sh := (2, sA qo, sL qo, fun k => if j ≤ k ∧ k < j + n then sC qs (i + (k - j)) else sC qo k)
def fSh (qs qo : Sh) (x y z : Int32) : Int32 := if sK qs = 0 ∨ sK qo = 0 then -11 else if ¬ (sK qs = 2 ∧ sK qo = 2 ∧ sA qs = sA qo) then -12 else if 0 ≤ x.toInt ∧ 0 ≤ y.toInt ∧ 0 ≤ z.toInt ∧ x.toInt + z.toInt ≤ sL qs ∧ y.toInt + z.toInt ≤ sL qo then 1 else -13
theorem fSh_0 {qs qo : Sh} {x y z : Int32} (h : sK qs = 0 ∨ sK qo = 0) : fSh qs qo x y z = -11 := if_pos h
theorem fSh_1 {qs qo : Sh} {x y z : Int32} (h : ¬ (sK qs = 0 ∨ sK qo = 0)) (h2 : ¬ (sK qs = 2 ∧ sK qo = 2 ∧ sA qs = sA qo)) : fSh qs qo x y z = -12 := by
  unfold fSh
  rw [if_neg h, if_pos h2]
theorem fSh_2 {qs qo : Sh} {x y z : Int32} (h2 : sK qs = 2 ∧ sK qo = 2 ∧ sA qs = sA qo) (h3 : ¬ (0 ≤ x.toInt ∧ 0 ≤ y.toInt ∧ 0 ≤ z.toInt ∧ x.toInt + z.toInt ≤ sL qs ∧ y.toInt + z.toInt ≤ sL qo)) : fSh qs qo x y z = -13 := by
  unfold fSh
  rw [if_neg (by omega), if_neg (fun w => w h2), if_neg h3]
theorem cpyJ_if {I : JM} {s j s2 j2 sp dp m a c k : Nat} : cpyJ I s j s2 j2 sp dp m a c k = if a = s2 ∧ c = j2 then va_cpy (I s j) (I s2 j2) sp dp m k else I a c k := by
  by_cases h : a = s2 ∧ c = j2
  · obtain ⟨rfl, rfl⟩ := h
    rw [if_pos ⟨rfl, rfl⟩, cpyJ_eq]
  · rw [if_neg h, cpyJ_ne (fun z => h (by cases z; exact ⟨rfl, rfl⟩))]
theorem qSft_ok {qs qo : Sh} {i j n : Nat} (h : ShOK qs) (ho : ShOK qo) (h2 : sK qs = 2 ∧ sK qo = 2 ∧ sA qs = sA qo) (h3 : i + n ≤ sL qs) : ShOK (qSft qs qo i j n) := by
  obtain ⟨h4, h5, h6, h7⟩ := h.2.2 h2.1
  obtain ⟨o4, o5, o6, o7⟩ := ho.2.2 h2.2.1
  refine ⟨(show (2 : Nat) ≤ 2 by decide), fun z => (by cases z), fun _ => ⟨o4, o5, fun ha k hk => ?_, fun ha k hk => ?_⟩⟩
  · have ha : sA qo ≤ 1 := ha
    show (if j ≤ k ∧ k < j + n then sC qs (i + (k - j)) else sC qo k) = (if j ≤ k ∧ k < j + n then sC qs (i + (k - j)) else sC qo k).toInt32.toInt64
    split
    · exact h6 (by omega) _ (by omega)
    · exact o6 ha _ hk
  · have ha : sA qo = 1 := ha
    show -32768 ≤ (if j ≤ k ∧ k < j + n then sC qs (i + (k - j)) else sC qo k).toInt32.toInt ∧ (if j ≤ k ∧ k < j + n then sC qs (i + (k - j)) else sC qo k).toInt32.toInt < 32768
    split
    · exact h7 (by omega) _ (by omega)
    · exact o7 ha _ hk
theorem nat_of {x : Int32} (h : 0 ≤ x.toInt) : ∃ i : Nat, x = iZ (i : Int) ∧ (i : Int) = x.toInt := ⟨x.toInt.toNat, by rw [show ((x.toInt.toNat : Nat) : Int) = x.toInt by omega, iZ_self], by omega⟩
section SHIFT
variable {D : Nat} {g : Sg} {c : Nat} {I : IM} {J : JM} {b : Bool} {Q : Option AV → AH → Prop}
theorem p_has {w L : Nat} {x z : Int32} (h : I 6 w 3 = iZ (L : Int)) (hL : L ≤ 60) : Pu (D + 1) 51 [vr 6 w, vi x, vi z] I J b (bI (decide (0 ≤ x.toInt ∧ 0 ≤ z.toInt ∧ x.toInt + z.toInt ≤ L))) := by
  have eL : (iZ (L : Int)).toInt = L := iZ_toInt (by omega) (by omega)
  refine t_X6_hasPlaces w _ _ I J b ?_
  rw [h]
  refine ift (c_lt (m := 0) rfl) (fun c1 => ⟨?_, rfl⟩) (fun c1 => ift (c_lt (m := 0) rfl) (fun c2 => ⟨?_, rfl⟩) (fun c2 => ift (c_gt (m := L) eL) (fun c3 => ⟨?_, rfl⟩) (fun c3 => ?_)))
  · rw [decide_eq_false (by omega)]
    rfl
  · rw [decide_eq_false (by omega)]
    rfl
  · rw [decide_eq_false (by omega)]
    rfl
  · obtain ⟨n, rfl, hn⟩ := nat_of (x := z) (by omega)
    have e : (iZ (L : Int) - iZ (n : Int)).toInt = (L : Int) - n := by
      rw [iZ_sub, iZ_toInt (by omega) (by omega)]
    refine ift (c_gt (m := (L : Int) - n) e) (fun c4 => ⟨?_, rfl⟩) (fun c4 => ⟨?_, rfl⟩)
    · rw [decide_eq_false (by omega)]
      rfl
    · rw [decide_eq_true (by omega)]
      rfl
theorem c_shift {s o : Nat} {x y z : Int32} (hX : XR g I J b) (hO : SOK g c) (hs : s < 6) (ho : o < 6) (hx : inB (iZ (s : Int)) 0 5 = true) (hy : inB (iZ (o : Int)) 0 5 = true) (hbad : fSh (gS g s) (gS g o) x y z ≠ 1 → Q (some (vi (fSh (gS g s) (gS g o) x y z))) (101, I, J, R0 b)) (hgood : ∀ i j n : Nat, x = iZ (i : Int) → y = iZ (j : Int) → z = iZ (n : Int) → (sK (gS g s) = 2 ∧ sK (gS g o) = 2 ∧ sA (gS g s) = sA (gS g o)) → i + n ≤ sL (gS g s) → j + n ≤ sL (gS g o) → Q (some (vi z)) (101, I, cpyJ J 41 s 41 o i j n, R0 b)) : Call 900 120 [vr 9 0, vi (iZ (s : Int)), vi x, vi (iZ (o : Int)), vi y, vi z] (101, I, J, R0 b) Q := by
  obtain ⟨⟨q1, q2, q3⟩, hok⟩ := hX.sh hO s hs
  obtain ⟨⟨r1, r2, r3⟩, hok2⟩ := hX.sh hO o ho
  have hv : vp_in (iZ (s : Int)) 6 := vp_iZ (by omega) (by omega) (by omega)
  have hv2 : vp_in (iZ (o : Int)) 6 := vp_iZ (by omega) (by omega) (by omega)
  have k1 := hok.1
  have k2 := hok2.1
  have e1 : (iZ (sK (gS g s) : Int)).toInt = sK (gS g s) := iZ_toInt (by omega) (by omega)
  have e2 : (iZ (sK (gS g o) : Int)).toInt = sK (gS g o) := iZ_toInt (by omega) (by omega)
  have hB : ∀ v : Int32, fSh (gS g s) (gS g o) x y z = v → v ≠ 1 → Q (some (vi v)) (101, I, J, R0 b) := fun v e hv => e ▸ hbad (by rw [e]; exact hv)
  refine t_X9_shift (D := 899) _ _ _ _ _ I J b ((p_X_isShelf (D := 898) _).mono ?_)
  rintro r h ⟨rfl, rfl⟩
  refine RIf.mk ?_
  rw [hx]
  refine ifn (by decide) ((p_X_isShelf (D := 898) _).mono ?_)
  rintro r h ⟨rfl, rfl⟩
  refine RIf.mk ?_
  rw [hy, iZ_ck (k := s) (by omega), iZ_ck (k := o) (by omega), q1, r1]
  refine ifp (by decide) ⟨hv, hv2, ift (c_eq (m := 0) rfl) (fun c1 => hB _ (fSh_0 (Or.inl (by omega))) (by decide)) (fun c1 => ift (c_ne (m := 0) rfl) (fun c2 => ift (c_ne (m := 2) rfl) (fun c3 => hB _ (fSh_1 (by omega) (by omega)) (by decide)) (fun c3 => ift (c_ne (m := 2) rfl) (fun c4 => hB _ (fSh_1 (by omega) (by omega)) (by decide)) (fun c4 => ?_))) (fun c2 => hB _ (fSh_0 (Or.inr (by omega))) (by decide)))⟩
  have d1 : sK (gS g s) = 2 := by omega
  have d2 : sK (gS g o) = 2 := by omega
  obtain ⟨q4, q5, q6⟩ := q3 d1
  obtain ⟨r4, r5, r6⟩ := r3 d2
  obtain ⟨a1, a2, _⟩ := hok.2.2 d1
  obtain ⟨b1, b2, _⟩ := hok2.2.2 d2
  rw [q4, r4]
  refine ifs (fun c5 => ?_) (fun c5 => ?_)
  · rw [iZ_eq (by omega) (by omega) (by omega) (by omega)] at c5
    refine (p_has (D := 898) q5 a2).mono ?_
    rintro r h ⟨rfl, rfl⟩
    refine RIf.mk ?_
    by_cases c6 : 0 ≤ x.toInt ∧ 0 ≤ z.toInt ∧ x.toInt + z.toInt ≤ sL (gS g s)
    · rw [decide_eq_true c6]
      refine ifn (by decide) ((p_has (D := 898) r5 b2).mono ?_)
      rintro r h ⟨rfl, rfl⟩
      refine RIf.mk ?_
      by_cases c7 : 0 ≤ y.toInt ∧ 0 ≤ z.toInt ∧ y.toInt + z.toInt ≤ sL (gS g o)
      · rw [decide_eq_true c7]
        refine ifp (by decide) ?_
        obtain ⟨i, rfl, hi⟩ := nat_of (x := x) (by omega)
        obtain ⟨j, rfl, hj⟩ := nat_of (x := y) (by omega)
        obtain ⟨n, rfl, hn⟩ := nat_of (x := z) (by omega)
        rw [iZ_ck (k := i) (by omega), iZ_ck (k := j) (by omega), iZ_ck (k := n) (by omega)]
        have h0 : ∀ m : Nat, m < 100 → ¬ iZ (m : Int) < 0 := fun m hm => by rw [i_0]; exact nlt (by omega) (by omega) (by omega)
        exact ⟨⟨h0 _ (by omega), h0 _ (by omega), h0 _ (by omega), by omega, by omega⟩, hgood i j n rfl rfl rfl ⟨d1, d2, by omega⟩ (by omega) (by omega)⟩
      · rw [decide_eq_false c7]
        exact ifn (fun z => z rfl) (hB _ (fSh_2 ⟨d1, d2, by omega⟩ (by omega)) (by decide))
    · rw [decide_eq_false c6]
      exact ifp rfl (hB _ (fSh_2 ⟨d1, d2, by omega⟩ (by omega)) (by decide))
  · rw [iZ_eq (by omega) (by omega) (by omega) (by omega)] at c5
    exact hB _ (fSh_1 (by omega) (by omega)) (by decide)
theorem w_sh150 {J0 : JM} {o j n : Nat} (ho : o < 6) (hn : j + n ≤ 60) (K : ∀ J', (∀ t a k, ¬ (t = 83 ∧ a = 0 ∧ 60 * o + j ≤ k ∧ k < 60 * o + j + n) → J' t a k = J0 t a k) → (∀ k, k < n → J' 83 0 (60 * o + j + k) = J0 84 0 k) → Q (some (vi (iZ (n : Int)))) (101, I, J', R0 b)) : ∀ (m l : Nat) (J : JM), m + l = n → (∀ t a k, ¬ (t = 83 ∧ a = 0 ∧ 60 * o + j ≤ k ∧ k < 60 * o + j + n) → J t a k = J0 t a k) → (∀ k, k < l → J 83 0 (60 * o + j + k) = J0 84 0 k) → WP D 243 150 [vr 10 0, vn, vn, vi (iZ (o : Int)), vi (iZ (j : Int)), vi (iZ (n : Int)), vi (iZ (l : Int))] [] (101, I, J, R0 b) Q := by
  intro m
  induction m with
  | zero =>
    intro l J hl hf hk
    have : l = n := by omega
    subst this
    exact t_X10_shift_150 _ _ _ _ I J b (ifp (tle (by omega) (by omega) (by omega)) (K J hf hk))
  | succ m ih =>
    intro l J hl hf hk
    have e : (60 : Int32) * iZ (o : Int) + iZ (j : Int) + iZ (l : Int) = iZ ((60 * o + j + l : Nat) : Int) := by
      rw [show (60 : Int32) = iZ 60 from rfl, iZ_mul, iZ_add, iZ_add]
      congr 1
    refine t_X10_shift_150 _ _ _ _ I J b ?_
    rw [e, iZ_s, iZ_ck (k := 60 * o + j + l) (by omega), iZ_ck (k := l) (by omega), hf 84 0 l (by omega)]
    refine ifn (nle (by omega) (by omega) (by omega)) ⟨vp_iZ (by omega) (by omega) (by omega), vp_iZ (by omega) (by omega) (by omega), ?_⟩
    refine ih (l + 1) _ (by omega) (fun t a k z => by rw [updJ_if, if_neg (by omega)]; exact hf t a k z) (fun k hk2 => ?_)
    rw [updJ_if]
    by_cases h : k = l
    · subst h
      rw [if_pos ⟨rfl, rfl, rfl⟩]
    · rw [if_neg (by omega)]
      exact hk k (by omega)
theorem w_sh113 {J0 : JM} {s o j i n : Nat} (hs : s < 6) (hn : i + n ≤ 60) (K : ∀ J', (∀ t a k, ¬ t = 84 → J' t a k = J0 t a k) → (∀ k, k < n → J' 84 0 k = J0 83 0 (60 * s + i + k)) → WP D 243 150 [vr 10 0, vn, vn, vi (iZ (o : Int)), vi (iZ (j : Int)), vi (iZ (n : Int)), vi 0] [] (101, I, J', R0 b) Q) : ∀ (m l : Nat) (J : JM), m + l = n → (∀ t a k, ¬ t = 84 → J t a k = J0 t a k) → (∀ k, k < l → J 84 0 k = J0 83 0 (60 * s + i + k)) → WP D 243 113 [vr 10 0, vi (iZ (s : Int)), vi (iZ (i : Int)), vi (iZ (o : Int)), vi (iZ (j : Int)), vi (iZ (n : Int)), vi (iZ (l : Int))] [] (101, I, J, R0 b) Q := by
  intro m
  induction m with
  | zero =>
    intro l J hl hf hk
    have : l = n := by omega
    subst this
    exact t_X10_shift_113 _ _ _ _ _ _ I J b (ifp (tle (by omega) (by omega) (by omega)) (K J hf hk))
  | succ m ih =>
    intro l J hl hf hk
    have e : (60 : Int32) * iZ (s : Int) + iZ (i : Int) + iZ (l : Int) = iZ ((60 * s + i + l : Nat) : Int) := by
      rw [show (60 : Int32) = iZ 60 from rfl, iZ_mul, iZ_add, iZ_add]
      congr 1
    refine t_X10_shift_113 _ _ _ _ _ _ I J b ?_
    rw [e, iZ_s, iZ_ck (k := 60 * s + i + l) (by omega), iZ_ck (k := l) (by omega), hf 83 0 _ (by omega)]
    refine ifn (nle (by omega) (by omega) (by omega)) ⟨vp_iZ (by omega) (by omega) (by omega), vp_iZ (by omega) (by omega) (by omega), ?_⟩
    refine ih (l + 1) _ (by omega) (fun t a k z => by rw [updJ_if, if_neg (by omega)]; exact hf t a k z) (fun k hk2 => ?_)
    rw [updJ_if]
    by_cases h : k = l
    · subst h
      rw [if_pos ⟨rfl, rfl, rfl⟩]
    · rw [if_neg (by omega)]
      exact hk k (by omega)
theorem shG_ge {q : Sh} (h : ShOK q) : -6 ≤ shH q ∧ shH q ≤ 49 := by
  obtain ⟨h1, h2, h3⟩ := h
  unfold shH
  split
  · omega
  · split
    · have := h2 (by omega)
      omega
    · have := (h3 (by omega)).1
      omega
theorem shG_m1 {q : Sh} (h : ShOK q) : shH q = -1 ↔ sK q = 0 := by
  obtain ⟨h1, h2, h3⟩ := h
  unfold shH
  split
  · omega
  · split
    · omega
    · have := (h3 (by omega)).1
      omega
theorem shG_0 {q : Sh} (h : ShOK q) : 0 ≤ shH q ↔ sK q = 1 := by
  obtain ⟨h1, h2, h3⟩ := h
  unfold shH
  split
  · omega
  · split
    · omega
    · have := (h3 (by omega)).1
      omega
theorem shG_2 {q : Sh} (h : sK q = 2) : shH q = -2 - (sA q : Int) := by
  unfold shH
  rw [if_neg (by omega), if_neg (by omega)]
theorem m_shift {s o : Nat} {x y z : Int32} (hM : MR g I J) (hO : SOK g c) (hs : s < 6) (ho : o < 6) (hx : inB (iZ (s : Int)) 0 5 = true) (hy : inB (iZ (o : Int)) 0 5 = true) (hbad : fSh (gS g s) (gS g o) x y z ≠ 1 → Q (some (vi (fSh (gS g s) (gS g o) x y z))) (101, I, J, R0 b)) (hgood : ∀ i j n : Nat, x = iZ (i : Int) → y = iZ (j : Int) → z = iZ (n : Int) → (sK (gS g s) = 2 ∧ sK (gS g o) = 2 ∧ sA (gS g s) = sA (gS g o)) → i + n ≤ sL (gS g s) → j + n ≤ sL (gS g o) → ∀ J', (∀ t a k, ¬ (t = 84 ∨ (t = 83 ∧ a = 0 ∧ 60 * o ≤ k ∧ k < 60 * o + 60)) → J' t a k = J t a k) → (∀ k, k < 60 → J' 83 0 (60 * o + k) = if j ≤ k ∧ k < j + n then J 83 0 (60 * s + (i + (k - j))) else J 83 0 (60 * o + k)) → Q (some (vi z)) (101, I, J', R0 b)) : Call 900 243 [vr 10 0, vi (iZ (s : Int)), vi x, vi (iZ (o : Int)), vi y, vi z] (101, I, J, R0 b) Q := by
  obtain ⟨q1, q2⟩ := hM.sh s hs
  obtain ⟨r1, r2⟩ := hM.sh o ho
  have hok := (hO.2.2.2.1 s hs).1
  have hok2 := (hO.2.2.2.1 o ho).1
  have hv : vp_in (iZ (s : Int)) 6 := vp_iZ (by omega) (by omega) (by omega)
  have hv2 : vp_in (iZ (o : Int)) 6 := vp_iZ (by omega) (by omega) (by omega)
  have k1 := hok.1
  have k2 := hok2.1
  have g1 := shG_ge hok
  have g2 := shG_ge hok2
  have e1 : (iZ (shH (gS g s))).toInt = shH (gS g s) := iZ_toInt (by omega) (by omega)
  have e2 : (iZ (shH (gS g o))).toInt = shH (gS g o) := iZ_toInt (by omega) (by omega)
  have m1 := shG_m1 hok
  have m2 := shG_m1 hok2
  have n1 := shG_0 hok
  have n2 := shG_0 hok2
  have hB : ∀ v : Int32, fSh (gS g s) (gS g o) x y z = v → v ≠ 1 → Q (some (vi v)) (101, I, J, R0 b) := fun v e hv => e ▸ hbad (by rw [e]; exact hv)
  refine t_X10_shift (D := 899) _ _ _ _ _ I J b ((p_M_isShelf (D := 897) _).mono ?_)
  rintro r h ⟨rfl, rfl⟩
  refine RIf.mk ?_
  rw [hx]
  refine ifn (by decide) ((p_M_isShelf (D := 897) _).mono ?_)
  rintro r h ⟨rfl, rfl⟩
  refine RIf.mk ?_
  rw [hy, iZ_ck (k := s) (by omega), iZ_ck (k := o) (by omega), q1, r1]
  refine ifp (by decide) ⟨hv, ift (c_eq (m := -1) rfl) (fun c1 => hB _ (fSh_0 (Or.inl (by omega))) (by decide)) (fun c1 => ⟨hv2, ift (c_ne (m := -1) rfl) (fun c2 => ⟨hv, ift (c_ge (m := 0) rfl) (fun c3 => hB _ (fSh_1 (by omega) (by omega)) (by decide)) (fun c3 => ⟨hv, hv2, ?_⟩)⟩) (fun c2 => hB _ (fSh_0 (Or.inr (by omega))) (by decide))⟩)⟩
  have d1 : sK (gS g s) = 2 := by omega
  have s1 := shG_2 d1
  refine ifs (fun c5 => ?_) (fun c5 => ?_)
  · rw [iZ_eq (by omega) (by omega) (by omega) (by omega)] at c5
    have d2 : sK (gS g o) = 2 := by omega
    have s2 := shG_2 d2
    obtain ⟨a1, a2, _⟩ := hok.2.2 d1
    obtain ⟨b1, b2, _⟩ := hok2.2.2 d2
    have hd : sK (gS g s) = 2 ∧ sK (gS g o) = 2 ∧ sA (gS g s) = sA (gS g o) := ⟨d1, d2, by omega⟩
    rw [(q2 d1).1, (r2 d2).1]
    refine ift (c_lt (m := 0) rfl) (fun c6 => hB _ (fSh_2 hd (by omega)) (by decide)) (fun c6 => ift (c_lt (m := 0) rfl) (fun c7 => hB _ (fSh_2 hd (by omega)) (by decide)) (fun c7 => ift (c_lt (m := 0) rfl) (fun c8 => hB _ (fSh_2 hd (by omega)) (by decide)) (fun c8 => ⟨hv, ?_⟩)))
    obtain ⟨i, rfl, hi⟩ := nat_of (x := x) (by omega)
    obtain ⟨j, rfl, hj⟩ := nat_of (x := y) (by omega)
    obtain ⟨n, rfl, hn⟩ := nat_of (x := z) (by omega)
    have hnl : (n : Int) < 2147483648 := by
      have := (iZ (n : Int)).toInt_lt
      omega
    have f1 : (iZ (sL (gS g s) : Int) - iZ (n : Int)).toInt = (sL (gS g s) : Int) - n := by
      rw [iZ_sub, iZ_toInt (by omega) (by omega)]
    have f2 : (iZ (sL (gS g o) : Int) - iZ (n : Int)).toInt = (sL (gS g o) : Int) - n := by
      rw [iZ_sub, iZ_toInt (by omega) (by omega)]
    refine ift (c_gt (m := (sL (gS g s) : Int) - n) f1) (fun c9 => hB _ (fSh_2 hd (by omega)) (by decide)) (fun c9 => ⟨hv2, ift (c_le (m := (sL (gS g o) : Int) - n) f2) (fun c10 => ?_) (fun c10 => hB _ (fSh_2 hd (by omega)) (by decide))⟩)
    refine w_sh113 (J0 := J) hs (by omega) (fun J1 f1 k1 => ?_) n 0 J (by omega) (fun _ _ _ _ => rfl) (fun k z => by omega)
    refine w_sh150 (J0 := J1) ho (by omega) (fun J2 f2 k2 => ?_) n 0 J1 (by omega) (fun _ _ _ _ => rfl) (fun k z => by omega)
    refine hgood i j n rfl rfl rfl hd (by omega) (by omega) J2 (fun t a k z => by rw [f2 _ _ _ (by omega), f1 _ _ _ (by omega)]) (fun k hk => ?_)
    by_cases hin : j ≤ k ∧ k < j + n
    · rw [if_pos hin]
      have := k2 (k - j) (by omega)
      rw [show 60 * o + j + (k - j) = 60 * o + k by omega] at this
      rw [this, k1 _ (by omega), Nat.add_assoc]
    · rw [if_neg hin, f2 _ _ _ (by omega), f1 _ _ _ (by omega)]
  · rw [iZ_eq (by omega) (by omega) (by omega) (by omega)] at c5
    refine hB _ (fSh_1 (by omega) (fun w => c5 ?_)) (by decide)
    rw [s1, shG_2 w.2.1, w.2.2]
theorem op_shift (x0 x y0 y z : Int32) : Op 120 243 [vi x0, vi x, vi y0, vi y, vi z] := by
  intro g c I J b hc hX hM hO
  cases hx : inB x0 0 5
  · refine t_X9_shift (D := 899) _ _ _ _ _ I J b ((p_X_isShelf (D := 898) _).use ?_)
    rw [hx]
    refine ifp rfl (op_same hc hX hM hO ?_)
    refine t_X10_shift (D := 899) _ _ _ _ _ I J b ((p_M_isShelf (D := 897) _).use ?_)
    rw [hx]
    exact ifp rfl ⟨rfl, rfl⟩
  cases hy : inB y0 0 5
  · refine t_X9_shift (D := 899) _ _ _ _ _ I J b ((p_X_isShelf (D := 898) _).use ?_)
    rw [hx]
    refine ifn (by decide) ((p_X_isShelf (D := 898) _).use ?_)
    rw [hy]
    refine ifn (fun z => z rfl) (op_same hc hX hM hO ?_)
    refine t_X10_shift (D := 899) _ _ _ _ _ I J b ((p_M_isShelf (D := 897) _).use ?_)
    rw [hx]
    refine ifn (by decide) ((p_M_isShelf (D := 897) _).use ?_)
    rw [hy]
    exact ifn (fun z => z rfl) ⟨rfl, rfl⟩
  obtain ⟨s, hs, rfl⟩ := in05x hx
  obtain ⟨o, ho, rfl⟩ := in05x hy
  refine c_shift hX hO hs ho hx hy (fun hne => op_same hc hX hM hO (m_shift hM hO hs ho hx hy (fun _ => ⟨rfl, rfl⟩) (fun i j n e1 e2 e3 h1 h2 h3 => absurd ?_ hne))) (fun i j n e1 e2 e3 hd h2 h3 => ?_)
  · have hok := ((hO.2.2.2.1 s hs).1.2.2 h1.1).2.1
    have hok2 := ((hO.2.2.2.1 o ho).1.2.2 h1.2.1).2.1
    unfold fSh
    rw [if_neg (by omega), if_neg (fun w => w h1), if_pos]
    rw [e1, e2, e3, iZ_toInt (by omega) (by omega), iZ_toInt (by omega) (by omega), iZ_toInt (by omega) (by omega)]
    omega
  · have hok := (hO.2.2.2.1 s hs).1
    have hok2 := (hO.2.2.2.1 o ho).1
    obtain ⟨a1, a2, _⟩ := hok.2.2 hd.1
    obtain ⟨b1, b2, _⟩ := hok2.2.2 hd.2.1
    obtain ⟨⟨q1, q2, q3⟩, _⟩ := hX.sh hO s hs
    obtain ⟨⟨r1, r2, r3⟩, _⟩ := hX.sh hO o ho
    obtain ⟨q4, q5, q6⟩ := q3 hd.1
    obtain ⟨r4, r5, r6⟩ := r3 hd.2.1
    have hXn : XR (gSh g o (qSft (gS g s) (gS g o) i j n)) I (cpyJ J 41 s 41 o i j n) b := hX.sh' ⟨by rw [r1, hd.2.1]; rfl, fun z => (by cases z), fun _ => ⟨r4, r5, fun k hk => (by
      show _ = if j ≤ k ∧ k < j + n then sC (gS g s) (i + (k - j)) else sC (gS g o) k
      rw [cpyJ_if, if_pos ⟨rfl, rfl⟩]
      by_cases hin : j ≤ k ∧ k < j + n
      · rw [if_pos hin, pk_cpy_in hin.1 hin.2]
        exact q6 _ (by omega)
      · rw [if_neg hin, pk_cpy_out (by omega)]
        exact r6 k hk)⟩⟩ (fun _ _ _ _ => rfl) (fun t k ht => by rw [cpyJ_if, if_neg (by omega)])
    have hMn : MR g I (cpyJ J 41 s 41 o i j n) := hM.eq (fun _ _ _ => rfl) (fun k => by rw [cpyJ_if, if_neg (by omega)])
    generalize cpyJ J 41 s 41 o i j n = J1 at hXn hMn ⊢
    obtain ⟨m1, m2⟩ := hMn.sh s hs
    obtain ⟨n1, n2⟩ := hMn.sh o ho
    refine RIf.mk (m_shift hMn hO hs ho hx hy (fun hne => absurd ?_ hne) (fun i2 j2 n3 f1 f2 f3 _ w2 w3 J2 k1 k2 => ?_))
    · unfold fSh
      rw [if_neg (by omega), if_neg (fun w => w hd), if_pos]
      rw [e1, e2, e3, iZ_toInt (by omega) (by omega), iZ_toInt (by omega) (by omega), iZ_toInt (by omega) (by omega)]
      omega
    · have u1 : (i2 : Int) = i := by
        rw [e1, iZ_eq (by omega) (by omega) (by omega) (by omega)] at f1
        omega
      have u2 : (j2 : Int) = j := by
        rw [e2, iZ_eq (by omega) (by omega) (by omega) (by omega)] at f2
        omega
      have u3 : (n3 : Int) = n := by
        rw [e3, iZ_eq (by omega) (by omega) (by omega) (by omega)] at f3
        omega
      have u1 : i2 = i := by omega
      have u2 : j2 = j := by omega
      have u3 : n3 = n := by omega
      subst u1 u2 u3
      refine RIf.mk ⟨rfl, _, hXn.frM Fr.id (fun t k ht => k1 _ _ _ (by omega)), hMn.sh' ⟨by rw [n1, shG_2 hd.2.1]; rfl, fun _ => ⟨(n2 hd.2.1).1, fun k hk => ?_⟩⟩ (fun _ _ _ _ => rfl) (fun t k ht hk => k1 _ _ _ (by omega)), (hO.up hc).sh' (qSft_ok hok hok2 hd h2) (fun z => (by cases z))⟩
      rw [k2 k hk]
      show _ = if j2 ≤ k ∧ k < j2 + n3 then sC (gS g s) (i2 + (k - j2)) else sC (gS g o) k
      by_cases hin : j2 ≤ k ∧ k < j2 + n3
      · rw [if_pos hin, if_pos hin]
        exact (m2 hd.1).2 _ (by omega)
      · rw [if_neg hin, if_neg hin]
        exact (n2 hd.2.1).2 k hk
end SHIFT
