/-! ACTS, the class: a run of a body -/
def kF (k : Nat) (n x : Int32) : Int32 × List Nat := if k = 1 ∨ k = 4 then (x + n + 3, [20, 1]) else if k = 7 then ((x + n) * 2 - 1, [81, 70, 1]) else if k = 6 then ((x + n) * 2, [70, 1]) else (x + n, [1])
def kPH (k : Nat) (n x : Int32) : Int32 × List Nat := ((kF k n x).1 * 2, 10 :: (kF k n x).2)
def kLH (k : Nat) (n x : Int32) : Int32 × List Nat := (-(kPH k n x).1, 30 :: (kPH k n x).2)
def kS (k : Nat) (n x : Int32) : Int32 × List Nat := if k = 5 then ((x ^^^ n) * 3 - (kF k n 2).1, 60 :: ([40, 11] ++ (kF k n 2).2)) else if k = 3 then ((x ^^^ n) * 3, [40, 11]) else (x ^^^ n, [11])
def kH (k : Nat) (n x : Int32) : Int32 × List Nat := if k = 3 ∨ k = 5 then ((kLH k n (x + 1)).1, 41 :: (kLH k n (x + 1)).2) else if k = 7 then ((kPH k n x).1 + (kS k n 2).1, 80 :: ((kPH k n x).2 ++ (kS k n 2).2)) else if k = 2 then kLH k n x else kPH k n x
def kPT (k : Nat) (n x : Int32) : Int32 × List Nat := ((kH k n x).1 - (kS k n 1).1, 2 :: ((kH k n x).2 ++ (kS k n 1).2))
def kT (k : Nat) (n x : Int32) : Int32 × List Nat := if k = 4 then ((kPT k n x).1 ^^^ 5, 50 :: (kPT k n x).2) else if k = 5 then ((kPT k n x).1 + 1, 61 :: (kPT k n x).2) else kPT k n x
def holF (a : Int32) : Nat → Int32 → Int32
  | 0, _ => -1
  | m + 1, f => if inB f 0 7 = false then -1 else if (STl 903).getD (f * (4 : Int32) + a).toNatClampNeg 0 = 0 then holF a m ((STl 902).getD f.toNatClampNeg 0) else f
def TrA (I : IM) (T : List Nat) : Prop := TrC I (T.length, T)
def Hol (f a h : Int32) : Prop := ∀ (D : Nat) (I : IM) (J : JM) (b : Bool), Pu (D + 2) 6 [vi f, vi a] I J b h
def RunP (l : Nat) (ow n f a x v : Int32) (t : List Nat) : Prop := ∀ (D d : Nat) (I : IM) (J : JM) (b : Bool) (T : List Nat), d + l ≤ 40 → T.length + t.length ≤ 24 → TrA I T → I 0 0 2 = n → I 0 0 3 = ow → Call (D + l + 3) 7 [vr 0 0, vi f, vi a, vi x, vi (iZ (d : Int))] (101, I, J, R0 b) (RIf b fun y I' J' => y = v ∧ J' = J ∧ TrA I' (T ++ t) ∧ ∀ s j k, ¬ (s = 39 ∨ (s = 0 ∧ k = 5)) → I' s j k = I s j k)
theorem RunP.up {l l' : Nat} {ow n f a x v : Int32} {t : List Nat} (h : RunP l ow n f a x v t) (hl : l ≤ l') : RunP l' ow n f a x v t := fun D d I J b T h1 h2 h3 h4 h5 => by
  have := h (D + (l' - l)) d I J b T (by omega) h2 h3 h4 h5
  rw [show D + (l' - l) + l + 3 = D + l' + 3 by omega] at this
  exact this
section ACT
variable {D : Nat} {I : IM} {J : JM} {b : Bool}
theorem w_hold {a : Nat} (ha : a < 4) : ∀ (m l : Nat) (f : Int32), m + l = 8 → WP (D + 1) 6 4 [vn, vi (iZ (a : Int)), vi f, vi (iZ (l : Int))] [] (101, I, J, R0 b) (fun r h => r = some (vi (holF (iZ (a : Int)) m f)) ∧ h = (101, I, J, R0 b)) := by
  intro m
  induction m with
  | zero =>
    intro l f hl
    exact t_X0_holderOf_4 _ _ _ I J b (ifp (by rw [show (8 : Int32) = iZ 8 from rfl]; exact tle (by omega) (by omega) (by omega)) ⟨rfl, rfl⟩)
  | succ m ih =>
    intro l f hl
    refine t_X0_holderOf_4 _ _ _ I J b (ifn (by rw [show (8 : Int32) = iZ 8 from rfl]; exact nle (by omega) (by omega) (by omega)) ?_)
    refine (p_isKind (D := D)).use ?_
    cases hin : inB f 0 7
    · refine ifp rfl ⟨?_, rfl⟩
      unfold holF
      rw [if_pos hin]
    · refine ifn (by decide) ?_
      obtain ⟨v, v1, v2, rfl⟩ := inB_ex (l := 0) (h := 7) rfl rfl (by omega) (by omega) hin
      have e4 : iZ (v : Int) * (4 : Int32) + iZ (a : Int) = iZ ((4 * v + a : Nat) : Int) := by
        rw [show (4 : Int32) = iZ 4 from rfl, iZ_mul, iZ_add]
        congr 1
        omega
      have hF : holF (iZ (a : Int)) (m + 1) (iZ (v : Int)) = if (STl 903).getD (iZ (v : Int) * (4 : Int32) + iZ (a : Int)).toNatClampNeg 0 = 0 then holF (iZ (a : Int)) m ((STl 902).getD (iZ (v : Int)).toNatClampNeg 0) else iZ (v : Int) := by
        conv => lhs; unfold holF
        rw [if_neg (by rw [hin]; decide)]
      refine ⟨by rw [e4]; exact vp_iZ (by omega) (by omega) (by omega), ifs (fun c1 => ⟨vp_iZ (by omega) (by omega) (by omega), ?_⟩) (fun c1 => ⟨?_, rfl⟩)⟩
      · rw [hF, if_pos c1, iZ_s]
        exact ih (l + 1) _ (by omega)
      · rw [hF, if_neg c1]
theorem hol_of {f h : Int32} {a : Nat} (ha : a < 4) (e : holF (iZ (a : Int)) 8 f = h) : Hol f (iZ (a : Int)) h := fun D I J b => (show Pu (D + 2) 6 [vi f, vi (iZ (a : Int))] I J b _ from t_X0_holderOf _ _ I J b (w_hold (D := D) ha 8 0 f (by omega))).eq e
theorem ran_C {T : List Nat} {m : Nat} {z : Int32} (hT : TrA I T) (hl : T.length < 24) (hz : z = iZ (m : Int)) : ∃ I1, updI (updI I 39 0 (I 0 0 5).toNatClampNeg z) 0 0 5 (I 0 0 5 + (1 : Int32)) = I1 ∧ TrA I1 (T ++ [m]) ∧ ∀ s j k, ¬ (s = 39 ∨ (s = 0 ∧ k = 5)) → I1 s j k = I s j k := by
  obtain ⟨h1, h2⟩ := hT
  have h1 : I 0 0 5 = iZ (T.length : Int) := h1
  refine ⟨_, rfl, ⟨?_, fun k x hk => ?_⟩, fun s j k h => ?_⟩
  · rw [uI_eq, h1, iZ_s]
    show _ = iZ (((T ++ [m]).length : Nat) : Int)
    rw [List.length_append]
    rfl
  · have hk : (T ++ [m])[k]? = some x := hk
    rw [h1, iZ_ck (by omega), updI_if, if_neg (by omega), updI_if]
    rw [List.getElem?_append] at hk
    split at hk
    · next hlt =>
      rw [if_neg (by omega)]
      exact h2 k x hk
    · next hge =>
      have hlt : k - T.length < 1 := by
        rw [List.getElem?_eq_some_iff] at hk
        exact hk.1
      have hk0 : k - T.length = 0 := by omega
      rw [hk0] at hk
      cases hk
      rw [if_pos (by omega)]
      exact hz
  · rw [updI_if, if_neg (by omega), updI_if, if_neg (by omega)]
theorem r_1 {ow n fr x : Int32} (hh : Hol fr 0 0) : RunP 0 ow n fr 0 x (x + n) [1] := by
  intro D d I J b T hd hl hT hn how
  simp only [List.length_cons, List.length_append, List.length_nil] at hl
  refine t_X0_run (D := D + 2) _ _ _ _ I J b ((hh (D) I J b).use ?_)
  have hT1 : I 0 0 5 = iZ (T.length : Int) := hT.1
  have hT2 : ¬ (24 : Int32) ≤ iZ (T.length : Int) := by rw [show (24 : Int32) = iZ 24 from rfl]; exact nle (by omega) (by omega) (by omega)
  refine ifn (by decide) (ifp (by rw [show (40 : Int32) = iZ 40 from rfl]; exact tle (by omega) (by omega) (by omega)) ⟨by unfold vp_in; decide, ifn (by rw [hT1]; exact hT2) ⟨by rw [hT1]; exact vp_iZ (by omega) (by omega) (by omega), by unfold vp_in; decide, ?_⟩⟩)
  obtain ⟨I1, hI1, k1, k2⟩ := ran_C (m := 1) (z := (STl 903).getD ((0 : Int32) * (4 : Int32) + (0 : Int32)).toNatClampNeg 0) hT (by omega) rfl
  rw [hI1]
  repeat (first | refine ifp (by decide) ?_ | refine ifn (by decide) ?_)
  rw [hn]
  exact RIf.mk ⟨rfl, rfl, k1, k2⟩
theorem r_11 {ow n fr x : Int32} (hh : Hol fr 2 0) : RunP 0 ow n fr 2 x (x ^^^ n) [11] := by
  intro D d I J b T hd hl hT hn how
  simp only [List.length_cons, List.length_append, List.length_nil] at hl
  refine t_X0_run (D := D + 2) _ _ _ _ I J b ((hh (D) I J b).use ?_)
  have hT1 : I 0 0 5 = iZ (T.length : Int) := hT.1
  have hT2 : ¬ (24 : Int32) ≤ iZ (T.length : Int) := by rw [show (24 : Int32) = iZ 24 from rfl]; exact nle (by omega) (by omega) (by omega)
  refine ifn (by decide) (ifp (by rw [show (40 : Int32) = iZ 40 from rfl]; exact tle (by omega) (by omega) (by omega)) ⟨by unfold vp_in; decide, ifn (by rw [hT1]; exact hT2) ⟨by rw [hT1]; exact vp_iZ (by omega) (by omega) (by omega), by unfold vp_in; decide, ?_⟩⟩)
  obtain ⟨I1, hI1, k1, k2⟩ := ran_C (m := 11) (z := (STl 903).getD ((0 : Int32) * (4 : Int32) + (2 : Int32)).toNatClampNeg 0) hT (by omega) rfl
  rw [hI1]
  repeat (first | refine ifp (by decide) ?_ | refine ifn (by decide) ?_)
  rw [hn]
  exact RIf.mk ⟨rfl, rfl, k1, k2⟩
theorem r_10 {l : Nat} {ow n fr x : Int32} {v : Int32} {t : List Nat} (hh : Hol fr 1 0) (h1 : RunP l ow n ow 0 x v t) : RunP (l + 1) ow n fr 1 x (v * 2) (10 :: t) := by
  intro D d I J b T hd hl hT hn how
  simp only [List.length_cons, List.length_append, List.length_nil] at hl
  refine t_X0_run (D := D + l + 3) _ _ _ _ I J b ((hh (D + l + 1) I J b).use ?_)
  have hT1 : I 0 0 5 = iZ (T.length : Int) := hT.1
  have hT2 : ¬ (24 : Int32) ≤ iZ (T.length : Int) := by rw [show (24 : Int32) = iZ 24 from rfl]; exact nle (by omega) (by omega) (by omega)
  refine ifn (by decide) (ifp (by rw [show (40 : Int32) = iZ 40 from rfl]; exact tle (by omega) (by omega) (by omega)) ⟨by unfold vp_in; decide, ifn (by rw [hT1]; exact hT2) ⟨by rw [hT1]; exact vp_iZ (by omega) (by omega) (by omega), by unfold vp_in; decide, ?_⟩⟩)
  obtain ⟨I1, hI1, k1, k2⟩ := ran_C (m := 10) (z := (STl 903).getD ((0 : Int32) * (4 : Int32) + (1 : Int32)).toNatClampNeg 0) hT (by omega) rfl
  rw [hI1]
  repeat (first | refine ifp (by decide) ?_ | refine ifn (by decide) ?_)
  rw [how, iZ_s]
  refine (h1 D (d + 1) I1 J b (T ++ [10]) (by omega) (by rw [List.length_append, List.length_singleton]; omega) k1 ((k2 0 0 2 (by omega)).trans hn) ((k2 0 0 3 (by omega)).trans how)).mono ?_
  rintro r h ⟨y, I2, J2, rfl, rfl, rfl, rfl, q1, q2⟩
  rw [List.append_assoc] at q1
  exact RIf.mk (RIf.mk ⟨rfl, rfl, q1, fun s j k z => (q2 s j k z).trans (k2 s j k z)⟩)
theorem r_2 {l : Nat} {ow n fr x : Int32} {v : Int32} {t : List Nat} {v2 : Int32} {t2 : List Nat} (hh : Hol fr 3 0) (h1 : RunP l ow n ow 1 x v t) (h2 : RunP l ow n ow 2 1 v2 t2) : RunP (l + 1) ow n fr 3 x (v - v2) (2 :: (t ++ t2)) := by
  intro D d I J b T hd hl hT hn how
  simp only [List.length_cons, List.length_append, List.length_nil] at hl
  refine t_X0_run (D := D + l + 3) _ _ _ _ I J b ((hh (D + l + 1) I J b).use ?_)
  have hT1 : I 0 0 5 = iZ (T.length : Int) := hT.1
  have hT2 : ¬ (24 : Int32) ≤ iZ (T.length : Int) := by rw [show (24 : Int32) = iZ 24 from rfl]; exact nle (by omega) (by omega) (by omega)
  refine ifn (by decide) (ifp (by rw [show (40 : Int32) = iZ 40 from rfl]; exact tle (by omega) (by omega) (by omega)) ⟨by unfold vp_in; decide, ifn (by rw [hT1]; exact hT2) ⟨by rw [hT1]; exact vp_iZ (by omega) (by omega) (by omega), by unfold vp_in; decide, ?_⟩⟩)
  obtain ⟨I1, hI1, k1, k2⟩ := ran_C (m := 2) (z := (STl 903).getD ((0 : Int32) * (4 : Int32) + (3 : Int32)).toNatClampNeg 0) hT (by omega) rfl
  rw [hI1]
  repeat (first | refine ifp (by decide) ?_ | refine ifn (by decide) ?_)
  rw [how, iZ_s]
  refine (h1 D (d + 1) I1 J b (T ++ [2]) (by omega) (by rw [List.length_append, List.length_singleton]; omega) k1 ((k2 0 0 2 (by omega)).trans hn) ((k2 0 0 3 (by omega)).trans how)).mono ?_
  rintro r h ⟨y, I2, J2, rfl, rfl, rfl, rfl, q1, q2⟩
  rw [List.append_assoc] at q1
  refine RIf.mk ?_
  rw [q2 0 0 3 (by omega), k2 0 0 3 (by omega), how]
  refine (h2 D (d + 1) I2 J2 b (T ++ ([2] ++ t)) (by omega) (by simp only [List.length_append, List.length_singleton]; omega) q1 (((q2 0 0 2 (by omega)).trans (k2 0 0 2 (by omega))).trans hn) (((q2 0 0 3 (by omega)).trans (k2 0 0 3 (by omega))).trans how)).mono ?_
  rintro r h ⟨y, I3, J3, rfl, rfl, rfl, rfl, p1, p2⟩
  rw [List.append_assoc, List.append_assoc] at p1
  exact RIf.mk (RIf.mk ⟨rfl, rfl, p1, fun s j k z => ((p2 s j k z).trans (q2 s j k z)).trans (k2 s j k z)⟩)
theorem r_20 {l : Nat} {ow n fr x : Int32} {v : Int32} {t : List Nat} (hh : Hol fr 0 1) (h1 : RunP l ow n 0 0 x v t) : RunP (l + 1) ow n fr 0 x (v + 3) (20 :: t) := by
  intro D d I J b T hd hl hT hn how
  simp only [List.length_cons, List.length_append, List.length_nil] at hl
  refine t_X0_run (D := D + l + 3) _ _ _ _ I J b ((hh (D + l + 1) I J b).use ?_)
  have hT1 : I 0 0 5 = iZ (T.length : Int) := hT.1
  have hT2 : ¬ (24 : Int32) ≤ iZ (T.length : Int) := by rw [show (24 : Int32) = iZ 24 from rfl]; exact nle (by omega) (by omega) (by omega)
  refine ifn (by decide) (ifp (by rw [show (40 : Int32) = iZ 40 from rfl]; exact tle (by omega) (by omega) (by omega)) ⟨by unfold vp_in; decide, ifn (by rw [hT1]; exact hT2) ⟨by rw [hT1]; exact vp_iZ (by omega) (by omega) (by omega), by unfold vp_in; decide, ?_⟩⟩)
  obtain ⟨I1, hI1, k1, k2⟩ := ran_C (m := 20) (z := (STl 903).getD ((1 : Int32) * (4 : Int32) + (0 : Int32)).toNatClampNeg 0) hT (by omega) rfl
  rw [hI1]
  repeat (first | refine ifp (by decide) ?_ | refine ifn (by decide) ?_)
  rw [show (STl 902).getD (1 : Int32).toNatClampNeg 0 = (0 : Int32) from rfl, iZ_s]
  refine (h1 D (d + 1) I1 J b (T ++ [20]) (by omega) (by rw [List.length_append, List.length_singleton]; omega) k1 ((k2 0 0 2 (by omega)).trans hn) ((k2 0 0 3 (by omega)).trans how)).mono ?_
  rintro r h ⟨y, I2, J2, rfl, rfl, rfl, rfl, q1, q2⟩
  rw [List.append_assoc] at q1
  exact RIf.mk (RIf.mk ⟨rfl, rfl, q1, fun s j k z => (q2 s j k z).trans (k2 s j k z)⟩)
theorem r_30 {l : Nat} {ow n fr x : Int32} {v : Int32} {t : List Nat} (hh : Hol fr 1 2) (h1 : RunP l ow n 0 1 x v t) : RunP (l + 1) ow n fr 1 x (-v) (30 :: t) := by
  intro D d I J b T hd hl hT hn how
  simp only [List.length_cons, List.length_append, List.length_nil] at hl
  refine t_X0_run (D := D + l + 3) _ _ _ _ I J b ((hh (D + l + 1) I J b).use ?_)
  have hT1 : I 0 0 5 = iZ (T.length : Int) := hT.1
  have hT2 : ¬ (24 : Int32) ≤ iZ (T.length : Int) := by rw [show (24 : Int32) = iZ 24 from rfl]; exact nle (by omega) (by omega) (by omega)
  refine ifn (by decide) (ifp (by rw [show (40 : Int32) = iZ 40 from rfl]; exact tle (by omega) (by omega) (by omega)) ⟨by unfold vp_in; decide, ifn (by rw [hT1]; exact hT2) ⟨by rw [hT1]; exact vp_iZ (by omega) (by omega) (by omega), by unfold vp_in; decide, ?_⟩⟩)
  obtain ⟨I1, hI1, k1, k2⟩ := ran_C (m := 30) (z := (STl 903).getD ((2 : Int32) * (4 : Int32) + (1 : Int32)).toNatClampNeg 0) hT (by omega) rfl
  rw [hI1]
  repeat (first | refine ifp (by decide) ?_ | refine ifn (by decide) ?_)
  rw [show (STl 902).getD (2 : Int32).toNatClampNeg 0 = (0 : Int32) from rfl, iZ_s]
  refine (h1 D (d + 1) I1 J b (T ++ [30]) (by omega) (by rw [List.length_append, List.length_singleton]; omega) k1 ((k2 0 0 2 (by omega)).trans hn) ((k2 0 0 3 (by omega)).trans how)).mono ?_
  rintro r h ⟨y, I2, J2, rfl, rfl, rfl, rfl, q1, q2⟩
  rw [List.append_assoc] at q1
  exact RIf.mk (RIf.mk ⟨rfl, rfl, q1, fun s j k z => (q2 s j k z).trans (k2 s j k z)⟩)
theorem r_41 {l : Nat} {ow n fr x : Int32} {v : Int32} {t : List Nat} (hh : Hol fr 1 3) (h1 : RunP l ow n 2 1 (x + 1) v t) : RunP (l + 1) ow n fr 1 x (v) (41 :: t) := by
  intro D d I J b T hd hl hT hn how
  simp only [List.length_cons, List.length_append, List.length_nil] at hl
  refine t_X0_run (D := D + l + 3) _ _ _ _ I J b ((hh (D + l + 1) I J b).use ?_)
  have hT1 : I 0 0 5 = iZ (T.length : Int) := hT.1
  have hT2 : ¬ (24 : Int32) ≤ iZ (T.length : Int) := by rw [show (24 : Int32) = iZ 24 from rfl]; exact nle (by omega) (by omega) (by omega)
  refine ifn (by decide) (ifp (by rw [show (40 : Int32) = iZ 40 from rfl]; exact tle (by omega) (by omega) (by omega)) ⟨by unfold vp_in; decide, ifn (by rw [hT1]; exact hT2) ⟨by rw [hT1]; exact vp_iZ (by omega) (by omega) (by omega), by unfold vp_in; decide, ?_⟩⟩)
  obtain ⟨I1, hI1, k1, k2⟩ := ran_C (m := 41) (z := (STl 903).getD ((3 : Int32) * (4 : Int32) + (1 : Int32)).toNatClampNeg 0) hT (by omega) rfl
  rw [hI1]
  repeat (first | refine ifp (by decide) ?_ | refine ifn (by decide) ?_)
  rw [show (STl 902).getD (3 : Int32).toNatClampNeg 0 = (2 : Int32) from rfl, iZ_s]
  refine (h1 D (d + 1) I1 J b (T ++ [41]) (by omega) (by rw [List.length_append, List.length_singleton]; omega) k1 ((k2 0 0 2 (by omega)).trans hn) ((k2 0 0 3 (by omega)).trans how)).mono ?_
  rintro r h ⟨y, I2, J2, rfl, rfl, rfl, rfl, q1, q2⟩
  rw [List.append_assoc] at q1
  exact RIf.mk (RIf.mk ⟨rfl, rfl, q1, fun s j k z => (q2 s j k z).trans (k2 s j k z)⟩)
theorem r_40 {l : Nat} {ow n fr x : Int32} {v : Int32} {t : List Nat} (hh : Hol fr 2 3) (h1 : RunP l ow n 2 2 x v t) : RunP (l + 1) ow n fr 2 x (v * 3) (40 :: t) := by
  intro D d I J b T hd hl hT hn how
  simp only [List.length_cons, List.length_append, List.length_nil] at hl
  refine t_X0_run (D := D + l + 3) _ _ _ _ I J b ((hh (D + l + 1) I J b).use ?_)
  have hT1 : I 0 0 5 = iZ (T.length : Int) := hT.1
  have hT2 : ¬ (24 : Int32) ≤ iZ (T.length : Int) := by rw [show (24 : Int32) = iZ 24 from rfl]; exact nle (by omega) (by omega) (by omega)
  refine ifn (by decide) (ifp (by rw [show (40 : Int32) = iZ 40 from rfl]; exact tle (by omega) (by omega) (by omega)) ⟨by unfold vp_in; decide, ifn (by rw [hT1]; exact hT2) ⟨by rw [hT1]; exact vp_iZ (by omega) (by omega) (by omega), by unfold vp_in; decide, ?_⟩⟩)
  obtain ⟨I1, hI1, k1, k2⟩ := ran_C (m := 40) (z := (STl 903).getD ((3 : Int32) * (4 : Int32) + (2 : Int32)).toNatClampNeg 0) hT (by omega) rfl
  rw [hI1]
  repeat (first | refine ifp (by decide) ?_ | refine ifn (by decide) ?_)
  rw [show (STl 902).getD (3 : Int32).toNatClampNeg 0 = (2 : Int32) from rfl, iZ_s]
  refine (h1 D (d + 1) I1 J b (T ++ [40]) (by omega) (by rw [List.length_append, List.length_singleton]; omega) k1 ((k2 0 0 2 (by omega)).trans hn) ((k2 0 0 3 (by omega)).trans how)).mono ?_
  rintro r h ⟨y, I2, J2, rfl, rfl, rfl, rfl, q1, q2⟩
  rw [List.append_assoc] at q1
  exact RIf.mk (RIf.mk ⟨rfl, rfl, q1, fun s j k z => (q2 s j k z).trans (k2 s j k z)⟩)
theorem r_50 {l : Nat} {ow n fr x : Int32} {v : Int32} {t : List Nat} (hh : Hol fr 3 4) (h1 : RunP l ow n 1 3 x v t) : RunP (l + 1) ow n fr 3 x (v ^^^ 5) (50 :: t) := by
  intro D d I J b T hd hl hT hn how
  simp only [List.length_cons, List.length_append, List.length_nil] at hl
  refine t_X0_run (D := D + l + 3) _ _ _ _ I J b ((hh (D + l + 1) I J b).use ?_)
  have hT1 : I 0 0 5 = iZ (T.length : Int) := hT.1
  have hT2 : ¬ (24 : Int32) ≤ iZ (T.length : Int) := by rw [show (24 : Int32) = iZ 24 from rfl]; exact nle (by omega) (by omega) (by omega)
  refine ifn (by decide) (ifp (by rw [show (40 : Int32) = iZ 40 from rfl]; exact tle (by omega) (by omega) (by omega)) ⟨by unfold vp_in; decide, ifn (by rw [hT1]; exact hT2) ⟨by rw [hT1]; exact vp_iZ (by omega) (by omega) (by omega), by unfold vp_in; decide, ?_⟩⟩)
  obtain ⟨I1, hI1, k1, k2⟩ := ran_C (m := 50) (z := (STl 903).getD ((4 : Int32) * (4 : Int32) + (3 : Int32)).toNatClampNeg 0) hT (by omega) rfl
  rw [hI1]
  repeat (first | refine ifp (by decide) ?_ | refine ifn (by decide) ?_)
  rw [show (STl 902).getD (4 : Int32).toNatClampNeg 0 = (1 : Int32) from rfl, iZ_s]
  refine (h1 D (d + 1) I1 J b (T ++ [50]) (by omega) (by rw [List.length_append, List.length_singleton]; omega) k1 ((k2 0 0 2 (by omega)).trans hn) ((k2 0 0 3 (by omega)).trans how)).mono ?_
  rintro r h ⟨y, I2, J2, rfl, rfl, rfl, rfl, q1, q2⟩
  rw [List.append_assoc] at q1
  exact RIf.mk (RIf.mk ⟨rfl, rfl, q1, fun s j k z => (q2 s j k z).trans (k2 s j k z)⟩)
theorem r_60 {l : Nat} {ow n fr x : Int32} {v : Int32} {t : List Nat} {v2 : Int32} {t2 : List Nat} (hh : Hol fr 2 5) (h1 : RunP l ow n 3 2 x v t) (h2 : RunP l ow n ow 0 2 v2 t2) : RunP (l + 1) ow n fr 2 x (v - v2) (60 :: (t ++ t2)) := by
  intro D d I J b T hd hl hT hn how
  simp only [List.length_cons, List.length_append, List.length_nil] at hl
  refine t_X0_run (D := D + l + 3) _ _ _ _ I J b ((hh (D + l + 1) I J b).use ?_)
  have hT1 : I 0 0 5 = iZ (T.length : Int) := hT.1
  have hT2 : ¬ (24 : Int32) ≤ iZ (T.length : Int) := by rw [show (24 : Int32) = iZ 24 from rfl]; exact nle (by omega) (by omega) (by omega)
  refine ifn (by decide) (ifp (by rw [show (40 : Int32) = iZ 40 from rfl]; exact tle (by omega) (by omega) (by omega)) ⟨by unfold vp_in; decide, ifn (by rw [hT1]; exact hT2) ⟨by rw [hT1]; exact vp_iZ (by omega) (by omega) (by omega), by unfold vp_in; decide, ?_⟩⟩)
  obtain ⟨I1, hI1, k1, k2⟩ := ran_C (m := 60) (z := (STl 903).getD ((5 : Int32) * (4 : Int32) + (2 : Int32)).toNatClampNeg 0) hT (by omega) rfl
  rw [hI1]
  repeat (first | refine ifp (by decide) ?_ | refine ifn (by decide) ?_)
  rw [show (STl 902).getD (5 : Int32).toNatClampNeg 0 = (3 : Int32) from rfl, iZ_s]
  refine (h1 D (d + 1) I1 J b (T ++ [60]) (by omega) (by rw [List.length_append, List.length_singleton]; omega) k1 ((k2 0 0 2 (by omega)).trans hn) ((k2 0 0 3 (by omega)).trans how)).mono ?_
  rintro r h ⟨y, I2, J2, rfl, rfl, rfl, rfl, q1, q2⟩
  rw [List.append_assoc] at q1
  refine RIf.mk ?_
  rw [q2 0 0 3 (by omega), k2 0 0 3 (by omega), how]
  refine (h2 D (d + 1) I2 J2 b (T ++ ([60] ++ t)) (by omega) (by simp only [List.length_append, List.length_singleton]; omega) q1 (((q2 0 0 2 (by omega)).trans (k2 0 0 2 (by omega))).trans hn) (((q2 0 0 3 (by omega)).trans (k2 0 0 3 (by omega))).trans how)).mono ?_
  rintro r h ⟨y, I3, J3, rfl, rfl, rfl, rfl, p1, p2⟩
  rw [List.append_assoc, List.append_assoc] at p1
  exact RIf.mk (RIf.mk ⟨rfl, rfl, p1, fun s j k z => ((p2 s j k z).trans (q2 s j k z)).trans (k2 s j k z)⟩)
theorem r_61 {l : Nat} {ow n fr x : Int32} {v : Int32} {t : List Nat} (hh : Hol fr 3 5) (h1 : RunP l ow n 3 3 x v t) : RunP (l + 1) ow n fr 3 x (v + 1) (61 :: t) := by
  intro D d I J b T hd hl hT hn how
  simp only [List.length_cons, List.length_append, List.length_nil] at hl
  refine t_X0_run (D := D + l + 3) _ _ _ _ I J b ((hh (D + l + 1) I J b).use ?_)
  have hT1 : I 0 0 5 = iZ (T.length : Int) := hT.1
  have hT2 : ¬ (24 : Int32) ≤ iZ (T.length : Int) := by rw [show (24 : Int32) = iZ 24 from rfl]; exact nle (by omega) (by omega) (by omega)
  refine ifn (by decide) (ifp (by rw [show (40 : Int32) = iZ 40 from rfl]; exact tle (by omega) (by omega) (by omega)) ⟨by unfold vp_in; decide, ifn (by rw [hT1]; exact hT2) ⟨by rw [hT1]; exact vp_iZ (by omega) (by omega) (by omega), by unfold vp_in; decide, ?_⟩⟩)
  obtain ⟨I1, hI1, k1, k2⟩ := ran_C (m := 61) (z := (STl 903).getD ((5 : Int32) * (4 : Int32) + (3 : Int32)).toNatClampNeg 0) hT (by omega) rfl
  rw [hI1]
  repeat (first | refine ifp (by decide) ?_ | refine ifn (by decide) ?_)
  rw [show (STl 902).getD (5 : Int32).toNatClampNeg 0 = (3 : Int32) from rfl, iZ_s]
  refine (h1 D (d + 1) I1 J b (T ++ [61]) (by omega) (by rw [List.length_append, List.length_singleton]; omega) k1 ((k2 0 0 2 (by omega)).trans hn) ((k2 0 0 3 (by omega)).trans how)).mono ?_
  rintro r h ⟨y, I2, J2, rfl, rfl, rfl, rfl, q1, q2⟩
  rw [List.append_assoc] at q1
  exact RIf.mk (RIf.mk ⟨rfl, rfl, q1, fun s j k z => (q2 s j k z).trans (k2 s j k z)⟩)
theorem r_70 {l : Nat} {ow n fr x : Int32} {v : Int32} {t : List Nat} (hh : Hol fr 0 6) (h1 : RunP l ow n 0 0 x v t) : RunP (l + 1) ow n fr 0 x (v * 2) (70 :: t) := by
  intro D d I J b T hd hl hT hn how
  simp only [List.length_cons, List.length_append, List.length_nil] at hl
  refine t_X0_run (D := D + l + 3) _ _ _ _ I J b ((hh (D + l + 1) I J b).use ?_)
  have hT1 : I 0 0 5 = iZ (T.length : Int) := hT.1
  have hT2 : ¬ (24 : Int32) ≤ iZ (T.length : Int) := by rw [show (24 : Int32) = iZ 24 from rfl]; exact nle (by omega) (by omega) (by omega)
  refine ifn (by decide) (ifp (by rw [show (40 : Int32) = iZ 40 from rfl]; exact tle (by omega) (by omega) (by omega)) ⟨by unfold vp_in; decide, ifn (by rw [hT1]; exact hT2) ⟨by rw [hT1]; exact vp_iZ (by omega) (by omega) (by omega), by unfold vp_in; decide, ?_⟩⟩)
  obtain ⟨I1, hI1, k1, k2⟩ := ran_C (m := 70) (z := (STl 903).getD ((6 : Int32) * (4 : Int32) + (0 : Int32)).toNatClampNeg 0) hT (by omega) rfl
  rw [hI1]
  repeat (first | refine ifp (by decide) ?_ | refine ifn (by decide) ?_)
  rw [show (STl 902).getD (6 : Int32).toNatClampNeg 0 = (0 : Int32) from rfl, iZ_s]
  refine (h1 D (d + 1) I1 J b (T ++ [70]) (by omega) (by rw [List.length_append, List.length_singleton]; omega) k1 ((k2 0 0 2 (by omega)).trans hn) ((k2 0 0 3 (by omega)).trans how)).mono ?_
  rintro r h ⟨y, I2, J2, rfl, rfl, rfl, rfl, q1, q2⟩
  rw [List.append_assoc] at q1
  exact RIf.mk (RIf.mk ⟨rfl, rfl, q1, fun s j k z => (q2 s j k z).trans (k2 s j k z)⟩)
theorem r_81 {l : Nat} {ow n fr x : Int32} {v : Int32} {t : List Nat} (hh : Hol fr 0 7) (h1 : RunP l ow n 6 0 x v t) : RunP (l + 1) ow n fr 0 x (v - 1) (81 :: t) := by
  intro D d I J b T hd hl hT hn how
  simp only [List.length_cons, List.length_append, List.length_nil] at hl
  refine t_X0_run (D := D + l + 3) _ _ _ _ I J b ((hh (D + l + 1) I J b).use ?_)
  have hT1 : I 0 0 5 = iZ (T.length : Int) := hT.1
  have hT2 : ¬ (24 : Int32) ≤ iZ (T.length : Int) := by rw [show (24 : Int32) = iZ 24 from rfl]; exact nle (by omega) (by omega) (by omega)
  refine ifn (by decide) (ifp (by rw [show (40 : Int32) = iZ 40 from rfl]; exact tle (by omega) (by omega) (by omega)) ⟨by unfold vp_in; decide, ifn (by rw [hT1]; exact hT2) ⟨by rw [hT1]; exact vp_iZ (by omega) (by omega) (by omega), by unfold vp_in; decide, ?_⟩⟩)
  obtain ⟨I1, hI1, k1, k2⟩ := ran_C (m := 81) (z := (STl 903).getD ((7 : Int32) * (4 : Int32) + (0 : Int32)).toNatClampNeg 0) hT (by omega) rfl
  rw [hI1]
  repeat (first | refine ifp (by decide) ?_ | refine ifn (by decide) ?_)
  rw [show (STl 902).getD (7 : Int32).toNatClampNeg 0 = (6 : Int32) from rfl, iZ_s]
  refine (h1 D (d + 1) I1 J b (T ++ [81]) (by omega) (by rw [List.length_append, List.length_singleton]; omega) k1 ((k2 0 0 2 (by omega)).trans hn) ((k2 0 0 3 (by omega)).trans how)).mono ?_
  rintro r h ⟨y, I2, J2, rfl, rfl, rfl, rfl, q1, q2⟩
  rw [List.append_assoc] at q1
  exact RIf.mk (RIf.mk ⟨rfl, rfl, q1, fun s j k z => (q2 s j k z).trans (k2 s j k z)⟩)
theorem r_80 {l : Nat} {ow n fr x : Int32} {v : Int32} {t : List Nat} {v2 : Int32} {t2 : List Nat} (hh : Hol fr 1 7) (h1 : RunP l ow n 6 1 x v t) (h2 : RunP l ow n ow 2 2 v2 t2) : RunP (l + 1) ow n fr 1 x (v + v2) (80 :: (t ++ t2)) := by
  intro D d I J b T hd hl hT hn how
  simp only [List.length_cons, List.length_append, List.length_nil] at hl
  refine t_X0_run (D := D + l + 3) _ _ _ _ I J b ((hh (D + l + 1) I J b).use ?_)
  have hT1 : I 0 0 5 = iZ (T.length : Int) := hT.1
  have hT2 : ¬ (24 : Int32) ≤ iZ (T.length : Int) := by rw [show (24 : Int32) = iZ 24 from rfl]; exact nle (by omega) (by omega) (by omega)
  refine ifn (by decide) (ifp (by rw [show (40 : Int32) = iZ 40 from rfl]; exact tle (by omega) (by omega) (by omega)) ⟨by unfold vp_in; decide, ifn (by rw [hT1]; exact hT2) ⟨by rw [hT1]; exact vp_iZ (by omega) (by omega) (by omega), by unfold vp_in; decide, ?_⟩⟩)
  obtain ⟨I1, hI1, k1, k2⟩ := ran_C (m := 80) (z := (STl 903).getD ((7 : Int32) * (4 : Int32) + (1 : Int32)).toNatClampNeg 0) hT (by omega) rfl
  rw [hI1]
  repeat (first | refine ifp (by decide) ?_ | refine ifn (by decide) ?_)
  rw [show (STl 902).getD (7 : Int32).toNatClampNeg 0 = (6 : Int32) from rfl, iZ_s]
  refine (h1 D (d + 1) I1 J b (T ++ [80]) (by omega) (by rw [List.length_append, List.length_singleton]; omega) k1 ((k2 0 0 2 (by omega)).trans hn) ((k2 0 0 3 (by omega)).trans how)).mono ?_
  rintro r h ⟨y, I2, J2, rfl, rfl, rfl, rfl, q1, q2⟩
  rw [List.append_assoc] at q1
  refine RIf.mk ?_
  rw [q2 0 0 3 (by omega), k2 0 0 3 (by omega), how]
  refine (h2 D (d + 1) I2 J2 b (T ++ ([80] ++ t)) (by omega) (by simp only [List.length_append, List.length_singleton]; omega) q1 (((q2 0 0 2 (by omega)).trans (k2 0 0 2 (by omega))).trans hn) (((q2 0 0 3 (by omega)).trans (k2 0 0 3 (by omega))).trans how)).mono ?_
  rintro r h ⟨y, I3, J3, rfl, rfl, rfl, rfl, p1, p2⟩
  rw [List.append_assoc, List.append_assoc] at p1
  exact RIf.mk (RIf.mk ⟨rfl, rfl, p1, fun s j k z => ((p2 s j k z).trans (q2 s j k z)).trans (k2 s j k z)⟩)
end ACT
