/-! ACTS: the class's acts by kinds; the model's -/
theorem run_F {k : Nat} {n x : Int32} (hk : k < 8) : RunP 3 (iZ (k : Int)) n (iZ (k : Int)) 0 x (kF k n x).1 (kF k n x).2 := by
  rcases (show k = 0 ∨ k = 1 ∨ k = 2 ∨ k = 3 ∨ k = 4 ∨ k = 5 ∨ k = 6 ∨ k = 7 by omega) with rfl | rfl | rfl | rfl | rfl | rfl | rfl | rfl
  · exact (r_1 (hol_of (a := 0) (by omega) (by decide))).up (by omega)
  · exact (r_20 (hol_of (a := 0) (by omega) (by decide)) (r_1 (hol_of (a := 0) (by omega) (by decide)))).up (by omega)
  · exact (r_1 (hol_of (a := 0) (by omega) (by decide))).up (by omega)
  · exact (r_1 (hol_of (a := 0) (by omega) (by decide))).up (by omega)
  · exact (r_20 (hol_of (a := 0) (by omega) (by decide)) (r_1 (hol_of (a := 0) (by omega) (by decide)))).up (by omega)
  · exact (r_1 (hol_of (a := 0) (by omega) (by decide))).up (by omega)
  · exact (r_70 (hol_of (a := 0) (by omega) (by decide)) (r_1 (hol_of (a := 0) (by omega) (by decide)))).up (by omega)
  · exact (r_81 (hol_of (a := 0) (by omega) (by decide)) (r_70 (hol_of (a := 0) (by omega) (by decide)) (r_1 (hol_of (a := 0) (by omega) (by decide))))).up (by omega)
theorem run_PH {k : Nat} {n x f : Int32} (hk : k < 8) (hh : Hol f 1 0) : RunP 4 (iZ (k : Int)) n f 1 x (kPH k n x).1 (kPH k n x).2 := r_10 hh (run_F hk)
theorem run_LH {k : Nat} {n x f : Int32} (hk : k < 8) (hh : Hol f 1 2) : RunP 5 (iZ (k : Int)) n f 1 x (kLH k n x).1 (kLH k n x).2 := r_30 hh (run_PH hk (hol_of (a := 1) (by omega) (by decide)))
theorem run_S {k : Nat} {n x : Int32} (hk : k < 8) : RunP 4 (iZ (k : Int)) n (iZ (k : Int)) 2 x (kS k n x).1 (kS k n x).2 := by
  rcases (show k = 0 ∨ k = 1 ∨ k = 2 ∨ k = 3 ∨ k = 4 ∨ k = 5 ∨ k = 6 ∨ k = 7 by omega) with rfl | rfl | rfl | rfl | rfl | rfl | rfl | rfl
  · exact (r_11 (hol_of (a := 2) (by omega) (by decide))).up (by omega)
  · exact (r_11 (hol_of (a := 2) (by omega) (by decide))).up (by omega)
  · exact (r_11 (hol_of (a := 2) (by omega) (by decide))).up (by omega)
  · exact (r_40 (hol_of (a := 2) (by omega) (by decide)) (r_11 (hol_of (a := 2) (by omega) (by decide)))).up (by omega)
  · exact (r_11 (hol_of (a := 2) (by omega) (by decide))).up (by omega)
  · exact r_60 (hol_of (a := 2) (by omega) (by decide)) ((r_40 (hol_of (a := 2) (by omega) (by decide)) (r_11 (hol_of (a := 2) (by omega) (by decide)))).up (by omega)) (run_F (by omega))
  · exact (r_11 (hol_of (a := 2) (by omega) (by decide))).up (by omega)
  · exact (r_11 (hol_of (a := 2) (by omega) (by decide))).up (by omega)
theorem run_H {k : Nat} {n x : Int32} (hk : k < 8) : RunP 6 (iZ (k : Int)) n (iZ (k : Int)) 1 x (kH k n x).1 (kH k n x).2 := by
  rcases (show k = 0 ∨ k = 1 ∨ k = 2 ∨ k = 3 ∨ k = 4 ∨ k = 5 ∨ k = 6 ∨ k = 7 by omega) with rfl | rfl | rfl | rfl | rfl | rfl | rfl | rfl
  · exact (run_PH (k := 0) hk (hol_of (a := 1) (by omega) (by decide))).up (by omega)
  · exact (run_PH (k := 1) hk (hol_of (a := 1) (by omega) (by decide))).up (by omega)
  · exact (run_LH (k := 2) hk (hol_of (a := 1) (by omega) (by decide))).up (by omega)
  · exact r_41 (hol_of (a := 1) (by omega) (by decide)) (run_LH (k := 3) hk (hol_of (a := 1) (by omega) (by decide)))
  · exact (run_PH (k := 4) hk (hol_of (a := 1) (by omega) (by decide))).up (by omega)
  · exact r_41 (hol_of (a := 1) (by omega) (by decide)) (run_LH (k := 5) hk (hol_of (a := 1) (by omega) (by decide)))
  · exact (run_PH (k := 6) hk (hol_of (a := 1) (by omega) (by decide))).up (by omega)
  · exact (r_80 (hol_of (a := 1) (by omega) (by decide)) (run_PH (k := 7) hk (hol_of (a := 1) (by omega) (by decide))) (run_S (k := 7) hk)).up (by omega)
theorem run_PT {k : Nat} {n x f : Int32} (hk : k < 8) (hh : Hol f 3 0) : RunP 7 (iZ (k : Int)) n f 3 x (kPT k n x).1 (kPT k n x).2 := r_2 hh (run_H hk) ((run_S hk).up (by omega))
theorem run_T {k : Nat} {n x : Int32} (hk : k < 8) : RunP 8 (iZ (k : Int)) n (iZ (k : Int)) 3 x (kT k n x).1 (kT k n x).2 := by
  rcases (show k = 0 ∨ k = 1 ∨ k = 2 ∨ k = 3 ∨ k = 4 ∨ k = 5 ∨ k = 6 ∨ k = 7 by omega) with rfl | rfl | rfl | rfl | rfl | rfl | rfl | rfl
  · exact (run_PT (k := 0) hk (hol_of (a := 3) (by omega) (by decide))).up (by omega)
  · exact (run_PT (k := 1) hk (hol_of (a := 3) (by omega) (by decide))).up (by omega)
  · exact (run_PT (k := 2) hk (hol_of (a := 3) (by omega) (by decide))).up (by omega)
  · exact (run_PT (k := 3) hk (hol_of (a := 3) (by omega) (by decide))).up (by omega)
  · exact r_50 (hol_of (a := 3) (by omega) (by decide)) (run_PT (k := 4) hk (hol_of (a := 3) (by omega) (by decide)))
  · exact r_61 (hol_of (a := 3) (by omega) (by decide)) (run_PT (k := 5) hk (hol_of (a := 3) (by omega) (by decide)))
  · exact (run_PT (k := 6) hk (hol_of (a := 3) (by omega) (by decide))).up (by omega)
  · exact (run_PT (k := 7) hk (hol_of (a := 3) (by omega) (by decide))).up (by omega)
def TrB (I : IM) (T : List Nat) : Prop := TrM I (T.length, T)
/-- a run of the model's method y, of body n of kind k -/
def MunP (y l k n : Nat) (x v : Int32) (t : List Nat) : Prop := ∀ (D : Nat) (I : IM) (J : JM) (b : Bool) (T : List Nat), T.length + t.length ≤ 24 → TrB I T → I 79 0 n = iZ (k : Int) → Call (D + l + 2) y [vr 10 0, vi (iZ (n : Int)), vi x] (101, I, J, R0 b) (RIf b fun w I' J' => w = v ∧ J' = J ∧ TrB I' (T ++ t) ∧ ∀ s j k, ¬ (s = 80 ∨ (s = 10 ∧ k = 74)) → I' s j k = I s j k)
theorem MunP.up {y l l' k n : Nat} {x v : Int32} {t : List Nat} (h : MunP y l k n x v t) (hl : l ≤ l') : MunP y l' k n x v t := fun D I J b T h2 h3 h4 => by
  have := h (D + (l' - l)) I J b T h2 h3 h4
  rw [show D + (l' - l) + l + 2 = D + l' + 2 by omega] at this
  exact this
section ACTM
variable {D : Nat} {I : IM} {J : JM} {b : Bool}
theorem e_ran {T : List Nat} {m : Nat} {z : Int32} (hT : TrB I T) (hl : T.length < 24) (hz : z = iZ (m : Int)) : Call (D + 1) 220 [vr 10 0, vi z] (101, I, J, R0 b) (RVf b fun I' J' => J' = J ∧ TrB I' (T ++ [m]) ∧ ∀ s j k, ¬ (s = 80 ∨ (s = 10 ∧ k = 74)) → I' s j k = I s j k) := by
  obtain ⟨h1, h2⟩ := hT
  have h1 : I 10 0 74 = iZ (T.length : Int) := h1
  refine t_X10_ran _ I J b ?_
  rw [h1, iZ_ck (by omega), iZ_s]
  refine ifn (by rw [show (24 : Int32) = iZ 24 from rfl]; exact nle (by omega) (by omega) (by omega)) ⟨vp_iZ (by omega) (by omega) (by omega), RVf.mk ⟨rfl, ⟨?_, fun k x hk => ?_⟩, fun s j k h => ?_⟩⟩
  · rw [uI_eq]
    show _ = iZ (((T ++ [m]).length : Nat) : Int)
    rw [List.length_append]
    rfl
  · have hk : (T ++ [m])[k]? = some x := hk
    rw [updI_if, if_neg (by omega), updI_if]
    rw [List.getElem?_append] at hk
    split at hk
    · next hlt =>
      rw [if_neg (by omega)]
      exact h2 k x hk
    · next hge =>
      have hlt : k - T.length < 1 := by
        rw [List.getElem?_eq_some_iff] at hk
        exact hk.1
      have hk0 : k - T.length = 0 := by omega
      rw [hk0] at hk
      cases hk
      rw [if_pos (by omega)]
      exact hz
  · rw [updI_if, if_neg (by omega), updI_if, if_neg (by omega)]
theorem m_224 {k n : Nat} {x : Int32} : MunP 224 0 k n x (x + iZ (n : Int)) [1] := by
  intro D I J b T hl hT h79
  simp only [List.length_cons, List.length_append, List.length_nil] at hl
  refine t_X10_plainFits (D := D + 1) _ _ I J b ((e_ran (D := D) (m := 1) hT (by omega) rfl).mono ?_)
  rintro r h ⟨I1, J1, rfl, rfl, rfl, k1, k2⟩
  exact RVf.mk (RIf.mk ⟨rfl, rfl, k1, k2⟩)
theorem m_230 {k n : Nat} {x : Int32} : MunP 230 0 k n x (x ^^^ iZ (n : Int)) [11] := by
  intro D I J b T hl hT h79
  simp only [List.length_cons, List.length_append, List.length_nil] at hl
  refine t_X10_plainSets (D := D + 1) _ _ I J b ((e_ran (D := D) (m := 11) hT (by omega) rfl).mono ?_)
  rintro r h ⟨I1, J1, rfl, rfl, rfl, k1, k2⟩
  exact RVf.mk (RIf.mk ⟨rfl, rfl, k1, k2⟩)
theorem m_225 {l k n : Nat} {x v : Int32} {t : List Nat} (h1 : MunP 224 l k n x v t) : MunP 225 (l + 1) k n x (v * 2) (70 :: t) := by
  intro D I J b T hl hT h79
  simp only [List.length_cons, List.length_append, List.length_nil] at hl
  refine t_X10_dripFits (D := D + l + 2) _ _ I J b ((e_ran (D := D + l + 1) (m := 70) hT (by omega) rfl).mono ?_)
  rintro r h ⟨I1, J1, rfl, rfl, rfl, k1, k2⟩
  refine RVf.mk ((h1 D I1 J1 b (T ++ [70]) (by rw [List.length_append, List.length_singleton]; omega) k1 ((k2 _ _ _ (by omega)).trans h79)).mono ?_)
  rintro r h ⟨w, I2, J2, rfl, rfl, rfl, rfl, q1, q2⟩
  rw [List.append_assoc] at q1
  exact RIf.mk (RIf.mk ⟨rfl, rfl, q1, fun s j k z => (q2 s j k z).trans (k2 s j k z)⟩)
theorem m_227 {l k n : Nat} {x v : Int32} {t : List Nat} (h1 : MunP 226 l k n x v t) : MunP 227 (l + 1) k n x (v * 2) (10 :: t) := by
  intro D I J b T hl hT h79
  simp only [List.length_cons, List.length_append, List.length_nil] at hl
  refine t_X10_plainHolds (D := D + l + 2) _ _ I J b ((e_ran (D := D + l + 1) (m := 10) hT (by omega) rfl).mono ?_)
  rintro r h ⟨I1, J1, rfl, rfl, rfl, k1, k2⟩
  refine RVf.mk ((h1 D I1 J1 b (T ++ [10]) (by rw [List.length_append, List.length_singleton]; omega) k1 ((k2 _ _ _ (by omega)).trans h79)).mono ?_)
  rintro r h ⟨w, I2, J2, rfl, rfl, rfl, rfl, q1, q2⟩
  rw [List.append_assoc] at q1
  exact RIf.mk (RIf.mk ⟨rfl, rfl, q1, fun s j k z => (q2 s j k z).trans (k2 s j k z)⟩)
theorem m_228 {l k n : Nat} {x v : Int32} {t : List Nat} (h1 : MunP 227 l k n x v t) : MunP 228 (l + 1) k n x (-v) (30 :: t) := by
  intro D I J b T hl hT h79
  simp only [List.length_cons, List.length_append, List.length_nil] at hl
  refine t_X10_legHolds (D := D + l + 2) _ _ I J b ((e_ran (D := D + l + 1) (m := 30) hT (by omega) rfl).mono ?_)
  rintro r h ⟨I1, J1, rfl, rfl, rfl, k1, k2⟩
  refine RVf.mk ((h1 D I1 J1 b (T ++ [30]) (by rw [List.length_append, List.length_singleton]; omega) k1 ((k2 _ _ _ (by omega)).trans h79)).mono ?_)
  rintro r h ⟨w, I2, J2, rfl, rfl, rfl, rfl, q1, q2⟩
  rw [List.append_assoc] at q1
  exact RIf.mk (RIf.mk ⟨rfl, rfl, q1, fun s j k z => (q2 s j k z).trans (k2 s j k z)⟩)
theorem m_231 {l k n : Nat} {x v : Int32} {t : List Nat} (h1 : MunP 230 l k n x v t) : MunP 231 (l + 1) k n x (v * 3) (40 :: t) := by
  intro D I J b T hl hT h79
  simp only [List.length_cons, List.length_append, List.length_nil] at hl
  refine t_X10_seatSets (D := D + l + 2) _ _ I J b ((e_ran (D := D + l + 1) (m := 40) hT (by omega) rfl).mono ?_)
  rintro r h ⟨I1, J1, rfl, rfl, rfl, k1, k2⟩
  refine RVf.mk ((h1 D I1 J1 b (T ++ [40]) (by rw [List.length_append, List.length_singleton]; omega) k1 ((k2 _ _ _ (by omega)).trans h79)).mono ?_)
  rintro r h ⟨w, I2, J2, rfl, rfl, rfl, rfl, q1, q2⟩
  rw [List.append_assoc] at q1
  exact RIf.mk (RIf.mk ⟨rfl, rfl, q1, fun s j k z => (q2 s j k z).trans (k2 s j k z)⟩)
theorem m_233 {l k n : Nat} {x v v2 : Int32} {t t2 : List Nat} (h1 : MunP 229 l k n x v t) (h2 : MunP 232 l k n 1 v2 t2) : MunP 233 (l + 1) k n x (v - v2) (2 :: (t ++ t2)) := by
  intro D I J b T hl hT h79
  simp only [List.length_cons, List.length_append, List.length_nil] at hl
  refine t_X10_plainTells (D := D + l + 2) _ _ I J b ((e_ran (D := D + l + 1) (m := 2) hT (by omega) rfl).mono ?_)
  rintro r h ⟨I1, J1, rfl, rfl, rfl, k1, k2⟩
  refine RVf.mk ((h1 D I1 J1 b (T ++ [2]) (by rw [List.length_append, List.length_singleton]; omega) k1 ((k2 _ _ _ (by omega)).trans h79)).mono ?_)
  rintro r h ⟨w, I2, J2, rfl, rfl, rfl, rfl, q1, q2⟩
  rw [List.append_assoc] at q1
  refine RIf.mk ((h2 D I2 J2 b (T ++ ([2] ++ t)) (by simp only [List.length_append, List.length_singleton]; omega) q1 (((q2 _ _ _ (by omega)).trans (k2 _ _ _ (by omega))).trans h79)).mono ?_)
  rintro r h ⟨w2, I3, J3, rfl, rfl, rfl, rfl, p1, p2⟩
  rw [List.append_assoc, List.append_assoc] at p1
  exact RIf.mk (RIf.mk ⟨rfl, rfl, p1, fun s j k z => ((p2 s j k z).trans (q2 s j k z)).trans (k2 s j k z)⟩)
theorem m_226_0 {l n : Nat} {x v : Int32} {t : List Nat} (hn : n < 50) (h1 : MunP 224 l 0 n x v t) : MunP 226 (l + 1) 0 n x (v) (t) := by
  intro D I J b T hl hT h79
  have hv : vp_in (iZ (n : Int)) 50 := vp_iZ (by omega) (by omega) (by omega)
  refine t_X10_fitting (D := D + l + 2) _ _ I J b ⟨hv, ?_⟩
  rw [iZ_ck (by omega), h79]
  refine (p_underM (D := D + l + 1) (a := 0) (k := 1) (by omega) (by omega)).mono ?_
  rintro r h ⟨rfl, rfl⟩
  refine RIf.mk ?_
  try rw [h79]
  repeat (first | refine ifp (by decide) ?_ | refine ifn (by decide) ?_ | refine ⟨hv, ?_⟩)
  refine (h1 D I J b T (by omega) hT h79).mono ?_
  rintro r h ⟨w, I2, J2, rfl, rfl, rfl, rfl, q1, q2⟩
  exact RIf.mk (RIf.mk ⟨rfl, rfl, q1, q2⟩)
theorem m_226_2 {l n : Nat} {x v : Int32} {t : List Nat} (hn : n < 50) (h1 : MunP 224 l 2 n x v t) : MunP 226 (l + 1) 2 n x (v) (t) := by
  intro D I J b T hl hT h79
  have hv : vp_in (iZ (n : Int)) 50 := vp_iZ (by omega) (by omega) (by omega)
  refine t_X10_fitting (D := D + l + 2) _ _ I J b ⟨hv, ?_⟩
  rw [iZ_ck (by omega), h79]
  refine (p_underM (D := D + l + 1) (a := 2) (k := 1) (by omega) (by omega)).mono ?_
  rintro r h ⟨rfl, rfl⟩
  refine RIf.mk ?_
  try rw [h79]
  repeat (first | refine ifp (by decide) ?_ | refine ifn (by decide) ?_ | refine ⟨hv, ?_⟩)
  refine (h1 D I J b T (by omega) hT h79).mono ?_
  rintro r h ⟨w, I2, J2, rfl, rfl, rfl, rfl, q1, q2⟩
  exact RIf.mk (RIf.mk ⟨rfl, rfl, q1, q2⟩)
theorem m_226_3 {l n : Nat} {x v : Int32} {t : List Nat} (hn : n < 50) (h1 : MunP 224 l 3 n x v t) : MunP 226 (l + 1) 3 n x (v) (t) := by
  intro D I J b T hl hT h79
  have hv : vp_in (iZ (n : Int)) 50 := vp_iZ (by omega) (by omega) (by omega)
  refine t_X10_fitting (D := D + l + 2) _ _ I J b ⟨hv, ?_⟩
  rw [iZ_ck (by omega), h79]
  refine (p_underM (D := D + l + 1) (a := 3) (k := 1) (by omega) (by omega)).mono ?_
  rintro r h ⟨rfl, rfl⟩
  refine RIf.mk ?_
  try rw [h79]
  repeat (first | refine ifp (by decide) ?_ | refine ifn (by decide) ?_ | refine ⟨hv, ?_⟩)
  refine (h1 D I J b T (by omega) hT h79).mono ?_
  rintro r h ⟨w, I2, J2, rfl, rfl, rfl, rfl, q1, q2⟩
  exact RIf.mk (RIf.mk ⟨rfl, rfl, q1, q2⟩)
theorem m_226_5 {l n : Nat} {x v : Int32} {t : List Nat} (hn : n < 50) (h1 : MunP 224 l 5 n x v t) : MunP 226 (l + 1) 5 n x (v) (t) := by
  intro D I J b T hl hT h79
  have hv : vp_in (iZ (n : Int)) 50 := vp_iZ (by omega) (by omega) (by omega)
  refine t_X10_fitting (D := D + l + 2) _ _ I J b ⟨hv, ?_⟩
  rw [iZ_ck (by omega), h79]
  refine (p_underM (D := D + l + 1) (a := 5) (k := 1) (by omega) (by omega)).mono ?_
  rintro r h ⟨rfl, rfl⟩
  refine RIf.mk ?_
  try rw [h79]
  repeat (first | refine ifp (by decide) ?_ | refine ifn (by decide) ?_ | refine ⟨hv, ?_⟩)
  refine (h1 D I J b T (by omega) hT h79).mono ?_
  rintro r h ⟨w, I2, J2, rfl, rfl, rfl, rfl, q1, q2⟩
  exact RIf.mk (RIf.mk ⟨rfl, rfl, q1, q2⟩)
theorem m_226_1 {l n : Nat} {x v : Int32} {t : List Nat} (hn : n < 50) (h1 : MunP 224 l 1 n x v t) : MunP 226 (l + 1) 1 n x (v + 3) (20 :: t) := by
  intro D I J b T hl hT h79
  simp only [List.length_cons, List.length_append, List.length_nil] at hl
  have hv : vp_in (iZ (n : Int)) 50 := vp_iZ (by omega) (by omega) (by omega)
  refine t_X10_fitting (D := D + l + 2) _ _ I J b ⟨hv, ?_⟩
  rw [iZ_ck (by omega), h79]
  refine (p_underM (D := D + l + 1) (a := 1) (k := 1) (by omega) (by omega)).mono ?_
  rintro r h ⟨rfl, rfl⟩
  refine RIf.mk ?_
  try rw [h79]
  repeat (first | refine ifp (by decide) ?_ | refine ifn (by decide) ?_ | refine ⟨hv, ?_⟩)
  refine (e_ran (D := D + l + 1) (m := 20) hT (by omega) rfl).mono ?_
  rintro r h ⟨I1, J1, rfl, rfl, rfl, k1, k2⟩
  refine RVf.mk ((h1 D I1 J1 b (T ++ [20]) (by rw [List.length_append, List.length_singleton]; omega) k1 ((k2 _ _ _ (by omega)).trans h79)).mono ?_)
  rintro r h ⟨w, I2, J2, rfl, rfl, rfl, rfl, q1, q2⟩
  rw [List.append_assoc] at q1
  exact RIf.mk (RIf.mk ⟨rfl, rfl, q1, fun s j k z => (q2 s j k z).trans (k2 s j k z)⟩)
theorem m_226_4 {l n : Nat} {x v : Int32} {t : List Nat} (hn : n < 50) (h1 : MunP 224 l 4 n x v t) : MunP 226 (l + 1) 4 n x (v + 3) (20 :: t) := by
  intro D I J b T hl hT h79
  simp only [List.length_cons, List.length_append, List.length_nil] at hl
  have hv : vp_in (iZ (n : Int)) 50 := vp_iZ (by omega) (by omega) (by omega)
  refine t_X10_fitting (D := D + l + 2) _ _ I J b ⟨hv, ?_⟩
  rw [iZ_ck (by omega), h79]
  refine (p_underM (D := D + l + 1) (a := 4) (k := 1) (by omega) (by omega)).mono ?_
  rintro r h ⟨rfl, rfl⟩
  refine RIf.mk ?_
  try rw [h79]
  repeat (first | refine ifp (by decide) ?_ | refine ifn (by decide) ?_ | refine ⟨hv, ?_⟩)
  refine (e_ran (D := D + l + 1) (m := 20) hT (by omega) rfl).mono ?_
  rintro r h ⟨I1, J1, rfl, rfl, rfl, k1, k2⟩
  refine RVf.mk ((h1 D I1 J1 b (T ++ [20]) (by rw [List.length_append, List.length_singleton]; omega) k1 ((k2 _ _ _ (by omega)).trans h79)).mono ?_)
  rintro r h ⟨w, I2, J2, rfl, rfl, rfl, rfl, q1, q2⟩
  rw [List.append_assoc] at q1
  exact RIf.mk (RIf.mk ⟨rfl, rfl, q1, fun s j k z => (q2 s j k z).trans (k2 s j k z)⟩)
theorem m_226_6 {l n : Nat} {x v : Int32} {t : List Nat} (hn : n < 50) (h1 : MunP 225 l 6 n x v t) : MunP 226 (l + 1) 6 n x (v) (t) := by
  intro D I J b T hl hT h79
  have hv : vp_in (iZ (n : Int)) 50 := vp_iZ (by omega) (by omega) (by omega)
  refine t_X10_fitting (D := D + l + 2) _ _ I J b ⟨hv, ?_⟩
  rw [iZ_ck (by omega), h79]
  refine (p_underM (D := D + l + 1) (a := 6) (k := 1) (by omega) (by omega)).mono ?_
  rintro r h ⟨rfl, rfl⟩
  refine RIf.mk ?_
  try rw [h79]
  repeat (first | refine ifp (by decide) ?_ | refine ifn (by decide) ?_ | refine ⟨hv, ?_⟩)
  refine (h1 D I J b T (by omega) hT h79).mono ?_
  rintro r h ⟨w, I2, J2, rfl, rfl, rfl, rfl, q1, q2⟩
  exact RIf.mk (RIf.mk ⟨rfl, rfl, q1, q2⟩)
theorem m_226_7 {l n : Nat} {x v : Int32} {t : List Nat} (hn : n < 50) (h1 : MunP 225 l 7 n x v t) : MunP 226 (l + 1) 7 n x (v - 1) (81 :: t) := by
  intro D I J b T hl hT h79
  simp only [List.length_cons, List.length_append, List.length_nil] at hl
  have hv : vp_in (iZ (n : Int)) 50 := vp_iZ (by omega) (by omega) (by omega)
  refine t_X10_fitting (D := D + l + 2) _ _ I J b ⟨hv, ?_⟩
  rw [iZ_ck (by omega), h79]
  refine (p_underM (D := D + l + 1) (a := 7) (k := 1) (by omega) (by omega)).mono ?_
  rintro r h ⟨rfl, rfl⟩
  refine RIf.mk ?_
  try rw [h79]
  repeat (first | refine ifp (by decide) ?_ | refine ifn (by decide) ?_ | refine ⟨hv, ?_⟩)
  refine (e_ran (D := D + l + 1) (m := 81) hT (by omega) rfl).mono ?_
  rintro r h ⟨I1, J1, rfl, rfl, rfl, k1, k2⟩
  refine RVf.mk ((h1 D I1 J1 b (T ++ [81]) (by rw [List.length_append, List.length_singleton]; omega) k1 ((k2 _ _ _ (by omega)).trans h79)).mono ?_)
  rintro r h ⟨w, I2, J2, rfl, rfl, rfl, rfl, q1, q2⟩
  rw [List.append_assoc] at q1
  exact RIf.mk (RIf.mk ⟨rfl, rfl, q1, fun s j k z => (q2 s j k z).trans (k2 s j k z)⟩)
theorem m_229_0 {l n : Nat} {x v : Int32} {t : List Nat} (hn : n < 50) (h1 : MunP 227 l 0 n x v t) : MunP 229 (l + 1) 0 n x (v) (t) := by
  intro D I J b T hl hT h79
  have hv : vp_in (iZ (n : Int)) 50 := vp_iZ (by omega) (by omega) (by omega)
  refine t_X10_holding (D := D + l + 2) _ _ I J b ⟨hv, ?_⟩
  rw [iZ_ck (by omega), h79]
  refine (p_underM (D := D + l + 1) (a := 0) (k := 3) (by omega) (by omega)).mono ?_
  rintro r h ⟨rfl, rfl⟩
  refine RIf.mk ?_
  try rw [h79]
  repeat (first | refine ifp (by decide) ?_ | refine ifn (by decide) ?_ | refine ⟨hv, ?_⟩)
  refine (h1 D I J b T (by omega) hT h79).mono ?_
  rintro r h ⟨w, I2, J2, rfl, rfl, rfl, rfl, q1, q2⟩
  exact RIf.mk (RIf.mk ⟨rfl, rfl, q1, q2⟩)
theorem m_229_1 {l n : Nat} {x v : Int32} {t : List Nat} (hn : n < 50) (h1 : MunP 227 l 1 n x v t) : MunP 229 (l + 1) 1 n x (v) (t) := by
  intro D I J b T hl hT h79
  have hv : vp_in (iZ (n : Int)) 50 := vp_iZ (by omega) (by omega) (by omega)
  refine t_X10_holding (D := D + l + 2) _ _ I J b ⟨hv, ?_⟩
  rw [iZ_ck (by omega), h79]
  refine (p_underM (D := D + l + 1) (a := 1) (k := 3) (by omega) (by omega)).mono ?_
  rintro r h ⟨rfl, rfl⟩
  refine RIf.mk ?_
  try rw [h79]
  repeat (first | refine ifp (by decide) ?_ | refine ifn (by decide) ?_ | refine ⟨hv, ?_⟩)
  refine (h1 D I J b T (by omega) hT h79).mono ?_
  rintro r h ⟨w, I2, J2, rfl, rfl, rfl, rfl, q1, q2⟩
  exact RIf.mk (RIf.mk ⟨rfl, rfl, q1, q2⟩)
theorem m_229_4 {l n : Nat} {x v : Int32} {t : List Nat} (hn : n < 50) (h1 : MunP 227 l 4 n x v t) : MunP 229 (l + 1) 4 n x (v) (t) := by
  intro D I J b T hl hT h79
  have hv : vp_in (iZ (n : Int)) 50 := vp_iZ (by omega) (by omega) (by omega)
  refine t_X10_holding (D := D + l + 2) _ _ I J b ⟨hv, ?_⟩
  rw [iZ_ck (by omega), h79]
  refine (p_underM (D := D + l + 1) (a := 4) (k := 3) (by omega) (by omega)).mono ?_
  rintro r h ⟨rfl, rfl⟩
  refine RIf.mk ?_
  try rw [h79]
  repeat (first | refine ifp (by decide) ?_ | refine ifn (by decide) ?_ | refine ⟨hv, ?_⟩)
  refine (h1 D I J b T (by omega) hT h79).mono ?_
  rintro r h ⟨w, I2, J2, rfl, rfl, rfl, rfl, q1, q2⟩
  exact RIf.mk (RIf.mk ⟨rfl, rfl, q1, q2⟩)
theorem m_229_6 {l n : Nat} {x v : Int32} {t : List Nat} (hn : n < 50) (h1 : MunP 227 l 6 n x v t) : MunP 229 (l + 1) 6 n x (v) (t) := by
  intro D I J b T hl hT h79
  have hv : vp_in (iZ (n : Int)) 50 := vp_iZ (by omega) (by omega) (by omega)
  refine t_X10_holding (D := D + l + 2) _ _ I J b ⟨hv, ?_⟩
  rw [iZ_ck (by omega), h79]
  refine (p_underM (D := D + l + 1) (a := 6) (k := 3) (by omega) (by omega)).mono ?_
  rintro r h ⟨rfl, rfl⟩
  refine RIf.mk ?_
  try rw [h79]
  repeat (first | refine ifp (by decide) ?_ | refine ifn (by decide) ?_ | refine ⟨hv, ?_⟩)
  refine (h1 D I J b T (by omega) hT h79).mono ?_
  rintro r h ⟨w, I2, J2, rfl, rfl, rfl, rfl, q1, q2⟩
  exact RIf.mk (RIf.mk ⟨rfl, rfl, q1, q2⟩)
theorem m_229_2 {l n : Nat} {x v : Int32} {t : List Nat} (hn : n < 50) (h1 : MunP 228 l 2 n x v t) : MunP 229 (l + 1) 2 n x (v) (t) := by
  intro D I J b T hl hT h79
  have hv : vp_in (iZ (n : Int)) 50 := vp_iZ (by omega) (by omega) (by omega)
  refine t_X10_holding (D := D + l + 2) _ _ I J b ⟨hv, ?_⟩
  rw [iZ_ck (by omega), h79]
  refine (p_underM (D := D + l + 1) (a := 2) (k := 3) (by omega) (by omega)).mono ?_
  rintro r h ⟨rfl, rfl⟩
  refine RIf.mk ?_
  try rw [h79]
  repeat (first | refine ifp (by decide) ?_ | refine ifn (by decide) ?_ | refine ⟨hv, ?_⟩)
  refine (h1 D I J b T (by omega) hT h79).mono ?_
  rintro r h ⟨w, I2, J2, rfl, rfl, rfl, rfl, q1, q2⟩
  exact RIf.mk (RIf.mk ⟨rfl, rfl, q1, q2⟩)
theorem m_229_3 {l n : Nat} {x v : Int32} {t : List Nat} (hn : n < 50) (h1 : MunP 228 l 3 n (x + 1) v t) : MunP 229 (l + 1) 3 n x (v) (41 :: t) := by
  intro D I J b T hl hT h79
  simp only [List.length_cons, List.length_append, List.length_nil] at hl
  have hv : vp_in (iZ (n : Int)) 50 := vp_iZ (by omega) (by omega) (by omega)
  refine t_X10_holding (D := D + l + 2) _ _ I J b ⟨hv, ?_⟩
  rw [iZ_ck (by omega), h79]
  refine (p_underM (D := D + l + 1) (a := 3) (k := 3) (by omega) (by omega)).mono ?_
  rintro r h ⟨rfl, rfl⟩
  refine RIf.mk ?_
  try rw [h79]
  repeat (first | refine ifp (by decide) ?_ | refine ifn (by decide) ?_ | refine ⟨hv, ?_⟩)
  refine (e_ran (D := D + l + 1) (m := 41) hT (by omega) rfl).mono ?_
  rintro r h ⟨I1, J1, rfl, rfl, rfl, k1, k2⟩
  refine RVf.mk ((h1 D I1 J1 b (T ++ [41]) (by rw [List.length_append, List.length_singleton]; omega) k1 ((k2 _ _ _ (by omega)).trans h79)).mono ?_)
  rintro r h ⟨w, I2, J2, rfl, rfl, rfl, rfl, q1, q2⟩
  rw [List.append_assoc] at q1
  exact RIf.mk (RIf.mk ⟨rfl, rfl, q1, fun s j k z => (q2 s j k z).trans (k2 s j k z)⟩)
theorem m_229_5 {l n : Nat} {x v : Int32} {t : List Nat} (hn : n < 50) (h1 : MunP 228 l 5 n (x + 1) v t) : MunP 229 (l + 1) 5 n x (v) (41 :: t) := by
  intro D I J b T hl hT h79
  simp only [List.length_cons, List.length_append, List.length_nil] at hl
  have hv : vp_in (iZ (n : Int)) 50 := vp_iZ (by omega) (by omega) (by omega)
  refine t_X10_holding (D := D + l + 2) _ _ I J b ⟨hv, ?_⟩
  rw [iZ_ck (by omega), h79]
  refine (p_underM (D := D + l + 1) (a := 5) (k := 3) (by omega) (by omega)).mono ?_
  rintro r h ⟨rfl, rfl⟩
  refine RIf.mk ?_
  try rw [h79]
  repeat (first | refine ifp (by decide) ?_ | refine ifn (by decide) ?_ | refine ⟨hv, ?_⟩)
  refine (e_ran (D := D + l + 1) (m := 41) hT (by omega) rfl).mono ?_
  rintro r h ⟨I1, J1, rfl, rfl, rfl, k1, k2⟩
  refine RVf.mk ((h1 D I1 J1 b (T ++ [41]) (by rw [List.length_append, List.length_singleton]; omega) k1 ((k2 _ _ _ (by omega)).trans h79)).mono ?_)
  rintro r h ⟨w, I2, J2, rfl, rfl, rfl, rfl, q1, q2⟩
  rw [List.append_assoc] at q1
  exact RIf.mk (RIf.mk ⟨rfl, rfl, q1, fun s j k z => (q2 s j k z).trans (k2 s j k z)⟩)
theorem m_229_7 {l n : Nat} {x v v2 : Int32} {t : List Nat} {t2 : List Nat} (hn : n < 50) (h1 : MunP 227 l 7 n x v t) (h2 : MunP 232 l 7 n 2 v2 t2) : MunP 229 (l + 1) 7 n x (v + v2) (80 :: (t ++ t2)) := by
  intro D I J b T hl hT h79
  simp only [List.length_cons, List.length_append, List.length_nil] at hl
  have hv : vp_in (iZ (n : Int)) 50 := vp_iZ (by omega) (by omega) (by omega)
  refine t_X10_holding (D := D + l + 2) _ _ I J b ⟨hv, ?_⟩
  rw [iZ_ck (by omega), h79]
  refine (p_underM (D := D + l + 1) (a := 7) (k := 3) (by omega) (by omega)).mono ?_
  rintro r h ⟨rfl, rfl⟩
  refine RIf.mk ?_
  try rw [h79]
  repeat (first | refine ifp (by decide) ?_ | refine ifn (by decide) ?_ | refine ⟨hv, ?_⟩)
  refine (e_ran (D := D + l + 1) (m := 80) hT (by omega) rfl).mono ?_
  rintro r h ⟨I1, J1, rfl, rfl, rfl, k1, k2⟩
  refine RVf.mk ((h1 D I1 J1 b (T ++ [80]) (by rw [List.length_append, List.length_singleton]; omega) k1 ((k2 _ _ _ (by omega)).trans h79)).mono ?_)
  rintro r h ⟨w, I2, J2, rfl, rfl, rfl, rfl, q1, q2⟩
  rw [List.append_assoc] at q1
  refine RIf.mk ((h2 D I2 J2 b (T ++ ([80] ++ _)) (by simp only [List.length_append, List.length_singleton]; omega) q1 (((q2 _ _ _ (by omega)).trans (k2 _ _ _ (by omega))).trans h79)).mono ?_)
  rintro r h ⟨w2, I3, J3, rfl, rfl, rfl, rfl, p1, p2⟩
  rw [List.append_assoc, List.append_assoc] at p1
  exact RIf.mk (RIf.mk ⟨rfl, rfl, p1, fun s j k z => ((p2 s j k z).trans (q2 s j k z)).trans (k2 s j k z)⟩)
theorem m_232_0 {l n : Nat} {x v : Int32} {t : List Nat} (hn : n < 50) (h1 : MunP 230 l 0 n x v t) : MunP 232 (l + 1) 0 n x (v) (t) := by
  intro D I J b T hl hT h79
  have hv : vp_in (iZ (n : Int)) 50 := vp_iZ (by omega) (by omega) (by omega)
  refine t_X10_setting (D := D + l + 2) _ _ I J b ⟨hv, ?_⟩
  rw [iZ_ck (by omega), h79]
  repeat (first | refine ifp (by decide) ?_ | refine ifn (by decide) ?_ | refine ⟨hv, ?_⟩)
  refine (h1 D I J b T (by omega) hT h79).mono ?_
  rintro r h ⟨w, I2, J2, rfl, rfl, rfl, rfl, q1, q2⟩
  exact RIf.mk (RIf.mk ⟨rfl, rfl, q1, q2⟩)
theorem m_232_1 {l n : Nat} {x v : Int32} {t : List Nat} (hn : n < 50) (h1 : MunP 230 l 1 n x v t) : MunP 232 (l + 1) 1 n x (v) (t) := by
  intro D I J b T hl hT h79
  have hv : vp_in (iZ (n : Int)) 50 := vp_iZ (by omega) (by omega) (by omega)
  refine t_X10_setting (D := D + l + 2) _ _ I J b ⟨hv, ?_⟩
  rw [iZ_ck (by omega), h79]
  repeat (first | refine ifp (by decide) ?_ | refine ifn (by decide) ?_ | refine ⟨hv, ?_⟩)
  refine (h1 D I J b T (by omega) hT h79).mono ?_
  rintro r h ⟨w, I2, J2, rfl, rfl, rfl, rfl, q1, q2⟩
  exact RIf.mk (RIf.mk ⟨rfl, rfl, q1, q2⟩)
theorem m_232_2 {l n : Nat} {x v : Int32} {t : List Nat} (hn : n < 50) (h1 : MunP 230 l 2 n x v t) : MunP 232 (l + 1) 2 n x (v) (t) := by
  intro D I J b T hl hT h79
  have hv : vp_in (iZ (n : Int)) 50 := vp_iZ (by omega) (by omega) (by omega)
  refine t_X10_setting (D := D + l + 2) _ _ I J b ⟨hv, ?_⟩
  rw [iZ_ck (by omega), h79]
  repeat (first | refine ifp (by decide) ?_ | refine ifn (by decide) ?_ | refine ⟨hv, ?_⟩)
  refine (h1 D I J b T (by omega) hT h79).mono ?_
  rintro r h ⟨w, I2, J2, rfl, rfl, rfl, rfl, q1, q2⟩
  exact RIf.mk (RIf.mk ⟨rfl, rfl, q1, q2⟩)
theorem m_232_4 {l n : Nat} {x v : Int32} {t : List Nat} (hn : n < 50) (h1 : MunP 230 l 4 n x v t) : MunP 232 (l + 1) 4 n x (v) (t) := by
  intro D I J b T hl hT h79
  have hv : vp_in (iZ (n : Int)) 50 := vp_iZ (by omega) (by omega) (by omega)
  refine t_X10_setting (D := D + l + 2) _ _ I J b ⟨hv, ?_⟩
  rw [iZ_ck (by omega), h79]
  repeat (first | refine ifp (by decide) ?_ | refine ifn (by decide) ?_ | refine ⟨hv, ?_⟩)
  refine (h1 D I J b T (by omega) hT h79).mono ?_
  rintro r h ⟨w, I2, J2, rfl, rfl, rfl, rfl, q1, q2⟩
  exact RIf.mk (RIf.mk ⟨rfl, rfl, q1, q2⟩)
theorem m_232_6 {l n : Nat} {x v : Int32} {t : List Nat} (hn : n < 50) (h1 : MunP 230 l 6 n x v t) : MunP 232 (l + 1) 6 n x (v) (t) := by
  intro D I J b T hl hT h79
  have hv : vp_in (iZ (n : Int)) 50 := vp_iZ (by omega) (by omega) (by omega)
  refine t_X10_setting (D := D + l + 2) _ _ I J b ⟨hv, ?_⟩
  rw [iZ_ck (by omega), h79]
  repeat (first | refine ifp (by decide) ?_ | refine ifn (by decide) ?_ | refine ⟨hv, ?_⟩)
  refine (h1 D I J b T (by omega) hT h79).mono ?_
  rintro r h ⟨w, I2, J2, rfl, rfl, rfl, rfl, q1, q2⟩
  exact RIf.mk (RIf.mk ⟨rfl, rfl, q1, q2⟩)
theorem m_232_7 {l n : Nat} {x v : Int32} {t : List Nat} (hn : n < 50) (h1 : MunP 230 l 7 n x v t) : MunP 232 (l + 1) 7 n x (v) (t) := by
  intro D I J b T hl hT h79
  have hv : vp_in (iZ (n : Int)) 50 := vp_iZ (by omega) (by omega) (by omega)
  refine t_X10_setting (D := D + l + 2) _ _ I J b ⟨hv, ?_⟩
  rw [iZ_ck (by omega), h79]
  repeat (first | refine ifp (by decide) ?_ | refine ifn (by decide) ?_ | refine ⟨hv, ?_⟩)
  refine (h1 D I J b T (by omega) hT h79).mono ?_
  rintro r h ⟨w, I2, J2, rfl, rfl, rfl, rfl, q1, q2⟩
  exact RIf.mk (RIf.mk ⟨rfl, rfl, q1, q2⟩)
theorem m_232_3 {l n : Nat} {x v : Int32} {t : List Nat} (hn : n < 50) (h1 : MunP 231 l 3 n x v t) : MunP 232 (l + 1) 3 n x (v) (t) := by
  intro D I J b T hl hT h79
  have hv : vp_in (iZ (n : Int)) 50 := vp_iZ (by omega) (by omega) (by omega)
  refine t_X10_setting (D := D + l + 2) _ _ I J b ⟨hv, ?_⟩
  rw [iZ_ck (by omega), h79]
  repeat (first | refine ifp (by decide) ?_ | refine ifn (by decide) ?_ | refine ⟨hv, ?_⟩)
  refine (h1 D I J b T (by omega) hT h79).mono ?_
  rintro r h ⟨w, I2, J2, rfl, rfl, rfl, rfl, q1, q2⟩
  exact RIf.mk (RIf.mk ⟨rfl, rfl, q1, q2⟩)
theorem m_232_5 {l n : Nat} {x v v2 : Int32} {t : List Nat} {t2 : List Nat} (hn : n < 50) (h1 : MunP 231 l 5 n x v t) (h2 : MunP 226 l 5 n 2 v2 t2) : MunP 232 (l + 1) 5 n x (v - v2) (60 :: (t ++ t2)) := by
  intro D I J b T hl hT h79
  simp only [List.length_cons, List.length_append, List.length_nil] at hl
  have hv : vp_in (iZ (n : Int)) 50 := vp_iZ (by omega) (by omega) (by omega)
  refine t_X10_setting (D := D + l + 2) _ _ I J b ⟨hv, ?_⟩
  rw [iZ_ck (by omega), h79]
  repeat (first | refine ifp (by decide) ?_ | refine ifn (by decide) ?_ | refine ⟨hv, ?_⟩)
  refine (e_ran (D := D + l + 1) (m := 60) hT (by omega) rfl).mono ?_
  rintro r h ⟨I1, J1, rfl, rfl, rfl, k1, k2⟩
  refine RVf.mk ((h1 D I1 J1 b (T ++ [60]) (by rw [List.length_append, List.length_singleton]; omega) k1 ((k2 _ _ _ (by omega)).trans h79)).mono ?_)
  rintro r h ⟨w, I2, J2, rfl, rfl, rfl, rfl, q1, q2⟩
  rw [List.append_assoc] at q1
  refine RIf.mk ((h2 D I2 J2 b (T ++ ([60] ++ _)) (by simp only [List.length_append, List.length_singleton]; omega) q1 (((q2 _ _ _ (by omega)).trans (k2 _ _ _ (by omega))).trans h79)).mono ?_)
  rintro r h ⟨w2, I3, J3, rfl, rfl, rfl, rfl, p1, p2⟩
  rw [List.append_assoc, List.append_assoc] at p1
  exact RIf.mk (RIf.mk ⟨rfl, rfl, p1, fun s j k z => ((p2 s j k z).trans (q2 s j k z)).trans (k2 s j k z)⟩)
theorem m_234_0 {l n : Nat} {x v : Int32} {t : List Nat} (hn : n < 50) (h1 : MunP 233 l 0 n x v t) : MunP 234 (l + 1) 0 n x (v) (t) := by
  intro D I J b T hl hT h79
  have hv : vp_in (iZ (n : Int)) 50 := vp_iZ (by omega) (by omega) (by omega)
  refine t_X10_telling (D := D + l + 2) _ _ I J b ⟨hv, ?_⟩
  rw [iZ_ck (by omega), h79]
  repeat (first | refine ifp (by decide) ?_ | refine ifn (by decide) ?_ | refine ⟨hv, ?_⟩)
  refine (h1 D I J b T (by omega) hT h79).mono ?_
  rintro r h ⟨w, I2, J2, rfl, rfl, rfl, rfl, q1, q2⟩
  exact RIf.mk (RIf.mk ⟨rfl, rfl, q1, q2⟩)
theorem m_234_1 {l n : Nat} {x v : Int32} {t : List Nat} (hn : n < 50) (h1 : MunP 233 l 1 n x v t) : MunP 234 (l + 1) 1 n x (v) (t) := by
  intro D I J b T hl hT h79
  have hv : vp_in (iZ (n : Int)) 50 := vp_iZ (by omega) (by omega) (by omega)
  refine t_X10_telling (D := D + l + 2) _ _ I J b ⟨hv, ?_⟩
  rw [iZ_ck (by omega), h79]
  repeat (first | refine ifp (by decide) ?_ | refine ifn (by decide) ?_ | refine ⟨hv, ?_⟩)
  refine (h1 D I J b T (by omega) hT h79).mono ?_
  rintro r h ⟨w, I2, J2, rfl, rfl, rfl, rfl, q1, q2⟩
  exact RIf.mk (RIf.mk ⟨rfl, rfl, q1, q2⟩)
theorem m_234_2 {l n : Nat} {x v : Int32} {t : List Nat} (hn : n < 50) (h1 : MunP 233 l 2 n x v t) : MunP 234 (l + 1) 2 n x (v) (t) := by
  intro D I J b T hl hT h79
  have hv : vp_in (iZ (n : Int)) 50 := vp_iZ (by omega) (by omega) (by omega)
  refine t_X10_telling (D := D + l + 2) _ _ I J b ⟨hv, ?_⟩
  rw [iZ_ck (by omega), h79]
  repeat (first | refine ifp (by decide) ?_ | refine ifn (by decide) ?_ | refine ⟨hv, ?_⟩)
  refine (h1 D I J b T (by omega) hT h79).mono ?_
  rintro r h ⟨w, I2, J2, rfl, rfl, rfl, rfl, q1, q2⟩
  exact RIf.mk (RIf.mk ⟨rfl, rfl, q1, q2⟩)
theorem m_234_3 {l n : Nat} {x v : Int32} {t : List Nat} (hn : n < 50) (h1 : MunP 233 l 3 n x v t) : MunP 234 (l + 1) 3 n x (v) (t) := by
  intro D I J b T hl hT h79
  have hv : vp_in (iZ (n : Int)) 50 := vp_iZ (by omega) (by omega) (by omega)
  refine t_X10_telling (D := D + l + 2) _ _ I J b ⟨hv, ?_⟩
  rw [iZ_ck (by omega), h79]
  repeat (first | refine ifp (by decide) ?_ | refine ifn (by decide) ?_ | refine ⟨hv, ?_⟩)
  refine (h1 D I J b T (by omega) hT h79).mono ?_
  rintro r h ⟨w, I2, J2, rfl, rfl, rfl, rfl, q1, q2⟩
  exact RIf.mk (RIf.mk ⟨rfl, rfl, q1, q2⟩)
theorem m_234_6 {l n : Nat} {x v : Int32} {t : List Nat} (hn : n < 50) (h1 : MunP 233 l 6 n x v t) : MunP 234 (l + 1) 6 n x (v) (t) := by
  intro D I J b T hl hT h79
  have hv : vp_in (iZ (n : Int)) 50 := vp_iZ (by omega) (by omega) (by omega)
  refine t_X10_telling (D := D + l + 2) _ _ I J b ⟨hv, ?_⟩
  rw [iZ_ck (by omega), h79]
  repeat (first | refine ifp (by decide) ?_ | refine ifn (by decide) ?_ | refine ⟨hv, ?_⟩)
  refine (h1 D I J b T (by omega) hT h79).mono ?_
  rintro r h ⟨w, I2, J2, rfl, rfl, rfl, rfl, q1, q2⟩
  exact RIf.mk (RIf.mk ⟨rfl, rfl, q1, q2⟩)
theorem m_234_7 {l n : Nat} {x v : Int32} {t : List Nat} (hn : n < 50) (h1 : MunP 233 l 7 n x v t) : MunP 234 (l + 1) 7 n x (v) (t) := by
  intro D I J b T hl hT h79
  have hv : vp_in (iZ (n : Int)) 50 := vp_iZ (by omega) (by omega) (by omega)
  refine t_X10_telling (D := D + l + 2) _ _ I J b ⟨hv, ?_⟩
  rw [iZ_ck (by omega), h79]
  repeat (first | refine ifp (by decide) ?_ | refine ifn (by decide) ?_ | refine ⟨hv, ?_⟩)
  refine (h1 D I J b T (by omega) hT h79).mono ?_
  rintro r h ⟨w, I2, J2, rfl, rfl, rfl, rfl, q1, q2⟩
  exact RIf.mk (RIf.mk ⟨rfl, rfl, q1, q2⟩)
theorem m_234_4 {l n : Nat} {x v : Int32} {t : List Nat} (hn : n < 50) (h1 : MunP 233 l 4 n x v t) : MunP 234 (l + 1) 4 n x (v ^^^ 5) (50 :: t) := by
  intro D I J b T hl hT h79
  simp only [List.length_cons, List.length_append, List.length_nil] at hl
  have hv : vp_in (iZ (n : Int)) 50 := vp_iZ (by omega) (by omega) (by omega)
  refine t_X10_telling (D := D + l + 2) _ _ I J b ⟨hv, ?_⟩
  rw [iZ_ck (by omega), h79]
  repeat (first | refine ifp (by decide) ?_ | refine ifn (by decide) ?_ | refine ⟨hv, ?_⟩)
  refine (e_ran (D := D + l + 1) (m := 50) hT (by omega) rfl).mono ?_
  rintro r h ⟨I1, J1, rfl, rfl, rfl, k1, k2⟩
  refine RVf.mk ((h1 D I1 J1 b (T ++ [50]) (by rw [List.length_append, List.length_singleton]; omega) k1 ((k2 _ _ _ (by omega)).trans h79)).mono ?_)
  rintro r h ⟨w, I2, J2, rfl, rfl, rfl, rfl, q1, q2⟩
  rw [List.append_assoc] at q1
  exact RIf.mk (RIf.mk ⟨rfl, rfl, q1, fun s j k z => (q2 s j k z).trans (k2 s j k z)⟩)
theorem m_234_5 {l n : Nat} {x v : Int32} {t : List Nat} (hn : n < 50) (h1 : MunP 233 l 5 n x v t) : MunP 234 (l + 1) 5 n x (v + 1) (61 :: t) := by
  intro D I J b T hl hT h79
  simp only [List.length_cons, List.length_append, List.length_nil] at hl
  have hv : vp_in (iZ (n : Int)) 50 := vp_iZ (by omega) (by omega) (by omega)
  refine t_X10_telling (D := D + l + 2) _ _ I J b ⟨hv, ?_⟩
  rw [iZ_ck (by omega), h79]
  repeat (first | refine ifp (by decide) ?_ | refine ifn (by decide) ?_ | refine ⟨hv, ?_⟩)
  refine (e_ran (D := D + l + 1) (m := 61) hT (by omega) rfl).mono ?_
  rintro r h ⟨I1, J1, rfl, rfl, rfl, k1, k2⟩
  refine RVf.mk ((h1 D I1 J1 b (T ++ [61]) (by rw [List.length_append, List.length_singleton]; omega) k1 ((k2 _ _ _ (by omega)).trans h79)).mono ?_)
  rintro r h ⟨w, I2, J2, rfl, rfl, rfl, rfl, q1, q2⟩
  rw [List.append_assoc] at q1
  exact RIf.mk (RIf.mk ⟨rfl, rfl, q1, fun s j k z => (q2 s j k z).trans (k2 s j k z)⟩)
theorem mun_F {k n : Nat} {x : Int32} (hk : k < 8) (hn : n < 50) : MunP 226 2 k n x (kF k (iZ (n : Int)) x).1 (kF k (iZ (n : Int)) x).2 := by
  rcases (show k = 0 ∨ k = 1 ∨ k = 2 ∨ k = 3 ∨ k = 4 ∨ k = 5 ∨ k = 6 ∨ k = 7 by omega) with rfl | rfl | rfl | rfl | rfl | rfl | rfl | rfl
  · exact (m_226_0 hn m_224).up (by omega)
  · exact (m_226_1 hn m_224).up (by omega)
  · exact (m_226_2 hn m_224).up (by omega)
  · exact (m_226_3 hn m_224).up (by omega)
  · exact (m_226_4 hn m_224).up (by omega)
  · exact (m_226_5 hn m_224).up (by omega)
  · exact m_226_6 hn (m_225 m_224)
  · exact m_226_7 hn (m_225 m_224)
theorem mun_PH {k n : Nat} {x : Int32} (hk : k < 8) (hn : n < 50) : MunP 227 3 k n x (kPH k (iZ (n : Int)) x).1 (kPH k (iZ (n : Int)) x).2 := m_227 (mun_F hk hn)
theorem mun_LH {k n : Nat} {x : Int32} (hk : k < 8) (hn : n < 50) : MunP 228 4 k n x (kLH k (iZ (n : Int)) x).1 (kLH k (iZ (n : Int)) x).2 := m_228 (mun_PH hk hn)
theorem mun_S {k n : Nat} {x : Int32} (hk : k < 8) (hn : n < 50) : MunP 232 3 k n x (kS k (iZ (n : Int)) x).1 (kS k (iZ (n : Int)) x).2 := by
  rcases (show k = 0 ∨ k = 1 ∨ k = 2 ∨ k = 3 ∨ k = 4 ∨ k = 5 ∨ k = 6 ∨ k = 7 by omega) with rfl | rfl | rfl | rfl | rfl | rfl | rfl | rfl
  · exact (m_232_0 hn m_230).up (by omega)
  · exact (m_232_1 hn m_230).up (by omega)
  · exact (m_232_2 hn m_230).up (by omega)
  · exact (m_232_3 hn (m_231 m_230)).up (by omega)
  · exact (m_232_4 hn m_230).up (by omega)
  · exact m_232_5 hn ((m_231 m_230).up (by omega)) (mun_F hk hn)
  · exact (m_232_6 hn m_230).up (by omega)
  · exact (m_232_7 hn m_230).up (by omega)
theorem mun_H {k n : Nat} {x : Int32} (hk : k < 8) (hn : n < 50) : MunP 229 5 k n x (kH k (iZ (n : Int)) x).1 (kH k (iZ (n : Int)) x).2 := by
  rcases (show k = 0 ∨ k = 1 ∨ k = 2 ∨ k = 3 ∨ k = 4 ∨ k = 5 ∨ k = 6 ∨ k = 7 by omega) with rfl | rfl | rfl | rfl | rfl | rfl | rfl | rfl
  · exact (m_229_0 hn (mun_PH hk hn)).up (by omega)
  · exact (m_229_1 hn (mun_PH hk hn)).up (by omega)
  · exact m_229_2 hn (mun_LH hk hn)
  · exact m_229_3 hn (mun_LH hk hn)
  · exact (m_229_4 hn (mun_PH hk hn)).up (by omega)
  · exact m_229_5 hn (mun_LH hk hn)
  · exact (m_229_6 hn (mun_PH hk hn)).up (by omega)
  · exact (m_229_7 hn (mun_PH hk hn) (mun_S hk hn)).up (by omega)
theorem mun_PT {k n : Nat} {x : Int32} (hk : k < 8) (hn : n < 50) : MunP 233 6 k n x (kPT k (iZ (n : Int)) x).1 (kPT k (iZ (n : Int)) x).2 := m_233 (mun_H hk hn) ((mun_S hk hn).up (by omega))
theorem mun_T {k n : Nat} {x : Int32} (hk : k < 8) (hn : n < 50) : MunP 234 7 k n x (kT k (iZ (n : Int)) x).1 (kT k (iZ (n : Int)) x).2 := by
  rcases (show k = 0 ∨ k = 1 ∨ k = 2 ∨ k = 3 ∨ k = 4 ∨ k = 5 ∨ k = 6 ∨ k = 7 by omega) with rfl | rfl | rfl | rfl | rfl | rfl | rfl | rfl
  · exact m_234_0 hn (mun_PT hk hn)
  · exact m_234_1 hn (mun_PT hk hn)
  · exact m_234_2 hn (mun_PT hk hn)
  · exact m_234_3 hn (mun_PT hk hn)
  · exact m_234_4 hn (mun_PT hk hn)
  · exact m_234_5 hn (mun_PT hk hn)
  · exact m_234_6 hn (mun_PT hk hn)
  · exact m_234_7 hn (mun_PT hk hn)
end ACTM
