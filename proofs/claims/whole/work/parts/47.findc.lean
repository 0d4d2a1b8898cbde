/-! THE CLASS FINDS: from no order at all -/
def lmF (P : Pa) (q : Nat) : Nat → Nat
  | 0 => 1000000
  | k + 1 => if pM P k q < lmF P q k then pM P k q else lmF P q k
theorem lmF_le {P : Pa} {q j : Nat} : ∀ k, j < k → lmF P q k ≤ pM P j q
  | 0, h => by omega
  | k + 1, h => by
    unfold lmF
    by_cases hk : j = k
    · subst hk
      split <;> omega
    · have := lmF_le (P := P) (q := q) k (show j < k by omega)
      split <;> omega
theorem lmF_b (P : Pa) (q : Nat) : ∀ k, lmF P q k ≤ 1000000
  | 0 => Nat.le_refl _
  | k + 1 => by
    unfold lmF
    have := lmF_b P q k
    split <;> omega
theorem sfR_b {P : Pa} (hP : PaOK P) (pre : List Nat) : ∀ k, k ≤ pn P → sfR (fun j => pT P j 0) pre k ≤ 9 * k
  | 0, _ => Nat.le_refl _
  | k + 1, hk => by
    have h1 := sfR_b hP pre k (by omega)
    have h2 := (hP.2.2.2 k (by omega)).1
    unfold sfR
    split <;> omega
def st0 (lim : Nat) : Ss := (0, [], 0, lim, false)
section FINDC
variable {D n aim lim : Nat} {P : Pa} {due : Nat → Option Int} {I : IM} {J : JM} {b : Bool}
theorem w_least (hP : PaOK P) (hB : BeAt I P) (hS : ShAt I P) (hn : pn P = n) : ∀ r k, r + k = n → WP (D + 2) 41 7 [vr 5 0, vi (iZ (sfR (fun j => pT P j 0) [] k : Int)), vi (iZ (lmF P (n - 1) k : Int)), vi (iZ (k : Int))] [] (101, I, J, R0 b) (fun r h => r = some (vi (iZ ((sfR (fun j => pT P j 0) [] n + lmF P (n - 1) n : Nat) : Int))) ∧ h = (101, I, J, R0 b)) := by
  have n7 : n ≤ 7 := by have := hP.1; omega
  intro r
  induction r with
  | zero =>
    intro k hk
    have : k = n := by omega
    subst this
    refine t_X5_leastMinutes_7 _ _ _ I J b ?_
    rw [hB.1, hn]
    exact ifp (tle (by omega) (by omega) (by omega)) ⟨by rw [iZ_add]; rfl, rfl⟩
  | succ r ih =>
    intro k hk
    have hb := sfR_b hP [] k (by omega)
    have hlb := lmF_b P (n - 1) k
    refine t_X5_leastMinutes_7 _ _ _ I J b ?_
    rw [hB.1, hn]
    refine ifn (nle (by omega) (by omega) (by omega)) ?_
    refine (p_num (D := D + 1) hB hP (x := 0) (q := 0) rfl (by omega) (by omega)).use ?_
    rw [hB.1, hn, show iZ (n : Int) - 1 = iZ ((n - 1 : Nat) : Int) by rw [i_1, iZ_sub]; congr 1; omega]
    refine (p_minutesOf (D := D) hS hP (j := k) (n := n - 1) (by omega) (by omega)).use ?_
    have hm := (hP.2.2.2 k (by omega)).2.2.2.2.2.2 (n - 1) (by omega)
    have e1 : iZ (sfR (fun j => pT P j 0) [] k : Int) + iZ (pT P k 0 : Int) = iZ ((sfR (fun j => pT P j 0) [] (k + 1) : Nat) : Int) := by
      rw [iZ_add]
      rfl
    have e2 : (if iZ (pM P k (n - 1) : Int) < iZ (lmF P (n - 1) k : Int) then iZ (pM P k (n - 1) : Int) else iZ (lmF P (n - 1) k : Int)) = iZ ((lmF P (n - 1) (k + 1) : Nat) : Int) := by
      conv => rhs; unfold lmF
      by_cases hc : pM P k (n - 1) < lmF P (n - 1) k
      · rw [if_pos (tlt (by omega) (by omega) (by omega)), if_pos hc]
      · rw [if_neg (nlt (by omega) (by omega) (by omega)), if_neg hc]
    rw [e1, e2, iZ_s]
    exact ih (k + 1) (by omega)
theorem p_least (hP : PaOK P) (hB : BeAt I P) (hS : ShAt I P) (hn : pn P = n) : Pu (D + 3) 41 [vr 5 0] I J b (iZ ((sfR (fun j => pT P j 0) [] n + lmF P (n - 1) n : Nat) : Int)) :=
  t_X5_leastMinutes I J b (w_least hP hB hS hn n 0 (by omega))
/-- none is due -/
theorem w_fill36 {v : Int32} {I0 : IM} : ∀ r k (I : IM), r + k = 7 → (∀ s j k2, s ≠ 36 → I s j k2 = I0 s j k2) → (∀ q, q < k → I 36 0 q = v) → WP D 254 5 [vr 36 0, vi v, vi (iZ (k : Int)), vi 7] [] (101, I, J, R0 b) (RVf b fun I' J' => J' = J ∧ (∀ s j k2, s ≠ 36 → I' s j k2 = I0 s j k2) ∧ ∀ q, q < 7 → I' 36 0 q = v) := by
  intro r
  induction r with
  | zero =>
    intro k I hk h1 h2
    have : k = 7 := by omega
    subst this
    exact t_J7_fill_53178_5 _ _ _ I J b (ifp (by decide) (RVf.mk ⟨rfl, h1, h2⟩))
  | succ r ih =>
    intro k I hk h1 h2
    refine t_J7_fill_53178_5 _ _ _ I J b (ifn (by rw [show (7 : Int32) = iZ 7 from rfl]; exact nle (by omega) (by omega) (by omega)) ⟨vp_iZ (by omega) (by omega) (by omega), ?_⟩)
    rw [iZ_s, iZ_ck (by omega)]
    refine ih (k + 1) _ (by omega) (fun s j k2 z => by rw [updI_if, if_neg (by omega)]; exact h1 s j k2 z) (fun q hq => ?_)
    by_cases hqk : q = k
    · subst hqk
      exact uI_eq
    · rw [updI_if, if_neg (by omega)]
      exact h2 q (by omega)
theorem e_free : Call (D + 2) 38 [vr 5 0] (101, I, J, R0 b) (RVf b fun I' J' => J' = J ∧ (∀ s j k, s ≠ 36 → ¬ (s = 5 ∧ j = 0 ∧ k = 7) → I' s j k = I s j k) ∧ I' 5 0 7 = 0 ∧ DuC I' (fun _ => none)) := by
  refine t_X5_allFree I J b (t_J7_fill_53178 _ _ J b ?_)
  refine (w_fill36 (I0 := updI I 5 0 7 0) 7 0 _ (by omega) (fun _ _ _ _ => rfl) (fun q hq => by omega)).mono ?_
  rintro q h ⟨I', J', rfl, rfl, rfl, k1, k2⟩
  refine RVf.mk (RVf.mk ⟨rfl, fun s j k z1 z2 => ?_, ?_, fun j hj => ⟨k2 j hj, fun x z => by cases z⟩⟩)
  · rw [k1 s j k z1, updI_if, if_neg z2]
  · rw [k1 5 0 7 (by omega), uI_eq]
theorem WkR.f5 {I I' : IM} {w r : Nat} (h : WkR w r I) (e : I' 8 w 2 = I 8 w 2) : WkR w r I' := ⟨h.1, h.2.1, h.2.2.1, h.2.2.2.1, h.2.2.2.2.1, h.2.2.2.2.2.1, e.trans h.2.2.2.2.2.2.1, h.2.2.2.2.2.2.2⟩
/-- goes through all orders -/
theorem e_findC {x y : Int32} (hx : x = iZ (aim : Int)) (hy : y = iZ (lim : Int)) (hP : PaOK P) (hn : pn P = n) (ha : aim ≤ 3) (hl : 1 ≤ lim) (hl2 : lim ≤ 1000001) (h3 : aim = 3 → lim = 1000001 ∧ ∀ j, due j = none) (hN : pN P = true → aim = 3) (hR : WkR 0 35 I) (hB : BeAt I P) (hS : ShAt I P) (hd : DuC I due) : Call (D + 15) 40 [vr 5 0, vi x, vi y] (101, I, J, R0 b) (RVf b fun I' J' => J' = J ∧ Fr pSe I I' ∧ SrC I' aim n ((pms n n []).foldl (cst P n due aim) (st0 lim)) ((pms n n []).foldl (dps P) 0)) := by
  subst hx
  subst hy
  have n7 : n ≤ 7 := by have := hP.1; omega
  have hfr1 : Fr pSe I (updI (updI (updI (updI (updI I 5 0 4 (iZ (aim : Int))) 5 0 5 (iZ (lim : Int))) 5 0 6 0) 5 0 7 0) 5 0 9 0) := ((((Fr.id.upd rfl).upd rfl).upd rfl).upd rfl).upd rfl
  refine t_X5_go _ _ I J b ?_
  refine (e_clear (D := D + 13) (r := 35) (m := 0) (hR.f5 (by simp [updI_if]))).useV ?_
  rintro I2 J2 ⟨rfl, hf2, hW2⟩
  have hfr2 : Fr pSe I I2 := hfr1.tr (pW_se hf2)
  have hB2 := hB.fs hfr2
  have hS2 := hS.fs hfr2
  refine (p_least (D := D + 11) hP hB2 hS2 hn).use ?_
  have hH : SkH P n aim (lmF P (n - 1) n) due := by
    refine ⟨hP, hn, ha, fun j hj => lmF_le n hj, fun h0 => ?_, lmF_b _ _ _, fun h => (h3 h).2, hN⟩
    have h1 := lmF_le (P := P) (q := n - 1) (j := 0) n h0
    have h2 := (hP.2.2.2 0 (by omega)).2.2.2.2.2.2 (n - 1) (by omega)
    omega
  have hsr : SrC I2 aim n (st0 lim) 0 := by
    have e : ∀ k, 4 ≤ k → k ≤ 9 → I2 5 0 k = updI (updI (updI (updI (updI I 5 0 4 (iZ (aim : Int))) 5 0 5 (iZ (lim : Int))) 5 0 6 0) 5 0 7 0) 5 0 9 0 5 0 k := fun k h1 h2 => hf2 _ _ _ (pW_f (by omega))
    refine ⟨?_, ?_, ?_, ?_, fun h => absurd h (by show ¬ 0 < 0; omega), fun _ => ⟨?_, by omega, fun z => by cases z⟩⟩
    · rw [e 4 (by omega) (by omega)]; simp [updI_if]
    · rw [e 5 (by omega) (by omega)]; simp [updI_if]; rfl
    · rw [e 6 (by omega) (by omega)]; simp [updI_if]; rfl
    · rw [e 7 (by omega) (by omega)]; simp [updI_if]; rfl
    · rw [e 9 (by omega) (by omega)]; simp [updI_if]; rfl
  have h := e_seek (D := D + (7 - n)) (b := b) (J := J2) hH n [] (st0 lim) 0 I2 _ (by simp) (by simp) (by simp) rfl ⟨rfl, rfl, hW2, hsr, hd.fr hfr2, hB2, hS2, fun z => (h3 z).1, by show lim ≤ 2000000; omega⟩ (by show 0 < lim; omega) rfl (by
    have h1 := pms_len (n := n) n []
    have h2 := pow7 n7
    show 0 + _ ≤ _
    omega)
  rw [show D + (7 - n) + n + 7 = D + 14 by omega] at h
  refine h.useV ?_
  rintro I3 J3 ⟨rfl, hf3, _, h4⟩
  exact RVf.mk ⟨rfl, hfr2.tr hf3, h4⟩
end FINDC
