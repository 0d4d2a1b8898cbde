/-! OPS IN THOUGHT: sets, atOnce -/
section OPG
variable {D : Nat} {g : Sg} {c : Nat} {I : IM} {J : JM} {b : Bool}
def aSets (x : Int32) (g : Sg) : Int32 := if x < 0 then -1 else if x.toInt.toNat / 10 < gN g ∧ x.toInt.toNat % 10 ≤ 7 then iZ (lawV (gL g) (gV g) (x.toInt.toNat / 10) (x.toInt.toNat % 10) (gV g 8 0) : Int) else -1
theorem aSets_n {x : Int32} (h : x < 0) : aSets x g = -1 := by unfold aSets; rw [if_pos h]
theorem aSets_v {u : Nat} (hu : u < 2147483648) : aSets (iZ (u : Int)) g = if u / 10 < gN g ∧ u % 10 ≤ 7 then iZ (lawV (gL g) (gV g) (u / 10) (u % 10) (gV g 8 0) : Int) else -1 := by
  unfold aSets
  rw [if_neg (by rw [i_0]; exact nlt (by omega) (by omega) (by omega)), iZ_toInt (by omega) (by omega), Int.toNat_natCast]
theorem cX_sets {x : Int32} (hX : XR g I J b) (hO : SOK g c) : TX (D + 9) 86 [vr 9 0, vi x] I J b (aSets x g) := by
  have n7 := hO.1.1
  refine t_X9_sets _ I J b (ifs (fun h1 => RIf.tx (aSets_n h1).symm Fr.id) (fun h1 => ?_))
  obtain ⟨u, hu, rfl⟩ := nn_ex h1
  have hv := aSets_v (g := g) hu
  rw [rem10 hu, div10 hu, hX.1.1]
  refine ifs (fun h2 => ?_) (fun h2 => ifs (fun h3 => ?_) (fun h3 => ?_))
  · rw [iZ_le (by omega) (by omega) (by omega) (by omega)] at h2
    exact RIf.tx (hv.trans (if_neg (by omega))).symm Fr.id
  · rw [iZ_le (by omega) (by omega) (by omega) (by omega)] at h2
    rw [i_7, iZ_le (by omega) (by omega) (by omega) (by omega)] at h3
    refine (p_standing (D := D + 7) hX.1 (q := 8) rfl (by omega) (by omega)).use ?_
    refine (e_minutes (D := D + 3) hX.1 hO.1 hX.2.2.2.1 (by omega) (by omega) hO.1.2.2.2.2.1).useI ?_
    rintro y I1 J1 ⟨rfl, rfl, hf⟩
    exact RIf.tx (hv.trans (if_pos (by omega))).symm (pSp_ct (pLc_sp hf))
  · rw [i_7, iZ_le (by omega) (by omega) (by omega) (by omega)] at h3
    exact RIf.tx (hv.trans (if_neg (by omega))).symm Fr.id
theorem pLs_th {I I' : IM} (h : Fr pLs I I') : Fr pTh I I' := pTm_sub (pLs_sub h)
theorem cM_sets {x : Int32} (hM : MR g I J) (hO : SOK g c) : TM (D + 9) 170 [vr 10 0, vi x] I J b (aSets x g) := by
  have n7 := hO.1.1
  refine t_X10_sets _ I J b (ifs (fun h1 => RIf.tm (aSets_n h1).symm Fr.id) (fun h1 => ?_))
  obtain ⟨u, hu, rfl⟩ := nn_ex h1
  have hv := aSets_v (g := g) hu
  rw [rem10 hu, div10 hu]
  refine (p_M_isJoint hM.bn.1 n7).use ?_
  rw [iZ_toInt (by omega) (by omega)]
  by_cases h2 : u / 10 < gN g
  · rw [decide_eq_true (by omega)]
    refine ifn (by decide) (ifs (fun h3 => ?_) (fun h3 => ?_))
    · rw [i_7, iZ_lt (by omega) (by omega) (by omega) (by omega)] at h3
      exact RIf.tm (hv.trans (if_neg (by omega))).symm Fr.id
    · rw [i_7, iZ_lt (by omega) (by omega) (by omega) (by omega)] at h3
      refine (e_setsBy (D := D + 4) (fun j hj => hM.bn.2.1 j 0 hj (by omega)) (fun j hj => hM.bn.2.1 j 2 hj (by omega)) (hM.bn.2.2 9 (by omega) (by omega)) hO.1 hM.lw (hM.bn.2.2 8 (by omega) (by omega)) (by omega) (by omega) hO.1.2.2.2.2.1).useI ?_
      rintro y I1 J1 ⟨rfl, rfl, hf⟩
      exact RIf.tm (hv.trans (if_pos (by omega))).symm (pLs_th hf)
  · rw [decide_eq_false (by omega)]
    exact ifp rfl (RIf.tm (hv.trans (if_neg (by omega))).symm Fr.id)
theorem op_sets (x : Int32) : Op 86 170 [vi x] := Op.th (aSets x) (fun g c I J b hX hO => cX_sets (D := 891) hX hO) (fun g c I J b hM hO => cM_sets (D := 891) hM hO)
/-- whether all of a set can be begun at once -/
def togF (V : Nat → Nat → Nat) (S : Int32) : Nat → Nat → Nat → Bool
  | 0, _, h => decide (h ≤ 2 + 2 * V 6 0)
  | m + 1, k, h => if ¬ ((S >>> (iZ (k : Int) &&& 31)) &&& (1 : Int32)) = 0 then (if V 4 k = 0 then togF V S m (k + 1) (h + V 1 k) else false) else togF V S m (k + 1) h
theorem w_X_tog {n : Nat} {V : Nat → Nat → Nat} {S : Int32} (hB : BnC I n V) (hO : BnOK n V) : ∀ (m k h : Nat) (v : Int32), m + k = n → h ≤ 3 * k → v = bI (togF V S m k h) → WP (D + 2) 15 4 [vr 1 0, vi S, vi (iZ (h : Int)), vi (iZ (k : Int))] [] (101, I, J, R0 b) (fun r h => r = some (vi v) ∧ h = (101, I, J, R0 b)) := by
  obtain ⟨o1, o2, o3, _⟩ := hO
  intro m
  induction m with
  | zero =>
    intro k h v hm hh hv
    refine t_X1_goTogether_4 _ _ _ I J b ?_
    rw [hB.1]
    refine ifp (tle (by omega) (by omega) (by omega)) ?_
    refine (p_standing hB (q := 6) rfl (by omega) (by omega)).use ?_
    refine (p_X_handsWith _).use ?_
    rw [i_2, iZ_mul, iZ_add]
    unfold togF at hv
    refine ifs (fun c1 => ⟨?_, rfl⟩) (fun c1 => ⟨?_, rfl⟩)
    · rw [iZ_lt (by omega) (by omega) (by omega) (by omega)] at c1
      rw [hv, decide_eq_false (by omega)]
      rfl
    · rw [iZ_lt (by omega) (by omega) (by omega) (by omega)] at c1
      rw [hv, decide_eq_true (by omega)]
      rfl
  | succ m ih =>
    intro k h v hm hh hv
    obtain ⟨a1, a2, a3, a4, a5, a6⟩ := o2 k (by omega)
    unfold togF at hv
    refine t_X1_goTogether_4 _ _ _ I J b ?_
    rw [hB.1]
    refine ifn (nle (by omega) (by omega) (by omega)) (ifs (fun c1 => ?_) (fun c1 => ?_))
    · rw [if_pos c1] at hv
      refine ((p_numberOf (j := k) (q := 4) rfl (by omega) (by omega)).eq (hB.2.1 k 4 (by omega) (by omega))).use (ifs (fun c2 => ?_) (fun c2 => ?_))
      · rw [i_0, iZ_eq (by omega) (by omega) (by omega) (by omega)] at c2
        rw [if_pos (by omega)] at hv
        refine ((p_numberOf (j := k) (q := 1) rfl (by omega) (by omega)).eq (hB.2.1 k 1 (by omega) (by omega))).use ?_
        rw [iZ_s, iZ_add]
        exact ih (k + 1) (h + V 1 k) v (by omega) (by omega) hv
      · rw [i_0, iZ_eq (by omega) (by omega) (by omega) (by omega)] at c2
        rw [if_neg (by omega)] at hv
        exact ⟨by rw [hv]; rfl, rfl⟩
    · rw [if_neg c1] at hv
      rw [iZ_s]
      exact ih (k + 1) h v (by omega) (by omega) hv
theorem p_X_tog {n : Nat} {V : Nat → Nat → Nat} {S : Int32} (hB : BnC I n V) (hO : BnOK n V) : Pu (D + 3) 15 [vr 1 0, vi S] I J b (bI (togF V S n 0 0)) := by
  refine t_X1_goTogether _ I J b ?_
  exact w_X_tog hB hO n 0 0 _ (by omega) (by omega) rfl
theorem w_M_tog {n : Nat} {V : Nat → Nat → Nat} {S : Int32} (hB : BnM I n V) (hO : BnOK n V) : ∀ (m k h : Nat) (v : Int32), m + k = n → h ≤ 3 * k → v = bI (togF V S m k h) → WP (D + 2) 200 4 [vr 10 0, vi S, vi (iZ (h : Int)), vi (iZ (k : Int))] [] (101, I, J, R0 b) (fun r h => r = some (vi v) ∧ h = (101, I, J, R0 b)) := by
  obtain ⟨o1, o2, o3, _⟩ := hO
  intro m
  induction m with
  | zero =>
    intro k h v hm hh hv
    refine t_X10_areAtOnce_4 _ _ _ I J b ?_
    rw [hB.1]
    refine ifp (tle (by omega) (by omega) (by omega)) ?_
    refine p_M_allHands.use ?_
    rw [show I 10 0 8 = iZ (V 6 0 : Int) from hB.2.2 6 (by omega) (by omega), i_2, iZ_mul, iZ_add]
    unfold togF at hv
    refine ifs (fun c1 => ⟨?_, rfl⟩) (fun c1 => ⟨?_, rfl⟩)
    · rw [iZ_lt (by omega) (by omega) (by omega) (by omega)] at c1
      rw [hv, decide_eq_false (by omega)]
      rfl
    · rw [iZ_lt (by omega) (by omega) (by omega) (by omega)] at c1
      rw [hv, decide_eq_true (by omega)]
      rfl
  | succ m ih =>
    intro k h v hm hh hv
    obtain ⟨a1, a2, a3, a4, a5, a6⟩ := o2 k (by omega)
    unfold togF at hv
    have hvv : vp_in (iZ (k : Int)) 7 := vp_iZ (by omega) (by omega) (by omega)
    refine t_X10_areAtOnce_4 _ _ _ I J b ?_
    rw [hB.1, iZ_ck (by omega), show I 47 0 k = iZ (V 4 k : Int) from hB.2.1 k 4 (by omega) (by omega), show I 44 0 k = iZ (V 1 k : Int) from hB.2.1 k 1 (by omega) (by omega)]
    refine ifn (nle (by omega) (by omega) (by omega)) (ifs (fun c1 => ⟨hvv, ?_⟩) (fun c1 => ?_))
    · rw [if_pos c1] at hv
      refine ifs (fun c2 => ⟨hvv, ?_⟩) (fun c2 => ?_)
      · rw [i_0, iZ_eq (by omega) (by omega) (by omega) (by omega)] at c2
        rw [if_pos (by omega)] at hv
        rw [iZ_s, iZ_add]
        exact ih (k + 1) (h + V 1 k) v (by omega) (by omega) hv
      · rw [i_0, iZ_eq (by omega) (by omega) (by omega) (by omega)] at c2
        rw [if_neg (by omega)] at hv
        exact ⟨by rw [hv]; rfl, rfl⟩
    · rw [if_neg c1] at hv
      rw [iZ_s]
      exact ih (k + 1) h v (by omega) (by omega) hv
theorem p_M_tog {n : Nat} {V : Nat → Nat → Nat} {S : Int32} (hB : BnM I n V) (hO : BnOK n V) : Pu (D + 3) 200 [vr 10 0, vi S] I J b (bI (togF V S n 0 0)) := by
  refine t_X10_areAtOnce _ I J b ?_
  exact w_M_tog hB hO n 0 0 _ (by omega) (by omega) rfl
theorem p_bitCount {v : Nat} (hv : v < 128) : Pu (D + 1) 253 [vi (iZ (v : Int))] I J b (iZ (pcN v : Int)) := by
  refine t_J6_bitCount_0f7a4 _ I J b ⟨?_, rfl⟩
  rw [bc_all ⟨v, hv⟩]
/-- the greatest set that can be begun at once -/
def agF (V : Nat → Nat → Nat) (n : Nat) : Nat → Nat → Nat → Nat
  | 0, _, be => be
  | m + 1, k, be => agF V n m (k + 1) (if pcN be < pcN k ∧ togF V (iZ (k : Int)) n 0 0 = true then k else be)
def aAtOnce (x : Int32) (g : Sg) : Int32 := if x < -1 ∨ iZ ((2 ^ gN g : Nat) : Int) - 1 < x then -1 else if x < 0 then iZ (agF (gV g) (gN g) (2 ^ gN g - 1) 1 0 : Int) else bI (togF (gV g) x (gN g) 0 0)
theorem w_X_ag {n : Nat} {V : Nat → Nat → Nat} (hB : BnC I n V) (hO : BnOK n V) : ∀ (m k be : Nat) (v : Int32), m + k = 2 ^ n → be < 128 → v = iZ (agF V n m k be : Int) → WP (D + 3) 96 50 [vr 9 0, vn, vi (iZ ((2 ^ n - 1 : Nat) : Int)), vi (iZ (be : Int)), vi (iZ (k : Int))] [] (101, I, J, R0 b) (fun r h => r = some (vi v) ∧ h = (101, I, J, R0 b)) := by
  have n7 := hO.1
  obtain ⟨_, s2, s3⟩ := sl_all ⟨n, by omega⟩
  dsimp only at s2 s3
  intro m
  induction m with
  | zero =>
    intro k be v hm hbe hv
    exact t_X9_atOnce_50 _ _ _ I J b (ifp (tlt (by omega) (by omega) (by omega)) ⟨by rw [hv]; rfl, rfl⟩)
  | succ m ih =>
    intro k be v hm hbe hv
    unfold agF at hv
    have hk := pc_le ⟨k, by omega⟩
    have hb := pc_le ⟨be, hbe⟩
    dsimp only at hk hb
    refine t_X9_atOnce_50 _ _ _ I J b (ifn (nlt (by omega) (by omega) (by omega)) ?_)
    refine (p_bitCount (by omega)).use ?_
    refine (p_bitCount hbe).use (ifs (fun c1 => ?_) (fun c1 => ?_))
    · rw [iZ_le (by omega) (by omega) (by omega) (by omega)] at c1
      rw [if_neg (by omega)] at hv
      rw [iZ_s]
      exact ih (k + 1) be v (by omega) hbe hv
    · rw [iZ_le (by omega) (by omega) (by omega) (by omega)] at c1
      refine (p_X_tog hB hO).use ?_
      cases ht : togF V (iZ (k : Int)) n 0 0
      · rw [ht, if_neg (by simp)] at hv
        rw [iZ_s]
        exact ifp rfl (ih (k + 1) be v (by omega) hbe hv)
      · rw [ht, if_pos ⟨by omega, rfl⟩] at hv
        rw [iZ_s]
        exact ifn (by decide) (ih (k + 1) k v (by omega) (by omega) hv)
theorem w_M_ag {n : Nat} {V : Nat → Nat → Nat} (hB : BnM I n V) (hO : BnOK n V) : ∀ (m k be : Nat) (v : Int32), m + k = 2 ^ n → be < 128 → v = iZ (agF V n m k be : Int) → WP (D + 3) 201 40 [vr 10 0, vn, vi (iZ (be : Int)), vi (iZ (k : Int))] [] (101, I, J, R0 b) (fun r h => r = some (vi v) ∧ h = (101, I, J, R0 b)) := by
  have n7 := hO.1
  obtain ⟨s1, s2, s3⟩ := sl_all ⟨n, by omega⟩
  dsimp only at s1 s2 s3
  intro m
  induction m with
  | zero =>
    intro k be v hm hbe hv
    refine t_X10_atOnce_40 _ _ I J b ?_
    rw [hB.1, s1]
    exact ifp (tle (by omega) (by omega) (by omega)) ⟨by rw [hv]; rfl, rfl⟩
  | succ m ih =>
    intro k be v hm hbe hv
    unfold agF at hv
    have hk := pc_le ⟨k, by omega⟩
    have hb := pc_le ⟨be, hbe⟩
    dsimp only at hk hb
    refine t_X10_atOnce_40 _ _ I J b ?_
    rw [hB.1, s1]
    refine ifn (nle (by omega) (by omega) (by omega)) ?_
    refine (p_M_tog hB hO).use ?_
    cases ht : togF V (iZ (k : Int)) n 0 0
    · rw [ht, if_neg (by simp)] at hv
      rw [iZ_s]
      exact ifp rfl (ih (k + 1) be v (by omega) hbe hv)
    · refine ifn (by decide) ?_
      refine (p_bitsOf (by omega)).use ?_
      refine (p_bitsOf hbe).use (ifs (fun c1 => ?_) (fun c1 => ?_))
      · rw [iZ_le (by omega) (by omega) (by omega) (by omega)] at c1
        rw [if_neg (by omega)] at hv
        rw [iZ_s]
        exact ih (k + 1) be v (by omega) hbe hv
      · rw [iZ_le (by omega) (by omega) (by omega) (by omega)] at c1
        rw [ht, if_pos ⟨by omega, rfl⟩] at hv
        rw [iZ_s]
        exact ih (k + 1) k v (by omega) (by omega) hv
theorem aAtOnce_n {x : Int32} (h : x < -1 ∨ iZ ((2 ^ gN g : Nat) : Int) - 1 < x) : aAtOnce x g = -1 := by unfold aAtOnce; rw [if_pos h]
theorem aAtOnce_m {x : Int32} (h : ¬ (x < -1 ∨ iZ ((2 ^ gN g : Nat) : Int) - 1 < x)) (h2 : x < 0) : aAtOnce x g = iZ (agF (gV g) (gN g) (2 ^ gN g - 1) 1 0 : Int) := by unfold aAtOnce; rw [if_neg h, if_pos h2]
theorem aAtOnce_y {x : Int32} (h : ¬ (x < -1 ∨ iZ ((2 ^ gN g : Nat) : Int) - 1 < x)) (h2 : ¬ x < 0) : aAtOnce x g = bI (togF (gV g) x (gN g) 0 0) := by unfold aAtOnce; rw [if_neg h, if_neg h2]
theorem cX_atOnce {x : Int32} (hX : XR g I J b) (hO : SOK g c) : TX (D + 9) 96 [vr 9 0, vi x] I J b (aAtOnce x g) := by
  have n7 := hO.1.1
  obtain ⟨s1, s2, s3⟩ := sl_all ⟨gN g, by omega⟩
  dsimp only at s1 s2 s3
  refine t_X9_atOnce _ I J b ?_
  rw [hX.1.1, s1]
  refine ifs (fun h1 => RIf.tx (aAtOnce_n (Or.inl h1)).symm Fr.id) (fun h1 => ifs (fun h2 => ?_) (fun h2 => RIf.tx (aAtOnce_n (Or.inr (Int32.not_le.mp h2))).symm Fr.id))
  have hn : ¬ (x < -1 ∨ iZ ((2 ^ gN g : Nat) : Int) - 1 < x) := by
    rintro (z | z)
    · exact h1 z
    · exact Int32.not_lt.mpr h2 z
  refine ifs (fun h3 => ?_) (fun h3 => ?_)
  · have e : iZ ((2 ^ gN g : Nat) : Int) - (1 : Int32) = iZ ((2 ^ gN g - 1 : Nat) : Int) := by
      rw [i_1, iZ_sub]
      congr 1
      omega
    rw [e]
    refine (w_X_ag (D := D + 5) hX.1 hO.1 (2 ^ gN g - 1) 1 0 _ (by omega) (by omega) rfl).mono ?_
    rintro r h ⟨rfl, rfl⟩
    exact RIf.tx (aAtOnce_m hn h3).symm Fr.id
  · refine (p_X_tog hX.1 hO.1).use ?_
    rw [← aAtOnce_y hn h3]
    have h01 : aAtOnce x g = 0 ∨ aAtOnce x g = 1 := by
      rw [aAtOnce_y hn h3]
      cases togF (gV g) x (gN g) 0 0
      · exact Or.inl rfl
      · exact Or.inr rfl
    rcases h01 with h | h
    · refine ifp h (RIf.tx h.symm Fr.id)
    · refine ifn (by rw [h]; decide) (RIf.tx h.symm Fr.id)
theorem cM_atOnce {x : Int32} (hM : MR g I J) (hO : SOK g c) : TM (D + 9) 201 [vr 10 0, vi x] I J b (aAtOnce x g) := by
  have n7 := hO.1.1
  obtain ⟨s1, s2, s3⟩ := sl_all ⟨gN g, by omega⟩
  dsimp only at s1 s2 s3
  refine t_X10_atOnce _ I J b ?_
  rw [hM.bn.1, s1]
  refine (p_M_in _ _ _).use ?_
  cases hi : inB x (-1) (iZ ((2 ^ gN g : Nat) : Int) - (1 : Int32))
  · exact ifn (fun z => z rfl) (RIf.tm (aAtOnce_n (inB_f hi)).symm Fr.id)
  · obtain ⟨h1, h2⟩ := inB_t hi
    have hn : ¬ (x < -1 ∨ iZ ((2 ^ gN g : Nat) : Int) - 1 < x) := by
      rintro (z | z)
      · exact h1 z
      · exact h2 z
    refine ifp (by decide) (ifs (fun h3 => ?_) (fun h3 => ?_))
    · refine (w_M_ag (D := D + 5) hM.bn hO.1 (2 ^ gN g - 1) 1 0 _ (by omega) (by omega) rfl).mono ?_
      rintro r h ⟨rfl, rfl⟩
      exact RIf.tm (aAtOnce_m hn h3).symm Fr.id
    · refine (p_M_tog hM.bn hO.1).use ?_
      rw [← aAtOnce_y hn h3]
      have h01 : aAtOnce x g = 0 ∨ aAtOnce x g = 1 := by
        rw [aAtOnce_y hn h3]
        cases togF (gV g) x (gN g) 0 0
        · exact Or.inl rfl
        · exact Or.inr rfl
      rcases h01 with h | h
      · refine ifp h (RIf.tm h.symm Fr.id)
      · refine ifn (by rw [h]; decide) (RIf.tm h.symm Fr.id)
theorem op_atOnce (x : Int32) : Op 96 201 [vi x] := Op.th (aAtOnce x) (fun g c I J b hX hO => cX_atOnce (D := 891) hX hO) (fun g c I J b hM hO => cM_atOnce (D := 891) hM hO)
end OPG
