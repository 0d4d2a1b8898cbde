/-! OPS IN THOUGHT: judge, who, sets, atOnce -/
theorem bc_all : ∀ v : Fin 128, (((((((((iZ (v.val : Int)) - ((Int32.toUInt32 (iZ (v.val : Int)) >>> (Int32.toUInt32 (1 : Int32) &&& Int32.toUInt32 31)).toInt32 &&& (1431655765 : Int32))) &&& (858993459 : Int32)) + ((Int32.toUInt32 ((iZ (v.val : Int)) - ((Int32.toUInt32 (iZ (v.val : Int)) >>> (Int32.toUInt32 (1 : Int32) &&& Int32.toUInt32 31)).toInt32 &&& (1431655765 : Int32))) >>> (Int32.toUInt32 (2 : Int32) &&& Int32.toUInt32 31)).toInt32 &&& (858993459 : Int32))) + (Int32.toUInt32 ((((iZ (v.val : Int)) - ((Int32.toUInt32 (iZ (v.val : Int)) >>> (Int32.toUInt32 (1 : Int32) &&& Int32.toUInt32 31)).toInt32 &&& (1431655765 : Int32))) &&& (858993459 : Int32)) + ((Int32.toUInt32 ((iZ (v.val : Int)) - ((Int32.toUInt32 (iZ (v.val : Int)) >>> (Int32.toUInt32 (1 : Int32) &&& Int32.toUInt32 31)).toInt32 &&& (1431655765 : Int32))) >>> (Int32.toUInt32 (2 : Int32) &&& Int32.toUInt32 31)).toInt32 &&& (858993459 : Int32))) >>> (Int32.toUInt32 (4 : Int32) &&& Int32.toUInt32 31)).toInt32) &&& (252645135 : Int32)) + (Int32.toUInt32 ((((((iZ (v.val : Int)) - ((Int32.toUInt32 (iZ (v.val : Int)) >>> (Int32.toUInt32 (1 : Int32) &&& Int32.toUInt32 31)).toInt32 &&& (1431655765 : Int32))) &&& (858993459 : Int32)) + ((Int32.toUInt32 ((iZ (v.val : Int)) - ((Int32.toUInt32 (iZ (v.val : Int)) >>> (Int32.toUInt32 (1 : Int32) &&& Int32.toUInt32 31)).toInt32 &&& (1431655765 : Int32))) >>> (Int32.toUInt32 (2 : Int32) &&& Int32.toUInt32 31)).toInt32 &&& (858993459 : Int32))) + (Int32.toUInt32 ((((iZ (v.val : Int)) - ((Int32.toUInt32 (iZ (v.val : Int)) >>> (Int32.toUInt32 (1 : Int32) &&& Int32.toUInt32 31)).toInt32 &&& (1431655765 : Int32))) &&& (858993459 : Int32)) + ((Int32.toUInt32 ((iZ (v.val : Int)) - ((Int32.toUInt32 (iZ (v.val : Int)) >>> (Int32.toUInt32 (1 : Int32) &&& Int32.toUInt32 31)).toInt32 &&& (1431655765 : Int32))) >>> (Int32.toUInt32 (2 : Int32) &&& Int32.toUInt32 31)).toInt32 &&& (858993459 : Int32))) >>> (Int32.toUInt32 (4 : Int32) &&& Int32.toUInt32 31)).toInt32) &&& (252645135 : Int32)) >>> (Int32.toUInt32 (8 : Int32) &&& Int32.toUInt32 31)).toInt32) + (Int32.toUInt32 (((((((iZ (v.val : Int)) - ((Int32.toUInt32 (iZ (v.val : Int)) >>> (Int32.toUInt32 (1 : Int32) &&& Int32.toUInt32 31)).toInt32 &&& (1431655765 : Int32))) &&& (858993459 : Int32)) + ((Int32.toUInt32 ((iZ (v.val : Int)) - ((Int32.toUInt32 (iZ (v.val : Int)) >>> (Int32.toUInt32 (1 : Int32) &&& Int32.toUInt32 31)).toInt32 &&& (1431655765 : Int32))) >>> (Int32.toUInt32 (2 : Int32) &&& Int32.toUInt32 31)).toInt32 &&& (858993459 : Int32))) + (Int32.toUInt32 ((((iZ (v.val : Int)) - ((Int32.toUInt32 (iZ (v.val : Int)) >>> (Int32.toUInt32 (1 : Int32) &&& Int32.toUInt32 31)).toInt32 &&& (1431655765 : Int32))) &&& (858993459 : Int32)) + ((Int32.toUInt32 ((iZ (v.val : Int)) - ((Int32.toUInt32 (iZ (v.val : Int)) >>> (Int32.toUInt32 (1 : Int32) &&& Int32.toUInt32 31)).toInt32 &&& (1431655765 : Int32))) >>> (Int32.toUInt32 (2 : Int32) &&& Int32.toUInt32 31)).toInt32 &&& (858993459 : Int32))) >>> (Int32.toUInt32 (4 : Int32) &&& Int32.toUInt32 31)).toInt32) &&& (252645135 : Int32)) + (Int32.toUInt32 ((((((iZ (v.val : Int)) - ((Int32.toUInt32 (iZ (v.val : Int)) >>> (Int32.toUInt32 (1 : Int32) &&& Int32.toUInt32 31)).toInt32 &&& (1431655765 : Int32))) &&& (858993459 : Int32)) + ((Int32.toUInt32 ((iZ (v.val : Int)) - ((Int32.toUInt32 (iZ (v.val : Int)) >>> (Int32.toUInt32 (1 : Int32) &&& Int32.toUInt32 31)).toInt32 &&& (1431655765 : Int32))) >>> (Int32.toUInt32 (2 : Int32) &&& Int32.toUInt32 31)).toInt32 &&& (858993459 : Int32))) + (Int32.toUInt32 ((((iZ (v.val : Int)) - ((Int32.toUInt32 (iZ (v.val : Int)) >>> (Int32.toUInt32 (1 : Int32) &&& Int32.toUInt32 31)).toInt32 &&& (1431655765 : Int32))) &&& (858993459 : Int32)) + ((Int32.toUInt32 ((iZ (v.val : Int)) - ((Int32.toUInt32 (iZ (v.val : Int)) >>> (Int32.toUInt32 (1 : Int32) &&& Int32.toUInt32 31)).toInt32 &&& (1431655765 : Int32))) >>> (Int32.toUInt32 (2 : Int32) &&& Int32.toUInt32 31)).toInt32 &&& (858993459 : Int32))) >>> (Int32.toUInt32 (4 : Int32) &&& Int32.toUInt32 31)).toInt32) &&& (252645135 : Int32)) >>> (Int32.toUInt32 (8 : Int32) &&& Int32.toUInt32 31)).toInt32) >>> (Int32.toUInt32 (16 : Int32) &&& Int32.toUInt32 31)).toInt32) &&& (63 : Int32)) = iZ (pcN v.val : Int) := by decide +kernel
theorem sl_all : ∀ n : Fin 8, ((1 : Int32) <<< (iZ (n.val : Int) &&& 31)) = iZ ((2 ^ n.val : Nat) : Int) ∧ 2 ^ n.val ≤ 128 ∧ 1 ≤ 2 ^ n.val := by decide +kernel
def lackB (sh : Nat → Sh) (v : Nat) : Int32 := if v / 10 < 6 ∧ v % 10 < 6 then (if sK (sh (v / 10)) = 0 ∨ sK (sh (v % 10)) = 0 then -11 else if lackV (sh (v / 10)) 0 = 0 ∧ lackV (sh (v % 10)) 1 = 0 then 0 else -12) else -1
def aBo (g : Sg) (x : Int32) (f : List Nat → Sh → Int32) : Int32 := if x < 0 then -1 else if lackB (gS g) x.toInt.toNat = 0 then f (plan (gN g) (gS g (x.toInt.toNat / 10))) (gS g (x.toInt.toNat % 10)) else lackB (gS g) x.toInt.toNat
theorem aBo_n {g : Sg} {x : Int32} {f : List Nat → Sh → Int32} (h : x < 0) : aBo g x f = -1 := by unfold aBo; rw [if_pos h]
theorem aBo_v {g : Sg} {v : Nat} {f : List Nat → Sh → Int32} (hv : v < 2147483648) : aBo g (iZ (v : Int)) f = if lackB (gS g) v = 0 then f (plan (gN g) (gS g (v / 10))) (gS g (v % 10)) else lackB (gS g) v := by
  unfold aBo
  rw [if_neg (by rw [i_0]; exact nlt (by omega) (by omega) (by omega)), iZ_toInt (by omega) (by omega), Int.toNat_natCast]
theorem aBo_l {g : Sg} {v : Nat} {f : List Nat → Sh → Int32} {x : Int32} (hv : v < 2147483648) (h : lackB (gS g) v = x) (hx : x ≠ 0) : aBo g (iZ (v : Int)) f = x := by
  rw [aBo_v hv, h, if_neg hx]
theorem aBo_0 {g : Sg} {v : Nat} {f : List Nat → Sh → Int32} (hv : v < 2147483648) (h : lackB (gS g) v = 0) : aBo g (iZ (v : Int)) f = f (plan (gN g) (gS g (v / 10))) (gS g (v % 10)) := by
  rw [aBo_v hv, if_pos h]
theorem lackB_n {sh : Nat → Sh} {v : Nat} (h : ¬ (v / 10 < 6 ∧ v % 10 < 6)) : lackB sh v = -1 := by unfold lackB; rw [if_neg h]
theorem lackB_1 {sh : Nat → Sh} {v : Nat} (hd : v / 10 < 6) (hr : v % 10 < 6) (h : sK (sh (v / 10)) = 0 ∨ sK (sh (v % 10)) = 0) : lackB sh v = -11 := by unfold lackB; rw [if_pos ⟨hd, hr⟩, if_pos h]
theorem lackB_2 {sh : Nat → Sh} {v : Nat} (hd : v / 10 < 6) (hr : v % 10 < 6) (h : ¬ (sK (sh (v / 10)) = 0 ∨ sK (sh (v % 10)) = 0)) (h2 : ¬ (lackV (sh (v / 10)) 0 = 0 ∧ lackV (sh (v % 10)) 1 = 0)) : lackB sh v = -12 := by unfold lackB; rw [if_pos ⟨hd, hr⟩, if_neg h, if_neg h2]
theorem lackB_0 {sh : Nat → Sh} {v : Nat} (hd : v / 10 < 6) (hr : v % 10 < 6) (h : ¬ (sK (sh (v / 10)) = 0 ∨ sK (sh (v % 10)) = 0)) (h2 : lackV (sh (v / 10)) 0 = 0 ∧ lackV (sh (v % 10)) 1 = 0) : lackB sh v = 0 := by unfold lackB; rw [if_pos ⟨hd, hr⟩, if_neg h, if_pos h2]
theorem lackV_11 {q : Sh} {so : Nat} : lackV q so = -11 ↔ sK q = 0 := by
  constructor
  · intro h
    rcases Nat.eq_zero_or_pos (sK q) with z | z
    · exact z
    · rcases lackV_cases q so with y | y | ⟨y, _⟩
      · unfold lackV at y
        rw [if_neg (by omega)] at y
        split at y <;> exact absurd y (by decide)
      · rw [h] at y; exact absurd y (by decide)
      · rw [h] at y; exact absurd y (by decide)
  · exact lackV_0
theorem lackV_is {q : Sh} {so : Nat} (h : lackV q so = 0) : sK q = 2 ∧ sA q = so := by
  rcases lackV_cases q so with y | y | ⟨_, y⟩
  · rw [h] at y; exact absurd y (by decide)
  · rw [h] at y; exact absurd y (by decide)
  · exact y
section OPF
variable {D : Nat} {g : Sg} {c : Nat} {I : IM} {J : JM} {b : Bool}
theorem p_sh {d : Nat} (hd : d < 2147483648) : Pu (D + 1) 123 [vi (iZ (d : Int))] I J b (bI (decide (d < 6))) := by
  refine (p_X_isShelf _).eq ?_
  rw [inB_05, iZ_toInt (by omega) (by omega)]
  congr 1
  rw [Bool.eq_iff_iff]
  simp only [decide_eq_true_eq]
  omega
theorem p_shM {d : Nat} (hd : d < 2147483648) : Pu (D + 2) 237 [vi (iZ (d : Int))] I J b (bI (decide (d < 6))) := by
  refine (p_M_isShelf _).eq ?_
  rw [inB_05, iZ_toInt (by omega) (by omega)]
  congr 1
  rw [Bool.eq_iff_iff]
  simp only [decide_eq_true_eq]
  omega
theorem c_both {x v : Int32} {A : IM → JM → Prop} {f : List Nat → Sh → Int32} (hX : XR g I J b) (hO : SOK g c) (hv : v = aBo g x f) (K : ∀ L u I', L.Nodup → (∀ j ∈ L, j < gN g) → v = f L (gS g (u % 10)) → u < 2147483648 → x = iZ (u : Int) → u % 10 < 6 → sK (gS g (u % 10)) = 2 → sA (gS g (u % 10)) = 1 → Fr pCt I I' → XR g I' J b → PlC I' L → A I' J) : Call (D + 3) 128 [vr 9 0, vi x] (101, I, J, R0 b) (RIf b fun x1 I2 J3 => (if x1 = 0 then A I2 J3 else RIf b (fun z I' J' => z = v ∧ J' = J ∧ Fr pCt I I') (some (vi x1)) (101, I2, J3, R0 b))) := by
  refine t_X9_readPlanAndDrips _ I J b ?_
  refine ifs (fun h1 => RIf.mk (ifn (by decide) (RIf.tx (hv.trans (aBo_n h1)).symm Fr.id))) (fun h1 => ?_)
  obtain ⟨u, hu, rfl⟩ := nn_ex h1
  rw [rem10 hu, div10 hu]
  refine (p_sh (by omega)).use ?_
  by_cases hd : u / 10 < 6
  · rw [decide_eq_true hd]
    refine ifn (by decide) ?_
    refine (p_sh (by omega)).use ?_
    by_cases hr : u % 10 < 6
    · rw [decide_eq_true hr]
      refine ifp (by decide) ⟨vp_iZ (by omega) (by omega) (by omega), ?_⟩
      rw [iZ_ck (by omega), iZ_ck (by omega)]
      obtain ⟨hqd, hokd⟩ := hX.sh hO (u / 10) hd
      obtain ⟨hqr, hokr⟩ := hX.sh hO (u % 10) hr
      refine (p_lackOfRow hqd hokd (by omega) (x := 0) (so := 0) rfl).use ⟨vp_iZ (by omega) (by omega) (by omega), ?_⟩
      refine (p_lackOfRow hqr hokr (by omega) (x := 1) (so := 1) rfl).use ?_
      by_cases h0 : sK (gS g (u / 10)) = 0
      · have hv := hv.trans (aBo_l hu (lackB_1 hd hr (Or.inl h0)) (by decide))
        rw [lackV_0 h0]
        exact ifp rfl (RIf.mk (ifn (by decide) (RIf.tx hv.symm Fr.id)))
      · refine ifn (fun z => h0 (lackV_11.mp z)) ?_
        by_cases h2 : sK (gS g (u % 10)) = 0
        · have hv := hv.trans (aBo_l hu (lackB_1 hd hr (Or.inr h2)) (by decide))
          rw [lackV_0 h2]
          exact ifn (fun z => z rfl) (RIf.mk (ifn (by decide) (RIf.tx hv.symm Fr.id)))
        · have hn0 : ¬ (sK (gS g (u / 10)) = 0 ∨ sK (gS g (u % 10)) = 0) := by omega
          refine ifp (fun z => h2 (lackV_11.mp z)) ?_
          by_cases k0 : lackV (gS g (u / 10)) 0 = 0
          · by_cases k1 : lackV (gS g (u % 10)) 1 = 0
            · have hv := hv.trans (aBo_0 hu (lackB_0 hd hr hn0 ⟨k0, k1⟩))
              rw [k0, k1]
              refine ifn (fun z => z rfl) (ifp rfl ?_)
              refine (e_readPlan (D := D) hX.1.1 hO.1.1 (hX.sh hO)).useI ?_
              rintro y I1 J1 ⟨rfl, rfl, hf, hL⟩
              rw [lackO_s hd, k0] at hL ⊢
              rw [iZ_toInt (by omega) (by omega), Int.toNat_natCast] at hL
              obtain ⟨h1, h2⟩ := plan_ok (gN g) (gS g (u / 10))
              obtain ⟨q1, q2⟩ := lackV_is k1
              exact RIf.mk (ifp rfl (K _ u I1 h1 h2 hv hu rfl hr q1 q2 (pPl_ct hf) (hX.fr (pPl_ct hf)) (hL rfl)))
            · have hv := hv.trans (aBo_l hu (lackB_2 hd hr hn0 (fun z => k1 z.2)) (by decide))
              rw [k0]
              exact ifn (fun z => z rfl) (ifn k1 (RIf.mk (ifn (by decide) (RIf.tx hv.symm Fr.id))))
          · have hv := hv.trans (aBo_l hu (lackB_2 hd hr hn0 (fun z => k0 z.1)) (by decide))
            exact ifp k0 (RIf.mk (ifn (by decide) (RIf.tx hv.symm Fr.id)))
    · rw [decide_eq_false hr]
      have hv := hv.trans (aBo_l hu (lackB_n (fun z => hr z.2)) (by decide))
      exact ifn (fun z => z rfl) (RIf.mk (ifn (by decide) (RIf.tx hv.symm Fr.id)))
  · rw [decide_eq_false hd]
    have hv := hv.trans (aBo_l hu (lackB_n (fun z => hd z.1)) (by decide))
    exact ifp rfl (RIf.mk (ifn (by decide) (RIf.tx hv.symm Fr.id)))
theorem p_areShelves {u : Nat} (hu : u < 2147483648) : Pu (D + 3) 205 [vi (iZ (u : Int))] I J b (bI (decide (u / 10 < 6 ∧ u % 10 < 6))) := by
  refine t_X10_areShelves _ I J b (ifn (by rw [i_0]; exact nlt (by omega) (by omega) (by omega)) ?_)
  rw [rem10 hu, div10 hu]
  refine (p_shM (by omega)).use ?_
  by_cases hd : u / 10 < 6
  · rw [decide_eq_true hd]
    refine ifn (by decide) ?_
    refine (p_shM (by omega)).use ?_
    by_cases hr : u % 10 < 6
    · rw [decide_eq_true hr, decide_eq_true ⟨hd, hr⟩]
      exact ifn (by decide) ⟨rfl, rfl⟩
    · rw [decide_eq_false hr, decide_eq_false (fun z => hr z.2)]
      exact ifp rfl ⟨rfl, rfl⟩
  · rw [decide_eq_false hd, decide_eq_false (fun z => hd z.1)]
    exact ifp rfl ⟨rfl, rfl⟩
theorem m_both {x v : Int32} {A : IM → JM → Prop} {f : List Nat → Sh → Int32} (hM : MR g I J) (hO : SOK g c) (hv : v = aBo g x f) (K : ∀ L u I', L.Nodup → (∀ j ∈ L, j < gN g) → v = f L (gS g (u % 10)) → u < 2147483648 → x = iZ (u : Int) → u % 10 < 6 → sK (gS g (u % 10)) = 2 → sA (gS g (u % 10)) = 1 → Fr pTh I I' → MR g I' J → PlM I' L → A I' J) : Call (D + 5) 205 [vi x] (101, I, J, R0 b) (RIf b fun x1 I2 J3 => (if ¬ x1 = 0 then Call (D + 5) 206 [vr 10 0, vi x] (101, I2, J3, R0 b) (RIf b fun x4 I5 J6 => (if 0 ≤ x4 then A I5 J6 else RIf b (fun z I' J' => z = v ∧ J' = J ∧ Fr pTh I I') (some (vi x4)) (101, I5, J6, R0 b))) else RIf b (fun z I' J' => z = v ∧ J' = J ∧ Fr pTh I I') (some (vi (-1))) (101, I2, J3, R0 b))) := by
  by_cases h1 : x < 0
  · refine t_X10_areShelves _ I J b (ifp h1 (RIf.mk (ifn (fun z => z rfl) (RIf.tm (hv.trans (aBo_n h1)).symm Fr.id))))
  obtain ⟨u, hu, rfl⟩ := nn_ex h1
  refine (p_areShelves hu).use ?_
  by_cases hdr : u / 10 < 6 ∧ u % 10 < 6
  · obtain ⟨hd, hr⟩ := hdr
    rw [decide_eq_true ⟨hd, hr⟩]
    refine ifp (by decide) ?_
    have hqd := hM.sh (u / 10) hd
    have hqr := hM.sh (u % 10) hr
    have hokd := (hO.2.2.2.1 (u / 10) hd).1
    have hokr := (hO.2.2.2.1 (u % 10) hr).1
    have hsh : ∀ q : Sh, ShOK q → (iZ (shH q) = -1 ↔ sK q = 0) := by
      intro q hok
      have hk2 := hok.1
      constructor
      · intro z
        rcases Nat.eq_zero_or_pos (sK q) with y | y
        · exact y
        · by_cases y1 : sK q = 1
          · have := hok.2.1 y1
            rw [shH_1 y1, i_m1, iZ_eq (by omega) (by omega) (by omega) (by omega)] at z
            omega
          · have y2 : sK q = 2 := by omega
            have := (hok.2.2 y2).1
            rw [shH_2 y2, i_m1, iZ_eq (by omega) (by omega) (by omega) (by omega)] at z
            omega
      · intro z
        rw [shH_0 z]
        rfl
    refine t_X10_layBoth _ I J b ?_
    rw [rem10 hu, div10 hu, iZ_ck (by omega), iZ_ck (by omega), hqd.1, hqr.1]
    refine ⟨vp_iZ (by omega) (by omega) (by omega), ?_⟩
    by_cases h0 : sK (gS g (u / 10)) = 0
    · have hv := hv.trans (aBo_l hu (lackB_1 hd hr (Or.inl h0)) (by decide))
      exact ifp ((hsh _ hokd).mpr h0) (RIf.mk (ifn (by decide) (RIf.tm hv.symm Fr.id)))
    · refine ifn (fun z => h0 ((hsh _ hokd).mp z)) ⟨vp_iZ (by omega) (by omega) (by omega), ?_⟩
      by_cases h2 : sK (gS g (u % 10)) = 0
      · have hv := hv.trans (aBo_l hu (lackB_1 hd hr (Or.inr h2)) (by decide))
        exact ifn (fun z => z ((hsh _ hokr).mpr h2)) (RIf.mk (ifn (by decide) (RIf.tm hv.symm Fr.id)))
      · have hn0 : ¬ (sK (gS g (u / 10)) = 0 ∨ sK (gS g (u % 10)) = 0) := by omega
        refine ifp (fun z => h2 ((hsh _ hokr).mp z)) ?_
        refine (p_rowFault hd hqd hokd (by omega) (x := 0) (so := 0) rfl).use ?_
        rcases lackV_cases (gS g (u / 10)) 0 with k0 | k0 | ⟨k0, k2, _⟩
        · exact absurd (lackV_11.mp k0) h0
        · have hv := hv.trans (aBo_l hu (lackB_2 hd hr hn0 (fun z => by rw [k0] at z; exact absurd z.1 (by decide))) (by decide))
          rw [k0]
          exact ifp (by decide) (RIf.mk (ifn (by decide) (RIf.tm hv.symm Fr.id)))
        · rw [k0]
          refine ifn (by decide) ?_
          refine (p_rowFault hr hqr hokr (by omega) (x := 1) (so := 1) rfl).use ?_
          rcases lackV_cases (gS g (u % 10)) 1 with j0 | j0 | ⟨j0, j2, j3⟩
          · exact absurd (lackV_11.mp j0) h2
          · have hv := hv.trans (aBo_l hu (lackB_2 hd hr hn0 (fun z => by rw [j0] at z; exact absurd z.2 (by decide))) (by decide))
            rw [j0]
            exact ifn (by decide) (RIf.mk (ifn (by decide) (RIf.tm hv.symm Fr.id)))
          · have hv := hv.trans (aBo_0 hu (lackB_0 hd hr hn0 ⟨k0, j0⟩))
            rw [j0]
            refine ifp (by decide) ?_
            refine (e_layOrder hd hO.1.1 k2 hokd hM.bn.1 hqd).useV ?_
            rintro I1 J1 ⟨rfl, hf, hL⟩
            obtain ⟨p1, p2⟩ := plan_ok (gN g) (gS g (u / 10))
            exact RIf.mk (ifp (by decide) (K _ u I1 p1 p2 hv hu rfl hr j2 j3 (pLm_th hf) (hM.fr (pLm_th hf)) hL))
  · rw [decide_eq_false hdr]
    have hv := hv.trans (aBo_l hu (lackB_n hdr) (by decide))
    exact ifn (fun z => z rfl) (RIf.tm hv.symm Fr.id)
def aJudge (x : Int32) (g : Sg) : Int32 := aBo g x (fun L q => nso (goL (parS g) L) q 31 0)
theorem cX_judge {x : Int32} (hX : XR g I J b) (hO : SOK g c) : TX (D + 9) 99 [vr 9 0, vi x] I J b (aJudge x g) := by
  refine t_X9_judge _ I J b ?_
  refine c_both hX hO rfl (fun L u I1 hN hn hv hu hxu hr hk hs1 hf1 hX1 hL1 => ?_)
  subst hxu
  refine c_ot hX1 hO hL1 hN hn (fun I2 hf2 hX2 hW2 hL2 hS2 hB2 => ?_)
  obtain ⟨hG, _⟩ := goL_ok (parS_ok hO) hN hn
  obtain ⟨hq, hok⟩ := hX2.sh hO _ hr
  rw [rem10 hu, iZ_ck (by omega)]
  refine ⟨vp_iZ (by omega) (by omega) (by omega), ?_⟩
  refine (p_fns hW2 (fun e he => hG.xle he) hq hk hok (by omega)).use (RIf.tx ?_ (hf1.tr hf2))
  rw [List.drop_zero]
  exact hv.symm
theorem cM_judge {x : Int32} (hM : MR g I J) (hO : SOK g c) : TM (D + 9) 207 [vr 10 0, vi x] I J b (aJudge x g) := by
  refine t_X10_judge _ I J b ?_
  refine m_both (D := D + 3) (A := fun I5 J6 => Call (D + 8) 185 [vr 10 0] (101, I5, J6, R0 b) (RVf b fun I8 J9 => 
      (Call (D + 8) 204 [vr 10 0, vi (x - x / (10 : Int32) * (10 : Int32))] (101, I8, J9, R0 b) (RIf b fun x10 I11 J12 => RIf b (fun z I' J' => z = aJudge x g ∧ J' = J ∧ Fr pTh I I') (some (vi x10)) (101, I11, J12, R0 b))))) hM hO rfl (fun L u I1 hN hn hv hu hxu hr hk hs1 hf1 hM1 hL1 => ?_)
  subst hxu
  refine m_go (D := D + 1) hM1 hO hL1 hN hn (fun I2 hf2 hM2 hH2 hX2 h49 hL2 => ?_)
  obtain ⟨hG, g1, g2, g3, g4, g5, g6⟩ := goL_ok (parS_ok hO) hN hn
  rw [rem10 hu]
  refine (p_wrongDrip (D := D + 5) hr hH2 (hM2.mb hO) (parS_ok hO) rfl hG g3 (by simpa using g4) (hM2.sh _ hr) hk (hO.2.2.2.1 _ hr).1 (by omega)).use (RIf.tm ?_ (hf1.tr (pGf_sub hf2)))
  rw [List.drop_zero]
  exact hv.symm
theorem op_judge (x : Int32) : Op 99 207 [vi x] := Op.th (aJudge x) (fun g c I J b hX hO => cX_judge (D := 891) hX hO) (fun g c I J b hM hO => cM_judge (D := 891) hM hO)
theorem nso_c (ch : List En) (q : Sh) : ∀ (n k : Nat), k + n ≤ 100 → nso ch q n k = -2 ∨ ∃ m : Nat, m ≤ 100 ∧ nso ch q n k = iZ (m : Int)
  | 0, k, _ => Or.inl rfl
  | n + 1, k, h => by
    unfold nso
    split
    · exact Or.inl rfl
    · split
      · exact Or.inr ⟨k, by omega, rfl⟩
      · split
        · exact Or.inr ⟨k, by omega, rfl⟩
        · split
          · exact nso_c ch q n (k + 1) (by omega)
          · exact Or.inr ⟨k, by omega, rfl⟩
def parW (g : Sg) (v : Nat) : Pa := parP (gN g) (gV g) (gL g) (2 + 2 * v) (gV g 7 0) false (gV g 8 0)
def okW (g : Sg) (L : List Nat) (q : Sh) (v : Nat) : Bool := decide (nso (goL (parW g v) L) q 31 0 = -2)
def aWho (x : Int32) (g : Sg) : Int32 := aBo g x (fun L q => oI (lsG (okW g L q) 4))
theorem parW_ok {v : Nat} (hO : SOK g c) (hv : v ≤ 9) : PaOK (parW g v) := by
  have h7 := hO.1.2.2.2.1
  exact parP_ok hO.1 (by omega) (by omega)
theorem w_X_who {L : List Nat} {q : Sh} {u : Nat} {v : Int32} {I0 : IM} (hO : SOK g c) (hN : L.Nodup) (hn : ∀ j ∈ L, j < gN g) (hu : u < 2147483648) (hr : u % 10 < 6) (hqe : q = gS g (u % 10)) (hk : sK q = 2) (hs1 : sA q = 1) (hv : v = oI (lsG (okW g L q) 4)) : ∀ (m k : Nat) (I : IM), m + k = 4 → lsG (okW g L q) k = none → XR g I J b → PlC I L → ShAt I (parS g) ∨ ShAt I (parW g (k - 1)) → Fr pCt I0 I → WP (D + 7) 101 32 [vr 9 0, vi (iZ (u : Int)), vn, vi (iZ (gV g 7 0 : Int)), vi (iZ (k : Int))] [] (101, I, J, R0 b) (RIf b (fun z I' J' => z = v ∧ J' = J ∧ Fr pCt I0 I')) := by
  have n7 := hO.1.1
  intro m
  induction m with
  | zero =>
    intro k I hm hls hX hL hS hf
    have : k = 4 := by omega
    subst this
    refine t_X9_who_32 _ _ _ I J b (ifp (by rw [i_3]; exact tlt (by omega) (by omega) (by omega)) (RIf.tx ?_ hf))
    rw [hv, hls]
    rfl
  | succ m ih =>
    intro k I hm hls hX hL hS hf
    refine t_X9_who_32 _ _ _ I J b (ifn (by rw [i_3]; exact nlt (by omega) (by omega) (by omega)) ?_)
    refine (e_staff (men := k) (cl := gV g 7 0) rfl rfl).useV ?_
    rintro I1 J1 ⟨rfl, hf1, s3, s4, s5, s29⟩
    have hX1 := hX.fr (pSp_ct hf1)
    have hL1 : PlC I1 L := hL.eq (hf1 _ _ _ rfl) (fun k => hf1 _ _ _ rfl)
    have hS1 : ShAt I1 (parW g k) := by
      refine ⟨s3, s4, ?_, fun j a hj ha => ?_⟩
      · rw [s5]
        rcases hS with hS | hS
        · exact hS.2.2.1
        · exact hS.2.2.1
      · rw [s29]
        rcases hS with hS | hS
        · exact hS.2.2.2 j a hj ha
        · exact hS.2.2.2 j a hj ha
    have hB1 : BeAt I1 (parW g k) := BeAt_of hX1.1 n7
    have hP := parW_ok hO (show k ≤ 9 by omega)
    refine (e_tryPlan (D := D + 1) hP hN hn hL1 hB1 hS1 hX1.room).useI ?_
    rintro y I2 J2 ⟨rfl, hf2, hW2, rfl⟩
    obtain ⟨hG, _⟩ := goL_ok hP hN hn
    have hX2 := hX1.fr (pW0_ct hf2)
    obtain ⟨hq, hok⟩ := hX2.sh hO _ hr
    rw [rem10 hu, iZ_ck (by omega)]
    refine ⟨vp_iZ (by omega) (by omega) (by omega), ?_⟩
    rw [← hqe] at hq hok
    refine (p_fns hW2 (fun e he => hG.xle he) hq hk hok (by omega)).use ?_
    rw [List.drop_zero]
    have hff := (hf.tr (pSp_ct hf1)).tr (pW0_ct hf2)
    refine ifs (fun c1 => ?_) (fun c1 => ?_)
    · rw [iZ_s]
      refine ih (k + 1) I2 (by omega) ?_ hX2 (hL1.fr hf2) (Or.inr (hS1.fr hf2)) hff
      have : okW g L q k = false := decide_eq_false c1
      unfold lsG
      rw [hls]
      dsimp only
      rw [if_neg (by rw [this]; decide)]
    · have c1 := Classical.not_not.mp c1
      refine RIf.tx ?_ hff
      rw [hv]
      have h1 : lsG (okW g L q) (k + 1) = some k := by
        have : okW g L q k = true := decide_eq_true c1
        unfold lsG
        rw [hls]
        dsimp only
        rw [if_pos this]
      have h2 := lsG_up m (k + 1) h1
      rw [show k + 1 + m = 4 by omega] at h2
      rw [h2]
      rfl
theorem cX_who {x : Int32} (hX : XR g I J b) (hO : SOK g c) : TX (D + 9) 101 [vr 9 0, vi x] I J b (aWho x g) := by
  refine t_X9_who _ I J b ?_
  refine c_both (D := D + 5) hX hO rfl (fun L u I1 hN hn hv hu hxu hr hk hs1 hf1 hX1 hL1 => ?_)
  subst hxu
  refine (p_standing (D := D + 7) hX1.1 (q := 7) rfl (by omega) (by omega)).use ?_
  refine (e_open (D := D + 1) (hX1.BL hO)).useV ?_
  rintro I2 J2 ⟨rfl, hf2, hS2⟩
  exact w_X_who (D := D + 1) hO hN hn hu hr rfl hk hs1 hv 4 0 I2 (by omega) rfl (hX1.fr (pSp_ct hf2)) (hL1.eq (hf2 _ _ _ rfl) (fun k => hf2 _ _ _ rfl)) (Or.inl hS2) (hf1.tr (pSp_ct hf2))
theorem w_M_who {L : List Nat} {q : Sh} {u : Nat} {v : Int32} {I0 : IM} (hM : MR g I0 J) (hO : SOK g c) (hN : L.Nodup) (hn : ∀ j ∈ L, j < gN g) (hu : u < 2147483648) (hr : u % 10 < 6) (hqe : q = gS g (u % 10)) (hk : sK q = 2) (hs1 : sA q = 1) (hv : v = oI (lsG (okW g L q) 4)) : ∀ (m k : Nat) (I : IM) (be : Int32), m + k = 4 → be = oI (lsG (okW g L q) k) → PlM I L → Fr pTw I0 I → (∀ q, q ≠ 8 → ((8 ≤ q ∧ q ≤ 10) ∨ (44 ≤ q ∧ q ≤ 45)) → I 10 0 q = I0 10 0 q) → WP (D + 7) 209 33 [vr 10 0, vi (iZ (u : Int)), vn, vi (I0 10 0 8), vi be, vi (iZ (k : Int))] [] (101, I, J, R0 b) (RIf b (fun z I' J' => z = v ∧ J' = J ∧ Fr pTh I0 I')) := by
  have n7 := hO.1.1
  have h60 := hO.1.2.2.1
  have h70 := hO.1.2.2.2.1
  have h80 := hO.1.2.2.2.2.1
  have hend : ∀ I, Fr pTw I0 I → (∀ q, q ≠ 8 → ((8 ≤ q ∧ q ≤ 10) ∨ (44 ≤ q ∧ q ≤ 45)) → I 10 0 q = I0 10 0 q) → Fr pTh I0 (updI I 10 0 8 (I0 10 0 8)) := by
    intro I hf hq
    refine pTw_th (hf.upd rfl) (fun q hq2 => ?_)
    rw [updI_if]
    split
    · next h =>
      obtain ⟨_, _, rfl⟩ := h
      rfl
    · next h => exact hq q (by omega) hq2
  intro m
  induction m with
  | zero =>
    intro k I be hm hbe hL hf hq
    have : k = 4 := by omega
    subst this
    refine t_X10_who_33 _ _ _ _ I J b (ifp (by rw [i_3]; exact tlt (by omega) (by omega) (by omega)) (RIf.tm ?_ (hend I hf hq)))
    rw [hv, hbe]
  | succ m ih =>
    intro k I be hm hbe hL hf hq
    refine t_X10_who_33 _ _ _ _ I J b (ifn (by rw [i_3]; exact nlt (by omega) (by omega) (by omega)) ?_)
    cases hls : lsG (okW g L q) k with
    | some w =>
      rw [hls] at hbe
      have hw := lsG_lt _ hls
      refine ifp (by rw [hbe, i_0]; exact tle (by omega) (by omega) (by omega)) (RIf.tm ?_ (hend I hf hq))
      have h2 := lsG_up (m + 1) k hls
      rw [show k + (m + 1) = 4 by omega] at h2
      rw [hv, h2, hbe]
    | none =>
      rw [hls] at hbe
      refine ifn (by rw [hbe]; decide) ?_
      have hup : ∀ q, q ≠ 8 → updI I 10 0 8 (iZ (k : Int)) 10 0 q = I 10 0 q := fun q hq => by
        rw [updI_if, if_neg (by omega)]
      have hfu : Fr pTw I (updI I 10 0 8 (iZ (k : Int))) := Fr.id.upd rfl
      refine m_goW (gl := gV g 8 0) (dr := false) (nv := false) (men := k) (C := gV g 7 0) hM hO (hf.tr hfu) uI_eq ((hup _ (by omega)).trans ((hq 9 (by omega) (by omega)).trans (hM.bn.2.2 7 (by omega) (by omega)))) ((hup _ (by omega)).trans ((hq 10 (by omega) (by omega)).trans (hM.bn.2.2 8 (by omega) (by omega)))) ((hup _ (by omega)).trans ((hq 44 (by omega) (by omega)).trans hM.dry)) ((hup _ (by omega)).trans ((hq 45 (by omega) (by omega)).trans hM.drawn)) (by omega) (by omega) (by omega) (hL.eq (hup _ (by omega)) (fun q => by rw [updI_if, if_neg (by omega)])) hN hn (fun I2 hf2 hH2 _ _ h49 hL2 hMb2 => ?_)
      rw [goZ_f] at hH2
      have hH2 : HoAt I2 (goL (parW g k) L) 0 (goN (parW g k) L) := hH2
      have hP := parW_ok hO (show k ≤ 9 by omega)
      obtain ⟨hG, g1, g2, g3, g4, g5, g6⟩ := goL_ok hP hN hn
      have hf3 : Fr pTw I0 I2 := (hf.tr hfu).tr (pGf_w hf2)
      have hq3 : ∀ q, q ≠ 8 → ((8 ≤ q ∧ q ≤ 10) ∨ (44 ≤ q ∧ q ≤ 45)) → I2 10 0 q = I0 10 0 q := fun q q1 q2 => ((hf2 _ _ _ (pGf_f (by omega))).trans (hup q q1)).trans (hq q q1 q2)
      have hsh : ShM I2 J (u % 10) q := by
        rw [hqe]
        exact (hM.sh _ hr).eq (fun t k' z => hf3 _ _ _ (bf_of pTw_iff (by omega))) (fun _ => rfl)
      rw [rem10 hu]
      refine (p_wrongDrip (D := D + 4) hr hH2 hMb2 hP rfl hG g3 (by simpa using g4) hsh hk (by rw [hqe]; exact (hO.2.2.2.1 _ hr).1) (by omega)).use ?_
      rw [List.drop_zero]
      refine ifs (fun c1 => ?_) (fun c1 => ?_)
      · have hno : okW g L q k = false := by
          refine decide_eq_false (fun z => ?_)
          rw [z] at c1
          exact absurd c1 (by decide)
        rw [iZ_s]
        refine ih (k + 1) I2 be (by omega) ?_ hL2 hf3 hq3
        rw [hbe]
        unfold lsG
        rw [hls]
        dsimp only
        rw [if_neg (by rw [hno]; decide)]
      · have hyes : okW g L q k = true := by
          refine decide_eq_true ?_
          rcases nso_c (goL (parW g k) L) q 31 0 (by omega) with z | ⟨y, y1, z⟩
          · exact z
          · rw [z, i_0] at c1
            exact absurd (tle (by omega) (by omega) (by omega)) c1
        rw [iZ_s]
        refine ih (k + 1) I2 _ (by omega) ?_ hL2 hf3 hq3
        unfold lsG
        rw [hls]
        dsimp only
        rw [if_pos hyes]
        rfl
theorem cM_who {x : Int32} (hM : MR g I J) (hO : SOK g c) : TM (D + 9) 209 [vr 10 0, vi x] I J b (aWho x g) := by
  refine t_X10_who _ I J b ?_
  refine m_both (D := D + 3) (A := fun I5 J6 => WP (D + 8) 209 33 [vr 10 0, vi x, vn, vi (I5 10 0 8), vi (-2), vi 0] [] (101, I5, J6, R0 b) (RIf b (fun z I' J' => z = aWho x g ∧ J' = J ∧ Fr pTh I I'))) hM hO rfl (fun L u I1 hN hn hv hu hxu hr hk hs1 hf1 hM1 hL1 => ?_)
  subst hxu
  refine (w_M_who (D := D + 1) hM1 hO hN hn hu hr rfl hk hs1 hv 4 0 I1 (-2) (by omega) rfl hL1 Fr.id (fun _ _ _ => rfl)).mono ?_
  rintro r h ⟨y, I', J', rfl, rfl, rfl, rfl, h3⟩
  exact RIf.tm rfl (hf1.tr h3)
theorem op_who (x : Int32) : Op 101 209 [vi x] := Op.th (aWho x) (fun g c I J b hX hO => cX_who (D := 891) hX hO) (fun g c I J b hM hO => cM_who (D := 891) hM hO)
end OPF
