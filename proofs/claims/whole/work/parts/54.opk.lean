/-! OPS IN THOUGHT: need -/
def okN (o : Option (Nat × List Nat)) (mx : Nat) : Bool := match o with
  | none => false
  | some (a, _) => decide (a ≤ mx)
def parN (g : Sg) (w : Int32) (v : Nat) : Pa := if w = 0 then parZ g (gV g 6 0) v else parZ g v (gV g 7 0)
theorem parN_0 {g : Sg} {v : Nat} : parN g 0 v = parZ g (gV g 6 0) v := if_pos rfl
theorem parN_1 {g : Sg} {v : Nat} : parN g 1 v = parZ g v (gV g 7 0) := if_neg (by decide)
def fNeed (g : Sg) (w : Int32) (mx : Nat) : Int32 := oI (lsG (fun v => okN (beF (parN g w v) (gN g)) mx) (if w = 0 then 7 else 4))
def aNeed (x w : Int32) (g : Sg) : Int32 := if inB x 0 999 = false then -1 else if inB w 0 1 = false then -1 else fNeed g w x.toInt.toNat
section OPK
variable {D : Nat} {g : Sg} {c : Nat} {I : IM} {J : JM} {b : Bool}
theorem aNeed_x {x w : Int32} (h : inB x 0 999 = false) : aNeed x w g = -1 := by unfold aNeed; rw [if_pos h]
theorem aNeed_w {x w : Int32} (h : inB x 0 999 = true) (h2 : inB w 0 1 = false) : aNeed x w g = -1 := by unfold aNeed; rw [if_neg (by rw [h]; decide), if_pos h2]
theorem aNeed_y {x w : Int32} (h : inB x 0 999 = true) (h2 : inB w 0 1 = true) : aNeed x w g = fNeed g w x.toInt.toNat := by unfold aNeed; rw [if_neg (by rw [h]; decide), if_neg (by rw [h2]; decide)]
/-- whether the first within it came -/
theorem okN_first {P : Pa} {n mx : Nat} (hP : PaOK P) (hn : pn P = n) (hN : pN P = false) : ((pms n n []).foldl (cst P n noD 0) (st0 (mx + 1))).1 = if okN (beF P n) mx then 1 else 0 := by
  have h1 := be_spec (P := P) (n := n) (pms n n []) none
  rcases first_0 (P := P) (n := n) (lim := mx + 1) (due := noD) (pms n n []) with ⟨f1, f2⟩ | ⟨f1, L, f2, f3, f4⟩
  · rw [f1, if_neg]
    intro z
    cases hb : beF P n with
    | none => rw [hb] at z; cases z
    | some y =>
      obtain ⟨a, L⟩ := y
      rw [hb] at z
      have z : a ≤ mx := of_decide_eq_true z
      rw [show (pms n n []).foldl (fBe P n) none = some (a, L) from hb] at h1
      rcases h1.1 with y | ⟨y1, y2, y3⟩
      · cases y
      · exact f2 L y1 ⟨by rw [ful_n]; exact y2, by omega⟩
  · rw [f1, if_pos]
    rw [ful_n] at f3
    cases hb : beF P n with
    | none =>
      rw [show (pms n n []).foldl (fBe P n) none = none from hb] at h1
      rw [h1.2 L f2] at f3
      cases f3
    | some y =>
      obtain ⟨a, L2⟩ := y
      rw [show (pms n n []).foldl (fBe P n) none = some (a, L2) from hb] at h1
      have := h1.2.1 L f2 f3
      exact decide_eq_true (by omega)
theorem w_X_need {w : Int32} {mx N : Nat} {v : Int32} {I0 : IM} (hO : SOK g c) (hmx : mx ≤ 999) (hw : (w = 0 ∧ N = 7) ∨ (w = 1 ∧ N = 4)) (hv : v = oI (lsG (fun v => okN (beF (parN g w v) (gN g)) mx) N)) : ∀ (m k : Nat) (I : IM) (P0 : Pa), m + k = N → lsG (fun v => okN (beF (parN g w v) (gN g)) mx) k = none → XR g I J b → DuC I noD → ShAt I P0 → pn P0 = gN g → pN P0 = false → (∀ j q, pM P0 j q = pM (parS g) j q) → Fr pCt I0 I → WP (D + 15) 91 70 [vr 9 0, vi (iZ (mx : Int)), vi w, vi (iZ (gV g 6 0 : Int)), vi (iZ (gV g 7 0 : Int)), vi (iZ ((N - 1 : Nat) : Int)), vi (iZ (k : Int))] [] (101, I, J, R0 b) (RIf b (fun z I' J' => z = v ∧ J' = J ∧ Fr pCt I0 I')) := by
  have h60 := hO.1.2.2.1
  have h70 := hO.1.2.2.2.1
  have hN7 : N ≤ 7 := by rcases hw with ⟨_, h⟩ | ⟨_, h⟩ <;> omega
  have hN1 : 1 ≤ N := by rcases hw with ⟨_, h⟩ | ⟨_, h⟩ <;> omega
  intro m
  induction m with
  | zero =>
    intro k I P0 hk hls hX hd hS hPn hPN hPM hf
    refine t_X9_need_70 _ _ _ _ _ _ I J b (ifp (tlt (by omega) (by omega) (by omega)) (RIf.tx ?_ hf))
    rw [hv, show N = k by omega, hls]
    rfl
  | succ m ih =>
    intro k I P0 hk hls hX hd hS hPn hPN hPM hf
    refine t_X9_need_70 _ _ _ _ _ _ I J b (ifn (nlt (by omega) (by omega) (by omega)) ?_)
    have step : ∀ (men cl : Nat) (x y : Int32), x = iZ (men : Int) → y = iZ (cl : Int) → men ≤ 9 → cl ≤ 10 → parN g w k = parZ g men cl → Call (D + 15) 55 [vr 7 0, vi x, vi y] (101, I, J, R0 b) (RVf b fun I23 J24 => (Call (D + 15) 40 [vr 5 0, vi 0, vi (iZ (mx : Int) + (1 : Int32))] (101, I23, J24, R0 b) (RVf b fun I26 J27 => (if (I26 5 0 7) ≤ 0 then WP (D + 15) 91 70 [vr 9 0, vi (iZ (mx : Int)), vi w, vi (iZ (gV g 6 0 : Int)), vi (iZ (gV g 7 0 : Int)), vi (iZ ((N - 1 : Nat) : Int)), vi (iZ (k : Int) + 1)] [] (101, I26, J27, R0 b) (RIf b (fun z I' J' => z = v ∧ J' = J ∧ Fr pCt I0 I')) else RIf b (fun z I' J' => z = v ∧ J' = J ∧ Fr pCt I0 I') (some (vi (iZ (k : Int)))) (101, I26, J27, R0 b))))) := by
      intro men cl x y hx hy hm hcl hpar
      refine (e_staff (D := D + 13) hx hy).useV ?_
      rintro I1 J1 ⟨rfl, hf1, s3, s4, s5, s29⟩
      have hS1 : ShAt I1 (parZ g men cl) := ⟨s3, s4, (s5.trans hS.2.2.1).trans (by rw [hPN]; rfl), fun j q hj hq => ((s29 _).trans (hS.2.2.2 j q (by rw [hPn]; exact hj) (by rw [hPn]; exact hq))).trans (by rw [hPM]; rfl)⟩
      have hPz : PaOK (parZ g men cl) := parP_ok hO.1 (by omega) hcl
      have hd1 : DuC I1 noD := fun j hj => ⟨(hf1 _ _ _ rfl).trans (hd j hj).1, (hd j hj).2⟩
      refine c_go (P := parZ g men cl) (aim := 0) (lim := mx + 1) (hX.fr (pSp_ct hf1)) hO rfl hPz.2.1 hPz.2.2.1 hS1 hd1 rfl (iZ_s _) (by omega) (by omega) (by omega) (by omega) (fun z => by cases z) (fun I2 k1 hX2 hS2 hd2 k2 => ?_)
      have hff := (hf.tr (pSp_ct hf1)).tr k1
      rw [k2.2.2.2.1, okN_first (n := gN g) (mx := mx) hPz rfl rfl, ← hpar]
      cases hok : okN (beF (parN g w k) (gN g)) mx
      · refine ifp (by decide) ?_
        rw [iZ_s]
        refine ih (k + 1) I2 (parZ g men cl) (by omega) ?_ hX2 hd2 hS2 rfl rfl (fun _ _ => rfl) hff
        unfold lsG
        rw [hls]
        dsimp only
        rw [if_neg (by rw [hok]; decide)]
      · refine ifn (by decide) (RIf.tx ?_ hff)
        have h1 : lsG (fun v => okN (beF (parN g w v) (gN g)) mx) (k + 1) = some k := by
          unfold lsG
          rw [hls]
          dsimp only
          rw [if_pos hok]
        have h2 := lsG_up m (k + 1) h1
        rw [show k + 1 + m = N by omega] at h2
        rw [hv, h2]
        rfl
    rcases hw with ⟨rfl, rfl⟩ | ⟨rfl, rfl⟩
    · exact ifp (by decide) (ifn (fun z => z rfl) (step (gV g 6 0) k _ _ rfl rfl (by omega) (by omega) parN_0))
    · exact ifn (fun z => z rfl) (ifp (by decide) (step k (gV g 7 0) _ _ rfl rfl (by omega) (by omega) parN_1))
theorem cX_need {x w : Int32} (hX : XR g I J b) (hO : SOK g c) : TX (D + 16) 91 [vr 9 0, vi x, vi w] I J b (aNeed x w g) := by
  have hp := parS_ok hO
  refine t_X9_need _ _ I J b ?_
  by_cases h0 : x < 0
  · refine ifp h0 (RIf.tx (aNeed_x ?_).symm Fr.id)
    rw [inB_eq, Bool.and_eq_false_iff]
    rw [lt_i] at h0
    exact Or.inl (decide_eq_false (by have : (0 : Int32).toInt = 0 := rfl; omega))
  refine ifn h0 ?_
  obtain ⟨mx, v1, rfl⟩ := nn_ex h0
  by_cases h1 : (999 : Int32) < iZ (mx : Int)
  · refine ifp h1 (RIf.tx (aNeed_x ?_).symm Fr.id)
    rw [inB_eq, Bool.and_eq_false_iff]
    rw [lt_i] at h1
    exact Or.inr (decide_eq_false (by omega))
  refine ifn h1 ?_
  have hmx : mx ≤ 999 := by
    apply Classical.byContradiction
    intro z
    exact h1 (by rw [show (999 : Int32) = iZ 999 from rfl]; exact tlt (by omega) (by omega) (by omega))
  have hin : inB (iZ (mx : Int)) 0 999 = true := by
    rw [inB_eq, iZ_toInt (by omega) (by omega), Bool.and_eq_true]
    exact ⟨decide_eq_true (by have : (0 : Int32).toInt = 0 := rfl; omega), decide_eq_true (by have : (999 : Int32).toInt = 999 := rfl; omega)⟩
  refine (p_X_isZeroOrOne w).use ?_
  cases hw : inB w 0 1
  · exact ifn (fun z => z rfl) (RIf.tx (aNeed_w hin hw).symm Fr.id)
  · refine ifp (by decide) ?_
    refine (p_standing (D := D + 14) (q := 6) hX.1 rfl (by omega) (by omega)).use ?_
    refine (p_standing (D := D + 14) (q := 7) hX.1 rfl (by omega) (by omega)).use ?_
    rw [aNeed_y hin hw, iZ_toInt (by omega) (by omega), Int.toNat_natCast]
    rcases in01 hw with rfl | rfl
    · refine ifn (fun z => z rfl) ?_
      refine (e_open (D := D + 8) (hX.BL hO)).useV ?_
      rintro I1 J1 ⟨rfl, hf1, hS1⟩
      refine c_free (D := D + 13) (P := parS g) (hX.fr (pSp_ct hf1)) hS1 (fun I2 k1 hX2 hS2 hd2 => ?_)
      exact w_X_need (D := D) (N := 7) hO hmx (Or.inl ⟨rfl, rfl⟩) rfl 7 0 I2 (parS g) (by omega) rfl hX2 hd2 hS2 rfl rfl (fun _ _ => rfl) ((pSp_ct hf1).tr k1)
    · refine ifp (by decide) ?_
      refine (e_open (D := D + 8) (hX.BL hO)).useV ?_
      rintro I1 J1 ⟨rfl, hf1, hS1⟩
      refine c_free (D := D + 13) (P := parS g) (hX.fr (pSp_ct hf1)) hS1 (fun I2 k1 hX2 hS2 hd2 => ?_)
      exact w_X_need (D := D) (N := 4) hO hmx (Or.inr ⟨rfl, rfl⟩) rfl 4 0 I2 (parS g) (by omega) rfl hX2 hd2 hS2 rfl rfl (fun _ _ => rfl) ((pSp_ct hf1).tr k1)
theorem e_lay6 {z : Int32} {T : IM → JM → Prop} (t : T (updI I 10 0 8 z) J) : Call (D + 1) 142 [vr 10 0, vi 6, vi 0, vi z] (101, I, J, R0 b) (RVf b T) :=
  t_X10_lays _ _ _ I J b (ifn (by decide) (ifn (by decide) (ifn (by decide) (ifn (by decide) (ifn (by decide) (ifn (by decide) (ifp rfl (RVf.mk t))))))))
theorem e_lay7 {z : Int32} {T : IM → JM → Prop} (t : T (updI I 10 0 9 z) J) : Call (D + 1) 142 [vr 10 0, vi 7, vi 0, vi z] (101, I, J, R0 b) (RVf b T) :=
  t_X10_lays _ _ _ I J b (ifn (by decide) (ifn (by decide) (ifn (by decide) (ifn (by decide) (ifn (by decide) (ifn (by decide) (ifn (by decide) (ifp rfl (RVf.mk t)))))))))
theorem oI_neg {o : Option Nat} (h : ∀ v, o = some v → v < 100) : 0 ≤ oI o ↔ o ≠ none := by
  cases o with
  | none => exact ⟨fun z => absurd z (by decide), fun z => absurd rfl z⟩
  | some v =>
    have := h v rfl
    exact ⟨fun _ z => (by cases z), fun _ => (by show 0 ≤ iZ (v : Int); rw [i_0]; exact tle (by omega) (by omega) (by omega))⟩
/-- the model's loop, for one staff -/
theorem w_M_need {w : Int32} {mx N q old : Nat} {v : Int32} {I0 : IM} (hM : MR g I0 J) (hO : SOK g c) (hmx : mx ≤ 999) (hw : (w = 0 ∧ N = 7 ∧ q = 9 ∧ old = gV g 7 0) ∨ (w = 1 ∧ N = 4 ∧ q = 8 ∧ old = gV g 6 0)) (hv : v = oI (lsG (fun v => okN (beF (parN g w v) (gN g)) mx) N)) : ∀ (m k : Nat) (I : IM), m + k = N → Fr pTw I0 I → (∀ p, p ≠ q → (8 ≤ p ∧ p ≤ 10) ∨ (44 ≤ p ∧ p ≤ 45) → I 10 0 p = I0 10 0 p) → WP (D + 17) 195 45 [vr 10 0, vi (iZ (mx : Int)), vi w, vi (iZ (old : Int)), vi (oI (lsG (fun v => okN (beF (parN g w v) (gN g)) mx) k)), vi (iZ (k : Int))] [] (101, I, J, R0 b) (RIf b (fun z I' J' => z = v ∧ J' = J ∧ Fr pTh I0 I')) := by
  have h60 := hO.1.2.2.1
  have h70 := hO.1.2.2.2.1
  have n7 := hO.1.1
  have v8 : I0 10 0 8 = iZ (gV g 6 0 : Int) := hM.bn.2.2 6 (by omega) (by omega)
  have v9 : I0 10 0 9 = iZ (gV g 7 0 : Int) := hM.bn.2.2 7 (by omega) (by omega)
  have hold : I0 10 0 q = iZ (old : Int) := by
    rcases hw with ⟨_, _, rfl, rfl⟩ | ⟨_, _, rfl, rfl⟩
    · exact v9
    · exact v8
  have hq89 : q = 8 ∨ q = 9 := by rcases hw with ⟨_, _, h, _⟩ | ⟨_, _, h, _⟩ <;> omega
  have hN7 : N ≤ 7 := by rcases hw with ⟨_, h, _⟩ | ⟨_, h, _⟩ <;> omega
  have hpq : pTw 10 0 q = true := pTw_iff.mpr (by omega)
  -- told as before
  have hback : ∀ (I : IM), Fr pTw I0 I → (∀ p, p ≠ q → (8 ≤ p ∧ p ≤ 10) ∨ (44 ≤ p ∧ p ≤ 45) → I 10 0 p = I0 10 0 p) → Fr pTh I0 (updI I 10 0 q (iZ (old : Int))) := by
    intro I hf hq
    have e : ∀ p, (8 ≤ p ∧ p ≤ 10) ∨ (44 ≤ p ∧ p ≤ 45) → updI I 10 0 q (iZ (old : Int)) 10 0 p = I0 10 0 p := fun p hp => by
      rw [updI_if]
      split
      · next h =>
        obtain ⟨_, _, rfl⟩ := h
        exact hold.symm
      · next h => exact hq p (by omega) hp
    exact pTw_th (hf.upd hpq) e
  intro m
  induction m with
  | zero =>
    intro k I hk hf hq
    have hk : k = N := by omega
    subst hk
    refine t_X10_need_45 _ _ _ _ _ I J b ?_
    rcases hw with ⟨rfl, rfl, rfl, rfl⟩ | ⟨rfl, rfl, rfl, rfl⟩
    · exact ifn (fun z => z rfl) (ifp (by decide) (ifn (fun z => z rfl) (e_lay7 (D := D + 16) (RIf.tm hv.symm (hback I hf hq)))))
    · exact ifp (by decide) (ifp (by decide) (ifp (by decide) (e_lay6 (D := D + 16) (RIf.tm hv.symm (hback I hf hq)))))
  | succ m ih =>
    intro k I hk hf hq
    have hlt := fun v => lsG_lt (ok := fun v => okN (beF (parN g w v) (gN g)) mx) (v := v) k
    have hoi := oI_neg (o := lsG (fun v => okN (beF (parN g w v) (gN g)) mx) k) (fun v h => by have := hlt v h; omega)
    by_cases hne : lsG (fun v => okN (beF (parN g w v) (gN g)) mx) k = none
    · -- one more
      have step : ∀ (men cl : Nat), men ≤ 9 → cl ≤ 10 → parN g w k = parZ g men cl → updI I 10 0 q (iZ (k : Int)) 10 0 8 = iZ (men : Int) → updI I 10 0 q (iZ (k : Int)) 10 0 9 = iZ (cl : Int) → Call (D + 17) 192 [vr 10 0, vi (-1)] (101, updI I 10 0 q (iZ (k : Int)), J, R0 b) (RVf b fun I23 J24 => (if (I23 10 0 50) ≤ 0 then WP (D + 17) 195 45 [vr 10 0, vi (iZ (mx : Int)), vi w, vi (iZ (old : Int)), vi (oI (lsG (fun v => okN (beF (parN g w v) (gN g)) mx) k)), vi (iZ (k : Int) + 1)] [] (101, I23, J24, R0 b) (RIf b (fun z I' J' => z = v ∧ J' = J ∧ Fr pTh I0 I')) else (if iZ (mx : Int) < (I23 10 0 51) then WP (D + 17) 195 45 [vr 10 0, vi (iZ (mx : Int)), vi w, vi (iZ (old : Int)), vi (oI (lsG (fun v => okN (beF (parN g w v) (gN g)) mx) k)), vi (iZ (k : Int) + 1)] [] (101, I23, J24, R0 b) (RIf b (fun z I' J' => z = v ∧ J' = J ∧ Fr pTh I0 I')) else WP (D + 17) 195 45 [vr 10 0, vi (iZ (mx : Int)), vi w, vi (iZ (old : Int)), vi (iZ (k : Int)), vi (iZ (k : Int) + 1)] [] (101, I23, J24, R0 b) (RIf b (fun z I' J' => z = v ∧ J' = J ∧ Fr pTh I0 I'))))) := by
        intro men cl hm hcl hpar e8 e9
        have e : ∀ p, p ≠ q → (8 ≤ p ∧ p ≤ 10) ∨ (44 ≤ p ∧ p ≤ 45) → updI I 10 0 q (iZ (k : Int)) 10 0 p = I0 10 0 p := fun p h1 h2 => by
          rw [updI_if, if_neg (by omega)]
          exact hq p h1 h2
        have hfu : Fr pTw I0 (updI I 10 0 q (iZ (k : Int))) := hf.upd hpq
        refine m_worth (D := D) (men := men) (cl := cl) (I0 := I0) hM hO hfu e8 e9 (e 10 (by omega) (by omega)) ((e 44 (by omega) (by omega)).trans hM.dry) ((e 45 (by omega) (by omega)).trans hM.drawn) hm hcl (fun I2 k2 k3 k4 => ?_)
        have hf2 : Fr pTw I0 I2 := hfu.tr (pTh_w k2)
        have hq2 : ∀ p, p ≠ q → (8 ≤ p ∧ p ≤ 10) ∨ (44 ≤ p ∧ p ≤ 45) → I2 10 0 p = I0 10 0 p := fun p h1 h2 => (k2 10 0 p (pTh_f (by omega))).trans (e p h1 h2)
        have hle := orF_le (P := parZ g men cl) n7
        have hbo := beF_or (P := parZ g men cl) (n := gN g)
        have hsn : ∀ z : Bool, okN (beF (parN g w k) (gN g)) mx = z → lsG (fun v => okN (beF (parN g w v) (gN g)) mx) (k + 1) = if z then some k else none := fun z hz => by
          unfold lsG
          rw [hne]
          dsimp only
          rw [hz]
        rw [k4, iZ_s]
        cases hb : beF (parZ g men cl) (gN g) with
        | none =>
          have h0 := hbo.mp hb
          have hz := hsn false (by rw [hpar, hb]; rfl)
          refine ifp (by rw [h0]; decide) ?_
          have := ih (k + 1) I2 (by omega) hf2 hq2
          rw [hz] at this
          rw [hne]
          exact this
        | some y =>
          obtain ⟨a, L⟩ := y
          rw [hb] at k3 hbo
          have h0 : ¬ orF (parZ g men cl) (gN g) = 0 := fun z => by cases hbo.mpr z
          refine ifn (by rw [i_0]; exact nle (by omega) (by omega) (by omega)) ?_
          have ha := k3.2.1
          rw [k3.1]
          refine ifs (fun c1 => ?_) (fun c1 => ?_)
          · rw [iZ_lt (by omega) (by omega) (by omega) (by omega)] at c1
            have hz := hsn false (by rw [hpar, hb]; exact decide_eq_false (by omega))
            have := ih (k + 1) I2 (by omega) hf2 hq2
            rw [hz] at this
            rw [hne]
            exact this
          · rw [iZ_lt (by omega) (by omega) (by omega) (by omega)] at c1
            have hz := hsn true (by rw [hpar, hb]; exact decide_eq_true (by omega))
            have := ih (k + 1) I2 (by omega) hf2 hq2
            rw [hz] at this
            exact this
      refine t_X10_need_45 _ _ _ _ _ I J b ?_
      rcases hw with ⟨rfl, rfl, rfl, rfl⟩ | ⟨rfl, rfl, rfl, rfl⟩
      · refine ifn (fun z => z rfl) (ifn (by rw [show (6 : Int32) = iZ 6 from rfl]; exact nlt (by omega) (by omega) (by omega)) (ifn (fun z => hoi.mp z hne) (ifn (fun z => z rfl) (e_lay7 (D := D + 16) ?_))))
        exact step (gV g 6 0) k (by omega) (by omega) parN_0 (by rw [updI_if, if_neg (by omega), hq 8 (by omega) (by omega)]; exact v8) uI_eq
      · refine ifp (by decide) (ifn (by rw [i_3]; exact nlt (by omega) (by omega) (by omega)) (ifn (fun z => hoi.mp z hne) (ifp (by decide) (e_lay6 (D := D + 16) ?_))))
        exact step k (gV g 7 0) (by omega) (by omega) parN_1 uI_eq (by rw [updI_if, if_neg (by omega), hq 9 (by omega) (by omega)]; exact v9)
    · -- found already
      have hfin : oI (lsG (fun v => okN (beF (parN g w v) (gN g)) mx) k) = v := by
        cases hl : lsG (fun v => okN (beF (parN g w v) (gN g)) mx) k with
        | none => exact absurd hl hne
        | some y =>
          have h2 := lsG_up (m + 1) k hl
          rw [show k + (m + 1) = N by omega] at h2
          rw [hv, h2]
      refine t_X10_need_45 _ _ _ _ _ I J b ?_
      rcases hw with ⟨rfl, rfl, rfl, rfl⟩ | ⟨rfl, rfl, rfl, rfl⟩
      · exact ifn (fun z => z rfl) (ifn (by rw [show (6 : Int32) = iZ 6 from rfl]; exact nlt (by omega) (by omega) (by omega)) (ifp (hoi.mpr hne) (ifn (fun z => z rfl) (e_lay7 (D := D + 16) (RIf.tm hfin (hback I hf hq))))))
      · exact ifp (by decide) (ifn (by rw [i_3]; exact nlt (by omega) (by omega) (by omega)) (ifp (hoi.mpr hne) (ifp (by decide) (e_lay6 (D := D + 16) (RIf.tm hfin (hback I hf hq))))))
theorem in999 {x : Int32} (h : inB x 0 999 = true) : ∃ mx : Nat, mx ≤ 999 ∧ x = iZ (mx : Int) := by
  rw [inB_eq, Bool.and_eq_true, decide_eq_true_eq, decide_eq_true_eq] at h
  obtain ⟨v, v1, rfl⟩ := nn_ex (x := x) (by rw [lt_i]; omega)
  rw [iZ_toInt (by omega) (by omega)] at h
  have : (999 : Int32).toInt = 999 := rfl
  exact ⟨v, by omega, rfl⟩
theorem cM_need {x w : Int32} (hM : MR g I J) (hO : SOK g c) : TM (D + 18) 195 [vr 10 0, vi x, vi w] I J b (aNeed x w g) := by
  have v8 : I 10 0 8 = iZ (gV g 6 0 : Int) := hM.bn.2.2 6 (by omega) (by omega)
  have v9 : I 10 0 9 = iZ (gV g 7 0 : Int) := hM.bn.2.2 7 (by omega) (by omega)
  refine t_X10_need _ _ I J b ?_
  refine (p_M_in x 0 999).use ?_
  cases hx : inB x 0 999
  · exact ifp rfl (RIf.tm (aNeed_x hx).symm Fr.id)
  · refine ifn (by decide) ?_
    refine (p_M_in w 0 1).use ?_
    cases hw : inB w 0 1
    · exact ifn (fun z => z rfl) (RIf.tm (aNeed_w hx hw).symm Fr.id)
    · refine ifp (by decide) ?_
      rw [aNeed_y hx hw]
      obtain ⟨mx, h1, rfl⟩ := in999 hx
      rw [iZ_toInt (by omega) (by omega), Int.toNat_natCast]
      rcases in01 hw with rfl | rfl
      · refine ifn (fun z => z rfl) ?_
        rw [v9]
        exact w_M_need (D := D) hM hO h1 (Or.inl ⟨rfl, rfl, rfl, rfl⟩) rfl 7 0 I (by omega) Fr.id (fun _ _ _ => rfl)
      · refine ifp (by decide) ?_
        rw [v8]
        exact w_M_need (D := D) hM hO h1 (Or.inr ⟨rfl, rfl, rfl, rfl⟩) rfl 4 0 I (by omega) Fr.id (fun _ _ _ => rfl)
theorem op_need (x w : Int32) : Op 91 195 [vi x, vi w] := Op.th (aNeed x w) (fun g c I J b hX hO => cX_need (D := 884) hX hO) (fun g c I J b hM hO => cM_need (D := 882) hM hO)
end OPK
