/-! OPS IN THOUGHT: drawn, judge, who -/
theorem goZ_ok {P : Pa} {L : List Nat} {dr : Bool} {sl z : Int32} (hP : PaOK P) (hN : L.Nodup) (hn : ∀ j ∈ L, j < pn P) : Gd P (goZ P L dr sl z).1 (goZ P L dr sl z).2.1 ∧ (∀ e ∈ (goZ P L dr sl z).1, xj e < pn P) ∧ (goZ P L dr sl z).1.length ≤ 7 := by
  have hl := nd_len hN hP.1 hn
  have h7 := hP.1
  obtain ⟨m, h1, h2, h3, h4, h5, h6, h8⟩ := goD_spec hP (dr := dr) (sl := sl) L [] 0 z (ChOK.nil hN hn) (Gd.nil (by omega)) (by omega)
  refine ⟨h5, h4.2.1, ?_⟩
  unfold goZ
  rw [h3]
  simp
  omega
def drS (P : Pa) (L : List Nat) (sl : Int32) : Nat → Int32 → Int32 → Int32 → Int32 × Int32
  | 0, _, s, m => (s, m)
  | n + 1, z, s, m => drS P L sl n (goZ P L true sl z).2.2 (s + iZ (ltE (goZ P L true sl z).1 : Int)) (if (goZ P L true sl z).1.length = L.length then m + 1 else m)
def fDrawn (g : Sg) (z : Int32) (n : Nat) (w : Int32) (L : List Nat) : Int32 := if w = 0 then (drS (parS g) L (iZ (gV g 10 0 : Int)) n z 0 0).1 else (drS (parS g) L (iZ (gV g 10 0 : Int)) n z 0 0).2
def aDrawn (x z n w : Int32) (g : Sg) : Int32 := if (n < 1 ∨ (30 : Int32) < n) ∨ inB w 0 1 = false then -1 else aPl g x (fDrawn g z n.toInt.toNat w)
section OPE
variable {D : Nat} {g : Sg} {c : Nat} {I : IM} {J : JM} {b : Bool}
theorem aDrawn_n {x z n w : Int32} (h : (n < 1 ∨ (30 : Int32) < n) ∨ inB w 0 1 = false) : aDrawn x z n w g = -1 := by unfold aDrawn; rw [if_pos h]
theorem aDrawn_y {x z w : Int32} {n : Nat} (h1 : 1 ≤ n) (h2 : n ≤ 30) (h : inB w 0 1 = true) : aDrawn x z (iZ (n : Int)) w g = aPl g x (fDrawn g z n w) := by
  unfold aDrawn
  rw [if_neg, iZ_toInt (by omega) (by omega), Int.toNat_natCast]
  rintro ((y | y) | y)
  · rw [i_1, iZ_lt (by omega) (by omega) (by omega) (by omega)] at y
    omega
  · rw [show (30 : Int32) = iZ 30 from rfl, iZ_lt (by omega) (by omega) (by omega) (by omega)] at y
    omega
  · rw [h] at y
    cases y
theorem in130 {n : Int32} (h1 : ¬ n < 1) (h2 : ¬ (30 : Int32) < n) : ∃ v : Nat, 1 ≤ v ∧ v ≤ 30 ∧ n = iZ (v : Int) := by
  obtain ⟨v, rfl, v1, v2⟩ := iZ_ex n
  rw [i_1, iZ_lt (by omega) (by omega) (by omega) (by omega)] at h1
  rw [show (30 : Int32) = iZ 30 from rfl, iZ_lt (by omega) (by omega) (by omega) (by omega)] at h2
  exact ⟨v.toNat, by omega, by omega, by congr 1; omega⟩
theorem zN_eq (z : Int32) : z * (1103515245 : Int32) + (12345 : Int32) = zN z := by unfold zN; exact Eq.refl _
theorem zD_eq (z : Int32) : (Int32.toUInt32 z >>> (Int32.toUInt32 (8 : Int32) &&& Int32.toUInt32 31)).toInt32 - (Int32.toUInt32 z >>> (Int32.toUInt32 (8 : Int32) &&& Int32.toUInt32 31)).toInt32 / (12 : Int32) * (12 : Int32) = zD z := by unfold zD zR; exact Eq.refl _
theorem zA_t (z : Int32) (m : Nat) : zA true z (some m) = zN z := by
  unfold zA
  exact if_pos rfl
theorem goD_n {P : Pa} {f j nw : Nat} {dr : Bool} {sl z : Int32} {T : List Nat} {E : List En} (h : beg P E f nw j = none) : goD P f dr sl (j :: T) E nw z = (E, nw, z) := by
  have hj : joD P E f nw j (zQ dr z sl) = none := by
    unfold joD
    rw [h]
  unfold goD
  rw [hj, h]
  rfl
theorem goD_1 {P : Pa} {f j nw m : Nat} {sl z : Int32} {T : List Nat} {E : List En} (h : beg P E f nw j = some m) (hj : joD P E f nw j (zQ true z sl) = none) : goD P f true sl (j :: T) E nw z = (E, nw, zN z) := by
  unfold goD
  rw [hj, h]
  dsimp only
  rw [zA_t]
theorem goD_2 {P : Pa} {f j nw m : Nat} {sl z : Int32} {T : List Nat} {E : List En} {e : En} (h : beg P E f nw j = some m) (hj : joD P E f nw j (zQ true z sl) = some e) : goD P f true sl (j :: T) E nw z = goD P f true sl T (E ++ [e]) (xf e) (zN z) := by
  rw [goD, hj, h]
  dsimp only
  rw [zA_t]
/-- what drawing a chair does -/
def DrT (I : IM) (J : JM) (r : List En × Nat × Int32) (x : Int32) (I' : IM) (J' : JM) : Prop := x = r.2.2 ∧ J' = J ∧ Fr (pW 0) I I' ∧ WkAt 0 35 I' r.1 0 r.2.1
theorem w_draw {L : List Nat} (hO : SOK g c) (hL7 : L.length ≤ 7) : ∀ (T : List Nat) (k : Nat) (E : List En) (nw : Nat) (z : Int32) (I0 I : IM), k ≤ L.length → L.drop k = T → PlC I L → XR g I J b → ShAt I (parS g) → WkAt 0 35 I E 0 nw → ChOK (parS g) E 0 T → Gd (parS g) E nw → nw + 117 * T.length ≤ 890000 → E.length + T.length ≤ 35 → Fr (pW 0) I0 I → WP (D + 4) 133 12 [vr 9 0, vn, vi z, vi (iZ (k : Int)), vn, vn] [] (101, I, J, R0 b) (RIf b (DrT I0 J (goD (parS g) 0 true (iZ (gV g 10 0 : Int)) T E nw z))) := by
  have hP := parS_ok hO
  have n7 := hO.1.1
  intro T
  induction T with
  | nil =>
    intro k E nw z I0 I hk hT hL hX hS hW hC hG hb h35 hF
    have := dr_nil hT
    refine t_X9_drawChair_12 _ _ I J b ?_
    rw [hL.1]
    exact ifp (tle (by omega) (by omega) (by omega)) (RIf.mk ⟨rfl, rfl, hF, hW⟩)
  | cons j T ih =>
    intro k E nw z I0 I hk hT hL hX hS hW hC hG hb h35 hF
    obtain ⟨h1, h2, h3⟩ := dr_cons hT
    have hl := hC.len hP
    simp only [List.length_cons] at hl hb h35
    have hB : BeAt I (parS g) := BeAt_of hX.1 n7
    have hj : j < pn (parS g) := hC.2.2.1 j (by simp)
    have hj0 : pT (parS g) j 0 ≤ 9 := (hP.2.2.2 j hj).1
    have hvv : vp_in (iZ (k : Int)) 7 := vp_iZ (by omega) (by omega) (by omega)
    refine t_X9_drawChair_12 _ _ I J b ?_
    rw [hL.1, iZ_ck (by omega), hL.2 k j h1]
    refine ifn (nle (by omega) (by omega) (by omega)) ⟨hvv, ?_⟩
    refine (p_beginning (D := D + 1) hW hB hS hP hG hj).use ?_
    generalize hr : goD (parS g) 0 true (iZ (gV g 10 0 : Int)) (j :: T) E nw z = rr
    cases hbg : beg (parS g) E 0 nw j with
    | none =>
      rw [goD_n hbg] at hr
      subst hr
      exact ifn (by decide) (RIf.mk ⟨rfl, rfl, hF, hW⟩)
    | some m =>
      obtain ⟨a1, a2, _⟩ := beg_some hG hbg
      rw [show oI (some m) = iZ (m : Int) from rfl]
      refine ifp (by rw [i_0]; exact tle (by omega) (by omega) (by omega)) ⟨hvv, ?_⟩
      rw [hL.2 k j h1]
      refine (p_num (D := D + 3) hB hP (x := 0) (q := 0) rfl hj (by omega)).use ?_
      refine (p_standing (D := D + 3) hX.1 (q := 10) rfl (by omega) (by omega)).use ?_
      rw [hL.2 k j h1, zN_eq, zD_eq]
      -- the two ways on
      have hgo : ∀ (mi : Nat) (y : Int32) (q : Bool), y = iZ (mi : Int) → mi = (if q then 2 * pT (parS g) j 0 else pT (parS g) j 0) → zQ true z (iZ (gV g 10 0 : Int)) = q → Call (D + 4) 66 [vr 8 0, vi (iZ (j : Int)), vi (iZ (m : Int)), vi y] (101, I, J, R0 b) (RIf b fun x13 I14 J15 => 
        (if ¬ x13 = 0 then WP (D + 4) 133 12 [vr 9 0, vn, vi (zN z), vi (iZ (k : Int) + 1), vn, vn] [] (101, I14, J15, R0 b) (RIf b (DrT I0 J rr))
        else (RIf b (DrT I0 J rr)) (some (vi (zN z))) (101, I14, J15, R0 b))) := by
        intro mi y q hy hmi hq
        subst hy
        have hmi18 : mi ≤ 18 := by rw [hmi]; split <;> omega
        have hjD : joD (parS g) E 0 nw j (zQ true z (iZ (gV g 10 0 : Int))) = fas (parS g) E 0 j m mi := by
          unfold joD
          rw [hbg, hq, hmi]
        refine (e_fasten (D := D + 1) hW hB hS hP hG hj (by omega) (by omega) (by omega)).useI ?_
        intro x I1 J1 ⟨hJ, h⟩
        subst hJ
        cases hfa : fas (parS g) E 0 j m mi with
        | none =>
          rw [hfa] at h hjD
          obtain ⟨rfl, rfl⟩ := h
          rw [goD_1 hbg hjD] at hr
          subst hr
          exact ifn (fun z => z rfl) (RIf.mk ⟨rfl, rfl, hF, hW⟩)
        | some e =>
          rw [hfa] at h hjD
          obtain ⟨rfl, hW1, hF1⟩ := h
          obtain ⟨b1, b2, b3, b4⟩ := joD_some hP hG hj (by omega) (by omega) hjD
          rw [goD_2 hbg hjD] at hr
          subst hr
          refine ifp (by decide) ?_
          rw [iZ_s]
          exact ih (k + 1) (E ++ [e]) (xf e) (zN z) I0 I1 (by omega) h2 (hL.fr hF1) (hX.fr (pW0_ct hF1)) (hS.fr hF1) hW1 (hC.snoc b1) b4 (by omega) (by simp; omega) (hF.tr hF1)
      refine ifs (fun c1 => ⟨hvv, ?_⟩) (fun c1 => ⟨hvv, ?_⟩)
      · exact hgo _ _ false rfl rfl (by unfold zQ; rw [Bool.true_and]; exact decide_eq_false (fun z => z c1))
      · refine hgo _ _ true ?_ rfl (by unfold zQ; rw [Bool.true_and]; exact decide_eq_true c1)
        rw [i_2, iZ_mul]
        congr 1
        show ((pT (parS g) j 0 : Nat) : Int) * 2 = ((2 * pT (parS g) j 0 : Nat) : Int)
        omega
theorem e_drawChair {L : List Nat} {z : Int32} (hO : SOK g c) (hN : L.Nodup) (hn : ∀ j ∈ L, j < gN g) (hL : PlC I L) (hX : XR g I J b) (hS : ShAt I (parS g)) : Call (D + 5) 133 [vr 9 0, vi z] (101, I, J, R0 b) (RIf b (DrT I J (goZ (parS g) L true (iZ (gV g 10 0 : Int)) z))) := by
  have n7 := hO.1.1
  have hL7 : L.length ≤ 7 := Nat.le_trans (nd_len hN n7 hn) n7
  refine t_X9_drawChair _ I J b ?_
  refine (e_clear (m := 0) hX.room).useV ?_
  rintro I1 J1 ⟨rfl, hF, hW⟩
  exact w_draw (D := D) hO hL7 L 0 [] 0 z I I1 (by omega) rfl (hL.fr hF) (hX.fr (pW0_ct hF)) (hS.fr hF) hW (ChOK.nil hN hn) (Gd.nil (by omega)) (by omega) (by simp; omega) hF
theorem w_X_drawn {L : List Nat} {w v : Int32} {n : Nat} {I0 : IM} (hO : SOK g c) (hN : L.Nodup) (hn : ∀ j ∈ L, j < gN g) (hw : w = 0 ∨ w = 1) (h30 : n ≤ 30) : ∀ (m k : Nat) (z s q : Int32) (I : IM), m + k = n → PlC I L → XR g I J b → ShAt I (parS g) → Fr pCt I0 I → v = (if w = 0 then (drS (parS g) L (iZ (gV g 10 0 : Int)) m z s q).1 else (drS (parS g) L (iZ (gV g 10 0 : Int)) m z s q).2) → WP (D + 5) 103 55 [vr 9 0, vn, vn, vi (iZ (n : Int)), vi w, vn, vi z, vi s, vi q, vi (iZ (k : Int))] [] (101, I, J, R0 b) (RIf b (fun y I' J' => y = v ∧ J' = J ∧ Fr pCt I0 I')) := by
  have n7 := hO.1.1
  have hP := parS_ok hO
  have hL7 : L.length ≤ 7 := Nat.le_trans (nd_len hN n7 hn) n7
  intro m
  induction m with
  | zero =>
    intro k z s q I hm hL hX hS hf hv
    refine t_X9_drawn_55 _ _ _ _ _ _ I J b (ifp (tle (by omega) (by omega) (by omega)) ?_)
    rcases hw with rfl | rfl
    · exact ifn (fun z => z rfl) (RIf.tx hv.symm hf)
    · exact ifp (by decide) (RIf.tx hv.symm hf)
  | succ m ih =>
    intro k z s q I hm hL hX hS hf hv
    unfold drS at hv
    obtain ⟨hG, h7, hl7⟩ := goZ_ok (dr := true) (sl := iZ (gV g 10 0 : Int)) (z := z) hP hN hn
    refine t_X9_drawn_55 _ _ _ _ _ _ I J b (ifn (nle (by omega) (by omega) (by omega)) ?_)
    refine (e_drawChair hO hN hn hL hX hS).useI ?_
    rintro y I1 J1 ⟨rfl, rfl, hf1, hW1⟩
    have hL1 := hL.fr hf1
    refine (p_latest hW1 (fun e he => hG.xle he)).use ?_
    rw [hW1.2.1, hL1.1]
    refine ifs (fun c1 => ?_) (fun c1 => ?_)
    · rw [iZ_eq (by omega) (by omega) (by omega) (by omega)] at c1
      rw [if_neg (show ¬ (goZ (parS g) L true (iZ (gV g 10 0 : Int)) z).1.length = L.length by omega)] at hv
      rw [iZ_s, Int32.add_zero]
      exact ih (k + 1) _ _ _ I1 (by omega) hL1 (hX.fr (pW0_ct hf1)) (hS.fr hf1) (hf.tr (pW0_ct hf1)) hv
    · have c1 := Classical.not_not.mp c1
      rw [iZ_eq (by omega) (by omega) (by omega) (by omega)] at c1
      rw [if_pos (show (goZ (parS g) L true (iZ (gV g 10 0 : Int)) z).1.length = L.length by omega)] at hv
      rw [iZ_s]
      exact ih (k + 1) _ _ _ I1 (by omega) hL1 (hX.fr (pW0_ct hf1)) (hS.fr hf1) (hf.tr (pW0_ct hf1)) hv
theorem cX_drawn {x z n w : Int32} (hX : XR g I J b) (hO : SOK g c) : TX (D + 9) 103 [vr 9 0, vi x, vi z, vi n, vi w] I J b (aDrawn x z n w g) := by
  refine t_X9_drawn _ _ _ _ I J b ?_
  refine ifs (fun h1 => RIf.tx (aDrawn_n (Or.inl (Or.inl h1))).symm Fr.id) (fun h1 => ifs (fun h2 => RIf.tx (aDrawn_n (Or.inl (Or.inr h2))).symm Fr.id) (fun h2 => ?_))
  refine (p_X_isZeroOrOne w).use ?_
  cases hw : inB w 0 1
  · exact ifn (fun z => z rfl) (RIf.tx (aDrawn_n (Or.inr hw)).symm Fr.id)
  · obtain ⟨v, v1, v2, rfl⟩ := in130 h1 h2
    refine ifp (by decide) ?_
    refine c_plan hX hO (aDrawn_y v1 v2 hw) (fun L I1 hN hn hv1 hf1 hX1 hL1 => ?_)
    refine (e_open (D := D + 1) (hX1.BL hO)).useV ?_
    rintro I2 J2 ⟨rfl, hf2, hS2⟩
    have hX2 := hX1.fr (pSp_ct hf2)
    have hL2 : PlC I2 L := hL1.eq (hf2 _ _ _ rfl) (fun k => hf2 _ _ _ rfl)
    exact w_X_drawn (D := D + 3) hO hN hn (in01 hw) v2 v 0 z 0 0 I2 (by omega) hL2 hX2 hS2 (hf1.tr (pSp_ct hf2)) hv1
theorem w_M_drawn {L : List Nat} {w v : Int32} {n : Nat} {I0 : IM} (hM : MR g I0 J) (hO : SOK g c) (hN : L.Nodup) (hn : ∀ j ∈ L, j < gN g) (hw : w = 0 ∨ w = 1) (h30 : n ≤ 30) : ∀ (m k : Nat) (s q : Int32) (I : IM), m + k = n → PlM I L → Fr pTw I0 I → (∀ q, q ≠ 45 → ((8 ≤ q ∧ q ≤ 10) ∨ (44 ≤ q ∧ q ≤ 45)) → I 10 0 q = I0 10 0 q) → I 10 0 45 = 1 → v = (if w = 0 then (drS (parS g) L (iZ (gV g 10 0 : Int)) m (I 10 0 46) s q).1 else (drS (parS g) L (iZ (gV g 10 0 : Int)) m (I 10 0 46) s q).2) → WP (D + 7) 211 63 [vr 10 0, vn, vn, vi (iZ (n : Int)), vi w, vn, vi s, vi q, vi (iZ (k : Int))] [] (101, I, J, R0 b) (RIf b (fun y I' J' => y = v ∧ J' = J ∧ Fr pTh I0 I')) := by
  have n7 := hO.1.1
  have hP := parS_ok hO
  have hL7 : L.length ≤ 7 := Nat.le_trans (nd_len hN n7 hn) n7
  have h60 := hO.1.2.2.1
  have h70 := hO.1.2.2.2.1
  have h80 := hO.1.2.2.2.2.1
  intro m
  induction m with
  | zero =>
    intro k s q I hm hL hf hq h45 hv
    have hend : Fr pTh I0 (updI I 10 0 45 0) := by
      refine pTw_th (hf.upd rfl) (fun q hq2 => ?_)
      rw [updI_if]
      split
      · next h =>
        obtain ⟨_, _, rfl⟩ := h
        exact hM.drawn.symm
      · next h => exact hq q (by omega) hq2
    refine t_X10_drawn_63 _ _ _ _ _ I J b (ifp (tle (by omega) (by omega) (by omega)) ?_)
    rcases hw with rfl | rfl
    · exact ifn (fun z => z rfl) (RIf.tm hv.symm hend)
    · exact ifp (by decide) (RIf.tm hv.symm hend)
  | succ m ih =>
    intro k s q I hm hL hf hq h45 hv
    unfold drS at hv
    have h12 : I 10 0 12 = iZ (gV g 10 0 : Int) := (hf _ _ _ (bf_of pTw_iff (by omega))).trans (hM.bn.2.2 10 (by omega) (by omega))
    obtain ⟨hG, h7, hl7⟩ := goZ_ok (dr := true) (sl := iZ (gV g 10 0 : Int)) (z := I 10 0 46) hP hN hn
    refine t_X10_drawn_63 _ _ _ _ _ I J b (ifn (nle (by omega) (by omega) (by omega)) ?_)
    refine m_goW (gl := gV g 8 0) (dr := true) (nv := false) (men := gV g 6 0) (C := gV g 7 0) hM hO hf ((hq 8 (by omega) (by omega)).trans (hM.bn.2.2 6 (by omega) (by omega))) ((hq 9 (by omega) (by omega)).trans (hM.bn.2.2 7 (by omega) (by omega))) ((hq 10 (by omega) (by omega)).trans (hM.bn.2.2 8 (by omega) (by omega))) ((hq 44 (by omega) (by omega)).trans hM.dry) h45 (by omega) (by omega) (by omega) hL hN hn (fun I2 hf2 hH2 _ h46 h49 hL2 hMb2 => ?_)
    rw [h12] at hH2 h46 h49
    have hH2 : HoAt I2 (goZ (parS g) L true (iZ (gV g 10 0 : Int)) (I 10 0 46)).1 0 (goZ (parS g) L true (iZ (gV g 10 0 : Int)) (I 10 0 46)).2.1 := hH2
    have h46 : I2 10 0 46 = (goZ (parS g) L true (iZ (gV g 10 0 : Int)) (I 10 0 46)).2.2 := h46
    have h49 : I2 10 0 49 = iZ ((goZ (parS g) L true (iZ (gV g 10 0 : Int)) (I 10 0 46)).1.length : Int) := h49
    obtain ⟨a, _, ha, hp⟩ := p_doneNow (P := parS g) (D := D + 6) (J := J) (b := b) hH2 hMb2 hP hG h7
    have ha : a = ltE (goZ (parS g) L true (iZ (gV g 10 0 : Int)) (I 10 0 46)).1 := ha rfl
    subst ha
    refine hp.use ?_
    rw [h49, hL2.1]
    have hf3 := hf.tr (pGf_w hf2)
    have hq3 : ∀ q, q ≠ 45 → ((8 ≤ q ∧ q ≤ 10) ∨ (44 ≤ q ∧ q ≤ 45)) → I2 10 0 q = I0 10 0 q := fun q q1 q2 => (hf2 _ _ _ (pGf_f (by omega))).trans (hq q q1 q2)
    have h453 : I2 10 0 45 = 1 := (hf2 _ _ _ (pGf_f (by omega))).trans h45
    rw [← h46] at hv
    refine ifs (fun c1 => ?_) (fun c1 => ?_)
    · rw [iZ_eq (by omega) (by omega) (by omega) (by omega)] at c1
      rw [if_neg (show ¬ (goZ (parS g) L true (iZ (gV g 10 0 : Int)) (I 10 0 46)).1.length = L.length by omega)] at hv
      rw [iZ_s]
      exact ih (k + 1) _ _ I2 (by omega) hL2 hf3 hq3 h453 hv
    · have c1 := Classical.not_not.mp c1
      rw [iZ_eq (by omega) (by omega) (by omega) (by omega)] at c1
      rw [if_pos (show (goZ (parS g) L true (iZ (gV g 10 0 : Int)) (I 10 0 46)).1.length = L.length by omega)] at hv
      rw [iZ_s]
      exact ih (k + 1) _ _ I2 (by omega) hL2 hf3 hq3 h453 hv
theorem cM_drawn {x z n w : Int32} (hM : MR g I J) (hO : SOK g c) : TM (D + 9) 211 [vr 10 0, vi x, vi z, vi n, vi w] I J b (aDrawn x z n w g) := by
  refine t_X10_drawn _ _ _ _ I J b ?_
  refine (p_M_isShelf x).use ?_
  rw [inB_05]
  by_cases hx : 0 ≤ x.toInt ∧ x.toInt < 6
  · rw [decide_eq_true hx]
    obtain ⟨s, hs, rfl⟩ := sh_ex hx
    refine ifn (by decide) ?_
    refine (p_M_in n 1 30).use ?_
    cases hn1 : inB n 1 30
    · exact ifp rfl (RIf.tm (aDrawn_n (Or.inl (inB_f hn1))).symm Fr.id)
    · obtain ⟨h1, h2⟩ := inB_t hn1
      obtain ⟨v, v1, v2, rfl⟩ := in130 h1 h2
      refine ifn (by decide) ?_
      refine (p_M_in w 0 1).use ?_
      cases hw : inB w 0 1
      · exact ifn (fun z => z rfl) (RIf.tm (aDrawn_n (Or.inr hw)).symm Fr.id)
      · refine ifp (by decide) ?_
        refine m_plan hM hO hs (aDrawn_y v1 v2 hw) (fun I1 hk hv1 hf1 hM1 hL1 => ?_)
        obtain ⟨hN, hn⟩ := plan_ok (gN g) (gS g s)
        have hup : ∀ s' k', (s' ≠ 10 ∨ (k' ≠ 45 ∧ k' ≠ 46)) → updI (updI I1 10 0 46 z) 10 0 45 1 s' 0 k' = I1 s' 0 k' := fun s' k' hs' => by
          rw [updI_if, if_neg (by omega), updI_if, if_neg (by omega)]
        have e46 : updI (updI I1 10 0 46 z) 10 0 45 1 10 0 46 = z := by
          rw [updI_if, if_neg (by omega), uI_eq]
        refine (w_M_drawn (D := D + 1) (v := fDrawn g z v w (plan (gN g) (gS g s))) hM1 hO hN hn (in01 hw) v2 v 0 0 0 (updI (updI I1 10 0 46 z) 10 0 45 1) (by omega) (hL1.eq (hup _ _ (by omega)) (fun q => hup _ _ (by omega))) ((Fr.id.upd rfl).upd rfl) (fun q q1 q2 => hup _ _ (by omega)) uI_eq (by rw [e46]; rfl)).mono ?_
        rintro r h ⟨y, I', J', rfl, rfl, rfl, rfl, h3⟩
        exact RIf.tm hv1.symm (hf1.tr h3)
  · rw [decide_eq_false hx]
    refine ifp rfl (RIf.tm ?_ Fr.id)
    unfold aDrawn
    split
    · rfl
    · rw [aPl_no hx]
theorem op_drawn (x z n w : Int32) : Op 103 211 [vi x, vi z, vi n, vi w] := Op.th (aDrawn x z n w) (fun g c I J b hX hO => cX_drawn (D := 891) hX hO) (fun g c I J b hM hO => cM_drawn (D := 891) hM hO)
end OPE
