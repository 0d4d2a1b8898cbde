/-! OPS IN THOUGHT: round, inWay -/
theorem ltE_apps (E F : List En) : ltE (E ++ F) = max (ltE E) (ltE F) := by
  refine rev_ind (p := fun F => ltE (E ++ F) = max (ltE E) (ltE F)) ?_ ?_ F
  · simp [ltE]
  · intro l x ih
    rw [← List.append_assoc, ltE_app, ih, ltE_app]
    omega
def rnd (P : Pa) (L : List Nat) : Nat → List En → Nat → Option (List En)
  | 0, E, _ => some E
  | n + 1, E, nw => if (go P E.length L E nw).1.length = E.length + L.length then rnd P L n (go P E.length L E nw).1 (go P E.length L E nw).2 else none
def fRound (P : Pa) (n : Nat) (L : List Nat) : Int32 := match rnd P L n [] 0 with
  | none => -2
  | some E => iZ (ltE E : Int)
def aRound (x n : Int32) (g : Sg) : Int32 := if n < 1 ∨ (5 : Int32) < n then -1 else aPl g x (fRound (parS g) n.toInt.toNat)
theorem ch_new {P : Pa} {E : List En} {L : List Nat} (h7 : ∀ e ∈ E, xj e < pn P) (hN : L.Nodup) (hn : ∀ j ∈ L, j < pn P) : ChOK P E E.length L := ⟨Nat.le_refl _, h7, hn, by rw [List.drop_length]; simpa using hN⟩
section OPC
variable {D : Nat} {g : Sg} {c : Nat} {I : IM} {J : JM} {b : Bool}
theorem aRound_n {x n : Int32} (h : n < 1 ∨ (5 : Int32) < n) : aRound x n g = -1 := by unfold aRound; rw [if_pos h]
theorem aRound_y {x : Int32} {n : Nat} (h1 : 1 ≤ n) (h2 : n ≤ 5) : aRound x (iZ (n : Int)) g = aPl g x (fRound (parS g) n) := by
  unfold aRound
  rw [if_neg, iZ_toInt (by omega) (by omega), Int.toNat_natCast]
  rintro (z | z)
  · rw [i_1, iZ_lt (by omega) (by omega) (by omega) (by omega)] at z
    omega
  · rw [i_5, iZ_lt (by omega) (by omega) (by omega) (by omega)] at z
    omega
theorem in15 {n : Int32} (h1 : ¬ n < 1) (h2 : n ≤ (5 : Int32)) : ∃ v : Nat, 1 ≤ v ∧ v ≤ 5 ∧ n = iZ (v : Int) := by
  obtain ⟨v, rfl, v1, v2⟩ := iZ_ex n
  rw [i_1, iZ_lt (by omega) (by omega) (by omega) (by omega)] at h1
  rw [i_5, iZ_le (by omega) (by omega) (by omega) (by omega)] at h2
  exact ⟨v.toNat, by omega, by omega, by congr 1; omega⟩
theorem w_X_round {L : List Nat} {P : Pa} {n : Nat} {v : Int32} {I0 : IM} (hP : PaOK P) (hN : L.Nodup) (hn : ∀ j ∈ L, j < pn P) (hL7 : L.length ≤ 7) (hn5 : n ≤ 5) : ∀ (m k : Nat) (E : List En) (nw f : Nat) (I : IM), m + k = n → E.length = k * L.length → nw ≤ 108 * 7 * k → WkAt 0 35 I E f nw → PlC I L → BeAt I P → ShAt I P → Gd P E nw → (∀ e ∈ E, xj e < pn P) → Fr pCt I0 I → v = (match rnd P L m E nw with
    | none => -2
    | some E => iZ (ltE E : Int)) → WP (D + 5) 98 42 [vr 9 0, vn, vi (iZ (n : Int)), vn, vi (iZ (k : Int))] [] (101, I, J, R0 b) (RIf b (fun z I' J' => z = v ∧ J' = J ∧ Fr pCt I0 I')) := by
  intro m
  induction m with
  | zero =>
    intro k E nw f I hm hE hnw hW hL hB hS hG h7 hf hv
    refine t_X9_round_42 _ _ I J b (ifp (tle (by omega) (by omega) (by omega)) ?_)
    refine (p_latest hW (fun e he => hG.xle he)).use (RIf.tx ?_ hf)
    rw [hv]
    rfl
  | succ m ih =>
    intro k E nw f I hm hE hnw hW hL hB hS hG h7 hf hv
    have hkl : k * L.length ≤ 4 * 7 := Nat.mul_le_mul (by omega) hL7
    unfold rnd at hv
    refine t_X9_round_42 _ _ I J b (ifn (nle (by omega) (by omega) (by omega)) ?_)
    refine t_X8_nextChair 0 I J b (RVf.mk ?_)
    obtain ⟨⟨g30, g31, g32, g33, g34, g35, gr, gr2⟩, hl, hff, hbs, hnn, hEn, hr, hfl⟩ := hW
    have hW1 : WkAt 0 35 (updI (updI I 8 0 9 (I 8 0 10)) 8 0 11 0) E E.length nw := by
      refine ⟨⟨g30, g31, g32, g33, g34, g35, ?_, gr2⟩, ?_, ?_, ?_, ?_, ?_, hr, Nat.le_refl _⟩
      · simpa [updI_if] using gr
      · simpa [updI_if] using hl
      · simpa [updI_if] using hl
      · rw [uI_eq, List.drop_length]
        rfl
      · simpa [updI_if] using hnn
      · intro q x hq
        have := hEn q x hq
        simpa [updI_if] using this
    have hfu : Fr (pW 0) I (updI (updI I 8 0 9 (I 8 0 10)) 8 0 11 0) := (Fr.id.upd rfl).upd rfl
    have hC := ch_new h7 hN hn
    refine (e_goOn (D := D) (k := 0) hP hL7 (by omega) (hL.fr hfu) (hB.fr hfu) (hS.fr hfu) hW1 hC hG (by omega) (by omega)).useI ?_
    rintro y I2 J2 ⟨rfl, hf2, hW2, rfl⟩
    rw [List.drop_zero] at hW2 ⊢
    obtain ⟨q, q1, q2, q3, q4, q5, q6, q7⟩ := go_spec hP L E nw hC hG (by omega)
    have hfw := hfu.tr hf2
    by_cases hw : (go P E.length L E nw).1.length = E.length + L.length
    · rw [if_pos hw] at hv
      rw [decide_eq_true hw]
      refine ifp (by decide) ?_
      rw [iZ_s]
      refine ih (k + 1) _ _ _ I2 (by omega) ?_ (by omega) hW2 (hL.fr hfw) (hB.fr hfw) (hS.fr hfw) q5 q4.2.1 (hf.tr (pW0_ct hfw)) hv
      rw [hw, hE, Nat.succ_mul]
    · rw [if_neg hw] at hv
      rw [decide_eq_false hw]
      exact ifn (fun z => z rfl) (RIf.tx hv.symm (hf.tr (pW0_ct hfw)))
theorem cX_round {x n : Int32} (hX : XR g I J b) (hO : SOK g c) : TX (D + 9) 98 [vr 9 0, vi x, vi n] I J b (aRound x n g) := by
  refine t_X9_round _ _ I J b ?_
  refine ifs (fun h1 => RIf.tx (aRound_n (Or.inl h1)).symm Fr.id) (fun h1 => ifs (fun h2 => ?_) (fun h2 => RIf.tx (aRound_n (Or.inr (Int32.not_le.mp h2))).symm Fr.id))
  obtain ⟨v, v1, v2, rfl⟩ := in15 h1 h2
  have hP := parS_ok hO
  refine c_plan hX hO (aRound_y v1 v2) (fun L I1 hN hn hv1 hf1 hX1 hL1 => ?_)
  rw [hv1]
  have hL7 : L.length ≤ 7 := Nat.le_trans (nd_len hN hO.1.1 hn) hO.1.1
  refine (e_open (D := D + 1) (hX1.BL hO)).useV ?_
  rintro I2 J2 ⟨rfl, hf2, hS2⟩
  have hX2 := hX1.fr (pSp_ct hf2)
  have hL2 : PlC I2 L := hL1.eq (hf2 _ _ _ rfl) (fun k => hf2 _ _ _ rfl)
  have hB2 : BeAt I2 (parS g) := BeAt_of hX2.1 hO.1.1
  refine (e_clear (m := 0) hX2.room).useV ?_
  rintro I3 J3 ⟨rfl, hf3, hW3⟩
  exact w_X_round (D := D + 3) hP hN hn hL7 v2 v 0 [] 0 0 I3 (by omega) (by simp) (by omega) hW3 (hL2.fr hf3) (hB2.fr hf3) (hS2.fr hf3) (Gd.nil (by omega)) (by simp) ((hf1.tr (pSp_ct hf2)).tr (pW0_ct hf3)) rfl
theorem w_M_round {L : List Nat} {n : Nat} {v : Int32} {I0 : IM} (hO : SOK g c) (hN : L.Nodup) (hn : ∀ j ∈ L, j < gN g) (hL7 : L.length ≤ 7) (hn5 : n ≤ 5) : ∀ (m k : Nat) (E : List En) (nw f : Nat) (I : IM), m + k = n → E.length = k * L.length → nw ≤ 108 * 7 * k → HoAt I E f nw → PlM I L → MR g I J → Gd (parS g) E nw → (∀ e ∈ E, xj e < gN g) → Fr pTh I0 I → v = (match rnd (parS g) L m E nw with
    | none => -2
    | some E => iZ (ltE E : Int)) → WP (D + 6) 203 40 [vr 10 0, vn, vi (iZ (n : Int)), vn, vi (iZ (ltE E : Int)), vi (iZ (k : Int))] [] (101, I, J, R0 b) (RIf b (fun z I' J' => z = v ∧ J' = J ∧ Fr pTh I0 I')) := by
  have hP := parS_ok hO
  intro m
  induction m with
  | zero =>
    intro k E nw f I hm hE hnw hH hL hM hG h7 hf hv
    refine t_X10_round_40 _ _ _ I J b (ifp (tle (by omega) (by omega) (by omega)) (RIf.tm ?_ hf))
    rw [hv]
    rfl
  | succ m ih =>
    intro k E nw f I hm hE hnw hH hL hM hG h7 hf hv
    have hkl : k * L.length ≤ 4 * 7 := Nat.mul_le_mul (by omega) hL7
    unfold rnd at hv
    refine t_X10_round_40 _ _ _ I J b (ifn (nle (by omega) (by omega) (by omega)) ?_)
    refine t_X10_beginChair I J b (RVf.mk ?_)
    have hup : ∀ s' k', (s' ≠ 10 ∨ k' ≠ 38) → updI I 10 0 38 0 s' 0 k' = I s' 0 k' := fun s' k' hs' => by
      rw [updI_if, if_neg (by omega)]
    have hfu : Fr pGf I (updI I 10 0 38 0) := Fr.id.upd rfl
    have hM1 := hM.fr (pGf_sub hfu)
    have hH1 : HoAt (updI I 10 0 38 0) E E.length nw := by
      obtain ⟨y1, y2, y3, y4⟩ := hH
      refine ⟨y1.eq (fun s' k' z => hup _ _ (by omega)), (hup _ _ (by omega)).trans y2, ?_, ?_⟩
      · rw [uI_eq, List.drop_length]
        rfl
      · rw [List.drop_length]
        intro e he
        cases he
    have hC := ch_new (P := parS g) h7 hN hn
    refine (e_goFrom (D := D) (k := 0) (dr := false) hP hL7 (by omega) (hL.fr hfu) (hM1.mb hO) (hM1.st hO) hH1 hM1.drawn hC hG (by omega) (by omega)).useV ?_
    rintro I2 J2 ⟨rfl, hf2, hH2, _, h49, _⟩
    rw [goD_f, List.drop_zero] at hH2 h49
    dsimp only at hH2 h49
    obtain ⟨q, q1, q2, q3, q4, q5, q6, q7⟩ := go_spec hP L E nw hC hG (by omega)
    have hgl := go_len (P := parS g) (f := E.length) L E nw
    have hfw := hfu.tr hf2
    have hL2 := hL.fr hfw
    have hM2 := hM.fr (pGf_sub hfw)
    obtain ⟨F, hF⟩ := go_app (P := parS g) (f := E.length) L E nw
    obtain ⟨a, a0, ha, hp⟩ := p_doneNow (D := D + 5) (J := J2) (b := b) hH2 (hM2.mb hO) hP q5 q4.2.1
    have ha := ha rfl
    have hF2 : (go (parS g) E.length L E nw).1.drop E.length = F := by rw [hF, List.drop_left]
    rw [hF2] at ha
    have hlt : ltE (go (parS g) E.length L E nw).1 = max (ltE E) a := by rw [hF, ltE_apps, ha]
    have hle : ltE E ≤ 1000000 := ltE_le (fun e he => hG.xle he)
    rw [h49, hL2.1]
    by_cases hw : (go (parS g) E.length L E nw).1.length = E.length + L.length
    · rw [if_pos hw] at hv
      refine ifp (tle (by omega) (by omega) (by omega)) ?_
      refine hp.use (ifs (fun c1 => ?_) (fun c1 => ?_))
      · rw [iZ_le (by omega) (by omega) (by omega) (by omega)] at c1
        rw [iZ_s]
        have := ih (k + 1) _ _ _ I2 (by omega) (by rw [hw, hE, Nat.succ_mul]) (by omega) hH2 hL2 hM2 q5 q4.2.1 (hf.tr (pGf_sub hfw)) hv
        rw [hlt, Nat.max_eq_left (by omega)] at this
        exact this
      · rw [iZ_le (by omega) (by omega) (by omega) (by omega)] at c1
        refine hp.use ?_
        rw [iZ_s]
        have := ih (k + 1) _ _ _ I2 (by omega) (by rw [hw, hE, Nat.succ_mul]) (by omega) hH2 hL2 hM2 q5 q4.2.1 (hf.tr (pGf_sub hfw)) hv
        rw [hlt, Nat.max_eq_right (by omega)] at this
        exact this
    · rw [if_neg hw] at hv
      exact ifn (nle (by omega) (by omega) (by omega)) (RIf.tm hv.symm (hf.tr (pGf_sub hfw)))
theorem cM_round {x n : Int32} (hM : MR g I J) (hO : SOK g c) : TM (D + 9) 203 [vr 10 0, vi x, vi n] I J b (aRound x n g) := by
  refine t_X10_round _ _ I J b ?_
  refine (p_M_isShelf x).use ?_
  rw [inB_05]
  by_cases hx : 0 ≤ x.toInt ∧ x.toInt < 6
  · rw [decide_eq_true hx]
    obtain ⟨s, hs, rfl⟩ := sh_ex hx
    refine ifn (by decide) ?_
    refine (p_M_in n 1 5).use ?_
    cases hw : inB n 1 5
    · exact ifn (fun z => z rfl) (RIf.tm (aRound_n (inB_f hw)).symm Fr.id)
    · obtain ⟨h1, h2⟩ := inB_t hw
      obtain ⟨v, v1, v2, rfl⟩ := in15 h1 (Int32.not_lt.mp h2)
      refine ifp (by decide) ?_
      refine m_plan hM hO hs (aRound_y v1 v2) (fun I1 hk hv1 hf1 hM1 hL1 => ?_)
      rw [hv1]
      obtain ⟨hN, hn⟩ := plan_ok (gN g) (gS g s)
      generalize plan (gN g) (gS g s) = L at hN hn hL1 hv1 ⊢
      have hL7 : L.length ≤ 7 := Nat.le_trans (nd_len hN hO.1.1 hn) hO.1.1
      refine (e_beginGlue (D := D + 6)).useV ?_
      rintro I2 J2 ⟨rfl, hf2, _, hH2, _⟩
      exact w_M_round (D := D + 2) hO hN hn hL7 v2 v 0 [] 0 0 I2 (by omega) (by simp) (by omega) hH2 (hL1.fr (pTm_gf hf2)) (hM1.fr (pTm_sub hf2)) (Gd.nil (by omega)) (by simp) (hf1.tr (pTm_sub hf2)) rfl
  · rw [decide_eq_false hx]
    refine ifp rfl (RIf.tm ?_ Fr.id)
    unfold aRound
    split
    · rfl
    · rw [aPl_no hx]
theorem op_round (x n : Int32) : Op 98 203 [vi x, vi n] := Op.th (aRound x n) (fun g c I J b hX hO => cX_round (D := 891) hX hO) (fun g c I J b hM hO => cM_round (D := 891) hM hO)
/-- who is in the way -/
def iwF (P : Pa) (L : List Nat) : Nat → Nat → Nat → Nat
  | 0, _, a => a
  | n + 1, p, a => iwF P L n (p + 1) (if (goL P L).length < (goL P (L.eraseIdx p)).length then a ||| 2 ^ (L.getD p 0) else a)
def aInWay (x : Int32) (g : Sg) : Int32 := aPl g x (fun L => iZ (iwF (parS g) L L.length 0 0 : Int))
theorem w_X_inWay {L : List Nat} {P : Pa} {v : Int32} {I0 : IM} (hP : PaOK P) (hN : L.Nodup) (hn : ∀ j ∈ L, j < pn P) (hL7 : L.length ≤ 7) : ∀ (m k a : Nat) (I : IM), m + k = L.length → a < 128 → WkR 0 35 I → PlC I L → BeAt I P → ShAt I P → Fr pCt I0 I → v = iZ (iwF P L m k a : Int) → WP (D + 5) 94 30 [vr 9 0, vn, vn, vi (iZ ((goL P L).length : Int)), vi (iZ (a : Int)), vi (iZ (k : Int))] [] (101, I, J, R0 b) (RIf b (fun z I' J' => z = v ∧ J' = J ∧ Fr pCt I0 I')) := by
  have hg7 := (goL_ok hP hN hn).2.2.2.2.2.1
  have p7 := hP.1
  intro m
  induction m with
  | zero =>
    intro k a I hm ha hR hL hB hS hf hv
    refine t_X9_inWay_30 _ _ _ I J b ?_
    rw [hL.1]
    exact ifp (tle (by omega) (by omega) (by omega)) (RIf.tx hv.symm hf)
  | succ m ih =>
    intro k a I hm ha hR hL hB hS hf hv
    unfold iwF at hv
    have hkl : k < L.length := by omega
    have hg : L[k]? = some L[k] := List.getElem?_eq_getElem hkl
    have hlk := hn L[k] (List.getElem_mem hkl)
    have hgd : L.getD k 0 = L[k] := by rw [List.getD_eq_getElem?_getD, hg]; rfl
    have he7 := (goL_ok hP (List.Nodup.sublist (List.eraseIdx_sublist L k) hN) (fun j hj => hn j (List.mem_of_mem_eraseIdx hj))).2.2.2.2.2.1
    refine t_X9_inWay_30 _ _ _ I J b ?_
    rw [hL.1]
    refine ifn (nle (by omega) (by omega) (by omega)) ?_
    refine (e_tryWo (D := D) hP hN hn hkl hL hB hS hR).useI ?_
    rintro y I2 J2 ⟨rfl, hf2, hW2, rfl⟩
    have hL2 := hL.fr hf2
    refine ifs (fun c1 => ?_) (fun c1 => ⟨vp_iZ (by omega) (by omega) (by omega), ?_⟩)
    · rw [iZ_le (by omega) (by omega) (by omega) (by omega)] at c1
      rw [if_neg (by omega)] at hv
      rw [iZ_s]
      exact ih (k + 1) a I2 (by omega) ha hW2.1 hL2 (hB.fr hf2) (hS.fr hf2) (hf.tr (pW0_ct hf2)) hv
    · rw [iZ_le (by omega) (by omega) (by omega) (by omega)] at c1
      rw [if_pos (by omega), hgd] at hv
      have hob := ob_bit ha (show L[k] < 7 by omega)
      unfold ob at hob
      rw [iZ_ck (by omega), hL2.2 k _ hg, hob, iZ_s]
      exact ih (k + 1) _ I2 (by omega) (ob_lt ha (by omega)) hW2.1 hL2 (hB.fr hf2) (hS.fr hf2) (hf.tr (pW0_ct hf2)) hv
theorem cX_inWay {x : Int32} (hX : XR g I J b) (hO : SOK g c) : TX (D + 9) 94 [vr 9 0, vi x] I J b (aInWay x g) := by
  refine t_X9_inWay _ I J b ?_
  have hP := parS_ok hO
  refine c_plan hX hO rfl (fun L I1 hN hn hv1 hf1 hX1 hL1 => ?_)
  have hL7 : L.length ≤ 7 := Nat.le_trans (nd_len hN hO.1.1 hn) hO.1.1
  refine c_ot hX1 hO hL1 hN hn (fun I2 hf2 hX2 hW2 hL2 hS2 hB2 => ?_)
  exact w_X_inWay (D := D + 3) hP hN hn hL7 L.length 0 0 I2 (by omega) (by omega) hW2.1 hL2 hB2 hS2 (hf1.tr hf2) hv1
theorem eI_at {L : List Nat} {k m : Nat} : (L.eraseIdx k)[m]? = if m < k then L[m]? else L[m + 1]? := by
  rw [List.getElem?_eraseIdx]
theorem w_shift {L : List Nat} {k s : Nat} {I0 : IM} {Q : Option AV → AH → Prop} {l3 l5 l7 : Int32} (hk : k < L.length) (hL7 : L.length ≤ 7) (K : ∀ I', Fr pLm I0 I' → PlM (updI I' 10 0 48 (iZ (L.length : Int) - 1)) (L.eraseIdx k) → Call D 185 [vr 10 0] (101, (updI I' 10 0 48 (iZ (L.length : Int) - (1 : Int32))), J, R0 b) (RVf b fun I14 J15 => 
   (if (I14 10 0 49) ≤ l3 then WP D 198 42 [vr 10 0, vi (iZ (s : Int)), vn, vi l3, vi (iZ (L.length : Int)), vi l5, vi (iZ (k : Int) + 1), vn, vn] [] (101, I14, J15, R0 b) Q
   else WP D 198 42 [vr 10 0, vi (iZ (s : Int)), vn, vi l3, vi (iZ (L.length : Int)), vi (l5 ||| ((1 : Int32) <<< (l7 &&& 31))), vi (iZ (k : Int) + 1), vn, vn] [] (101, I14, J15, R0 b) Q))) : ∀ (m i : Nat) (I : IM), m + i = L.length → k < i → Fr pLm I0 I → (∀ (q j : Nat), L[q]? = some j → (q < k ∨ i ≤ q) → I 68 0 q = iZ (j : Int)) → (∀ (q j : Nat), L[q + 1]? = some j → k ≤ q → q + 1 < i → I 68 0 q = iZ (j : Int)) → WP D 198 69 [vr 10 0, vi (iZ (s : Int)), vn, vi l3, vi (iZ (L.length : Int)), vi l5, vi (iZ (k : Int)), vi l7, vi (iZ (i : Int))] [] (101, I, J, R0 b) Q := by
  intro m
  induction m with
  | zero =>
    intro i I hm hki hf h1 h2
    have hi : i = L.length := by omega
    subst hi
    refine t_X10_inWay_69 _ _ _ _ _ _ _ I J b (ifp (tle (by omega) (by omega) (by omega)) ?_)
    refine K I hf ⟨?_, fun q j hq => ?_⟩
    · rw [uI_eq, i_1, iZ_sub]
      congr 1
      rw [List.length_eraseIdx_of_lt hk]
      omega
    · rw [updI_if, if_neg (by omega)]
      rw [eI_at] at hq
      split at hq
      · exact h1 q j hq (Or.inl (by assumption))
      · exact h2 q j hq (by omega) (List.getElem?_eq_some_iff.mp hq).1
  | succ m ih =>
    intro i I hm hki hf h1 h2
    have hil : i < L.length := by omega
    obtain ⟨n, rfl⟩ : ∃ n, i = n + 1 := ⟨i - 1, by omega⟩
    have hg : L[n + 1]? = some L[n + 1] := List.getElem?_eq_getElem hil
    refine t_X10_inWay_69 _ _ _ _ _ _ _ I J b (ifn (nle (by omega) (by omega) (by omega)) ?_)
    rw [z_1, iZ_ck (by omega), iZ_ck (by omega), h1 (n + 1) _ hg (Or.inr (Nat.le_refl _)), iZ_s]
    refine ⟨vp_iZ (by omega) (by omega) (by omega), vp_iZ (by omega) (by omega) (by omega), ?_⟩
    refine ih (n + 1 + 1) _ (by omega) (by omega) (hf.upd rfl) (fun q j hq hh => ?_) (fun q j hq q1 q2 => ?_)
    · rw [updI_if, if_neg (by omega)]
      exact h1 q j hq (by omega)
    · by_cases hqn : q = n
      · subst hqn
        rw [hg] at hq
        cases hq
        exact uI_eq
      · rw [updI_if, if_neg (by omega)]
        exact h2 q j hq q1 (by omega)
theorem w_M_inWay {s : Nat} {v : Int32} {I0 : IM} (hO : SOK g c) (hs : s < 6) (hk2 : sK (gS g s) = 2) : ∀ (m k a : Nat) (I : IM), m + k = (plan (gN g) (gS g s)).length → a < 128 → MR g I J → Fr pTh I0 I → v = iZ (iwF (parS g) (plan (gN g) (gS g s)) m k a : Int) → WP (D + 7) 198 42 [vr 10 0, vi (iZ (s : Int)), vn, vi (iZ ((goL (parS g) (plan (gN g) (gS g s))).length : Int)), vi (iZ ((plan (gN g) (gS g s)).length : Int)), vi (iZ (a : Int)), vi (iZ (k : Int)), vn, vn] [] (101, I, J, R0 b) (RIf b (fun z I' J' => z = v ∧ J' = J ∧ Fr pTh I0 I')) := by
  have hP := parS_ok hO
  have n7 := hO.1.1
  obtain ⟨hN, hn⟩ := plan_ok (gN g) (gS g s)
  have hlay : ∀ I', MR g I' J → Call (D + 7) 183 [vr 10 0, vi (iZ (s : Int))] (101, I', J, R0 b) (RVf b fun I'' J' => J' = J ∧ Fr pLm I' I'' ∧ PlM I'' (plan (gN g) (gS g s))) := fun I' hM => e_layOrder hs n7 hk2 (hO.2.2.2.1 s hs).1 hM.bn.1 (hM.sh s hs)
  generalize plan (gN g) (gS g s) = L at hN hn hlay ⊢
  have hL7 : L.length ≤ 7 := Nat.le_trans (nd_len hN n7 hn) n7
  have hg7 := (goL_ok hP hN hn).2.2.2.2.2.1
  intro m
  induction m with
  | zero =>
    intro k a I hm ha hM hf hv
    exact t_X10_inWay_42 _ _ _ _ _ I J b (ifp (tle (by omega) (by omega) (by omega)) (RIf.tm hv.symm hf))
  | succ m ih =>
    intro k a I hm ha hM hf hv
    unfold iwF at hv
    have hkl : k < L.length := by omega
    have hg : L[k]? = some L[k] := List.getElem?_eq_getElem hkl
    have hlk := hn L[k] (List.getElem_mem hkl)
    have hgd : L.getD k 0 = L[k] := by rw [List.getD_eq_getElem?_getD, hg]; rfl
    have hNe := List.Nodup.sublist (List.eraseIdx_sublist L k) hN
    have hne : ∀ j ∈ L.eraseIdx k, j < gN g := fun j hj => hn j (List.mem_of_mem_eraseIdx hj)
    have he7 := (goL_ok hP hNe hne).2.2.2.2.2.1
    refine t_X10_inWay_42 _ _ _ _ _ I J b (ifn (nle (by omega) (by omega) (by omega)) ?_)
    refine (hlay I hM).useV ?_
    rintro I1 J1 ⟨rfl, hf1, hL1⟩
    refine ⟨vp_iZ (by omega) (by omega) (by omega), ?_⟩
    rw [iZ_ck (by omega), hL1.2 k _ hg, iZ_s]
    refine w_shift (D := D + 7) (I0 := I1) hkl hL7 (fun I2 hf2 hL2 => ?_) (L.length - (k + 1)) (k + 1) I1 (by omega) (by omega) Fr.id (fun q j hq _ => hL1.2 q j hq) (fun q j hq q1 q2 => by omega)
    have hfu : Fr pLm I2 (updI I2 10 0 48 (iZ (L.length : Int) - 1)) := Fr.id.upd rfl
    have hff := (hf.tr (pLm_th hf1)).tr ((pLm_th hf2).tr (pLm_th hfu))
    have hM3 := ((hM.fr (pLm_th hf1)).fr (pLm_th hf2)).fr (pLm_th hfu)
    refine m_go (D := D) hM3 hO hL2 hNe hne (fun I4 hf4 hM4 hH4 _ h49 _ => ?_)
    rw [h49]
    refine ifs (fun c1 => ?_) (fun c1 => ?_)
    · rw [iZ_le (by omega) (by omega) (by omega) (by omega)] at c1
      rw [if_neg (by omega)] at hv
      rw [iZ_s]
      exact ih (k + 1) a I4 (by omega) ha hM4 (hff.tr (pGf_sub hf4)) hv
    · rw [iZ_le (by omega) (by omega) (by omega) (by omega)] at c1
      rw [if_pos (by omega), hgd] at hv
      have hob := ob_bit ha (show L[k] < 7 by omega)
      unfold ob at hob
      rw [hob, iZ_s]
      exact ih (k + 1) _ I4 (by omega) (ob_lt ha (by omega)) hM4 (hff.tr (pGf_sub hf4)) hv
theorem cM_inWay {x : Int32} (hM : MR g I J) (hO : SOK g c) : TM (D + 9) 198 [vr 10 0, vi x] I J b (aInWay x g) := by
  refine t_X10_inWay _ I J b ?_
  refine (p_M_isShelf x).use ?_
  rw [inB_05]
  by_cases hx : 0 ≤ x.toInt ∧ x.toInt < 6
  · rw [decide_eq_true hx]
    obtain ⟨s, hs, rfl⟩ := sh_ex hx
    refine ifp (by decide) ?_
    refine m_plan hM hO hs rfl (fun I1 hk hv1 hf1 hM1 hL1 => ?_)
    obtain ⟨hN, hn⟩ := plan_ok (gN g) (gS g s)
    refine m_go hM1 hO hL1 hN hn (fun I2 hf2 hM2 hH2 hX2 h49 hL2 => ?_)
    rw [h49, hL2.1]
    exact w_M_inWay (D := D + 1) hO hs hk _ 0 0 I2 (by omega) (by omega) hM2 (hf1.tr (pGf_sub hf2)) hv1
  · rw [decide_eq_false hx]
    refine ifn (fun z => z rfl) (RIf.tm ?_ Fr.id)
    unfold aInWay
    rw [aPl_no hx]
theorem op_inWay (x : Int32) : Op 94 198 [vi x] := Op.th (aInWay x) (fun g c I J b hX hO => cX_inWay (D := 891) hX hO) (fun g c I J b hM hO => cM_inWay (D := 891) hM hO)
end OPC
