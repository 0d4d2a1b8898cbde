/-! OPS IN THOUGHT: dry, worth, need -/
def parZ (g : Sg) (men cl : Nat) : Pa := parP (gN g) (gV g) (gL g) (2 + 2 * men) cl false (gV g 8 0)
def parY (g : Sg) : Pa := parP (gN g) (gV g) (gL g) (2 + 2 * gV g 6 0) (gV g 7 0) true (gV g 8 0)
section OPJ
variable {D : Nat} {g : Sg} {c : Nat} {I : IM} {J : JM} {b : Bool}
theorem m_cx {I0 : IM} {men C gl : Nat} {nv : Bool} (hM : MR g I0 J) (hO : SOK g c) (hf : Fr pTw I0 I) (h8 : I 10 0 8 = iZ (men : Int)) (h9 : I 10 0 9 = iZ (C : Int)) (h10 : I 10 0 10 = iZ (gl : Int)) (h44 : I 10 0 44 = bI nv) (h45 : I 10 0 45 = 0) (hg : gl ≤ 99) : McX (parP (gN g) (gV g) (gL g) (2 + 2 * men) C nv gl) none I J := ⟨hM.mbw hO hf h8 h9 h44, hM.stw hO hf h10 hg, h45, fun s q z => by cases z⟩
theorem pTw_of {I' : IM} (hf : Fr pTw I I') (h8 : I' 10 0 8 = I 10 0 8) (h9 : I' 10 0 9 = I 10 0 9) (h10 : I' 10 0 10 = I 10 0 10) (h44 : I' 10 0 44 = I 10 0 44) (h45 : I' 10 0 45 = I 10 0 45) : Fr pTh I I' := pTw_th hf (fun k hk => by
  rcases (show k = 8 ∨ k = 9 ∨ k = 10 ∨ k = 44 ∨ k = 45 by omega) with rfl | rfl | rfl | rfl | rfl
  · exact h8
  · exact h9
  · exact h10
  · exact h44
  · exact h45)
def aDry (g : Sg) : Int32 := iZ (((pms (gN g) (gN g) []).foldl (dps (parY g)) 0 : Nat) : Int)
theorem cX_dry (hX : XR g I J b) (hO : SOK g c) : TX (D + 16) 95 [vr 9 0] I J b (aDry g) := by
  have hp := parS_ok hO
  refine t_X9_dry I J b ?_
  refine (e_open (D := D + 8) (hX.BL hO)).useV ?_
  rintro I1 J1 ⟨rfl, hf1, hS1⟩
  have hfu : Fr pCt I1 (updI I1 7 0 5 1) := Fr.id.upd rfl
  have hX1 := (hX.fr (pSp_ct hf1)).fr hfu
  have hS2 : ShAt (updI I1 7 0 5 1) (parY g) := ⟨by rw [updI_if, if_neg (by omega)]; exact hS1.1, by rw [updI_if, if_neg (by omega)]; exact hS1.2.1, uI_eq, fun j m hj hm => by rw [updI_if, if_neg (by omega)]; exact hS1.2.2.2 j m hj hm⟩
  refine c_free (D := D + 13) hX1 hS2 (fun I2 k1 hX2 hS2 hd2 => ?_)
  refine c_go (aim := 3) (lim := 1000001) hX2 hO rfl hp.2.1 hp.2.2.1 hS2 hd2 rfl rfl (by omega) (by omega) (by omega) (fun _ => ⟨rfl, fun _ => rfl⟩) (fun _ => rfl) (fun I3 k2 k3 k4 k5 k6 => RIf.tx (k6.2.2.2.2.2 rfl).1 ((((pSp_ct hf1).tr hfu).tr k1).tr k2))
theorem cM_dry (hM : MR g I J) (hO : SOK g c) : TM (D + 18) 199 [vr 10 0] I J b (aDry g) := by
  refine t_X10_dry I J b ?_
  have hfu : Fr pTw I (updI I 10 0 44 1) := Fr.id.upd rfl
  have h60 := hO.1.2.2.1
  have h70 := hO.1.2.2.2.1
  have h80 := hO.1.2.2.2.2.1
  refine (e_find (D := D) (P := parY g) (n := gN g) (parP_ok hO.1 (by omega) (by omega)) rfl (m_cx hM hO hfu (by rw [updI_if, if_neg (by omega)]; exact hM.bn.2.2 6 (by omega) (by omega)) (by rw [updI_if, if_neg (by omega)]; exact hM.bn.2.2 7 (by omega) (by omega)) (by rw [updI_if, if_neg (by omega)]; exact hM.bn.2.2 8 (by omega) (by omega)) uI_eq (by rw [updI_if, if_neg (by omega)]; exact hM.drawn) h80) rfl).useV ?_
  rintro I1 J1 ⟨rfl, hf1, k1⟩
  rw [mgF_e] at k1
  have e : ∀ k, k = 8 ∨ k = 9 ∨ k = 10 ∨ k = 45 → updI I1 10 0 44 0 10 0 k = I 10 0 k := fun k hk => by
    rw [updI_if, if_neg (by omega), hf1 10 0 k (pTh_f (by omega)), updI_if, if_neg (by omega)]
  refine RIf.tm k1.2.2.2.2.2.1 (pTw_of ((hfu.tr (pTh_w hf1)).upd rfl) (e _ (by omega)) (e _ (by omega)) (e _ (by omega)) ?_ (e _ (by omega)))
  rw [uI_eq]
  exact hM.dry.symm
theorem op_dry : Op 95 199 [] := Op.th aDry (fun g c I J b hX hO => cX_dry (D := 884) hX hO) (fun g c I J b hM hO => cM_dry (D := 882) hM hO)
def dif (o1 o2 : Option (Nat × List Nat)) : Int32 := match o1, o2 with
  | some (a, _), some (a2, _) => iZ (a : Int) - iZ (a2 : Int)
  | _, _ => -2000000000
def aWorth (x : Int32) (g : Sg) : Int32 := if inB x 0 1 = false then -2000000000 else dif (beF (parS g) (gN g)) (beF (if x = 0 then parZ g (gV g 6 0) (gV g 7 0 + 1) else parZ g (gV g 6 0 + 1) (gV g 7 0)) (gN g))
theorem aWorth_n {x : Int32} (h : inB x 0 1 = false) : aWorth x g = -2000000000 := by unfold aWorth; rw [if_pos h]
theorem aWorth_0 : aWorth 0 g = dif (beF (parS g) (gN g)) (beF (parZ g (gV g 6 0) (gV g 7 0 + 1)) (gN g)) := by
  unfold aWorth
  rw [if_neg (by decide), if_pos rfl]
theorem aWorth_1 : aWorth 1 g = dif (beF (parS g) (gN g)) (beF (parZ g (gV g 6 0 + 1) (gV g 7 0)) (gN g)) := by
  unfold aWorth
  rw [if_neg (by decide), if_neg (by decide)]
/-- with other staff -/
theorem c_worth {men cl : Nat} {x y : Int32} {x7 v : Int32} {I0 : IM} (hX : XR g I J b) (hO : SOK g c) (hS : ShAt I (parS g)) (hx : x = iZ (men : Int)) (hy : y = iZ (cl : Int)) (hm : men ≤ 9) (hc : cl ≤ 10) (h7 : x7 = soV (beF (parS g) (gN g))) (hn : beF (parS g) (gN g) ≠ none) (hv : v = dif (beF (parS g) (gN g)) (beF (parZ g men cl) (gN g))) (hf : Fr pCt I0 I) : Call (D + 16) 55 [vr 7 0, vi x, vi y] (101, I, J, R0 b) (RVf b fun I17 J18 => (Call (D + 16) 132 [vr 9 0] (101, I17, J18, R0 b) (RIf b fun x19 I20 J21 => (if ¬ x19 = (-2000000000 : Int32) then RIf b (fun z I' J' => z = v ∧ J' = J ∧ Fr pCt I0 I') (some (vi (x7 - x19))) (101, I20, J21, R0 b) else RIf b (fun z I' J' => z = v ∧ J' = J ∧ Fr pCt I0 I') (some (vi (-2000000000))) (101, I20, J21, R0 b))))) := by
  refine (e_staff (D := D + 14) hx hy).useV ?_
  rintro I1 J1 ⟨rfl, hf1, s3, s4, s5, s29⟩
  have hS1 : ShAt I1 (parZ g men cl) := ⟨s3, s4, s5.trans hS.2.2.1, fun j m hj hm => (s29 _).trans (hS.2.2.2 j m hj hm)⟩
  have hPz : PaOK (parZ g men cl) := parP_ok hO.1 (by omega) hc
  have hsn := soV_n (P := parZ g men cl) (n := gN g) hPz rfl rfl
  refine c_soon (D := D) (P := parZ g men cl) (hX.fr (pSp_ct hf1)) hO rfl hPz.2.1 hPz.2.2.1 hS1 (fun I2 k1 hX2 hS2 k2 => ?_)
  have hff := (hf.tr (pSp_ct hf1)).tr k1
  rw [h7]
  cases hb1 : beF (parS g) (gN g) with
  | none => exact absurd hb1 hn
  | some y =>
    obtain ⟨a, L⟩ := y
    rw [hb1] at hv
    cases hb2 : beF (parZ g men cl) (gN g) with
    | none =>
      rw [hb2] at hv hsn
      refine ifn (fun z => z (hsn.mpr rfl)) (RIf.tx ?_ hff)
      rw [hv]
      rfl
    | some y2 =>
      obtain ⟨a2, L2⟩ := y2
      rw [hb2] at hv hsn
      refine ifp (fun z => by cases hsn.mp z) (RIf.tx ?_ hff)
      rw [hv]
      rfl
theorem cX_worth {x : Int32} (hX : XR g I J b) (hO : SOK g c) : TX (D + 17) 93 [vr 9 0, vi x] I J b (aWorth x g) := by
  have hp := parS_ok hO
  have h60 := hO.1.2.2.1
  have h70 := hO.1.2.2.2.1
  refine t_X9_worth _ I J b ?_
  refine (p_X_isZeroOrOne x).use ?_
  cases hx : inB x 0 1
  · exact ifn (fun z => z rfl) (RIf.tx (aWorth_n hx).symm Fr.id)
  · refine ifp (by decide) ?_
    refine (e_open (D := D + 9) (hX.BL hO)).useV ?_
    rintro I1 J1 ⟨rfl, hf1, hS1⟩
    refine c_soon (D := D) (P := parS g) (hX.fr (pSp_ct hf1)) hO rfl hp.2.1 hp.2.2.1 hS1 (fun I2 k1 hX2 hS2 k2 => ?_)
    have hff := (pSp_ct hf1).tr k1
    have hsn := soV_n (n := gN g) (parS_ok hO) rfl rfl
    by_cases hb : beF (parS g) (gN g) = none
    · refine ifn (fun z => z (hsn.mpr hb)) (RIf.tx ?_ hff)
      rcases in01 hx with rfl | rfl
      · rw [aWorth_0, hb]
        rfl
      · rw [aWorth_1, hb]
        rfl
    · refine ifp (fun z => hb (hsn.mp z)) ?_
      refine (p_standing (D := D + 15) (q := 6) hX2.1 rfl (by omega) (by omega)).use ?_
      refine (p_standing (D := D + 15) (q := 7) hX2.1 rfl (by omega) (by omega)).use ?_
      rcases in01 hx with rfl | rfl
      · exact c_worth (men := gV g 6 0) (cl := gV g 7 0 + 1) hX2 hO hS2 (by rw [i_0, iZ_add]; rfl) (by rw [iZ_s, i_0, iZ_sub]; rfl) (by omega) (by omega) rfl hb aWorth_0 hff
      · exact c_worth (men := gV g 6 0 + 1) (cl := gV g 7 0) hX2 hO hS2 (iZ_s _) (by rw [iZ_s, i_1, iZ_sub]; congr 1; omega) (by omega) (by omega) rfl hb aWorth_1 hff
/-- the model's second search -/
theorem m_worth {men cl : Nat} {I0 : IM} {T : IM → JM → Prop} (hM : MR g I0 J) (hO : SOK g c) (hf : Fr pTw I0 I) (h8 : I 10 0 8 = iZ (men : Int)) (h9 : I 10 0 9 = iZ (cl : Int)) (h10 : I 10 0 10 = I0 10 0 10) (h44 : I 10 0 44 = 0) (h45 : I 10 0 45 = 0) (hm : men ≤ 9) (hc : cl ≤ 10) (K : ∀ I', Fr pTh I I' → MbB I' (gN g) (beF (parZ g men cl) (gN g)) → I' 10 0 50 = iZ (orF (parZ g men cl) (gN g) : Int) → T I' J) : Call (D + 17) 192 [vr 10 0, vi (-1)] (101, I, J, R0 b) (RVf b T) := by
  have h80 := hO.1.2.2.2.2.1
  refine (e_find (D := D) (P := parZ g men cl) (n := gN g) (sh := none) (parP_ok hO.1 (by omega) hc) rfl (m_cx hM hO hf h8 h9 (h10.trans (hM.bn.2.2 8 (by omega) (by omega))) h44 h45 h80) rfl).useV ?_
  rintro I1 J1 ⟨rfl, hf1, k1⟩
  rw [mgF_e] at k1
  exact K I1 hf1 (k1.2.1 rfl) k1.1
theorem MbB_pos {n : Nat} {o : Option (Nat × List Nat)} (h : MbB I n o) : 0 ≤ I 10 0 51 ↔ o ≠ none := by
  cases o with
  | none =>
    have h : I 10 0 51 = -1 := h
    rw [h]
    exact ⟨fun z => absurd z (by decide), fun z => absurd rfl z⟩
  | some x =>
    obtain ⟨a, L⟩ := x
    rw [h.1]
    have := h.2.1
    exact ⟨fun _ z => (by cases z), fun _ => (by rw [i_0]; exact tle (by omega) (by omega) (by omega))⟩
theorem cM_worth {x : Int32} (hM : MR g I J) (hO : SOK g c) : TM (D + 18) 197 [vr 10 0, vi x] I J b (aWorth x g) := by
  have h60 := hO.1.2.2.1
  have h70 := hO.1.2.2.2.1
  refine t_X10_worth _ I J b ?_
  refine (p_M_in x 0 1).use ?_
  cases hx : inB x 0 1
  · exact ifn (fun z => z rfl) (RIf.tm (aWorth_n hx).symm Fr.id)
  · refine ifp (by decide) ?_
    refine (e_find (D := D) (n := gN g) (parS_ok hO) rfl (hM.cx hO) rfl).useV ?_
    rintro I1 J1 ⟨rfl, hf1, k1⟩
    rw [mgF_e] at k1
    have hB1 : MbB I1 (gN g) (beF (parS g) (gN g)) := k1.2.1 rfl
    have hM1 := hM.fr hf1
    have v8 : I1 10 0 8 = iZ (gV g 6 0 : Int) := hM1.bn.2.2 6 (by omega) (by omega)
    have v9 : I1 10 0 9 = iZ (gV g 7 0 : Int) := hM1.bn.2.2 7 (by omega) (by omega)
    have hdo : ∀ (men cl : Nat) (q : Nat) (w : Int32) (I' : IM), (q = 8 ∨ q = 9) → MbB I' (gN g) (beF (parZ g men cl) (gN g)) → Fr pTh (updI I1 10 0 q w) I' → beF (parS g) (gN g) ≠ none → (if 0 ≤ (I' 10 0 51) then RIf b (fun z I'' J' => z = dif (beF (parS g) (gN g)) (beF (parZ g men cl) (gN g)) ∧ J' = J1 ∧ Fr pTh I I'') (some (vi ((I1 10 0 51) - (I' 10 0 51)))) (101, (updI I' 10 0 q (I1 10 0 q)), J1, R0 b) else RIf b (fun z I'' J' => z = dif (beF (parS g) (gN g)) (beF (parZ g men cl) (gN g)) ∧ J' = J1 ∧ Fr pTh I I'') (some (vi (-2000000000))) (101, (updI I' 10 0 q (I1 10 0 q)), J1, R0 b)) := by
      intro men cl q w I' hq hB2 hf2 hne
      have e : ∀ k, k = 8 ∨ k = 9 ∨ k = 10 ∨ k = 44 ∨ k = 45 → updI I' 10 0 q (I1 10 0 q) 10 0 k = I1 10 0 k := fun k hk => by
        rw [updI_if]
        split
        · next h =>
          obtain ⟨_, _, rfl⟩ := h
          rfl
        · next h => rw [hf2 10 0 k (pTh_f (by omega)), updI_if, if_neg h]
      have hp8 : pTw 10 0 q = true := pTw_iff.mpr (by omega)
      have hff : Fr pTh I (updI I' 10 0 q (I1 10 0 q)) := hf1.tr (pTw_of (((Fr.id.upd hp8).tr (pTh_w hf2)).upd hp8) (e _ (by omega)) (e _ (by omega)) (e _ (by omega)) (e _ (by omega)) (e _ (by omega)))
      cases hb1 : beF (parS g) (gN g) with
      | none => exact absurd hb1 hne
      | some y =>
        obtain ⟨a, L⟩ := y
        rw [hb1] at hB1
        have hpz := MbB_pos hB2
        cases hb2 : beF (parZ g men cl) (gN g) with
        | none =>
          rw [hb2] at hpz
          exact ifn (fun z => hpz.mp z rfl) (RIf.tm rfl hff)
        | some y2 =>
          obtain ⟨a2, L2⟩ := y2
          rw [hb2] at hpz hB2
          refine ifp (hpz.mpr (by simp)) (RIf.tm ?_ hff)
          rw [hB1.1, hB2.1]
          rfl
    have hback : ∀ (I' : IM) (q v : Nat), I1 10 0 q = iZ (v : Int) → I' 10 0 q = iZ ((v + 1 : Nat) : Int) → I' 10 0 q - (1 : Int32) = I1 10 0 q := fun I' q v h1 h2 => by
      rw [h1, h2, i_1, iZ_sub]
      congr 1
      omega
    by_cases hb : beF (parS g) (gN g) = none
    · refine ifn (fun z => (MbB_pos hB1).mp z hb) (RIf.tm ?_ hf1)
      rcases in01 hx with rfl | rfl
      · rw [aWorth_0, hb]
        rfl
      · rw [aWorth_1, hb]
        rfl
    · refine ifp ((MbB_pos hB1).mpr hb) ?_
      rcases in01 hx with rfl | rfl
      · refine ifn (fun z => z rfl) ?_
        rw [aWorth_0]
        refine m_worth (D := D) (men := gV g 6 0) (cl := gV g 7 0 + 1) (I0 := I1) hM1 hO (Fr.id.upd rfl) (by rw [updI_if, if_neg (by omega)]; exact v8) (by rw [uI_eq, v9, iZ_s]) (by rw [updI_if, if_neg (by omega)]) (by rw [updI_if, if_neg (by omega)]; exact hM1.dry) (by rw [updI_if, if_neg (by omega)]; exact hM1.drawn) (by omega) (by omega) (fun I2 k2 k3 k4 => ?_)
        have h9 : I2 10 0 9 - (1 : Int32) = I1 10 0 9 := hback I2 9 _ v9 (by rw [k2 10 0 9 (pTh_f (by omega)), uI_eq, v9, iZ_s])
        rw [h9]
        exact ifn (fun z => z rfl) (hdo _ _ 9 _ I2 (by omega) k3 k2 hb)
      · refine ifp (by decide) ?_
        rw [aWorth_1]
        refine m_worth (D := D) (men := gV g 6 0 + 1) (cl := gV g 7 0) (I0 := I1) hM1 hO (Fr.id.upd rfl) (by rw [uI_eq, v8, iZ_s]) (by rw [updI_if, if_neg (by omega)]; exact v9) (by rw [updI_if, if_neg (by omega)]) (by rw [updI_if, if_neg (by omega)]; exact hM1.dry) (by rw [updI_if, if_neg (by omega)]; exact hM1.drawn) (by omega) (by omega) (fun I2 k2 k3 k4 => ?_)
        have h8 : I2 10 0 8 - (1 : Int32) = I1 10 0 8 := hback I2 8 _ v8 (by rw [k2 10 0 8 (pTh_f (by omega)), uI_eq, v8, iZ_s])
        rw [h8]
        exact ifp (by decide) (hdo _ _ 8 _ I2 (by omega) k3 k2 hb)
theorem op_worth (x : Int32) : Op 93 197 [vi x] := Op.th (aWorth x) (fun g c I J b hX hO => cX_worth (D := 883) hX hO) (fun g c I J b hM hO => cM_worth (D := 882) hM hO)
end OPJ
