/-! OPS IN THOUGHT: wrong, round -/
theorem Gd.mono {P : Pa} {E E' : List En} {nw nw' : Nat} (h : Gd P E nw) (hs : ∀ e ∈ E', e ∈ E) (hn : nw ≤ nw') (hb : nw' ≤ 900000) : Gd P E' nw' := by
  refine ⟨fun e he => ?_, hb⟩
  obtain ⟨a1, a2, a3, a4, a5, a6⟩ := h.1 e (hs e he)
  refine ⟨a1, by omega, by omega, ?_, a5, a6⟩
  split
  · next hN => rw [if_pos hN] at a4; exact a4
  · next hN => rw [if_neg hN] at a4; omega
theorem WkAt.now {w r f nw m : Nat} {I : IM} {E : List En} (h : WkAt w r I E f nw) : WkAt w r (updI I 8 w 12 (iZ (m : Int))) E f m := by
  obtain ⟨⟨g30, g31, g32, g33, g34, g35, gr, gr2⟩, hl, hf, hbs, hn, hE, hr, hfl⟩ := h
  refine ⟨⟨g30, g31, g32, g33, g34, g35, ?_, gr2⟩, ?_, ?_, ?_, uI_eq, ?_, hr, hfl⟩
  · simpa [updI_if] using gr
  · simpa [updI_if] using hl
  · simpa [updI_if] using hf
  · simpa [updI_if] using hbs
  · intro k x hk
    have := hE k x hk
    simpa [updI_if] using this
theorem div10 {v : Nat} (h : v < 2147483648) : iZ (v : Int) / (10 : Int32) = iZ ((v / 10 : Nat) : Int) := by
  rw [i_10, iZ_div (by omega) (by omega) (by omega) (by omega)]
  congr 1
theorem rem10 {v : Nat} (h : v < 2147483648) : iZ (v : Int) - iZ (v : Int) / (10 : Int32) * (10 : Int32) = iZ ((v % 10 : Nat) : Int) := by
  rw [div10 h, i_10, iZ_mul, iZ_sub]
  congr 1
  omega
theorem nn_ex {x : Int32} (h : ¬ x < 0) : ∃ v : Nat, v < 2147483648 ∧ x = iZ (v : Int) := by
  obtain ⟨v, rfl, v1, v2⟩ := iZ_ex x
  rw [i_0, iZ_lt (by omega) (by omega) (by omega) (by omega)] at h
  exact ⟨v.toNat, by omega, by congr 1; omega⟩
/-- the minute from which all is glued anew -/
def sawn (k i : Nat) (e : En) : Nat := xf e + 2 * (i - k + 1)
def fWrong (P : Pa) (k i : Nat) (L : List Nat) : Int32 := match (goL P L)[i]? with
  | none => -2
  | some e => if (go P 0 (L.drop k) ((goL P L).take k) (sawn k i e)).1.length = L.length then iZ (ltE (go P 0 (L.drop k) ((goL P L).take k) (sawn k i e)).1 : Int) else -2
def aWrong (x ki : Int32) (g : Sg) : Int32 := if ki < 0 ∨ ¬ (ki / (10 : Int32) ≤ ki - ki / (10 : Int32) * (10 : Int32)) then -1 else aPl g x (fWrong (parS g) (ki.toInt.toNat / 10) (ki.toInt.toNat % 10))
theorem lF_take {E : List En} {i : Nat} {e : En} (h : E[i]? = some e) : lF (E.take (i + 1)) 0 = xf e := by
  have hl := (List.getElem?_eq_some_iff.mp h).1
  rw [List.take_add_one, h]
  simp [lF]
/-- what stands when the i-th was fitted wrong -/
theorem wrong_ok {P : Pa} {L : List Nat} {k i : Nat} {e : En} (hP : PaOK P) (hN : L.Nodup) (hn : ∀ j ∈ L, j < pn P) (hki : k ≤ i) (he : (goL P L)[i]? = some e) (hi : i ≤ 9) : Gd P ((goL P L).take k) (sawn k i e) ∧ sawn k i e ≤ 900 ∧ ChOK P ((goL P L).take k) 0 (L.drop k) ∧ ((goL P L).take k).length = k ∧ k ≤ L.length := by
  obtain ⟨hG, g1, g2, g3, g4, g5, g6⟩ := goL_ok hP hN hn
  have hil := (List.getElem?_eq_some_iff.mp he).1
  obtain ⟨t1, t2⟩ := goL_take (P := P) (L := L) (k := i + 1) (by omega) (by omega)
  rw [lF_take he] at t2
  obtain ⟨h1, _⟩ := goL_ok (L := L.take (i + 1)) hP (List.Nodup.sublist (List.take_sublist _ _) hN) (fun j hj => hn j (List.mem_of_mem_take hj))
  rw [t1, t2] at h1
  have hx : xf e ≤ 800 := by
    have := (hG.1 e (List.mem_of_getElem? he)).2.2.1
    omega
  have hs : sawn k i e ≤ 900 := by
    unfold sawn
    omega
  refine ⟨h1.mono (fun y hy => ?_) (by unfold sawn; omega) (by omega), hs, ⟨by omega, fun y hy => g3 y (List.mem_of_mem_take hy), fun j hj => hn j (List.mem_of_mem_drop hj), ?_⟩, by simp; omega, by omega⟩
  · have : (goL P L).take k = ((goL P L).take (i + 1)).take k := by rw [List.take_take, Nat.min_eq_left (by omega)]
    rw [this] at hy
    exact List.mem_of_mem_take hy
  · rw [List.drop_zero, List.map_take, g2, List.take_take, Nat.min_eq_left (by omega), List.take_append_drop]
    exact hN
section OPB
variable {D : Nat} {g : Sg} {c : Nat} {I : IM} {J : JM} {b : Bool}
theorem aWrong_n {x ki : Int32} (h : ki < 0 ∨ ¬ (ki / (10 : Int32) ≤ ki - ki / (10 : Int32) * (10 : Int32))) : aWrong x ki g = -1 := by unfold aWrong; rw [if_pos h]
theorem aWrong_y {x : Int32} {v : Nat} (hv : v < 2147483648) (h : v / 10 ≤ v % 10) : aWrong x (iZ (v : Int)) g = aPl g x (fWrong (parS g) (v / 10) (v % 10)) := by
  unfold aWrong
  rw [if_neg, iZ_toInt (by omega) (by omega), Int.toNat_natCast]
  rintro (z | z)
  · rw [i_0, iZ_lt (by omega) (by omega) (by omega) (by omega)] at z
    omega
  · rw [rem10 hv, div10 hv, iZ_le (by omega) (by omega) (by omega) (by omega)] at z
    omega
theorem cX_wrong {x ki : Int32} (hX : XR g I J b) (hO : SOK g c) : TX (D + 9) 97 [vr 9 0, vi x, vi ki] I J b (aWrong x ki g) := by
  refine t_X9_wrong _ _ I J b ?_
  refine ifs (fun h1 => RIf.tx (aWrong_n (Or.inl h1)).symm Fr.id) (fun h1 => ifs (fun h2 => ?_) (fun h2 => RIf.tx (aWrong_n (Or.inr h2)).symm Fr.id))
  obtain ⟨v, hv, rfl⟩ := nn_ex h1
  rw [rem10 hv, div10 hv, iZ_le (by omega) (by omega) (by omega) (by omega)] at h2
  rw [rem10 hv, div10 hv]
  have hP := parS_ok hO
  refine c_plan hX hO (aWrong_y hv (by omega)) (fun L I1 hN hn hv1 hf1 hX1 hL1 => ?_)
  rw [hv1]
  refine c_ot hX1 hO hL1 hN hn (fun I2 hf2 hX2 hW2 hL2 hS2 hB2 => ?_)
  obtain ⟨hG, g1, g2, g3, g4, g5, g6⟩ := goL_ok hP hN hn
  have hL7 : L.length ≤ 7 := Nat.le_trans (nd_len hN hO.1.1 hn) hO.1.1
  have hff := hf1.tr hf2
  unfold fWrong
  refine ifs (fun h4 => ?_) (fun h4 => ?_)
  · rw [iZ_lt (by omega) (by omega) (by omega) (by omega)] at h4
    obtain ⟨e, he⟩ : ∃ e, (goL (parS g) L)[v % 10]? = some e := ⟨_, List.getElem?_eq_getElem (by omega)⟩
    obtain ⟨w1, w2, w3, w4, w5⟩ := wrong_ok hP hN hn (show v / 10 ≤ v % 10 by omega) he (by omega)
    obtain ⟨_, _, e3, _, _⟩ := hW2.2.2.2.2.2.1 _ _ he
    rw [iZ_ck (by omega), e3, he]
    refine ⟨vp_iZ (by omega) (by omega) (by omega), ?_⟩
    refine (e_cutTo hW2 (fun y hy => (hG.1 y hy).1) g4 (by omega)).useV ?_
    rintro I3 J3 ⟨rfl, hf3, hW3⟩
    have es : iZ (xf e : Int) + (2 : Int32) * (iZ ((v % 10 : Nat) : Int) - iZ ((v / 10 : Nat) : Int) + (1 : Int32)) = iZ (sawn (v / 10) (v % 10) e : Int) := by
      rw [i_1, i_2, iZ_sub, iZ_add, iZ_mul, iZ_add]
      congr 1
      unfold sawn
      omega
    rw [es]
    have hfu : Fr (pW 0) I3 (updI I3 8 0 12 (iZ (sawn (v / 10) (v % 10) e : Int))) := Fr.id.upd rfl
    have hf4 := hf3.tr hfu
    refine (e_goOn (D := D + 3) (k := v / 10) hP (by omega) w5 (hL2.fr hf4) (hB2.fr hf4) (hS2.fr hf4) hW3.now w3 w1 (by omega) (by omega)).useI ?_
    rintro y I5 J5 ⟨rfl, hf5, hW5, rfl⟩
    have hl := go_len (P := parS g) (f := 0) (L.drop (v / 10)) ((goL (parS g) L).take (v / 10)) (sawn (v / 10) (v % 10) e)
    have hGo : Gd (parS g) (go (parS g) 0 (L.drop (v / 10)) ((goL (parS g) L).take (v / 10)) (sawn (v / 10) (v % 10) e)).1 (go (parS g) 0 (L.drop (v / 10)) ((goL (parS g) L).take (v / 10)) (sawn (v / 10) (v % 10) e)).2 := by
      obtain ⟨_, _, _, _, _, h6, _⟩ := go_spec hP (L.drop (v / 10)) _ _ w3 w1 (by simp; omega)
      exact h6
    have hiff : (go (parS g) 0 (L.drop (v / 10)) ((goL (parS g) L).take (v / 10)) (sawn (v / 10) (v % 10) e)).1.length = ((goL (parS g) L).take (v / 10)).length + (L.drop (v / 10)).length ↔ (go (parS g) 0 (L.drop (v / 10)) ((goL (parS g) L).take (v / 10)) (sawn (v / 10) (v % 10) e)).1.length = L.length := by
      rw [w4, List.length_drop]
      omega
    have hff5 : Fr pCt I I5 := ((hff.tr (pW0_ct hf3)).tr (pW0_ct hfu)).tr (pW0_ct hf5)
    by_cases hw : (go (parS g) 0 (L.drop (v / 10)) ((goL (parS g) L).take (v / 10)) (sawn (v / 10) (v % 10) e)).1.length = L.length
    · rw [decide_eq_true (hiff.mpr hw)]
      refine ifn (by decide) ?_
      dsimp only
      refine (p_latest hW5 (fun y hy => hGo.xle hy)).use (RIf.tx ?_ hff5)
      rw [if_pos hw]
    · rw [decide_eq_false (fun z => hw (hiff.mp z))]
      refine ifp rfl (RIf.tx ?_ hff5)
      dsimp only
      rw [if_neg hw]
  · rw [iZ_lt (by omega) (by omega) (by omega) (by omega)] at h4
    rw [List.getElem?_eq_none (by omega)]
    exact RIf.tx rfl hff
theorem PlM.take {L : List Nat} {k : Nat} (h : PlM I L) (hk : k ≤ L.length) : PlM (updI I 10 0 48 (iZ (k : Int))) (L.take k) := by
  refine ⟨?_, fun m j hm => ?_⟩
  · rw [uI_eq]
    congr 1
    simp
    omega
  · rw [updI_if, if_neg (by omega)]
    rw [List.getElem?_take] at hm
    split at hm
    · exact h.2 m j hm
    · cases hm
theorem cM_wrong {x ki : Int32} (hM : MR g I J) (hO : SOK g c) : TM (D + 9) 202 [vr 10 0, vi x, vi ki] I J b (aWrong x ki g) := by
  refine t_X10_wrong _ _ I J b ?_
  refine (p_M_isShelf x).use ?_
  rw [inB_05]
  by_cases hx : 0 ≤ x.toInt ∧ x.toInt < 6
  · rw [decide_eq_true hx]
    obtain ⟨s, hs, rfl⟩ := sh_ex hx
    refine ifn (by decide) (ifs (fun h1 => RIf.tm (aWrong_n (Or.inl h1)).symm Fr.id) (fun h1 => ifs (fun h2 => ?_) (fun h2 => RIf.tm (aWrong_n (Or.inr h2)).symm Fr.id)))
    obtain ⟨v, hv, rfl⟩ := nn_ex h1
    rw [rem10 hv, div10 hv, iZ_le (by omega) (by omega) (by omega) (by omega)] at h2
    rw [rem10 hv, div10 hv]
    have hP := parS_ok hO
    have n7 := hO.1.1
    refine m_plan hM hO hs (aWrong_y hv (by omega)) (fun I1 hk hv1 hf1 hM1 hL1 => ?_)
    rw [hv1]
    obtain ⟨hN, hn⟩ := plan_ok (gN g) (gS g s)
    generalize plan (gN g) (gS g s) = L at hN hn hL1 hv1 ⊢
    refine m_go hM1 hO hL1 hN hn (fun I2 hf2 hM2 hH2 hX2 h49 hL2 => ?_)
    obtain ⟨hG, g1, g2, g3, g4, g5, g6⟩ := goL_ok hP hN hn
    have hL7 : L.length ≤ 7 := Nat.le_trans (nd_len hN hO.1.1 hn) hO.1.1
    have hff := hf1.tr (pGf_sub hf2)
    unfold fWrong
    rw [h49]
    refine ifs (fun h4 => ?_) (fun h4 => ?_)
    · rw [iZ_lt (by omega) (by omega) (by omega) (by omega)] at h4
      obtain ⟨e, he⟩ : ∃ e, (goL (parS g) L)[v % 10]? = some e := ⟨_, List.getElem?_eq_getElem (by omega)⟩
      obtain ⟨w1, w2, w3, w4, w5⟩ := wrong_ok hP hN hn (show v / 10 ≤ v % 10 by omega) he (by omega)
      have hem := List.mem_of_getElem? he
      have hxj : xj e < gN g := g3 e hem
      obtain ⟨_, x2, _⟩ := hX2.1 e (by simpa using hem)
      rw [iZ_ck (by omega), hL2.2 _ _ (goL_at hP hN hn he), iZ_ck (by omega), x2, he, hL2.1]
      refine ⟨vp_iZ (by omega) (by omega) (by omega), vp_iZ (by omega) (by omega) (by omega), ?_⟩
      have hfu : Fr pTh I2 (updI I2 10 0 48 (iZ ((v / 10 : Nat) : Int))) := Fr.id.upd rfl
      refine m_go (hM2.fr hfu) hO (hL2.take w5) (List.Nodup.sublist (List.take_sublist _ _) hN) (fun j hj => hn j (List.mem_of_mem_take hj)) (fun I3 hf3 hM3 hH3 _ _ hL3 => ?_)
      rw [(goL_take (P := parS g) (L := L) (k := v / 10) (by omega) w5).1] at hH3
      have es : iZ (xf e : Int) + (2 : Int32) * (iZ ((v % 10 : Nat) : Int) - iZ ((v / 10 : Nat) : Int) + (1 : Int32)) = iZ (sawn (v / 10) (v % 10) e : Int) := by
        rw [i_1, i_2, iZ_sub, iZ_add, iZ_mul, iZ_add]
        congr 1
        unfold sawn
        omega
      rw [es]
      have hup : ∀ s' k', (s' ≠ 10 ∨ (k' ≠ 48 ∧ k' ≠ 37)) → updI (updI I3 10 0 48 (iZ (L.length : Int))) 10 0 37 (iZ (sawn (v / 10) (v % 10) e : Int)) s' 0 k' = I3 s' 0 k' := fun s' k' hs' => by
        rw [updI_if, if_neg (by omega), updI_if, if_neg (by omega)]
      have hfv : Fr pTh I3 (updI (updI I3 10 0 48 (iZ (L.length : Int))) 10 0 37 (iZ (sawn (v / 10) (v % 10) e : Int))) := (Fr.id.upd rfl).upd rfl
      have hM4 := hM3.fr hfv
      have hL4 : PlM (updI (updI I3 10 0 48 (iZ (L.length : Int))) 10 0 37 (iZ (sawn (v / 10) (v % 10) e : Int))) L := by
        refine ⟨?_, fun m j hm => ?_⟩
        · rw [updI_if, if_neg (by omega), uI_eq]
        · rw [hup _ _ (by omega), hf3 _ _ _ rfl, updI_if, if_neg (by omega)]
          exact hL2.2 m j hm
      have hH4 : HoAt (updI (updI I3 10 0 48 (iZ (L.length : Int))) 10 0 37 (iZ (sawn (v / 10) (v % 10) e : Int))) ((goL (parS g) L).take (v / 10)) 0 (sawn (v / 10) (v % 10) e) := by
        obtain ⟨y1, y2, y3, y4⟩ := hH3
        refine ⟨y1.eq (fun s' k' z => hup _ _ (by omega)), uI_eq, (hup _ _ (by omega)).trans y3, fun z hz => ?_⟩
        rw [hup _ _ (by omega)]
        exact y4 z hz
      refine (e_goFrom (D := D + 2) (k := v / 10) (dr := false) hP (by omega) w5 hL4 (hM4.mb hO) (hM4.st hO) hH4 hM4.drawn w3 w1 (by omega) (by omega)).useV ?_
      rintro I5 J5 ⟨rfl, hf5, hH5, _, h49b, _⟩
      rw [goD_f] at hH5 h49b
      dsimp only at hH5 h49b
      have hl := go_len (P := parS g) (f := 0) (L.drop (v / 10)) ((goL (parS g) L).take (v / 10)) (sawn (v / 10) (v % 10) e)
      rw [w4] at hl h49b
      have hgs := go_spec hP (L.drop (v / 10)) _ _ w3 w1 (by simp; omega)
      have h48 : I5 10 0 48 = iZ (L.length : Int) := (hL4.fr hf5).1
      have hff5 : Fr pTh I I5 := (((hff.tr hfu).tr (pGf_sub hf3)).tr hfv).tr (pGf_sub hf5)
      have hM5 := hM4.fr (pGf_sub hf5)
      dsimp only
      rw [h49b, h48]
      rw [List.length_drop] at hl
      refine ifs (fun h6 => ?_) (fun h6 => ?_)
      · rw [iZ_eq (by omega) (by omega) (by omega) (by omega)] at h6
        refine RIf.tm ?_ hff5
        rw [if_neg (by omega)]
      · have h6 := Classical.not_not.mp h6
        rw [iZ_eq (by omega) (by omega) (by omega) (by omega)] at h6
        obtain ⟨m, _, _, _, c4, c5, _⟩ := hgs
        obtain ⟨a, _, ha, hp⟩ := p_doneNow (D := D + 7) (J := J5) (b := b) hH5 (hM5.mb hO) hP c5 c4.2.1
        refine hp.use (RIf.tm ?_ hff5)
        rw [if_pos (by omega), ha rfl]
        rfl
    · rw [iZ_lt (by omega) (by omega) (by omega) (by omega)] at h4
      rw [List.getElem?_eq_none (by omega)]
      exact RIf.tm rfl hff
  · rw [decide_eq_false hx]
    refine ifp rfl (RIf.tm ?_ Fr.id)
    unfold aWrong
    split
    · rfl
    · rw [aPl_no hx]
theorem op_wrong (x ki : Int32) : Op 97 202 [vi x, vi ki] := Op.th (aWrong x ki) (fun g c I J b hX hO => cX_wrong (D := 891) hX hO) (fun g c I J b hM hO => cM_wrong (D := 891) hM hO)
end OPB
