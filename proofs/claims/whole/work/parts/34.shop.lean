/-! THE SHOP: what the class works out ahead of trying; what holds for the model at once -/
def parP (n : Nat) (V : Nat → Nat → Nat) (lw : Option (List Ln)) (H C : Nat) (nv : Bool) (g : Nat) : Pa := ((H, C, nv, n), (fun j q => V q j), fun j k => lawV lw V j k g)
/-- as the bench stands -/
def parS (s : Sg) : Pa := parP (gN s) (gV s) (gL s) (2 + 2 * gV s 6 0) (gV s 7 0) false (gV s 8 0)
theorem parP_ok {n : Nat} {V : Nat → Nat → Nat} {lw : Option (List Ln)} {H C g : Nat} {nv : Bool} (hO : BnOK n V) (hH : H ≤ 20) (hC : C ≤ 10) : PaOK (parP n V lw H C nv g) := by
  obtain ⟨o1, o2, _⟩ := hO
  refine ⟨o1, hH, hC, fun j hj => ?_⟩
  obtain ⟨a1, a2, a3, a4, a5, a6⟩ := o2 j (Nat.lt_of_lt_of_le hj o1)
  exact ⟨a1, a2, a3, a4, a5, a6, fun k _ => lawV_le _ _ _ _ _⟩
theorem BeAt_of {I : IM} {n : Nat} {V : Nat → Nat → Nat} {lw : Option (List Ln)} {H C g : Nat} {nv : Bool} (hB : BnC I n V) (hn : n ≤ 7) : BeAt I (parP n V lw H C nv g) := ⟨hB.1, fun j q hj hq => hB.2.1 j q (Nat.lt_of_lt_of_le hj hn) hq⟩
theorem MbAt_of {I : IM} {n : Nat} {V : Nat → Nat → Nat} {lw : Option (List Ln)} {H C g men : Nat} {nv : Bool} (h1 : I 10 0 1 = iZ (n : Int)) (h2 : ∀ j q, j < 7 → q < 6 → I (43 + q) 0 j = iZ (V q j : Int)) (hn : n ≤ 7) (h8 : I 10 0 8 = iZ (men : Int)) (hH : H = 2 + 2 * men) (h9 : I 10 0 9 = iZ (C : Int)) (h44 : I 10 0 44 = bI nv) : MbAt I (parP n V lw H C nv g) := by
  refine ⟨h1, fun j hj => ?_, ?_, h9, h44⟩
  · have hj7 : j < 7 := Nat.lt_of_lt_of_le hj hn
    exact ⟨h2 j 0 hj7 (by omega), h2 j 1 hj7 (by omega), h2 j 2 hj7 (by omega), h2 j 3 hj7 (by omega), h2 j 4 hj7 (by omega), h2 j 5 hj7 (by omega)⟩
  · rw [h8, i_2, iZ_mul, iZ_add]
    show _ = iZ ((H : Nat) : Int)
    rw [hH]
    rfl
theorem StOK_of {I : IM} {n : Nat} {V : Nat → Nat → Nat} {lw : Option (List Ln)} {H C g : Nat} {nv : Bool} (h2 : ∀ j q, j < 7 → q < 6 → I (43 + q) 0 j = iZ (V q j : Int)) (h11 : I 10 0 11 = iZ (V 9 0 : Int)) (hO : BnOK n V) (hL : LwMx I lw) (h10 : I 10 0 10 = iZ (g : Int)) (hg : g ≤ 99) : StOK (parP n V lw H C nv g) I := by
  intro D I1 J b j k hf hj hk
  have h7 := hO.1
  have hj : j < n := hj
  have hk : k < n := hk
  have e : ∀ s k, (s < 59 ∧ s ≠ 10) ∨ (s = 10 ∧ k < 36) → I1 s 0 k = I s 0 k := fun s k hs => hf _ _ _ (bf_of pTh_iff (by omega))
  exact e_setsBy (fun j hj => (e _ _ (by omega)).trans (h2 j 0 hj (by omega))) (fun j hj => (e _ _ (by omega)).trans (h2 j 2 hj (by omega))) ((e _ _ (by omega)).trans h11) hO (hL.eq (fun s k z => e _ _ (by omega))) ((e _ _ (by omega)).trans h10) (by omega) (by omega) hg
/-- what the shop writes -/
def pSp (s _j k : Nat) : Bool := Nat.beq s 25 || (Nat.beq s 26 || (Nat.beq s 29 || (Nat.beq s 7 && Nat.ble 3 k)))
theorem pSp_iff {s j k : Nat} : pSp s j k = true ↔ s = 25 ∨ s = 26 ∨ s = 29 ∨ (s = 7 ∧ 3 ≤ k) := by
  unfold pSp
  simp only [Bool.or_eq_true, Bool.and_eq_true, nb_iff, Nat.ble_eq]
theorem pSp_ct {I I' : IM} (h : Fr pSp I I') : Fr pCt I I' := h.subT (fun s j k z => by
  rw [pSp_iff] at z
  rw [pCt_iff]
  omega)
theorem pLc_sp {I I' : IM} (h : Fr pLc I I') : Fr pSp I I' := h.subT (fun s j k z => by
  unfold pLc at z
  simp only [Bool.or_eq_true, nb_iff] at z
  rw [pSp_iff]
  omega)
theorem pW0_ct {I I' : IM} (h : Fr (pW 0) I I') : Fr pCt I I' := h.subT (fun s j k z => by
  unfold pW at z
  simp only [Bool.or_eq_true, Bool.and_eq_true, nb_iff, Nat.ble_eq] at z
  rw [pCt_iff]
  omega)
theorem pPl_ct {I I' : IM} (h : Fr pPl I I') : Fr pCt I I' := h.subT (fun s j k z => by
  unfold pPl at z
  simp only [Bool.or_eq_true, Bool.and_eq_true, nb_iff] at z
  rw [pCt_iff]
  omega)
section SHOP
variable {D : Nat} {I : IM} {J : JM} {b : Bool} {n : Nat} {V : Nat → Nat → Nat} {lw : Option (List Ln)}
/-- the class's bench and law stand: what the shop needs -/
def BL (b : Bool) (I : IM) (n : Nat) (V : Nat → Nat → Nat) (lw : Option (List Ln)) : Prop := BnC I n V ∧ LwCx b I lw ∧ BnOK n V
theorem BL.fr {I I' : IM} (h : BL b I n V lw) (hf : Fr pCt I I') : BL b I' n V lw := by
  have hcs := @cs_ne b
  exact ⟨h.1.eq (fun s k z => hf _ _ _ (bf_of pCt_iff (by omega))), h.2.1.eq (fun s k z => hf _ _ _ (bf_of pCt_iff (by omega))), h.2.2⟩
theorem e_learn {j m g : Nat} (hB : BL b I n V lw) (hj : j < 7) (hm : m < 8) (hg : g ≤ 99) : Call (D + 6) 56 [vr 7 0, vi (iZ (j : Int)), vi (iZ (m : Int)), vi (iZ (g : Int))] (101, I, J, R0 b) (RVf b fun I' J' => J' = J ∧ Fr pSp I I' ∧ I' 29 0 (8 * j + m) = iZ (lawV lw V j m g : Int) ∧ (∀ k, k ≠ 8 * j + m → I' 29 0 k = I 29 0 k) ∧ ∀ k, I' 7 0 k = I 7 0 k) := by
  refine t_X7_learn _ _ _ I J b ?_
  refine (p_isKnown hj hm).use (ifn (by decide) ?_)
  refine (e_minutes hB.1 hB.2.2 hB.2.1 hj hm hg).useI ?_
  rintro x I1 J1 ⟨rfl, rfl, hf⟩
  have e1 : iZ (j : Int) * 8 + iZ (m : Int) = iZ ((8 * j + m : Nat) : Int) := by
    rw [i_8, iZ_mul, iZ_add]
    congr 1
    omega
  rw [e1, iZ_ck (by omega)]
  refine ⟨vp_iZ (by omega) (by omega) (by omega), RVf.mk ⟨rfl, (pLc_sp hf).upd rfl, uI_eq, fun k hk => ?_, fun k => ?_⟩⟩
  · rw [updI_if, if_neg (by omega)]
    exact hf _ _ _ rfl
  · rw [updI_if, if_neg (by omega)]
    exact hf _ _ _ rfl
theorem e_staff {men cl : Nat} {x y : Int32} (hx : x = iZ (men : Int)) (hy : y = iZ (cl : Int)) : Call (D + 2) 55 [vr 7 0, vi x, vi y] (101, I, J, R0 b) (RVf b fun I' J' => J' = J ∧ Fr pSp I I' ∧ I' 7 0 3 = iZ ((2 + 2 * men : Nat) : Int) ∧ I' 7 0 4 = iZ (cl : Int) ∧ I' 7 0 5 = I 7 0 5 ∧ ∀ k, I' 29 0 k = I 29 0 k) := by
  subst hx hy
  refine t_X7_staff _ _ I J b ?_
  refine (p_X_handsWith _).use (RVf.mk ⟨rfl, (Fr.id.upd rfl).upd rfl, ?_, uI_eq, ?_, fun k => ?_⟩)
  · rw [updI_if, if_neg (by omega), uI_eq, i_2, iZ_mul, iZ_add]
    rfl
  · rw [updI_if, if_neg (by omega), updI_if, if_neg (by omega)]
  · rw [updI_if, if_neg (by omega), updI_if, if_neg (by omega)]
/-- minutes told so far -/
def MiAt (I : IM) (n : Nat) (V : Nat → Nat → Nat) (lw : Option (List Ln)) (g : Nat) (a c : Nat) : Prop := ∀ j m, m < n → (j < a ∨ (j = a ∧ m < c)) → I 29 0 (8 * j + m) = iZ (lawV lw V j m g : Int)
theorem w_open25 {g : Nat} (hg : g ≤ 99) {Q : Option AV → AH → Prop} {a : Nat} (hn7 : n ≤ 7) (ha : a < n) {I0 : IM} (K : ∀ I', Fr pSp I0 I' → BL b I' n V lw → MiAt I' n V lw g a n → WP (D + 6) 54 12 [vr 7 0, vi (iZ (g : Int)), vi (iZ ((a + 1 : Nat) : Int)), vn] [] (101, I', J, R0 b) Q) : ∀ (k c : Nat) (I : IM), k + c = n → Fr pSp I0 I → BL b I n V lw → MiAt I n V lw g a c → WP (D + 6) 54 25 [vr 7 0, vi (iZ (g : Int)), vi (iZ (a : Int)), vi (iZ (c : Int))] [] (101, I, J, R0 b) Q := by
  intro k
  induction k with
  | zero =>
    intro c I hk hf hB hM
    have hc : c = n := by omega
    subst hc
    refine t_X7_open_25 _ _ _ I J b ?_
    rw [hB.1.1, iZ_s]
    exact ifp (tle (by omega) (by omega) (by omega)) (K I hf hB hM)
  | succ k ih =>
    intro c I hk hf hB hM
    refine t_X7_open_25 _ _ _ I J b ?_
    rw [hB.1.1]
    refine ifn (nle (by omega) (by omega) (by omega)) ?_
    refine (e_learn hB (by omega) (by omega) hg).useV ?_
    rintro I1 J1 ⟨rfl, hf1, h1, h2, _⟩
    rw [iZ_s]
    refine ih (c + 1) I1 (by omega) (hf.tr hf1) (hB.fr (pSp_ct hf1)) ?_
    intro j m hm hjm
    by_cases hjc : j = a ∧ m = c
    · obtain ⟨rfl, rfl⟩ := hjc
      exact h1
    · rw [h2 _ (by omega)]
      exact hM j m hm (by omega)
theorem w_open12 {g : Nat} (hg : g ≤ 99) (hn7 : n ≤ 7) {I0 : IM} (hg8 : g = V 8 0) : ∀ (k a : Nat) (I : IM), k + a = n → Fr pSp I0 I → BL b I n V lw → MiAt I n V lw g a 0 → WP (D + 6) 54 12 [vr 7 0, vi (iZ (g : Int)), vi (iZ (a : Int)), vn] [] (101, I, J, R0 b) (RVf b fun I' J' => J' = J ∧ Fr pSp I0 I' ∧ ShAt I' (parP n V lw (2 + 2 * V 6 0) (V 7 0) false g)) := by
  intro k
  induction k with
  | zero =>
    intro a I hk hf hB hM
    refine t_X7_open_12 _ _ I J b ?_
    rw [hB.1.1]
    refine ifp (tle (by omega) (by omega) (by omega)) ?_
    have hB1 : BL b (updI I 7 0 5 0) n V lw := hB.fr (pSp_ct (Fr.id.upd rfl))
    refine (p_standing hB1.1 (q := 6) rfl (by omega) (by omega)).use ?_
    refine (p_standing hB1.1 (q := 7) rfl (by omega) (by omega)).use ?_
    refine (e_staff rfl rfl).useV ?_
    rintro I1 J1 ⟨rfl, hf1, s3, s4, s5, s29⟩
    refine RVf.mk ⟨rfl, (hf.upd rfl).tr hf1, s3, s4, ?_, fun j m hj hm => ?_⟩
    · rw [s5, uI_eq]
      rfl
    · have hj : j < n := hj
      have hm : m < n := hm
      rw [s29, updI_if, if_neg (by omega)]
      exact hM j m hm (by omega)
  | succ k ih =>
    intro a I hk hf hB hM
    refine t_X7_open_12 _ _ I J b ?_
    rw [hB.1.1]
    refine ifn (nle (by omega) (by omega) (by omega)) ?_
    refine w_open25 hg hn7 (by omega) (I0 := I0) (fun I1 hf1 hB1 hM1 => ?_) n 0 I (by omega) hf hB hM
    refine ih (a + 1) I1 (by omega) hf1 hB1 ?_
    intro j m hm hjm
    exact hM1 j m hm (by omega)
theorem e_open (hB : BL b I n V lw) : Call (D + 7) 54 [vr 7 0] (101, I, J, R0 b) (RVf b fun I' J' => J' = J ∧ Fr pSp I I' ∧ ShAt I' (parP n V lw (2 + 2 * V 6 0) (V 7 0) false (V 8 0))) := by
  obtain ⟨o1, o2, o3, o4, o5, o6, o7, o8⟩ := hB.2.2
  refine t_X7_open I J b ?_
  refine (p_standing hB.1 (q := 8) rfl (by omega) (by omega)).use ?_
  exact w_open12 o5 o1 rfl n 0 I (by omega) Fr.id hB (fun j m hm h => by omega)
end SHOP
/-- a call of the class in thought; of the model -/
def TX (D y : Nat) (as : List AV) (I : IM) (J : JM) (b : Bool) (v : Int32) : Prop := Call D y as (101, I, J, R0 b) (RIf b fun x I' J' => x = v ∧ J' = J ∧ Fr pCt I I')
def TM (D y : Nat) (as : List AV) (I : IM) (J : JM) (b : Bool) (v : Int32) : Prop := Call D y as (101, I, J, R0 b) (RIf b fun x I' J' => x = v ∧ J' = J ∧ Fr pTh I I')
theorem RIf.tx {b : Bool} {v x : Int32} {I I' : IM} {J : JM} (h : x = v) (hf : Fr pCt I I') : RIf b (fun x I' J' => x = v ∧ J' = J ∧ Fr pCt I I') (some (vi x)) (101, I', J, R0 b) := ⟨x, I', J, rfl, rfl, h, rfl, hf⟩
theorem RIf.tm {b : Bool} {v x : Int32} {I I' : IM} {J : JM} (h : x = v) (hf : Fr pTh I I') : RIf b (fun x I' J' => x = v ∧ J' = J ∧ Fr pTh I I') (some (vi x)) (101, I', J, R0 b) := ⟨x, I', J, rfl, rfl, h, rfl, hf⟩
/-- what one op of the law asks for: the class answers, the model answers alike, the state stands -/
def Op (y z : Nat) (as : List AV) : Prop := ∀ (g : Sg) (c : Nat) (I : IM) (J : JM) (b : Bool), c < 512 → XR g I J b → MR g I J → SOK g c → Call 900 y (vr 9 0 :: as) (101, I, J, R0 b) (RIf b fun x I1 J1 => Call 900 z (vr 10 0 :: as) (101, I1, J1, R0 b) (RIf b fun x2 I2 J2 => x2 = x ∧ ∃ g', XR g' I2 J2 b ∧ MR g' I2 J2 ∧ SOK g' (c + 1)))
theorem SOK.up {g : Sg} {c : Nat} (h : SOK g c) (hc : c < 512) : SOK g (c + 1) := by
  obtain ⟨h1, h2, h3, h4, h5, h6, h7, h8, h9⟩ := h
  have hd : ∀ d, DeOK c (gN g) d → DeOK (c + 1) (gN g) d := by
    rintro d ⟨d1, d2, d3, d4, d5, d6, d7, d8⟩
    exact ⟨d1, d2, d3, by omega, by omega, by omega, by omega, by omega⟩
  exact ⟨h1, h2, h3, h4, h5, h6, hd _ h7, fun d hk => hd d (h8 d hk), by omega⟩
theorem Op.th {y z : Nat} {as : List AV} (v : Sg → Int32) (hx : ∀ g c I J b, XR g I J b → SOK g c → TX 900 y (vr 9 0 :: as) I J b (v g)) (hm : ∀ g c I J b, MR g I J → SOK g c → TM 900 z (vr 10 0 :: as) I J b (v g)) : Op y z as := by
  intro g c I J b hc hX hM hO
  refine (hx g c I J b hX hO).useI ?_
  rintro x I1 J1 ⟨rfl, rfl, hf⟩
  have hM1 := hM.frC (pCt_a hf) (fun _ => rfl)
  have hX1 := hX.fr hf
  refine (hm g c I1 J1 b hM1 hO).useI ?_
  rintro x2 I2 J2 ⟨rfl, rfl, hf2⟩
  exact ⟨rfl, g, hX1.frM (pTh_a hf2) (fun _ _ _ => rfl), hM1.fr hf2, hO.up hc⟩
