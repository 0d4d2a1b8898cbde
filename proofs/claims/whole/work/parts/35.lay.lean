/-! THE MODEL LAYS AN ORDER; both ways to a whole try -/
def pLm (s _j k : Nat) : Bool := Nat.beq s 68 || (Nat.beq s 10 && Nat.beq k 48)
theorem pLm_iff {s j k : Nat} : pLm s j k = true ↔ s = 68 ∨ (s = 10 ∧ k = 48) := by
  unfold pLm
  simp only [Bool.or_eq_true, Bool.and_eq_true, nb_iff]
theorem pLm_th {I I' : IM} (h : Fr pLm I I') : Fr pTh I I' := h.subT (fun s j k z => by
  rw [pLm_iff] at z
  rw [pTh_iff]
  omega)
section LAY
variable {D : Nat} {I : IM} {J : JM} {b : Bool} {n : Nat}
theorem w_isOrdered {L : List Nat} {j : Nat} (hL : PlM I L) (h7 : ∀ x ∈ L, x < 7) (hj : j < 7) (hl : L.length ≤ 7) : ∀ (T : List Nat) (k : Nat) (v : Int32), k ≤ L.length → L.drop k = T → v = bI (T.contains j) → WP D 180 2 [vr 10 0, vi (iZ (j : Int)), vi (iZ (k : Int))] [] (101, I, J, R0 b) (fun r h => r = some (vi v) ∧ h = (101, I, J, R0 b)) := by
  intro T
  induction T with
  | nil =>
    intro k v hk hT hv
    have := dr_nil hT
    refine t_X10_isOrdered_2 _ _ I J b ?_
    rw [hL.1]
    exact ifp (tle (by omega) (by omega) (by omega)) ⟨by rw [hv]; rfl, rfl⟩
  | cons x T ih =>
    intro k v hk hT hv
    obtain ⟨h1, h2, h3⟩ := dr_cons hT
    have hx := h7 x (List.mem_of_getElem? h1)
    refine t_X10_isOrdered_2 _ _ I J b ?_
    rw [hL.1, iZ_ck (by omega), hL.2 k x h1, iZ_s]
    refine ifn (nle (by omega) (by omega) (by omega)) ⟨vp_iZ (by omega) (by omega) (by omega), ifs (fun c => ?_) (fun c => ?_)⟩
    · rw [iZ_eq (by omega) (by omega) (by omega) (by omega)] at c
      refine ih (k + 1) v (by omega) h2 ?_
      rw [hv, List.contains_cons]
      have : (j == x) = false := by
        simp only [beq_eq_false_iff_ne]
        omega
      rw [this, Bool.false_or]
    · have c := Classical.not_not.mp c
      rw [iZ_eq (by omega) (by omega) (by omega) (by omega)] at c
      rw [hv, List.contains_cons]
      have : (j == x) = true := by
        simp only [beq_iff_eq]
        omega
      rw [this, Bool.true_or]
      exact ⟨rfl, rfl⟩
theorem p_isOrdered {L : List Nat} {j : Nat} (hL : PlM I L) (h7 : ∀ x ∈ L, x < 7) (hj : j < 7) (hl : L.length ≤ 7) : Pu (D + 1) 180 [vr 10 0, vi (iZ (j : Int))] I J b (bI (L.contains j)) := by
  refine t_X10_isOrdered _ I J b ?_
  exact w_isOrdered hL h7 hj hl L 0 _ (by omega) rfl rfl
theorem w_layOrder {s : Nat} {q : Sh} (hs : s < 6) (hn : n ≤ 7) (hk : sK q = 2) (hok : ShOK q) : ∀ (m k : Nat) (acc : List Nat) (I0 I : IM), m + k = sL q → acc.Nodup → (∀ j ∈ acc, j < n) → PlM I acc → I 10 0 1 = iZ (n : Int) → ShM I J s q → Fr pLm I0 I → WP (D + 2) 183 7 [vr 10 0, vi (iZ (s : Int)), vi (iZ (k : Int)), vn] [] (101, I, J, R0 b) (RVf b fun I' J' => J' = J ∧ Fr pLm I0 I' ∧ PlM I' (plS n q m k acc)) := by
  obtain ⟨q1, q2, _⟩ := hok.2.2 hk
  have hvs : vp_in (iZ (s : Int)) 6 := vp_iZ (by omega) (by omega) (by omega)
  intro m
  induction m with
  | zero =>
    intro k acc I0 I hm hnd hlt hL h1 hq hF
    obtain ⟨hln, _⟩ := hq.2 hk
    refine t_X10_layOrder_7 _ _ I J b ⟨hvs, ?_⟩
    rw [iZ_ck (by omega), hln]
    exact ifp (tle (by omega) (by omega) (by omega)) (RVf.mk ⟨rfl, hF, hL⟩)
  | succ m ih =>
    intro k acc I0 I hm hnd hlt hL h1 hq hF
    obtain ⟨hln, hc⟩ := hq.2 hk
    have hlen := nd_len hnd hn hlt
    have h7 : ∀ x ∈ acc, x < 7 := fun x hx => Nat.lt_of_lt_of_le (hlt x hx) hn
    refine t_X10_layOrder_7 _ _ I J b ⟨hvs, ?_⟩
    rw [iZ_ck (by omega), hln]
    unfold plS
    refine ifn (nle (by omega) (by omega) (by omega)) ?_
    refine (p_at hs (by omega)).use ?_
    rw [hc k (by omega)]
    refine (p_M_isJoint h1 hn).use ?_
    by_cases hj : 0 ≤ (sC q k).toInt32.toInt ∧ (sC q k).toInt32.toInt < n
    · rw [decide_eq_true hj]
      refine ifn (by decide) ?_
      obtain ⟨j, hjj⟩ : ∃ j : Nat, (sC q k).toInt32.toInt = j := ⟨(sC q k).toInt32.toInt.toNat, by omega⟩
      have hx : (sC q k).toInt32 = iZ (j : Int) := by rw [← hjj, iZ_self]
      rw [hjj] at hj ⊢
      rw [hx, Int.toNat_natCast]
      refine (p_isOrdered hL h7 (by omega) (by omega)).use ?_
      cases hcon : acc.contains j
      · have hlt7 : acc.length < 7 := by
          rcases Nat.lt_or_ge acc.length 7 with z | z
          · exact z
          · rw [full7 hnd h7 z (by omega)] at hcon
            cases hcon
        rw [hL.1, iZ_ck (by omega), iZ_s]
        refine ifp rfl ⟨vp_iZ (by omega) (by omega) (by omega), ?_⟩
        rw [if_pos ⟨hj, rfl⟩]
        have hup : ∀ s' k', s' ≠ 68 → (s' ≠ 10 ∨ k' ≠ 48) → updI (updI I 68 0 acc.length (iZ (j : Int))) 10 0 48 (iZ (acc.length : Int) + (1 : Int32)) s' 0 k' = I s' 0 k' := by
          intro s' k' z1 z2
          rw [updI_if, if_neg (by omega), updI_if, if_neg (by omega)]
        refine ih (k + 1) (acc ++ [j]) I0 _ (by omega) ?_ ?_ hL.snoc ((hup _ _ (by omega) (by omega)).trans h1) (hq.eq (fun t k' z => hup _ _ (by omega) (by omega)) (fun _ => rfl)) ((hF.upd rfl).upd rfl)
        · rw [List.nodup_append]
          refine ⟨hnd, by simp, fun a ha b hb => ?_⟩
          have hb : b = j := by simpa using hb
          subst hb
          rintro rfl
          simp only [List.contains_eq_mem, decide_eq_false_iff_not] at hcon
          exact hcon ha
        · intro y hy
          rcases List.mem_append.mp hy with hy | hy
          · exact hlt y hy
          · have : y = j := by simpa using hy
            subst this
            omega
      · refine ifn (by decide) ?_
        rw [if_neg (by simp)]
        exact RVf.mk ⟨rfl, hF, hL⟩
    · rw [decide_eq_false hj]
      refine ifp rfl ?_
      rw [if_neg (fun z => hj z.1)]
      exact RVf.mk ⟨rfl, hF, hL⟩
theorem e_layOrder {s : Nat} {q : Sh} (hs : s < 6) (hn : n ≤ 7) (hk : sK q = 2) (hok : ShOK q) (h1 : I 10 0 1 = iZ (n : Int)) (hq : ShM I J s q) : Call (D + 3) 183 [vr 10 0, vi (iZ (s : Int))] (101, I, J, R0 b) (RVf b fun I' J' => J' = J ∧ Fr pLm I I' ∧ PlM I' (plan n q)) := by
  refine t_X10_layOrder _ I J b ?_
  have hup : ∀ s' k', (s' ≠ 10 ∨ k' ≠ 48) → updI I 10 0 48 0 s' 0 k' = I s' 0 k' := by
    intro s' k' z2
    rw [updI_if, if_neg (by omega)]
  exact w_layOrder hs hn hk hok (sL q) 0 [] I _ (by omega) (by simp) (by simp) ⟨uI_eq, by intro k j h; simp at h⟩ ((hup _ _ (by omega)).trans h1) (hq.eq (fun t k' z => hup _ _ (by omega)) (fun _ => rfl)) (Fr.id.upd rfl)
theorem e_layOr {s : Nat} {q : Sh} (hs : s < 6) (hn : n ≤ 7) (hok : ShOK q) (h1 : I 10 0 1 = iZ (n : Int)) (hq : ShM I J s q) : Call (D + 4) 187 [vr 10 0, vi (iZ (s : Int))] (101, I, J, R0 b) (RIf b fun y I' J' => y = lackV q 0 ∧ J' = J ∧ Fr pLm I I' ∧ (y = 0 → PlM I' (plan n q))) := by
  refine t_X10_layOr _ I J b ?_
  refine (p_rowFault hs hq hok (by omega) (x := 0) (so := 0) rfl).use ?_
  by_cases h0 : sK q = 0
  · rw [lackV_0 h0]
    exact ifp (by decide) (RIf.mk ⟨rfl, rfl, Fr.id, fun h => absurd h (by decide)⟩)
  · by_cases h2 : sK q = 2 ∧ sA q = 0
    · rw [lackV_y h2.1 h2.2]
      refine ifn (fun z => z rfl) ?_
      refine (e_layOrder hs hn h2.1 hok h1 hq).useV ?_
      rintro I1 J1 ⟨rfl, hf, hL⟩
      exact RIf.mk ⟨rfl, rfl, hf, fun _ => hL⟩
    · rw [lackV_n h0 h2]
      exact ifp (by decide) (RIf.mk ⟨rfl, rfl, Fr.id, fun h => absurd h (by decide)⟩)
theorem lackV_cases (q : Sh) (so : Nat) : lackV q so = -11 ∨ lackV q so = -12 ∨ (lackV q so = 0 ∧ sK q = 2 ∧ sA q = so) := by
  by_cases h0 : sK q = 0
  · exact Or.inl (lackV_0 h0)
  · by_cases h2 : sK q = 2 ∧ sA q = so
    · exact Or.inr (Or.inr ⟨lackV_y h2.1 h2.2, h2⟩)
    · exact Or.inr (Or.inl (lackV_n h0 h2))
end LAY
theorem XR.BL {g : Sg} {I : IM} {J : JM} {b : Bool} {c : Nat} (h : XR g I J b) (hO : SOK g c) : BL b I (gN g) (gV g) (gL g) := ⟨h.1, h.2.2.2.1, hO.1⟩
theorem XR.sh {g : Sg} {I : IM} {J : JM} {b : Bool} {c : Nat} (h : XR g I J b) (hO : SOK g c) : ShCs I J (gS g) := fun s hs => ⟨h.2.2.2.2.1 s hs, (hO.2.2.2.1 s hs).1⟩
theorem XR.room {g : Sg} {I : IM} {J : JM} {b : Bool} (h : XR g I J b) : WkR 0 35 I := h.2.2.2.2.2.2.2.2.2.1
theorem MR.bn {g : Sg} {I : IM} {J : JM} (h : MR g I J) : BnM I (gN g) (gV g) := h.1
theorem MR.lw {g : Sg} {I : IM} {J : JM} (h : MR g I J) : LwMx I (gL g) := h.2.2.2.1
theorem MR.dry {g : Sg} {I : IM} {J : JM} (h : MR g I J) : I 10 0 44 = 0 := h.2.2.2.2.2.2.2.2.2.1
theorem MR.drawn {g : Sg} {I : IM} {J : JM} (h : MR g I J) : I 10 0 45 = 0 := h.2.2.2.2.2.2.2.2.2.2
theorem MR.sh {g : Sg} {I : IM} {J : JM} (h : MR g I J) : ∀ s, s < 6 → ShM I J s (gS g s) := h.2.2.2.2.1
theorem parS_ok {g : Sg} {c : Nat} (hO : SOK g c) : PaOK (parS g) := by
  have h6 := hO.1.2.2.1
  have h7 := hO.1.2.2.2.1
  exact parP_ok hO.1 (by omega) (by omega)
theorem MR.mb {g : Sg} {I : IM} {J : JM} {c : Nat} (h : MR g I J) (hO : SOK g c) : MbAt I (parS g) := MbAt_of h.bn.1 h.bn.2.1 hO.1.1 (h.bn.2.2 6 (by omega) (by omega)) rfl (h.bn.2.2 7 (by omega) (by omega)) h.dry
theorem MR.st {g : Sg} {I : IM} {J : JM} {c : Nat} (h : MR g I J) (hO : SOK g c) : StOK (parS g) I := StOK_of h.bn.2.1 (h.bn.2.2 9 (by omega) (by omega)) hO.1 h.lw (h.bn.2.2 8 (by omega) (by omega)) hO.1.2.2.2.2.1
/-- the class: what is opened is tried -/
theorem c_ot {D : Nat} {g : Sg} {c : Nat} {I : IM} {J : JM} {b : Bool} {L : List Nat} {T : Int32 → IM → JM → Prop} (hX : XR g I J b) (hO : SOK g c) (hL : PlC I L) (hN : L.Nodup) (hn : ∀ j ∈ L, j < gN g) (K : ∀ I', Fr pCt I I' → XR g I' J b → WkAt 0 35 I' (goL (parS g) L) 0 (goN (parS g) L) → PlC I' L → ShAt I' (parS g) → BeAt I' (parS g) → T (iZ ((goL (parS g) L).length : Int)) I' J) : Call (D + 7) 54 [vr 7 0] (101, I, J, R0 b) (RVf b fun I5 J6 => Call (D + 7) 129 [vr 9 0] (101, I5, J6, R0 b) (RIf b T)) := by
  have n7 := hO.1.1
  refine (e_open (hX.BL hO)).useV ?_
  rintro I1 J1 ⟨rfl, hf1, hS1⟩
  have hX1 := hX.fr (pSp_ct hf1)
  have hL1 : PlC I1 L := hL.eq (hf1 _ _ _ rfl) (fun k => hf1 _ _ _ rfl)
  have hB1 : BeAt I1 (parS g) := BeAt_of hX1.1 n7
  refine (e_tryPlan (D := D + 1) (parS_ok hO) hN hn hL1 hB1 hS1 hX1.room).useI ?_
  rintro x I2 J2 ⟨rfl, hf2, hW2, rfl⟩
  exact K I2 ((pSp_ct hf1).tr (pW0_ct hf2)) (hX1.fr (pW0_ct hf2)) hW2 (hL1.fr hf2) (hS1.fr hf2) (hB1.fr hf2)
/-- the model: a whole try -/
theorem m_go {D : Nat} {g : Sg} {c : Nat} {I : IM} {J : JM} {b : Bool} {L : List Nat} {T : IM → JM → Prop} (hM : MR g I J) (hO : SOK g c) (hL : PlM I L) (hN : L.Nodup) (hn : ∀ j ∈ L, j < gN g) (K : ∀ I', Fr pGf I I' → MR g I' J → HoAt I' (goL (parS g) L) 0 (goN (parS g) L) → XtAt I' (goL (parS g) L) 0 → I' 10 0 49 = iZ ((goL (parS g) L).length : Int) → PlM I' L → T I' J) : Call (D + 7) 185 [vr 10 0] (101, I, J, R0 b) (RVf b T) := by
  refine (e_goOrder (dr := false) (parS_ok hO) hN hn hL (hM.mb hO) (hM.st hO) hM.drawn).useV ?_
  rw [goZ_f]
  rintro I1 J1 ⟨rfl, hf, hH, _, h49, hXt⟩
  exact K I1 hf (hM.fr (pGf_sub hf)) hH hXt h49 (hL.fr hf)
/-- what a whole try gives -/
theorem goL_ok {P : Pa} {L : List Nat} (hP : PaOK P) (hN : L.Nodup) (hn : ∀ j ∈ L, j < pn P) : Gd P (goL P L) (goN P L) ∧ (goL P L).length ≤ L.length ∧ (goL P L).map xj = L.take (goL P L).length ∧ (∀ e ∈ goL P L, xj e < pn P) ∧ ((goL P L).map xj).Nodup ∧ (goL P L).length ≤ 7 ∧ goN P L ≤ 800 := by
  have hl := nd_len hN hP.1 hn
  have h7 := hP.1
  obtain ⟨m, h1, h2, h3, h4, h5, h6, h8⟩ := go_spec hP L [] 0 (ChOK.nil hN hn) (Gd.nil (by omega)) (by omega)
  have e : (goL P L).length = m := by
    unfold goL
    rw [h3]
    simp
  refine ⟨h5, by omega, ?_, h4.2.1, ?_, by omega, ?_⟩
  · rw [e]
    unfold goL
    rw [h2]
    simp
  · have := h4.2.2.2
    rw [List.nodup_append] at this
    simpa [goL] using this.1
  · unfold goN
    omega
theorem goL_at {P : Pa} {L : List Nat} (hP : PaOK P) (hN : L.Nodup) (hn : ∀ j ∈ L, j < pn P) {k : Nat} {e : En} (h : (goL P L)[k]? = some e) : L[k]? = some (xj e) := by
  obtain ⟨_, _, h3, _⟩ := goL_ok hP hN hn
  have h4 : ((goL P L).map xj)[k]? = some (xj e) := by rw [List.getElem?_map, h]; rfl
  rw [h3] at h4
  rw [List.getElem?_take] at h4
  split at h4
  · exact h4
  · cases h4
theorem tOK.ex {P : Pa} {nw : Nat} {x : Int32} {e : En} (h : tOK x e) (hN : pN P = false) (hb : Bd P nw e) (hn : nw ≤ 900000) : x = iZ (xs e : Int) := by
  obtain ⟨t, rfl, h⟩ := h
  have h4 := hb.2.2.2.1
  rw [if_neg (by rw [hN]; decide)] at h4
  have : t = xs e := by omega
  rw [this]
