/-! THE PARSER, the model takes a text; the op law -/
def gLw (g : Sg) (T : List Nat) (lw : Option (List Ln)) : Sg := (g.1, g.2.1, g.2.2.1, T, lw, g.2.2.2.2.2)
/-- the op that changes the references -/
def OpW (y z : Nat) (as : List AV) : Prop := ∀ (g : Sg) (c : Nat) (I : IM) (J : JM) (b : Bool), c < 512 → XR g I J b → MR g I J → SOK g c → Call 900 y (vr 9 0 :: as) (101, I, J, R0 b) (fun r h => ∃ (x : Int32) (I1 : IM) (b1 : Bool), r = some (vi x) ∧ ((h = (101, I1, J, R0 b) ∧ b1 = b) ∨ (h = (101, I1, J, RX b) ∧ b1 = !b)) ∧ Call 900 z (vr 10 0 :: as) (101, I1, J, R0 b1) (RIf b1 fun x2 I2 J2 => x2 = x ∧ ∃ g', XR g' I2 J2 b1 ∧ MR g' I2 J2 ∧ SOK g' (c + 1)))
theorem tkOK_st {L : List Ln} (h : ∀ l ∈ L, wfL l) : ∀ w ∈ stS L, tkOK w := by
  intro w hw
  unfold stS at hw
  rw [List.mem_flatMap] at hw
  obtain ⟨l, hl, hw⟩ := hw
  obtain ⟨h1, h2⟩ := h l hl
  unfold lnS at hw
  rw [List.mem_append] at hw
  rcases hw with hw | hw
  · cases hc : l.1 with
    | none =>
      rw [hc] at hw
      cases hw
    | some c =>
      rw [hc] at h1 hw
      exact h1.1 w hw
  · exact h2.1 w hw
section LAWO
variable {D : Nat} {g : Sg} {c : Nat} {I : IM} {J : JM} {b : Bool} {tp : List Nat} {p f q a : Nat} {L : List Ln}
theorem t_law9 {Q : Option AV → AH → Prop} (h : Call D 20 [vr 3 0] (101, I, J, R0 b) (fun r h => ∃ x, r = some (vi x) ∧ (if 0 ≤ x then Q (some (vi ((-100 : Int32) - x))) h else Q (some (vi 1)) h))) : Call (D + 1) 85 [vr 9 0] (101, I, J, R0 b) Q := by
  refine Call.of rfl ?_
  show WP D 85 0 [vr 9 0, vn] [] (101, I, J, R0 b) Q
  refine WP.blk (pc' := 4) (L' := [vr 9 0, vn]) (st' := [vr 3 0]) (h' := (101, I, J, R0 b)) 2 rfl ?_
  refine WP.cal (y' := 20) (as := [vr 3 0]) (L' := [vr 9 0, vn]) (rest := []) rfl (fun f r h' hf => callV_ok hf rfl rfl rfl) h ?_
  rintro _ h2 ⟨x1, rfl, h⟩
  refine WP.blk (pc' := 9) (L' := [vr 9 0, vi x1]) (st' := [vi x1]) (h' := h2) 2 rfl ?_
  refine WP.if_ge (t := 16) (L' := [vr 9 0, vi x1]) rfl rfl rfl rfl h (fun h => ?_) (fun h => ?_)
  · refine WP.blk (pc' := 20) (L' := [vr 9 0, vi x1]) (st' := [vi ((-100 : Int32) - x1)]) (h' := h2) 3 rfl ?_
    exact WP.ret rfl rfl h
  · refine WP.blk (pc' := 20) (L' := [vr 9 0, vi x1]) (st' := [vi 1]) (h' := h2) 2 rfl ?_
    exact WP.ret rfl rfl h
def TmQ (I0 : IM) (res : Sum Nat (List Ln)) (x : Int32) (I' : IM) : Prop := I' 10 0 20 = 0 ∧ (∀ s i k, ¬ (54 ≤ s ∧ s ≤ 58) → ¬ (s = 10 ∧ 20 ≤ k ∧ k ≤ 24) → I' s i k = I0 s i k) ∧ match res with
  | .inl f => x = iZ (f : Int) ∧ ∀ s i k, (((s = 54 ∨ s = 55) ∧ k < 130) ∨ ((s = 57 ∨ s = 58) ∧ k < 61) ∨ (s = 56 ∧ k = 0)) → I' s i k = I0 s i k
  | .inr L => x = -1 ∧ LwM I' L
theorem pMl_f {s j k : Nat} (h : ¬ (((s = 54 ∧ 130 ≤ k) ∨ (s = 55 ∧ 130 ≤ k) ∨ (s = 10 ∧ 21 ≤ k ∧ k ≤ 24)) ∨ (s = 57 ∧ 61 ≤ k) ∨ (s = 58 ∧ 61 ≤ k) ∨ (s = 56 ∧ k = 1))) : pMl s j k = false := bf_of pMl_iff h
theorem e_txF {I0 : IM} (hN : tpOK tp) (hm : MF I tp f q a) (hF : Fr pMl I0 I) : TmQ I0 (.inl f) (I 10 0 22) (updI I 10 0 20 0) := by
  refine ⟨uI_eq, fun s i k z1 z2 => ?_, hm.1, fun s i k z => ?_⟩
  · rw [updI_if, if_neg (by omega)]
    exact hF _ _ _ (pMl_f (by omega))
  · rw [updI_if, if_neg (by omega)]
    exact hF _ _ _ (pMl_f (by omega))
theorem w_txS {I0 : IM} (hN : tpOK tp) (hS : LSn I tp p L) (hi : invT tp p L) (hF : Fr pMl I0 I) : WP (D + 1) 164 105 [vr 10 0, vi 0, vi 0] [] (101, (updI I 10 0 20 0), J, R0 b) (RIf b fun x I' J' => J' = J ∧ TmQ I0 (.inr L) x I') := by
  have hN1 := hN.1
  obtain ⟨t1, t2, t3, t4, t5, t6, t7⟩ := hi
  have hw := tkOK_st (fun l hl => (t1 l hl).1)
  have v : ∀ s i k, ¬ (s = 10 ∧ k = 20) → updI I 10 0 20 0 s i k = I s i k := fun s i k z => by rw [updI_if, if_neg (by omega)]
  have v20 : updI I 10 0 20 0 10 0 20 = 0 := uI_eq
  obtain ⟨⟨m1, m2, m3, m4, m5, m6⟩, hLn⟩ := hS
  have hNw : NwS (updI I 10 0 20 0) L := ⟨(v _ _ _ (by omega)).trans m4, fun k w hk => ⟨(v _ _ _ (by omega)).trans (m5 k w hk).1, (v _ _ _ (by omega)).trans (m5 k w hk).2⟩, hLn.eq (fun s k z => v _ _ _ (by omega))⟩
  generalize updI I 10 0 20 0 = I1 at v v20 hNw ⊢
  refine w_cp105 (D := D) hNw (by omega) hw (fun I2 f2 k2 => ?_) (stS L).length 0 I1 (by omega) (fun _ _ _ _ => rfl) (fun k z => by omega)
  have hN2 : NwS (updI I2 56 0 0 (I2 56 0 1)) L := ⟨by rw [updI_if, if_neg (by omega), f2 _ _ _ (by omega)]; exact hNw.1, fun k w hk => ⟨by rw [updI_if, if_neg (by omega), f2 _ _ _ (by omega)]; exact (hNw.2.1 k w hk).1, by rw [updI_if, if_neg (by omega), f2 _ _ _ (by omega)]; exact (hNw.2.1 k w hk).2⟩, hNw.2.2.eq (fun s k z => by rw [updI_if, if_neg (by omega), f2 _ _ _ (by omega)])⟩
  have h560 : updI I2 56 0 0 (I2 56 0 1) 56 0 0 = iZ (L.length : Int) := by
    rw [uI_eq, f2 _ _ _ (by omega)]
    exact hNw.2.2.1
  have v3 : ∀ s i k, ¬ (s = 56 ∧ k = 0) → updI I2 56 0 0 (I2 56 0 1) s i k = I2 s i k := fun s i k z => by rw [updI_if, if_neg (by omega)]
  generalize updI I2 56 0 0 (I2 56 0 1) = I3 at hN2 h560 v3 ⊢
  refine (w_cp177 (D := D) hN2 (by omega) (by omega) L.length 0 I3 (by omega) (fun _ _ _ _ => rfl) h560 (fun k z => by omega)).mono ?_
  rintro r h ⟨x, I4, J4, rfl, rfl, rfl, rfl, f4, k4⟩
  refine RIf.mk ⟨rfl, ?_, fun s i k z1 z2 => ?_, rfl, ⟨by omega, fun k w hk => ?_⟩, ?_, by omega, fun L1 l L2 hL => ?_⟩
  · rw [f4 _ _ _ (by omega), v3 _ _ _ (by omega), f2 _ _ _ (by omega), v20]
  · rw [f4 _ _ _ (by omega), v3 _ _ _ (by omega), f2 _ _ _ (by omega), v _ _ _ (by omega)]
    exact hF _ _ _ (pMl_f (by omega))
  · have hk2 : k < (stS L).length := by
      rw [List.getElem?_eq_some_iff] at hk
      exact hk.1
    obtain ⟨a1, a2⟩ := k2 k hk2
    obtain ⟨b1, b2⟩ := hNw.2.1 k w hk
    rw [f4 _ _ _ (by omega), f4 _ _ _ (by omega), v3 _ _ _ (by omega), v3 _ _ _ (by omega), a1, a2]
    exact ⟨b1, b2⟩
  · rw [f4 _ _ _ (by omega)]
    exact h560
  · have hk : L[L1.length]? = some l := by
      rw [hL, List.getElem?_append_right (Nat.le_refl _), Nat.sub_self]
      rfl
    have hlt : L1.length < L.length := by
      rw [hL, List.length_append, List.length_cons]
      omega
    have ht : L.take L1.length = L1 := by
      rw [hL, List.take_append_of_le_length (Nat.le_refl _), List.take_length]
    obtain ⟨a1, a2⟩ := k4 L1.length hlt
    obtain ⟨b1, b2⟩ := hN2.2.2.2 L1.length l hk
    rw [ht] at b1 b2
    rw [a1, a2]
    exact ⟨b1, b2⟩
theorem w_txt {I0 : IM} (hN : tpOK tp) (hD : 80 ≤ D) : ∀ (m p : Nat) (L : List Ln) (I : IM) (J : JM), 243 ≤ 2 * m + p → invT tp p L → LSn I tp p L → Fr pMl I0 I → WP (D + 1) 164 31 [vr 10 0, vi 0, vn] [] (101, I, J, R0 b) (RIf b fun x I' J' => J' = J ∧ TmQ I0 (txE tp m p L) x I') := by
  have hN1 := hN.1
  -- behind a fault
  have hflt : ∀ (I : IM) (J : JM) (f q a : Nat), MF I tp f q a → Fr pMl I0 I → WP (D + 1) 164 31 [vr 10 0, vi 0, vn] [] (101, I, J, R0 b) (RIf b fun x I' J' => J' = J ∧ TmQ I0 (.inl f) x I') := fun I J f q a hm hF => by
    refine t_X10_readText_31 _ I J b (ifp (hm.ge hN) (ifp (hm.ge hN) (ifn (by rw [Int32.not_lt]; exact hm.ge hN) (RIf.mk ⟨rfl, e_txF hN hm hF⟩))))
  intro m
  induction m with
  | zero =>
    intro p L I J h1 h2
    have := h2.2.2.2.2.2.2
    omega
  | succ m ih =>
    intro p L I J h1 hi hS hF
    have hi2 := hi
    obtain ⟨t1, t2, t3, t4, t5, t6, t7⟩ := hi
    have hM := hS.1
    refine t_X10_readText_31 _ I J b (ifn hM.nge ((p_look_s (D := D) hN hM).use (ift (mV_isn (k := 59) (by omega) rfl) (fun c1 => ?_) (fun c1 => ?_))))
    · have e0 : txE tp (m + 1) p L = if p < tp.length then .inl p else .inr L := by
        conv => lhs; unfold txE
        rw [if_neg c1]
      rw [e0, hM.2.2.2.2.2.1.1, hM.1]
      refine ifn hM.nge (ifs (fun c2 => ?_) (fun c2 => ?_))
      · rw [iZ_le (by omega) (by omega) (by omega) (by omega)] at c2
        have hpe : p = tp.length := by omega
        rw [if_neg (show ¬ p < tp.length by omega)]
        refine ifp (by rw [hM.2.1]; decide) ?_
        exact w_txS hN hS hi2 hF
      · rw [iZ_le (by omega) (by omega) (by omega) (by omega)] at c2
        rw [if_pos (show p < tp.length by omega)]
        refine (e_faulty_s (D := D) hN hM).mono ?_
        rintro r h ⟨I1, J1, rfl, rfl, rfl, hf1, hm1⟩
        exact RVf.mk (ifn (by rw [Int32.not_lt]; exact hm1.ge hN) (RIf.mk ⟨rfl, e_txF hN hm1 (hF.tr (pMd_l hf1))⟩))
    · have c1 := Classical.not_not.mp c1
      have hlt := chT_lt (tp := tp) (p := p) (by omega)
      have hg := lnE_good hN (p := p + 1) (by omega)
      have e0 : txE tp (m + 1) p L = match lnE tp (p + 1) with
        | .inl f => .inl f
        | .inr (q, l) => txE tp m q (L ++ [l]) := by
        conv => lhs; unfold txE
        rw [if_pos c1]
        cases lnE tp (p + 1) <;> rfl
      have hS1 : LSn (updI I 10 0 21 ((I 10 0 21) + (1 : Int32))) tp (p + 1) L := ⟨hM.go hlt, hS.2.eq (fun s k z => by rw [updI_if, if_neg (by omega)])⟩
      obtain ⟨D', rfl⟩ : ∃ D', D = D' + 1 := ⟨D - 1, by omega⟩
      rw [e0]
      refine (x_mline (D := D' + 1) hN (by omega) hS1 (by omega) (by omega)).mono ?_
      rintro r h ⟨I1, J1, rfl, rfl, rfl, hf1, k1⟩
      have hF1 := (hF.tr (pMd_l pMd_go)).tr hf1
      refine RVf.mk ?_
      cases hx : lnE tp (p + 1) with
      | inl f =>
        rw [hx] at k1
        obtain ⟨q, a, hm1⟩ := k1
        exact hflt I1 J1 f q a hm1 hF1
      | inr w =>
        obtain ⟨q, l⟩ := w
        rw [hx] at k1 hg
        have hq := hg.1
        exact ih q (L ++ [l]) I1 J1 (by omega) (hi2.snoc hg) k1 hF1
theorem x_text (hN : tpOK tp) (hT : TpM I tp) (hD : 90 ≤ D) : Call (D + 1) 164 [vr 10 0, vi 0] (101, I, J, R0 b) (RIf b fun x I' J' => J' = J ∧ TmQ I (tE tp) x I') := by
  have hN1 := hN.1
  obtain ⟨D, rfl⟩ : ∃ D', D = D' + 1 := ⟨D - 1, by omega⟩
  refine t_X10_readText (D := D + 1) _ I J b ?_
  have v : ∀ s i k, ¬ (s = 10 ∧ 21 ≤ k ∧ k ≤ 24) → ¬ (s = 56 ∧ k = 1) → updI (updI (updI (updI (updI I 10 0 21 0) 10 0 22 (-1)) 10 0 23 0) 10 0 24 0) 56 0 1 0 s i k = I s i k := fun s i k z1 z2 => by
    rw [updI_if, if_neg (by omega), updI_if, if_neg (by omega), updI_if, if_neg (by omega), updI_if, if_neg (by omega), updI_if, if_neg (by omega)]
  have a21 : updI (updI (updI (updI (updI I 10 0 21 0) 10 0 22 (-1)) 10 0 23 0) 10 0 24 0) 56 0 1 0 10 0 21 = 0 := by
    rw [updI_if, if_neg (by omega), updI_if, if_neg (by omega), updI_if, if_neg (by omega), updI_if, if_neg (by omega), uI_eq]
  have a22 : updI (updI (updI (updI (updI I 10 0 21 0) 10 0 22 (-1)) 10 0 23 0) 10 0 24 0) 56 0 1 0 10 0 22 = -1 := by
    rw [updI_if, if_neg (by omega), updI_if, if_neg (by omega), updI_if, if_neg (by omega), uI_eq]
  have a23 : updI (updI (updI (updI (updI I 10 0 21 0) 10 0 22 (-1)) 10 0 23 0) 10 0 24 0) 56 0 1 0 10 0 23 = 0 := by
    rw [updI_if, if_neg (by omega), updI_if, if_neg (by omega), uI_eq]
  have a24 : updI (updI (updI (updI (updI I 10 0 21 0) 10 0 22 (-1)) 10 0 23 0) 10 0 24 0) 56 0 1 0 10 0 24 = 0 := by
    rw [updI_if, if_neg (by omega), uI_eq]
  have a56 : updI (updI (updI (updI (updI I 10 0 21 0) 10 0 22 (-1)) 10 0 23 0) 10 0 24 0) 56 0 1 0 56 0 1 = 0 := uI_eq
  generalize updI (updI (updI (updI (updI I 10 0 21 0) 10 0 22 (-1)) 10 0 23 0) 10 0 24 0) 56 0 1 0 = I1 at v a21 a22 a23 a24 a56 ⊢
  have hF0 : Fr pMl I I1 := fun s j k z => by
    refine v _ _ _ (fun z1 => ?_) (fun z1 => ?_)
    · rw [pMl_iff.mpr (by omega)] at z
      cases z
    · rw [pMl_iff.mpr (by omega)] at z
      cases z
  have hS : LSn I1 tp 0 [] := ⟨⟨a21, a22, a23, a24, fun k w hk => (by cases hk), ⟨(v _ _ _ (by omega) (by omega)).trans hT.1, fun k x hk => (v _ _ _ (by omega) (by omega)).trans (hT.2 k x hk)⟩, Nat.zero_le _⟩, ⟨a56, fun k l hk => (by cases hk)⟩⟩
  have hg := lnE_good hN (p := 0) (Nat.zero_le _)
  refine (x_mline (D := D) hN (by omega) hS (by show 0 ≤ 60; omega) (by show 0 ≤ 0; omega)).mono ?_
  rintro r h ⟨I2, J2, rfl, rfl, rfl, hf2, k2⟩
  refine RVf.mk ?_
  have hF2 := hF0.tr hf2
  unfold tE
  cases hx : lnE tp 0 with
  | inl f =>
    rw [hx] at k2
    obtain ⟨q, a, hm⟩ := k2
    exact t_X10_readText_31 _ I2 J2 b (ifp (hm.ge hN) (ifp (hm.ge hN) (ifn (by rw [Int32.not_lt]; exact hm.ge hN) (RIf.mk ⟨rfl, e_txF hN hm hF2⟩))))
  | inr w =>
    obtain ⟨q, l⟩ := w
    rw [hx] at k2 hg
    have hq := hg.1
    exact w_txt (D := D) hN (by omega) 121 q [l] I2 J2 (by omega) (invT.one hg) k2 hF2
theorem XR.law {I' : IM} {b' : Bool} {T : List Nat} {lw : Option (List Ln)} (h : XR g I J b) (hT : TpC I' T) (hL : LwCx b' I' lw) (e : ∀ s j k, ¬ (s = 3 ∨ s = 24 ∨ s = 27 ∨ s = 28) → I' s j k = I s j k) : XR (gLw g T lw) I' J b' := by
  obtain ⟨h1, h2, h3, h4, h5, h6, h7, h8, h9, h10, h11, h12⟩ := h
  exact ⟨h1.eq (fun s k z => e _ _ _ (by omega)), h2.eq (fun s k z => e _ _ _ (by omega)), hT, hL, fun s hs => (h5 s hs).eq (fun k => e _ _ _ (by omega)) (fun _ => rfl), h6.eq (fun s k z => e _ _ _ (by omega)), h7.eq (fun s k z => e _ _ _ (by omega)), h8.eq (fun s k z => e _ _ _ (by omega)) (fun k => e _ _ _ (by omega)), (e _ _ _ (by omega)).trans h9, h10.fr (e _ _ _ (by omega)), h11.fr (e _ _ _ (by omega)), fun d hd => (h12 d hd).eq (fun s k z => e _ _ _ (by omega)) (fun k => e _ _ _ (by omega))⟩
theorem MR.law {I' : IM} {T : List Nat} {lw : Option (List Ln)} (h : MR g I J) (hT : TpM I' T) (hL : LwMx I' lw) (e : ∀ s k, ¬ ((s = 10 ∧ ((20 ≤ k ∧ k ≤ 24) ∨ k = 32)) ∨ (53 ≤ s ∧ s ≤ 58)) → I' s 0 k = I s 0 k) : MR (gLw g T lw) I' J := by
  obtain ⟨h1, h2, h3, h4, h5, h6, h7, h8, ⟨h9, h10⟩, h11, h12⟩ := h
  exact ⟨h1.eq (fun s k z => e _ _ (by omega)), h2.eq (fun s k z => e _ _ (by omega)), hT, hL, fun s hs => (h5 s hs).eq (fun t k z => e _ _ (by omega)) (fun _ => rfl), h6.eq (fun s k z => e _ _ (by omega)), h7.eq (fun s k z => e _ _ (by omega)), h8.eq (fun s k z => e _ _ (by omega)), ⟨(e _ _ (by omega)).trans h9, fun d hd => (h10 d hd).eq (fun s k z => e _ _ (by omega))⟩, (e _ _ (by omega)).trans h11, (e _ _ (by omega)).trans h12⟩
theorem SOK.law {T : List Nat} {lw : Option (List Ln)} (h : SOK g c) (h1 : T.length ≤ 120) (h2 : ∀ x ∈ T, x ≤ 255) : SOK (gLw g T lw) c := by
  obtain ⟨k1, k2, k3, k4⟩ := h
  exact ⟨k1, k2, ⟨h1, h2⟩, k4⟩
theorem LwMx.eq2 {I' : IM} {lw : Option (List Ln)} (h : LwMx I lw) (e : ∀ s k, (s = 10 ∧ k = 32) ∨ ((s = 54 ∨ s = 55) ∧ k < 130) ∨ ((s = 57 ∨ s = 58) ∧ k < 61) ∨ (s = 56 ∧ k = 0) → I' s 0 k = I s 0 k) : LwMx I' lw := by
  cases lw with
  | none => exact (e _ _ (by omega)).trans h
  | some L =>
    obtain ⟨h1, ⟨⟨m0, m1⟩, m2, m3, m4⟩, h3⟩ := h
    refine ⟨(e _ _ (by omega)).trans h1, ⟨⟨m0, fun k w hk => ?_⟩, (e _ _ (by omega)).trans m2, m3, fun L1 l L2 hL => ?_⟩, h3⟩
    · have hk2 : k < (stS L).length := by
        rw [List.getElem?_eq_some_iff] at hk
        exact hk.1
      exact ⟨(e _ _ (by omega)).trans (m1 k w hk).1, (e _ _ (by omega)).trans (m1 k w hk).2⟩
    · have hlt : L1.length < L.length := by
        rw [hL, List.length_append, List.length_cons]
        omega
      exact ⟨(e _ _ (by omega)).trans (m4 L1 l L2 hL).1, (e _ _ (by omega)).trans (m4 L1 l L2 hL).2⟩
theorem m_law (hM : MR g I J) (hO : SOK g c) : Call 900 168 [vr 10 0] (101, I, J, R0 b) (RIf b fun x I' J' => J' = J ∧ Fr pMa I I' ∧ match tE (gT g) with
    | .inl f => x = (-100 : Int32) - iZ (f : Int) ∧ MR (gLw g [] (gL g)) I' J
    | .inr L => x = 1 ∧ MR (gLw g [] (some L)) I' J) := by
  have hN : tpOK (gT g) := hO.2.2.1
  have hN1 := hN.1
  have hgd := tE_good hN
  have hT0 : ∀ I' : IM, I' 10 0 20 = 0 → TpM I' [] := fun I' h => ⟨h, fun k x hk => by cases hk⟩
  refine t_X10_law (D := 899) I J b ((x_text (D := 898) hN hM.2.2.1 (by omega)).useI ?_)
  rintro x I1 J1 ⟨rfl, h20, hfr, hres⟩
  have hFa : ∀ I9, (∀ s i k, ¬ (s = 10) → ¬ (54 ≤ s ∧ s ≤ 58) → I9 s i k = I s i k) → Fr pMa I I9 := fun I9 h9 s i k z => by
    have z : ¬ (s = 10 ∨ 43 ≤ s) := fun y => by
      rw [← pMa_iff (j := i) (k := k), z] at y
      cases y
    exact h9 _ _ _ (by omega) (by omega)
  cases hx : tE (gT g) with
  | inl f =>
    rw [hx] at hres hgd
    have hgd : f ≤ (gT g).length := hgd
    obtain ⟨rfl, hk⟩ := hres
    refine ifn (by rw [i_0]; exact nlt (by omega) (by omega) (by omega)) (RIf.mk ⟨rfl, hFa _ (fun s i k z1 z2 => hfr _ _ _ z2 (by omega)), rfl, hM.law (hT0 _ h20) (hM.lw.eq2 (fun s k z => ?_)) (fun s k z => hfr _ _ _ (by omega) (by omega))⟩)
    by_cases h32 : s = 10 ∧ k = 32
    · exact hfr _ _ _ (by omega) (by omega)
    · exact hk _ _ _ (by omega)
  | inr L =>
    rw [hx] at hres hgd
    obtain ⟨t1, t2, t3, t4, t5, t6, t7⟩ := hgd
    obtain ⟨rfl, hLw⟩ := hres
    refine ifp (by decide) (RIf.mk ⟨rfl, hFa _ (fun s i k z1 z2 => by rw [updI_if, if_neg (by omega)]; exact hfr _ _ _ z2 (by omega)), rfl, hM.law (hT0 _ (by rw [updI_if, if_neg (by omega)]; exact h20)) ⟨uI_eq, hLw.eq (fun s k z => by rw [updI_if, if_neg (by omega)]), fun l hl => (t1 l hl).1⟩ (fun s k z => by rw [updI_if, if_neg (by omega)]; exact hfr _ _ _ (by omega) (by omega))⟩)
theorem op_law : OpW 85 168 [] := by
  intro g c I J b hc hX hM hO
  have hN : tpOK (gT g) := hO.2.2.1
  have hN1 := hN.1
  have hgd := tE_good hN
  have hcn := @csn b
  have hcb := @cs_ne b
  have hne : cs b ≠ cs (!b) := by cases b <;> decide
  refine t_law9 (D := 899) ((x_take (D := 898) hN hX.2.2.1 (by omega)).mono ?_)
  intro r h hq
  have hlw : LwCx b I (gL g) := hX.2.2.2.1
  cases hx : tE (gT g) with
  | inl f =>
    rw [hx] at hq hgd
    have hgd : f ≤ (gT g).length := hgd
    obtain ⟨I1, rfl, rfl, h10, hf⟩ := hq
    have hX1 : XR (gLw g [] (gL g)) I1 J b := hX.law ⟨h10, fun k x hk => (by cases hk)⟩ (hlw.eq (fun s k z => hf _ _ _ (bf_of pTk_iff (by omega)))) (fun s j k z => hf _ _ _ (bf_of pTk_iff (by omega)))
    have hM1 : MR g I1 J := hM.eq (fun s k z => hf _ _ _ (bf_of pTk_iff (by unfold mCe at z; omega))) (fun _ => rfl)
    refine ⟨_, rfl, ifp (by rw [i_0]; exact tle (by omega) (by omega) (by omega)) ⟨_, I1, b, rfl, Or.inl ⟨rfl, rfl⟩, (m_law hM1 hO).useI ?_⟩⟩
    rintro x I2 J2 ⟨rfl, hfa, hres⟩
    rw [hx] at hres
    obtain ⟨rfl, hM2⟩ := hres
    exact ⟨rfl, _, hX1.frM hfa (fun _ _ _ => rfl), hM2, (hO.up hc).law (by show 0 ≤ 120; omega) (fun x hx => by cases hx)⟩
  | inr L =>
    rw [hx] at hq hgd
    obtain ⟨t1, t2, t3, t4, t5, t6, t7⟩ := hgd
    obtain ⟨I1, rfl, rfl, h10, h6, hcd, hf⟩ := hq
    have hX1 : XR (gLw g [] (some L)) I1 J (!b) := hX.law ⟨h10, fun k x hk => (by cases hk)⟩ ⟨⟨h6, by omega, hcd⟩, by omega, fun l hl => (t1 l hl).1⟩ (fun s j k z => hf _ _ _ (by omega) (bf_of pTk_iff (by omega)))
    have hM1 : MR g I1 J := hM.eq (fun s k z => hf _ _ _ (by unfold mCe at z; omega) (bf_of pTk_iff (by unfold mCe at z; omega))) (fun _ => rfl)
    refine ⟨_, rfl, ifn (by decide) ⟨_, I1, !b, rfl, Or.inr ⟨rfl, rfl⟩, (m_law hM1 hO).useI ?_⟩⟩
    rintro x I2 J2 ⟨rfl, hfa, hres⟩
    rw [hx] at hres
    obtain ⟨rfl, hM2⟩ := hres
    exact ⟨rfl, _, hX1.frM hfa (fun _ _ _ => rfl), hM2, (hO.up hc).law (by show 0 ≤ 120; omega) (fun x hx => by cases hx)⟩
end LAWO
