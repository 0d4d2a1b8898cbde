/-! THE CLASS'S WORK: what it does -/
theorem Call.useI {D y : Nat} {as : List AV} {h : AH} {b : Bool} {T T' : Int32 → IM → JM → Prop} (c : Call D y as h (RIf b T)) (k : ∀ x I J, T x I J → T' x I J) : Call D y as h (RIf b T') := c.mono (by
  rintro r h ⟨x, I, J, h1, h2, t⟩
  exact ⟨x, I, J, h1, h2, k x I J t⟩)
theorem Call.useV {D y : Nat} {as : List AV} {h : AH} {b : Bool} {T T' : IM → JM → Prop} (c : Call D y as h (RVf b T)) (k : ∀ I J, T I J → T' I J) : Call D y as h (RVf b T') := c.mono (by
  rintro r h ⟨I, J, h1, h2, t⟩
  exact ⟨I, J, h1, h2, k I J t⟩)
theorem RIf.mk {b : Bool} {T : Int32 → IM → JM → Prop} {x : Int32} {I : IM} {J : JM} (t : T x I J) : RIf b T (some (vi x)) (101, I, J, R0 b) := ⟨x, I, J, rfl, rfl, t⟩
theorem RVf.mk {b : Bool} {T : IM → JM → Prop} {I : IM} {J : JM} (t : T I J) : RVf b T none (101, I, J, R0 b) := ⟨I, J, rfl, rfl, t⟩
def pW (w : Nat) (s j k : Nat) : Bool := Nat.beq j w && ((Nat.beq s 8 && Nat.ble 9 k) || (Nat.ble 30 s && Nat.ble s 35))
theorem WkR.fr {w r : Nat} {I I' : IM} (h : WkR w r I) (hf : I' 8 w 2 = I 8 w 2) : WkR w r I' := by
  obtain ⟨a1, a2, a3, a4, a5, a6, a7, a8⟩ := h
  exact ⟨a1, a2, a3, a4, a5, a6, hf.trans a7, a8⟩
theorem snoc_at {α : Type} {E : List α} {e x : α} {k : Nat} (h : (E ++ [e])[k]? = some x) : (E[k]? = some x ∧ k < E.length) ∨ (k = E.length ∧ x = e) := by
  have hk : k < (E ++ [e]).length := (List.getElem?_eq_some_iff.mp h).1
  simp at hk
  rcases Nat.lt_or_ge k E.length with h1 | h1
  · rw [List.getElem?_append_left h1] at h
    exact Or.inl ⟨h, h1⟩
  · have : k = E.length := by omega
    subst this
    simp at h
    exact Or.inr ⟨rfl, h.symm⟩
theorem WkAt.frame {w r f nw : Nat} {I I' : IM} {E : List En} (h : WkAt w r I E f nw) (h1 : ∀ s k, (s = 8 ∨ 30 ≤ s ∧ s ≤ 35) → I' s w k = I s w k) : WkAt w r I' E f nw := by
  obtain ⟨a1, a2, a3, a4, a5, a6, a7⟩ := h
  refine ⟨a1.fr (h1 _ _ (Or.inl rfl)), (h1 _ _ (Or.inl rfl)).trans a2, (h1 _ _ (Or.inl rfl)).trans a3, (h1 _ _ (Or.inl rfl)).trans a4, (h1 _ _ (Or.inl rfl)).trans a5, ?_, a7⟩
  intro k e hk
  obtain ⟨b1, b2, b3, b4, b5, b6⟩ := a6 k e hk
  exact ⟨(h1 _ _ (Or.inr (by omega))).trans b1, (h1 _ _ (Or.inr (by omega))).trans b2, (h1 _ _ (Or.inr (by omega))).trans b3, (h1 _ _ (Or.inr (by omega))).trans b4, (h1 _ _ (Or.inr (by omega))).trans b5, (h1 _ _ (Or.inr (by omega))).trans b6⟩
def wkUp (w : Nat) (I : IM) (k : Nat) (a1 a2 a3 a4 a5 a6 a7 a8 : Int32) : IM := updI (updI (updI (updI (updI (updI (updI (updI (updI I 30 w k a1) 31 w k a2) 32 w k a3) 33 w k a4) 34 w k a5) 35 w k a6) 8 w 10 a7) 8 w 11 a8) 8 w 12 a3
theorem wkUp_at {w r f nw : Nat} {I : IM} {E : List En} (h : WkAt w r I E f nw) (e : En) (hr : E.length < r) (h7 : ∀ x ∈ E, xj x < 7) (hj : xj e < 7) : WkAt w r (wkUp w I E.length (iZ (xj e : Int)) (iZ (xg e : Int)) (iZ (xf e : Int)) (iZ (xs e : Int)) (iZ (xh e : Int)) (iZ (xc e : Int)) (iZ (E.length : Int) + 1) (iZ (bs (E.drop f) : Int) ||| ((1 : Int32) <<< (iZ (xj e : Int) &&& 31)))) (E ++ [e]) f (xf e) := by
  obtain ⟨a1, a2, a3, a4, a5, a6, a7, a8⟩ := h
  have hd : (E ++ [e]).drop f = E.drop f ++ [e] := by rw [List.drop_append_of_le_length a8]
  refine ⟨a1.fr ?_, ?_, ?_, ?_, ?_, ?_, by simp; omega, by simp; omega⟩
  · simp [wkUp, updI_if]
  · simp only [wkUp, updI_if]
    simp [iZ_s]
  · simp only [wkUp, updI_if]
    simpa using a3
  · simp only [wkUp, updI_if]
    simp only [hd, bs_app]
    exact ob_bit (bs_lt (fun x hx => h7 x (List.mem_of_mem_drop hx))) hj
  · simp [wkUp, updI_if]
  · intro k x hk
    rcases snoc_at hk with ⟨h1, h2⟩ | ⟨h1, h2⟩
    · have h3 : k ≠ E.length := by omega
      simp only [wkUp, updI_if]
      simpa [h3] using a6 k x h1
    · subst h1 h2
      simp [wkUp, updI_if]
theorem wkUp_fr {w : Nat} {I : IM} {k : Nat} {a1 a2 a3 a4 a5 a6 a7 a8 : Int32} : Fr (pW w) I (wkUp w I k a1 a2 a3 a4 a5 a6 a7 a8) := by
  unfold wkUp
  refine Fr.upd (Fr.upd (Fr.upd (Fr.upd (Fr.upd (Fr.upd (Fr.upd (Fr.upd (Fr.upd Fr.id ?_) ?_) ?_) ?_) ?_) ?_) ?_) ?_) ?_ <;> simp [pW]
section WORK
variable {D w r f nw m : Nat} {I : IM} {J : JM} {b : Bool} {E : List En} {P : Pa}
/-- what fitting does -/
def FaT (P : Pa) (w r : Nat) (I : IM) (J : JM) (E : List En) (f : Nat) (o : Option En) (x : Int32) (I' : IM) (J' : JM) : Prop := J' = J ∧ match o with
  | none => x = 0 ∧ I' = I
  | some e => x = 1 ∧ WkAt w r I' (E ++ [e]) f (xf e) ∧ Fr (pW w) I I'
theorem w_137 {Q : Option AV → AH → Prop} (h : Q (some (vi 0)) (101, I, J, R0 b)) : WP D 66 137 [vn, vn, vn, vn, vn, vn, vn, vn] [] (101, I, J, R0 b) Q := by
  refine WP.blk (pc' := 138) (L' := [vn, vn, vn, vn, vn, vn, vn, vn]) (st' := [vi 0]) (h' := (101, I, J, R0 b)) 1 rfl ?_
  exact WP.ret rfl rfl h
theorem w_139 {e : En} {held : Nat} {bc : Bool} (hW : WkAt w r I E f nw) (hr : E.length < r) (h7 : ∀ x ∈ E, xj x < 7) (hj : xj e < 7) (h5 : xh e = if bc then 0 else held) (h6 : xc e = if bc then 1 else 0) {x : Int32} (hx : x = bI bc) : WP D 66 139 [vr 8 w, vi (iZ (xj e : Int)), vi (iZ (xg e : Int)), vn, vi (iZ (xf e : Int)), vi (iZ (xs e : Int)), vi (iZ (held : Int)), vi x] [] (101, I, J, R0 b) (RIf b (FaT P w r I J E f (some e))) := by
  have hW2 := hW
  obtain ⟨⟨g30, g31, g32, g33, g34, g35, gr, gr2⟩, hl, hf, hbs, hn, hE, hr2, hfl⟩ := hW2
  have hat := wkUp_at hW e hr h7 hj
  refine t_X8_fasten_139 w _ _ _ _ _ _ I J b ?_
  rw [hl, hbs, iZ_ck (by omega), g30, g31, g32, g33, g34, g35]
  have hv : vp_in (iZ (E.length : Int)) r := vp_iZ (by omega) (by omega) (by omega)
  refine ⟨hv, hv, hv, hv, ?_⟩
  subst hx
  cases bc
  · refine ifp rfl ⟨hv, ifp rfl ⟨hv, RIf.mk ⟨rfl, rfl, ?_, ?_⟩⟩⟩
    · rw [h5, h6] at hat
      exact hat
    · exact wkUp_fr
  · refine ifn (by decide) ⟨hv, ifn (by decide) ⟨hv, RIf.mk ⟨rfl, rfl, ?_, ?_⟩⟩⟩
    · rw [h5, h6] at hat
      exact hat
    · exact wkUp_fr
theorem e_fasten {j st mi : Nat} (hW : WkAt w r I E f nw) (hB : BeAt I P) (hS : ShAt I P) (hP : PaOK P) (hG : Gd P E nw) (hj : j < pn P) (hr : E.length < r) (hn : E.length - f < pn P) (hb : st + mi ≤ 950000) : Call (D + 3) 66 [vr 8 w, vi (iZ (j : Int)), vi (iZ (st : Int)), vi (iZ (mi : Int))] (101, I, J, R0 b) (RIf b (FaT P w r I J E f (fas P E f j st mi))) := by
  have hx : ∀ e ∈ E, xs e ≤ 1000000 := fun e he => hG.xle he
  have h7 : ∀ e ∈ E, xj e < 7 := fun e he => (hG.1 e he).1
  have hh : ∀ e ∈ E, xh e ≤ 2 := fun e he => (hG.1 e he).2.2.2.2.1
  have hcc : ∀ e ∈ E, xc e ≤ 1 := fun e he => (hG.1 e he).2.2.2.2.2
  have hW2 := hW
  obtain ⟨⟨g30, g31, g32, g33, g34, g35, gr, gr2⟩, hl, hf, hbs, hnn, hE, hr2, hfl⟩ := hW2
  have hha := hAt_le (c := 2) hh (st + mi)
  have hca := cAt_le (c := 1) hcc (st + mi)
  obtain ⟨p1, p2, p3, p4⟩ := hP
  obtain ⟨q0, q1, q2, q3, q4, q5, q6⟩ := p4 j hj
  have q6 := q6 _ hn
  have htil : tilF P E f j (st + mi) ≤ 1000000 := by unfold tilF; split <;> omega
  have hhld : hldF P E f j (st + mi) ≤ 2 := by unfold hldF; split <;> omega
  have e1 : iZ (st : Int) + iZ (mi : Int) = iZ ((st + mi : Nat) : Int) := by rw [iZ_add]; rfl
  have h139 : ∀ (bc : Bool) (x : Int32), x = bI bc → clmF P E f j (st + mi) = bc → (bc = true ∨ hldF P E f j (st + mi) = 0 ∨ hAt E (st + mi) + hldF P E f j (st + mi) ≤ pH P) → WP (D + 2) 66 139 [vr 8 w, vi (iZ (j : Int)), vi (iZ (st : Int)), vn, vi (iZ ((st + mi : Nat) : Int)), vi (iZ (tilF P E f j (st + mi) : Int)), vi (iZ (hldF P E f j (st + mi) : Int)), vi x] [] (101, I, J, R0 b) (RIf b (FaT P w r I J E f (fas P E f j st mi))) := by
    intro bc x hxx hbc hok
    have : fas P E f j st mi = some (j, st, st + mi, tilF P E f j (st + mi), if clmF P E f j (st + mi) then 0 else hldF P E f j (st + mi), if clmF P E f j (st + mi) then 1 else 0) := by
      unfold fas
      rw [if_neg]
      rintro ⟨z1, z2, z3⟩
      rcases hok with z | z | z
      · rw [hbc, z] at z1; cases z1
      · omega
      · omega
    rw [this]
    exact w_139 (e := (j, st, st + mi, tilF P E f j (st + mi), if clmF P E f j (st + mi) then 0 else hldF P E f j (st + mi), if clmF P E f j (st + mi) then 1 else 0)) (bc := bc) hW hr h7 (by show j < 7; omega) (by rw [hbc]; rfl) (by rw [hbc]; rfl) hxx
  have h102 : clmF P E f j (st + mi) = false → WP (D + 2) 66 102 [vr 8 w, vi (iZ (j : Int)), vi (iZ (st : Int)), vn, vi (iZ ((st + mi : Nat) : Int)), vi (iZ (tilF P E f j (st + mi) : Int)), vi (iZ (hldF P E f j (st + mi) : Int)), vn] [] (101, I, J, R0 b) (RIf b (FaT P w r I J E f (fas P E f j st mi))) := by
    intro hbc
    refine t_X8_fasten_102 w _ _ _ _ _ I J b ?_
    rw [gr, hl]
    refine ifn (nle (by omega) (by omega) (by omega)) (ifs (fun c => ?_) (fun c => ?_))
    · rw [i_0, iZ_le (by omega) (by omega) (by omega) (by omega)] at c
      exact h139 false 0 rfl hbc (Or.inr (Or.inl (by omega)))
    · rw [i_0, iZ_le (by omega) (by omega) (by omega) (by omega)] at c
      refine (p_handsFree hW hS hx (by omega)).use ?_
      refine ifs (fun c2 => ?_) (fun c2 => ?_)
      · rw [iZ_le (by omega) (by omega) (by omega) (by omega)] at c2
        exact h139 false 0 rfl hbc (Or.inr (Or.inr (by omega)))
      · rw [iZ_le (by omega) (by omega) (by omega) (by omega)] at c2
        have : fas P E f j st mi = none := by
          unfold fas
          rw [if_pos ⟨hbc, by omega, by omega⟩]
        rw [this]
        exact w_137 (RIf.mk ⟨rfl, rfl, rfl⟩)
  have hcl : hldF P E f j (st + mi) = pT P j 2 → Call (D + 2) 11 [vr 1 0, vi (iZ (j : Int)), vi 2] (101, I, J, R0 b) (RIf b fun x4 I5 J6 => 
     (if x4 ≤ 0 then WP (D + 2) 66 102 [vr 8 w, vi (iZ (j : Int)), vi (iZ (st : Int)), vn, vi (iZ ((st + mi : Nat) : Int)), vi (iZ (tilF P E f j (st + mi) : Int)), vi x4, vn] [] (101, I5, J6, R0 b) (RIf b (FaT P w r I J E f (fas P E f j st mi)))
     else 
      (Call (D + 2) 11 [vr 1 0, vi (iZ (j : Int)), vi 3] (101, I5, J6, R0 b) (RIf b fun x7 I8 J9 => 
       (if ¬ x7 = (1 : Int32) then WP (D + 2) 66 102 [vr 8 w, vi (iZ (j : Int)), vi (iZ (st : Int)), vn, vi (iZ ((st + mi : Nat) : Int)), vi (iZ (tilF P E f j (st + mi) : Int)), vi x4, vn] [] (101, I8, J9, R0 b) (RIf b (FaT P w r I J E f (fas P E f j st mi)))
       else 
        (Call (D + 2) 70 [vr 8 w, vi (iZ ((st + mi : Nat) : Int))] (101, I8, J9, R0 b) (RIf b fun x10 I11 J12 => 
         (if (I11 7 0 4) ≤ x10 then WP (D + 2) 66 102 [vr 8 w, vi (iZ (j : Int)), vi (iZ (st : Int)), vn, vi (iZ ((st + mi : Nat) : Int)), vi (iZ (tilF P E f j (st + mi) : Int)), vi x4, vn] [] (101, I11, J12, R0 b) (RIf b (FaT P w r I J E f (fas P E f j st mi)))
         else 
          (if (I11 8 w 2) ≤ (I11 8 w 10) then WP (D + 2) 66 137 [vn, vn, vn, vn, vn, vn, vn, vn] [] (101, I11, J12, R0 b) (RIf b (FaT P w r I J E f (fas P E f j st mi)))
          else WP (D + 2) 66 139 [vr 8 w, vi (iZ (j : Int)), vi (iZ (st : Int)), vn, vi (iZ ((st + mi : Nat) : Int)), vi (iZ (tilF P E f j (st + mi) : Int)), vi x4, vi 1] [] (101, I11, J12, R0 b) (RIf b (FaT P w r I J E f (fas P E f j st mi)))))))))))) := by
    intro hh2
    refine (p_num hB ⟨p1, p2, p3, p4⟩ (x := 2) (q := 2) rfl hj (by omega)).use ?_
    rw [← hh2]
    refine ifs (fun c => ?_) (fun c => ?_)
    · rw [i_0, iZ_le (by omega) (by omega) (by omega) (by omega)] at c
      refine h102 ?_
      unfold clmF
      rw [decide_eq_false (by omega)]
      rfl
    · rw [i_0, iZ_le (by omega) (by omega) (by omega) (by omega)] at c
      refine (p_num hB ⟨p1, p2, p3, p4⟩ (x := 3) (q := 3) rfl hj (by omega)).use ?_
      refine ifs (fun c2 => ?_) (fun c2 => ?_)
      · rw [i_1, iZ_eq (by omega) (by omega) (by omega) (by omega)] at c2
        refine h102 ?_
        unfold clmF
        rw [decide_eq_false (p := pT P j 3 = 1) (by omega), Bool.false_and, Bool.and_false]
      · have c2 := Classical.not_not.mp c2
        rw [i_1, iZ_eq (by omega) (by omega) (by omega) (by omega)] at c2
        refine (p_clampsUsed hW hx (by omega)).use ?_
        rw [hS.2.1, gr, hl]
        refine ifs (fun c3 => ?_) (fun c3 => ?_)
        · rw [iZ_le (by omega) (by omega) (by omega) (by omega)] at c3
          refine h102 ?_
          unfold clmF
          rw [decide_eq_false (p := cAt E (st + mi) < pC P) (by omega), Bool.and_false, Bool.and_false]
        · rw [iZ_le (by omega) (by omega) (by omega) (by omega)] at c3
          refine ifn (nle (by omega) (by omega) (by omega)) ?_
          refine h139 true 1 rfl ?_ (Or.inl rfl)
          unfold clmF
          rw [decide_eq_true (p := cAt E (st + mi) < pC P) (by omega), decide_eq_true (p := pT P j 3 = 1) (by omega), decide_eq_true (by omega)]
          rfl
  refine t_X8_fasten w _ _ _ I J b ?_
  rw [hS.2.2.1, hl, hf, e1, iZ_sub]
  cases hN : pN P
  · refine ifp rfl ?_
    have e2 : ((E.length : Int) - (f : Int)) = ((E.length - f : Nat) : Int) := by omega
    rw [e2]
    refine (p_minutesOf hS ⟨p1, p2, p3, p4⟩ hj hn).use ?_
    have e3 : iZ ((st + mi : Nat) : Int) + iZ (pM P j (E.length - f) : Int) = iZ (tilF P E f j (st + mi) : Int) := by
      rw [iZ_add]
      unfold tilF
      rw [hN]
      rfl
    rw [e3]
    refine ifs (fun c => ?_) (fun c => ?_)
    · rw [iZ_le (by omega) (by omega) (by omega) (by omega)] at c
      have hz : hldF P E f j (st + mi) = 0 := by
        unfold hldF
        rw [if_neg (by omega)]
      rw [show (0 : Int32) = iZ (hldF P E f j (st + mi) : Int) by rw [hz]; rfl]
      refine h102 ?_
      unfold clmF
      rw [hz]
      rfl
    · rw [iZ_le (by omega) (by omega) (by omega) (by omega)] at c
      exact hcl (by unfold hldF; rw [if_pos (by omega)])
  · refine ifn (by decide) ?_
    have e3 : tilF P E f j (st + mi) = 1000000 := by
      unfold tilF
      rw [hN]
      rfl
    have e4 : (1000000 : Int32) = iZ (tilF P E f j (st + mi) : Int) := by rw [e3]; rfl
    rw [e4]
    refine ifn (nle (by omega) (by omega) (by omega)) ?_
    exact hcl (by unfold hldF; rw [if_pos (by omega)])
theorem e_join {j : Nat} (hW : WkAt w r I E f nw) (hB : BeAt I P) (hS : ShAt I P) (hP : PaOK P) (hG : Gd P E nw) (hj : j < pn P) (hr : E.length < r) (hn : E.length - f < pn P) : Call (D + 4) 64 [vr 8 w, vi (iZ (j : Int))] (101, I, J, R0 b) (RIf b (FaT P w r I J E f (joi P E f nw j))) := by
  refine t_X8_join w _ I J b ?_
  refine (p_beginning hW hB hS hP hG hj).use ?_
  unfold joi
  cases hb : beg P E f nw j with
  | none => exact ifp (by decide) (RIf.mk ⟨rfl, rfl, rfl⟩)
  | some m =>
    obtain ⟨a1, a2, _⟩ := beg_some hG hb
    have h2 := hG.2
    have h3 := (hP.2.2.2 j hj).1
    dsimp only
    rw [show oI (some m) = iZ (m : Int) from rfl]
    refine ifn (by rw [i_0]; exact nlt (by omega) (by omega) (by omega)) ?_
    refine (p_num hB hP (x := 0) (q := 0) rfl hj (by omega)).use ?_
    refine (e_fasten hW hB hS hP hG hj hr hn (by omega)).useI ?_
    intro x I1 J1 h
    cases ho : fas P E f j m (pT P j 0) with
    | none =>
      rw [ho] at h
      obtain ⟨rfl, rfl, rfl⟩ := h
      exact ifp rfl (RIf.mk ⟨rfl, rfl, rfl⟩)
    | some e =>
      rw [ho] at h
      obtain ⟨rfl, rfl, h1⟩ := h
      exact ifn (by decide) (RIf.mk ⟨rfl, rfl, h1⟩)
end WORK
