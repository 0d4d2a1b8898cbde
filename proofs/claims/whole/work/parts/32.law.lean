/-! THE LAW WORKED OUT: lines; how many minutes, in the class and in the model -/
abbrev Ln : Type := Option (List Nat) × List Nat
def evV (fc : Nat → Int32) (T : List Nat) : Int32 := match evT fc T [] with
  | some (v :: _) => v
  | _ => 0
def wfT (T : List Nat) : Prop := (∀ w ∈ T, tkOK w) ∧ T.length ≤ 121 ∧ ∀ fc s, evT fc T s = some (evV fc T :: s)
def wfL (l : Ln) : Prop := (match l.1 with
  | none => True
  | some c => wfT c) ∧ wfT l.2
def evL (fc : Nat → Int32) : List Ln → Int32
  | [] => 0
  | l :: L => match l.1 with
    | none => evV fc l.2
    | some c => if evV fc c = 0 then evL fc L else evV fc l.2
/-- the class's code of a line that begins at a place; of lines -/
def lnC (st : Nat) (l : Ln) : List Nat := match l.1 with
  | none => l.2 ++ [59]
  | some c => c ++ ([63, st + c.length + 2 + l.2.length + 1] ++ (l.2 ++ [59]))
def cC : Nat → List Ln → List Nat
  | _, [] => []
  | st, l :: L => lnC st l ++ cC (st + (lnC st l).length) L
/-- the model's steps -/
def lnS (l : Ln) : List Nat := l.1.getD [] ++ l.2
def stS (L : List Ln) : List Nat := L.flatMap lnS
theorem at_mid {α : Type} {C pre T post : List α} (h : C = pre ++ (T ++ post)) : ∀ k, k < T.length → C[pre.length + k]? = T[k]? := by
  intro k hk
  subst h
  rw [List.getElem?_append_right (by omega), List.getElem?_append_left (by omega)]
  congr 1
  omega
theorem wf_ne {T : List Nat} (h : wfT T) : T ≠ [] := by
  rintro rfl
  have := h.2.2 (fun _ => 0) []
  cases this
def LwM (I : IM) (L : List Ln) : Prop := AcAt I (stS L) ∧ I 56 0 0 = iZ (L.length : Int) ∧ L.length ≤ 61 ∧ ∀ L1 l L2, L = L1 ++ l :: L2 → I 57 0 L1.length = iZ (((stS L1).length + (l.1.getD []).length : Nat) : Int) ∧ I 58 0 L1.length = iZ (((stS L1).length + (lnS l).length : Nat) : Int)
theorem vp02 : vp_in 0 2 := by
  rw [i_0]
  exact vp_iZ (by omega) (by omega) (by omega)
section LAWV
variable {D : Nat} {I : IM} {J : JM} {b : Bool}
theorem w_lines {fc : Nat → Int32} {C : List Nat} {I0 : IM} : ∀ (L : List Ln) (pre : List Nat) (I : IM), C = pre ++ cC pre.length L → (∀ l ∈ L, wfL l) → CdAt b I C → FcAt 26 I fc → Fr pSk I0 I → WP (D + 3) 30 4 [vr 3 0, vi (iZ (0 : Int)), vi (iZ (pre.length : Int)), vn, vn] [] (101, I, J, R0 b) (RIf b fun x I' J' => x = evL fc L ∧ J' = J ∧ Fr pSk I0 I')
  | [], pre, I, hc, hw, hC, hF, hf => by
    have hl : C.length = pre.length := by rw [hc]; simp [cC]
    have hC2 := hC.2.1
    refine t_wo4 _ _ I J b ?_
    rw [hC.1]
    exact ifp (tle (by omega) (by omega) (by omega)) (RIf.mk ⟨rfl, rfl, hf⟩)
  | l :: L, pre, I, hc, hw, hC, hF, hf => by
    have hC2 := hC.2.1
    obtain ⟨w1, w2⟩ := hw l (by simp)
    obtain ⟨b1, b2, b3⟩ := w2
    -- the line's body, from a place on
    have hbody : ∀ (pr po : List Nat) (I1 : IM), C = pr ++ ((l.2 ++ [59]) ++ po) → CdAt b I1 C → FcAt 26 I1 fc → Fr pSk I0 I1 → WP (D + 3) 30 4 [vr 3 0, vi (iZ (0 : Int)), vi (iZ (pr.length : Int)), vn, vn] [] (101, I1, J, R0 b) (RIf b fun x I' J' => x = evV fc l.2 ∧ J' = J ∧ Fr pSk I0 I') := by
      intro pr po I1 hpr hC1 hF1 hf1
      refine w_evC (fc := fc) (C := C) l.2 pr.length [] [evV fc l.2] I1 (at_mid (post := [59] ++ po) (by rw [hpr]; simp)) b1 (b3 fc []) (by simp; omega) hC1 hF1 StAt.nil (fun I2 hf2 hs2 => ?_)
      have h59 : C[pr.length + l.2.length]? = some 59 := by
        have := at_mid (C := C) (pre := pr ++ l.2) (T := [59]) (post := po) (by rw [hpr]; simp) 0 (by simp)
        simpa using this
      have hil := (List.getElem?_eq_some_iff.mp h59).1
      have hC3 := hC1.fr hf2
      refine t_wo4 _ _ I2 J b ?_
      rw [hC3.1, iZ_ck (by omega), hC3.2.2 _ _ h59]
      refine ifn (nle (by omega) (by omega) (by omega)) ⟨vp_iZ (by omega) (by omega) (by omega), ?_⟩
      refine ifp (by decide) ?_
      refine ifp (by show (1 : Int32) ≤ iZ ((0 + 1 : Nat) : Int); decide) (ifn (fun z => z rfl) ?_)
      have e1 : iZ (([evV fc l.2].length : Nat) : Int) - (1 : Int32) = iZ ((0 : Nat) : Int) := z_1 0
      rw [e1, iZ_ck (by omega)]
      refine ⟨vp_iZ (by omega) (by omega) (by omega), RIf.mk ⟨hs2.top, rfl, hf1.tr hf2⟩⟩
    unfold cC at hc
    cases hl1 : l.1 with
    | none =>
      have e : lnC pre.length l = l.2 ++ [59] := by unfold lnC; rw [hl1]
      rw [e] at hc
      refine (hbody pre _ I hc hC hF hf).mono ?_
      rintro r h ⟨x, I2, J2, rfl, rfl, rfl, rfl, h3⟩
      refine RIf.mk ⟨?_, rfl, h3⟩
      simp only [evL, hl1]
    | some c =>
      rw [hl1] at w1
      obtain ⟨c1, c2, c3⟩ := w1
      have e : lnC pre.length l = c ++ ([63, pre.length + c.length + 2 + l.2.length + 1] ++ (l.2 ++ [59])) := by unfold lnC; rw [hl1]
      rw [e] at hc
      have hclen : C.length = pre.length + (c.length + (2 + (l.2.length + 1))) + (cC (pre.length + (c ++ ([63, pre.length + c.length + 2 + l.2.length + 1] ++ (l.2 ++ [59]))).length) L).length := by
        rw [hc]
        simp
        omega
      refine w_evC (fc := fc) (C := C) c pre.length [] [evV fc c] I (at_mid (post := [63, pre.length + c.length + 2 + l.2.length + 1] ++ (l.2 ++ [59]) ++ cC (pre.length + (c ++ ([63, pre.length + c.length + 2 + l.2.length + 1] ++ (l.2 ++ [59]))).length) L) (by rw [hc]; simp)) c1 (c3 fc []) (by simp; omega) hC hF StAt.nil (fun I2 hf2 hs2 => ?_)
      have hC3 := hC.fr hf2
      have h63 : C[pre.length + c.length]? = some 63 := by
        have := at_mid (C := C) (pre := pre ++ c) (T := [63]) (post := [pre.length + c.length + 2 + l.2.length + 1] ++ (l.2 ++ [59]) ++ cC (pre.length + (c ++ ([63, pre.length + c.length + 2 + l.2.length + 1] ++ (l.2 ++ [59]))).length) L) (by rw [hc]; simp) 0 (by simp)
        simpa using this
      have htg : C[pre.length + c.length + 1]? = some (pre.length + c.length + 2 + l.2.length + 1) := by
        have := at_mid (C := C) (pre := pre ++ c ++ [63]) (T := [pre.length + c.length + 2 + l.2.length + 1]) (post := (l.2 ++ [59]) ++ cC (pre.length + (c ++ ([63, pre.length + c.length + 2 + l.2.length + 1] ++ (l.2 ++ [59]))).length) L) (by rw [hc]; simp) 0 (by simp)
        simpa [Nat.add_assoc] using this
      refine t_wo4 _ _ I2 J b ?_
      rw [hC3.1, iZ_ck (by omega), hC3.2.2 _ _ h63]
      refine ifn (nle (by omega) (by omega) (by omega)) ⟨vp_iZ (by omega) (by omega) (by omega), ?_⟩
      refine ifp (by decide) ?_
      refine ifp (by show (1 : Int32) ≤ iZ ((0 + 1 : Nat) : Int); decide) (ifp (by decide) (ifn (fun z => z rfl) ?_))
      have e1 : iZ (([evV fc c].length : Nat) : Int) + (-1) = iZ ((0 : Nat) : Int) := z_m1 0
      have e2 : iZ ((pre.length + c.length : Nat) : Int) + (1 : Int32) = iZ ((pre.length + c.length + 1 : Nat) : Int) := iZ_s _
      rw [e1, e2, iZ_ck (by omega), iZ_ck (by omega), hC3.2.2 _ _ htg, show I2 25 0 0 = evV fc c from hs2.top, z_1]
      refine ifn (nle (by omega) (by omega) (by omega)) ⟨vp_iZ (by omega) (by omega) (by omega), vp_iZ (by omega) (by omega) (by omega), ?_⟩
      refine ifs (fun cc => ?_) (fun cc => ?_)
      · rw [iZ_s]
        have hb := hbody (pre ++ c ++ [63, pre.length + c.length + 2 + l.2.length + 1]) (cC (pre.length + (c ++ ([63, pre.length + c.length + 2 + l.2.length + 1] ++ (l.2 ++ [59]))).length) L) I2 (by rw [hc]; simp) hC3 (hF.fr hf2) (hf.tr hf2)
        have e3 : (pre ++ c ++ [63, pre.length + c.length + 2 + l.2.length + 1]).length = pre.length + c.length + 1 + 1 := by simp; omega
        rw [e3] at hb
        refine hb.mono ?_
        rintro r h ⟨x, I3, J3, rfl, rfl, rfl, rfl, h3⟩
        refine RIf.mk ⟨?_, rfl, h3⟩
        simp only [evL, hl1]
        rw [if_neg cc]
      · have cc := Classical.not_not.mp cc
        have e4 : (if iZ ((pre.length + c.length : Nat) : Int) < iZ ((pre.length + c.length + 2 + l.2.length : Nat) : Int) then iZ ((pre.length + c.length + 2 + l.2.length : Nat) : Int) else iZ ((pre.length + c.length : Nat) : Int)) = iZ ((pre.length + c.length + 2 + l.2.length : Nat) : Int) := if_pos (tlt (by omega) (by omega) (by omega))
        rw [e4, iZ_s]
        have e5 : (pre ++ (c ++ ([63, pre.length + c.length + 2 + l.2.length + 1] ++ (l.2 ++ [59])))).length = pre.length + c.length + 2 + l.2.length + 1 := by simp; omega
        have e6 : pre.length + (c ++ ([63, pre.length + c.length + 2 + l.2.length + 1] ++ (l.2 ++ [59]))).length = pre.length + c.length + 2 + l.2.length + 1 := by simp; omega
        have hn := w_lines (fc := fc) (I0 := I0) L (pre ++ (c ++ ([63, pre.length + c.length + 2 + l.2.length + 1] ++ (l.2 ++ [59])))) I2 (by rw [e5]; rw [e6] at hc; rw [hc]; simp) (fun x hx => hw x (by simp [hx])) hC3 (hF.fr hf2) (hf.tr hf2)
        rw [e5] at hn
        refine hn.mono ?_
        rintro r h ⟨x, I3, J3, rfl, rfl, rfl, rfl, h3⟩
        refine RIf.mk ⟨?_, rfl, h3⟩
        simp only [evL, hl1]
        rw [if_pos cc]
theorem e_workOut {fc : Nat → Int32} {L : List Ln} (hw : ∀ l ∈ L, wfL l) (hC : CdAt b I (cC 0 L)) (hF : FcAt 26 I fc) : Call (D + 4) 30 [vr 3 0] (101, I, J, R0 b) (RIf b fun x I' J' => x = evL fc L ∧ J' = J ∧ Fr pSk I I') := by
  cases b
  · refine t_X3_workOut_f I J ?_
    exact w_lines (C := cC 0 L) L [] I rfl hw hC hF Fr.id
  · refine t_X3_workOut_t I J ?_
    exact w_lines (C := cC 0 L) L [] I rfl hw hC hF Fr.id
theorem e_worked {fc : Nat → Int32} {S T : List Nat} {i e : Nat} (he : e ≤ 130) (hie : i + T.length = e) (hT : ∀ k, k < T.length → S[i + k]? = T[k]?) (hw : wfT T) (hC : AcAt I S) (hF : FcAt 59 I fc) : Call (D + 2) 166 [vr 10 0, vi 0, vi (iZ (i : Int)), vi (iZ (e : Int))] (101, I, J, R0 b) (RIf b fun x I' J' => x = evV fc T ∧ J' = J ∧ Fr pPi I I') := by
  refine t_X10_worked _ _ _ I J b ?_
  have e0 : (130 : Int32) * 0 + iZ (i : Int) = iZ (i : Int) := by
    rw [i_0, show (130 : Int32) = iZ 130 from rfl, iZ_mul, iZ_add]
    congr 1
    omega
  rw [e0]
  exact w_evM he T i [] [evV fc T] I hie hT hw.1 (hw.2.2 fc []) (by simp; omega) hC hF StAt.nil (fun I1 h1 h2 => RIf.mk ⟨h2.top, rfl, h1⟩)
theorem LwM.fr {I I' : IM} {L : List Ln} (h : LwM I L) (hf : Fr pPi I I') : LwM I' L := by
  obtain ⟨h1, h2, h3, h4⟩ := h
  exact ⟨h1.fr hf, (hf _ _ _ (nbf (by omega))).trans h2, h3, fun L1 l L2 hL => ⟨(hf _ _ _ (nbf (by omega))).trans (h4 L1 l L2 hL).1, (hf _ _ _ (nbf (by omega))).trans (h4 L1 l L2 hL).2⟩⟩
theorem w_gives {fc : Nat → Int32} {L : List Ln} {I0 : IM} (hw : ∀ l ∈ L, wfL l) : ∀ (L2 L1 : List Ln) (I : IM), L = L1 ++ L2 → LwM I L → FcAt 59 I fc → Fr pPi I0 I → WP (D + 2) 167 7 [vr 10 0, vi 0, vi (iZ ((stS L1).length : Int)), vi (iZ (L1.length : Int))] [] (101, I, J, R0 b) (RIf b fun x I' J' => x = evL fc L2 ∧ J' = J ∧ Fr pPi I0 I')
  | [], L1, I, hL, hM, hF, hf => by
    obtain ⟨m1, m2, m3, m4⟩ := hM
    have hl : L.length = L1.length := by rw [hL]; simp
    refine t_X10_gives_7 _ _ _ I J b ⟨vp02, ?_⟩
    have e0 : (61 : Int32) * 0 + I 56 0 (0 : Int32).toNatClampNeg = iZ (L.length : Int) := by
      rw [show (0 : Int32).toNatClampNeg = 0 from rfl, m2, i_0, show (61 : Int32) = iZ 61 from rfl, iZ_mul, iZ_add]
      congr 1
      omega
    rw [e0]
    exact ifp (tle (by omega) (by omega) (by omega)) (RIf.mk ⟨rfl, rfl, hf⟩)
  | l :: L2, L1, I, hL, hM, hF, hf => by
    have hM0 := hM
    obtain ⟨m1, m2, m3, m4⟩ := hM
    obtain ⟨k1, k2⟩ := m4 L1 l L2 hL
    have hlen : L.length = L1.length + (L2.length + 1) := by rw [hL]; simp
    obtain ⟨w1, w2⟩ := hw l (by rw [hL]; simp)
    have hS : stS L = stS L1 ++ (lnS l ++ stS L2) := by rw [hL]; simp [stS]
    have hSl : (stS L).length = (stS L1).length + ((lnS l).length + (stS L2).length) := by rw [hS]; simp
    have h130 := m1.1
    have hls : (lnS l).length = (l.1.getD []).length + l.2.length := by simp [lnS]
    have e0 : (61 : Int32) * 0 + I 56 0 (0 : Int32).toNatClampNeg = iZ (L.length : Int) := by
      rw [show (0 : Int32).toNatClampNeg = 0 from rfl, m2, i_0, show (61 : Int32) = iZ 61 from rfl, iZ_mul, iZ_add]
      congr 1
      omega
    have hv : vp_in (iZ (L1.length : Int)) 122 := vp_iZ (by omega) (by omega) (by omega)
    have hbody : ∀ (I1 : IM), LwM I1 L → FcAt 59 I1 fc → Fr pPi I0 I1 → Call (D + 2) 166 [vr 10 0, vi 0, vi (iZ (((stS L1).length + (l.1.getD []).length : Nat) : Int)), vi (iZ (((stS L1).length + (lnS l).length : Nat) : Int))] (101, I1, J, R0 b) (RIf b fun x I' J' => x = evV fc l.2 ∧ J' = J ∧ Fr pPi I0 I') := by
      intro I1 hM1 hF1 hf1
      refine (e_worked (T := l.2) (S := stS L) (fc := fc) (by omega) (by omega) ?_ w2 hM1.1 hF1).useI ?_
      · have := at_mid (C := stS L) (pre := stS L1 ++ l.1.getD []) (T := l.2) (post := stS L2) (by rw [hS]; simp [lnS])
        simpa using this
      · rintro x I2 J2 ⟨rfl, rfl, h3⟩
        exact ⟨rfl, rfl, hf1.tr h3⟩
    refine t_X10_gives_7 _ _ _ I J b ⟨vp02, ?_⟩
    rw [e0, iZ_ck (by omega), k1, k2]
    refine ifn (nle (by omega) (by omega) (by omega)) ⟨hv, ?_⟩
    cases hl1 : l.1 with
    | none =>
      rw [hl1] at hbody
      refine ifp (by simp) ⟨hv, hv, (hbody I hM0 hF hf).useI ?_⟩
      rintro x I2 J2 ⟨rfl, rfl, h3⟩
      refine RIf.mk ⟨?_, rfl, h3⟩
      simp only [evL, hl1]
    | some c =>
      rw [hl1] at w1 hbody hls
      simp only [Option.getD_some] at hbody hls
      have hcne : c.length ≠ 0 := fun z => wf_ne w1 (List.eq_nil_of_length_eq_zero z)
      simp only [Option.getD_some]
      refine ifn (nne (by omega) (by omega) (by omega) (by omega) (by omega)) ⟨hv, ?_⟩
      refine (e_worked (T := c) (S := stS L) (fc := fc) (by omega) rfl ?_ w1 m1 hF).useI ?_
      · exact at_mid (C := stS L) (pre := stS L1) (T := c) (post := l.2 ++ stS L2) (by rw [hS]; simp [lnS, hl1])
      · rintro x I2 J2 ⟨rfl, hJ, h3⟩
        obtain rfl := hJ.symm
        have hM2 := hM0.fr h3
        obtain ⟨j1, j2⟩ := hM2.2.2.2 L1 l L2 hL
        rw [j1, j2, hl1]
        simp only [Option.getD_some]
        refine ifs (fun cc => ⟨hv, ?_⟩) (fun cc => ⟨hv, hv, (hbody I2 hM2 (hF.frM h3) (hf.tr h3)).useI ?_⟩)
        · rw [iZ_s]
          have hn := w_gives (fc := fc) (I0 := I0) hw L2 (L1 ++ [l]) I2 (by rw [hL]; simp) hM2 (hF.frM h3) (hf.tr h3)
          have e5 : (stS (L1 ++ [l])).length = (stS L1).length + (lnS l).length := by simp [stS]
          rw [e5, show (L1 ++ [l]).length = L1.length + 1 by simp] at hn
          refine hn.mono ?_
          rintro r h ⟨x, I3, J3, rfl, rfl, rfl, rfl, h3⟩
          refine RIf.mk ⟨?_, rfl, h3⟩
          simp only [evL, hl1]
          rw [if_pos cc]
        · rintro x I3 J3 ⟨rfl, rfl, h4⟩
          refine RIf.mk ⟨?_, rfl, h4⟩
          simp only [evL, hl1]
          rw [if_neg cc]
theorem e_gives {fc : Nat → Int32} {L : List Ln} (hw : ∀ l ∈ L, wfL l) (hM : LwM I L) (hF : FcAt 59 I fc) : Call (D + 3) 167 [vr 10 0, vi 0] (101, I, J, R0 b) (RIf b fun x I' J' => x = evL fc L ∧ J' = J ∧ Fr pPi I I') := by
  refine t_X10_gives _ I J b ?_
  exact w_gives hw L [] I rfl hM hF Fr.id
end LAWV
/-- the bench: how many joints; each number by what it is -/
def BnC (I : IM) (n : Nat) (V : Nat → Nat → Nat) : Prop := I 1 0 1 = iZ (n : Int) ∧ (∀ j q, j < 7 → q < 6 → I 20 0 (6 * j + q) = iZ (V q j : Int)) ∧ (∀ q, 6 ≤ q → q ≤ 10 → I 20 0 (36 + q) = iZ (V q 0 : Int))
def BnM (I : IM) (n : Nat) (V : Nat → Nat → Nat) : Prop := I 10 0 1 = iZ (n : Int) ∧ (∀ j q, j < 7 → q < 6 → I (43 + q) 0 j = iZ (V q j : Int)) ∧ (∀ q, 6 ≤ q → q ≤ 10 → I 10 0 (q + 2) = iZ (V q 0 : Int))
def BnOK (n : Nat) (V : Nat → Nat → Nat) : Prop := n ≤ 7 ∧ (∀ j, j < 7 → V 0 j ≤ 9 ∧ V 1 j ≤ 3 ∧ V 2 j ≤ 2 ∧ V 3 j ≤ 1 ∧ V 4 j < 128 ∧ V 5 j < 128) ∧ V 6 0 ≤ 3 ∧ V 7 0 ≤ 6 ∧ V 8 0 ≤ 99 ∧ V 9 0 ≤ 30 ∧ V 10 0 ≤ 12 ∧ (∀ j, n ≤ j → V 4 j = 0 ∧ V 5 j = 0)
def fcOf (V : Nat → Nat → Nat) (j n g : Nat) (k : Nat) : Int32 := if k = 0 then iZ (g : Int) else if k = 1 then iZ (V 9 0 : Int) else if k = 2 then iZ (V 0 j : Int) else if k = 3 then iZ (V 2 j : Int) else if k = 4 then iZ (n : Int) else iZ (j : Int)
def clp (x : Int32) : Nat := if x.toInt < 0 then 0 else if 99 < x.toInt then 99 else x.toInt.toNat
def lawV (lw : Option (List Ln)) (V : Nat → Nat → Nat) (j n g : Nat) : Nat := match lw with
  | none => if 1 ≤ (30 : Int) - g - (V 9 0 / 2 : Nat) then ((30 : Int) - g - (V 9 0 / 2 : Nat)).toNat else 1
  | some L => clp (evL (fcOf V j n g) L)
theorem clp_le (x : Int32) : clp x ≤ 99 := by
  unfold clp
  split
  · omega
  · split <;> omega
theorem lawV_le (lw : Option (List Ln)) (V : Nat → Nat → Nat) (j n g : Nat) : lawV lw V j n g ≤ 99 := by
  unfold lawV
  split
  · split <;> omega
  · exact clp_le _
def LwCx (b : Bool) (I : IM) (lw : Option (List Ln)) : Prop := match lw with
  | none => I 3 0 6 = 0
  | some L => CdAt b I (cC 0 L) ∧ 0 < (cC 0 L).length ∧ ∀ l ∈ L, wfL l
def LwMx (I : IM) (lw : Option (List Ln)) : Prop := match lw with
  | none => I 10 0 32 = 0
  | some L => I 10 0 32 = 1 ∧ LwM I L ∧ ∀ l ∈ L, wfL l
def pLc (s _j _k : Nat) : Bool := Nat.beq s 25 || Nat.beq s 26
section SETS
variable {D : Nat} {I : IM} {J : JM} {b : Bool} {n : Nat} {V : Nat → Nat → Nat} {lw : Option (List Ln)}
theorem p_standing {q : Nat} {x : Int32} (hB : BnC I n V) (hx : x = iZ (q : Int)) (h6 : 6 ≤ q) (h10 : q ≤ 10) : Pu (D + 1) 12 [vr 1 0, vi x] I J b (iZ (V q 0 : Int)) := by
  subst hx
  refine t_X1_standing _ I J b ?_
  have e : (42 : Int32) + iZ (q : Int) - (6 : Int32) = iZ ((36 + q : Nat) : Int) := by
    rw [i_42, i_6, iZ_add, iZ_sub]
    congr 1
    omega
  rw [e, iZ_ck (by omega), hB.2.2 q h6 h10]
  exact ifn (by rw [i_6]; exact nlt (by omega) (by omega) (by omega)) (ifn (by rw [i_10]; exact nlt (by omega) (by omega) (by omega)) ⟨vp_iZ (by omega) (by omega) (by omega), rfl, rfl⟩)
theorem if_lt_min {v : Int} (v1 : -2147483648 ≤ v) (v2 : v < 2147483648) : (if iZ v < iZ 99 then iZ v else iZ 99) = iZ (min v 99) := by
  by_cases h : v < 99
  · rw [if_pos (tlt v1 (by omega) h), Int.min_eq_left (by omega)]
  · rw [if_neg (nlt (by omega) v2 (by omega)), Int.min_eq_right (by omega)]
theorem if_lt_max {v : Int} (v1 : -2147483648 ≤ v) (v2 : v < 2147483648) : (if iZ 0 < iZ v then iZ v else iZ 0) = iZ (max v 0) := by
  by_cases h : 0 < v
  · rw [if_pos (tlt (by omega) v2 h), Int.max_eq_left (by omega)]
  · rw [if_neg (nlt v1 (by omega) (by omega)), Int.max_eq_right (by omega)]
theorem clp_v {x : Int32} : (if (0 : Int32) < (if x < (99 : Int32) then x else (99 : Int32)) then (if x < (99 : Int32) then x else (99 : Int32)) else (0 : Int32)) = iZ (clp x : Int) := by
  obtain ⟨v, rfl, v1, v2⟩ := iZ_ex x
  have e99 : (99 : Int32) = iZ 99 := rfl
  rw [e99, i_0, if_lt_min v1 v2, if_lt_max (by omega) (by omega)]
  congr 1
  unfold clp
  rw [iZ_toInt v1 v2]
  split
  · omega
  · split <;> omega
theorem e_minutes {j m g : Nat} (hB : BnC I n V) (hO : BnOK n V) (hL : LwCx b I lw) (hj : j < 7) (hm : m < 8) (hg : g ≤ 99) : Call (D + 5) 29 [vr 3 0, vi (iZ (j : Int)), vi (iZ (m : Int)), vi (iZ (g : Int))] (101, I, J, R0 b) (RIf b fun x I' J' => x = iZ (lawV lw V j m g : Int) ∧ J' = J ∧ Fr pLc I I') := by
  obtain ⟨o1, o2, o3, o4, o5, o6, o7, o8⟩ := hO
  refine t_X3_minutes _ _ _ I J b ?_
  refine (p_standing hB (q := 9) rfl (by omega) (by omega)).use ?_
  cases lw with
  | none =>
    have hL : I 3 0 6 = 0 := hL
    rw [hL]
    refine ifn (fun z => z rfl) (RIf.mk ⟨?_, rfl, Fr.id⟩)
    have e : (30 : Int32) - iZ (g : Int) - iZ (V 9 0 : Int) / (2 : Int32) = iZ ((30 : Int) - g - (V 9 0 / 2 : Nat)) := by
      rw [i_2, iZ_div (by omega) (by omega) (by omega) (by omega), show (30 : Int32) = iZ 30 from rfl, iZ_sub, iZ_sub]
      congr 1
    rw [e]
    unfold lawV
    dsimp only
    by_cases h : 1 < (30 : Int) - g - (V 9 0 / 2 : Nat)
    · rw [if_pos (by rw [i_1]; exact tlt (by omega) (by omega) h), if_pos (by omega)]
      congr 1
      omega
    · rw [if_neg (by rw [i_1]; exact nlt (by omega) (by omega) (by omega))]
      split
      · rw [show ((30 : Int) - g - (V 9 0 / 2 : Nat)).toNat = 1 by omega]
        rfl
      · rfl
  | some L =>
    obtain ⟨hC, hpos, hwf⟩ := hL
    have hlen := hC.2.1
    refine ifp (by rw [hC.1, i_0]; exact nne (by omega) (by omega) (by omega) (by omega) (by omega)) ?_
    refine (p_numberOf (j := j) (q := 0) rfl hj (by omega)).use ?_
    refine (p_numberOf (j := j) (q := 2) rfl hj (by omega)).use ?_
    have h20 : ∀ k, updI (updI (updI I 26 0 0 (iZ (g : Int))) 26 0 1 (iZ (V 9 0 : Int))) 26 0 2 ((updI (updI I 26 0 0 (iZ (g : Int))) 26 0 1 (iZ (V 9 0 : Int))) 20 0 (6 * j + 0)) 20 0 k = I 20 0 k := fun k => by
      rw [updI_if, if_neg (by omega), updI_if, if_neg (by omega), updI_if, if_neg (by omega)]
    have h20b : ∀ k, (updI (updI I 26 0 0 (iZ (g : Int))) 26 0 1 (iZ (V 9 0 : Int))) 20 0 k = I 20 0 k := fun k => by
      rw [updI_if, if_neg (by omega), updI_if, if_neg (by omega)]
    rw [h20, h20b, hB.2.1 j 0 hj (by omega), hB.2.1 j 2 hj (by omega)]
    generalize hI1 : updI (updI (updI (updI (updI (updI I 26 0 0 (iZ (g : Int))) 26 0 1 (iZ (V 9 0 : Int))) 26 0 2 (iZ (V 0 j : Int))) 26 0 3 (iZ (V 2 j : Int))) 26 0 4 (iZ (m : Int))) 26 0 5 (iZ (j : Int)) = I1
    have hf1 : Fr pLc I I1 := by
      rw [← hI1]
      exact Fr.upd (Fr.upd (Fr.upd (Fr.upd (Fr.upd (Fr.upd Fr.id rfl) rfl) rfl) rfl) rfl) rfl
    have hfc : FcAt 26 I1 (fcOf V j m g) := by
      intro k hk
      rw [← hI1]
      simp only [updI_if]
      unfold fcOf
      rcases (show k = 0 ∨ k = 1 ∨ k = 2 ∨ k = 3 ∨ k = 4 ∨ k = 5 by omega) with rfl | rfl | rfl | rfl | rfl | rfl <;> simp
    have hn : ∀ s j' k, s ≠ 25 → s ≠ 26 → pLc s j' k = false := fun s j' k z1 z2 => by
      unfold pLc
      rw [nbf z1, nbf z2]
      rfl
    have hC1 : CdAt b I1 (cC 0 L) := ⟨(hf1 _ _ _ (hn _ _ _ (by omega) (by omega))).trans hC.1, hC.2.1, fun k w hk => (hf1 _ _ _ (hn _ _ _ (by have := @cs_ne b; omega) (by have := @cs_ne b; omega))).trans (hC.2.2 k w hk)⟩
    refine (e_workOut hwf hC1 hfc).useI ?_
    rintro x I2 J2 ⟨rfl, rfl, h3⟩
    refine RIf.mk ⟨?_, rfl, hf1.tr (h3.subT (fun s j' k z => by unfold pSk at z; unfold pLc; rw [z]; rfl))⟩
    exact clp_v
theorem e_setsBy {j m g : Nat} (h43 : ∀ j, j < 7 → I 43 0 j = iZ (V 0 j : Int)) (h45 : ∀ j, j < 7 → I 45 0 j = iZ (V 2 j : Int)) (h11 : I 10 0 11 = iZ (V 9 0 : Int)) (hO : BnOK n V) (hL : LwMx I lw) (h10 : I 10 0 10 = iZ (g : Int)) (hj : j < 7) (hm : m < 8) (hg : g ≤ 99) : Call (D + 4) 169 [vr 10 0, vi (iZ (j : Int)), vi (iZ (m : Int))] (101, I, J, R0 b) (RIf b fun x I' J' => x = iZ (lawV lw V j m g : Int) ∧ J' = J ∧ Fr pLs I I') := by
  obtain ⟨o1, o2, o3, o4, o5, o6, o7, o8⟩ := hO
  refine t_X10_setsBy _ _ I J b ?_
  rw [h10, h11, iZ_ck (by omega)]
  cases lw with
  | none =>
    have hL : I 10 0 32 = 0 := hL
    rw [hL]
    refine ifn (fun z => z rfl) ?_
    have e : (30 : Int32) - iZ (g : Int) - iZ (V 9 0 : Int) / (2 : Int32) = iZ ((30 : Int) - g - (V 9 0 / 2 : Nat)) := by
      rw [i_2, iZ_div (by omega) (by omega) (by omega) (by omega), show (30 : Int32) = iZ 30 from rfl, iZ_sub, iZ_sub]
      congr 1
    rw [e]
    unfold lawV
    dsimp only
    refine ifs (fun c => RIf.mk ⟨?_, rfl, Fr.id⟩) (fun c => RIf.mk ⟨?_, rfl, Fr.id⟩)
    · rw [i_1, iZ_le (by omega) (by omega) (by omega) (by omega)] at c
      rw [if_pos c]
      congr 1
      omega
    · rw [i_1, iZ_le (by omega) (by omega) (by omega) (by omega)] at c
      rw [if_neg c]
      rfl
  | some L =>
    obtain ⟨h32, hM, hwf⟩ := hL
    have hvj : vp_in (iZ (j : Int)) 7 := vp_iZ (by omega) (by omega) (by omega)
    rw [h32, h43 j hj, h45 j hj]
    refine ifp (by decide) ⟨hvj, hvj, ?_⟩
    generalize hI1 : updI (updI (updI (updI (updI (updI I 59 0 0 (iZ (g : Int))) 59 0 1 (iZ (V 9 0 : Int))) 59 0 2 (iZ (V 0 j : Int))) 59 0 3 (iZ (V 2 j : Int))) 59 0 4 (iZ (m : Int))) 59 0 5 (iZ (j : Int)) = I1
    have hf1 : Fr pLs I I1 := by
      rw [← hI1]
      exact Fr.upd (Fr.upd (Fr.upd (Fr.upd (Fr.upd (Fr.upd Fr.id rfl) rfl) rfl) rfl) rfl) rfl
    have hfc : FcAt 59 I1 (fcOf V j m g) := by
      intro k hk
      rw [← hI1]
      simp only [updI_if]
      unfold fcOf
      rcases (show k = 0 ∨ k = 1 ∨ k = 2 ∨ k = 3 ∨ k = 4 ∨ k = 5 by omega) with rfl | rfl | rfl | rfl | rfl | rfl <;> simp
    have hn : ∀ s j' k, s ≠ 59 → s ≠ 60 → pLs s j' k = false := fun s j' k z1 z2 => by
      unfold pLs
      rw [nbf z1, nbf z2]
      rfl
    have hM1 : LwM I1 L := by
      obtain ⟨m1, m2, m3, m4⟩ := hM
      refine ⟨⟨m1.1, fun k w hk => ⟨(hf1 _ _ _ (hn _ _ _ (by omega) (by omega))).trans (m1.2 k w hk).1, (hf1 _ _ _ (hn _ _ _ (by omega) (by omega))).trans (m1.2 k w hk).2⟩⟩, (hf1 _ _ _ (hn _ _ _ (by omega) (by omega))).trans m2, m3, fun L1 l L2 hL => ⟨(hf1 _ _ _ (hn _ _ _ (by omega) (by omega))).trans (m4 L1 l L2 hL).1, (hf1 _ _ _ (hn _ _ _ (by omega) (by omega))).trans (m4 L1 l L2 hL).2⟩⟩
    refine (e_gives hwf hM1 hfc).useI ?_
    rintro x I2 J2 ⟨rfl, rfl, h3⟩
    have hfr : Fr pLs I I2 := hf1.tr (h3.subT (fun s j' k z => by unfold pPi at z; unfold pLs; rw [z, Bool.or_true]))
    obtain ⟨v, hv, v1, v2⟩ := iZ_ex (evL (fcOf V j m g) L)
    rw [hv]
    have hlv : lawV (some L) V j m g = clp (iZ v) := by rw [← hv]; rfl
    rw [hlv]
    unfold clp
    rw [iZ_toInt v1 v2]
    refine ifs (fun c => ifs (fun c2 => RIf.mk ⟨?_, rfl, hfr⟩) (fun c2 => RIf.mk ⟨?_, rfl, hfr⟩)) (fun c => RIf.mk ⟨?_, rfl, hfr⟩)
    · rw [i_0, iZ_le (by omega) (by omega) (by omega) (by omega)] at c
      rw [show (99 : Int32) = iZ 99 from rfl, iZ_le (by omega) (by omega) (by omega) (by omega)] at c2
      rw [if_neg (by omega), if_neg (by omega)]
      congr 1
      omega
    · rw [i_0, iZ_le (by omega) (by omega) (by omega) (by omega)] at c
      rw [show (99 : Int32) = iZ 99 from rfl, iZ_le (by omega) (by omega) (by omega) (by omega)] at c2
      rw [if_neg (by omega), if_pos (by omega)]
      rfl
    · rw [i_0, iZ_le (by omega) (by omega) (by omega) (by omega)] at c
      rw [if_pos (by omega)]
      rfl
end SETS
