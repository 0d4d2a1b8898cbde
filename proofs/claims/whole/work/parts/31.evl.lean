/-! THE LAW WORKED OUT: a word, words, lines; both machines -/
def pSk (s _j _k : Nat) : Bool := Nat.beq s 25
def pPi (s _j _k : Nat) : Bool := Nat.beq s 60
def StAt (t : Nat) (I : IM) (s : List Int32) : Prop := ∀ (k : Nat) (v : Int32), s.reverse[k]? = some v → I t 0 k = v
theorem StAt.push {t : Nat} {I : IM} {s : List Int32} {v : Int32} (h : StAt t I s) : StAt t (updI I t 0 s.length v) (v :: s) := by
  intro k x hk
  rw [List.reverse_cons] at hk
  rcases snoc_at hk with ⟨h1, h2⟩ | ⟨h1, h2⟩
  · have h3 : k ≠ s.length := by
      rw [List.length_reverse] at h2
      omega
    rw [updI_if, if_neg (by omega)]
    exact h k x h1
  · subst h2
    rw [List.length_reverse] at h1
    subst h1
    exact uI_eq
theorem StAt.top {t : Nat} {I : IM} {r : List Int32} {a : Int32} (h : StAt t I (a :: r)) : I t 0 r.length = a := by
  refine h _ _ ?_
  rw [List.reverse_cons]
  simp
theorem StAt.pop {t : Nat} {I : IM} {r : List Int32} {a : Int32} (h : StAt t I (a :: r)) : StAt t I r := by
  intro k x hk
  refine h k x ?_
  rw [List.reverse_cons, List.getElem?_append_left]
  · exact hk
  · exact (List.getElem?_eq_some_iff.mp hk).1
theorem StAt.nil {t : Nat} {I : IM} : StAt t I [] := by
  intro k x hk
  simp at hk
def CdAt (b : Bool) (I : IM) (C : List Nat) : Prop := I 3 0 6 = iZ (C.length : Int) ∧ C.length ≤ 256 ∧ ∀ (k w : Nat), C[k]? = some w → I (cs b) 0 k = iZ (w : Int)
def FcAt (t : Nat) (I : IM) (fc : Nat → Int32) : Prop := ∀ k, k < 6 → I t 0 k = fc k
theorem cs_ne {b : Bool} : cs b = 27 ∨ cs b = 28 := by cases b <;> simp [cs]
theorem pSk_f {s j k : Nat} (h : s ≠ 25) : pSk s j k = false := nbf h
theorem CdAt.fr {b : Bool} {I I' : IM} {C : List Nat} (h : CdAt b I C) (hf : Fr pSk I I') : CdAt b I' C := ⟨(hf _ _ _ (pSk_f (by omega))).trans h.1, h.2.1, fun k w hk => (hf _ _ _ (pSk_f (by have := @cs_ne b; omega))).trans (h.2.2 k w hk)⟩
theorem FcAt.fr {I I' : IM} {fc : Nat → Int32} (h : FcAt 26 I fc) (hf : Fr pSk I I') : FcAt 26 I' fc := fun k hk => (hf _ _ _ (pSk_f (by omega))).trans (h k hk)
def am (w : Nat) : Nat := if 1000 ≤ w then 1 else if 200 ≤ w then 2 else if w = 33 then 3 else if w = 78 then 4 else w
def wi (w : Nat) : Nat := if 1000 ≤ w then w - 1000 else if 200 ≤ w then w - 200 else 0
def AcAt (I : IM) (S : List Nat) : Prop := S.length ≤ 130 ∧ ∀ (k w : Nat), S[k]? = some w → I 54 0 k = iZ (am w : Int) ∧ I 55 0 k = iZ (wi w : Int)
theorem AcAt.fr {I I' : IM} {S : List Nat} (h : AcAt I S) (hf : Fr pPi I I') : AcAt I' S := ⟨h.1, fun k w hk => ⟨(hf _ _ _ (nbf (by omega))).trans (h.2 k w hk).1, (hf _ _ _ (nbf (by omega))).trans (h.2 k w hk).2⟩⟩
theorem FcAt.frM {I I' : IM} {fc : Nat → Int32} (h : FcAt 59 I fc) (hf : Fr pPi I I') : FcAt 59 I' fc := fun k hk => (hf _ _ _ (nbf (by omega))).trans (h k hk)
section EVL
variable {D : Nat} {I : IM} {J : JM} {b : Bool}
theorem z_1 (n : Nat) : iZ ((n + 1 : Nat) : Int) - (1 : Int32) = iZ (n : Int) := by
  rw [i_1, iZ_sub]
  congr 1
  omega
theorem z_m1 (n : Nat) : iZ ((n + 1 : Nat) : Int) + (-1) = iZ (n : Int) := by
  rw [i_m1, iZ_add]
  congr 1
  omega
theorem p_vOf1 {w : Nat} (h1 : 1000 ≤ w) (h2 : w ≤ 10999) : Pu (D + 1) 259 [vr 3 0, vi (iZ (w : Int))] I J b (iZ ((w : Int) - 1000)) := by
  refine t_X3_valueOf _ I J b ?_
  rw [show (1000 : Int32) = iZ 1000 from rfl, iZ_sub]
  exact ifn (nlt (by omega) (by omega) (by omega)) ⟨rfl, rfl⟩
theorem p_vOf2 {fc : Nat → Int32} {w : Nat} (hF : FcAt 26 I fc) (h1 : 200 ≤ w) (h2 : w < 206) : Pu (D + 1) 259 [vr 3 0, vi (iZ (w : Int))] I J b (fc (w - 200)) := by
  have e : iZ (w : Int) - (200 : Int32) = iZ ((w - 200 : Nat) : Int) := by
    rw [show (200 : Int32) = iZ 200 from rfl, iZ_sub]
    congr 1
    omega
  have hk : w - 200 < 6 := by omega
  generalize w - 200 = k at e hk
  refine t_X3_valueOf _ I J b ?_
  rw [e, iZ_ck (by omega), hF k hk]
  refine ifp (by rw [show (1000 : Int32) = iZ 1000 from rfl]; exact tlt (by omega) (by omega) (by omega)) ?_
  exact ifn (by rw [i_0]; exact nlt (by omega) (by omega) (by omega)) (ifn (by rw [i_6]; exact nle (by omega) (by omega) (by omega)) ⟨vp_iZ (by omega) (by omega) (by omega), rfl, rfl⟩)
theorem w_stepC {fc : Nat → Int32} {C : List Nat} {i w : Nat} {s s1 : List Int32} {Q : Option AV → AH → Prop} (hC : CdAt b I C) (hF : FcAt 26 I fc) (hi : C[i]? = some w) (hw : tkOK w) (hs : tkS fc w s = some s1) (hlen : s.length < 128) (hS : StAt 25 I s) (K : ∀ I', Fr pSk I I' → StAt 25 I' s1 → WP (D + 3) 30 4 [vr 3 0, vi (iZ (s1.length : Int)), vi (iZ ((i + 1 : Nat) : Int)), vn, vn] [] (101, I', J, R0 b) Q) : WP (D + 3) 30 4 [vr 3 0, vi (iZ (s.length : Int)), vi (iZ (i : Int)), vn, vn] [] (101, I, J, R0 b) Q := by
  obtain ⟨c1, c2, c3⟩ := hC
  have hil : i < C.length := (List.getElem?_eq_some_iff.mp hi).1
  have hcw := c3 i w hi
  refine t_wo4 _ _ I J b ?_
  rw [c1, iZ_ck (by omega), iZ_ck (by omega), hcw]
  refine ifn (nle (by omega) (by omega) (by omega)) ⟨vp_iZ (by omega) (by omega) (by omega), ?_⟩
  unfold tkS at hs
  by_cases h1000 : 1000 ≤ w
  · rw [if_pos h1000] at hs
    cases hs
    have hw2 : w ≤ 10999 := by
      unfold tkOK isOp at hw
      omega
    refine ifn (by rw [show (200 : Int32) = iZ 200 from rfl]; exact nlt (by omega) (by omega) (by omega)) ?_
    refine ifp (by rw [show (128 : Int32) = iZ 128 from rfl]; exact tlt (by omega) (by omega) (by omega)) ?_
    refine (p_vOf1 (D := D + 2) h1000 hw2).use ⟨vp_iZ (by omega) (by omega) (by omega), ?_⟩
    rw [iZ_s, iZ_s]
    exact K _ (Fr.id.upd rfl) hS.push
  · rw [if_neg h1000] at hs
    by_cases h200 : 200 ≤ w
    · rw [if_pos h200] at hs
      cases hs
      have hw2 : w < 206 := by
        unfold tkOK isOp at hw
        omega
      refine ifn (by rw [show (200 : Int32) = iZ 200 from rfl]; exact nlt (by omega) (by omega) (by omega)) ?_
      refine ifp (by rw [show (128 : Int32) = iZ 128 from rfl]; exact tlt (by omega) (by omega) (by omega)) ?_
      refine (p_vOf2 (D := D + 2) hF h200 hw2).use ⟨vp_iZ (by omega) (by omega) (by omega), ?_⟩
      rw [iZ_s, iZ_s]
      exact K _ (Fr.id.upd rfl) hS.push
    · rw [if_neg h200] at hs
      refine ifp (by rw [show (200 : Int32) = iZ 200 from rfl]; exact tlt (by omega) (by omega) (by omega)) ?_
      by_cases h33 : w = 33
      · subst h33
        rw [if_pos rfl] at hs
        cases s with
        | nil => cases hs
        | cons a r =>
          simp only [List.length_cons] at hlen ⊢
          cases hs
          have e1 := hS.top
          refine ifp (by rw [i_1]; exact tle (by omega) (by omega) (by omega)) ?_
          refine ifp (by decide) (ifp (by decide) (ifp (by decide) ?_))
          rw [z_1, iZ_ck (by omega), e1, iZ_s]
          refine ⟨vp_iZ (by omega) (by omega) (by omega), ifp (by decide) (ifs (fun c => ?_) (fun c => ?_))⟩
          · refine p_tr0.use ⟨vp_iZ (by omega) (by omega) (by omega), ?_⟩
            rw [if_neg c] at K
            exact K _ (Fr.id.upd rfl) hS.pop.push
          · refine p_tr1.use ⟨vp_iZ (by omega) (by omega) (by omega), ?_⟩
            rw [if_pos (Classical.not_not.mp c)] at K
            exact K _ (Fr.id.upd rfl) hS.pop.push
      · rw [if_neg h33] at hs
        by_cases h78 : w = 78
        · subst h78
          rw [if_pos rfl] at hs
          cases s with
          | nil => cases hs
          | cons a r =>
            simp only [List.length_cons] at hlen ⊢
            cases hs
            have e1 := hS.top
            refine ifp (by rw [i_1]; exact tle (by omega) (by omega) (by omega)) ?_
            refine ifp (by decide) (ifp (by decide) (ifn (by decide) (ifn (by decide) ?_)))
            rw [z_1, iZ_ck (by omega), e1, iZ_s]
            refine ⟨vp_iZ (by omega) (by omega) (by omega), ifn (by decide) ⟨vp_iZ (by omega) (by omega) (by omega), ?_⟩⟩
            exact K _ (Fr.id.upd rfl) hS.pop.push
        · rw [if_neg h78] at hs
          have hop : isOp w := by
            unfold tkOK at hw
            rcases hw with h | h | h | h | h
            · omega
            · omega
            · omega
            · omega
            · exact h
          have hop2 := hop
          unfold isOp at hop2
          split at hs
          · next y x r =>
            simp only [List.length_cons] at hlen ⊢
            cases hs
            have e1 := hS.top
            have e2 := hS.pop.top
            simp only [List.length_cons] at e1
            refine ifp (by rw [i_1]; exact tle (by omega) (by omega) (by omega)) ?_
            refine ifp (by rw [show (59 : Int32) = iZ 59 from rfl]; exact nne (by omega) (by omega) (by omega) (by omega) (by omega)) ?_
            refine ifp (by rw [show (63 : Int32) = iZ 63 from rfl]; exact nne (by omega) (by omega) (by omega) (by omega) (by omega)) ?_
            refine ifn (by rw [show (33 : Int32) = iZ 33 from rfl]; exact nne (by omega) (by omega) (by omega) (by omega) (by omega)) ?_
            refine ifp (by rw [show (78 : Int32) = iZ 78 from rfl]; exact nne (by omega) (by omega) (by omega) (by omega) (by omega)) ?_
            refine ifp (by rw [i_2]; exact tle (by omega) (by omega) (by omega)) ?_
            rw [z_m1, z_1, iZ_ck (by omega), iZ_ck (by omega), e1, e2, iZ_s]
            refine ⟨vp_iZ (by omega) (by omega) (by omega), vp_iZ (by omega) (by omega) (by omega), ?_⟩
            refine (p_join hop).use ⟨vp_iZ (by omega) (by omega) (by omega), ?_⟩
            exact K _ (Fr.id.upd rfl) hS.pop.pop.push
          · cases hs
theorem w_evC {fc : Nat → Int32} {C : List Nat} {Q : Option AV → AH → Prop} : ∀ (T : List Nat) (i : Nat) (s s1 : List Int32) (I : IM), (∀ k, k < T.length → C[i + k]? = T[k]?) → (∀ w ∈ T, tkOK w) → evT fc T s = some s1 → s.length + T.length ≤ 128 → CdAt b I C → FcAt 26 I fc → StAt 25 I s → (∀ I', Fr pSk I I' → StAt 25 I' s1 → WP (D + 3) 30 4 [vr 3 0, vi (iZ (s1.length : Int)), vi (iZ ((i + T.length : Nat) : Int)), vn, vn] [] (101, I', J, R0 b) Q) → WP (D + 3) 30 4 [vr 3 0, vi (iZ (s.length : Int)), vi (iZ (i : Int)), vn, vn] [] (101, I, J, R0 b) Q
  | [], i, s, s1, I, hT, hw, hs, hl, hC, hF, hS, K => by
    cases hs
    exact K I Fr.id hS
  | w :: T, i, s, s1, I, hT, hw, hs, hl, hC, hF, hS, K => by
    unfold evT at hs
    split at hs
    · cases hs
    · next s2 h2 =>
      simp only [List.length_cons] at hl hT K
      have h0 : C[i]? = some w := by
        have := hT 0 (by omega)
        simpa using this
      have hlen2 : s2.length ≤ s.length + 1 := by
        unfold tkS at h2
        split at h2
        · cases h2; simp
        · split at h2
          · cases h2; simp
          · split at h2
            · split at h2 <;> cases h2
              simp
            · split at h2
              · split at h2 <;> cases h2
                simp
              · split at h2 <;> cases h2
                simp
      refine w_stepC hC hF h0 (hw w (by simp)) h2 (by omega) hS (fun I1 hf1 hs1 => ?_)
      refine w_evC T (i + 1) s2 s1 I1 (fun k hk => ?_) (fun x hx => hw x (by simp [hx])) hs (by omega) (hC.fr hf1) (hF.fr hf1) hs1 (fun I2 hf2 hs2 => ?_)
      · have := hT (k + 1) (by omega)
        rw [show i + 1 + k = i + (k + 1) by omega, this]
        simp
      · rw [show i + 1 + T.length = i + (T.length + 1) by omega]
        exact K I2 (hf1.tr hf2) hs2
theorem w_stepM {fc : Nat → Int32} {S : List Nat} {i w e : Nat} {s s1 : List Int32} {Q : Option AV → AH → Prop} (hC : AcAt I S) (hF : FcAt 59 I fc) (hi : S[i]? = some w) (hie : i < e) (he : e ≤ 130) (hw : tkOK w) (hs : tkS fc w s = some s1) (hlen : s.length < 130) (hS : StAt 60 I s) (K : ∀ I', Fr pPi I I' → StAt 60 I' s1 → WP (D + 1) 166 12 [vr 10 0, vi 0, vn, vi (iZ (e : Int)), vi (iZ (s1.length : Int)), vi (iZ ((i + 1 : Nat) : Int)), vn] [] (101, I', J, R0 b) Q) : WP (D + 1) 166 12 [vr 10 0, vi 0, vn, vi (iZ (e : Int)), vi (iZ (s.length : Int)), vi (iZ (i : Int)), vn] [] (101, I, J, R0 b) Q := by
  obtain ⟨c1, c3⟩ := hC
  obtain ⟨d1, d2⟩ := c3 i w hi
  have e0 : (130 : Int32) * 0 + iZ (e : Int) = iZ (e : Int) := by
    rw [i_0, show (130 : Int32) = iZ 130 from rfl, iZ_mul, iZ_add]
    congr 1
    omega
  refine t_X10_worked_12 _ _ _ _ I J b ?_
  rw [e0, iZ_ck (by omega), iZ_ck (by omega), d1, d2]
  have hv260 : vp_in (iZ (i : Int)) 260 := vp_iZ (by omega) (by omega) (by omega)
  have hv130 : vp_in (iZ (s.length : Int)) 130 := vp_iZ (by omega) (by omega) (by omega)
  refine ifn (nle (by omega) (by omega) (by omega)) ⟨hv260, ?_⟩
  unfold tkS at hs
  unfold am wi
  by_cases h1000 : 1000 ≤ w
  · rw [if_pos h1000] at hs
    cases hs
    rw [if_pos h1000, if_pos h1000]
    have hw2 : w ≤ 10999 := by
      unfold tkOK isOp at hw
      omega
    refine ifp rfl (ifn (fun z => z rfl) ⟨hv260, hv130, ?_⟩)
    rw [iZ_s, iZ_s, show ((w - 1000 : Nat) : Int) = (w : Int) - 1000 by omega]
    exact K _ (Fr.id.upd rfl) hS.push
  · rw [if_neg h1000] at hs
    rw [if_neg h1000, if_neg h1000]
    by_cases h200 : 200 ≤ w
    · rw [if_pos h200] at hs
      cases hs
      rw [if_pos h200, if_pos h200]
      have hw2 : w < 206 := by
        unfold tkOK isOp at hw
        omega
      refine ifn (by decide) (ifn (fun z => z rfl) (ifp (by decide) ?_))
      rw [iZ_ck (by omega), hF (w - 200) (by omega), iZ_s, iZ_s]
      exact ⟨hv260, vp_iZ (by omega) (by omega) (by omega), hv130, K _ (Fr.id.upd rfl) hS.push⟩
    · rw [if_neg h200] at hs
      rw [if_neg h200, if_neg h200]
      by_cases h33 : w = 33
      · subst h33
        rw [if_pos rfl] at hs
        rw [if_pos rfl]
        cases s with
        | nil => cases hs
        | cons a r =>
          simp only [List.length_cons] at hlen ⊢
          cases hs
          have e1 := hS.top
          refine ifn (by decide) (ifp (by decide) (ifn (fun z => z rfl) ?_))
          rw [z_1, iZ_ck (by omega), e1, iZ_s]
          have hvr : vp_in (iZ (r.length : Int)) 130 := vp_iZ (by omega) (by omega) (by omega)
          refine ⟨hvr, ifs (fun c => ⟨hvr, ?_⟩) (fun c => ⟨hvr, ?_⟩)⟩
          · rw [if_neg c] at K
            exact K _ (Fr.id.upd rfl) hS.pop.push
          · rw [if_pos (Classical.not_not.mp c)] at K
            exact K _ (Fr.id.upd rfl) hS.pop.push
      · rw [if_neg h33] at hs
        rw [if_neg h33]
        by_cases h78 : w = 78
        · subst h78
          rw [if_pos rfl] at hs
          rw [if_pos rfl]
          cases s with
          | nil => cases hs
          | cons a r =>
            simp only [List.length_cons] at hlen ⊢
            cases hs
            have e1 := hS.top
            refine ifn (by decide) (ifp (by decide) (ifp (by decide) (ifn (fun z => z rfl) ?_)))
            rw [z_1, iZ_ck (by omega), e1, iZ_s]
            have hvr : vp_in (iZ (r.length : Int)) 130 := vp_iZ (by omega) (by omega) (by omega)
            exact ⟨hvr, hvr, K _ (Fr.id.upd rfl) hS.pop.push⟩
        · rw [if_neg h78] at hs
          rw [if_neg h78]
          have hop : isOp w := by
            unfold tkOK at hw
            rcases hw with h | h | h | h | h
            · omega
            · omega
            · omega
            · omega
            · exact h
          have hop2 := hop
          unfold isOp at hop2
          split at hs
          · next y x r =>
            simp only [List.length_cons] at hlen ⊢
            cases hs
            have e1 := hS.top
            have e2 := hS.pop.top
            simp only [List.length_cons] at e1
            refine ifn (by rw [i_1]; exact nne (by omega) (by omega) (by omega) (by omega) (by omega)) ?_
            refine ifp (by rw [i_2]; exact nne (by omega) (by omega) (by omega) (by omega) (by omega)) ?_
            refine ifp (by rw [i_3]; exact nne (by omega) (by omega) (by omega) (by omega) (by omega)) ?_
            refine ifp (by rw [show (4 : Int32) = iZ 4 from rfl]; exact nne (by omega) (by omega) (by omega) (by omega) (by omega)) ?_
            rw [z_m1, z_1, iZ_ck (by omega), iZ_ck (by omega), e1, e2, iZ_s]
            refine ⟨vp_iZ (by omega) (by omega) (by omega), vp_iZ (by omega) (by omega) (by omega), ?_⟩
            refine (p_twoOf hop).use ⟨vp_iZ (by omega) (by omega) (by omega), ?_⟩
            exact K _ (Fr.id.upd rfl) hS.pop.pop.push
          · cases hs
theorem tkS_len {fc : Nat → Int32} {w : Nat} {s s2 : List Int32} (h2 : tkS fc w s = some s2) : s2.length ≤ s.length + 1 := by
  unfold tkS at h2
  split at h2
  · cases h2; simp
  · split at h2
    · cases h2; simp
    · split at h2
      · split at h2 <;> cases h2
        simp
      · split at h2
        · split at h2 <;> cases h2
          simp
        · split at h2 <;> cases h2
          simp
theorem w_evM {fc : Nat → Int32} {S : List Nat} {e : Nat} {Q : Option AV → AH → Prop} (he : e ≤ 130) : ∀ (T : List Nat) (i : Nat) (s s1 : List Int32) (I : IM), i + T.length = e → (∀ k, k < T.length → S[i + k]? = T[k]?) → (∀ w ∈ T, tkOK w) → evT fc T s = some s1 → s.length + T.length ≤ 130 → AcAt I S → FcAt 59 I fc → StAt 60 I s → (∀ I', Fr pPi I I' → StAt 60 I' s1 → Q (some (vi (I' 60 0 0))) (101, I', J, R0 b)) → WP (D + 1) 166 12 [vr 10 0, vi 0, vn, vi (iZ (e : Int)), vi (iZ (s.length : Int)), vi (iZ (i : Int)), vn] [] (101, I, J, R0 b) Q
  | [], i, s, s1, I, hie, hT, hw, hs, hl, hC, hF, hS, K => by
    cases hs
    have e0 : (130 : Int32) * 0 + iZ (e : Int) = iZ (e : Int) := by
      rw [i_0, show (130 : Int32) = iZ 130 from rfl, iZ_mul, iZ_add]
      congr 1
      omega
    simp only [List.length_nil] at hie
    refine t_X10_worked_12 _ _ _ _ I J b ?_
    rw [e0]
    exact ifp (tle (by omega) (by omega) (by omega)) (K I Fr.id hS)
  | w :: T, i, s, s1, I, hie, hT, hw, hs, hl, hC, hF, hS, K => by
    unfold evT at hs
    split at hs
    · cases hs
    · next s2 h2 =>
      simp only [List.length_cons] at hl hT hie
      have h0 : S[i]? = some w := by
        have := hT 0 (by omega)
        simpa using this
      have hlen2 := tkS_len h2
      refine w_stepM hC hF h0 (by omega) he (hw w (by simp)) h2 (by omega) hS (fun I1 hf1 hs1 => ?_)
      refine w_evM he T (i + 1) s2 s1 I1 (by omega) (fun k hk => ?_) (fun x hx => hw x (by simp [hx])) hs (by omega) (hC.fr hf1) (hF.frM hf1) hs1 (fun I2 hf2 hs2 => K I2 (hf1.tr hf2) hs2)
      have := hT (k + 1) (by omega)
      rw [show i + 1 + k = i + (k + 1) by omega, this]
      simp
end EVL
