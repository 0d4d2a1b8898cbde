/-! THE PARSER, the model: lines, a text -/
theorem sh_all : ∀ a : Fin 200, ((iZ (a.val : Int)).toInt16.toInt32).toInt16.toInt32 = iZ (a.val : Int) ∧ (iZ (a.val : Int)).toInt16.toInt32 = iZ (a.val : Int) := by decide +kernel
def LnN (I : IM) (L : List Ln) : Prop := I 56 0 1 = iZ (L.length : Int) ∧ ∀ (k : Nat) (l : Ln), L[k]? = some l → I 57 0 (61 + k) = iZ (((stS (L.take k)).length + (l.1.getD []).length : Nat) : Int) ∧ I 58 0 (61 + k) = iZ (((stS (L.take k)).length + (lnS l).length : Nat) : Int)
def LSn (I : IM) (tp : List Nat) (p : Nat) (L : List Ln) : Prop := MS I tp p 0 (stS L) ∧ LnN I L
def pMl (s _j k : Nat) : Bool := pMd s 0 k || ((Nat.beq s 57 && Nat.ble 61 k) || ((Nat.beq s 58 && Nat.ble 61 k) || (Nat.beq s 56 && Nat.beq k 1)))
theorem pMl_iff {s j k : Nat} : pMl s j k = true ↔ ((s = 54 ∧ 130 ≤ k) ∨ (s = 55 ∧ 130 ≤ k) ∨ (s = 10 ∧ 21 ≤ k ∧ k ≤ 24)) ∨ (s = 57 ∧ 61 ≤ k) ∨ (s = 58 ∧ 61 ≤ k) ∨ (s = 56 ∧ k = 1) := by
  unfold pMl
  rw [Bool.or_eq_true, pMd_iff]
  simp only [Bool.or_eq_true, Bool.and_eq_true, nb_iff, Nat.ble_eq]
theorem pMd_l {I I' : IM} (h : Fr pMd I I') : Fr pMl I I' := h.subT (fun s j k z => by
  rw [pMd_iff] at z
  rw [pMl_iff]
  exact Or.inl z)
theorem LnN.eq {I I' : IM} {L : List Ln} (h : LnN I L) (e : ∀ s k, (s = 56 ∧ k = 1) ∨ s = 57 ∨ s = 58 → I' s 0 k = I s 0 k) : LnN I' L := ⟨(e _ _ (by omega)).trans h.1, fun k l hk => ⟨(e _ _ (by omega)).trans (h.2 k l hk).1, (e _ _ (by omega)).trans (h.2 k l hk).2⟩⟩
theorem LnN.snoc {I I' : IM} {L : List Ln} {l : Ln} (h : LnN I L) (h1 : I' 56 0 1 = iZ ((L.length + 1 : Nat) : Int)) (h2 : I' 57 0 (61 + L.length) = iZ (((stS L).length + (l.1.getD []).length : Nat) : Int)) (h3 : I' 58 0 (61 + L.length) = iZ (((stS L).length + (lnS l).length : Nat) : Int)) (e : ∀ s k, (s = 57 ∨ s = 58) ∧ k ≠ 61 + L.length → I' s 0 k = I s 0 k) : LnN I' (L ++ [l]) := by
  refine ⟨?_, fun k x hk => ?_⟩
  · rw [h1, List.length_append]
    rfl
  · rw [List.getElem?_append] at hk
    split at hk
    · next hlt =>
      have ht : (L ++ [l]).take k = L.take k := by
        rw [List.take_append_of_le_length (by omega)]
      rw [ht]
      exact ⟨(e _ _ ⟨by omega, by omega⟩).trans (h.2 k x hk).1, (e _ _ ⟨by omega, by omega⟩).trans (h.2 k x hk).2⟩
    · next hge =>
      have hlt : k - L.length < 1 := by
        rw [List.getElem?_eq_some_iff] at hk
        exact hk.1
      have hk0 : k = L.length := by omega
      subst hk0
      rw [Nat.sub_self] at hk
      cases hk
      have ht : (L ++ [l]).take L.length = L := by
        rw [List.take_append_of_le_length (Nat.le_refl _), List.take_length]
      rw [ht]
      exact ⟨h2, h3⟩
def MLR (I : IM) (tp : List Nat) (L : List Ln) (r : Sum Nat (Nat × Ln)) : Prop := match r with
  | .inl f => ∃ q a, MF I tp f q a
  | .inr (q, l) => LSn I tp q (L ++ [l])
section TEXT
variable {D : Nat} {I : IM} {J : JM} {b : Bool} {tp : List Nat} {p f q a : Nat} {L : List Ln}
theorem MF.fr {I' : IM} (h : MF I tp f q a) (e : ∀ s k, (s = 10 ∧ 20 ≤ k ∧ k ≤ 24) ∨ s = 53 → I' s 0 k = I s 0 k) : MF I' tp f q a := by
  obtain ⟨h1, h2, h3, h4, h5, h6, h7⟩ := h
  exact ⟨(e _ _ (by omega)).trans h1, h2, (e _ _ (by omega)).trans h3, h4, (e _ _ (by omega)).trans h5, (e _ _ (by omega)).trans h6, fun k x hk => (e _ _ (by omega)).trans (h7 k x hk)⟩
theorem x_mline (hN : tpOK tp) (hD : 60 ≤ D) (hS : LSn I tp p L) (hL : L.length ≤ 60) (hl : (stS L).length ≤ p) : Call (D + 1) 163 [vr 10 0] (101, I, J, R0 b) (RVf b fun I' J' => J' = J ∧ Fr pMl I I' ∧ MLR I' tp L (lnE tp p)) := by
  have hN1 := hN.1
  obtain ⟨hS, hLn⟩ := hS
  have hp := hS.2.2.2.2.2.2
  obtain ⟨D, rfl⟩ : ∃ D', D = D' + 1 := ⟨D - 1, by omega⟩
  have hg := pE_good (tp := tp) 42 0 0 p hp
  have hsh : ∀ n : Nat, n < 200 → ((iZ (n : Int)).toInt16.toInt32).toInt16.toInt32 = iZ (n : Int) := fun n hn => (sh_all ⟨n, hn⟩).1
  refine t_X10_line (D := D + 1) I J b ?_
  have e61 : (61 : Int32) + iZ (L.length : Int) = iZ ((61 + L.length : Nat) : Int) := by
    rw [show (61 : Int32) = iZ 61 from rfl, iZ_add]
    congr 1
  have hv : vp_in (iZ ((61 + L.length : Nat) : Int)) 122 := vp_iZ (by omega) (by omega) (by omega)
  rw [hLn.1, e61, iZ_ck (by omega), hS.2.2.2.1, hsh _ (by omega)]
  refine ⟨hv, ?_⟩
  have u0 : ∀ s i k, ¬ (s = 57 ∧ k = 61 + L.length) → updI I 57 0 (61 + L.length) (iZ ((stS L).length : Int)) s i k = I s i k := fun s i k z => by rw [updI_if, if_neg (by omega)]
  have a57 : updI I 57 0 (61 + L.length) (iZ ((stS L).length : Int)) 57 0 (61 + L.length) = iZ ((stS L).length : Int) := uI_eq
  have hF0 : Fr pMl I (updI I 57 0 (61 + L.length) (iZ ((stS L).length : Int))) := Fr.id.upd (pMl_iff.mpr (by omega))
  generalize updI I 57 0 (61 + L.length) (iZ ((stS L).length : Int)) = I0 at u0 a57 hF0 ⊢
  have hS0 : MS I0 tp p 0 (stS L) := hS.fr (fun s k z => u0 _ _ _ (by omega))
  refine ((x_mall hN 42 0 0 p (by omega) (by omega) (by omega) hp) D I0 J b (stS L) (by omega) hS0 hl).mono ?_
  rintro r h ⟨I1, J1, rfl, rfl, rfl, hf1, k1⟩
  refine RVf.mk ?_
  have nd : ∀ s i k, ¬ (s = 54 ∨ s = 55) → ¬ (s = 10) → pMd s i k = false := fun s i k z1 z2 => bf_of pMd_iff (by omega)
  have hF1 := hF0.tr (pMd_l hf1)
  -- what a line ends with
  have hend : ∀ (I9 : IM) (v : Int32), Fr pMl I I9 → Fr pMl I (updI (updI I9 58 0 (61 + L.length) v) 56 0 1 (I9 56 0 1 + (1 : Int32))) := fun I9 v hh => (hh.upd (pMl_iff.mpr (by omega))).upd (pMl_iff.mpr (by omega))
  cases hx : pE tp 42 0 0 p with
  | inl f =>
    have e0 : lnE tp p = .inl f := by
      unfold lnE
      rw [hx]
    rw [hx] at k1
    obtain ⟨q, a, q1, q2, hm1⟩ := k1
    rw [e0]
    refine ifp (hm1.ge hN) ⟨hv, RVf.mk ⟨rfl, hend _ _ hF1, q, a, hm1.fr (fun s k z => by rw [updI_if, if_neg (by omega), updI_if, if_neg (by omega)])⟩⟩
  | inr w =>
    obtain ⟨q, T⟩ := w
    rw [hx] at k1 hg
    obtain ⟨g1, g2, g3, g4⟩ := hg
    have k1 : MS I1 tp q 0 (stS L ++ T) := k1
    refine ifn k1.nge ((p_look_s (D := D) hN k1).use (ift (mV_isn (k := 63) (by omega) rfl) (fun c1 => ?_) (fun c1 => ?_)))
    · have e0 : lnE tp p = .inr (q, (none, T)) := by
        unfold lnE
        rw [hx]
        dsimp only
        rw [if_neg c1]
      rw [e0, k1.2.2.2.1, hsh _ (by rw [List.length_append]; omega)]
      have h56 : I1 56 0 1 = iZ (L.length : Int) := (hf1 _ _ _ (nd _ _ _ (by omega) (by omega))).trans ((u0 _ _ _ (by omega)).trans hLn.1)
      refine ⟨hv, RVf.mk ⟨rfl, hend _ _ hF1, ?_, LnN.snoc hLn ?_ ?_ ?_ (fun s k z => ?_)⟩⟩
      · have es : stS (L ++ [(none, T)]) = stS L ++ T := by
          rw [stS_snoc]
          rfl
        rw [es]
        exact k1.fr (fun s k z => by rw [updI_if, if_neg (by omega), updI_if, if_neg (by omega)])
      · rw [uI_eq, h56, iZ_s]
      · rw [updI_if, if_neg (by omega), updI_if, if_neg (by omega), hf1 _ _ _ (nd _ _ _ (by omega) (by omega))]
        exact a57
      · rw [updI_if, if_neg (by omega), uI_eq, List.length_append]
        rfl
      · rw [updI_if, if_neg (by omega), updI_if, if_neg (by omega), hf1 _ _ _ (nd _ _ _ (by omega) (by omega)), u0 _ _ _ (by omega)]
    · have c1 := Classical.not_not.mp c1
      have hlt := chT_lt (tp := tp) (p := q) (by omega)
      have hg2 := pE_good (tp := tp) 42 0 0 (q + 1) (by omega)
      rw [k1.2.2.2.1, hsh _ (by rw [List.length_append]; omega)]
      refine ⟨hv, ?_⟩
      have k2 : MS (updI (updI I1 10 0 21 ((I1 10 0 21) + (1 : Int32))) 57 0 (61 + L.length) (iZ ((stS L ++ T).length : Int))) tp (q + 1) 0 (stS L ++ T) := (k1.go hlt).fr (fun s k z => by rw [updI_if, if_neg (by omega)])
      have hF2 : Fr pMl I (updI (updI I1 10 0 21 ((I1 10 0 21) + (1 : Int32))) 57 0 (61 + L.length) (iZ ((stS L ++ T).length : Int))) := (hF1.tr (pMd_l pMd_go)).upd (pMl_iff.mpr (by omega))
      have u2 : ∀ s i k, ¬ (s = 57 ∧ k = 61 + L.length) → ¬ s = 10 → updI (updI I1 10 0 21 ((I1 10 0 21) + (1 : Int32))) 57 0 (61 + L.length) (iZ ((stS L ++ T).length : Int)) s i k = I1 s i k := fun s i k z1 z2 => by rw [updI_if, if_neg (by omega), updI_if, if_neg (by omega)]
      have b57 : updI (updI I1 10 0 21 ((I1 10 0 21) + (1 : Int32))) 57 0 (61 + L.length) (iZ ((stS L ++ T).length : Int)) 57 0 (61 + L.length) = iZ ((stS L ++ T).length : Int) := uI_eq
      generalize updI (updI I1 10 0 21 ((I1 10 0 21) + (1 : Int32))) 57 0 (61 + L.length) (iZ ((stS L ++ T).length : Int)) = I2 at k2 hF2 u2 b57 ⊢
      refine ((x_mall hN 42 0 0 (q + 1) (by omega) (by omega) (by omega) (by omega)) D I2 J1 b (stS L ++ T) (by omega) k2 (by rw [List.length_append]; omega)).mono ?_
      rintro r h ⟨I3, J3, rfl, rfl, rfl, hf3, k3⟩
      have hF3 := hF2.tr (pMd_l hf3)
      refine RVf.mk ⟨hv, ?_⟩
      cases hx2 : pE tp 42 0 0 (q + 1) with
      | inl f =>
        have e0 : lnE tp p = .inl f := by
          unfold lnE
          rw [hx]
          dsimp only
          rw [if_pos c1, hx2]
        rw [hx2] at k3
        obtain ⟨q3, a, q1, q2, hm1⟩ := k3
        rw [e0]
        exact RVf.mk ⟨rfl, hend _ _ hF3, q3, a, hm1.fr (fun s k z => by rw [updI_if, if_neg (by omega), updI_if, if_neg (by omega)])⟩
      | inr w =>
        obtain ⟨q3, U⟩ := w
        rw [hx2] at k3 hg2
        obtain ⟨j1, j2, j3, j4⟩ := hg2
        have k3 : MS I3 tp q3 0 (stS L ++ T ++ U) := k3
        have e0 : lnE tp p = .inr (q3, (some T, U)) := by
          unfold lnE
          rw [hx]
          dsimp only
          rw [if_pos c1, hx2]
        rw [e0, k3.2.2.2.1, hsh _ (by rw [List.length_append, List.length_append]; omega)]
        have h56 : I3 56 0 1 = iZ (L.length : Int) := by
          rw [hf3 _ _ _ (nd _ _ _ (by omega) (by omega)), u2 _ _ _ (by omega) (by omega), hf1 _ _ _ (nd _ _ _ (by omega) (by omega)), u0 _ _ _ (by omega)]
          exact hLn.1
        refine RVf.mk ⟨rfl, hend _ _ hF3, ?_, LnN.snoc hLn ?_ ?_ ?_ (fun s k z => ?_)⟩
        · have es : stS (L ++ [(some T, U)]) = stS L ++ T ++ U := by
            rw [stS_snoc, List.append_assoc]
            rfl
          rw [es]
          exact k3.fr (fun s k z => by rw [updI_if, if_neg (by omega), updI_if, if_neg (by omega)])
        · rw [uI_eq, h56, iZ_s]
        · rw [updI_if, if_neg (by omega), updI_if, if_neg (by omega), hf3 _ _ _ (nd _ _ _ (by omega) (by omega)), b57, List.length_append]
          rfl
        · rw [updI_if, if_neg (by omega), uI_eq, List.length_append, List.length_append]
          congr 2
          show (stS L).length + T.length + U.length = (stS L).length + (T ++ U).length
          rw [List.length_append]
          omega
        · rw [updI_if, if_neg (by omega), updI_if, if_neg (by omega), hf3 _ _ _ (nd _ _ _ (by omega) (by omega)), u2 _ _ _ (by omega) (by omega), hf1 _ _ _ (nd _ _ _ (by omega) (by omega)), u0 _ _ _ (by omega)]
/-- what is laid as a new text: behind the tape's end -/
def NwS (I : IM) (L : List Ln) : Prop := I 10 0 24 = iZ ((stS L).length : Int) ∧ (∀ (k w : Nat), (stS L)[k]? = some w → I 54 0 (130 + k) = iZ (am w : Int) ∧ I 55 0 (130 + k) = iZ (wi w : Int)) ∧ LnN I L
theorem w_cp177 {I0 : IM} (hN : NwS I0 L) (hL : L.length ≤ 61) (hs : (stS L).length ≤ 130) : ∀ (m l : Nat) (I : IM), m + l = L.length → (∀ s i k, ¬ ((s = 57 ∨ s = 58) ∧ k < 61) → I s i k = I0 s i k) → I0 56 0 0 = iZ (L.length : Int) → (∀ k, k < l → I 57 0 k = I0 57 0 (61 + k) ∧ I 58 0 k = I0 58 0 (61 + k)) → WP (D + 1) 164 177 [vr 10 0, vi 0, vi (iZ (l : Int))] [] (101, I, J, R0 b) (RIf b fun x I' J' => x = -1 ∧ J' = J ∧ (∀ s i k, ¬ ((s = 57 ∨ s = 58) ∧ k < 61) → I' s i k = I0 s i k) ∧ ∀ k, k < L.length → I' 57 0 k = I0 57 0 (61 + k) ∧ I' 58 0 k = I0 58 0 (61 + k)) := by
  intro m
  induction m with
  | zero =>
    intro l I hl hf h56 hk
    have : l = L.length := by omega
    subst this
    refine t_X10_readText_177 _ _ I J b ⟨vp_iZ (n := 0) (by omega) (by omega) (by omega), ?_⟩
    rw [show (0 : Int32).toNatClampNeg = 0 from rfl, hf _ _ _ (by omega), h56]
    exact ifp (tle (by omega) (by omega) (by omega)) (RIf.mk ⟨rfl, rfl, hf, hk⟩)
  | succ m ih =>
    intro l I hl hf h56 hk
    refine t_X10_readText_177 _ _ I J b ⟨vp_iZ (n := 0) (by omega) (by omega) (by omega), ?_⟩
    have e1 : (61 : Int32) + iZ (l : Int) = iZ ((61 + l : Nat) : Int) := by
      rw [show (61 : Int32) = iZ 61 from rfl, iZ_add]
      congr 1
    have e2 : (61 : Int32) * (0 : Int32) + iZ (l : Int) = iZ (l : Int) := by
      rw [show (61 : Int32) * (0 : Int32) = iZ 0 from rfl, iZ_add, Int.zero_add]
    have hlt : l < L.length := by omega
    obtain ⟨y1, y2⟩ := hN.2.2.2 l _ (List.getElem?_eq_getElem hlt)
    have hb : (stS (L.take l)).length + (lnS L[l]).length ≤ 130 := by
      have h1 : stS L = stS (L.take l) ++ (lnS L[l] ++ stS (L.drop (l + 1))) := by
        conv => lhs; rw [← List.take_append_drop l L, List.drop_eq_getElem_cons hlt]
        unfold stS
        rw [List.flatMap_append, List.flatMap_cons]
      have h2 := congrArg List.length h1
      rw [List.length_append, List.length_append] at h2
      omega
    have hb2 : (L[l].1.getD []).length ≤ (lnS L[l]).length := by
      unfold lnS
      rw [List.length_append]
      omega
    have s1 : (I 57 0 (61 + l)).toInt16.toInt32 = I0 57 0 (61 + l) := by
      rw [hf _ _ _ (by omega), y1, (sh_all ⟨_, by omega⟩).2]
    have s2 : (I 58 0 (61 + l)).toInt16.toInt32 = I0 58 0 (61 + l) := by
      rw [hf _ _ _ (by omega), y2, (sh_all ⟨_, by omega⟩).2]
    rw [show (0 : Int32).toNatClampNeg = 0 from rfl, hf 56 0 0 (by omega), h56, e1, e2, iZ_ck (k := 61 + l) (by omega), iZ_ck (k := l) (by omega), s1, s2, iZ_s]
    have v1 : vp_in (iZ ((61 + l : Nat) : Int)) 122 := vp_iZ (by omega) (by omega) (by omega)
    have v2 : vp_in (iZ (l : Int)) 122 := vp_iZ (by omega) (by omega) (by omega)
    refine ifn (nle (by omega) (by omega) (by omega)) ⟨v1, v2, v1, v2, ih (l + 1) _ (by omega) (fun s i k z => ?_) h56 (fun k hk2 => ?_)⟩
    · rw [updI_if, if_neg (by omega), updI_if, if_neg (by omega)]
      exact hf s i k z
    · by_cases h : k = l
      · subst h
        refine ⟨?_, ?_⟩
        · rw [updI_if, if_neg (by omega), uI_eq]
        · rw [uI_eq]
      · obtain ⟨a1, a2⟩ := hk k (by omega)
        refine ⟨?_, ?_⟩ <;> (rw [updI_if, if_neg (by omega), updI_if, if_neg (by omega)]; assumption)
theorem w_cp105 {I0 : IM} {Q : Option AV → AH → Prop} (hN : NwS I0 L) (hs : (stS L).length ≤ 130) (hw : ∀ w ∈ stS L, tkOK w) (K : ∀ I', (∀ s i k, ¬ ((s = 54 ∨ s = 55) ∧ k < 130) → I' s i k = I0 s i k) → (∀ k, k < (stS L).length → I' 54 0 k = I0 54 0 (130 + k) ∧ I' 55 0 k = I0 55 0 (130 + k)) → WP (D + 1) 164 177 [vr 10 0, vi 0, vi 0] [] (101, (updI I' 56 0 0 (I' 56 0 1)), J, R0 b) Q) : ∀ (m l : Nat) (I : IM), m + l = (stS L).length → (∀ s i k, ¬ ((s = 54 ∨ s = 55) ∧ k < 130) → I s i k = I0 s i k) → (∀ k, k < l → I 54 0 k = I0 54 0 (130 + k) ∧ I 55 0 k = I0 55 0 (130 + k)) → WP (D + 1) 164 105 [vr 10 0, vi 0, vi (iZ (l : Int))] [] (101, I, J, R0 b) Q := by
  intro m
  induction m with
  | zero =>
    intro l I hl hf hk
    have : l = (stS L).length := by omega
    subst this
    refine t_X10_readText_105 _ _ I J b ?_
    rw [hf 10 0 24 (by omega), hN.1]
    exact ifp (tle (by omega) (by omega) (by omega)) ⟨vp_iZ (n := 0) (by omega) (by omega) (by omega), K I hf hk⟩
  | succ m ih =>
    intro l I hl hf hk
    refine t_X10_readText_105 _ _ I J b ?_
    have e1 : (130 : Int32) + iZ (l : Int) = iZ ((130 + l : Nat) : Int) := by
      rw [show (130 : Int32) = iZ 130 from rfl, iZ_add]
      congr 1
    have e2 : (130 : Int32) * (0 : Int32) + iZ (l : Int) = iZ (l : Int) := by
      rw [show (130 : Int32) * (0 : Int32) = iZ 0 from rfl, iZ_add, Int.zero_add]
    have hlt : l < (stS L).length := by omega
    have hge := List.getElem?_eq_getElem hlt
    obtain ⟨y1, y2⟩ := hN.2.1 l _ hge
    have ham := am_lt (hw _ (List.mem_of_getElem? hge))
    have hb : ∀ a : Nat, a < 128 → (iZ (a : Int)).toInt8.toInt32 = iZ (a : Int) := fun a ha => by
      rw [mv_all ⟨a, by omega⟩]
      unfold mvI
      rw [if_pos ha]
    have s1 : (I 54 0 (130 + l)).toInt8.toInt32 = I0 54 0 (130 + l) := by
      rw [hf _ _ _ (by omega), y1, hb _ ham]
    rw [hf 10 0 24 (by omega), hN.1, e1, e2, iZ_ck (k := 130 + l) (by omega), iZ_ck (k := l) (by omega), s1, hf 55 0 (130 + l) (by omega), iZ_s]
    have v1 : vp_in (iZ ((130 + l : Nat) : Int)) 260 := vp_iZ (by omega) (by omega) (by omega)
    have v2 : vp_in (iZ (l : Int)) 260 := vp_iZ (by omega) (by omega) (by omega)
    refine ifn (nle (by omega) (by omega) (by omega)) ⟨v1, v2, v1, v2, ih (l + 1) _ (by omega) (fun s i k z => ?_) (fun k hk2 => ?_)⟩
    · rw [updI_if, if_neg (by omega), updI_if, if_neg (by omega)]
      exact hf s i k z
    · by_cases h : k = l
      · subst h
        refine ⟨?_, ?_⟩
        · rw [updI_if, if_neg (by omega), uI_eq]
        · rw [uI_eq]
      · obtain ⟨a1, a2⟩ := hk k (by omega)
        refine ⟨?_, ?_⟩ <;> (rw [updI_if, if_neg (by omega), updI_if, if_neg (by omega)]; assumption)
end TEXT
