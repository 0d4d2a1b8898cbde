/-! ORDERS: lists of joints, distinct; what of an order goes in -/
def bl (l : List Nat) : Nat := l.foldl (fun a j => a ||| 2 ^ j) 0
theorem bl_app (l : List Nat) (j : Nat) : bl (l ++ [j]) = bl l ||| 2 ^ j := by simp [bl, List.foldl_append]
theorem bs_bl (E : List En) : bs E = bl (E.map xj) := by simp [bs, bl, List.foldl_map]
theorem bl_bit (l : List Nat) (o : Nat) : (bl l).testBit o = l.contains o := by
  have : ∀ (l : List Nat) (a : Nat), (l.foldl (fun a j => a ||| 2 ^ j) a).testBit o = (a.testBit o || l.contains o) := by
    intro l
    induction l with
    | nil => intro a; simp
    | cons e l ih =>
      intro a
      simp only [List.foldl_cons, List.contains_cons, ih, Nat.testBit_or, Nat.testBit_two_pow]
      by_cases h : e = o
      · simp [h]
      · have h2 : (o == e) = false := by
          simp only [beq_eq_false_iff_ne]
          exact fun z => h z.symm
        simp [h, h2]
  rw [bl, this]
  simp
theorem bl_lt {n : Nat} {l : List Nat} (h : ∀ j ∈ l, j < n) : bl l < 2 ^ n := by
  have : ∀ (l : List Nat) (a : Nat), (∀ j ∈ l, j < n) → a < 2 ^ n → l.foldl (fun a j => a ||| 2 ^ j) a < 2 ^ n := by
    intro l
    induction l with
    | nil => intro a _ ha; exact ha
    | cons e l ih =>
      intro a h ha
      exact ih _ (fun x hx => h x (by simp [hx])) (Nat.or_lt_two_pow ha (Nat.pow_lt_pow_right (by omega) (h e (by simp))))
  exact this l 0 h (Nat.two_pow_pos n)
theorem pc_le2 : ∀ n : Fin 8, ∀ B : Fin 128, B.val < 2 ^ n.val → pcN B.val ≤ n.val := by decide +kernel
theorem pc_7 : ∀ B : Fin 128, ∀ j : Fin 7, pcN B.val = 7 → B.val.testBit j.val = true := by decide +kernel
theorem rev_ind {α : Type} {p : List α → Prop} (h0 : p []) (h1 : ∀ l x, p l → p (l ++ [x])) (l : List α) : p l := by
  have : ∀ l : List α, p l.reverse := by
    intro l
    induction l with
    | nil => exact h0
    | cons x l ih => rw [List.reverse_cons]; exact h1 _ _ ih
  have := this l.reverse
  rwa [List.reverse_reverse] at this
theorem nd_pc (l : List Nat) : l.Nodup → (∀ j ∈ l, j < 7) → pcN (bl l) = l.length := by
  refine rev_ind (p := fun l => l.Nodup → (∀ j ∈ l, j < 7) → pcN (bl l) = l.length) (fun _ _ => by decide) (fun l x ih hn h7 => ?_) l
  rw [List.nodup_append] at hn
  obtain ⟨h1, _, h3⟩ := hn
  have h2 := ih h1 (fun j hj => h7 j (by simp [hj]))
  have hlt : bl l < 128 := bl_lt (n := 7) (fun j hj => h7 j (by simp [hj]))
  have hb : (bl l).testBit x = false := by
    rw [bl_bit]
    cases hc : l.contains x
    · rfl
    · exact absurd rfl (h3 x (by simpa using hc) x (by simp))
  rw [bl_app, pc_or ⟨bl l, hlt⟩ ⟨x, h7 x (by simp)⟩ hb]
  simp [h2]
theorem nd_len {l : List Nat} {n : Nat} (h : l.Nodup) (hn : n ≤ 7) (hl : ∀ j ∈ l, j < n) : l.length ≤ n := by
  rw [← nd_pc l h (fun j hj => Nat.lt_of_lt_of_le (hl j hj) hn)]
  have h1 : bl l < 2 ^ n := bl_lt hl
  have h2 : bl l < 128 := bl_lt (n := 7) (fun j hj => Nat.lt_of_lt_of_le (hl j hj) hn)
  exact pc_le2 ⟨n, by omega⟩ ⟨bl l, h2⟩ h1
/-- a chair, and what is to come to it -/
def ChOK (P : Pa) (E : List En) (f : Nat) (T : List Nat) : Prop := f ≤ E.length ∧ (∀ e ∈ E, xj e < pn P) ∧ (∀ j ∈ T, j < pn P) ∧ ((E.drop f).map xj ++ T).Nodup
theorem ChOK.len {P : Pa} {E : List En} {f : Nat} {T : List Nat} (hP : PaOK P) (h : ChOK P E f T) : E.length - f + T.length ≤ pn P := by
  obtain ⟨h1, h2, h3, h4⟩ := h
  have := nd_len h4 hP.1 (fun j hj => by
    rcases List.mem_append.mp hj with hj | hj
    · obtain ⟨e, he, rfl⟩ := List.mem_map.mp hj
      exact h2 e (List.mem_of_mem_drop he)
    · exact h3 j hj)
  simpa using this
theorem ChOK.pc {P : Pa} {E : List En} {f : Nat} {T : List Nat} (hP : PaOK P) (h : ChOK P E f T) : pcN (bs (E.drop f)) = E.length - f := by
  obtain ⟨h1, h2, h3, h4⟩ := h
  have h7 := hP.1
  rw [bs_bl, nd_pc _ (List.nodup_append.mp h4).1 (fun j hj => by
    obtain ⟨e, he, rfl⟩ := List.mem_map.mp hj
    have := h2 e (List.mem_of_mem_drop he)
    omega)]
  simp
theorem ChOK.new {P : Pa} {E : List En} {f j : Nat} {T : List Nat} (h : ChOK P E f (j :: T)) : ∀ x ∈ E.drop f, xj x ≠ j := by
  intro x hx
  exact (List.nodup_append.mp h.2.2.2).2.2 (xj x) (List.mem_map.mpr ⟨x, hx, rfl⟩) j (by simp)
theorem ChOK.snoc {P : Pa} {E : List En} {f j : Nat} {T : List Nat} {e : En} (h : ChOK P E f (j :: T)) (he : xj e = j) : ChOK P (E ++ [e]) f T := by
  obtain ⟨h1, h2, h3, h4⟩ := h
  refine ⟨by simp; omega, ?_, fun x hx => h3 x (by simp [hx]), ?_⟩
  · intro x hx
    rcases List.mem_append.mp hx with hx | hx
    · exact h2 x hx
    · have : x = e := by simpa using hx
      subst this
      rw [he]
      exact h3 j (by simp)
  · rw [List.drop_append_of_le_length h1, List.map_append, List.append_assoc]
    simpa [he] using h4
theorem ChOK.skip {P : Pa} {E : List En} {f j : Nat} {T : List Nat} (h : ChOK P E f (j :: T)) : ChOK P E f T := by
  obtain ⟨h1, h2, h3, h4⟩ := h
  refine ⟨h1, h2, fun x hx => h3 x (by simp [hx]), ?_⟩
  rw [List.nodup_append] at h4 ⊢
  exact ⟨h4.1, (List.nodup_cons.mp h4.2.1).2, fun a ha b hb => h4.2.2 a ha b (by simp [hb])⟩
theorem ChOK.nil {P : Pa} {L : List Nat} (h1 : L.Nodup) (h2 : ∀ j ∈ L, j < pn P) : ChOK P [] 0 L := ⟨Nat.le_refl _, by simp, h2, by simpa using h1⟩
/-- what an order does: its joints are a beginning of it -/
theorem go_spec {P : Pa} (hP : PaOK P) {f : Nat} : ∀ (T : List Nat) (E : List En) (nw : Nat), ChOK P E f T → Gd P E nw → nw + 108 * T.length ≤ 899000 → ∃ n, n ≤ T.length ∧ (go P f T E nw).1.map xj = E.map xj ++ T.take n ∧ (go P f T E nw).1.length = E.length + n ∧ ChOK P (go P f T E nw).1 f (T.drop n) ∧ Gd P (go P f T E nw).1 (go P f T E nw).2 ∧ nw ≤ (go P f T E nw).2 ∧ (go P f T E nw).2 ≤ nw + 108 * n
  | [], E, nw, hC, hG, hb => ⟨0, by simp, by simp [go], by simp [go], by simpa [go] using hC, by simpa [go] using hG, by simp [go], by simp [go]⟩
  | j :: T, E, nw, hC, hG, hb => by
    simp only [List.length_cons] at hb
    have hl := hC.len hP
    simp only [List.length_cons] at hl
    unfold go
    cases hj : joi P E f nw j with
    | none => exact ⟨0, by simp, by simp, by simp, by simpa using hC, hG, Nat.le_refl _, by simp⟩
    | some e =>
      obtain ⟨a1, a2, a3, a4⟩ := joi_some hP hG (hC.2.2.1 j (by simp)) (by omega) (by omega) hj
      obtain ⟨n, b1, b2, b3, b4, b5, b6, b7⟩ := go_spec hP T (E ++ [e]) (xf e) (hC.snoc a1) a4 (by omega)
      dsimp only
      refine ⟨n + 1, by simp; omega, ?_, ?_, by simpa using b4, b5, by omega, by omega⟩
      · rw [b2]
        simp [a1]
      · rw [b3]
        simp
        omega
theorem go_app {P : Pa} {f : Nat} : ∀ (T : List Nat) (E : List En) (nw : Nat), ∃ F, (go P f T E nw).1 = E ++ F
  | [], E, nw => ⟨[], by simp [go]⟩
  | j :: T, E, nw => by
    unfold go
    cases joi P E f nw j with
    | none => exact ⟨[], by simp⟩
    | some e =>
      obtain ⟨F, hF⟩ := go_app T (E ++ [e]) (xf e)
      exact ⟨e :: F, by dsimp only; rw [hF]; simp⟩
/-- the plan that stands: the class's, the model's -/
def PlC (I : IM) (L : List Nat) : Prop := I 9 0 11 = iZ (L.length : Int) ∧ ∀ (k j : Nat), L[k]? = some j → I 42 0 k = iZ (j : Int)
def PlM (I : IM) (L : List Nat) : Prop := I 10 0 48 = iZ (L.length : Int) ∧ ∀ (k j : Nat), L[k]? = some j → I 68 0 k = iZ (j : Int)
theorem PlC.eq {I I' : IM} {L : List Nat} (h : PlC I L) (h1 : I' 9 0 11 = I 9 0 11) (h2 : ∀ k, I' 42 0 k = I 42 0 k) : PlC I' L := ⟨h1.trans h.1, fun k j hk => (h2 k).trans (h.2 k j hk)⟩
theorem pW_f {w s j k : Nat} (h : j ≠ w ∨ (s ≠ 8 ∧ (s < 30 ∨ 35 < s)) ∨ (s = 8 ∧ k < 9)) : pW w s j k = false := by
  cases hb : pW w s j k
  · rfl
  · exfalso
    unfold pW at hb
    simp only [Bool.or_eq_true, Bool.and_eq_true, nb_iff, Nat.ble_eq] at hb
    omega
theorem PlC.fr {I I' : IM} {L : List Nat} {w : Nat} (h : PlC I L) (hf : Fr (pW w) I I') : PlC I' L := h.eq (hf _ _ _ (pW_f (by omega))) (fun k => hf _ _ _ (pW_f (by omega)))
theorem BeAt.fr {I I' : IM} {P : Pa} {w : Nat} (h : BeAt I P) (hf : Fr (pW w) I I') : BeAt I' P := ⟨(hf _ _ _ (pW_f (by omega))).trans h.1, fun j q hj hq => (hf _ _ _ (pW_f (by omega))).trans (h.2 j q hj hq)⟩
theorem ShAt.fr {I I' : IM} {P : Pa} {w : Nat} (h : ShAt I P) (hf : Fr (pW w) I I') : ShAt I' P := ⟨(hf _ _ _ (pW_f (by omega))).trans h.1, (hf _ _ _ (pW_f (by omega))).trans h.2.1, (hf _ _ _ (pW_f (by omega))).trans h.2.2.1, fun j n hj hn => (hf _ _ _ (pW_f (by omega))).trans (h.2.2.2 j n hj hn)⟩
section PLAN
variable {D : Nat} {J : JM} {b : Bool} {P : Pa}
/-- what trying a plan does: from some place on -/
def TrT (P : Pa) (I : IM) (J : JM) (E : List En) (f nw : Nat) (T : List Nat) (x : Int32) (I' : IM) (J' : JM) : Prop := J' = J ∧ Fr (pW 0) I I' ∧ WkAt 0 35 I' (go P f T E nw).1 f (go P f T E nw).2 ∧ x = bI (decide ((go P f T E nw).1.length = E.length + T.length))
theorem w_goOn {f : Nat} {L : List Nat} (hP : PaOK P) (hL7 : L.length ≤ 7) : ∀ (T : List Nat) (k : Nat) (E : List En) (nw : Nat) (I0 I : IM), k ≤ L.length → L.drop k = T → PlC I L → BeAt I P → ShAt I P → WkAt 0 35 I E f nw → ChOK P E f T → Gd P E nw → nw + 108 * T.length ≤ 899000 → E.length + T.length ≤ 35 → Fr (pW 0) I0 I → WP (D + 4) 130 2 [vr 9 0, vn, vi (iZ (k : Int))] [] (101, I, J, R0 b) (RIf b (TrT P I0 J E f nw T)) := by
  intro T
  induction T with
  | nil =>
    intro k E nw I0 I hk hT hL hB hS hW hC hG hb h35 hF
    have := dr_nil hT
    refine t_X9_goOnFrom_2 _ I J b ?_
    rw [hL.1]
    refine ifp (tle (by omega) (by omega) (by omega)) (RIf.mk ⟨rfl, hF, by simpa [go] using hW, by simp [go]; rfl⟩)
  | cons j T ih =>
    intro k E nw I0 I hk hT hL hB hS hW hC hG hb h35 hF
    obtain ⟨h1, h2, h3⟩ := dr_cons hT
    have hl := hC.len hP
    simp only [List.length_cons] at hl hb h35
    refine t_X9_goOnFrom_2 _ I J b ?_
    rw [hL.1]
    refine ifn (nle (by omega) (by omega) (by omega)) ⟨vp_iZ (by omega) (by omega) (by omega), ?_⟩
    rw [iZ_ck (by omega), hL.2 k j h1]
    refine (e_join hW hB hS hP hG (hC.2.2.1 j (by simp)) (by omega) (by omega)).useI ?_
    intro x I1 J1 ⟨hJ, h⟩
    subst hJ
    unfold TrT go
    cases hj : joi P E f nw j with
    | none =>
      rw [hj] at h
      obtain ⟨rfl, rfl⟩ := h
      refine ifn (fun z => z rfl) (RIf.mk ⟨rfl, hF, hW, ?_⟩)
      rw [decide_eq_false (by simp)]
      rfl
    | some e =>
      rw [hj] at h
      obtain ⟨rfl, hW1, hF1⟩ := h
      obtain ⟨a1, a2, a3, a4⟩ := joi_some hP hG (hC.2.2.1 j (by simp)) (by omega) (by omega) hj
      refine ifp (by decide) ?_
      rw [iZ_s]
      have := ih (k + 1) (E ++ [e]) (xf e) I0 I1 (by omega) h2 (hL.fr hF1) (hB.fr hF1) (hS.fr hF1) hW1 (hC.snoc a1) a4 (by omega) (by simp; omega) (hF.tr hF1)
      unfold TrT at this
      dsimp only
      have e1 : (E ++ [e]).length + T.length = E.length + (j :: T).length := by simp; omega
      rw [e1] at this
      exact this
theorem e_clear {r : Nat} {w : Nat} {I : IM} {m : Nat} (hR : WkR w r I) : Call (D + 1) 60 [vr 8 w, vi (iZ (m : Int))] (101, I, J, R0 b) (RVf b fun I' J' => J' = J ∧ Fr (pW w) I I' ∧ WkAt w r I' [] 0 m) := by
  refine t_X8_clear w _ I J b (RVf.mk ⟨rfl, ?_, ?_⟩)
  · refine Fr.upd (Fr.upd (Fr.upd (Fr.upd Fr.id ?_) ?_) ?_) ?_ <;> simp [pW]
  · refine ⟨hR.fr ?_, ?_, ?_, ?_, ?_, ?_, by simp, by simp⟩
    · simp [updI_if]
    · simp [updI_if]; rfl
    · simp [updI_if]; rfl
    · simp [updI_if]; rfl
    · simp [updI_if]
    · intro k e hk
      simp at hk
theorem e_goOn {f nw : Nat} {L : List Nat} {I : IM} {E : List En} {k : Nat} (hP : PaOK P) (hL7 : L.length ≤ 7) (hk : k ≤ L.length) (hL : PlC I L) (hB : BeAt I P) (hS : ShAt I P) (hW : WkAt 0 35 I E f nw) (hC : ChOK P E f (L.drop k)) (hG : Gd P E nw) (hb : nw + 108 * 7 ≤ 899000) (h35 : E.length + L.length ≤ 35) : Call (D + 5) 130 [vr 9 0, vi (iZ (k : Int))] (101, I, J, R0 b) (RIf b (TrT P I J E f nw (L.drop k))) := by
  refine t_X9_goOnFrom _ I J b ?_
  have : (L.drop k).length ≤ L.length := by simp
  exact w_goOn hP hL7 _ k E nw I I hk rfl hL hB hS hW hC hG (by omega) (by omega) Fr.id
/-- a whole try, from minute 0 -/
def goL (P : Pa) (L : List Nat) : List En := (go P 0 L [] 0).1
def goN (P : Pa) (L : List Nat) : Nat := (go P 0 L [] 0).2
theorem Gd.nil {P : Pa} {nw : Nat} (h : nw ≤ 900000) : Gd P [] nw := ⟨by simp, h⟩
theorem e_tryPlan {L : List Nat} {I : IM} (hP : PaOK P) (hN : L.Nodup) (hn : ∀ j ∈ L, j < pn P) (hL : PlC I L) (hB : BeAt I P) (hS : ShAt I P) (hR : WkR 0 35 I) : Call (D + 6) 129 [vr 9 0] (101, I, J, R0 b) (RIf b fun x I' J' => J' = J ∧ Fr (pW 0) I I' ∧ WkAt 0 35 I' (goL P L) 0 (goN P L) ∧ x = iZ ((goL P L).length : Int)) := by
  have hl := nd_len hN hP.1 hn
  have h7 := hP.1
  refine t_X9_tryPlan I J b ?_
  refine (e_clear (m := 0) hR).useV ?_
  rintro I1 J1 ⟨rfl, hF, hW⟩
  refine (e_goOn (k := 0) hP (by omega) (by omega) (hL.fr hF) (hB.fr hF) (hS.fr hF) hW (ChOK.nil hN hn) (Gd.nil (by omega)) (by omega) (by simp; omega)).useI ?_
  rintro x I2 J2 ⟨rfl, hF2, hW2, _⟩
  refine RIf.mk ⟨rfl, hF.tr hF2, hW2, hW2.2.1⟩
theorem w_goWo {L : List Nat} {p : Nat} (hP : PaOK P) (hL7 : L.length ≤ 7) (hp : p < L.length) : ∀ (n k : Nat) (T : List Nat) (E : List En) (nw : Nat) (I0 I : IM), n + k = L.length → (if k ≤ p then (L.drop k).eraseIdx (p - k) else L.drop k) = T → PlC I L → BeAt I P → ShAt I P → WkAt 0 35 I E 0 nw → ChOK P E 0 T → Gd P E nw → nw + 108 * T.length ≤ 899000 → E.length + T.length ≤ 35 → Fr (pW 0) I0 I → WP (D + 4) 131 10 [vr 9 0, vi (iZ (p : Int)), vi (iZ (k : Int))] [] (101, I, J, R0 b) (RIf b fun x I' J' => J' = J ∧ Fr (pW 0) I0 I' ∧ WkAt 0 35 I' (go P 0 T E nw).1 0 (go P 0 T E nw).2 ∧ x = iZ ((go P 0 T E nw).1.length : Int)) := by
  intro n
  induction n with
  | zero =>
    intro k T E nw I0 I hk hT hL hB hS hW hC hG hb h35 hF
    refine t_X9_tryPlanWithout_10 _ _ I J b ?_
    rw [hL.1]
    rw [if_neg (by omega), List.drop_of_length_le (by omega)] at hT
    subst hT
    exact ifp (tle (by omega) (by omega) (by omega)) (RIf.mk ⟨rfl, hF, by simpa [go] using hW, by simpa [go] using hW.2.1⟩)
  | succ n ih =>
    intro k T E nw I0 I hk hT hL hB hS hW hC hG hb h35 hF
    have hkl : k < L.length := by omega
    refine t_X9_tryPlanWithout_10 _ _ I J b ?_
    rw [hL.1, iZ_ck (by omega)]
    refine ifn (nle (by omega) (by omega) (by omega)) ?_
    rw [List.drop_eq_getElem_cons hkl] at hT
    refine ifs (fun c => ?_) (fun c => ⟨vp_iZ (by omega) (by omega) (by omega), ?_⟩)
    · rw [iZ_eq (by omega) (by omega) (by omega) (by omega)] at c
      rw [iZ_s]
      refine ih (k + 1) T E nw I0 I (by omega) ?_ hL hB hS hW hC hG hb h35 hF
      rw [if_pos (by omega), show p - k = 0 by omega, List.eraseIdx_cons_zero] at hT
      rw [if_neg (by omega)]
      exact hT
    · rw [iZ_eq (by omega) (by omega) (by omega) (by omega)] at c
      have hT2 : ∃ T2, T = L[k] :: T2 ∧ (if k + 1 ≤ p then (L.drop (k + 1)).eraseIdx (p - (k + 1)) else L.drop (k + 1)) = T2 := by
        by_cases hkp : k ≤ p
        · rw [if_pos hkp, show p - k = (p - (k + 1)) + 1 by omega, List.eraseIdx_cons_succ] at hT
          exact ⟨_, hT.symm, by rw [if_pos (by omega)]⟩
        · rw [if_neg hkp] at hT
          exact ⟨_, hT.symm, by rw [if_neg (by omega)]⟩
      obtain ⟨T2, rfl, hT2⟩ := hT2
      have hl := hC.len hP
      simp only [List.length_cons] at hl hb h35
      rw [hL.2 k L[k] (List.getElem?_eq_getElem hkl)]
      refine (e_join hW hB hS hP hG (hC.2.2.1 L[k] (by simp)) (by omega) (by omega)).useI ?_
      intro x I1 J1 ⟨hJ, h⟩
      subst hJ
      unfold go
      cases hj : joi P E 0 nw L[k] with
      | none =>
        rw [hj] at h
        obtain ⟨rfl, rfl⟩ := h
        exact ifn (fun z => z rfl) (RIf.mk ⟨rfl, hF, hW, hW.2.1⟩)
      | some e =>
        rw [hj] at h
        obtain ⟨rfl, hW1, hF1⟩ := h
        obtain ⟨a1, a2, a3, a4⟩ := joi_some hP hG (hC.2.2.1 L[k] (by simp)) (by omega) (by omega) hj
        refine ifp (by decide) ?_
        rw [iZ_s]
        exact ih (k + 1) T2 (E ++ [e]) (xf e) I0 I1 (by omega) hT2 (hL.fr hF1) (hB.fr hF1) (hS.fr hF1) hW1 (hC.snoc a1) a4 (by omega) (by simp; omega) (hF.tr hF1)
theorem e_tryWo {L : List Nat} {I : IM} {p : Nat} (hP : PaOK P) (hN : L.Nodup) (hn : ∀ j ∈ L, j < pn P) (hp : p < L.length) (hL : PlC I L) (hB : BeAt I P) (hS : ShAt I P) (hR : WkR 0 35 I) : Call (D + 5) 131 [vr 9 0, vi (iZ (p : Int))] (101, I, J, R0 b) (RIf b fun x I' J' => J' = J ∧ Fr (pW 0) I I' ∧ WkAt 0 35 I' (goL P (L.eraseIdx p)) 0 (goN P (L.eraseIdx p)) ∧ x = iZ ((goL P (L.eraseIdx p)).length : Int)) := by
  have hl := nd_len hN hP.1 hn
  have h7 := hP.1
  refine t_X9_tryPlanWithout _ I J b ?_
  refine (e_clear (m := 0) hR).useV ?_
  rintro I1 J1 ⟨rfl, hF, hW⟩
  have he : (L.eraseIdx p).length ≤ L.length := List.length_eraseIdx_le _ _
  exact w_goWo hP (by omega) hp L.length 0 (L.eraseIdx p) [] 0 I I1 (by omega) (by simp) (hL.fr hF) (hB.fr hF) (hS.fr hF) hW (ChOK.nil ((List.Nodup.sublist (List.eraseIdx_sublist _ _) hN)) (fun j hj => hn j (List.mem_of_mem_eraseIdx hj))) (Gd.nil (by omega)) (by omega) (by simp; omega) hF
end PLAN
