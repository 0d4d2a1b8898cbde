/-! THE MODEL MEETS ALL ORDERS -/
abbrev Mg : Type := Nat × Option (Nat × List Nat) × Nat × Option (List Nat) × Nat
def isW (P : Pa) (n : Nat) (L : List Nat) : Bool := decide ((goL P L).length = n)
def btr (P : Pa) (o : Option (Nat × List Nat)) (L : List Nat) : Option (Nat × List Nat) := match o with
  | none => some (ltE (goL P L), L)
  | some (a, L0) => if ltE (goL P L) < a then some (ltE (goL P L), L) else some (a, L0)
def lkS (P : Pa) (sh : Option (Nat × Sh)) (L : List Nat) : Bool := match sh with
  | none => false
  | some (_, q) => decide (nso (goL P L) q 31 0 = -2)
def fOr (P : Pa) (n : Nat) (a : Nat) (L : List Nat) : Nat := if isW P n L then a + 1 else a
def fBe (P : Pa) (n : Nat) (o : Option (Nat × List Nat)) (L : List Nat) : Option (Nat × List Nat) := if isW P n L then btr P o L else o
def fLk (P : Pa) (n : Nat) (sh : Option (Nat × Sh)) (a : Nat) (L : List Nat) : Nat := if isW P n L && lkS P sh L then a + 1 else a
def fFl (P : Pa) (n : Nat) (sh : Option (Nat × Sh)) (o : Option (List Nat)) (L : List Nat) : Option (List Nat) := if isW P n L && lkS P sh L then (match o with
  | none => some L
  | some x => some x) else o
def mst (P : Pa) (n : Nat) (sh : Option (Nat × Sh)) (m : Mg) (L : List Nat) : Mg := (fOr P n m.1 L, fBe P n m.2.1 L, fLk P n sh m.2.2.1 L, fFl P n sh m.2.2.2.1 L, dps P m.2.2.2.2 L)
theorem mst_f {P : Pa} {n : Nat} {sh : Option (Nat × Sh)} : ∀ (l : List (List Nat)) (m : Mg), l.foldl (mst P n sh) m = (l.foldl (fOr P n) m.1, l.foldl (fBe P n) m.2.1, l.foldl (fLk P n sh) m.2.2.1, l.foldl (fFl P n sh) m.2.2.2.1, l.foldl (dps P) m.2.2.2.2)
  | [], _ => rfl
  | L :: l, m => by
    rw [List.foldl_cons, mst_f l]
    rfl
theorem fLk_b {P : Pa} {n : Nat} {sh : Option (Nat × Sh)} : ∀ (l : List (List Nat)) (a : Nat), l.foldl (fLk P n sh) a ≤ a + l.length
  | [], _ => Nat.le_refl _
  | L :: l, a => by
    rw [List.foldl_cons]
    have h1 := fLk_b (P := P) (n := n) (sh := sh) l (fLk P n sh a L)
    have h2 : fLk P n sh a L ≤ a + 1 := by
      unfold fLk
      split <;> omega
    simp only [List.length_cons]
    omega
def MbB (I : IM) (n : Nat) (o : Option (Nat × List Nat)) : Prop := match o with
  | none => I 10 0 51 = -1
  | some (a, L) => I 10 0 51 = iZ (a : Int) ∧ a ≤ 1000000 ∧ L.length = n ∧ ∀ (k j : Nat), L[k]? = some j → I 69 0 k = iZ (j : Int)
def MbL (I : IM) (n lk : Nat) (o : Option (List Nat)) : Prop := match o with
  | none => lk = 0
  | some L => 0 < lk ∧ L.length = n ∧ ∀ (k j : Nat), L[k]? = some j → I 70 0 k = iZ (j : Int)
def MbD (I : IM) (n d : Nat) : Prop := I 10 0 55 = iZ (d : Int) ∧ d ≤ n
def MrS (P : Pa) (n : Nat) (m : Mg) (I : IM) : Prop := I 10 0 50 = iZ (m.1 : Int) ∧ (pN P = false → MbB I n m.2.1) ∧ I 10 0 53 = iZ (m.2.2.1 : Int) ∧ m.2.2.1 ≤ 900000 ∧ MbL I n m.2.2.1 m.2.2.2.1 ∧ MbD I n m.2.2.2.2
def shI (sh : Option (Nat × Sh)) : Int32 := match sh with
  | none => -1
  | some (s, _) => iZ (s : Int)
/-- what the search reads of the rest -/
def McX (P : Pa) (sh : Option (Nat × Sh)) (I0 : IM) (J : JM) : Prop := MbAt I0 P ∧ StOK P I0 ∧ I0 10 0 45 = 0 ∧ ∀ s q, sh = some (s, q) → pN P = false ∧ s < 6 ∧ ShM I0 J s q ∧ sK q = 2 ∧ ShOK q ∧ sA q ≤ 1
theorem McX.fr {P : Pa} {sh : Option (Nat × Sh)} {I0 I : IM} {J : JM} (h : McX P sh I0 J) (hf : Fr pTh I0 I) : McX P sh I J := by
  obtain ⟨h1, h2, h3, h4⟩ := h
  refine ⟨h1.gf hf, h2.fr hf, (hf _ _ _ (pTh_f (by omega))).trans h3, fun s q e => ?_⟩
  obtain ⟨a1, a2, a3, a4, a5, a6⟩ := h4 s q e
  exact ⟨a1, a2, a3.eq (fun t k ht => hf _ _ _ (pTh_f (by omega))) (fun _ => rfl), a4, a5, a6⟩
theorem ltE_b {P : Pa} {L : List Nat} (hP : PaOK P) (hN : L.Nodup) (hn : ∀ j ∈ L, j < pn P) : ltE (goL P L) ≤ 1000000 ∧ (pN P = false → ltE (goL P L) ≤ 899) := by
  obtain ⟨hG, g1, g2, g3, g4, g5, g6⟩ := goL_ok hP hN hn
  refine ⟨ltE_le (fun x hx => hG.xle hx), fun hp => ltE_le (fun x hx => ?_)⟩
  have := (hG.1 x hx).2.2.2.1
  rw [if_neg (by rw [hp]; decide)] at this
  omega
section MEET
variable {D n : Nat} {P : Pa} {sh : Option (Nat × Sh)} {I0 : IM} {J : JM} {b : Bool}
theorem w_cp70 {Q : Option AV → AH → Prop} {L : List Nat} (hn : n ≤ 7) (hl : L.length = n) : ∀ (r k : Nat) (I : IM), r + k = n → I 10 0 1 = iZ (n : Int) → (∀ (q j : Nat), L[q]? = some j → I 68 0 q = iZ (j : Int)) → (∀ (q j : Nat), L[q]? = some j → q < k → I 70 0 q = iZ (j : Int)) → (∀ I', (∀ s j q, ¬ (s = 70 ∧ j = 0) → I' s j q = I s j q) → (∀ (q j : Nat), L[q]? = some j → I' 70 0 q = iZ (j : Int)) → Q none (101, updI I' 10 0 53 (I' 10 0 53 + (1 : Int32)), J, R0 b)) → WP D 190 127 [vr 10 0, vi (iZ (k : Int))] [] (101, I, J, R0 b) Q := by
  intro r
  induction r with
  | zero =>
    intro k I hk h1 h2 h3 K
    refine t_X10_metOrder_127 _ I J b ?_
    rw [h1]
    exact ifp (tle (by omega) (by omega) (by omega)) (K I (fun _ _ _ _ => rfl) (fun q j hq => h3 q j hq (by have := (List.getElem?_eq_some_iff.mp hq).1; omega)))
  | succ r ih =>
    intro k I hk h1 h2 h3 K
    refine t_X10_metOrder_127 _ I J b ?_
    rw [h1]
    have hv : vp_in (iZ (k : Int)) 7 := vp_iZ (by omega) (by omega) (by omega)
    refine ifn (nle (by omega) (by omega) (by omega)) ⟨hv, hv, ?_⟩
    rw [iZ_s, iZ_ck (by omega)]
    refine ih (k + 1) _ (by omega) (by rw [updI_if, if_neg (by omega)]; exact h1) (fun q j hq => by rw [updI_if, if_neg (by omega)]; exact h2 q j hq) (fun q j hq hqk => ?_) (fun I' k1 k2 => K I' (fun s j q z => ?_) k2)
    · by_cases hqq : q = k
      · subst hqq
        rw [uI_eq]
        exact h2 q j hq
      · rw [updI_if, if_neg (by omega)]
        exact h3 q j hq (by omega)
    · rw [k1 s j q z, updI_if, if_neg (by omega)]
theorem w_cp69 {Q : Option AV → AH → Prop} {L : List Nat} (hn : n ≤ 7) (hl : L.length = n) : ∀ (r k : Nat) (I : IM), r + k = n → I 10 0 1 = iZ (n : Int) → (∀ (q j : Nat), L[q]? = some j → I 68 0 q = iZ (j : Int)) → (∀ (q j : Nat), L[q]? = some j → q < k → I 69 0 q = iZ (j : Int)) → (∀ I', (∀ s j q, ¬ (s = 69 ∧ j = 0) → I' s j q = I s j q) → (∀ (q j : Nat), L[q]? = some j → I' 69 0 q = iZ (j : Int)) → (if (I' 10 0 56) < 0 then Q none (101, I', J, R0 b) else (Call D 204 [vr 10 0, vi (I' 10 0 56)] (101, I', J, R0 b) (RIf b fun x28 I29 J30 => (if x28 < 0 then (if ¬ (I29 10 0 53) = 0 then Q none (101, (updI I29 10 0 53 ((I29 10 0 53) + (1 : Int32))), J30, R0 b) else WP D 190 127 [vr 10 0, vi 0] [] (101, I29, J30, R0 b) Q) else Q none (101, I29, J30, R0 b)))))) → WP D 190 73 [vr 10 0, vi (iZ (k : Int))] [] (101, I, J, R0 b) Q := by
  intro r
  induction r with
  | zero =>
    intro k I hk h1 h2 h3 K
    refine t_X10_metOrder_73 _ I J b ?_
    rw [h1]
    exact ifp (tle (by omega) (by omega) (by omega)) (K I (fun _ _ _ _ => rfl) (fun q j hq => h3 q j hq (by have := (List.getElem?_eq_some_iff.mp hq).1; omega)))
  | succ r ih =>
    intro k I hk h1 h2 h3 K
    refine t_X10_metOrder_73 _ I J b ?_
    rw [h1]
    have hv : vp_in (iZ (k : Int)) 7 := vp_iZ (by omega) (by omega) (by omega)
    refine ifn (nle (by omega) (by omega) (by omega)) ⟨hv, hv, ?_⟩
    rw [iZ_s, iZ_ck (by omega)]
    refine ih (k + 1) _ (by omega) (by rw [updI_if, if_neg (by omega)]; exact h1) (fun q j hq => by rw [updI_if, if_neg (by omega)]; exact h2 q j hq) (fun q j hq hqk => ?_) (fun I' k1 k2 => K I' (fun s j q z => ?_) k2)
    · by_cases hqq : q = k
      · subst hqq
        rw [uI_eq]
        exact h2 q j hq
      · rw [updI_if, if_neg (by omega)]
        exact h3 q j hq (by omega)
    · rw [k1 s j q z, updI_if, if_neg (by omega)]
/-- what one meeting leaves -/
def MeT (P : Pa) (n : Nat) (sh : Option (Nat × Sh)) (m : Mg) (L : List Nat) (I : IM) (J : JM) (I' : IM) (J' : JM) : Prop := J' = J ∧ Fr pTh I I' ∧ I' 10 0 48 = I 10 0 48 ∧ I' 10 0 56 = I 10 0 56 ∧ (∀ k, I' 68 0 k = I 68 0 k) ∧ MrS P n (mst P n sh m L) I'
/-- whether it is liked -/
theorem w_likes {L : List Nat} {m : Mg} {I It : IM} (hX : McX P sh It J) (hP : PaOK P) (hn : pn P = n) (hnd : L.Nodup) (hlt : ∀ j ∈ L, j < n) (hl : L.length = n) (hw : isW P n L = true) (hH : HoAt It (goL P L) 0 (goN P L)) (hlk : m.2.2.1 + 1 ≤ 900000) (h56 : It 10 0 56 = shI sh) (hI56 : I 10 0 56 = shI sh) (hf : Fr pTh I It) (h48 : It 10 0 48 = I 10 0 48) (h68 : ∀ k, It 68 0 k = I 68 0 k) (h68L : ∀ (q j : Nat), L[q]? = some j → It 68 0 q = iZ (j : Int)) (h50 : It 10 0 50 = iZ ((m.1 + 1 : Nat) : Int)) (hB : pN P = false → MbB It n (btr P m.2.1 L)) (h53 : It 10 0 53 = iZ (m.2.2.1 : Int)) (hL : MbL It n m.2.2.1 m.2.2.2.1) (hDd : MbD It n (dps P m.2.2.2.2 L)) :
    (if (It 10 0 56) < 0 then RVf b (MeT P n sh m L I J) none (101, It, J, R0 b) else (Call (D + 3) 204 [vr 10 0, vi (It 10 0 56)] (101, It, J, R0 b) (RIf b fun x28 I29 J30 => (if x28 < 0 then (if ¬ (I29 10 0 53) = 0 then RVf b (MeT P n sh m L I J) none (101, (updI I29 10 0 53 ((I29 10 0 53) + (1 : Int32))), J30, R0 b) else WP (D + 3) 190 127 [vr 10 0, vi 0] [] (101, I29, J30, R0 b) (RVf b (MeT P n sh m L I J))) else RVf b (MeT P n sh m L I J) none (101, I29, J30, R0 b))))) := by
  have n7 : n ≤ 7 := by have := hP.1; omega
  have hno : lkS P sh L = false → RVf b (MeT P n sh m L I J) none (101, It, J, R0 b) := by
    intro hz
    refine RVf.mk ⟨rfl, hf, h48, by rw [h56, hI56], h68, ?_⟩
    unfold mst fOr fBe fLk fFl
    rw [hw, hz]
    exact ⟨h50, hB, h53, by show m.2.2.1 ≤ _; omega, hL, hDd⟩
  cases sh with
  | none =>
    rw [h56]
    exact ifp (show (-1 : Int32) < 0 by decide) (hno rfl)
  | some sq =>
    obtain ⟨s, q⟩ := sq
    obtain ⟨hMb, hSt, h45, hsh⟩ := hX
    obtain ⟨a1, a2, a3, a4, a5, a6⟩ := hsh s q rfl
    obtain ⟨hG, g1, g2, g3, g4, g5, g6⟩ := goL_ok hP hnd (fun x hx => by rw [hn]; exact hlt x hx)
    rw [h56]
    refine ifn (show ¬ iZ (s : Int) < 0 by rw [i_0]; exact nlt (by omega) (by omega) (by omega)) ?_
    refine (p_wrongDrip (D := D) a2 hH hMb hP a1 hG g3 (by rw [List.drop_zero]; exact g4) a3 a4 a5 a6).use ?_
    rw [List.drop_zero]
    rcases nso_c (goL P L) q 31 0 (by omega) with hz | ⟨v, v1, hz⟩
    · have hlS : lkS P (some (s, q)) L = true := decide_eq_true hz
      have key : ∀ I', (∀ t j k, ¬ (t = 70 ∧ j = 0) → ¬ (t = 10 ∧ j = 0 ∧ k = 53) → I' t j k = It t j k) → I' 10 0 53 = iZ ((m.2.2.1 + 1 : Nat) : Int) → MbL I' n (m.2.2.1 + 1) (match m.2.2.2.1 with
        | none => some L
        | some x => some x) → RVf b (MeT P n (some (s, q)) m L I J) none (101, I', J, R0 b) := by
        intro I' k1 k2 k3
        refine RVf.mk ⟨rfl, hf.tr (fun t j k z => k1 t j k ?_ ?_), by rw [k1 _ _ _ (by omega) (by omega)]; exact h48, by rw [k1 _ _ _ (by omega) (by omega), h56, hI56], fun k => by rw [k1 _ _ _ (by omega) (by omega)]; exact h68 k, ?_⟩
        · rintro ⟨rfl, rfl⟩
          have : pTh 70 0 k = true := pTh_iff.mpr (by omega)
          rw [this] at z
          cases z
        · rintro ⟨rfl, rfl, rfl⟩
          have : pTh 10 0 53 = true := pTh_iff.mpr (by omega)
          rw [this] at z
          cases z
        · unfold mst fOr fBe fLk fFl
          rw [hw, hlS]
          refine ⟨(k1 _ _ _ (by omega) (by omega)).trans h50, fun hp => ?_, k2, hlk, k3, (k1 _ _ _ (by omega) (by omega)).trans hDd.1, hDd.2⟩
          have := hB hp
          show MbB I' n (btr P m.2.1 L)
          unfold MbB at this ⊢
          split at this
          · rw [k1 _ _ _ (by omega) (by omega)]; exact this
          · exact ⟨(k1 _ _ _ (by omega) (by omega)).trans this.1, this.2.1, this.2.2.1, fun k j hk => (k1 _ _ _ (by omega) (by omega)).trans (this.2.2.2 k j hk)⟩
      rw [hz]
      refine ifp (by decide) ?_
      rw [h53]
      unfold MbL at hL
      split at hL
      · next he =>
        refine ifn (by rw [hL]; exact fun z => z rfl) ?_
        refine w_cp70 (L := L) n7 hl n 0 It (by omega) (hMb.1.trans (by rw [hn])) h68L (fun q j _ hq => by omega) (fun I' k1 k2 => ?_)
        rw [k1 10 0 53 (by omega), h53, iZ_s]
        refine key _ (fun t j k z1 z2 => ?_) uI_eq ?_
        · rw [updI_if, if_neg z2, k1 t j k z1]
        · rw [he]
          exact ⟨by omega, hl, fun k j hk => by rw [updI_if, if_neg (by omega)]; exact k2 k j hk⟩
      · next x he =>
        refine ifp (by rw [i_0, iZ_eq (by omega) (by omega) (by omega) (by omega)]; omega) ?_
        rw [iZ_s]
        refine key _ (fun t j k z1 z2 => by rw [updI_if, if_neg z2]) uI_eq ?_
        rw [he]
        exact ⟨by omega, hL.2.1, fun k j hk => by rw [updI_if, if_neg (by omega)]; exact hL.2.2 k j hk⟩
    · rw [hz]
      refine ifn (by rw [i_0]; exact nlt (by omega) (by omega) (by omega)) (hno ?_)
      refine decide_eq_false ?_
      rw [hz]
      show ¬ iZ (v : Int) = iZ (-2)
      exact nne (by omega) (by omega) (by omega) (by omega) (by omega)
/-- the best of them -/
theorem w_best {L : List Nat} {m : Mg} {I Ia : IM} {v50 v51 : Int32} (hX : McX P sh Ia J) (hP : PaOK P) (hn : pn P = n) (hnd : L.Nodup) (hlt : ∀ j ∈ L, j < n) (hl : L.length = n) (hw : isW P n L = true) (hH : HoAt Ia (goL P L) 0 (goN P L)) (hlk : m.2.2.1 + 1 ≤ 900000) (h56 : Ia 10 0 56 = shI sh) (hI56 : I 10 0 56 = shI sh) (hf : Fr pTh I Ia) (h48 : Ia 10 0 48 = I 10 0 48) (h68 : ∀ k, Ia 68 0 k = I 68 0 k) (h68L : ∀ (q j : Nat), L[q]? = some j → Ia 68 0 q = iZ (j : Int)) (e50 : v50 = iZ (m.1 : Int)) (e51 : v51 = Ia 10 0 51) (hB : pN P = false → MbB Ia n m.2.1) (h53 : Ia 10 0 53 = iZ (m.2.2.1 : Int)) (hL : MbL Ia n m.2.2.1 m.2.2.2.1) (hDd : MbD Ia n (dps P m.2.2.2.2 L)) :
    (if v51 < 0 then Call (D + 3) 186 [vr 10 0] (101, updI Ia 10 0 50 (v50 + (1 : Int32)), J, R0 b) (RIf b fun x4 I5 J6 => WP (D + 3) 190 73 [vr 10 0, vi 0] [] (101, (updI I5 10 0 51 x4), J6, R0 b) (RVf b (MeT P n sh m L I J)))
    else Call (D + 3) 186 [vr 10 0] (101, updI Ia 10 0 50 (v50 + (1 : Int32)), J, R0 b) (RIf b fun x7 I8 J9 =>
      (if (I8 10 0 51) ≤ x7 then (if (I8 10 0 56) < 0 then RVf b (MeT P n sh m L I J) none (101, I8, J9, R0 b) else (Call (D + 3) 204 [vr 10 0, vi (I8 10 0 56)] (101, I8, J9, R0 b) (RIf b fun x28 I29 J30 => (if x28 < 0 then (if ¬ (I29 10 0 53) = 0 then RVf b (MeT P n sh m L I J) none (101, (updI I29 10 0 53 ((I29 10 0 53) + (1 : Int32))), J30, R0 b) else WP (D + 3) 190 127 [vr 10 0, vi 0] [] (101, I29, J30, R0 b) (RVf b (MeT P n sh m L I J))) else RVf b (MeT P n sh m L I J) none (101, I29, J30, R0 b)))))
      else (Call (D + 3) 186 [vr 10 0] (101, I8, J9, R0 b) (RIf b fun x13 I14 J15 => WP (D + 3) 190 73 [vr 10 0, vi 0] [] (101, (updI I14 10 0 51 x13), J15, R0 b) (RVf b (MeT P n sh m L I J))))))) := by
  have n7 : n ≤ 7 := by have := hP.1; omega
  obtain ⟨hG, g1, g2, g3, g4, g5, g6⟩ := goL_ok hP hnd (fun x hx => by rw [hn]; exact hlt x hx)
  obtain ⟨hb1, hb2⟩ := ltE_b (L := L) hP hnd (fun x hx => by rw [hn]; exact hlt x hx)
  subst e50
  rw [iZ_s]
  have hfb : Fr pTh Ia (updI Ia 10 0 50 (iZ ((m.1 + 1 : Nat) : Int))) := Fr.id.upd rfl
  have hbo : ∀ s j k, ¬ (s = 10 ∧ j = 0 ∧ k = 50) → updI Ia 10 0 50 (iZ ((m.1 + 1 : Nat) : Int)) s j k = Ia s j k := fun s j k z => by rw [updI_if, if_neg z]
  have h50 : updI Ia 10 0 50 (iZ ((m.1 + 1 : Nat) : Int)) 10 0 50 = iZ ((m.1 + 1 : Nat) : Int) := uI_eq
  generalize hIb : updI Ia 10 0 50 (iZ ((m.1 + 1 : Nat) : Int)) = Ib at hfb hbo h50 ⊢
  have hXb := hX.fr hfb
  have hHb : HoAt Ib (goL P L) 0 (goN P L) := hH.eq (fun s k z => hbo _ _ _ (by omega))
  obtain ⟨a, a1, a2, a3⟩ := p_doneNow (D := D + 2) (J := J) (b := b) hHb hXb.1 hP hG g3
  rw [List.drop_zero] at a2
  -- a new best
  have hnew : (pN P = false → btr P m.2.1 L = some (ltE (goL P L), L)) → WP (D + 3) 190 73 [vr 10 0, vi 0] [] (101, (updI Ib 10 0 51 (iZ (a : Int))), J, R0 b) (RVf b (MeT P n sh m L I J)) := by
    intro hbt
    refine w_cp69 (L := L) n7 hl n 0 _ (by omega) ?_ (fun q j hq => ?_) (fun q j _ hq => by omega) (fun I' k1 k2 => ?_)
    · rw [updI_if, if_neg (by omega), hbo _ _ _ (by omega)]
      exact hX.1.1.trans (by rw [hn])
    · rw [updI_if, if_neg (by omega), hbo _ _ _ (by omega)]
      exact h68L q j hq
    · have ho : ∀ s j k, ¬ (s = 10 ∧ j = 0 ∧ (k = 50 ∨ k = 51)) → ¬ (s = 69 ∧ j = 0) → I' s j k = Ia s j k := by
        intro s j k z1 z2
        rw [k1 s j k z2, updI_if, if_neg (by omega), hbo _ _ _ (by omega)]
      have hfi : Fr pTh Ia I' := by
        intro s j k z
        refine ho s j k ?_ ?_
        · rintro ⟨rfl, rfl, hk⟩
          have : pTh 10 0 k = true := pTh_iff.mpr (by omega)
          rw [this] at z
          cases z
        · rintro ⟨rfl, rfl⟩
          have : pTh 69 0 k = true := pTh_iff.mpr (by omega)
          rw [this] at z
          cases z
      refine w_likes (hX.fr hfi) hP hn hnd hlt hl hw (hH.eq (fun s k z => ho _ _ _ (by omega) (by omega))) hlk ((ho _ _ _ (by omega) (by omega)).trans h56) hI56 (hf.tr hfi) ((ho _ _ _ (by omega) (by omega)).trans h48) (fun k => (ho _ _ _ (by omega) (by omega)).trans (h68 k)) (fun q j hq => (ho _ _ _ (by omega) (by omega)).trans (h68L q j hq)) ?_ (fun hp => ?_) ((ho _ _ _ (by omega) (by omega)).trans h53) ?_ ⟨(ho _ _ _ (by omega) (by omega)).trans hDd.1, hDd.2⟩
      · rw [k1 _ _ _ (by omega), updI_if, if_neg (by omega)]
        exact h50
      · rw [hbt hp]
        refine ⟨?_, hb1, hl, k2⟩
        rw [k1 _ _ _ (by omega), uI_eq, a2 hp]
      · unfold MbL at hL ⊢
        split at hL
        · exact hL
        · exact ⟨hL.1, hL.2.1, fun k j hk => (ho _ _ _ (by omega) (by omega)).trans (hL.2.2 k j hk)⟩
  refine ifs (fun c => ?_) (fun c => ?_)
  · refine a3.use (hnew (fun hp => ?_))
    have hBp := hB hp
    unfold MbB at hBp
    split at hBp
    · next he => rw [he]; rfl
    · exfalso
      rw [e51, hBp.1, i_0] at c
      exact nlt (by omega) (by omega) (by omega) c
  · refine a3.use ?_
    have e51b : Ib 10 0 51 = v51 := by rw [e51]; exact hbo _ _ _ (by omega)
    rw [e51b]
    refine ifs (fun c2 => ?_) (fun c2 => ?_)
    · refine w_likes hXb hP hn hnd hlt hl hw hHb hlk ((hbo _ _ _ (by omega)).trans h56) hI56 (hf.tr hfb) ((hbo _ _ _ (by omega)).trans h48) (fun k => (hbo _ _ _ (by omega)).trans (h68 k)) (fun q j hq => (hbo _ _ _ (by omega)).trans (h68L q j hq)) h50 (fun hp => ?_) ((hbo _ _ _ (by omega)).trans h53) ?_ ⟨(hbo _ _ _ (by omega)).trans hDd.1, hDd.2⟩
      · have hBp := hB hp
        unfold MbB at hBp
        split at hBp
        · exfalso
          rw [e51, hBp] at c
          exact c (by decide)
        · next a0 L0 he =>
          rw [e51, hBp.1, a2 hp] at c2
          have c3 := (tle' (by omega) (by omega) (by omega) (by omega)).mp c2
          rw [he]
          unfold btr
          dsimp only
          rw [if_neg (by omega)]
          exact ⟨(hbo _ _ _ (by omega)).trans hBp.1, hBp.2.1, hBp.2.2.1, fun k j hk => (hbo _ _ _ (by omega)).trans (hBp.2.2.2 k j hk)⟩
      · unfold MbL at hL ⊢
        split at hL
        · exact hL
        · exact ⟨hL.1, hL.2.1, fun k j hk => (hbo _ _ _ (by omega)).trans (hL.2.2 k j hk)⟩
    · refine a3.use (hnew (fun hp => ?_))
      have hBp := hB hp
      unfold MbB at hBp
      split at hBp
      · next he => rw [he]; rfl
      · next a0 L0 he =>
        rw [e51, hBp.1, a2 hp] at c2
        have c3 : ltE (goL P L) < a0 := by
          apply Classical.byContradiction
          intro z
          exact c2 ((tle' (by omega) (by omega) (by omega) (by omega)).mpr (by omega))
        rw [he]
        unfold btr
        dsimp only
        rw [if_pos c3]
theorem e_met {L : List Nat} {m : Mg} {I : IM} (hX : McX P sh I J) (hP : PaOK P) (hn : pn P = n) (hnd : L.Nodup) (hlt : ∀ j ∈ L, j < n) (hl : L.length = n) (hlk : m.2.2.1 + 1 ≤ 900000) (h56 : I 10 0 56 = shI sh) (hPl : PlM I L) (hM : MrS P n m I) : Call (D + 8) 190 [vr 10 0] (101, I, J, R0 b) (RVf b (MeT P n sh m L I J)) := by
  have n7 : n ≤ 7 := by have := hP.1; omega
  obtain ⟨m1, m2, m3, m4, m5, m6⟩ := hM
  refine t_X10_metOrder I J b ?_
  refine (e_goOrder (D := D) (dr := false) hP hnd (fun x hx => by rw [hn]; exact hlt x hx) hPl hX.1 hX.2.1 hX.2.2.1).useV ?_
  rw [goZ_f]
  rintro I2 J2 ⟨rfl, hf2, hH, _, h49, _⟩
  dsimp only at hH h49
  have hle := goL_le P L
  have hft : Fr pTh I I2 := pGf_sub hf2
  have hX2 := hX.fr hft
  have e2 : ∀ s k, (s = 10 ∧ (k = 48 ∨ (50 ≤ k ∧ k ≤ 56))) ∨ (68 ≤ s ∧ s ≤ 70) → I2 s 0 k = I s 0 k := fun s k z => hf2 _ _ _ (pGf_f (by omega))
  have h1 : I2 10 0 1 = iZ (n : Int) := hX2.1.1.trans (by rw [hn])
  have hB2 : pN P = false → MbB I2 n m.2.1 := fun hp => by
    have := m2 hp
    unfold MbB at this ⊢
    split at this
    · rw [e2 _ _ (by omega)]; exact this
    · exact ⟨(e2 _ _ (by omega)).trans this.1, this.2.1, this.2.2.1, fun k j hk => (e2 _ _ (by omega)).trans (this.2.2.2 k j hk)⟩
  have hL2 : MbL I2 n m.2.2.1 m.2.2.2.1 := by
    unfold MbL at m5 ⊢
    split at m5
    · exact m5
    · exact ⟨m5.1, m5.2.1, fun k j hk => (e2 _ _ (by omega)).trans (m5.2.2 k j hk)⟩
  have h68 : ∀ k, I2 68 0 k = I 68 0 k := fun k => e2 _ _ (by omega)
  rw [h49, (e2 10 55 (by omega)).trans m6.1, h1]
  -- not whole
  have hnot : isW P n L = false → ∀ I', (∀ s j k, ¬ (s = 10 ∧ j = 0 ∧ k = 55) → I' s j k = I2 s j k) → MbD I' n (dps P m.2.2.2.2 L) → RVf b (MeT P n sh m L I J2) none (101, I', J2, R0 b) := by
    intro hw I' k1 k2
    refine RVf.mk ⟨rfl, hft.tr (fun s j k z => k1 s j k ?_), (k1 _ _ _ (by omega)).trans (e2 _ _ (by omega)), (k1 _ _ _ (by omega)).trans (e2 _ _ (by omega)), fun k => (k1 _ _ _ (by omega)).trans (h68 k), ?_⟩
    · rintro ⟨rfl, rfl, rfl⟩
      have : pTh 10 0 55 = true := pTh_iff.mpr (by omega)
      rw [this] at z
      cases z
    · unfold mst fOr fBe fLk fFl
      rw [hw]
      refine ⟨((k1 _ _ _ (by omega)).trans (e2 _ _ (by omega))).trans m1, fun hp => ?_, ((k1 _ _ _ (by omega)).trans (e2 _ _ (by omega))).trans m3, m4, ?_, k2⟩
      · have := hB2 hp
        show MbB I' n m.2.1
        unfold MbB at this ⊢
        split at this
        · rw [k1 _ _ _ (by omega)]; exact this
        · exact ⟨(k1 _ _ _ (by omega)).trans this.1, this.2.1, this.2.2.1, fun k j hk => (k1 _ _ _ (by omega)).trans (this.2.2.2 k j hk)⟩
      · show MbL I' n m.2.2.1 m.2.2.2.1
        unfold MbL at hL2 ⊢
        split at hL2
        · exact hL2
        · exact ⟨hL2.1, hL2.2.1, fun k j hk => (k1 _ _ _ (by omega)).trans (hL2.2.2 k j hk)⟩
  -- whole
  have hyes : isW P n L = true → ∀ I', (∀ s j k, ¬ (s = 10 ∧ j = 0 ∧ k = 55) → I' s j k = I2 s j k) → MbD I' n (dps P m.2.2.2.2 L) → _ := fun hw I' k1 k2 => w_best (D := D + 4) (I := I) (Ia := I') (m := m) (sh := sh) (J := J2) (b := b) (v50 := I2 10 0 50) (v51 := I2 10 0 51) (hX2.fr (fun s j k z => k1 s j k (by
      rintro ⟨rfl, rfl, rfl⟩
      have : pTh 10 0 55 = true := pTh_iff.mpr (by omega)
      rw [this] at z
      cases z))) hP hn hnd hlt hl hw (hH.eq (fun s k z => k1 _ _ _ (by omega))) hlk (((k1 _ _ _ (by omega)).trans (e2 _ _ (by omega))).trans h56) h56 (hft.tr (fun s j k z => k1 s j k (by
      rintro ⟨rfl, rfl, rfl⟩
      have : pTh 10 0 55 = true := pTh_iff.mpr (by omega)
      rw [this] at z
      cases z))) ((k1 _ _ _ (by omega)).trans (e2 _ _ (by omega))) (fun k => (k1 _ _ _ (by omega)).trans (h68 k)) (fun q j hq => ((k1 _ _ _ (by omega)).trans (h68 q)).trans (hPl.2 q j hq)) ((e2 _ _ (by omega)).trans m1) (k1 _ _ _ (by omega)).symm (fun hp => by
      have := hB2 hp
      unfold MbB at this ⊢
      split at this
      · rw [k1 _ _ _ (by omega)]; exact this
      · exact ⟨(k1 _ _ _ (by omega)).trans this.1, this.2.1, this.2.2.1, fun k j hk => (k1 _ _ _ (by omega)).trans (this.2.2.2 k j hk)⟩) (((k1 _ _ _ (by omega)).trans (e2 _ _ (by omega))).trans m3) (by
      unfold MbL at hL2 ⊢
      split at hL2
      · exact hL2
      · exact ⟨hL2.1, hL2.2.1, fun k j hk => (k1 _ _ _ (by omega)).trans (hL2.2.2 k j hk)⟩) k2
  have hmd := m6.2
  refine ifs (fun c => ?_) (fun c => ?_)
  · have c := (tle' (by omega) (by omega) (by omega) (by omega)).mp c
    have hdd : MbD I2 n (dps P m.2.2.2.2 L) := by
      have : dps P m.2.2.2.2 L = m.2.2.2.2 := by unfold dps; omega
      rw [this]
      exact ⟨(e2 _ _ (by omega)).trans m6.1, m6.2⟩
    refine ifs (fun c2 => ?_) (fun c2 => ?_)
    · have c2 := (tle' (by omega) (by omega) (by omega) (by omega)).mp c2
      exact hyes (decide_eq_true (by omega)) I2 (fun _ _ _ _ => rfl) hdd
    · exact hnot (decide_eq_false (fun z => c2 (tle (by omega) (by omega) (by omega)))) I2 (fun _ _ _ _ => rfl) hdd
  · have c3 : m.2.2.2.2 < (goL P L).length := by
      apply Classical.byContradiction
      intro z
      exact c (tle (by omega) (by omega) (by omega))
    have hdd : MbD (updI I2 10 0 55 (iZ ((goL P L).length : Int))) n (dps P m.2.2.2.2 L) := by
      have : dps P m.2.2.2.2 L = (goL P L).length := by unfold dps; omega
      rw [this]
      exact ⟨uI_eq, by omega⟩
    have ho : ∀ s j k, ¬ (s = 10 ∧ j = 0 ∧ k = 55) → updI I2 10 0 55 (iZ ((goL P L).length : Int)) s j k = I2 s j k := fun s j k z => by rw [updI_if, if_neg z]
    refine ifs (fun c2 => ?_) (fun c2 => ?_)
    · have c2 := (tle' (by omega) (by omega) (by omega) (by omega)).mp c2
      exact hyes (decide_eq_true (by omega)) _ ho hdd
    · exact hnot (decide_eq_false (fun z => c2 (tle (by omega) (by omega) (by omega)))) _ ho hdd
end MEET
