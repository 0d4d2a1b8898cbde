/-! THE MODEL'S HOLDS: what it reads -/
def isHd (e : En) : Bool := decide (0 < xh e) || decide (0 < xc e)
def hl (E : List En) : List En := E.filter isHd
/-- a minute in which something has set, as the model has it: the spec's, or both are never -/
def tOK (x : Int32) (e : En) : Prop := ∃ t : Nat, x = iZ (t : Int) ∧ (t = xs e ∨ (1000000 ≤ xs e ∧ 1000000 ≤ t ∧ t ≤ 2000000))
def HdAt (I : IM) (E : List En) : Prop := I 10 0 36 = iZ ((hl E).length : Int) ∧ ∀ (k : Nat) (e : En), (hl E)[k]? = some e → tOK (I 61 0 k) e ∧ I 62 0 k = iZ (xh e : Int) ∧ I 63 0 k = iZ (xc e : Int)
def HoAt (I : IM) (E : List En) (f nw : Nat) : Prop := HdAt I E ∧ I 10 0 37 = iZ (nw : Int) ∧ I 10 0 38 = iZ (bs (E.drop f) : Int) ∧ ∀ e ∈ E.drop f, tOK (I 66 0 (xj e)) e
def MbAt (I : IM) (P : Pa) : Prop := I 10 0 1 = iZ (pn P : Int) ∧ (∀ j, j < pn P → I 43 0 j = iZ (pT P j 0 : Int) ∧ I 44 0 j = iZ (pT P j 1 : Int) ∧ I 45 0 j = iZ (pT P j 2 : Int) ∧ I 46 0 j = iZ (pT P j 3 : Int) ∧ I 47 0 j = iZ (pT P j 4 : Int) ∧ I 48 0 j = iZ (pT P j 5 : Int)) ∧ (2 : Int32) + (2 : Int32) * I 10 0 8 = iZ (pH P : Int) ∧ I 10 0 9 = iZ (pC P : Int) ∧ I 10 0 44 = bI (pN P)
theorem hl_h (E : List En) (m : Nat) : hAt (hl E) m = hAt E m := by
  induction E with
  | nil => rfl
  | cons e E ih =>
    unfold hl at ih ⊢
    rw [List.filter_cons]
    cases h : isHd e
    · have : xh e = 0 := by
        simp only [isHd, Bool.or_eq_false_iff, decide_eq_false_iff_not] at h
        omega
      simp [hAt, ih, this]
    · simp [hAt, ih]
theorem hl_c (E : List En) (m : Nat) : cAt (hl E) m = cAt E m := by
  induction E with
  | nil => rfl
  | cons e E ih =>
    unfold hl at ih ⊢
    rw [List.filter_cons]
    cases h : isHd e
    · have : xc e = 0 := by
        simp only [isHd, Bool.or_eq_false_iff, decide_eq_false_iff_not] at h
        omega
      simp [cAt, ih, this]
    · simp [cAt, ih]
theorem hl_len (E : List En) : (hl E).length ≤ E.length := List.length_filter_le _ _
theorem hl_mem {E : List En} {e : En} (h : e ∈ hl E) : e ∈ E := (List.mem_filter.mp h).1
theorem tOK.gt {x : Int32} {e : En} (h : tOK x e) {m : Nat} (hm : m < 1000000) (hx : xs e ≤ 1000000) : x ≤ iZ (m : Int) ↔ ¬ m < xs e := by
  obtain ⟨t, rfl, h⟩ := h
  rw [iZ_le (by omega) (by omega) (by omega) (by omega)]
  omega
theorem tOK.lt {x : Int32} {e : En} (h : tOK x e) {m : Nat} (hm : m < 1000000) (hx : xs e ≤ 1000000) : iZ (m : Int) < x ↔ m < xs e := by
  obtain ⟨t, rfl, h⟩ := h
  rw [iZ_lt (by omega) (by omega) (by omega) (by omega)]
  omega
def pcN (B : Nat) : Nat := ((List.range 7).filter fun i => B.testBit i).length
theorem pc_all : ∀ B : Fin 128, 0 < B.val → iZ (B.val : Int) &&& (iZ (B.val : Int) - 1) = iZ ((B.val &&& (B.val - 1) : Nat) : Int) ∧ pcN (B.val &&& (B.val - 1)) + 1 = pcN B.val ∧ B.val &&& (B.val - 1) < B.val := by decide +kernel
theorem pc_or : ∀ B : Fin 128, ∀ j : Fin 7, B.val.testBit j.val = false → pcN (B.val ||| 2 ^ j.val) = pcN B.val + 1 := by decide +kernel
theorem pc_le : ∀ B : Fin 128, pcN B.val ≤ 7 := by decide +kernel
theorem pc_lt : ∀ n : Fin 8, ∀ B : Fin 128, ∀ j : Fin 7, B.val < 2 ^ n.val → j.val < n.val → B.val.testBit j.val = false → pcN B.val < n.val := by decide +kernel
section HOLD
variable {D f nw m : Nat} {I : IM} {J : JM} {b : Bool} {E : List En} {P : Pa}
theorem w_bitsOf : ∀ (n B : Nat) (a : Nat) (v : Int32), B < n → B < 128 → v = iZ ((a + pcN B : Nat) : Int) → WP D 136 4 [vn, vi (iZ (a : Int)), vi (iZ (B : Int))] [] (101, I, J, R0 b) (fun r h => r = some (vi v) ∧ h = (101, I, J, R0 b))
  | 0, B, _, _, h, _, _ => by omega
  | n + 1, B, a, v, h, hB, hv => by
    refine t_X10_bitsOf_4 _ _ I J b (ifs (fun c => ?_) (fun c => ?_))
    · rw [i_0, iZ_eq (by omega) (by omega) (by omega) (by omega)] at c
      have : B = 0 := by omega
      subst this
      exact ⟨by rw [hv]; rfl, rfl⟩
    · rw [i_0, iZ_eq (by omega) (by omega) (by omega) (by omega)] at c
      obtain ⟨h1, h2, h3⟩ := pc_all ⟨B, hB⟩ (by show 0 < B; omega)
      dsimp only at h1 h2 h3
      rw [h1, iZ_s]
      refine w_bitsOf n _ _ v (by omega) (by omega) ?_
      rw [hv, show a + 1 + pcN (B &&& (B - 1)) = a + pcN B by omega]
theorem p_bitsOf {B : Nat} (hB : B < 128) : Pu (D + 1) 136 [vi (iZ (B : Int))] I J b (iZ (pcN B : Int)) := by
  refine t_X10_bitsOf _ I J b ?_
  exact w_bitsOf (B + 1) B 0 _ (by omega) hB (by rw [Nat.zero_add])
theorem w_freeHands (hH : HdAt I E) (hx : ∀ e ∈ E, xs e ≤ 1000000) (hE : E.length ≤ 42) (hm : m < 1000000) : ∀ (T : List En) (k : Nat) (a : Int) (v : Int32), k ≤ (hl E).length → (hl E).drop k = T → v = iZ (a - (hAt T m : Int)) → WP D 174 7 [vr 10 0, vi (iZ (m : Int)), vi (iZ a), vi (iZ (k : Int))] [] (101, I, J, R0 b) (fun r h => r = some (vi v) ∧ h = (101, I, J, R0 b)) := by
  obtain ⟨hl1, hl2⟩ := hH
  have hle := hl_len E
  intro T
  induction T with
  | nil =>
    intro k a v hk0 hT hv
    have := dr_nil hT
    refine t_X10_freeHands_7 _ _ _ I J b ?_
    rw [hl1]
    exact ifp (tle (by omega) (by omega) (by omega)) ⟨by rw [hv]; simp [hAt], rfl⟩
  | cons e T ih =>
    intro k a v hk0 hT hv
    obtain ⟨h1, h2, h3⟩ := dr_cons hT
    obtain ⟨e4, e5, _⟩ := hl2 k e h1
    have hs := hx e (hl_mem (List.mem_of_getElem? h1))
    refine t_X10_freeHands_7 _ _ _ I J b ?_
    rw [hl1, iZ_ck (by omega), e5, iZ_s, iZ_sub]
    refine ifn (nle (by omega) (by omega) (by omega)) ⟨vp_iZ (by omega) (by omega) (by omega), ?_⟩
    refine ifs (fun c => ?_) (fun c => ⟨vp_iZ (by omega) (by omega) (by omega), ?_⟩)
    · rw [e4.gt hm hs] at c
      refine ih (k + 1) a v (by omega) h2 ?_
      rw [hv]
      simp only [hAt]
      rw [if_neg (by omega)]
      congr 1
      omega
    · rw [e4.gt hm hs] at c
      refine ih (k + 1) _ v (by omega) h2 ?_
      rw [hv]
      simp only [hAt]
      rw [if_pos (by omega)]
      congr 1
      omega
theorem w_usedClamps (hH : HdAt I E) (hx : ∀ e ∈ E, xs e ≤ 1000000) (hE : E.length ≤ 42) (hm : m < 1000000) : ∀ (T : List En) (k : Nat) (a : Int) (v : Int32), k ≤ (hl E).length → (hl E).drop k = T → v = iZ (a + (cAt T m : Int)) → WP D 175 4 [vr 10 0, vi (iZ (m : Int)), vi (iZ a), vi (iZ (k : Int))] [] (101, I, J, R0 b) (fun r h => r = some (vi v) ∧ h = (101, I, J, R0 b)) := by
  obtain ⟨hl1, hl2⟩ := hH
  have hle := hl_len E
  intro T
  induction T with
  | nil =>
    intro k a v hk0 hT hv
    have := dr_nil hT
    refine t_X10_usedClamps_4 _ _ _ I J b ?_
    rw [hl1]
    exact ifp (tle (by omega) (by omega) (by omega)) ⟨by rw [hv]; simp [cAt], rfl⟩
  | cons e T ih =>
    intro k a v hk0 hT hv
    obtain ⟨h1, h2, h3⟩ := dr_cons hT
    obtain ⟨e4, _, e6⟩ := hl2 k e h1
    have hs := hx e (hl_mem (List.mem_of_getElem? h1))
    refine t_X10_usedClamps_4 _ _ _ I J b ?_
    rw [hl1, iZ_ck (by omega), e6, iZ_s, iZ_add]
    refine ifn (nle (by omega) (by omega) (by omega)) ⟨vp_iZ (by omega) (by omega) (by omega), ?_⟩
    refine ifs (fun c => ?_) (fun c => ⟨vp_iZ (by omega) (by omega) (by omega), ?_⟩)
    · rw [e4.gt hm hs] at c
      refine ih (k + 1) a v (by omega) h2 ?_
      rw [hv]
      simp only [cAt]
      rw [if_neg (by omega)]
      congr 1
      omega
    · rw [e4.gt hm hs] at c
      refine ih (k + 1) _ v (by omega) h2 ?_
      rw [hv]
      simp only [cAt]
      rw [if_pos (by omega)]
      congr 1
      omega
theorem p_freeHands (hH : HdAt I E) (hM : MbAt I P) (hx : ∀ e ∈ E, xs e ≤ 1000000) (hE : E.length ≤ 42) (hm : m < 1000000) : Pu (D + 2) 174 [vr 10 0, vi (iZ (m : Int))] I J b (iZ ((pH P : Int) - (hAt E m : Int))) := by
  refine t_X10_freeHands _ I J b ?_
  refine p_M_allHands.use ?_
  rw [hM.2.2.1]
  exact w_freeHands hH hx hE hm _ 0 _ _ (by omega) rfl (by rw [List.drop_zero, hl_h])
theorem p_usedClamps (hH : HdAt I E) (hx : ∀ e ∈ E, xs e ≤ 1000000) (hE : E.length ≤ 42) (hm : m < 1000000) : Pu (D + 1) 175 [vr 10 0, vi (iZ (m : Int))] I J b (iZ (cAt E m : Int)) := by
  refine t_X10_usedClamps _ I J b ?_
  exact w_usedClamps hH hx hE hm _ 0 0 _ (by omega) rfl (by rw [List.drop_zero, hl_c]; congr 1; omega)
theorem w_hasSprung {j : Nat} (hH : HoAt I E f nw) (hM : MbAt I P) (hP : PaOK P) (hj : j < pn P) (h7 : ∀ e ∈ E, xj e < pn P) (hx : ∀ e ∈ E, xs e ≤ 1000000) (hm : m < 1000000) : ∀ (n k : Nat) (v : Int32), n + k = pn P → v = bI ((E.drop f).any fun e => decide (k ≤ xj e) && (tb (pT P j 5) (xj e) && decide (xs e ≤ m))) → WP D 176 2 [vr 10 0, vi (iZ (j : Int)), vi (iZ (m : Int)), vi (iZ (k : Int))] [] (101, I, J, R0 b) (fun r h => r = some (vi v) ∧ h = (101, I, J, R0 b)) := by
  obtain ⟨hd, h37, h38, h66⟩ := hH
  obtain ⟨m1, m2, _⟩ := hM
  have p7 := hP.1
  have h128 : pT P j 5 < 128 := (hP.2.2.2 j hj).2.2.2.2.2.1
  have hB : bs (E.drop f) < 128 := bs_lt (fun x hx => Nat.lt_of_lt_of_le (h7 x (List.mem_of_mem_drop hx)) p7)
  intro n
  induction n with
  | zero =>
    intro k v hk hv
    refine t_X10_hasSprung_2 _ _ _ I J b ?_
    rw [m1]
    refine ifp (tle (by omega) (by omega) (by omega)) ⟨?_, rfl⟩
    rw [hv]
    rw [List.any_eq_false.mpr (fun e he => by
      have := h7 e (List.mem_of_mem_drop he)
      simp
      omega)]
    rfl
  | succ n ih =>
    intro k v hk hv
    have hstep : (∀ e ∈ E.drop f, xj e = k → ¬ (tb (pT P j 5) k = true ∧ xs e ≤ m)) → WP D 176 2 [vr 10 0, vi (iZ (j : Int)), vi (iZ (m : Int)), vi (iZ (k : Int) + 1)] [] (101, I, J, R0 b) (fun r h => r = some (vi v) ∧ h = (101, I, J, R0 b)) := by
      intro hz
      rw [iZ_s]
      refine ih (k + 1) v (by omega) ?_
      rw [hv]
      congr 1
      rw [Bool.eq_iff_iff, List.any_eq_true, List.any_eq_true]
      constructor
      · rintro ⟨e, he, hq⟩
        simp only [Bool.and_eq_true, decide_eq_true_eq] at hq
        refine ⟨e, he, ?_⟩
        simp only [Bool.and_eq_true, decide_eq_true_eq]
        refine ⟨?_, hq.2⟩
        by_cases hk : xj e = k
        · exact absurd ⟨hk ▸ hq.2.1, hq.2.2⟩ (hz e he hk)
        · omega
      · rintro ⟨e, he, hq⟩
        simp only [Bool.and_eq_true, decide_eq_true_eq] at hq
        refine ⟨e, he, ?_⟩
        simp only [Bool.and_eq_true, decide_eq_true_eq]
        exact ⟨by omega, hq.2⟩
    refine t_X10_hasSprung_2 _ _ _ I J b ?_
    rw [m1, iZ_ck (by omega), iZ_ck (by omega), (m2 j hj).2.2.2.2.2, h38]
    refine ifn (nle (by omega) (by omega) (by omega)) ⟨vp_iZ (by omega) (by omega) (by omega), ?_⟩
    refine ifs (fun c => hstep ?_) (fun c => ?_)
    · rintro e he hk ⟨z, _⟩
      exact c (of_decide_eq_true z)
    · have c1 : tb (pT P j 5) k = true := decide_eq_true (Classical.not_not.mp c)
      refine ifs (fun c2 => hstep ?_) (fun c2 => ⟨vp_iZ (by omega) (by omega) (by omega), ?_⟩)
      · rintro e he hk _
        have c3 : tb (bs (E.drop f)) k = false := decide_eq_false c2
        rw [tb_bit hB (by omega), bs_bit, List.any_eq_false] at c3
        exact c3 e he (by simp [hk])
      · have c3 : tb (bs (E.drop f)) k = true := decide_eq_true (Classical.not_not.mp c2)
        rw [tb_bit hB (by omega), bs_bit, List.any_eq_true] at c3
        obtain ⟨e, he, hk2⟩ := c3
        have hk2 : xj e = k := by simpa using hk2
        have hk3 := h66 e he
        rw [hk2] at hk3
        refine ifs (fun c4 => hstep ?_) (fun c4 => ?_)
        · rintro e2 he2 hk4 ⟨_, z⟩
          have hk5 := h66 e2 he2
          rw [hk4] at hk5
          rw [hk5.lt hm (hx e2 (List.mem_of_mem_drop he2))] at c4
          omega
        · rw [hk3.lt hm (hx e (List.mem_of_mem_drop he))] at c4
          refine ⟨?_, rfl⟩
          rw [hv, List.any_eq_true.mpr ⟨e, he, by
            simp only [Bool.and_eq_true, decide_eq_true_eq]
            exact ⟨by omega, hk2 ▸ c1, by omega⟩⟩]
          rfl
theorem p_hasSprung {j : Nat} (hH : HoAt I E f nw) (hM : MbAt I P) (hP : PaOK P) (hj : j < pn P) (h7 : ∀ e ∈ E, xj e < pn P) (hx : ∀ e ∈ E, xs e ≤ 1000000) (hm : m < 1000000) : Pu (D + 1) 176 [vr 10 0, vi (iZ (j : Int)), vi (iZ (m : Int))] I J b (bI (spr P E f j m)) := by
  refine t_X10_hasSprung _ _ I J b ?_
  refine w_hasSprung hH hM hP hj h7 hx hm (pn P) 0 _ (by omega) ?_
  unfold spr
  simp
def oM (o : Option Nat) : Int32 := match o with
  | none => -1
  | some m => iZ (m : Int)
theorem wtS_dry {H wd : Nat} {E : List En} (h : ∀ e ∈ E, xs e = 1000000) {n m0 m : Nat} (hs : wtS H wd E (n + 1) m0 = some m) : m = m0 := by
  unfold wtS at hs
  split at hs
  · cases hs; rfl
  · split at hs
    · next h2 =>
      rcases nxF_mem E m0 1000000 with h3 | ⟨e, he, _, _, h6⟩
      · omega
      · have := h e he
        omega
    · cases hs
set_option maxRecDepth 20000 in
theorem w_beginOf {j : Nat} (hH : HoAt I E f nw) (hM : MbAt I P) (hP : PaOK P) (hG : Gd P E nw) (hj : j < pn P) (h7 : ∀ e ∈ E, xj e < pn P) (hE : E.length ≤ 42) (hw : pT P j 1 ≤ pH P) (m1 : Nat) (hm1 : nw ≤ m1 ∧ m1 ≤ nw + 99) (hok : hAt E m1 + pT P j 1 ≤ pH P) (hno : ∀ t, nw ≤ t → t < m1 → pH P < hAt E t + pT P j 1) (hdry : pN P = true → m1 = nw) : ∀ (n m : Nat), n + m = m1 → nw ≤ m → WP (D + 2) 177 36 [vr 10 0, vi (iZ (j : Int)), vi (iZ (m : Int))] [] (101, I, J, R0 b) (fun r h => r = some (vi (oM (if spr P E f j m1 then none else some m1))) ∧ h = (101, I, J, R0 b)) := by
  have hx : ∀ e ∈ E, xs e ≤ 1000000 := fun e he => hG.xle he
  have hh : ∀ e ∈ E, xh e ≤ 2 := fun e he => (hG.1 e he).2.2.2.2.1
  have hn := hG.2
  have p7 := hP.1
  have h1 := (hP.2.2.2 j hj).2.1
  have hH20 := hP.2.1
  intro n
  induction n with
  | zero =>
    intro m hm hm2
    have hmm : m = m1 := by omega
    subst hmm
    have hha := hAt_le (c := 2) hh m
    refine t_X10_beginOf_36 _ _ I J b ?_
    refine (p_freeHands hH.1 hM hx hE (by omega)).use ⟨vp_iZ (by omega) (by omega) (by omega), ?_⟩
    rw [iZ_ck (by omega), (hM.2.1 j hj).2.1]
    refine ifp (tle (by omega) (by omega) (by omega)) ?_
    refine (p_hasSprung hH hM hP hj h7 hx (by omega)).use ?_
    cases spr P E f j m
    · exact ifp rfl ⟨rfl, rfl⟩
    · exact ifn (by decide) ⟨rfl, rfl⟩
  | succ n ih =>
    intro m hm hm2
    have hha := hAt_le (c := 2) hh m
    have hno2 := hno m hm2 (by omega)
    refine t_X10_beginOf_36 _ _ I J b ?_
    refine (p_freeHands hH.1 hM hx hE (by omega)).use ⟨vp_iZ (by omega) (by omega) (by omega), ?_⟩
    rw [iZ_ck (by omega), (hM.2.1 j hj).2.1]
    refine ifn (nle (by omega) (by omega) (by omega)) ?_
    have hN : pN P = false := by
      cases h : pN P
      · rfl
      · have := hdry h
        omega
    rw [hM.2.2.2.2, hN, hH.2.1]
    refine ifn (fun z => z rfl) ?_
    rw [i_999, iZ_add]
    refine ifp (tle (by omega) (by omega) (by omega)) ?_
    rw [iZ_s]
    exact ih (m + 1) (by omega) (by omega)
theorem p_beginOf {j : Nat} (hH : HoAt I E f nw) (hM : MbAt I P) (hP : PaOK P) (hG : Gd P E nw) (hj : j < pn P) (h7 : ∀ e ∈ E, xj e < pn P) (hE : E.length ≤ 42) : Pu (D + 3) 177 [vr 10 0, vi (iZ (j : Int))] I J b (oM (beg P E f nw j)) := by
  have hx : ∀ e ∈ E, xs e ≤ 1000000 := fun e he => hG.xle he
  have hh : ∀ e ∈ E, xh e ≤ 2 := fun e he => (hG.1 e he).2.2.2.2.1
  have hn := hG.2
  have p7 := hP.1
  have h1 := (hP.2.2.2 j hj).2.1
  have hH20 := hP.2.1
  refine t_X10_beginOf _ I J b ⟨vp_iZ (by omega) (by omega) (by omega), ?_⟩
  rw [iZ_ck (by omega), (hM.2.1 j hj).2.2.2.2.1, hH.2.2.1, (hM.2.1 j hj).2.1]
  unfold beg
  refine ifs (fun c => ?_) (fun c => ⟨vp_iZ (by omega) (by omega) (by omega), ?_⟩)
  · rw [if_neg (by
      intro z
      exact c (of_decide_eq_true z.1))]
    exact ⟨rfl, rfl⟩
  · refine p_M_allHands.use ?_
    rw [hM.2.2.1, hH.2.1]
    refine ifs (fun c2 => ?_) (fun c2 => ?_)
    · rw [iZ_le (by omega) (by omega) (by omega) (by omega)] at c2
      rw [if_pos ⟨decide_eq_true (Classical.not_not.mp c), by omega⟩]
      cases hw : wtS (pH P) (pT P j 1) E (E.length + 1) nw with
      | some m1 =>
        obtain ⟨a1, a2, a3, a4⟩ := wtS_some (by omega) _ _ _ (Nat.lt_succ_of_le (cnF_le E nw)) hw
        have hdry : pN P = true → m1 = nw := fun hN => wtS_dry (fun e he => by
          have := (hG.1 e he).2.2.2.1
          rw [if_pos hN] at this
          exact this) hw
        have ha : m1 ≤ nw + 99 := by
          cases hN : pN P
          · rcases a4 with a4 | ⟨e, he, a4⟩
            · omega
            · have := (hG.1 e he).2.2.2.1
              rw [if_neg (by rw [hN]; decide)] at this
              omega
          · have := hdry hN
            omega
        exact w_beginOf hH hM hP hG hj h7 hE (by omega) m1 ⟨a1, ha⟩ a2 a3 hdry (m1 - nw) nw (by omega) (Nat.le_refl _)
      | none =>
        obtain ⟨a1, e, he, a2⟩ := wtS_none (by omega) _ _ hw
        have hha := hAt_le (c := 2) hh nw
        have hN : pN P = true := by
          cases hN : pN P
          · have := (hG.1 e he).2.2.2.1
            rw [if_neg (by rw [hN]; decide)] at this
            omega
          · rfl
        refine t_X10_beginOf_36 _ _ I J b ?_
        refine (p_freeHands hH.1 hM hx hE (by omega)).use ⟨vp_iZ (by omega) (by omega) (by omega), ?_⟩
        rw [iZ_ck (by omega), (hM.2.1 j hj).2.1]
        refine ifn (nle (by omega) (by omega) (by omega)) ?_
        rw [hM.2.2.2.2, hN]
        exact ifp (by decide) ⟨rfl, rfl⟩
    · rw [iZ_le (by omega) (by omega) (by omega) (by omega)] at c2
      rw [if_neg (by omega)]
      exact ⟨rfl, rfl⟩
end HOLD
