/-! OPS IN THOUGHT: can, soonest, dry, worth -/
theorem ShAt.fre {P : Pa} {I I' : IM} (h : ShAt I P) (k1 : ∀ s j k, s ≠ 36 → ¬ (s = 5 ∧ j = 0 ∧ k = 7) → I' s j k = I s j k) : ShAt I' P := ⟨(k1 _ _ _ (by omega) (by omega)).trans h.1, (k1 _ _ _ (by omega) (by omega)).trans h.2.1, (k1 _ _ _ (by omega) (by omega)).trans h.2.2.1, fun j m hj hm => (k1 _ _ _ (by omega) (by omega)).trans (h.2.2.2 j m hj hm)⟩
theorem fre_ct {I I' : IM} (k1 : ∀ s j k, s ≠ 36 → ¬ (s = 5 ∧ j = 0 ∧ k = 7) → I' s j k = I s j k) : Fr pCt I I' := fun s j k z => k1 s j k (by
    rintro rfl
    have : pCt 36 j k = true := pCt_iff.mpr (by omega)
    rw [this] at z
    cases z) (by
    rintro ⟨rfl, rfl, rfl⟩
    have : pCt 5 0 7 = true := pCt_iff.mpr (by omega)
    rw [this] at z
    cases z)
def orF (P : Pa) (n : Nat) : Nat := (pms n n []).foldl (fOr P n) 0
def beF (P : Pa) (n : Nat) : Option (Nat × List Nat) := (pms n n []).foldl (fBe P n) none
theorem mgF_e (P : Pa) (n : Nat) (sh : Option (Nat × Sh)) : mgF P n sh = (orF P n, beF P n, (pms n n []).foldl (fLk P n sh) 0, (pms n n []).foldl (fFl P n sh) none, (pms n n []).foldl (dps P) 0) := mst_f _ _
theorem orF_le {P : Pa} {n : Nat} (h : n ≤ 7) : orF P n ≤ 823543 := by
  have h1 := (or_le (P := P) (n := n) (pms n n []) 0).2
  have h2 := pms_len (n := n) n []
  have h3 := pow7 h
  unfold orF
  omega
theorem beF_or {P : Pa} {n : Nat} : beF P n = none ↔ orF P n = 0 := by
  unfold orF
  rw [or_0]
  have h := be_spec (P := P) (n := n) (pms n n []) none
  unfold beF
  cases hb : (pms n n []).foldl (fBe P n) none with
  | none =>
    rw [hb] at h
    exact ⟨fun _ => h.2, fun _ => rfl⟩
  | some x =>
    obtain ⟨a, L⟩ := x
    rw [hb] at h
    constructor
    · intro z
      cases z
    · intro z
      rcases h.1 with y | ⟨y1, y2, _⟩
      · cases y
      · rw [z L y1] at y2
        cases y2
theorem beF_some {P : Pa} {n a : Nat} {L : List Nat} (hP : PaOK P) (hn : pn P = n) (hN : pN P = false) (h : beF P n = some (a, L)) : a ≤ 999999 ∧ L.length = n ∧ (∀ j ∈ L, j < n) ∧ ∀ L2 ∈ pms n n [], isW P n L2 = true → a ≤ ltE (goL P L2) := by
  have h1 := be_spec (P := P) (n := n) (pms n n []) none
  have h2 : (pms n n []).foldl (fBe P n) none = some (a, L) := h
  rw [h2] at h1
  obtain ⟨y, y4, _⟩ := h1
  rcases y with y | ⟨y1, y2, y3⟩
  · cases y
  · have := all_lt hP hn hN L y1
    obtain ⟨_, z2, z3, _⟩ := pms_ok n [] (by simp) (by simp) L y1
    exact ⟨by omega, by simpa using z3, z2, y4⟩
/-- whether the first came -/
theorem first_0 {P : Pa} {n lim : Nat} {due : Nat → Option Int} : ∀ (l : List (List Nat)), ((l.foldl (cst P n due 0) (st0 lim)).1 = 0 ∧ ∀ L ∈ l, ¬ (ful P n due L = true ∧ ltE (goL P L) < lim)) ∨ ((l.foldl (cst P n due 0) (st0 lim)).1 = 1 ∧ ∃ L ∈ l, ful P n due L = true ∧ ltE (goL P L) < lim) := by
  intro l
  rw [cp_0 rfl]
  cases hf : l.find? (fun L => ful P n due L && decide (ltE (goL P L) < (st0 lim).2.2.2.1)) with
  | none =>
    left
    refine ⟨rfl, fun L hL z => ?_⟩
    have := List.find?_eq_none.mp hf L hL
    rw [Bool.and_eq_true, decide_eq_true_eq] at this
    exact this z
  | some L =>
    right
    refine ⟨rfl, L, List.mem_of_find?_eq_some hf, ?_⟩
    have := List.find?_some hf
    rw [Bool.and_eq_true, decide_eq_true_eq] at this
    exact this
section OPH
variable {D : Nat} {g : Sg} {c : Nat} {I : IM} {J : JM} {b : Bool}
/-- free, and all orders -/
theorem c_free {P : Pa} {T : IM → JM → Prop} (hX : XR g I J b) (hS : ShAt I P) (K : ∀ I', Fr pCt I I' → XR g I' J b → ShAt I' P → DuC I' noD → T I' J) : Call (D + 2) 38 [vr 5 0] (101, I, J, R0 b) (RVf b T) := by
  refine e_free.useV ?_
  rintro I1 J1 ⟨rfl, k1, k2, k3⟩
  exact K I1 (fre_ct k1) (hX.fr (fre_ct k1)) (hS.fre k1) k3
theorem c_go {P : Pa} {H C gl aim lim : Nat} {nv : Bool} {x y : Int32} {due : Nat → Option Int} {T : IM → JM → Prop} (hX : XR g I J b) (hO : SOK g c) (hPe : P = parP (gN g) (gV g) (gL g) H C nv gl) (hH : H ≤ 20) (hC : C ≤ 10) (hS : ShAt I P) (hd : DuC I due) (hx : x = iZ (aim : Int)) (hy : y = iZ (lim : Int)) (ha : aim ≤ 3) (hl : 1 ≤ lim) (hl2 : lim ≤ 1000001) (h3 : aim = 3 → lim = 1000001 ∧ ∀ j, due j = none) (hN : nv = true → aim = 3) (K : ∀ I', Fr pCt I I' → XR g I' J b → ShAt I' P → DuC I' due → SrC I' aim (gN g) ((pms (gN g) (gN g) []).foldl (cst P (gN g) due aim) (st0 lim)) ((pms (gN g) (gN g) []).foldl (dps P) 0) → T I' J) : Call (D + 15) 40 [vr 5 0, vi x, vi y] (101, I, J, R0 b) (RVf b T) := by
  have n7 := hO.1.1
  have hB1 : BeAt I P := by rw [hPe]; exact BeAt_of hX.1 n7
  have hP : PaOK P := by rw [hPe]; exact parP_ok hO.1 hH hC
  refine (e_findC (D := D) (due := due) hx hy hP (by rw [hPe]) ha hl hl2 h3 (fun z => hN (by rw [hPe] at z; exact z)) hX.room hB1 hS hd).useV ?_
  rintro I2 J2 ⟨rfl, k4, k5⟩
  exact K I2 (pSe_ct k4) (hX.fr (pSe_ct k4)) (hS.fs k4) (hd.fr k4) k5
theorem MR.cx (hM : MR g I J) (hO : SOK g c) : McX (parS g) none I J := ⟨hM.mb hO, hM.st hO, hM.drawn, fun s q z => by cases z⟩
def aCan (x : Int32) (g : Sg) : Int32 := if inB x 0 1 = false then -1 else if x = 0 then (if orF (parS g) (gN g) = 0 then 0 else 1) else iZ (orF (parS g) (gN g) : Int)
theorem aCan_n {x : Int32} (h : inB x 0 1 = false) : aCan x g = -1 := by unfold aCan; rw [if_pos h]
theorem aCan_0 : aCan 0 g = if orF (parS g) (gN g) = 0 then 0 else 1 := by
  unfold aCan
  rw [if_neg (by decide), if_pos rfl]
theorem aCan_1 : aCan 1 g = iZ (orF (parS g) (gN g) : Int) := by
  unfold aCan
  rw [if_neg (by decide), if_neg (by decide)]
theorem cX_can {x : Int32} (hX : XR g I J b) (hO : SOK g c) : TX (D + 16) 89 [vr 9 0, vi x] I J b (aCan x g) := by
  have hlt := all_lt (n := gN g) (parS_ok hO) rfl rfl
  have hp := parS_ok hO
  refine t_X9_can _ I J b ?_
  refine (p_X_isZeroOrOne x).use ?_
  cases hx : inB x 0 1
  · exact ifn (fun z => z rfl) (RIf.tx (aCan_n hx).symm Fr.id)
  · refine ifp (by decide) ?_
    refine (e_open (D := D + 8) (hX.BL hO)).useV ?_
    rintro I1 J1 ⟨rfl, hf1, hS1⟩
    have hX1 := hX.fr (pSp_ct hf1)
    refine c_free (D := D + 13) hX1 hS1 (fun I2 k1 hX2 hS2 hd2 => ?_)
    rcases in01 hx with rfl | rfl
    · refine ifn (fun z => z rfl) ?_
      refine c_go (aim := 0) (lim := 1000000) hX2 hO rfl hp.2.1 hp.2.2.1 hS2 hd2 rfl rfl (by omega) (by omega) (by omega) (by omega) (fun z => by cases z) (fun I3 k2 k3 k4 k5 k6 => RIf.tx ?_ (((pSp_ct hf1).tr k1).tr k2))
      rw [k6.2.2.2.1, aCan_0]
      rcases first_0 (P := parS g) (n := gN g) (lim := 1000000) (due := noD) (pms (gN g) (gN g) []) with ⟨f1, f2⟩ | ⟨f1, L, f2, f3, f4⟩
      · rw [if_pos]
        · exact congrArg (fun k : Nat => iZ (k : Int)) f1
        · refine (or_0 _).mpr (fun L hL => ?_)
          cases hw : isW (parS g) (gN g) L
          · rfl
          · exact absurd ⟨by rw [ful_n]; exact hw, hlt L hL⟩ (f2 L hL)
      · rw [if_neg]
        · exact congrArg (fun k : Nat => iZ (k : Int)) f1
        · intro z
          have := (or_0 _).mp z L f2
          rw [ful_n, this] at f3
          cases f3
    · refine ifp (by decide) ?_
      refine c_go (aim := 1) (lim := 1000000) hX2 hO rfl hp.2.1 hp.2.2.1 hS2 hd2 rfl rfl (by omega) (by omega) (by omega) (by omega) (fun z => by cases z) (fun I3 k2 k3 k4 k5 k6 => RIf.tx ?_ (((pSp_ct hf1).tr k1).tr k2))
      rw [k6.2.2.2.1, aCan_1]
      exact congrArg (fun k : Nat => iZ (k : Int)) (cp_1 _ _ hlt rfl rfl)
theorem cM_can {x : Int32} (hM : MR g I J) (hO : SOK g c) : TM (D + 18) 193 [vr 10 0, vi x] I J b (aCan x g) := by
  have n7 := hO.1.1
  refine t_X10_can _ I J b ?_
  refine (p_M_in x 0 1).use ?_
  cases hx : inB x 0 1
  · exact ifn (fun z => z rfl) (RIf.tm (aCan_n hx).symm Fr.id)
  · refine ifp (by decide) ?_
    refine (e_find (D := D) (n := gN g) (parS_ok hO) rfl (hM.cx hO) rfl).useV ?_
    rintro I1 J1 ⟨rfl, hf1, k1⟩
    rw [mgF_e] at k1
    have h50 : I1 10 0 50 = iZ (orF (parS g) (gN g) : Int) := k1.1
    have hle := orF_le (P := parS g) n7
    rw [h50]
    rcases in01 hx with rfl | rfl
    · refine ifp (by decide) ?_
      rw [i_0]
      refine ifs (fun c1 => ?_) (fun c1 => ?_)
      · have c1 := (tle' (by omega) (by omega) (by omega) (by omega)).mp c1
        refine RIf.tm ?_ hf1
        rw [← i_0, aCan_0, if_pos (by omega)]
      · have : ¬ orF (parS g) (gN g) = 0 := fun z => c1 (tle (by omega) (by omega) (by omega))
        refine RIf.tm ?_ hf1
        rw [← i_0, aCan_0, if_neg this]
    · refine ifn (fun z => z rfl) (RIf.tm ?_ hf1)
      rw [aCan_1]
theorem op_can (x : Int32) : Op 89 193 [vi x] := Op.th (aCan x) (fun g c I J b hX hO => cX_can (D := 884) hX hO) (fun g c I J b hM hO => cM_can (D := 882) hM hO)
end OPH
