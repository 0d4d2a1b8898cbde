/-! OPS IN THOUGHT: soonest, worth, dry -/
def soV (o : Option (Nat × List Nat)) : Int32 := match o with
  | none => -2000000000
  | some (a, _) => iZ (a : Int)
section OPI
variable {D : Nat} {g : Sg} {c : Nat} {I : IM} {J : JM} {b : Bool}
theorem soV_n {P : Pa} {n : Nat} (hP : PaOK P) (hn : pn P = n) (hN : pN P = false) : soV (beF P n) = (-2000000000 : Int32) ↔ beF P n = none := by
  cases hb : beF P n with
  | none => exact ⟨fun _ => rfl, fun _ => rfl⟩
  | some x =>
    obtain ⟨a, L⟩ := x
    have := (beF_some hP hn hN hb).1
    constructor
    · intro z
      exact absurd z (show ¬ iZ (a : Int) = iZ (-2000000000) from nne (by omega) (by omega) (by omega) (by omega) (by omega))
    · intro z
      cases z
/-- the soonest of them all -/
theorem c_soon {P : Pa} {H C gl : Nat} {T : Int32 → IM → JM → Prop} (hX : XR g I J b) (hO : SOK g c) (hPe : P = parP (gN g) (gV g) (gL g) H C false gl) (hH : H ≤ 20) (hC : C ≤ 10) (hS : ShAt I P) (K : ∀ I', Fr pCt I I' → XR g I' J b → ShAt I' P → (∀ a L, beF P (gN g) = some (a, L) → ∀ (k j : Nat), L[k]? = some j → I' 37 0 k = iZ (j : Int)) → T (soV (beF P (gN g))) I' J) : Call (D + 16) 132 [vr 9 0] (101, I, J, R0 b) (RIf b T) := by
  have n7 := hO.1.1
  have hP : PaOK P := by rw [hPe]; exact parP_ok hO.1 hH hC
  have hn : pn P = gN g := by rw [hPe]; rfl
  have hN : pN P = false := by rw [hPe]; rfl
  refine t_X9_soonestDone I J b ?_
  refine c_free (D := D + 13) hX hS (fun I2 k1 hX2 hS2 hd2 => ?_)
  refine c_go (aim := 2) (lim := 1000000) hX2 hO hPe hH hC hS2 hd2 rfl rfl (by omega) (by omega) (by omega) (by omega) (fun z => by cases z) (fun I3 k2 hX3 hS3 k5 k6 => ?_)
  have hff := k1.tr k2
  have hB := cp_2 (P := P) (n := gN g) (pms (gN g) (gN g) []) (st0 1000000) none (all_lt hP hn hN) ⟨rfl, rfl, rfl⟩
  have hor : ((pms (gN g) (gN g) []).foldl (cst P (gN g) noD 2) (st0 1000000)).1 ≤ 823543 := by
    have h1 := fold_or (P := P) (n := gN g) (aim := 2) (due := noD) (pms (gN g) (gN g) []) (st0 1000000)
    have h2 := pms_len (n := gN g) (gN g) []
    have h3 := pow7 n7
    have h4 : (st0 1000000).1 = 0 := rfl
    omega
  obtain ⟨s4, s5, s6, s7, s8, s9⟩ := k6
  rw [s7]
  cases hb : beF P (gN g) with
  | none =>
    have hB2 := hB.2
    rw [show (pms (gN g) (gN g) []).foldl (fBe P (gN g)) none = none from hb] at hB2
    refine ifp (by rw [i_0]; exact tle (by omega) (by omega) (by have := hB2.1; omega)) (RIf.mk ?_)
    have := K I3 hff hX3 hS3 (fun a L h => by rw [hb] at h; cases h)
    rw [hb] at this
    exact this
  | some x =>
    obtain ⟨a, L⟩ := x
    have hB2 := hB.2
    rw [show (pms (gN g) (gN g) []).foldl (fBe P (gN g)) none = some (a, L) from hb] at hB2
    obtain ⟨y1, y2, y3, _⟩ := hB2
    obtain ⟨z1, z2, z3⟩ := s8 y1
    refine ifn (by rw [i_0]; exact nle (by omega) (by omega) (by omega)) (RIf.mk ?_)
    have := K I3 hff hX3 hS3 (fun a2 L2 h => by
      rw [hb] at h
      cases h
      rw [y2] at z3
      exact z3)
    rw [hb] at this
    rw [z1, y3]
    exact this
def fSoon (n : Nat) (x : Int32) (o : Option (Nat × List Nat)) : Int32 := match o with
  | none => -2
  | some (a, L) => if x < iZ (n : Int) then (if 0 ≤ x then (match L[x.toInt.toNat]? with
    | none => -2
    | some j => iZ (j : Int)) else iZ (a : Int)) else -2
def aSoon (x : Int32) (g : Sg) : Int32 := if (-1 : Int32) ≤ x then fSoon (gN g) x (beF (parS g) (gN g)) else -1
theorem aSoon_y {x : Int32} (h : (-1 : Int32) ≤ x) : aSoon x g = fSoon (gN g) x (beF (parS g) (gN g)) := by unfold aSoon; rw [if_pos h]
theorem aSoon_n {x : Int32} (h : ¬ (-1 : Int32) ≤ x) : aSoon x g = -1 := by unfold aSoon; rw [if_neg h]
/-- a joint of the found order -/
theorem soon_at {n : Nat} {x : Int32} {a : Nat} {L : List Nat} (hn : n ≤ 7) (hl : L.length = n) (h1 : x < iZ (n : Int)) (h2 : 0 ≤ x) : ∃ k j : Nat, x = iZ (k : Int) ∧ k < 7 ∧ L[k]? = some j ∧ fSoon n x (some (a, L)) = iZ (j : Int) := by
  obtain ⟨v, v1, rfl⟩ := nn_ex (x := x) (by
    rw [lt_i]
    rw [le_i] at h2
    omega)
  have hv : v < n := by
    rw [iZ_lt (by omega) (by omega) (by omega) (by omega)] at h1
    omega
  refine ⟨v, L[v], rfl, by omega, List.getElem?_eq_getElem (by omega), ?_⟩
  unfold fSoon
  dsimp only
  rw [if_pos h1, if_pos h2, iZ_toInt (by omega) (by omega), Int.toNat_natCast, List.getElem?_eq_getElem (by omega)]
theorem cX_soonest {x : Int32} (hX : XR g I J b) (hO : SOK g c) : TX (D + 17) 90 [vr 9 0, vi x] I J b (aSoon x g) := by
  have n7 := hO.1.1
  have hp := parS_ok hO
  refine t_X9_soonest _ I J b ?_
  refine ifs (fun c1 => ?_) (fun c1 => RIf.tx (aSoon_n c1).symm Fr.id)
  rw [aSoon_y c1]
  refine (e_open (D := D + 9) (hX.BL hO)).useV ?_
  rintro I1 J1 ⟨rfl, hf1, hS1⟩
  refine c_soon (D := D) (P := parS g) (hX.fr (pSp_ct hf1)) hO rfl hp.2.1 hp.2.2.1 hS1 (fun I2 k1 hX2 hS2 k2 => ?_)
  have hff := (pSp_ct hf1).tr k1
  have h1 : I2 1 0 1 = iZ (gN g : Int) := hX2.1.1
  have hsn := soV_n (n := gN g) (parS_ok hO) rfl rfl
  cases hb : beF (parS g) (gN g) with
  | none =>
    rw [hb] at hsn
    exact ifp (hsn.mpr rfl) (RIf.tx rfl hff)
  | some y =>
    obtain ⟨a, L⟩ := y
    obtain ⟨q1, q2, q3, q4⟩ := beF_some (n := gN g) (parS_ok hO) rfl rfl hb
    rw [hb] at hsn
    refine ifn (fun z => by cases hsn.mp z) ?_
    rw [h1]
    refine ifs (fun c2 => ?_) (fun c2 => ?_)
    · refine ifs (fun c3 => ?_) (fun c3 => ?_)
      · obtain ⟨k, j, rfl, r2, r3, r4⟩ := soon_at (a := a) n7 q2 c2 c3
        rw [r4, iZ_ck (by omega), k2 a L hb k j r3]
        exact ⟨vp_iZ (by omega) (by omega) (by omega), RIf.tx rfl hff⟩
      · refine RIf.tx ?_ hff
        unfold fSoon
        dsimp only
        rw [if_pos c2, if_neg c3]
        rfl
    · refine RIf.tx ?_ hff
      unfold fSoon
      dsimp only
      rw [if_neg c2]
theorem cM_soonest {x : Int32} (hM : MR g I J) (hO : SOK g c) : TM (D + 18) 194 [vr 10 0, vi x] I J b (aSoon x g) := by
  have n7 := hO.1.1
  refine t_X10_soonest _ I J b ?_
  refine ifs (fun c1 => ?_) (fun c1 => RIf.tm (aSoon_n c1).symm Fr.id)
  rw [aSoon_y c1]
  refine (e_find (D := D) (n := gN g) (parS_ok hO) rfl (hM.cx hO) rfl).useV ?_
  rintro I1 J1 ⟨rfl, hf1, k1⟩
  rw [mgF_e] at k1
  obtain ⟨m1, m2, m3, m4, m5, m6⟩ := k1
  have h50 : I1 10 0 50 = iZ (orF (parS g) (gN g) : Int) := m1
  have hB : MbB I1 (gN g) (beF (parS g) (gN g)) := m2 rfl
  have hle := orF_le (P := parS g) n7
  have h1 : I1 10 0 1 = iZ (gN g : Int) := (hM.fr hf1).bn.1
  have hbo := beF_or (P := parS g) (n := gN g)
  rw [h50, h1]
  cases hb : beF (parS g) (gN g) with
  | none =>
    have := hbo.mp hb
    exact ifp (by rw [this]; rfl) (RIf.tm rfl hf1)
  | some y =>
    obtain ⟨a, L⟩ := y
    obtain ⟨q1, q2, q3, q4⟩ := beF_some (n := gN g) (parS_ok hO) rfl rfl hb
    rw [hb] at hB hbo
    refine ifn (fun z => ?_) ?_
    · rw [i_0, iZ_eq (by omega) (by omega) (by omega) (by omega)] at z
      cases hbo.mpr (by omega)
    · refine ifs (fun c2 => ?_) (fun c2 => ?_)
      · refine ifs (fun c3 => ?_) (fun c3 => ?_)
        · obtain ⟨k, j, rfl, r2, r3, r4⟩ := soon_at (a := a) n7 q2 c2 c3
          rw [r4, iZ_ck (by omega), hB.2.2.2 k j r3]
          exact ⟨vp_iZ (by omega) (by omega) (by omega), RIf.tm rfl hf1⟩
        · refine RIf.tm ?_ hf1
          unfold fSoon
          dsimp only
          rw [if_pos c2, if_neg c3]
          exact hB.1
      · refine RIf.tm ?_ hf1
        unfold fSoon
        dsimp only
        rw [if_neg c2]
theorem op_soonest (x : Int32) : Op 90 194 [vi x] := Op.th (aSoon x) (fun g c I J b hX hO => cX_soonest (D := 883) hX hO) (fun g c I J b hM hO => cM_soonest (D := 882) hM hO)
end OPI
