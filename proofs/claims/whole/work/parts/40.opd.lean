/-! OPS IN THOUGHT: what a number else would give: glue, drawn -/
def pTw (s j k : Nat) : Bool := pTh s j k || ((Nat.beq s 10 && Nat.beq j 0) && ((Nat.ble 8 k && Nat.ble k 10) || (Nat.ble 44 k && Nat.ble k 45)))
theorem pTw_iff {s j k : Nat} : pTw s j k = true ↔ ((59 ≤ s ∧ s ≤ 70) ∨ (s = 10 ∧ ((36 ≤ k ∧ k ≤ 38) ∨ k = 43 ∨ k = 46 ∨ (48 ≤ k ∧ k ≤ 56)))) ∨ ((s = 10 ∧ j = 0) ∧ ((8 ≤ k ∧ k ≤ 10) ∨ (44 ≤ k ∧ k ≤ 45))) := by
  unfold pTw
  rw [Bool.or_eq_true, pTh_iff]
  simp only [Bool.or_eq_true, Bool.and_eq_true, nb_iff, Nat.ble_eq]
theorem pTh_w {I I' : IM} (h : Fr pTh I I') : Fr pTw I I' := h.subT (fun s j k z => by
  rw [pTh_iff] at z
  rw [pTw_iff]
  omega)
/-- what was told else for a while is told as before -/
theorem pTw_th {I I' : IM} (h : Fr pTw I I') (h8 : ∀ k, (8 ≤ k ∧ k ≤ 10) ∨ (44 ≤ k ∧ k ≤ 45) → I' 10 0 k = I 10 0 k) : Fr pTh I I' := by
  intro s j k z
  by_cases hc : (s = 10 ∧ j = 0) ∧ ((8 ≤ k ∧ k ≤ 10) ∨ (44 ≤ k ∧ k ≤ 45))
  · obtain ⟨⟨rfl, rfl⟩, hk⟩ := hc
    exact h8 k hk
  · refine h s j k (bf_of pTw_iff ?_)
    have : ¬ pTh s j k = true := by rw [z]; decide
    rw [pTh_iff] at this
    rintro (y | y)
    · exact this y
    · exact hc y
theorem MR.mbw {g : Sg} {I I' : IM} {J : JM} {c men C gl : Nat} {nv : Bool} (h : MR g I J) (hO : SOK g c) (hf : Fr pTw I I') (h8 : I' 10 0 8 = iZ (men : Int)) (h9 : I' 10 0 9 = iZ (C : Int)) (h44 : I' 10 0 44 = bI nv) : MbAt I' (parP (gN g) (gV g) (gL g) (2 + 2 * men) C nv gl) := MbAt_of ((hf _ _ _ (bf_of pTw_iff (by omega))).trans h.bn.1) (fun j q hj hq => (hf _ _ _ (bf_of pTw_iff (by omega))).trans (h.bn.2.1 j q hj hq)) hO.1.1 h8 rfl h9 h44
theorem MR.stw {g : Sg} {I I' : IM} {J : JM} {c H C gl : Nat} {nv : Bool} (h : MR g I J) (hO : SOK g c) (hf : Fr pTw I I') (h10 : I' 10 0 10 = iZ (gl : Int)) (hg : gl ≤ 99) : StOK (parP (gN g) (gV g) (gL g) H C nv gl) I' := StOK_of (fun j q hj hq => (hf _ _ _ (bf_of pTw_iff (by omega))).trans (h.bn.2.1 j q hj hq)) ((hf _ _ _ (bf_of pTw_iff (by omega))).trans (h.bn.2.2 9 (by omega) (by omega))) hO.1 (h.lw.eq (fun s k z => hf _ _ _ (bf_of pTw_iff (by omega)))) h10 hg
theorem pGf_w {I I' : IM} (h : Fr pGf I I') : Fr pTw I I' := pTh_w (pGf_sub h)
section OPD
variable {D : Nat} {g : Sg} {c : Nat} {I : IM} {J : JM} {b : Bool}
/-- the model tries an order by other numbers -/
theorem m_goW {I0 : IM} {L : List Nat} {men C gl : Nat} {nv dr : Bool} {T : IM → JM → Prop} (hM : MR g I0 J) (hO : SOK g c) (hf : Fr pTw I0 I) (h8 : I 10 0 8 = iZ (men : Int)) (h9 : I 10 0 9 = iZ (C : Int)) (h10 : I 10 0 10 = iZ (gl : Int)) (h44 : I 10 0 44 = bI nv) (h45 : I 10 0 45 = bI dr) (hm : men ≤ 9) (hC : C ≤ 10) (hg : gl ≤ 99) (hL : PlM I L) (hN : L.Nodup) (hn : ∀ j ∈ L, j < gN g) (K : ∀ I', Fr pGf I I' → HoAt I' (goZ (parP (gN g) (gV g) (gL g) (2 + 2 * men) C nv gl) L dr (I 10 0 12) (I 10 0 46)).1 0 (goZ (parP (gN g) (gV g) (gL g) (2 + 2 * men) C nv gl) L dr (I 10 0 12) (I 10 0 46)).2.1 → XtAt I' (goZ (parP (gN g) (gV g) (gL g) (2 + 2 * men) C nv gl) L dr (I 10 0 12) (I 10 0 46)).1 0 → I' 10 0 46 = (goZ (parP (gN g) (gV g) (gL g) (2 + 2 * men) C nv gl) L dr (I 10 0 12) (I 10 0 46)).2.2 → I' 10 0 49 = iZ ((goZ (parP (gN g) (gV g) (gL g) (2 + 2 * men) C nv gl) L dr (I 10 0 12) (I 10 0 46)).1.length : Int) → PlM I' L → MbAt I' (parP (gN g) (gV g) (gL g) (2 + 2 * men) C nv gl) → T I' J) : Call (D + 7) 185 [vr 10 0] (101, I, J, R0 b) (RVf b T) := by
  have hP : PaOK (parP (gN g) (gV g) (gL g) (2 + 2 * men) C nv gl) := parP_ok hO.1 (by omega) (by omega)
  have hMb : MbAt I (parP (gN g) (gV g) (gL g) (2 + 2 * men) C nv gl) := hM.mbw hO hf h8 h9 h44
  refine (e_goOrder (dr := dr) hP hN hn hL hMb (hM.stw hO hf h10 hg) h45).useV ?_
  rintro I1 J1 ⟨rfl, hf1, hH, h46, h49, hXt⟩
  exact K I1 hf1 hH hXt h46 h49 (hL.fr hf1) (hMb.gf (pGf_sub hf1))
def parG (g : Sg) (v : Nat) : Pa := parP (gN g) (gV g) (gL g) (2 + 2 * gV g 6 0) (gV g 7 0) false v
def okG (P : Pa) (L : List Nat) : Bool := decide ((goL P L).length = L.length)
def grG (ok : Nat → Bool) : Nat → Option Nat
  | 0 => none
  | n + 1 => if ok n then some n else grG ok n
def lsG (ok : Nat → Bool) : Nat → Option Nat
  | 0 => none
  | n + 1 => match lsG ok n with
    | some v => some v
    | none => if ok n then some n else none
theorem lsG_up {ok : Nat → Bool} {v : Nat} : ∀ (m n : Nat), lsG ok n = some v → lsG ok (n + m) = some v
  | 0, n, h => h
  | m + 1, n, h => by
    have := lsG_up m n h
    rw [show n + (m + 1) = (n + m) + 1 by omega]
    unfold lsG
    rw [this]
theorem lsG_lt {ok : Nat → Bool} {v : Nat} : ∀ (n : Nat), lsG ok n = some v → v < n
  | 0, h => by cases h
  | n + 1, h => by
    unfold lsG at h
    split at h
    · next w hw =>
      have := lsG_lt n hw
      cases h
      omega
    · split at h
      · cases h
        omega
      · cases h
theorem grG_lt {ok : Nat → Bool} {v : Nat} : ∀ (n : Nat), grG ok n = some v → v < n
  | 0, h => by cases h
  | n + 1, h => by
    unfold grG at h
    split at h
    · cases h
      omega
    · have := grG_lt n h
      omega
def fGlue (g : Sg) (w : Int32) (L : List Nat) : Int32 := oI (if w = 0 then grG (fun v => okG (parG g v) L) 100 else lsG (fun v => okG (parG g v) L) 100)
def aGlue (x w : Int32) (g : Sg) : Int32 := if inB w 0 1 = false then -1 else aPl g x (fGlue g w)
theorem aGlue_n {x w : Int32} (h : inB w 0 1 = false) : aGlue x w g = -1 := by unfold aGlue; rw [if_pos h]
theorem aGlue_y {x w : Int32} (h : inB w 0 1 = true) : aGlue x w g = aPl g x (fGlue g w) := by
  unfold aGlue
  rw [if_neg (by rw [h]; decide)]
/-- minutes that stand, whatever glue they were told by -/
def MiOK (I : IM) (n : Nat) : Prop := ∀ j m, j < n → m < n → ∃ t : Nat, t ≤ 99 ∧ I 29 0 (8 * j + m) = iZ (t : Int)
def Pmix (g : Sg) (I : IM) : Pa := ((2 + 2 * gV g 6 0, gV g 7 0, false, gN g), (fun j q => gV g q j), fun j m => (I 29 0 (8 * j + m)).toInt.toNat)
theorem mi_val {I : IM} {n j m : Nat} (h : MiOK I n) (hj : j < n) (hm : m < n) : I 29 0 (8 * j + m) = iZ (((I 29 0 (8 * j + m)).toInt.toNat : Nat) : Int) ∧ (I 29 0 (8 * j + m)).toInt.toNat ≤ 99 := by
  obtain ⟨t, t1, t2⟩ := h j m hj hm
  rw [t2, iZ_toInt (by omega) (by omega), Int.toNat_natCast]
  exact ⟨rfl, t1⟩
theorem w_X_glue {L : List Nat} {w v : Int32} {I0 : IM} (hO : SOK g c) (hN : L.Nodup) (hn : ∀ j ∈ L, j < gN g) (hv : v = fGlue g w L) (hw : w = 0 ∨ w = 1) : ∀ (m st : Nat) (I : IM), m + st = 100 → (if w = 0 then grG (fun v => okG (parG g v) L) 100 = grG (fun v => okG (parG g v) L) m else lsG (fun v => okG (parG g v) L) st = none) → XR g I J b → PlC I L → MiOK I (gN g) → I 7 0 3 = iZ ((2 + 2 * gV g 6 0 : Nat) : Int) → I 7 0 4 = iZ (gV g 7 0 : Int) → I 7 0 5 = 0 → Fr pCt I0 I → WP (D + 7) 92 31 [vr 9 0, vn, vi w, vn, vi (iZ (st : Int)), vn, vn] [] (101, I, J, R0 b) (RIf b (fun z I' J' => z = v ∧ J' = J ∧ Fr pCt I0 I')) := by
  have n7 := hO.1.1
  have hL7 : L.length ≤ 7 := Nat.le_trans (nd_len hN n7 hn) n7
  have hLn := nd_len hN n7 hn
  intro m
  induction m with
  | zero =>
    intro st I hm hinv hX hL hMi h3 h4 h5 hf
    refine t_X9_glue_31 _ _ I J b (ifp (by rw [show (99 : Int32) = iZ 99 from rfl]; exact tlt (by omega) (by omega) (by omega)) (RIf.tx ?_ hf))
    rw [hv]
    unfold fGlue
    have : st = 100 := by omega
    subst this
    by_cases h0 : w = 0
    · rw [if_pos h0] at hinv ⊢
      rw [hinv]
      rfl
    · rw [if_neg h0] at hinv ⊢
      rw [hinv]
      rfl
  | succ m ih =>
    intro st I hm hinv hX hL hMi h3 h4 h5 hf
    -- one step of it: learn, try
    have hstep : ∀ (q : Nat), q ≤ 99 → (okG (parG g q) L = true → v = iZ (q : Int)) → (okG (parG g q) L = false → (if w = 0 then grG (fun v => okG (parG g v) L) 100 = grG (fun v => okG (parG g v) L) m else lsG (fun v => okG (parG g v) L) (st + 1) = none)) → ∀ (r p : Nat) (I : IM), r + p = L.length → XR g I J b → PlC I L → MiOK I (gN g) → I 7 0 3 = iZ ((2 + 2 * gV g 6 0 : Nat) : Int) → I 7 0 4 = iZ (gV g 7 0 : Int) → I 7 0 5 = 0 → Fr pCt I0 I → (∀ (k j : Nat), L[k]? = some j → k < p → I 29 0 (8 * j + k) = iZ (lawV (gL g) (gV g) j k q : Int)) → WP (D + 7) 92 57 [vr 9 0, vn, vi w, vn, vi (iZ (st : Int)), vi (iZ (q : Int)), vi (iZ (p : Int))] [] (101, I, J, R0 b) (RIf b (fun z I' J' => z = v ∧ J' = J ∧ Fr pCt I0 I')) := by
      intro q hq hyes hno r
      induction r with
      | zero =>
        intro p I hp hX hL hMi h3 h4 h5 hf hlr
        refine t_X9_glue_57 _ _ _ _ I J b ?_
        rw [hL.1]
        refine ifp (tle (by omega) (by omega) (by omega)) ?_
        have hPm : PaOK (Pmix g I) := by
          obtain ⟨p1, p2, p3, p4⟩ := parS_ok hO
          refine ⟨p1, p2, p3, fun j hj => ?_⟩
          obtain ⟨a1, a2, a3, a4, a5, a6, _⟩ := p4 j hj
          exact ⟨a1, a2, a3, a4, a5, a6, fun k hk => (mi_val hMi hj hk).2⟩
        have hS : ShAt I (Pmix g I) := ⟨h3, h4, h5, fun j k hj hk => (mi_val hMi hj hk).1⟩
        have hB : BeAt I (Pmix g I) := BeAt_of (lw := gL g) (H := 0) (C := 0) (g := 0) (nv := false) hX.1 n7
        have hgo : goL (Pmix g I) L = goL (parG g q) L := by
          refine goL_cong rfl rfl (fun k j hk => ?_)
          have hkl := (List.getElem?_eq_some_iff.mp hk).1
          show (I 29 0 (8 * j + k)).toInt.toNat = lawV (gL g) (gV g) j k q
          have := lawV_le (gL g) (gV g) j k q
          rw [hlr k j hk (by omega), iZ_toInt (by omega) (by omega), Int.toNat_natCast]
        have hl7 := (goL_ok hPm hN hn).2.2.2.2.2.1
        refine (e_tryPlan (D := D + 1) hPm hN hn hL hB hS hX.room).useI ?_
        rintro y I2 J2 ⟨rfl, hf2, hW2, rfl⟩
        have hL2 := hL.fr hf2
        have hff := hf.tr (pW0_ct hf2)
        rw [hL2.1]
        refine ifs (fun c1 => ?_) (fun c1 => ?_)
        · rw [iZ_eq (by omega) (by omega) (by omega) (by omega)] at c1
          have hno2 := hno (by unfold okG; rw [← hgo]; exact decide_eq_false (by omega))
          rw [iZ_s]
          refine ih (st + 1) I2 (by omega) hno2 (hX.fr (pW0_ct hf2)) hL2 (fun j k hj hk => ?_) ((hf2 _ _ _ rfl).trans h3) ((hf2 _ _ _ rfl).trans h4) ((hf2 _ _ _ rfl).trans h5) hff
          rw [hf2 _ _ _ rfl]
          exact hMi j k hj hk
        · have c1 := Classical.not_not.mp c1
          rw [iZ_eq (by omega) (by omega) (by omega) (by omega)] at c1
          exact RIf.tx (hyes (by unfold okG; rw [← hgo]; exact decide_eq_true (by omega))).symm hff
      | succ r ihr =>
        intro p I hp hX hL hMi h3 h4 h5 hf hlr
        have hpl : p < L.length := by omega
        have hg : L[p]? = some L[p] := List.getElem?_eq_getElem hpl
        have hlp := hn L[p] (List.getElem_mem hpl)
        refine t_X9_glue_57 _ _ _ _ I J b ?_
        rw [hL.1]
        refine ifn (nle (by omega) (by omega) (by omega)) ⟨vp_iZ (by omega) (by omega) (by omega), ?_⟩
        rw [iZ_ck (by omega), hL.2 p _ hg]
        refine (e_learn (D := D + 1) (hX.BL hO) (by omega) (by omega) hq).useV ?_
        rintro I2 J2 ⟨rfl, hf2, k1, k2, k7⟩
        have hlw := lawV_le (gL g) (gV g) L[p] p q
        rw [iZ_s]
        refine ihr (p + 1) I2 (by omega) (hX.fr (pSp_ct hf2)) (hL.eq (hf2 _ _ _ rfl) (fun k => hf2 _ _ _ rfl)) (fun j k hj hk => ?_) ((k7 _).trans h3) ((k7 _).trans h4) ((k7 _).trans h5) (hf.tr (pSp_ct hf2)) (fun k j hk hkp => ?_)
        · by_cases hjk : 8 * j + k = 8 * L[p] + p
          · exact ⟨_, hlw, by rw [hjk]; exact k1⟩
          · rw [k2 _ hjk]
            exact hMi j k hj hk
        · have hkl := (List.getElem?_eq_some_iff.mp hk).1
          by_cases hkp2 : k = p
          · subst hkp2
            rw [hg] at hk
            cases hk
            exact k1
          · have hj7 := hn j (List.mem_of_getElem? hk)
            rw [k2 _ (by omega)]
            exact hlr k j hk (by omega)
    refine t_X9_glue_31 _ _ I J b (ifn (by rw [show (99 : Int32) = iZ 99 from rfl]; exact nlt (by omega) (by omega) (by omega)) ?_)
    rcases hw with rfl | rfl
    · rw [if_pos rfl] at hinv
      refine ifn (fun z => z rfl) ?_
      have e : (99 : Int32) - iZ (st : Int) = iZ (m : Int) := by
        rw [show (99 : Int32) = iZ 99 from rfl, iZ_sub]
        congr 1
        omega
      rw [e]
      refine hstep m (by omega) (fun h => ?_) (fun h => ?_) L.length 0 I (by omega) hX hL hMi h3 h4 h5 hf (fun k j hk hk0 => by omega)
      · rw [hv]
        unfold fGlue
        rw [if_pos rfl, hinv]
        unfold grG
        rw [if_pos h]
        rfl
      · rw [if_pos rfl, hinv]
        show (if okG (parG g m) L = true then _ else _) = _
        rw [if_neg (by rw [h]; decide)]
    · rw [if_neg (by decide)] at hinv
      refine ifp (by decide) ?_
      refine hstep st (by omega) (fun h => ?_) (fun h => ?_) L.length 0 I (by omega) hX hL hMi h3 h4 h5 hf (fun k j hk hk0 => by omega)
      · rw [hv]
        unfold fGlue
        rw [if_neg (by decide)]
        have h1 : lsG (fun v => okG (parG g v) L) (st + 1) = some st := by
          unfold lsG
          rw [hinv]
          dsimp only
          rw [if_pos h]
        have h2 := lsG_up m (st + 1) h1
        rw [show st + 1 + m = 100 by omega] at h2
        rw [h2]
        rfl
      · rw [if_neg (by decide)]
        unfold lsG
        rw [hinv]
        dsimp only
        rw [if_neg (by rw [h]; decide)]
theorem cX_glue {x w : Int32} (hX : XR g I J b) (hO : SOK g c) : TX (D + 9) 92 [vr 9 0, vi x, vi w] I J b (aGlue x w g) := by
  refine t_X9_glue _ _ I J b ?_
  refine (p_X_isZeroOrOne w).use ?_
  cases hw : inB w 0 1
  · exact ifn (fun z => z rfl) (RIf.tx (aGlue_n hw).symm Fr.id)
  · refine ifp (by decide) ?_
    refine c_plan hX hO (aGlue_y hw) (fun L I1 hN hn hv1 hf1 hX1 hL1 => ?_)
    refine (e_open (D := D + 1) (hX1.BL hO)).useV ?_
    rintro I2 J2 ⟨rfl, hf2, s3, s4, s5, s29⟩
    have hX2 := hX1.fr (pSp_ct hf2)
    have hL2 : PlC I2 L := hL1.eq (hf2 _ _ _ rfl) (fun k => hf2 _ _ _ rfl)
    refine w_X_glue (D := D + 1) hO hN hn hv1 (in01 hw) 100 0 I2 (by omega) ?_ hX2 hL2 (fun j k hj hk => ⟨_, lawV_le _ _ _ _ _, s29 j k hj hk⟩) s3 s4 s5 (hf1.tr (pSp_ct hf2))
    split <;> rfl
theorem w_M_glue {L : List Nat} {w v : Int32} {I0 : IM} (hM : MR g I0 J) (hO : SOK g c) (hN : L.Nodup) (hn : ∀ j ∈ L, j < gN g) (hv : v = fGlue g w L) (hw : w = 0 ∨ w = 1) : ∀ (m k : Nat) (I : IM) (be : Int32), m + k = 100 → be = oI (if w = 0 then grG (fun v => okG (parG g v) L) k else lsG (fun v => okG (parG g v) L) k) → Fr pTw I0 I → (∀ q, q ≠ 10 → ((8 ≤ q ∧ q ≤ 10) ∨ (44 ≤ q ∧ q ≤ 45)) → I 10 0 q = I0 10 0 q) → PlM I L → WP (D + 7) 196 43 [vr 10 0, vn, vi w, vn, vi (I0 10 0 10), vi be, vi (iZ (k : Int))] [] (101, I, J, R0 b) (RIf b (fun z I' J' => z = v ∧ J' = J ∧ Fr pTh I0 I')) := by
  have n7 := hO.1.1
  have hL7 : L.length ≤ 7 := Nat.le_trans (nd_len hN n7 hn) n7
  have h60 := hO.1.2.2.1
  have h70 := hO.1.2.2.2.1
  intro m
  induction m with
  | zero =>
    intro k I be hm hbe hf hq hL
    have hk : k = 100 := by omega
    subst hk
    refine t_X10_glue_43 _ _ _ _ I J b (ifp (by rw [show (99 : Int32) = iZ 99 from rfl]; exact tlt (by omega) (by omega) (by omega)) (RIf.tm ?_ ?_))
    · rw [hbe, hv]
      rfl
    · refine pTw_th (hf.upd rfl) (fun q hq2 => ?_)
      rw [updI_if]
      split
      · next h =>
        obtain ⟨_, _, rfl⟩ := h
        rfl
      · next h => exact hq q (by omega) hq2
  | succ m ih =>
    intro k I be hm hbe hf hq hL
    refine t_X10_glue_43 _ _ _ _ I J b (ifn (by rw [show (99 : Int32) = iZ 99 from rfl]; exact nlt (by omega) (by omega) (by omega)) ?_)
    have hup : ∀ q, q ≠ 10 → updI I 10 0 10 (iZ (k : Int)) 10 0 q = I 10 0 q := fun q hq => by
      rw [updI_if, if_neg (by omega)]
    have hfu : Fr pTw I (updI I 10 0 10 (iZ (k : Int))) := Fr.id.upd rfl
    refine m_goW (gl := k) (dr := false) (nv := false) (men := gV g 6 0) (C := gV g 7 0) hM hO (hf.tr hfu) ((hup _ (by omega)).trans ((hq 8 (by omega) (by omega)).trans (hM.bn.2.2 6 (by omega) (by omega)))) ((hup _ (by omega)).trans ((hq 9 (by omega) (by omega)).trans (hM.bn.2.2 7 (by omega) (by omega)))) uI_eq ((hup _ (by omega)).trans ((hq 44 (by omega) (by omega)).trans hM.dry)) ((hup _ (by omega)).trans ((hq 45 (by omega) (by omega)).trans hM.drawn)) (by omega) (by omega) (by omega) (hL.eq (hup _ (by omega)) (fun q => by rw [updI_if, if_neg (by omega)])) hN hn (fun I2 hf2 _ _ _ h49 hL2 _ => ?_)
    rw [goZ_f] at h49
    dsimp only at h49
    have hl7 := (goL_ok (P := parG g k) (parP_ok hO.1 (by omega) (by omega)) hN hn).2.2.2.2.2.1
    rw [h49, hL2.1]
    have hf3 : Fr pTw I0 I2 := (hf.tr hfu).tr (pGf_w hf2)
    have hq3 : ∀ q, q ≠ 10 → ((8 ≤ q ∧ q ≤ 10) ∨ (44 ≤ q ∧ q ≤ 45)) → I2 10 0 q = I0 10 0 q := fun q q1 q2 => ((hf2 _ _ _ (pGf_f (by omega))).trans (hup q q1)).trans (hq q q1 q2)
    show (if ¬ iZ ((goL (parG g k) L).length : Int) = iZ (L.length : Int) then _ else _)
    refine ifs (fun c1 => ?_) (fun c1 => ?_)
    · rw [iZ_eq (by omega) (by omega) (by omega) (by omega)] at c1
      have hno : okG (parG g k) L = false := decide_eq_false (by omega)
      rw [iZ_s]
      refine ih (k + 1) I2 be (by omega) ?_ hf3 hq3 hL2
      rw [hbe]
      congr 1
      rcases hw with rfl | rfl
      · rw [if_pos rfl, if_pos rfl]
        show _ = (if okG (parG g k) L = true then _ else _)
        rw [if_neg (by rw [hno]; decide)]
      · rw [if_neg (by decide), if_neg (by decide)]
        conv => rhs; unfold lsG
        split
        · next h => rw [h]
        · next h => rw [h, if_neg (by rw [hno]; decide)]
    · have c1 := Classical.not_not.mp c1
      rw [iZ_eq (by omega) (by omega) (by omega) (by omega)] at c1
      have hyes : okG (parG g k) L = true := decide_eq_true (by omega)
      rw [iZ_s]
      rcases hw with rfl | rfl
      · refine ifp rfl (ih (k + 1) I2 _ (by omega) ?_ hf3 hq3 hL2)
        rw [if_pos rfl]
        show _ = oI (if okG (parG g k) L = true then _ else _)
        rw [if_pos hyes]
        rfl
      · rw [if_neg (by decide)] at hbe
        refine ifn (by decide) ?_
        cases hls : lsG (fun v => okG (parG g v) L) k with
        | none =>
          rw [hls] at hbe
          refine ifn (by rw [hbe]; decide) (ih (k + 1) I2 _ (by omega) ?_ hf3 hq3 hL2)
          rw [if_neg (by decide)]
          unfold lsG
          rw [hls]
          dsimp only
          rw [if_pos hyes]
          rfl
        | some u =>
          rw [hls] at hbe
          have hu := lsG_lt _ hls
          refine ifp (by rw [hbe, i_0]; exact tle (by omega) (by omega) (by omega)) (ih (k + 1) I2 _ (by omega) ?_ hf3 hq3 hL2)
          rw [if_neg (by decide), hbe]
          unfold lsG
          rw [hls]
theorem cM_glue {x w : Int32} (hM : MR g I J) (hO : SOK g c) : TM (D + 9) 196 [vr 10 0, vi x, vi w] I J b (aGlue x w g) := by
  refine t_X10_glue _ _ I J b ?_
  refine (p_M_isShelf x).use ?_
  rw [inB_05]
  by_cases hx : 0 ≤ x.toInt ∧ x.toInt < 6
  · rw [decide_eq_true hx]
    obtain ⟨s, hs, rfl⟩ := sh_ex hx
    refine ifn (by decide) ?_
    refine (p_M_in w 0 1).use ?_
    cases hw : inB w 0 1
    · exact ifn (fun z => z rfl) (RIf.tm (aGlue_n hw).symm Fr.id)
    · refine ifp (by decide) ?_
      refine m_plan hM hO hs (aGlue_y hw) (fun I1 hk hv1 hf1 hM1 hL1 => ?_)
      obtain ⟨hN, hn⟩ := plan_ok (gN g) (gS g s)
      refine (w_M_glue (D := D + 1) hM1 hO hN hn hv1 (in01 hw) 100 0 I1 (-2) (by omega) ?_ Fr.id (fun _ _ _ => rfl) hL1).mono ?_
      · split <;> rfl
      · rintro r h ⟨z, I', J', rfl, rfl, rfl, rfl, h3⟩
        exact RIf.tm rfl (hf1.tr h3)
  · rw [decide_eq_false hx]
    refine ifp rfl (RIf.tm ?_ Fr.id)
    unfold aGlue
    split
    · rfl
    · rw [aPl_no hx]
theorem op_glue (x w : Int32) : Op 92 196 [vi x, vi w] := Op.th (aGlue x w) (fun g c I J b hX hO => cX_glue (D := 891) hX hO) (fun g c I J b hM hO => cM_glue (D := 891) hM hO)
end OPD
