/-! THE MODEL TRIES AN ORDER; what both read off what went in -/
def goD (P : Pa) (f : Nat) (dr : Bool) (sl : Int32) : List Nat → List En → Nat → Int32 → List En × Nat × Int32
  | [], E, nw, z => (E, nw, z)
  | j :: T, E, nw, z => match joD P E f nw j (zQ dr z sl) with
    | none => (E, nw, zA dr z (beg P E f nw j))
    | some e => goD P f dr sl T (E ++ [e]) (xf e) (zA dr z (beg P E f nw j))
theorem zA_f (z : Int32) (o : Option Nat) : zA false z o = z := by cases o <;> rfl
theorem goD_f {P : Pa} {f : Nat} {sl z : Int32} : ∀ (T : List Nat) (E : List En) (nw : Nat), goD P f false sl T E nw z = ((go P f T E nw).1, (go P f T E nw).2, z)
  | [], E, nw => rfl
  | j :: T, E, nw => by
    unfold goD go
    rw [zA_f, show zQ false z sl = false from rfl, joD_f]
    cases joi P E f nw j with
    | none => rfl
    | some e => exact goD_f T _ _
theorem joD_some {P : Pa} {E : List En} {f nw j : Nat} {q : Bool} {e : En} (hP : PaOK P) (hG : Gd P E nw) (hj : j < pn P) (hn : E.length - f < pn P) (hb : nw ≤ 899000) (h : joD P E f nw j q = some e) : xj e = j ∧ nw ≤ xf e ∧ xf e ≤ nw + 117 ∧ Gd P (E ++ [e]) (xf e) := by
  unfold joD at h
  split at h
  · cases h
  · next m hm =>
    obtain ⟨a1, a2, _⟩ := beg_some hG hm
    obtain ⟨b1, b2, b3, b4, b5, b6, b7⟩ := fas_some hP hj hn h
    have h0 := (hP.2.2.2 j hj).1
    have h7 := hP.1
    have h1 : (if q = true then 2 * pT P j 0 else pT P j 0) ≤ 18 := by split <;> omega
    refine ⟨b1, by omega, by omega, hG.snoc (by omega) (by omega) (by omega) ?_ b6 b7 (by omega)⟩
    rw [b3]
    exact b5
theorem goD_spec {P : Pa} (hP : PaOK P) {f : Nat} {dr : Bool} {sl : Int32} : ∀ (T : List Nat) (E : List En) (nw : Nat) (z : Int32), ChOK P E f T → Gd P E nw → nw + 117 * T.length ≤ 899000 → ∃ n, n ≤ T.length ∧ (goD P f dr sl T E nw z).1.map xj = E.map xj ++ T.take n ∧ (goD P f dr sl T E nw z).1.length = E.length + n ∧ ChOK P (goD P f dr sl T E nw z).1 f (T.drop n) ∧ Gd P (goD P f dr sl T E nw z).1 (goD P f dr sl T E nw z).2.1 ∧ nw ≤ (goD P f dr sl T E nw z).2.1 ∧ (goD P f dr sl T E nw z).2.1 ≤ nw + 117 * n
  | [], E, nw, z, hC, hG, hb => ⟨0, by simp, by simp [goD], by simp [goD], by simpa [goD] using hC, by simpa [goD] using hG, by simp [goD], by simp [goD]⟩
  | j :: T, E, nw, z, hC, hG, hb => by
    simp only [List.length_cons] at hb
    have hl := hC.len hP
    simp only [List.length_cons] at hl
    unfold goD
    cases hj : joD P E f nw j (zQ dr z sl) with
    | none => exact ⟨0, by simp, by simp, by simp, by simpa using hC, hG, Nat.le_refl _, by simp⟩
    | some e =>
      obtain ⟨a1, a2, a3, a4⟩ := joD_some hP hG (hC.2.2.1 j (by simp)) (by omega) (by omega) hj
      obtain ⟨n, b1, b2, b3, b4, b5, b6, b7⟩ := goD_spec hP T (E ++ [e]) (xf e) (zA dr z (beg P E f nw j)) (hC.snoc a1) a4 (by omega)
      dsimp only
      refine ⟨n + 1, by simp; omega, ?_, ?_, by simpa using b4, b5, by omega, by omega⟩
      · rw [b2]
        simp [a1]
      · rw [b3]
        simp
        omega
def pGf (s _j k : Nat) : Bool := (Nat.ble 59 s && Nat.ble s 67) || (Nat.beq s 10 && ((Nat.ble 36 k && Nat.ble k 38) || (Nat.beq k 43 || (Nat.beq k 46 || Nat.beq k 49))))
theorem pGf_f {s j k : Nat} (h : (s = 10 ∧ (k < 36 ∨ k = 44 ∨ k = 45 ∨ k = 47 ∨ k = 48 ∨ 49 < k)) ∨ (s ≠ 10 ∧ (s < 59 ∨ 67 < s))) : pGf s j k = false := by
  cases hb : pGf s j k
  · rfl
  · exfalso
    unfold pGf at hb
    simp only [Bool.or_eq_true, Bool.and_eq_true, nb_iff, Nat.ble_eq] at hb
    omega
theorem pTm_gf {I I' : IM} (h : Fr pTm I I') : Fr pGf I I' := h.subT (by
  intro s j k h
  unfold pTm at h
  unfold pGf
  simp only [Bool.or_eq_true, Bool.and_eq_true, nb_iff, Nat.ble_eq] at h ⊢
  omega)
theorem pGf_sub {I I' : IM} (h : Fr pGf I I') : Fr pTh I I' := h.subT (by
  intro s j k h
  unfold pGf at h
  unfold pTh
  simp only [Bool.or_eq_true, Bool.and_eq_true, nb_iff, Nat.ble_eq] at h ⊢
  omega)
theorem PlM.eq {I I' : IM} {L : List Nat} (h : PlM I L) (h1 : I' 10 0 48 = I 10 0 48) (h2 : ∀ k, I' 68 0 k = I 68 0 k) : PlM I' L := ⟨h1.trans h.1, fun k j hk => (h2 k).trans (h.2 k j hk)⟩
theorem PlM.fr {I I' : IM} {L : List Nat} (h : PlM I L) (hf : Fr pGf I I') : PlM I' L := h.eq (hf _ _ _ (pGf_f (by omega))) (fun k => hf _ _ _ (pGf_f (by omega)))
theorem MbAt.gf {I I' : IM} {P : Pa} (h : MbAt I P) (hf : Fr pTh I I') : MbAt I' P := h.eq (fun s k hs => hf s 0 k (pTh_f (by omega)))
/-- what trying an order does in the model -/
def MoT (P : Pa) (I : IM) (J : JM) (E : List En) (f : Nat) (r : List En × Nat × Int32) (g : Nat) (I' : IM) (J' : JM) : Prop := J' = J ∧ Fr pGf I I' ∧ HoAt I' r.1 f r.2.1 ∧ I' 10 0 46 = r.2.2 ∧ I' 10 0 49 = iZ (g : Int) ∧ (XtAt I E f → XtAt I' r.1 f)
section RUN
variable {D : Nat} {J : JM} {b : Bool} {P : Pa}
theorem w_goFrom {f : Nat} {L : List Nat} {dr : Bool} {sl : Int32} (hP : PaOK P) (hL7 : L.length ≤ 7) : ∀ (T : List Nat) (k : Nat) (E : List En) (nw : Nat) (z : Int32) (I0 I : IM), k ≤ L.length → L.drop k = T → PlM I L → MbAt I P → StOK P I → HoAt I E f nw → I 10 0 46 = z → I 10 0 12 = sl → I 10 0 45 = bI dr → I 10 0 49 = iZ (k : Int) → ChOK P E f T → Gd P E nw → nw + 117 * T.length ≤ 890000 → E.length + T.length ≤ 42 → Fr pGf I0 I → WP (D + 5) 184 5 [vr 10 0, vn] [] (101, I, J, R0 b) (RVf b (fun I' J' => J' = J ∧ Fr pGf I0 I' ∧ HoAt I' (goD P f dr sl T E nw z).1 f (goD P f dr sl T E nw z).2.1 ∧ I' 10 0 46 = (goD P f dr sl T E nw z).2.2 ∧ I' 10 0 49 = iZ ((k + ((goD P f dr sl T E nw z).1.length - E.length) : Nat) : Int) ∧ (XtAt I E f → XtAt I' (goD P f dr sl T E nw z).1 f))) := by
  intro T
  induction T with
  | nil =>
    intro k E nw z I0 I hk hT hL hM hS hH hz hsl hdr h49 hC hG hb h42 hF
    have := dr_nil hT
    refine t_X10_goFrom_5 I J b ?_
    rw [hL.1, h49]
    refine ifp (tle (by omega) (by omega) (by omega)) (RVf.mk ⟨rfl, hF, by simpa [goD] using hH, by simpa [goD] using hz, by simpa [goD] using h49, by simp [goD]⟩)
  | cons j T ih =>
    intro k E nw z I0 I hk hT hL hM hS hH hz hsl hdr h49 hC hG hb h42 hF
    obtain ⟨h1, h2, h3⟩ := dr_cons hT
    have hl := hC.len hP
    simp only [List.length_cons] at hl hb h42
    refine t_X10_goFrom_5 I J b ?_
    rw [hL.1, h49]
    refine ifn (nle (by omega) (by omega) (by omega)) ⟨vp_iZ (by omega) (by omega) (by omega), ?_⟩
    rw [iZ_ck (by omega), hL.2 k j h1]
    refine (e_goesIn hM hP hS (hC.2.2.1 j (by simp)) (by omega) (hC.pc hP) hC.2.1 hG (by omega) (by omega) hC.1 hH hC.new hdr).useI ?_
    intro x I1 J1 ⟨hJ, hF1, hz1, h⟩
    subst hJ
    rw [hz, hsl] at h
    rw [hz] at hz1
    have hFg := hF.tr (pTm_gf hF1)
    unfold goD
    cases hj : joD P E f nw j (zQ dr z sl) with
    | none =>
      rw [hj] at h
      obtain ⟨rfl, hH1, hX1⟩ := h
      refine ifp rfl (RVf.mk ⟨rfl, hFg, hH1, hz1, ?_, hX1⟩)
      rw [pTm_gf hF1 10 0 49 |> fun _ => hF1 10 0 49 (pTm_f (by omega)), h49]
      simp
    | some e =>
      rw [hj] at h
      obtain ⟨rfl, hH1, hX1⟩ := h
      obtain ⟨a1, a2, a3, a4⟩ := joD_some hP hG (hC.2.2.1 j (by simp)) (by omega) (by omega) hj
      refine ifn (by decide) ?_
      have e49 : I1 10 0 49 = iZ (k : Int) := (hF1 10 0 49 (pTm_f (by omega))).trans h49
      rw [e49, iZ_s]
      have hup : ∀ s k', (s ≠ 10 ∨ k' ≠ 49) → updI I1 10 0 49 (iZ ((k + 1 : Nat) : Int)) s 0 k' = I1 s 0 k' := fun s k' hs => by
        rw [updI_if, if_neg (by omega)]
      have hFu : Fr pGf I (updI I1 10 0 49 (iZ ((k + 1 : Nat) : Int))) := (pTm_gf hF1).upd rfl
      have hb2 := ih (k + 1) (E ++ [e]) (xf e) (zA dr z (beg P E f nw j)) I0 (updI I1 10 0 49 (iZ ((k + 1 : Nat) : Int))) (by omega) h2 (hL.fr hFu) (hM.gf (pGf_sub hFu)) (hS.fr (pGf_sub hFu)) (hH1.eq (fun s k' hs => hup s k' (by omega))) (by rw [hup _ _ (by omega)]; exact hz1) (by rw [hup _ _ (by omega)]; exact (hF1 _ _ _ (pTm_f (by omega))).trans hsl) (by rw [hup _ _ (by omega)]; exact (hF1 _ _ _ (pTm_f (by omega))).trans hdr) uI_eq (hC.snoc a1) a4 (by omega) (by simp; omega) (hF.tr hFu)
      refine hb2.mono ?_
      rintro r h' ⟨I3, J3, rfl, rfl, rfl, c1, c2, c3, c4, c5⟩
      refine RVf.mk ⟨rfl, c1, c2, c3, ?_, fun hx => c5 ?_⟩
      · dsimp only
        rw [c4]
        obtain ⟨n, _, _, hn, _⟩ := goD_spec hP (dr := dr) (sl := sl) T (E ++ [e]) (xf e) (zA dr z (beg P E f nw j)) (hC.snoc a1) a4 (by omega)
        rw [hn]
        congr 1
        simp
        omega
      · obtain ⟨x1, x2⟩ := hX1 hx
        refine ⟨fun e he => ?_, ?_⟩
        · obtain ⟨y1, y2, y3⟩ := x1 e he
          exact ⟨(hup _ _ (by omega)).trans y1, (hup _ _ (by omega)).trans y2, (hup _ _ (by omega)).trans y3⟩
        · exact (hup _ _ (by omega)).trans x2
theorem e_goFrom {f nw k : Nat} {L : List Nat} {dr : Bool} {E : List En} {I : IM} (hP : PaOK P) (hL7 : L.length ≤ 7) (hk : k ≤ L.length) (hL : PlM I L) (hM : MbAt I P) (hS : StOK P I) (hH : HoAt I E f nw) (hdr : I 10 0 45 = bI dr) (hC : ChOK P E f (L.drop k)) (hG : Gd P E nw) (hb : nw + 117 * 7 ≤ 890000) (h42 : E.length + L.length ≤ 42) : Call (D + 6) 184 [vr 10 0, vi (iZ (k : Int))] (101, I, J, R0 b) (RVf b (MoT P I J E f (goD P f dr (I 10 0 12) (L.drop k) E nw (I 10 0 46)) (k + ((goD P f dr (I 10 0 12) (L.drop k) E nw (I 10 0 46)).1.length - E.length)))) := by
  refine t_X10_goFrom _ I J b ?_
  have hl : (L.drop k).length ≤ L.length := by simp
  have hup : ∀ s k', (s ≠ 10 ∨ k' ≠ 49) → updI I 10 0 49 (iZ (k : Int)) s 0 k' = I s 0 k' := fun s k' hs => by
    rw [updI_if, if_neg (by omega)]
  have hFu : Fr pGf I (updI I 10 0 49 (iZ (k : Int))) := Fr.id.upd rfl
  have := w_goFrom (D := D) (J := J) (b := b) (dr := dr) (sl := I 10 0 12) hP hL7 (L.drop k) k E nw (I 10 0 46) I (updI I 10 0 49 (iZ (k : Int))) hk rfl (hL.fr hFu) (hM.gf (pGf_sub hFu)) (hS.fr (pGf_sub hFu)) (hH.eq (fun s k' hs => hup s k' (by omega))) (hup _ _ (by omega)) (hup _ _ (by omega)) ((hup _ _ (by omega)).trans hdr) uI_eq hC hG (by omega) (by omega) hFu
  refine this.mono ?_
  rintro r h' ⟨I3, J3, rfl, rfl, rfl, c1, c2, c3, c4, c5⟩
  refine RVf.mk ⟨rfl, c1, c2, c3, c4, fun hx => c5 ?_⟩
  obtain ⟨x1, x2⟩ := hx
  refine ⟨fun e he => ?_, (hup _ _ (by omega)).trans x2⟩
  obtain ⟨y1, y2, y3⟩ := x1 e he
  exact ⟨(hup _ _ (by omega)).trans y1, (hup _ _ (by omega)).trans y2, (hup _ _ (by omega)).trans y3⟩
theorem e_beginGlue {I : IM} : Call (D + 2) 171 [vr 10 0] (101, I, J, R0 b) (RVf b fun I' J' => J' = J ∧ Fr pTm I I' ∧ I' 10 0 46 = I 10 0 46 ∧ HoAt I' [] 0 0 ∧ XtAt I' [] 0) := by
  refine t_X10_beginGlue I J b ?_
  refine t_X10_beginChair _ _ _ (RVf.mk (RVf.mk ⟨rfl, ?_, ?_, ⟨⟨?_, ?_⟩, ?_, ?_, ?_⟩, ?_, ?_⟩))
  · exact Fr.upd (Fr.upd (Fr.upd (Fr.upd Fr.id rfl) rfl) rfl) rfl
  · simp [updI_if]
  · simp [updI_if, hl]; rfl
  · intro k e hk
    simp [hl] at hk
  · simp [updI_if]; rfl
  · simp [updI_if]; rfl
  · simp
  · simp
  · simp [updI_if]; rfl
/-- a whole try, from minute 0 -/
def goZ (P : Pa) (L : List Nat) (dr : Bool) (sl z : Int32) : List En × Nat × Int32 := goD P 0 dr sl L [] 0 z
theorem goZ_f (P : Pa) (L : List Nat) (sl z : Int32) : goZ P L false sl z = (goL P L, goN P L, z) := goD_f L [] 0
theorem e_goOrder {L : List Nat} {dr : Bool} {I : IM} (hP : PaOK P) (hN : L.Nodup) (hn : ∀ j ∈ L, j < pn P) (hL : PlM I L) (hM : MbAt I P) (hS : StOK P I) (hdr : I 10 0 45 = bI dr) : Call (D + 7) 185 [vr 10 0] (101, I, J, R0 b) (RVf b fun I' J' => J' = J ∧ Fr pGf I I' ∧ HoAt I' (goZ P L dr (I 10 0 12) (I 10 0 46)).1 0 (goZ P L dr (I 10 0 12) (I 10 0 46)).2.1 ∧ I' 10 0 46 = (goZ P L dr (I 10 0 12) (I 10 0 46)).2.2 ∧ I' 10 0 49 = iZ ((goZ P L dr (I 10 0 12) (I 10 0 46)).1.length : Int) ∧ XtAt I' (goZ P L dr (I 10 0 12) (I 10 0 46)).1 0) := by
  have hl := nd_len hN hP.1 hn
  have h7 := hP.1
  refine t_X10_goOrder I J b ?_
  refine (e_beginGlue (D := D + 4)).useV ?_
  rintro I1 J1 ⟨rfl, hF, h46, hH, hX⟩
  have hFg := pTm_gf hF
  have e12 : I1 10 0 12 = I 10 0 12 := hF _ _ _ (pTm_f (by omega))
  refine (e_goFrom (k := 0) (dr := dr) hP (by omega) (by omega) (hL.fr hFg) (hM.gf (pGf_sub hFg)) (hS.fr (pGf_sub hFg)) hH ((hF _ _ _ (pTm_f (by omega))).trans hdr) (ChOK.nil hN hn) (Gd.nil (by omega)) (by omega) (by simp; omega)).useV ?_
  rw [e12, h46]
  rintro I2 J2 ⟨rfl, c1, c2, c3, c4, c5⟩
  refine RVf.mk ⟨rfl, hFg.tr c1, c2, c3, ?_, c5 hX⟩
  rw [c4]
  simp [goZ]
end RUN
