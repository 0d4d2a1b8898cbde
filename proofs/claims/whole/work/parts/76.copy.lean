/-! CHANGES: a desk becomes as another -/
def gKe (g : Sg) (k : Option De) : Sg := (g.1, g.2.1, g.2.2.1, g.2.2.2.1, g.2.2.2.2.1, g.2.2.2.2.2.1, g.2.2.2.2.2.2.1, g.2.2.2.2.2.2.2.1, g.2.2.2.2.2.2.2.2.1, k)
theorem cpw (I : IM) (s w1 w n : Nat) (hw : w ≠ w1) : (∀ k, k < n → cpyI I s w1 s w 0 0 n s w k = I s w1 k) ∧ ∀ a c k, ¬ (a = s ∧ c = w) → cpyI I s w1 s w 0 0 n a c k = I a c k := by
  refine ⟨fun k hk => ?_, fun a c k h => ?_⟩
  · rw [cpyI_if, if_pos ⟨rfl, rfl⟩, sb_cpy0 hk]
  · rw [cpyI_if, if_neg h]
section COPY
variable {D w w1 f nw : Nat} {E : List En} {g : Sg} {c : Nat} {I : IM} {J : JM} {b : Bool} {d : De}
theorem e_copyW (hW : WkAt w1 7 I E f nw) (hR : WkR w 7 I) (hw : w ≠ w1) : Call (D + 1) 62 [vr 8 w, vr 8 w1] (101, I, J, R0 b) (RVf b fun I' J' => J' = J ∧ WkAt w 7 I' E f nw ∧ ∀ s j k, ¬ (j = w ∧ ((s = 8 ∧ 9 ≤ k) ∨ (30 ≤ s ∧ s ≤ 35))) → I' s j k = I s j k) := by
  obtain ⟨⟨g30, g31, g32, g33, g34, g35, gr, gr2⟩, hl, hf, hbs, hn, hE, hr, hfl⟩ := hW
  obtain ⟨k30, k31, k32, k33, k34, k35, kr, kr2⟩ := hR
  refine t_X8_copyFrom w w1 I J b ?_
  have hm : (if (I 8 w1 10) < (I 8 w 2) then (I 8 w1 10) else (I 8 w 2)) = iZ (E.length : Int) := by
    rw [hl, kr]
    split
    · rfl
    · next h =>
      rw [iZ_lt (by omega) (by omega) (by omega) (by omega)] at h
      congr 1
      omega
  have h0 : ¬ (0 : Int32) < 0 := by decide
  have hn0 : ¬ iZ (E.length : Int) < 0 := by rw [i_0]; exact nlt (by omega) (by omega) (by omega)
  rw [hm, iZ_ck (by omega), g30, g31, g32, g33, g34, g35, k30, k31, k32, k33, k34, k35]
  have hq : ¬ (0 : Int32) < 0 ∧ ¬ (0 : Int32) < 0 ∧ ¬ iZ (E.length : Int) < 0 ∧ 0 + E.length ≤ 7 ∧ 0 + E.length ≤ 7 := ⟨h0, h0, hn0, by omega, by omega⟩
  refine ⟨hq, hq, hq, hq, hq, hq, ?_⟩
  rw [hbs, hn, hf]
  have x1 := cpw I 30 w1 w E.length hw
  generalize cpyI I 30 w1 30 w 0 0 E.length = I1 at x1 ⊢
  have x2 := cpw I1 31 w1 w E.length hw
  generalize cpyI I1 31 w1 31 w 0 0 E.length = I2 at x2 ⊢
  have x3 := cpw I2 32 w1 w E.length hw
  generalize cpyI I2 32 w1 32 w 0 0 E.length = I3 at x3 ⊢
  have x4 := cpw I3 33 w1 w E.length hw
  generalize cpyI I3 33 w1 33 w 0 0 E.length = I4 at x4 ⊢
  have x5 := cpw I4 34 w1 w E.length hw
  generalize cpyI I4 34 w1 34 w 0 0 E.length = I5 at x5 ⊢
  have x6 := cpw I5 35 w1 w E.length hw
  generalize cpyI I5 35 w1 35 w 0 0 E.length = I6 at x6 ⊢
  have hu : ∀ s j k, ¬ (s = 8 ∧ j = w ∧ 9 ≤ k) → updI (updI (updI (updI I6 8 w 9 (iZ (f : Int))) 8 w 10 (iZ (E.length : Int))) 8 w 11 (iZ (bs (E.drop f) : Int))) 8 w 12 (iZ (nw : Int)) s j k = I6 s j k := fun s j k z => by
    rw [updI_if, if_neg (by omega), updI_if, if_neg (by omega), updI_if, if_neg (by omega), updI_if, if_neg (by omega)]
  refine RVf.mk ⟨rfl, ⟨⟨k30, k31, k32, k33, k34, k35, ?_, kr2⟩, ?_, ?_, ?_, ?_, fun k e hk => ?_, hr, hfl⟩, fun s j k z => ?_⟩
  · rw [hu _ _ _ (by omega), x6.2 _ _ _ (by omega), x5.2 _ _ _ (by omega), x4.2 _ _ _ (by omega), x3.2 _ _ _ (by omega), x2.2 _ _ _ (by omega), x1.2 _ _ _ (by omega)]
    exact kr
  · rw [updI_if, if_neg (by omega), updI_if, if_neg (by omega), uI_eq]
  · rw [updI_if, if_neg (by omega), updI_if, if_neg (by omega), updI_if, if_neg (by omega), uI_eq]
  · rw [updI_if, if_neg (by omega), uI_eq]
  · rw [uI_eq]
  · have hk2 : k < E.length := by
      rw [List.getElem?_eq_some_iff] at hk
      exact hk.1
    obtain ⟨e1, e2, e3, e4, e5, e6⟩ := hE k e hk
    rw [hu _ _ _ (by omega), hu _ _ _ (by omega), hu _ _ _ (by omega), hu _ _ _ (by omega), hu _ _ _ (by omega), hu _ _ _ (by omega)]
    refine ⟨?_, ?_, ?_, ?_, ?_, ?_⟩
    · rw [x6.2 _ _ _ (by omega), x5.2 _ _ _ (by omega), x4.2 _ _ _ (by omega), x3.2 _ _ _ (by omega), x2.2 _ _ _ (by omega), x1.1 k hk2]
      exact e1
    · rw [x6.2 _ _ _ (by omega), x5.2 _ _ _ (by omega), x4.2 _ _ _ (by omega), x3.2 _ _ _ (by omega), x2.1 k hk2, x1.2 _ _ _ (by omega)]
      exact e2
    · rw [x6.2 _ _ _ (by omega), x5.2 _ _ _ (by omega), x4.2 _ _ _ (by omega), x3.1 k hk2, x2.2 _ _ _ (by omega), x1.2 _ _ _ (by omega)]
      exact e3
    · rw [x6.2 _ _ _ (by omega), x5.2 _ _ _ (by omega), x4.1 k hk2, x3.2 _ _ _ (by omega), x2.2 _ _ _ (by omega), x1.2 _ _ _ (by omega)]
      exact e4
    · rw [x6.2 _ _ _ (by omega), x5.1 k hk2, x4.2 _ _ _ (by omega), x3.2 _ _ _ (by omega), x2.2 _ _ _ (by omega), x1.2 _ _ _ (by omega)]
      exact e5
    · rw [x6.1 k hk2, x5.2 _ _ _ (by omega), x4.2 _ _ _ (by omega), x3.2 _ _ _ (by omega), x2.2 _ _ _ (by omega), x1.2 _ _ _ (by omega)]
      exact e6
  · rw [hu _ _ _ (by omega), x6.2 _ _ _ (by omega), x5.2 _ _ _ (by omega), x4.2 _ _ _ (by omega), x3.2 _ _ _ (by omega), x2.2 _ _ _ (by omega), x1.2 _ _ _ (by omega)]
theorem e_copyD {o o1 : Nat} (hd : DeC (o1 + 1) o1 I d) (hR : WkR (o + 1) 7 I) (ho : o ≠ o1) : Call (D + 2) 17 [vr 2 o, vr 2 o1] (101, I, J, R0 b) (RVf b fun I' J' => J' = J ∧ DeC (o + 1) o I' d ∧ ∀ s j k, ¬ ((j = o + 1 ∧ ((s = 8 ∧ 9 ≤ k) ∨ (30 ≤ s ∧ s ≤ 35))) ∨ (s = 2 ∧ j = o)) → I' s j k = I s j k) := by
  obtain ⟨h1, h2, h3, h4, h5⟩ := hd
  refine t_X2_copyFrom o o1 I J b ?_
  refine (e_copyW (D := D) h1 hR (by omega)).mono ?_
  rintro r h ⟨I1, J1, rfl, rfl, rfl, hW, hf⟩
  refine RVf.mk ?_
  rw [hf 2 o1 1 (by omega), hf 2 o1 2 (by omega), hf 2 o1 3 (by omega), hf 2 o1 4 (by omega), h2, h3, h4, h5]
  have hu : ∀ s j k, ¬ (s = 2 ∧ j = o) → updI (updI (updI (updI I1 2 o 1 (iZ (d.2.2.1 : Int))) 2 o 2 (iZ (d.2.2.2.1 : Int))) 2 o 3 (iZ (d.2.2.2.2.1 : Int))) 2 o 4 (iZ (d.2.2.2.2.2 : Int)) s j k = I1 s j k := fun s j k z => by
    rw [updI_if, if_neg (by omega), updI_if, if_neg (by omega), updI_if, if_neg (by omega), updI_if, if_neg (by omega)]
  refine RVf.mk ⟨rfl, ⟨hW.frame (fun s k z => hu _ _ _ (by omega)), ?_, ?_, ?_, ?_⟩, fun s j k z => ?_⟩
  · rw [updI_if, if_neg (by omega), updI_if, if_neg (by omega), updI_if, if_neg (by omega), uI_eq]
  · rw [updI_if, if_neg (by omega), updI_if, if_neg (by omega), uI_eq]
  · rw [updI_if, if_neg (by omega), uI_eq]
  · rw [uI_eq]
  · rw [hu _ _ _ (by omega), hf _ _ _ (by omega)]
theorem XR.ke {I' : IM} {k : Option De} (h : XR g I J b) (ha : I' 9 0 12 = bI k.isSome) (hK : ∀ d, k = some d → DeC 2 1 I' d) (e : ∀ s j k, ¬ ((j = 2 ∧ ((s = 8 ∧ 9 ≤ k) ∨ (30 ≤ s ∧ s ≤ 35))) ∨ (s = 2 ∧ j = 1) ∨ (s = 9 ∧ k = 12)) → I' s j k = I s j k) : XR (gKe g k) I' J b := by
  obtain ⟨h1, h2, h3, h4, h5, h6, h7, h8, h9, h10, h11, h12⟩ := h
  have hcs : cs b = 27 ∨ cs b = 28 := by cases b <;> decide
  exact ⟨h1.eq (fun s k z => e _ _ _ (by omega)), h2.eq (fun s k z => e _ _ _ (by omega)), h3.eq (fun s k z => e _ _ _ (by omega)), h4.eq (fun s k z => e _ _ _ (by omega)), fun s hs => (h5 s hs).eq (fun k => e _ _ _ (by omega)) (fun _ => rfl), h6.eq (fun s k z => e _ _ _ (by omega)), h7.eq (fun s k z => e _ _ _ (by omega)), h8.eq (fun s k z => e _ _ _ (by omega)) (fun k => e _ _ _ (by omega)), ha, h10.fr (e _ _ _ (by omega)), h11.fr (e _ _ _ (by omega)), hK⟩
theorem MR.ke {I' : IM} {k : Option De} (h : MR g I J) (h65 : I' 10 0 65 = bI k.isSome) (hK : ∀ d, k = some d → KeM I' d) (e : ∀ s k, ¬ ((s = 10 ∧ 65 ≤ k ∧ k ≤ 68) ∨ (76 ≤ s ∧ s ≤ 78)) → mCe s k → I' s 0 k = I s 0 k) : MR (gKe g k) I' J := by
  obtain ⟨h1, h2, h3, h4, h5, h6, h7, h8, ⟨h9, h10⟩, h11, h12⟩ := h
  exact ⟨h1.eq (fun s k z => e _ _ (by omega) (by unfold mCe; omega)), h2.eq (fun s k z => e _ _ (by omega) (by unfold mCe; omega)), h3.eq (fun s k z => e _ _ (by omega) (by unfold mCe; omega)), h4.eq (fun s k z => e _ _ (by omega) (by unfold mCe; omega)), fun s hs => (h5 s hs).eq (fun t k z => e _ _ (by omega) (by unfold mCe; omega)) (fun _ => rfl), h6.eq (fun s k z => e _ _ (by omega) (by unfold mCe; omega)), h7.eq (fun s k z => e _ _ (by omega) (by unfold mCe; omega)), h8.eq (fun s k z => e _ _ (by omega) (by unfold mCe; omega)), ⟨h65, hK⟩, (e _ _ (by omega) (by unfold mCe; omega)).trans h11, (e _ _ (by omega) (by unfold mCe; omega)).trans h12⟩
theorem SOK.ke {k : Option De} (h : SOK g c) (hK : ∀ d, k = some d → DeOK c (gN g) d) : SOK (gKe g k) c := by
  obtain ⟨h1, h2, h3, h4, h5, h6, h7, h8, h9⟩ := h
  exact ⟨h1, h2, h3, h4, h5, h6, h7, hK, h9⟩
end COPY
