/-! OPS: count, chair -/
def aCount (x : Int32) (g : Sg) : Int32 := if x = 0 then iZ (gN g : Int) else if x = 1 then iZ ((gT g).length : Int) else if x = 2 then iZ (gU g : Int) else if x = 3 then iZ ((gB g).length : Int) else if x = 4 then iZ ((gR2 g).1 : Int) else -1
def gDe (g : Sg) (d : De) : Sg := (g.1, g.2.1, g.2.2.1, g.2.2.2.1, g.2.2.2.2.1, g.2.2.2.2.2.1, g.2.2.2.2.2.2.1, g.2.2.2.2.2.2.2.1, d, g.2.2.2.2.2.2.2.2.2)
section COUNT
variable {D : Nat} {g : Sg} {c : Nat} {I : IM} {J : JM} {b : Bool}
theorem cX_count {x : Int32} (hX : XR g I J b) : TX (D + 1) 122 [vr 9 0, vi x] I J b (aCount x g) := by
  obtain ⟨h1, h2, h3, h4, h5, h6, h7, h8, h9, h10, h11, h12⟩ := hX
  refine t_X9_count _ I J b ?_
  rw [h1.1, h2.1, h3.1, h6.1, h7.1]
  exact ifs (fun z0 => RIf.tx (by unfold aCount; rw [if_pos z0]) Fr.id) (fun z0 => ifs (fun z1 => RIf.tx (by unfold aCount; rw [if_neg z0, if_pos z1]) Fr.id) (fun z1 => ifs (fun z2 => RIf.tx (by unfold aCount; rw [if_neg z0, if_neg z1, if_pos z2]) Fr.id) (fun z2 => ifs (fun z3 => RIf.tx (by unfold aCount; rw [if_neg z0, if_neg z1, if_neg z2, if_pos z3]) Fr.id) (fun z3 => ifs (fun z4 => RIf.tx (by unfold aCount; rw [if_neg z0, if_neg z1, if_neg z2, if_neg z3, if_pos z4]) Fr.id) (fun z4 => RIf.tx (by unfold aCount; rw [if_neg z0, if_neg z1, if_neg z2, if_neg z3, if_neg z4]) Fr.id)))))
theorem cM_count {x : Int32} (hM : MR g I J) : TM (D + 1) 236 [vr 10 0, vi x] I J b (aCount x g) := by
  obtain ⟨h1, h2, h3, h4, h5, h6, h7, h8, ⟨h9, h10⟩, h11, h12⟩ := hM
  refine t_X10_count _ I J b ?_
  rw [h1.1, h2.1, h3.1, h6.1, h7.1]
  exact ifs (fun z0 => RIf.tm (by unfold aCount; rw [if_pos z0]) Fr.id) (fun z0 => ifs (fun z1 => RIf.tm (by unfold aCount; rw [if_neg z0, if_pos z1]) Fr.id) (fun z1 => ifs (fun z2 => RIf.tm (by unfold aCount; rw [if_neg z0, if_neg z1, if_pos z2]) Fr.id) (fun z2 => ifs (fun z3 => RIf.tm (by unfold aCount; rw [if_neg z0, if_neg z1, if_neg z2, if_pos z3]) Fr.id) (fun z3 => ifs (fun z4 => RIf.tm (by unfold aCount; rw [if_neg z0, if_neg z1, if_neg z2, if_neg z3, if_pos z4]) Fr.id) (fun z4 => RIf.tm (by unfold aCount; rw [if_neg z0, if_neg z1, if_neg z2, if_neg z3, if_neg z4]) Fr.id)))))
theorem op_count (x : Int32) : Op 122 236 [vi x] := Op.th (aCount x) (fun g c I J b hX hO => cX_count (D := 899) hX) (fun g c I J b hM hO => cM_count (D := 899) hM)
theorem XR.de {I' : IM} {d : De} (h : XR g I J b) (hD : DeC 1 0 I' d) (e : ∀ s j k, ¬ (((s = 8 ∨ (30 ≤ s ∧ s ≤ 35)) ∧ j = 1) ∨ (s = 2 ∧ j = 0)) → I' s j k = I s j k) : XR (gDe g d) I' J b := by
  obtain ⟨h1, h2, h3, h4, h5, h6, h7, h8, h9, h10, h11, h12⟩ := h
  have hcs : cs b = 27 ∨ cs b = 28 := by cases b <;> decide
  exact ⟨h1.eq (fun s k z => e _ _ _ (by omega)), h2.eq (fun s k z => e _ _ _ (by omega)), h3.eq (fun s k z => e _ _ _ (by omega)), h4.eq (fun s k z => e _ _ _ (by omega)), fun s hs => (h5 s hs).eq (fun k => e _ _ _ (by omega)) (fun _ => rfl), h6.eq (fun s k z => e _ _ _ (by omega)), h7.eq (fun s k z => e _ _ _ (by omega)), hD, (e _ _ _ (by omega)).trans h9, h10.fr (e _ _ _ (by omega)), h11.fr (e _ _ _ (by omega)), fun d hd => (h12 d hd).eq (fun s k z => e _ _ _ (by omega)) (fun k => e _ _ _ (by omega))⟩
theorem MR.de {I' : IM} {d : De} (h : MR g I J) (hD : DeM I' d) (e : ∀ s k, ¬ ((s = 10 ∧ (k = 57 ∨ k = 58 ∨ k = 63)) ∨ (71 ≤ s ∧ s ≤ 75)) → mCe s k → I' s 0 k = I s 0 k) : MR (gDe g d) I' J := by
  obtain ⟨h1, h2, h3, h4, h5, h6, h7, h8, ⟨h9, h10⟩, h11, h12⟩ := h
  exact ⟨h1.eq (fun s k z => e _ _ (by omega) (by unfold mCe; omega)), h2.eq (fun s k z => e _ _ (by omega) (by unfold mCe; omega)), h3.eq (fun s k z => e _ _ (by omega) (by unfold mCe; omega)), h4.eq (fun s k z => e _ _ (by omega) (by unfold mCe; omega)), fun s hs => (h5 s hs).eq (fun t k z => e _ _ (by omega) (by unfold mCe; omega)) (fun _ => rfl), h6.eq (fun s k z => e _ _ (by omega) (by unfold mCe; omega)), h7.eq (fun s k z => e _ _ (by omega) (by unfold mCe; omega)), hD, ⟨(e _ _ (by omega) (by unfold mCe; omega)).trans h9, fun d hd => (h10 d hd).eq (fun s k z => e _ _ (by omega) (by unfold mCe; omega))⟩, (e _ _ (by omega) (by unfold mCe; omega)).trans h11, (e _ _ (by omega) (by unfold mCe; omega)).trans h12⟩
theorem SOK.de {d : De} (h : SOK g c) (hD : DeOK c (gN g) d) : SOK (gDe g d) c := by
  obtain ⟨h1, h2, h3, h4, h5, h6, h7, h8, h9⟩ := h
  exact ⟨h1, h2, h3, h4, h5, h6, hD, h8, h9⟩
end COUNT
