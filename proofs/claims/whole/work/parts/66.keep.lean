/-! CHANGES: keep -/
def gSh (g : Sg) (s : Nat) (q : Sh) : Sg := (g.1, g.2.1, g.2.2.1, g.2.2.2.1, g.2.2.2.2.1, (fun t => if t = s then q else gS g t), g.2.2.2.2.2.2)
section KEEP
variable {D : Nat} {g : Sg} {c : Nat} {I : IM} {J : JM} {b : Bool}
theorem XR.sh' {I' : IM} {J' : JM} {s : Nat} {q : Sh} (h : XR g I J b) (hq : ShC I' J' s q) (e : ∀ t j k, ¬ (t = 6 ∧ j = s) → I' t j k = I t j k) (eJ : ∀ t k, t ≠ s → J' 41 t k = J 41 t k) : XR (gSh g s q) I' J' b := by
  obtain ⟨h1, h2, h3, h4, h5, h6, h7, h8, h9, h10, h11, h12⟩ := h
  have hcs : cs b = 27 ∨ cs b = 28 := by cases b <;> decide
  refine ⟨h1.eq (fun s k z => e _ _ _ (by omega)), h2.eq (fun s k z => e _ _ _ (by omega)), h3.eq (fun s k z => e _ _ _ (by omega)), h4.eq (fun s k z => e _ _ _ (by omega)), fun t ht => ?_, h6.eq (fun s k z => e _ _ _ (by omega)), h7.eq (fun s k z => e _ _ _ (by omega)), h8.eq (fun s k z => e _ _ _ (by omega)) (fun k => e _ _ _ (by omega)), (e _ _ _ (by omega)).trans h9, h10.fr (e _ _ _ (by omega)), h11.fr (e _ _ _ (by omega)), fun d hd => (h12 d hd).eq (fun s k z => e _ _ _ (by omega)) (fun k => e _ _ _ (by omega))⟩
  show ShC I' J' t (if t = s then q else gS g t)
  split
  · next hts => rw [hts]; exact hq
  · next hts => exact (h5 t ht).eq (fun k => e _ _ _ (by omega)) (fun k => eJ t k hts)
theorem MR.sh' {I' : IM} {J' : JM} {s : Nat} {q : Sh} (h : MR g I J) (hq : ShM I' J' s q) (e : ∀ t k, ¬ ((t = 81 ∨ t = 82) ∧ k = s) → mCe t k → I' t 0 k = I t 0 k) (eJ : ∀ t k, t ≠ s → k < 60 → J' 83 0 (60 * t + k) = J 83 0 (60 * t + k)) : MR (gSh g s q) I' J' := by
  obtain ⟨h1, h2, h3, h4, h5, h6, h7, h8, ⟨h9, h10⟩, h11, h12⟩ := h
  refine ⟨h1.eq (fun s k z => e _ _ (by omega) (by unfold mCe; omega)), h2.eq (fun s k z => e _ _ (by omega) (by unfold mCe; omega)), h3.eq (fun s k z => e _ _ (by omega) (by unfold mCe; omega)), h4.eq (fun s k z => e _ _ (by omega) (by unfold mCe; omega)), fun t ht => ?_, h6.eq (fun s k z => e _ _ (by omega) (by unfold mCe; omega)), h7.eq (fun s k z => e _ _ (by omega) (by unfold mCe; omega)), h8.eq (fun s k z => e _ _ (by omega) (by unfold mCe; omega)), ⟨(e _ _ (by omega) (by unfold mCe; omega)).trans h9, fun d hd => (h10 d hd).eq (fun s k z => e _ _ (by omega) (by unfold mCe; omega))⟩, (e _ _ (by omega) (by unfold mCe; omega)).trans h11, (e _ _ (by omega) (by unfold mCe; omega)).trans h12⟩
  show ShM I' J' t (if t = s then q else gS g t)
  split
  · next hts => rw [hts]; exact hq
  · next hts =>
    obtain ⟨q1, q2⟩ := h5 t ht
    exact ⟨(e _ _ (by omega) (by unfold mCe; omega)).trans q1, fun z => ⟨(e _ _ (by omega) (by unfold mCe; omega)).trans (q2 z).1, fun k hk => (eJ t k hts hk).trans ((q2 z).2 k hk)⟩⟩
theorem SOK.sh' {s : Nat} {q : Sh} (h : SOK g c) (h1 : ShOK q) (h2 : sK q = 1 → sA q < (gB g).length) : SOK (gSh g s q) c := by
  obtain ⟨k1, k2, k3, k4, k5⟩ := h
  refine ⟨k1, k2, k3, fun t ht => ?_, k5⟩
  show ShOK (if t = s then q else gS g t) ∧ (sK (if t = s then q else gS g t) = 1 → sA (if t = s then q else gS g t) < (gB g).length)
  split
  · exact ⟨h1, h2⟩
  · exact k4 t ht
theorem p_isBody {y : Int32} {n : Nat} (h : I 10 0 72 = iZ (n : Int)) : Pu (D + 2) 219 [vr 10 0, vi y] I J b (bI (inB y 0 (iZ ((n : Int) - 1)))) := by
  refine t_X10_isBody _ I J b ?_
  rw [h, i_1, iZ_sub]
  exact (p_M_in _ _ _).use ⟨bI_and _, ⟨rfl, rfl⟩⟩
end KEEP
