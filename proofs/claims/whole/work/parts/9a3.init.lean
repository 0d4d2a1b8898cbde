/-! THE FRESH STATE: all numbers 0 but a few -/
def I0w (L : Nat) (xs : Nat → Int32) : IM := fun s _ k => if s = 950 then xs k else if s = 951 then iZ (L : Int) else 0
def Jno : JM := fun _ _ _ => 0
def iI (L : Nat) (xs : Nat → Int32) : IM := c_X10_init_59_I (zerI (c_X9_init_1_I (zerI (I0w L xs) 9 0)) 10 0)
def iJ : JM := c_X10_init_59_J (zerJ (c_X9_init_1_J (zerJ Jno 9 0)) 10 0)
def spc (s k : Nat) : Prop := (s = 20 ∧ (k = 44 ∨ k = 45)) ∨ (s = 8 ∧ k = 2) ∨ (s = 10 ∧ (k = 10 ∨ k = 11)) ∨ s = 81
def ZI (I : IM) : Prop := ∀ s j k, s < 900 → ¬ spc s k → I s j k = 0
theorem ZI.zer {I : IM} {a b : Nat} (h : ZI I) : ZI (zerI I a b) := by
  intro s j k hs hk
  unfold zerI
  cases (Nat.beq s a && Nat.beq j b)
  · exact h s j k hs hk
  · rfl
theorem ZI.upd {I : IM} {a b d : Nat} {v : Int32} (h : ZI I) (hv : spc a d ∨ v = 0) : ZI (updI I a b d v) := by
  intro s j k hs hk
  unfold updI
  cases e : (Nat.beq s a && (Nat.beq k d && Nat.beq j b))
  · exact h s j k hs hk
  · simp only [Bool.and_eq_true, nb_iff] at e
    obtain ⟨rfl, rfl, rfl⟩ := e
    rcases hv with hv | hv
    · exact absurd hv hk
    · exact hv
theorem ZI.low (L : Nat) (xs : Nat → Int32) : ZI (I0w L xs) := by
  intro s j k hs hk
  unfold I0w
  rw [if_neg (by omega), if_neg (by omega)]
section ZIS
variable {I : IM}
theorem z_c_X1_init_2 (h : ZI I) : ZI (c_X1_init_2_I I) := by
  unfold c_X1_init_2_I
  repeat (first | with_reducible exact h | with_reducible refine ZI.zer ?_ | with_reducible refine ZI.upd ?_ (by first | exact Or.inr rfl | (refine Or.inl ?_; unfold spc; omega)))
theorem z_c_X4_init_4 (h : ZI I) : ZI (c_X4_init_4_I I) := by
  unfold c_X4_init_4_I
  repeat (first | with_reducible exact h | with_reducible refine ZI.zer ?_ | with_reducible refine ZI.upd ?_ (by first | exact Or.inr rfl | (refine Or.inl ?_; unfold spc; omega)))
theorem z_c_X3_init_8 (h : ZI I) : ZI (c_X3_init_8_I I) := by
  unfold c_X3_init_8_I
  repeat (first | with_reducible exact h | with_reducible refine ZI.zer ?_ | with_reducible refine ZI.upd ?_ (by first | exact Or.inr rfl | (refine Or.inl ?_; unfold spc; omega)))
theorem z_c_X7_init_14 (h : ZI I) : ZI (c_X7_init_14_I I) := by
  unfold c_X7_init_14_I
  repeat (first | with_reducible exact h | with_reducible refine ZI.zer ?_ | with_reducible refine ZI.upd ?_ (by first | exact Or.inr rfl | (refine Or.inl ?_; unfold spc; omega)))
theorem z_c_X8_init_16 (h : ZI I) : ZI (c_X8_init_16_I I) := by
  unfold c_X8_init_16_I
  repeat (first | with_reducible exact h | with_reducible refine ZI.zer ?_ | with_reducible refine ZI.upd ?_ (by first | exact Or.inr rfl | (refine Or.inl ?_; unfold spc; omega)))
theorem z_c_X5_init_23 (h : ZI I) : ZI (c_X5_init_23_I I) := by
  unfold c_X5_init_23_I
  repeat (first | with_reducible exact h | with_reducible refine ZI.zer ?_ | with_reducible refine ZI.upd ?_ (by first | exact Or.inr rfl | (refine Or.inl ?_; unfold spc; omega)))
theorem z_c_X8_init_27 (h : ZI I) : ZI (c_X8_init_27_I I) := by
  unfold c_X8_init_27_I
  repeat (first | with_reducible exact h | with_reducible refine ZI.zer ?_ | with_reducible refine ZI.upd ?_ (by first | exact Or.inr rfl | (refine Or.inl ?_; unfold spc; omega)))
theorem z_c_X2_init_26 (h : ZI I) : ZI (c_X2_init_26_I I) := by
  unfold c_X2_init_26_I
  repeat (first | with_reducible exact h | with_reducible refine ZI.zer ?_ | with_reducible refine ZI.upd ?_ (by first | exact Or.inr rfl | (refine Or.inl ?_; unfold spc; omega)) | with_reducible refine z_c_X8_init_27 ?_)
theorem z_c_X8_init_35 (h : ZI I) : ZI (c_X8_init_35_I I) := by
  unfold c_X8_init_35_I
  repeat (first | with_reducible exact h | with_reducible refine ZI.zer ?_ | with_reducible refine ZI.upd ?_ (by first | exact Or.inr rfl | (refine Or.inl ?_; unfold spc; omega)))
theorem z_c_X2_init_34 (h : ZI I) : ZI (c_X2_init_34_I I) := by
  unfold c_X2_init_34_I
  repeat (first | with_reducible exact h | with_reducible refine ZI.zer ?_ | with_reducible refine ZI.upd ?_ (by first | exact Or.inr rfl | (refine Or.inl ?_; unfold spc; omega)) | with_reducible refine z_c_X8_init_35 ?_)
theorem z_c_X0_init_42 (h : ZI I) : ZI (c_X0_init_42_I I) := by
  unfold c_X0_init_42_I
  repeat (first | with_reducible exact h | with_reducible refine ZI.zer ?_ | with_reducible refine ZI.upd ?_ (by first | exact Or.inr rfl | (refine Or.inl ?_; unfold spc; omega)))
theorem z_c_X6_init_46 (h : ZI I) : ZI (c_X6_init_46_I I) := by
  unfold c_X6_init_46_I
  repeat (first | with_reducible exact h | with_reducible refine ZI.zer ?_ | with_reducible refine ZI.upd ?_ (by first | exact Or.inr rfl | (refine Or.inl ?_; unfold spc; omega)))
theorem z_c_X6_init_48 (h : ZI I) : ZI (c_X6_init_48_I I) := by
  unfold c_X6_init_48_I
  repeat (first | with_reducible exact h | with_reducible refine ZI.zer ?_ | with_reducible refine ZI.upd ?_ (by first | exact Or.inr rfl | (refine Or.inl ?_; unfold spc; omega)))
theorem z_c_X6_init_50 (h : ZI I) : ZI (c_X6_init_50_I I) := by
  unfold c_X6_init_50_I
  repeat (first | with_reducible exact h | with_reducible refine ZI.zer ?_ | with_reducible refine ZI.upd ?_ (by first | exact Or.inr rfl | (refine Or.inl ?_; unfold spc; omega)))
theorem z_c_X6_init_52 (h : ZI I) : ZI (c_X6_init_52_I I) := by
  unfold c_X6_init_52_I
  repeat (first | with_reducible exact h | with_reducible refine ZI.zer ?_ | with_reducible refine ZI.upd ?_ (by first | exact Or.inr rfl | (refine Or.inl ?_; unfold spc; omega)))
theorem z_c_X6_init_54 (h : ZI I) : ZI (c_X6_init_54_I I) := by
  unfold c_X6_init_54_I
  repeat (first | with_reducible exact h | with_reducible refine ZI.zer ?_ | with_reducible refine ZI.upd ?_ (by first | exact Or.inr rfl | (refine Or.inl ?_; unfold spc; omega)))
theorem z_c_X6_init_56 (h : ZI I) : ZI (c_X6_init_56_I I) := by
  unfold c_X6_init_56_I
  repeat (first | with_reducible exact h | with_reducible refine ZI.zer ?_ | with_reducible refine ZI.upd ?_ (by first | exact Or.inr rfl | (refine Or.inl ?_; unfold spc; omega)))
theorem z_c_X9_init_1 (h : ZI I) : ZI (c_X9_init_1_I I) := by
  unfold c_X9_init_1_I
  repeat (first | with_reducible exact h | with_reducible refine ZI.zer ?_ | with_reducible refine ZI.upd ?_ (by first | exact Or.inr rfl | (refine Or.inl ?_; unfold spc; omega)) | with_reducible refine z_c_X1_init_2 ?_ | with_reducible refine z_c_X4_init_4 ?_ | with_reducible refine z_c_X3_init_8 ?_ | with_reducible refine z_c_X7_init_14 ?_ | with_reducible refine z_c_X8_init_16 ?_ | with_reducible refine z_c_X5_init_23 ?_ | with_reducible refine z_c_X2_init_26 ?_ | with_reducible refine z_c_X2_init_34 ?_ | with_reducible refine z_c_X0_init_42 ?_ | with_reducible refine z_c_X6_init_46 ?_ | with_reducible refine z_c_X6_init_48 ?_ | with_reducible refine z_c_X6_init_50 ?_ | with_reducible refine z_c_X6_init_52 ?_ | with_reducible refine z_c_X6_init_54 ?_ | with_reducible refine z_c_X6_init_56 ?_)
theorem z_c_X10_init_59 (h : ZI I) : ZI (c_X10_init_59_I I) := by
  unfold c_X10_init_59_I
  repeat (first | with_reducible exact h | with_reducible refine ZI.zer ?_ | with_reducible refine ZI.upd ?_ (by first | exact Or.inr rfl | (refine Or.inl ?_; unfold spc; omega)))
theorem z_iI (L : Nat) (xs : Nat → Int32) : ZI (iI L xs) := z_c_X10_init_59 (ZI.zer (z_c_X9_init_1 (ZI.zer (ZI.low L xs))))
end ZIS
theorem iI_s (L : Nat) (xs : Nat → Int32) : iI L xs 20 0 44 = 10 ∧ iI L xs 20 0 45 = 20 ∧ iI L xs 8 0 2 = 35 ∧ iI L xs 8 1 2 = 7 ∧ iI L xs 8 2 2 = 7 ∧ iI L xs 10 0 10 = 10 ∧ iI L xs 10 0 11 = 20 := ⟨rfl, rfl, rfl, rfl, rfl, rfl, rfl⟩
theorem iI_81 (L : Nat) (xs : Nat → Int32) : ∀ s, s < 6 → iI L xs 81 0 s = -1 := by
  intro s hs
  have : s = 0 ∨ s = 1 ∨ s = 2 ∨ s = 3 ∨ s = 4 ∨ s = 5 := by omega
  rcases this with rfl | rfl | rfl | rfl | rfl | rfl <;> rfl
def V0 (q _j : Nat) : Nat := if q = 8 then 10 else if q = 9 then 20 else 0
def sh0 : Sh := (0, 0, 0, fun _ => 0)
def de0 : De := ([], 0, 0, 0, 0, 0)
def g0 : Sg := (0, V0, ([], 0), [], none, (fun _ => sh0), [], (0, []), de0, none)
theorem g0_ok : SOK g0 0 := by
  refine ⟨⟨Nat.zero_le _, fun j _ => ?_, by decide, by decide, by decide, by decide, by decide, fun j _ => ⟨rfl, rfl⟩⟩, ⟨Nat.zero_le _, Nat.le_refl _, fun x hx => absurd hx List.not_mem_nil⟩, ⟨Nat.zero_le _, fun x hx => absurd hx List.not_mem_nil⟩, fun s _ => ⟨⟨Nat.zero_le _, fun z => (by cases z), fun z => (by cases z)⟩, fun z => (by cases z)⟩, ⟨Nat.zero_le _, fun x hx => absurd hx List.not_mem_nil⟩, ⟨rfl, Nat.zero_le _⟩, ?_, fun d hd => (by cases hd), Nat.zero_le _⟩
  · exact ⟨Nat.zero_le _, Nat.zero_le _, Nat.zero_le _, Nat.zero_le _, by show 0 < 128; omega, by show 0 < 128; omega⟩
  · exact ⟨⟨fun e he => absurd he List.not_mem_nil, Nat.zero_le _⟩, List.nodup_nil, fun e he => absurd he List.not_mem_nil, Nat.zero_le _, Nat.zero_le _, Nat.zero_le _, Nat.zero_le _, Nat.zero_le _⟩
theorem z_at {I : IM} (h : ZI I) {s j k : Nat} (hs : s < 900) (hk : ¬ spc s k) : I s j k = iZ ((0 : Nat) : Int) := h s j k hs hk
theorem wk0 {I : IM} (h : ZI I) {w r : Nat} (hw : w = 1 ∨ w = 2) (hr : r = 7) (h2 : I 8 w 2 = 7) : WkAt w r I [] 0 0 := by
  subst hr
  refine ⟨⟨?_, ?_, ?_, ?_, ?_, ?_, h2, by omega⟩, z_at h (by omega) (by unfold spc; omega), z_at h (by omega) (by unfold spc; omega), z_at h (by omega) (by unfold spc; omega), z_at h (by omega) (by unfold spc; omega), fun k e he => (by cases he), Nat.zero_le _, Nat.le_refl _⟩
  all_goals
    rcases hw with rfl | rfl <;> rfl
theorem x_fresh0 {I : IM} {J : JM} (h : ZI I) (e1 : I 20 0 44 = 10) (e2 : I 20 0 45 = 20) (e3 : I 8 0 2 = 35) (e4 : I 8 1 2 = 7) (e5 : I 8 2 2 = 7) : XR g0 I J false := by
  refine ⟨⟨z_at h (by omega) (by unfold spc; omega), fun j q hj hq => ?_, fun q h1 h2 => ?_⟩, ⟨z_at h (by omega) (by unfold spc; omega), z_at h (by omega) (by unfold spc; omega), fun k c hk => (by cases hk)⟩, ⟨z_at h (by omega) (by unfold spc; omega), fun k c hk => (by cases hk)⟩, z_at h (by omega) (by unfold spc; omega), fun s hs => ⟨z_at h (by omega) (by unfold spc; omega), fun z => (by cases z), fun z => (by cases z)⟩, ⟨z_at h (by omega) (by unfold spc; omega), fun k c hk => (by cases hk)⟩, ⟨z_at h (by omega) (by unfold spc; omega), fun k c hk => (by cases hk)⟩, ⟨wk0 h (Or.inl rfl) rfl e4, z_at h (by omega) (by unfold spc; omega), z_at h (by omega) (by unfold spc; omega), z_at h (by omega) (by unfold spc; omega), z_at h (by omega) (by unfold spc; omega)⟩, z_at h (by omega) (by unfold spc; omega), ⟨rfl, rfl, rfl, rfl, rfl, rfl, e3, by omega⟩, (wk0 h (Or.inr rfl) rfl e5).1, fun d hd => (by cases hd)⟩
  · have : V0 q j = 0 := by unfold V0; rw [if_neg (by omega), if_neg (by omega)]
    show I 20 0 (6 * j + q) = iZ ((V0 q j : Nat) : Int)
    rw [this]
    exact z_at h (by omega) (by unfold spc; omega)
  · have : q = 6 ∨ q = 7 ∨ q = 8 ∨ q = 9 ∨ q = 10 := by omega
    rcases this with rfl | rfl | rfl | rfl | rfl
    · exact z_at h (by omega) (by unfold spc; omega)
    · exact z_at h (by omega) (by unfold spc; omega)
    · exact e1
    · exact e2
    · exact z_at h (by omega) (by unfold spc; omega)
theorem x_fresh (L : Nat) (xs : Nat → Int32) : XR g0 (iI L xs) iJ false := x_fresh0 (z_iI L xs) (iI_s L xs).1 (iI_s L xs).2.1 (iI_s L xs).2.2.1 (iI_s L xs).2.2.2.1 (iI_s L xs).2.2.2.2.1
theorem m_fresh0 {I : IM} {J : JM} (h : ZI I) (h81 : ∀ s, s < 6 → I 81 0 s = -1) (e6 : I 10 0 10 = 10) (e7 : I 10 0 11 = 20) : MR g0 I J := by
  refine ⟨⟨z_at h (by omega) (by unfold spc; omega), fun j q hj hq => ?_, fun q h1 h2 => ?_⟩, ⟨z_at h (by omega) (by unfold spc; omega), z_at h (by omega) (by unfold spc; omega), fun k c hk => (by cases hk)⟩, ⟨z_at h (by omega) (by unfold spc; omega), fun k c hk => (by cases hk)⟩, z_at h (by omega) (by unfold spc; omega), fun s hs => ⟨h81 s hs, fun z => (by cases z)⟩, ⟨z_at h (by omega) (by unfold spc; omega), fun k c hk => (by cases hk)⟩, ⟨z_at h (by omega) (by unfold spc; omega), fun k c hk => (by cases hk)⟩, ⟨z_at h (by omega) (by unfold spc; omega), z_at h (by omega) (by unfold spc; omega), z_at h (by omega) (by unfold spc; omega), fun k c hk => (by cases hk), fun e he => absurd he List.not_mem_nil, z_at h (by omega) (by unfold spc; omega), z_at h (by omega) (by unfold spc; omega), z_at h (by omega) (by unfold spc; omega), z_at h (by omega) (by unfold spc; omega)⟩, ⟨z_at h (by omega) (by unfold spc; omega), fun d hd => (by cases hd)⟩, z_at h (by omega) (by unfold spc; omega), z_at h (by omega) (by unfold spc; omega)⟩
  · have : V0 q j = 0 := by unfold V0; rw [if_neg (by omega), if_neg (by omega)]
    show I (43 + q) 0 j = iZ ((V0 q j : Nat) : Int)
    rw [this]
    exact z_at h (by omega) (by unfold spc; omega)
  · have : q = 6 ∨ q = 7 ∨ q = 8 ∨ q = 9 ∨ q = 10 := by omega
    rcases this with rfl | rfl | rfl | rfl | rfl
    · exact z_at h (by omega) (by unfold spc; omega)
    · exact z_at h (by omega) (by unfold spc; omega)
    · exact e6
    · exact e7
    · exact z_at h (by omega) (by unfold spc; omega)
theorem m_fresh (L : Nat) (xs : Nat → Int32) : MR g0 (iI L xs) iJ := m_fresh0 (z_iI L xs) (iI_81 L xs) (iI_s L xs).2.2.2.2.2.1 (iI_s L xs).2.2.2.2.2.2
