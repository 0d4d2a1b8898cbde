/-! REFERENCES: what the constructors leave, what a new law's text leaves, and R0 -/
def agB (R1 R2 : RM) (n : Nat) : Bool := (TAB.take n).all fun q => (List.range (nfl q.1)).all (fun k => !(isRefS q.1 k) || decide (R1 q.1 q.2 k = R2 q.1 q.2 k)) && (!(Nat.beq (kd q.1) 24) || (List.range (LENf q.1 q.2)).all (fun k => decide (R1 q.1 q.2 k = R2 q.1 q.2 k)))
theorem agR_of {R1 R2 : RM} {n : Nat} (h : agB R1 R2 n = true) : agR R1 R2 n := by
  intro q hq k hk
  have h1 := List.all_eq_true.mp h q hq
  simp only [Bool.and_eq_true, Bool.or_eq_true, List.all_eq_true, List.mem_range, decide_eq_true_eq, Bool.not_eq_true', nb_iff] at h1
  rcases hk with ⟨a1, a2, a3⟩ | ⟨a1, a2, a3⟩
  · rcases h1.1 k a2 with z | z
    · rw [a3] at z
      cases z
    · exact z
  · rcases h1.2 with z | z
    · rw [← Bool.not_eq_true, nb_iff] at z
      exact absurd a2 z
    · exact z k a3
def inT (o : Option (Nat × Nat)) : Bool := match o with
  | none => true
  | some q => TAB.any fun x => Nat.beq x.1 q.1 && Nat.beq x.2 q.2
def okB (R : RM) : Bool := TAB.all fun q => (List.range (nfl q.1)).all (fun k => !(isRefS q.1 k) || inT (R q.1 q.2 k)) && (!(Nat.beq (kd q.1) 24) || (List.range (LENf q.1 q.2)).all (fun k => inT (R q.1 q.2 k)))
theorem TAB_101 : TAB.take 101 = TAB := by decide +kernel
theorem inT_of {q : Nat × Nat} (h : inT (some q) = true) : q ∈ TAB := by
  have h : (TAB.any fun x => Nat.beq x.1 q.1 && Nat.beq x.2 q.2) = true := h
  obtain ⟨x, hx, h2⟩ := List.any_eq_true.mp h
  rw [Bool.and_eq_true, nb_iff, nb_iff] at h2
  have e : q = x := Prod.ext h2.1.symm h2.2.symm
  rw [e]
  exact hx
theorem okR_of {I : IM} {J : JM} {R : RM} (h : okB R = true) : okR (101, I, J, R) := by
  intro q hq k q' hk e
  have hq : q ∈ TAB.take 101 := hq
  rw [TAB_101] at hq
  show q' ∈ TAB.take 101
  rw [TAB_101]
  have e : R q.1 q.2 k = some q' := e
  have h1 := List.all_eq_true.mp h q hq
  simp only [Bool.and_eq_true, Bool.or_eq_true, List.all_eq_true, List.mem_range, Bool.not_eq_true', nb_iff] at h1
  rcases hk with ⟨a1, a2, a3⟩ | ⟨a1, a2, a3⟩
  · rcases h1.1 k a2 with z | z
    · rw [a3] at z
      cases z
    · rw [e] at z
      exact inT_of z
  · rcases h1.2 with z | z
    · rw [← Bool.not_eq_true, nb_iff] at z
      exact absurd a2 z
    · have := z k a3
      rw [e] at this
      exact inT_of this
theorem okB_t : okB (R0 true) = true := by decide +kernel
theorem okB_f : okB (R0 false) = true := by decide +kernel
theorem okR_R0 (I : IM) (J : JM) (b : Bool) : okR (101, I, J, R0 b) := by
  cases b
  · exact okR_of okB_f
  · exact okR_of okB_t
theorem agB_t : agB (RX true) (R0 false) 101 = true := by decide +kernel
theorem agB_f : agB (RX false) (R0 true) 101 = true := by decide +kernel
theorem agR_RX (b : Bool) : agR (RX b) (R0 (!b)) 101 := by
  cases b
  · exact agR_of agB_f
  · exact agR_of agB_t
def Rno : RM := fun _ _ _ => none
def iR : RM := c_X10_init_59_R (zerR (c_X9_init_1_R (zerR Rno 9 0)) 10 0)
theorem agB_i : agB iR (R0 false) 101 = true := by decide +kernel
theorem agR_i : agR iR (R0 false) 101 := agR_of agB_i
