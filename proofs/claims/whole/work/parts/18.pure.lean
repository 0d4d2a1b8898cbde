/-! CALLS THAT CHANGE NOTHING, CALLS THAT CHANGE INTS -/
def Pu (D y : Nat) (as : List AV) (I : IM) (J : JM) (b : Bool) (v : Int32) : Prop := Call D y as (101, I, J, R0 b) (fun r h => r = some (vi v) ∧ h = (101, I, J, R0 b))
def Ef (D y : Nat) (as : List AV) (I : IM) (J : JM) (b : Bool) (v : Int32) (I' : IM) (J' : JM) : Prop := Call D y as (101, I, J, R0 b) (fun r h => r = some (vi v) ∧ h = (101, I', J', R0 b))
def EfV (D y : Nat) (as : List AV) (I : IM) (J : JM) (b : Bool) (I' : IM) (J' : JM) : Prop := Call D y as (101, I, J, R0 b) (fun r h => r = none ∧ h = (101, I', J', R0 b))
theorem Pu.use {D y : Nat} {as : List AV} {I : IM} {J : JM} {b : Bool} {v : Int32} {T : Int32 → IM → JM → Prop} (c : Pu D y as I J b v) (t : T v I J) : Call D y as (101, I, J, R0 b) (RIf b T) := c.mono (by
  rintro r h ⟨rfl, rfl⟩
  exact ⟨v, I, J, rfl, rfl, t⟩)
theorem Ef.use {D y : Nat} {as : List AV} {I I' : IM} {J J' : JM} {b : Bool} {v : Int32} {T : Int32 → IM → JM → Prop} (c : Ef D y as I J b v I' J') (t : T v I' J') : Call D y as (101, I, J, R0 b) (RIf b T) := c.mono (by
  rintro r h ⟨rfl, rfl⟩
  exact ⟨v, I', J', rfl, rfl, t⟩)
theorem EfV.use {D y : Nat} {as : List AV} {I I' : IM} {J J' : JM} {b : Bool} {T : IM → JM → Prop} (c : EfV D y as I J b I' J') (t : T I' J') : Call D y as (101, I, J, R0 b) (RVf b T) := c.mono (by
  rintro r h ⟨rfl, rfl⟩
  exact ⟨I', J', rfl, rfl, t⟩)
theorem Pu.eq {D y : Nat} {as : List AV} {I : IM} {J : JM} {b : Bool} {v v' : Int32} (c : Pu D y as I J b v) (e : v = v') : Pu D y as I J b v' := e ▸ c
/-- true and false as ints -/
def bI (p : Bool) : Int32 := bif p then 1 else 0
theorem bI_and (p : Bool) : bI p &&& 1 = bI p := by cases p <;> rfl
theorem bI_0 {p : Bool} : bI p = 0 ↔ p = false := by cases p <;> decide
theorem lt_i {a b : Int32} : a < b ↔ a.toInt < b.toInt := Int32.lt_iff_toInt_lt
theorem le_i {a b : Int32} : a ≤ b ↔ a.toInt ≤ b.toInt := Int32.le_iff_toInt_le
theorem eq_i {a b : Int32} : a = b ↔ a.toInt = b.toInt := Int32.toInt_inj.symm
section PUR
variable {D : Nat} {I : IM} {J : JM} {b : Bool}
def inB (x lo hi : Int32) : Bool := decide (lo ≤ x) && decide (x ≤ hi)
theorem inB_eq {x lo hi : Int32} : inB x lo hi = (decide (lo.toInt ≤ x.toInt) && decide (x.toInt ≤ hi.toInt)) := by
  simp only [inB, le_i]
theorem p_M_in (x lo hi : Int32) : Pu (D + 1) 135 [vi x, vi lo, vi hi] I J b (bI (inB x lo hi)) := by
  refine t_X10_in x lo hi I J b ?_
  split
  · next h => exact ⟨by simp [bI, inB, Int32.not_le.mpr h], rfl⟩
  · next h =>
    split
    · next h2 => exact ⟨by simp [bI, inB, Int32.not_le.mpr h2], rfl⟩
    · next h2 => exact ⟨by simp [bI, inB, Int32.not_lt.mp h, Int32.not_lt.mp h2], rfl⟩
theorem p_X_isShelf (x : Int32) : Pu (D + 1) 123 [vi x] I J b (bI (inB x 0 5)) := by
  refine t_X9_isShelf x I J b ?_
  split
  · next h => exact ⟨by simp [bI, inB, Int32.not_le.mpr h], rfl⟩
  · next h =>
    have h0 := Int32.not_lt.mp h
    split
    · next h2 =>
      have h3 : ¬ x ≤ 5 := by
        rw [le_i] at h2 ⊢
        have e6 : (6 : Int32).toInt = 6 := rfl
        have e5 : (5 : Int32).toInt = 5 := rfl
        omega
      exact ⟨by simp [bI, inB, h3], rfl⟩
    · next h2 =>
      have h3 : x ≤ 5 := by
        rw [le_i] at h2 ⊢
        have e6 : (6 : Int32).toInt = 6 := rfl
        have e5 : (5 : Int32).toInt = 5 := rfl
        omega
      exact ⟨by simp [bI, inB, h3, h0], rfl⟩
theorem p_M_isShelf (x : Int32) : Pu (D + 2) 237 [vi x] I J b (bI (inB x 0 5)) := by
  refine t_X10_isShelf x I J b ?_
  refine (p_M_in x 0 5).use ?_
  exact ⟨bI_and _, rfl, rfl⟩
theorem p_X_isZeroOrOne (x : Int32) : Pu (D + 1) 124 [vi x] I J b (bI (inB x 0 1)) := by
  refine t_X9_isZeroOrOne x I J b ?_
  have e0 : (0 : Int32).toInt = 0 := rfl
  have e1 : (1 : Int32).toInt = 1 := rfl
  split
  · next h => subst h; exact ⟨rfl, rfl⟩
  · next h =>
    rw [eq_i, e0] at h
    split
    · next h2 =>
      rw [eq_i, e1] at h2
      have : inB x 0 1 = false := by
        rw [inB_eq, e0, e1]
        simp only [Bool.and_eq_false_iff, decide_eq_false_iff_not]
        omega
      exact ⟨by rw [this]; rfl, rfl⟩
    · next h2 =>
      have h2 : x = 1 := Classical.not_not.mp h2
      subst h2
      exact ⟨rfl, rfl⟩
theorem p_X_isJoint (x : Int32) : Pu (D + 1) 125 [vr 9 0, vi x] I J b (bI (decide (0 ≤ x) && decide (x < fBench_size I))) := by
  refine t_X9_isJoint x I J b ?_
  split
  · next h => exact ⟨by simp [bI, Int32.not_le.mpr h], rfl⟩
  · next h =>
    split
    · next h2 => exact ⟨by simp [bI, Int32.not_lt.mpr h2], rfl⟩
    · next h2 => exact ⟨by simp [bI, Int32.not_lt.mp h, Int32.not_le.mp h2], rfl⟩
theorem p_X_handsWith (x : Int32) : Pu (D + 1) 14 [vi x] I J b (2 + 2 * x) := t_X1_handsWith x I J b ⟨rfl, rfl⟩
theorem p_M_allHands : Pu (D + 1) 173 [vr 10 0] I J b (2 + 2 * I 10 0 8) := t_X10_allHands I J b ⟨rfl, rfl⟩
end PUR
