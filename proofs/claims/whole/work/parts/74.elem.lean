/-! OPS: element; a long answer -/
def OpL (y z : Nat) (as : List AV) : Prop := ∀ (g : Sg) (c : Nat) (I : IM) (J : JM) (b : Bool), c < 512 → XR g I J b → MR g I J → SOK g c → Call 900 y (vr 9 0 :: as) (101, I, J, R0 b) (RLf b fun x I1 J1 => Call 900 z (vr 10 0 :: as) (101, I1, J1, R0 b) (RLf b fun x2 I2 J2 => x2 = x ∧ ∃ g', XR g' I2 J2 b ∧ MR g' I2 J2 ∧ SOK g' (c + 1)))
theorem RLf.mk {b : Bool} {T : Int64 → IM → JM → Prop} {x : Int64} {I : IM} {J : JM} (t : T x I J) : RLf b T (some (vl x)) (101, I, J, R0 b) := ⟨x, I, J, rfl, rfl, t⟩
theorem op_element (x y : Int32) : OpL 119 242 [vi x, vi y] := by
  intro g c I J b hc hX hM hO
  refine t_X9_element (D := 899) _ _ I J b ((p_lackX (D := 897) hX hO).use ?_)
  by_cases h0 : aLack x y g = 0
  · have h00 := h0
    obtain ⟨s, k, hs, hx, h2, hk, hl, rfl, rfl⟩ := aLack_0 hO h0
    obtain ⟨⟨q1, q2, q3⟩, hok⟩ := hX.sh hO s hs
    obtain ⟨r1, r2, r3⟩ := q3 h2
    obtain ⟨m1, m2⟩ := hM.sh s hs
    have e60 : (60 : Int32) * iZ (s : Int) + iZ (k : Int) = iZ ((60 * s + k : Nat) : Int) := by
      rw [show (60 : Int32) = iZ 60 from rfl, iZ_mul, iZ_add]
      congr 1
    refine ifp h00 ⟨vp_iZ (by omega) (by omega) (by omega), vp_iZ (by omega) (by omega) (by omega), ?_⟩
    rw [iZ_ck (k := s) (by omega), iZ_ck (k := k) (by omega), r3 k (by omega)]
    refine RLf.mk (t_X10_element (D := 899) _ _ I J b ((p_lackM (D := 896) hM hO).use ?_))
    rw [e60, iZ_ck (by omega), (m2 h2).2 k (by omega)]
    exact ifp (by rw [h00]; decide) ⟨vp_iZ (by omega) (by omega) (by omega), RLf.mk ⟨rfl, g, hX, hM, hO.up hc⟩⟩
  · refine ifn h0 (RLf.mk (t_X10_element (D := 899) _ _ I J b ((p_lackM (D := 896) hM hO).use ?_)))
    exact ifn (aLack_neg h0) (RLf.mk ⟨rfl, g, hX, hM, hO.up hc⟩)
