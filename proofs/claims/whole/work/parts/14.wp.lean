/-! RULES FOR THE PURE MACHINE: what a run needs -/
def leF (f g : Nat → List AV → AH → Option (Option AV × AH)) : Prop := ∀ y as h z, f y as h = some z → g y as h = some z
theorem amCallI_mono {f g : Nat → List AV → AH → Option (Option AV × AH)} (hfg : leF f g) {y : Nat} {e : AE} {c s pc : Nat} {L as r : List AV} {h : AH} {z : RS} (hs : amCallI f y e c s pc L as r h = some z) : amCallI g y e c s pc L as r h = some z := by
  unfold amCallI at hs ⊢
  obtain ⟨hb, hs⟩ := gd_some hs
  rw [hb]
  split at hs
  · next v h' hf => rw [hfg _ _ _ _ hf]; exact hs
  · next h' hf => rw [hfg _ _ _ _ hf]; exact hs
  · cases hs
theorem amCallV_mono {f g : Nat → List AV → AH → Option (Option AV × AH)} (hfg : leF f g) {y : Nat} {e : AE} {c s pc : Nat} {L st : List AV} {h : AH} {z : RS} (hs : amCallV f y e c s pc L st h = some z) : amCallV g y e c s pc L st h = some z := by
  unfold amCallV at hs ⊢
  split at hs
  · next as s1 j1 rest hp =>
    obtain ⟨hb, hs⟩ := gd_some hs
    rw [hb]
    exact amCallI_mono hfg hs
  · cases hs
theorem amCallS_mono {f g : Nat → List AV → AH → Option (Option AV × AH)} (hfg : leF f g) {y : Nat} {e : AE} {c s pc : Nat} {L st : List AV} {h : AH} {z : RS} (hs : amCallS f y e c s pc L st h = some z) : amCallS g y e c s pc L st h = some z := by
  unfold amCallS at hs ⊢
  split at hs
  · next as rest hp =>
    exact amCallI_mono hfg hs
  · cases hs
theorem amI_mono {f g : Nat → List AV → AH → Option (Option AV × AH)} (hfg : leF f g) {y : Nat} {e : AE} {c s pc : Nat} {L st : List AV} {h : AH} {z : RS} (hs : amI f y e c s pc L st h = some z) : amI g y e c s pc L st h = some z := by
  unfold amI at hs ⊢
  cases hi : eI e <;> rw [hi] at hs <;> dsimp only at hs ⊢ <;> (try exact hs)
  case invokevirtual i =>
    obtain ⟨hb, hs⟩ := gd_some hs
    rw [hb]
    exact amCallV_mono hfg hs
  case invokespecial i =>
    cases hb : Nat.beq (eC e) 3 <;> rw [hb] at hs
    · obtain ⟨hb2, hs⟩ := gd_some hs
      rw [hb2]
      exact amCallV_mono hfg hs
    · exact hs
  case invokestatic i =>
    cases hb : Nat.beq (eC e) 0 <;> rw [hb] at hs
    · exact hs
    · exact amCallS_mono hfg hs
theorem amLoop_mono {f g : Nat → List AV → AH → Option (Option AV × AH)} (hfg : leF f g) {y : Nat} : ∀ {n n' : Nat}, n ≤ n' → ∀ {c s pc : Nat} {L st : List AV} {h : AH} {z : Option AV × AH}, amLoop f y n c s pc L st h = some z → amLoop g y n' c s pc L st h = some z
  | 0, _, _, _, _, _, _, _, _, _, hs => by cases hs
  | n + 1, 0, hn, _, _, _, _, _, _, _, _ => by omega
  | n + 1, n' + 1, hn, c, s, pc, L, st, h, z, hs => by
    unfold amLoop at hs ⊢
    split at hs
    · cases hs
    · next e he =>
      split at hs
      · cases hs
      · next q hq => rw [amI_mono hfg hq]; exact hs
      · next q hq =>
        rw [amI_mono hfg hq]
        exact amLoop_mono hfg (n := n) (n' := n') (by omega) hs
theorem amCall_mono : ∀ {D n n' : Nat}, n ≤ n' → leF (amCall D n) (amCall D n')
  | 0, _, _, _ => fun _ _ _ _ h => by cases h
  | D + 1, n, n', hn => fun y as h z hs => by
    unfold amCall at hs ⊢
    cases hb : Nat.ble (argL as).length (mxl y) <;> rw [hb] at hs
    · cases hs
    · exact amLoop_mono (amCall_mono hn) hn hs
theorem Call.mono {D y : Nat} {as : List AV} {h : AH} {K K' : Option AV → AH → Prop} (c : Call D y as h K) (k : ∀ r h', K r h' → K' r h') : Call D y as h K' := by
  obtain ⟨n, r, h', h1, h2⟩ := c
  exact ⟨n, r, h', h1, k r h' h2⟩
theorem WP.mono {D y pc : Nat} {L st : List AV} {h : AH} {K K' : Option AV → AH → Prop} (c : WP D y pc L st h K) (k : ∀ r h', K r h' → K' r h') : WP D y pc L st h K' := by
  obtain ⟨n, r, h', h1, h2⟩ := c
  exact ⟨n, r, h', h1, k r h' h2⟩
theorem Call.of {D y : Nat} {as : List AV} {h : AH} {K : Option AV → AH → Prop} (hb : Nat.ble (argL as).length (mxl y) = true) (w : WP D y 0 (padL (mxl y) (argL as)) [] h K) : Call (D + 1) y as h K := by
  obtain ⟨n, r, h', h1, h2⟩ := w
  refine ⟨n, r, h', ?_, h2⟩
  unfold amCall
  rw [hb]
  exact h1
theorem WP.step {D y pc pc' : Nat} {L st L' st' : List AV} {h h' : AH} {K : Option AV → AH → Prop} {e : AE} (he : tbl y pc = some e) (hs : amI f00 y e 0 0 pc (mkL (eM e) L) st h = some (.inr (0, 0, pc', L', st', h'))) (w : WP D y pc' L' st' h' K) : WP D y pc L st h K := by
  obtain ⟨n, r, h2, h3, h4⟩ := w
  refine ⟨n + 1, r, h2, ?_, h4⟩
  unfold amLoop
  rw [he]
  dsimp only
  rw [amI_mono (f := f00) (fun _ _ _ _ z => by cases z) hs]
  exact amLoop_mono (amCall_mono (Nat.le_succ n)) (Nat.le_refl n) h3
theorem WP.blk {D y : Nat} {K : Option AV → AH → Prop} {pc' : Nat} {L' st' : List AV} {h' : AH} : ∀ (n : Nat) {pc : Nat} {L st : List AV} {h : AH}, amB y n pc L st h = some (pc', L', st', h') → WP D y pc' L' st' h' K → WP D y pc L st h K
  | 0, pc, L, st, h, hs, w => by
    cases hs
    exact w
  | n + 1, pc, L, st, h, hs, w => by
    unfold amB at hs
    split at hs
    · cases hs
    · next e he =>
      split at hs
      · next pc1 L1 st1 h1 hq => exact WP.step he hq (WP.blk n hs w)
      · cases hs
theorem WP.ret {D y pc : Nat} {L st : List AV} {h h' : AH} {K : Option AV → AH → Prop} {e : AE} {rv : Option AV} (he : tbl y pc = some e) (hs : amI f00 y e 0 0 pc (mkL (eM e) L) st h = some (.inl (rv, h'))) (k : K rv h') : WP D y pc L st h K := by
  refine ⟨1, rv, h', ?_, k⟩
  unfold amLoop
  rw [he]
  dsimp only
  rw [amI_mono (f := f00) (fun _ _ _ _ z => by cases z) hs]
/-- the locals that are forgotten at a place may be forgotten ahead of it -/
theorem maskL_two : ∀ (m : Nat) (L : List AV), maskL m (maskL m L) = maskL m L
  | _, [] => rfl
  | m, a :: l => by
    simp only [maskL, maskL_two (m / 2) l]
    cases Nat.beq (m % 2) 1 <;> rfl
theorem mkL_two (m : Nat) (L : List AV) : mkL m (mkL m L) = mkL m L := by
  unfold mkL
  cases Nat.beq m 0
  · exact maskL_two m L
  · rfl
theorem WP.mask {D y pc : Nat} {L L' st : List AV} {h : AH} {K : Option AV → AH → Prop} {e : AE} (he : tbl y pc = some e) (hL : mkL (eM e) L = L') (w : WP D y pc L' st h K) : WP D y pc L st h K := by
  obtain ⟨n, r, h2, h3, h4⟩ := w
  refine ⟨n, r, h2, ?_, h4⟩
  cases n with
  | zero => exact h3
  | succ n =>
    unfold amLoop at h3 ⊢
    rw [he] at h3 ⊢
    dsimp only at h3 ⊢
    rw [← hL, mkL_two] at h3
    exact h3
theorem WP.ite {c : Prop} {i : Decidable c} {D y pc1 pc2 : Nat} {L st : List AV} {h : AH} {K : Option AV → AH → Prop} {A B : Prop} (t : if c then A else B) (h1 : A → WP D y pc1 L st h K) (h2 : B → WP D y pc2 L st h K) : WP D y (if c then pc1 else pc2) L st h K := by
  split at t
  · next hc => rw [if_pos hc]; exact h1 t
  · next hc => rw [if_neg hc]; exact h2 t
theorem cond_if {c : Prop} {i : Decidable c} {a b : Nat} : (bif decide c then a else b) = if c then a else b := by
  by_cases h : c
  · rw [if_pos h, decide_eq_true h]; rfl
  · rw [if_neg h, decide_eq_false h]; rfl
/-- a branch: the goal is split by its condition -/
theorem WP.br {D y pc t : Nat} {L st L' st' : List AV} {h : AH} {K : Option AV → AH → Prop} {e : AE} {c : Prop} {i : Decidable c} {A B : Prop} (he : tbl y pc = some e) (hs : amI f00 y e 0 0 pc (mkL (eM e) L) st h = some (.inr (0, 0, (bif decide c then eA e else pc + 3), L', st', h))) (hA : eA e = t) (tr : if c then A else B) (h1 : A → WP D y t L' st' h K) (h2 : B → WP D y (pc + 3) L' st' h K) : WP D y pc L st h K := by
  refine WP.step he hs ?_
  rw [cond_if, hA]
  exact WP.ite tr h1 h2
theorem WP.cal {D y pc : Nat} {L st L' rest : List AV} {h : AH} {K : Option AV → AH → Prop} {e : AE} {y' : Nat} {as : List AV} {T : Option AV → AH → Prop} (he : tbl y pc = some e) (hs : ∀ (f : Nat → List AV → AH → Option (Option AV × AH)) (r : Option AV) (h' : AH), f y' as h = some (r, h') → amI f y e 0 0 pc (mkL (eM e) L) st h = some (.inr (0, 0, pc + 3, L', r.toList ++ rest, h'))) (c : Call D y' as h T) (k : ∀ r h', T r h' → WP D y (pc + 3) L' (r.toList ++ rest) h' K) : WP D y pc L st h K := by
  obtain ⟨n1, r, h1, a1, a2⟩ := c
  obtain ⟨n2, r2, h2, b1, b2⟩ := k r h1 a2
  refine ⟨max n1 n2 + 1, r2, h2, ?_, b2⟩
  unfold amLoop
  rw [he]
  dsimp only
  rw [hs (amCall D (max n1 n2 + 1)) r h1 (amCall_mono (by omega) _ _ _ _ a1)]
  exact amLoop_mono (amCall_mono (by omega)) (by omega) b1
/-- an instruction with a guard that holds -/
theorem gd_t {b : Bool} {k : Option RS} (h : b = true) : gd b k = k := by rw [h]; rfl
theorem inA_of {i : Int32} {n : Nat} (h : vp_in i n) : inA i n = true := by
  simp only [inA, Bool.not_eq_true', Bool.or_eq_false_iff, decide_eq_false_iff_not]
  refine ⟨fun z => h (Or.inl z), ?_⟩
  rw [← Bool.not_eq_true]
  intro z
  exact h (Or.inr (Nat.le_of_ble_eq_true z))
