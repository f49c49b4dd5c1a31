/-! ===== roots, orphans, cousins, burden ===== -/
def rtN (A : Nat → Int32) (f s : Nat) : Nat := if paN A f = 0 then s ||| 2 ^ f else s
def orN (A : Nat → Int32) (f s : Nat) : Nat := if agN A f < 10 ∧ grN A f = 0 then s ||| 2 ^ f else s
def coN (A : Nat → Int32) (a b n : Nat) : Nat := if grN A a &&& grN A b ≠ 0 ∧ paN A a &&& paN A b = 0 then n + 1 else n
def weN (A : Nat → Int32) (e f n : Nat) : Nat := if agN A f < 10 ∧ (grN A f).testBit e = true then n + 1 else n
def wesN (A : Nat → Int32) (F e : Nat) : Nat := fld (weN A e) 0 F
def buN (A : Nat → Int32) (F e : Nat) (b : Int32 × Nat) : Int32 × Nat := if wesN A F e ≤ b.2 then b else (nI e, wesN A F e)
theorem wes_le (A : Nat → Int32) (e : Nat) : ∀ n, fld (weN A e) 0 n ≤ n
  | 0 => Nat.le_refl _
  | n + 1 => by
    have := wes_le A e n
    show weN A e n (fld (weN A e) 0 n) ≤ n + 1
    generalize fld (weN A e) 0 n = b at *
    unfold weN
    by_cases c : agN A n < 10 ∧ (grN A n).testBit e = true
    · rw [if_pos c]; omega
    · rw [if_neg c]; omega
section ROX
variable {σ : Dt} {v o F W : Nat} {A : Nat → Int32}
theorem le10 {i : Nat} (h : i < 10) : ¬ (10 : Int32) ≤ nI i := nI_ge (b := 10) h (by decide)
theorem pow_or {b i : Nat} (hb : b < 1024) (hi : i < 10) : b ||| 2 ^ i < 1024 := or_lt (n := 10) hb (pow_1024 hi)
theorem x_roots (h : CV σ v A F W) : f_X3_roots (some v) σ = some (nI (fld (rtN A) 0 F)) := by
  have hF := h.F10
  unfold f_X3_roots
  have key := iter_fld (f := fun q : Int32 × Int32 => f_X3_roots_L4 (some v) q.1 q.2 σ) (st := fun i b => (nI b, nI i)) (g := rtN A) (P := fun i b => b < 1024) (b0 := 0) (x := fun b => nI b) F (by omega) (by decide) (fun i b hi hb => ?_) (fun b hb => ?_)
  · rw [show ((0 : Int32), (0 : Int32)) = (nI 0, nI 0) from rfl, key.1, bo_s]
  · have hp := h.vw.pa10 (show i < 10 by omega)
    dsimp only
    unfold f_X3_roots_L4 f_X3_roots_33 rtN
    rw [xfolk h, bo_s, ite_le_f (by omega) hi, if_neg (le10 (by omega)), xpars h, bo_s, xpa h (by omega), bo_s, shl1 (by omega), nI_or, nI_1]
    by_cases c : paN A i = 0
    · rw [if_pos (z_t c), if_pos c]
      exact ⟨rfl, pow_or hb (by omega)⟩
    · rw [if_neg (z_f (by omega) c), if_neg c]
      exact ⟨rfl, hb⟩
  · dsimp only
    unfold f_X3_roots_L4
    rw [xfolk h, bo_s, if_pos (nI_le (Nat.le_refl _) (by omega))]
theorem m_roots (h : MV σ o A F W) : f_X12_rootsOf 0 0 σ = some (nI (fld (rtN A) 0 F)) := by
  have hF := h.F10
  unfold f_X12_rootsOf
  have key := iter_fld (f := fun q : Int32 × Int32 => f_X12_rootsOf_L4 0 0 q.1 q.2 σ) (st := fun i b => (nI b, nI i)) (g := rtN A) (P := fun i b => b < 1024) (b0 := 0) (x := fun b => nI b) F (by omega) (by decide) (fun i b hi hb => ?_) (fun b hb => ?_)
  · rw [show ((0 : Int32), (0 : Int32)) = (nI 0, nI 0) from rfl, key.1, bo_s]
  · have hp := h.vw.pa10 (show i < 10 by omega)
    dsimp only
    unfold f_X12_rootsOf_L4 f_X12_rootsOf_44 f_X12_rootsOf_50 f_X12_rootsOf_51 rtN
    rw [mfolk h, bo_s, ite_le_f (by omega) hi, if_pos rfl, mrc, bo_s, mpa h (by omega), bo_s, shl1 (by omega), nI_or, nI_1, Int32.or_zero]
    by_cases c : paN A i = 0
    · rw [if_pos (z_t c), if_pos c]
      exact ⟨rfl, pow_or hb (by omega)⟩
    · rw [if_neg (z_f (by omega) c), if_neg c]
      exact ⟨rfl, hb⟩
  · dsimp only
    unfold f_X12_rootsOf_L4
    rw [mfolk h, bo_s, if_pos (nI_le (Nat.le_refl _) (by omega))]
theorem x_orphans (h : CV σ v A F W) : f_X3_orphans (some v) σ = some (nI (fld (orN A) 0 F)) := by
  have hF := h.F10
  unfold f_X3_orphans
  have key := iter_fld (f := fun q : Int32 × Int32 => f_X3_orphans_L4 (some v) q.1 q.2 σ) (st := fun i b => (nI b, nI i)) (g := orN A) (P := fun i b => b < 1024) (b0 := 0) (x := fun b => nI b) F (by omega) (by decide) (fun i b hi hb => ?_) (fun b hb => ?_)
  · rw [show ((0 : Int32), (0 : Int32)) = (nI 0, nI 0) from rfl, key.1, bo_s]
  · have hp := h.vw.gr10 (show i < 10 by omega)
    dsimp only
    unfold f_X3_orphans_L4 f_X3_orphans_41 orN
    rw [xfolk h, bo_s, ite_le_f (by omega) hi, if_neg (le10 (by omega)), crc h.1, bo_s, xchild h hi, bo_s, ite_b, xgrands h, bo_s, xgd h (by omega), bo_s, shl1 (by omega), nI_or, nI_1]
    by_cases c1 : agN A i < 10
    · rw [ci_t c1]
      by_cases c : grN A i = 0
      · rw [if_pos (z_t c), if_pos ⟨c1, c⟩]
        exact ⟨rfl, pow_or hb (by omega)⟩
      · rw [if_neg (z_f (by omega) c), if_neg (fun q => c q.2)]
        exact ⟨rfl, hb⟩
    · rw [ci_f c1, if_neg (fun q => c1 q.1)]
      exact ⟨rfl, hb⟩
  · dsimp only
    unfold f_X3_orphans_L4
    rw [xfolk h, bo_s, if_pos (nI_le (Nat.le_refl _) (by omega))]
theorem m_orphans (h : MV σ o A F W) : f_X12_rootsOf 0 1 σ = some (nI (fld (orN A) 0 F)) := by
  have hF := h.F10
  unfold f_X12_rootsOf
  have key := iter_fld (f := fun q : Int32 × Int32 => f_X12_rootsOf_L4 0 1 q.1 q.2 σ) (st := fun i b => (nI b, nI i)) (g := orN A) (P := fun i b => b < 1024) (b0 := 0) (x := fun b => nI b) F (by omega) (by decide) (fun i b hi hb => ?_) (fun b hb => ?_)
  · rw [show ((0 : Int32), (0 : Int32)) = (nI 0, nI 0) from rfl, key.1, bo_s]
  · have hp := h.vw.gr10 (show i < 10 by omega)
    dsimp only
    unfold f_X12_rootsOf_L4 f_X12_rootsOf_44 f_X12_rootsOf_50 f_X12_rootsOf_51 orN
    rw [mfolk h, bo_s, ite_le_f (by omega) hi, if_neg (by decide)]
    simp only [mrc, bo_s, msmall h (show i < 10 by omega), ite_b, mgd h (show i < 10 by omega), shl1 (show i < 31 by omega), nI_or, nI_1, Int32.or_zero]
    by_cases c1 : agN A i < 10
    · rw [ci_t c1]
      by_cases c : grN A i = 0
      · rw [if_pos (z_t c), if_pos ⟨c1, c⟩]
        exact ⟨rfl, pow_or hb (by omega)⟩
      · rw [if_neg (z_f (by omega) c), if_neg (fun q => c q.2)]
        exact ⟨rfl, hb⟩
    · rw [ci_f c1, if_neg (fun q => c1 q.1)]
      exact ⟨rfl, hb⟩
  · dsimp only
    unfold f_X12_rootsOf_L4
    rw [mfolk h, bo_s, if_pos (nI_le (Nat.le_refl _) (by omega))]
theorem and_31 {a b : Nat} (h : a < 1024) : a &&& b < 2 ^ 31 := Nat.lt_of_le_of_lt Nat.and_le_left (by omega)
theorem x_cousins (h : CV σ v A F W) : f_X3_cousins (some v) σ = some (nI (fld (fun a n => fld (coN A a) n a) 0 F)) := by
  have hF := h.F10
  unfold f_X3_cousins
  have key := iter_fld (f := fun q : Int32 × Int32 => f_X3_cousins_L4 (some v) q.1 q.2 σ) (st := fun i b => (nI b, nI i)) (g := fun a n => fld (coN A a) n a) (P := fun i b => True) (b0 := 0) (x := fun b => nI b) F (by omega) trivial (fun i b hi _ => ⟨?_, trivial⟩) (fun b hb => ?_)
  · rw [show ((0 : Int32), (0 : Int32)) = (nI 0, nI 0) from rfl, key.1, bo_s]
  · dsimp only
    unfold f_X3_cousins_L4
    rw [xfolk h, bo_s, ite_le_f (by omega) hi, if_neg (le10 (by omega))]
    have k2 := iter_fld (f := fun q : Int32 × Int32 => f_X3_cousins_L20 (some v) (nI i) q.1 q.2 σ) (st := fun j b => (nI b, nI j)) (g := coN A i) (P := fun i b => True) (b0 := b) (x := fun b => nI b) i (by omega) trivial (fun j b hj _ => ⟨?_, trivial⟩) (fun b hb => ?_)
    · rw [show (nI b, (0 : Int32)) = (nI b, nI 0) from rfl, k2.1, bo_s, nI_1]
    · have hpi := h.vw.pa10 (show i < 10 by omega)
      have hgi := h.vw.gr10 (show i < 10 by omega)
      dsimp only
      unfold f_X3_cousins_L20 f_X3_cousins_46 f_X3_cousins_72 coN
      rw [ite_le_f (by omega) hj]
      simp only [xpars h, bo_s, xpa h (show i < 10 by omega), xpa h (show j < 10 by omega), xgrands h, xgd h (show i < 10 by omega), xgd h (show j < 10 by omega), nI_and, nI_1, ite_10, if_true]
      by_cases c1 : paN A i &&& paN A j = 0
      · rw [if_pos (z_t c1)]
        by_cases c2 : grN A i &&& grN A j = 0
        · rw [if_pos (z_t c2), if_neg (fun q => q.1 c2)]
        · rw [if_neg (z_f (and_31 hgi) c2), if_pos ⟨c2, c1⟩]
      · rw [if_neg (z_f (and_31 hpi) c1), if_neg (fun q => c1 q.2)]
    · dsimp only
      unfold f_X3_cousins_L20
      rw [if_pos (nI_le (Nat.le_refl _) (by omega))]
  · dsimp only
    unfold f_X3_cousins_L4
    rw [xfolk h, bo_s, if_pos (nI_le (Nat.le_refl _) (by omega))]
theorem m_cousins (h : MV σ o A F W) : f_X12_cousinsOf 0 σ = some (nI (fld (fun a n => fld (coN A a) n a) 0 F)) := by
  have hF := h.F10
  unfold f_X12_cousinsOf
  have key := iter_fld (f := fun q : Int32 × Int32 => f_X12_cousinsOf_L4 0 q.1 q.2 σ) (st := fun i b => (nI b, nI i)) (g := fun a n => fld (coN A a) n a) (P := fun i b => True) (b0 := 0) (x := fun b => nI b) F (by omega) trivial (fun i b hi _ => ⟨?_, trivial⟩) (fun b hb => ?_)
  · rw [show ((0 : Int32), (0 : Int32)) = (nI 0, nI 0) from rfl, key.1, bo_s]
  · dsimp only
    unfold f_X12_cousinsOf_L4
    rw [mfolk h, bo_s, ite_le_f (by omega) hi]
    have k2 := iter_fld (f := fun q : Int32 × Int32 => f_X12_cousinsOf_L14 0 (nI i) q.1 q.2 σ) (st := fun j b => (nI b, nI j)) (g := coN A i) (P := fun i b => True) (b0 := b) (x := fun b => nI b) i (by omega) trivial (fun j b hj _ => ⟨?_, trivial⟩) (fun b hb => ?_)
    · rw [show (nI b, (0 : Int32)) = (nI b, nI 0) from rfl, k2.1, bo_s, nI_1]
    · have hpi := h.vw.pa10 (show i < 10 by omega)
      have hgi := h.vw.gr10 (show i < 10 by omega)
      dsimp only
      unfold f_X12_cousinsOf_L14 f_X12_cousinsOf_52 f_X12_cousinsOf_53 coN
      rw [ite_le_f (by omega) hj]
      simp only [mrc, bo_s, mpa h (show i < 10 by omega), mpa h (show j < 10 by omega), mgd h (show i < 10 by omega), mgd h (show j < 10 by omega), nI_and, nI_1, Int32.add_zero]
      by_cases c2 : grN A i &&& grN A j = 0
      · rw [if_pos (z_t c2), if_neg (fun q => q.1 c2)]
      · rw [if_neg (z_f (and_31 hgi) c2)]
        by_cases c1 : paN A i &&& paN A j = 0
        · rw [if_pos (z_t c1), if_pos ⟨c2, c1⟩]
        · rw [if_neg (z_f (and_31 hpi) c1), if_neg (fun q => c1 q.2)]
    · dsimp only
      unfold f_X12_cousinsOf_L14
      rw [if_pos (nI_le (Nat.le_refl _) (by omega))]
  · dsimp only
    unfold f_X12_cousinsOf_L4
    rw [mfolk h, bo_s, if_pos (nI_le (Nat.le_refl _) (by omega))]
theorem x_binding (h : CV σ v A F W) {e : Nat} (he : e < F) : f_X3_childrenBinding (some v) (nI e) σ = some (nI (wesN A F e)) := by
  have hF := h.F10
  unfold f_X3_childrenBinding
  have key := iter_fld (f := fun q : Int32 × Int32 => f_X3_childrenBinding_L4 (some v) (nI e) q.1 q.2 σ) (st := fun i b => (nI b, nI i)) (g := weN A e) (P := fun i b => True) (b0 := 0) (x := fun b => nI b) F (by omega) trivial (fun i b hi _ => ⟨?_, trivial⟩) (fun b hb => ?_)
  · rw [show ((0 : Int32), (0 : Int32)) = (nI 0, nI 0) from rfl, key.1, bo_s]
    rfl
  · dsimp only
    unfold f_X3_childrenBinding_L4 f_X3_childrenBinding_38 weN
    rw [xfolk h, bo_s, ite_le_f (by omega) hi, if_neg (le10 (by omega))]
    simp only [crc h.1, bo_s, xchild h hi, ite_b, xgrandp h he hi, nI_1]
    by_cases c1 : agN A i < 10
    · rw [ci_t c1]
      by_cases c2 : (grN A i).testBit e = true
      · rw [ci_t c2, if_pos ⟨c1, c2⟩]
      · rw [ci_f c2, if_neg (fun q => c2 q.2)]
    · rw [ci_f c1, if_neg (fun q => c1 q.1)]
  · dsimp only
    unfold f_X3_childrenBinding_L4
    rw [xfolk h, bo_s, if_pos (nI_le (Nat.le_refl _) (by omega))]
theorem x_binding0 (h : CV σ v A F W) : f_X3_childrenBinding (some v) (-1) σ = some 0 := by
  have hF := h.F10
  unfold f_X3_childrenBinding
  have key := iter_n (f := fun q : Int32 × Int32 => f_X3_childrenBinding_L4 (some v) (-1) q.1 q.2 σ) (st := fun i => ((0 : Int32), nI i)) (x := (0 : Int32)) F (by omega) (fun i hi => ?_) ?_
  · rw [show ((0 : Int32), (0 : Int32)) = ((0 : Int32), nI 0) from rfl, key, bo_s]
  · dsimp only
    unfold f_X3_childrenBinding_L4 f_X3_childrenBinding_38
    have e : f_X9_isGrandparent v (-1) (nI i) σ = some 0 := by
      unfold f_X9_isGrandparent f_X9_isGrandparent_33
      rw [crc h.1, bo_s, c_hasFolkB h, bo_s, ite_b, ci_f (inR_neg (by decide) (by omega))]
    rw [xfolk h, bo_s, ite_le_f (by omega) hi, if_neg (le10 (by omega))]
    simp only [crc h.1, bo_s, xchild h hi, ite_b, e, if_true, nI_1]
    by_cases c1 : agN A i < 10
    · rw [ci_t c1]
    · rw [ci_f c1]
  · dsimp only
    unfold f_X3_childrenBinding_L4
    rw [xfolk h, bo_s, if_pos (nI_le (Nat.le_refl _) (by omega))]
theorem m_weighs (h : MV σ o A F W) {e : Nat} (he : e < 10) : f_X12_weighsOn 0 (nI e) σ = some (nI (wesN A F e)) := by
  have hF := h.F10
  unfold f_X12_weighsOn
  have key := iter_fld (f := fun q : Int32 × Int32 => f_X12_weighsOn_L4 0 (nI e) q.1 q.2 σ) (st := fun i b => (nI b, nI i)) (g := weN A e) (P := fun i b => True) (b0 := 0) (x := fun b => nI b) F (by omega) trivial (fun i b hi _ => ⟨?_, trivial⟩) (fun b hb => ?_)
  · rw [show ((0 : Int32), (0 : Int32)) = (nI 0, nI 0) from rfl, key.1, bo_s]
    rfl
  · have hg := h.vw.gr10 (show i < 10 by omega)
    dsimp only
    unfold f_X12_weighsOn_L4 f_X12_weighsOn_37 f_X12_weighsOn_38 weN
    rw [mfolk h, bo_s, ite_le_f (by omega) hi]
    simp only [mrc, bo_s, msmall h (show i < 10 by omega), ite_b, mgd h (show i < 10 by omega), mamong (show grN A i < 2 ^ 31 by omega) (show e < 32 by omega), nI_1, Int32.add_zero]
    by_cases c1 : agN A i < 10
    · rw [ci_t c1]
      by_cases c2 : (grN A i).testBit e = true
      · rw [ci_t c2, if_pos ⟨c1, c2⟩]
      · rw [ci_f c2, if_neg (fun q => c2 q.2)]
    · rw [ci_f c1, if_neg (fun q => c1 q.1)]
  · dsimp only
    unfold f_X12_weighsOn_L4
    rw [mfolk h, bo_s, if_pos (nI_le (Nat.le_refl _) (by omega))]
theorem x_burden (h : CV σ v A F W) : f_X3_mostBurdened (some v) σ = some (fld (buN A F) (-1, 0) F).1 ∧ ((fld (buN A F) (-1, 0) F).1 = -1 ∨ ∃ e, e < F ∧ (fld (buN A F) (-1, 0) F).1 = nI e) := by
  have hF := h.F10
  unfold f_X3_mostBurdened
  have key := iter_fld (f := fun q : Int32 × Int32 × Int32 => f_X3_mostBurdened_L6 (some v) q.1 q.2.1 q.2.2 σ) (st := fun i b => (b.1, nI b.2, nI i)) (g := buN A F) (P := fun i b => b.2 ≤ F ∧ (b.1 = -1 ∨ ∃ e, e < F ∧ b.1 = nI e)) (b0 := (-1, 0)) (x := fun b => b.1) F (by omega) ⟨Nat.zero_le _, Or.inl rfl⟩ (fun i b hi hb => ?_) (fun b hb => ?_)
  · refine ⟨?_, key.2.2⟩
    rw [show ((-1 : Int32), (0 : Int32), (0 : Int32)) = (-1, nI 0, nI 0) from rfl, key.1, bo_s]
  · have hw := wes_le A i F
    dsimp only
    unfold f_X3_mostBurdened_L6 f_X3_mostBurdened_38 buN
    rw [xfolk h, bo_s, ite_le_f (by omega) hi, if_neg (le10 (by omega)), x_binding h hi, bo_s, nI_1]
    have hw2 : wesN A F i ≤ F := hw
    by_cases c : wesN A F i ≤ b.2
    · rw [ite_le_t (by omega) c, if_pos c]
      exact ⟨rfl, hb⟩
    · rw [ite_le_f (by omega) (by omega), if_neg c]
      exact ⟨rfl, hw2, Or.inr ⟨i, hi, rfl⟩⟩
  · dsimp only
    unfold f_X3_mostBurdened_L6
    rw [xfolk h, bo_s, if_pos (nI_le (Nat.le_refl _) (by omega))]
theorem m_burden (h : MV σ o A F W) : f_X12_burdenOf 0 σ = some (fld (buN A F) (-1, 0) F).1 := by
  have hF := h.F10
  unfold f_X12_burdenOf
  have key := iter_fld (f := fun q : Int32 × Int32 × Int32 => f_X12_burdenOf_L6 0 q.1 q.2.1 q.2.2 σ) (st := fun i b => (b.1, nI b.2, nI i)) (g := buN A F) (P := fun i b => b.2 ≤ F) (b0 := (-1, 0)) (x := fun b => b.1) F (by omega) (Nat.zero_le _) (fun i b hi hb => ?_) (fun b hb => ?_)
  · rw [show ((-1 : Int32), (0 : Int32), (0 : Int32)) = (-1, nI 0, nI 0) from rfl, key.1, bo_s]
  · have hw2 : wesN A F i ≤ F := wes_le A i F
    dsimp only
    unfold f_X12_burdenOf_L6 f_X12_burdenOf_34 buN
    simp only [mfolk h, bo_s, mrc, m_weighs h (show i < 10 by omega), nI_1]
    rw [ite_le_f (by omega) hi]
    by_cases c : wesN A F i ≤ b.2
    · rw [ite_lt_f (by omega) c, if_pos c]
      exact ⟨rfl, hb⟩
    · rw [ite_lt_t (by omega) (by omega), if_neg c]
      exact ⟨rfl, hw2⟩
  · dsimp only
    unfold f_X12_burdenOf_L6
    rw [mfolk h, bo_s, if_pos (nI_le (Nat.le_refl _) (by omega))]
end ROX
