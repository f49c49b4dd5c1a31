/-! ===== apart, houses ===== -/
theorem z_t {a : Nat} (h : a = 0) : nI a = 0 := congrArg nI h
theorem z_f {a : Nat} (ha : a < 2 ^ 31) (h : ¬ a = 0) : ¬ nI a = 0 := fun q => h ((nI_eq ha (by decide)).mp q)
theorem fld_or (h : Nat → Nat) (s : Nat) : ∀ n, fld (fun i x => x ||| h i) s n = s ||| fld (fun i x => x ||| h i) 0 n
  | 0 => by rw [fld, fld, Nat.or_zero]
  | n + 1 => by rw [fld, fld, fld_or h s n, Nat.or_assoc]
theorem fld_or_tb (h : Nat → Nat) (x : Nat) : ∀ n, (fld (fun i x => x ||| h i) 0 n).testBit x = true ↔ ∃ i, i < n ∧ (h i).testBit x = true
  | 0 => by simp [fld]
  | n + 1 => by
    rw [fld, Nat.testBit_or, Bool.or_eq_true, fld_or_tb h x n]
    constructor
    · rintro (⟨i, h1, h2⟩ | h2)
      · exact ⟨i, by omega, h2⟩
      · exact ⟨n, by omega, h2⟩
    · rintro ⟨i, h1, h2⟩
      rcases (show i < n ∨ i = n by omega) with q | rfl
      · exact Or.inl ⟨i, q, h2⟩
      · exact Or.inr h2
theorem fld_or_lt {h : Nat → Nat} {m : Nat} : ∀ n, (∀ i, i < n → h i < 2 ^ m) → fld (fun i x => x ||| h i) 0 n < 2 ^ m
  | 0, _ => Nat.two_pow_pos m
  | n + 1, q => or_lt (fld_or_lt n (fun i hi => q i (by omega))) (q n (by omega))
/-- who is next to s by folk f -/
def nxH (A : Nat → Int32) (s f : Nat) : Nat := (if s.testBit f = true then paN A f else 0) ||| (if paN A f &&& s = 0 then 0 else 2 ^ f)
def nxN (A : Nat → Int32) (F s : Nat) : Nat := fld (fun f x => x ||| nxH A s f) 0 F
def stepN (A : Nat → Int32) (F s : Nat) : Nat := s ||| nxN A F s
theorem nxH_lt {A : Nat → Int32} {F W s f : Nat} (h : VW A F W) (hf : f < 10) : nxH A s f < 2 ^ 10 := by
  unfold nxH
  refine or_lt ?_ ?_
  · by_cases c : s.testBit f = true
    · rw [if_pos c]; exact h.pa10 hf
    · rw [if_neg c]; decide
  · by_cases c : paN A f &&& s = 0
    · rw [if_pos c]; decide
    · rw [if_neg c]; exact Nat.pow_lt_pow_right (by decide) hf
theorem nxN_lt {A : Nat → Int32} {F W s : Nat} (h : VW A F W) : nxN A F s < 1024 := fld_or_lt (m := 10) F (fun i hi => nxH_lt h (by have := h.2.2.1; omega))
theorem stepN_lt {A : Nat → Int32} {F W s : Nat} (h : VW A F W) (hs : s < 1024) : stepN A F s < 1024 := or_lt (n := 10) hs (nxN_lt h)
section STEP
variable {σ : Dt} {v o F W : Nat} {A : Nat → Int32}
theorem x_step (h : CV σ v A F W) {s : Nat} (hs : s < 1024) : f_X3_oneStepOn (some v) (nI s) σ = some (nI (stepN A F s)) := by
  have hF := h.F10
  unfold f_X3_oneStepOn
  have key := iter_fld (f := fun q : Int32 × Int32 => f_X3_oneStepOn_L4 (some v) (nI s) q.1 q.2 σ) (st := fun i b => (nI b, nI i)) (g := fun f x => x ||| nxH A s f) (P := fun i b => b < 1024) (b0 := s) (x := fun b => nI b) F (by omega) hs (fun i b hi hb => ?_) (fun b hb => ?_)
  · rw [show (nI s, (0 : Int32)) = (nI s, nI 0) from rfl, key.1, bo_s, fld_or]
    rfl
  · have hp := h.vw.pa10 (show i < 10 by omega)
    refine ⟨?_, or_lt (n := 10) hb (nxH_lt h.vw (by omega))⟩
    dsimp only
    unfold f_X3_oneStepOn_L4 f_X3_oneStepOn_35 f_X3_oneStepOn_52 nxH
    simp only [xfolk h, bo_s, xpars h, xpa h (show i < 10 by omega), shl1 (show i < 31 by omega), nI_or, nI_and, nI_1, show (10 : Int32) = nI 10 from rfl]
    rw [ite_le_f (by omega) hi, ite_le_f (by decide) (by omega)]
    simp only [bit0 (show s < 2 ^ 31 by omega) (show i < 32 by omega)]
    have hl : paN A i &&& s < 2 ^ 31 := Nat.lt_of_le_of_lt Nat.and_le_left (by omega)
    by_cases c : s.testBit i = true
    · rw [if_neg (fun q => q c), if_pos c]
      by_cases c2 : paN A i &&& s = 0
      · rw [if_pos (z_t c2), if_pos c2, Nat.or_zero]
      · rw [if_neg (z_f hl c2), if_neg c2, Nat.or_assoc]
    · rw [if_pos c, if_neg c]
      by_cases c2 : paN A i &&& s = 0
      · rw [if_pos (z_t c2), if_pos c2, Nat.or_zero, Nat.or_zero]
      · rw [if_neg (z_f hl c2), if_neg c2, Nat.zero_or]
  · dsimp only
    unfold f_X3_oneStepOn_L4
    rw [xfolk h, bo_s, if_pos (nI_le (Nat.le_refl _) (by omega))]
theorem m_next (h : MV σ o A F W) {s : Nat} (hs : s < 1024) : f_X12_nextTo 0 (nI s) σ = some (nI (nxN A F s)) := by
  have hF := h.F10
  unfold f_X12_nextTo
  have key := iter_fld (f := fun q : Int32 × Int32 => f_X12_nextTo_L4 0 (nI s) q.1 q.2 σ) (st := fun i b => (nI b, nI i)) (g := fun f x => x ||| nxH A s f) (P := fun i b => b < 1024) (b0 := 0) (x := fun b => nI b) F (by omega) (by decide) (fun i b hi hb => ?_) (fun b hb => ?_)
  · rw [show ((0 : Int32), (0 : Int32)) = (nI 0, nI 0) from rfl, key.1, bo_s]
    rfl
  · have hp := h.vw.pa10 (show i < 10 by omega)
    refine ⟨?_, or_lt (n := 10) hb (nxH_lt h.vw (by omega))⟩
    dsimp only
    unfold f_X12_nextTo_L4 f_X12_nextTo_28 f_X12_nextTo_44 nxH
    simp only [mfolk h, bo_s, mrc, mpa h (show i < 10 by omega), mamong (show s < 2 ^ 31 by omega) (show i < 32 by omega), ite_b, shl1 (show i < 31 by omega), nI_or, nI_and, nI_1]
    rw [ite_le_f (by omega) hi]
    have hl : paN A i &&& s < 2 ^ 31 := Nat.lt_of_le_of_lt Nat.and_le_left (by omega)
    by_cases c : s.testBit i = true
    · rw [ci_t c, if_pos c]
      by_cases c2 : paN A i &&& s = 0
      · rw [if_pos (z_t c2), if_pos c2, Nat.or_zero]
      · rw [if_neg (z_f hl c2), if_neg c2, Nat.or_assoc]
    · rw [ci_f c, if_neg c]
      by_cases c2 : paN A i &&& s = 0
      · rw [if_pos (z_t c2), if_pos c2, Nat.or_zero, Nat.or_zero]
      · rw [if_neg (z_f hl c2), if_neg c2, Nat.zero_or]
  · dsimp only
    unfold f_X12_nextTo_L4
    rw [mfolk h, bo_s, if_pos (nI_le (Nat.le_refl _) (by omega))]
/-- n steps on from s -/
def stepsN (A : Nat → Int32) (F s : Nat) : Nat → Nat
  | 0 => s
  | n + 1 => stepN A F (stepsN A F s n)
theorem stepsN_lt (h : VW A F W) {s : Nat} (hs : s < 1024) : ∀ n, stepsN A F s n < 1024
  | 0 => hs
  | n + 1 => stepN_lt h (stepsN_lt h hs n)
theorem pow_1024 {a : Nat} (h : a < 10) : 2 ^ a < 1024 := Nat.pow_lt_pow_right (a := 2) (n := 10) (by decide) h
end STEP
theorem ok_apart : LK_apart Inv := by
  intro σx σm z1 z2 z3 hI
  unfold f_X11_apart f_X12_apart
  simp only [x_now hI.1, bo_s, x_rc1, mrc]
  rcases ask_V hI z1 with ⟨k, A, F, W, hk, hz, hC, e1, e2, hM, hI2⟩ | ⟨e1, e2⟩
  · have hF := hC.F10
    simp only [e1, bo_s, e2, bd_s, crc hC.1, ite_none, ite_10, c_hasFolkB hC, m_isFolkB hM, ite_b, x_kin hI.1, x_rck]
    by_cases c : inR z2 F
    · simp only [ci_t c]
      by_cases c2 : inR z3 F
      · simp only [ci_t c2]
        obtain ⟨a, ha, rfl⟩ := id c
        obtain ⟨b, hb, rfl⟩ := id c2
        unfold f_X3_stepsBetween
        simp only [ite_none, crc hC.1, bo_s, c_hasFolkB hC, ite_b, ci_t c, ci_t c2, shl1 (show a < 31 by omega)]
        have hl := stepsN_lt hM.vw (pow_1024 (show a < 10 by omega))
        have sx : ∀ j, j < 10 → ¬ (stepsN A F (2 ^ a) j).testBit b = true → f_X3_stepsBetween_L30 (some (6 + 16 * k)) (nI b) (nI (stepsN A F (2 ^ a) j)) (nI j) σx = some (.inl (nI (stepsN A F (2 ^ a) (j + 1)), nI (j + 1))) := by
          intro j hj q
          have := hl j
          unfold f_X3_stepsBetween_L30
          rw [if_neg (show ¬ (10 : Int32) ≤ nI j from nI_ge (b := 10) hj (by decide)), x_step hC (hl j), bo_s, nI_1]
          simp only [bit0 (show stepsN A F (2 ^ a) j < 2 ^ 31 by omega) (show b < 32 by omega)]
          rw [if_pos q]
          rfl
        have sm : ∀ j, j < 10 → ¬ (stepsN A F (2 ^ a) j).testBit b = true → f_X12_apart_L34 0 (nI b) (nI (stepsN A F (2 ^ a) j)) (nI j) (setV σm (610 + 55 * k) F W) = some (.inl (nI (stepsN A F (2 ^ a) (j + 1)), nI (j + 1))) := by
          intro j hj q
          have := hl j
          unfold f_X12_apart_L34
          rw [if_neg (show ¬ (10 : Int32) ≤ nI j from nI_ge (b := 10) hj (by decide)), mamong (by omega) (by omega), bo_s, ite_b, ci_f q, mrc, bo_s, m_next hM (hl j), bo_s, nI_1, nI_or]
          rfl
        rcases first_or (fun j => (stepsN A F (2 ^ a) j).testBit b = true) 10 with ⟨n, hn, hp, hq⟩ | hq
        · have := hl n
          refine ⟨nI n, _, ?_, ?_, hI2⟩
          · rw [show iter FU (fun s => f_X3_stepsBetween_L30 (some (6 + 16 * k)) (nI b) s.1 s.2 σx) (nI (2 ^ a), (0 : Int32)) = some (.inl (nI n)) from iter_n (f := fun s : Int32 × Int32 => f_X3_stepsBetween_L30 (some (6 + 16 * k)) (nI b) s.1 s.2 σx) (st := fun j => (nI (stepsN A F (2 ^ a) j), nI j)) (x := Sum.inl (nI n)) n (by omega) (fun j hj => sx j (by omega) (hq j hj)) (by
              dsimp only
              unfold f_X3_stepsBetween_L30
              rw [if_neg (show ¬ (10 : Int32) ≤ nI n from nI_ge (b := 10) hn (by decide))]
              simp only [bit0 (show stepsN A F (2 ^ a) n < 2 ^ 31 by omega) (show b < 32 by omega)]
              rw [if_neg (fun q => q hp)])]
            rfl
          · rw [show iter FU (fun s => f_X12_apart_L34 0 (nI b) s.1 s.2 (setV σm (610 + 55 * k) F W)) (nI (2 ^ a), (0 : Int32)) = some (.inl (nI n)) from iter_n (f := fun s : Int32 × Int32 => f_X12_apart_L34 0 (nI b) s.1 s.2 (setV σm (610 + 55 * k) F W)) (st := fun j => (nI (stepsN A F (2 ^ a) j), nI j)) (x := Sum.inl (nI n)) n (by omega) (fun j hj => sm j (by omega) (hq j hj)) (by
              dsimp only
              unfold f_X12_apart_L34
              rw [if_neg (show ¬ (10 : Int32) ≤ nI n from nI_ge (b := 10) hn (by decide)), mamong (by omega) (by omega), bo_s, ite_b, ci_t hp])]
            rfl
        · refine ⟨-1, _, ?_, ?_, hI2⟩
          · rw [show iter FU (fun s => f_X3_stepsBetween_L30 (some (6 + 16 * k)) (nI b) s.1 s.2 σx) (nI (2 ^ a), (0 : Int32)) = some (.inr ()) from iter_n (f := fun s : Int32 × Int32 => f_X3_stepsBetween_L30 (some (6 + 16 * k)) (nI b) s.1 s.2 σx) (st := fun j => (nI (stepsN A F (2 ^ a) j), nI j)) (x := Sum.inr ()) 10 (by omega) (fun j hj => sx j (by omega) (hq j hj)) (by
              dsimp only
              unfold f_X3_stepsBetween_L30
              rw [if_pos (by decide)])]
            rfl
          · rw [show iter FU (fun s => f_X12_apart_L34 0 (nI b) s.1 s.2 (setV σm (610 + 55 * k) F W)) (nI (2 ^ a), (0 : Int32)) = some (.inr ()) from iter_n (f := fun s : Int32 × Int32 => f_X12_apart_L34 0 (nI b) s.1 s.2 (setV σm (610 + 55 * k) F W)) (st := fun j => (nI (stepsN A F (2 ^ a) j), nI j)) (x := Sum.inr ()) 10 (by omega) (fun j hj => sm j (by omega) (hq j hj)) (by
              dsimp only
              unfold f_X12_apart_L34
              rw [if_pos (by decide)])]
            rfl
      · simp only [ci_f c2]
        exact ⟨-1, _, rfl, rfl, hI2⟩
    · simp only [ci_f c]
      exact ⟨-1, _, rfl, rfl, hI2⟩
  · simp only [e1, bo_s, e2, bd_s]
    exact ⟨-1, _, rfl, rfl, hI⟩
