/-! ===== houses ===== -/
theorem nx_tb {A : Nat → Int32} {F s x : Nat} : (nxN A F s).testBit x = true ↔ ∃ f, f < F ∧ ((s.testBit f = true ∧ (paN A f).testBit x = true) ∨ (x = f ∧ ∃ y, (paN A f).testBit y = true ∧ s.testBit y = true)) := by
  unfold nxN
  rw [fld_or_tb]
  constructor
  · rintro ⟨f, hf, h⟩
    refine ⟨f, hf, ?_⟩
    unfold nxH at h
    rw [Nat.testBit_or, Bool.or_eq_true] at h
    rcases h with h | h
    · by_cases c : s.testBit f = true
      · rw [if_pos c] at h
        exact Or.inl ⟨c, h⟩
      · rw [if_neg c, Nat.zero_testBit] at h
        cases h
    · by_cases c : paN A f &&& s = 0
      · rw [if_pos c, Nat.zero_testBit] at h
        cases h
      · rw [if_neg c, tb_pow, decide_eq_true_eq] at h
        refine Or.inr ⟨h.symm, ?_⟩
        exact Classical.not_not.mp (fun q => c (and0.mpr (fun i h1 h2 => q ⟨i, h1, h2⟩)))
  · rintro ⟨f, hf, h⟩
    refine ⟨f, hf, ?_⟩
    unfold nxH
    rw [Nat.testBit_or, Bool.or_eq_true]
    rcases h with ⟨h1, h2⟩ | ⟨h1, y, h2, h3⟩
    · rw [if_pos h1]
      exact Or.inl h2
    · rw [if_neg (fun q => and0.mp q y h2 h3), tb_pow, decide_eq_true_eq]
      exact Or.inr h1.symm
theorem popK_mono {s t : Nat} : ∀ n, (∀ i, i < n → s.testBit i = true → t.testBit i = true) → popK s n ≤ popK t n
  | 0, _ => Nat.le_refl _
  | n + 1, h => by
    have := popK_mono n (fun i hi => h i (by omega))
    have h2 := h n (by omega)
    rw [popK, popK]
    cases e1 : s.testBit n
    · simp; omega
    · rw [h2 e1]; simp; omega
theorem popK_strict {s t : Nat} : ∀ n, (∀ i, i < n → s.testBit i = true → t.testBit i = true) → (∃ i, i < n ∧ t.testBit i = true ∧ ¬ s.testBit i = true) → popK s n < popK t n
  | 0, _, ⟨i, hi, _⟩ => by omega
  | n + 1, h, ⟨i, hi, h1, h2⟩ => by
    rw [popK, popK]
    rcases (show i = n ∨ i < n by omega) with rfl | q
    · have := popK_mono i (fun j hj => h j (by omega))
      have e : s.testBit i = false := by simpa using h2
      rw [h1, e]
      simp; omega
    · have := popK_strict n (fun i hi => h i (by omega)) ⟨i, q, h1, h2⟩
      have h3 := h n (by omega)
      cases e1 : s.testBit n
      · simp; omega
      · rw [h3 e1]; simp; omega
def houN (A : Nat → Int32) (F f : Nat) : Nat := stepsN A F (2 ^ f) 10
section HOU
variable {A : Nat → Int32} {F W : Nat}
theorem step_sub {s x : Nat} (h : s.testBit x = true) : (stepN A F s).testBit x = true := by
  unfold stepN
  rw [Nat.testBit_or, h]; rfl
theorem steps_sub {s x : Nat} (h : s.testBit x = true) : ∀ n, (stepsN A F s n).testBit x = true
  | 0 => h
  | n + 1 => step_sub (steps_sub h n)
/-- closed: with one its parents, with a parent the child -/
def Clo (A : Nat → Int32) (F : Nat) (T : Nat → Prop) : Prop := (∀ f x, f < F → T f → (paN A f).testBit x = true → T x) ∧ ∀ f x, f < F → (paN A f).testBit x = true → T x → T f
theorem step_least {s : Nat} {T : Nat → Prop} (hT : Clo A F T) (h : ∀ x, s.testBit x = true → T x) {x : Nat} (hx : (stepN A F s).testBit x = true) : T x := by
  unfold stepN at hx
  rw [Nat.testBit_or, Bool.or_eq_true, nx_tb] at hx
  rcases hx with hx | ⟨f, hf, ⟨h1, h2⟩ | ⟨rfl, y, h2, h3⟩⟩
  · exact h x hx
  · exact hT.1 f x hf (h f h1) h2
  · exact hT.2 x y hf h2 (h y h3)
theorem steps_least {s : Nat} {T : Nat → Prop} (hT : Clo A F T) (h : ∀ x, s.testBit x = true → T x) : ∀ n x, (stepsN A F s n).testBit x = true → T x
  | 0, x, hx => h x hx
  | n + 1, x, hx => step_least hT (steps_least hT h n) hx
theorem step_fix (h : VW A F W) {s : Nat} (hs : s < 1024) : stepN A F (stepsN A F s 10) = stepsN A F s 10 := by
  refine Classical.not_not.mp (fun q => ?_)
  have stay : ∀ n, stepsN A F s (n + 1) = stepsN A F s n → ∀ m, stepsN A F s (n + m) = stepsN A F s n := by
    intro n e m
    induction m with
    | zero => rfl
    | succ m ih =>
      show stepN A F (stepsN A F s (n + m)) = _
      rw [ih]
      exact e
  have ne : ∀ n, n ≤ 10 → ¬ stepsN A F s (n + 1) = stepsN A F s n := by
    intro n hn e
    have h1 := stay n e (10 - n)
    have h2 := stay n e (11 - n)
    rw [show n + (10 - n) = 10 by omega] at h1
    rw [show n + (11 - n) = 10 + 1 by omega] at h2
    exact q (h2.trans h1.symm)
  have grow : ∀ n, n ≤ 11 → n ≤ popK (stepsN A F s n) 10 := by
    intro n
    induction n with
    | zero => exact fun _ => Nat.zero_le _
    | succ n ih =>
      intro hn
      have hl1 := stepsN_lt h hs n
      have hl2 := stepsN_lt h hs (n + 1)
      have hex : ∃ i, i < 10 ∧ (stepsN A F s (n + 1)).testBit i = true ∧ ¬ (stepsN A F s n).testBit i = true := by
        refine Classical.not_not.mp (fun z => ne n (by omega) (Nat.eq_of_testBit_eq (fun i => ?_)))
        by_cases c : (stepsN A F s n).testBit i = true
        · rw [c]
          exact step_sub c
        · by_cases c2 : (stepsN A F s (n + 1)).testBit i = true
          · exact absurd ⟨i, tb_lt (p := 10) hl2 c2, c2, c⟩ z
          · rw [Bool.eq_false_iff.mpr c, Bool.eq_false_iff.mpr c2]
      have := popK_strict 10 (fun i _ hi => step_sub hi) hex
      have := ih (by omega)
      show n + 1 ≤ popK (stepN A F (stepsN A F s n)) 10
      have e : stepsN A F s (n + 1) = stepN A F (stepsN A F s n) := rfl
      rw [e] at hex
      omega
  have := grow 11 (by omega)
  have := popK_le (stepsN A F s 11) 10
  omega
theorem hou_lt (h : VW A F W) {f : Nat} (hf : f < 10) : houN A F f < 1024 := stepsN_lt h (pow_1024 hf) 10
theorem hou_self (f : Nat) : (houN A F f).testBit f = true := steps_sub (by rw [tb_pow]; simp) 10
theorem hou_clo (h : VW A F W) {f : Nat} (hf : f < 10) : Clo A F (fun x => (houN A F f).testBit x = true) := by
  have e := step_fix h (pow_1024 hf)
  constructor
  · intro g x hg h1 h2
    show (stepsN A F (2 ^ f) 10).testBit x = true
    rw [← e]
    unfold stepN
    rw [Nat.testBit_or, Bool.or_eq_true, nx_tb]
    exact Or.inr ⟨g, hg, Or.inl ⟨h1, h2⟩⟩
  · intro g x hg h1 h2
    show (stepsN A F (2 ^ f) 10).testBit g = true
    rw [← e]
    unfold stepN
    rw [Nat.testBit_or, Bool.or_eq_true, nx_tb]
    exact Or.inr ⟨g, hg, Or.inr ⟨rfl, x, h1, h2⟩⟩
theorem hou_least {f : Nat} {T : Nat → Prop} (hT : Clo A F T) (h : T f) {x : Nat} (hx : (houN A F f).testBit x = true) : T x :=
  steps_least hT (fun y hy => by rw [tb_pow, decide_eq_true_eq] at hy; exact hy ▸ h) 10 x hx
theorem hou_sub (h : VW A F W) {f g : Nat} (hg : g < 10) (hfg : (houN A F g).testBit f = true) {x : Nat} (hx : (houN A F f).testBit x = true) : (houN A F g).testBit x = true := hou_least (hou_clo h hg) hfg hx
theorem Clo_not {T : Nat → Prop} (h : Clo A F T) : Clo A F (fun x => ¬ T x) := ⟨fun f x hf h1 h2 h3 => h1 (h.2 f x hf h2 h3), fun f x hf h1 h2 h3 => h2 (h.1 f x hf h3 h1)⟩
theorem hou_sym (h : VW A F W) {f g : Nat} (hf : f < 10) (hfg : (houN A F g).testBit f = true) : (houN A F f).testBit g = true :=
  Classical.not_not.mp (fun q => hou_least (T := fun x => ¬ (houN A F f).testBit x = true) (Clo_not (hou_clo h hf)) q hfg (hou_self f))
/-- houses counted -/
def mhX (A : Nat → Int32) (F f : Nat) (b : Nat × Nat) : Nat × Nat := if b.2.testBit f = true then b else (b.1 + 1, b.2 ||| houN A F f)
def mhM (A : Nat → Int32) (F f : Nat) (b : Nat × Nat) : Nat × Nat := (b.1 + (if houN A F f &&& (2 ^ f - 1) = 0 then 1 else 0), if popc (houN A F f) ≤ b.2 then b.2 else popc (houN A F f))
theorem mh_eq (h : VW A F W) : ∀ n, n ≤ 10 → (fld (mhX A F) (0, 0) n).1 = (fld (mhM A F) (0, 0) n).1 ∧ ∀ y, (fld (mhX A F) (0, 0) n).2.testBit y = true ↔ ∃ x, x < n ∧ (houN A F x).testBit y = true
  | 0, _ => by
    refine ⟨rfl, fun y => ?_⟩
    simp [fld]
  | n + 1, hn => by
    obtain ⟨e, hy⟩ := mh_eq h n (by omega)
    rw [fld, fld]
    generalize fld (mhX A F) (0, 0) n = b at *
    generalize fld (mhM A F) (0, 0) n = d at *
    have key : b.2.testBit n = true ↔ ¬ houN A F n &&& (2 ^ n - 1) = 0 := by
      rw [hy, and0]
      constructor
      · rintro ⟨x, hx, q⟩ z
        exact z x (hou_sym h (by omega) q) (by rw [Nat.testBit_two_pow_sub_one]; simpa using hx)
      · intro z
        refine Classical.not_not.mp (fun q => z (fun i h1 h2 => ?_))
        rw [Nat.testBit_two_pow_sub_one, decide_eq_true_eq] at h2
        exact q ⟨i, h2, hou_sym h (by omega) h1⟩
    unfold mhX mhM
    by_cases c : b.2.testBit n = true
    · rw [if_pos c, if_neg (key.mp c)]
      refine ⟨e, fun y => ?_⟩
      rw [hy]
      constructor
      · rintro ⟨x, hx, q⟩
        exact ⟨x, by omega, q⟩
      · rintro ⟨x, hx, q⟩
        rcases (show x < n ∨ x = n by omega) with z | rfl
        · exact ⟨x, z, q⟩
        · obtain ⟨w, hw, q2⟩ := (hy x).mp c
          exact ⟨w, hw, hou_sub h (by omega) q2 q⟩
    · rw [if_neg c, if_pos (Classical.not_not.mp (fun q => c (key.mpr q)))]
      refine ⟨by rw [e], fun y => ?_⟩
      rw [Nat.testBit_or, Bool.or_eq_true, hy]
      constructor
      · rintro (⟨x, hx, q⟩ | q)
        · exact ⟨x, by omega, q⟩
        · exact ⟨n, by omega, q⟩
      · rintro ⟨x, hx, q⟩
        rcases (show x < n ∨ x = n by omega) with z | rfl
        · exact Or.inl ⟨x, z, q⟩
        · exact Or.inr q
def lhX (A : Nat → Int32) (F f b : Nat) : Nat := if popc (houN A F f) ≤ b then b else popc (houN A F f)
theorem lh_eq : ∀ n, fld (lhX A F) 0 n = (fld (mhM A F) (0, 0) n).2
  | 0 => rfl
  | n + 1 => by rw [fld, fld, lh_eq n]; rfl
end HOU
section HOX
variable {σ : Dt} {v o F W : Nat} {A : Nat → Int32}
theorem x_house (h : CV σ v A F W) {f : Nat} (hf : f < 10) : f_X3_houseOf (some v) (nI f) σ = some (nI (houN A F f)) := by
  unfold f_X3_houseOf
  rw [shl1 (by omega)]
  have key := iter_n (f := fun q : Int32 × Int32 => f_X3_houseOf_L6 (some v) q.1 q.2 σ) (st := fun i => (nI (stepsN A F (2 ^ f) i), nI i)) (x := nI (houN A F f)) 10 (by decide) (fun i hi => ?_) ?_
  · rw [show (nI (2 ^ f), (0 : Int32)) = (nI (stepsN A F (2 ^ f) 0), nI 0) from rfl, key, bo_s]
  · dsimp only
    unfold f_X3_houseOf_L6
    rw [if_neg (show ¬ (10 : Int32) ≤ nI i from nI_ge (b := 10) hi (by decide)), x_step h (stepsN_lt h.vw (pow_1024 hf) i), bo_s, nI_1]
    rfl
  · dsimp only
    unfold f_X3_houseOf_L6
    rw [if_pos (by decide)]
    rfl
theorem m_house (h : MV σ o A F W) {f : Nat} (hf : f < 10) : f_X12_houseOf 0 (nI f) σ = some (nI (houN A F f)) := by
  unfold f_X12_houseOf
  rw [shl1 (by omega)]
  have key := iter_n (f := fun q : Int32 × Int32 => f_X12_houseOf_L6 0 q.1 q.2 σ) (st := fun i => (nI (stepsN A F (2 ^ f) i), nI i)) (x := nI (houN A F f)) 10 (by decide) (fun i hi => ?_) ?_
  · rw [show (nI (2 ^ f), (0 : Int32)) = (nI (stepsN A F (2 ^ f) 0), nI 0) from rfl, key, bo_s]
  · dsimp only
    unfold f_X12_houseOf_L6
    rw [if_neg (show ¬ (10 : Int32) ≤ nI i from nI_ge (b := 10) hi (by decide)), mrc, bo_s, m_next h (stepsN_lt h.vw (pow_1024 hf) i), bo_s, nI_1, nI_or]
    rfl
  · dsimp only
    unfold f_X12_houseOf_L6
    rw [if_pos (by decide)]
    rfl
theorem x_many2 (h : CV σ v A F W) : f_X3_manyHouses (some v) σ = some (nI (fld (mhX A F) (0, 0) F).1) := by
  have hF := h.F10
  unfold f_X3_manyHouses
  have key := iter_fld (f := fun q : Int32 × Int32 × Int32 => f_X3_manyHouses_L6 (some v) q.1 q.2.1 q.2.2 σ) (st := fun i b => (nI b.1, nI b.2, nI i)) (g := mhX A F) (P := fun i b => b.2 < 1024) (b0 := (0, 0)) (x := fun b => nI b.1) F (by omega) (by decide) (fun i b hi hb => ?_) (fun b hb => ?_)
  · rw [show ((0 : Int32), (0 : Int32), (0 : Int32)) = (nI 0, nI 0, nI 0) from rfl, key.1, bo_s]
  · dsimp only
    unfold f_X3_manyHouses_L6 f_X3_manyHouses_39 mhX
    simp only [xfolk h, bo_s, x_house h (show i < 10 by omega), nI_or, nI_1]
    rw [ite_le_f (by omega) hi, if_neg (show ¬ (10 : Int32) ≤ nI i from nI_ge (b := 10) (by omega) (by decide))]
    simp only [bit0 (show b.2 < 2 ^ 31 by omega) (show i < 32 by omega)]
    by_cases c : b.2.testBit i = true
    · rw [if_neg (fun q => q c), if_pos c]
      exact ⟨rfl, hb⟩
    · rw [if_pos c, if_neg c]
      exact ⟨rfl, or_lt (n := 10) hb (hou_lt h.vw (by omega))⟩
  · dsimp only
    unfold f_X3_manyHouses_L6
    rw [xfolk h, bo_s, if_pos (nI_le (Nat.le_refl _) (by omega))]
theorem mmax_nI {a b : Nat} (ha : a < 2 ^ 31) (hb : b < 2 ^ 31) : mmax (nI a) (nI b) = nI (if b ≤ a then a else b) := by
  unfold mmax
  by_cases c : b ≤ a
  · rw [if_neg (nI_nlt c ha), if_pos c]
  · rw [if_pos (nI_lt (by omega) hb), if_neg c]
theorem x_largest (h : CV σ v A F W) : f_X3_largestHouse (some v) σ = some (nI (fld (lhX A F) 0 F)) := by
  have hF := h.F10
  unfold f_X3_largestHouse
  have key := iter_fld (f := fun q : Int32 × Int32 => f_X3_largestHouse_L4 (some v) q.1 q.2 σ) (st := fun i b => (nI b, nI i)) (g := lhX A F) (P := fun i b => b ≤ 12) (b0 := 0) (x := fun b => nI b) F (by omega) (by decide) (fun i b hi hb => ?_) (fun b hb => ?_)
  · rw [show ((0 : Int32), (0 : Int32)) = (nI 0, nI 0) from rfl, key.1, bo_s]
  · have hp := popc_le (houN A F i)
    have e : mmax (nI b) (nI (popc (houN A F i))) = nI (lhX A F i b) := mmax_nI (by omega) (by omega)
    have e2 : lhX A F i b ≤ 12 := by
      unfold lhX
      by_cases c : popc (houN A F i) ≤ b
      · rw [if_pos c]; exact hb
      · rw [if_neg c]; exact hp
    refine ⟨?_, e2⟩
    dsimp only
    unfold f_X3_largestHouse_L4
    rw [xfolk h, bo_s, ite_le_f (by omega) hi, if_neg (show ¬ (10 : Int32) ≤ nI i from nI_ge (b := 10) (by omega) (by decide)), x_house h (show i < 10 by omega), bo_s, xbits (hou_lt h.vw (show i < 10 by omega)), bo_s, e, nI_1]
  · dsimp only
    unfold f_X3_largestHouse_L4
    rw [xfolk h, bo_s, if_pos (nI_le (Nat.le_refl _) (by omega))]
theorem m_houses (h : MV σ o A F W) (z : Int32) : f_X12_housesOf 0 z σ = some (if z = 0 then nI (fld (mhM A F) (0, 0) F).1 else nI (fld (mhM A F) (0, 0) F).2) := by
  have hF := h.F10
  unfold f_X12_housesOf
  have key := iter_fld (f := fun q : Int32 × Int32 × Int32 => f_X12_housesOf_L7 0 z q.1 q.2.1 q.2.2 σ) (st := fun i b => (nI b.1, nI b.2, nI i)) (g := mhM A F) (P := fun i b => b.2 ≤ 12) (b0 := (0, 0)) (x := fun b => (nI b.1, nI b.2)) F (by omega) (by decide) (fun i b hi hb => ?_) (fun b hb => ?_)
  · rw [show ((0 : Int32), (0 : Int32), (0 : Int32)) = (nI 0, nI 0, nI 0) from rfl, key.1, bo_s]
    by_cases c : z = 0
    · rw [if_pos c, if_pos c]
    · rw [if_neg c, if_neg c]
  · have hp := popc_le (houN A F i)
    have hl := hou_lt h.vw (show i < 10 by omega)
    have hl2 : houN A F i &&& (2 ^ i - 1) < 2 ^ 31 := Nat.lt_of_le_of_lt Nat.and_le_left (by omega)
    dsimp only
    unfold f_X12_housesOf_L7 f_X12_housesOf_42 f_X12_housesOf_62 mhM
    simp only [mfolk h, bo_s, mrc, m_house h (show i < 10 by omega), shl1 (show i < 31 by omega), show nI (2 ^ i) - 1 = nI (2 ^ i - 1) from pk_sub (b := 1) (Nat.two_pow_pos i), nI_and, mbits (show houN A F i < 2 ^ 31 by omega), nI_1]
    rw [ite_le_f (by omega) hi]
    refine ⟨?_, ?_⟩
    · by_cases c : houN A F i &&& (2 ^ i - 1) = 0
      · rw [if_pos (z_t c), if_pos c]
        by_cases c2 : popc (houN A F i) ≤ b.2
        · rw [ite_le_t (by omega) c2, if_pos c2]
        · rw [ite_le_f (by omega) (by omega), if_neg c2]
      · rw [if_neg (z_f hl2 c), if_neg c, Int32.add_zero]
        by_cases c2 : popc (houN A F i) ≤ b.2
        · rw [ite_le_t (by omega) c2, if_pos c2]
          rfl
        · rw [ite_le_f (by omega) (by omega), if_neg c2]
          rfl
    · by_cases c2 : popc (houN A F i) ≤ b.2
      · rw [if_pos c2]; exact hb
      · rw [if_neg c2]; exact hp
  · dsimp only
    unfold f_X12_housesOf_L7
    rw [mfolk h, bo_s, if_pos (nI_le (Nat.le_refl _) (by omega))]
end HOX
