/-! ===== sets of elders: those counted by rank, and the same by name ===== -/
theorem popK_t {E g : Nat} (h : E.testBit g = true) : popK E (g + 1) = popK E g + 1 := by rw [popK_s, h]; rfl
theorem popK_n {E g : Nat} (h : ¬ E.testBit g = true) : popK E (g + 1) = popK E g := by
  rw [popK_s, show E.testBit g = false by simpa using h]; rfl
def sT (f : Nat → Nat) : Nat → Nat
  | 0 => 0
  | n + 1 => sT f n + f n
theorem sT_s (f : Nat → Nat) (n : Nat) : sT f (n + 1) = sT f n + f n := rfl
theorem sT_c {f g : Nat → Nat} : ∀ n, (∀ i, i < n → f i = g i) → sT f n = sT g n
  | 0, _ => rfl
  | n + 1, h => by rw [sT_s, sT_s, sT_c n (fun i hi => h i (by omega)), h n (by omega)]
theorem sT_z {f : Nat → Nat} : ∀ n, (∀ i, i < n → f i = 0) → sT f n = 0
  | 0, _ => rfl
  | n + 1, h => by rw [sT_s, sT_z n (fun i hi => h i (by omega)), h n (by omega)]
theorem sT_add (f : Nat → Nat) (a : Nat) : ∀ b, sT f (a + b) = sT f a + sT (fun i => f (a + i)) b
  | 0 => rfl
  | b + 1 => by
    rw [← Nat.add_assoc, sT_s, sT_add f a b, sT_s, Nat.add_assoc]
theorem sT_mul {f : Nat → Nat} {c : Nat} : ∀ n, sT (fun i => f i * c) n = sT f n * c
  | 0 => (Nat.zero_mul c).symm
  | n + 1 => by rw [sT_s, sT_s, sT_mul n, Nat.add_mul]
theorem sT_le {f g : Nat → Nat} : ∀ n, (∀ i, i < n → f i ≤ g i) → sT f n ≤ sT g n
  | 0, _ => Nat.le_refl _
  | n + 1, h => by
    have := sT_le n (fun i hi => h i (by omega))
    have := h n (by omega)
    rw [sT_s, sT_s]
    omega
theorem sT_b {f : Nat → Nat} {M : Nat} : ∀ n, (∀ i, i < n → f i ≤ M) → sT f n ≤ n * M
  | 0, _ => Nat.zero_le _
  | n + 1, h => by
    have := sT_b n (fun i hi => h i (by omega))
    have := h n (by omega)
    rw [sT_s, Nat.succ_mul]
    omega
theorem sT_0 (f : Nat → Nat) : ∀ n, sT f (n + 1) = f 0 + sT (fun i => f (i + 1)) n
  | 0 => by rw [sT_s]; show 0 + f 0 = f 0 + 0; omega
  | n + 1 => by rw [sT_s, sT_0 f n, sT_s, Nat.add_assoc]
theorem sT_rev (f : Nat → Nat) : ∀ n, sT (fun j => f (n - j)) (n + 1) = sT f (n + 1)
  | 0 => rfl
  | n + 1 => by
    rw [sT_0, sT_s f (n + 1), ← sT_rev f n, Nat.add_comm, Nat.sub_zero]
    congr 1
    exact sT_c _ (fun i hi => by rw [Nat.add_sub_add_right])
theorem sT_fld (f : Nat → Nat) (b : Nat) : ∀ n, fld (fun i b => b + f i) b n = b + sT f n
  | 0 => rfl
  | n + 1 => by rw [fld, sT_fld f b n, sT_s, Nat.add_assoc]
theorem sT_pow (f : Nat → Nat) (g : Nat) : sT f (2 ^ (g + 1)) = sT f (2 ^ g) + sT (fun t => f (t ||| 2 ^ g)) (2 ^ g) := by
  rw [show 2 ^ (g + 1) = 2 ^ g + 2 ^ g by rw [Nat.pow_succ]; omega, sT_add]
  congr 1
  exact sT_c _ (fun i hi => by rw [or_pow hi])
/-- the i-th elder -/
noncomputable def whE (E : Nat) : Nat → Nat → Nat
  | 0, _ => 0
  | g + 1, i => ci (E.testBit g = true ∧ i = popK E g) g (whE E g i)
theorem whE_P {E : Nat} : ∀ g i, i < popK E g → E.testBit (whE E g i) = true ∧ popK E (whE E g i) = i ∧ whE E g i < g
  | 0, i, h => absurd h (Nat.not_lt_zero i)
  | g + 1, i, h => by
    rw [whE]
    by_cases c : E.testBit g = true
    · rw [popK_t c] at h
      by_cases d : i = popK E g
      · rw [ci_t ⟨c, d⟩]
        exact ⟨c, d.symm, by omega⟩
      · rw [ci_f (fun z => d z.2)]
        obtain ⟨h1, h2, h3⟩ := whE_P (E := E) g i (by omega)
        exact ⟨h1, h2, by omega⟩
    · rw [popK_n c] at h
      rw [ci_f (fun z => c z.1)]
      obtain ⟨h1, h2, h3⟩ := whE_P (E := E) g i h
      exact ⟨h1, h2, by omega⟩
theorem popK_up {E : Nat} : ∀ g e, e < g → E.testBit e = true → popK E e < popK E g
  | 0, e, h, _ => absurd h (Nat.not_lt_zero e)
  | g + 1, e, h, he => by
    rcases (show e = g ∨ e < g by omega) with y | y
    · subst y; rw [popK_t he]; omega
    · have := popK_up g e y he
      have : popK E g ≤ popK E (g + 1) := by rw [popK_s]; omega
      omega
theorem whE_r {E : Nat} : ∀ g e, e < g → E.testBit e = true → whE E g (popK E e) = e
  | 0, e, h, _ => absurd h (Nat.not_lt_zero e)
  | g + 1, e, h, he => by
    rw [whE]
    rcases (show e = g ∨ e < g by omega) with y | y
    · subst y; rw [ci_t ⟨he, rfl⟩]
    · have := popK_up g e y he
      rw [ci_f (fun z => by omega), whE_r g e y he]
/-- a set by rank, by name -/
noncomputable def exL (E : Nat) : Nat → Nat → Nat
  | 0, _ => 0
  | g + 1, s => exL E g s ||| ci (E.testBit g = true ∧ s.testBit (popK E g) = true) (2 ^ g) 0
theorem exL_lt {E s : Nat} : ∀ g, exL E g s < 2 ^ g
  | 0 => Nat.one_pos
  | g + 1 => by
    rw [exL]
    have h1 := exL_lt (E := E) (s := s) g
    have h2 : 2 ^ (g + 1) = 2 ^ g * 2 := Nat.pow_succ 2 g
    refine or_lt (by omega) ?_
    by_cases c : E.testBit g = true ∧ s.testBit (popK E g) = true
    · rw [ci_t c]; omega
    · rw [ci_f c]; omega
theorem exL_c {E s t : Nat} : ∀ g, (∀ i, i < popK E g → s.testBit i = t.testBit i) → exL E g s = exL E g t
  | 0, _ => rfl
  | g + 1, h => by
    have hle : popK E g ≤ popK E (g + 1) := by rw [popK_s]; omega
    rw [exL, exL, exL_c g (fun i hi => h i (by omega))]
    by_cases c : E.testBit g = true
    · rw [h (popK E g) (by rw [popK_t c]; omega)]
    · rw [ci_f (fun z => c z.1), ci_f (fun z => c z.1)]
theorem tb_up {x g : Nat} (h : x < 2 ^ g) : x.testBit g = false := by
  cases e : x.testBit g
  · rfl
  · exact absurd (tb_lt h e) (Nat.lt_irrefl g)
theorem exL_tb {E s : Nat} : ∀ g e, e < g → (exL E g s).testBit e = (E.testBit e && s.testBit (popK E e))
  | 0, e, h => absurd h (Nat.not_lt_zero e)
  | g + 1, e, h => by
    rw [exL, Nat.testBit_or]
    rcases (show e = g ∨ e < g by omega) with y | y
    · subst y
      rw [tb_up (exL_lt e), Bool.false_or]
      by_cases c : E.testBit e = true ∧ s.testBit (popK E e) = true
      · rw [ci_t c, tb_pow, c.1, c.2]; simp
      · rw [ci_f c, Nat.zero_testBit]
        cases e1 : E.testBit e
        · rfl
        · cases e2 : s.testBit (popK E e)
          · rfl
          · exact absurd ⟨e1, e2⟩ c
    · have hne : ¬ g = e := by omega
      rw [exL_tb g e y]
      by_cases c : E.testBit g = true ∧ s.testBit (popK E g) = true
      · rw [ci_t c, tb_pow, decide_eq_false hne, Bool.or_false]
      · rw [ci_f c, Nat.zero_testBit, Bool.or_false]
theorem exL_sub {E s g e : Nat} (h : (exL E g s).testBit e = true) : E.testBit e = true := by
  have hl := tb_lt (exL_lt g) h
  rw [exL_tb g e hl] at h
  cases e1 : E.testBit e
  · rw [e1] at h; cases h
  · rfl
theorem sub_0 {t E : Nat} : nsub t E = 0 ↔ ∀ i, t.testBit i = true → E.testBit i = true := by
  constructor
  · intro h i hi
    apply Classical.byContradiction
    intro c
    have : (nsub t E).testBit i = true := sub_tb.mpr ⟨hi, c⟩
    rw [h, Nat.zero_testBit] at this
    cases this
  · intro h
    apply Nat.eq_of_testBit_eq
    intro i
    rw [Nat.zero_testBit]
    cases e : (nsub t E).testBit i
    · rfl
    · obtain ⟨h1, h2⟩ := sub_tb.mp e
      exact absurd (h i h1) h2
theorem sub_oE {t E g : Nat} : nsub (t ||| 2 ^ g) E = 0 ↔ nsub t E = 0 ∧ E.testBit g = true := by
  rw [sub_0, sub_0]
  constructor
  · intro h
    refine ⟨fun i hi => h i (by rw [Nat.testBit_or, hi]; rfl), h g (by rw [Nat.testBit_or, tb_pow]; simp)⟩
  · rintro ⟨h1, h2⟩ i hi
    rw [Nat.testBit_or, tb_pow] at hi
    by_cases c : g = i
    · rw [← c]; exact h2
    · rw [decide_eq_false c, Bool.or_false] at hi
      exact h1 i hi
theorem or_zero_c {x : Nat} {p : Prop} {y : Nat} (h : ¬ p) : x ||| ci p y 0 = x := by rw [ci_f h, Nat.or_zero]
theorem sT_loc (E : Nat) : ∀ (g : Nat) (Φ : Nat → Nat), sT (fun s => Φ (exL E g s)) (2 ^ popK E g) = sT (fun t => ci (nsub t E = 0) (Φ t) 0) (2 ^ g)
  | 0, Φ => by
    show 0 + Φ 0 = 0 + ci (nsub 0 E = 0) (Φ 0) 0
    rw [ci_t (sub_0.mpr (fun i hi => by rw [Nat.zero_testBit] at hi; cases hi))]
  | g + 1, Φ => by
    by_cases c : E.testBit g = true
    · rw [popK_t c, sT_pow, sT_pow, ← sT_loc E g Φ]
      congr 1
      · refine sT_c _ (fun s hs => ?_)
        try dsimp only
        rw [exL, or_zero_c (fun z => by rw [tb_up hs] at z; cases z.2)]
      · have h2 := sT_loc E g (fun t => Φ (t ||| 2 ^ g))
        rw [show sT (fun t => (fun t => ci (nsub t E = 0) (Φ t) 0) (t ||| 2 ^ g)) (2 ^ g) = sT (fun t => ci (nsub t E = 0) (Φ (t ||| 2 ^ g)) 0) (2 ^ g) from sT_c _ (fun t ht => by
          try dsimp only
          by_cases d : nsub t E = 0
          · rw [ci_t d, ci_t (sub_oE.mpr ⟨d, c⟩)]
          · rw [ci_f d, ci_f (fun z => d (sub_oE.mp z).1)]), ← h2]
        refine sT_c _ (fun s hs => ?_)
        try dsimp only
        have hb : (s ||| 2 ^ popK E g).testBit (popK E g) = true := by rw [Nat.testBit_or, tb_pow]; simp
        rw [exL, ci_t ⟨c, hb⟩, exL_c g (t := s) (fun i hi => by
          have : ¬ popK E g = i := by omega
          rw [Nat.testBit_or, tb_pow, decide_eq_false this, Bool.or_false])]
    · rw [popK_n c, sT_pow, ← sT_loc E g Φ, sT_z (f := fun t => (fun t => ci (nsub t E = 0) (Φ t) 0) (t ||| 2 ^ g)) _ (fun t _ => by
        try dsimp only
        rw [ci_f (fun z => c (sub_oE.mp z).2)]), Nat.add_zero]
      refine sT_c _ (fun s _ => ?_)
      try dsimp only
      rw [exL, or_zero_c (fun z => c z.1)]
theorem fld_loc {β : Type} {E : Nat} (h : Nat → Bool → β → β) (b0 : β) (s : Nat) : ∀ g, fld (fun i b => h (whE E g i) (s.testBit i) b) b0 (popK E g) = fld (fun e b => ci (E.testBit e = true) (h e ((exL E g s).testBit e) b) b) b0 g
  | 0 => rfl
  | g + 1 => by
    have hlo : ∀ e, e < g → (exL E (g + 1) s).testBit e = (exL E g s).testBit e := fun e he => by rw [exL_tb (g + 1) e (by omega), exL_tb g e he]
    rw [fld, fld_c (g' := fun e b => ci (E.testBit e = true) (h e ((exL E g s).testBit e) b) b) g (fun e he b => by rw [hlo e he]), ← fld_loc h b0 s g]
    by_cases c : E.testBit g = true
    · rw [popK_t c, fld, ci_t c, exL_tb (g + 1) g (by omega), c, Bool.true_and, whE, ci_t ⟨c, rfl⟩]
      congr 1
      refine fld_c _ (fun i hi b => ?_)
      rw [whE, ci_f (fun z => by omega)]
    · rw [popK_n c, ci_f c]
      refine fld_c _ (fun i hi b => ?_)
      rw [whE, ci_f (fun z => c z.1)]
theorem fld_sum {a : Nat → Nat} {E t : Nat} (ht : ∀ e, t.testBit e = true → E.testBit e = true) : ∀ n, fld (fun e (b : Nat) => ci (E.testBit e = true) (if t.testBit e = true then b + a e else b) b) 0 n = sumN a t n
  | 0 => rfl
  | n + 1 => by
    rw [fld, fld_sum ht n, sumN]
    by_cases c : t.testBit n = true
    · rw [ci_t (ht n c), if_pos c, if_pos c]
    · rw [if_neg c, if_neg c, Nat.add_zero]
      by_cases d : E.testBit n = true
      · rw [ci_t d]
      · rw [ci_f d]
/-- by how many ways of ten these live and the others do not -/
noncomputable def wyN (E : Nat) (T : Nat → Nat) (t : Nat) (n : Nat) : Nat := fld (fun e (b : Nat) => ci (E.testBit e = true) (b * (if t.testBit e = true then T e else 10 - T e)) b) 1 n
theorem wy_s (E : Nat) (T : Nat → Nat) (t n : Nat) : wyN E T t (n + 1) = ci (E.testBit n = true) (wyN E T t n * (if t.testBit n = true then T n else 10 - T n)) (wyN E T t n) := rfl
theorem wy_c {E : Nat} {T : Nat → Nat} {t u n : Nat} (h : ∀ i, i < n → t.testBit i = u.testBit i) : wyN E T t n = wyN E T u n := by
  unfold wyN
  refine fld_c n (fun i hi b => ?_)
  rw [h i hi]
theorem wy_all {E : Nat} {T : Nat → Nat} (hT : ∀ e, T e ≤ 10) : ∀ g, sT (fun t => ci (nsub t E = 0) (wyN E T t g) 0) (2 ^ g) = 10 ^ popK E g
  | 0 => by
    show 0 + ci (nsub 0 E = 0) 1 0 = 1
    rw [ci_t (sub_0.mpr (fun i hi => by rw [Nat.zero_testBit] at hi; cases hi))]
  | g + 1 => by
    have ih := wy_all (E := E) hT g
    by_cases c : E.testBit g = true
    · rw [popK_t c, sT_pow, Nat.pow_succ, ← ih]
      have e1 : sT (fun t => ci (nsub t E = 0) (wyN E T t (g + 1)) 0) (2 ^ g) = sT (fun t => ci (nsub t E = 0) (wyN E T t g) 0) (2 ^ g) * (10 - T g) := by
        rw [← sT_mul]
        refine sT_c _ (fun t ht => ?_)
        try dsimp only
        rw [wy_s, ci_t c, if_neg (show ¬ t.testBit g = true by rw [tb_up ht]; simp)]
        by_cases d : nsub t E = 0
        · rw [ci_t d, ci_t d]
        · rw [ci_f d, ci_f d, Nat.zero_mul]
      have e2 : sT (fun t => (fun t => ci (nsub t E = 0) (wyN E T t (g + 1)) 0) (t ||| 2 ^ g)) (2 ^ g) = sT (fun t => ci (nsub t E = 0) (wyN E T t g) 0) (2 ^ g) * T g := by
        rw [← sT_mul]
        refine sT_c _ (fun t ht => ?_)
        try dsimp only
        have hb : (t ||| 2 ^ g).testBit g = true := by rw [Nat.testBit_or, tb_pow]; simp
        rw [wy_s, ci_t c, if_pos hb, wy_c (t := t ||| 2 ^ g) (u := t) (fun i hi => by
          have : ¬ g = i := by omega
          rw [Nat.testBit_or, tb_pow, decide_eq_false this, Bool.or_false])]
        by_cases d : nsub t E = 0
        · rw [ci_t d, ci_t (sub_oE.mpr ⟨d, c⟩)]
        · rw [ci_f d, ci_f (fun z => d (sub_oE.mp z).1), Nat.zero_mul]
      rw [e1, e2, ← Nat.mul_add]
      have := hT g
      congr 1
      omega
    · rw [popK_n c, sT_pow, ← ih, sT_z (f := fun t => (fun t => ci (nsub t E = 0) (wyN E T t (g + 1)) 0) (t ||| 2 ^ g)) _ (fun t _ => by
        try dsimp only
        rw [ci_f (fun z => c (sub_oE.mp z).2)]), Nat.add_zero]
      refine sT_c _ (fun t _ => ?_)
      try dsimp only
      rw [wy_s, ci_f c]
def fac : Nat → Nat
  | 0 => 1
  | n + 1 => fac n * (n + 1)
theorem fac_b : ∀ n, n ≤ 10 → 0 < fac n ∧ fac n ≤ 3628800 := by decide
theorem popK_sum {s : Nat} : ∀ n, popK s n = sumN (fun _ => 1) s n
  | 0 => rfl
  | n + 1 => by
    rw [popK_s, sumN, popK_sum n]
    cases s.testBit n <;> rfl
theorem strA_s {A : Nat → Int32} {F W : Nat} (h : VW A F W) {s : Nat} (hs : s < 2 ^ 31) : ∀ n, n ≤ 10 → strA A (nI s) (-1) n = nI (sumN (stN A) s n)
  | 0, _ => rfl
  | n + 1, hn => by
    rw [strA, sumN, strA_s h hs n (by omega), (h.fk (show n < 10 by omega)).2.1.1]
    simp only [bit1 hs (show n < 32 by omega)]
    by_cases c : s.testBit n = true
    · rw [if_pos ⟨c, nI_m1 (by omega)⟩, if_pos c, nI_add]
    · rw [if_neg (fun z => c z.1), if_neg c, Nat.add_zero, Int32.add_zero]
