/-! ===== elders, apart ===== -/
theorem tb_hi {s p q : Nat} (hs : s < 2 ^ p) (h : p ≤ q) : s.testBit q = false := Nat.testBit_lt_two_pow (Nat.lt_of_lt_of_le hs (Nat.pow_le_pow_right (by decide) h))
theorem tb_lt {s p q : Nat} (hs : s < 2 ^ p) (h : s.testBit q = true) : q < p := by
  rcases Nat.lt_or_ge q p with c | c
  · exact c
  · rw [tb_hi hs c] at h
    cases h
theorem or_lt {a b n : Nat} (ha : a < 2 ^ n) (hb : b < 2 ^ n) : a ||| b < 2 ^ n := Nat.or_lt_two_pow ha hb
theorem and0 {a b : Nat} : a &&& b = 0 ↔ ∀ i, a.testBit i = true → ¬ b.testBit i = true := by
  constructor
  · intro h i h1 h2
    have := congrArg (fun x => x.testBit i) h
    simp [Nat.testBit_and, h1, h2] at this
  · intro h
    apply Nat.eq_of_testBit_eq
    intro i
    rw [Nat.testBit_and, Nat.zero_testBit]
    by_cases c : a.testBit i = true
    · have := h i c
      simp [this]
    · simp [c]
theorem tb_pow (k i : Nat) : (2 ^ k).testBit i = decide (k = i) := Nat.testBit_two_pow
/-- who comes down to c: the parents, and on from the greatest number down -/
def eldG (A : Nat → Int32) (c i b : Nat) : Nat := if b.testBit (c - 1 - i) = true then b ||| paN A (c - 1 - i) else b
def eldN (A : Nat → Int32) (c : Nat) : Nat := fld (eldG A c) (paN A c) c
section ELD
variable {A : Nat → Int32} {F W : Nat}
theorem pa_tb (h : VW A F W) {p q : Nat} (hp : p < 10) (hq : (paN A p).testBit q = true) : q < p := tb_lt (h.fk hp).2.2.1.2 hq
theorem eldN_P (h : VW A F W) {c : Nat} (hc : c < 10) : ∀ n, n ≤ c → fld (eldG A c) (paN A c) n < 2 ^ c ∧ (∀ x, (paN A c).testBit x = true → (fld (eldG A c) (paN A c) n).testBit x = true) ∧ (∀ T : Nat → Prop, (∀ x, (paN A c).testBit x = true → T x) → (∀ p x, T p → (paN A p).testBit x = true → T x) → ∀ x, (fld (eldG A c) (paN A c) n).testBit x = true → T x) ∧ ∀ p, c - n ≤ p → (fld (eldG A c) (paN A c) n).testBit p = true → ∀ x, (paN A p).testBit x = true → (fld (eldG A c) (paN A c) n).testBit x = true
  | 0, _ => by
    refine ⟨(h.fk hc).2.2.1.2, fun x hx => hx, fun T h1 h2 => h1, fun p hp hq => ?_⟩
    have := pa_tb h hc hq
    omega
  | n + 1, hn => by
    obtain ⟨i1, i2, i3, i4⟩ := eldN_P h hc n (by omega)
    rw [fld]
    generalize fld (eldG A c) (paN A c) n = b at *
    unfold eldG
    by_cases q : b.testBit (c - 1 - n) = true
    · rw [if_pos q]
      have hp2 : paN A (c - 1 - n) < 2 ^ c := Nat.lt_of_lt_of_le (h.fk (show c - 1 - n < 10 by omega)).2.2.1.2 (Nat.pow_le_pow_right (by decide) (by omega))
      refine ⟨or_lt i1 hp2, fun x hx => ?_, fun T h1 h2 x hx => ?_, fun p hp hq x hx => ?_⟩
      · rw [Nat.testBit_or, i2 x hx]; rfl
      · rw [Nat.testBit_or, Bool.or_eq_true] at hx
        rcases hx with hx | hx
        · exact i3 T h1 h2 x hx
        · exact h2 _ x (i3 T h1 h2 _ q) hx
      · rw [Nat.testBit_or, Bool.or_eq_true] at hq ⊢
        rcases hq with hq | hq
        · rcases (show p = c - 1 - n ∨ c - n ≤ p by omega) with e | e
          · rw [e] at hx
            exact Or.inr hx
          · exact Or.inl (i4 p e hq x hx)
        · have := pa_tb h (show c - 1 - n < 10 by omega) hq
          omega
    · rw [if_neg q]
      refine ⟨i1, i2, i3, fun p hp hq x hx => ?_⟩
      rcases (show p = c - 1 - n ∨ c - n ≤ p by omega) with e | e
      · rw [e] at hq
        exact absurd hq q
      · exact i4 p e hq x hx
/-- what the elders are: the least that holds the parents and theirs -/
theorem eld_1 (h : VW A F W) {c : Nat} (hc : c < 10) : eldN A c < 2 ^ c := (eldN_P h hc c (Nat.le_refl _)).1
theorem eld_2 (h : VW A F W) {c : Nat} (hc : c < 10) {x : Nat} (hx : (paN A c).testBit x = true) : (eldN A c).testBit x = true := (eldN_P h hc c (Nat.le_refl _)).2.1 x hx
theorem eld_3 (h : VW A F W) {c : Nat} (hc : c < 10) (T : Nat → Prop) (h1 : ∀ x, (paN A c).testBit x = true → T x) (h2 : ∀ p x, T p → (paN A p).testBit x = true → T x) {x : Nat} (hx : (eldN A c).testBit x = true) : T x := (eldN_P h hc c (Nat.le_refl _)).2.2.1 T h1 h2 x hx
theorem eld_4 (h : VW A F W) {c : Nat} (hc : c < 10) {p x : Nat} (hp : (eldN A c).testBit p = true) (hx : (paN A p).testBit x = true) : (eldN A c).testBit x = true := (eldN_P h hc c (Nat.le_refl _)).2.2.2 p (by omega) hp x hx
theorem eld_iff (h : VW A F W) {c f : Nat} (hc : c < 10) : (eldN A c).testBit f = true ↔ (paN A c).testBit f = true ∨ ∃ y, (paN A c).testBit y = true ∧ (eldN A y).testBit f = true := by
  constructor
  · intro hx
    refine eld_3 h hc (fun f => (paN A c).testBit f = true ∨ ∃ y, (paN A c).testBit y = true ∧ (eldN A y).testBit f = true) (fun x hx => Or.inl hx) (fun p x hp hx => ?_) hx
    rcases hp with hp | ⟨y, hy, hp⟩
    · have := pa_tb h hc hp
      exact Or.inr ⟨p, hp, eld_2 h (by omega) hx⟩
    · have := pa_tb h hc hy
      exact Or.inr ⟨y, hy, eld_4 h (by omega) hp hx⟩
  · rintro (hx | ⟨y, hy, hx⟩)
    · exact eld_2 h hc hx
    · have := pa_tb h hc hy
      exact eld_3 h (by omega) (fun f => (eldN A c).testBit f = true) (fun x hx => eld_4 h hc (eld_2 h hc hy) hx) (fun p x hp hx => eld_4 h hc hp hx) hx
/-- who comes from f -/
def yoM (A : Nat → Int32) (f c s : Nat) : Nat := if (eldN A c).testBit f = true then s ||| 2 ^ c else s
def yoX (A : Nat → Int32) (f c s : Nat) : Nat := if paN A c &&& (s ||| 2 ^ f) = 0 then s else s ||| 2 ^ c
theorem yo_eq (h : VW A F W) {f : Nat} : ∀ n, n ≤ 10 → fld (yoX A f) 0 n = fld (yoM A f) 0 n ∧ ∀ y, (fld (yoM A f) 0 n).testBit y = true ↔ y < n ∧ (eldN A y).testBit f = true
  | 0, _ => by
    refine ⟨rfl, fun y => ?_⟩
    simp [fld]
  | n + 1, hn => by
    obtain ⟨e, hy⟩ := yo_eq h (f := f) n (by omega)
    rw [fld, fld, e]
    generalize fld (yoM A f) 0 n = s at *
    unfold yoX yoM
    have key : paN A n &&& (s ||| 2 ^ f) = 0 ↔ ¬ (eldN A n).testBit f = true := by
      rw [and0, eld_iff h (by omega)]
      constructor
      · rintro q (q1 | ⟨y, q1, q2⟩)
        · exact q f q1 (by rw [Nat.testBit_or, tb_pow]; simp)
        · have := pa_tb h (by omega) q1
          exact q y q1 (by rw [Nat.testBit_or, (hy y).mpr ⟨by omega, q2⟩]; rfl)
      · intro q i q1 q2
        rw [Nat.testBit_or, Bool.or_eq_true, tb_pow] at q2
        rcases q2 with q2 | q2
        · exact q (Or.inr ⟨i, q1, ((hy i).mp q2).2⟩)
        · have : f = i := by simpa using q2
          subst this
          exact q (Or.inl q1)
    by_cases c : (eldN A n).testBit f = true
    · rw [if_neg (fun q => key.mp q c), if_pos c]
      refine ⟨rfl, fun y => ?_⟩
      rw [Nat.testBit_or, Bool.or_eq_true, hy, tb_pow, decide_eq_true_eq]
      constructor
      · rintro (⟨q1, q2⟩ | rfl)
        · exact ⟨by omega, q2⟩
        · exact ⟨by omega, c⟩
      · rintro ⟨q1, q2⟩
        rcases (show y < n ∨ n = y by omega) with q | q
        · exact Or.inl ⟨q, q2⟩
        · exact Or.inr q
    · rw [if_pos (key.mpr c), if_neg c]
      refine ⟨rfl, fun y => ?_⟩
      rw [hy]
      constructor
      · rintro ⟨q1, q2⟩
        exact ⟨by omega, q2⟩
      · rintro ⟨q1, q2⟩
        rcases (show y < n ∨ y = n by omega) with q | q
        · exact ⟨q, q2⟩
        · rw [q] at q2
          exact absurd q2 c
end ELD
theorem nI_dn {f i : Nat} (hi : i < f) : nI (f - i) - 1 = nI (f - 1 - i) := by
  rw [show f - i = (f - 1 - i) + 1 by omega, nI_pred]
theorem nI_dn2 {f i : Nat} (hi : i < f) : nI (f - 1 - i) + (-1) = nI (f - (i + 1)) - 1 := by
  rw [← Int32.sub_eq_add_neg, show f - (i + 1) = f - 1 - i by omega]
section ELX
variable {σ : Dt} {v o F W : Nat} {A : Nat → Int32}
theorem x_elders (h : CV σ v A F W) {f : Nat} (hf : f < F) : f_X3_eldersOf 203 (some v) (nI f) σ = some (nI (eldN A f)) := by
  have hF := h.F10
  unfold f_X3_eldersOf
  simp only [ite_none, crc h.1, bo_s, c_hasFolkB h, ite_b, ci_t (show inR (nI f) F from ⟨f, hf, rfl⟩), xpars h, xpa h (show f < 10 by omega)]
  have key := iter_fld (f := fun q : Int32 × Int32 => f_X3_eldersOf_L26 (some v) q.1 q.2 σ) (st := fun i b => (nI b, nI (f - i) - 1)) (g := eldG A f) (P := fun i b => b < 1024) (b0 := paN A f) (x := fun b => nI b) f (by omega) (h.vw.pa10 (by omega)) (fun i b hi hb => ?_) (fun b hb => ?_)
  · rw [show nI f - 1 = nI (f - 0) - 1 from rfl, key.1, bo_s]
    rfl
  · have hp := h.vw.pa10 (show f - 1 - i < 10 by omega)
    dsimp only
    unfold f_X3_eldersOf_L26 f_X3_eldersOf_50 eldG
    rw [nI_dn hi, if_neg (nI_pos (by omega))]
    simp only [bit0 (show b < 2 ^ 31 by omega) (show f - 1 - i < 32 by omega), xpars h, bo_s, xpa h (show f - 1 - i < 10 by omega), nI_or, nI_dn2 hi]
    by_cases c : b.testBit (f - 1 - i) = true
    · rw [if_neg (fun q => q c), if_pos c]
      exact ⟨rfl, or_lt (n := 10) hb hp⟩
    · rw [if_pos c, if_neg c]
      exact ⟨rfl, hb⟩
  · dsimp only
    unfold f_X3_eldersOf_L26
    rw [Nat.sub_self, if_pos (by decide)]
theorem m_elders (h : MV σ o A F W) {f : Nat} (hf : f < 10) : f_X12_eldersOf 0 (nI f) σ = some (nI (eldN A f)) := by
  unfold f_X12_eldersOf
  simp only [mrc, bo_s, mpa h hf]
  have key := iter_fld (f := fun q : Int32 × Int32 => f_X12_eldersOf_L10 0 q.1 q.2 σ) (st := fun i b => (nI b, nI (f - i) - 1)) (g := eldG A f) (P := fun i b => b < 1024) (b0 := paN A f) (x := fun b => nI b) f (by omega) (h.vw.pa10 (by omega)) (fun i b hi hb => ?_) (fun b hb => ?_)
  · rw [show nI f - 1 = nI (f - 0) - 1 from rfl, key.1, bo_s]
    rfl
  · have hp := h.vw.pa10 (show f - 1 - i < 10 by omega)
    dsimp only
    unfold f_X12_eldersOf_L10 f_X12_eldersOf_32 eldG
    rw [nI_dn hi, if_neg (nI_pos (by omega))]
    simp only [mamong (show b < 2 ^ 31 by omega) (show f - 1 - i < 32 by omega), ite_b, mrc, bo_s, mpa h (show f - 1 - i < 10 by omega), nI_or, nI_dn2 hi]
    by_cases c : b.testBit (f - 1 - i) = true
    · rw [ci_t c, if_pos c]
      exact ⟨rfl, or_lt (n := 10) hb hp⟩
    · rw [ci_f c, if_neg c, i0, nI_or, Nat.or_zero]
      exact ⟨rfl, hb⟩
  · dsimp only
    unfold f_X12_eldersOf_L10
    rw [Nat.sub_self, if_pos (by decide)]
end ELX
theorem x_kin {σ : Dt} (hR : RefX σ) : xgr SX 11 8 (some 0) σ = some (some 203) := x_00 hR 8 (by decide)
theorem x_rck : xrc SX 3 (some 203) = some 203 := xrc_of (by decide) (by decide)
section YOU
variable {σ : Dt} {v o F W : Nat} {A : Nat → Int32}
theorem x_young (h : CV σ v A F W) {f : Nat} (hf : f < F) : f_X3_youngOf 203 (some v) (nI f) σ = some (nI (fld (yoX A f) 0 F)) := by
  have hF := h.F10
  unfold f_X3_youngOf
  simp only [ite_none, crc h.1, bo_s, c_hasFolkB h, ite_b, ci_t (show inR (nI f) F from ⟨f, hf, rfl⟩)]
  have key := iter_fld (f := fun q : Int32 × Int32 => f_X3_youngOf_L19 (some v) (nI f) q.1 q.2 σ) (st := fun i b => (nI b, nI i)) (g := yoX A f) (P := fun i b => b < 1024) (b0 := 0) (x := fun b => nI b) F (by omega) (by decide) (fun i b hi hb => ?_) (fun b hb => ?_)
  · rw [show ((0 : Int32), (0 : Int32)) = (nI 0, nI 0) from rfl, key.1, bo_s]
  · have hp := h.vw.pa10 (show i < 10 by omega)
    dsimp only
    unfold f_X3_youngOf_L19 f_X3_youngOf_58 yoX
    simp only [xfolk h, bo_s, xpars h, xpa h (show i < 10 by omega), shl1 (show f < 31 by omega), shl1 (show i < 31 by omega), nI_or, nI_and, nI_1, show (10 : Int32) = nI 10 from rfl, show (0 : Int32) = nI 0 from rfl]
    rw [ite_le_f (by omega) hi, ite_le_f (by decide) (by omega)]
    have hl : paN A i &&& (b ||| 2 ^ f) < 2 ^ 31 := Nat.lt_of_le_of_lt Nat.and_le_left (by omega)
    by_cases c : paN A i &&& (b ||| 2 ^ f) = 0
    · rw [ite_eq_t c, if_pos c]
      exact ⟨rfl, hb⟩
    · rw [ite_eq_f hl (by decide) c, if_neg c]
      exact ⟨rfl, or_lt (n := 10) hb (Nat.pow_lt_pow_right (by decide) (by omega))⟩
  · dsimp only
    unfold f_X3_youngOf_L19
    rw [xfolk h, bo_s, if_pos (nI_le (Nat.le_refl _) (by omega))]
theorem m_young (h : MV σ o A F W) {f : Nat} (hf : f < F) : iter FU (fun s => f_X12_elders_L34 0 (nI f) s.1 s.2 σ) ((0 : Int32), (0 : Int32)) = some (nI (fld (yoM A f) 0 F)) := by
  have hF := h.F10
  refine (iter_fld (f := fun q : Int32 × Int32 => f_X12_elders_L34 0 (nI f) q.1 q.2 σ) (st := fun i b => (nI b, nI i)) (g := yoM A f) (P := fun i b => b < 1024) (b0 := 0) (x := fun b => nI b) F (by omega) (by decide) (fun i b hi hb => ?_) (fun b hb => ?_)).1
  · have he := eld_1 h.vw (show i < 10 by omega)
    have := two_pow_lt (show i < 10 by omega)
    dsimp only
    unfold f_X12_elders_L34 f_X12_elders_66 yoM
    simp only [mfolk h, bo_s, mrc, m_elders h (show i < 10 by omega), mamong (show eldN A i < 2 ^ 31 by omega) (show f < 32 by omega), ite_b, shl1 (show i < 31 by omega), nI_or, nI_1]
    rw [ite_le_f (by omega) hi]
    by_cases c : (eldN A i).testBit f = true
    · rw [ci_t c, if_pos c]
      exact ⟨rfl, or_lt (n := 10) hb (Nat.pow_lt_pow_right (by decide) (by omega))⟩
    · rw [ci_f c, if_neg c, i0, nI_or, Nat.or_zero]
      exact ⟨rfl, hb⟩
  · dsimp only
    unfold f_X12_elders_L34
    rw [mfolk h, bo_s, if_pos (nI_le (Nat.le_refl _) (by omega))]
end YOU
theorem ok_elders : LK_elders Inv := by
  intro σx σm z1 z2 z3 hI hz3
  unfold f_X11_elders f_X12_elders
  simp only [x_now hI.1, bo_s, x_rc1, mrc]
  rcases ask_V hI z1 with ⟨k, A, F, W, hk, hz, hC, e1, e2, hM, hI2⟩ | ⟨e1, e2⟩
  · have hF := hC.F10
    simp only [e1, bo_s, e2, bd_s, crc hC.1, ite_none, ite_10, c_hasFolkB hC, m_isFolkB hM, ite_b, x_kin hI.1, x_rck]
    by_cases c : inR z2 F
    · simp only [ci_t c]
      obtain ⟨f, hf, rfl⟩ := c
      simp only [x_elders hC hf, m_elders hM (show f < 10 by omega), x_young hC hf, m_young hM hf, bo_s]
      rw [(yo_eq hM.vw F hF).1]
      rcases hz3 with rfl | rfl
      · exact ⟨_, _, rfl, rfl, hI2⟩
      · exact ⟨_, _, rfl, rfl, hI2⟩
    · simp only [ci_f c]
      exact ⟨-1, _, rfl, rfl, hI2⟩
  · simp only [e1, bo_s, e2, bd_s]
    exact ⟨-1, _, rfl, rfl, hI⟩
