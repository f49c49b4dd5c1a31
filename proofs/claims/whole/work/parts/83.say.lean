/-! ===== say ===== -/
noncomputable def lst (p : Nat → Prop) : Nat → Nat
  | 0 => 0
  | n + 1 => ci (p 0) 0 (1 + lst (fun k => p (k + 1)) n)
theorem lst_P : ∀ (n : Nat) (p : Nat → Prop), (∃ k, k < n ∧ p k) → lst p n < n ∧ p (lst p n) ∧ ∀ j, j < lst p n → ¬ p j
  | 0, p, ⟨k, hk, _⟩ => absurd hk (Nat.not_lt_zero k)
  | n + 1, p, ⟨k, hk, q⟩ => by
    rw [lst]
    by_cases c : p 0
    · rw [ci_t c]
      exact ⟨by omega, c, fun j hj => absurd hj (Nat.not_lt_zero j)⟩
    · rw [ci_f c]
      have hk0 : k ≠ 0 := fun e => c (e ▸ q)
      obtain ⟨h1, h2, h3⟩ := lst_P n (fun k => p (k + 1)) ⟨k - 1, by omega, by rw [show k - 1 + 1 = k by omega]; exact q⟩
      refine ⟨by omega, by rw [Nat.add_comm]; exact h2, fun j hj => ?_⟩
      rcases Nat.eq_zero_or_pos j with rfl | hp
      · exact c
      · have := h3 (j - 1) (by omega)
        rw [show j - 1 + 1 = j by omega] at this
        exact this
theorem lst_eq {n : Nat} {p : Nat → Prop} {f : Nat} (hf : f < n) (h : p f) (hl : ∀ j, j < f → ¬ p j) : lst p n = f := by
  obtain ⟨h1, h2, h3⟩ := lst_P n p ⟨f, hf, h⟩
  rcases Nat.lt_trichotomy (lst p n) f with e | e | e
  · exact absurd h2 (hl _ e)
  · exact e
  · exact absurd h (h3 f e)
theorem cnt_lt {p q : Nat → Bool} : ∀ n, (∀ i, i < n → q i = true → p i = true) → (∃ i, i < n ∧ p i = true ∧ ¬ q i = true) → cnt q n + 1 ≤ cnt p n
  | 0, _, ⟨i, hi, _⟩ => absurd hi (Nat.not_lt_zero i)
  | n + 1, h, ⟨i, hi, h1, h2⟩ => by
    have mono : ∀ m, m ≤ n → cnt q m ≤ cnt p m := by
      intro m
      induction m with
      | zero => exact fun _ => Nat.le_refl _
      | succ m ih =>
        intro hm
        have := ih (by omega)
        have h3 := h m (by omega)
        rw [cnt, cnt]
        cases e1 : q m
        · cases p m <;> simp <;> omega
        · rw [h3 e1]; simp; omega
    rw [cnt, cnt]
    rcases (show i = n ∨ i < n by omega) with e | e
    · subst e
      have := mono i (Nat.le_refl _)
      rw [h1]
      cases e1 : q i
      · simp; omega
      · exact absurd e1 h2
    · have := cnt_lt (p := p) (q := q) n (fun j hj => h j (by omega)) ⟨i, e, h1, h2⟩
      have h3 := h n (by omega)
      cases e1 : q n
      · cases p n <;> simp <;> omega
      · rw [h3 e1]; simp; omega
def cu (met a F : Nat) : Nat := cnt (fun f => decide (a ≤ f) && !met.testBit f) F
theorem cu_nx {met a f F : Nat} (ha : a ≤ f) (hf : f < F) (hm : ¬ met.testBit f = true) : cu met (f + 1) F + 1 ≤ cu met a F := cnt_lt F (fun i _ h => by
  simp only [Bool.and_eq_true, decide_eq_true_eq] at h ⊢
  exact ⟨by omega, h.2⟩) ⟨f, hf, by simp only [Bool.and_eq_true, decide_eq_true_eq]; exact ⟨ha, by simpa using hm⟩, by simp only [Bool.and_eq_true, decide_eq_true_eq]; omega⟩
theorem cu_in {met f F : Nat} (hf : f < F) (hm : ¬ met.testBit f = true) : cu (met ||| 2 ^ f) 0 F + 1 ≤ cu met 0 F := cnt_lt F (fun i _ h => by
  simp only [Bool.and_eq_true, decide_eq_true_eq, Bool.not_eq_true'] at h ⊢
  refine ⟨Nat.zero_le _, ?_⟩
  have h2 := h.2
  rw [Nat.testBit_or] at h2
  simp at h2
  exact h2.1) ⟨f, hf, by simp only [Bool.and_eq_true, decide_eq_true_eq]; exact ⟨Nat.zero_le _, by simpa using hm⟩, by
  simp only [Bool.and_eq_true, decide_eq_true_eq, Bool.not_eq_true']
  rintro ⟨-, z⟩
  rw [Nat.testBit_or, tb_pow] at z
  simp at z⟩
/-- of a set those from the k-th on -/
def sfx (s k : Nat) : Nat := fld (fun i x => x ||| (if s.testBit i = true ∧ k ≤ popK s i then 2 ^ i else 0)) 0 6
theorem sfx_a : ∀ s, s < 64 → sfx s 0 = s ∧ sfx s (popc s) = 0 ∧ popc s ≤ 6 := by decide +kernel
theorem sfx_b : ∀ s, s < 64 → ∀ k, k < 6 → k < popc s → nthB s 12 k < 6 ∧ s.testBit (nthB s 12 k) = true ∧ popK s (nthB s 12 k) = k := by decide +kernel
theorem sfx_c : ∀ s, s < 64 → ∀ k, k < 6 → k < popc s → sfx s k = 2 ^ nthB s 12 k ||| sfx s (k + 1) ∧ (sfx s (k + 1)).testBit (nthB s 12 k) = false := by decide +kernel
theorem sfx_d : ∀ s, s < 64 → ∀ k, k < 6 → k < popc s → sfx s (k + 1) < 64 ∧ nsub (sfx s k) (2 ^ nthB s 12 k) = sfx s (k + 1) := by decide +kernel
theorem sfx_f (s : Nat) (hs : s < 64) : sfx s 0 = s ∧ sfx s (popc s) = 0 ∧ popc s ≤ 6 ∧ ∀ k, k < 6 → k < popc s → nthB s 12 k < 6 ∧ s.testBit (nthB s 12 k) = true ∧ popK s (nthB s 12 k) = k ∧ sfx s k = 2 ^ nthB s 12 k ||| sfx s (k + 1) ∧ ¬ (sfx s (k + 1)).testBit (nthB s 12 k) = true ∧ sfx s (k + 1) < 64 ∧ nsub (sfx s k) (2 ^ nthB s 12 k) = sfx s (k + 1) := by
  obtain ⟨a1, a2, a3⟩ := sfx_a s hs
  refine ⟨a1, a2, a3, fun k h1 h2 => ?_⟩
  obtain ⟨b1, b2, b3⟩ := sfx_b s hs k h1 h2
  obtain ⟨c1, c2⟩ := sfx_c s hs k h1 h2
  obtain ⟨d1, d2⟩ := sfx_d s hs k h1 h2
  exact ⟨b1, b2, b3, c1, by rw [c2]; simp, d1, d2⟩
theorem nth_f : ∀ s, s < 64 → ∀ k, k < 6 → k < popc s → f_X12_nth (nI s) (nI k) σX0 = some (nI (nthB s 12 k)) := by decide +kernel
theorem popK_f : ∀ s, s < 64 → ∀ w, w < 6 → s.testBit w = true → nthB s 12 (popK s w) = w ∧ popK s w < popc s ∧ popK s w < 6 := by decide +kernel
theorem popK_s (s n : Nat) : popK s (n + 1) = popK s n + (s.testBit n).toNat := rfl
def TT : Nat → Nat → Nat
  | 0, _ => 0
  | d + 1, r => if d = 0 then 1 else r * (1 + TT d (r - 1)) + 1
section SAY
variable {K : Nat → Nat} {s : Nat}
def Gd (K : Nat → Nat) (s k met f : Nat) : Prop := (K (nthB s 12 k)).testBit f = true ∧ ¬ met.testBit f = true ∧ Mt K (sfx s (k + 1)) (nsub 1023 (met ||| 2 ^ f))
noncomputable def cc (K : Nat → Nat) (s k met : Nat) : Nat := lst (Gd K s k met) 10
noncomputable def gc (K : Nat → Nat) (s : Nat) : Nat → Nat → Nat → Nat → Nat
  | 0, _, _, _ => 0
  | d + 1, k, met, j => if j = k then cc K s k met else gc K s d (k + 1) (met ||| 2 ^ cc K s k met) j
theorem sub_or {met f : Nat} : nsub (nsub 1023 met) (2 ^ f) = nsub 1023 (met ||| 2 ^ f) := by
  apply Nat.eq_of_testBit_eq
  intro i
  rw [tb_nsub, tb_nsub, tb_nsub, Nat.testBit_or]
  cases (1023 : Nat).testBit i <;> cases met.testBit i <;> cases (2 ^ f).testBit i <;> rfl
theorem tb1023 {i : Nat} (h : i < 10) : (1023 : Nat).testBit i = true := (show ∀ i, i < 10 → (1023 : Nat).testBit i = true by decide) i h
/-- from the k-th on they can all be said iff one of the k-th's speakers leaves the rest sayable -/
theorem Mt_k (hK : ∀ w, w < 6 → K w < 1024) (hs : s < 64) {k met : Nat} (hk : k < popc s) : Mt K (sfx s k) (nsub 1023 met) ↔ ∃ f, f < 10 ∧ Gd K s k met f := by
  obtain ⟨-, -, h6, hf⟩ := sfx_f s hs
  obtain ⟨f1, f2, f3, f4, f5, f6, f7⟩ := hf k (by omega) hk
  rw [f4, Mt_one f1 f5]
  constructor
  · rintro ⟨f, q1, q2, q3⟩
    have := tb_lt (p := 10) (hK _ f1) q1
    exact ⟨f, this, q1, (sub_tb.mp q2).2, by rw [← sub_or]; exact q3⟩
  · rintro ⟨f, hf10, q1, q2, q3⟩
    exact ⟨f, q1, sub_tb.mpr ⟨tb1023 hf10, q2⟩, by rw [sub_or]; exact q3⟩
theorem cc_ok (hK : ∀ w, w < 6 → K w < 1024) (hs : s < 64) {k met : Nat} (hk : k < popc s) (h : Mt K (sfx s k) (nsub 1023 met)) : cc K s k met < 10 ∧ Gd K s k met (cc K s k met) ∧ ∀ j, j < cc K s k met → ¬ Gd K s k met j := lst_P 10 _ ((Mt_k hK hs hk).mp h)
end SAY
theorem m_keepsB {σ : Dt} {o F W f w : Nat} {A : Nat → Int32} (h : MV σ o A F W) (hf : f < 10) (hw : w < 6) (n : Int32) : f_X12_keeps 0 (nI f) (nI w) n σ = some (bI (kpA A F f w n)) := bI_of (m_keeps h hf hw n)
theorem mr14 {β : Type} {σ : Dt} {k : Option Nat → Option β} (hR : RefM σ) : bo (xgr SM 12 14 (some 0) σ) k = k (some 4) := bo_of (m_r hR (by decide) rfl)
theorem may4 {β : Type} {i : Nat} {σ : Dt} {k : Int32 → Option β} (hi : i < 6) : bo (xai SM (some 4) (nI i) σ) k = k (σ.1 4 i) := bo_of (xai_of (by decide) (by decide) (show i < SM.2.2 4 from hi) (by decide))
theorem msy4 {β : Type} {i : Nat} {v : Int32} {σ : Dt} {k : Dt → Option β} (hi : i < 6) : bo (xsi SM (some 4) (nI i) v σ) k = k (setX σ 4 i v) := bo_of (xsiX (by decide) (by decide) (show i < SM.2.2 4 from hi) (by decide))
section DFS
variable {σ : Dt} {o F W s : Nat} {A : Nat → Int32} {n : Int32}
/-- one turn of the search -/
theorem d_one (h : MV σ o A F W) (hs : s < 2 ^ W) {k a met metX : Nat} (hk : k < popc s) (ha : a ≤ F) (hm : met < 1024) (hst : (σ.1 4 k = -1 ∧ a = 0 ∧ metX = met) ∨ ∃ f0, f0 < F ∧ σ.1 4 k = nI f0 ∧ a = f0 + 1 ∧ metX = met ||| 2 ^ f0 ∧ ¬ met.testBit f0 = true) : ((∀ f, a ≤ f → f < F → ¬ ((kpN A F W n (nthB s 12 k)).testBit f = true ∧ ¬ met.testBit f = true)) ∧ f_X12_says_L35 0 (nI s) n (nI (popc s)) (nI k) (nI metX) σ = some (.inl (nI k - 1, nI met, setX σ 4 k (-1)))) ∨ ∃ f, a ≤ f ∧ f < F ∧ ((kpN A F W n (nthB s 12 k)).testBit f = true ∧ ¬ met.testBit f = true) ∧ (∀ g, a ≤ g → g < f → ¬ ((kpN A F W n (nthB s 12 k)).testBit g = true ∧ ¬ met.testBit g = true)) ∧ f_X12_says_L35 0 (nI s) n (nI (popc s)) (nI k) (nI metX) σ = some (.inl (nI (k + 1), nI (met ||| 2 ^ f), setX σ 4 k (nI f))) := by
  have hF := h.F10
  have hW := h.W6
  have hs64 : s < 64 := Nat.lt_of_lt_of_le hs (show 2 ^ W ≤ 2 ^ 6 from Nat.pow_le_pow_right (by decide) hW)
  obtain ⟨-, -, h6, hfx⟩ := sfx_f s hs64
  obtain ⟨w1, w2, -⟩ := hfx k (by omega) hk
  have hwW : nthB s 12 k < W := tb_lt hs w2
  have hkp : ∀ f, f < F → ((kpN A F W n (nthB s 12 k)).testBit f = true ↔ kpA A F f (nthB s 12 k) n) := fun f hf => by
    rw [kpN_tb]
    exact ⟨fun z => z.2.2, fun z => ⟨hf, hwW, z⟩⟩
  -- the walk over the candidates
  have walk := iter_w (f := fun q : Int32 => f_X12_says_L84 0 (nI s) n (nI (popc s)) (nI k) (nI met) q σ) (s0 := nI a) (P := fun i q => q = nI (a + i) ∧ ∀ f, a ≤ f → f < a + i → ¬ ((kpN A F W n (nthB s 12 k)).testBit f = true ∧ ¬ met.testBit f = true)) (Q := fun x => (x = nI F ∧ ∀ f, a ≤ f → f < F → ¬ ((kpN A F W n (nthB s 12 k)).testBit f = true ∧ ¬ met.testBit f = true)) ∨ ∃ f, a ≤ f ∧ f < F ∧ x = nI f ∧ ((kpN A F W n (nthB s 12 k)).testBit f = true ∧ ¬ met.testBit f = true) ∧ (∀ g, a ≤ g → g < f → ¬ ((kpN A F W n (nthB s 12 k)).testBit g = true ∧ ¬ met.testBit g = true))) (F - a) (by omega) ⟨rfl, fun f h1 h2 => by omega⟩ (fun i q hi hP => ?_)
  · obtain ⟨x, e1, e2⟩ := walk
    have hin : (σ.1 4 k = -1 ∧ nI a = -1 + 1 ∧ metX = met) ∨ (¬ σ.1 4 k = -1 ∧ nI a = σ.1 4 k + 1 ∧ nI metX &&& (((1 : Int32) <<< (σ.1 4 k &&& 31)) ^^^ (-1)) = nI met) := by
      rcases hst with ⟨z1, z2, z3⟩ | ⟨f0, z0, z1, z2, z3, z4⟩
      · exact Or.inl ⟨z1, by rw [z2]; rfl, z3⟩
      · refine Or.inr ⟨by rw [z1]; exact nI_m1 (by omega), by rw [z1, z2, nI_1], ?_⟩
        rw [z1, shl1 (by omega), nI_andx, z3]
        congr 1
        apply Nat.eq_of_testBit_eq
        intro i
        rw [tb_nsub, Nat.testBit_or]
        by_cases e : f0 = i
        · subst e
          rw [show ((2 : Nat) ^ f0).testBit f0 = true from pow_tb.mpr rfl]
          cases e2 : met.testBit f0
          · rfl
          · exact absurd e2 z4
        · cases e2 : (2 ^ f0).testBit i
          · simp
          · exact absurd (pow_tb.mp e2) e
    have fin : f_X12_says_73 0 (nI s) n (nI (popc s)) (nI k) (nI met) σ = f_X12_says_125 0 (nI s) n (nI (popc s)) (nI k) (nI met) x σ := by
      unfold f_X12_says_73
      rw [mr14 h.1, may4 (by omega)]
      have : σ.1 4 k + 1 = nI a := by
        rcases hin with ⟨z1, z2, -⟩ | ⟨-, z2, -⟩
        · rw [z1, z2]
        · exact z2.symm
      rw [this, bo_of e1]
    have all : f_X12_says_L35 0 (nI s) n (nI (popc s)) (nI k) (nI metX) σ = f_X12_says_125 0 (nI s) n (nI (popc s)) (nI k) (nI met) x σ := by
      unfold f_X12_says_L35
      rw [if_neg (nI_pos (by omega)), ite_le_f (by omega) hk, mr14 h.1, may4 (by omega)]
      rcases hin with ⟨z1, -, z3⟩ | ⟨z1, -, z3⟩
      · rw [if_pos z1, z3]
        exact fin
      · rw [if_neg z1, mr14 h.1, may4 (by omega), bo_s, z3]
        exact fin
    rw [all]
    unfold f_X12_says_125 f_X12_says_169
    rw [bo_of (mfolk h)]
    rcases e2 with ⟨rfl, e2⟩ | ⟨f, f1, f2, rfl, f3, f4⟩
    · left
      rw [if_pos rfl, mr14 h.1, msy4 (by omega), ← Int32.sub_eq_add_neg]
      exact ⟨e2, rfl⟩
    · right
      rw [ite_eq_f (by omega) (by omega) (by omega), mr14 h.1, msy4 (by omega), shl1 (by omega), nI_or, nI_1]
      exact ⟨f, f1, f2, f3, f4, rfl⟩
  · obtain ⟨p1, p2⟩ := hP
    subst p1
    unfold f_X12_says_L84 f_X12_says_119
    rw [bo_of (mfolk h)]
    rcases (show i = F - a ∨ i < F - a by omega) with e | e
    · left
      rw [show a + i = F by omega, if_pos (nI_le (Nat.le_refl _) (by omega))]
      exact ⟨_, rfl, Or.inl ⟨rfl, fun f h1 h2 => p2 f h1 (by omega)⟩⟩
    · rw [ite_le_f (by omega) (by omega), bo_of (mamong (by omega) (by omega) _), ite_b, bo_of (show f_X12_nth (nI s) (nI k) σ = some (nI (nthB s 12 k)) from nth_f s hs64 k (by omega) hk), bo_of mrc, bo_of (m_keepsB h (by omega) w1 n), ite_b, nI_1]
      by_cases c : met.testBit (a + i) = true
      · right
        rw [ci_t c]
        refine ⟨e, _, rfl, rfl, fun f h1 h2 z => ?_⟩
        rcases (show f = a + i ∨ f < a + i by omega) with y | y
        · rw [y] at z; exact z.2 c
        · exact p2 f h1 y z
      · rw [ci_f c]
        by_cases c2 : kpA A F (a + i) (nthB s 12 k) n
        · left
          rw [ci_t c2]
          exact ⟨_, rfl, Or.inr ⟨a + i, by omega, by omega, rfl, ⟨(hkp _ (by omega)).mpr c2, c⟩, fun g h1 h2 => p2 g h1 h2⟩⟩
        · right
          rw [ci_f c2]
          refine ⟨e, _, rfl, rfl, fun f h1 h2 z => ?_⟩
          rcases (show f = a + i ∨ f < a + i by omega) with y | y
          · rw [y] at z; exact c2 ((hkp _ (by omega)).mp z.1)
          · exact p2 f h1 y z
/-- what a search from the k-th on comes to -/
def Dn (A : Nat → Int32) (F W : Nat) (n : Int32) (s : Nat) (T d k met : Nat) (σ : Dt) (q0 : Int32 × Int32 × Dt) : Prop :=
  (Mt (kpN A F W n) (sfx s k) (nsub 1023 met) → ∃ t m' σ', t ≤ T ∧ stp (fun q : Int32 × Int32 × Dt => f_X12_says_L35 0 (nI s) n (nI (popc s)) q.1 q.2.1 q.2.2) t q0 = some (nI (popc s), m', σ') ∧ KM σ σ' ∧ (∀ j, j < k → σ'.1 4 j = σ.1 4 j) ∧ ∀ j, k ≤ j → j < popc s → σ'.1 4 j = nI (gc (kpN A F W n) s d k met j)) ∧
  (¬ Mt (kpN A F W n) (sfx s k) (nsub 1023 met) → ∃ t σ', t ≤ T ∧ stp (fun q : Int32 × Int32 × Dt => f_X12_says_L35 0 (nI s) n (nI (popc s)) q.1 q.2.1 q.2.2) t q0 = some (nI k - 1, nI met, σ') ∧ KM σ σ' ∧ (∀ j, j < k → σ'.1 4 j = σ.1 4 j) ∧ ∀ j, k ≤ j → j < 6 → σ'.1 4 j = -1)
theorem d_all (hs : s < 2 ^ W) (hW : W ≤ 6) : ∀ (d k met r : Nat) (σ : Dt), MV σ o A F W → k + d = popc s → met < 1024 → cu met 0 F ≤ r → (∀ j, k ≤ j → j < 6 → σ.1 4 j = -1) → Dn A F W n s (TT d r) d k met σ (nI k, nI met, σ)
  | 0, k, met, r, σ, h, hk, hm, hr, hf => by
    have hs64 : s < 64 := Nat.lt_of_lt_of_le hs (show 2 ^ W ≤ 2 ^ 6 from Nat.pow_le_pow_right (by decide) hW)
    obtain ⟨-, hz, -⟩ := sfx_f s hs64
    have hk2 : k = popc s := by omega
    refine ⟨fun _ => ⟨0, nI met, σ, Nat.le_refl _, by rw [hk2]; rfl, KM_0 _, fun _ _ => rfl, fun j h1 h2 => by omega⟩, fun z => absurd (Mt_0 (fun w hw y => ?_)) z⟩
    rw [hk2, hz, Nat.zero_testBit] at y
    cases y
  | d + 1, k, met, r, σ, h, hk, hm, hr, hf => by
    have hF := h.F10
    have hs64 : s < 64 := Nat.lt_of_lt_of_le hs (show 2 ^ W ≤ 2 ^ 6 from Nat.pow_le_pow_right (by decide) hW)
    have hK : ∀ w, w < 6 → kpN A F W n w < 1024 := fun w _ => kpN_lt hF
    obtain ⟨-, hz, h6, -⟩ := sfx_f s hs64
    have hkm : k < popc s := by omega
    -- all candidates from a on
    have cand : ∀ (q a metX : Nat) (τ : Dt), KM σ τ → (∀ j, j < k → τ.1 4 j = σ.1 4 j) → (∀ j, k < j → j < 6 → τ.1 4 j = -1) → a ≤ F → cu met a F ≤ q → (∀ f, f < a → ¬ Gd (kpN A F W n) s k met f) → ((τ.1 4 k = -1 ∧ a = 0 ∧ metX = met) ∨ ∃ f0, f0 < F ∧ τ.1 4 k = nI f0 ∧ a = f0 + 1 ∧ metX = met ||| 2 ^ f0 ∧ ¬ met.testBit f0 = true) → Dn A F W n s (if d = 0 then 1 else q * (1 + TT d (r - 1)) + 1) (d + 1) k met σ (nI k, nI metX, τ) := by
      intro q
      induction q with
      | zero =>
        intro a metX τ hτ h1 h2 ha hq hno hst
        rcases d_one (hτ.mv h) hs hkm ha hm hst with ⟨e1, e2⟩ | ⟨f, f1, f2, ⟨f3, f4⟩, -⟩
        · refine ⟨fun z => ?_, fun _ => ⟨1, setX τ 4 k (-1), ?_, stp_1 e2, hτ.tr (KM_set (by decide)), fun j hj => ?_, fun j hj1 hj2 => ?_⟩⟩
          · obtain ⟨f, hf10, hg⟩ := (Mt_k hK hs64 hkm).mp z
            rcases (show f < a ∨ a ≤ f by omega) with y | y
            · exact absurd hg (hno f y)
            · exact absurd ⟨hg.1, hg.2.1⟩ (e1 f y (kpN_tb.mp hg.1).1)
          · by_cases c : d = 0
            · rw [if_pos c]; exact Nat.le_refl _
            · rw [if_neg c]; omega
          · rw [setX_n (by omega)]; exact h1 j hj
          · rcases (show j = k ∨ k < j by omega) with y | y
            · rw [y, setX_j]
            · rw [setX_n (by omega)]; exact h2 j y hj2
        · have := cu_nx f1 f2 f4
          omega
      | succ q ihq =>
        intro a metX τ hτ h1 h2 ha hq hno hst
        rcases d_one (hτ.mv h) hs hkm ha hm hst with ⟨e1, e2⟩ | ⟨f, f1, f2, ⟨f3, f4⟩, f5, e2⟩
        · refine ⟨fun z => ?_, fun _ => ⟨1, setX τ 4 k (-1), ?_, stp_1 e2, hτ.tr (KM_set (by decide)), fun j hj => ?_, fun j hj1 hj2 => ?_⟩⟩
          · obtain ⟨f, hf10, hg⟩ := (Mt_k hK hs64 hkm).mp z
            rcases (show f < a ∨ a ≤ f by omega) with y | y
            · exact absurd hg (hno f y)
            · exact absurd ⟨hg.1, hg.2.1⟩ (e1 f y (kpN_tb.mp hg.1).1)
          · by_cases c : d = 0
            · rw [if_pos c]; exact Nat.le_refl _
            · rw [if_neg c]; omega
          · rw [setX_n (by omega)]; exact h1 j hj
          · rcases (show j = k ∨ k < j by omega) with y | y
            · rw [y, setX_j]
            · rw [setX_n (by omega)]; exact h2 j y hj2
        · have hcu := cu_nx f1 f2 f4
          have hcu2 := cu_in f2 f4
          have hmet2 : met ||| 2 ^ f < 1024 := pow_or hm (by omega)
          have hτ1 : KM σ (setX τ 4 k (nI f)) := hτ.tr (KM_set (by decide))
          have ih := d_all hs hW d (k + 1) (met ||| 2 ^ f) (r - 1) (setX τ 4 k (nI f)) (hτ1.mv h) (by omega) hmet2 (by omega) (fun j hj1 hj2 => by rw [setX_n (by omega)]; exact h2 j (by omega) hj2)
          obtain ⟨ih1, ih2⟩ := ih
          by_cases c : Mt (kpN A F W n) (sfx s (k + 1)) (nsub 1023 (met ||| 2 ^ f))
          · have hg : Gd (kpN A F W n) s k met f := ⟨f3, f4, c⟩
            have hcc : cc (kpN A F W n) s k met = f := lst_eq (by omega) hg (fun j hj z => by
              rcases (show j < a ∨ a ≤ j by omega) with y | y
              · exact hno j y z
              · exact f5 j y hj ⟨z.1, z.2.1⟩)
            obtain ⟨t, m', σ', t1, t2, t3, t4, t5⟩ := ih1 c
            refine ⟨fun _ => ⟨1 + t, m', σ', ?_, stp_add 1 t (stp_1 e2) t2, hτ1.tr t3, fun j hj => ?_, fun j hj1 hj2 => ?_⟩, fun z => absurd ((Mt_k hK hs64 hkm).mpr ⟨f, by omega, hg⟩) z⟩
            · by_cases c0 : d = 0
              · rw [if_pos c0]
                rw [c0] at t1
                have : TT 0 (r - 1) = 0 := rfl
                omega
              · rw [if_neg c0, Nat.succ_mul]
                omega
            · rw [t4 j (by omega), setX_n (by omega)]
              exact h1 j hj
            · show _ = nI (if j = k then _ else _)
              rcases (show j = k ∨ k + 1 ≤ j by omega) with y | y
              · rw [if_pos y, y, t4 k (by omega), setX_j, hcc]
              · rw [if_neg (by omega), hcc]
                exact t5 j y hj2
          · have hd0 : ¬ d = 0 := fun z => by
              subst z
              refine c (Mt_0 (fun w hw y => ?_))
              rw [show k + 1 = popc s by omega, hz, Nat.zero_testBit] at y
              cases y
            obtain ⟨t, σ', t1, t2, t3, t4, t5⟩ := ih2 c
            have e3 : nI (k + 1) - 1 = nI k := nI_pred k
            rw [e3] at t2
            have nx := ihq (f + 1) (met ||| 2 ^ f) σ' (hτ1.tr t3) (fun j hj => by rw [t4 j (by omega), setX_n (by omega)]; exact h1 j hj) (fun j hj1 hj2 => t5 j (by omega) hj2) (by omega) (by omega) (fun g hg z => by
              rcases (show g < a ∨ (a ≤ g ∧ g < f) ∨ g = f by omega) with y | y | y
              · exact hno g y z
              · exact f5 g y.1 y.2 ⟨z.1, z.2.1⟩
              · rw [y] at z; exact c z.2.2) (Or.inr ⟨f, f2, by rw [t4 k (by omega), setX_j], rfl, rfl, f4⟩)
            obtain ⟨n1, n2⟩ := nx
            rw [if_neg hd0] at n1 n2
            rw [if_neg hd0]
            refine ⟨fun z => ?_, fun z => ?_⟩
            · obtain ⟨t', m', σ2, u1, u2, u3, u4, u5⟩ := n1 z
              exact ⟨1 + t + t', m', σ2, by rw [Nat.succ_mul]; omega, stp_add (1 + t) t' (stp_add 1 t (stp_1 e2) t2) u2, u3, u4, u5⟩
            · obtain ⟨t', σ2, u1, u2, u3, u4, u5⟩ := n2 z
              exact ⟨1 + t + t', σ2, by rw [Nat.succ_mul]; omega, stp_add (1 + t) t' (stp_add 1 t (stp_1 e2) t2) u2, u3, u4, u5⟩
    have res := cand (cu met 0 F) 0 met σ (KM_0 _) (fun _ _ => rfl) (fun j hj1 hj2 => hf j (by omega) hj2) (Nat.zero_le _) (Nat.le_refl _) (fun f hf => absurd hf (Nat.not_lt_zero f)) (Or.inl ⟨hf k (Nat.le_refl _) (by omega), rfl, rfl⟩)
    have hle : (if d = 0 then 1 else cu met 0 F * (1 + TT d (r - 1)) + 1) ≤ TT (d + 1) r := by
      show _ ≤ (if d = 0 then 1 else r * (1 + TT d (r - 1)) + 1)
      by_cases c : d = 0
      · rw [if_pos c, if_pos c]; exact Nat.le_refl _
      · rw [if_neg c, if_neg c]
        exact Nat.succ_le_succ (Nat.mul_le_mul_right _ hr)
    obtain ⟨r1, r2⟩ := res
    refine ⟨fun z => ?_, fun z => ?_⟩
    · obtain ⟨t, m', σ', t1, t2⟩ := r1 z
      exact ⟨t, m', σ', Nat.le_trans t1 hle, t2⟩
    · obtain ⟨t, σ', t1, t2⟩ := r2 z
      exact ⟨t, σ', Nat.le_trans t1 hle, t2⟩
end DFS
/-! ===== say, most: the promises ===== -/
theorem TT_6 : ∀ d, d ≤ 6 → ∀ r, r ≤ 10 → TT d r ≤ 72201 := by decide
theorem cu_le (met a F : Nat) : cu met a F ≤ F := cnt_le _ F
section SYR
variable {σ : Dt} {o F W s : Nat} {A : Nat → Int32} {n : Int32}
theorem m_says (h : MV σ o A F W) (hs : s < 2 ^ W) : ∃ τ, f_X12_says 0 (nI s) n σ = some (bI (Mt (kpN A F W n) s 1023), τ) ∧ KM σ τ ∧ (Mt (kpN A F W n) s 1023 → ∀ j, j < popc s → τ.1 4 j = nI (gc (kpN A F W n) s (popc s) 0 0 j)) := by
  have hF := h.F10
  have hW := h.W6
  have hs64 : s < 64 := Nat.lt_of_lt_of_le hs (show 2 ^ W ≤ 2 ^ 6 from Nat.pow_le_pow_right (by decide) hW)
  obtain ⟨hsf, -, h6, -⟩ := sfx_f s hs64
  have hn : nsub 1023 0 = 1023 := by decide
  unfold f_X12_says f_X12_says_172
  rw [bo_of (mbits (by omega) _)]
  have key := iter_w (f := fun q : Int32 × Dt => f_X12_says_L14 0 (nI s) n (nI (popc s)) (0 : Int32) (0 : Int32) q.1 q.2) (s0 := ((0 : Int32), σ)) (P := fun i q => q.1 = nI i ∧ KM σ q.2 ∧ ∀ j, j < i → q.2.1 4 j = -1) (Q := fun ρ => KM σ ρ ∧ ∀ j, j < 6 → ρ.1 4 j = -1) 6 (by decide) ⟨rfl, KM_0 _, fun j hj => absurd hj (Nat.not_lt_zero j)⟩ (fun i q hi hP => ?_)
  · obtain ⟨ρ, e1, e2, e3⟩ := key
    have hM2 := e2.mv h
    have hd := d_all (n := n) hs hW (popc s) 0 0 10 ρ hM2 (by omega) (by decide) (Nat.le_trans (cu_le 0 0 F) hF) (fun j _ hj => e3 j hj)
    have hT := TT_6 (popc s) h6 10 (Nat.le_refl _)
    obtain ⟨d1, d2⟩ := hd
    rw [hsf, hn] at d1 d2
    rw [bo_of e1]
    by_cases c : Mt (kpN A F W n) s 1023
    · obtain ⟨t, m', σ', t1, t2, t3, t4, t5⟩ := d1 c
      have hend : f_X12_says_L35 0 (nI s) n (nI (popc s)) (nI (popc s)) m' σ' = some (.inr (nI (popc s), σ')) := by
        unfold f_X12_says_L35
        rw [if_neg (nI_pos (by omega)), if_pos (nI_le (Nat.le_refl _) (by omega))]
      have hit := stp_iter (f := fun q : Int32 × Int32 × Dt => f_X12_says_L35 0 (nI s) n (nI (popc s)) q.1 q.2.1 q.2.2) t FU t2 hend (by show t < 100000; omega)
      rw [bo_of (show iter FU (fun q => f_X12_says_L35 0 (nI s) n (nI (popc s)) q.1 q.2.1 q.2.2) ((0 : Int32), (0 : Int32), ρ) = _ from hit)]
      dsimp only
      rw [if_pos rfl, bI_t c]
      exact ⟨σ', rfl, e2.tr t3, fun _ j hj => t5 j (Nat.zero_le _) hj⟩
    · obtain ⟨t, σ', t1, t2, t3, t4, t5⟩ := d2 c
      have hend : f_X12_says_L35 0 (nI s) n (nI (popc s)) (nI 0 - 1) (nI 0) σ' = some (.inr (nI 0 - 1, σ')) := by
        unfold f_X12_says_L35
        rw [if_pos (by decide)]
      have hit := stp_iter (f := fun q : Int32 × Int32 × Dt => f_X12_says_L35 0 (nI s) n (nI (popc s)) q.1 q.2.1 q.2.2) t FU t2 hend (by show t < 100000; omega)
      rw [bo_of (show iter FU (fun q => f_X12_says_L35 0 (nI s) n (nI (popc s)) q.1 q.2.1 q.2.2) ((0 : Int32), (0 : Int32), ρ) = _ from hit)]
      dsimp only
      rw [if_neg (show ¬ nI 0 - 1 = nI (popc s) from fun z => nI_m1 (f := popc s) (by omega) (z.symm.trans (by decide))), bI_f c]
      exact ⟨σ', rfl, e2.tr t3, fun z => absurd z c⟩
  · obtain ⟨x, τ⟩ := q
    obtain ⟨p1, p2, p3⟩ := hP
    dsimp only at p1 p2 p3 ⊢
    subst p1
    unfold f_X12_says_L14
    rcases (show i = 6 ∨ i < 6 by omega) with rfl | e
    · left
      rw [if_pos (by decide)]
      exact ⟨_, rfl, p2, p3⟩
    · right
      rw [if_neg (show ¬ (6 : Int32) ≤ nI i from nI_ge (b := 6) e (by decide)), mr14 (p2.ref h.1), msy4 e, nI_1]
      refine ⟨e, _, rfl, rfl, p2.tr (KM_set (by decide)), fun j hj => ?_⟩
      show (setX τ 4 i (-1)).1 4 j = -1
      rcases (show j = i ∨ j < i by omega) with z | z
      · rw [z, setX_j]
      · rw [setX_n (by omega)]; exact p3 j z
end SYR
section SYX
variable {σ : Dt} {K : Nat → Nat} {s : Nat}
theorem nsub_1023 (met : Nat) : nsub 1023 met < 1024 := Nat.lt_of_le_of_lt (nsub_le 1023 met) (by decide)
theorem x_least (h : Hd σ K) (hs : s < 64) {k met : Nat} (hk : k < popc s) (hM : Mt K (sfx s k) (nsub 1023 met)) : f_X7_leastSpeaker 191 (nI (nthB s 12 k)) (nI (sfx s (k + 1))) (nI (nsub 1023 met)) σ = some (nI (cc K s k met)) := by
  have hK : ∀ w, w < 6 → K w < 1024 := fun w hw => (h.2.1 w hw).2
  obtain ⟨-, -, h6, hfx⟩ := sfx_f s hs
  obtain ⟨f1, f2, f3, f4, f5, f6, f7⟩ := hfx k (by omega) hk
  obtain ⟨c1, c2, c3⟩ := cc_ok hK hs hk hM
  have hab : K (nthB s 12 k) &&& nsub 1023 met < 1024 := Nat.lt_of_le_of_lt Nat.and_le_left (hK _ f1)
  unfold f_X7_leastSpeaker f_X7_leastSpeaker_22
  rw [if_neg (nI_pos (by omega)), if_neg (show ¬ (6 : Int32) ≤ nI (nthB s 12 k) from nI_ge (b := 6) f1 (by decide)), xs0 h.1, sai0 f1, (h.2.1 _ f1).1, nI_and]
  have body : ∀ i, i < 10 → f_X7_leastSpeaker_L27 191 (nI (sfx s (k + 1))) (nI (nsub 1023 met)) (nI (K (nthB s 12 k) &&& nsub 1023 met)) (nI i) σ = ci (Gd K s k met i) (some (.inr (.inl (nI i)))) (some (.inl (nI (i + 1)))) := by
    intro i hi
    unfold f_X7_leastSpeaker_L27 f_X7_leastSpeaker_63
    rw [if_neg (le10 hi), bo_of src7, shl1 (by omega), nI_andx, sub_or, bo_of (x_canSay h f6 (nsub_1023 _)), ite_b, nI_1]
    simp only [bit0 (show K (nthB s 12 k) &&& nsub 1023 met < 2 ^ 31 by omega) (show i < 32 by omega)]
    by_cases c : (K (nthB s 12 k) &&& nsub 1023 met).testBit i = true
    · rw [if_neg (fun z => z c)]
      obtain ⟨y1, y2⟩ := and_tb.mp c
      by_cases d : Mt K (sfx s (k + 1)) (nsub 1023 (met ||| 2 ^ i))
      · rw [ci_t d, ci_t ⟨y1, (sub_tb.mp y2).2, d⟩]
      · rw [ci_f d, ci_f (fun z => d z.2.2)]
    · rw [if_pos c, ci_f (fun z => c (and_tb.mpr ⟨z.1, sub_tb.mpr ⟨tb1023 hi, z.2.1⟩⟩))]
  have key := iter_n (f := fun q : Int32 => f_X7_leastSpeaker_L27 191 (nI (sfx s (k + 1))) (nI (nsub 1023 met)) (nI (K (nthB s 12 k) &&& nsub 1023 met)) q σ) (st := fun i => nI i) (x := (Sum.inl (nI (cc K s k met)) : Int32 ⊕ Unit)) (cc K s k met) (by omega) (fun i hi => ?_) ?_
  · rw [bo_of (show iter FU (fun q => f_X7_leastSpeaker_L27 191 (nI (sfx s (k + 1))) (nI (nsub 1023 met)) (nI (K (nthB s 12 k) &&& nsub 1023 met)) q σ) (0 : Int32) = _ from key)]
    rfl
  · show f_X7_leastSpeaker_L27 _ _ _ _ _ _ = _
    rw [body i (by omega), ci_f (c3 i hi)]
  · show f_X7_leastSpeaker_L27 _ _ _ _ _ _ = _
    rw [body _ c1, ci_t c2]
/-- who has been met before the k-th -/
noncomputable def mk (K : Nat → Nat) (s : Nat) : Nat → Nat
  | 0 => 0
  | k + 1 => mk K s k ||| 2 ^ cc K s k (mk K s k)
theorem gc_mk (d : Nat) : ∀ k j, k ≤ j → j < k + d → gc K s d k (mk K s k) j = cc K s j (mk K s j) := by
  induction d with
  | zero => intro k j h1 h2; omega
  | succ d ih =>
    intro k j h1 h2
    show (if j = k then _ else _) = _
    by_cases e : j = k
    · rw [if_pos e, e]
    · rw [if_neg e]
      exact ih (k + 1) j (by omega) (by omega)
theorem mk_ok (hK : ∀ w, w < 6 → K w < 1024) (hs : s < 64) (hM : Mt K s 1023) : ∀ k, k ≤ popc s → Mt K (sfx s k) (nsub 1023 (mk K s k)) ∧ mk K s k < 1024
  | 0, _ => by
    rw [(sfx_f s hs).1]
    show Mt K s (nsub 1023 0) ∧ 0 < 1024
    rw [show nsub 1023 0 = 1023 by decide]
    exact ⟨hM, by decide⟩
  | k + 1, hk => by
    obtain ⟨h1, h2⟩ := mk_ok hK hs hM k (by omega)
    obtain ⟨c1, c2, -⟩ := cc_ok hK hs (by omega) h1
    exact ⟨c2.2.2, pow_or h2 c1⟩
theorem x_speaker (h : Hd σ K) (hs : s < 64) (hM : Mt K s 1023) (z : Int32) : (∀ j, j < popc s → z = nI j → f_X7_speakerOf 191 (nI s) z σ = some (nI (cc K s j (mk K s j)))) ∧ (¬ inR z (popc s) → f_X7_speakerOf 191 (nI s) z σ = some (-1)) := by
  have hK : ∀ w, w < 6 → K w < 1024 := fun w hw => (h.2.1 w hw).2
  obtain ⟨hsf, -, h6, hfx⟩ := sfx_f s hs
  have hcnt : ∀ s, s < 64 → popK s 6 = popc s := by decide
  have step : ∀ w, w < 6 → f_X7_speakerOf_L13 191 (nI s) z (nI (sfx s (popK s w))) (nI (nsub 1023 (mk K s (popK s w)))) (nI (popK s w)) (nI w) σ = if s.testBit w = true then (if nI (popK s w) = z then some (.inr (.inl (nI (cc K s (popK s w) (mk K s (popK s w)))))) else some (.inl (nI (sfx s (popK s (w + 1))), nI (nsub 1023 (mk K s (popK s (w + 1)))), nI (popK s (w + 1)), nI (w + 1)))) else some (.inl (nI (sfx s (popK s (w + 1))), nI (nsub 1023 (mk K s (popK s (w + 1)))), nI (popK s (w + 1)), nI (w + 1))) := by
    intro w hw
    unfold f_X7_speakerOf_L13 f_X7_speakerOf_78
    rw [if_neg (show ¬ (6 : Int32) ≤ nI w from nI_ge (b := 6) hw (by decide))]
    simp only [bit0 (show s < 2 ^ 31 by omega) (show w < 32 by omega)]
    by_cases c : s.testBit w = true
    · obtain ⟨p1, p2, p3⟩ := popK_f s hs w hw c
      obtain ⟨f1, f2, f3, f4, f5, f6, f7⟩ := hfx (popK s w) p3 p2
      rw [p1] at f7
      obtain ⟨m1, m2⟩ := mk_ok hK hs hM (popK s w) (by omega)
      have hl := x_least h hs p2 m1
      rw [p1] at hl
      obtain ⟨c1, -, -⟩ := cc_ok hK hs p2 m1
      have e1 : popK s (w + 1) = popK s w + 1 := by rw [popK_s, c]; rfl
      rw [if_neg (fun y => y c), if_pos c, shl1 (by omega), nI_andx, f7, bo_s, bo_of src7, bo_of hl, if_neg (nI_m1 (by omega)), e1]
      by_cases d : nI (popK s w) = z
      · rw [if_pos d, if_pos d]
      · rw [if_neg d, if_neg d, shl1 (by omega), nI_andx, bo_s, sub_or, nI_1, nI_1]
        rfl
    · have e1 : popK s (w + 1) = popK s w := by
        rw [popK_s]
        cases e : s.testBit w
        · rfl
        · exact absurd e c
      rw [if_pos c, if_neg c, e1, nI_1]
  unfold f_X7_speakerOf
  constructor
  · intro j hj hz
    obtain ⟨g1, g2, g3, -⟩ := hfx j (by omega) hj
    have mono : ∀ a b, a ≤ b → popK s a ≤ popK s b := by
      intro a b hab
      induction hab with
      | refl => exact Nat.le_refl _
      | step _ ih => rw [popK_s]; omega
    have key := iter_n (f := fun q : Int32 × Int32 × Int32 × Int32 => f_X7_speakerOf_L13 191 (nI s) z q.1 q.2.1 q.2.2.1 q.2.2.2 σ) (st := fun w => (nI (sfx s (popK s w)), nI (nsub 1023 (mk K s (popK s w))), nI (popK s w), nI w)) (x := (Sum.inl (nI (cc K s j (mk K s j))) : Int32 ⊕ Unit)) (nthB s 12 j) (by omega) (fun w hw => ?_) ?_
    · have e0 : ((nI (sfx s (popK s 0)), nI (nsub 1023 (mk K s (popK s 0))), nI (popK s 0), nI 0) : Int32 × Int32 × Int32 × Int32) = (nI s, (1023 : Int32), (0 : Int32), (0 : Int32)) := by
        show (nI (sfx s 0), nI (nsub 1023 0), nI 0, nI 0) = _
        rw [hsf]
        rfl
      rw [e0] at key
      rw [bo_of key]
      rfl
    · dsimp only
      rw [step w (by omega)]
      by_cases c : s.testBit w = true
      · have h1 := mono (w + 1) (nthB s 12 j) (by omega)
        rw [popK_s, c, g3] at h1
        have h2 : (true : Bool).toNat = 1 := rfl
        rw [if_pos c, if_neg (fun y => by
          rw [hz] at y
          have := (nI_eq (by omega) (by omega)).mp y
          omega)]
      · rw [if_neg c]
    · dsimp only
      rw [step _ g1, if_pos g2, g3, if_pos hz.symm]
  · intro hz
    have key := iter_n (f := fun q : Int32 × Int32 × Int32 × Int32 => f_X7_speakerOf_L13 191 (nI s) z q.1 q.2.1 q.2.2.1 q.2.2.2 σ) (st := fun w => (nI (sfx s (popK s w)), nI (nsub 1023 (mk K s (popK s w))), nI (popK s w), nI w)) (x := (Sum.inr () : Int32 ⊕ Unit)) 6 (by decide) (fun w hw => ?_) ?_
    · have e0 : ((nI (sfx s (popK s 0)), nI (nsub 1023 (mk K s (popK s 0))), nI (popK s 0), nI 0) : Int32 × Int32 × Int32 × Int32) = (nI s, (1023 : Int32), (0 : Int32), (0 : Int32)) := by
        show (nI (sfx s 0), nI (nsub 1023 0), nI 0, nI 0) = _
        rw [hsf]
        rfl
      rw [e0] at key
      rw [bo_of key]
      rfl
    · dsimp only
      rw [step w hw]
      by_cases c : s.testBit w = true
      · obtain ⟨-, p2, -⟩ := popK_f s hs w hw c
        rw [if_pos c, if_neg (fun y => hz ⟨popK s w, p2, y.symm⟩)]
      · rw [if_neg c]
    · dsimp only
      unfold f_X7_speakerOf_L13
      rw [if_pos (by decide)]
end SYX
theorem and_all {z : Int32} {W : Nat} (hW : W ≤ 6) : (z &&& (nI (2 ^ W - 1) ^^^ (-1)) = 0) ↔ ∃ s, s < 2 ^ W ∧ z = nI s := by
  have hp : 2 ^ W ≤ 2 ^ 6 := Nat.pow_le_pow_right (by decide) hW
  constructor
  · intro h
    have e : z = z &&& nI (2 ^ W - 1) := by
      apply Int32.toBitVec_inj.mp
      have h2 := congrArg Int32.toBitVec h
      rw [Int32.toBitVec_and, Int32.toBitVec_xor] at h2
      rw [Int32.toBitVec_and]
      rw [show (-1 : Int32).toBitVec = BitVec.allOnes 32 by decide, BitVec.xor_allOnes] at h2
      generalize z.toBitVec = a at *
      generalize (nI (2 ^ W - 1)).toBitVec = b at *
      ext i hi
      have h3 := congrArg (fun v => BitVec.getLsbD v i) h2
      simp [hi] at h3
      simp [← BitVec.getLsbD_eq_getElem]
      exact h3
    rw [pk_and z W (show (nI (2 ^ W - 1)).toBitVec.toNat = 2 ^ W - 1 from pk_tn (by omega))] at e
    exact ⟨_, Nat.mod_lt _ (Nat.two_pow_pos W), e⟩
  · rintro ⟨s, hs, rfl⟩
    rw [nI_andx]
    have : nsub s (2 ^ W - 1) = 0 := by
      apply Nat.eq_of_testBit_eq
      intro i
      rw [tb_nsub, Nat.testBit_two_pow_sub_one, Nat.zero_testBit]
      cases e : s.testBit i
      · rfl
      · have := tb_lt hs e
        simp [this]
    rw [this]
    rfl
theorem in_all {z : Int32} {W : Nat} (hW : W ≤ 6) : inI z 0 (nI (2 ^ W - 1)) ↔ ∃ s, s < 2 ^ W ∧ z = nI s := by
  have hp : 2 ^ W ≤ 2 ^ 6 := Nat.pow_le_pow_right (by decide) hW
  have h0 := Nat.two_pow_pos W
  constructor
  · intro h
    have h1 : ¬ z < 0 := fun q => h (Or.inl q)
    obtain ⟨s, hs, rfl⟩ := nI_of h1
    refine ⟨s, ?_, rfl⟩
    have h2 : ¬ nI (2 ^ W - 1) < nI s := fun q => h (Or.inr q)
    have : ¬ 2 ^ W - 1 < s := fun q => h2 (nI_lt q hs)
    omega
  · rintro ⟨s, hs, rfl⟩ (h | h)
    · exact nI_pos (by omega) h
    · exact nI_nlt (a := 2 ^ W - 1) (by omega) (by omega) h
theorem ok_say : LK_say Inv := by
  intro σx σm z1 z2 z3 z4 hI
  unfold f_X11_say f_X12_say
  simp only [x_now hI.1, bo_s, x_rc1, mrc]
  rcases ask_V hI z1 with ⟨k, A, F, W, hk, hz, hC, e1, e2, hM, hI2⟩ | ⟨e1, e2⟩
  · have hF := hC.F10
    have hW := hC.W6
    simp only [e1, bo_s, e2, bd_s, ite_none, ite_10, x_isSpan, crc hC.1, c_allWorks hC, mworks hM, iInB, ite_b, x_speak hI.1, src7, (pow2 W (by omega)).1, (pow2 W (by omega)).2.2.2]
    by_cases c1 : z3 < 1 ∨ (9 : Int32) < z3
    · rw [if_pos c1, if_pos rfl, ci_f (show ¬ inI z3 1 9 from fun z => z c1)]
      by_cases c2 : inI z2 0 (nI (2 ^ W - 1))
      · rw [ci_t c2]
        exact ⟨-1, _, _, rfl, rfl, hI2⟩
      · rw [ci_f c2]
        exact ⟨-1, _, _, rfl, rfl, hI2⟩
    · rw [if_neg c1, if_neg (by decide), ci_t (show inI z3 1 9 from c1)]
      by_cases c2 : inI z2 0 (nI (2 ^ W - 1))
      · obtain ⟨s, hs, rfl⟩ := (in_all hW).mp c2
        have hp : 2 ^ W ≤ 2 ^ 6 := Nat.pow_le_pow_right (by decide) hW
        have hs64 : s < 64 := by omega
        obtain ⟨τx, x1, x2, x3⟩ := x_hear hC z3
        obtain ⟨τm, m1, m2, m3⟩ := m_says (n := z3) hM hs
        have hRx := x2.ref hI.1
        obtain ⟨-, -, h6, -⟩ := sfx_f s hs64
        have hI3 := x2.inv hI2
        rw [ci_t c2, if_pos ((and_all hW).mpr ⟨s, hs, rfl⟩), bd_of x1, bo_of (x_speak hRx), bo_of src7, bo_of (show f_X7_canSay 191 (nI s) 1023 τx = _ from x_canSay x3 hs64 (u := 1023) (by decide)), ite_b]
        by_cases c3 : Mt (kpN A F W z3) s 1023
        · rw [ci_t c3]
          by_cases c4 : z4 < (-1 : Int32)
          · have hne : ¬ z4 = -1 := fun z => by rw [z] at c4; exact absurd c4 (by decide)
            rw [if_neg hne, bo_of (x_speak hRx), bo_of src7, bo_of ((x_speaker x3 hs64 c3 z4).2 (fun ⟨j, hj, z⟩ => by
              rw [z] at c4
              have := Int32.lt_iff_toInt_lt.mp c4
              rw [nI_toInt (by omega), show (-1 : Int32).toInt = -1 by decide] at this
              omega)), if_pos c4]
            exact ⟨-1, _, _, rfl, rfl, hI3⟩
          · rw [if_neg c4, bd_of m1, ite_b, ci_t c3]
            by_cases c5 : z4 = -1
            · rw [if_pos c5, if_pos c5, bo_of (xbits (by omega) _), bo_of (mbits (by omega) _)]
              exact ⟨_, _, _, rfl, rfl, m2.inv hI3⟩
            · rw [if_neg c5, if_neg c5, bo_of (x_speak hRx), bo_of src7, bo_of (mbits (by omega) _)]
              have hnn : ¬ z4 < 0 := fun z => by
                have a1 := Int32.lt_iff_toInt_lt.mp z
                have a2 := Int32.le_iff_toInt_le.mp (Int32.not_lt.mp c4)
                rw [show (-1 : Int32).toInt = -1 by decide] at a2
                rw [show (0 : Int32).toInt = 0 by decide] at a1
                exact c5 (Int32.toInt_inj.mp (by rw [show (-1 : Int32).toInt = -1 by decide]; omega))
              obtain ⟨j, hj, rfl⟩ := nI_of hnn
              by_cases c6 : popc s ≤ j
              · rw [bo_of ((x_speaker x3 hs64 c3 (nI j)).2 (fun z => by have := (inR_nI hj (by omega)).mp z; omega)), ite_le_t hj c6]
                exact ⟨-1, _, _, rfl, rfl, m2.inv hI3⟩
              · have hmk := gc_mk (K := kpN A F W z3) (s := s) (popc s) 0 j (Nat.zero_le _) (by omega)
                rw [bo_of ((x_speaker x3 hs64 c3 (nI j)).1 j (by omega) rfl), ite_le_f (by omega) (by omega), mr14 (m2.ref hM.1), may4 (by omega), m3 c3 j (by omega)]
                rw [show gc (kpN A F W z3) s (popc s) 0 0 j = cc (kpN A F W z3) s j (mk (kpN A F W z3) s j) from hmk]
                exact ⟨_, _, _, rfl, rfl, m2.inv hI3⟩
        · rw [ci_f c3]
          by_cases c4 : z4 < (-1 : Int32)
          · rw [if_pos c4]
            exact ⟨-1, _, _, rfl, rfl, hI3⟩
          · rw [if_neg c4, bd_of m1, ite_b, ci_f c3]
            exact ⟨-1, _, _, rfl, rfl, m2.inv hI3⟩
      · rw [ci_f c2, if_neg (fun z => c2 ((in_all hW).mpr ((and_all hW).mp z)))]
        exact ⟨-1, _, _, rfl, rfl, hI2⟩
  · simp only [e1, bo_s, e2, bd_s]
    exact ⟨-1, _, _, rfl, rfl, hI⟩
