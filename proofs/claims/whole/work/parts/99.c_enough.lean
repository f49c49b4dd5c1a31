/-! ===== plan: the reference ===== -/
theorem half_sub : ∀ (k l m x : Nat), m < 2 ^ k → x < m → (∀ i, m.testBit i = true → l.testBit i = true) → (∀ i, x.testBit i = true → l.testBit i = true) → x ≤ (m - 1) &&& l
  | 0, l, m, x, hm, hx, _, _ => by
    have : m < 1 := hm
    omega
  | k + 1, l, m, x, hm, hx, h1, h2 => by
    have hp : 2 ^ (k + 1) = 2 ^ k * 2 := Nat.pow_succ 2 k
    rcases (show m % 2 = 1 ∨ m % 2 = 0 by omega) with c | c
    · have e : (m - 1) &&& l = m - 1 := by
        apply Nat.eq_of_testBit_eq
        intro i
        rw [Nat.testBit_and]
        cases e1 : (m - 1).testBit i
        · rfl
        · rw [Bool.true_and]
          cases i with
          | zero =>
            rw [Nat.testBit_zero] at e1
            have := of_decide_eq_true e1
            omega
          | succ i =>
            rw [Nat.testBit_succ, show (m - 1) / 2 = m / 2 by omega, ← Nat.testBit_succ] at e1
            exact h1 _ e1
      rw [e]
      omega
    · have ih := half_sub k (l / 2) (m / 2) (x / 2) (by omega) (by omega) (fun i hi => by rw [← Nat.testBit_succ] at hi ⊢; exact h1 _ hi) (fun i hi => by rw [← Nat.testBit_succ] at hi ⊢; exact h2 _ hi)
      have e1 : ((m - 1) &&& l) / 2 = (m / 2 - 1) &&& (l / 2) := by
        rw [Nat.and_div_two, show (m - 1) / 2 = m / 2 - 1 by omega]
      have e2 : x % 2 ≤ ((m - 1) &&& l) % 2 := by
        rcases (show x % 2 = 0 ∨ x % 2 = 1 by omega) with d | d
        · omega
        · have q1 : x.testBit 0 = true := by rw [Nat.testBit_zero, d]; rfl
          have q2 := h2 0 q1
          have q3 : (m - 1).testBit 0 = true := by rw [Nat.testBit_zero, show (m - 1) % 2 = 1 by omega]; rfl
          have q4 : ((m - 1) &&& l).testBit 0 = true := by rw [Nat.testBit_and, q2, q3]; rfl
          rw [Nat.testBit_zero] at q4
          have := of_decide_eq_true q4
          omega
      rw [← e1] at ih
      omega
theorem mr21 {β : Type} {σ : Dt} {k : Option Nat → Option β} (hR : RefM σ) : bo (xgr SM 12 21 (some 0) σ) k = k (some 10) := bo_of (m_r hR (by decide) rfl)
theorem mr22 {β : Type} {σ : Dt} {k : Option Nat → Option β} (hR : RefM σ) : bo (xgr SM 12 22 (some 0) σ) k = k (some 11) := bo_of (m_r hR (by decide) rfl)
theorem c_sh10 : 10 < SM.1 ∧ SM.2.1 10 = 15 ∧ SM.2.2 10 = 65536 := by decide
theorem c_sh11 : 11 < SM.1 ∧ SM.2.1 11 = 15 ∧ SM.2.2 11 = 1024 := by decide
theorem z10g {β : Type} {i : Nat} {σ : Dt} {k : Int32 → Option β} (hi : i < 65536) : bo (xaz SM (some 10) (nI i) σ) k = k (σ.1 10 i) := by
  obtain ⟨h1, h2, h3⟩ := c_sh10
  exact bo_of (xaz_of h1 h2 (by omega) (by omega))
theorem z11g {β : Type} {i : Nat} {σ : Dt} {k : Int32 → Option β} (hi : i < 1024) : bo (xaz SM (some 11) (nI i) σ) k = k (σ.1 11 i) := by
  obtain ⟨h1, h2, h3⟩ := c_sh11
  exact bo_of (xaz_of h1 h2 (by omega) (by omega))
theorem nar_b (p : Prop) : vp_nar .boolean (bI p) = bI p := by
  rcases bI_01 p with e | e <;> rw [e] <;> rfl
theorem z10s {β : Type} {i : Nat} {p : Prop} {σ : Dt} {k : Dt → Option β} (hi : i < 65536) : bo (xsz SM (some 10) (nI i) (bI p) σ) k = k (setX σ 10 i (bI p)) := by
  obtain ⟨h1, h2, h3⟩ := c_sh10
  exact bo_of (by rw [xsz_of h1 h2 (by omega) (by omega), nar_b]; rfl)
theorem z11s {β : Type} {i : Nat} {p : Prop} {σ : Dt} {k : Dt → Option β} (hi : i < 1024) : bo (xsz SM (some 11) (nI i) (bI p) σ) k = k (setX σ 11 i (bI p)) := by
  obtain ⟨h1, h2, h3⟩ := c_sh11
  exact bo_of (by rw [xsz_of h1 h2 (by omega) (by omega), nar_b]; rfl)
theorem strA_rm {A : Nat → Int32} {F W : Nat} (h : VW A F W) {s f : Nat} (hs : s < 2 ^ 31) (hf : f < 10) : ∀ n, n ≤ 10 → strA A (nI s) (nI f) n = nI (sumN (stN A) (nsub s (2 ^ f)) n)
  | 0, _ => rfl
  | n + 1, hn => by
    rw [strA, sumN, strA_rm h hs hf n (by omega), (h.fk (show n < 10 by omega)).2.1.1]
    simp only [bit1 hs (show n < 32 by omega)]
    by_cases c : s.testBit n = true
    · by_cases d : n = f
      · rw [if_neg (fun z => z.2 (by rw [d])), if_neg (fun z => (rm_tb.mp z).2 d), Nat.add_zero, Int32.add_zero]
      · rw [if_pos ⟨c, fun z => d ((nI_eq (by omega) (by omega)).mp z)⟩, if_pos (rm_tb.mpr ⟨c, d⟩), nI_add]
    · rw [if_neg (fun z => c z.1), if_neg (fun z => c (rm_tb.mp z).1), Nat.add_zero, Int32.add_zero]
section PLM
variable {σ : Dt} {o F W n : Nat} {A : Nat → Int32}
theorem m_enough (h : MV σ o A F W) (h1 : 1 ≤ n) (h2 : n ≤ 9) {w : Nat} (hw : w < W) : ∃ τ, f_X12_laysEnough 0 (nI w) (nI n) σ = some ((), τ) ∧ KM σ τ ∧ Oth 11 σ τ ∧ ∀ s, s < 2 ^ F → τ.1 11 s = bI (jst (stN A) F (ndN A W n w) s) := by
  have hF := h.F10
  have hW := h.W6
  have hvw := h.vw
  have hp := pw_le hF
  have hsz := (hvw.wk (show w < 6 by omega)).1.2
  have hnd : ∀ S, ndN A W n w ≤ S ↔ szN A w ≤ n * S := fun S => by
    unfold ndN; rw [if_pos hw]; exact nd_le h1 h2
  have hmul : ∀ S, S ≤ 90 → n * S ≤ 810 := fun S hS => by
    have := Nat.mul_le_mul h2 hS
    omega
  have hsum : ∀ s, sumN (stN A) s F ≤ 90 := fun s => by
    have := sumN_le (f := stN A) (s := s) (M := 9) F (fun w hw => (hvw.fk (show w < 10 by omega)).2.1.2)
    omega
  have key := iter_w (f := fun q : Int32 × Dt => f_X12_laysEnough_L2 0 (nI w) (nI n) q.1 q.2) (s0 := ((0 : Int32), σ)) (P := fun i q => ∃ τ, q = (nI i, τ) ∧ KM σ τ ∧ Oth 11 σ τ ∧ ∀ s, s < i → τ.1 11 s = bI (jst (stN A) F (ndN A W n w) s)) (Q := fun τ => KM σ τ ∧ Oth 11 σ τ ∧ ∀ s, s < 2 ^ F → τ.1 11 s = bI (jst (stN A) F (ndN A W n w) s)) (2 ^ F) (by omega) ⟨σ, rfl, KM_0 _, Oth_0 _ _, fun s hs => absurd hs (Nat.not_lt_zero s)⟩ (fun i q hi hP => by
    obtain ⟨τ, rfl, p1, p2, p3⟩ := hP
    dsimp only
    have hM := p1.mv h
    unfold f_X12_laysEnough_L2 f_X12_laysEnough_33 f_X12_laysEnough_91
    rw [bo_of (mfolk hM), shl1 (by omega)]
    rcases (show i = 2 ^ F ∨ i < 2 ^ F by omega) with e | e
    · left
      rw [← e, if_pos (nI_le (Nat.le_refl _) (by omega))]
      exact ⟨_, rfl, p1, p2, p3⟩
    · right
      refine ⟨e, ?_⟩
      have b1 := hmul _ (hsum i)
      have loop : ndN A W n w ≤ sumN (stN A) i F → iter FU (fun q : Int32 × Int32 => f_X12_laysEnough_L38 0 (nI w) (nI n) (nI i) q.1 q.2 τ) ((1 : Int32), (0 : Int32)) = some (bI (jst (stN A) F (ndN A W n w) i)) := by
        intro hen
        obtain ⟨r, r1, r2⟩ := iter_w (f := fun q : Int32 × Int32 => f_X12_laysEnough_L38 0 (nI w) (nI n) (nI i) q.1 q.2 τ) (s0 := ((1 : Int32), (0 : Int32))) (P := fun f q => ∃ c : Int32, q = (c, nI f) ∧ f ≤ F ∧ ((c = 1 ∧ ∀ g, g < f → i.testBit g = true → sumN (stN A) (nsub i (2 ^ g)) F < ndN A W n w) ∨ (c = 0 ∧ ¬ jst (stN A) F (ndN A W n w) i))) (Q := fun r => r = bI (jst (stN A) F (ndN A W n w) i)) F (by omega) ⟨1, rfl, Nat.zero_le _, Or.inl ⟨rfl, fun g hg => absurd hg (Nat.not_lt_zero g)⟩⟩ (fun f q hf hP => by
          obtain ⟨c, rfl, -, hc⟩ := hP
          dsimp only
          unfold f_X12_laysEnough_L38 f_X12_laysEnough_78 f_X12_laysEnough_83
          rw [bo_of (mfolk hM)]
          rcases (show f = F ∨ f < F by omega) with e2 | e2
          · left
            subst e2
            rw [if_pos (nI_le (Nat.le_refl _) (by omega))]
            refine ⟨_, rfl, ?_⟩
            rcases hc with ⟨c1, c2⟩ | ⟨c1, c2⟩
            · rw [c1, bI_t ⟨hen, c2⟩]
            · rw [c1, bI_f c2]
          · rw [ite_le_f (by omega) e2]
            rcases hc with ⟨c1, c2⟩ | ⟨c1, c2⟩
            · right
              refine ⟨e2, ?_⟩
              rw [c1, ite_10, bo_of (mamong (by omega) (by omega) _), ite_b, nI_1]
              by_cases b : i.testBit f = true
              · rw [ci_t b, bo_of mrc, bo_of (m_strengths hM _ _), strA_rm hvw (by omega) (by omega) F hF, bo_of mrc, bo_of (msiz hM (by omega)), pk_mul]
                have b2 := hmul _ (hsum (nsub i (2 ^ f)))
                by_cases d : szN A w ≤ n * sumN (stN A) (nsub i (2 ^ f)) F
                · rw [ite_le_t (by omega) d]
                  refine ⟨_, rfl, 0, rfl, e2, Or.inr ⟨rfl, fun z => ?_⟩⟩
                  have q1 := z.2 f e2 b
                  have q2 := (hnd _).mpr d
                  omega
                · rw [ite_le_f (by omega) (by omega)]
                  refine ⟨_, rfl, 1, rfl, e2, Or.inl ⟨rfl, fun g hg hb => ?_⟩⟩
                  rcases (show g = f ∨ g < f by omega) with y | y
                  · rw [y]
                    apply Classical.byContradiction
                    intro z
                    exact d ((hnd _).mp (by omega))
                  · exact c2 g y hb
              · rw [ci_f b]
                refine ⟨_, rfl, 1, rfl, e2, Or.inl ⟨rfl, fun g hg hb => ?_⟩⟩
                rcases (show g = f ∨ g < f by omega) with y | y
                · rw [y] at hb; exact absurd hb b
                · exact c2 g y hb
            · left
              rw [c1, ite_00]
              exact ⟨_, rfl, by rw [bI_f c2]⟩)
        rw [r1, r2]
      have loop0 : iter FU (fun q : Int32 × Int32 => f_X12_laysEnough_L38 0 (nI w) (nI n) (nI i) q.1 q.2 τ) ((0 : Int32), (0 : Int32)) = some 0 := by
        refine iter_n (f := fun q : Int32 × Int32 => f_X12_laysEnough_L38 0 (nI w) (nI n) (nI i) q.1 q.2 τ) (fun _ => ((0 : Int32), (0 : Int32))) 0 0 (by decide) (fun j hj => absurd hj (Nat.not_lt_zero j)) ?_
        show f_X12_laysEnough_L38 0 (nI w) (nI n) (nI i) 0 0 τ = _
        unfold f_X12_laysEnough_L38
        rw [bo_of (mfolk hM), ite_00]
        by_cases c : nI F ≤ (0 : Int32)
        · rw [if_pos c]
        · rw [if_neg c]
      have fin : ∃ s', (bo (xsz SM (some 11) (nI i) (bI (jst (stN A) F (ndN A W n w) i)) τ) fun σ3 => (some (Sum.inl (nI i + 1, σ3)) : Option ((Int32 × Dt) ⊕ Dt))) = some (Sum.inl s') ∧ ∃ τ, s' = (nI (i + 1), τ) ∧ KM σ τ ∧ Oth 11 σ τ ∧ ∀ s, s < i + 1 → τ.1 11 s = bI (jst (stN A) F (ndN A W n w) s) := by
        rw [z11s (by omega), nI_1]
        refine ⟨_, rfl, _, rfl, p1.tr (KM_set (by decide)), p2.tr (Oth_set τ), fun s hs => ?_⟩
        rcases (show s = i ∨ s < i by omega) with y | y
        · rw [y, setX_j]
        · rw [setX_n (by omega)]; exact p3 s y
      rw [ite_le_f (by omega) e, bo_of mrc, bo_of (m_strengths hM _ _), strA_s hvw (by omega) F hF, bo_of mrc, bo_of (msiz hM (by omega)), pk_mul]
      by_cases c : szN A w ≤ n * sumN (stN A) i F
      · rw [if_neg (Int32.not_lt.mpr (nI_le c (by omega))), bo_of (loop ((hnd _).mpr c)), mr22 hM.1]
        exact fin
      · have hj : ¬ jst (stN A) F (ndN A W n w) i := fun z => c ((hnd _).mp z.1)
        rw [if_pos (nI_lt (by omega) (by omega)), bo_of loop0, mr22 hM.1, ← bI_f hj]
        exact fin)
  obtain ⟨τ, e1, e2, e3, e4⟩ := key
  refine ⟨τ, ?_, e2, e3, e4⟩
  unfold f_X12_laysEnough
  rw [bo_of e1]
end PLM
