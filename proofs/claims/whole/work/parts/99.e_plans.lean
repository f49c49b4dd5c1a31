/-! ===== plan: the reference's choice; the law ===== -/
theorem Cb_s {s nd : Nat → Nat} {F w S U : Nat} : Cb s nd F (w + 1) S U ↔ (Cb s nd F w S U ∨ ∃ S0, S0 < 2 ^ w ∧ S = S0 ||| 2 ^ w ∧ ∃ V, V < 2 ^ F ∧ Cb s nd F w S0 V ∧ ad1 F (jst s F (nd w)) V U) := by
  constructor
  · rintro (⟨c, V, M, h1, h2, h3, h4, h5⟩ | ⟨c, h⟩)
    · obtain ⟨k1, k2⟩ := Cb_lt w _ _ h1
      refine Or.inr ⟨nsub S (2 ^ w), k1, ?_, V, k2, h1, M, h2, h3, h4, h5⟩
      apply Nat.eq_of_testBit_eq
      intro i
      cases e1 : S.testBit i
      · cases e2 : (nsub S (2 ^ w) ||| 2 ^ w).testBit i
        · rfl
        · rcases orTB.mp e2 with z | z
          · rw [(rm_tb.mp z).1] at e1; cases e1
          · rw [tb_pow] at z
            have : w = i := of_decide_eq_true z
            rw [← this, c] at e1; cases e1
      · symm
        by_cases d : i = w
        · exact orTB.mpr (Or.inr (by rw [tb_pow, d]; simp))
        · exact orTB.mpr (Or.inl (rm_tb.mpr ⟨e1, d⟩))
    · exact Or.inl h
  · rintro (h | ⟨S0, s1, s2, V, v1, v2, M, m1, m2, m3, m4⟩)
    · refine Or.inr ⟨fun z => ?_, h⟩
      have := tb_lt (Cb_lt w _ _ h).1 z
      omega
    · have hS : S.testBit w = true := by rw [s2]; exact orTB.mpr (Or.inr (by rw [tb_pow]; simp))
      have hrm : nsub S (2 ^ w) = S0 := by
        apply Nat.eq_of_testBit_eq
        intro i
        cases e1 : S0.testBit i
        · cases e2 : (nsub S (2 ^ w)).testBit i
          · rfl
          · obtain ⟨y1, y2⟩ := rm_tb.mp e2
            rw [s2] at y1
            rcases orTB.mp y1 with y | y
            · rw [e1] at y; cases y
            · rw [tb_pow] at y; exact absurd (of_decide_eq_true y).symm y2
        · refine rm_tb.mpr ⟨by rw [s2]; exact orTB.mpr (Or.inl e1), fun z => ?_⟩
          have := tb_lt s1 e1
          omega
      exact Or.inl ⟨hS, V, M, by rw [hrm]; exact v2, m1, m2, m3, m4⟩
section PLN
variable {σ : Dt} {o F W n : Nat} {A : Nat → Int32}
theorem m_plans (h : MV σ o A F W) (h1 : 1 ≤ n) (h2 : n ≤ 9) : ∃ τ, f_X12_laysPlans 0 (nI n) σ = some ((), τ) ∧ KM σ τ ∧ Tb τ (Cb (stN A) (ndN A W n) F W) := by
  have hF := h.F10
  have hW := h.W6
  have hp := pw_le hF
  have k1 := iter_w (f := fun q : Int32 × Dt => f_X12_laysPlans_L2 0 (nI n) q.1 q.2) (s0 := ((0 : Int32), σ)) (P := fun i q => ∃ τ, q = (nI i, τ) ∧ KM σ τ ∧ ∀ k, k < i → τ.1 10 k = 0) (Q := fun τ => KM σ τ ∧ ∀ k, k < 65536 → τ.1 10 k = 0) 65536 (by decide) ⟨σ, rfl, KM_0 _, fun k hk => absurd hk (Nat.not_lt_zero k)⟩ (fun i q hi hP => by
    obtain ⟨τ, rfl, p1, p2⟩ := hP
    dsimp only
    unfold f_X12_laysPlans_L2
    rcases (show i = 65536 ∨ i < 65536 by omega) with e | e
    · left
      subst e
      rw [if_pos (by decide)]
      exact ⟨_, rfl, p1, p2⟩
    · right
      refine ⟨e, ?_⟩
      rw [if_neg (show ¬ (65536 : Int32) ≤ nI i from nI_ge (b := 65536) e (by decide)), mr21 (p1.ref h.1), show (0 : Int32) = bI False from (bI_f id).symm, z10s e, nI_1]
      refine ⟨_, rfl, _, rfl, p1.tr (KM_set (by decide)), fun k hk => ?_⟩
      rcases (show k = i ∨ k < i by omega) with y | y
      · rw [y, setX_j, bI_f id]
      · rw [setX_n (by omega), bI_f id]; exact p2 k y)
  obtain ⟨s1, e1, c1, c2⟩ := k1
  obtain ⟨s2, hs2⟩ : ∃ s, s = setX s1 10 0 (bI True) := ⟨_, rfl⟩
  have km2 : KM σ s2 := by rw [hs2]; exact c1.tr (KM_set (by decide))
  have t2 : Tb s2 (Cb (stN A) (ndN A W n) F 0) := by
    intro S U hS hU
    rw [hs2]
    by_cases d : 1024 * S + U = 0
    · rw [d, setX_j]
      exact bI_c ⟨fun _ => ⟨by omega, by omega⟩, fun _ => trivial⟩
    · rw [setX_n d, c2 _ (by omega), bI_f]
      rintro ⟨z1, z2⟩
      omega
  have k3 := iter_w (f := fun q : Int32 × Dt => f_X12_laysPlans_L30 0 (nI n) q.1 q.2) (s0 := ((0 : Int32), s2)) (P := fun w q => ∃ τ, q = (nI w, τ) ∧ KM σ τ ∧ Tb τ (Cb (stN A) (ndN A W n) F w)) (Q := fun τ => KM σ τ ∧ Tb τ (Cb (stN A) (ndN A W n) F W)) W (by omega) ⟨s2, rfl, km2, t2⟩ (fun w q hi hP => by
    obtain ⟨τ, rfl, p1, p2⟩ := hP
    dsimp only
    have hM := p1.mv h
    unfold f_X12_laysPlans_L30
    rw [bo_of (mworks hM)]
    rcases (show w = W ∨ w < W by omega) with e | e
    · left
      subst e
      rw [if_pos (nI_le (Nat.le_refl _) (by omega))]
      exact ⟨_, rfl, p1, p2⟩
    · right
      refine ⟨e, ?_⟩
      obtain ⟨ρ, r1, r2, r3, r4⟩ := m_enough hM h1 h2 e
      have hpw : 2 ^ w ≤ 32 := (show 2 ^ w ≤ 2 ^ 5 from Nat.pow_le_pow_right (by decide) (by omega))
      have tρ : Tb ρ (Cb (stN A) (ndN A W n) F w) := fun S U hS hU => by rw [r3.1 10 (by decide)]; exact p2 S U hS hU
      have kin := iter_w (f := fun q : Int32 × Dt => f_X12_laysPlans_L46 0 (nI n) (nI w) q.1 q.2) (s0 := ((0 : Int32), ρ)) (P := fun i q => ∃ ν, q = (nI i, ν) ∧ KM σ ν ∧ (∀ s, s < 2 ^ F → ν.1 11 s = bI (jst (stN A) F (ndN A W n w) s)) ∧ Tb ν (fun S U => Cb (stN A) (ndN A W n) F w S U ∨ ∃ S0, S0 < i ∧ S = S0 ||| 2 ^ w ∧ ∃ V, V < 2 ^ F ∧ Cb (stN A) (ndN A W n) F w S0 V ∧ ad1 F (jst (stN A) F (ndN A W n w)) V U)) (Q := fun ν => KM σ ν ∧ Tb ν (Cb (stN A) (ndN A W n) F (w + 1))) (2 ^ w) (by omega) ⟨ρ, rfl, p1.tr r2, r4, fun S U hS hU => by
          rw [tρ S U hS hU]
          exact bI_c ⟨Or.inl, fun z => z.elim id (fun z => by obtain ⟨S0, z1, -⟩ := z; omega)⟩⟩ (fun i q hi hP => by
        obtain ⟨ν, rfl, u1, u2, u3⟩ := hP
        dsimp only
        have hMν := u1.mv h
        unfold f_X12_laysPlans_L46
        rw [shl1 (by omega)]
        rcases (show i = 2 ^ w ∨ i < 2 ^ w by omega) with e2 | e2
        · left
          rw [e2, if_pos (nI_le (Nat.le_refl _) (by omega))]
          refine ⟨_, rfl, u1, fun S U hS hU => ?_⟩
          rw [u3 S U hS hU, e2]
          exact bI_c Cb_s.symm
        · right
          refine ⟨e2, ?_⟩
          obtain ⟨ν', v1, v2, v3, v4⟩ := m_adds hMν (show w < 6 by omega) e2 u3 u2
          rw [ite_le_f (by omega) e2, bo_of mrc, bd_of v1, nI_1]
          refine ⟨_, rfl, _, rfl, u1.tr v2, fun s hs => by rw [v3.1 11 (by decide)]; exact u2 s hs, fun S U hS hU => ?_⟩
          rw [v4 S U hS hU]
          have hself : ∀ V, (Cb (stN A) (ndN A W n) F w i V ∨ ∃ S0, S0 < i ∧ i = S0 ||| 2 ^ w ∧ ∃ V', V' < 2 ^ F ∧ Cb (stN A) (ndN A W n) F w S0 V' ∧ ad1 F (jst (stN A) F (ndN A W n w)) V' V) → Cb (stN A) (ndN A W n) F w i V := by
            intro V z
            rcases z with z | ⟨S0, z1, z2, -⟩
            · exact z
            · have hb : i.testBit w = true := by rw [z2]; exact orTB.mpr (Or.inr (by rw [tb_pow]; simp))
              have := tb_lt e2 hb
              omega
          apply bI_c
          constructor
          · rintro ((z | ⟨S0, z1, z2⟩) | ⟨z, V, y1, y2, y3⟩)
            · exact Or.inl z
            · exact Or.inr ⟨S0, by omega, z2⟩
            · exact Or.inr ⟨i, by omega, z, V, y1, hself V y2, y3⟩
          · rintro (z | ⟨S0, z1, z2, V, y1, y2, y3⟩)
            · exact Or.inl (Or.inl z)
            · rcases (show S0 = i ∨ S0 < i by omega) with y | y
              · subst y; exact Or.inr ⟨z2, V, y1, Or.inl y2, y3⟩
              · exact Or.inl (Or.inr ⟨S0, y, z2, V, y1, y2, y3⟩))
      obtain ⟨ν, g1, g2, g3⟩ := kin
      rw [ite_le_f (by omega) e, bo_of mrc, bd_of r1, bo_of (show iter FU (fun q => f_X12_laysPlans_L46 0 (nI n) (nI w) q.1 q.2) ((0 : Int32), ρ) = _ from g1), nI_1]
      exact ⟨_, rfl, _, rfl, g2, g3⟩)
  obtain ⟨s3, e3, q1, q2⟩ := k3
  refine ⟨s3, ?_, q1, q2⟩
  unfold f_X12_laysPlans
  rw [bo_of (show iter FU (fun q => f_X12_laysPlans_L2 0 (nI n) q.1 q.2) ((0 : Int32), σ) = _ from e1), mr21 (c1.ref h.1), show (1 : Int32) = bI True from (bI_t trivial).symm, show (0 : Int32) = nI 0 from rfl, z10s (by decide), ← hs2, bo_of (show iter FU (fun q => f_X12_laysPlans_L30 0 (nI n) q.1 q.2) (nI 0, s2) = _ from e3)]
theorem m_fewOf (h : MV σ o A F W) (h1 : 1 ≤ n) (h2 : n ≤ 9) (hT : Tb σ (Cb (stN A) (ndN A W n) F W)) {S : Nat} (hS : S < 2 ^ W) : (f_X12_fewestOf 0 (nI S) σ = some 99999999 ∧ ¬ FeP A F W n S) ∨ ∃ k, k ≤ 12 ∧ f_X12_fewestOf 0 (nI S) σ = some (nI k) ∧ FwP A F W n S k := by
  have hF := h.F10
  have hW := h.W6
  have hvw := h.vw
  have hp := pw_le hF
  have hpW : 2 ^ W ≤ 64 := (show 2 ^ W ≤ 2 ^ 6 from Nat.pow_le_pow_right (by decide) hW)
  have key := iter_w (f := fun q : Int32 × Int32 => f_X12_fewestOf_L6 0 (nI S) q.1 q.2 σ) (s0 := ((99999999 : Int32), (0 : Int32))) (P := fun i q => ∃ m, q = (nI m, nI i) ∧ ((m = 99999999 ∧ ∀ U, U < i → ¬ Cb (stN A) (ndN A W n) F W S U) ∨ ∃ U, U < i ∧ Cb (stN A) (ndN A W n) F W S U ∧ m = popc U ∧ ∀ U', U' < i → Cb (stN A) (ndN A W n) F W S U' → m ≤ popc U')) (Q := fun r => ∃ m, r = nI m ∧ ((m = 99999999 ∧ ∀ U, U < 2 ^ F → ¬ Cb (stN A) (ndN A W n) F W S U) ∨ ∃ U, U < 2 ^ F ∧ Cb (stN A) (ndN A W n) F W S U ∧ m = popc U ∧ ∀ U', U' < 2 ^ F → Cb (stN A) (ndN A W n) F W S U' → m ≤ popc U')) (2 ^ F) (by omega) ⟨99999999, rfl, Or.inl ⟨rfl, fun U hU => absurd hU (Nat.not_lt_zero U)⟩⟩ (fun i q hi hP => by
    obtain ⟨m, rfl, hm⟩ := hP
    dsimp only
    unfold f_X12_fewestOf_L6 f_X12_fewestOf_44
    rw [bo_of (mfolk h), shl1 (by omega)]
    rcases (show i = 2 ^ F ∨ i < 2 ^ F by omega) with e | e
    · left
      rw [← e, if_pos (nI_le (Nat.le_refl _) (by omega))]
      exact ⟨_, rfl, m, rfl, hm⟩
    · right
      refine ⟨e, ?_⟩
      have hmb : m < 2 ^ 31 := by
        rcases hm with ⟨z, -⟩ | ⟨U, -, -, z, -⟩
        · omega
        · have := popc_le U; omega
      have hpc := popc_le i
      rw [ite_le_f (by omega) e, mr21 h.1, show (1024 : Int32) = nI 1024 from rfl, pk_mul, nI_add, z10g (by omega), hT S i (by omega) (by omega), ite_b, bo_of (mbits (by omega) _), bo_of (mbits (by omega) _), nI_1]
      by_cases c : Cb (stN A) (ndN A W n) F W S i
      · rw [ci_t c]
        by_cases d : m ≤ popc i
        · rw [ite_le_t (by omega) d]
          refine ⟨_, rfl, m, rfl, ?_⟩
          rcases hm with ⟨z, -⟩ | ⟨U, u1, u2, u3, u4⟩
          · omega
          · refine Or.inr ⟨U, by omega, u2, u3, fun U' v1 v2 => ?_⟩
            rcases (show U' = i ∨ U' < i by omega) with y | y
            · rw [y]; exact d
            · exact u4 U' y v2
        · rw [ite_le_f (by omega) (by omega)]
          refine ⟨_, rfl, popc i, rfl, Or.inr ⟨i, by omega, c, rfl, fun U' v1 v2 => ?_⟩⟩
          rcases (show U' = i ∨ U' < i by omega) with y | y
          · rw [y]; exact Nat.le_refl _
          · rcases hm with ⟨-, z⟩ | ⟨U, u1, u2, u3, u4⟩
            · exact absurd v2 (z U' y)
            · have := u4 U' y v2; omega
      · rw [ci_f c]
        refine ⟨_, rfl, m, rfl, ?_⟩
        rcases hm with ⟨z1, z2⟩ | ⟨U, u1, u2, u3, u4⟩
        · refine Or.inl ⟨z1, fun U hU => ?_⟩
          rcases (show U = i ∨ U < i by omega) with y | y
          · rw [y]; exact c
          · exact z2 U y
        · refine Or.inr ⟨U, by omega, u2, u3, fun U' v1 v2 => ?_⟩
          rcases (show U' = i ∨ U' < i by omega) with y | y
          · rw [y] at v2; exact absurd v2 c
          · exact u4 U' y v2)
  obtain ⟨r, e1, m, rfl, hm⟩ := key
  have hn1 : ∀ v, v < W → 1 ≤ ndN A W n v := fun v hv => (ndN_b hvw hW h1 h2 hv).1
  have hf : f_X12_fewestOf 0 (nI S) σ = some (nI m) := by
    unfold f_X12_fewestOf
    rw [bo_of e1]
  rcases hm with ⟨z1, z2⟩ | ⟨U, u1, u2, u3, u4⟩
  · refine Or.inl ⟨by rw [hf, z1]; rfl, ?_⟩
    rintro ⟨T, t1, t2⟩
    obtain ⟨U, q1, q2⟩ := DS_Cb W S T hn1 hS t1 t2
    exact z2 U (Cb_lt W S U q2).2 q2
  · refine Or.inr ⟨m, by rw [u3]; exact popc_le U, hf, U, u1, Cb_DS W S U u2, u3, fun T' t1 t2 => ?_⟩
    obtain ⟨U', q1, q2⟩ := DS_Cb W S T' hn1 hS t1 t2
    have h3 := u4 U' (Cb_lt W S U' q2).2 q2
    have h4 : popc U' ≤ popc T' := popK_mono 12 (fun i _ hi => sub_0.mp q1 i hi)
    omega
theorem m_choice (h : MV σ o A F W) (h1 : 1 ≤ n) (h2 : n ≤ 9) (hT : Tb σ (Cb (stN A) (ndN A W n) F W)) {x3 : Int32} {b : Nat} (hb : b < 2 ^ W) (hfb : FeP A F W n b) (hbm : ∀ s, s < 2 ^ W → FeP A F W n s → sumN (woN A) s W ≤ sumN (woN A) b W ∧ (s < b → sumN (woN A) s W < sumN (woN A) b W)) : iter FU (fun s => f_X12_plan_L40 0 x3 s.1 s.2 σ) ((0 : Int32), (1 : Int32)) = some (nI b) := by
  have hF := h.F10
  have hW := h.W6
  have hvw := h.vw
  have hpW : 2 ^ W ≤ 64 := (show 2 ^ W ≤ 2 ^ 6 from Nat.pow_le_pow_right (by decide) hW)
  have hp0 := Nat.two_pow_pos W
  have hwo : ∀ s, s < 64 → f_X12_worths 0 (nI s) σ = some (nI (sumN (woN A) s W)) := fun s hs => by rw [m_worths h, sumW_w hvw (by omega) W hW]
  have hwb : ∀ s, sumN (woN A) s W ≤ 120 := fun s => by
    have := sumN_le (f := woN A) (s := s) (M := 20) W (fun w hw => (hvw.wk (show w < 6 by omega)).2.1.2)
    omega
  have hf0 : FeP A F W n 0 := ⟨0, Nat.two_pow_pos F, DS_00 W 0⟩
  have key := iter_w (f := fun q : Int32 × Int32 => f_X12_plan_L40 0 x3 q.1 q.2 σ) (s0 := ((0 : Int32), (1 : Int32))) (P := fun j q => ∃ c, q = (nI c, nI (j + 1)) ∧ c < j + 1 ∧ c < 2 ^ W ∧ FeP A F W n c ∧ ∀ s, s < j + 1 → FeP A F W n s → sumN (woN A) s W ≤ sumN (woN A) c W ∧ (s < c → sumN (woN A) s W < sumN (woN A) c W)) (Q := fun r => r = nI b) (2 ^ W - 1) (by omega) ⟨0, rfl, by omega, hp0, hf0, fun s hs _ => ⟨by rw [show s = 0 by omega]; exact Nat.le_refl _, fun z => by omega⟩⟩ (fun j q hj hP => by
    obtain ⟨c, rfl, c0, c1, c2, c3⟩ := hP
    dsimp only
    unfold f_X12_plan_L40 f_X12_plan_82
    rw [bo_of (mworks h), shl1 (by omega)]
    rcases (show j + 1 = 2 ^ W ∨ j + 1 < 2 ^ W by omega) with e | e
    · left
      rw [e, if_pos (nI_le (Nat.le_refl _) (by omega))]
      refine ⟨_, rfl, ?_⟩
      obtain ⟨u1, u2⟩ := hbm c c1 c2
      obtain ⟨u3, u4⟩ := c3 b (by omega) hfb
      rcases (show c = b ∨ c < b ∨ b < c by omega) with y | y | y
      · rw [y]
      · have := u2 y; omega
      · have := u4 y; omega
    · right
      refine ⟨by omega, ?_⟩
      have w1 := hwb (j + 1)
      have w2 := hwb c
      rw [ite_le_f (by omega) e, bo_of mrc, bo_of (hwo (j + 1) (by omega)), bo_of mrc, bo_of (hwo c (by omega)), bo_of mrc, nI_1]
      by_cases d : sumN (woN A) (j + 1) W ≤ sumN (woN A) c W
      · rw [ite_le_t (by omega) d]
        refine ⟨_, rfl, c, rfl, by omega, c1, c2, fun s hs hf => ?_⟩
        rcases (show s = j + 1 ∨ s < j + 1 by omega) with y | y
        · subst y
          refine ⟨d, fun z => ?_⟩
          omega
        · exact c3 s y hf
      · rw [ite_le_f (by omega) (by omega)]
        rcases m_fewOf h h1 h2 hT (show j + 1 < 2 ^ W from e) with ⟨f1, f2⟩ | ⟨k, k1, f1, f2⟩
        · rw [bo_of f1, if_pos (by decide)]
          refine ⟨_, rfl, c, rfl, by omega, c1, c2, fun s hs hf => ?_⟩
          rcases (show s = j + 1 ∨ s < j + 1 by omega) with y | y
          · subst y; exact absurd hf f2
          · exact c3 s y hf
        · rw [bo_of f1, if_neg (show ¬ (99999999 : Int32) ≤ nI k from nI_ge (b := 99999999) (by omega) (by decide))]
          obtain ⟨T, t1, t2, -⟩ := f2
          refine ⟨_, rfl, j + 1, rfl, by omega, e, ⟨T, t1, t2⟩, fun s hs hf => ?_⟩
          rcases (show s = j + 1 ∨ s < j + 1 by omega) with y | y
          · rw [y]; exact ⟨Nat.le_refl _, fun z => by omega⟩
          · have := (c3 s y hf).1
            exact ⟨by omega, fun _ => by omega⟩)
  obtain ⟨r, e1, e2⟩ := key
  rw [show iter FU (fun s => f_X12_plan_L40 0 x3 s.1 s.2 σ) ((0 : Int32), (1 : Int32)) = _ from e1, e2]
end PLN
