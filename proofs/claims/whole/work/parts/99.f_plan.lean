/-! ===== plan: the law ===== -/
theorem nI_n9 {x : Int32} (h : ¬ (x < 1 ∨ (9 : Int32) < x)) : ∃ n, 1 ≤ n ∧ n ≤ 9 ∧ x = nI n := by
  have h1 := Int32.not_lt.mp (fun z => h (Or.inl z))
  have h2 := Int32.not_lt.mp (fun z => h (Or.inr z))
  rw [Int32.le_iff_toInt_le] at h1 h2
  have e1 : (1 : Int32).toInt = 1 := rfl
  have e9 : (9 : Int32).toInt = 9 := rfl
  rw [e1] at h1
  rw [e9] at h2
  refine ⟨x.toInt.toNat, by omega, by omega, ?_⟩
  apply Int32.toInt_inj.mp
  rw [jI_n, jI_t (by omega) (by omega)]
  omega
theorem ok_plan : LK_plan Inv := by
  intro σx σm z1 z2 z3 hI
  unfold f_X11_plan f_X12_plan
  simp only [x_now hI.1, bo_s, x_rc1, mrc]
  rcases ask_V hI z1 with ⟨k, A, F, W, hk, hz, hC, e1, e2, hM, hI2⟩ | ⟨e1, e2⟩
  · have hF := hC.F10
    have hW := hC.W6
    simp only [e1, bo_s, e2, bd_s, ite_none, ite_10, x_isSpan, iInB, ite_b, x_diggers hI.1, x_rcd]
    by_cases c1 : z2 < 1 ∨ (9 : Int32) < z2
    · rw [if_pos c1, if_pos rfl, ci_f (show ¬ inI z2 1 9 from fun z => z c1)]
      exact ⟨-1, _, _, rfl, rfl, hI2⟩
    · rw [if_neg c1, if_neg (by decide), ci_t (show inI z2 1 9 from c1)]
      by_cases c2 : z3 < 0
      · rw [if_pos c2, ci_f (inI_neg c2)]
        exact ⟨-1, _, _, rfl, rfl, hI2⟩
      · rw [if_neg c2]
        by_cases c3 : z3 ≤ 2
        · rw [if_pos c3, ci_t (show inI z3 0 2 from fun z => z.elim c2 (Int32.not_lt.mpr c3))]
          obtain ⟨n, n1, n2, rfl⟩ := nI_n9 c1
          have hpW : 2 ^ W ≤ 64 := (show 2 ^ W ≤ 2 ^ 6 from Nat.pow_le_pow_right (by decide) hW)
          obtain ⟨b, q, τx, x1, x2, x3, x4, x5, x6, x7, x8, x9⟩ := x_makePlan (n := n) hC n1 n2
          have hRx := x2.ref hI.1
          have hI3 := x2.inv hI2
          obtain ⟨τm, m1, m2, m3⟩ := m_plans hM n1 n2
          have hM2 := m2.mv hM
          have hfe : FeP A F W n b := by
            obtain ⟨T, t1, t2, -⟩ := x7
            exact ⟨T, t1, t2⟩
          have hch := m_choice (x3 := z3) hM2 n1 n2 m3 x6 hfe x9
          rw [bd_of x1, bd_of m1, bo_of hch]
          have hI4 := m2.inv hI3
          by_cases c4 : z3 = 0
          · rw [if_pos c4, if_pos c4, bo_of (x_diggers hRx), d_gi, x3, bo_of (m_worths hM2 (nI b)), sumW_w hM2.vw (by omega) W hW]
            exact ⟨_, _, _, rfl, rfl, hI4⟩
          · rw [if_neg c4, if_neg c4]
            by_cases c5 : z3 = 1
            · rw [if_pos c5, if_pos c5, bo_of (x_diggers hRx), d_gi, x4]
              exact ⟨_, _, _, rfl, rfl, hI4⟩
            · rw [if_neg c5, if_neg c5, bo_of (x_diggers hRx), d_gi, x5]
              rcases m_fewOf hM2 n1 n2 m3 x6 with ⟨f1, f2⟩ | ⟨k', f0, f1, f2⟩
              · exact absurd hfe f2
              · have hkk : q = k' := by
                  obtain ⟨T, t1, t2, t3, t4⟩ := x7
                  obtain ⟨T', s1, s2, s3, s4⟩ := f2
                  have p1 := t4 T' s1 s2
                  have p2 := s4 T t1 t2
                  omega
                rw [bo_of f1, hkk]
                exact ⟨_, _, _, rfl, rfl, hI4⟩
        · rw [if_neg c3, ci_f (show ¬ inI z3 0 2 from fun z => z (Or.inr (Int32.not_le.mp c3)))]
          exact ⟨-1, _, _, rfl, rfl, hI2⟩
  · simp only [e1, bo_s, e2, bd_s]
    exact ⟨-1, _, _, rfl, rfl, hI⟩
