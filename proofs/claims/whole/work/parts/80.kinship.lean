/-! ===== kinship: the promise ===== -/
theorem ok_kinship : LK_kinship Inv := by
  intro σx σm z1 z2 z3 z4 hI _
  unfold f_X11_kinship f_X12_kinship
  simp only [x_now hI.1, bo_s, x_rc1, mrc]
  rcases ask_V hI z1 with ⟨k, A, F, W, hk, hz, hC, e1, e2, hM, hI2⟩ | ⟨e1, e2⟩
  · have hF := hC.F10
    simp only [e1, bo_s, e2, bd_s, ite_none, ite_10, crc hC.1, c_hasFolkB hC, m_isFolkB hM, ite_b]
    by_cases ca : inR z2 F
    · rw [ci_t ca, ci_t ca]
      by_cases cb : inR z3 F
      · rw [ci_t cb, ci_t cb]
        obtain ⟨a, ha, rfl⟩ := ca
        obtain ⟨b, hb, rfl⟩ := cb
        obtain ⟨τx, τm, q1, q2, q3, q4, q5⟩ := k_all hC hM (nI a) (nI b)
        obtain ⟨u, ⟨u1, -⟩, ⟨u3, -⟩, -, u6⟩ := q3 a b ha hb
        have hRx := q4.kx.ref hI.1
        have hRm := q5.km.ref hM.1
        have hnear := x_near hC ha hb q1 hRx
        rw [u1] at hnear
        have hfc := fc_le F hF
        have hb1 : 1048576 * fc F ≤ 1048576 * 3628800 := Nat.mul_le_mul_left _ hfc
        rw [bo_of (x_chance hI.1), bo_of (x_kin hI.1), bo_of x_rck, bd_of hnear, bo_of x_rcc, kin_x hRx (by omega) z4, bd_of q2, mkn hRm, show (10 : Int32) * nI a + nI b = nI (10 * a + b) by (show nI 10 * nI a + nI b = _; rw [pk_mul, nI_add]), mkl (by omega), u3, bo_of (kin_m (by omega) z4)]
        refine ⟨_, _, _, rfl, rfl, ?_⟩
        exact q5.km.inv (((q4.kx.tr KX_L).tr KX_L).inv hI2)
      · rw [ci_f cb, ci_f cb]
        exact ⟨-1, _, _, rfl, rfl, hI2⟩
    · rw [ci_f ca, ci_f ca]
      exact ⟨-1, _, _, rfl, rfl, hI2⟩
  · simp only [e1, bo_s, e2, bd_s]
    exact ⟨-1, _, _, rfl, rfl, hI⟩
