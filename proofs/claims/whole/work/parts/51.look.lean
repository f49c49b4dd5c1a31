/-! ===== looks at a valley, a life, a sight ===== -/
section LOOKV
variable {σ : Dt} {v o F W : Nat} {A : Nat → Int32}
theorem c_hasFolkB (h : CV σ v A F W) (x : Int32) : f_X9_hasFolk v x σ = some (bI (inR x F)) := bI_of (c_hasFolk h x)
theorem c_hasWorkB (h : CV σ v A F W) (x : Int32) : f_X9_hasWork v x σ = some (bI (inR x W)) := bI_of (c_hasWork h x)
theorem m_isFolkB (h : MV σ o A F W) (x : Int32) : f_X12_isFolk 0 x σ = some (bI (inR x F)) := bI_of (m_isFolk h x)
theorem m_isWorkB (h : MV σ o A F W) (x : Int32) : f_X12_isWork 0 x σ = some (bI (inR x W)) := bI_of (m_isWork h x)
theorem CV.age (h : CV σ v A F W) (f : Nat) (hf : f < F) : σ.1 (v + 1) f = A (3 + 4 * f) := (h.rf hf).1
theorem CV.str (h : CV σ v A F W) (f : Nat) (hf : f < F) : σ.1 (v + 2) f = A (4 + 4 * f) := (h.rf hf).2
theorem CV.par (h : CV σ v A F W) (f : Nat) (hf : f < 10) : σ.1 (v + 3) f = A (5 + 4 * f) := (h.2.2.1.2.2.2.1 f hf).2.1
theorem CV.gra (h : CV σ v A F W) (f : Nat) (hf : f < 10) : σ.1 (v + 4) f = A (6 + 4 * f) := (h.2.2.1.2.2.2.1 f hf).2.2
theorem CV.siz (h : CV σ v A F W) (w : Nat) (hw : w < W) : σ.1 (v + 6) w = A (43 + 2 * w) := (h.rw hw).1
theorem CV.wor (h : CV σ v A F W) (w : Nat) (hw : w < W) : σ.1 (v + 7) w = A (44 + 2 * w) := (h.rw hw).2
theorem CV.bou (h : CV σ v A F W) : σ.1 v 2 = A 2 := h.2.2.1.2.2.1
theorem MV.row (h : MV σ o A F W) (i : Nat) (hi : i < 55) : σ.1 1 (o + i) = A i := h.2.2.2.2.2.1 i hi
theorem MV.ob (h : MV σ o A F W) : o + 55 ≤ 1078 := h.2.2.2.2.1
theorem MV.at (h : MV σ o A F W) (i j : Nat) (hj : j < 55) (e : i = o + j) : xai SM (some 1) (nI i) σ = some (A j) := by
  have := h.ob
  rw [e, mai _ _ (by omega), h.row j hj]
theorem MV.F10 (h : MV σ o A F W) : F ≤ 10 := h.2.2.2.2.2.2.2.2.1
theorem MV.W6 (h : MV σ o A F W) : W ≤ 6 := h.2.2.2.2.2.2.2.2.2.1
theorem MV.fo (h : MV σ o A F W) : σ.1 0 12 = nI F := h.2.2.1
theorem MV.wo (h : MV σ o A F W) : σ.1 0 13 = nI W := h.2.2.2.1
theorem MV.v0 (h : MV σ o A F W) : σ.1 0 11 = nI o := h.2.1
end LOOKV
/-- what a look at a valley shows -/
def lookN (A : Nat → Int32) (F W m : Nat) : Int32 := if m < 3 then A m else if m < 10 then -1 else if m < 50 then (if m % 10 < F then A (3 + 4 * (m % 10) + (m / 10 - 1)) else -1) else if m < 70 then (if m % 10 < W then A (43 + 2 * (m % 10) + (m / 10 - 5)) else -1) else -1
theorem look_split (m : Nat) : m = 0 ∨ m = 1 ∨ m = 2 ∨ (3 ≤ m ∧ m < 10) ∨ (∃ j, j < 10 ∧ m = 10 + j) ∨ (∃ j, j < 10 ∧ m = 20 + j) ∨ (∃ j, j < 10 ∧ m = 30 + j) ∨ (∃ j, j < 10 ∧ m = 40 + j) ∨ (∃ j, j < 10 ∧ m = 50 + j) ∨ (∃ j, j < 10 ∧ m = 60 + j) ∨ 70 ≤ m := by
  rcases (show m = 0 ∨ m = 1 ∨ m = 2 ∨ (3 ≤ m ∧ m < 10) ∨ (10 ≤ m ∧ m < 20) ∨ (20 ≤ m ∧ m < 30) ∨ (30 ≤ m ∧ m < 40) ∨ (40 ≤ m ∧ m < 50) ∨ (50 ≤ m ∧ m < 60) ∨ (60 ≤ m ∧ m < 70) ∨ 70 ≤ m by omega) with q | q | q | q | q | q | q | q | q | q | q
  · exact Or.inl q
  · exact Or.inr (Or.inl q)
  · exact Or.inr (Or.inr (Or.inl q))
  · exact Or.inr (Or.inr (Or.inr (Or.inl q)))
  · exact Or.inr (Or.inr (Or.inr (Or.inr (Or.inl ⟨m - 10, by omega, by omega⟩))))
  · exact Or.inr (Or.inr (Or.inr (Or.inr (Or.inr (Or.inl ⟨m - 20, by omega, by omega⟩)))))
  · exact Or.inr (Or.inr (Or.inr (Or.inr (Or.inr (Or.inr (Or.inl ⟨m - 30, by omega, by omega⟩))))))
  · exact Or.inr (Or.inr (Or.inr (Or.inr (Or.inr (Or.inr (Or.inr (Or.inl ⟨m - 40, by omega, by omega⟩)))))))
  · exact Or.inr (Or.inr (Or.inr (Or.inr (Or.inr (Or.inr (Or.inr (Or.inr (Or.inl ⟨m - 50, by omega, by omega⟩))))))))
  · exact Or.inr (Or.inr (Or.inr (Or.inr (Or.inr (Or.inr (Or.inr (Or.inr (Or.inr (Or.inl ⟨m - 60, by omega, by omega⟩)))))))))
  · exact Or.inr (Or.inr (Or.inr (Or.inr (Or.inr (Or.inr (Or.inr (Or.inr (Or.inr (Or.inr q)))))))))
theorem c_look {σ : Dt} {v F W : Nat} {A : Nat → Int32} (h : CV σ v A F W) {m : Nat} (hm : m < 2 ^ 31) : f_X9_look v (nI m) σ = some (lookN A F W m) := by
  have hF := h.F10
  have hW := h.W6
  unfold f_X9_look lookN
  simp only [bo_s, crc h.1, c_hasFolkB h, c_hasWorkB h, ite_b]
  simp only [i0, i1, i2, i3, i4, i5, i6, i7, i8, i9, i10, i11, i12, i15, i16, i20, i21, i26, i29, i30, i31, i39, i40, i50, i51, i60, i63, i64, i71, i99, i100, i255, i600, i610, i720, i1024, i1042, i1078]
  rcases look_split m with rfl | rfl | rfl | q | ⟨j, hj, rfl⟩ | ⟨j, hj, rfl⟩ | ⟨j, hj, rfl⟩ | ⟨j, hj, rfl⟩ | ⟨j, hj, rfl⟩ | ⟨j, hj, rfl⟩ | q
  · simp (disch := omega) only [↓ite_eq_t, ↓ite_eq_f, ↓ite_le_t, ↓ite_le_f, ↓ite_lt_t, ↓ite_lt_f, ↓ite_none, ↓ite_10, ↓ite_00, ↓ite_10n, ↓ci_sub_t, ↓ci_sub_f, ↓ci_in_t, ↓ci_in_f, ↓ite_or_t, ↓ite_or_f, ↓ci_inI_t, ↓ci_inI_f, ↓reduceIte, ↓if_pos, ↓if_neg, cgi h.1, bo_s, h.2.2.1.1]
  · simp (disch := omega) only [↓ite_eq_t, ↓ite_eq_f, ↓ite_le_t, ↓ite_le_f, ↓ite_lt_t, ↓ite_lt_f, ↓ite_none, ↓ite_10, ↓ite_00, ↓ite_10n, ↓ci_sub_t, ↓ci_sub_f, ↓ci_in_t, ↓ci_in_f, ↓ite_or_t, ↓ite_or_f, ↓ci_inI_t, ↓ci_inI_f, ↓reduceIte, ↓if_pos, ↓if_neg, cgi h.1, bo_s, h.2.2.1.2.1]
  · simp (disch := omega) only [↓ite_eq_t, ↓ite_eq_f, ↓ite_le_t, ↓ite_le_f, ↓ite_lt_t, ↓ite_lt_f, ↓ite_none, ↓ite_10, ↓ite_00, ↓ite_10n, ↓ci_sub_t, ↓ci_sub_f, ↓ci_in_t, ↓ci_in_f, ↓ite_or_t, ↓ite_or_f, ↓ci_inI_t, ↓ci_inI_f, ↓reduceIte, ↓if_pos, ↓if_neg, cgi h.1, bo_s, h.bou]
  · simp (disch := omega) only [↓ite_eq_t, ↓ite_eq_f, ↓ite_le_t, ↓ite_le_f, ↓ite_lt_t, ↓ite_lt_f, ↓ite_none, ↓ite_10, ↓ite_00, ↓ite_10n, ↓ci_sub_t, ↓ci_sub_f, ↓ci_in_t, ↓ci_in_f, ↓ite_or_t, ↓ite_or_f, ↓ci_inI_t, ↓ci_inI_f, ↓reduceIte, ↓if_pos, ↓if_neg]
  · by_cases c : j < F
    · simp (disch := omega) only [↓ite_eq_t, ↓ite_eq_f, ↓ite_le_t, ↓ite_le_f, ↓ite_lt_t, ↓ite_lt_f, ↓ite_none, ↓ite_10, ↓ite_00, ↓ite_10n, ↓ci_sub_t, ↓ci_sub_f, ↓ci_in_t, ↓ci_in_f, ↓ite_or_t, ↓ite_or_f, ↓ci_inI_t, ↓ci_inI_f, ↓reduceIte, ↓if_pos, ↓if_neg, cages h.1 h.2.1, bo_s, pk_sub, cai1 h.1, h.age, Nat.add_sub_cancel_left]
      exact congrArg some (congrArg A (by omega))
    · simp (disch := omega) only [↓ite_eq_t, ↓ite_eq_f, ↓ite_le_t, ↓ite_le_f, ↓ite_lt_t, ↓ite_lt_f, ↓ite_none, ↓ite_10, ↓ite_00, ↓ite_10n, ↓ci_sub_t, ↓ci_sub_f, ↓ci_in_t, ↓ci_in_f, ↓ite_or_t, ↓ite_or_f, ↓ci_inI_t, ↓ci_inI_f, ↓reduceIte, ↓if_pos, ↓if_neg]
  · by_cases c : j < F
    · simp (disch := omega) only [↓ite_eq_t, ↓ite_eq_f, ↓ite_le_t, ↓ite_le_f, ↓ite_lt_t, ↓ite_lt_f, ↓ite_none, ↓ite_10, ↓ite_00, ↓ite_10n, ↓ci_sub_t, ↓ci_sub_f, ↓ci_in_t, ↓ci_in_f, ↓ite_or_t, ↓ite_or_f, ↓ci_inI_t, ↓ci_inI_f, ↓reduceIte, ↓if_pos, ↓if_neg, cstrs h.1 h.2.1, bo_s, pk_sub, cai2 h.1, h.str, Nat.add_sub_cancel_left]
      exact congrArg some (congrArg A (by omega))
    · simp (disch := omega) only [↓ite_eq_t, ↓ite_eq_f, ↓ite_le_t, ↓ite_le_f, ↓ite_lt_t, ↓ite_lt_f, ↓ite_none, ↓ite_10, ↓ite_00, ↓ite_10n, ↓ci_sub_t, ↓ci_sub_f, ↓ci_in_t, ↓ci_in_f, ↓ite_or_t, ↓ite_or_f, ↓ci_inI_t, ↓ci_inI_f, ↓reduceIte, ↓if_pos, ↓if_neg]
  · by_cases c : j < F
    · simp (disch := omega) only [↓ite_eq_t, ↓ite_eq_f, ↓ite_le_t, ↓ite_le_f, ↓ite_lt_t, ↓ite_lt_f, ↓ite_none, ↓ite_10, ↓ite_00, ↓ite_10n, ↓ci_sub_t, ↓ci_sub_f, ↓ci_in_t, ↓ci_in_f, ↓ite_or_t, ↓ite_or_f, ↓ci_inI_t, ↓ci_inI_f, ↓reduceIte, ↓if_pos, ↓if_neg, cpars h.1 h.2.1, bo_s, pk_sub, cai3 h.1, h.par, Nat.add_sub_cancel_left]
      exact congrArg some (congrArg A (by omega))
    · simp (disch := omega) only [↓ite_eq_t, ↓ite_eq_f, ↓ite_le_t, ↓ite_le_f, ↓ite_lt_t, ↓ite_lt_f, ↓ite_none, ↓ite_10, ↓ite_00, ↓ite_10n, ↓ci_sub_t, ↓ci_sub_f, ↓ci_in_t, ↓ci_in_f, ↓ite_or_t, ↓ite_or_f, ↓ci_inI_t, ↓ci_inI_f, ↓reduceIte, ↓if_pos, ↓if_neg]
  · by_cases c : j < F
    · simp (disch := omega) only [↓ite_eq_t, ↓ite_eq_f, ↓ite_le_t, ↓ite_le_f, ↓ite_lt_t, ↓ite_lt_f, ↓ite_none, ↓ite_10, ↓ite_00, ↓ite_10n, ↓ci_sub_t, ↓ci_sub_f, ↓ci_in_t, ↓ci_in_f, ↓ite_or_t, ↓ite_or_f, ↓ci_inI_t, ↓ci_inI_f, ↓reduceIte, ↓if_pos, ↓if_neg, cgrands h.1 h.2.1, bo_s, pk_sub, cai4 h.1, h.gra, Nat.add_sub_cancel_left]
      exact congrArg some (congrArg A (by omega))
    · simp (disch := omega) only [↓ite_eq_t, ↓ite_eq_f, ↓ite_le_t, ↓ite_le_f, ↓ite_lt_t, ↓ite_lt_f, ↓ite_none, ↓ite_10, ↓ite_00, ↓ite_10n, ↓ci_sub_t, ↓ci_sub_f, ↓ci_in_t, ↓ci_in_f, ↓ite_or_t, ↓ite_or_f, ↓ci_inI_t, ↓ci_inI_f, ↓reduceIte, ↓if_pos, ↓if_neg]
  · by_cases c : j < W
    · simp (disch := omega) only [↓ite_eq_t, ↓ite_eq_f, ↓ite_le_t, ↓ite_le_f, ↓ite_lt_t, ↓ite_lt_f, ↓ite_none, ↓ite_10, ↓ite_00, ↓ite_10n, ↓ci_sub_t, ↓ci_sub_f, ↓ci_in_t, ↓ci_in_f, ↓ite_or_t, ↓ite_or_f, ↓ci_inI_t, ↓ci_inI_f, ↓reduceIte, ↓if_pos, ↓if_neg, csizes h.1 h.2.1, bo_s, pk_sub, cai6 h.1, h.siz, Nat.add_sub_cancel_left]
      exact congrArg some (congrArg A (by omega))
    · simp (disch := omega) only [↓ite_eq_t, ↓ite_eq_f, ↓ite_le_t, ↓ite_le_f, ↓ite_lt_t, ↓ite_lt_f, ↓ite_none, ↓ite_10, ↓ite_00, ↓ite_10n, ↓ci_sub_t, ↓ci_sub_f, ↓ci_in_t, ↓ci_in_f, ↓ite_or_t, ↓ite_or_f, ↓ci_inI_t, ↓ci_inI_f, ↓reduceIte, ↓if_pos, ↓if_neg]
  · by_cases c : j < W
    · simp (disch := omega) only [↓ite_eq_t, ↓ite_eq_f, ↓ite_le_t, ↓ite_le_f, ↓ite_lt_t, ↓ite_lt_f, ↓ite_none, ↓ite_10, ↓ite_00, ↓ite_10n, ↓ci_sub_t, ↓ci_sub_f, ↓ci_in_t, ↓ci_in_f, ↓ite_or_t, ↓ite_or_f, ↓ci_inI_t, ↓ci_inI_f, ↓reduceIte, ↓if_pos, ↓if_neg, cworths h.1 h.2.1, bo_s, pk_sub, cai7 h.1, h.wor, Nat.add_sub_cancel_left]
      exact congrArg some (congrArg A (by omega))
    · simp (disch := omega) only [↓ite_eq_t, ↓ite_eq_f, ↓ite_le_t, ↓ite_le_f, ↓ite_lt_t, ↓ite_lt_f, ↓ite_none, ↓ite_10, ↓ite_00, ↓ite_10n, ↓ci_sub_t, ↓ci_sub_f, ↓ci_in_t, ↓ci_in_f, ↓ite_or_t, ↓ite_or_f, ↓ci_inI_t, ↓ci_inI_f, ↓reduceIte, ↓if_pos, ↓if_neg]
  · simp (disch := omega) only [↓ite_eq_t, ↓ite_eq_f, ↓ite_le_t, ↓ite_le_f, ↓ite_lt_t, ↓ite_lt_f, ↓ite_none, ↓ite_10, ↓ite_00, ↓ite_10n, ↓ci_sub_t, ↓ci_sub_f, ↓ci_in_t, ↓ci_in_f, ↓ite_or_t, ↓ite_or_f, ↓ci_inI_t, ↓ci_inI_f, ↓reduceIte, ↓if_pos, ↓if_neg]
theorem m_look {σ : Dt} {o F W : Nat} {A : Nat → Int32} (h : MV σ o A F W) {m : Nat} (hm : m < 2 ^ 31) {z1 : Int32} {σ0 : Dt} (e : f_X12_isValley 0 z1 σ0 = some (1, σ)) : f_X12_valley 0 z1 (nI m) σ0 = some (lookN A F W m, σ) := by
  have hF := h.F10
  have hW := h.W6
  have ho := h.ob
  unfold f_X12_valley f_X12_valley_80 lookN
  simp only [bo_s, bd_s, mrc, e, iInB, mgi, mgr, mall h.1, h.v0, m_isFolkB h, m_isWorkB h, ite_b, ite_10]
  simp only [i0, i1, i2, i3, i4, i5, i6, i7, i8, i9, i10, i11, i12, i15, i16, i20, i21, i26, i29, i30, i31, i39, i40, i50, i51, i60, i63, i64, i71, i99, i100, i255, i600, i610, i720, i1024, i1042, i1078]
  simp (disch := omega) only [↓pk_rem, pk_div]
  rcases look_split m with rfl | rfl | rfl | q | ⟨j, hj, rfl⟩ | ⟨j, hj, rfl⟩ | ⟨j, hj, rfl⟩ | ⟨j, hj, rfl⟩ | ⟨j, hj, rfl⟩ | ⟨j, hj, rfl⟩ | q
  · simp (disch := omega) only [↓ite_eq_t, ↓ite_eq_f, ↓ite_le_t, ↓ite_le_f, ↓ite_lt_t, ↓ite_lt_f, ↓ite_none, ↓ite_10, ↓ite_00, ↓ite_10n, ↓ci_sub_t, ↓ci_sub_f, ↓ci_in_t, ↓ci_in_f, ↓ite_or_t, ↓ite_or_f, ↓ci_inI_t, ↓ci_inI_f, ↓reduceIte, ↓if_pos, ↓if_neg, nI_add, bo_s]
    rw [h.at _ 0 (by decide) rfl]
    rfl
  · simp (disch := omega) only [↓ite_eq_t, ↓ite_eq_f, ↓ite_le_t, ↓ite_le_f, ↓ite_lt_t, ↓ite_lt_f, ↓ite_none, ↓ite_10, ↓ite_00, ↓ite_10n, ↓ci_sub_t, ↓ci_sub_f, ↓ci_in_t, ↓ci_in_f, ↓ite_or_t, ↓ite_or_f, ↓ci_inI_t, ↓ci_inI_f, ↓reduceIte, ↓if_pos, ↓if_neg, nI_add, bo_s]
    rw [h.at _ 1 (by decide) rfl]
    rfl
  · simp (disch := omega) only [↓ite_eq_t, ↓ite_eq_f, ↓ite_le_t, ↓ite_le_f, ↓ite_lt_t, ↓ite_lt_f, ↓ite_none, ↓ite_10, ↓ite_00, ↓ite_10n, ↓ci_sub_t, ↓ci_sub_f, ↓ci_in_t, ↓ci_in_f, ↓ite_or_t, ↓ite_or_f, ↓ci_inI_t, ↓ci_inI_f, ↓reduceIte, ↓if_pos, ↓if_neg, nI_add, bo_s]
    rw [h.at _ 2 (by decide) rfl]
    rfl
  · simp (disch := omega) only [↓ite_eq_t, ↓ite_eq_f, ↓ite_le_t, ↓ite_le_f, ↓ite_lt_t, ↓ite_lt_f, ↓ite_none, ↓ite_10, ↓ite_00, ↓ite_10n, ↓ci_sub_t, ↓ci_sub_f, ↓ci_in_t, ↓ci_in_f, ↓ite_or_t, ↓ite_or_f, ↓ci_inI_t, ↓ci_inI_f, ↓reduceIte, ↓if_pos, ↓if_neg]
  · by_cases c : j < F
    · simp (disch := omega) only [↓ite_eq_t, ↓ite_eq_f, ↓ite_le_t, ↓ite_le_f, ↓ite_lt_t, ↓ite_lt_f, ↓ite_none, ↓ite_10, ↓ite_00, ↓ite_10n, ↓ci_sub_t, ↓ci_sub_f, ↓ci_in_t, ↓ci_in_f, ↓ite_or_t, ↓ite_or_f, ↓ci_inI_t, ↓ci_inI_f, ↓reduceIte, ↓if_pos, ↓if_neg, nI_add, pk_mul, pk_sub]
      rw [h.at _ (3 + 4 * j + 0) (by omega) (by omega), bo_s, show 3 + 4 * ((10 + j) % 10) + ((10 + j) / 10 - 1) = 3 + 4 * j + 0 by omega]
    · simp (disch := omega) only [↓ite_eq_t, ↓ite_eq_f, ↓ite_le_t, ↓ite_le_f, ↓ite_lt_t, ↓ite_lt_f, ↓ite_none, ↓ite_10, ↓ite_00, ↓ite_10n, ↓ci_sub_t, ↓ci_sub_f, ↓ci_in_t, ↓ci_in_f, ↓ite_or_t, ↓ite_or_f, ↓ci_inI_t, ↓ci_inI_f, ↓reduceIte, ↓if_pos, ↓if_neg]
  · by_cases c : j < F
    · simp (disch := omega) only [↓ite_eq_t, ↓ite_eq_f, ↓ite_le_t, ↓ite_le_f, ↓ite_lt_t, ↓ite_lt_f, ↓ite_none, ↓ite_10, ↓ite_00, ↓ite_10n, ↓ci_sub_t, ↓ci_sub_f, ↓ci_in_t, ↓ci_in_f, ↓ite_or_t, ↓ite_or_f, ↓ci_inI_t, ↓ci_inI_f, ↓reduceIte, ↓if_pos, ↓if_neg, nI_add, pk_mul, pk_sub]
      rw [h.at _ (3 + 4 * j + 1) (by omega) (by omega), bo_s, show 3 + 4 * ((20 + j) % 10) + ((20 + j) / 10 - 1) = 3 + 4 * j + 1 by omega]
    · simp (disch := omega) only [↓ite_eq_t, ↓ite_eq_f, ↓ite_le_t, ↓ite_le_f, ↓ite_lt_t, ↓ite_lt_f, ↓ite_none, ↓ite_10, ↓ite_00, ↓ite_10n, ↓ci_sub_t, ↓ci_sub_f, ↓ci_in_t, ↓ci_in_f, ↓ite_or_t, ↓ite_or_f, ↓ci_inI_t, ↓ci_inI_f, ↓reduceIte, ↓if_pos, ↓if_neg]
  · by_cases c : j < F
    · simp (disch := omega) only [↓ite_eq_t, ↓ite_eq_f, ↓ite_le_t, ↓ite_le_f, ↓ite_lt_t, ↓ite_lt_f, ↓ite_none, ↓ite_10, ↓ite_00, ↓ite_10n, ↓ci_sub_t, ↓ci_sub_f, ↓ci_in_t, ↓ci_in_f, ↓ite_or_t, ↓ite_or_f, ↓ci_inI_t, ↓ci_inI_f, ↓reduceIte, ↓if_pos, ↓if_neg, nI_add, pk_mul, pk_sub]
      rw [h.at _ (3 + 4 * j + 2) (by omega) (by omega), bo_s, show 3 + 4 * ((30 + j) % 10) + ((30 + j) / 10 - 1) = 3 + 4 * j + 2 by omega]
    · simp (disch := omega) only [↓ite_eq_t, ↓ite_eq_f, ↓ite_le_t, ↓ite_le_f, ↓ite_lt_t, ↓ite_lt_f, ↓ite_none, ↓ite_10, ↓ite_00, ↓ite_10n, ↓ci_sub_t, ↓ci_sub_f, ↓ci_in_t, ↓ci_in_f, ↓ite_or_t, ↓ite_or_f, ↓ci_inI_t, ↓ci_inI_f, ↓reduceIte, ↓if_pos, ↓if_neg]
  · by_cases c : j < F
    · simp (disch := omega) only [↓ite_eq_t, ↓ite_eq_f, ↓ite_le_t, ↓ite_le_f, ↓ite_lt_t, ↓ite_lt_f, ↓ite_none, ↓ite_10, ↓ite_00, ↓ite_10n, ↓ci_sub_t, ↓ci_sub_f, ↓ci_in_t, ↓ci_in_f, ↓ite_or_t, ↓ite_or_f, ↓ci_inI_t, ↓ci_inI_f, ↓reduceIte, ↓if_pos, ↓if_neg, nI_add, pk_mul, pk_sub]
      rw [h.at _ (3 + 4 * j + 3) (by omega) (by omega), bo_s, show 3 + 4 * ((40 + j) % 10) + ((40 + j) / 10 - 1) = 3 + 4 * j + 3 by omega]
    · simp (disch := omega) only [↓ite_eq_t, ↓ite_eq_f, ↓ite_le_t, ↓ite_le_f, ↓ite_lt_t, ↓ite_lt_f, ↓ite_none, ↓ite_10, ↓ite_00, ↓ite_10n, ↓ci_sub_t, ↓ci_sub_f, ↓ci_in_t, ↓ci_in_f, ↓ite_or_t, ↓ite_or_f, ↓ci_inI_t, ↓ci_inI_f, ↓reduceIte, ↓if_pos, ↓if_neg]
  · by_cases c : j < W
    · simp (disch := omega) only [↓ite_eq_t, ↓ite_eq_f, ↓ite_le_t, ↓ite_le_f, ↓ite_lt_t, ↓ite_lt_f, ↓ite_none, ↓ite_10, ↓ite_00, ↓ite_10n, ↓ci_sub_t, ↓ci_sub_f, ↓ci_in_t, ↓ci_in_f, ↓ite_or_t, ↓ite_or_f, ↓ci_inI_t, ↓ci_inI_f, ↓reduceIte, ↓if_pos, ↓if_neg, m_much h, m_worth h, bo_s]
      rw [show (50 + j) % 10 = j by omega, show (50 + j) / 10 - 5 = 0 by omega, Nat.add_zero]
    · simp (disch := omega) only [↓ite_eq_t, ↓ite_eq_f, ↓ite_le_t, ↓ite_le_f, ↓ite_lt_t, ↓ite_lt_f, ↓ite_none, ↓ite_10, ↓ite_00, ↓ite_10n, ↓ci_sub_t, ↓ci_sub_f, ↓ci_in_t, ↓ci_in_f, ↓ite_or_t, ↓ite_or_f, ↓ci_inI_t, ↓ci_inI_f, ↓reduceIte, ↓if_pos, ↓if_neg]
  · by_cases c : j < W
    · simp (disch := omega) only [↓ite_eq_t, ↓ite_eq_f, ↓ite_le_t, ↓ite_le_f, ↓ite_lt_t, ↓ite_lt_f, ↓ite_none, ↓ite_10, ↓ite_00, ↓ite_10n, ↓ci_sub_t, ↓ci_sub_f, ↓ci_in_t, ↓ci_in_f, ↓ite_or_t, ↓ite_or_f, ↓ci_inI_t, ↓ci_inI_f, ↓reduceIte, ↓if_pos, ↓if_neg, m_much h, m_worth h, bo_s]
      rw [show (60 + j) % 10 = j by omega, show (60 + j) / 10 - 5 = 1 by omega, show 43 + 2 * j + 1 = 44 + 2 * j by omega]
    · simp (disch := omega) only [↓ite_eq_t, ↓ite_eq_f, ↓ite_le_t, ↓ite_le_f, ↓ite_lt_t, ↓ite_lt_f, ↓ite_none, ↓ite_10, ↓ite_00, ↓ite_10n, ↓ci_sub_t, ↓ci_sub_f, ↓ci_in_t, ↓ci_in_f, ↓ite_or_t, ↓ite_or_f, ↓ci_inI_t, ↓ci_inI_f, ↓reduceIte, ↓if_pos, ↓if_neg]
  · simp (disch := omega) only [↓ite_eq_t, ↓ite_eq_f, ↓ite_le_t, ↓ite_le_f, ↓ite_lt_t, ↓ite_lt_f, ↓ite_none, ↓ite_10, ↓ite_00, ↓ite_10n, ↓ci_sub_t, ↓ci_sub_f, ↓ci_in_t, ↓ci_in_f, ↓ite_or_t, ↓ite_or_f, ↓ci_inI_t, ↓ci_inI_f, ↓reduceIte, ↓if_pos, ↓if_neg]
theorem ok_valley : LK_valley Inv := by
  intro σx σm z1 z2 hI
  rcases ask_V hI z1 with ⟨k, A, F, W, hk, hz, hC, e1, e2, hM, hI2⟩ | ⟨e1, e2⟩
  · have hF := hC.F10
    have hW := hC.W6
    have ho := hM.ob
    by_cases c0 : z2 < 0
    · unfold f_X11_valley f_X12_valley
      simp only [x_now hI.1, bo_s, x_rc1, mrc, e1, e2, bd_s, crc hC.1, iInB, ite_b, ite_none, ite_10]
      unfold f_X9_look
      simp only [bo_s, crc hC.1, c_hasFolkB hC, c_hasWorkB hC, ite_b]
      refine ⟨-1, _, ?_, ?_, hI2⟩
      · have q : ∀ n, n < 3 → ¬ z2 = nI n := fun n hn => neg_nI c0 n (by omega)
        have q1 : ∀ c n, c ≤ 60 → n ≤ 10 → ¬ inR (z2 - nI c) n := fun c n h1 h2 => inR_subneg c0 (by omega)
        have q2 : ∀ c n, c ≤ 60 → n ≤ 10 → ∀ (x y : Option Int32), ci (inR (z2 - nI c) n) x y = y := fun c n h1 h2 x y => ci_f (q1 c n h1 h2)
        rw [if_neg (show ¬ z2 = 0 from q 0 (by decide)), if_neg (show ¬ z2 = 1 from q 1 (by decide)), if_neg (show ¬ z2 = 2 from q 2 (by decide))]
        simp only [i10, i20, i30, i40, i50, i60]
        rw [q2 10 F (by omega) (by omega), q2 20 F (by omega) (by omega), q2 30 F (by omega) (by omega), q2 40 F (by omega) (by omega), q2 50 W (by omega) (by omega), q2 60 W (by omega) (by omega), bo_s]
      · have q := div_neg10 c0
        rw [ci_f (inI_neg c0), if_neg (show ¬ z2 / 10 = 1 from q 1 (by decide) (by decide)), if_neg (show ¬ z2 / 10 = 2 from q 2 (by decide) (by decide)), if_neg (show ¬ z2 / 10 = 3 from q 3 (by decide) (by decide)), if_neg (show ¬ z2 / 10 = 4 from q 4 (by decide) (by decide)), if_neg (show ¬ z2 / 10 = 5 from q 5 (by decide) (by decide)), if_neg (show ¬ z2 / 10 = 6 from q 6 (by decide) (by decide))]
    · obtain ⟨m, hm, rfl⟩ := nI_of c0
      refine ⟨_, _, ?_, m_look hM hm e2, hI2⟩
      unfold f_X11_valley
      simp only [x_now hI.1, bo_s, x_rc1, e1, crc hC.1, ite_none, c_look hC hm]
  · unfold f_X11_valley f_X12_valley
    simp only [x_now hI.1, bo_s, x_rc1, mrc, e1, e2, bd_s]
    exact ⟨-1, _, rfl, rfl, hI⟩
