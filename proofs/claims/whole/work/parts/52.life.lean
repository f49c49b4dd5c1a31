/-! ===== lives and sights asked for; deed, sight ===== -/
def setF (σ : Dt) (j : Nat) (v : Int32) : Dt := (up2 σ.1 0 j v, σ.2.1, σ.2.2)
theorem mpiF (j : Nat) (v : Int32) (σ : Dt) : xpi SM 12 j (some 0) v σ = some (setF σ j v) := mpi j v σ
theorem setF_o {σ : Dt} {j x y : Nat} {v : Int32} (h : x ≠ 0) : (setF σ j v).1 x y = σ.1 x y := up2_o h
theorem setF_r {σ : Dt} {j x : Nat} {v : Int32} (h : x ≠ 0) : (setF σ j v).1 x = σ.1 x := funext fun _ => up2_o h
theorem setF_j {σ : Dt} {j : Nat} {v : Int32} : (setF σ j v).1 0 j = v := up2_eq
theorem setF_n {σ : Dt} {j y : Nat} {v : Int32} (h : y ≠ j) : (setF σ j v).1 0 y = σ.1 0 y := up2_j h
theorem setF_R {σ : Dt} {j : Nat} {v : Int32} (h : RefM σ) : RefM (setF σ j v) := h
theorem MV_setF {σ : Dt} {o F W j : Nat} {A : Nat → Int32} {v : Int32} (h : MV σ o A F W) (hj : j < 11 ∨ 13 < j) : MV (setF σ j v) o A F W := by
  obtain ⟨a, b, c, d, e, f, g⟩ := h
  refine ⟨a, ?_, ?_, ?_, e, fun i hi => ?_, g⟩
  · rw [setF_n (by omega)]; exact b
  · rw [setF_n (by omega)]; exact c
  · rw [setF_n (by omega)]; exact d
  · rw [setF_o (by decide)]; exact f i hi
theorem Inv_setF {σx σm : Dt} {j : Nat} {v : Int32} (hI : Inv σx σm) : Inv σx (setF σm j v) :=
  Inv_m (setF_r (by decide)) (setF_r (by decide)) rfl hI
def LWn (A : Nat → Int32) (n : Nat) : Prop := A 0 = nI n ∧ n ≤ 40 ∧ ∀ k, k < n → ∃ d, A (1 + 4 * k) = nI d ∧ d ≤ 4 ∧ (d ≤ 3 → ∃ x, A (2 + 4 * k) = nI x ∧ x ≤ 9) ∧ (d = 4 → A (2 + 4 * k) = -1) ∧ (d = 0 → ∃ x, A (3 + 4 * k) = nI x ∧ x ≤ 5) ∧ (d = 1 → ∃ x, A (3 + 4 * k) = nI x ∧ x ≤ 9) ∧ (2 ≤ d → A (3 + 4 * k) = -1) ∧ (d = 0 → ∃ x, A (4 + 4 * k) = nI x ∧ 1 ≤ x ∧ x ≤ 9) ∧ (1 ≤ d → A (4 + 4 * k) = -1)
def llist : List Nat := [14, 30]
theorem l_sh : ∀ l ∈ llist, l < SX.1 ∧ SX.2.1 l = 4 ∧ (l + 1 < SX.1 ∧ SX.2.1 (l + 1) = 13 ∧ SX.2.2 (l + 1) = 40) ∧ (l + 2 < SX.1 ∧ SX.2.1 (l + 2) = 13 ∧ SX.2.2 (l + 2) = 40) ∧ (l + 3 < SX.1 ∧ SX.2.1 (l + 3) = 13 ∧ SX.2.2 (l + 3) = 40) ∧ (l + 4 < SX.1 ∧ SX.2.1 (l + 4) = 13 ∧ SX.2.2 (l + 4) = 40) := by decide
theorem l_rf : ∀ l ∈ llist, 5 ≤ (rXT.getD l []).length ∧ ¬ l = 155 ∧ rX l 1 = some (l + 1) ∧ rX l 2 = some (l + 2) ∧ rX l 3 = some (l + 3) ∧ rX l 4 = some (l + 4) := by decide
def CLf (σ : Dt) (l : Nat) (A : Nat → Int32) (n : Nat) : Prop := l ∈ llist ∧ RefX σ ∧ LR σ l A ∧ LWn A n
def MLf (σ : Dt) (o : Nat) (A : Nat → Int32) (n : Nat) : Prop := RefM σ ∧ σ.1 0 26 = nI o ∧ o + 161 ≤ 1078 ∧ (∀ i, i < 161 → σ.1 1 (o + i) = A i) ∧ LWn A n
theorem MLf_setF {σ : Dt} {o n j : Nat} {A : Nat → Int32} {v : Int32} (h : MLf σ o A n) (hj : j ≠ 26) : MLf (setF σ j v) o A n := by
  obtain ⟨a, b, c, d, e⟩ := h
  refine ⟨a, ?_, c, fun i hi => ?_, e⟩
  · rw [setF_n (by omega)]; exact b
  · rw [setF_o (by decide)]; exact d i hi
section CLL
variable {σ : Dt} {l o n : Nat} {A : Nat → Int32}
theorem lgi (hl : l ∈ llist) (j : Nat) : xgi SX 4 j (some l) σ = some (σ.1 l j) := xgi_of (l_sh l hl).1 (l_sh l hl).2.1
theorem lrc (hl : l ∈ llist) : xrc SX 4 (some l) = some l := xrc_of (l_sh l hl).1 (l_sh l hl).2.1
theorem lgr (hl : l ∈ llist) (hR : RefX σ) {j : Nat} (hj : j < 5) : xgr SX 4 j (some l) σ = some (rX l j) := by
  rw [xgr_of (l_sh l hl).1 (l_sh l hl).2.1, hR.1 l j (Nat.lt_of_lt_of_le hj (l_rf l hl).1) (fun h => (l_rf l hl).2.1 h.1)]
theorem lgr1 (h : CLf σ l A n) : xgr SX 4 1 (some l) σ = some (some (l + 1)) := by rw [lgr h.1 h.2.1 (by decide), (l_rf l h.1).2.2.1]
theorem lgr2 (h : CLf σ l A n) : xgr SX 4 2 (some l) σ = some (some (l + 2)) := by rw [lgr h.1 h.2.1 (by decide), (l_rf l h.1).2.2.2.1]
theorem lgr3 (h : CLf σ l A n) : xgr SX 4 3 (some l) σ = some (some (l + 3)) := by rw [lgr h.1 h.2.1 (by decide), (l_rf l h.1).2.2.2.2.1]
theorem lgr4 (h : CLf σ l A n) : xgr SX 4 4 (some l) σ = some (some (l + 4)) := by rw [lgr h.1 h.2.1 (by decide), (l_rf l h.1).2.2.2.2.2]
theorem CLf.n40 (h : CLf σ l A n) : n ≤ 40 := h.2.2.2.2.1
theorem CLf.dn (h : CLf σ l A n) : σ.1 l 0 = nI n := h.2.2.1.1.trans h.2.2.2.1
theorem CLf.row (h : CLf σ l A n) {k : Nat} (hk : k < n) : σ.1 (l + 1) k = A (1 + 4 * k) ∧ σ.1 (l + 2) k = A (2 + 4 * k) ∧ σ.1 (l + 3) k = A (3 + 4 * k) ∧ σ.1 (l + 4) k = A (4 + 4 * k) := by
  have h4 := h.n40
  exact h.2.2.1.2 k (by omega) (by rw [h.2.2.2.1]; exact nI_lt hk (by omega))
theorem lai1 (h : CLf σ l A n) {k : Nat} (hk : k < n) : xai SX (some (l + 1)) (nI k) σ = some (A (1 + 4 * k)) := by
  have h4 := h.n40
  obtain ⟨h1, h2, h3⟩ := (l_sh l h.1).2.2.1
  rw [xai_of h1 h2 (by omega) (by omega), (h.row hk).1]
theorem lai2 (h : CLf σ l A n) {k : Nat} (hk : k < n) : xai SX (some (l + 2)) (nI k) σ = some (A (2 + 4 * k)) := by
  have h4 := h.n40
  obtain ⟨h1, h2, h3⟩ := (l_sh l h.1).2.2.2.1
  rw [xai_of h1 h2 (by omega) (by omega), (h.row hk).2.1]
theorem lai3 (h : CLf σ l A n) {k : Nat} (hk : k < n) : xai SX (some (l + 3)) (nI k) σ = some (A (3 + 4 * k)) := by
  have h4 := h.n40
  obtain ⟨h1, h2, h3⟩ := (l_sh l h.1).2.2.2.2.1
  rw [xai_of h1 h2 (by omega) (by omega), (h.row hk).2.2.1]
theorem lai4 (h : CLf σ l A n) {k : Nat} (hk : k < n) : xai SX (some (l + 4)) (nI k) σ = some (A (4 + 4 * k)) := by
  have h4 := h.n40
  obtain ⟨h1, h2, h3⟩ := (l_sh l h.1).2.2.2.2.2
  rw [xai_of h1 h2 (by omega) (by omega), (h.row hk).2.2.2]
theorem MLf.at (h : MLf σ o A n) (i j : Nat) (hj : j < 161) (e : i = o + j) : xai SM (some 1) (nI i) σ = some (A j) := by
  have := h.2.2.1
  rw [e, mai _ _ (by omega), h.2.2.2.1 j hj]
theorem c_hasDeedB (h : CLf σ l A n) (x : Int32) : f_X4_hasDeed l x σ = some (bI (inR x n)) := by
  have h4 := h.n40
  have q := inR_iff2 (x := x) (n := n) (by omega)
  unfold f_X4_hasDeed f_X4_hasDeed_22
  rw [lgi h.1, bo_s, h.dn]
  by_cases c : inR x n
  · obtain ⟨q1, q2⟩ := q.mp c
    obtain ⟨j, hj, rfl⟩ := id c
    rw [bI_t c, if_neg q1, if_neg q2, if_neg (show ¬ (40 : Int32) ≤ nI j from nI_ge (b := 40) (by omega) (by decide))]
  · rw [bI_f c]
    by_cases c1 : x < 0
    · rw [if_pos c1]
    · rw [if_neg c1, if_pos (Classical.not_not.mp (fun z => c (q.mpr ⟨c1, z⟩)))]
end CLL
theorem ask_L {σx σm : Dt} (hI : Inv σx σm) (x : Int32) : (∃ k A n, k < 2 ∧ x = nI k ∧ CLf σx (14 + 16 * k) A n ∧ f_X8_lifeAt 1 x σx = some (some (14 + 16 * k)) ∧ f_X12_isLife 0 x σm = some (1, setF σm 26 (nI (720 + 161 * k))) ∧ MLf (setF σm 26 (nI (720 + 161 * k))) (720 + 161 * k) A n ∧ Inv σx (setF σm 26 (nI (720 + 161 * k)))) ∨ (f_X8_lifeAt 1 x σx = some none ∧ f_X12_isLife 0 x σm = some (0, σm)) := by
  obtain ⟨hRx, hRm, hT, -⟩ := id hI
  obtain ⟨c0, c1, c2, L, hb, hm, hx, hf, htp, hv, hl, hs⟩ := hT
  have A2 := x_lifeAt hRx (show σx.1 38 1 = nI c1 from hx.2.1) hb.2.1 x
  have A1 := m_isOf hRm 1 c1 (by decide) hm.2.1 hb.2.1 x
  unfold f_X12_isLife
  simp only [mrc, bo_s]
  by_cases c : inR x c1
  · obtain ⟨k, hk, rfl⟩ := id c
    obtain ⟨q1, n, q2⟩ := hl k hk
    rw [show (0 + 720 + 161 * k) = 720 + 161 * k by omega] at q1 q2
    rw [show (1 + 13 + 16 * k) = 14 + 16 * k by omega] at q1
    refine Or.inl ⟨k, _, n, by omega, rfl, ⟨?_, hRx, q1, q2⟩, A2.1 k hk rfl, ?_, ⟨hRm, setF_j, by omega, fun i _ => setF_o (by decide), q2⟩, Inv_setF hI⟩
    · rcases (show k = 0 ∨ k = 1 by omega) with rfl | rfl <;> decide
    · rw [show f_X12_isOf 0 (1 : Int32) (nI k) σm = some 1 from A1.1 c, bo_s, ite_10]
      unfold f_X12_placeOf
      rw [if_neg (by decide), if_pos rfl, bo_s, show (720 : Int32) + (161 : Int32) * nI k = nI (720 + 161 * k) by (show nI 720 + nI 161 * nI k = _; rw [pk_mul, nI_add]), mpiF, bo_s]
  · exact Or.inr ⟨A2.2 c, by rw [show f_X12_isOf 0 (1 : Int32) x σm = some 0 from A1.2 c, bo_s, ite_00]⟩
theorem ok_deed : LK_deed Inv := by
  intro σx σm z1 z2 z3 hI
  unfold f_X11_deed f_X12_deed
  simp only [x_now hI.1, bo_s, x_rc1, mrc]
  rcases ask_L hI z1 with ⟨k, A, n, hk, hz, hC, e1, e2, hM, hI2⟩ | ⟨e1, e2⟩
  · have h4 := hC.n40
    have ho := hM.2.2.1
    simp only [e1, e2, bo_s, bd_s, lrc hC.1, ite_none, ite_10, mgr, mgi, mall hM.1, hM.2.1, hM.at (720 + 161 * k) 0 (by decide) rfl, hM.2.2.2.2.1, iInB, ite_b]
    unfold f_X4_look f_X4_look_14 f_X12_deed_83
    simp only [lgi hC.1, hC.dn, bo_s, lrc hC.1, c_hasDeedB hC, ite_b]
    have e3 : inI z2 0 (nI n - 1) = inR z2 n := propext (inR_iff (by omega)).symm
    rw [e3]
    by_cases c1 : z2 = -1
    · subst c1
      have c2 : ¬ inR (-1) n := by
        rintro ⟨j, hj, e⟩
        exact nI_m1 (by omega) e.symm
      by_cases c3 : z3 = 0
      · exact ⟨nI n, _, by rw [if_pos rfl, if_pos c3, bo_s], by rw [if_pos rfl, if_pos c3], hI2⟩
      · exact ⟨-2, _, by rw [if_pos rfl, if_neg c3, ci_f c2, bo_s], by rw [if_pos rfl, if_neg c3], hI2⟩
    · simp only [if_neg c1]
      by_cases c2 : inR z2 n
      · simp only [ci_t c2]
        obtain ⟨j, hj, rfl⟩ := c2
        by_cases c3 : inI z3 0 3
        · rw [ci_t c3]
          obtain ⟨m, hm, rfl⟩ := nI_of (fun q => c3 (Or.inl q))
          have hm3 : m ≤ 3 := ((inI_nI hm (by decide) (by decide)).mp c3).2
          refine ⟨A (1 + 4 * j + m), _, ?_, ?_, hI2⟩
          · simp only [i0, i1, i2, i3, i4, i5, i6, i7, i8, i9, i10, i11, i12, i15, i16, i20, i21, i26, i29, i30, i31, i39, i40, i50, i51, i60, i63, i64, i71, i99, i100, i255, i600, i610, i720, i1024, i1042, i1078]
            rcases (show m = 0 ∨ m = 1 ∨ m = 2 ∨ m = 3 by omega) with rfl | rfl | rfl | rfl
            · simp (disch := omega) only [↓ite_eq_t, ↓ite_eq_f, ↓ite_le_t, ↓ite_le_f, ↓ite_lt_t, ↓ite_lt_f, ↓ite_none, ↓ite_10, ↓ite_00, ↓ite_10n, ↓ci_sub_t, ↓ci_sub_f, ↓ci_in_t, ↓ci_in_f, ↓ite_or_t, ↓ite_or_f, ↓ci_inI_t, ↓ci_inI_f, ↓reduceIte, lgr1 hC, lai1 hC, bo_s]
              rfl
            · simp (disch := omega) only [↓ite_eq_t, ↓ite_eq_f, ↓ite_le_t, ↓ite_le_f, ↓ite_lt_t, ↓ite_lt_f, ↓ite_none, ↓ite_10, ↓ite_00, ↓ite_10n, ↓ci_sub_t, ↓ci_sub_f, ↓ci_in_t, ↓ci_in_f, ↓ite_or_t, ↓ite_or_f, ↓ci_inI_t, ↓ci_inI_f, ↓reduceIte, lgr2 hC, lai2 hC, bo_s]
              exact congrArg some (congrArg A (by omega))
            · simp (disch := omega) only [↓ite_eq_t, ↓ite_eq_f, ↓ite_le_t, ↓ite_le_f, ↓ite_lt_t, ↓ite_lt_f, ↓ite_none, ↓ite_10, ↓ite_00, ↓ite_10n, ↓ci_sub_t, ↓ci_sub_f, ↓ci_in_t, ↓ci_in_f, ↓ite_or_t, ↓ite_or_f, ↓ci_inI_t, ↓ci_inI_f, ↓reduceIte, lgr3 hC, lai3 hC, bo_s]
              exact congrArg some (congrArg A (by omega))
            · simp (disch := omega) only [↓ite_eq_t, ↓ite_eq_f, ↓ite_le_t, ↓ite_le_f, ↓ite_lt_t, ↓ite_lt_f, ↓ite_none, ↓ite_10, ↓ite_00, ↓ite_10n, ↓ci_sub_t, ↓ci_sub_f, ↓ci_in_t, ↓ci_in_f, ↓ite_or_t, ↓ite_or_f, ↓ci_inI_t, ↓ci_inI_f, ↓reduceIte, lgr4 hC, lai4 hC, bo_s]
              exact congrArg some (congrArg A (by omega))
          · simp only [i0, i1, i2, i3, i4, i5, i6, i7, i8, i9, i10, i11, i12, i15, i16, i20, i21, i26, i29, i30, i31, i39, i40, i50, i51, i60, i63, i64, i71, i99, i100, i255, i600, i610, i720, i1024, i1042, i1078, nI_add, pk_mul]
            rw [hM.at _ (1 + 4 * j + m) (by omega) (by omega), bo_s]
        · refine ⟨-2, _, ?_, by rw [ci_f c3], hI2⟩
          by_cases c4 : z3 < 0
          · rw [if_pos c4, bo_s]
          · rw [if_neg c4, if_neg (fun q => c3 (fun z => z.elim c4 (Int32.not_lt.mpr q))), bo_s]
      · exact ⟨-2, _, by rw [ci_f c2, bo_s], by rw [ci_f c2], hI2⟩
  · simp only [e1, bo_s, e2, bd_s]
    exact ⟨-2, _, rfl, rfl, hI⟩
def SWn (A : Nat → Int32) (n : Nat) : Prop := (∃ y, A 0 = nI y ∧ 1 ≤ y ∧ y ≤ 9) ∧ A 1 = nI n ∧ n ≤ 8 ∧ ∀ k, k < n → ∃ w f, A (2 + 2 * k) = nI w ∧ w ≤ 5 ∧ A (3 + 2 * k) = nI f ∧ f ≤ 30
def slist : List Nat := [19, 35]
theorem s_sh : ∀ l ∈ slist, l < SX.1 ∧ SX.2.1 l = 6 ∧ (l + 1 < SX.1 ∧ SX.2.1 (l + 1) = 13 ∧ SX.2.2 (l + 1) = 8) ∧ (l + 2 < SX.1 ∧ SX.2.1 (l + 2) = 13 ∧ SX.2.2 (l + 2) = 8) := by decide
theorem s_rf : ∀ l ∈ slist, 4 ≤ (rXT.getD l []).length ∧ ¬ l = 155 ∧ rX l 2 = some (l + 1) ∧ rX l 3 = some (l + 2) := by decide
def CSg (σ : Dt) (l : Nat) (A : Nat → Int32) (n : Nat) : Prop := l ∈ slist ∧ RefX σ ∧ SR σ l A ∧ SWn A n
def MSg (σ : Dt) (o : Nat) (A : Nat → Int32) (n : Nat) : Prop := RefM σ ∧ σ.1 0 45 = nI o ∧ o + 18 ≤ 1078 ∧ (∀ i, i < 18 → σ.1 1 (o + i) = A i) ∧ SWn A n
theorem MSg_setF {σ : Dt} {o n j : Nat} {A : Nat → Int32} {v : Int32} (h : MSg σ o A n) (hj : j ≠ 45) : MSg (setF σ j v) o A n := by
  obtain ⟨a, b, c, d, e⟩ := h
  refine ⟨a, ?_, c, fun i hi => ?_, e⟩
  · rw [setF_n (by omega)]; exact b
  · rw [setF_o (by decide)]; exact d i hi
section CSL
variable {σ : Dt} {l o n : Nat} {A : Nat → Int32}
theorem sgi (hl : l ∈ slist) (j : Nat) : xgi SX 6 j (some l) σ = some (σ.1 l j) := xgi_of (s_sh l hl).1 (s_sh l hl).2.1
theorem src (hl : l ∈ slist) : xrc SX 6 (some l) = some l := xrc_of (s_sh l hl).1 (s_sh l hl).2.1
theorem sgr (hl : l ∈ slist) (hR : RefX σ) {j : Nat} (hj : j < 4) : xgr SX 6 j (some l) σ = some (rX l j) := by
  rw [xgr_of (s_sh l hl).1 (s_sh l hl).2.1, hR.1 l j (Nat.lt_of_lt_of_le hj (s_rf l hl).1) (fun h => (s_rf l hl).2.1 h.1)]
theorem sgr2 (h : CSg σ l A n) : xgr SX 6 2 (some l) σ = some (some (l + 1)) := by rw [sgr h.1 h.2.1 (by decide), (s_rf l h.1).2.2.1]
theorem sgr3 (h : CSg σ l A n) : xgr SX 6 3 (some l) σ = some (some (l + 2)) := by rw [sgr h.1 h.2.1 (by decide), (s_rf l h.1).2.2.2]
theorem CSg.n8 (h : CSg σ l A n) : n ≤ 8 := h.2.2.2.2.2.1
theorem CSg.dn (h : CSg σ l A n) : σ.1 l 1 = nI n := h.2.2.1.2.1.trans h.2.2.2.2.1
theorem CSg.row (h : CSg σ l A n) {k : Nat} (hk : k < n) : σ.1 (l + 1) k = A (2 + 2 * k) ∧ σ.1 (l + 2) k = A (3 + 2 * k) := by
  have h4 := h.n8
  exact h.2.2.1.2.2 k (by omega) (by rw [h.2.2.2.2.1]; exact nI_lt hk (by omega))
theorem sai1 (h : CSg σ l A n) {k : Nat} (hk : k < n) : xai SX (some (l + 1)) (nI k) σ = some (A (2 + 2 * k)) := by
  have h4 := h.n8
  obtain ⟨h1, h2, h3⟩ := (s_sh l h.1).2.2.1
  rw [xai_of h1 h2 (by omega) (by omega), (h.row hk).1]
theorem sai2 (h : CSg σ l A n) {k : Nat} (hk : k < n) : xai SX (some (l + 2)) (nI k) σ = some (A (3 + 2 * k)) := by
  have h4 := h.n8
  obtain ⟨h1, h2, h3⟩ := (s_sh l h.1).2.2.2
  rw [xai_of h1 h2 (by omega) (by omega), (h.row hk).2]
theorem MSg.at (h : MSg σ o A n) (i j : Nat) (hj : j < 18) (e : i = o + j) : xai SM (some 1) (nI i) σ = some (A j) := by
  have := h.2.2.1
  rw [e, mai _ _ (by omega), h.2.2.2.1 j hj]
theorem c_hasFactB (h : CSg σ l A n) (x : Int32) : f_X6_hasFact l x σ = some (bI (inR x n)) := by
  have h4 := h.n8
  have q := inR_iff2 (x := x) (n := n) (by omega)
  unfold f_X6_hasFact f_X6_hasFact_22
  rw [sgi h.1, bo_s, h.dn]
  by_cases c : inR x n
  · obtain ⟨q1, q2⟩ := q.mp c
    obtain ⟨j, hj, rfl⟩ := id c
    rw [bI_t c, if_neg q1, if_neg q2, if_neg (show ¬ (8 : Int32) ≤ nI j from nI_ge (b := 8) (by omega) (by decide))]
  · rw [bI_f c]
    by_cases c1 : x < 0
    · rw [if_pos c1]
    · rw [if_neg c1, if_pos (Classical.not_not.mp (fun z => c (q.mpr ⟨c1, z⟩)))]
end CSL
theorem ask_S {σx σm : Dt} (hI : Inv σx σm) (x : Int32) : (∃ k A n, k < 2 ∧ x = nI k ∧ CSg σx (19 + 16 * k) A n ∧ f_X8_sightAt 1 x σx = some (some (19 + 16 * k)) ∧ f_X12_isSight 0 x σm = some (1, setF σm 45 (nI (1042 + 18 * k))) ∧ MSg (setF σm 45 (nI (1042 + 18 * k))) (1042 + 18 * k) A n ∧ Inv σx (setF σm 45 (nI (1042 + 18 * k)))) ∨ (f_X8_sightAt 1 x σx = some none ∧ f_X12_isSight 0 x σm = some (0, σm)) := by
  obtain ⟨hRx, hRm, hT, -⟩ := id hI
  obtain ⟨c0, c1, c2, L, hb, hm, hx, hf, htp, hv, hl, hs⟩ := hT
  have A2 := x_sightAt hRx (show σx.1 38 2 = nI c2 from hx.2.2.1) hb.2.2.1 x
  have A1 := m_isOf hRm 2 c2 (by decide) hm.2.2.1 hb.2.2.1 x
  unfold f_X12_isSight
  simp only [mrc, bo_s]
  by_cases c : inR x c2
  · obtain ⟨k, hk, rfl⟩ := id c
    obtain ⟨q1, q3, n, q2⟩ := hs k hk
    rw [show (0 + 1042 + 18 * k) = 1042 + 18 * k by omega] at q1 q2 q3
    rw [show (1 + 18 + 16 * k) = 19 + 16 * k by omega] at q1
    refine Or.inl ⟨k, _, n, by omega, rfl, ⟨?_, hRx, q1, q3, q2⟩, A2.1 k hk rfl, ?_, ⟨hRm, setF_j, by omega, fun i _ => setF_o (by decide), q3, q2⟩, Inv_setF hI⟩
    · rcases (show k = 0 ∨ k = 1 by omega) with rfl | rfl <;> decide
    · rw [show f_X12_isOf 0 (2 : Int32) (nI k) σm = some 1 from A1.1 c, bo_s, ite_10]
      unfold f_X12_placeOf
      rw [if_neg (by decide), if_neg (by decide), bo_s, show (1042 : Int32) + (18 : Int32) * nI k = nI (1042 + 18 * k) by (show nI 1042 + nI 18 * nI k = _; rw [pk_mul, nI_add]), mpiF, bo_s]
  · exact Or.inr ⟨A2.2 c, by rw [show f_X12_isOf 0 (2 : Int32) x σm = some 0 from A1.2 c, bo_s, ite_00]⟩
theorem ok_sight : LK_sight Inv := by
  intro σx σm z1 z2 hI
  unfold f_X11_sight f_X12_sight
  simp only [x_now hI.1, bo_s, x_rc1, mrc]
  rcases ask_S hI z1 with ⟨k, A, n, hk, hz, hC, e1, e2, hM, hI2⟩ | ⟨e1, e2⟩
  · have h4 := hC.n8
    have ho := hM.2.2.1
    simp only [e1, e2, bo_s, bd_s, src hC.1, ite_none, ite_10, mgr, mgi, mall hM.1, hM.2.1, nI_1, hM.at (1042 + 18 * k + 1) 1 (by decide) rfl, hM.2.2.2.2.2.1, iInB, ite_b]
    unfold f_X6_look f_X12_sight_87
    simp only [sgi hC.1, hC.dn, hC.2.2.1.1, bo_s, src hC.1, c_hasFactB hC, ite_b]
    by_cases c0 : z2 < 0
    · refine ⟨-1, _, ?_, ?_, hI2⟩
      · rw [if_neg (show ¬ z2 = 0 from neg_nI c0 0 (by decide)), if_neg (show ¬ z2 = 1 from neg_nI c0 1 (by decide)), ci_f (show ¬ inR (z2 - 10) n from inR_subneg (c := 10) c0 (by omega)), ci_f (show ¬ inR (z2 - 20) n from inR_subneg (c := 20) c0 (by omega)), bo_s]
      · rw [ci_f (inI_neg c0), ci_f (inI_neg (Int32.lt_trans c0 (show (0 : Int32) < 10 by decide)))]
    · obtain ⟨m, hm, rfl⟩ := nI_of c0
      simp only [i0, i1, i2, i3, i4, i5, i6, i7, i8, i9, i10, i11, i12, i15, i16, i20, i21, i26, i29, i30, i31, i39, i40, i50, i51, i60, i63, i64, i71, i99, i100, i255, i600, i610, i720, i1024, i1042, i1078]
      simp (disch := omega) only [↓pk_rem, pk_div, nI_add]
      rcases (show m = 0 ∨ m = 1 ∨ (2 ≤ m ∧ m < 10) ∨ (10 ≤ m ∧ m < 20) ∨ (20 ≤ m ∧ m < 30) ∨ 30 ≤ m by omega) with rfl | rfl | q | q | q | q
      · refine ⟨A 0, _, ?_, ?_, hI2⟩
        · simp (disch := omega) only [↓ite_eq_t, ↓ite_eq_f, ↓ite_le_t, ↓ite_le_f, ↓ite_lt_t, ↓ite_lt_f, ↓ite_none, ↓ite_10, ↓ite_00, ↓ite_10n, ↓ci_sub_t, ↓ci_sub_f, ↓ci_in_t, ↓ci_in_f, ↓ite_or_t, ↓ite_or_f, ↓ci_inI_t, ↓ci_inI_f, ↓reduceIte, bo_s]
        · simp (disch := omega) only [↓ite_eq_t, ↓ite_eq_f, ↓ite_le_t, ↓ite_le_f, ↓ite_lt_t, ↓ite_lt_f, ↓ite_none, ↓ite_10, ↓ite_00, ↓ite_10n, ↓ci_sub_t, ↓ci_sub_f, ↓ci_in_t, ↓ci_in_f, ↓ite_or_t, ↓ite_or_f, ↓ci_inI_t, ↓ci_inI_f, ↓reduceIte]
          rw [hM.at _ 0 (by decide) rfl, bo_s]
      · refine ⟨nI n, _, ?_, ?_, hI2⟩
        · simp (disch := omega) only [↓ite_eq_t, ↓ite_eq_f, ↓ite_le_t, ↓ite_le_f, ↓ite_lt_t, ↓ite_lt_f, ↓ite_none, ↓ite_10, ↓ite_00, ↓ite_10n, ↓ci_sub_t, ↓ci_sub_f, ↓ci_in_t, ↓ci_in_f, ↓ite_or_t, ↓ite_or_f, ↓ci_inI_t, ↓ci_inI_f, ↓reduceIte, bo_s]
        · simp (disch := omega) only [↓ite_eq_t, ↓ite_eq_f, ↓ite_le_t, ↓ite_le_f, ↓ite_lt_t, ↓ite_lt_f, ↓ite_none, ↓ite_10, ↓ite_00, ↓ite_10n, ↓ci_sub_t, ↓ci_sub_f, ↓ci_in_t, ↓ci_in_f, ↓ite_or_t, ↓ite_or_f, ↓ci_inI_t, ↓ci_inI_f, ↓reduceIte]
          rw [hM.at _ 1 (by decide) rfl, bo_s, hM.2.2.2.2.2.1]
      · refine ⟨-nI 1, _, ?_, ?_, hI2⟩
        · simp (disch := omega) only [↓ite_eq_t, ↓ite_eq_f, ↓ite_le_t, ↓ite_le_f, ↓ite_lt_t, ↓ite_lt_f, ↓ite_none, ↓ite_10, ↓ite_00, ↓ite_10n, ↓ci_sub_t, ↓ci_sub_f, ↓ci_in_t, ↓ci_in_f, ↓ite_or_t, ↓ite_or_f, ↓ci_inI_t, ↓ci_inI_f, ↓reduceIte, bo_s]
        · simp (disch := omega) only [↓ite_eq_t, ↓ite_eq_f, ↓ite_le_t, ↓ite_le_f, ↓ite_lt_t, ↓ite_lt_f, ↓ite_none, ↓ite_10, ↓ite_00, ↓ite_10n, ↓ci_sub_t, ↓ci_sub_f, ↓ci_in_t, ↓ci_in_f, ↓ite_or_t, ↓ite_or_f, ↓ci_inI_t, ↓ci_inI_f, ↓reduceIte]
      · by_cases c : m - 10 < n
        · refine ⟨A (2 + 2 * (m - 10)), _, ?_, ?_, hI2⟩
          · simp (disch := omega) only [↓ite_eq_t, ↓ite_eq_f, ↓ite_le_t, ↓ite_le_f, ↓ite_lt_t, ↓ite_lt_f, ↓ite_none, ↓ite_10, ↓ite_00, ↓ite_10n, ↓ci_sub_t, ↓ci_sub_f, ↓ci_in_t, ↓ci_in_f, ↓ite_or_t, ↓ite_or_f, ↓ci_inI_t, ↓ci_inI_f, ↓reduceIte, bo_s, sgr2 hC, pk_sub, sai1 hC]
          · simp (disch := omega) only [↓ite_eq_t, ↓ite_eq_f, ↓ite_le_t, ↓ite_le_f, ↓ite_lt_t, ↓ite_lt_f, ↓ite_none, ↓ite_10, ↓ite_00, ↓ite_10n, ↓ci_sub_t, ↓ci_sub_f, ↓ci_in_t, ↓ci_in_f, ↓ite_or_t, ↓ite_or_f, ↓ci_inI_t, ↓ci_inI_f, ↓reduceIte, pk_mul, nI_add, pk_sub]
            rw [hM.at _ (2 + 2 * (m - 10)) (by omega) (by omega), bo_s]
        · refine ⟨-nI 1, _, ?_, ?_, hI2⟩
          · simp (disch := omega) only [↓ite_eq_t, ↓ite_eq_f, ↓ite_le_t, ↓ite_le_f, ↓ite_lt_t, ↓ite_lt_f, ↓ite_none, ↓ite_10, ↓ite_00, ↓ite_10n, ↓ci_sub_t, ↓ci_sub_f, ↓ci_in_t, ↓ci_in_f, ↓ite_or_t, ↓ite_or_f, ↓ci_inI_t, ↓ci_inI_f, ↓reduceIte, bo_s]
          · simp (disch := omega) only [↓ite_eq_t, ↓ite_eq_f, ↓ite_le_t, ↓ite_le_f, ↓ite_lt_t, ↓ite_lt_f, ↓ite_none, ↓ite_10, ↓ite_00, ↓ite_10n, ↓ci_sub_t, ↓ci_sub_f, ↓ci_in_t, ↓ci_in_f, ↓ite_or_t, ↓ite_or_f, ↓ci_inI_t, ↓ci_inI_f, ↓reduceIte]
      · by_cases c : m - 20 < n
        · refine ⟨A (3 + 2 * (m - 20)), _, ?_, ?_, hI2⟩
          · simp (disch := omega) only [↓ite_eq_t, ↓ite_eq_f, ↓ite_le_t, ↓ite_le_f, ↓ite_lt_t, ↓ite_lt_f, ↓ite_none, ↓ite_10, ↓ite_00, ↓ite_10n, ↓ci_sub_t, ↓ci_sub_f, ↓ci_in_t, ↓ci_in_f, ↓ite_or_t, ↓ite_or_f, ↓ci_inI_t, ↓ci_inI_f, ↓reduceIte, bo_s, sgr3 hC, pk_sub, sai2 hC]
          · simp (disch := omega) only [↓ite_eq_t, ↓ite_eq_f, ↓ite_le_t, ↓ite_le_f, ↓ite_lt_t, ↓ite_lt_f, ↓ite_none, ↓ite_10, ↓ite_00, ↓ite_10n, ↓ci_sub_t, ↓ci_sub_f, ↓ci_in_t, ↓ci_in_f, ↓ite_or_t, ↓ite_or_f, ↓ci_inI_t, ↓ci_inI_f, ↓reduceIte, pk_mul, nI_add, pk_sub]
            rw [hM.at _ (3 + 2 * (m - 20)) (by omega) (by omega), bo_s]
        · refine ⟨-nI 1, _, ?_, ?_, hI2⟩
          · simp (disch := omega) only [↓ite_eq_t, ↓ite_eq_f, ↓ite_le_t, ↓ite_le_f, ↓ite_lt_t, ↓ite_lt_f, ↓ite_none, ↓ite_10, ↓ite_00, ↓ite_10n, ↓ci_sub_t, ↓ci_sub_f, ↓ci_in_t, ↓ci_in_f, ↓ite_or_t, ↓ite_or_f, ↓ci_inI_t, ↓ci_inI_f, ↓reduceIte, bo_s]
          · simp (disch := omega) only [↓ite_eq_t, ↓ite_eq_f, ↓ite_le_t, ↓ite_le_f, ↓ite_lt_t, ↓ite_lt_f, ↓ite_none, ↓ite_10, ↓ite_00, ↓ite_10n, ↓ci_sub_t, ↓ci_sub_f, ↓ci_in_t, ↓ci_in_f, ↓ite_or_t, ↓ite_or_f, ↓ci_inI_t, ↓ci_inI_f, ↓reduceIte]
      · refine ⟨-nI 1, _, ?_, ?_, hI2⟩
        · simp (disch := omega) only [↓ite_eq_t, ↓ite_eq_f, ↓ite_le_t, ↓ite_le_f, ↓ite_lt_t, ↓ite_lt_f, ↓ite_none, ↓ite_10, ↓ite_00, ↓ite_10n, ↓ci_sub_t, ↓ci_sub_f, ↓ci_in_t, ↓ci_in_f, ↓ite_or_t, ↓ite_or_f, ↓ci_inI_t, ↓ci_inI_f, ↓reduceIte, bo_s]
        · simp (disch := omega) only [↓ite_eq_t, ↓ite_eq_f, ↓ite_le_t, ↓ite_le_f, ↓ite_lt_t, ↓ite_lt_f, ↓ite_none, ↓ite_10, ↓ite_00, ↓ite_10n, ↓ci_sub_t, ↓ci_sub_f, ↓ci_in_t, ↓ci_in_f, ↓ite_or_t, ↓ite_or_f, ↓ci_inI_t, ↓ci_inI_f, ↓reduceIte]
  · simp only [e1, bo_s, e2, bd_s]
    exact ⟨-1, _, rfl, rfl, hI⟩
