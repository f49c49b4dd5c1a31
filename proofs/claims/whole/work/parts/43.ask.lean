/-! ===== what a call may touch without harm; a valley, a life, a sight asked for ===== -/
theorem TR_m {σx σm σm' : Dt} {t o : Nat} (h : σm'.1 1 = σm.1 1) (hT : TR σx σm t o) : TR σx σm' t o := by
  unfold TR at *
  rw [h]
  exact hT
theorem Inv_m {σx σm σm' : Dt} (h1 : σm'.1 1 = σm.1 1) (h2 : σm'.1 2 = σm.1 2) (h3 : σm'.2.2 = σm.2.2) (hI : Inv σx σm) : Inv σx σm' := by
  obtain ⟨a, b, c, d, e⟩ := hI
  refine ⟨a, ?_, TR_m h1 c, ?_, ?_⟩
  · unfold RefM at *
    rw [h3]
    exact b
  · rw [h2]
    exact d
  · rw [h2]
    exact fun k hk q => TR_m h1 (e k hk q)
theorem VR_x {σx σx' : Dt} {v : Nat} {A : Nat → Int32} (h : ∀ a, a < 155 → σx'.1 a = σx.1 a) (hv : v + 7 < 155) (hV : VR σx v A) : VR σx' v A := by
  unfold VR at *
  rw [h v (by omega), h (v + 1) (by omega), h (v + 2) (by omega), h (v + 3) (by omega), h (v + 4) (by omega), h (v + 6) (by omega), h (v + 7) (by omega)]
  exact hV
theorem TR_x {σx σx' σm : Dt} {t o : Nat} (h : ∀ a, a < 155 → σx'.1 a = σx.1 a) (ht : t + 37 < 155) (hT : TR σx σm t o) : TR σx' σm t o := by
  obtain ⟨c0, c1, c2, L, hb, hm, hx, hf, htp, hv, hl, hs⟩ := hT
  refine ⟨c0, c1, c2, L, hb, hm, ?_, ?_, ?_, ?_, ?_, ?_⟩
  · rw [h (t + 37) (by omega), h t (by omega)]
    exact hx
  · rw [h t (by omega)]
    exact hf
  · rw [h (t + 1) (by omega)]
    exact htp
  · intro k hk
    obtain ⟨q1, F, W, q2, q3⟩ := hv k hk
    refine ⟨VR_x h (by omega) q1, F, W, q2, ?_⟩
    unfold HR at *
    rw [h (t + 5 + 16 * k + 5) (by omega)]
    exact q3
  · intro k hk
    obtain ⟨q1, q2⟩ := hl k hk
    refine ⟨?_, q2⟩
    unfold LR at *
    rw [h (t + 13 + 16 * k) (by omega), h (t + 13 + 16 * k + 1) (by omega), h (t + 13 + 16 * k + 2) (by omega), h (t + 13 + 16 * k + 3) (by omega), h (t + 13 + 16 * k + 4) (by omega)]
    exact q1
  · intro k hk
    obtain ⟨q1, q2⟩ := hs k hk
    refine ⟨?_, q2⟩
    unfold SR at *
    rw [h (t + 18 + 16 * k) (by omega), h (t + 18 + 16 * k + 1) (by omega), h (t + 18 + 16 * k + 2) (by omega)]
    exact q1
theorem Inv_x {σx σx' σm : Dt} (h : ∀ a, a < 155 → σx'.1 a = σx.1 a) (h3 : σx'.2.2 = σx.2.2) (hI : Inv σx σm) : Inv σx' σm := by
  obtain ⟨a, b, c, d, e⟩ := hI
  refine ⟨?_, b, TR_x h (by decide) c, ?_, fun k hk q => TR_x h (by omega) (e k hk q)⟩
  · unfold RefX at *
    rw [h3]
    exact a
  · rw [h 154 (by decide)]
    exact d
theorem Inv_setV {σx σm : Dt} {o F W : Nat} (hI : Inv σx σm) : Inv σx (setV σm o F W) :=
  Inv_m (funext fun y => setV_1 (by decide)) (funext fun y => setV_1 (by decide)) rfl hI
/-- a valley is asked for -/
theorem ask_V {σx σm : Dt} (hI : Inv σx σm) (x : Int32) : (∃ k A F W, k < 2 ∧ x = nI k ∧ CV σx (6 + 16 * k) A F W ∧ f_X8_valleyAt 1 x σx = some (some (6 + 16 * k)) ∧ f_X12_isValley 0 x σm = some (1, setV σm (610 + 55 * k) F W) ∧ MV (setV σm (610 + 55 * k) F W) (610 + 55 * k) A F W ∧ Inv σx (setV σm (610 + 55 * k) F W)) ∨ (f_X8_valleyAt 1 x σx = some none ∧ f_X12_isValley 0 x σm = some (0, σm)) := by
  obtain ⟨hRx, hRm, hT, -⟩ := id hI
  obtain ⟨c0, c1, c2, L, hb, hm, hx, hf, htp, hv, hl, hs⟩ := hT
  have e1 : ∀ k i, (0 + 610 + 55 * k + i) = 610 + 55 * k + i := fun k i => by omega
  have e2 : ∀ k, (1 + 5 + 16 * k) = 6 + 16 * k := fun k => by omega
  have hv2 : ∀ k, k < c0 → VR σx (6 + 16 * k) (fun i => σm.1 1 (610 + 55 * k + i)) ∧ ∃ F W, VW (fun i => σm.1 1 (610 + 55 * k + i)) F W ∧ HR σx (6 + 16 * k) (fun i => σm.1 1 (610 + 55 * k + i)) F := by
    intro k hk
    have h := hv k hk
    simp only [e1, e2] at h
    exact h
  have hc : σm.1 1 0 = nI c0 := hm.1
  have hx0 : σx.1 38 0 = nI c0 := hx.1
  have A1 := m_isValley hRm hc hb.1 (fun k hk => by obtain ⟨-, F, W, q, -⟩ := hv2 k hk; exact ⟨F, W, q⟩) x
  have A2 := x_valleyAt hRx hx0 hb.1 x
  by_cases c : inR x c0
  · obtain ⟨k, hk, rfl⟩ := c
    obtain ⟨q1, F, W, q2, q3⟩ := hv2 k hk
    refine Or.inl ⟨k, _, F, W, by omega, rfl, ⟨?_, hRx, q1, q2, q3⟩, A2.1 k hk rfl, A1.1 k hk rfl F W q2, setV_MV hRm (by omega) (fun i _ => rfl) q2, Inv_setV hI⟩
    rcases (show k = 0 ∨ k = 1 by omega) with rfl | rfl <;> decide
  · exact Or.inr ⟨A2.2 c, A1.2 c⟩
-- ===== fault, count, end =====
theorem ok_fault : LK_fault Inv := by
  intro σx σm z hI
  obtain ⟨hRx, hRm, hT, -⟩ := id hI
  obtain ⟨c0, c1, c2, L, hb, hm, hx, hf, -⟩ := hT
  unfold f_X11_fault f_X12_fault
  by_cases h0 : z = 0
  · refine ⟨σm.1 1 5, ?_, ?_, hI⟩
    · rw [if_pos h0, x_now hRx, bo_s, x_gi1, bo_s]
      exact congrArg some hf.1
    · rw [if_pos h0, mgr, bo_s, mall hRm, show (5 : Int32) = nI 5 from rfl, mai _ _ (by decide), bo_s]
  · by_cases h1 : z = 1
    · refine ⟨σm.1 1 6, ?_, ?_, hI⟩
      · rw [if_neg h0, if_pos h1, x_now hRx, bo_s, x_gi1, bo_s]
        exact congrArg some hf.2
      · rw [if_neg h0, if_pos h1, mgr, bo_s, mall hRm, show (6 : Int32) = nI 6 from rfl, mai _ _ (by decide), bo_s]
    · exact ⟨-1, by rw [if_neg h0, if_neg h1], by rw [if_neg h0, if_neg h1], hI⟩
theorem ok_count : LK_count Inv := by
  intro σx σm z hI
  obtain ⟨hRx, hRm, hT, -⟩ := id hI
  obtain ⟨c0, c1, c2, L, hb, hm, hx, hf, -⟩ := hT
  unfold f_X11_count f_X12_count
  rw [x_now hRx, bo_s, x_rc1, bo_s, iIn, bo_s]
  by_cases c : inR z 3
  · obtain ⟨j, hj, rfl⟩ := c
    have h2 : ¬ (nI j < 0 ∨ (2 : Int32) < nI j) := by
      rintro (h | h)
      · exact nI_pos (by omega) h
      · exact absurd ((nI_ltI (a := 2) (by decide) (by omega)).mp h) (by omega)
    refine ⟨σm.1 1 j, ?_, ?_, hI⟩
    · rw [x_many hRx hj, bo_s]
      have h3 : σx.1 38 j = σm.1 1 j := by
        rcases (show j = 0 ∨ j = 1 ∨ j = 2 by omega) with rfl | rfl | rfl
        · exact hx.1.trans hm.1.symm
        · exact hx.2.1.trans hm.2.1.symm
        · exact hx.2.2.1.trans hm.2.2.1.symm
      rw [h3]
    · rw [if_neg h2, if_neg (by decide), mgr, bo_s, mall hRm, mai _ _ (by omega), bo_s]
  · have h2 : z < 0 ∨ (2 : Int32) < z := Classical.not_not.mp (fun q => c ((inR_iff (n := 3) (by decide)).mpr q))
    refine ⟨-2, ?_, ?_, hI⟩
    · unfold f_X8_howMany f_X8_howMany_18
      by_cases c1 : z < 0
      · rw [if_pos c1, bo_s]
      · rw [if_neg c1, if_pos (show (3 : Int32) ≤ z from Classical.not_not.mp (fun q => c ((inR_iff2 (n := 3) (by decide)).mpr ⟨c1, q⟩))), bo_s]
    · rw [if_pos h2, if_pos rfl]
