/-! ===== lot ===== -/
theorem pow2 : ∀ W : Nat, W < 7 → ((1 : Int32) <<< (nI W &&& 31)) = nI (2 ^ W) ∧ 2 ^ W ≤ 64 ∧ 1 ≤ 2 ^ W ∧ nI (2 ^ W) - 1 = nI (2 ^ W - 1) := by decide
theorem x_dig3 {σ : Dt} (hR : RefX σ) : xgr SX 1 3 (some 194) σ = some (some 195) := by
  rw [xgr_of (by decide) (by decide), hR.1 194 3 (by decide) (by decide)]
  rfl
theorem x_dig4 {σ : Dt} (hR : RefX σ) : xgr SX 1 4 (some 194) σ = some (some 196) := by
  rw [xgr_of (by decide) (by decide), hR.1 194 4 (by decide) (by decide)]
  rfl
theorem x_diggers {σ : Dt} (hR : RefX σ) : xgr SX 11 7 (some 0) σ = some (some 194) := by
  rw [xgr_of (by decide) (by decide), hR.1 0 7 (by decide) (by decide)]
  rfl
theorem x_rcd : xrc SX 1 (some 194) = some 194 := xrc_of (by decide) (by decide)
def bestL (A : Nat → Int32) (W : Nat) (x : Int32) : Nat → Nat
  | 0 => 0
  | i + 1 => if x < sumW A 43 (nI i) W then bestL A W x i else if sumW A 44 (nI i) W ≤ sumW A 44 (nI (bestL A W x i)) W then bestL A W x i else i
theorem bestL_s (A : Nat → Int32) (W : Nat) (x : Int32) (i : Nat) : bestL A W x (i + 1) = if x < sumW A 43 (nI i) W then bestL A W x i else if sumW A 44 (nI i) W ≤ sumW A 44 (nI (bestL A W x i)) W then bestL A W x i else i := rfl
theorem bestL_le (A : Nat → Int32) (W : Nat) (x : Int32) : ∀ i, bestL A W x i ≤ i - 1
  | 0 => Nat.le_refl _
  | i + 1 => by
    have h := bestL_le A W x i
    rw [bestL]
    by_cases c1 : x < sumW A 43 (nI i) W
    · rw [if_pos c1]; omega
    · rw [if_neg c1]
      by_cases c2 : sumW A 44 (nI i) W ≤ sumW A 44 (nI (bestL A W x i)) W
      · rw [if_pos c2]; omega
      · rw [if_neg c2]; omega
theorem c_allWorks {σ : Dt} {v F W : Nat} {A : Nat → Int32} (h : CV σ v A F W) : f_X9_allWorks v σ = some (nI (2 ^ W - 1)) := by
  have hW := h.W6
  unfold f_X9_allWorks
  rw [cgi h.1, bo_s, h.works, (pow2 W (by omega)).1, (pow2 W (by omega)).2.2.2]
theorem c_lot {σ : Dt} {v F W : Nat} {A : Nat → Int32} (h : CV σ v A F W) (x y : Int32) : ∃ σ', f_X1_bestLot 194 (some v) x y σ = some (if y = 0 then sumW A 44 (nI (bestL A W x (2 ^ W))) W else nI (bestL A W x (2 ^ W)), σ') ∧ (∀ a, a < 155 → σ'.1 a = σ.1 a) ∧ σ'.2.2 = σ.2.2 := by
  have hW := h.W6
  have hp := pow2 W (by omega)
  have hR := h.2.1
  refine ⟨putR (putR σ 195 (fun s => if s < 64 then sumW A 43 (nI s) W else σ.1 195 s)) 196 (fun s => if s < 64 then sumW A 44 (nI s) W else (putR σ 195 (fun s => if s < 64 then sumW A 43 (nI s) W else σ.1 195 s)).1 196 s), ?_, fun a ha => ?_, rfl⟩
  · have h1 := CV_put (g := fun s => if s < 64 then sumW A 43 (nI s) W else σ.1 195 s) (a := 195) h (by decide)
    have h2 := CV_put (g := fun s => if s < 64 then sumW A 44 (nI s) W else (putR σ 195 (fun s => if s < 64 then sumW A 43 (nI s) W else σ.1 195 s)).1 196 s) (a := 196) h1 (by decide)
    unfold f_X1_bestLot
    rw [if_neg (by simp), csizes h.1 hR, bo_s, x_dig3 hR, bo_s, c_sumUp h 195 43 6 (Or.inl rfl) (Or.inl ⟨rfl, rfl⟩), bd_s, cworths h.1 h1.2.1, bo_s, x_dig4 h1.2.1, bo_s, c_sumUp h1 196 44 7 (Or.inr rfl) (Or.inr ⟨rfl, rfl⟩), bd_s]
    generalize hσ : putR (putR σ 195 (fun s => if s < 64 then sumW A 43 (nI s) W else σ.1 195 s)) 196 (fun s => if s < 64 then sumW A 44 (nI s) W else (putR σ 195 (fun s => if s < 64 then sumW A 43 (nI s) W else σ.1 195 s)).1 196 s) = τ at h2 ⊢
    have g1 : ∀ s, s < 64 → τ.1 195 s = sumW A 43 (nI s) W := by
      intro s hs
      rw [← hσ, putR_o (by decide), putR_a]
      exact if_pos hs
    have g2 : ∀ s, s < 64 → τ.1 196 s = sumW A 44 (nI s) W := by
      intro s hs
      rw [← hσ, putR_a]
      exact if_pos hs
    have a1 : ∀ s, s < 64 → xai SX (some 195) (nI s) τ = some (sumW A 43 (nI s) W) := fun s hs => by rw [xai_of (by decide) (by decide) (show s < SX.2.2 195 from hs) (by decide), g1 s hs]
    have a2 : ∀ s, s < 64 → xai SX (some 196) (nI s) τ = some (sumW A 44 (nI s) W) := fun s hs => by rw [xai_of (by decide) (by decide) (show s < SX.2.2 196 from hs) (by decide), g2 s hs]
    have hit : iter FU (fun s => f_X1_bestLot_L36 194 (some v) x y s.1 s.2 τ) ((0 : Int32), (0 : Int32)) = some (nI (bestL A W x (2 ^ W))) := by
      refine iter_n (st := fun i => (nI (bestL A W x i), nI i)) (x := nI (bestL A W x (2 ^ W))) (2 ^ W) (by omega) (fun i hi => ?_) ?_
      · dsimp only
        have hb := bestL_le A W x i
        unfold f_X1_bestLot_L36 f_X1_bestLot_84
        rw [crc h.1, bo_s, c_allWorks h2, bo_s, if_neg (fun c => absurd ((nI_ltI (by omega) (by omega)).mp c) (by omega)), if_neg (show ¬ (64 : Int32) ≤ nI i from fun c => absurd ((nI_leI (a := 64) (by decide) (by omega)).mp c) (by omega)), x_dig3 h2.2.1, bo_s, a1 i (by omega), bo_s, bestL]
        by_cases c1 : x < sumW A 43 (nI i) W
        · rw [if_pos c1, if_pos c1, nI_1]
        · rw [if_neg c1, if_neg c1, x_dig4 h2.2.1, bo_s, a2 i (by omega), bo_s, bo_s, a2 _ (by omega), bo_s]
          by_cases c2 : sumW A 44 (nI i) W ≤ sumW A 44 (nI (bestL A W x i)) W
          · rw [if_pos c2, if_pos c2, nI_1]
          · rw [if_neg c2, if_neg c2, nI_1]
      · dsimp only
        unfold f_X1_bestLot_L36
        rw [crc h.1, bo_s, c_allWorks h2, bo_s, if_pos (nI_lt (by omega) (by omega))]
    rw [hit, bo_s]
    unfold f_X1_bestLot_90
    have hb := bestL_le A W x (2 ^ W)
    by_cases c : y = 0
    · rw [if_pos c, if_pos c, x_dig4 h2.2.1, bo_s, a2 _ (by omega), bo_s]
    · rw [if_neg c, if_neg c]
  · rw [putR_o (by omega), putR_o (by omega)]
theorem m_lot {σ : Dt} {o F W : Nat} {A : Nat → Int32} (h : MV σ o A F W) (x y : Int32) : iter FU (fun s => f_X12_lot_L26 0 x y s.1 s.2 σ) ((0 : Int32), (1 : Int32)) = some (nI (bestL A W x (2 ^ W))) := by
  have hW : W ≤ 6 := h.2.2.2.2.2.2.2.2.2.1
  have hp := pow2 W (by omega)
  have e1 : bestL A W x 1 = 0 := by
    have := bestL_le A W x 1
    omega
  have key := iter_n (f := fun s : Int32 × Int32 => f_X12_lot_L26 0 x y s.1 s.2 σ) (st := fun i => (nI (bestL A W x (i + 1)), nI (i + 1))) (x := nI (bestL A W x (2 ^ W))) (2 ^ W - 1) (by omega) (fun i hi => ?_) ?_
  · rw [show bestL A W x (0 + 1) = 0 from e1] at key
    exact key
  · dsimp only
    unfold f_X12_lot_L26 f_X12_lot_66
    rw [mgi, bo_s, h.2.2.2.1, hp.1, if_neg (fun c => absurd ((nI_leI (by omega) (by omega)).mp c) (by omega)), mrc, bo_s, m_sizes h, bo_s, bestL_s A W x (i + 1)]
    by_cases c1 : x < sumW A 43 (nI (i + 1)) W
    · rw [if_pos c1, if_pos c1, nI_1]
    · rw [if_neg c1, if_neg c1, bo_s, m_worths h, bo_s, bo_s, m_worths h, bo_s]
      by_cases c2 : sumW A 44 (nI (i + 1)) W ≤ sumW A 44 (nI (bestL A W x (i + 1))) W
      · rw [if_pos c2, if_pos c2, nI_1]
      · rw [if_neg c2, if_neg c2, nI_1]
  · dsimp only
    unfold f_X12_lot_L26
    rw [mgi, bo_s, h.2.2.2.1, hp.1, if_pos (nI_le (by omega) (by omega)), show 2 ^ W - 1 + 1 = 2 ^ W by omega]
theorem ok_lot : LK_lot Inv := by
  intro σx σm z1 z2 z3 hI hz3
  have hRx := hI.1
  unfold f_X11_lot f_X12_lot
  simp only [x_now hRx, bo_s, x_rc1, mrc]
  rcases ask_V hI z1 with ⟨k, A, F, W, hk, hz, hC, e1, e2, hM, hI2⟩ | ⟨e1, e2⟩
  · simp only [e1, bo_s, e2, bd_s]
    rw [if_neg (show ¬ some (6 + 16 * k) = none by simp), if_neg (show ¬ (1 : Int32) = 0 by decide), iIn, bo_s]
    by_cases c : z2 < 0 ∨ (99 : Int32) < z2
    · refine ⟨-1, _, _, ?_, by rw [if_pos c]; rfl, hI2⟩
      rcases c with c | c
      · rw [if_pos c]
      · by_cases c0 : z2 < 0
        · rw [if_pos c0]
        · rw [if_neg c0, if_neg (Int32.not_le.mpr c)]
    · have c0 : ¬ z2 < 0 := fun q => c (Or.inl q)
      have c9 : z2 ≤ (99 : Int32) := Int32.not_lt.mp (fun q => c (Or.inr q))
      obtain ⟨σ', q1, q2, q3⟩ := c_lot hC z2 z3
      rw [if_neg c0, if_pos c9, x_diggers hRx, bo_s, x_rcd, bo_s, q1, bd_s, if_neg c, if_neg (show ¬ (1 : Int32) = 0 by decide), m_lot hM, bo_s, m_worths hM, bo_s]
      refine ⟨_, _, _, rfl, ?_, Inv_x q2 q3 hI2⟩
      by_cases c3 : z3 = 0
      · rw [if_pos c3, if_pos c3]
      · rw [if_neg c3, if_neg c3]
  · simp only [e1, bo_s, e2, bd_s]
    exact ⟨-1, _, _, rfl, rfl, hI⟩
