/-! ===== dare: the answer ===== -/
theorem TD_4 : ∀ n, n ≤ 4 → TD n < 100000 := by decide
section DAN
variable {σ : Dt} {o F W : Nat} {A : Nat → Int32}
theorem m_dareOf (h : MV σ o A F W) {n : Nat} (hn : n ≤ 4) : ∃ τ, f_X12_dareOf 0 (nI n) σ = some (jI (ldI (kpN A F W 9) (woN A) W n 0 0), τ) ∧ KM σ τ ∧ τ.1 0 20 = tsV (kpN A F W 9) (woN A) W (σ.1 0 20) 0 0 n := by
  obtain ⟨s1, hs1⟩ : ∃ s, s = setX σ 5 0 0 := ⟨_, rfl⟩
  have k1 : KM σ s1 := by rw [hs1]; exact KM_set (by decide)
  obtain ⟨s2, hs2⟩ : ∃ s, s = setX s1 6 0 0 := ⟨_, rfl⟩
  have k2 : KM σ s2 := by rw [hs2]; exact k1.tr (KM_set (by decide))
  obtain ⟨s3, hs3⟩ : ∃ s, s = setX s2 9 0 0 := ⟨_, rfl⟩
  have k3 : KM σ s3 := by rw [hs3]; exact k2.tr (KM_set (by decide))
  obtain ⟨s4, hs4⟩ : ∃ s, s = setX (setX s3 7 0 (-1)) 8 0 99999999 := ⟨_, rfl⟩
  have k4 : KM σ s4 := by rw [hs4]; exact (k3.tr (KM_set (by decide))).tr (KM_set (by decide))
  have hL : Lv s4 0 0 0 0 := by
    refine ⟨?_, ?_, ?_⟩
    · rw [hs4, setX_o (by decide), setX_o (by decide), hs3, setX_o (by decide), hs2, setX_o (by decide), hs1, setX_j]; rfl
    · rw [hs4, setX_o (by decide), setX_o (by decide), hs3, setX_o (by decide), hs2, setX_j]; rfl
    · rw [hs4, setX_o (by decide), setX_o (by decide), hs3, setX_j]; rfl
  have hF : Fr s4 0 := by
    refine ⟨?_, ?_⟩
    · rw [hs4, setX_o (by decide), setX_j]
    · rw [hs4, setX_j]
  have h20 : s4.1 0 20 = σ.1 0 20 := by
    rw [hs4, setX_o (by decide), setX_o (by decide), hs3, setX_o (by decide), hs2, setX_o (by decide), hs1, setX_o (by decide)]
  obtain ⟨k, ρ, q1, q2, q3, q4, q5, q6⟩ := m_dfs hn n 0 0 0 0 s4 (by omega) (k4.mv h) (by decide) (by decide) (by decide) (by decide) hL hF
  have hv : (0 : Int) + sg 0 * ldI (kpN A F W 9) (woN A) W n 0 0 = ldI (kpN A F W 9) (woN A) W n 0 0 := by
    show (0 : Int) + 1 * ldI (kpN A F W 9) (woN A) W n 0 0 = _
    rw [Int.one_mul, Int.zero_add]
  rw [hv] at q2 q5
  have hp : popS ρ 0 (jI (ldI (kpN A F W 9) (woN A) W n 0 0)) = ((-1 : Int32), ρ) := rfl
  rw [hp] at q2
  have hend : (fun q : Int32 × Dt => f_X12_dareOf_L28 0 (nI n) q.1 q.2) ((-1 : Int32), ρ) = some (.inr ρ) := by
    show f_X12_dareOf_L28 0 (nI n) (-1) ρ = _
    unfold f_X12_dareOf_L28
    rw [if_pos (by decide)]
  have hit := stp_iter (f := fun q : Int32 × Dt => f_X12_dareOf_L28 0 (nI n) q.1 q.2) k FU q2 hend (Nat.lt_of_le_of_lt q1 (TD_4 n hn))
  have hl : f_X12_laysTurn 0 (0 : Int32) s3 = some ((), s4) := by rw [hs4]; exact m_laysT (k3.ref h.1) (a := 0) (by decide)
  refine ⟨ρ, ?_, k4.tr q3, ?_⟩
  · unfold f_X12_dareOf
    have z0 : ∀ {β : Type} {a : Nat} {τ : Dt} {k : Dt → Option β}, 5 ≤ a → a ≤ 9 → bo (xsi SM (some a) (0 : Int32) (0 : Int32) τ) k = k (setX τ a 0 0) := fun h1 h2 => dsi (i := 0) h1 h2 (by decide)
    rw [mr15 h.1, z0 (by decide) (by decide), ← hs1, mr16 (k1.ref h.1), z0 (by decide) (by decide), ← hs2, mr19 (k2.ref h.1), z0 (by decide) (by decide), ← hs3, bo_of mrc, bd_of hl, bo_of (show iter FU (fun q => f_X12_dareOf_L28 0 (nI n) q.1 q.2) ((0 : Int32), s4) = _ from hit), mr18 ((k4.tr q3).ref h.1), bo_of (show xai SM (some 8) (0 : Int32) ρ = some (ρ.1 8 0) from xai_of (i := 0) (by decide) (by decide) (by decide) (by decide)), q5]
  · rw [q6, if_pos rfl, h20]
end DAN
theorem ft_eq {K wo : Nat → Nat} {W t : Nat} (hW : W ≤ 6) (x : Int32) : (fld (ftG K wo W t) (6, -ldI K wo W t 0 0) 6).1 = tsV K wo W x 0 0 (t + 1) := by
  obtain ⟨a, m1, m2, m3, m4, m5, m6⟩ := mx_ld (K := K) (wo := wo) (W := W) (t := t) (tk := 0) (sy := 0) hW
  have g6 : gC K wo W t 0 0 6 = -ldI K wo W t 0 0 := if_pos rfl
  have gw : ∀ w, ¬ w = 6 → gC K wo W t 0 0 w = gn K wo W t 0 0 w := fun w z => if_neg z
  have key := fld_P (g := ftG K wo W t) (b := ((6 : Int32), -ldI K wo W t 0 0)) (P := fun i b => ∃ x, b.1 = nI x ∧ 6 - i ≤ x ∧ x ≤ 6 ∧ alC K W 0 0 x ∧ b.2 = gC K wo W t 0 0 x ∧ (∀ w, 6 - i ≤ w → w ≤ 6 → alC K W 0 0 w → gC K wo W t 0 0 w ≤ b.2) ∧ ∀ w, 6 - i ≤ w → w < x → alC K W 0 0 w → gC K wo W t 0 0 w < b.2) ⟨6, rfl, by omega, by omega, Or.inl rfl, g6.symm, fun w h1 h2 _ => by
      rw [show w = 6 by omega, g6]; exact Int.le_refl _, fun w h1 h2 => by omega⟩ 6 (fun i b hi hb => by
      obtain ⟨x, x1, x2, x3, x4, x5, x6, x7⟩ := hb
      unfold ftG
      have e : 6 - (i + 1) = 5 - i := by omega
      rw [e]
      by_cases c : alw K W 0 0 (5 - i)
      · rw [ci_t c]
        have eg := gw (5 - i) (by omega)
        by_cases d : gn K wo W t 0 0 (5 - i) < b.2
        · rw [if_pos d]
          refine ⟨x, x1, by omega, x3, x4, x5, fun w h1 h2 h3 => ?_, fun w h1 h2 h3 => ?_⟩
          · rcases (show w = 5 - i ∨ 6 - i ≤ w by omega) with y | y
            · rw [y, eg]; omega
            · exact x6 w y h2 h3
          · rcases (show w = 5 - i ∨ 6 - i ≤ w by omega) with y | y
            · rw [y, eg]; exact d
            · exact x7 w y h2 h3
        · rw [if_neg d]
          refine ⟨5 - i, rfl, Nat.le_refl _, by omega, Or.inr c, eg.symm, fun w h1 h2 h3 => ?_, fun w h1 h2 => by omega⟩
          dsimp only
          rcases (show w = 5 - i ∨ 6 - i ≤ w by omega) with y | y
          · rw [y, eg]; omega
          · have := x6 w y h2 h3; omega
      · rw [ci_f c]
        refine ⟨x, x1, by omega, x3, x4, x5, fun w h1 h2 h3 => ?_, fun w h1 h2 h3 => ?_⟩
        · rcases (show w = 5 - i ∨ 6 - i ≤ w by omega) with y | y
          · exact absurd (h3.elim (fun z => by omega) (fun z => y ▸ z)) c
          · exact x6 w y h2 h3
        · rcases (show w = 5 - i ∨ 6 - i ≤ w by omega) with y | y
          · exact absurd (h3.elim (fun z => by omega) (fun z => y ▸ z)) c
          · exact x7 w y h2 h3)
  obtain ⟨y, y1, y2, y3, y4, y5, y6, y7⟩ := key
  have hy : y = a := by
    have p1 := m5 y (by omega) y4
    have p2 := y6 a (by omega) (by omega) m3
    rcases (show y = a ∨ y < a ∨ a < y by omega) with z | z | z
    · exact z
    · have := m6 y z y4; omega
    · have := y7 a (by omega) z m3; omega
  rw [y1, hy]
  show _ = ttV x (mxG (alC K W 0 0) (gC K wo W t 0 0) 7)
  rw [m1]
  rfl
theorem nI_n4 {x : Int32} (h1 : ¬ x < 0) (h2 : x ≤ 4) : ∃ n, n ≤ 4 ∧ x = nI n := by
  have h1' := Int32.not_lt.mp h1
  rw [Int32.le_iff_toInt_le] at h1' h2
  have e0 : (0 : Int32).toInt = 0 := rfl
  have e4 : (4 : Int32).toInt = 4 := rfl
  rw [e0] at h1'
  rw [e4] at h2
  refine ⟨x.toInt.toNat, by omega, ?_⟩
  apply Int32.toInt_inj.mp
  rw [jI_n, jI_t (by omega) (by omega)]
  omega
theorem ok_dare : LK_dare Inv := by
  intro σx σm z1 z2 z3 hI hz3
  unfold f_X11_dare f_X12_dare
  simp only [x_now hI.1, bo_s, x_rc1, mrc]
  rcases ask_V hI z1 with ⟨k, A, F, W, hk, hz, hC, e1, e2, hM, hI2⟩ | ⟨e1, e2⟩
  · have hF := hC.F10
    have hW := hC.W6
    simp only [e1, bo_s, e2, bd_s, ite_none, ite_10, iInB, ite_b, x_speak hI.1, src7]
    by_cases c2 : z2 < 0
    · rw [if_pos c2, ci_f (inI_neg c2)]
      exact ⟨-999, _, _, rfl, rfl, hI2⟩
    · rw [if_neg c2]
      by_cases c3 : z2 ≤ 4
      · rw [if_pos c3, ci_t (show inI z2 0 4 from fun z => z.elim c2 (Int32.not_lt.mpr c3))]
        obtain ⟨n, hn, rfl⟩ := nI_n4 c2 c3
        obtain ⟨τx, x1, x2, x3⟩ := x_hear hC 9
        have hC2 := x2.cv hC
        have hRx := x2.ref hI.1
        have hI3 := x2.inv hI2
        have kF := KM_f (σ := setV σm (610 + 55 * k) F W) (j := 20) (v := -1) (by decide)
        obtain ⟨τm, m1, m2, m3⟩ := m_dareOf (kF.mv hM) hn
        rw [bd_of x1, mpiB, bd_of m1]
        have hI4 := (kF.tr m2).inv hI3
        by_cases c4 : z3 = 0
        · rw [if_pos c4, if_pos c4, bo_of (x_speak hRx), bo_of src7]
          have hl : f_X7_leadOf 191 (some (6 + 16 * k)) (nI n) τx = some (jI (ldI (kpN A F W 9) (woN A) W n 0 0)) := by
            unfold f_X7_leadOf
            rw [xs0 x3.1, bo_of (show f_X7_lead 12 (some (6 + 16 * k)) (some 192) (nI n) (0 : Int32) (0 : Int32) τx = _ from x_lead hC2 x3 n 12 0 0 (by omega) hn (by decide) (by decide))]
          rw [bo_of hl]
          exact ⟨_, _, _, rfl, rfl, hI4⟩
        · rw [if_neg c4, if_neg c4, bo_of (x_speak hRx), bo_of src7, bo_of (mgi 20 τm), m3]
          rw [setX_j]
          cases n with
          | zero =>
            have hl : f_X7_firstTake 191 (some (6 + 16 * k)) (nI 0) τx = some (-1) := by
              unfold f_X7_firstTake
              rw [if_neg (by simp), if_neg (by decide)]
            rw [bo_of hl]
            exact ⟨_, _, _, rfl, rfl, hI4⟩
          | succ t =>
            rw [bo_of (x_first hC2 x3 (show t < 4 by omega)), ft_eq hW (-1)]
            exact ⟨_, _, _, rfl, rfl, hI4⟩
      · rw [if_neg c3, ci_f (show ¬ inI z2 0 4 from fun z => z (Or.inr (Int32.not_le.mp c3)))]
        exact ⟨-999, _, _, rfl, rfl, hI2⟩
  · simp only [e1, bo_s, e2, bd_s]
    exact ⟨-999, _, _, rfl, rfl, hI⟩
