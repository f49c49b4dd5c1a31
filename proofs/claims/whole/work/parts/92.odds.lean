/-! ===== odds: the reference ===== -/
theorem m_tens (m : Nat) (hm : m ≤ 100) (σ : Dt) : f_X12_tens (nI m) σ = some (lN (10 ^ m)) := by
  unfold f_X12_tens
  have key := iter_n (f := fun q : Int64 × Int32 => f_X12_tens_L4 (nI m) q.1 q.2 σ) (st := fun i => (lN (10 ^ i), nI i)) (x := lN (10 ^ m)) m (by omega) (fun i hi => ?_) ?_
  · rw [bo_of (show iter FU (fun q => f_X12_tens_L4 (nI m) q.1 q.2 σ) ((1 : Int64), (0 : Int32)) = _ from key)]
  · dsimp only
    unfold f_X12_tens_L4
    rw [ite_le_f (by omega) hi, show (10 : Int64) = lN 10 from rfl, lN_mul, nI_1, Nat.pow_succ]
  · dsimp only
    unfold f_X12_tens_L4
    rw [if_pos (nI_le (Nat.le_refl _) (by omega))]
/-- a sum down from E to nought, over sets within E, is a sum over all -/
theorem sT_dn {E F : Nat} (hE : E < 2 ^ F) (Φ : Nat → Nat) : sT (fun j => ci (nsub (E - j) E = 0) (Φ (E - j)) 0) (E + 1) = sT (fun t => ci (nsub t E = 0) (Φ t) 0) (2 ^ F) := by
  rw [sT_rev (fun t => ci (nsub t E = 0) (Φ t) 0) E]
  obtain ⟨d, hd⟩ : ∃ d, 2 ^ F = E + 1 + d := ⟨2 ^ F - (E + 1), by omega⟩
  have h1 := sT_add (fun t => ci (nsub t E = 0) (Φ t) 0) (E + 1) d
  have h2 : sT (fun i => ci (nsub (E + 1 + i) E = 0) (Φ (E + 1 + i)) 0) d = 0 := by
    refine sT_z d (fun i _ => ?_)
    rw [ci_f]
    intro z
    have : E + 1 + i ≤ E := Nat.le_of_testBit (fun j hj => sub_0.mp z j hj)
    omega
  rw [hd, h1, h2]
  rfl
section ODM
variable {σ : Dt} {o F W : Nat} {A : Nat → Int32}
theorem m_way (h : MV σ o A F W) {E t : Nat} {x3 x4 x5 : Int32} {y7 : Int64} (hE : E < 1024) (ht : t < 1024) : iter FU (fun q => f_X12_odds_L72 0 x3 x4 x5 (nI E) y7 (nI t) q.1 q.2 σ) ((1 : Int64), (0 : Int32)) = some (lN (wyN E (teN A) t F)) := by
  have hF := h.F10
  have hvw := h.vw
  have key := iter_fld (f := fun q : Int64 × Int32 => f_X12_odds_L72 0 x3 x4 x5 (nI E) y7 (nI t) q.1 q.2 σ) (st := fun i (b : Nat) => (lN b, nI i)) (g := fun e (b : Nat) => ci (E.testBit e = true) (b * (if t.testBit e = true then teN A e else 10 - teN A e)) b) (P := fun _ _ => True) (b0 := 1) (x := fun b => lN b) F (by omega) trivial (fun i b hi _ => ?_) (fun b _ => ?_)
  · exact key.1
  · dsimp only
    have ha := (hvw.fk (show i < 10 by omega)).1.2
    have e10 : 10 - teN A i = agN A i / 10 := by unfold teN; omega
    unfold f_X12_odds_L72 f_X12_odds_130
    rw [bo_of (mfolk h), ite_le_f (by omega) hi, bo_of mrc, bo_of (mag h (by omega)), bo_of (mamong (by omega) (by omega) _), ite_b, bo_of (mamong (by omega) (by omega) _), ite_b, t_div _ ha, t_sub _ (by omega), nI_l (by omega), nI_l (by omega), lN_mul, lN_mul, nI_1, e10, show 10 - agN A i / 10 = teN A i from rfl]
    by_cases c : E.testBit i = true
    · rw [ci_t c, ci_t c]
      by_cases d : t.testBit i = true
      · rw [ci_t d, if_pos d]
        exact ⟨rfl, trivial⟩
      · rw [ci_f d, if_neg d]
        exact ⟨rfl, trivial⟩
    · rw [ci_f c, ci_f c, Int64.mul_one]
      exact ⟨rfl, trivial⟩
  · dsimp only
    unfold f_X12_odds_L72
    rw [bo_of (mfolk h), if_pos (nI_le (Nat.le_refl _) (by omega))]
theorem m_up (h : MV σ o A F W) {E w : Nat} {n x5 : Int32} (hE : E < 2 ^ F) (hw : w < W) : iter FU (fun q => f_X12_odds_L30 0 (nI w) n x5 (nI E) q.1 q.2 σ) ((0 : Int64), nI E) = some (lN (upO A F w n E)) := by
  have hF := h.F10
  have hW := h.W6
  have hvw := h.vw
  have hp := pw_le hF
  have key := iter_fld (f := fun q : Int64 × Int32 => f_X12_odds_L30 0 (nI w) n x5 (nI E) q.1 q.2 σ) (st := fun i (b : Nat) => (lN b, nI (E + 1 - i) - 1)) (g := fun i (b : Nat) => b + ci (nsub (E - i) E = 0) (ci (enP A F w n (E - i)) (wyN E (teN A) (E - i) F) 0) 0) (P := fun _ _ => True) (b0 := 0) (x := fun b => lN b) (E + 1) (by omega) trivial (fun i b hi _ => ?_) (fun b _ => ?_)
  · rw [show ((0 : Int64), nI E) = (lN 0, nI (E + 1 - 0) - 1) from by rw [Nat.sub_zero, nI_pred]; rfl, key.1, sT_fld, Nat.zero_add, sT_dn hE (fun t => ci (enP A F w n t) (wyN E (teN A) t F) 0)]
    rfl
  · dsimp only
    have hd : nI (E + 1 - i) - 1 = nI (E - i) := by rw [show E + 1 - i = (E - i) + 1 by omega, nI_pred]
    have hd2 : nI (E - i) + (-1) = nI (E + 1 - (i + 1)) - 1 := by rw [← Int32.sub_eq_add_neg, show E + 1 - (i + 1) = E - i by omega]
    have ht : E - i < 1024 := by omega
    generalize hte : E - i = t at hd hd2 ht
    unfold f_X12_odds_L30 f_X12_odds_146
    rw [hd, if_neg (nI_pos (by omega)), nI_andx, hd2, bo_of mrc, bo_of (m_strengths h _ _), strA_s hvw (by omega) F hF, bo_of mrc, bo_of (msiz h (by omega)), bo_of (m_way h (by omega) ht), lN_add]
    by_cases c : nsub t E = 0
    · rw [ite_z_t c, ci_t c]
      by_cases d : enP A F w n t
      · rw [if_pos (Int32.not_lt.mp d), ci_t d]
        exact ⟨rfl, trivial⟩
      · have d' : n * nI (sumN (stN A) t F) < nI (szN A w) := Classical.not_not.mp d
        rw [if_neg (Int32.not_le.mpr d'), ci_f d]
        exact ⟨rfl, trivial⟩
    · rw [ite_z_f (Nat.lt_of_le_of_lt (nsub_le _ _) (by omega)) c, ci_f c]
      exact ⟨rfl, trivial⟩
  · dsimp only
    unfold f_X12_odds_L30
    rw [Nat.sub_self, if_pos (by decide)]
end ODM
theorem popc_F {E F : Nat} (hE : E < 2 ^ F) (hF : F ≤ 10) : popc E = popK E F := by
  unfold popc
  rw [popK_sum, popK_sum, show 12 = F + (12 - F) by omega, sumN_hi hE]
theorem VW.grF {A : Nat → Int32} {F W f : Nat} (h : VW A F W) (hF : F ≤ 10) (hf : f < F) : grN A f < 2 ^ F :=
  Nat.lt_of_lt_of_le (h.fk (show f < 10 by omega)).2.2.2.1.2 (Nat.pow_le_pow_right (by decide) (by omega))
theorem ok_odds : LK_odds Inv := by
  intro σx σm z1 z2 z3 z4 z5 hI hz5
  unfold f_X11_odds f_X12_odds
  simp only [x_now hI.1, bo_s, x_rc1, mrc]
  rcases ask_V hI z1 with ⟨k, A, F, W, hk, hz, hC, e1, e2, hM, hI2⟩ | ⟨e1, e2⟩
  · have hF := hC.F10
    have hW := hC.W6
    simp only [e1, bo_s, ite_none, crc hC.1]
    by_cases c : mayA A F W z2 z3 z4
    · rw [bo_of ((c_mayAsk hC z2 z3 z4).1 c), bd_of ((m_mayKeep e2 hM z2 z3 z4).1 c)]
      obtain ⟨f, w, hf, hw, rfl, rfl, -, -⟩ := c
      have hE := hC.vw.grF hF hf
      have hp := pw_le hF
      have hm : popK (grN A f) F ≤ F := popK_le _ F
      obtain ⟨τ, x1, x2⟩ := x_lives (n := z4) hC hf hw
      have hK := (x2.tr (KX_L (a := 218) (j := 0) (v := lN (upO A F w z4 (grN A f) / Nat.gcd (upO A F w z4 (grN A f)) (10 ^ popK (grN A f) F))))).tr (KX_L (a := 218) (j := 1) (v := lN (10 ^ popK (grN A f) F / Nat.gcd (upO A F w z4 (grN A f)) (10 ^ popK (grN A f) F))))
      have hle := upO_le A F w z4 (grN A f)
      have h10 : 10 ^ popK (grN A f) F ≤ 10 ^ 10 := Nat.pow_le_pow_right (by decide) (by omega)
      have hpos : 0 < 10 ^ popK (grN A f) F := Nat.pow_pos (by decide)
      rw [ite_10, ite_10, bo_of (x_chance hI.1), bo_of x_rcc, bd_of x1, bo_of (x_chance (hK.ref hI.1)), bo_of x_rcc, bo_of (x_part z5), bo_of (mgd hM (by omega)), bo_of (m_up hM hE hw), bo_of (mbits (by omega) _), popc_F hE hF, bo_of (m_tens _ (by omega) _), bo_of (m_parted (by omega) hpos (by omega) z5)]
      exact ⟨_, _, _, rfl, rfl, hK.inv hI2⟩
    · rw [bo_of ((c_mayAsk hC z2 z3 z4).2 c), bd_of ((m_mayKeep e2 hM z2 z3 z4).2 c), ite_00, ite_00]
      exact ⟨-1, _, _, rfl, rfl, hI2⟩
  · rw [bd_of (m_mayKeep0 e2 z2 z3 z4)]
    simp only [e1, bo_s]
    exact ⟨-1, _, _, rfl, rfl, hI⟩
