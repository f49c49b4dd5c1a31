/-! ===== power: the reference ===== -/
section PWM
variable {σ : Dt} {o F W : Nat} {A : Nat → Int32}
theorem m_upP (h : MV σ o A F W) {E w e : Nat} {n x6 : Int32} (hEF : E < 2 ^ F) (hw : w < W) (he : e < F) (hE : E.testBit e = true) : iter FU (fun q => f_X12_power_L59 0 (nI w) n (nI e) x6 (nI (nsub E (2 ^ e))) q.1 q.2 σ) ((0 : Int64), nI (nsub E (2 ^ e))) = some (lN (upP A F w n E e)) := by
  have hF := h.F10
  have hW := h.W6
  have hvw := h.vw
  have hp := pw_le hF
  have hpop := popK_rm hE F
  rw [if_pos he] at hpop
  have hmE := popK_le E F
  have ex : upP A F w n E e = sT (fun t => ci (nsub t (nsub E (2 ^ e)) = 0) (ci (tnP A F w n e t) (fac (popK t F) * fac (popK (nsub E (2 ^ e)) F - popK t F)) 0) 0) (2 ^ F) := by
    refine sT_c _ (fun t _ => ?_)
    rw [show popK E F - 1 = popK (nsub E (2 ^ e)) F by omega]
    by_cases c : nsub t E = 0
    · rw [ci_t c]
      by_cases d : t.testBit e = true
      · rw [ci_f (fun z => (sub_rm.mp z).2 d), ci_f (fun z : tnP A F w n e t => z.1 d)]
      · rw [ci_t (sub_rm.mpr ⟨c, d⟩)]
    · rw [ci_f c, ci_f (fun z => c (sub_rm.mp z).1)]
  have hO : nsub E (2 ^ e) < 2 ^ F := Nat.lt_of_le_of_lt (nsub_le _ _) hEF
  rw [ex]
  generalize hOe : nsub E (2 ^ e) = O at *
  have key := iter_fld (f := fun q : Int64 × Int32 => f_X12_power_L59 0 (nI w) n (nI e) x6 (nI O) q.1 q.2 σ) (st := fun i (b : Nat) => (lN b, nI (O + 1 - i) - 1)) (g := fun i (b : Nat) => b + ci (nsub (O - i) O = 0) (ci (tnP A F w n e (O - i)) (fac (popK (O - i) F) * fac (popK O F - popK (O - i) F)) 0) 0) (P := fun _ _ => True) (b0 := 0) (x := fun b => lN b) (O + 1) (by omega) trivial (fun i b hi _ => ?_) (fun b _ => ?_)
  · rw [show ((0 : Int64), nI O) = (lN 0, nI (O + 1 - 0) - 1) from by rw [Nat.sub_zero, nI_pred]; rfl, key.1, sT_fld, Nat.zero_add, sT_dn hO (fun t => ci (tnP A F w n e t) (fac (popK t F) * fac (popK O F - popK t F)) 0)]
  · dsimp only
    have hd : nI (O + 1 - i) - 1 = nI (O - i) := by rw [show O + 1 - i = (O - i) + 1 by omega, nI_pred]
    have hd2 : nI (O - i) + (-1) = nI (O + 1 - (i + 1)) - 1 := by rw [← Int32.sub_eq_add_neg, show O + 1 - (i + 1) = O - i by omega]
    have ht : O - i < 2 ^ F := by omega
    generalize hte : O - i = t at hd hd2 ht
    have hor : t ||| 2 ^ e < 2 ^ F := or_lt ht (Nat.pow_lt_pow_right (by decide) he)
    unfold f_X12_power_L59 f_X12_power_122 f_X12_power_123 f_X12_power_159 f_X12_power_162
    rw [hd, if_neg (nI_pos (by omega)), nI_andx, hd2]
    by_cases c : nsub t O = 0
    · rw [ite_z_t c, ci_t c, bo_of mrc, bo_of (m_strengths h _ _), strA_s hvw (by omega) F hF, bo_of mrc, bo_of (msiz h (by omega)), shl1 (by omega), nI_or]
      have hte2 : ¬ t.testBit e = true := by
        rw [← hOe] at c
        exact (sub_rm.mp c).2
      by_cases d : enP A F w n t
      · rw [if_pos (Int32.not_lt.mp d), ci_f (fun z : tnP A F w n e t => z.2.1 d), ite_00, Int64.add_zero, Nat.add_zero]
        exact ⟨rfl, trivial⟩
      · have d' : n * nI (sumN (stN A) t F) < nI (szN A w) := Classical.not_not.mp d
        rw [if_neg (Int32.not_le.mpr d'), bo_of mrc, bo_of (m_strengths h _ _), strA_s hvw (by omega) F hF, bo_of mrc, bo_of (msiz h (by omega))]
        by_cases c3 : n * nI (sumN (stN A) (t ||| 2 ^ e) F) < nI (szN A w)
        · rw [if_pos c3, ci_f (fun z : tnP A F w n e t => z.2.2 c3), ite_00, Int64.add_zero, Nat.add_zero]
          exact ⟨rfl, trivial⟩
        · have hmt : popK t F ≤ popK O F := popK_mono F (fun i _ hi => sub_0.mp c i hi)
          have hsb : nI (popK O F) - nI (popK t F) = nI (popK O F - popK t F) := by
            rw [jI_n (popK O F), jI_n (popK t F), jI_n (popK O F - popK t F), jI_sub]
            congr 1
            omega
          rw [if_neg c3, ci_t (show tnP A F w n e t from ⟨hte2, d, c3⟩), ite_10, bo_of (mbits (by omega) _), popc_F ht hF, bo_of (m_rowsF (by omega) _), bo_of (mbits (by omega) _), popc_F hO hF, bo_of (mbits (by omega) _), popc_F ht hF, hsb, bo_of (m_rowsF (by omega) _), lN_mul, lN_add]
          exact ⟨rfl, trivial⟩
    · rw [ite_z_f (Nat.lt_of_le_of_lt (nsub_le _ _) (by omega)) c, ci_f c]
      exact ⟨rfl, trivial⟩
  · dsimp only
    unfold f_X12_power_L59
    rw [Nat.sub_self, if_pos (by decide)]
end PWM
theorem ok_power : LK_power Inv := by
  intro σx σm z1 z2 z3 z4 z5 z6 hI hz6
  unfold f_X11_power f_X12_power
  simp only [x_now hI.1, bo_s, x_rc1, mrc]
  rcases ask_V hI z1 with ⟨k, A, F, W, hk, hz, hC, e1, e2, hM, hI2⟩ | ⟨e1, e2⟩
  · have hF := hC.F10
    have hW := hC.W6
    simp only [e1, bo_s, ite_none, crc hC.1]
    by_cases c : mayA A F W z2 z3 z4
    · rw [bo_of ((c_mayAsk hC z2 z3 z4).1 c), bd_of ((m_mayKeep e2 hM z2 z3 z4).1 c)]
      obtain ⟨f, w, hf, hw, rfl, rfl, -, -⟩ := c
      have hEF := hC.vw.grF hF hf
      have hp := pw_le hF
      rw [ite_10, ite_10, bo_of (m_isFolkB hM z5), ite_b]
      by_cases c2 : inR z5 F
      · obtain ⟨e, he, rfl⟩ := c2
        rw [ci_in_t he, bo_of (xgrandp hC he hf), ite_b, bo_of (mgd hM (by omega)), bo_of (mamong (by omega) (by omega) _), ite_b]
        by_cases c3 : (grN A f).testBit e = true
        · have hpop := popK_rm c3 F
          rw [if_pos he] at hpop
          have hm : popK (grN A f) F ≤ F := popK_le _ F
          have fb := fac_b (popK (grN A f) F) (by omega)
          have hO : nsub (grN A f) (2 ^ e) < 2 ^ F := Nat.lt_of_le_of_lt (nsub_le _ _) hEF
          obtain ⟨τ, x1, x2⟩ := x_turns (n := z4) hC hf hw he c3
          have hK := (x2.tr (KX_L (a := 218) (j := 0) (v := lN (upP A F w z4 (grN A f) e / Nat.gcd (upP A F w z4 (grN A f) e) (fac (popK (grN A f) F)))))).tr (KX_L (a := 218) (j := 1) (v := lN (fac (popK (grN A f) F) / Nat.gcd (upP A F w z4 (grN A f) e) (fac (popK (grN A f) F)))))
          rw [ci_t c3, ci_t c3, bo_of (x_chance hI.1), bo_of x_rcc, bd_of x1, bo_of (x_chance (hK.ref hI.1)), bo_of x_rcc, bo_of (x_part z6), bo_of (mgd hM (by omega)), shl1 (by omega), nI_andx, bo_of (m_upP hM hEF hw he c3), bo_of (mbits (by omega) _), popc_F hO hF, nI_1, show popK (nsub (grN A f) (2 ^ e)) F + 1 = popK (grN A f) F by omega, bo_of (m_rowsF (by omega) _), bo_of (m_parted (upP_lt A hF w z4 (grN A f) e) fb.1 (by omega) z6)]
          exact ⟨_, _, _, rfl, rfl, hK.inv hI2⟩
        · rw [ci_f c3, ci_f c3]
          exact ⟨-1, _, _, rfl, rfl, hI2⟩
      · have hg : f_X9_isGrandparent (6 + 16 * k) z5 (nI f) σx = some 0 := by
          unfold f_X9_isGrandparent f_X9_isGrandparent_33
          rw [bo_of (crc hC.1), bo_of (c_hasFolkB hC z5), ite_b, ci_f c2]
        rw [ci_f c2, bo_of hg, ite_00]
        exact ⟨-1, _, _, rfl, rfl, hI2⟩
    · rw [bo_of ((c_mayAsk hC z2 z3 z4).2 c), bd_of ((m_mayKeep e2 hM z2 z3 z4).2 c), ite_00, ite_00]
      exact ⟨-1, _, _, rfl, rfl, hI2⟩
  · rw [bd_of (m_mayKeep0 e2 z2 z3 z4)]
    simp only [e1, bo_s]
    exact ⟨-1, _, _, rfl, rfl, hI⟩
