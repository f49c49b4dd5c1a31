/-! ===== power ===== -/
theorem x_rows {k : Nat} (hk : k ≤ 10) (σ : Dt) : f_X0_rowsOf (nI k) σ = some (lN (fac k)) := by
  unfold f_X0_rowsOf
  have e0 : fac k = fac (k - 1 + 1) := by
    cases k with
    | zero => rfl
    | succ k => rfl
  have key := iter_n (f := fun q : Int64 × Int32 => f_X0_rowsOf_L4 (nI k) q.1 q.2 σ) (st := fun i => (lN (fac (i + 1)), nI (i + 2))) (x := lN (fac k)) (k - 1) (by omega) (fun i hi => ?_) ?_
  · rw [bo_of (show iter FU (fun q => f_X0_rowsOf_L4 (nI k) q.1 q.2 σ) ((1 : Int64), (2 : Int32)) = _ from key)]
  · dsimp only
    unfold f_X0_rowsOf_L4
    rw [if_neg (show ¬ nI k < nI (i + 2) from Int32.not_lt.mpr (nI_le (by omega) (by omega))), if_neg (show ¬ (10 : Int32) < nI (i + 2) from Int32.not_lt.mpr (nI_le (b := 10) (by omega) (by decide))), nI_l (by omega), lN_mul, nI_1]
    rfl
  · dsimp only
    unfold f_X0_rowsOf_L4
    rw [if_pos (show nI k < nI (k - 1 + 2) from nI_lt (by omega) (by omega)), e0]
theorem m_rowsF {k : Nat} (hk : k ≤ 10) (σ : Dt) : f_X12_rowsOf (nI k) σ = some (lN (fac k)) := by
  unfold f_X12_rowsOf
  have e0 : fac k = fac (k - 1 + 1) := by
    cases k with
    | zero => rfl
    | succ k => rfl
  have key := iter_n (f := fun q : Int64 × Int32 => f_X12_rowsOf_L4 (nI k) q.1 q.2 σ) (st := fun i => (lN (fac (i + 1)), nI (i + 2))) (x := lN (fac k)) (k - 1) (by omega) (fun i hi => ?_) ?_
  · rw [bo_of (show iter FU (fun q => f_X12_rowsOf_L4 (nI k) q.1 q.2 σ) ((1 : Int64), (2 : Int32)) = _ from key)]
  · dsimp only
    unfold f_X12_rowsOf_L4
    rw [if_neg (show ¬ nI k < nI (i + 2) from Int32.not_lt.mpr (nI_le (by omega) (by omega))), nI_l (by omega), lN_mul, nI_1]
    rfl
  · dsimp only
    unfold f_X12_rowsOf_L4
    rw [if_pos (show nI k < nI (k - 1 + 2) from nI_lt (by omega) (by omega)), e0]
theorem exL_or {E F s e : Nat} (he : e < F) (hE : E.testBit e = true) : exL E F (s ||| 2 ^ popK E e) = exL E F s ||| 2 ^ e := by
  apply Nat.eq_of_testBit_eq
  intro j
  rw [Nat.testBit_or, tb_pow]
  by_cases hj : j < F
  · rw [exL_tb F j hj, exL_tb F j hj, Nat.testBit_or, tb_pow]
    by_cases c : e = j
    · subst c
      rw [hE]; simp
    · rw [decide_eq_false c, Bool.or_false]
      cases e1 : E.testBit j
      · rfl
      · have : ¬ popK E e = popK E j := fun z => c (by rw [← whE_r F e he hE, z, whE_r F j hj e1])
        rw [decide_eq_false this, Bool.or_false]
  · have h1 : (exL E F (s ||| 2 ^ popK E e)).testBit j = false := by
      cases e1 : (exL E F (s ||| 2 ^ popK E e)).testBit j
      · rfl
      · exact absurd (tb_lt (exL_lt F) e1) hj
    have h2 : (exL E F s).testBit j = false := by
      cases e1 : (exL E F s).testBit j
      · rfl
      · exact absurd (tb_lt (exL_lt F) e1) hj
    rw [h1, h2, decide_eq_false (show ¬ e = j by omega)]; rfl
theorem exL_pop {E F s : Nat} : popK s (popK E F) = popK (exL E F s) F := by
  have key := fld_loc (E := E) (fun e c (b : Nat) => if c = true then b + (fun _ => 1) e else b) 0 s F
  rw [fld_sum (a := fun _ => 1) (fun e he => exL_sub he), ← popK_sum] at key
  rw [← key]
  have : ∀ n, popK s n = fld (fun i (b : Nat) => if s.testBit i = true then b + 1 else b) 0 n := by
    intro n
    induction n with
    | zero => rfl
    | succ n ih =>
      rw [popK_s, ih, fld]
      cases s.testBit n <;> rfl
  exact this _
theorem popK_rm {E e : Nat} (hE : E.testBit e = true) : ∀ n, popK E n = popK (nsub E (2 ^ e)) n + (if e < n then 1 else 0)
  | 0 => rfl
  | n + 1 => by
    rw [popK_s, popK_s, popK_rm hE n]
    by_cases c : e = n
    · subst c
      have : (nsub E (2 ^ e)).testBit e = false := by
        cases e1 : (nsub E (2 ^ e)).testBit e
        · rfl
        · exact absurd (by rw [tb_pow]; simp) (sub_tb.mp e1).2
      rw [this, hE, if_neg (Nat.lt_irrefl e), if_pos (Nat.lt_succ_self e)]
      rfl
    · have : (nsub E (2 ^ e)).testBit n = E.testBit n := by
        cases e1 : (nsub E (2 ^ e)).testBit n
        · cases e2 : E.testBit n
          · rfl
          · have : (nsub E (2 ^ e)).testBit n = true := sub_tb.mpr ⟨e2, by rw [tb_pow, decide_eq_false c]; simp⟩
            rw [e1] at this; cases this
        · exact (sub_tb.mp e1).1.symm
      rw [this]
      by_cases d : e < n
      · rw [if_pos d, if_pos (by omega)]; omega
      · rw [if_neg d, if_neg (by omega)]; omega
theorem sub_rm {t E e : Nat} : nsub t (nsub E (2 ^ e)) = 0 ↔ nsub t E = 0 ∧ ¬ t.testBit e = true := by
  rw [sub_0, sub_0]
  constructor
  · intro h
    refine ⟨fun i hi => (sub_tb.mp (h i hi)).1, fun z => (sub_tb.mp (h e z)).2 (by rw [tb_pow]; simp)⟩
  · rintro ⟨h1, h2⟩ i hi
    refine sub_tb.mpr ⟨h1 i hi, fun z => ?_⟩
    rw [tb_pow] at z
    have : e = i := by simpa using z
    subst this
    exact h2 hi
theorem sT_one {S i0 : Nat} : ∀ n, sT (fun i => ci (i = i0) S 0) n = if i0 < n then S else 0
  | 0 => by rw [if_neg (Nat.not_lt_zero i0)]; rfl
  | n + 1 => by
    rw [sT_s, sT_one n]
    rcases (show i0 < n ∨ i0 = n ∨ n < i0 by omega) with c | c | c
    · rw [if_pos c, if_pos (by omega), ci_f (by omega)]; rfl
    · rw [if_neg (by omega), if_pos (by omega), ci_t c.symm, Nat.zero_add]
    · rw [if_neg (by omega), if_neg (by omega), ci_f (by omega)]
/-- he turns it, after these -/
noncomputable def tnP (A : Nat → Int32) (F w : Nat) (n : Int32) (e t : Nat) : Prop := ¬ t.testBit e = true ∧ ¬ enP A F w n t ∧ enP A F w n (t ||| 2 ^ e)
noncomputable def upP (A : Nat → Int32) (F w : Nat) (n : Int32) (E e : Nat) : Nat := sT (fun t => ci (nsub t E = 0) (ci (tnP A F w n e t) (fac (popK t F) * fac (popK E F - 1 - popK t F)) 0) 0) (2 ^ F)
theorem upP_lt (A : Nat → Int32) {F : Nat} (hF : F ≤ 10) (w : Nat) (n : Int32) (E e : Nat) : upP A F w n E e < 2 ^ 62 := by
  have hp := pw_le hF
  have h1 : upP A F w n E e ≤ 2 ^ F * (3628800 * 3628800) := by
    refine sT_b _ (fun t _ => ?_)
    have q1 := popK_le t F
    have q2 := popK_le E F
    by_cases c : nsub t E = 0
    · rw [ci_t c]
      by_cases d : tnP A F w n e t
      · rw [ci_t d]
        exact Nat.mul_le_mul (fac_b _ (by omega)).2 (fac_b _ (by omega)).2
      · rw [ci_f d]; omega
    · rw [ci_f c]; omega
  have h2 : 2 ^ F * (3628800 * 3628800) ≤ 1024 * (3628800 * 3628800) := Nat.mul_le_mul_right _ hp
  omega
section PWX
variable {σ : Dt} {v F W : Nat} {A : Nat → Int32}
theorem x_turns (h : CV σ v A F W) {f w e : Nat} {n : Int32} (hf : f < F) (hw : w < W) (he : e < F) (hE : (grN A f).testBit e = true) : ∃ τ, f_X0_thatHeTurnsIt 218 (some v) (nI f) (nI w) n (nI e) σ = some ((), setL (setL τ 218 0 (lN (upP A F w n (grN A f) e / Nat.gcd (upP A F w n (grN A f) e) (fac (popK (grN A f) F))))) 218 1 (lN (fac (popK (grN A f) F) / Nat.gcd (upP A F w n (grN A f) e) (fac (popK (grN A f) F))))) ∧ KX σ τ := by
  have hF := h.F10
  have hW := h.W6
  obtain ⟨τ, g1, g2, g3⟩ := x_gather h hf
  have hC := g2.cv h
  refine ⟨τ, ?_, g2⟩
  generalize hEe : grN A f = E at *
  have hm : popK E F ≤ F := popK_le _ F
  have hp : 2 ^ popK E F ≤ 1024 := pw_le (by omega)
  have hi0 := popK_up F e he hE
  have inner : ∀ b, iter FU (fun q : Int64 × Int32 => f_X0_thatHeTurnsIt_L44 218 (some v) (nI w) n (nI e) (nI (popK E e)) q.1 q.2 τ) (lN b, (0 : Int32)) = some (lN (b + upP A F w n E e)) := by
    intro b0
    have key := iter_fld (f := fun q : Int64 × Int32 => f_X0_thatHeTurnsIt_L44 218 (some v) (nI w) n (nI e) (nI (popK E e)) q.1 q.2 τ) (st := fun i (b : Nat) => (lN b, nI i)) (g := fun s b => b + (fun t => ci (tnP A F w n e t) (fac (popK t F) * fac (popK E F - 1 - popK t F)) 0) (exL E F s)) (P := fun _ _ => True) (b0 := b0) (x := fun b => lN b) (2 ^ popK E F) (by omega) trivial (fun s b hs _ => ?_) (fun b _ => ?_)
    · rw [show iter FU (fun q : Int64 × Int32 => f_X0_thatHeTurnsIt_L44 218 (some v) (nI w) n (nI e) (nI (popK E e)) q.1 q.2 τ) (lN b0, (0 : Int32)) = _ from key.1, sT_fld, sT_loc E F (fun t => ci (tnP A F w n e t) (fac (popK t F) * fac (popK E F - 1 - popK t F)) 0)]
      rfl
    · dsimp only
      have hor : s ||| 2 ^ popK E e < 2 ^ popK E F := or_lt hs (Nat.pow_lt_pow_right (by decide) hi0)
      have hpc : popc s = popK (exL E F s) F := by rw [popc_F hs (by omega), exL_pop]
      unfold f_X0_thatHeTurnsIt_L44 f_X0_thatHeTurnsIt_82 f_X0_thatHeTurnsIt_107 f_X0_thatHeTurnsIt_137 f_X0_thatHeTurnsIt_184
      rw [q_rf hC.2.1 (Or.inl rfl), q_ai (Or.inl rfl) (by omega), (g3.2 _ hi0).1, whE_r F e he hE, if_pos rfl, q_gi, g3.1, shl1 (by omega), ite_le_f (by omega) hs, shl1 (by omega), nI_or]
      simp only [bo_of x_rcc, bo_of (x_strOf hC.2.1 hF g3 (show s < 2 ^ 31 by omega)), bo_of (x_strOf hC.2.1 hF g3 (show s ||| 2 ^ popK E e < 2 ^ 31 by omega)), bo_of (xsizes hC), bo_of (xsiz hC (show w < W by omega)), exL_or he hE, bit0 (show s < 2 ^ 31 by omega) (show popK E e < 32 by omega), ite_10, ite_00, nI_1]
      have htb : (exL E F s).testBit e = s.testBit (popK E e) := by rw [exL_tb F e he, hE, Bool.true_and]
      by_cases c1 : s.testBit (popK E e) = true
      · rw [if_neg (fun z => z c1), ci_f (show ¬ tnP A F w n e (exL E F s) from fun z => z.1 (by rw [htb]; exact c1)), Nat.add_zero]
        by_cases c2 : n * nI (sumN (stN A) (exL E F s) F) < nI (szN A w)
        · rw [if_pos c2]
          by_cases c3 : n * nI (sumN (stN A) (exL E F s ||| 2 ^ e) F) < nI (szN A w)
          · rw [if_pos c3]; exact ⟨rfl, trivial⟩
          · rw [if_neg c3]; exact ⟨rfl, trivial⟩
        · rw [if_neg c2]
          by_cases c3 : n * nI (sumN (stN A) (exL E F s ||| 2 ^ e) F) < nI (szN A w)
          · rw [if_pos c3]; exact ⟨rfl, trivial⟩
          · rw [if_neg c3]; exact ⟨rfl, trivial⟩
      · rw [if_pos c1]
        by_cases c2 : n * nI (sumN (stN A) (exL E F s) F) < nI (szN A w)
        · rw [if_pos c2]
          by_cases c3 : n * nI (sumN (stN A) (exL E F s ||| 2 ^ e) F) < nI (szN A w)
          · rw [if_pos c3, ci_f (show ¬ tnP A F w n e (exL E F s) from fun z => z.2.2 c3), Nat.add_zero]
            exact ⟨rfl, trivial⟩
          · have hlt : popK s (popK E F) < popK E F := by
              have := popK_strict (s := s) (t := 2 ^ popK E F - 1) (popK E F) (fun i hi _ => by rw [Nat.testBit_two_pow_sub_one]; simpa using hi) ⟨popK E e, hi0, by rw [Nat.testBit_two_pow_sub_one]; simpa using hi0, c1⟩
              have := popK_le (2 ^ popK E F - 1) (popK E F)
              omega
            rw [exL_pop] at hlt
            have hsb : (nI (popK E F) - 1) - nI (popK (exL E F s) F) = nI (popK E F - 1 - popK (exL E F s) F) := by
              rw [jI_n (popK E F), jI_n (popK (exL E F s) F), jI_n (popK E F - 1 - popK (exL E F s) F), show (1 : Int32) = jI 1 from rfl, jI_sub, jI_sub]
              congr 1
              omega
            rw [if_neg c3, ci_t (show tnP A F w n e (exL E F s) from ⟨by rw [htb]; exact c1, fun z => z c2, c3⟩), bo_of (xbits (by omega) _), hpc, bo_of (x_rows (by omega) _), q_gi, g3.1, hsb, bo_of (x_rows (by omega) _), lN_mul, lN_add]
            exact ⟨rfl, trivial⟩
        · rw [if_neg c2, ci_f (show ¬ tnP A F w n e (exL E F s) from fun z => z.2.1 c2), Nat.add_zero]
          by_cases c3 : n * nI (sumN (stN A) (exL E F s ||| 2 ^ e) F) < nI (szN A w)
          · rw [if_pos c3]; exact ⟨rfl, trivial⟩
          · rw [if_neg c3]; exact ⟨rfl, trivial⟩
    · dsimp only
      unfold f_X0_thatHeTurnsIt_L44
      rw [q_rf hC.2.1 (Or.inl rfl), q_ai (Or.inl rfl) (by omega), (g3.2 _ hi0).1, whE_r F e he hE, if_pos rfl, q_gi, g3.1, shl1 (by omega), if_pos (nI_le (Nat.le_refl _) (by omega))]
  unfold f_X0_thatHeTurnsIt
  rw [if_neg (by simp), bo_of (crc h.1), bo_of (c_hasWorkB h _), ite_b, ci_in_t hw, bo_of x_rcc, bd_of g1]
  have key := iter_fld (f := fun q : Int64 × Int32 => f_X0_thatHeTurnsIt_L25 218 (some v) (nI w) n (nI e) q.1 q.2 τ) (st := fun i (b : Nat) => (lN b, nI i)) (g := fun i b => b + ci (i = popK E e) (upP A F w n E e) 0) (P := fun _ _ => True) (b0 := 0) (x := fun b => lN b) (popK E F) (by omega) trivial (fun i b hi _ => ?_) (fun b _ => ?_)
  · rw [bo_of (show iter FU (fun q : Int64 × Int32 => f_X0_thatHeTurnsIt_L25 218 (some v) (nI w) n (nI e) q.1 q.2 τ) ((0 : Int64), (0 : Int32)) = _ from key.1), sT_fld, Nat.zero_add, sT_one, if_pos hi0]
    unfold f_X0_thatHeTurnsIt_196
    have fb := fac_b (popK E F) (by omega)
    rw [q_gi, g3.1, bo_of (x_rows (by omega) _), bo_of x_rcc, bd_of (x_reduce (upP_lt A hF w n E e) fb.1 (by omega))]
  · dsimp only
    unfold f_X0_thatHeTurnsIt_L25 f_X0_thatHeTurnsIt_190
    rw [q_gi, g3.1, ite_le_f (by omega) hi, if_neg (show ¬ (10 : Int32) ≤ nI i from nI_ge (b := 10) (by omega) (by decide)), nI_1]
    by_cases c : i = popK E e
    · subst c
      rw [bo_of (inner b), ci_t rfl]
      exact ⟨rfl, trivial⟩
    · obtain ⟨p1, p2, p3⟩ := whE_P F i hi
      have hne : ¬ nI (whE E F i) = nI e := fun z => c (by rw [← p2, (nI_eq (by omega) (by omega)).mp z])
      have hit := iter_n (f := fun q : Int64 × Int32 => f_X0_thatHeTurnsIt_L44 218 (some v) (nI w) n (nI e) (nI i) q.1 q.2 τ) (st := fun _ => (lN b, (0 : Int32))) (x := lN b) 0 (by decide) (fun j hj => absurd hj (Nat.not_lt_zero j)) (by
        dsimp only
        unfold f_X0_thatHeTurnsIt_L44
        rw [q_rf hC.2.1 (Or.inl rfl), q_ai (Or.inl rfl) (by omega), (g3.2 _ hi).1, if_neg hne])
      rw [bo_of hit, ci_f c, Nat.add_zero]
      exact ⟨rfl, trivial⟩
  · dsimp only
    unfold f_X0_thatHeTurnsIt_L25
    rw [q_gi, g3.1, if_pos (nI_le (Nat.le_refl _) (by omega))]
end PWX
