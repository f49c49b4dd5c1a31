/-! ===== text: the reading begins ===== -/
theorem x_clear {σ : Dt} (hR : RefX σ) : ∃ τ, f_X9_clear 156 σ = some ((), τ) ∧ (∀ a, ¬ a = 156 → ¬ a = 159 → τ.1 a = σ.1 a) ∧ τ.2 = σ.2 ∧ τ.1 156 0 = 0 ∧ τ.1 156 1 = 0 ∧ τ.1 156 2 = 20 ∧ ∀ f, f < 10 → τ.1 159 f = 0 := by
  have key := iter_w (f := fun q : Int32 × Dt => f_X9_clear_L18 156 q.1 q.2) (s0 := ((0 : Int32), setX (setX (setX σ 156 0 0) 156 1 0) 156 2 20)) (P := fun j q => q.1 = nI j ∧ (∀ a, ¬ a = 159 → q.2.1 a = (setX (setX (setX σ 156 0 0) 156 1 0) 156 2 20).1 a) ∧ q.2.2 = σ.2 ∧ ∀ f, f < j → q.2.1 159 f = 0) (Q := fun τ => (∀ a, ¬ a = 159 → τ.1 a = (setX (setX (setX σ 156 0 0) 156 1 0) 156 2 20).1 a) ∧ τ.2 = σ.2 ∧ ∀ f, f < 10 → τ.1 159 f = 0) 10 (by decide) ⟨rfl, fun _ _ => rfl, rfl, fun f hf => absurd hf (Nat.not_lt_zero f)⟩ (fun j q hj hP => by
    obtain ⟨x, ρ⟩ := q
    obtain ⟨p1, p2, p3, p4⟩ := hP
    dsimp only at p1 p2 p3 p4 ⊢
    subst p1
    unfold f_X9_clear_L18
    rcases (show j = 10 ∨ j < 10 by omega) with y | y
    · left
      subst y
      rw [if_pos (by decide)]
      exact ⟨_, rfl, p2, p3, p4⟩
    · right
      have hRρ : RefX ρ := by unfold RefX at *; rw [p3]; exact hR
      rw [if_neg (le10 y), r_v5 hRρ, r_s (by omega), nI_1]
      refine ⟨y, _, rfl, rfl, fun a ha => (setX_o ha).trans (p2 a ha), p3, fun f hf => ?_⟩
      show (setX ρ 159 j 0).1 159 f = 0
      rcases (show f = j ∨ f < j by omega) with w | w
      · rw [w, setX_j]
      · rw [setX_n (by omega)]; exact p4 f w)
  obtain ⟨τ, e, h1, h2, h3⟩ := key
  unfold f_X9_clear
  rw [r_p9, r_p9, r_p9, bo_of e]
  refine ⟨τ, rfl, fun a a1 a2 => ?_, h2, ?_, ?_, ?_, h3⟩
  · rw [h1 a a2, setX_o a1, setX_o a1, setX_o a1]
  · rw [h1 156 (by decide), setX_n (by decide), setX_n (by decide), setX_j]
  · rw [h1 156 (by decide), setX_n (by decide), setX_j]
  · rw [h1 156 (by decide), setX_j]
theorem x_read0 {σ : Dt} {B : Nat → Nat} {L s : Nat} (hR : RefX σ) (hL : L ≤ 600) (hB : ∀ i, i < L → σ.1 2 i = nI (B i) ∧ B i < 256) : ∃ τ, f_X5_read 155 (some 2) (nI L) (nI s) σ = (bo (iter FU (fun s => f_X5_read_L89 155 s.1 s.2.1 s.2.2) ((1 : Int32), (0 : Int32), τ)) fun w32 => f_X5_read_115 155 w32) ∧ Rd τ B L ∧ τ.1 155 7 = nI s ∧ τ.1 155 9 = nI 0 ∧ τ.1 155 10 = nI 0 ∧ FX τ (0, 0) ∧ (∀ a, (a < 155 ∨ 173 < a) → τ.1 a = σ.1 a) ∧ (τ.1 156 0 = 0 ∧ τ.1 156 1 = 0 ∧ τ.1 156 2 = 20 ∧ ∀ f, f < 10 → τ.1 159 f = 0) ∧ τ.1 164 0 = 0 ∧ τ.1 169 0 = 1 ∧ τ.1 169 1 = 0 := by
  obtain ⟨q1, q2, q3⟩ := tp_sh
  obtain ⟨σ2, hσ2⟩ : ∃ q : Dt, q = (σ.1, σ.2.1, up2 σ.2.2 155 5 (some 2)) := ⟨_, rfl⟩
  have hp : xpr SX 5 5 (some 155) (some 2) σ = some σ2 := by rw [hσ2]; exact xpr_of (by decide) (by decide)
  have e1 : σ2.1 = σ.1 := by rw [hσ2]
  have e2 : σ2.2.2 155 5 = some 2 := by rw [hσ2]; exact (up2_eq : (up2 σ.2.2 155 5 (some 2)) 155 5 = some 2)
  have hR2 : RefX σ2 := by
    refine ⟨fun a j h1 h2 => ?_, Or.inr e2⟩
    rw [hσ2]
    have : (up2 σ.2.2 155 5 (some 2)) a j = σ.2.2 a j := if_neg h2
    exact this.trans (hR.1 a j h1 h2)
  obtain ⟨σ3, hσ3⟩ : ∃ q : Dt, q = setX (setX (setX (setX (setX (setX σ2 155 6 (nI L)) 155 7 (nI s)) 155 3 0) 155 4 (-1)) 155 9 0) 155 10 0 := ⟨_, rfl⟩
  have hR3 : RefX σ3 := by rw [hσ3]; exact hR2
  obtain ⟨σ4, c1, c2, c3, c4, c5, c6, c7⟩ := x_clear hR3
  have hR4 : RefX σ4 := by unfold RefX at *; rw [c3]; exact hR3
  refine ⟨setX (setX (setX σ4 164 0 0) 169 0 1) 169 1 0, ?_, ⟨hR4, ?_, ?_, hL, fun i hi => ?_⟩, ?_, ?_, ?_, ⟨?_, ?_, by decide⟩, fun a ha => ?_, ⟨?_, ?_, ?_, fun f hf => ?_⟩, ?_, ?_, ?_⟩
  · unfold f_X5_read
    rw [bo_of hp, if_neg (by simp), bo_of (xln_of q1 q2), q3, show mmax (0 : Int32) (mmin (nI L) (nI 600)) = nI L from mm_in hL (by decide)]
    unfold f_X5_read_24
    rw [r_pi, r_pi, r_pi, r_pi, r_pi, r_pi, ← hσ3, r_r0 hR3, bo_of (crc (v := 156) (by decide)), bd_of c1, r_r1 hR4, r_p4, grS, r_r2 hR4, r_p6, grS, grS, r_r2 hR4, r_p6]
  · show σ4.2.2 155 5 = some 2
    rw [c3, hσ3]
    exact e2
  · rw [setX_o (by decide), setX_o (by decide), setX_o (by decide), c2 155 (by decide) (by decide), hσ3]
    simp (disch := omega) only [Nat.reduceAdd, setX_ne, setX_j, upS_ne, upS_eq]
  · rw [setX_o (by decide), setX_o (by decide), setX_o (by decide), c2 2 (by decide) (by decide), hσ3]
    simp (disch := omega) only [Nat.reduceAdd, setX_ne, setX_j, upS_ne, upS_eq]
    rw [e1]
    exact hB i hi
  · rw [setX_o (by decide), setX_o (by decide), setX_o (by decide), c2 155 (by decide) (by decide), hσ3]
    simp (disch := omega) only [Nat.reduceAdd, setX_ne, setX_j, upS_ne, upS_eq]
  · rw [setX_o (by decide), setX_o (by decide), setX_o (by decide), c2 155 (by decide) (by decide), hσ3]
    simp (disch := omega) only [Nat.reduceAdd, setX_ne, setX_j, upS_ne, upS_eq]
    rfl
  · rw [setX_o (by decide), setX_o (by decide), setX_o (by decide), c2 155 (by decide) (by decide), hσ3]
    simp (disch := omega) only [Nat.reduceAdd, setX_ne, setX_j, upS_ne, upS_eq]
    rfl
  · rw [setX_o (by decide), setX_o (by decide), setX_o (by decide), c2 155 (by decide) (by decide), hσ3]
    simp (disch := omega) only [Nat.reduceAdd, setX_ne, setX_j, upS_ne, upS_eq]
    rfl
  · rw [setX_o (by decide), setX_o (by decide), setX_o (by decide), c2 155 (by decide) (by decide), hσ3]
    simp (disch := omega) only [Nat.reduceAdd, setX_ne, setX_j, upS_ne, upS_eq]
    rfl
  · rw [setX_o (by omega), setX_o (by omega), setX_o (by omega), c2 a (by omega) (by omega), hσ3, setX_o (by omega), setX_o (by omega), setX_o (by omega), setX_o (by omega), setX_o (by omega), setX_o (by omega), e1]
  · rw [setX_o (by decide), setX_o (by decide), setX_o (by decide)]; exact c4
  · rw [setX_o (by decide), setX_o (by decide), setX_o (by decide)]; exact c5
  · rw [setX_o (by decide), setX_o (by decide), setX_o (by decide)]; exact c6
  · rw [setX_o (by decide), setX_o (by decide), setX_o (by decide)]; exact c7 f hf
  · rw [setX_o (by decide), setX_o (by decide), setX_j]
  · rw [setX_n (by decide), setX_j]
  · rw [setX_j]
theorem m_zero3 {σ : Dt} (hR : RefM σ) (x1 x2 : Int32) : ∃ τ, iter FU (fun s => f_X12_text_L88 0 x1 x2 s.1 s.2) ((0 : Int32), σ) = some τ ∧ (∀ b, ¬ b = 3 → τ.1 b = σ.1 b) ∧ τ.2.2 = σ.2.2 ∧ ∀ j, j < 161 → τ.1 3 j = 0 := by
  refine iter_w (f := fun q : Int32 × Dt => f_X12_text_L88 0 x1 x2 q.1 q.2) (P := fun j q => q.1 = nI j ∧ (∀ b, ¬ b = 3 → q.2.1 b = σ.1 b) ∧ q.2.2.2 = σ.2.2 ∧ ∀ i, i < j → q.2.1 3 i = 0) (Q := fun τ => (∀ b, ¬ b = 3 → τ.1 b = σ.1 b) ∧ τ.2.2 = σ.2.2 ∧ ∀ j, j < 161 → τ.1 3 j = 0) 161 (by decide) ⟨rfl, fun _ _ => rfl, rfl, fun i hi => absurd hi (Nat.not_lt_zero i)⟩ (fun j q hj hP => ?_)
  obtain ⟨x, ρ⟩ := q
  obtain ⟨p1, p2, p3, p4⟩ := hP
  dsimp only at p1 p2 p3 p4 ⊢
  subst p1
  unfold f_X12_text_L88
  rcases (show j = 161 ∨ j < 161 by omega) with y | y
  · left
    subst y
    rw [if_pos (by decide)]
    exact ⟨_, rfl, p2, p3, p4⟩
  · right
    have hRρ : RefM ρ := by unfold RefM at *; rw [p3]; exact hR
    rw [if_neg (show ¬ (161 : Int32) ≤ nI j from nI_ge (b := 161) y (by decide)), mg10 hRρ, ms3 y, nI_1]
    refine ⟨y, _, rfl, rfl, fun b hb => (setX_o hb).trans (p2 b hb), p3, fun i hi => ?_⟩
    show (setX ρ 3 j 0).1 3 i = 0
    rcases (show i = j ∨ i < j by omega) with w | w
    · rw [w, setX_j]
    · rw [setX_n (by omega)]; exact p4 i w
def r3i (s j : Nat) : Int32 := if s = 0 ∧ j = 2 then 20 else if s = 2 ∧ j = 0 then 1 else 0
theorem m_text0 {σ : Dt} {B : Nat → Nat} {L s : Nat} {z2 : Int32} (h : Rq σ B L) (hs : s < 3) (h5 : σ.1 1 5 = 0) (h6 : σ.1 1 6 = -1) : ∃ τ, f_X12_text_71 0 (nI s) z2 σ = (bo (iter FU (fun q => f_X12_text_L136 0 (nI s) z2 q) τ) fun w6 => f_X12_text_197 0 (nI s) z2 w6) ∧ Rq τ B L ∧ MD τ B L (0, 0) (.inl 0) ∧ K3 σ τ ∧ τ.1 0 9 = -1 ∧ ∀ j, j < 161 → τ.1 3 j = r3i s j := by
  obtain ⟨σ1, hσ1⟩ : ∃ q : Dt, q = setX (setX (setX σ 0 3 0) 0 8 0) 0 9 (-1) := ⟨_, rfl⟩
  have k1 : K3 σ σ1 := by
    rw [hσ1]
    exact ⟨fun b b1 _ _ => by rw [setX_o b1, setX_o b1, setX_o b1], fun j hj => by rw [setX_n (by omega), setX_n (by omega), setX_n (by omega)], fun j _ _ => by rw [setX_o (by decide), setX_o (by decide), setX_o (by decide)], rfl⟩
  obtain ⟨σ2, a1, a2, a3, a4⟩ := m_zero3 (k1.ref h.1) (nI s) z2
  have k2 : K3 σ1 σ2 := K3_3 a2 a3
  have fin : ∀ ρ, K3 σ2 ρ → (∀ b, ¬ b = 3 → ρ.1 b = σ2.1 b) → (∀ j, j < 161 → ρ.1 3 j = r3i s j) → ∃ τ, f_X12_text_132 0 (nI s) z2 ρ = (bo (iter FU (fun q => f_X12_text_L136 0 (nI s) z2 q) τ) fun w6 => f_X12_text_197 0 (nI s) z2 w6) ∧ Rq τ B L ∧ MD τ B L (0, 0) (.inl 0) ∧ K3 σ τ ∧ τ.1 0 9 = -1 ∧ ∀ j, j < 161 → τ.1 3 j = r3i s j := by
    intro ρ k3 o3 r3
    have kk : K3 σ ρ := (k1.tr k2).tr k3
    have hq := kk.rq h
    have e0 : ρ.1 0 = σ1.1 0 := (o3 0 (by decide)).trans (a2 0 (by decide))
    have e1 : ρ.1 1 = σ.1 1 := ((o3 1 (by decide)).trans (a2 1 (by decide))).trans (by rw [hσ1, setX_o (by decide), setX_o (by decide), setX_o (by decide)])
    obtain ⟨τ, t1, t2, t3⟩ := m_tok (i := 0) hq (Nat.zero_le _) (by rw [e0, hσ1]; simp (disch := omega) only [Nat.reduceAdd, setX_ne, setX_j, upS_ne, upS_eq]; rfl)
    unfold f_X12_text_132
    rw [bo_of mrc, bd_of t1]
    refine ⟨τ, rfl, t2.rq hq, ⟨Nat.zero_le _, ?_, t3, ⟨?_, ?_, by decide, by decide⟩, fun z => absurd rfl z⟩, kk.tr t2.kf.k3, ?_, fun j hj => ?_⟩
    · rw [t2.2.1 8 (by omega), e0, hσ1]; simp (disch := omega) only [Nat.reduceAdd, setX_ne, setX_j, upS_ne, upS_eq]
    · rw [t2.1 1 (by decide), e1]; exact h5
    · rw [t2.1 1 (by decide), e1]; exact h6
    · rw [t2.2.1 9 (by omega), e0, hσ1]; simp (disch := omega) only [Nat.reduceAdd, setX_ne, setX_j, upS_ne, upS_eq]
    · rw [t2.1 3 (by decide)]; exact r3 j hj
  have hR2 := k2.ref (k1.ref h.1)
  unfold f_X12_text_71
  rw [mpiB, mpz8 (Or.inl rfl), mpiB, ← hσ1, bo_of a1]
  rcases (show s = 0 ∨ s = 1 ∨ s = 2 by omega) with rfl | rfl | rfl
  · rw [if_pos (by decide), mg10 hR2, ms32]
    unfold f_X12_text_120
    rw [if_neg (by decide)]
    refine fin _ K3_s (fun b hb => setX_o hb) (fun j hj => ?_)
    by_cases c : j = 2
    · subst c; rw [setX_j]; rfl
    · rw [setX_n c, a4 j hj]
      exact ((if_neg (fun z => c z.2)).trans (if_neg (fun z => absurd z.1 (by decide)))).symm
  · rw [if_neg (by decide)]
    unfold f_X12_text_120
    rw [if_neg (by decide)]
    refine fin _ (K3_0 _) (fun b hb => rfl) (fun j hj => ?_)
    rw [a4 j hj]
    exact ((if_neg (fun z => absurd z.1 (by decide))).trans (if_neg (fun z => absurd z.1 (by decide)))).symm
  · rw [if_neg (by decide)]
    unfold f_X12_text_120
    rw [if_pos (by decide), mg10 hR2, ms30]
    refine fin _ K3_s (fun b hb => setX_o hb) (fun j hj => ?_)
    by_cases c : j = 0
    · subst c; rw [setX_j]; rfl
    · rw [setX_n c, a4 j hj]
      exact ((if_neg (fun z => absurd z.1 (by decide))).trans (if_neg (fun z => c z.2))).symm
def Rs (s : Nat) : Dt → Dt → Prop := if s = 0 then R0 else if s = 1 then DR1 else DR2
/-- the whole reading, both sides -/
theorem t_read {σx σm : Dt} {B : Nat → Nat} {L s : Nat} {z2 : Int32} (hR : RefX σx) (h : Rq σm B L) (hs : s < 3) (hB : ∀ i, i < L → σx.1 2 i = nI (B i) ∧ B i < 256) (h5 : σm.1 1 5 = 0) (h6 : σm.1 1 6 = -1) : ∃ σx' σm', f_X5_read 155 (some 2) (nI L) (nI s) σx = some ((), σx') ∧ f_X12_text_71 0 (nI s) z2 σm = f_X12_text_205 0 (nI s) z2 σm' ∧ (∀ a, (a < 155 ∨ 173 < a) → σx'.1 a = σx.1 a) ∧ RefX σx' ∧ K3 σm σm' ∧ EN σx' σm' (Rs s) := by
  have hL := h.2.2.1
  obtain ⟨τx, x1, x2, x3, x4, x5, x6, x7, ⟨x8, x9, x10, x11⟩, x12, x13, x14⟩ := x_read0 (s := s) hR hL hB
  obtain ⟨τm, m1, m2, m3, m4, m5, m6⟩ := m_text0 (z2 := z2) h hs h5 h6
  rw [x1, m1]
  rcases (show s = 0 ∨ s = 1 ∨ s = 2 by omega) with rfl | rfl | rfl
  · have r : ∀ j, j < 161 → ¬ j = 2 → τm.1 3 j = 0 := fun j hj hne => (m6 j hj).trans ((if_neg (fun z => hne z.2)).trans (if_neg (fun z => absurd z.1 (by decide))))
    have hJ : JS τx τm B L 0 0 (0, 0) DR0 WB0 := by
      refine ⟨x2, m2, x3, x4, x6, m3, ⟨0, 0, by decide, by decide, r 0 (by decide) (by decide), r 1 (by decide) (by decide)⟩, fun _ => ⟨0, 0, 0, 0, by decide, ⟨x8, r 0 (by decide) (by decide)⟩, ⟨x9, r 1 (by decide) (by decide)⟩, ⟨20, x10, m6 2 (by decide), by decide, by decide⟩, fun f hf => ⟨0, 0, 0, r _ (by omega) (by omega), by decide, r _ (by omega) (by omega), by decide, r _ (by omega) (by omega), Nat.two_pow_pos f, x11 f hf, fun z => absurd z (Nat.not_lt_zero f), fun _ => ⟨rfl, rfl⟩, fun z => absurd rfl z⟩, fun w hw => ⟨0, 0, r _ (by omega) (by omega), by decide, r _ (by omega) (by omega), by decide, fun z => absurd z (Nat.not_lt_zero w)⟩, x5, m5, fun f z => ?_, Or.inl rfl⟩⟩
      rw [Nat.zero_testBit] at z
      exact absurd z (by decide)
    obtain ⟨σx1, σm1, a1, a2, a3, a4, a5, a6⟩ := j_valleys (x2 := z2) hJ
    obtain ⟨σx2, σm2, b1, b2, b3, b4, b5⟩ := e_valley (a3.rd x2) (a4.rq m2) (by rw [a3.2.2.1]; exact x3) a6
    refine ⟨σx2, σm2, ?_, ?_, fun a ha => ((b3.1 a ha).trans (a3.1 a ha)).trans (x7 a ha), b3.ref (a3.ref x2.1), (m4.tr a4).tr b4, b5⟩
    · rw [bo_of a1]; exact b1
    · rw [bo_of a2]
      unfold f_X12_text_197
      rw [if_pos (by decide), bo_of mrc, bd_of b2]
  · have r : ∀ j, j < 161 → τm.1 3 j = 0 := fun j hj => (m6 j hj).trans ((if_neg (fun z => absurd z.1 (by decide))).trans (if_neg (fun z => absurd z.1 (by decide))))
    have hJ : JS τx τm B L 1 0 (0, 0) DR1 WB1 := by
      refine ⟨x2, m2, x3, x4, x6, m3, ⟨0, by decide, r 0 (by decide)⟩, fun _ => ⟨⟨x12.trans (r 0 (by decide)).symm, fun k h1 h2 => ?_⟩, 0, r 0 (by decide), by decide, fun k hk => absurd hk (Nat.not_lt_zero k)⟩⟩
      rw [r 0 (by decide)] at h2
      exact absurd h2 (nI_pos (by omega))
    obtain ⟨σx1, σm1, a1, a2, a3, a4, a5, a6⟩ := j_lives (x2 := z2) hJ
    obtain ⟨b1, b5⟩ := e_other (s := 1) (Or.inl rfl) (by rw [a3.2.2.1]; exact x3) a6
    refine ⟨σx1, σm1, ?_, ?_, fun a ha => (a3.1 a ha).trans (x7 a ha), a3.ref x2.1, m4.tr a4, b5⟩
    · rw [bo_of a1]; exact b1
    · rw [bo_of a2]
      unfold f_X12_text_197
      rw [if_neg (by decide)]
  · have r : ∀ j, j < 161 → ¬ j = 0 → τm.1 3 j = 0 := fun j hj hne => (m6 j hj).trans ((if_neg (fun z => absurd z.1 (by decide))).trans (if_neg (fun z => hne z.2)))
    have hJ : JS τx τm B L 2 0 (0, 0) DR2 WB2 := by
      refine ⟨x2, m2, x3, x4, x6, m3, ⟨0, by decide, r 1 (by decide) (by decide)⟩, fun _ => ⟨⟨x13.trans (m6 0 (by decide)).symm, x14.trans (r 1 (by decide) (by decide)).symm, fun k h1 h2 => ?_⟩, ⟨1, m6 0 (by decide), by decide, by decide⟩, 0, r 1 (by decide) (by decide), by decide, fun k hk => absurd hk (Nat.not_lt_zero k)⟩⟩
      rw [r 1 (by decide) (by decide)] at h2
      exact absurd h2 (nI_pos (by omega))
    obtain ⟨σx1, σm1, a1, a2, a3, a4, a5, a6⟩ := j_sights (x2 := z2) hJ
    obtain ⟨b1, b5⟩ := e_other (s := 2) (Or.inr rfl) (by rw [a3.2.2.1]; exact x3) a6
    refine ⟨σx1, σm1, ?_, ?_, fun a ha => (a3.1 a ha).trans (x7 a ha), a3.ref x2.1, m4.tr a4, b5⟩
    · rw [bo_of a1]; exact b1
    · rw [bo_of a2]
      unfold f_X12_text_197
      rw [if_neg (by decide)]
