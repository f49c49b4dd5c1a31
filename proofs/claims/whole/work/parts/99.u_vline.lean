/-! ===== text: the lines of a valley ===== -/
def farI (G : Nat) : Int32 := if G = 0 then -1 else nI (G - 1)
def DR0 (σx σm : Dt) : Prop := ∃ F W T G : Nat, (F ≤ 10 ∧ W ≤ 6 ∧ T < 1024 ∧ G ≤ 10) ∧ (σx.1 156 0 = nI F ∧ σm.1 3 0 = nI F) ∧ (σx.1 156 1 = nI W ∧ σm.1 3 1 = nI W) ∧ (∃ b, σx.1 156 2 = nI b ∧ σm.1 3 2 = nI b ∧ 1 ≤ b ∧ b ≤ 30) ∧ (∀ f, f < 10 → ∃ a s p, σm.1 3 (3 + 4 * f) = nI a ∧ a ≤ 99 ∧ σm.1 3 (4 + 4 * f) = nI s ∧ s ≤ 9 ∧ σm.1 3 (5 + 4 * f) = nI p ∧ p < 2 ^ f ∧ σx.1 159 f = nI p ∧ (f < F → σx.1 157 f = nI a ∧ σx.1 158 f = nI s) ∧ (F ≤ f → a = 0 ∧ s = 0) ∧ (¬ p = 0 → T.testBit f = true)) ∧ (∀ w, w < 6 → ∃ m q, σm.1 3 (43 + 2 * w) = nI m ∧ m ≤ 30 ∧ σm.1 3 (44 + 2 * w) = nI q ∧ q ≤ 20 ∧ (w < W → 1 ≤ m ∧ σx.1 162 w = nI m ∧ σx.1 163 w = nI q)) ∧ σx.1 155 10 = nI T ∧ σm.1 0 9 = farI G ∧ (∀ f, T.testBit f = true → f < G) ∧ (G = 0 ∨ T.testBit (G - 1) = true)
def WB0 (σm : Dt) : Prop := ∃ F W : Nat, F ≤ 10 ∧ W ≤ 6 ∧ σm.1 3 0 = nI F ∧ σm.1 3 1 = nI W
theorem lnK_s {B : Nat → Nat} {L s i : Nat} (h : ¬ lnK B L s i = 9) : lnK B L s i ≤ hiW s - loW s := by
  obtain ⟨-, e, -⟩ := lnK_1 h
  rw [e] at h ⊢
  unfold kdN at *
  by_cases c : loW s ≤ wcN B (tS B L i) (tE B L i) ∧ wcN B (tS B L i) (tE B L i) ≤ hiW s
  · rw [if_pos c]
    omega
  · exact absurd (if_neg c) h
section VLN
variable {σ : Dt} {B : Nat → Nat} {L i F : Nat} {g : Nat × Nat}
theorem mv_w9 (h : Rq σ B L) (hM : MD σ B L g (.inl i)) (hk : lnK B L 0 i = 9) : ∃ τ, f_X12_valleyLine 0 σ = some ((), τ) ∧ KF σ τ ∧ MD τ B L g (.inr (tS B L i)) := by
  obtain ⟨ρ, w1, w2, w3⟩ := (m_word (s := 0) h (by decide) hM).1 hk
  obtain ⟨τ, e1, e2, e3⟩ := m_endL (w2.rq h) w3
  unfold f_X12_valleyLine
  rw [mgiB, bo_of mrc, bd_of (show f_X12_wordIn 0 (1 : Int32) (4 : Int32) σ = _ from w1), mgiB, w3.1, if_neg (by decide)]
  unfold f_X12_valleyLine_24 f_X12_valleyLine_95
  rw [if_neg (by decide), if_neg (by decide), if_neg (by decide), if_neg (by decide), bo_of mrc, bd_of e1]
  exact ⟨τ, rfl, w2.tr e2, e3⟩
theorem mv_wK (h : Rq σ B L) (hM : MD σ B L g (.inl i)) (hk : ¬ lnK B L 0 i = 9) : ∃ ρ, KF σ ρ ∧ MD ρ B L g (.inl (tE B L i)) ∧ f_X12_valleyLine 0 σ = f_X12_valleyLine_24 0 (nI (tS B L i)) (nI (1 + lnK B L 0 i)) ρ ∧ tS B L i < tS B L (tE B L i) := by
  obtain ⟨ρ, w1, w2, w3⟩ := (m_word (s := 0) h (by decide) hM).2 hk
  have hi := hM.1
  have hb := tk_b (B := B) hi
  have hlt := tk_lt (B := B) hi (by have := (lnK_1 hk).1; omega)
  have hb2 := tk_b (B := B) hb.2.2.1
  refine ⟨ρ, w2, w3, ?_, by omega⟩
  unfold f_X12_valleyLine
  rw [mgiB, hM.2.2.1.2.1, bo_of mrc, bd_of (show f_X12_wordIn 0 (1 : Int32) (4 : Int32) σ = _ from w1), mgiB, w3.2.1, if_pos rfl]
  rfl
theorem mv_0 (h : Rq σ B L) (hM : MD σ B L g (.inl i)) (hk : lnK B L 0 i = 0) (hF : σ.1 3 0 = nI F) (hF10 : F ≤ 10) : ∃ τ, f_X12_valleyLine 0 σ = some ((), τ) ∧ K3 σ τ ∧ MD τ B L (nbG B L 0 9 (nbG B L 0 99 (if F < 10 then g else nt g (3, tS B L i)) (.inl (tE B L i))) (nbM B L (.inl (tE B L i)))) (elM B L (nbM B L (nbM B L (.inl (tE B L i))))) ∧ τ.1 0 9 = σ.1 0 9 ∧ τ.1 3 = (if F < 10 then (setX (setX (setX σ 3 (3 + 4 * F) (nI (nbV B L 0 99 (.inl (tE B L i))))) 3 (4 + 4 * F) (nI (nbV B L 0 9 (nbM B L (.inl (tE B L i)))))) 3 0 (nI (F + 1))).1 3 else σ.1 3) := by
  obtain ⟨ρ, w2, w3, w4, w5⟩ := mv_wK h hM (by omega)
  have hr : ρ.1 3 = σ.1 3 := w2.1 3 (by decide) (by decide)
  obtain ⟨τ, q1, q2, q3, q4, q5⟩ := m_folk (w2.rq h) w3 hM.2.2.2.2 w5 (by rw [hr]; exact hF) hF10
  obtain ⟨τ', e1, e2, e3⟩ := m_endL (q2.rq (w2.rq h)) q3
  rw [w4, hk]
  unfold f_X12_valleyLine_24 f_X12_valleyLine_95
  rw [if_pos (by decide), bo_of mrc, bd_of q1, bo_of mrc, bd_of e1]
  refine ⟨τ', rfl, (w2.k3.tr q2).tr e2.k3, e3, ?_, ?_⟩
  · rw [e2.2.1 9 (by decide), q4, w2.2.1 9 (by decide)]
  · rw [e2.1 3 (by decide) (by decide), q5]
    by_cases c : F < 10
    · rw [if_pos c, if_pos c]
      exact row_s (row_s (row_s hr))
    · rw [if_neg c, if_neg c, hr]
theorem mv_1 (h : Rq σ B L) (hM : MD σ B L g (.inl i)) (hk : lnK B L 0 i = 1) : ∃ τ, f_X12_valleyLine 0 σ = some ((), τ) ∧ K3 σ τ ∧ MD τ B L (bwG B L (nbV B L 0 9 (.inl (tE B L i))) (nbG B L 0 9 g (.inl (tE B L i))) (nbM B L (.inl (tE B L i)))) (elM B L (nbM B L (nbM B L (.inl (tE B L i))))) ∧ τ.1 0 9 = (if nI (nbV B L 0 9 (.inl (tE B L i))) ≤ σ.1 0 9 then σ.1 0 9 else nI (nbV B L 0 9 (.inl (tE B L i)))) ∧ τ.1 3 = (setX σ 3 (5 + 4 * nbV B L 0 9 (.inl (tE B L i))) (σ.1 3 (5 + 4 * nbV B L 0 9 (.inl (tE B L i))) ||| nI (2 ^ nbV B L 0 9 (nbM B L (.inl (tE B L i)))))).1 3 := by
  obtain ⟨ρ, w2, w3, w4, w5⟩ := mv_wK h hM (by omega)
  have hr : ρ.1 3 = σ.1 3 := w2.1 3 (by decide) (by decide)
  obtain ⟨τ, q1, q2, q3, q4, q5⟩ := m_child (w2.rq h) w3
  obtain ⟨τ', e1, e2, e3⟩ := m_endL (q2.rq (w2.rq h)) q3
  rw [w4, hk]
  unfold f_X12_valleyLine_24 f_X12_valleyLine_95
  rw [if_neg (by decide), if_pos (by decide), bo_of mrc, bd_of q1, bo_of mrc, bd_of e1]
  refine ⟨τ', rfl, (w2.k3.tr q2).tr e2.k3, e3, ?_, ?_⟩
  · rw [e2.2.1 9 (by decide), q4, w2.2.1 9 (by decide)]
  · rw [e2.1 3 (by decide) (by decide), q5, hr]
    exact row_s hr
theorem mv_2 (h : Rq σ B L) (hM : MD σ B L g (.inl i)) (hk : lnK B L 0 i = 2) (hF : σ.1 3 1 = nI F) (hF10 : F ≤ 6) : ∃ τ, f_X12_valleyLine 0 σ = some ((), τ) ∧ K3 σ τ ∧ MD τ B L (nbG B L 0 20 (nbG B L 1 30 (if F < 6 then g else nt g (3, tS B L i)) (.inl (tE B L i))) (nbM B L (.inl (tE B L i)))) (elM B L (nbM B L (nbM B L (.inl (tE B L i))))) ∧ τ.1 0 9 = σ.1 0 9 ∧ τ.1 3 = (if F < 6 then (setX (setX (setX σ 3 (43 + 2 * F) (nI (nbV B L 1 30 (.inl (tE B L i))))) 3 (44 + 2 * F) (nI (nbV B L 0 20 (nbM B L (.inl (tE B L i)))))) 3 1 (nI (F + 1))).1 3 else σ.1 3) := by
  obtain ⟨ρ, w2, w3, w4, w5⟩ := mv_wK h hM (by omega)
  have hr : ρ.1 3 = σ.1 3 := w2.1 3 (by decide) (by decide)
  obtain ⟨τ, q1, q2, q3, q4, q5⟩ := m_workT (w2.rq h) w3 hM.2.2.2.2 w5 (by rw [hr]; exact hF) hF10
  obtain ⟨τ', e1, e2, e3⟩ := m_endL (q2.rq (w2.rq h)) q3
  rw [w4, hk]
  unfold f_X12_valleyLine_24 f_X12_valleyLine_95
  rw [if_neg (by decide), if_neg (by decide), if_pos (by decide), bo_of mrc, bd_of q1, bo_of mrc, bd_of e1]
  refine ⟨τ', rfl, (w2.k3.tr q2).tr e2.k3, e3, ?_, ?_⟩
  · rw [e2.2.1 9 (by decide), q4, w2.2.1 9 (by decide)]
  · rw [e2.1 3 (by decide) (by decide), q5]
    by_cases c : F < 6
    · rw [if_pos c, if_pos c]
      exact row_s (row_s (row_s hr))
    · rw [if_neg c, if_neg c, hr]
theorem mv_3 (h : Rq σ B L) (hM : MD σ B L g (.inl i)) (hk : lnK B L 0 i = 3) : ∃ τ, f_X12_valleyLine 0 σ = some ((), τ) ∧ K3 σ τ ∧ MD τ B L (nbG B L 1 30 g (.inl (tE B L i))) (elM B L (nbM B L (.inl (tE B L i)))) ∧ τ.1 0 9 = σ.1 0 9 ∧ τ.1 3 = (setX σ 3 2 (nI (nbV B L 1 30 (.inl (tE B L i))))).1 3 := by
  obtain ⟨ρ, w2, w3, w4, w5⟩ := mv_wK h hM (by omega)
  have hr : ρ.1 3 = σ.1 3 := w2.1 3 (by decide) (by decide)
  obtain ⟨τ, q1, q2, q3⟩ := m_numb (lo := 1) (hi := 30) (w2.rq h) w3 (by decide) (by decide)
  obtain ⟨τ', e1, e2, e3⟩ := m_endL (K3_s.rq (q2.rq (w2.rq h))) (MD_3 (j := 2) (v := nI (nbV B L 1 30 (.inl (tE B L i)))) q3)
  rw [w4, hk]
  unfold f_X12_valleyLine_24 f_X12_valleyLine_95
  rw [if_neg (by decide), if_neg (by decide), if_neg (by decide), if_pos (by decide), mg10 (w2.ref h.1), bo_of mrc, bd_of (show f_X12_numbered 0 (1 : Int32) (30 : Int32) ρ = _ from q1), ms32, bo_of mrc, bd_of e1]
  refine ⟨τ', rfl, ((w2.tr q2).k3.tr K3_s).tr e2.k3, e3, ?_, ?_⟩
  · rw [e2.2.1 9 (by decide), setX_o (by decide), q2.2.1 9 (by decide), w2.2.1 9 (by decide)]
  · rw [e2.1 3 (by decide) (by decide)]
    exact row_s ((q2.1 3 (by decide) (by decide)).trans hr)
/-- a line out of form -/
theorem mv_bad {p : Nat} (h : Rq σ B L) (hM : MD σ B L g (.inl i)) (hB : LBad B L 0 i p) (hV : WB0 σ) : ∃ τ g', f_X12_valleyLine 0 σ = some ((), τ) ∧ K3 σ τ ∧ MD τ B L g' (.inr p) ∧ WB0 τ := by
  obtain ⟨F, W, v1, v2, v3, v4⟩ := hV
  by_cases c : lnK B L 0 i = 9
  · obtain ⟨τ, e1, e2, e3⟩ := mv_w9 h hM c
    have hp : p = tS B L i := by
      rcases hB.2 with ⟨-, z⟩ | ⟨z, -⟩
      · exact z
      · exact absurd c z
    have hr : τ.1 3 = σ.1 3 := e2.1 3 (by decide) (by decide)
    refine ⟨τ, g, e1, e2.k3, by rw [hp]; exact e3, F, W, v1, v2, by rw [hr]; exact v3, by rw [hr]; exact v4⟩
  · have hm := lb_mode hB c
    have h3 : lnK B L 0 i ≤ 3 := lnK_s c
    rcases (show lnK B L 0 i = 0 ∨ lnK B L 0 i = 1 ∨ lnK B L 0 i = 2 ∨ lnK B L 0 i = 3 by omega) with hk | hk | hk | hk
    · rw [hk] at hm
      obtain ⟨τ, q1, q2, q3, q4, q5⟩ := mv_0 h hM hk v3 v1
      rw [show elM B L (nbM B L (nbM B L (.inl (tE B L i)))) = .inr p from hm] at q3
      refine ⟨τ, _, q1, q2, q3, ?_⟩
      by_cases d : F < 10
      · rw [if_pos d] at q5
        refine ⟨F + 1, W, by omega, v2, ?_, ?_⟩
        · rw [q5, setX_j]
        · rw [q5]; simp (disch := omega) only [Nat.reduceAdd, setX_ne, setX_j, upS_ne, upS_eq]; exact v4
      · rw [if_neg d] at q5
        exact ⟨F, W, v1, v2, by rw [q5]; exact v3, by rw [q5]; exact v4⟩
    · rw [hk] at hm
      obtain ⟨τ, q1, q2, q3, q4, q5⟩ := mv_1 h hM hk
      rw [show elM B L (nbM B L (nbM B L (.inl (tE B L i)))) = .inr p from hm] at q3
      exact ⟨τ, _, q1, q2, q3, F, W, v1, v2, by rw [q5]; simp (disch := omega) only [Nat.reduceAdd, setX_ne, setX_j, upS_ne, upS_eq]; exact v3, by rw [q5]; simp (disch := omega) only [Nat.reduceAdd, setX_ne, setX_j, upS_ne, upS_eq]; exact v4⟩
    · rw [hk] at hm
      obtain ⟨τ, q1, q2, q3, q4, q5⟩ := mv_2 h hM hk v4 v2
      rw [show elM B L (nbM B L (nbM B L (.inl (tE B L i)))) = .inr p from hm] at q3
      refine ⟨τ, _, q1, q2, q3, ?_⟩
      by_cases d : W < 6
      · rw [if_pos d] at q5
        refine ⟨F, W + 1, v1, by omega, ?_, ?_⟩
        · rw [q5]; simp (disch := omega) only [Nat.reduceAdd, setX_ne, setX_j, upS_ne, upS_eq]; exact v3
        · rw [q5, setX_j]
      · rw [if_neg d] at q5
        exact ⟨F, W, v1, v2, by rw [q5]; exact v3, by rw [q5]; exact v4⟩
    · rw [hk] at hm
      obtain ⟨τ, q1, q2, q3, q4, q5⟩ := mv_3 h hM hk
      rw [show elM B L (nbM B L (.inl (tE B L i))) = .inr p from hm] at q3
      exact ⟨τ, _, q1, q2, q3, F, W, v1, v2, by rw [q5]; simp (disch := omega) only [Nat.reduceAdd, setX_ne, setX_j, upS_ne, upS_eq]; exact v3, by rw [q5]; simp (disch := omega) only [Nat.reduceAdd, setX_ne, setX_j, upS_ne, upS_eq]; exact v4⟩
end VLN
