/-! ===== text: the lines of a life ===== -/
def DR1 (σx σm : Dt) : Prop := LR σx 164 (σm.1 3) ∧ LW (σm.1 3)
def WB1 (σm : Dt) : Prop := ∃ n : Nat, n ≤ 40 ∧ σm.1 3 0 = nI n
def rowL (σ : Dt) (n : Nat) (x a b c : Int32) : Nat → Int32 := (setX (setX (setX (setX (setX σ 3 (1 + 4 * n) x) 3 (2 + 4 * n) a) 3 (3 + 4 * n) b) 3 (4 + 4 * n) c) 3 0 (nI (n + 1))).1 3
theorem rowL_c {σ τ : Dt} {n : Nat} {x a b c : Int32} (h : τ.1 3 = σ.1 3) : rowL τ n x a b c = rowL σ n x a b c := row_s (row_s (row_s (row_s (row_s h))))
def loL (j : Nat) : Nat := if j = 2 then 1 else 0
def hiL (k j : Nat) : Nat := if j = 1 then (if k = 0 then 5 else 9) else 9
noncomputable def avL (B : Nat → Nat) (L k : Nat) (m : Nat ⊕ Nat) (j : Nat) : Int32 := if j < nmS 1 k then nI (nbV B L (loL j) (hiL k j) (nbI B L m j)) else -1
section LLN
variable {σ : Dt} {B : Nat → Nat} {L i n : Nat} {g : Nat × Nat} {m : Nat ⊕ Nat}
theorem ml_102 (h : Rq σ B L) (hM : MD σ B L g m) (hn : σ.1 3 0 = nI n) (h40 : n ≤ 40) (x a b c : Int32) : ∃ τ, f_X12_lifeLine_102 0 x a b c σ = some ((), τ) ∧ K3 σ τ ∧ MD τ B L g (elM B L m) ∧ τ.1 3 = (if n < 40 then rowL σ n x a b c else σ.1 3) := by
  have hR := h.1
  unfold f_X12_lifeLine_102 f_X12_lifeLine_177
  rw [mg10 hR, ma30, hn]
  by_cases d : n < 40
  · have e2 : nI (1 + 4 * n) + (1 : Int32) = nI (2 + 4 * n) := by rw [nI_1]; congr 1; omega
    have e3 : nI (1 + 4 * n) + (2 : Int32) = nI (3 + 4 * n) := by rw [show (2 : Int32) = nI 2 from rfl, nI_add]; congr 1; omega
    have e4 : nI (1 + 4 * n) + (3 : Int32) = nI (4 + 4 * n) := by rw [show (3 : Int32) = nI 3 from rfl, nI_add]; congr 1; omega
    obtain ⟨τ, q1, q2, q3⟩ := m_endL (K3_s.rq (K3_s.rq (K3_s.rq (K3_s.rq (K3_s.rq h))))) (MD_3 (j := 0) (v := nI (n + 1)) (MD_3 (j := 4 + 4 * n) (v := c) (MD_3 (j := 3 + 4 * n) (v := b) (MD_3 (j := 2 + 4 * n) (v := a) (MD_3 (j := 1 + 4 * n) (v := x) hM)))))
    rw [if_neg (show ¬ (40 : Int32) ≤ nI n from nI_ge (b := 40) d (by decide)), if_pos d, mg10 hR, ma30, hn, mg10 hR, show (1 : Int32) + (4 : Int32) * nI n = nI (1 + 4 * n) from nI_ix 1 4 n, ms3 (by omega), grS, mg10 hR, e2, ms3 (by omega), grS, grS, mg10 hR, e3, ms3 (by omega), grS, grS, grS, mg10 hR, e4, ms3 (by omega), grS, grS, grS, grS, mg10 hR, ma30, setX_n (by omega), setX_n (by omega), setX_n (by omega), setX_n (by omega), hn, ms30, nI_1, bo_of mrc, bd_of q1]
    exact ⟨τ, rfl, (K3_s.tr (K3_s.tr (K3_s.tr (K3_s.tr K3_s)))).tr q2.k3, q3, q2.1 3 (by decide) (by decide)⟩
  · obtain ⟨τ, q1, q2, q3⟩ := m_endL h hM
    rw [if_pos (show (40 : Int32) ≤ nI n from nI_le (a := 40) (by omega) (by omega)), if_neg d, bo_of mrc, bd_of q1]
    exact ⟨τ, rfl, q2.k3, q3, q2.1 3 (by decide) (by decide)⟩
theorem ml_39 {k : Nat} (h : Rq σ B L) (hM : MD σ B L g m) (hn : σ.1 3 0 = nI n) (h40 : n ≤ 40) (hk : k ≤ 4) : ∃ τ, f_X12_lifeLine_39 0 (nI k) σ = some ((), τ) ∧ K3 σ τ ∧ MD τ B L (nbGI B L loL (hiL k) g m (nmS 1 k)) (elM B L (nbI B L m (nmS 1 k))) ∧ τ.1 3 = (if n < 40 then rowL σ n (nI k) (avL B L k m 0) (avL B L k m 1) (avL B L k m 2) else σ.1 3) := by
  unfold f_X12_lifeLine_39
  rcases (show k = 4 ∨ k ≤ 3 by omega) with rfl | hk3
  · rw [if_pos (by decide)]
    unfold f_X12_lifeLine_55
    rw [if_neg (by decide), if_neg (by decide)]
    unfold f_X12_lifeLine_85
    rw [if_neg (by decide)]
    exact ml_102 h hM hn h40 _ _ _ _
  · obtain ⟨σ1, e1, k1, d1⟩ := m_numb (lo := 0) (hi := 9) h hM (by decide) (by decide)
    have h1 := k1.rq h
    have r1 : σ1.1 3 = σ.1 3 := k1.1 3 (by decide) (by decide)
    have n1 : σ1.1 3 0 = nI n := by rw [r1]; exact hn
    rw [if_neg (show ¬ (4 : Int32) ≤ nI k from nI_ge (b := 4) (by omega) (by decide)), bo_of mrc, bd_of (show f_X12_numbered 0 (0 : Int32) (9 : Int32) σ = _ from e1)]
    unfold f_X12_lifeLine_55
    rcases (show k = 0 ∨ k = 1 ∨ k = 2 ∨ k = 3 by omega) with rfl | rfl | rfl | rfl
    · obtain ⟨σ2, e2, k2, d2⟩ := m_numb (lo := 0) (hi := 5) h1 d1 (by decide) (by decide)
      have h2 := k2.rq h1
      obtain ⟨σ3, e3, k3, d3⟩ := m_numb (lo := 1) (hi := 9) h2 d2 (by decide) (by decide)
      have h3 := k3.rq h2
      have r3 : σ3.1 3 = σ.1 3 := ((k3.1 3 (by decide) (by decide)).trans (k2.1 3 (by decide) (by decide))).trans r1
      rw [if_pos (by decide), bo_of mrc, bd_of (show f_X12_numbered 0 (0 : Int32) (5 : Int32) σ1 = _ from e2)]
      unfold f_X12_lifeLine_85
      rw [if_pos (by decide), bo_of mrc, bd_of (show f_X12_numbered 0 (1 : Int32) (9 : Int32) σ2 = _ from e3)]
      obtain ⟨τ, q1, q2, q3, q4⟩ := ml_102 h3 d3 (by rw [r3]; exact hn) h40 (nI 0) (nI (nbV B L 0 9 m)) (nI (nbV B L 0 5 (nbM B L m))) (nI (nbV B L 1 9 (nbM B L (nbM B L m))))
      rw [r3, rowL_c r3] at q4
      exact ⟨τ, q1, ((k1.tr k2).tr k3).k3.tr q2, q3, q4⟩
    · obtain ⟨σ2, e2, k2, d2⟩ := m_numb (lo := 0) (hi := 9) h1 d1 (by decide) (by decide)
      have h2 := k2.rq h1
      have r2 : σ2.1 3 = σ.1 3 := (k2.1 3 (by decide) (by decide)).trans r1
      rw [if_neg (by decide), if_pos (by decide), bo_of mrc, bd_of (show f_X12_numbered 0 (0 : Int32) (9 : Int32) σ1 = _ from e2)]
      unfold f_X12_lifeLine_85
      rw [if_neg (by decide)]
      obtain ⟨τ, q1, q2, q3, q4⟩ := ml_102 h2 d2 (by rw [r2]; exact hn) h40 (nI 1) (nI (nbV B L 0 9 m)) (nI (nbV B L 0 9 (nbM B L m))) (-1)
      rw [r2, rowL_c r2] at q4
      exact ⟨τ, q1, (k1.tr k2).k3.tr q2, q3, q4⟩
    · rw [if_neg (by decide), if_neg (by decide)]
      unfold f_X12_lifeLine_85
      rw [if_neg (by decide)]
      obtain ⟨τ, q1, q2, q3, q4⟩ := ml_102 h1 d1 n1 h40 (nI 2) (nI (nbV B L 0 9 m)) (-1) (-1)
      rw [r1, rowL_c r1] at q4
      exact ⟨τ, q1, k1.k3.tr q2, q3, q4⟩
    · rw [if_neg (by decide), if_neg (by decide)]
      unfold f_X12_lifeLine_85
      rw [if_neg (by decide)]
      obtain ⟨τ, q1, q2, q3, q4⟩ := ml_102 h1 d1 n1 h40 (nI 3) (nI (nbV B L 0 9 m)) (-1) (-1)
      rw [r1, rowL_c r1] at q4
      exact ⟨τ, q1, k1.k3.tr q2, q3, q4⟩
theorem ml_w9 (h : Rq σ B L) (hM : MD σ B L g (.inl i)) (hk : lnK B L 1 i = 9) (hn : σ.1 3 0 = nI n) (h40 : n ≤ 40) : ∃ τ, f_X12_lifeLine 0 σ = some ((), τ) ∧ K3 σ τ ∧ MD τ B L g (.inr (tS B L i)) ∧ WB1 τ := by
  obtain ⟨ρ, w1, w2, w3⟩ := (m_word (s := 1) h (by decide) hM).1 hk
  have hr : ρ.1 3 = σ.1 3 := w2.1 3 (by decide) (by decide)
  obtain ⟨ρ1, e1, k1, d1⟩ := m_numb (lo := 0) (hi := 9) (w2.rq h) w3 (by decide) (by decide)
  have r1 : ρ1.1 3 = σ.1 3 := (k1.1 3 (by decide) (by decide)).trans hr
  obtain ⟨τ, q1, q2, q3, q4⟩ := ml_102 (k1.rq (w2.rq h)) d1 (by rw [r1]; exact hn) h40 ((0 : Int32) - 5) (nI (nbV B L 0 9 (.inr (tS B L i)))) (-1) (-1)
  unfold f_X12_lifeLine
  rw [mgiB, bo_of mrc, bd_of (show f_X12_wordIn 0 (5 : Int32) (9 : Int32) σ = _ from w1), mgiB, w3.1, if_neg (by decide)]
  unfold f_X12_lifeLine_39
  rw [if_neg (by decide), bo_of mrc, bd_of (show f_X12_numbered 0 (0 : Int32) (9 : Int32) ρ = _ from e1)]
  unfold f_X12_lifeLine_55
  rw [if_neg (by decide), if_neg (by decide)]
  unfold f_X12_lifeLine_85
  rw [if_neg (by decide)]
  refine ⟨τ, q1, (w2.tr k1).k3.tr q2, q3, ?_⟩
  by_cases d : n < 40
  · rw [if_pos d] at q4
    exact ⟨n + 1, by omega, by rw [q4]; exact setX_j⟩
  · rw [if_neg d] at q4
    exact ⟨n, h40, by rw [q4, r1]; exact hn⟩
theorem ml_k (h : Rq σ B L) (hM : MD σ B L g (.inl i)) (hk : ¬ lnK B L 1 i = 9) (hn : σ.1 3 0 = nI n) (h40 : n ≤ 40) : ∃ τ, f_X12_lifeLine 0 σ = some ((), τ) ∧ K3 σ τ ∧ MD τ B L (nbGI B L loL (hiL (lnK B L 1 i)) (if n < 40 then g else nt g (3, tS B L i)) (.inl (tE B L i)) (nmS 1 (lnK B L 1 i))) (elM B L (nbI B L (.inl (tE B L i)) (nmS 1 (lnK B L 1 i)))) ∧ τ.1 3 = (if n < 40 then rowL σ n (nI (lnK B L 1 i)) (avL B L (lnK B L 1 i) (.inl (tE B L i)) 0) (avL B L (lnK B L 1 i) (.inl (tE B L i)) 1) (avL B L (lnK B L 1 i) (.inl (tE B L i)) 2) else σ.1 3) := by
  obtain ⟨ρ, w1, w2, w3⟩ := (m_word (s := 1) h (by decide) hM).2 hk
  have hi := hM.1
  have hb := tk_b (B := B) hi
  have hlt := tk_lt (B := B) hi (by have := (lnK_1 hk).1; omega)
  have hb2 := tk_b (B := B) hb.2.2.1
  have k4 := (lnK_1 hk).2.2
  have hr : ρ.1 3 = σ.1 3 := w2.1 3 (by decide) (by decide)
  have hx : nI (5 + lnK B L 1 i) - (5 : Int32) = nI (lnK B L 1 i) := by
    rw [show (5 : Int32) = nI 5 from rfl, pk_sub (by omega)]
    congr 1
    omega
  unfold f_X12_lifeLine
  rw [mgiB, hM.2.2.1.2.1, bo_of mrc, bd_of (show f_X12_wordIn 0 (5 : Int32) (9 : Int32) σ = some (nI (5 + lnK B L 1 i), ρ) from w1), mgiB, w3.2.1, if_pos rfl, mg10 (w2.ref h.1), ma30, hr, hn, hx]
  by_cases d : n < 40
  · rw [if_pos (show nI n < (40 : Int32) from nI_lt (b := 40) d (by decide)), if_pos d, if_pos d]
    obtain ⟨τ, q1, q2, q3, q4⟩ := ml_39 (w2.rq h) w3 (by rw [hr]; exact hn) h40 k4
    rw [if_pos d, rowL_c hr] at q4
    exact ⟨τ, q1, w2.k3.tr q2, q3, q4⟩
  · rw [if_neg (show ¬ nI n < (40 : Int32) from nI_nlt (b := 40) (by omega) (by omega)), if_neg d, if_neg d]
    obtain ⟨ρ1, a1, a2, a3⟩ := m_tooM (e0 := tS B L i) (w2.rq h) w3 hM.2.2.2.2 (by omega)
    have r1 : ρ1.1 3 = σ.1 3 := (a2.1 3 (by decide) (by decide)).trans hr
    rw [bo_of mrc, bd_of a1]
    obtain ⟨τ, q1, q2, q3, q4⟩ := ml_39 (a2.rq (w2.rq h)) a3 (by rw [r1]; exact hn) h40 k4
    rw [if_neg d, r1] at q4
    exact ⟨τ, q1, (w2.tr a2).k3.tr q2, q3, q4⟩
theorem ml_V {τ : Dt} {x a b c : Int32} (hn : σ.1 3 0 = nI n) (h40 : n ≤ 40) (q : τ.1 3 = (if n < 40 then rowL σ n x a b c else σ.1 3)) : WB1 τ := by
  by_cases d : n < 40
  · rw [if_pos d] at q
    exact ⟨n + 1, by omega, by rw [q]; exact setX_j⟩
  · rw [if_neg d] at q
    exact ⟨n, h40, by rw [q]; exact hn⟩
theorem ml_bad {p : Nat} (h : Rq σ B L) (hM : MD σ B L g (.inl i)) (hB : LBad B L 1 i p) (hV : WB1 σ) : ∃ τ g', f_X12_lifeLine 0 σ = some ((), τ) ∧ K3 σ τ ∧ MD τ B L g' (.inr p) ∧ WB1 τ := by
  obtain ⟨n, v1, v2⟩ := hV
  by_cases c : lnK B L 1 i = 9
  · obtain ⟨τ, e1, e2, e3, e4⟩ := ml_w9 h hM c v2 v1
    have hp : p = tS B L i := by
      rcases hB.2 with ⟨-, z⟩ | ⟨z, -⟩
      · exact z
      · exact absurd c z
    exact ⟨τ, g, e1, e2, by rw [hp]; exact e3, e4⟩
  · obtain ⟨τ, q1, q2, q3, q4⟩ := ml_k h hM c v2 v1
    rw [lb_mode hB c] at q3
    exact ⟨τ, _, q1, q2, q3, ml_V v2 v1 q4⟩
end LLN
section JLL
variable {σx σm : Dt} {B : Nat → Nat} {L i : Nat} {g : Nat × Nat}
theorem j_deed (hJ : JS σx σm B L 1 i g DR1 WB1) (hG : LGood B L 1 i) {τ : Dt} (q1 : KR σx τ) (q2 : τ.1 155 9 = nI (pz B L (tE B L i) (nmS 1 (lnK B L 1 i) + 1))) (q3 : NumR τ B L (tE B L i) (nmS 1 (lnK B L 1 i))) (q4 : f_X5_readLine 155 σx = JT (lnK B L 1 i) (nmS 1 (lnK B L 1 i)) (tS B L i) τ) : JL σx σm B L 1 i DR1 WB1 f_X12_lifeLine := by
  obtain ⟨j1, j2, j3, j4, j5, j6, ⟨n, v1, v2⟩, j8⟩ := id hJ
  have hi := j6.1
  have hb := tk_b (B := B) hi
  have k4 := (lnK_1 hG.1).2.2
  have hm3 := nmS_le 1 (lnK B L 1 i)
  obtain ⟨σm', m1, m2, m3, m6⟩ := ml_k j2 j6 hG.1 v2 v1
  have hcb : ∀ j, j < nmS 1 (lnK B L 1 i) → (cb 1 (lnK B L 1 i) j (fun j => nv B L (pz B L (tE B L i) j)) ↔ loL j ≤ nv B L (pz B L (tE B L i) j) ∧ nv B L (pz B L (tE B L i) j) ≤ hiL (lnK B L 1 i) j) := by
    intro j hj
    generalize lnK B L 1 i = k at *
    generalize hN : (fun j => nv B L (pz B L (tE B L i) j)) = N at *
    have hNj : nv B L (pz B L (tE B L i) j) = N j := by rw [← hN]
    rw [hNj]
    rcases (show j = 0 ∨ j = 1 ∨ j = 2 by omega) with rfl | rfl | rfl
    · show N 0 < 10 ↔ 0 ≤ N 0 ∧ N 0 ≤ 9
      omega
    · rcases (show k = 0 ∨ k = 1 ∨ k = 2 ∨ k = 3 ∨ k = 4 by omega) with rfl | rfl | rfl | rfl | rfl
      · show N 1 < 6 ↔ 0 ≤ N 1 ∧ N 1 ≤ 5
        omega
      · show N 1 ≤ 9 ↔ 0 ≤ N 1 ∧ N 1 ≤ 9
        omega
      · exact absurd (show 1 < 1 from hj) (by decide)
      · exact absurd (show 1 < 1 from hj) (by decide)
      · exact absurd (show 1 < 0 from hj) (by decide)
    · rcases (show k = 0 ∨ k = 1 ∨ k = 2 ∨ k = 3 ∨ k = 4 by omega) with rfl | rfl | rfl | rfl | rfl
      · show 1 ≤ N 2 ∧ N 2 ≤ 9 ↔ 1 ≤ N 2 ∧ N 2 ≤ 9
        exact Iff.rfl
      · exact absurd (show 2 < 2 from hj) (by decide)
      · exact absurd (show 2 < 1 from hj) (by decide)
      · exact absurd (show 2 < 1 from hj) (by decide)
      · exact absurd (show 2 < 0 from hj) (by decide)
  have hg : gJ 1 (lnK B L 1 i) (fun j => nv B L (pz B L (tE B L i) j)) (fun j => tS B L (pz B L (tE B L i) j)) (ci (TMx 1 (lnK B L 1 i) σx) (nt g (3, tS B L i)) g) (nmS 1 (lnK B L 1 i)) = nbGI B L loL (hiL (lnK B L 1 i)) (if n < 40 then g else nt g (3, tS B L i)) (.inl (tE B L i)) (nmS 1 (lnK B L 1 i)) := by
    rw [tm_eq (Q := n < 40) (fun z => ?_)]
    · exact gJ_nb _ hG.2.1 hcb
    · obtain ⟨⟨d1, -⟩, -⟩ := j8 z
      show (¬ σx.1 164 0 < 40) ↔ _
      rw [d1, v2]
      by_cases c : n < 40
      · exact ⟨fun y => absurd (show nI n < (40 : Int32) from nI_lt (b := 40) c (by decide)) y, fun y => absurd c y⟩
      · exact ⟨fun _ => c, fun _ => (show ¬ nI n < (40 : Int32) from nI_nlt (b := 40) (by omega) (by omega))⟩
  refine j_good hJ (by decide) hG q1 q2 q3 q4 hg m1 m2 m3 (ml_V v2 v1 m6) (fun z ρ r1 r2 r3 r4 r5 => ?_)
  rw [← hg] at z
  obtain ⟨z1, z2⟩ := gJ_z _ z
  rw [z1] at z
  obtain ⟨z3, z4⟩ := ci_z (show ¬ (3 : Nat) = 0 by decide) z
  obtain ⟨⟨d1, d2⟩, n', d3, d4, d5⟩ := j8 z4
  have e : n' = n := (nI_eq (by omega) (by omega)).mp (d3.symm.trans v2)
  subst e
  have hn : n' < 40 := Classical.not_not.mp (fun y => z3 (show ¬ σx.1 164 0 < 40 from by rw [d1, d3]; exact (show ¬ nI n' < (40 : Int32) from nI_nlt (b := 40) (by omega) (by omega))))
  have hav : ∀ j, j < 3 → ρ.1 172 j = avL B L (lnK B L 1 i) (.inl (tE B L i)) j := by
    intro j hj
    rw [r5]
    by_cases c : j < nmS 1 (lnK B L 1 i)
    · rw [((q3 j hj).1 c).1, show avL B L (lnK B L 1 i) (.inl (tE B L i)) j = nI (nbV B L (loL j) (hiL (lnK B L 1 i) j) (nbI B L (.inl (tE B L i)) j)) from if_pos c, nbI_g j (fun k hk => hG.2.1 k (by omega)), nbV_2 (hG.2.1 j c) ((hcb j c).mp (z2 j c))]
    · rw [(q3 j hj).2 (by omega), show avL B L (lnK B L 1 i) (.inl (tE B L i)) j = -1 from if_neg c]
  have hbd : ∀ j, j < nmS 1 (lnK B L 1 i) → ∃ x, avL B L (lnK B L 1 i) (.inl (tE B L i)) j = nI x ∧ loL j ≤ x ∧ x ≤ hiL (lnK B L 1 i) j := by
    intro j hj
    refine ⟨_, if_pos hj, nbV_b ?_⟩
    unfold loL hiL
    repeat (first | omega | split)
  rw [if_pos hn, ← hav 0 (by decide), ← hav 1 (by decide), ← hav 2 (by decide)] at m6
  have hb2 : ∀ j, j < nmS 1 (lnK B L 1 i) → ∃ x, ρ.1 172 j = nI x ∧ loL j ≤ x ∧ x ≤ hiL (lnK B L 1 i) j := fun j hj => by rw [hav j (by omega)]; exact hbd j hj
  have hno : ∀ j, j < 3 → nmS 1 (lnK B L 1 i) ≤ j → ρ.1 172 j = -1 := fun j hj h => by rw [r5]; exact (q3 j hj).2 h
  clear hbd hav hg z1 z2 z3 z hcb m3 q2 q3 q4
  refine ⟨_, t_deed r4 r3 hn (by rw [r1 164 (by decide) (by decide), d1, d3]) _, ((((KL_s (by omega)).tr (KL_s (by omega))).tr (KL_s (by omega))).tr (KL_s (by omega))).tr (KL_s (by omega)), fun j hj => by simp (disch := omega) only [Nat.reduceAdd, setX_ne, setX_j, upS_ne, upS_eq], ?_, ?_⟩
  · refine ⟨?_, fun kk h1 h2 => ?_⟩
    · rw [m6, setX_j]
      exact setX_j.symm
    · rw [show σm'.1 3 0 = nI (n' + 1) from by rw [m6]; exact setX_j] at h2
      have h3 : kk < n' + 1 := (nI_ltI (by omega) (by omega)).mp h2
      rw [m6]
      unfold rowL
      by_cases c : kk = n'
      · subst c
        refine ⟨?_, ?_, ?_, ?_⟩ <;> simp (disch := omega) only [Nat.reduceAdd, setX_ne, setX_j, upS_ne, upS_eq]
      · obtain ⟨u1, u2, u3, u4⟩ := d2 kk h1 (by rw [d3]; exact nI_lt (by omega) (by omega))
        refine ⟨?_, ?_, ?_, ?_⟩
        · simp (disch := omega) only [Nat.reduceAdd, setX_ne, setX_j, upS_ne, upS_eq]; rw [r1 165 (by decide) (by decide)]; exact u1
        · simp (disch := omega) only [Nat.reduceAdd, setX_ne, setX_j, upS_ne, upS_eq]; rw [r1 166 (by decide) (by decide)]; exact u2
        · simp (disch := omega) only [Nat.reduceAdd, setX_ne, setX_j, upS_ne, upS_eq]; rw [r1 167 (by decide) (by decide)]; exact u3
        · simp (disch := omega) only [Nat.reduceAdd, setX_ne, setX_j, upS_ne, upS_eq]; rw [r1 168 (by decide) (by decide)]; exact u4
  · refine ⟨n' + 1, by rw [m6]; exact setX_j, by omega, fun kk hkk => ?_⟩
    by_cases c : kk = n'
    · subst c
      rw [m6]
      unfold rowL
      generalize lnK B L 1 i = k at *
      have f0 : k ≤ 3 → 0 < nmS 1 k := fun y => by rcases (show k = 0 ∨ k = 1 ∨ k = 2 ∨ k = 3 by omega) with rfl | rfl | rfl | rfl <;> decide
      have f1 : 1 ≤ k → nmS 1 k ≤ 2 := fun y => by rcases (show k = 1 ∨ k = 2 ∨ k = 3 ∨ k = 4 by omega) with rfl | rfl | rfl | rfl <;> decide
      have f2 : 2 ≤ k → nmS 1 k ≤ 1 := fun y => by rcases (show k = 2 ∨ k = 3 ∨ k = 4 by omega) with rfl | rfl | rfl <;> decide
      refine ⟨k, ?_, k4, fun y => ?_, fun y => ?_, fun y => ?_, fun y => ?_, fun y => ?_, fun y => ?_, fun y => ?_⟩
      · simp (disch := omega) only [Nat.reduceAdd, setX_ne, setX_j, upS_ne, upS_eq]
      · simp (disch := omega) only [Nat.reduceAdd, setX_ne, setX_j, upS_ne, upS_eq]
        obtain ⟨x, x1, x2, x3⟩ := hb2 0 (f0 y)
        exact ⟨x, x1, x3⟩
      · simp (disch := omega) only [Nat.reduceAdd, setX_ne, setX_j, upS_ne, upS_eq]
        subst y
        exact hno 0 (by decide) (by decide)
      · simp (disch := omega) only [Nat.reduceAdd, setX_ne, setX_j, upS_ne, upS_eq]
        subst y
        obtain ⟨x, x1, x2, x3⟩ := hb2 1 (by decide)
        exact ⟨x, x1, x3⟩
      · simp (disch := omega) only [Nat.reduceAdd, setX_ne, setX_j, upS_ne, upS_eq]
        subst y
        obtain ⟨x, x1, x2, x3⟩ := hb2 1 (by decide)
        exact ⟨x, x1, x3⟩
      · simp (disch := omega) only [Nat.reduceAdd, setX_ne, setX_j, upS_ne, upS_eq]
        exact hno 1 (by decide) (f2 y)
      · simp (disch := omega) only [Nat.reduceAdd, setX_ne, setX_j, upS_ne, upS_eq]
        subst y
        obtain ⟨x, x1, x2, x3⟩ := hb2 2 (by decide)
        exact ⟨x, x1, x2, x3⟩
      · simp (disch := omega) only [Nat.reduceAdd, setX_ne, setX_j, upS_ne, upS_eq]
        exact hno 2 (by decide) (f1 y)
    · have gg : ∀ j, 4 * kk < j → j ≤ 4 + 4 * kk → σm'.1 3 j = σm.1 3 j := fun j h1 h2 => by
        have h3 : kk + 1 ≤ n' := by omega
        rw [m6]
        unfold rowL
        rw [setX_n (show ¬ j = 0 by omega), setX_n (show ¬ j = 4 + 4 * n' by omega), setX_n (show ¬ j = 3 + 4 * n' by omega), setX_n (show ¬ j = 2 + 4 * n' by omega), setX_n (show ¬ j = 1 + 4 * n' by omega)]
      rw [gg (1 + 4 * kk) (by omega) (by omega), gg (2 + 4 * kk) (by omega) (by omega), gg (3 + 4 * kk) (by omega) (by omega), gg (4 + 4 * kk) (by omega) (by omega)]
      exact d5 kk (by omega)
theorem j_life (hJ : JS σx σm B L 1 i g DR1 WB1) (h0 : ¬ tT B L i = 0) : JL σx σm B L 1 i DR1 WB1 f_X12_lifeLine := by
  obtain ⟨j1, j2, j3, j4, j5, j6, j7, j8⟩ := id hJ
  rcases x_line j1 (by decide) j3 j6.1 j4 with ⟨z, -⟩ | ⟨p, hB, τ, q1, q2, q3, q4⟩ | ⟨hG, τ, q1, q2, q3, q4⟩
  · exact absurd z h0
  · obtain ⟨σm', g', m1, m2, m3, m4⟩ := ml_bad j2 j6 hB j7
    exact j_bad q1 q2 q3 q4 m1 m2 m3 m4
  · exact j_deed hJ hG q1 q2 q3 q4
end JLL
