/-! ===== text: the lines of a sight ===== -/
def DR2 (σx σm : Dt) : Prop := SR σx 169 (σm.1 3) ∧ SW (σm.1 3)
def WB2 (σm : Dt) : Prop := ∃ n : Nat, n ≤ 8 ∧ σm.1 3 1 = nI n
section SLN
variable {σ : Dt} {B : Nat → Nat} {L i n : Nat} {g : Nat × Nat} {m : Nat ⊕ Nat}
theorem ms_70 (h : Rq σ B L) (hM : MD σ B L g m) (hn : σ.1 3 1 = nI n) (h8 : n ≤ 8) : ∃ τ, f_X12_sightLine_70 0 σ = some ((), τ) ∧ K3 σ τ ∧ MD τ B L (nbG B L 0 30 (nbG B L 0 5 g m) (nbM B L m)) (elM B L (nbM B L (nbM B L m))) ∧ τ.1 3 = (if n < 8 then (setX (setX (setX σ 3 (2 + 2 * n) (nI (nbV B L 0 5 m))) 3 (3 + 2 * n) (nI (nbV B L 0 30 (nbM B L m)))) 3 1 (nI (n + 1))).1 3 else σ.1 3) := by
  obtain ⟨σ1, e1, k1, d1⟩ := m_numb (lo := 0) (hi := 5) h hM (by decide) (by decide)
  have h1 := k1.rq h
  obtain ⟨σ2, e2, k2, d2⟩ := m_numb (lo := 0) (hi := 30) h1 d1 (by decide) (by decide)
  have h2 := k2.rq h1
  have hR2 := h2.1
  have hr : σ2.1 3 = σ.1 3 := (k2.1 3 (by decide) (by decide)).trans (k1.1 3 (by decide) (by decide))
  have hn2 : σ2.1 3 1 = nI n := by rw [hr]; exact hn
  unfold f_X12_sightLine_70 f_X12_sightLine_140
  rw [bo_of mrc, bd_of (show f_X12_numbered 0 (0 : Int32) (5 : Int32) σ = _ from e1), bo_of mrc, bd_of (show f_X12_numbered 0 (0 : Int32) (30 : Int32) σ1 = _ from e2), mg10 hR2, ma31, hn2]
  by_cases c : n < 8
  · obtain ⟨τ, q1, q2, q3⟩ := m_endL (K3_s.rq (K3_s.rq (K3_s.rq h2))) (MD_3 (j := 1) (v := nI (n + 1)) (MD_3 (j := 3 + 2 * n) (v := nI (nbV B L 0 30 (nbM B L m))) (MD_3 (j := 2 + 2 * n) (v := nI (nbV B L 0 5 m)) d2)))
    rw [if_neg (show ¬ (8 : Int32) ≤ nI n from nI_ge (b := 8) c (by decide)), if_pos c, mg10 hR2, mg10 hR2, ma31, hn2, show (2 : Int32) + (2 : Int32) * nI n = nI (2 + 2 * n) from nI_ix 2 2 n, ms3 (by omega), grS, mg10 hR2, grS, mg10 hR2, ma31, setX_n (by omega), hn2, show (3 : Int32) + (2 : Int32) * nI n = nI (3 + 2 * n) from nI_ix 3 2 n, ms3 (by omega), grS, grS, mg10 hR2, ma31, setX_n (by omega), setX_n (by omega), hn2, ms31, nI_1, bo_of mrc, bd_of q1]
    refine ⟨τ, rfl, ((k1.tr k2).k3.tr (K3_s.tr (K3_s.tr K3_s))).tr q2.k3, q3, ?_⟩
    rw [q2.1 3 (by decide) (by decide)]
    exact row_s (row_s (row_s hr))
  · obtain ⟨τ, q1, q2, q3⟩ := m_endL h2 d2
    rw [if_pos (show (8 : Int32) ≤ nI n from nI_le (a := 8) (by omega) (by omega)), if_neg c, bo_of mrc, bd_of q1]
    exact ⟨τ, rfl, (k1.tr k2).k3.tr q2.k3, q3, (q2.1 3 (by decide) (by decide)).trans hr⟩
theorem ms_V {τ : Dt} {j k : Nat} {a b : Int32} (hn : σ.1 3 1 = nI n) (h8 : n ≤ 8) (q : τ.1 3 = (if n < 8 then (setX (setX (setX σ 3 j a) 3 k b) 3 1 (nI (n + 1))).1 3 else σ.1 3)) : WB2 τ := by
  by_cases d : n < 8
  · rw [if_pos d] at q
    exact ⟨n + 1, by omega, by rw [q]; exact setX_j⟩
  · rw [if_neg d] at q
    exact ⟨n, h8, by rw [q]; exact hn⟩
theorem ms_w9 (h : Rq σ B L) (hM : MD σ B L g (.inl i)) (hk : lnK B L 2 i = 9) (hn : σ.1 3 1 = nI n) (h8 : n ≤ 8) : ∃ τ, f_X12_sightLine 0 σ = some ((), τ) ∧ K3 σ τ ∧ MD τ B L g (.inr (tS B L i)) ∧ WB2 τ := by
  obtain ⟨ρ, w1, w2, w3⟩ := (m_word (s := 2) h (by decide) hM).1 hk
  have hr : ρ.1 3 = σ.1 3 := w2.1 3 (by decide) (by decide)
  obtain ⟨τ, q1, q2, q3, q4⟩ := ms_70 (w2.rq h) w3 (by rw [hr]; exact hn) h8
  unfold f_X12_sightLine
  rw [mgiB, bo_of mrc, bd_of (show f_X12_wordIn 0 (10 : Int32) (11 : Int32) σ = _ from w1), if_neg (by decide)]
  unfold f_X12_sightLine_23
  rw [if_pos rfl, mgiB, w3.1, if_neg (by decide)]
  exact ⟨τ, q1, w2.k3.tr q2, q3, ms_V (σ := ρ) (by rw [hr]; exact hn) h8 q4⟩
theorem ms_0 (h : Rq σ B L) (hM : MD σ B L g (.inl i)) (hk : lnK B L 2 i = 0) : ∃ τ, f_X12_sightLine 0 σ = some ((), τ) ∧ K3 σ τ ∧ MD τ B L (nbG B L 1 9 g (.inl (tE B L i))) (elM B L (nbM B L (.inl (tE B L i)))) ∧ τ.1 3 = (setX σ 3 0 (nI (nbV B L 1 9 (.inl (tE B L i))))).1 3 := by
  obtain ⟨ρ, w1, w2, w3⟩ := (m_word (s := 2) h (by decide) hM).2 (by omega)
  rw [hk] at w1
  have hr : ρ.1 3 = σ.1 3 := w2.1 3 (by decide) (by decide)
  obtain ⟨τ, q1, q2, q3⟩ := m_numb (lo := 1) (hi := 9) (w2.rq h) w3 (by decide) (by decide)
  obtain ⟨τ', e1, e2, e3⟩ := m_endL (K3_s.rq (q2.rq (w2.rq h))) (MD_3 (j := 0) (v := nI (nbV B L 1 9 (.inl (tE B L i)))) q3)
  unfold f_X12_sightLine
  rw [mgiB, bo_of mrc, bd_of (show f_X12_wordIn 0 (10 : Int32) (11 : Int32) σ = some (nI 10, ρ) from w1), if_pos (by decide)]
  unfold f_X12_sightLine_23
  rw [if_neg (by decide), mg10 (w2.ref h.1), bo_of mrc, bd_of (show f_X12_numbered 0 (1 : Int32) (9 : Int32) ρ = _ from q1), ms30, bo_of mrc, bd_of e1]
  refine ⟨τ', rfl, ((w2.tr q2).k3.tr K3_s).tr e2.k3, e3, ?_⟩
  rw [e2.1 3 (by decide) (by decide)]
  exact row_s ((q2.1 3 (by decide) (by decide)).trans hr)
theorem ms_1 (h : Rq σ B L) (hM : MD σ B L g (.inl i)) (hk : lnK B L 2 i = 1) (hn : σ.1 3 1 = nI n) (h8 : n ≤ 8) : ∃ τ, f_X12_sightLine 0 σ = some ((), τ) ∧ K3 σ τ ∧ MD τ B L (nbG B L 0 30 (nbG B L 0 5 (if n < 8 then g else nt g (3, tS B L i)) (.inl (tE B L i))) (nbM B L (.inl (tE B L i)))) (elM B L (nbM B L (nbM B L (.inl (tE B L i))))) ∧ τ.1 3 = (if n < 8 then (setX (setX (setX σ 3 (2 + 2 * n) (nI (nbV B L 0 5 (.inl (tE B L i))))) 3 (3 + 2 * n) (nI (nbV B L 0 30 (nbM B L (.inl (tE B L i)))))) 3 1 (nI (n + 1))).1 3 else σ.1 3) := by
  obtain ⟨ρ, w1, w2, w3⟩ := (m_word (s := 2) h (by decide) hM).2 (by omega)
  have hi := hM.1
  have hb := tk_b (B := B) hi
  have hlt := tk_lt (B := B) hi (by have := (lnK_1 (B := B) (L := L) (s := 2) (i := i) (by omega)).1; omega)
  have hb2 := tk_b (B := B) hb.2.2.1
  rw [hk] at w1
  have hr : ρ.1 3 = σ.1 3 := w2.1 3 (by decide) (by decide)
  unfold f_X12_sightLine
  rw [mgiB, hM.2.2.1.2.1, bo_of mrc, bd_of (show f_X12_wordIn 0 (10 : Int32) (11 : Int32) σ = some (nI 11, ρ) from w1), if_neg (by decide)]
  unfold f_X12_sightLine_23
  rw [if_pos rfl, mgiB, w3.2.1, if_pos rfl, mg10 (w2.ref h.1), ma31, hr, hn]
  by_cases d : n < 8
  · rw [if_pos (show nI n < (8 : Int32) from nI_lt (b := 8) d (by decide)), if_pos d, if_pos d]
    obtain ⟨τ, q1, q2, q3, q4⟩ := ms_70 (w2.rq h) w3 (by rw [hr]; exact hn) h8
    rw [if_pos d] at q4
    exact ⟨τ, q1, w2.k3.tr q2, q3, q4.trans (row_s (row_s (row_s hr)))⟩
  · rw [if_neg (show ¬ nI n < (8 : Int32) from nI_nlt (b := 8) (by omega) (by omega)), if_neg d, if_neg d]
    obtain ⟨ρ1, a1, a2, a3⟩ := m_tooM (e0 := tS B L i) (w2.rq h) w3 hM.2.2.2.2 (by omega)
    have r1 : ρ1.1 3 = σ.1 3 := (a2.1 3 (by decide) (by decide)).trans hr
    rw [bo_of mrc, bd_of a1]
    obtain ⟨τ, q1, q2, q3, q4⟩ := ms_70 (a2.rq (w2.rq h)) a3 (by rw [r1]; exact hn) h8
    rw [if_neg d, r1] at q4
    exact ⟨τ, q1, (w2.tr a2).k3.tr q2, q3, q4⟩
theorem ms_bad {p : Nat} (h : Rq σ B L) (hM : MD σ B L g (.inl i)) (hB : LBad B L 2 i p) (hV : WB2 σ) : ∃ τ g', f_X12_sightLine 0 σ = some ((), τ) ∧ K3 σ τ ∧ MD τ B L g' (.inr p) ∧ WB2 τ := by
  obtain ⟨n, v1, v2⟩ := hV
  by_cases c : lnK B L 2 i = 9
  · obtain ⟨τ, e1, e2, e3, e4⟩ := ms_w9 h hM c v2 v1
    have hp : p = tS B L i := by
      rcases hB.2 with ⟨-, z⟩ | ⟨z, -⟩
      · exact z
      · exact absurd c z
    exact ⟨τ, g, e1, e2, by rw [hp]; exact e3, e4⟩
  · have hm := lb_mode hB c
    have h3 : lnK B L 2 i ≤ 1 := lnK_s c
    rcases (show lnK B L 2 i = 0 ∨ lnK B L 2 i = 1 by omega) with hk | hk
    · rw [hk] at hm
      obtain ⟨τ, q1, q2, q3, q4⟩ := ms_0 h hM hk
      rw [show elM B L (nbM B L (.inl (tE B L i))) = .inr p from hm] at q3
      exact ⟨τ, _, q1, q2, q3, n, v1, by rw [q4]; simp (disch := omega) only [Nat.reduceAdd, setX_ne, setX_j, upS_ne, upS_eq]; exact v2⟩
    · rw [hk] at hm
      obtain ⟨τ, q1, q2, q3, q4⟩ := ms_1 h hM hk v2 v1
      rw [show elM B L (nbM B L (nbM B L (.inl (tE B L i)))) = .inr p from hm] at q3
      exact ⟨τ, _, q1, q2, q3, ms_V v2 v1 q4⟩
end SLN
section JSL
variable {σx σm : Dt} {B : Nat → Nat} {L i : Nat} {g : Nat × Nat}
theorem j_years (hJ : JS σx σm B L 2 i g DR2 WB2) (hG : LGood B L 2 i) (hk : lnK B L 2 i = 0) {τ : Dt} (q1 : KR σx τ) (q2 : τ.1 155 9 = nI (pz B L (tE B L i) (nmS 2 (lnK B L 2 i) + 1))) (q3 : NumR τ B L (tE B L i) (nmS 2 (lnK B L 2 i))) (q4 : f_X5_readLine 155 σx = JT (lnK B L 2 i) (nmS 2 (lnK B L 2 i)) (tS B L i) τ) : JL σx σm B L 2 i DR2 WB2 f_X12_sightLine := by
  obtain ⟨j1, j2, j3, j4, j5, j6, ⟨n, v1, v2⟩, j8⟩ := id hJ
  have ht : ∀ k, k < 1 → tT B L (pz B L (tE B L i) k) = 2 := by
    have := hG.2.1
    rw [hk] at this
    exact this
  obtain ⟨σm', m1, m2, m3, m6⟩ := ms_0 j2 j6 hk
  have htm : ¬ TMx 2 0 σx := fun z => absurd z.1 (by decide)
  have hg : gJ 2 (lnK B L 2 i) (fun j => nv B L (pz B L (tE B L i) j)) (fun j => tS B L (pz B L (tE B L i) j)) (ci (TMx 2 (lnK B L 2 i) σx) (nt g (3, tS B L i)) g) (nmS 2 (lnK B L 2 i)) = nbG B L 1 9 g (.inl (tE B L i)) := by
    rw [hk, ci_f htm]
    refine gJ_nb (lo := fun _ => 1) (hi := fun _ => 9) 1 ht (fun j hj => ?_)
    obtain rfl : j = 0 := by omega
    exact Iff.rfl
  have hV : WB2 σm' := ⟨n, v1, by rw [m6]; simp (disch := omega) only [Nat.reduceAdd, setX_ne, setX_j, upS_ne, upS_eq]; exact v2⟩
  refine j_good hJ (by decide) hG q1 q2 q3 q4 hg m1 m2 (by rw [hk]; exact m3) hV (fun z ρ r1 r2 r3 r4 r5 => ?_)
  rw [← hg, hk, ci_f htm] at z
  obtain ⟨z1, z2⟩ := gJ_z 1 z
  rw [show nmS 2 0 = 1 from rfl, z1] at z
  obtain ⟨⟨d1, d2, d3⟩, ⟨y, e1, e2, e3⟩, n', e4, e5, e6⟩ := j8 z
  have c0 : 1 ≤ nv B L (tE B L i) ∧ nv B L (tE B L i) ≤ 9 := z2 0 (by decide)
  rw [hk] at q3
  have a0 : ρ.1 172 0 = nI (nv B L (tE B L i)) := by rw [r5]; exact ((q3 0 (by decide)).1 (by decide)).1
  rw [nbV_2 (i := tE B L i) (ht 0 (by decide)) c0] at m6
  rw [hk]
  refine ⟨_, t_years r4 r3 a0, KL_s (by omega), fun j hj => by simp (disch := omega) only [Nat.reduceAdd, setX_ne, setX_j, upS_ne, upS_eq], ⟨?_, ?_, fun k k1 k2 => ?_⟩, ⟨nv B L (tE B L i), by rw [m6, setX_j], c0⟩, n', ?_, e5, fun k k1 => ?_⟩
  · rw [m6, setX_j, setX_j]
  · rw [m6]; simp (disch := omega) only [Nat.reduceAdd, setX_ne, setX_j, upS_ne, upS_eq]; rw [r1 169 (by decide) (by decide)]; exact d2
  · rw [m6] at k2 ⊢
    rw [setX_n (by decide)] at k2
    have u := d3 k k1 k2
    simp (disch := omega) only [Nat.reduceAdd, setX_ne, setX_j, upS_ne, upS_eq]
    rw [r1 170 (by decide) (by decide), r1 171 (by decide) (by decide)]
    exact u
  · rw [m6]; simp (disch := omega) only [Nat.reduceAdd, setX_ne, setX_j, upS_ne, upS_eq]; exact e4
  · have u := e6 k k1
    rw [m6, setX_n (show ¬ 2 + 2 * k = 0 by omega), setX_n (show ¬ 3 + 2 * k = 0 by omega)]
    exact u
theorem j_dug (hJ : JS σx σm B L 2 i g DR2 WB2) (hG : LGood B L 2 i) (hk : lnK B L 2 i = 1) {τ : Dt} (q1 : KR σx τ) (q2 : τ.1 155 9 = nI (pz B L (tE B L i) (nmS 2 (lnK B L 2 i) + 1))) (q3 : NumR τ B L (tE B L i) (nmS 2 (lnK B L 2 i))) (q4 : f_X5_readLine 155 σx = JT (lnK B L 2 i) (nmS 2 (lnK B L 2 i)) (tS B L i) τ) : JL σx σm B L 2 i DR2 WB2 f_X12_sightLine := by
  obtain ⟨j1, j2, j3, j4, j5, j6, ⟨n, v1, v2⟩, j8⟩ := id hJ
  have ht : ∀ k, k < 2 → tT B L (pz B L (tE B L i) k) = 2 := by
    have := hG.2.1
    rw [hk] at this
    exact this
  have eN : nbM B L (.inl (tE B L i)) = .inl (tE B L (tE B L i)) := if_pos (ht 0 (by decide))
  obtain ⟨σm', m1, m2, m3, m6⟩ := ms_1 j2 j6 hk v2 v1
  have hg : gJ 2 (lnK B L 2 i) (fun j => nv B L (pz B L (tE B L i) j)) (fun j => tS B L (pz B L (tE B L i) j)) (ci (TMx 2 (lnK B L 2 i) σx) (nt g (3, tS B L i)) g) (nmS 2 (lnK B L 2 i)) = nbG B L 0 30 (nbG B L 0 5 (if n < 8 then g else nt g (3, tS B L i)) (.inl (tE B L i))) (nbM B L (.inl (tE B L i))) := by
    rw [hk, tm_eq (Q := n < 8) (fun z => ?_)]
    · refine gJ_nb (lo := fun _ => 0) (hi := fun j => if j = 0 then 5 else 30) 2 ht (fun j hj => ?_)
      rcases (show j = 0 ∨ j = 1 by omega) with rfl | rfl
      · exact ⟨fun z => ⟨Nat.zero_le _, Nat.le_of_lt_succ z⟩, fun z => Nat.lt_succ_of_le z.2⟩
      · exact ⟨fun z => ⟨Nat.zero_le _, z⟩, fun z => z.2⟩
    · obtain ⟨⟨d1, d2, d3⟩, -⟩ := j8 z
      show (1 = 1 ∧ ¬ σx.1 169 1 < 8) ↔ _
      rw [d2, v2]
      by_cases c : n < 8
      · exact ⟨fun y => absurd (show nI n < (8 : Int32) from nI_lt (b := 8) c (by decide)) y.2, fun y => absurd c y⟩
      · exact ⟨fun _ => c, fun _ => ⟨rfl, show ¬ nI n < (8 : Int32) from nI_nlt (b := 8) (by omega) (by omega)⟩⟩
  refine j_good hJ (by decide) hG q1 q2 q3 q4 hg m1 m2 (by rw [hk]; exact m3) (ms_V v2 v1 m6) (fun z ρ r1 r2 r3 r4 r5 => ?_)
  rw [← hg, hk] at z
  obtain ⟨z1, z2⟩ := gJ_z 2 z
  rw [show nmS 2 1 = 2 from rfl, z1] at z
  obtain ⟨z3, z4⟩ := ci_z (show ¬ (3 : Nat) = 0 by decide) z
  obtain ⟨⟨d1, d2, d3⟩, ⟨y, e1, e2, e3⟩, n', e4, e5, e6⟩ := j8 z4
  have e : n' = n := (nI_eq (by omega) (by omega)).mp (e4.symm.trans v2)
  subst e
  have hn : n' < 8 := Classical.not_not.mp (fun y => z3 ⟨rfl, show ¬ σx.1 169 1 < 8 from by rw [d2, e4]; exact (show ¬ nI n' < (8 : Int32) from nI_nlt (b := 8) (by omega) (by omega))⟩)
  have c0 : nv B L (tE B L i) < 6 := z2 0 (by decide)
  have c1 : nv B L (tE B L (tE B L i)) ≤ 30 := z2 1 (by decide)
  rw [hk] at q3
  have a0 : ρ.1 172 0 = nI (nv B L (tE B L i)) := by rw [r5]; exact ((q3 0 (by decide)).1 (by decide)).1
  have a1 : ρ.1 172 1 = nI (nv B L (tE B L (tE B L i))) := by rw [r5]; exact ((q3 1 (by decide)).1 (by decide)).1
  rw [if_pos hn, eN, nbV_2 (i := tE B L i) (ht 0 (by decide)) ⟨Nat.zero_le _, by omega⟩, nbV_2 (i := tE B L (tE B L i)) (ht 1 (by decide)) ⟨Nat.zero_le _, c1⟩] at m6
  rw [hk]
  refine ⟨_, t_dug r4 r3 hn (by rw [r1 169 (by decide) (by decide), d2, e4]) a0 a1, ((KL_s (by omega)).tr (KL_s (by omega))).tr (KL_s (by omega)), fun j hj => by simp (disch := omega) only [Nat.reduceAdd, setX_ne, setX_j, upS_ne, upS_eq], ⟨?_, ?_, fun k k1 k2 => ?_⟩, ⟨y, ?_, e2, e3⟩, n' + 1, by rw [m6, setX_j], by omega, fun k k1 => ?_⟩
  · rw [m6]; simp (disch := omega) only [Nat.reduceAdd, setX_ne, setX_j, upS_ne, upS_eq]; rw [r1 169 (by decide) (by decide)]; exact d1
  · rw [m6, setX_j, setX_j]
  · rw [m6] at k2 ⊢
    rw [setX_j] at k2
    have h3 : k < n' + 1 := (nI_ltI (by omega) (by omega)).mp k2
    by_cases c : k = n'
    · subst c
      refine ⟨?_, ?_⟩ <;> simp (disch := omega) only [Nat.reduceAdd, setX_ne, setX_j, upS_ne, upS_eq]
    · have u := d3 k k1 (by rw [e4]; exact nI_lt (by omega) (by omega))
      simp (disch := omega) only [Nat.reduceAdd, setX_ne, setX_j, upS_ne, upS_eq]
      rw [r1 170 (by decide) (by decide), r1 171 (by decide) (by decide)]
      exact u
  · rw [m6]; simp (disch := omega) only [Nat.reduceAdd, setX_ne, setX_j, upS_ne, upS_eq]; exact e1
  · by_cases c : k = n'
    · subst c
      rw [m6]
      refine ⟨nv B L (tE B L i), nv B L (tE B L (tE B L i)), ?_, by omega, ?_, c1⟩ <;> simp (disch := omega) only [Nat.reduceAdd, setX_ne, setX_j, upS_ne, upS_eq]
    · have gg : ∀ j, 1 + 2 * k < j → j ≤ 3 + 2 * k → σm'.1 3 j = σm.1 3 j := fun j h1 h2 => by
        rw [m6]
        simp (disch := omega) only [Nat.reduceAdd, setX_ne, setX_j, upS_ne, upS_eq]
      rw [gg (2 + 2 * k) (by omega) (by omega), gg (3 + 2 * k) (by omega) (by omega)]
      exact e6 k (by omega)
theorem j_sight (hJ : JS σx σm B L 2 i g DR2 WB2) (h0 : ¬ tT B L i = 0) : JL σx σm B L 2 i DR2 WB2 f_X12_sightLine := by
  obtain ⟨j1, j2, j3, j4, j5, j6, j7, j8⟩ := id hJ
  rcases x_line j1 (by decide) j3 j6.1 j4 with ⟨z, -⟩ | ⟨p, hB, τ, q1, q2, q3, q4⟩ | ⟨hG, τ, q1, q2, q3, q4⟩
  · exact absurd z h0
  · obtain ⟨σm', g', m1, m2, m3, m4⟩ := ms_bad j2 j6 hB j7
    exact j_bad q1 q2 q3 q4 m1 m2 m3 m4
  · have h3 : lnK B L 2 i ≤ 1 := lnK_s hG.1
    rcases (show lnK B L 2 i = 0 ∨ lnK B L 2 i = 1 by omega) with hk | hk
    · exact j_years hJ hG hk q1 q2 q3 q4
    · exact j_dug hJ hG hk q1 q2 q3 q4
end JSL
