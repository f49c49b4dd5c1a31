/-! ===== text: a valley's end in the reference ===== -/
section MEV
variable {σ : Dt} {F T G L : Nat} {p : Nat → Nat} {g : Nat × Nat}
theorem mbitsT (x : Int32) (σ : Dt) : ∃ v, f_X12_bitsOf x σ = some v := by
  have key := iter_w (f := fun q : Int32 × Int32 => f_X12_bitsOf_L4 x q.1 q.2 σ) (s0 := ((0 : Int32), (0 : Int32))) (P := fun j q => q.2 = nI j) (Q := fun _ => True) 12 (by decide) rfl (fun j q hj hP => by
    obtain ⟨a, b⟩ := q
    dsimp only at hP ⊢
    subst hP
    unfold f_X12_bitsOf_L4
    rcases (show j = 12 ∨ j < 12 by omega) with y | y
    · left
      subst y
      rw [if_pos (by decide)]
      exact ⟨_, rfl, trivial⟩
    · right
      rw [if_neg (le12 y), bo_s, nI_1]
      exact ⟨y, _, rfl, rfl⟩)
  obtain ⟨v, e, -⟩ := key
  unfold f_X12_bitsOf
  rw [bo_of e]
  exact ⟨v, rfl⟩
theorem nI_ix5 (f : Nat) : (5 : Int32) + (4 : Int32) * nI f = nI (5 + 4 * f) := nI_ix 5 4 f
theorem nI_ix6 (f : Nat) : (6 : Int32) + (4 : Int32) * nI f = nI (6 + 4 * f) := nI_ix 6 4 f
/-- whatever the rows hold: how many bits at most -/
theorem m_mostT (hR : RefM σ) : ∃ w, iter FU (fun s => f_X12_endsValley_L4 0 s.1 s.2 σ) ((0 : Int32), (0 : Int32)) = some w := by
  have key := iter_w (f := fun q : Int32 × Int32 => f_X12_endsValley_L4 0 q.1 q.2 σ) (s0 := ((0 : Int32), (0 : Int32))) (P := fun j q => q.2 = nI j) (Q := fun _ => True) 10 (by decide) rfl (fun j q hj hP => by
    obtain ⟨a, b⟩ := q
    dsimp only at hP ⊢
    subst hP
    unfold f_X12_endsValley_L4 f_X12_endsValley_44
    rcases (show j = 10 ∨ j < 10 by omega) with y | y
    · left
      subst y
      rw [if_pos (by decide)]
      exact ⟨_, rfl, trivial⟩
    · right
      obtain ⟨v, e⟩ := mbitsT (σ.1 3 (5 + 4 * j)) σ
      rw [if_neg (le10 y), mg10 hR, nI_ix5, ma3 (by omega), bo_of e, mg10 hR, ma3 (by omega), bo_of e, nI_1]
      by_cases c : v ≤ a
      · rw [if_pos c]
        exact ⟨y, _, rfl, rfl⟩
      · rw [if_neg c]
        exact ⟨y, _, rfl, rfl⟩)
  obtain ⟨w, e, -⟩ := key
  exact ⟨w, e⟩
theorem m_mostB (hR : RefM σ) (hp : ∀ f, f < 10 → σ.1 3 (5 + 4 * f) = nI (p f) ∧ p f < 1024) : ∃ w, iter FU (fun s => f_X12_endsValley_L4 0 s.1 s.2 σ) ((0 : Int32), (0 : Int32)) = some (nI w) ∧ w ≤ 12 ∧ (2 < w ↔ P5 p 10) := by
  have key := iter_w (f := fun q : Int32 × Int32 => f_X12_endsValley_L4 0 q.1 q.2 σ) (s0 := ((0 : Int32), (0 : Int32))) (P := fun j q => q.2 = nI j ∧ ∃ w, q.1 = nI w ∧ w ≤ 12 ∧ (2 < w ↔ P5 p j)) (Q := fun r => ∃ w, r = nI w ∧ w ≤ 12 ∧ (2 < w ↔ P5 p 10)) 10 (by decide) ⟨rfl, 0, rfl, by decide, ⟨fun z => by omega, fun ⟨f, hf, _⟩ => absurd hf (Nat.not_lt_zero f)⟩⟩ (fun j q hj hP => by
    obtain ⟨a, b⟩ := q
    obtain ⟨h1, w, h2, h3, h4⟩ := hP
    dsimp only at h1 h2 ⊢
    subst h1
    subst h2
    unfold f_X12_endsValley_L4 f_X12_endsValley_44
    rcases (show j = 10 ∨ j < 10 by omega) with y | y
    · left
      subst y
      rw [if_pos (by decide)]
      exact ⟨_, rfl, w, rfl, h3, h4⟩
    · right
      obtain ⟨q1, q2⟩ := hp j y
      have hpc := popc_le (p j)
      have up : P5 p (j + 1) ↔ P5 p j ∨ 2 < popc (p j) := ⟨fun ⟨f, z1, z2⟩ => by
        rcases (show f = j ∨ f < j by omega) with u | u
        · subst u; exact Or.inr z2
        · exact Or.inl ⟨f, u, z2⟩, fun z => z.elim (fun ⟨f, z1, z2⟩ => ⟨f, by omega, z2⟩) (fun z2 => ⟨j, by omega, z2⟩)⟩
      rw [if_neg (le10 y), mg10 hR, nI_ix5, ma3 (by omega), q1, bo_of (mbits (by omega) _), mg10 hR, ma3 (by omega), q1, bo_of (mbits (by omega) _), nI_1]
      by_cases c : popc (p j) ≤ w
      · rw [ite_le_t (by omega) c]
        refine ⟨y, _, rfl, rfl, w, rfl, h3, h4.trans ?_⟩
        rw [up]
        exact ⟨Or.inl, fun z => z.elim id (fun z2 => h4.mp (by omega))⟩
      · rw [ite_le_f (by omega) (by omega)]
        refine ⟨y, _, rfl, rfl, popc (p j), rfl, hpc, ?_⟩
        rw [up]
        exact ⟨Or.inr, fun z => z.elim (fun z2 => by have := h4.mpr z2; omega) id⟩)
  obtain ⟨r, e, w, rfl, h1, h2⟩ := key
  exact ⟨w, e, h1, h2⟩
theorem m_grT {i : Nat} (hi : i < 10) (hR : RefM σ) : ∃ v, iter FU (fun s => f_X12_endsValley_L118 0 (nI i) s.1 s.2 σ) ((0 : Int32), (0 : Int32)) = some v := by
  have key := iter_w (f := fun q : Int32 × Int32 => f_X12_endsValley_L118 0 (nI i) q.1 q.2 σ) (s0 := ((0 : Int32), (0 : Int32))) (P := fun j q => q.2 = nI j) (Q := fun _ => True) 10 (by decide) rfl (fun j q hj hP => by
    obtain ⟨a, b⟩ := q
    dsimp only at hP ⊢
    subst hP
    unfold f_X12_endsValley_L118 f_X12_endsValley_160
    rcases (show j = 10 ∨ j < 10 by omega) with y | y
    · left
      subst y
      rw [if_pos (by decide)]
      exact ⟨_, rfl, trivial⟩
    · right
      rw [if_neg (le10 y), mg10 hR, nI_ix5, ma3 (by omega), mg10 hR, nI_ix5, ma3 (by omega), nI_1]
      by_cases c : (σ.1 3 (5 + 4 * i) >>> (nI j &&& 31)) &&& 1 = 1
      · rw [if_pos c]
        exact ⟨y, _, rfl, rfl⟩
      · rw [if_neg c]
        exact ⟨y, _, rfl, rfl⟩)
  obtain ⟨w, e, -⟩ := key
  exact ⟨w, e⟩
theorem m_gr1 {i : Nat} (hi : i < 10) (hR : RefM σ) (hp : ∀ f, f < 10 → σ.1 3 (5 + 4 * f) = nI (p f) ∧ p f < 1024) : iter FU (fun s => f_X12_endsValley_L118 0 (nI i) s.1 s.2 σ) ((0 : Int32), (0 : Int32)) = some (nI (grP p i)) := by
  have key := iter_n (f := fun q : Int32 × Int32 => f_X12_endsValley_L118 0 (nI i) q.1 q.2 σ) (st := fun j => (nI (fld (fun i' x => x ||| grH p i i') 0 j), nI j)) (x := nI (grP p i)) 10 (by decide) (fun j hj => ?_) ?_
  · exact key
  · dsimp only
    obtain ⟨q1, q2⟩ := hp i hi
    obtain ⟨q3, q4⟩ := hp j hj
    unfold f_X12_endsValley_L118 f_X12_endsValley_160
    rw [if_neg (le10 hj), mg10 hR, nI_ix5, ma3 (by omega), q1, mg10 hR, nI_ix5, ma3 (by omega), q3, nI_1]
    simp only [bit1 (show p i < 2 ^ 31 by omega) (show j < 32 by omega)]
    show _ = some (Sum.inl (nI (fld (fun i' x => x ||| grH p i i') 0 j ||| grH p i j), nI (j + 1)))
    unfold grH
    by_cases c : (p i).testBit j = true
    · rw [if_pos c, if_pos c, nI_or]
    · rw [if_neg c, if_neg c, Nat.or_zero, Int32.or_zero]
  · dsimp only
    unfold f_X12_endsValley_L118
    rw [if_pos (by decide)]
    rfl
theorem K3_3 {τ : Dt} (h : ∀ b, ¬ b = 3 → τ.1 b = σ.1 b) (h2 : τ.2.2 = σ.2.2) : K3 σ τ := ⟨fun b _ _ b3 => h b b3, fun j _ => by rw [h 0 (by decide)], fun j _ _ => by rw [h 1 (by decide)], h2⟩
theorem m_105T (hR : RefM σ) : ∃ τ, f_X12_endsValley_105 0 σ = some ((), τ) ∧ (∀ b, ¬ b = 3 → τ.1 b = σ.1 b) ∧ τ.2.2 = σ.2.2 := by
  have key := iter_w (f := fun q : Int32 × Dt => f_X12_endsValley_L107 0 q.1 q.2) (s0 := ((0 : Int32), σ)) (P := fun j q => q.1 = nI j ∧ (∀ b, ¬ b = 3 → q.2.1 b = σ.1 b) ∧ q.2.2.2 = σ.2.2) (Q := fun τ => (∀ b, ¬ b = 3 → τ.1 b = σ.1 b) ∧ τ.2.2 = σ.2.2) 10 (by decide) ⟨rfl, fun _ _ => rfl, rfl⟩ (fun j q hj hP => by
    obtain ⟨x, ρ⟩ := q
    obtain ⟨p1, p2, p3⟩ := hP
    dsimp only at p1 p2 p3 ⊢
    subst p1
    unfold f_X12_endsValley_L107
    rcases (show j = 10 ∨ j < 10 by omega) with y | y
    · left
      subst y
      rw [if_pos (by decide)]
      exact ⟨_, rfl, p2, p3⟩
    · right
      have hRρ : RefM ρ := by unfold RefM at *; rw [p3]; exact hR
      obtain ⟨v, e⟩ := m_grT (σ := ρ) y hRρ
      rw [if_neg (le10 y), bo_of e, mg10 hRρ, nI_ix6, ms3 (by omega), nI_1]
      exact ⟨y, _, rfl, rfl, fun b hb => (setX_o hb).trans (p2 b hb), p3⟩)
  obtain ⟨τ, e, h1, h2⟩ := key
  unfold f_X12_endsValley_105
  rw [bo_of e]
  exact ⟨τ, rfl, h1, h2⟩
theorem m_105 (hR : RefM σ) (hp : ∀ f, f < 10 → σ.1 3 (5 + 4 * f) = nI (p f) ∧ p f < 1024) : ∃ τ, f_X12_endsValley_105 0 σ = some ((), τ) ∧ (∀ b, ¬ b = 3 → τ.1 b = σ.1 b) ∧ τ.2.2 = σ.2.2 ∧ (∀ f, f < 10 → τ.1 3 (6 + 4 * f) = nI (grP p f)) ∧ ∀ k, (∀ f, f < 10 → ¬ k = 6 + 4 * f) → τ.1 3 k = σ.1 3 k := by
  have key := iter_w (f := fun q : Int32 × Dt => f_X12_endsValley_L107 0 q.1 q.2) (s0 := ((0 : Int32), σ)) (P := fun j q => q.1 = nI j ∧ (∀ b, ¬ b = 3 → q.2.1 b = σ.1 b) ∧ q.2.2.2 = σ.2.2 ∧ (∀ f, f < j → q.2.1 3 (6 + 4 * f) = nI (grP p f)) ∧ ∀ k, (∀ f, f < 10 → ¬ k = 6 + 4 * f) → q.2.1 3 k = σ.1 3 k) (Q := fun τ => (∀ b, ¬ b = 3 → τ.1 b = σ.1 b) ∧ τ.2.2 = σ.2.2 ∧ (∀ f, f < 10 → τ.1 3 (6 + 4 * f) = nI (grP p f)) ∧ ∀ k, (∀ f, f < 10 → ¬ k = 6 + 4 * f) → τ.1 3 k = σ.1 3 k) 10 (by decide) ⟨rfl, fun _ _ => rfl, rfl, fun f hf => absurd hf (Nat.not_lt_zero f), fun _ _ => rfl⟩ (fun j q hj hP => by
    obtain ⟨x, ρ⟩ := q
    obtain ⟨p1, p2, p3, p4, p5⟩ := hP
    dsimp only at p1 p2 p3 p4 p5 ⊢
    subst p1
    unfold f_X12_endsValley_L107
    rcases (show j = 10 ∨ j < 10 by omega) with y | y
    · left
      subst y
      rw [if_pos (by decide)]
      exact ⟨_, rfl, p2, p3, p4, p5⟩
    · right
      have hRρ : RefM ρ := by unfold RefM at *; rw [p3]; exact hR
      have e := m_gr1 (σ := ρ) (p := p) y hRρ (fun f hf => by rw [p5 (5 + 4 * f) (fun f' _ => by omega)]; exact hp f hf)
      rw [if_neg (le10 y), bo_of e, mg10 hRρ, nI_ix6, ms3 (by omega), nI_1]
      refine ⟨y, _, rfl, rfl, fun b hb => (setX_o hb).trans (p2 b hb), p3, fun f hf => ?_, fun k hk => ?_⟩
      · show (setX ρ 3 (6 + 4 * j) (nI (grP p j))).1 3 (6 + 4 * f) = _
        rcases (show f = j ∨ f < j by omega) with w | w
        · subst w; exact setX_j
        · rw [setX_n (by omega)]; exact p4 f w
      · show (setX ρ 3 (6 + 4 * j) (nI (grP p j))).1 3 k = _
        rw [setX_n (hk j y)]; exact p5 k hk)
  obtain ⟨τ, e, h1, h2, h3, h4⟩ := key
  unfold f_X12_endsValley_105
  rw [bo_of e]
  exact ⟨τ, rfl, h1, h2, h3, h4⟩
theorem ma15 {β : Type} {σ : Dt} {k : Int32 → Option β} : bo (xai SM (some 1) (5 : Int32) σ) k = k (σ.1 1 5) := ma1 (i := 5) (by decide)
/-- with a fault already: nothing is noted -/
theorem m_evW (hR : RefM σ) (h5 : ¬ σ.1 1 5 = 0) : ∃ τ, f_X12_endsValley 0 σ = some ((), τ) ∧ (∀ b, ¬ b = 3 → τ.1 b = σ.1 b) ∧ τ.2.2 = σ.2.2 := by
  obtain ⟨w, e⟩ := m_mostT hR
  unfold f_X12_endsValley
  rw [bo_of e, mg0 hR, ma15, if_neg h5]
  unfold f_X12_endsValley_82
  rw [mg0 hR, ma15, if_neg h5]
  exact m_105T hR
theorem far_lt (hG : G ≤ 10) (hF : F ≤ 10) (h1 : ∀ f, T.testBit f = true → f < G) (h2 : G = 0 ∨ T.testBit (G - 1) = true) : (farI G < nI F) ↔ ¬ P4 T F 10 := by
  unfold farI
  by_cases c : G = 0
  · rw [if_pos c]
    refine ⟨fun _ ⟨f, f1, f2, f3⟩ => by have := h1 f f2; omega, fun _ => ?_⟩
    rw [Int32.lt_iff_toInt_lt, jI_n, jI_t (by omega) (by omega), show (-1 : Int32).toInt = -1 from rfl]
    omega
  · rw [if_neg c, nI_ltI (by omega) (by omega)]
    constructor
    · rintro z ⟨f, f1, f2, f3⟩
      have := h1 f f2
      omega
    · intro z
      rcases h2 with y | y
      · exact absurd y c
      · exact Classical.not_not.mp (fun w => z ⟨G - 1, by omega, y, by omega⟩)
theorem m_ev (hR : RefM σ) (h8 : σ.1 0 8 = 0) (h4 : σ.1 0 4 = nI L) (hL : L ≤ 600) (hg : FP σ g) (hz : g.1 = 0) (hF : σ.1 3 0 = nI F) (hF10 : F ≤ 10) (hG : σ.1 0 9 = farI G) (hG10 : G ≤ 10) (hT1 : ∀ f, T.testBit f = true → f < G) (hT2 : G = 0 ∨ T.testBit (G - 1) = true) (hp : ∀ f, f < 10 → σ.1 3 (5 + 4 * f) = nI (p f) ∧ p f < 1024) : ∃ τ, f_X12_endsValley 0 σ = some ((), τ) ∧ K3 σ τ ∧ FP τ (ci (P5 p 10) (nt (ci (P4 T F 10) (4, L) g) (5, L)) (ci (P4 T F 10) (4, L) g)) ∧ (∀ f, f < 10 → τ.1 3 (6 + 4 * f) = nI (grP p f)) ∧ ∀ k, (∀ f, f < 10 → ¬ k = 6 + 4 * f) → τ.1 3 k = σ.1 3 k := by
  obtain ⟨w, e1, e2, e3⟩ := m_mostB hR hp
  have q := far_lt hG10 hF10 hT1 hT2
  have m82 : ∀ ρ g', KA σ ρ → FP ρ g' → (¬ g'.1 = 0 → g' = (4, L)) → ∃ τ, f_X12_endsValley_82 0 (nI w) ρ = some ((), τ) ∧ K3 σ τ ∧ FP τ (ci (P5 p 10) (nt g' (5, L)) g') ∧ (∀ f, f < 10 → τ.1 3 (6 + 4 * f) = nI (grP p f)) ∧ ∀ k, (∀ f, f < 10 → ¬ k = 6 + 4 * f) → τ.1 3 k = σ.1 3 k := by
    intro ρ g' k1 f1 f2
    have m105 : ∀ ρ' g2, KA σ ρ' → FP ρ' g2 → ∃ τ, f_X12_endsValley_105 0 ρ' = some ((), τ) ∧ K3 σ τ ∧ FP τ g2 ∧ (∀ f, f < 10 → τ.1 3 (6 + 4 * f) = nI (grP p f)) ∧ ∀ k, (∀ f, f < 10 → ¬ k = 6 + 4 * f) → τ.1 3 k = σ.1 3 k := by
      intro ρ' g2 k2 f3
      obtain ⟨τ, t1, t2, t3, t4, t5⟩ := m_105 (σ := ρ') (p := p) (k2.kf.ref hR) (fun f hf => by rw [k2.1 3 (by decide)]; exact hp f hf)
      refine ⟨τ, t1, k2.kf.k3.tr (K3_3 t2 t3), ?_, t4, fun k hk => (t5 k hk).trans (by rw [k2.1 3 (by decide)])⟩
      unfold FP at *
      rw [t2 1 (by decide)]
      exact f3
    have hRρ := k1.kf.ref hR
    unfold f_X12_endsValley_82
    rw [mg0 hRρ, ma15, f1.1]
    by_cases c : g'.1 = 0
    · rw [ite_z_t c]
      by_cases d : 2 < w
      · obtain ⟨ρ', a1, a2, a3⟩ := m_also (σ := ρ) (kd := 5) (at' := L) hRρ (by rw [k1.1 0 (by decide)]; exact h8) f1 (by decide) (by decide) hL (fun z => absurd c z)
        rw [if_neg (show ¬ nI w ≤ (2 : Int32) from nI_ge (a := 2) d (by omega)), mgiB, k1.1 0 (by decide), h4, bo_of mrc, bd_of (show f_X12_also 0 (5 : Int32) (nI L) ρ = _ from a1), ci_t (e3.mp d)]
        exact m105 ρ' _ ⟨fun b hb => (a2.1 b hb).trans (k1.1 b hb), fun j j1 j2 => (a2.2.1 j j1 j2).trans (k1.2.1 j j1 j2), a2.2.2.trans k1.2.2⟩ a3
      · rw [if_pos (show nI w ≤ (2 : Int32) from nI_le (b := 2) (by omega) (by decide)), ci_f (fun z => d (e3.mpr z))]
        exact m105 ρ g' k1 f1
    · rw [ite_z_f (by have := f1.2.2.1; omega) c]
      have e : ci (P5 p 10) (nt g' (5, L)) g' = g' := by
        rw [nt_n c]
        by_cases y : P5 p 10
        · exact ci_t y
        · exact ci_f y
      rw [e]
      exact m105 ρ g' k1 f1
  unfold f_X12_endsValley
  rw [bo_of e1, mg0 hR, ma15, hg.1, ite_z_t hz, mgiB, hG, mg10 hR, ma30, hF]
  by_cases c : P4 T F 10
  · obtain ⟨ρ, a1, a2, a3⟩ := m_also (kd := 4) (at' := L) hR h8 hg (by decide) (by decide) hL (fun z => absurd hz z)
    rw [if_neg (fun z => q.mp z c), mgiB, h4, bo_of mrc, bd_of (show f_X12_also 0 (4 : Int32) (nI L) σ = _ from a1), ci_t c]
    rw [nt_0 hz] at a3
    exact m82 ρ _ a2 a3 (fun _ => rfl)
  · rw [if_pos (q.mpr c), ci_f c]
    exact m82 σ g (KA_0 σ) hg (fun z => absurd hz z)
end MEV
