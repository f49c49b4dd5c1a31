/-! ===== text: all lines ===== -/
theorem iter_l {S X : Type} {f : S → Option (S ⊕ X)} {k : Nat} {s s' : S} (h : f s = some (.inl s')) : iter (k + 1) f s = iter k f s' := by
  rw [iter, h]
theorem iter_r {S X : Type} {f : S → Option (S ⊕ X)} {k : Nat} {s : S} {x : X} (h : f s = some (.inr x)) : iter (k + 1) f s = some x := by
  rw [iter, h]
/-- how the lines end: out of form, or at the end of the tape -/
def LE (σx σm : Dt) (B : Nat → Nat) (L : Nat) (D : Dt → Dt → Prop) : Prop := (∃ p g', σx.1 155 3 = 1 ∧ σx.1 155 4 = nI p ∧ MD σm B L g' (.inr p)) ∨ (∃ i g, FX σx g ∧ MD σm B L g (.inl i) ∧ tT B L i = 0 ∧ (g.1 = 0 → D σx σm))
theorem j_loop {B : Nat → Nat} {L s : Nat} {x1 x2 : Int32} {D : Dt → Dt → Prop} {V : Dt → Prop} {f : Nat → Dt → Option (Unit × Dt)} (hs : s < 3) (hstep : ∀ σx σm i g, JS σx σm B L s i g D V → ¬ tT B L i = 0 → JL σx σm B L s i D V f) (hD : ∀ σx τ σm, (∀ a, 156 ≤ a → a ≤ 171 → τ.1 a = σx.1 a) → τ.1 155 10 = σx.1 155 10 → D σx σm → D τ σm) (hf : ∀ σ σ', σ.1 0 8 = 0 → ¬ σ.1 0 5 = 0 → f 0 σ = some ((), σ') → f_X12_text_L136 0 x1 x2 σ = some (.inl σ')) : ∀ d k1 k2 σx σm i g j, JS σx σm B L s i g D V → L - i ≤ d → j ≤ i → d + 3 ≤ k1 → d + 2 ≤ k2 → ∃ σx' σm', iter k1 (fun s => f_X5_read_L89 155 s.1 s.2.1 s.2.2) ((1 : Int32), nI j, σx) = some σx' ∧ iter k2 (fun s => f_X12_text_L136 0 x1 x2 s) σm = some σm' ∧ KL σx σx' ∧ K3 σm σm' ∧ V σm' ∧ LE σx' σm' B L D := by
  intro d
  induction d with
  | zero =>
    intro k1 k2 σx σm i g j hJ hd hj hk1 hk2
    obtain ⟨j1, j2, j3, j4, j5, j6, j7, j8⟩ := id hJ
    have hi := j6.1
    have hL := j2.2.2.1
    have h0 : tT B L i = 0 := Classical.not_not.mp (fun z => by have := tk_lt (B := B) hi z; have := tk_b (B := B) hi; omega)
    obtain ⟨k1', rfl⟩ : ∃ k, k1 = k + 2 := ⟨k1 - 2, by omega⟩
    obtain ⟨k2', rfl⟩ : ∃ k, k2 = k + 1 := ⟨k2 - 1, by omega⟩
    rcases x_line j1 hs j3 hi j4 with ⟨-, τ, e1, e2⟩ | ⟨p, hB, -⟩ | ⟨hG, -⟩
    · have a1 : f_X5_read_L89 155 1 (nI j) σx = some (.inl (0, nI (j + 1), τ)) := by
        unfold f_X5_read_L89
        rw [if_neg (by decide), r_gi, j1.2.2.1, ite_lt_f (by omega) (by omega), bo_of r_rc, bd_of e1, nI_1]
      have a2 : f_X5_read_L89 155 0 (nI (j + 1)) τ = some (.inr τ) := by
        unfold f_X5_read_L89
        rw [if_pos rfl]
      have b1 : f_X12_text_L136 0 x1 x2 σm = some (.inr σm) := by
        unfold f_X12_text_L136
        rw [mgiB, j6.2.1, if_pos rfl, mgiB, (TkM_0 j6.2.2.1).1 h0, if_pos rfl]
      refine ⟨τ, σm, ?_, iter_r b1, e2.ks.kl, K3_0 _, j7, Or.inr ⟨i, g, FX_c (e2.2.1 3 (by decide) (by decide)) (e2.2.1 4 (by decide) (by decide)) j5, j6, h0, fun z => hD σx τ σm (fun a a1 a2 => e2.1 a (by omega) (by omega) (by omega)) (e2.2.1 10 (by decide) (by decide)) (j8 z)⟩⟩
      rw [iter_l (s' := (0, nI (j + 1), τ)) a1]
      exact iter_r a2
    · exact absurd h0 hB.1
    · have := (lnK_1 hG.1).1
      omega
  | succ d ih =>
    intro k1 k2 σx σm i g j hJ hd hj hk1 hk2
    obtain ⟨j1, j2, j3, j4, j5, j6, j7, j8⟩ := id hJ
    have hi := j6.1
    have hL := j2.2.2.1
    obtain ⟨k1', rfl⟩ : ∃ k, k1 = k + 2 := ⟨k1 - 2, by omega⟩
    obtain ⟨k2', rfl⟩ : ∃ k, k2 = k + 2 := ⟨k2 - 2, by omega⟩
    by_cases h0 : tT B L i = 0
    · rcases x_line j1 hs j3 hi j4 with ⟨-, τ, e1, e2⟩ | ⟨p, hB, -⟩ | ⟨hG, -⟩
      · have a1 : f_X5_read_L89 155 1 (nI j) σx = some (.inl (0, nI (j + 1), τ)) := by
          unfold f_X5_read_L89
          rw [if_neg (by decide), r_gi, j1.2.2.1, ite_lt_f (by omega) (by omega), bo_of r_rc, bd_of e1, nI_1]
        have a2 : f_X5_read_L89 155 0 (nI (j + 1)) τ = some (.inr τ) := by
          unfold f_X5_read_L89
          rw [if_pos rfl]
        have b1 : f_X12_text_L136 0 x1 x2 σm = some (.inr σm) := by
          unfold f_X12_text_L136
          rw [mgiB, j6.2.1, if_pos rfl, mgiB, (TkM_0 j6.2.2.1).1 h0, if_pos rfl]
        refine ⟨τ, σm, ?_, iter_r b1, e2.ks.kl, K3_0 _, j7, Or.inr ⟨i, g, FX_c (e2.2.1 3 (by decide) (by decide)) (e2.2.1 4 (by decide) (by decide)) j5, j6, h0, fun z => hD σx τ σm (fun a a1 a2 => e2.1 a (by omega) (by omega) (by omega)) (e2.2.1 10 (by decide) (by decide)) (j8 z)⟩⟩
        rw [iter_l (s' := (0, nI (j + 1), τ)) a1]
        exact iter_r a2
      · exact absurd h0 hB.1
      · have := (lnK_1 hG.1).1
        omega
    · obtain ⟨r, σx1, σm1, e1, e2, e3, e4, e5⟩ := hstep σx σm i g hJ h0
      have a1 : f_X5_read_L89 155 1 (nI j) σx = some (.inl (r, nI (j + 1), σx1)) := by
        unfold f_X5_read_L89
        rw [if_neg (by decide), r_gi, j1.2.2.1, ite_lt_f (by omega) (by omega), bo_of r_rc, bd_of e1, nI_1]
      have b1 := hf σm σm1 j6.2.1 ((TkM_0 j6.2.2.1).2 h0) e2
      rcases e5 with ⟨rfl, v, p, g', u1, u2, u3⟩ | ⟨rfl, i', g', u1, u2⟩
      · have a2 : f_X5_read_L89 155 0 (nI (j + 1)) σx1 = some (.inr σx1) := by
          unfold f_X5_read_L89
          rw [if_pos rfl]
        have b2 : f_X12_text_L136 0 x1 x2 σm1 = some (.inr σm1) := by
          unfold f_X12_text_L136
          rw [mgiB, u3.1, if_neg (by decide)]
        refine ⟨σx1, σm1, ?_, ?_, e3, e4, v, Or.inl ⟨p, g', u1, u2, u3⟩⟩
        · rw [iter_l (s' := (0, nI (j + 1), σx1)) a1]
          exact iter_r a2
        · rw [iter_l b1]
          exact iter_r b2
      · obtain ⟨σx2, σm2, w1, w2, w3, w4, w5, w6⟩ := ih (k1' + 1) (k2' + 1) σx1 σm1 i' g' (j + 1) u2 (by omega) (by omega) (by omega) (by omega)
        refine ⟨σx2, σm2, ?_, ?_, e3.tr w3, e4.tr w4, w5, w6⟩
        · rw [iter_l (s' := (1, nI (j + 1), σx1)) a1]
          exact w1
        · rw [iter_l b1]
          exact w2
theorem DR0_c {σx τ σm : Dt} (h : ∀ a, 156 ≤ a → a ≤ 171 → τ.1 a = σx.1 a) (h10 : τ.1 155 10 = σx.1 155 10) (hd : DR0 σx σm) : DR0 τ σm := by
  unfold DR0 at *
  rw [h 156 (by decide) (by decide), h 157 (by decide) (by decide), h 158 (by decide) (by decide), h 159 (by decide) (by decide), h 162 (by decide) (by decide), h 163 (by decide) (by decide), h10]
  exact hd
theorem DR1_c {σx τ σm : Dt} (h : ∀ a, 156 ≤ a → a ≤ 171 → τ.1 a = σx.1 a) (h10 : τ.1 155 10 = σx.1 155 10) (hd : DR1 σx σm) : DR1 τ σm := by
  unfold DR1 LR at *
  rw [h 164 (by decide) (by decide), h (164 + 1) (by decide) (by decide), h (164 + 2) (by decide) (by decide), h (164 + 3) (by decide) (by decide), h (164 + 4) (by decide) (by decide)]
  exact hd
theorem DR2_c {σx τ σm : Dt} (h : ∀ a, 156 ≤ a → a ≤ 171 → τ.1 a = σx.1 a) (h10 : τ.1 155 10 = σx.1 155 10) (hd : DR2 σx σm) : DR2 τ σm := by
  unfold DR2 SR at *
  rw [h 169 (by decide) (by decide), h (169 + 1) (by decide) (by decide), h (169 + 2) (by decide) (by decide)]
  exact hd
section LOO
variable {σx σm : Dt} {B : Nat → Nat} {L : Nat} {g : Nat × Nat} {x2 : Int32}
theorem j_valleys (hJ : JS σx σm B L 0 0 g DR0 WB0) : ∃ σx' σm', iter FU (fun s => f_X5_read_L89 155 s.1 s.2.1 s.2.2) ((1 : Int32), (0 : Int32), σx) = some σx' ∧ iter FU (fun s => f_X12_text_L136 0 (nI 0) x2 s) σm = some σm' ∧ KL σx σx' ∧ K3 σm σm' ∧ WB0 σm' ∧ LE σx' σm' B L DR0 := by
  have hL := hJ.2.1.2.2.1
  refine j_loop (by decide) (fun _ _ _ _ h1 h2 => j_valley h1 h2) (fun _ _ _ h1 h2 h3 => DR0_c h1 h2 h3) (fun σ σ' h8 h5 e => ?_) L FU FU σx σm 0 g 0 hJ (by omega) (by omega) (show L + 3 ≤ 100000 by omega) (show L + 2 ≤ 100000 by omega)
  unfold f_X12_text_L136
  rw [mgiB, h8, if_pos rfl, mgiB, if_neg h5, if_pos (by decide), bo_of mrc, bd_of e]
theorem j_lives (hJ : JS σx σm B L 1 0 g DR1 WB1) : ∃ σx' σm', iter FU (fun s => f_X5_read_L89 155 s.1 s.2.1 s.2.2) ((1 : Int32), (0 : Int32), σx) = some σx' ∧ iter FU (fun s => f_X12_text_L136 0 (nI 1) x2 s) σm = some σm' ∧ KL σx σx' ∧ K3 σm σm' ∧ WB1 σm' ∧ LE σx' σm' B L DR1 := by
  have hL := hJ.2.1.2.2.1
  refine j_loop (by decide) (fun _ _ _ _ h1 h2 => j_life h1 h2) (fun _ _ _ h1 h2 h3 => DR1_c h1 h2 h3) (fun σ σ' h8 h5 e => ?_) L FU FU σx σm 0 g 0 hJ (by omega) (by omega) (show L + 3 ≤ 100000 by omega) (show L + 2 ≤ 100000 by omega)
  unfold f_X12_text_L136
  rw [mgiB, h8, if_pos rfl, mgiB, if_neg h5, if_neg (by decide), if_pos (by decide), bo_of mrc, bd_of e]
theorem j_sights (hJ : JS σx σm B L 2 0 g DR2 WB2) : ∃ σx' σm', iter FU (fun s => f_X5_read_L89 155 s.1 s.2.1 s.2.2) ((1 : Int32), (0 : Int32), σx) = some σx' ∧ iter FU (fun s => f_X12_text_L136 0 (nI 2) x2 s) σm = some σm' ∧ KL σx σx' ∧ K3 σm σm' ∧ WB2 σm' ∧ LE σx' σm' B L DR2 := by
  have hL := hJ.2.1.2.2.1
  refine j_loop (by decide) (fun _ _ _ _ h1 h2 => j_sight h1 h2) (fun _ _ _ h1 h2 h3 => DR2_c h1 h2 h3) (fun σ σ' h8 h5 e => ?_) L FU FU σx σm 0 g 0 hJ (by omega) (by omega) (show L + 3 ≤ 100000 by omega) (show L + 2 ≤ 100000 by omega)
  unfold f_X12_text_L136
  rw [mgiB, h8, if_pos rfl, mgiB, if_neg h5, if_neg (by decide), if_neg (by decide), bo_of mrc, bd_of e]
end LOO
