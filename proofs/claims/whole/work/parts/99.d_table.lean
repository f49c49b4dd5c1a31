/-! ===== plan: the table of what can be ===== -/
theorem bI_c {p q : Prop} (h : p ↔ q) : bI p = bI q := by rw [propext h]
def Tb (σ : Dt) (C : Nat → Nat → Prop) : Prop := ∀ S U, S < 64 → U < 1024 → σ.1 10 (1024 * S + U) = bI (C S U)
def ad1 (F : Nat) (J : Nat → Prop) (V U : Nat) : Prop := ∃ M, nsub M (nsub (2 ^ F - 1) V) = 0 ∧ ¬ M = 0 ∧ J M ∧ U = V ||| M
section PLT
variable {σ : Dt} {o F W : Nat} {A : Nat → Int32}
theorem m_parts (h : MV σ o A F W) {S1 V : Nat} {x3 : Int32} {C : Nat → Nat → Prop} {J : Nat → Prop} (hS : S1 < 64) (hV : V < 2 ^ F) (hC : Tb σ C) (hJ : ∀ s, s < 2 ^ F → σ.1 11 s = bI (J s)) : ∃ τ, iter FU (fun s => f_X12_addsWork_L65 0 x3 (nI (1024 * S1)) (nI (2 ^ F - 1)) (nI V) (nI (nsub (2 ^ F - 1) V)) s.1 s.2) (nI (nsub (2 ^ F - 1) V), σ) = some τ ∧ KM σ τ ∧ Oth 10 σ τ ∧ Tb τ (fun S U => C S U ∨ (S = S1 ∧ ad1 F J V U)) := by
  have hF := h.F10
  have hp := pw_le hF
  have hp0 := Nat.two_pow_pos F
  have hL : nsub (2 ^ F - 1) V ≤ 2 ^ F - 1 := nsub_le _ _
  generalize hLe : nsub (2 ^ F - 1) V = L at hL
  have hLF : L < 2 ^ F := by omega
  have key := iter_w (f := fun q : Int32 × Dt => f_X12_addsWork_L65 0 x3 (nI (1024 * S1)) (nI (2 ^ F - 1)) (nI V) (nI L) q.1 q.2) (s0 := (nI L, σ)) (P := fun j q => ∃ m τ, q = (nI m, τ) ∧ m + j ≤ 1023 ∧ nsub m L = 0 ∧ KM σ τ ∧ Oth 10 σ τ ∧ Tb τ (fun S U => C S U ∨ (S = S1 ∧ ∃ M, m < M ∧ nsub M L = 0 ∧ J M ∧ U = V ||| M))) (Q := fun τ => KM σ τ ∧ Oth 10 σ τ ∧ Tb τ (fun S U => C S U ∨ (S = S1 ∧ ad1 F J V U))) 1023 (by decide) ⟨L, σ, rfl, by omega, sub_0.mpr (fun _ z => z), KM_0 _, Oth_0 _ _, fun S U h1 h2 => ?_⟩ (fun j q hj hP => ?_)
  · exact key
  · rw [hC S U h1 h2]
    apply bI_c
    constructor
    · exact Or.inl
    · rintro (z | ⟨-, M, m1, m2, -⟩)
      · exact z
      · have := Nat.le_of_testBit (n := M) (m := L) (fun i hi => sub_0.mp m2 i hi)
        omega
  · obtain ⟨m, τ, rfl, p1, p2, p3, p4, p5⟩ := hP
    dsimp only
    have hM := p3.mv h
    unfold f_X12_addsWork_L65 f_X12_addsWork_94
    rcases Nat.eq_zero_or_pos m with e | e
    · left
      subst e
      rw [if_pos (by decide)]
      refine ⟨_, rfl, p3, p4, fun S U h1 h2 => ?_⟩
      rw [p5 S U h1 h2]
      apply bI_c
      unfold ad1
      rw [hLe]
      constructor
      · rintro (z | ⟨z, M, m1, m2, m3, m4⟩)
        · exact Or.inl z
        · exact Or.inr ⟨z, M, m2, by omega, m3, m4⟩
      · rintro (z | ⟨z, M, m1, m2, m3, m4⟩)
        · exact Or.inl z
        · exact Or.inr ⟨z, M, by omega, m1, m3, m4⟩
    · right
      refine ⟨by omega, ?_⟩
      have hmF : m < 2 ^ F := sub_lt p2 hLF
      have hor : V ||| m < 1024 := by
        have := or_lt hV hmF
        omega
      have hnx : (m - 1) &&& L ≤ m - 1 := Nat.and_le_left
      have hsub : nsub ((m - 1) &&& L) L = 0 := sub_0.mpr (fun i hi => by
        rw [Nat.testBit_and] at hi
        cases e1 : L.testBit i
        · rw [e1, Bool.and_false] at hi; cases hi
        · rfl)
      have hgt : ∀ M, nsub M L = 0 → ((m - 1) &&& L < M ↔ m ≤ M) := by
        intro M hML
        constructor
        · intro z
          apply Classical.byContradiction
          intro y
          have := half_sub F L m M hmF (by omega) (fun i hi => sub_0.mp p2 i hi) (fun i hi => sub_0.mp hML i hi)
          omega
        · intro z; omega
      rw [if_neg (nI_nle (by omega) (by omega)), mr22 hM.1, z11g (by omega), p4.1 11 (by decide), hJ m hmF, ite_b, show nI m - 1 = nI (m - 1) from by rw [show m = (m - 1) + 1 by omega, nI_pred, Nat.add_sub_cancel], nI_and]
      by_cases c : J m
      · rw [ci_t c, mr21 hM.1, nI_or, nI_add, show (1 : Int32) = bI True from (bI_t trivial).symm, z10s (by omega)]
        refine ⟨_, rfl, _, _, rfl, by omega, hsub, p3.tr (KM_set (by decide)), p4.tr (Oth_set τ), fun S U h1 h2 => ?_⟩
        by_cases d : 1024 * S + U = 1024 * S1 + (V ||| m)
        · rw [d, setX_j]
          apply bI_c
          have d1 : S = S1 := by omega
          have d2 : U = V ||| m := by omega
          exact ⟨fun _ => Or.inr ⟨d1, m, (hgt m p2).mpr (Nat.le_refl _), p2, c, d2⟩, fun _ => trivial⟩
        · rw [setX_n d, p5 S U h1 h2]
          apply bI_c
          constructor
          · rintro (z | ⟨z, M, m1, m2, m3, m4⟩)
            · exact Or.inl z
            · exact Or.inr ⟨z, M, (hgt M m2).mpr (by omega), m2, m3, m4⟩
          · rintro (z | ⟨z, M, m1, m2, m3, m4⟩)
            · exact Or.inl z
            · refine Or.inr ⟨z, M, ?_, m2, m3, m4⟩
              have := (hgt M m2).mp m1
              rcases (show M = m ∨ m < M by omega) with y | y
              · exact absurd (by rw [z, m4, y]) d
              · exact y
      · rw [ci_f c]
        refine ⟨_, rfl, _, _, rfl, by omega, hsub, p3, p4, fun S U h1 h2 => ?_⟩
        rw [p5 S U h1 h2]
        apply bI_c
        constructor
        · rintro (z | ⟨z, M, m1, m2, m3, m4⟩)
          · exact Or.inl z
          · exact Or.inr ⟨z, M, (hgt M m2).mpr (by omega), m2, m3, m4⟩
        · rintro (z | ⟨z, M, m1, m2, m3, m4⟩)
          · exact Or.inl z
          · refine Or.inr ⟨z, M, ?_, m2, m3, m4⟩
            have := (hgt M m2).mp m1
            rcases (show M = m ∨ m < M by omega) with y | y
            · exact absurd (y ▸ m3) c
            · exact y
theorem m_adds (h : MV σ o A F W) {S w : Nat} {C : Nat → Nat → Prop} {J : Nat → Prop} (hw : w < 6) (hS : S < 2 ^ w) (hC : Tb σ C) (hJ : ∀ s, s < 2 ^ F → σ.1 11 s = bI (J s)) : ∃ τ, f_X12_addsWork 0 (nI S) (nI w) σ = some ((), τ) ∧ KM σ τ ∧ Oth 10 σ τ ∧ Tb τ (fun S' U => C S' U ∨ (S' = S ||| 2 ^ w ∧ ∃ V, V < 2 ^ F ∧ C S V ∧ ad1 F J V U)) := by
  have hF := h.F10
  have hp := pw_le hF
  have hp0 := Nat.two_pow_pos F
  have hpw : 2 ^ w ≤ 32 := (show 2 ^ w ≤ 2 ^ 5 from Nat.pow_le_pow_right (by decide) (by omega))
  have hS1 : S ||| 2 ^ w < 64 := or_lt (n := 6) (by omega) (by omega)
  have hne : ¬ S = S ||| 2 ^ w := by
    intro z
    have : S.testBit w = true := by rw [z]; exact orTB.mpr (Or.inr (by rw [tb_pow]; simp))
    have := tb_lt hS this
    omega
  have key := iter_w (f := fun q : Int32 × Dt => f_X12_addsWork_L30 0 (nI (1024 * S)) (nI (1024 * (S ||| 2 ^ w))) (nI (2 ^ F - 1)) q.1 q.2) (s0 := ((0 : Int32), σ)) (P := fun i q => ∃ τ, q = (nI i, τ) ∧ KM σ τ ∧ Oth 10 σ τ ∧ Tb τ (fun S' U => C S' U ∨ (S' = S ||| 2 ^ w ∧ ∃ V, V < i ∧ C S V ∧ ad1 F J V U))) (Q := fun τ => KM σ τ ∧ Oth 10 σ τ ∧ Tb τ (fun S' U => C S' U ∨ (S' = S ||| 2 ^ w ∧ ∃ V, V < 2 ^ F ∧ C S V ∧ ad1 F J V U))) (2 ^ F) (by omega) ⟨σ, rfl, KM_0 _, Oth_0 _ _, fun S' U h1 h2 => ?_⟩ (fun i q hi hP => ?_)
  · obtain ⟨τ, e1, e2⟩ := key
    refine ⟨τ, ?_, e2⟩
    unfold f_X12_addsWork
    rw [show (1024 : Int32) = nI 1024 from rfl, shl1 (by omega), nI_or, pk_mul, pk_mul, bo_s, bo_of (mfolk h), shl1 (by omega), show nI (2 ^ F) - 1 = nI (2 ^ F - 1) from by rw [show 2 ^ F = (2 ^ F - 1) + 1 by omega, nI_pred, Nat.add_sub_cancel], bo_s, bo_of e1]
  · rw [hC S' U h1 h2]
    apply bI_c
    exact ⟨Or.inl, fun z => z.elim id (fun z => by obtain ⟨-, V, v1, -⟩ := z; omega)⟩
  · obtain ⟨τ, rfl, p1, p2, p3⟩ := hP
    dsimp only
    have hM := p1.mv h
    unfold f_X12_addsWork_L30 f_X12_addsWork_106
    rcases (show i = 2 ^ F ∨ i < 2 ^ F by omega) with e | e
    · left
      rw [if_pos (nI_lt (by omega) (by omega)), ← e]
      exact ⟨_, rfl, p1, p2, p3⟩
    · right
      refine ⟨e, ?_⟩
      rw [if_neg (Int32.not_lt.mpr (nI_le (by omega) (by omega))), mr21 hM.1, nI_add, z10g (by omega), p3 S i (by omega) (by omega), ite_b, nI_1]
      have hself : (C S i ∨ (S = S ||| 2 ^ w ∧ ∃ V, V < i ∧ C S V ∧ ad1 F J V i)) ↔ C S i := ⟨fun z => z.elim id (fun z => absurd z.1 hne), Or.inl⟩
      by_cases c : C S i
      · obtain ⟨ρ, r1, r2, r3, r4⟩ := m_parts (x3 := nI (1024 * S)) hM hS1 e p3 (fun s hs => by rw [p2.1 11 (by decide)]; exact hJ s hs)
        rw [ci_t (hself.mpr c), nI_andx, bo_of r1]
        refine ⟨_, rfl, _, rfl, p1.tr r2, p2.tr r3, fun S' U h1 h2 => ?_⟩
        rw [r4 S' U h1 h2]
        apply bI_c
        constructor
        · rintro ((z | ⟨z, V, v1, v2, v3⟩) | ⟨z, y⟩)
          · exact Or.inl z
          · exact Or.inr ⟨z, V, by omega, v2, v3⟩
          · exact Or.inr ⟨z, i, by omega, c, y⟩
        · rintro (z | ⟨z, V, v1, v2, v3⟩)
          · exact Or.inl (Or.inl z)
          · rcases (show V = i ∨ V < i by omega) with y | y
            · subst y; exact Or.inr ⟨z, v3⟩
            · exact Or.inl (Or.inr ⟨z, V, y, v2, v3⟩)
      · rw [ci_f (fun z => c (hself.mp z))]
        refine ⟨_, rfl, _, rfl, p1, p2, fun S' U h1 h2 => ?_⟩
        rw [p3 S' U h1 h2]
        apply bI_c
        constructor
        · rintro (z | ⟨z, V, v1, v2, v3⟩)
          · exact Or.inl z
          · exact Or.inr ⟨z, V, by omega, v2, v3⟩
        · rintro (z | ⟨z, V, v1, v2, v3⟩)
          · exact Or.inl z
          · rcases (show V = i ∨ V < i by omega) with y | y
            · exact absurd (y ▸ v2) c
            · exact Or.inr ⟨z, V, y, v2, v3⟩
end PLT
