/-! ===== plan: the class ===== -/
theorem n9 {n : Nat} (h1 : 1 ≤ n) (h2 : n ≤ 9) : n = 1 ∨ n = 2 ∨ n = 3 ∨ n = 4 ∨ n = 5 ∨ n = 6 ∨ n = 7 ∨ n = 8 ∨ n = 9 := by omega
theorem nd_le {n sz S : Nat} (h1 : 1 ≤ n) (h2 : n ≤ 9) : (sz + n - 1) / n ≤ S ↔ sz ≤ n * S := by
  rcases n9 h1 h2 with rfl | rfl | rfl | rfl | rfl | rfl | rfl | rfl | rfl <;> omega
theorem nd_b {n sz : Nat} (h1 : 1 ≤ n) (h2 : n ≤ 9) (h3 : 1 ≤ sz) (h4 : sz ≤ 30) : 1 ≤ (sz + n - 1) / n ∧ (sz + n - 1) / n ≤ 30 := by
  rcases n9 h1 h2 with rfl | rfl | rfl | rfl | rfl | rfl | rfl | rfl | rfl <;> omega
/-- what a work needs of strength -/
def ndN (A : Nat → Int32) (W n w : Nat) : Nat := if w < W then (szN A w + n - 1) / n else 0
theorem ndN_b {A : Nat → Int32} {F W n w : Nat} (h : VW A F W) (hW : W ≤ 6) (h1 : 1 ≤ n) (h2 : n ≤ 9) (hw : w < W) : 1 ≤ ndN A W n w ∧ ndN A W n w ≤ 30 := by
  unfold ndN
  rw [if_pos hw]
  exact nd_b h1 h2 ((h.wk (show w < 6 by omega)).2.2 hw) (h.wk (show w < 6 by omega)).1.2
theorem ndN_le {A : Nat → Int32} {F W n w : Nat} (h : VW A F W) (hW : W ≤ 6) (h1 : 1 ≤ n) (h2 : n ≤ 9) : ndN A W n w ≤ 30 := by
  by_cases c : w < W
  · exact (ndN_b h hW h1 h2 c).2
  · unfold ndN; rw [if_neg c]; omega
def hdP (A : Nat → Int32) (F W n w hh : Nat) : Prop := hh ≤ 11 ∧ ∀ G, G < 2 ^ F → ndN A W n w ≤ sumN (stN A) G F → hh ≤ popK G F
section MKP
variable {σ : Dt} {v F W n : Nat} {A : Nat → Int32}
theorem x_needs (h : CV σ v A F W) (h1 : 1 ≤ n) (h2 : n ≤ 9) : ∃ τ, iter FU (fun s => f_X1_makePlan_L26 194 (some v) (nI n) s.1 s.2) ((0 : Int32), σ) = some τ ∧ (∀ b, ¬ b = 197 → ¬ b = 199 → τ.1 b = σ.1 b) ∧ τ.2.2 = σ.2.2 ∧ ∀ w, w < 6 → τ.1 197 w = nI (ndN A W n w) ∧ ∃ hh, τ.1 199 w = nI hh ∧ hdP A F W n w hh := by
  have hW := h.W6
  have hvw := h.vw
  have key := iter_w (f := fun q : Int32 × Dt => f_X1_makePlan_L26 194 (some v) (nI n) q.1 q.2) (s0 := ((0 : Int32), σ)) (P := fun i q => ∃ τ, q = (nI i, τ) ∧ (∀ b, ¬ b = 197 → ¬ b = 199 → τ.1 b = σ.1 b) ∧ τ.2.2 = σ.2.2 ∧ ∀ w, w < i → τ.1 197 w = nI (ndN A W n w) ∧ ∃ hh, τ.1 199 w = nI hh ∧ hdP A F W n w hh) (Q := fun τ => (∀ b, ¬ b = 197 → ¬ b = 199 → τ.1 b = σ.1 b) ∧ τ.2.2 = σ.2.2 ∧ ∀ w, w < 6 → τ.1 197 w = nI (ndN A W n w) ∧ ∃ hh, τ.1 199 w = nI hh ∧ hdP A F W n w hh) 6 (by decide) ⟨_, rfl, fun _ _ _ => rfl, rfl, fun w hw => absurd hw (Nat.not_lt_zero w)⟩ (fun i q hi hP => by
    obtain ⟨τ, rfl, p1, p2, p3⟩ := hP
    dsimp only
    have hK : KX σ τ := ⟨fun a ha => p1 a (by omega) (by omega), p2⟩
    have hC := hK.cv h
    unfold f_X1_makePlan_L26 f_X1_makePlan_61
    rcases (show i = 6 ∨ i < 6 by omega) with e | e
    · left
      subst e
      rw [if_pos (by decide)]
      exact ⟨_, rfl, p1, p2, p3⟩
    · right
      refine ⟨e, ?_⟩
      have hnb : ndN A W n i ≤ 30 := ndN_le hvw hW h1 h2
      obtain ⟨s1, hs1⟩ : ∃ s, s = setX τ 197 i (nI (ndN A W n i)) := ⟨_, rfl⟩
      have k1 : KX τ s1 := by rw [hs1]; exact KX_set (by decide)
      have c1 := k1.cv hC
      have g1 : s1.1 197 i = nI (ndN A W n i) := by rw [hs1, setX_j]
      obtain ⟨hh, q1, q2, -, q4⟩ := x_hands c1 (show ndN A W n i ≤ 1000 by omega)
      have tail : (bo (xsi SX (some 197) (nI i) (nI (ndN A W n i)) τ) fun σ1 => bo (xgr SX 1 7 (some 194) σ1) fun v3 => bo (xgr SX 1 5 (some 194) σ1) fun v5 => bo (xai SX v5 (nI i) σ1) fun v7 => bo (f_X1_handsAlone (some v) v7 σ1) fun v9 => bo (xsi SX v3 (nI i) v9 σ1) fun σ11 => (some (.inl ((nI i + (1 : Int32)), σ11)) : Option ((Int32 × Dt) ⊕ Dt))) = some (.inl (nI (i + 1), setX s1 199 i (nI hh))) := by
        rw [d6_si (Or.inl rfl) e, ← hs1, d_rf 7 c1.2.1 (by omega), d_rf 5 c1.2.1 (by omega), d6_ai (Or.inl rfl) e, g1, bo_of q1, d6_si (Or.inr (Or.inl rfl)) e, nI_1]
      have fin : ∃ s', (some (.inl (nI (i + 1), setX s1 199 i (nI hh))) : Option ((Int32 × Dt) ⊕ Dt)) = some (.inl s') ∧ ∃ τ, s' = (nI (i + 1), τ) ∧ (∀ b, ¬ b = 197 → ¬ b = 199 → τ.1 b = σ.1 b) ∧ τ.2.2 = σ.2.2 ∧ ∀ w, w < i + 1 → τ.1 197 w = nI (ndN A W n w) ∧ ∃ hh, τ.1 199 w = nI hh ∧ hdP A F W n w hh := by
        refine ⟨_, rfl, _, rfl, fun b b1 b2 => ?_, ?_, fun w hw => ?_⟩
        · rw [setX_o b2, hs1, setX_o b1]; exact p1 b b1 b2
        · rw [setX_2, hs1, setX_2]; exact p2
        · rw [setX_o (by decide)]
          rcases (show w = i ∨ w < i by omega) with y | y
          · subst y
            exact ⟨g1, hh, setX_j, q2, q4⟩
          · obtain ⟨u1, hh', u2, u3⟩ := p3 w y
            refine ⟨by rw [hs1, setX_n (by omega)]; exact u1, hh', ?_, u3⟩
            rw [setX_n (by omega), hs1, setX_o (by decide)]; exact u2
      rw [if_neg (show ¬ (6 : Int32) ≤ nI i from nI_ge (b := 6) e (by decide)), d_rf 5 hC.2.1 (by omega), bo_of (crc hC.1), bo_of (c_hasWorkB hC _), ite_b]
      by_cases c : i < W
      · have hsz := (hvw.wk e).1.2
        have hsz1 := (hvw.wk e).2.2 c
        have en : ndN A W n i = (szN A i + n - 1) / n := if_pos c
        rw [ci_in_t c, bo_of (xsizes hC), bo_of (xsiz hC c), if_neg (show ¬ nI n = (0 : Int32) from z_f (by omega) (by omega)), nI_add, show szN A i + n = (szN A i + n - 1) + 1 by omega, nI_pred, pk_div (by omega) (by omega) (by omega), ← en]
        rw [show (some (192 + 5) : Option Nat) = some 197 from rfl, tail]
        exact fin
      · have en : ndN A W n i = 0 := if_neg c
        rw [ci_in_f (by omega) (by omega), show (0 : Int32) = nI 0 from rfl, ← en]
        rw [show (some (192 + 5) : Option Nat) = some 197 from rfl, tail]
        exact fin)
  exact key
/-- the worth laid for a set: struck, or what it is -/
noncomputable def vlX (A : Nat → Int32) (W : Nat) (X : Nat → Prop) (s : Nat) : Int := ci (X s) (-1) (sumN (woN A) s W : Int)
theorem x_best (hR : RefX σ) {X : Nat → Prop} (hvw : VW A F W) (hW : W ≤ 6) (hr : ∀ s, s < 64 → σ.1 196 s = jI (vlX A W X s)) : ∃ b, f_X1_bestUnstruck 194 σ = some (nI b) ∧ b < 64 ∧ (∀ s, s < 64 → vlX A W X s ≤ vlX A W X b) ∧ ∀ s, s < b → vlX A W X s < vlX A W X b := by
  have hb : ∀ s, -1 ≤ vlX A W X s ∧ vlX A W X s ≤ 1000 := by
    intro s
    unfold vlX
    by_cases c : X s
    · rw [ci_t c]; omega
    · rw [ci_f c]
      have := sumN_le (f := woN A) (s := s) (M := 20) W (fun w hw => (hvw.wk (show w < 6 by omega)).2.1.2)
      omega
  have ai : ∀ {β : Type} {i : Nat} {k : Int32 → Option β}, i < 64 → bo (xai SX (some 196) (nI i) σ) k = k (σ.1 196 i) := fun hi => bo_of (xai_of (by decide) (by decide) (show _ < 64 from hi) (by decide))
  have key := iter_w (f := fun q : Int32 × Int32 => f_X1_bestUnstruck_L4 194 q.1 q.2 σ) (s0 := ((0 : Int32), (0 : Int32))) (P := fun i q => ∃ b, q = (nI b, nI i) ∧ b < 64 ∧ (∀ s, s < i → vlX A W X s ≤ vlX A W X b) ∧ ∀ s, s < b → vlX A W X s < vlX A W X b) (Q := fun r => ∃ b, r = nI b ∧ b < 64 ∧ (∀ s, s < 64 → vlX A W X s ≤ vlX A W X b) ∧ ∀ s, s < b → vlX A W X s < vlX A W X b) 64 (by decide) ⟨0, rfl, by decide, fun s hs => absurd hs (Nat.not_lt_zero s), fun s hs => absurd hs (Nat.not_lt_zero s)⟩ (fun i q hi hP => by
    obtain ⟨b, rfl, p1, p2, p3⟩ := hP
    dsimp only
    unfold f_X1_bestUnstruck_L4 f_X1_bestUnstruck_27
    rcases (show i = 64 ∨ i < 64 by omega) with e | e
    · left
      subst e
      rw [if_pos (by decide)]
      exact ⟨_, rfl, b, rfl, p1, p2, p3⟩
    · right
      refine ⟨e, ?_⟩
      have h1 := hb i
      have h2 := hb b
      rw [if_neg (show ¬ (64 : Int32) ≤ nI i from nI_ge (b := 64) e (by decide)), d_rf 4 hR (by omega), ai e, hr i e, d_rf 4 hR (by omega), ai p1, hr b p1, nI_1]
      simp only [jI_le (show -1000000000 ≤ vlX A W X i by omega) (show vlX A W X i ≤ 1000000000 by omega) (show -1000000000 ≤ vlX A W X b by omega) (show vlX A W X b ≤ 1000000000 by omega)]
      by_cases c : vlX A W X i ≤ vlX A W X b
      · rw [if_pos c]
        refine ⟨_, rfl, b, rfl, p1, fun s hs => ?_, p3⟩
        rcases (show s = i ∨ s < i by omega) with y | y
        · rw [y]; exact c
        · exact p2 s y
      · rw [if_neg c]
        refine ⟨_, rfl, i, rfl, e, fun s hs => ?_, fun s hs => ?_⟩
        · rcases (show s = i ∨ s < i by omega) with y | y
          · rw [y]; exact Int.le_refl _
          · have := p2 s y; omega
        · have := p2 s hs; omega)
  obtain ⟨r, e1, b, rfl, e2⟩ := key
  refine ⟨b, ?_, e2⟩
  unfold f_X1_bestUnstruck
  rw [bo_of e1]
/-- hopeless for a plain reason -/
def hpX (A : Nat → Int32) (F W : Nat) (nd hd : Nat → Nat) (s : Nat) : Prop := 2 ^ W ≤ s ∨ sumN (stN A) 1023 F < sumN nd s W ∨ F < sumN hd s W
theorem x_strike (h : CV σ v A F W) {nd hd : Nat → Nat} (hnd : ∀ w, w < W → nd w ≤ 30) (hhd : ∀ w, w < W → hd w ≤ 11) (hr1 : ∀ s, s < 64 → σ.1 196 s = nI (sumN (woN A) s W)) (hr2 : ∀ s, s < 64 → σ.1 198 s = nI (sumN nd s W)) (hr3 : ∀ s, s < 64 → σ.1 200 s = nI (sumN hd s W)) : ∃ τ, f_X1_strikeHopeless 194 (some v) σ = some ((), τ) ∧ Oth 196 σ τ ∧ ∀ s, s < 64 → τ.1 196 s = jI (vlX A W (hpX A F W nd hd) s) := by
  have hF := h.F10
  have hW := h.W6
  have hvw := h.vw
  have hp : 2 ^ W ≤ 64 := (show 2 ^ W ≤ 2 ^ 6 from Nat.pow_le_pow_right (by decide) hW)
  have hp0 := Nat.two_pow_pos W
  have htot : sumN (stN A) 1023 F ≤ F * 9 := sumN_le F (fun w hw => (hvw.fk (show w < 10 by omega)).2.1.2)
  have ai : ∀ {β : Type} {a i : Nat} {τ : Dt} {k : Int32 → Option β}, (a = 196 ∨ a = 198 ∨ a = 200) → i < 64 → bo (xai SX (some a) (nI i) τ) k = k (τ.1 a i) := by
    intro β a i τ k ha hi
    obtain ⟨d1, d2, d3⟩ := dig_sh a ha
    exact bo_of (xai_of d1 d2 (by omega) (by omega))
  have si : ∀ {β : Type} {i : Nat} {x : Int32} {τ : Dt} {k : Dt → Option β}, i < 64 → bo (xsi SX (some 196) (nI i) x τ) k = k (setX τ 196 i x) := by
    intro β i x τ k hi
    obtain ⟨d1, d2, d3⟩ := dig_sh 196 (Or.inl rfl)
    exact bo_of (xsiX d1 d2 (by omega) (by omega))
  have key := iter_w (f := fun q : Int32 × Dt => f_X1_strikeHopeless_L7 194 (some v) (nI (sumN (stN A) 1023 F)) q.1 q.2) (s0 := ((0 : Int32), σ)) (P := fun i q => ∃ τ, q = (nI i, τ) ∧ Oth 196 σ τ ∧ (∀ s, s < i → τ.1 196 s = jI (vlX A W (hpX A F W nd hd) s)) ∧ ∀ s, i ≤ s → s < 64 → τ.1 196 s = nI (sumN (woN A) s W)) (Q := fun τ => Oth 196 σ τ ∧ ∀ s, s < 64 → τ.1 196 s = jI (vlX A W (hpX A F W nd hd) s)) 64 (by decide) ⟨_, rfl, Oth_0 _ _, fun s hs => absurd hs (Nat.not_lt_zero s), fun s _ hs => hr1 s hs⟩ (fun i q hi hP => by
    obtain ⟨τ, rfl, p1, p2, p3⟩ := hP
    dsimp only
    have hC := (p1.kx (by decide)).cv h
    unfold f_X1_strikeHopeless_L7 f_X1_strikeHopeless_26 f_X1_strikeHopeless_56 f_X1_strikeHopeless_63
    rcases (show i = 64 ∨ i < 64 by omega) with e | e
    · left
      subst e
      rw [if_pos (by decide)]
      exact ⟨_, rfl, p1, p2⟩
    · right
      refine ⟨e, ?_⟩
      have b1 := sumN_le (f := nd) (s := i) (M := 30) W hnd
      have b2 := sumN_le (f := hd) (s := i) (M := 11) W hhd
      have strike : hpX A F W nd hd i → ∃ s', (some (.inl (nI (i + 1), setX τ 196 i (-1))) : Option ((Int32 × Dt) ⊕ Dt)) = some (.inl s') ∧ ∃ τ, s' = (nI (i + 1), τ) ∧ Oth 196 σ τ ∧ (∀ s, s < i + 1 → τ.1 196 s = jI (vlX A W (hpX A F W nd hd) s)) ∧ ∀ s, i + 1 ≤ s → s < 64 → τ.1 196 s = nI (sumN (woN A) s W) := by
        intro hX
        refine ⟨_, rfl, _, rfl, p1.tr (Oth_set τ), fun s hs => ?_, fun s h1 h2 => ?_⟩
        · rcases (show s = i ∨ s < i by omega) with y | y
          · subst y
            rw [setX_j]; unfold vlX; rw [ci_t hX]; rfl
          · rw [setX_n (by omega)]; exact p2 s y
        · rw [setX_n (by omega)]; exact p3 s (by omega) h2
      have keep : ¬ hpX A F W nd hd i → ∃ s', (some (.inl (nI (i + 1), τ)) : Option ((Int32 × Dt) ⊕ Dt)) = some (.inl s') ∧ ∃ τ, s' = (nI (i + 1), τ) ∧ Oth 196 σ τ ∧ (∀ s, s < i + 1 → τ.1 196 s = jI (vlX A W (hpX A F W nd hd) s)) ∧ ∀ s, i + 1 ≤ s → s < 64 → τ.1 196 s = nI (sumN (woN A) s W) := by
        intro hX
        refine ⟨_, rfl, _, rfl, p1, fun s hs => ?_, fun s h1 h2 => p3 s (by omega) h2⟩
        rcases (show s = i ∨ s < i by omega) with y | y
        · subst y
          rw [p3 s (Nat.le_refl _) e]; unfold vlX; rw [ci_f hX, jI_n]
        · exact p2 s y
      rw [if_neg (show ¬ (64 : Int32) ≤ nI i from nI_ge (b := 64) e (by decide)), bo_of (crc hC.1), bo_of (c_allWorks hC), nI_1, d_rf 4 hC.2.1 (by omega), si e, ite_00, ite_10, d_rf 6 hC.2.1 (by omega), ai (Or.inr (Or.inl rfl)) e, p1.1 198 (by decide), hr2 i e, d_rf 8 hC.2.1 (by omega), ai (Or.inr (Or.inr rfl)) e, p1.1 200 (by decide), hr3 i e, bo_of (xfolk hC)]
      by_cases c1 : 2 ^ W ≤ i
      · rw [if_pos (nI_lt (by omega) (by omega))]
        exact strike (Or.inl c1)
      · rw [if_neg (Int32.not_lt.mpr (nI_le (by omega) (by omega)))]
        by_cases c2 : sumN (stN A) 1023 F < sumN nd i W
        · rw [if_pos (nI_lt c2 (by omega))]
          exact strike (Or.inr (Or.inl c2))
        · rw [if_neg (Int32.not_lt.mpr (nI_le (by omega) (by omega)))]
          by_cases c3 : sumN hd i W ≤ F
          · rw [ite_le_t (by omega) c3]
            exact keep (fun z => z.elim c1 (fun z => z.elim c2 (by omega)))
          · rw [ite_le_f (by omega) (by omega)]
            exact strike (Or.inr (Or.inr (by omega))))
  obtain ⟨τ, e1, e2, e3⟩ := key
  refine ⟨τ, ?_, e2, e3⟩
  unfold f_X1_strikeHopeless
  rw [bo_of (crc h.1), bo_of (x_total h), bo_of e1]
end MKP
