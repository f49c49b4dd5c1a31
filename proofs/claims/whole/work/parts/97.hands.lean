/-! ===== plan: sums of any row; the hands for one work alone ===== -/
/-- all but row d left as it was -/
def Oth (d : Nat) (σ τ : Dt) : Prop := (∀ b, ¬ b = d → τ.1 b = σ.1 b) ∧ τ.2.2 = σ.2.2
theorem Oth_0 (d : Nat) (σ : Dt) : Oth d σ σ := ⟨fun _ _ => rfl, rfl⟩
theorem Oth.tr {d : Nat} {a b c : Dt} (h1 : Oth d a b) (h2 : Oth d b c) : Oth d a c := ⟨fun x hx => (h2.1 x hx).trans (h1.1 x hx), h2.2.trans h1.2⟩
theorem Oth_set {d j : Nat} {v : Int32} (σ : Dt) : Oth d σ (setX σ d j v) := ⟨fun _ hb => setX_o hb, rfl⟩
theorem Oth.kx {d : Nat} {σ τ : Dt} (h : Oth d σ τ) (hd : 174 ≤ d) : KX σ τ := ⟨fun a ha => h.1 a (by omega), h.2⟩
theorem dig_sh : ∀ d, d = 196 ∨ d = 198 ∨ d = 200 → d < SX.1 ∧ SX.2.1 d = 13 ∧ SX.2.2 d = 64 := by
  intro d hd
  rcases hd with rfl | rfl | rfl <;> decide
section SUP
variable {σ : Dt} {v F W : Nat} {A : Nat → Int32}
theorem x_sumUp (h : CV σ v A F W) {c d : Nat} {g : Nat → Nat} (hd : d = 196 ∨ d = 198 ∨ d = 200) (hl : xln SX (some c) = some (nI 6)) (hr : ∀ (τ : Dt) (w : Nat), w < 6 → xai SX (some c) (nI w) τ = some (τ.1 c w)) (hcd : ¬ c = d) (hg : ∀ w, w < W → σ.1 c w = nI (g w)) : ∃ τ, f_X1_sumUp (some v) (some c) (some d) σ = some ((), τ) ∧ Oth d σ τ ∧ ∀ s, s < 64 → τ.1 d s = nI (sumN g s W) := by
  have hW := h.W6
  obtain ⟨d1, d2, d3⟩ := dig_sh d hd
  have hd174 : 174 ≤ d := by omega
  have ai : ∀ (τ : Dt) (s : Nat), s < 64 → xai SX (some d) (nI s) τ = some (τ.1 d s) := fun τ s hs => xai_of d1 d2 (by omega) (by omega)
  have si : ∀ (τ : Dt) (s : Nat) (x : Int32), s < 64 → xsi SX (some d) (nI s) x τ = some (setX τ d s x) := fun τ s x hs => xsiX d1 d2 (by omega) (by omega)
  have inner : ∀ (s : Nat) (τ : Dt), s < 64 → Oth d σ τ → τ.1 d s = nI 0 → ∃ ρ, iter FU (fun q => f_X1_sumUp_L28 (some v) (some c) (some d) (nI s) q.1 q.2) ((0 : Int32), τ) = some ρ ∧ Oth d σ ρ ∧ (∀ t, ¬ t = s → ρ.1 d t = τ.1 d t) ∧ ρ.1 d s = nI (sumN g s W) := by
    intro s τ hs hO h0
    refine iter_w (f := fun q : Int32 × Dt => f_X1_sumUp_L28 (some v) (some c) (some d) (nI s) q.1 q.2) (s0 := ((0 : Int32), τ)) (P := fun i q => q.1 = nI i ∧ Oth d σ q.2 ∧ (∀ t, ¬ t = s → q.2.1 d t = τ.1 d t) ∧ q.2.1 d s = nI (sumN g s i)) (Q := fun ρ => Oth d σ ρ ∧ (∀ t, ¬ t = s → ρ.1 d t = τ.1 d t) ∧ ρ.1 d s = nI (sumN g s W)) W (by omega) ⟨rfl, hO, fun _ _ => rfl, h0⟩ (fun i q hi hP => ?_)
    obtain ⟨x, ρ⟩ := q
    obtain ⟨p1, p2, p3, p4⟩ := hP
    dsimp only at p1 p2 p3 p4
    subst p1
    dsimp only
    have hC := (p2.kx hd174).cv h
    unfold f_X1_sumUp_L28 f_X1_sumUp_65
    rw [bo_of (xworks hC)]
    rcases (show i = W ∨ i < W by omega) with e | e
    · left
      subst e
      rw [if_pos (nI_le (Nat.le_refl _) (by omega))]
      exact ⟨_, rfl, p2, p3, p4⟩
    · right
      refine ⟨e, ?_⟩
      have hci : ρ.1 c i = nI (g i) := by rw [p2.1 c hcd]; exact hg i e
      rw [ite_le_f (by omega) e, bo_of hl, ite_le_f (by decide) (by omega), bo_of (ai ρ s hs), p4, bo_of (hr ρ i (by omega)), hci, nI_add, Int32.add_zero, bo_of (si ρ s _ hs), bo_of (si ρ s _ hs), nI_1]
      simp only [bit0 (show s < 2 ^ 31 by omega) (show i < 32 by omega)]
      by_cases b : s.testBit i = true
      · rw [if_neg (fun z => z b)]
        refine ⟨_, rfl, rfl, p2.tr (Oth_set ρ), fun t ht => ?_, ?_⟩
        · rw [setX_n ht]; exact p3 t ht
        · rw [setX_j, sumN, if_pos b]
      · rw [if_pos b]
        refine ⟨_, rfl, rfl, p2.tr (Oth_set ρ), fun t ht => ?_, ?_⟩
        · rw [setX_n ht]; exact p3 t ht
        · rw [setX_j, sumN, if_neg b, Nat.add_zero]
  have key := iter_w (f := fun q : Int32 × Dt => f_X1_sumUp_L15 (some v) (some c) (some d) q.1 q.2) (s0 := ((0 : Int32), σ)) (P := fun i q => q.1 = nI i ∧ Oth d σ q.2 ∧ ∀ s, s < i → q.2.1 d s = nI (sumN g s W)) (Q := fun ρ => Oth d σ ρ ∧ ∀ s, s < 64 → ρ.1 d s = nI (sumN g s W)) 64 (by decide) ⟨rfl, Oth_0 d σ, fun s hs => absurd hs (Nat.not_lt_zero s)⟩ (fun i q hi hP => by
    obtain ⟨x, ρ⟩ := q
    obtain ⟨p1, p2, p3⟩ := hP
    dsimp only at p1 p2 p3
    subst p1
    dsimp only
    unfold f_X1_sumUp_L15 f_X1_sumUp_73
    rw [bo_of (xln_of d1 d2), d3]
    rcases (show i = 64 ∨ i < 64 by omega) with e | e
    · left
      subst e
      rw [if_pos (by decide)]
      exact ⟨_, rfl, p2, p3⟩
    · right
      refine ⟨e, ?_⟩
      obtain ⟨ρ', r1, r2, r3, r4⟩ := inner i (setX ρ d i (nI 0)) e (p2.tr (Oth_set ρ)) setX_j
      rw [ite_le_f (by decide) e, bo_of (si ρ i _ e), bo_of (show iter FU (fun q => f_X1_sumUp_L28 (some v) (some c) (some d) (nI i) q.1 q.2) ((0 : Int32), setX ρ d i 0) = _ from r1), nI_1]
      refine ⟨_, rfl, rfl, r2, fun s hs => ?_⟩
      dsimp only
      rcases (show s = i ∨ s < i by omega) with y | y
      · rw [y]; exact r4
      · rw [r3 s (by omega), setX_n (by omega)]
        exact p3 s y)
  obtain ⟨τ, e1, e2, e3⟩ := key
  refine ⟨τ, ?_, e2, e3⟩
  unfold f_X1_sumUp
  rw [if_neg (by simp), if_neg (by simp), if_neg (by simp), bo_of e1]
/-- the strongest not yet used -/
theorem x_strongest (h : CV σ v A F W) {U : Nat} {x2 x4 : Int32} (hU : U < 1024) : ∃ m fI, iter FU (fun q => f_X1_handsAlone_L30 (some v) x2 (nI U) x4 q.1 q.2.1 q.2.2 σ) ((-1 : Int32), (0 : Int32), (0 : Int32)) = some (fI, nI m) ∧ m ≤ 9 ∧ ((fI = -1 ∧ m = 0) ∨ ∃ f, f < F ∧ fI = nI f ∧ ¬ U.testBit f = true ∧ stN A f = m) ∧ ∀ f, f < F → ¬ U.testBit f = true → stN A f ≤ m := by
  have hF := h.F10
  have hvw := h.vw
  have key := iter_w (f := fun q : Int32 × Int32 × Int32 => f_X1_handsAlone_L30 (some v) x2 (nI U) x4 q.1 q.2.1 q.2.2 σ) (s0 := ((-1 : Int32), (0 : Int32), (0 : Int32))) (P := fun i q => ∃ m fI, q = (fI, nI m, nI i) ∧ m ≤ 9 ∧ ((fI = -1 ∧ m = 0) ∨ ∃ f, f < F ∧ fI = nI f ∧ ¬ U.testBit f = true ∧ stN A f = m) ∧ ∀ f, f < i → ¬ U.testBit f = true → stN A f ≤ m) (Q := fun r => ∃ m fI, r = (fI, nI m) ∧ m ≤ 9 ∧ ((fI = -1 ∧ m = 0) ∨ ∃ f, f < F ∧ fI = nI f ∧ ¬ U.testBit f = true ∧ stN A f = m) ∧ ∀ f, f < F → ¬ U.testBit f = true → stN A f ≤ m) F (by omega) ⟨0, -1, rfl, by omega, Or.inl ⟨rfl, rfl⟩, fun f hf => absurd hf (Nat.not_lt_zero f)⟩ (fun i q hi hP => by
    obtain ⟨m, fI, rfl, p1, p2, p3⟩ := hP
    dsimp only
    unfold f_X1_handsAlone_L30 f_X1_handsAlone_80
    rw [bo_of (xfolk h)]
    rcases (show i = F ∨ i < F by omega) with e | e
    · left
      subst e
      rw [if_pos (nI_le (Nat.le_refl _) (by omega))]
      exact ⟨_, rfl, m, fI, rfl, p1, p2, p3⟩
    · right
      refine ⟨e, ?_⟩
      have hst := (hvw.fk (show i < 10 by omega)).2.1.2
      rw [ite_le_f (by omega) e, if_neg (show ¬ (10 : Int32) ≤ nI i from nI_ge (b := 10) (by omega) (by decide)), bo_of (xstrs h), bo_of (xst h (by omega)), bo_of (xstrs h), bo_of (xst h (by omega)), nI_1]
      simp only [bit0 (show U < 2 ^ 31 by omega) (show i < 32 by omega)]
      by_cases b : U.testBit i = true
      · rw [if_neg (fun z => z b)]
        refine ⟨_, rfl, m, fI, rfl, p1, p2, fun f hf hb => ?_⟩
        rcases (show f = i ∨ f < i by omega) with y | y
        · rw [y] at hb; exact absurd b hb
        · exact p3 f y hb
      · rw [if_pos b]
        by_cases c : stN A i ≤ m
        · rw [ite_le_t (by omega) c]
          refine ⟨_, rfl, m, fI, rfl, p1, p2, fun f hf hb => ?_⟩
          rcases (show f = i ∨ f < i by omega) with y | y
          · rw [y]; exact c
          · exact p3 f y hb
        · rw [ite_le_f (by omega) (by omega)]
          refine ⟨_, rfl, stN A i, nI i, rfl, hst, Or.inr ⟨i, e, rfl, b, rfl⟩, fun f hf hb => ?_⟩
          rcases (show f = i ∨ f < i by omega) with y | y
          · rw [y]; exact Nat.le_refl _
          · have := p3 f y hb; omega)
  obtain ⟨r, e1, m, fI, rfl, q1, q2, q3⟩ := key
  exact ⟨m, fI, e1, q1, q2, q3⟩
theorem x_hands (h : CV σ v A F W) {need : Nat} (hn : need ≤ 1000) : ∃ hh, f_X1_handsAlone (some v) (nI need) σ = some (nI hh) ∧ hh ≤ 11 ∧ (need = 0 → hh = 0) ∧ ∀ G, G < 2 ^ F → need ≤ sumN (stN A) G F → hh ≤ popK G F := by
  have hF := h.F10
  have hvw := h.vw
  have hp := pw_le hF
  have key := iter_w (f := fun q : Int32 × Int32 × Int32 => f_X1_handsAlone_L7 (some v) q.1 q.2.1 q.2.2 σ) (s0 := (nI need, (0 : Int32), (0 : Int32))) (P := fun j q => ∃ U, U < 2 ^ F ∧ q = (jI ((need : Int) - sumN (stN A) U F), nI U, nI j) ∧ j ≤ 11 ∧ (∀ G, G < 2 ^ F → popK G F ≤ j → sumN (stN A) G F ≤ sumN (stN A) U F) ∧ (0 < j → 0 < need) ∧ ∀ G, G < 2 ^ F → popK G F < j → sumN (stN A) G F < need) (Q := fun r => ∃ hh, el (fun w => some w) (fun _ => some (11 : Int32)) r = some (nI hh) ∧ hh ≤ 11 ∧ (need = 0 → hh = 0) ∧ ∀ G, G < 2 ^ F → need ≤ sumN (stN A) G F → hh ≤ popK G F) 11 (by decide) ⟨0, Nat.two_pow_pos F, by rw [sumN_z, Int.ofNat_zero, Int.sub_zero, ← jI_n]; rfl, by omega, fun G hG h0 => ?_, fun z => absurd z (Nat.lt_irrefl 0), fun G _ hz => absurd hz (Nat.not_lt_zero _)⟩ (fun j q hj hP => ?_)
  · obtain ⟨r, e1, hh, e2, e3⟩ := key
    refine ⟨hh, ?_, e3⟩
    unfold f_X1_handsAlone
    rw [bo_of e1]
    exact e2
  · have : G = 0 := by
      apply Classical.byContradiction
      intro z
      obtain ⟨f, hf⟩ := ne_bit z
      have := popK_up F f (tb_lt hG hf) hf
      omega
    rw [this]
    exact Nat.le_refl _
  · obtain ⟨U, hU, rfl, p1, p2, p3, p4⟩ := hP
    dsimp only
    have hSU : sumN (stN A) U F ≤ F * 9 := sumN_le F (fun w hw => (hvw.fk (show w < 10 by omega)).2.1.2)
    unfold f_X1_handsAlone_L7 f_X1_handsAlone_86 f_X1_handsAlone_101
    rcases (show j = 11 ∨ j < 11 by omega) with e | e
    · left
      subst e
      rw [if_pos (by decide)]
      refine ⟨_, rfl, 11, rfl, Nat.le_refl _, fun z => by have := p3 (by omega); omega, fun G hG hs => ?_⟩
      have := p4 G hG (by have := popK_le G F; omega)
      omega
    · rw [if_neg (show ¬ (10 : Int32) < nI j from Int32.not_lt.mpr (nI_le (b := 10) (by omega) (by decide)))]
      simp only [show ((0 : Int32) < jI ((need : Int) - sumN (stN A) U F)) = (0 < (need : Int) - sumN (stN A) U F) from jI_lt (x := 0) (by omega) (by omega) (by omega) (by omega)]
      by_cases c : 0 < (need : Int) - sumN (stN A) U F
      · right
        refine ⟨e, ?_⟩
        obtain ⟨m, fI, q1, q2, q3, q4⟩ := x_strongest (x2 := jI ((need : Int) - sumN (stN A) U F)) (x4 := nI j) h (show U < 1024 by omega)
        rw [if_pos c, bo_of q1]
        dsimp only
        rw [nI_1, jI_n m, jI_sub]
        have hA : ∀ U', U' < 2 ^ F → sumN (stN A) U' F = sumN (stN A) U F + m → (∀ G, G < 2 ^ F → popK G F ≤ j + 1 → sumN (stN A) G F ≤ sumN (stN A) U' F) ∧ ∀ G, G < 2 ^ F → popK G F < j + 1 → sumN (stN A) G F < need := by
          intro U' _ hs
          refine ⟨fun G hG hg => ?_, fun G hG hg => ?_⟩
          · rw [hs]
            by_cases d : nsub G U = 0
            · have := sumN_mono (s := stN A) d F
              omega
            · obtain ⟨f, hf⟩ := ne_bit d
              obtain ⟨f1, f2⟩ := sub_tb.mp hf
              have hfF := tb_lt hG f1
              have h1 := popK_rm f1 F
              have h2 := sumN_rm (s := stN A) f1 F
              rw [if_pos hfF] at h1 h2
              have h3 := p2 (nsub G (2 ^ f)) (Nat.lt_of_le_of_lt (nsub_le _ _) hG) (by omega)
              have h4 := q4 f hfF f2
              omega
          · have := p2 G hG (by omega)
            omega
        rcases q3 with ⟨z1, z2⟩ | ⟨f, f1, f2, f3, f4⟩
        · subst z2
          rw [z1, if_pos rfl, show nI U ||| (0 : Int32) = nI U from by rw [show (0 : Int32) = nI 0 from rfl, nI_or, Nat.or_zero]]
          obtain ⟨a1, a2⟩ := hA U hU rfl
          exact ⟨_, rfl, U, hU, by congr 2; omega, by omega, a1, fun _ => by omega, a2⟩
        · have hfor : (U ||| 2 ^ f).testBit f = true := orTB.mpr (Or.inr (by rw [tb_pow]; simp))
          have hU' : U ||| 2 ^ f < 2 ^ F := or_lt hU (Nat.pow_lt_pow_right (by decide) f1)
          have hrm : nsub (U ||| 2 ^ f) (2 ^ f) = U := by
            apply Nat.eq_of_testBit_eq
            intro i
            cases e1 : U.testBit i
            · cases e2 : (nsub (U ||| 2 ^ f) (2 ^ f)).testBit i
              · rfl
              · obtain ⟨y1, y2⟩ := rm_tb.mp e2
                rcases orTB.mp y1 with y | y
                · rw [e1] at y; cases y
                · rw [tb_pow] at y; exact absurd (of_decide_eq_true y).symm y2
            · exact rm_tb.mpr ⟨orTB.mpr (Or.inl e1), fun z => f3 (z ▸ e1)⟩
          have h2 := sumN_rm (s := stN A) hfor F
          rw [hrm, if_pos f1, f4] at h2
          rw [f2, if_neg (nI_m1 (by omega)), shl1 (by omega), nI_or]
          obtain ⟨a1, a2⟩ := hA (U ||| 2 ^ f) hU' h2
          exact ⟨_, rfl, U ||| 2 ^ f, hU', by congr 2; omega, by omega, a1, fun _ => by omega, a2⟩
      · left
        rw [if_neg c]
        refine ⟨_, rfl, j, rfl, by omega, fun z => ?_, fun G hG hs => ?_⟩
        · rcases Nat.eq_zero_or_pos j with y | y
          · exact y
          · have := p3 y; omega
        · apply Classical.byContradiction
          intro z
          have := p4 G hG (by omega)
          omega
end SUP
