/-! ===== plan: the class, the whole of it ===== -/
/-- the set can be, and by so few -/
def FeP (A : Nat → Int32) (F W n s : Nat) : Prop := ∃ T, T < 2 ^ F ∧ DS (stN A) (ndN A W n) F s W T
def FwP (A : Nat → Int32) (F W n s k : Nat) : Prop := ∃ T, T < 2 ^ F ∧ DS (stN A) (ndN A W n) F s W T ∧ k = popc T ∧ ∀ T', T' < 2 ^ F → DS (stN A) (ndN A W n) F s W T' → popc T ≤ popc T'
theorem DS_00 {s nd : Nat → Nat} {F : Nat} : ∀ (w T : Nat), DS s nd F 0 w T
  | 0, _ => trivial
  | w + 1, T => Or.inr ⟨by rw [Nat.zero_testBit]; simp, DS_00 w T⟩
theorem DS_T0 {s nd : Nat → Nat} {F S : Nat} : ∀ (w : Nat), (∀ v, v < w → 1 ≤ nd v) → DS s nd F S w 0 → ∀ v, v < w → ¬ S.testBit v = true
  | 0, _, _, v, hv => absurd hv (Nat.not_lt_zero v)
  | w + 1, hn, Or.inl ⟨c, G, g1, g2, g3⟩, v, hv => by
    have hG : G = 0 := by
      apply Classical.byContradiction
      intro z
      obtain ⟨i, hi⟩ := ne_bit z
      have := sub_0.mp g1 i hi
      rw [Nat.zero_testBit] at this
      cases this
    rw [hG, sumN_z] at g2
    have := hn w (by omega)
    omega
  | w + 1, hn, Or.inr ⟨c, g⟩, v, hv => by
    rcases (show v = w ∨ v < w by omega) with y | y
    · rw [y]; exact c
    · exact DS_T0 w (fun u hu => hn u (by omega)) g v y
section MKQ
variable {σ : Dt} {v F W n : Nat} {A : Nat → Int32}
theorem hp_no (hvw : VW A F W) (hF : F ≤ 10) (hW : W ≤ 6) {hd : Nat → Nat} (hhd : ∀ w, w < W → hdP A F W n w (hd w)) {s : Nat} (hs : s < 2 ^ W) (hX : hpX A F W (ndN A W n) hd s) : ¬ FeP A F W n s := by
  rintro ⟨T, hT, hD⟩
  rcases hX with z | z | z
  · omega
  · have h1 := DS_sum W T hD
    have h2 : sumN (stN A) T F ≤ sumN (stN A) 1023 F := sumN_mono (sub_0.mpr (fun i hi => by
      have := tb_lt hT hi
      exact (show ∀ i, i < 10 → (1023 : Nat).testBit i = true by decide) i (by omega))) F
    omega
  · have h1 := DS_hd (hd := hd) W T (fun v hv G g1 g2 => (hhd v hv).2 G (sub_lt g1 hT) g2) hD
    have h2 := DS_sum W T h1
    rw [← popK_sum] at h2
    have := popK_le T F
    omega
theorem popK_or {m b : Nat} (hb : b < 64) (h : ¬ m.testBit b = true) : popK (m ||| 2 ^ b) 64 = popK m 64 + 1 := by
  have h1 : (m ||| 2 ^ b).testBit b = true := orTB.mpr (Or.inr (by rw [tb_pow]; simp))
  have h2 := popK_rm h1 64
  have hrm : nsub (m ||| 2 ^ b) (2 ^ b) = m := by
    apply Nat.eq_of_testBit_eq
    intro i
    cases e1 : m.testBit i
    · cases e2 : (nsub (m ||| 2 ^ b) (2 ^ b)).testBit i
      · rfl
      · obtain ⟨y1, y2⟩ := rm_tb.mp e2
        rcases orTB.mp y1 with y | y
        · rw [e1] at y; cases y
        · rw [tb_pow] at y; exact absurd (of_decide_eq_true y).symm y2
    · exact rm_tb.mpr ⟨orTB.mpr (Or.inl e1), fun z => h (z ▸ e1)⟩
  rw [hrm, if_pos hb] at h2
  exact h2
theorem x_rounds (h : CV σ v A F W) (h1 : 1 ≤ n) (h2 : n ≤ 9) {X0 : Nat → Prop} (hx0 : ¬ X0 0) (hxW : ∀ s, 2 ^ W ≤ s → X0 s) (hxF : ∀ s, s < 2 ^ W → X0 s → ¬ FeP A F W n s) (hnd : ∀ w, w < 6 → σ.1 197 w = nI (ndN A W n w)) (hr : ∀ s, s < 64 → σ.1 196 s = jI (vlX A W X0 s)) : ∃ b k τ, iter FU (fun s => f_X1_makePlan_L127 194 (some v) s.1 s.2) ((0 : Int32), σ) = some (.inl (nI b, nI k, τ)) ∧ KX σ τ ∧ τ.1 196 b = nI (sumN (woN A) b W) ∧ b < 2 ^ W ∧ FwP A F W n b k ∧ k ≤ 12 ∧ ∀ s, s < 2 ^ W → FeP A F W n s → sumN (woN A) s W ≤ sumN (woN A) b W ∧ (s < b → sumN (woN A) s W < sumN (woN A) b W) := by
  have hF := h.F10
  have hW := h.W6
  have hvw := h.vw
  have hp : 2 ^ W ≤ 64 := (show 2 ^ W ≤ 2 ^ 6 from Nat.pow_le_pow_right (by decide) hW)
  have hp0 := Nat.two_pow_pos W
  have hpF := pw_le hF
  have key := iter_w (f := fun q : Int32 × Dt => f_X1_makePlan_L127 194 (some v) q.1 q.2) (s0 := ((0 : Int32), σ)) (P := fun j q => ∃ (τ : Dt) (m : Nat), q = (nI j, τ) ∧ KX σ τ ∧ (∀ w, w < 6 → τ.1 197 w = nI (ndN A W n w)) ∧ ¬ m.testBit 0 = true ∧ j ≤ popK m 64 ∧ (∀ s, s < 2 ^ W → m.testBit s = true → ¬ FeP A F W n s) ∧ ∀ s, s < 64 → τ.1 196 s = jI (vlX A W (fun s => X0 s ∨ m.testBit s = true) s)) (Q := fun r => ∃ b k τ, r = .inl (nI b, nI k, τ) ∧ KX σ τ ∧ τ.1 196 b = nI (sumN (woN A) b W) ∧ b < 2 ^ W ∧ FwP A F W n b k ∧ k ≤ 12 ∧ ∀ s, s < 2 ^ W → FeP A F W n s → sumN (woN A) s W ≤ sumN (woN A) b W ∧ (s < b → sumN (woN A) s W < sumN (woN A) b W)) 64 (by decide) ⟨σ, 0, rfl, KX_0 _, hnd, by rw [Nat.zero_testBit]; simp, Nat.zero_le _, fun s _ z => (by rw [Nat.zero_testBit] at z; cases z), fun s hs => ?_⟩ (fun j q hj hP => ?_)
  · obtain ⟨r, e1, b, k, τ, rfl, e2⟩ := key
    exact ⟨b, k, τ, e1, e2⟩
  · rw [hr s hs]
    unfold vlX
    by_cases c : X0 s
    · rw [ci_t c, ci_t (Or.inl c)]
    · rw [ci_f c, ci_f (fun z => z.elim c (fun z => by rw [Nat.zero_testBit] at z; cases z))]
  · obtain ⟨τ, m, rfl, p1, p2, p3, p4, p5, p6⟩ := hP
    dsimp only
    have hC := p1.cv h
    have hlt : popK m 64 < 64 := by
      have q1 := popK_strict (s := m) (t := 2 ^ 64 - 1) 64 (fun i hi _ => all_tb.mpr hi) ⟨0, by decide, all_tb.mpr (by decide), p3⟩
      have q2 := popK_le (2 ^ 64 - 1) 64
      omega
    have hj64 : j < 64 := by omega
    obtain ⟨b, b1, b2, b3, b4⟩ := x_best hC.2.1 hvw hW p6
    have hv0 : vlX A W (fun s => X0 s ∨ m.testBit s = true) 0 = sumN (woN A) 0 W := by
      unfold vlX
      rw [ci_f (fun z => z.elim hx0 p3)]
    have hbX : ¬ (X0 b ∨ m.testBit b = true) := by
      intro z
      have q1 := b3 0 (by decide)
      have q2 : vlX A W (fun s => X0 s ∨ m.testBit s = true) b = -1 := by unfold vlX; rw [ci_t z]
      rw [hv0, q2] at q1
      omega
    have hvb : vlX A W (fun s => X0 s ∨ m.testBit s = true) b = sumN (woN A) b W := by unfold vlX; rw [ci_f hbX]
    have hbW : b < 2 ^ W := by
      apply Classical.byContradiction
      intro z
      exact hbX (Or.inl (hxW b (by omega)))
    obtain ⟨x, ρ, f1, f2, f3⟩ := x_few (nd := ndN A W n) hC (show b < 64 by omega) p2 (fun w hw => by
      have hwW := tb_lt hbW hw
      have := ndN_b hvw hW h1 h2 hwW
      exact ⟨this.1, by omega⟩)
    have h196 : ρ.1 196 = τ.1 196 := f2.1 196 (by decide) (by decide) (by decide)
    have hmax : ∀ s, s < 2 ^ W → FeP A F W n s → sumN (woN A) s W ≤ sumN (woN A) b W ∧ (s < b → sumN (woN A) s W < sumN (woN A) b W) := by
      intro s hs hfe
      have hsX : ¬ (X0 s ∨ m.testBit s = true) := fun z => z.elim (fun z => hxF s hs z hfe) (fun z => p5 s hs z hfe)
      have hvs : vlX A W (fun s => X0 s ∨ m.testBit s = true) s = sumN (woN A) s W := by unfold vlX; rw [ci_f hsX]
      have q1 := b3 s (by omega)
      refine ⟨by rw [hvs, hvb] at q1; omega, fun hlt => ?_⟩
      have q2 := b4 s hlt
      rw [hvs, hvb] at q2
      omega
    have hds : ∀ T, DS (stN A) (ndN A W n) F b 6 T ↔ DS (stN A) (ndN A W n) F b W T := fun T => by
      have := DS_hi (s := stN A) (nd := ndN A W n) (F := F) hbW (6 - W) T
      rw [show W + (6 - W) = 6 by omega] at this
      exact this
    have hdone : ∀ k, x = nI k → FwP A F W n b k → k ≤ 12 → (∃ r, (some (.inr (.inl (nI b, x, ρ))) : Option ((Int32 × Dt) ⊕ ((Int32 × Int32 × Dt) ⊕ Dt))) = some (.inr r) ∧ ∃ b k τ, r = .inl (nI b, nI k, τ) ∧ KX σ τ ∧ τ.1 196 b = nI (sumN (woN A) b W) ∧ b < 2 ^ W ∧ FwP A F W n b k ∧ k ≤ 12 ∧ ∀ s, s < 2 ^ W → FeP A F W n s → sumN (woN A) s W ≤ sumN (woN A) b W ∧ (s < b → sumN (woN A) s W < sumN (woN A) b W)) := by
      intro k hx hk hk12
      refine ⟨_, rfl, b, k, ρ, by rw [hx], p1.tr f2.kx, ?_, hbW, hk, hk12, hmax⟩
      rw [h196, p6 b (by omega), hvb, jI_n]
    unfold f_X1_makePlan_L127
    rw [if_neg (show ¬ (64 : Int32) ≤ nI j from nI_ge (b := 64) hj64 (by decide)), bo_of x_rcd, bo_of b1, bo_of x_rcd, bd_of f1]
    rcases f3 with ⟨g1, g2⟩ | ⟨g1, g2⟩
    · left
      rw [g2, if_neg (by decide), ← g2]
      refine hdone 0 g2 ⟨0, Nat.two_pow_pos F, by rw [g1]; exact DS_00 W 0, rfl, fun T' _ _ => ?_⟩ (by decide)
      show 0 ≤ _
      omega
    · rcases g2 with ⟨y1, y2⟩ | ⟨T, t1, t2, t3, t4, t5⟩
      · right
        refine ⟨hj64, ?_⟩
        rw [if_pos y1, d_rf 4 (f2.kx.ref hC.2.1) (by omega), bo_of (xsiX (by decide) (by decide) (show b < SX.2.2 (192 + 4) from b2) (by decide)), nI_1]
        refine ⟨_, rfl, _, m ||| 2 ^ b, rfl, (p1.tr f2.kx).tr (KX_set (by decide)), fun w hw => ?_, ?_, ?_, fun s hs z => ?_, fun s hs => ?_⟩
        · rw [setX_o (by decide), f2.1 197 (by decide) (by decide) (by decide)]; exact p2 w hw
        · intro z
          rcases orTB.mp z with y | y
          · exact p3 y
          · rw [tb_pow] at y
            exact g1 (of_decide_eq_true y)
        · rw [popK_or b2 (fun z => hbX (Or.inr z))]; omega
        · rcases orTB.mp z with y | y
          · exact p5 s hs y
          · rw [tb_pow] at y
            have : b = s := of_decide_eq_true y
            subst this
            rintro ⟨T, hT, hD⟩
            rcases Nat.eq_zero_or_pos T with e0 | e0
            · subst e0
              obtain ⟨i, hi⟩ := ne_bit g1
              exact DS_T0 W (fun u hu => (ndN_b hvw hW h1 h2 hu).1) hD i (tb_lt hbW hi) hi
            · exact y2 T e0 hT ((hds T).mpr hD)
        · show (setX ρ 196 b (-1)).1 196 s = _
          by_cases c : s = b
          · subst c
            rw [setX_j]
            unfold vlX
            rw [ci_t (Or.inr (orTB.mpr (Or.inr (by rw [tb_pow]; simp))))]
            rfl
          · rw [setX_n c, h196, p6 s hs]
            unfold vlX
            have hne : (m ||| 2 ^ b).testBit s = true ↔ m.testBit s = true := by
              rw [orTB, tb_pow]
              exact ⟨fun z => z.elim id (fun z => absurd (of_decide_eq_true z).symm c), Or.inl⟩
            by_cases d : X0 s ∨ m.testBit s = true
            · rw [ci_t d, ci_t (d.elim Or.inl (fun z => Or.inr (hne.mpr z)))]
            · rw [ci_f d, ci_f (fun z => d (z.elim Or.inl (fun z => Or.inr (hne.mp z))))]
      · left
        have hpc := popc_le T
        rw [t4, if_neg (nI_m1 (by omega)), ← t4]
        refine hdone (popc T) t4 ⟨T, t2, (hds T).mp t3, rfl, fun T' h1' h2' => ?_⟩ hpc
        rcases Nat.eq_zero_or_pos T' with e0 | e0
        · subst e0
          obtain ⟨i, hi⟩ := ne_bit g1
          exact absurd hi (DS_T0 W (fun u hu => (ndN_b hvw hW h1 h2 hu).1) h2' i (tb_lt hbW hi))
        · exact t5 T' e0 h1' ((hds T').mpr h2')
theorem x_makePlan (h : CV σ v A F W) (h1 : 1 ≤ n) (h2 : n ≤ 9) : ∃ b k τ, f_X1_makePlan 194 (some v) (nI n) σ = some ((), τ) ∧ KX σ τ ∧ τ.1 194 0 = nI (sumN (woN A) b W) ∧ τ.1 194 1 = nI b ∧ τ.1 194 2 = nI k ∧ b < 2 ^ W ∧ FwP A F W n b k ∧ k ≤ 12 ∧ ∀ s, s < 2 ^ W → FeP A F W n s → sumN (woN A) s W ≤ sumN (woN A) b W ∧ (s < b → sumN (woN A) s W < sumN (woN A) b W) := by
  have hF := h.F10
  have hW := h.W6
  have hvw := h.vw
  have hp0 := Nat.two_pow_pos W
  obtain ⟨s0, hs0⟩ : ∃ s, s = setX (setX (setX σ 194 0 0) 194 1 0) 194 2 0 := ⟨_, rfl⟩
  have k0 : KX σ s0 := by rw [hs0]; exact ((KX_set (by decide)).tr (KX_set (by decide))).tr (KX_set (by decide))
  have c0 := k0.cv h
  obtain ⟨s1, e1, a1, a2, a3⟩ := x_needs (n := n) c0 h1 h2
  have k1 : KX s0 s1 := ⟨fun a ha => a1 a (by omega) (by omega), a2⟩
  have c1 := k1.cv c0
  have hch : ∃ hd : Nat → Nat, ∀ w, w < 6 → s1.1 199 w = nI (hd w) ∧ hdP A F W n w (hd w) := by
    refine ⟨fun w => if hw : w < 6 then Classical.choose (a3 w hw).2 else 0, fun w hw => ?_⟩
    have := Classical.choose_spec (a3 w hw).2
    dsimp only
    rw [dif_pos hw]
    exact this
  obtain ⟨hd, hhd⟩ := hch
  have l6 : ∀ a, a = 197 ∨ a = 199 ∨ a = 201 → xln SX (some a) = some (nI 6) := fun a ha => by
    obtain ⟨q1, q2, q3⟩ := d6_sh a ha
    rw [xln_of q1 q2, q3]
  have r6 : ∀ a, a = 197 ∨ a = 199 ∨ a = 201 → ∀ (τ : Dt) (w : Nat), w < 6 → xai SX (some a) (nI w) τ = some (τ.1 a w) := fun a ha τ w hw => by
    obtain ⟨q1, q2, q3⟩ := d6_sh a ha
    exact xai_of q1 q2 (by omega) (by omega)
  have hv2 : v ≤ 156 := (show ∀ v ∈ vlist, v ≤ 156 by decide) v h.1
  obtain ⟨s2, e2, o2, w2⟩ := x_sumUp (g := woN A) (c := v + 7) (d := 196) c1 (Or.inl rfl) (by
    obtain ⟨q1, q2, q3⟩ := (v_sh v h.1).2.2.2.2.2.2.2.2
    rw [xln_of q1 q2, q3]) (fun τ w hw => cai7 h.1 hw) (by omega) (fun w hw => by rw [c1.wor w (by omega), (hvw.wk (show w < 6 by omega)).2.1.1])
  have c2 := (o2.kx (by decide)).cv c1
  obtain ⟨s3, e3, o3, w3⟩ := x_sumUp (g := ndN A W n) (c := 197) (d := 198) c2 (Or.inr (Or.inl rfl)) (l6 197 (Or.inl rfl)) (r6 197 (Or.inl rfl)) (by decide) (fun w hw => by rw [o2.1 197 (by decide)]; exact (a3 w (by omega)).1)
  have c3 := (o3.kx (by decide)).cv c2
  obtain ⟨s4, e4, o4, w4⟩ := x_sumUp (g := hd) (c := 199) (d := 200) c3 (Or.inr (Or.inr rfl)) (l6 199 (Or.inr (Or.inl rfl))) (r6 199 (Or.inr (Or.inl rfl))) (by decide) (fun w hw => by rw [o3.1 199 (by decide), o2.1 199 (by decide)]; exact (hhd w (by omega)).1)
  have c4 := (o4.kx (by decide)).cv c3
  obtain ⟨s5, e5, o5, w5⟩ := x_strike (nd := ndN A W n) (hd := hd) c4 (fun w hw => ndN_le hvw hW h1 h2) (fun w hw => (hhd w (by omega)).2.1) (fun s hs => by rw [o4.1 196 (by decide), o3.1 196 (by decide)]; exact w2 s hs) (fun s hs => by rw [o4.1 198 (by decide)]; exact w3 s hs) w4
  have c5 := (o5.kx (by decide)).cv c4
  obtain ⟨b, k, s6, e6, k6, r6', b1, b2, b3, b4⟩ := x_rounds (X0 := hpX A F W (ndN A W n) hd) c5 h1 h2 (fun z => by
    rcases z with z | z | z
    · omega
    · rw [sumN_z] at z; omega
    · rw [sumN_z] at z; omega) (fun s hs => Or.inl hs) (fun s hs hx => hp_no hvw hF hW (fun w hw => (hhd w (by omega)).2) hs hx) (fun w hw => by rw [o5.1 197 (by decide), o4.1 197 (by decide), o3.1 197 (by decide), o2.1 197 (by decide)]; exact (a3 w hw).1) w5
  have hb64 : b < 64 := Nat.lt_of_lt_of_le b1 (show 2 ^ W ≤ 2 ^ 6 from Nat.pow_le_pow_right (by decide) hW)
  have kk : KX σ s6 := ((((((k0.tr k1).tr (o2.kx (by decide))).tr (o3.kx (by decide))).tr (o4.kx (by decide))).tr (o5.kx (by decide))).tr k6)
  refine ⟨b, k, setX (setX (setX s6 194 0 (nI (sumN (woN A) b W))) 194 1 (nI b)) 194 2 (nI k), ?_, ((kk.tr (KX_set (by decide))).tr (KX_set (by decide))).tr (KX_set (by decide)), ?_, ?_, setX_j, b1, b2, b3, b4⟩
  · unfold f_X1_makePlan
    rw [d_pi, d_pi, d_pi, ← hs0, if_neg (by simp), if_pos (show (0 : Int32) < nI n from nI_lt (a := 0) (by omega) (by omega)), bo_of e1, bo_of (xworths c1), d_rf 4 c1.2.1 (by omega), bd_of e2, d_rf 5 c2.2.1 (by omega), d_rf 6 c2.2.1 (by omega), bd_of e3, d_rf 7 c3.2.1 (by omega), d_rf 8 c3.2.1 (by omega), bd_of e4, bo_of x_rcd, bd_of e5, bo_of e6]
    show (bo (xgr SX 1 4 (some 194) s6) fun v40 => bo (xai SX v40 (nI b) s6) fun v42 => bo (xpi SX 1 0 (some 194) v42 s6) fun σ44 => bo (xpi SX 1 1 (some 194) (nI b) σ44) fun σ46 => bo (xpi SX 1 2 (some 194) (nI k) σ46) fun σ48 => some ((), σ48)) = _
    rw [d_rf 4 (kk.ref h.2.1) (by omega), bo_of (xai_of (by decide) (by decide) (show b < SX.2.2 (192 + 4) from hb64) (by decide)), show s6.1 (192 + 4) b = nI (sumN (woN A) b W) from r6', d_pi, d_pi, d_pi]
  · rw [setX_n (by decide), setX_n (by decide), setX_j]
  · rw [setX_n (by decide), setX_j]
end MKQ
