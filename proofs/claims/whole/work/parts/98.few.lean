/-! ===== plan: the fewest hands ===== -/
theorem DS_hi {s nd : Nat → Nat} {F S W : Nat} (hS : S < 2 ^ W) : ∀ (d T : Nat), DS s nd F S (W + d) T ↔ DS s nd F S W T
  | 0, _ => Iff.rfl
  | d + 1, T => by
    have hb : ¬ S.testBit (W + d) = true := fun z => by have := tb_lt hS z; omega
    rw [← DS_hi hS d T]
    constructor
    · rintro (⟨z, -⟩ | ⟨-, g⟩)
      · exact absurd z hb
      · exact g
    · intro g
      exact Or.inr ⟨hb, g⟩
theorem d_rf {β : Type} {σ : Dt} {k : Option Nat → Option β} (j : Nat) (hR : RefX σ) (h : j = 4 ∨ j = 5 ∨ j = 6 ∨ j = 7 ∨ j = 8 ∨ j = 9) : bo (xgr SX 1 j (some 194) σ) k = k (some (192 + j)) := by
  rcases h with rfl | rfl | rfl | rfl | rfl | rfl
  · exact bo_of (by rw [xgr_of (by decide) (by decide), hR.1 194 4 (by decide) (by decide)]; rfl)
  · exact bo_of (by rw [xgr_of (by decide) (by decide), hR.1 194 5 (by decide) (by decide)]; rfl)
  · exact bo_of (by rw [xgr_of (by decide) (by decide), hR.1 194 6 (by decide) (by decide)]; rfl)
  · exact bo_of (by rw [xgr_of (by decide) (by decide), hR.1 194 7 (by decide) (by decide)]; rfl)
  · exact bo_of (by rw [xgr_of (by decide) (by decide), hR.1 194 8 (by decide) (by decide)]; rfl)
  · exact bo_of (by rw [xgr_of (by decide) (by decide), hR.1 194 9 (by decide) (by decide)]; rfl)
theorem d_rf11 {β : Type} {σ : Dt} {k : Option Nat → Option β} (hR : RefX σ) : bo (xgr SX 1 11 (some 194) σ) k = k (some 202) := bo_of (by rw [xgr_of (by decide) (by decide), hR.1 194 11 (by decide) (by decide)]; rfl)
theorem d6_sh : ∀ a, a = 197 ∨ a = 199 ∨ a = 201 → a < SX.1 ∧ SX.2.1 a = 13 ∧ SX.2.2 a = 6 := by
  intro a h
  rcases h with rfl | rfl | rfl <;> decide
theorem d2_sh : 202 < SX.1 ∧ SX.2.1 202 = 13 ∧ SX.2.2 202 = 1024 := by decide
theorem d6_ai {β : Type} {a i : Nat} {σ : Dt} {k : Int32 → Option β} (ha : a = 197 ∨ a = 199 ∨ a = 201) (hi : i < 6) : bo (xai SX (some a) (nI i) σ) k = k (σ.1 a i) := by
  obtain ⟨h1, h2, h3⟩ := d6_sh a ha
  exact bo_of (xai_of h1 h2 (by omega) (by omega))
theorem d6_si {β : Type} {a i : Nat} {v : Int32} {σ : Dt} {k : Dt → Option β} (ha : a = 197 ∨ a = 199 ∨ a = 201) (hi : i < 6) : bo (xsi SX (some a) (nI i) v σ) k = k (setX σ a i v) := by
  obtain ⟨h1, h2, h3⟩ := d6_sh a ha
  exact bo_of (xsiX h1 h2 (by omega) (by omega))
theorem d2_ai {β : Type} {i : Nat} {σ : Dt} {k : Int32 → Option β} (hi : i < 1024) : bo (xai SX (some 202) (nI i) σ) k = k (σ.1 202 i) := by
  obtain ⟨h1, h2, h3⟩ := d2_sh
  exact bo_of (xai_of h1 h2 (by omega) (by omega))
theorem d2_si {β : Type} {i : Nat} {v : Int32} {σ : Dt} {k : Dt → Option β} (hi : i < 1024) : bo (xsi SX (some 202) (nI i) v σ) k = k (setX σ 202 i v) := by
  obtain ⟨h1, h2, h3⟩ := d2_sh
  exact bo_of (xsiX h1 h2 (by omega) (by omega))
theorem d_gi {β : Type} {σ : Dt} {j : Nat} {k : Int32 → Option β} : bo (xgi SX 1 j (some 194) σ) k = k (σ.1 194 j) := bo_of (xgi_of (by decide) (by decide))
theorem d_pi {β : Type} {v : Int32} {σ : Dt} {j : Nat} {k : Dt → Option β} : bo (xpi SX 1 j (some 194) v σ) k = k (setX σ 194 j v) := bo_of (xpi_of (by decide) (by decide))
/-- kept but for what a search writes -/
def KD (σ τ : Dt) : Prop := (∀ b, ¬ b = 194 → ¬ b = 201 → ¬ b = 202 → τ.1 b = σ.1 b) ∧ τ.2.2 = σ.2.2
theorem KD_0 (σ : Dt) : KD σ σ := ⟨fun _ _ _ _ => rfl, rfl⟩
theorem KD.tr {a b c : Dt} (h1 : KD a b) (h2 : KD b c) : KD a c := ⟨fun x h h' h'' => (h2.1 x h h' h'').trans (h1.1 x h h' h''), h2.2.trans h1.2⟩
theorem KD_set {σ : Dt} {d j : Nat} {v : Int32} (h : d = 194 ∨ d = 201 ∨ d = 202) : KD σ (setX σ d j v) := ⟨fun b h1 h2 h3 => setX_o (by omega), rfl⟩
theorem KD.kx {σ τ : Dt} (h : KD σ τ) : KX σ τ := ⟨fun a ha => h.1 a (by omega) (by omega) (by omega), h.2⟩
section FEW
variable {σ : Dt} {v F W : Nat} {A : Nat → Int32} {nd : Nat → Nat}
theorem x_want (hR : RefX σ) {S : Nat} (hS : S < 64) (hnd : ∀ w, w < 6 → σ.1 197 w = nI (nd w)) : ∃ τ, f_X1_wantWorks 194 (nI S) σ = some ((), τ) ∧ KD σ τ ∧ τ.1 194 10 = nI (popK S 6) ∧ ∀ i, i < popK S 6 → τ.1 201 i = nI (nd (whE S 6 i)) := by
  have key := iter_w (f := fun q : Int32 × Dt => f_X1_wantWorks_L7 194 (nI S) q.1 q.2) (s0 := ((0 : Int32), setX σ 194 10 0)) (P := fun i q => ∃ τ, q = (nI i, τ) ∧ KD σ τ ∧ τ.1 194 10 = nI (popK S i) ∧ ∀ j, j < popK S i → τ.1 201 j = nI (nd (whE S i j))) (Q := fun τ => KD σ τ ∧ τ.1 194 10 = nI (popK S 6) ∧ ∀ i, i < popK S 6 → τ.1 201 i = nI (nd (whE S 6 i))) 6 (by decide) ⟨_, rfl, KD_set (Or.inl rfl), setX_j, fun j hj => absurd hj (Nat.not_lt_zero j)⟩ (fun i q hi hP => by
    obtain ⟨τ, rfl, p1, p2, p3⟩ := hP
    dsimp only
    unfold f_X1_wantWorks_L7 f_X1_wantWorks_55
    rcases (show i = 6 ∨ i < 6 by omega) with e | e
    · left
      subst e
      rw [if_pos (by decide)]
      exact ⟨_, rfl, p1, p2, p3⟩
    · right
      refine ⟨e, ?_⟩
      have hm := popK_le S i
      have hR1 := p1.kx.ref hR
      rw [if_neg (show ¬ (6 : Int32) ≤ nI i from nI_ge (b := 6) e (by decide)), d_gi, p2, if_neg (show ¬ (6 : Int32) ≤ nI (popK S i) from nI_ge (b := 6) (by omega) (by decide)), d_rf 9 hR1 (by omega), d_gi, p2, d_rf 5 hR1 (by omega), d6_ai (Or.inl rfl) e, p1.1 197 (by decide) (by decide) (by decide), hnd i e, d6_si (Or.inr (Or.inr rfl)) (by omega), d_gi, setX_o (by decide), p2, nI_1, d_pi, nI_1]
      simp only [bit0 (show S < 2 ^ 31 by omega) (show i < 32 by omega)]
      by_cases b : S.testBit i = true
      · rw [if_neg (fun z => z b)]
        refine ⟨_, rfl, _, rfl, (p1.tr (KD_set (Or.inr (Or.inl rfl)))).tr (KD_set (Or.inl rfl)), ?_, fun j hj => ?_⟩
        · rw [setX_j, popK_t b]
        · rw [popK_t b] at hj
          rw [setX_o (by decide), whE]
          rcases (show j = popK S i ∨ j < popK S i by omega) with y | y
          · rw [y, ci_t ⟨b, rfl⟩]; exact setX_j
          · rw [ci_f (fun z => by omega)]
            exact (setX_n (by omega)).trans (p3 j y)
      · rw [if_pos b]
        refine ⟨_, rfl, _, rfl, p1, by rw [popK_n b]; exact p2, fun j hj => ?_⟩
        rw [popK_n b] at hj
        rw [whE, ci_f (fun z => b z.1)]
        exact p3 j hj)
  obtain ⟨τ, e1, e2⟩ := key
  refine ⟨τ, ?_, e2⟩
  unfold f_X1_wantWorks
  rw [d_pi, bo_of e1]
theorem dg_b {nd : Nat → Nat} {k x s : Nat} (hk : k ≤ 6) (hn : ∀ a, a < k → 1 ≤ nd a ∧ nd a ≤ 64) (hx : x ≤ 384) : dg nd k x s ≤ 384 := by
  unfold dg
  by_cases c : x / 64 < k
  · have := hn _ c
    rw [if_pos c]
    by_cases d : x % 64 + s < nd (x / 64)
    · rw [if_pos d]; omega
    · rw [if_neg d]; omega
  · rw [if_neg c]; exact hx
theorem x_digOn (hR : RefX σ) {k x s : Nat} (hk : k ≤ 6) (h10 : σ.1 194 10 = nI k) (hnd : ∀ i, i < k → σ.1 201 i = nI (nd i)) (hn : ∀ a, a < k → 1 ≤ nd a ∧ nd a ≤ 64) (hx : x ≤ 384) (hs : s ≤ 9) : f_X1_digOn 194 (nI x) (nI s) σ = some (nI (dg nd k x s)) := by
  unfold f_X1_digOn dg
  rw [show (64 : Int32) = nI 64 from rfl, pk_rem (by omega) (by decide) (by decide), pk_div (by omega) (by decide) (by decide), if_neg (nI_pos (by omega)), d_gi, h10, bo_s, nI_add, d_rf 9 hR (by omega)]
  by_cases c : x / 64 < k
  · have hb := hn _ c
    rw [ite_le_f (by omega) c, if_pos c, if_pos (show nI (x / 64) < (6 : Int32) from nI_lt (b := 6) (by omega) (by decide)), d6_ai (Or.inr (Or.inr rfl)) (by omega), hnd _ c, pk_mul, nI_add, nI_1, pk_mul]
    by_cases d : x % 64 + s < nd (x / 64)
    · rw [if_pos (nI_lt d (by omega)), if_pos d]
    · rw [if_neg (Int32.not_lt.mpr (nI_le (by omega) (by omega))), if_neg d]
  · rw [ite_le_t (by omega) (by omega), if_neg c]
/-- the least many of which it holds -/
def mnP (P : Nat → Prop) (i : Nat) (x : Int32) : Prop := (x = -1 ∧ ∀ T, 0 < T → T < i → ¬ P T) ∨ ∃ T, 0 < T ∧ T < i ∧ P T ∧ x = nI (popc T) ∧ ∀ T', 0 < T' → T' < i → P T' → popc T ≤ popc T'
theorem x_few (h : CV σ v A F W) {S : Nat} (hS : S < 64) (hnd : ∀ w, w < 6 → σ.1 197 w = nI (nd w)) (hn : ∀ w, S.testBit w = true → 1 ≤ nd w ∧ nd w ≤ 64) : ∃ x τ, f_X1_fewestHands 194 (some v) (nI S) σ = some (x, τ) ∧ KD σ τ ∧ ((S = 0 ∧ x = 0) ∨ (¬ S = 0 ∧ mnP (fun T => DS (stN A) nd F S 6 T) (2 ^ F) x)) := by
  have hF := h.F10
  have hp := pw_le hF
  have hvw := h.vw
  obtain ⟨τ, w1, w2, w3, w4⟩ := x_want h.2.1 hS hnd
  have hk6 : popK S 6 ≤ 6 := popK_le S 6
  have hC := w2.kx.cv h
  unfold f_X1_fewestHands
  rw [bo_of x_rcd, bd_of w1, d_gi, w3]
  by_cases c0 : S = 0
  · have : popK S 6 = 0 := by rw [c0]; rfl
    rw [ite_z_t this]
    exact ⟨_, _, rfl, w2, Or.inl ⟨c0, rfl⟩⟩
  · have hkp : ¬ popK S 6 = 0 := by
      obtain ⟨i, hi⟩ := ne_bit c0
      have := popK_up 6 i (tb_lt (p := 6) hS hi) hi
      omega
    have hn' : ∀ a, a < popK S 6 → 1 ≤ nd (whE S 6 a) ∧ nd (whE S 6 a) ≤ 64 := fun a ha => hn _ (whE_P 6 a ha).1
    rw [ite_z_f (by omega) hkp, bo_of (xfolk hC), d_rf11 hC.2.1, show (0 : Int32) = nI 0 from rfl, d2_si (by decide), shl1 (by omega)]
    obtain ⟨s0, hs0⟩ : ∃ s, s = setX τ 202 0 (nI 0) := ⟨_, rfl⟩
    have k0 : KD σ s0 := by rw [hs0]; exact w2.tr (KD_set (Or.inr (Or.inr rfl)))
    rw [← hs0]
    have e10 : s0.1 194 10 = nI (popK S 6) := by rw [hs0, setX_o (by decide)]; exact w3
    have e201 : ∀ i, i < popK S 6 → s0.1 201 i = nI (nd (whE S 6 i)) := fun i hi => by rw [hs0, setX_o (by decide)]; exact w4 i hi
    have key := iter_w (f := fun q : Int32 × Int32 × Dt => f_X1_fewestHands_L34 194 (some v) (nI (2 ^ F)) q.1 q.2.1 q.2.2) (s0 := ((-1 : Int32), (1 : Int32), s0)) (P := fun j q => ∃ (x : Int32) (ρ : Dt) (R : Nat → Nat), q = (x, nI (j + 1), ρ) ∧ KD σ ρ ∧ ρ.1 194 10 = nI (popK S 6) ∧ (∀ i, i < popK S 6 → ρ.1 201 i = nI (nd (whE S 6 i))) ∧ R 0 = 0 ∧ (∀ T, T < j + 1 → ρ.1 202 T = nI (R T) ∧ R T ≤ 384) ∧ (∀ T, 0 < T → T < j + 1 → (R T = 0 ∨ ∃ f, f < F ∧ T.testBit f = true ∧ R T = dg (fun i => nd (whE S 6 i)) (popK S 6) (R (nsub T (2 ^ f))) (stN A f)) ∧ ∀ f, f < F → T.testBit f = true → dg (fun i => nd (whE S 6 i)) (popK S 6) (R (nsub T (2 ^ f))) (stN A f) ≤ R T) ∧ mnP (fun T => 64 * popK S 6 ≤ R T) (j + 1) x) (Q := fun r => KD σ r.2 ∧ mnP (fun T => DS (stN A) nd F S 6 T) (2 ^ F) r.1) (2 ^ F - 1) (by omega) ⟨-1, s0, fun _ => 0, rfl, k0, e10, e201, rfl, fun T hT => ?_, fun T h1 h2 => by omega, Or.inl ⟨rfl, fun T h1 h2 => by omega⟩⟩ (fun j q hj hP => ?_)
    · obtain ⟨r, e1, e2, e3⟩ := key
      rw [bo_of (show iter FU (fun q => f_X1_fewestHands_L34 194 (some v) (nI (2 ^ F)) q.1 q.2.1 q.2.2) ((-1 : Int32), (1 : Int32), s0) = _ from e1)]
      exact ⟨_, _, rfl, e2, Or.inr ⟨c0, e3⟩⟩
    · have : T = 0 := by omega
      subst this
      exact ⟨by rw [hs0, setX_j], Nat.zero_le 384⟩
    · obtain ⟨x, ρ, R, rfl, p1, p2, p3, p4, p5, p6, p7⟩ := hP
      dsimp only
      have hCr := p1.kx.cv h
      have hpos := Nat.two_pow_pos F
      unfold f_X1_fewestHands_L34 f_X1_fewestHands_119 f_X1_fewestHands_158 f_X1_fewestHands_161
      rcases (show j + 1 = 2 ^ F ∨ j + 1 < 2 ^ F by omega) with e | e
      · left
        rw [e, if_pos (nI_le (Nat.le_refl _) (by omega))]
        rw [e] at p5 p6 p7
        refine ⟨_, rfl, p1, ?_⟩
        have hiff : ∀ T, T < 2 ^ F → (64 * popK S 6 ≤ R T ↔ DS (stN A) nd F S 6 T) := fun T hT => (dig_iff hn' p4 (fun T h1 h2 => (p6 T h1 h2).1) (fun T f h1 h2 h3 h4 => (p6 T h1 h2).2 f h3 h4) hT).trans (DS_Dk 6 T).symm
        rcases p7 with ⟨y1, y2⟩ | ⟨T, t1, t2, t3, t4, t5⟩
        · exact Or.inl ⟨y1, fun T h1 h2 z => y2 T h1 h2 ((hiff T h2).mpr z)⟩
        · exact Or.inr ⟨T, t1, t2, (hiff T t2).mp t3, t4, fun T' h1 h2 z => t5 T' h1 h2 ((hiff T' h2).mpr z)⟩
      · right
        refine ⟨by omega, ?_⟩
        rw [ite_le_f (by omega) e, if_neg (show ¬ (1024 : Int32) ≤ nI (j + 1) from nI_ge (b := 1024) (by omega) (by decide))]
        have hin := iter_w (f := fun q : Int32 × Int32 => f_X1_fewestHands_L55 194 (some v) x (nI (2 ^ F)) (nI (j + 1)) q.1 q.2 ρ) (s0 := ((0 : Int32), (0 : Int32))) (P := fun i q => ∃ b, q = (nI b, nI i) ∧ b ≤ 384 ∧ (b = 0 ∨ ∃ f, f < F ∧ (j + 1).testBit f = true ∧ b = dg (fun i => nd (whE S 6 i)) (popK S 6) (R (nsub (j + 1) (2 ^ f))) (stN A f)) ∧ ∀ f, f < i → (j + 1).testBit f = true → dg (fun i => nd (whE S 6 i)) (popK S 6) (R (nsub (j + 1) (2 ^ f))) (stN A f) ≤ b) (Q := fun r => ∃ b, r = nI b ∧ b ≤ 384 ∧ (b = 0 ∨ ∃ f, f < F ∧ (j + 1).testBit f = true ∧ b = dg (fun i => nd (whE S 6 i)) (popK S 6) (R (nsub (j + 1) (2 ^ f))) (stN A f)) ∧ ∀ f, f < F → (j + 1).testBit f = true → dg (fun i => nd (whE S 6 i)) (popK S 6) (R (nsub (j + 1) (2 ^ f))) (stN A f) ≤ b) F (by omega) ⟨0, rfl, by omega, Or.inl rfl, fun f hf => absurd hf (Nat.not_lt_zero f)⟩ (fun i q hi hP => by
          obtain ⟨b, rfl, b1, b2, b3⟩ := hP
          dsimp only
          unfold f_X1_fewestHands_L55 f_X1_fewestHands_113
          rw [bo_of (xfolk hCr)]
          rcases (show i = F ∨ i < F by omega) with e | e
          · left
            subst e
            rw [if_pos (nI_le (Nat.le_refl _) (by omega))]
            exact ⟨_, rfl, b, rfl, b1, b2, b3⟩
          · right
            refine ⟨e, ?_⟩
            rw [ite_le_f (by omega) e, if_neg (show ¬ (10 : Int32) ≤ nI i from nI_ge (b := 10) (by omega) (by decide)), nI_1]
            simp only [bit0 (show j + 1 < 2 ^ 31 by omega) (show i < 32 by omega)]
            by_cases c : (j + 1).testBit i = true
            · have hlt := nsub_lt c
              have hst := (hvw.fk (show i < 10 by omega)).2.1.2
              obtain ⟨r1, r2⟩ := p5 (nsub (j + 1) (2 ^ i)) (by omega)
              have hdb := dg_b (s := stN A i) hk6 hn' r2
              rw [if_neg (fun z => z c), d_rf11 hCr.2.1, shl1 (by omega), nI_andx, d2_ai (by omega), r1, bo_of (xstrs hCr), bo_of (xst hCr (by omega)), bo_of x_rcd, bo_of (x_digOn hCr.2.1 hk6 p2 p3 hn' r2 hst), mmax_nI (by omega) (by omega)]
              by_cases d : dg (fun i => nd (whE S 6 i)) (popK S 6) (R (nsub (j + 1) (2 ^ i))) (stN A i) ≤ b
              · rw [if_pos d]
                refine ⟨_, rfl, b, rfl, b1, b2, fun f hf hb => ?_⟩
                rcases (show f = i ∨ f < i by omega) with y | y
                · rw [y]; exact d
                · exact b3 f y hb
              · rw [if_neg d]
                refine ⟨_, rfl, _, rfl, hdb, Or.inr ⟨i, e, c, rfl⟩, fun f hf hb => ?_⟩
                rcases (show f = i ∨ f < i by omega) with y | y
                · rw [y]; exact Nat.le_refl _
                · have := b3 f y hb; omega
            · rw [if_pos c]
              refine ⟨_, rfl, b, rfl, b1, b2, fun f hf hb => ?_⟩
              rcases (show f = i ∨ f < i by omega) with y | y
              · rw [y] at hb; exact absurd hb c
              · exact b3 f y hb)
        obtain ⟨r, i1, b, rfl, i2, i3, i4⟩ := hin
        rw [bo_of i1, d_rf11 hCr.2.1, d2_si (by omega)]
        obtain ⟨ρ', hρ'⟩ : ∃ s, s = setX ρ 202 (j + 1) (nI b) := ⟨_, rfl⟩
        have k1 : KD σ ρ' := by rw [hρ']; exact p1.tr (KD_set (Or.inr (Or.inr rfl)))
        have f10 : ρ'.1 194 10 = nI (popK S 6) := by rw [hρ', setX_o (by decide)]; exact p2
        have f201 : ∀ i, i < popK S 6 → ρ'.1 201 i = nI (nd (whE S 6 i)) := fun i hi => by rw [hρ', setX_o (by decide)]; exact p3 i hi
        rw [← hρ', bo_of (xbits (by omega) _), d_gi, f10, show (64 : Int32) = nI 64 from rfl, pk_mul, nI_1]
        -- what is known of the table one step on
        have R0 : (fun T => if T = j + 1 then b else R T) 0 = 0 := by
          show (if 0 = j + 1 then b else R 0) = 0
          rw [if_neg (by omega), p4]
        have Rn : ∀ T, T < j + 1 → (if T = j + 1 then b else R T) = R T := fun T hT => if_neg (by omega)
        have R5 : ∀ T, T < j + 1 + 1 → ρ'.1 202 T = nI (if T = j + 1 then b else R T) ∧ (if T = j + 1 then b else R T) ≤ 384 := by
          intro T hT
          rcases (show T = j + 1 ∨ T < j + 1 by omega) with y | y
          · rw [y, if_pos rfl, hρ', setX_j]; exact ⟨rfl, i2⟩
          · rw [Rn T y, hρ', setX_n (by omega)]; exact p5 T y
        have R6 : ∀ T, 0 < T → T < j + 1 + 1 → ((if T = j + 1 then b else R T) = 0 ∨ ∃ f, f < F ∧ T.testBit f = true ∧ (if T = j + 1 then b else R T) = dg (fun i => nd (whE S 6 i)) (popK S 6) (if nsub T (2 ^ f) = j + 1 then b else R (nsub T (2 ^ f))) (stN A f)) ∧ ∀ f, f < F → T.testBit f = true → dg (fun i => nd (whE S 6 i)) (popK S 6) (if nsub T (2 ^ f) = j + 1 then b else R (nsub T (2 ^ f))) (stN A f) ≤ (if T = j + 1 then b else R T) := by
          intro T h1 h2
          have hsm : ∀ f, T.testBit f = true → (if nsub T (2 ^ f) = j + 1 then b else R (nsub T (2 ^ f))) = R (nsub T (2 ^ f)) := fun f hf => by
            have := nsub_lt hf
            exact if_neg (by omega)
          rcases (show T = j + 1 ∨ T < j + 1 by omega) with y | y
          · rw [if_pos y]
            subst y
            refine ⟨?_, fun f hf hb => ?_⟩
            · rcases i3 with z | ⟨f, z1, z2, z3⟩
              · exact Or.inl z
              · exact Or.inr ⟨f, z1, z2, by rw [hsm f z2]; exact z3⟩
            · rw [hsm f hb]; exact i4 f hf hb
          · rw [Rn T y]
            obtain ⟨u1, u2⟩ := p6 T h1 y
            refine ⟨?_, fun f hf hb => ?_⟩
            · rcases u1 with z | ⟨f, z1, z2, z3⟩
              · exact Or.inl z
              · exact Or.inr ⟨f, z1, z2, by rw [hsm f z2]; exact z3⟩
            · rw [hsm f hb]; exact u2 f hf hb
        have hfin : ∀ x', mnP (fun T => 64 * popK S 6 ≤ (if T = j + 1 then b else R T)) (j + 1 + 1) x' → ∃ s', some (Sum.inl (x', nI (j + 1 + 1), ρ')) = (some (Sum.inl s') : Option ((Int32 × Int32 × Dt) ⊕ (Int32 × Dt))) ∧ ∃ (x : Int32) (ρ : Dt) (R : Nat → Nat), s' = (x, nI (j + 1 + 1), ρ) ∧ KD σ ρ ∧ ρ.1 194 10 = nI (popK S 6) ∧ (∀ i, i < popK S 6 → ρ.1 201 i = nI (nd (whE S 6 i))) ∧ R 0 = 0 ∧ (∀ T, T < j + 1 + 1 → ρ.1 202 T = nI (R T) ∧ R T ≤ 384) ∧ (∀ T, 0 < T → T < j + 1 + 1 → (R T = 0 ∨ ∃ f, f < F ∧ T.testBit f = true ∧ R T = dg (fun i => nd (whE S 6 i)) (popK S 6) (R (nsub T (2 ^ f))) (stN A f)) ∧ ∀ f, f < F → T.testBit f = true → dg (fun i => nd (whE S 6 i)) (popK S 6) (R (nsub T (2 ^ f))) (stN A f) ≤ R T) ∧ mnP (fun T => 64 * popK S 6 ≤ R T) (j + 1 + 1) x := fun x' hx' => ⟨_, rfl, x', ρ', fun T => if T = j + 1 then b else R T, rfl, k1, f10, f201, R0, R5, R6, hx'⟩
        have keep : (¬ 64 * popK S 6 ≤ b ∨ ∃ T, 0 < T ∧ T < j + 1 ∧ 64 * popK S 6 ≤ R T ∧ x = nI (popc T) ∧ popc T ≤ popc (j + 1)) → mnP (fun T => 64 * popK S 6 ≤ (if T = j + 1 then b else R T)) (j + 1 + 1) x := by
          intro hk
          rcases p7 with ⟨y1, y2⟩ | ⟨T, t1, t2, t3, t4, t5⟩
          · rcases hk with hk | ⟨T, t1, t2, t3, -⟩
            · refine Or.inl ⟨y1, fun T h1 h2 z => ?_⟩
              have z : 64 * popK S 6 ≤ (if T = j + 1 then b else R T) := z
              rcases (show T = j + 1 ∨ T < j + 1 by omega) with y | y
              · rw [if_pos y] at z; exact hk z
              · rw [Rn T y] at z; exact y2 T h1 y z
            · exact absurd t3 (y2 T t1 t2)
          · refine Or.inr ⟨T, t1, by omega, by show 64 * popK S 6 ≤ (if T = j + 1 then b else R T); rw [Rn T t2]; exact t3, t4, fun T' h1 h2 z => ?_⟩
            have z : 64 * popK S 6 ≤ (if T' = j + 1 then b else R T') := z
            rcases (show T' = j + 1 ∨ T' < j + 1 by omega) with y | y
            · rw [if_pos y] at z
              rcases hk with hk | ⟨T2, q1, q2, q3, q4, q5⟩
              · exact absurd z hk
              · have := t5 T2 q1 q2 q3
                rw [y]; omega
            · rw [Rn T' y] at z; exact t5 T' h1 y z
        have take : 64 * popK S 6 ≤ b → (∀ T', 0 < T' → T' < j + 1 → 64 * popK S 6 ≤ R T' → popc (j + 1) ≤ popc T') → mnP (fun T => 64 * popK S 6 ≤ (if T = j + 1 then b else R T)) (j + 1 + 1) (nI (popc (j + 1))) := by
          intro hb hl
          refine Or.inr ⟨j + 1, by omega, by omega, by show 64 * popK S 6 ≤ (if j + 1 = j + 1 then b else R (j + 1)); rw [if_pos rfl]; exact hb, rfl, fun T' h1 h2 z => ?_⟩
          have z : 64 * popK S 6 ≤ (if T' = j + 1 then b else R T') := z
          rcases (show T' = j + 1 ∨ T' < j + 1 by omega) with y | y
          · rw [y]; exact Nat.le_refl _
          · rw [Rn T' y] at z; exact hl T' h1 y z
        by_cases c1 : 64 * popK S 6 ≤ b
        · rw [if_neg (Int32.not_lt.mpr (nI_le (by omega) (by omega)))]
          rcases p7 with ⟨y1, y2⟩ | ⟨T, t1, t2, t3, t4, t5⟩
          · rw [if_pos y1]
            exact hfin _ (take c1 (fun T' h1 h2 z => absurd z (y2 T' h1 h2)))
          · have b1 := popc_le T
            have b2 := popc_le (j + 1)
            rw [t4, if_neg (nI_m1 (by omega))]
            by_cases c2 : popc T ≤ popc (j + 1)
            · rw [ite_le_t (by omega) c2, ← t4]
              exact hfin _ (keep (Or.inr ⟨T, t1, t2, t3, t4, c2⟩))
            · rw [ite_le_f (by omega) (by omega)]
              exact hfin _ (take c1 (fun T' h1 h2 z => by have := t5 T' h1 h2 z; omega))
        · rw [if_pos (nI_lt (by omega) (by omega))]
          exact hfin _ (keep (Or.inl c1))
end FEW
