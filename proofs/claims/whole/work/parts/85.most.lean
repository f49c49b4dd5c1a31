/-! ===== most ===== -/
theorem nar01 (p : Prop) : vp_nar .boolean (bI p) = bI p := by
  by_cases c : p
  · rw [bI_t c]; rfl
  · rw [bI_f c]; rfl
theorem mr25 {β : Type} {σ : Dt} {k : Option Nat → Option β} (hR : RefM σ) : bo (xgr SM 12 25 (some 0) σ) k = k (some 14) := bo_of (m_r hR (by decide) rfl)
theorem mak {β : Type} {i : Nat} {σ : Dt} {k : Int32 → Option β} (hi : i < 64) : bo (xaz SM (some 14) (nI i) σ) k = k (σ.1 14 i) := bo_of (xaz_of (by decide) (by decide) (show i < SM.2.2 14 from hi) (by decide))
theorem msk {β : Type} {i : Nat} {p : Prop} {σ : Dt} {k : Dt → Option β} (hi : i < 64) : bo (xsz SM (some 14) (nI i) (bI p) σ) k = k (setX σ 14 i (bI p)) := bo_of (by rw [xsz_of (by decide) (by decide) (show i < SM.2.2 14 from hi) (by decide), nar01]; rfl)
section MST
variable {K : Nat → Nat}
theorem Mt_f {s f : Nat} : Mt K s (2 ^ (f + 1) - 1) ↔ Mt K s (2 ^ f - 1) ∨ ∃ w, w < 6 ∧ s.testBit w = true ∧ (K w).testBit f = true ∧ Mt K (nsub s (2 ^ w)) (2 ^ f - 1) := by
  have tb : ∀ n i, (2 ^ n - 1).testBit i = true ↔ i < n := fun n i => by rw [Nat.testBit_two_pow_sub_one]; simp
  constructor
  · rintro ⟨g, g1, g2⟩
    by_cases c : ∃ w, w < 6 ∧ s.testBit w = true ∧ g w = f
    · obtain ⟨w, w1, w2, w3⟩ := c
      have q := g1 w w1 w2
      rw [w3] at q
      refine Or.inr ⟨w, w1, w2, q.1, g, fun x hx z => ?_, fun x x' hx hx' z z' => g2 x x' hx hx' (sub_tb.mp z).1 (sub_tb.mp z').1⟩
      obtain ⟨z1, z2⟩ := sub_tb.mp z
      have q2 := g1 x hx z1
      refine ⟨q2.1, (tb f _).mpr ?_⟩
      have q3 := (tb (f + 1) _).mp q2.2
      rcases (show g x = f ∨ g x < f by omega) with y | y
      · have := g2 w x w1 hx w2 z1 (w3.trans y.symm)
        exact absurd (pow_tb.mpr this) z2
      · exact y
    · refine Or.inl ⟨g, fun x hx z => ?_, g2⟩
      have q2 := g1 x hx z
      refine ⟨q2.1, (tb f _).mpr ?_⟩
      have q3 := (tb (f + 1) _).mp q2.2
      rcases (show g x = f ∨ g x < f by omega) with y | y
      · exact absurd ⟨x, hx, z, y⟩ c
      · exact y
  · rintro (h | ⟨w, w1, w2, w3, g, g1, g2⟩)
    · exact Mt_sub h (fun _ z => z) (fun _ i _ _ _ z => (tb (f + 1) i).mpr (by have := (tb f i).mp z; omega))
    · have ne : ∀ y, y < 6 → s.testBit y = true → ¬ y = w → (K y).testBit (g y) = true ∧ g y < f := fun y hy z q => by
        have := g1 y hy (sub_tb.mpr ⟨z, fun e => q (pow_tb.mp e).symm⟩)
        exact ⟨this.1, (tb f _).mp this.2⟩
      refine ⟨fun x => if x = w then f else g x, fun x hx z => ?_, fun x x' hx hx' z z' e => ?_⟩
      · dsimp only
        by_cases q : x = w
        · rw [if_pos q, q]; exact ⟨w3, (tb (f + 1) f).mpr (by omega)⟩
        · rw [if_neg q]
          have := ne x hx z q
          exact ⟨this.1, (tb (f + 1) _).mpr (by omega)⟩
      · dsimp only at e
        by_cases q : x = w
        · by_cases q' : x' = w
          · rw [q, q']
          · rw [if_pos q, if_neg q'] at e
            have := ne x' hx' z' q'
            omega
        · by_cases q' : x' = w
          · rw [if_neg q, if_pos q'] at e
            have := ne x hx z q
            omega
          · rw [if_neg q, if_neg q'] at e
            exact g2 x x' hx hx' (sub_tb.mpr ⟨z, fun y => q (pow_tb.mp y).symm⟩) (sub_tb.mpr ⟨z', fun y => q' (pow_tb.mp y).symm⟩) e
/-- some of the first works speak through f -/
def Wf (K : Nat → Nat) (s f n : Nat) : Prop := ∃ w, w < n ∧ s.testBit w = true ∧ (K w).testBit f = true ∧ Mt K (nsub s (2 ^ w)) (2 ^ f - 1)
theorem Wf_s {s f n : Nat} : Wf K s f (n + 1) ↔ Wf K s f n ∨ (s.testBit n = true ∧ (K n).testBit f = true ∧ Mt K (nsub s (2 ^ n)) (2 ^ f - 1)) := by
  constructor
  · rintro ⟨w, w1, w2⟩
    rcases (show w = n ∨ w < n by omega) with e | e
    · rw [e] at w2; exact Or.inr w2
    · exact Or.inl ⟨w, e, w2⟩
  · rintro (⟨w, w1, w2⟩ | h)
    · exact ⟨w, by omega, w2⟩
    · exact ⟨n, by omega, h⟩
end MST
section MSR
variable {σ : Dt} {o F W : Nat} {A : Nat → Int32} {n : Int32}
theorem kp_W {A : Nat → Int32} {F W : Nat} {n : Int32} {w : Nat} (h : W ≤ w) : kpN A F W n w = 0 := by
  apply Nat.eq_of_testBit_eq
  intro i
  rw [Nat.zero_testBit]
  cases e : (kpN A F W n w).testBit i
  · rfl
  · have := (kpN_tb.mp e).2.1; omega
theorem nsub_lt {s w : Nat} (h : s.testBit w = true) : nsub s (2 ^ w) < s := by
  have h1 := nsub_le s (2 ^ w)
  rcases (show nsub s (2 ^ w) = s ∨ nsub s (2 ^ w) < s by omega) with e | e
  · exfalso
    have : (nsub s (2 ^ w)).testBit w = true := by rw [e]; exact h
    exact (sub_tb.mp this).2 (pow_tb.mpr rfl)
  · exact e
theorem m_kept (h : MV σ o A F W) : ∃ τ, f_X12_laysKept 0 n σ = some ((), τ) ∧ KM σ τ ∧ ∀ s, s < 64 → τ.1 14 s = bI (Mt (kpN A F W n) s 1023) := by
  have hF := h.F10
  have hW := h.W6
  unfold f_X12_laysKept
  have key := iter_w (f := fun q : Int32 × Dt => f_X12_laysKept_L2 0 n q.1 q.2) (s0 := ((0 : Int32), σ)) (P := fun i q => q.1 = nI i ∧ KM σ q.2 ∧ ∀ s, s < i → q.2.1 14 s = bI (s = 0)) (Q := fun ρ => KM σ ρ ∧ ∀ s, s < 64 → ρ.1 14 s = bI (s = 0)) 64 (by decide) ⟨rfl, KM_0 _, fun j hj => absurd hj (Nat.not_lt_zero j)⟩ (fun i q hi hP => ?_)
  · obtain ⟨ρ, e1, e2, e3⟩ := key
    have hz : ∀ s, s < 64 → (s = 0 ↔ Mt (kpN A F W n) s (2 ^ 0 - 1)) := fun s hs => by
      constructor
      · rintro rfl
        exact Mt_0 (fun w _ z => by rw [Nat.zero_testBit] at z; cases z)
      · rintro ⟨g, g1, -⟩
        apply Nat.eq_of_testBit_eq
        intro i
        rw [Nat.zero_testBit]
        cases e : s.testBit i
        · rfl
        · have := (g1 i (s6 hs e) e).2
          rw [show (2 ^ 0 - 1 : Nat) = 0 from rfl, Nat.zero_testBit] at this
          cases this
    have key := iter_w (f := fun q : Int32 × Dt => f_X12_laysKept_L31 0 n q.1 q.2) (s0 := ((0 : Int32), ρ)) (P := fun f q => q.1 = nI f ∧ KM σ q.2 ∧ ∀ s, s < 64 → q.2.1 14 s = bI (Mt (kpN A F W n) s (2 ^ f - 1))) (Q := fun τ => KM σ τ ∧ ∀ s, s < 64 → τ.1 14 s = bI (Mt (kpN A F W n) s (2 ^ F - 1))) F (by omega) ⟨rfl, e2, fun s hs => by rw [e3 s hs]; exact congrArg bI (propext (hz s hs))⟩ (fun f q hf hP => ?_)
    · obtain ⟨τ, g1, g2, g3⟩ := key
      refine ⟨τ, by rw [bo_of e1, bo_of g1], g2, fun s hs => ?_⟩
      rw [g3 s hs]
      refine congrArg bI (propext ⟨fun z => Mt_sub z (fun _ y => y) (fun w i _ _ y _ => tb1023 (by have := (kpN_tb.mp y).1; omega)), fun z => Mt_sub z (fun _ y => y) (fun w i _ _ y _ => ?_)⟩)
      rw [Nat.testBit_two_pow_sub_one]
      exact decide_eq_true (kpN_tb.mp y).1
    · obtain ⟨x, τ⟩ := q
      obtain ⟨p1, p2, p3⟩ := hP
      dsimp only at p1 p2 p3 ⊢
      subst p1
      unfold f_X12_laysKept_L31
      rw [bo_of (mfolk (p2.mv h))]
      rcases (show f = F ∨ f < F by omega) with e | e
      · left
        subst e
        rw [if_pos (nI_le (Nat.le_refl _) (by omega))]
        exact ⟨_, rfl, p2, p3⟩
      · right
        refine ⟨e, ?_⟩
        rw [ite_le_f (by omega) e]
        -- sets from the last down
        have key := iter_w (f := fun q : Int32 × Dt => f_X12_laysKept_L42 0 n (nI f) q.1 q.2) (s0 := ((63 : Int32), τ)) (P := fun i q => q.1 = nI (63 - i) ∧ KM σ q.2 ∧ (∀ s, s < 64 → 63 - i < s → q.2.1 14 s = bI (Mt (kpN A F W n) s (2 ^ (f + 1) - 1))) ∧ ∀ s, s ≤ 63 - i → q.2.1 14 s = bI (Mt (kpN A F W n) s (2 ^ f - 1))) (Q := fun τ' => KM σ τ' ∧ (∀ s, s < 64 → 0 < s → τ'.1 14 s = bI (Mt (kpN A F W n) s (2 ^ (f + 1) - 1))) ∧ τ'.1 14 0 = bI (Mt (kpN A F W n) 0 (2 ^ f - 1))) 63 (by decide) ⟨rfl, p2, fun s h1 h2 => by omega, fun s hs => p3 s (by omega)⟩ (fun i q hi hP => ?_)
        · obtain ⟨τ', g1, g2, g3, g4⟩ := key
          rw [bo_of g1, nI_1]
          refine ⟨_, rfl, rfl, g2, fun s hs => ?_⟩
          show τ'.1 14 s = _
          rcases Nat.eq_zero_or_pos s with y | y
          · have m0 : ∀ u, Mt (kpN A F W n) 0 u := fun u => Mt_0 (fun w _ z => by rw [Nat.zero_testBit] at z; cases z)
            rw [y, g4, bI_t (m0 _), bI_t (m0 _)]
          · exact g3 s hs y
        · obtain ⟨x, ρ1⟩ := q
          obtain ⟨r1, r2, r3, r4⟩ := hP
          dsimp only at r1 r2 r3 r4 ⊢
          subst r1
          unfold f_X12_laysKept_L42
          rcases (show i = 63 ∨ i < 63 by omega) with rfl | e2
          · left
            rw [if_pos (by decide)]
            exact ⟨_, rfl, r2, fun s h1 h2 => r3 s h1 (by omega), r4 0 (by omega)⟩
          · right
            refine ⟨e2, ?_⟩
            have hs0 : 63 - i < 64 := by omega
            have hpos : 0 < 63 - i := by omega
            have edn : nI (63 - i) + (-1) = nI (63 - (i + 1)) := by rw [show 63 - i = (63 - (i + 1)) + 1 by omega, pk_m1]
            rw [if_neg (nI_nle hpos (by omega)), edn]
            have hi63 : ∀ s, s ≤ 63 - (i + 1) ↔ s < 63 - i := fun s => by omega
            have hgt : ∀ s, 63 - (i + 1) < s ↔ 63 - i ≤ s := fun s => by omega
            simp only [hi63, hgt]
            generalize 63 - i = s at *
            have key := iter_w (f := fun q : Int32 × Dt => f_X12_laysKept_L49 0 n (nI f) (nI s) q.1 q.2) (s0 := ((0 : Int32), ρ1)) (P := fun w q => q.1 = nI w ∧ KM σ q.2 ∧ (∀ t, t ≠ s → q.2.1 14 t = ρ1.1 14 t) ∧ q.2.1 14 s = bI (Mt (kpN A F W n) s (2 ^ f - 1) ∨ Wf (kpN A F W n) s f w)) (Q := fun q => KM σ q ∧ (∀ t, t ≠ s → q.1 14 t = ρ1.1 14 t) ∧ q.1 14 s = bI (Mt (kpN A F W n) s (2 ^ f - 1) ∨ Wf (kpN A F W n) s f W)) W (by omega) ⟨rfl, r2, fun _ _ => rfl, by
              show ρ1.1 14 s = _
              rw [r4 s (Nat.le_refl _)]
              exact congrArg bI (propext ⟨Or.inl, fun z => z.resolve_right (fun ⟨w, hw, _⟩ => absurd hw (Nat.not_lt_zero w))⟩)⟩ (fun w q hw hP => ?_)
            · obtain ⟨ρ2, g1, g2, g3, g4⟩ := key
              rw [bo_of g1]
              refine ⟨_, rfl, rfl, g2, fun t h1 h2 => ?_, fun t ht => ?_⟩
              · show ρ2.1 14 t = _
                rcases (show t = s ∨ s < t by omega) with y | y
                · rw [y, g4]
                  refine congrArg bI (propext ?_)
                  rw [Mt_f]
                  constructor
                  · rintro (z | ⟨w, w1, w2⟩)
                    · exact Or.inl z
                    · exact Or.inr ⟨w, by omega, w2⟩
                  · rintro (z | ⟨w, w1, w2, w3, w4⟩)
                    · exact Or.inl z
                    · exact Or.inr ⟨w, (kpN_tb.mp w3).2.1, w2, w3, w4⟩
                · rw [g3 t (by omega)]; exact r3 t h1 y
              · show ρ2.1 14 t = _
                rw [g3 t (by omega)]; exact r4 t (by omega)
            · obtain ⟨x, ρ2⟩ := q
              obtain ⟨u1, u2, u3, u4⟩ := hP
              dsimp only at u1 u2 u3 u4 ⊢
              subst u1
              have hM2 := u2.mv h
              unfold f_X12_laysKept_L49 f_X12_laysKept_112 f_X12_laysKept_108 f_X12_laysKept_113
              rw [bo_of (mworks hM2)]
              rcases (show w = W ∨ w < W by omega) with e3 | e3
              · left
                subst e3
                rw [if_pos (nI_le (Nat.le_refl _) (by omega))]
                exact ⟨_, rfl, u2, u3, u4⟩
              · right
                refine ⟨e3, ?_⟩
                have fin : ∀ p : Prop, (p ↔ (Mt (kpN A F W n) s (2 ^ f - 1) ∨ Wf (kpN A F W n) s f (w + 1))) → ∃ s', (bo (xsz SM (some 14) (nI s) (bI p) ρ2) fun σ1 => (some (Sum.inl (nI w + 1, σ1)) : Option ((Int32 × Dt) ⊕ Dt))) = some (Sum.inl s') ∧ s'.1 = nI (w + 1) ∧ KM σ s'.2 ∧ (∀ t, t ≠ s → s'.2.1 14 t = ρ1.1 14 t) ∧ s'.2.1 14 s = bI (Mt (kpN A F W n) s (2 ^ f - 1) ∨ Wf (kpN A F W n) s f (w + 1)) := by
                  intro p hp
                  rw [msk hs0, nI_1]
                  refine ⟨_, rfl, rfl, u2.tr (KM_set (by decide)), fun t ht => ?_, ?_⟩
                  · show (setX ρ2 14 s _).1 14 t = _
                    rw [setX_n ht]; exact u3 t ht
                  · show (setX ρ2 14 s _).1 14 s = _
                    rw [setX_j]; exact congrArg bI (propext hp)
                rw [ite_le_f (by omega) e3, mr25 hM2.1, mr25 hM2.1, mak hs0, u4, ite_b, bo_of (mamong (by omega) (by omega) _), ite_b]
                by_cases c1 : Mt (kpN A F W n) s (2 ^ f - 1) ∨ Wf (kpN A F W n) s f w
                · have hg := fin True ⟨fun _ => c1.elim Or.inl (fun z => Or.inr (Wf_s.mpr (Or.inl z))), fun _ => trivial⟩
                  rw [bI_t trivial] at hg
                  rw [ci_t c1]
                  exact hg
                · have hz := fun (z : ¬ (s.testBit w = true ∧ (kpN A F W n w).testBit f = true ∧ Mt (kpN A F W n) (nsub s (2 ^ w)) (2 ^ f - 1))) => fin False ⟨fun y => y.elim, fun y => by
                    rcases y with y | y
                    · exact c1 (Or.inl y)
                    · rcases Wf_s.mp y with y | y
                      · exact c1 (Or.inr y)
                      · exact z y⟩
                  rw [bI_f (fun y => y.elim)] at hz
                  rw [ci_f c1]
                  by_cases c2 : s.testBit w = true
                  · have hlt := nsub_lt c2
                    have hv : ρ2.1 14 (nsub s (2 ^ w)) = bI (Mt (kpN A F W n) (nsub s (2 ^ w)) (2 ^ f - 1)) := by
                      rw [u3 _ (by omega)]; exact r4 _ (by omega)
                    rw [ci_t c2, mr25 hM2.1, shl1 (by omega), nI_andx, mak (by omega), hv, ite_b, bo_of mrc, bo_of (m_keepsB hM2 (by omega) (by omega) n), ite_b]
                    by_cases c3 : Mt (kpN A F W n) (nsub s (2 ^ w)) (2 ^ f - 1)
                    · rw [ci_t c3]
                      by_cases c4 : kpA A F f w n
                      · have hg := fin True ⟨fun _ => Or.inr (Wf_s.mpr (Or.inr ⟨c2, kpN_tb.mpr ⟨e, e3, c4⟩, c3⟩)), fun _ => trivial⟩
                        rw [bI_t trivial] at hg
                        rw [ci_t c4]
                        exact hg
                      · rw [ci_f c4]
                        exact hz (fun y => c4 (kpN_tb.mp y.2.1).2.2)
                    · rw [ci_f c3]
                      exact hz (fun y => c3 y.2.2)
                  · rw [ci_f c2]
                    exact hz (fun y => c2 y.1)
  · obtain ⟨x, τ⟩ := q
    obtain ⟨p1, p2, p3⟩ := hP
    dsimp only at p1 p2 p3 ⊢
    subst p1
    unfold f_X12_laysKept_L2 f_X12_laysKept_22
    rcases (show i = 64 ∨ i < 64 by omega) with rfl | e
    · left
      rw [if_pos (by decide)]
      exact ⟨_, rfl, p2, p3⟩
    · right
      refine ⟨e, ?_⟩
      have fin : ∃ s', (bo (xsz SM (some 14) (nI i) (bI (i = 0)) τ) fun σ1 => (some (Sum.inl (nI i + 1, σ1)) : Option ((Int32 × Dt) ⊕ Dt))) = some (Sum.inl s') ∧ s'.1 = nI (i + 1) ∧ KM σ s'.2 ∧ ∀ s, s < i + 1 → s'.2.1 14 s = bI (s = 0) := by
        rw [msk e, nI_1]
        refine ⟨_, rfl, rfl, p2.tr (KM_set (by decide)), fun s hs => ?_⟩
        show (setX τ 14 i _).1 14 s = _
        rcases (show s = i ∨ s < i by omega) with y | y
        · rw [y, setX_j]
        · rw [setX_n (by omega)]; exact p3 s y
      rw [if_neg (show ¬ (64 : Int32) ≤ nI i from nI_ge (b := 64) e (by decide)), mr25 (p2.ref h.1)]
      by_cases c : i = 0
      · rw [bI_t c] at fin
        rw [ite_z_t c]
        exact fin
      · rw [bI_f c] at fin
        rw [ite_z_f (by omega) c]
        exact fin
end MSR
