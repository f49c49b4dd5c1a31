/-! ===== what is asked of the fits ===== -/
theorem addc {a d : Nat} : nI a + nI d = nI (a + d) := nI_add a d
section ASK
variable {σ : Dt} {P : Nat → Prop} {D dl : Nat → Nat} {W : Nat}
theorem GS.at (h : GS σ P D W dl 100) {k : Nat} (hk : k < mF P 100) : ∃ c, c < 100 ∧ P c ∧ mF P c = k ∧ σ.1 187 k = nI (c / 10) ∧ σ.1 188 k = nI (c % 10) ∧ σ.1 189 k = nI (D c) := by
  obtain ⟨c, c1, c2, c3⟩ := mF_on 100 k hk
  obtain ⟨q1, q2, q3⟩ := h.2.2.2 c c1 c2
  rw [c3] at q1 q2 q3
  exact ⟨c, c1, c2, c3, q1, q2, q3⟩
/-- the code that lies at k -/
def gE (σ : Dt) (k : Nat) : Nat := 10 * (σ.1 187 k).toNatClampNeg + (σ.1 188 k).toNatClampNeg
theorem gE_c (h : GS σ P D W dl 100) {c : Nat} (hc : c < 100) (hP : P c) : gE σ (mF P c) = c := by
  obtain ⟨q1, q2, -⟩ := h.2.2.2 c hc hP
  unfold gE
  rw [q1, q2, nI_clamp (by omega), nI_clamp (by omega)]
  omega
theorem gE_at (h : GS σ P D W dl 100) {k : Nat} (hk : k < mF P 100) : gE σ k < 100 ∧ P (gE σ k) ∧ σ.1 187 k = nI (gE σ k / 10) ∧ σ.1 188 k = nI (gE σ k % 10) ∧ σ.1 189 k = nI (D (gE σ k)) := by
  obtain ⟨c, c1, c2, c3, q1, q2, q3⟩ := h.at hk
  have e : gE σ k = c := by rw [← c3]; exact gE_c h c1 c2
  rw [e]
  exact ⟨c1, c2, q1, q2, q3⟩
theorem ff_gE {β : Type} (h : GS σ P D W dl 100) (g : Nat → β → β) (b0 : β) : fld (fun k a => g (gE σ k) a) b0 (mF P 100) = ff P g b0 100 := ff_en g b0 (gE σ) 100 (fun c hc hP => gE_c h hc hP)
def byG (f c a : Nat) : Nat := a + (if c / 10 = f then 1 else 0)
theorem byG_le (f : Nat) : ∀ m, ff P (byG f) 0 m ≤ mF P m ∧ (ff P (byG f) 0 m = mF P m ↔ ∀ c, c < m → P c → c / 10 = f)
  | 0 => ⟨Nat.le_refl _, fun _ c hc => absurd hc (Nat.not_lt_zero c), fun _ => rfl⟩
  | m + 1 => by
    obtain ⟨h1, h2⟩ := byG_le f m
    by_cases c : P m
    · rw [ff_s, ci_t c, mF_t c]
      unfold byG at *
      by_cases e : m / 10 = f
      · rw [if_pos e]
        refine ⟨by omega, fun z c' hc' hP => ?_, fun z => ?_⟩
        · rcases (show c' = m ∨ c' < m by omega) with q | q
          · rw [q]; exact e
          · exact h2.mp (by omega) c' q hP
        · have := h2.mpr (fun c' hc' hP => z c' (by omega) hP)
          omega
      · rw [if_neg e]
        exact ⟨by omega, fun z => by omega, fun z => absurd (z m (by omega) c) e⟩
    · rw [ff_s, ci_f c, mF_f c]
      refine ⟨h1, fun z c' hc' hP => ?_, fun z => h2.mpr (fun c' hc' hP => z c' (by omega) hP)⟩
      rcases (show c' = m ∨ c' < m by omega) with q | q
      · rw [q] at hP; exact absurd hP c
      · exact h2.mp z c' q hP
theorem x_manyBy (hR : RefX σ) (h : GS σ P D W dl 100) (h60 : mF P 100 ≤ 60) {f : Nat} (hf : f < 2 ^ 31) : f_X2_manyBy 186 (nI f) σ = some (nI (ff P (byG f) 0 100)) := by
  unfold f_X2_manyBy
  have key := iter_n (f := fun s : Int32 × Int32 => f_X2_manyBy_L4 186 (nI f) s.1 s.2 σ) (st := fun i => (nI (fld (fun k a => byG f (gE σ k) a) 0 i), nI i)) (x := nI (fld (fun k a => byG f (gE σ k) a) 0 (mF P 100))) (mF P 100) (by omega) (fun i hi => ?_) ?_
  · rw [ff_gE h] at key
    exact bo_of key
  · dsimp only
    obtain ⟨g1, -, g3, -⟩ := gE_at h hi
    unfold f_X2_manyBy_L4 f_X2_manyBy_31
    rw [ggi, h.1, ite_le_f (by omega) hi, if_neg (show ¬ (60 : Int32) ≤ nI i from nI_ge (b := 60) (by omega) (by decide)), xg3 hR, gai (d := 0) (by decide) (by omega), g3, nI_1, nI_1]
    show _ = some (Sum.inl (nI (byG f (gE σ i) (fld (fun k a => byG f (gE σ k) a) 0 i)), nI (i + 1)))
    unfold byG
    by_cases c : gE σ i / 10 = f
    · rw [ite_eq_t c, if_pos c]
    · rw [ite_eq_f (by omega) hf c, if_neg c]
      rfl
  · dsimp only
    unfold f_X2_manyBy_L4
    rw [ggi, h.1, if_pos (nI_le (Nat.le_refl _) (by omega))]
theorem x_has2 (h : GS σ P D W dl 100) (h60 : mF P 100 ≤ 60) (x : Int32) : f_X2_has 186 x σ = some (bI (inR x (mF P 100))) := by
  apply bI_of
  have q := inR_iff2 (x := x) (n := mF P 100) (by omega)
  unfold f_X2_has f_X2_has_22
  constructor
  · intro z
    obtain ⟨q1, q2⟩ := q.mp z
    rw [if_neg q1, ggi, h.1, if_neg q2, if_neg]
    obtain ⟨j, hj, rfl⟩ := z
    exact fun c => absurd ((nI_leI (a := 60) (by decide) (by omega)).mp c) (by omega)
  · intro z
    by_cases c1 : x < 0
    · rw [if_pos c1]
    · rw [if_neg c1, ggi, h.1, if_pos]
      exact Classical.not_not.mp (fun c2 => z (q.mpr ⟨c1, c2⟩))
/-- whose they all are -/
theorem x_sure (hR : RefX σ) (h : GS σ P D W dl 100) (h60 : mF P 100 ≤ 60) : (∀ c, c < 100 → ¬ P c) ∧ f_X2_sureFolk 186 σ = some (-1) ∨ (∃ d, d < 100 ∧ P d ∧ (∀ c, c < 100 → P c → c / 10 = d / 10) ∧ f_X2_sureFolk 186 σ = some (nI (d / 10))) ∨ ((∃ c d, c < 100 ∧ d < 100 ∧ P c ∧ P d ∧ ¬ c / 10 = d / 10) ∧ f_X2_sureFolk 186 σ = some (-1)) := by
  unfold f_X2_sureFolk f_X2_sureFolk_34
  rw [bo_of grc, bo_of (x_has2 h h60 _), ite_b]
  by_cases c : 0 < mF P 100
  · obtain ⟨g1, g2, g3, -⟩ := gE_at h c
    have e0 : σ.1 187 0 = nI (gE σ 0 / 10) := g3
    have hby := byG_le (P := P) (gE σ 0 / 10) 100
    rw [show (0 : Int32) = nI 0 from rfl, ci_in_t c, xg3 hR, gai (d := 0) (by decide) (by decide), e0, bo_of grc, bo_of (x_manyBy hR h h60 (by omega)), ggi, h.1, xg3 hR, gai (d := 0) (by decide) (by decide), e0]
    by_cases c2 : ff P (byG (gE σ 0 / 10)) 0 100 = mF P 100
    · rw [ite_eq_t c2]
      exact Or.inr (Or.inl ⟨gE σ 0, g1, g2, hby.2.mp c2, rfl⟩)
    · rw [ite_eq_f (by omega) (by omega) c2]
      refine Or.inr (Or.inr ⟨?_, rfl⟩)
      apply Classical.byContradiction
      intro z
      exact c2 (hby.2.mpr (fun x hx hP => Classical.byContradiction (fun q => z ⟨x, gE σ 0, hx, g1, hP, g2, q⟩)))
  · rw [ci_f (show ¬ inR 0 (mF P 100) from fun z => by obtain ⟨j, hj, -⟩ := z; omega)]
    refine Or.inl ⟨fun d hd hP => ?_, rfl⟩
    have := mF_lt hd hP
    omega
/-- the greatest number by which a work is dug just as far: histogram and greatest -/
def hsG (Dw : Nat → Nat) (c : Nat) (b : (Nat → Nat) × Nat) : (Nat → Nat) × Nat := (fun x => if x = Dw c then b.1 x + 1 else b.1 x, if b.1 (Dw c) + 1 ≤ b.2 then b.2 else b.1 (Dw c) + 1)
theorem hs_P (Dw : Nat → Nat) : ∀ m, (∀ x, (ff P (hsG Dw) (fun _ => 0, 0) m).1 x ≤ mF P m) ∧ (ff P (hsG Dw) (fun _ => 0, 0) m).2 ≤ mF P m ∧ (0 < mF P m → 0 < (ff P (hsG Dw) (fun _ => 0, 0) m).2) ∧ (mF P m = 0 → (ff P (hsG Dw) (fun _ => 0, 0) m).2 = 0)
  | 0 => ⟨fun _ => Nat.le_refl _, Nat.le_refl _, fun h => absurd h (Nat.lt_irrefl 0), fun _ => rfl⟩
  | m + 1 => by
    obtain ⟨h1, h2, h3, h4⟩ := hs_P Dw m
    by_cases c : P m
    · rw [ff_s, ci_t c, mF_t c]
      have h0 := h1 (Dw m)
      refine ⟨fun x => ?_, ?_, fun _ => ?_, fun z => by omega⟩
      · show (if x = Dw m then _ + 1 else _) ≤ _
        have := h1 x
        by_cases e : x = Dw m
        · rw [if_pos e]; omega
        · rw [if_neg e]; omega
      · show (if _ ≤ _ then _ else _) ≤ _
        by_cases e : (ff P (hsG Dw) (fun _ => 0, 0) m).1 (Dw m) + 1 ≤ (ff P (hsG Dw) (fun _ => 0, 0) m).2
        · rw [if_pos e]; omega
        · rw [if_neg e]; omega
      · show 0 < (if _ ≤ _ then _ else _)
        by_cases e : (ff P (hsG Dw) (fun _ => 0, 0) m).1 (Dw m) + 1 ≤ (ff P (hsG Dw) (fun _ => 0, 0) m).2
        · rw [if_pos e]; omega
        · rw [if_neg e]; omega
    · rw [ff_s, ci_f c, mF_f c]
      exact ⟨h1, h2, h3, h4⟩
noncomputable def grG (P : Nat → Prop) (Dw : Nat → Nat) : Nat := (ff P (hsG Dw) (fun _ => 0, 0) 100).2
theorem gai6 {β : Type} {i : Nat} {σ : Dt} {k : Int32 → Option β} (hi : i < 31) : bo (xai SX (some 190) (nI i) σ) k = k (σ.1 190 i) := bo_of (xai_of (by decide) (by decide) (show i < SX.2.2 190 from hi) (by decide))
theorem gsi6 {β : Type} {i : Nat} {v : Int32} {σ : Dt} {k : Dt → Option β} (hi : i < 31) : bo (xsi SX (some 190) (nI i) v σ) k = k (setX σ 190 i v) := bo_of (xsiX (by decide) (by decide) (show i < SX.2.2 190 from hi) (by decide))
/-- only the row of alike ones is touched -/
def K9 (σ τ : Dt) : Prop := (∀ a, a ≠ 190 → τ.1 a = σ.1 a) ∧ τ.2 = σ.2
theorem K9.gs {σ τ : Dt} (h : K9 σ τ) (hG : GS σ P D W dl 100) : GS τ P D W dl 100 := hG.cg (fun a _ _ => h.1 a (by omega))
theorem K9.ref {σ τ : Dt} (h : K9 σ τ) (hR : RefX σ) : RefX τ := RefX_2 h.2 hR
theorem K9.kx {σ τ : Dt} (h : K9 σ τ) : KX σ τ := ⟨fun a ha => h.1 a (by omega), congrArg Prod.snd h.2⟩
theorem K9.tr {σ τ ρ : Dt} (h : K9 σ τ) (h2 : K9 τ ρ) : K9 σ ρ := ⟨fun a ha => (h2.1 a ha).trans (h.1 a ha), h2.2.trans h.2⟩
theorem x_great (hR : RefX σ) (h : GS σ P D W dl 100) (h60 : mF P 100 ≤ 60) {w : Nat} (hw : w < 6) {Dw : Nat → Nat} (hD : ∀ c, c < 100 → P c → (if c % 10 = w then D c else 0) = Dw c) (h30 : ∀ c, c < 100 → P c → D c ≤ 30) : ∃ τ, f_X2_greatestAlike 186 (nI w) σ = some (nI (grG P Dw), τ) ∧ K9 σ τ := by
  unfold f_X2_greatestAlike
  have key := iter_w (f := fun s : Int32 × Dt => f_X2_greatestAlike_L2 186 (nI w) s.1 s.2) (s0 := ((0 : Int32), σ)) (P := fun i s => s.1 = nI i ∧ K9 σ s.2 ∧ ∀ x, x < i → s.2.1 190 x = 0) (Q := fun ρ => K9 σ ρ ∧ ∀ x, x < 31 → ρ.1 190 x = 0) 31 (by decide) ⟨rfl, ⟨fun _ _ => rfl, rfl⟩, fun x hx => absurd hx (Nat.not_lt_zero x)⟩ (fun i s hi hP => ?_)
  · obtain ⟨ρ, e1, e2, e3⟩ := key
    have hR2 := e2.ref hR
    have hG2 := e2.gs h
    have key := iter_w (f := fun s : Int32 × Int32 × Dt => f_X2_greatestAlike_L25 186 (nI w) s.1 s.2.1 s.2.2) (s0 := ((0 : Int32), (0 : Int32), ρ)) (P := fun i s => s.1 = nI (fld (fun k a => hsG Dw (gE σ k) a) (fun _ => 0, 0) i).2 ∧ s.2.1 = nI i ∧ K9 σ s.2.2 ∧ (∀ x, x < 31 → s.2.2.1 190 x = nI ((fld (fun k a => hsG Dw (gE σ k) a) (fun _ => 0, 0) i).1 x)) ∧ (∀ x, (fld (fun k a => hsG Dw (gE σ k) a) (fun _ => 0, 0) i).1 x ≤ i) ∧ (fld (fun k a => hsG Dw (gE σ k) a) (fun _ => 0, 0) i).2 ≤ i) (Q := fun q => q.1 = nI (fld (fun k a => hsG Dw (gE σ k) a) (fun _ => 0, 0) (mF P 100)).2 ∧ K9 σ q.2 ∧ True) (mF P 100) (by omega) ⟨rfl, rfl, e2, e3, fun _ => Nat.le_refl _, Nat.le_refl _⟩ (fun i s hi hP => ?_)
    · obtain ⟨q, g1, g2, g3, g4⟩ := key
      rw [bo_of e1, bo_of g1, g2, ff_gE h]
      exact ⟨q.2, rfl, g3⟩
    · obtain ⟨x1, x2, τ⟩ := s
      obtain ⟨p1, p2, p3, p4, p5, p6⟩ := hP
      dsimp only at p1 p2 p3 p4 ⊢
      subst p1
      subst p2
      have hRt := p3.ref hR
      have hGt := p3.gs h
      unfold f_X2_greatestAlike_L25
      rw [ggi, hGt.1]
      rcases (show i = mF P 100 ∨ i < mF P 100 by omega) with e | e
      · left
        subst e
        rw [if_pos (nI_le (Nat.le_refl _) (by omega))]
        exact ⟨_, rfl, rfl, p3, trivial⟩
      · right
        refine ⟨e, ?_⟩
        obtain ⟨c1, c2, c3, c4, c5⟩ := gE_at h e
        have t4 : τ.1 188 i = nI (gE σ i % 10) := by rw [p3.1 188 (by decide)]; exact c4
        have t5 : τ.1 189 i = nI (D (gE σ i)) := by rw [p3.1 189 (by decide)]; exact c5
        have hDc := hD _ c1 c2
        have h3 := h30 _ c1 c2
        rw [ite_le_f (by omega) e, if_neg (show ¬ (60 : Int32) ≤ nI i from nI_ge (b := 60) (by omega) (by decide)), xg4 hRt, gai (d := 1) (by decide) (by omega), t4, xg5 hRt, gai (d := 2) (by decide) (by omega), t5]
        have hd31 : Dw (gE σ i) < 31 := by
          rw [← hDc]
          by_cases z : gE σ i % 10 = w
          · rw [if_pos z]; omega
          · rw [if_neg z]; omega
        have e6 : (if nI (gE σ i % 10) = nI w then f_X2_greatestAlike_59 186 (nI w) (nI (fld (fun k a => hsG Dw (gE σ k) a) (fun _ => 0, 0) i).2) (nI i) (nI (D (gE σ i))) τ else f_X2_greatestAlike_59 186 (nI w) (nI (fld (fun k a => hsG Dw (gE σ k) a) (fun _ => 0, 0) i).2) (nI i) 0 τ) = f_X2_greatestAlike_59 186 (nI w) (nI (fld (fun k a => hsG Dw (gE σ k) a) (fun _ => 0, 0) i).2) (nI i) (nI (Dw (gE σ i))) τ := by
          by_cases z : gE σ i % 10 = w
          · rw [ite_eq_t z]
            rw [if_pos z] at hDc
            rw [hDc]
          · rw [ite_eq_f (by omega) (by omega) z]
            rw [if_neg z] at hDc
            rw [← hDc]
            rfl
        rw [e6]
        have hx := p5 (Dw (gE σ i))
        unfold f_X2_greatestAlike_59 f_X2_greatestAlike_96
        rw [if_neg (nI_pos (by omega)), if_neg (show ¬ (30 : Int32) < nI (Dw (gE σ i)) from nI_nlt (a := 30) (by omega) (by decide)), xg6 hRt, gai6 hd31, gsi6 hd31, xg6 (show RefX (setX τ 190 (Dw (gE σ i)) _) from hRt), gai6 hd31, setX_j, p4 _ hd31, nI_1, mmax_nI (by omega) (by omega), nI_1]
        refine ⟨_, rfl, rfl, rfl, p3.tr ⟨fun a ha => setX_o ha, rfl⟩, fun x hx2 => ?_, fun x => ?_, ?_⟩
        · show (setX τ 190 (Dw (gE σ i)) _).1 190 x = nI (if x = Dw (gE σ i) then _ else _)
          by_cases z : x = Dw (gE σ i)
          · rw [z, setX_j, if_pos rfl]
          · rw [setX_n z, if_neg z]; exact p4 x hx2
        · show (if x = Dw (gE σ i) then _ + 1 else _) ≤ _
          have := p5 x
          by_cases z : x = Dw (gE σ i)
          · rw [if_pos z]; omega
          · rw [if_neg z]; omega
        · show (if _ ≤ _ then _ else _) ≤ _
          by_cases z : (fld (fun k a => hsG Dw (gE σ k) a) (fun _ => 0, 0) i).1 (Dw (gE σ i)) + 1 ≤ (fld (fun k a => hsG Dw (gE σ k) a) (fun _ => 0, 0) i).2
          · rw [if_pos z]; omega
          · rw [if_neg z]; omega
  · obtain ⟨x, τ⟩ := s
    obtain ⟨p1, p2, p3⟩ := hP
    dsimp only at p1 p2 p3 ⊢
    subst p1
    unfold f_X2_greatestAlike_L2
    rcases (show i = 31 ∨ i < 31 by omega) with rfl | e
    · left
      rw [if_pos (by decide)]
      exact ⟨_, rfl, p2, p3⟩
    · right
      rw [if_neg (show ¬ (30 : Int32) < nI i from nI_nlt (a := 30) (by omega) (by decide)), xg6 (p2.ref hR), gsi6 e, nI_1]
      refine ⟨e, _, rfl, rfl, p2.tr ⟨fun a ha => setX_o ha, rfl⟩, fun x hx => ?_⟩
      show (setX τ 190 i 0).1 190 x = 0
      rcases (show x = i ∨ x < i by omega) with q | q
      · rw [q, setX_j]
      · rw [setX_n (by omega)]; exact p3 x q
/-- which work to ask for -/
noncomputable def akG (P : Nat → Prop) (Dw : Nat → Nat → Nat) (w : Nat) (b : Int32 × Nat) : Int32 × Nat := if b.2 ≤ grG P (Dw w) then b else (nI w, grG P (Dw w))
theorem akG_s (P : Nat → Prop) (Dw : Nat → Nat → Nat) (w : Nat) (b : Int32 × Nat) : akG P Dw w b = if b.2 ≤ grG P (Dw w) then b else (nI w, grG P (Dw w)) := rfl
theorem x_ask (hR : RefX σ) (h : GS σ P D W dl 100) (h60 : mF P 100 ≤ 60) (hW : W ≤ 6) {Dw : Nat → Nat → Nat} (hD : ∀ w, w < W → ∀ c, c < 100 → P c → (if c % 10 = w then D c else 0) = Dw w c) (h30 : ∀ c, c < 100 → P c → D c ≤ 30) : ∃ τ, f_X2_workToAsk 186 σ = some (if mF P 100 = 0 then -1 else (fld (akG P Dw) (-1, 61) W).1, τ) ∧ K9 σ τ := by
  unfold f_X2_workToAsk
  by_cases c0 : mF P 100 = 0
  · refine ⟨σ, ?_, fun _ _ => rfl, rfl⟩
    have key : iter FU (fun s => f_X2_workToAsk_L7 186 s.1 s.2.1 s.2.2.1 s.2.2.2) ((-1 : Int32), (61 : Int32), (0 : Int32), σ) = some ((-1 : Int32), σ) := by
      refine iter_n (f := fun s : Int32 × Int32 × Int32 × Dt => f_X2_workToAsk_L7 186 s.1 s.2.1 s.2.2.1 s.2.2.2) (st := fun _ => ((-1 : Int32), (61 : Int32), (0 : Int32), σ)) (x := ((-1 : Int32), σ)) 0 (by decide) (fun j hj => absurd hj (Nat.not_lt_zero j)) ?_
      dsimp only
      unfold f_X2_workToAsk_L7
      rw [ggi, h.1, if_pos (show nI (mF P 100) ≤ 0 by rw [c0]; decide)]
    rw [bo_of key, if_pos c0]
  · have key := iter_w (f := fun s : Int32 × Int32 × Int32 × Dt => f_X2_workToAsk_L7 186 s.1 s.2.1 s.2.2.1 s.2.2.2) (s0 := ((-1 : Int32), (61 : Int32), (0 : Int32), σ)) (P := fun i s => s.1 = (fld (akG P Dw) (-1, 61) i).1 ∧ s.2.1 = nI (fld (akG P Dw) (-1, 61) i).2 ∧ s.2.2.1 = nI i ∧ K9 σ s.2.2.2 ∧ (fld (akG P Dw) (-1, 61) i).2 ≤ 61) (Q := fun q => q.1 = (fld (akG P Dw) (-1, 61) W).1 ∧ K9 σ q.2) W (by omega) ⟨rfl, rfl, rfl, ⟨fun _ _ => rfl, rfl⟩, Nat.le_refl _⟩ (fun i s hi hP => ?_)
    · obtain ⟨q, e1, e2, e3⟩ := key
      rw [bo_of e1, if_neg c0]
      exact ⟨q.2, by rw [e2], e3⟩
    · obtain ⟨x1, x2, x3, τ⟩ := s
      obtain ⟨p1, p2, p3, p4, p5⟩ := hP
      dsimp only at p1 p2 p3 p4 ⊢
      subst p1
      subst p2
      subst p3
      have hGt := p4.gs h
      have hRt := p4.ref hR
      unfold f_X2_workToAsk_L7 f_X2_workToAsk_40
      rw [ggi, hGt.1, if_neg (show ¬ nI (mF P 100) ≤ 0 from nI_nle (by omega) (by omega)), ggi, hGt.2.2.1]
      rcases (show i = W ∨ i < W by omega) with e | e
      · left
        subst e
        rw [if_pos (nI_le (Nat.le_refl _) (by omega))]
        exact ⟨_, rfl, rfl, p4⟩
      · right
        obtain ⟨ρ, g1, g2⟩ := x_great hRt hGt h60 (show i < 6 by omega) (hD i e) h30
        have hgr := (hs_P (P := P) (Dw i) 100).2.1
        have hgr2 : grG P (Dw i) ≤ 60 := Nat.le_trans hgr h60
        rw [ite_le_f (by omega) e, bo_of grc, bd_of g1, nI_1]
        have es : fld (akG P Dw) (-1, 61) (i + 1) = akG P Dw i (fld (akG P Dw) (-1, 61) i) := rfl
        refine ⟨e, ?_⟩
        rw [es, akG_s]
        by_cases z : (fld (akG P Dw) (-1, 61) i).2 ≤ grG P (Dw i)
        · rw [ite_le_t (by omega) z, if_pos z]
          exact ⟨_, rfl, rfl, rfl, rfl, p4.tr g2, p5⟩
        · rw [ite_le_f (by omega) (by omega), if_neg z]
          exact ⟨_, rfl, rfl, rfl, rfl, p4.tr g2, by show grG P (Dw i) ≤ 61; omega⟩
end ASK
/-! ===== the reference's questions about fits; the promises ===== -/
section RFT
variable {σx σ0 σm : Dt} {v o s os n y F W : Nat} {A B : Nat → Int32}
theorem m_many (hC : CV σx v A F W) (h0 : MV σ0 o A F W) (hB : B 0 = nI y) (hy : y ≤ 9) (hw : alW B W n) (hM : MV σm o A F W) (hS : MSg σm os B n) : ∃ τ, f_X12_manyFit 0 σm = some (nI (mF (fitP σ0 A F W B n y) 100), τ) ∧ KM σm τ := by
  obtain ⟨u, τ, e1, x, e2, e3⟩ := m_fold (fit_nx (os := os) hC h0 hB hy hw) (fun q : Int32 × Int32 × Dt => f_X12_manyFit_L8 0 q.1 q.2.1 q.2.2) (fun b u τ => (nI b, u, τ)) (fun b τ => (nI b, τ)) (fun _ τ => KM σm τ) (fun _ _ _ => False) (fun _ b => b + 1) (fun b σ τ h1 h2 _ => h1.tr h2) (fun b σ _ _ => by dsimp only; unfold f_X12_manyFit_L8; rw [if_pos rfl]) (fun c b σ hc _ hG hr _ _ => Or.inr ⟨σ, by dsimp only; unfold f_X12_manyFit_L8; rw [if_neg (nI_m1 (by omega)), bo_of mrc, nI_1], hG, hr⟩) (b0 := 0) (σm := σm) ⟨hM, hS⟩ (KM_0 _)
  rcases e3 with ⟨c, -, -, z⟩ | ⟨ρ, rfl, -, g3⟩
  · exact z.elim
  · refine ⟨ρ, ?_, g3⟩
    unfold f_X12_manyFit
    rw [bo_of mrc, bd_of e1, bo_of (show iter FU (fun q => f_X12_manyFit_L8 0 q.1 q.2.1 q.2.2) ((0 : Int32), u, τ) = _ from e2)]
    rfl
theorem m_later (hC : CV σx v A F W) (h0 : MV σ0 o A F W) (hB : B 0 = nI y) (hy : y ≤ 9) (hw : alW B W n) (hM : MV σm o A F W) (hS : MSg σm os B n) : ∃ u τ x, f_X12_nextFit 0 (-1) σm = some (u, τ) ∧ iter FU (fun q => f_X12_later_L35 0 q.1 q.2.1 q.2.2) ((0 : Int32), u, τ) = some x ∧ x.1 = nI (ff (fitP σ0 A F W B n y) (fun c a => a + dlN σ0 A c) 0 100) ∧ KM σm x.2 := by
  have hF := hM.F10
  have hW := hM.W6
  have key := m_fold (fit_nx (os := os) hC h0 hB hy hw) (fun q : Int32 × Int32 × Dt => f_X12_later_L35 0 q.1 q.2.1 q.2.2) (fun b u τ => (nI b, u, τ)) (fun b τ => (nI b, τ)) (fun _ τ => KM σm τ) (fun _ _ _ => False) (fun c b => b + dlN σ0 A c) (fun b σ τ h1 h2 _ => h1.tr h2) (fun b σ _ _ => by dsimp only; unfold f_X12_later_L35; rw [if_pos rfl]) (fun c b σ hc hP hG hr _ _ => Or.inr ?_) (b0 := 0) (σm := σm) ⟨hM, hS⟩ (KM_0 _)
  · obtain ⟨u, τ, e1, x, e2, e3⟩ := key
    rcases e3 with ⟨c, -, -, z⟩ | ⟨ρ, rfl, -, g3⟩
    · exact z.elim
    · exact ⟨u, τ, _, e1, e2, rfl, g3⟩
  · obtain ⟨p1, p2, p3, -⟩ := id hP
    obtain ⟨bm, g1, g2, g3, g4, g5, g6⟩ := la_m hC h0 hG.1 (y := 9) p1 p2 (by decide)
    refine ⟨bm, ?_, ⟨g4, g2.msg hG.2⟩, hr.tr g2⟩
    dsimp only
    unfold f_X12_later_L35 f_X12_later_75
    rw [if_neg (nI_m1 (by omega)), bo_of mrc, show nI c / (10 : Int32) = nI (c / 10) from pk_div (d := 10) (by omega) (by decide) (by decide), show nI c - nI (c / 10) * (10 : Int32) = nI (c % 10) by (rw [← pk_rem (a := c) (d := 10) (by omega) (by decide) (by decide), pk_div (by omega) (by decide) (by decide)]; rfl), bd_of (show f_X12_lasts 0 (nI (c / 10)) (nI (c % 10)) 9 σ = _ from g1), bo_of mrc, bo_of (g6 (c % 10) (by omega)), ite_b]
    unfold dlN
    by_cases z : laD σ0 (c / 10) (c % 10) 9 (c % 10) = szN A (c % 10)
    · rw [ci_t z, if_pos z, bo_of mrc, nI_1]
    · rw [ci_f z, if_neg z, bo_of mrc, Int32.add_zero, Nat.add_zero]
theorem m_own (hC : CV σx v A F W) (h0 : MV σ0 o A F W) (hB : B 0 = nI y) (hy : y ≤ 9) (hw : alW B W n) (hM : MV σm o A F W) (hS : MSg σm os B n) {f : Nat} (hf : f < 10) (z : Int32) (l : Int64) : ∃ u τ x, f_X12_nextFit 0 (-1) σm = some (u, τ) ∧ iter FU (fun q => f_X12_share_L52 0 (nI f) z l q.1 q.2.1 q.2.2) ((0 : Int64), u, τ) = some x ∧ x.1 = lN (ff (fitP σ0 A F W B n y) (byG f) 0 100) ∧ KM σm x.2 := by
  have key := m_fold (fit_nx (os := os) hC h0 hB hy hw) (fun q : Int64 × Int32 × Dt => f_X12_share_L52 0 (nI f) z l q.1 q.2.1 q.2.2) (fun b u τ => (lN b, u, τ)) (fun b τ => (lN b, τ)) (fun _ τ => KM σm τ) (fun _ _ _ => False) (byG f) (fun b σ τ h1 h2 _ => h1.tr h2) (fun b σ _ _ => by dsimp only; unfold f_X12_share_L52; rw [if_pos rfl]) (fun c b σ hc hP hG hr _ _ => Or.inr ⟨σ, ?_, hG, hr⟩) (b0 := 0) (σm := σm) ⟨hM, hS⟩ (KM_0 _)
  · obtain ⟨u, τ, e1, x, e2, e3⟩ := key
    rcases e3 with ⟨c, -, -, z⟩ | ⟨ρ, rfl, -, g3⟩
    · exact z.elim
    · exact ⟨u, τ, _, e1, e2, rfl, g3⟩
  · dsimp only
    unfold f_X12_share_L52 f_X12_share_74 byG
    rw [if_neg (nI_m1 (by omega)), show nI c / (10 : Int32) = nI (c / 10) from pk_div (d := 10) (by omega) (by decide) (by decide)]
    by_cases e : c / 10 = f
    · rw [ite_eq_t e, if_pos e, bo_of mrc, lN_1]
    · rw [ite_eq_f (by omega) (by omega) e, if_neg e, bo_of mrc, show lN b + (0 : Int64) = lN (b + 0) from lN_add b 0]
/-- the reference: whose they all are -/
def suG (c : Nat) (b : Int32 × Prop) : Int32 × Prop := (nI (c / 10), b.2 ∧ (b.1 = -1 ∨ b.1 = nI (c / 10)))
theorem su_P {P : Nat → Prop} : ∀ m, m ≤ 100 → ((ff P suG (-1, True) m).1 = -1 ∧ ∀ c, c < m → ¬ P c) ∨ ∃ d, d < m ∧ P d ∧ (ff P suG (-1, True) m).1 = nI (d / 10) ∧ ((ff P suG (-1, True) m).2 → ∀ c, c < m → P c → c / 10 = d / 10)
  | 0, _ => Or.inl ⟨rfl, fun c hc => absurd hc (Nat.not_lt_zero c)⟩
  | m + 1, hm => by
    by_cases c : P m
    · rw [ff_s, ci_t c]
      refine Or.inr ⟨m, by omega, c, rfl, fun z c' hc' hP => ?_⟩
      rcases (show c' = m ∨ c' < m by omega) with q | q
      · rw [q]
      · obtain ⟨z1, z2⟩ := z
        rcases su_P (P := P) m (by omega) with ⟨h1, h2⟩ | ⟨d, h1, h2, h3, h4⟩
        · exact absurd hP (h2 c' q)
        · have e := h4 z1 c' q hP
          rcases z2 with z2 | z2
          · rw [h3] at z2
            exact absurd z2 (nI_m1 (by omega))
          · rw [h3] at z2
            rw [e]
            exact (nI_eq (by omega) (by omega)).mp z2
    · rw [ff_s, ci_f c]
      rcases su_P (P := P) m (by omega) with ⟨h1, h2⟩ | ⟨d, h1, h2, h3, h4⟩
      · refine Or.inl ⟨h1, fun c' hc' => ?_⟩
        rcases (show c' = m ∨ c' < m by omega) with q | q
        · rw [q]; exact c
        · exact h2 c' q
      · refine Or.inr ⟨d, by omega, h2, h3, fun z c' hc' hP => ?_⟩
        rcases (show c' = m ∨ c' < m by omega) with q | q
        · rw [q] at hP; exact absurd hP c
        · exact h4 z c' q hP
theorem m_sure (hC : CV σx v A F W) (h0 : MV σ0 o A F W) (hB : B 0 = nI y) (hy : y ≤ 9) (hw : alW B W n) (hM : MV σm o A F W) (hS : MSg σm os B n) {r : Int32} (hr : ((∀ c, c < 100 → ¬ fitP σ0 A F W B n y c) ∧ r = -1) ∨ (∃ d, d < 100 ∧ fitP σ0 A F W B n y d ∧ (∀ c, c < 100 → fitP σ0 A F W B n y c → c / 10 = d / 10) ∧ r = nI (d / 10)) ∨ ((∃ c d, c < 100 ∧ d < 100 ∧ fitP σ0 A F W B n y c ∧ fitP σ0 A F W B n y d ∧ ¬ c / 10 = d / 10) ∧ r = -1)) : ∃ τ, f_X12_sureOf 0 σm = some (r, τ) ∧ KM σm τ := by
  have key := m_fold (fit_nx (os := os) hC h0 hB hy hw) (fun q : Int32 × Int32 × Dt => f_X12_sureOf_L8 0 q.1 q.2.1 q.2.2) (fun (b : Int32 × Prop) u τ => (b.1, u, τ)) (fun b τ => Sum.inr (b.1, τ)) (fun b τ => KM σm τ ∧ b.2) (fun c b x => (¬ b.1 = -1 ∧ ¬ b.1 = nI (c / 10)) ∧ ∃ ρ, x = Sum.inl ρ ∧ KM σm ρ) suG (fun b σ τ h1 h2 _ => ⟨h1.1.tr h2, h1.2⟩) (fun b σ _ _ => by dsimp only; unfold f_X12_sureOf_L8; rw [if_pos rfl]) (fun c b σ hc hP hG hr _ _ => ?_) (b0 := (-1, True)) (σm := σm) ⟨hM, hS⟩ ⟨KM_0 _, trivial⟩
  · obtain ⟨u, τ, e1, x, e2, e3⟩ := key
    unfold f_X12_sureOf
    rw [bo_of mrc, bd_of e1, bo_of (show iter FU (fun q => f_X12_sureOf_L8 0 q.1 q.2.1 q.2.2) ((-1 : Int32), u, τ) = _ from e2)]
    rcases e3 with ⟨c, c1, c2, ⟨c3, c4⟩, ρ, rfl, g3⟩ | ⟨ρ, rfl, -, g3, g4⟩
    · refine ⟨ρ, ?_, g3⟩
      show some ((-1 : Int32), ρ) = _
      have hne : ∃ d, d < 100 ∧ fitP σ0 A F W B n y d ∧ ¬ c / 10 = d / 10 := by
        rcases su_P (P := fitP σ0 A F W B n y) c (by omega) with ⟨h1, -⟩ | ⟨d, h1, h2, h3, -⟩
        · exact absurd h1 c3
        · refine ⟨d, by omega, h2, fun q => c4 ?_⟩
          rw [h3, q]
      obtain ⟨d, d1, d2, d3⟩ := hne
      rcases hr with ⟨h1, -⟩ | ⟨d', h1, h2, h3, -⟩ | ⟨-, h2⟩
      · exact absurd c2 (h1 c c1)
      · exact absurd ((h3 c c1 c2).trans (h3 d d1 d2).symm) d3
      · rw [h2]
    · refine ⟨ρ, ?_, g3⟩
      show some ((ff (fitP σ0 A F W B n y) suG (-1, True) 100).1, ρ) = _
      rcases su_P (P := fitP σ0 A F W B n y) 100 (Nat.le_refl _) with ⟨h1, h2⟩ | ⟨d, h1, h2, h3, h4⟩
      · rw [h1]
        rcases hr with ⟨-, q2⟩ | ⟨d', q1, q2, -, -⟩ | ⟨⟨c, d, q1, -, q3, -⟩, -⟩
        · rw [q2]
        · exact absurd q2 (h2 d' q1)
        · exact absurd q3 (h2 c q1)
      · rw [h3]
        rcases hr with ⟨q1, -⟩ | ⟨d', q1, q2, q3, q4⟩ | ⟨⟨c, d', q1, q2, q3, q4, q5⟩, -⟩
        · exact absurd h2 (q1 d h1)
        · rw [q4, h4 g4 d' q1 q2]
        · exact absurd ((h4 g4 c q1 q3).trans (h4 g4 d' q2 q4).symm) q5
  · dsimp only
    unfold f_X12_sureOf_L8 f_X12_sureOf_28
    rw [if_neg (nI_m1 (by omega)), show nI c / (10 : Int32) = nI (c / 10) from pk_div (d := 10) (by omega) (by decide) (by decide)]
    by_cases z1 : b.1 = -1
    · right
      rw [if_pos z1, bo_of mrc]
      exact ⟨σ, rfl, hG, hr.1, hr.2, Or.inl z1⟩
    · rw [if_neg z1]
      by_cases z2 : b.1 = nI (c / 10)
      · right
        rw [if_pos z2, bo_of mrc]
        exact ⟨σ, rfl, hG, hr.1, hr.2, Or.inr z2⟩
      · left
        rw [if_neg z2]
        exact ⟨_, rfl, ⟨z1, z2⟩, σ, rfl, hr.1⟩
/-- the reference: the k-th that fits -/
theorem m_kth (hC : CV σx v A F W) (h0 : MV σ0 o A F W) (hB : B 0 = nI y) (hy : y ≤ 9) (hw : alW B W n) (hM : MV σm o A F W) (hS : MSg σm os B n) {k : Nat} (hk : k + 10 < 2 ^ 31) : ∃ u τ x, f_X12_nextFit 0 (-1) σm = some (u, τ) ∧ iter FU (fun q => f_X12_fits_L93 0 (nI (k + 10)) q.1 q.2.1 q.2.2) (u, (0 : Int32), τ) = some x ∧ KM σm x.2 ∧ ((∃ c, c < 100 ∧ fitP σ0 A F W B n y c ∧ mF (fitP σ0 A F W B n y) c = k ∧ x.1 = nI c) ∨ (mF (fitP σ0 A F W B n y) 100 ≤ k ∧ x.1 = -1)) := by
  have e10 : nI (k + 10) - (10 : Int32) = nI k := by rw [show (10 : Int32) = nI 10 from rfl, pk_sub (by omega), Nat.add_sub_cancel]
  have key := m_fold (fit_nx (os := os) hC h0 hB hy hw) (fun q : Int32 × Int32 × Dt => f_X12_fits_L93 0 (nI (k + 10)) q.1 q.2.1 q.2.2) (fun (b : Nat) u τ => (u, nI b, τ)) (fun _ τ => ((-1 : Int32), τ)) (fun b τ => KM σm τ ∧ b ≤ k) (fun c b x => b = k ∧ x.1 = nI c ∧ KM σm x.2) (fun _ b => b + 1) (fun b σ τ h1 h2 _ => ⟨h1.1.tr h2, h1.2⟩) (fun b σ hr _ => ?_) (fun c b σ hc hP hG hr _ _ => ?_) (b0 := 0) (σm := σm) ⟨hM, hS⟩ ⟨KM_0 _, Nat.zero_le _⟩
  · obtain ⟨u, τ, e1, x, e2, e3⟩ := key
    refine ⟨u, τ, x, e1, e2, ?_⟩
    rcases e3 with ⟨c, c1, c2, c3, c4, c5⟩ | ⟨ρ, rfl, -, g3, g4⟩
    · exact ⟨c5, Or.inl ⟨c, c1, c2, c3, c4⟩⟩
    · exact ⟨g3, Or.inr ⟨g4, rfl⟩⟩
  · dsimp only
    unfold f_X12_fits_L93
    rw [e10]
    by_cases z : nI k ≤ nI b
    · rw [if_pos z]
    · rw [if_neg z, if_pos rfl]
  · dsimp only
    unfold f_X12_fits_L93
    rw [e10]
    obtain ⟨hr1, hr2⟩ := hr
    by_cases z : k ≤ b
    · left
      rw [ite_le_t (by omega) z]
      exact ⟨_, rfl, by omega, rfl, hr1⟩
    · right
      rw [ite_le_f (by omega) (by omega), if_neg (nI_m1 (by omega)), bo_of mrc, nI_1]
      exact ⟨σ, rfl, hG, hr1, by omega⟩
theorem mai6 {β : Type} {i : Nat} {σ : Dt} {k : Int32 → Option β} (hi : i < 31) : bo (xai SM (some 26) (nI i) σ) k = k (σ.1 26 i) := bo_of (xai_of (by decide) (by decide) (show i < SM.2.2 26 from hi) (by decide))
theorem msi6 {β : Type} {i : Nat} {v : Int32} {σ : Dt} {k : Dt → Option β} (hi : i < 31) : bo (xsi SM (some 26) (nI i) v σ) k = k (setX σ 26 i v) := bo_of (xsiX (by decide) (by decide) (show i < SM.2.2 26 from hi) (by decide))
theorem mr46 {β : Type} {σ : Dt} {k : Option Nat → Option β} (hR : RefM σ) : bo (xgr SM 12 46 (some 0) σ) k = k (some 26) := bo_of (m_r hR (by decide) rfl)
theorem m_great (hC : CV σx v A F W) (h0 : MV σ0 o A F W) (hB : B 0 = nI y) (hy : y ≤ 9) (hw : alW B W n) (hM : MV σm o A F W) (hS : MSg σm os B n) (h60 : mF (fitP σ0 A F W B n y) 100 ≤ 60) {w : Nat} (hw6 : w < 6) : ∃ τ, f_X12_greatestOf 0 (nI w) σm = some (nI (grG (fitP σ0 A F W B n y) (fun c => laD σ0 (c / 10) (c % 10) y w)), τ) ∧ KM σm τ := by
  have hF := hM.F10
  have hW := hM.W6
  unfold f_X12_greatestOf
  have key := iter_w (f := fun s : Int32 × Dt => f_X12_greatestOf_L4 0 (nI w) (0 : Int32) s.1 s.2) (s0 := ((0 : Int32), σm)) (P := fun i s => s.1 = nI i ∧ KM σm s.2 ∧ ∀ x, x < i → s.2.1 26 x = 0) (Q := fun ρ => KM σm ρ ∧ ∀ x, x < 31 → ρ.1 26 x = 0) 31 (by decide) ⟨rfl, KM_0 _, fun x hx => absurd hx (Nat.not_lt_zero x)⟩ (fun i s hi hP => ?_)
  · obtain ⟨ρ, a1, a2, a3⟩ := key
    have key := m_fold (fit_nx (os := os) hC h0 hB hy hw) (fun q : Int32 × Int32 × Dt => f_X12_greatestOf_L29 0 (nI w) q.1 q.2.1 q.2.2) (fun (b : (Nat → Nat) × Nat) u τ => (nI b.2, u, τ)) (fun b τ => (nI b.2, τ)) (fun b τ => KM σm τ ∧ (∀ x, x < 31 → τ.1 26 x = nI (b.1 x))) (fun _ _ _ => False) (hsG (fun c => laD σ0 (c / 10) (c % 10) y w)) (fun b σ τ h1 h2 h3 => ⟨h1.1.tr h2, by rw [h3]; exact h1.2⟩) (fun b σ _ _ => by dsimp only; unfold f_X12_greatestOf_L29; rw [if_pos rfl]) (b0 := (fun _ => 0, 0)) (fun c b σ hc hP hG hr hD hb => Or.inr ?_) (σm := ρ) ⟨a2.mv hM, a2.msg hS⟩ ⟨a2, a3⟩
    · obtain ⟨u, τ, e1, x, e2, e3⟩ := key
      rcases e3 with ⟨c, -, -, z⟩ | ⟨ρ2, rfl, -, g3, -⟩
      · exact z.elim
      · refine ⟨ρ2, ?_, g3⟩
        rw [bo_of a1, bo_of mrc, bd_of e1, bo_of (show iter FU (fun q => f_X12_greatestOf_L29 0 (nI w) q.1 q.2.1 q.2.2) ((0 : Int32), u, τ) = _ from e2)]
        rfl
    · obtain ⟨p1, p2, p3, -⟩ := id hP
      obtain ⟨hr1, hr2⟩ := hr
      have hle := la_le hC h0 (y := y) p1 p2 hy (j := w) hw6
      have hmc : mF (fitP σ0 A F W B n y) c ≤ 60 := by
        have := mF_lt hc hP
        omega
      have hb1 : ∀ x, b.1 x ≤ 60 := fun x => by rw [hb]; exact Nat.le_trans ((hs_P _ c).1 x) hmc
      have hb2 : b.2 ≤ 60 := by rw [hb]; exact Nat.le_trans (hs_P _ c).2.1 hmc
      have hb3 := hb1 (laD σ0 (c / 10) (c % 10) y w)
      have rd : ∀ (τ : Dt), (∀ j, j < 6 → τ.1 21 j = nI (laD σ0 (c / 10) (c % 10) y j)) → xai SM (some 21) (nI w) τ = some (nI (laD σ0 (c / 10) (c % 10) y w)) := fun τ h => by rw [xai_of (by decide) (by decide) (show w < SM.2.2 21 from hw6) (by decide), h w hw6]
      have hR1 : RefM (setX σ 26 (laD σ0 (c / 10) (c % 10) y w) (nI (b.1 (laD σ0 (c / 10) (c % 10) y w) + 1))) := hG.1.1
      have hD1 : ∀ j, j < 6 → (setX σ 26 (laD σ0 (c / 10) (c % 10) y w) (nI (b.1 (laD σ0 (c / 10) (c % 10) y w) + 1))).1 21 j = nI (laD σ0 (c / 10) (c % 10) y j) := fun j hj => by rw [setX_o (by decide)]; exact hD j hj
      have hK1 : KM σ (setX σ 26 (laD σ0 (c / 10) (c % 10) y w) (nI (b.1 (laD σ0 (c / 10) (c % 10) y w) + 1))) := KM_set (by decide)
      refine ⟨setX σ 26 (laD σ0 (c / 10) (c % 10) y w) (nI (b.1 (laD σ0 (c / 10) (c % 10) y w) + 1)), ?_, ⟨hK1.mv hG.1, hK1.msg hG.2⟩, hr1.tr hK1, fun x hx => ?_⟩
      · dsimp only
        unfold f_X12_greatestOf_L29 f_X12_greatestOf_79
        rw [if_neg (nI_m1 (by omega)), mr46 hG.1.1, mw40 hG.1.1, bo_of (rd σ hD), mai6 (by omega), hr2 _ (by omega), msi6 (by omega), nI_1, mr46 hR1, mw40 hR1, bo_of (rd _ hD1), mai6 (by omega), setX_j, mr46 hR1, mw40 hR1, bo_of (rd _ hD1), mai6 (by omega), setX_j]
        unfold hsG
        dsimp only
        by_cases z : b.1 (laD σ0 (c / 10) (c % 10) y w) + 1 ≤ b.2
        · rw [ite_le_t (by omega) z, if_pos z, bo_of mrc]
        · rw [ite_le_f (by omega) (by omega), if_neg z, bo_of mrc]
      · show (setX σ 26 _ _).1 26 x = nI (if x = laD σ0 (c / 10) (c % 10) y w then _ else _)
        by_cases z : x = laD σ0 (c / 10) (c % 10) y w
        · rw [z, setX_j, if_pos rfl]
        · rw [setX_n z, if_neg z]; exact hr2 x hx
  · obtain ⟨x, τ⟩ := s
    obtain ⟨p1, p2, p3⟩ := hP
    dsimp only at p1 p2 p3 ⊢
    subst p1
    unfold f_X12_greatestOf_L4
    rcases (show i = 31 ∨ i < 31 by omega) with rfl | e
    · left
      rw [if_pos (by decide)]
      exact ⟨_, rfl, p2, p3⟩
    · right
      rw [if_neg (show ¬ (31 : Int32) ≤ nI i from nI_ge (b := 31) e (by decide)), mr46 (p2.ref hM.1), msi6 e, nI_1]
      refine ⟨e, _, rfl, rfl, p2.tr (KM_set (by decide)), fun x hx => ?_⟩
      show (setX τ 26 i 0).1 26 x = 0
      rcases (show x = i ∨ x < i by omega) with q | q
      · rw [q, setX_j]
      · rw [setX_n (by omega)]; exact p3 x q
end RFT
/-! ===== fits, share, later: the promises ===== -/
noncomputable def akM (P : Nat → Prop) (Dw : Nat → Nat → Nat) (w : Nat) (b : Int32 × Nat) : Int32 × Nat := if grG P (Dw w) = 0 then b else if grG P (Dw w) < b.2 then (nI w, grG P (Dw w)) else b
theorem akM_s (P : Nat → Prop) (Dw : Nat → Nat → Nat) (w : Nat) (b : Int32 × Nat) : akM P Dw w b = if grG P (Dw w) = 0 then b else if grG P (Dw w) < b.2 then (nI w, grG P (Dw w)) else b := rfl
theorem ak_eq {P : Nat → Prop} {Dw : Nat → Nat → Nat} (h60 : mF P 100 ≤ 60) (hp : 0 < mF P 100) : ∀ m, (fld (akM P Dw) (-1, 99999999) m).1 = (fld (akG P Dw) (-1, 61) m).1 ∧ (m = 0 ∨ (fld (akM P Dw) (-1, 99999999) m).2 = (fld (akG P Dw) (-1, 61) m).2)
  | 0 => ⟨rfl, Or.inl rfl⟩
  | m + 1 => by
    obtain ⟨h1, h2⟩ := ak_eq (Dw := Dw) h60 hp m
    have g1 : grG P (Dw m) ≤ 60 := Nat.le_trans (hs_P (P := P) (Dw m) 100).2.1 h60
    have g2 : 0 < grG P (Dw m) := (hs_P (P := P) (Dw m) 100).2.2.1 hp
    have e1 : fld (akM P Dw) (-1, 99999999) (m + 1) = akM P Dw m (fld (akM P Dw) (-1, 99999999) m) := rfl
    have e2 : fld (akG P Dw) (-1, 61) (m + 1) = akG P Dw m (fld (akG P Dw) (-1, 61) m) := rfl
    rw [e1, e2, akM_s, akG_s, if_neg (show ¬ grG P (Dw m) = 0 by omega)]
    rcases h2 with rfl | h2
    · rw [if_pos (show grG P (Dw 0) < (fld (akM P Dw) (-1, 99999999) 0).2 by show _ < 99999999; omega), if_neg (show ¬ (fld (akG P Dw) (-1, 61) 0).2 ≤ grG P (Dw 0) by show ¬ 61 ≤ _; omega)]
      exact ⟨rfl, Or.inr rfl⟩
    · by_cases c : grG P (Dw m) < (fld (akM P Dw) (-1, 99999999) m).2
      · rw [if_pos c, if_neg (by omega)]
        exact ⟨rfl, Or.inr rfl⟩
      · rw [if_neg c, if_pos (by omega)]
        exact ⟨h1, Or.inr h2⟩
theorem ak_0 {P : Nat → Prop} {Dw : Nat → Nat → Nat} (h0 : mF P 100 = 0) : ∀ m, fld (akM P Dw) (-1, 99999999) m = (-1, 99999999)
  | 0 => rfl
  | m + 1 => by
    have e1 : fld (akM P Dw) (-1, 99999999) (m + 1) = akM P Dw m (fld (akM P Dw) (-1, 99999999) m) := rfl
    rw [e1, akM_s, if_pos (show grG P (Dw m) = 0 from (hs_P (P := P) (Dw m) 100).2.2.2 h0), ak_0 h0 m]
section RFA
variable {σx σ0 σm : Dt} {v o s os n y F W : Nat} {A B : Nat → Int32}
theorem m_ask (hC : CV σx v A F W) (h0 : MV σ0 o A F W) (hB : B 0 = nI y) (hy : y ≤ 9) (hw : alW B W n) (hM : MV σm o A F W) (hS : MSg σm os B n) (h60 : mF (fitP σ0 A F W B n y) 100 ≤ 60) : ∃ τ, f_X12_askOf 0 σm = some ((fld (akM (fitP σ0 A F W B n y) (fun w c => laD σ0 (c / 10) (c % 10) y w)) (-1, 99999999) W).1, τ) ∧ KM σm τ := by
  have hW := hM.W6
  unfold f_X12_askOf
  have key := iter_w (f := fun s : Int32 × Int32 × Int32 × Dt => f_X12_askOf_L8 0 s.1 s.2.1 s.2.2.1 s.2.2.2) (s0 := ((-1 : Int32), (99999999 : Int32), (0 : Int32), σm)) (P := fun i s => s.1 = (fld (akM (fitP σ0 A F W B n y) (fun w c => laD σ0 (c / 10) (c % 10) y w)) (-1, 99999999) i).1 ∧ s.2.1 = nI (fld (akM (fitP σ0 A F W B n y) (fun w c => laD σ0 (c / 10) (c % 10) y w)) (-1, 99999999) i).2 ∧ s.2.2.1 = nI i ∧ KM σm s.2.2.2 ∧ (fld (akM (fitP σ0 A F W B n y) (fun w c => laD σ0 (c / 10) (c % 10) y w)) (-1, 99999999) i).2 ≤ 99999999) (Q := fun q => q.1 = (fld (akM (fitP σ0 A F W B n y) (fun w c => laD σ0 (c / 10) (c % 10) y w)) (-1, 99999999) W).1 ∧ KM σm q.2) W (by omega) ⟨rfl, rfl, rfl, KM_0 _, Nat.le_refl _⟩ (fun i s hi hP => ?_)
  · obtain ⟨q, e1, e2, e3⟩ := key
    rw [bo_of e1]
    exact ⟨q.2, by rw [e2], e3⟩
  · obtain ⟨x1, x2, x3, τ⟩ := s
    obtain ⟨p1, p2, p3, p4, p5⟩ := hP
    dsimp only at p1 p2 p3 p4 ⊢
    subst p1
    subst p2
    subst p3
    unfold f_X12_askOf_L8 f_X12_askOf_42
    rw [bo_of (mworks (p4.mv hM))]
    rcases (show i = W ∨ i < W by omega) with e | e
    · left
      subst e
      rw [if_pos (nI_le (Nat.le_refl _) (by omega))]
      exact ⟨_, rfl, rfl, p4⟩
    · right
      obtain ⟨ρ, g1, g2⟩ := m_great hC h0 hB hy hw (p4.mv hM) (p4.msg hS) h60 (show i < 6 by omega)
      have hgr : grG (fitP σ0 A F W B n y) (fun c => laD σ0 (c / 10) (c % 10) y i) ≤ 60 := Nat.le_trans (hs_P (P := fitP σ0 A F W B n y) (fun c => laD σ0 (c / 10) (c % 10) y i) 100).2.1 h60
      rw [ite_le_f (by omega) e, bo_of mrc, bd_of g1, nI_1]
      have es : fld (akM (fitP σ0 A F W B n y) (fun w c => laD σ0 (c / 10) (c % 10) y w)) (-1, 99999999) (i + 1) = akM (fitP σ0 A F W B n y) (fun w c => laD σ0 (c / 10) (c % 10) y w) i (fld (akM (fitP σ0 A F W B n y) (fun w c => laD σ0 (c / 10) (c % 10) y w)) (-1, 99999999) i) := rfl
      refine ⟨e, ?_⟩
      rw [es, akM_s]
      generalize hb : fld (akM (fitP σ0 A F W B n y) (fun w c => laD σ0 (c / 10) (c % 10) y w)) (-1, 99999999) i = b at *
      generalize hg : grG (fitP σ0 A F W B n y) (fun c => laD σ0 (c / 10) (c % 10) y i) = g at *
      by_cases z : g = 0
      · rw [ite_z_t z, if_pos z]
        exact ⟨_, rfl, rfl, rfl, rfl, p4.tr g2, p5⟩
      · rw [ite_z_f (by omega) z, if_neg z]
        by_cases z2 : g < b.2
        · rw [ite_lt_t (by omega) z2, if_pos z2]
          exact ⟨_, rfl, rfl, rfl, rfl, p4.tr g2, by show g ≤ 99999999; omega⟩
        · rw [ite_lt_f (by omega) (by omega), if_neg z2]
          exact ⟨_, rfl, rfl, rfl, rfl, p4.tr g2, p5⟩
end RFA
theorem x_guess {σ : Dt} (hR : RefX σ) : xgr SX 11 5 (some 0) σ = some (some 186) := x_00 hR 5 (by decide)
theorem x_rc11 : xrc SX 11 (some 0) = some 0 := xrc_of (by decide) (by decide)
theorem MSg.c {σ τ : Dt} {os n : Nat} {B : Nat → Int32} (h : MSg σ os B n) (hK : KM σ τ) : MSg τ os B n := hK.msg h
theorem SWn.yr {B : Nat → Int32} {n : Nat} (h : SWn B n) : ∃ y, B 0 = nI y ∧ y ≤ 9 := by
  obtain ⟨⟨y, h1, -, h3⟩, -⟩ := h
  exact ⟨y, h1, h3⟩
/-- a valley and a sight are asked for, and what fits is found -/
theorem ask_F {σx σm : Dt} (hI : Inv σx σm) (z1 z2 : Int32) : (∃ k A F W σ4 σ10 os B n y τ, k < 2 ∧ z1 = nI k ∧ CV σx (6 + 16 * k) A F W ∧ f_X8_valleyAt 1 z1 σx = some (some (6 + 16 * k)) ∧ f_X12_isValley 0 z1 σm = some (1, σ4) ∧ f_X12_isSight 0 z2 σ4 = some (1, σ10) ∧ MV σ10 (610 + 55 * k) A F W ∧ MSg σ10 os B n ∧ Inv σx σ10 ∧ B 0 = nI y ∧ y ≤ 9 ∧ f_X11_findFits 0 z1 z2 σx = some (bI (alW B W n), τ) ∧ KX σx τ ∧ (alW B W n → GS τ (fitP σ10 A F W B n y) (dgN σ10 y) W (dlN σ10 A) 100 ∧ mF (fitP σ10 A F W B n y) 100 ≤ 60)) ∨ (f_X11_findFits 0 z1 z2 σx = some (0, σx) ∧ ((f_X12_isValley 0 z1 σm = some (0, σm) ∧ f_X8_valleyAt 1 z1 σx = some none) ∨ ∃ k A F W σ4, CV σx (6 + 16 * k) A F W ∧ f_X8_valleyAt 1 z1 σx = some (some (6 + 16 * k)) ∧ f_X12_isValley 0 z1 σm = some (1, σ4) ∧ f_X12_isSight 0 z2 σ4 = some (0, σ4) ∧ Inv σx σ4)) := by
  unfold f_X11_findFits f_X11_findFits_49
  simp only [x_now hI.1, bo_s, x_rc1]
  rcases ask_V hI z1 with ⟨k, A, F, W, hk, hz, hC, e1, e2, hM, hI2⟩ | ⟨e1, e2⟩
  · rcases ask_S hI2 z2 with ⟨k2, B, n, hk2, hz2, hC2, e3, e4, hM2, hI3⟩ | ⟨e3, e4⟩
    · left
      obtain ⟨y, hB, hy⟩ := hM2.2.2.2.2.yr
      have hMV := MV_setF hM (show 45 < 11 ∨ 13 < 45 by omega) (v := nI (1042 + 18 * k2))
      obtain ⟨τ, g1, g2, g3⟩ := x_find hC hMV hC2 hB hy
      refine ⟨k, A, F, W, _, _, _, B, n, y, τ, hk, hz, hC, e1, e2, e4, hMV, hM2, hI3, hB, hy, ?_, g2, g3⟩
      simp only [e1, e3, bo_s, ite_none, x_guess hI.1, x_walk hI.1, grc, g1, bd_s, ite_b]
      by_cases c : alW B W n
      · rw [ci_t c, bI_t c]
      · rw [ci_f c, bI_f c]
    · right
      refine ⟨?_, Or.inr ⟨k, A, F, W, _, hC, e1, e2, e4, hI2⟩⟩
      simp only [e1, e3, bo_s, ite_none, if_true]
  · right
    refine ⟨?_, Or.inl ⟨e2, e1⟩⟩
    rcases ask_S hI z2 with ⟨k2, B, n, hk2, hz2, hC2, e3, e4, hM2, hI3⟩ | ⟨e3, e4⟩
    · simp only [e1, e3, bo_s, if_true]
    · simp only [e1, e3, bo_s, if_true]
theorem ok_later : LK_later Inv := by
  intro σx σm z1 z2 hI
  unfold f_X11_later f_X12_later
  rw [bo_of x_rc11, bo_of mrc]
  rcases ask_F hI z1 z2 with ⟨k, A, F, W, σ4, σ10, os, B, n, y, τ, hk, hz, hC, -, e1, e2, hM, hS, hI2, hB, hy, e3, e4, e5⟩ | ⟨e1, ⟨e2, -⟩ | ⟨k, A, F, W, σ4, -, -, e2, e3, e4⟩⟩
  · rw [bd_of e3, ite_b, bd_of e1, if_neg (by decide), bo_of mrc, bd_of e2, if_neg (by decide), bo_of mrc, bo_of (m_areWorks hM hS), ite_b]
    by_cases c : alW B W n
    · obtain ⟨hG, h60⟩ := e5 c
      rw [ci_t c, ci_t c, bo_of (x_guess (e4.ref hI.1)), ggi, hG.2.1, bo_of mrc]
      obtain ⟨u, ρ, x, g1, g2, g3, g4⟩ := m_later (os := os) hC hM hB hy c hM hS
      rw [bd_of g1, bo_of g2, g3]
      exact ⟨_, _, _, rfl, rfl, g4.inv (e4.inv hI2)⟩
    · rw [ci_f c, ci_f c]
      exact ⟨-2, _, _, rfl, rfl, e4.inv hI2⟩
  · rw [bd_of e1, bd_of e2, if_pos rfl, if_pos rfl]
    exact ⟨-2, _, _, rfl, rfl, hI⟩
  · rw [bd_of e1, bd_of e2, if_pos rfl, if_neg (by decide), bo_of mrc, bd_of e3, if_pos rfl]
    exact ⟨-2, _, _, rfl, rfl, e4⟩
theorem ok_fits : LK_fits Inv := by
  intro σx σm z1 z2 z3 hI
  unfold f_X11_fits f_X12_fits
  rw [bo_of x_rc11, bo_of mrc]
  rcases ask_F hI z1 z2 with ⟨k, A, F, W, σ4, σ10, os, B, n, y, τ, hk, hz, hC, -, e1, e2, hM, hS, hI2, hB, hy, e3, e4, e5⟩ | ⟨e1, ⟨e2, -⟩ | ⟨k, A, F, W, σ4, -, -, e2, e3, e4⟩⟩
  · rw [bd_of e3, ite_b, bd_of e1, if_neg (by decide), bo_of mrc, bd_of e2, if_neg (by decide), bo_of mrc, bo_of (m_areWorks hM hS), ite_b]
    by_cases c : alW B W n
    · obtain ⟨hG, h60⟩ := e5 c
      have hR := e4.ref hI.1
      have hF := hC.F10
      have hW := hC.W6
      have hI4 := e4.inv hI2
      rw [ci_t c, ci_t c, bo_of (x_guess hR), bo_of grc]
      by_cases c0 : z3 < 0
      · rw [if_pos c0]
        have n0 : ∀ d, d < 3 → ¬ z3 = nI d := fun d hd => neg_nI c0 d (by omega)
        unfold f_X2_look
        rw [if_neg (show ¬ z3 = (0 : Int32) from n0 0 (by decide)), if_neg (show ¬ z3 = (1 : Int32) from n0 1 (by decide)), if_neg (show ¬ z3 = (2 : Int32) from n0 2 (by decide)), bo_of grc, bo_of (x_has2 hG h60 _), ite_b, show (10 : Int32) = nI 10 from rfl, ci_f (inR_subneg c0 (by omega)), bd_s]
        exact ⟨-2, _, _, rfl, rfl, hI4⟩
      · obtain ⟨m, hm, rfl⟩ := nI_of c0
        rw [if_neg c0, bo_of (iIn _ _ _ _)]
        unfold f_X2_look
        rcases (show m = 0 ∨ m = 1 ∨ m = 2 ∨ (3 ≤ m ∧ m ≤ 9) ∨ 10 ≤ m by omega) with rfl | rfl | rfl | q | q
        · obtain ⟨ρ, g1, g2⟩ := m_many (os := os) hC hM hB hy c hM hS
          rw [if_pos (show nI 0 = (0 : Int32) from rfl), ggi, hG.1, bd_s, if_pos (show nI 0 < (3 : Int32) ∨ (9 : Int32) < nI 0 from Or.inl (by decide)), if_pos rfl, if_pos (show nI 0 = (0 : Int32) from rfl), bo_of mrc, bd_of g1]
          exact ⟨_, _, _, rfl, rfl, g2.inv hI4⟩
        · have hr := x_sure hR hG h60
          have : ∃ r, f_X2_sureFolk 186 τ = some r ∧ (((∀ c, c < 100 → ¬ fitP σ10 A F W B n y c) ∧ r = -1) ∨ (∃ d, d < 100 ∧ fitP σ10 A F W B n y d ∧ (∀ c, c < 100 → fitP σ10 A F W B n y c → c / 10 = d / 10) ∧ r = nI (d / 10)) ∨ ((∃ c d, c < 100 ∧ d < 100 ∧ fitP σ10 A F W B n y c ∧ fitP σ10 A F W B n y d ∧ ¬ c / 10 = d / 10) ∧ r = -1)) := by
            rcases hr with ⟨h1, h2⟩ | ⟨d, h1, h2, h3, h4⟩ | ⟨h1, h2⟩
            · exact ⟨_, h2, Or.inl ⟨h1, rfl⟩⟩
            · exact ⟨_, h4, Or.inr (Or.inl ⟨d, h1, h2, h3, rfl⟩)⟩
            · exact ⟨_, h2, Or.inr (Or.inr ⟨h1, rfl⟩)⟩
          obtain ⟨r, h1, h2⟩ := this
          obtain ⟨ρ, g1, g2⟩ := m_sure (os := os) hC hM hB hy c hM hS h2
          rw [if_neg (show ¬ nI 1 = (0 : Int32) by decide), if_pos (show nI 1 = (1 : Int32) from rfl), bo_of grc, bo_of h1, bd_s, if_pos (show nI 1 < (3 : Int32) ∨ (9 : Int32) < nI 1 from Or.inl (by decide)), if_pos rfl, if_neg (show ¬ nI 1 = (0 : Int32) by decide), if_pos (show nI 1 = (1 : Int32) from rfl), bo_of mrc, bd_of g1]
          exact ⟨_, _, _, rfl, rfl, g2.inv hI4⟩
        · obtain ⟨ρ, g1, g2⟩ := m_ask (os := os) hC hM hB hy c hM hS h60
          obtain ⟨ρx, h1, h2⟩ := x_ask hR hG h60 hW (Dw := fun w c => laD σ10 (c / 10) (c % 10) y w) (fun w hw d hd hP => by
            unfold dgN
            by_cases z : d % 10 = w
            · rw [if_pos z, z]
            · rw [if_neg z]
              exact (la_0 hC hM hP.1 hP.2.1 hy (by omega) hP.2.2.1 (fun q => z q.symm)).symm) (fun d hd hP => by
            have := la_le hC hM (y := y) hP.1 hP.2.1 hy (j := d % 10) (by have := hP.2.1; omega)
            unfold dgN
            omega)
          have hr : (if mF (fitP σ10 A F W B n y) 100 = 0 then (-1 : Int32) else (fld (akG (fitP σ10 A F W B n y) (fun w c => laD σ10 (c / 10) (c % 10) y w)) (-1, 61) W).1) = (fld (akM (fitP σ10 A F W B n y) (fun w c => laD σ10 (c / 10) (c % 10) y w)) (-1, 99999999) W).1 := by
            by_cases z : mF (fitP σ10 A F W B n y) 100 = 0
            · rw [if_pos z, ak_0 z]
            · rw [if_neg z, (ak_eq h60 (by omega) W).1]
          rw [hr] at h1
          rw [if_neg (show ¬ nI 2 = (0 : Int32) by decide), if_neg (show ¬ nI 2 = (1 : Int32) by decide), if_pos (show nI 2 = (2 : Int32) from rfl), bo_of grc, bd_of h1, bd_s, if_pos (show nI 2 < (3 : Int32) ∨ (9 : Int32) < nI 2 from Or.inl (by decide)), if_pos rfl, if_neg (show ¬ nI 2 = (0 : Int32) by decide), if_neg (show ¬ nI 2 = (1 : Int32) by decide), if_pos (show nI 2 = (2 : Int32) from rfl), bo_of mrc, bd_of g1]
          exact ⟨_, _, _, rfl, rfl, g2.inv (h2.kx.inv hI4)⟩
        · have n0 : ∀ d, d < 3 → ¬ nI m = nI d := fun d hd z => by have := (nI_eq hm (by omega)).mp z; omega
          rw [if_neg (show ¬ nI m = (0 : Int32) from n0 0 (by decide)), if_neg (show ¬ nI m = (1 : Int32) from n0 1 (by decide)), if_neg (show ¬ nI m = (2 : Int32) from n0 2 (by decide)), bo_of grc, bo_of (x_has2 hG h60 _), ite_b, show (10 : Int32) = nI 10 from rfl, ci_sub_f (by omega) (by omega) (Or.inl (by omega)), bd_s, if_neg (show ¬ (nI m < (3 : Int32) ∨ (9 : Int32) < nI m) from fun z => z.elim (nI_nlt (b := 3) (by omega) (by omega)) (nI_nlt (a := 9) (by omega) (by decide))), if_neg (by decide)]
          exact ⟨-2, _, _, rfl, rfl, hI4⟩
        · have n0 : ∀ d, d < 3 → ¬ nI m = nI d := fun d hd z => by have := (nI_eq hm (by omega)).mp z; omega
          obtain ⟨j, rfl⟩ : ∃ j, m = j + 10 := ⟨m - 10, by omega⟩
          obtain ⟨u, ρ, x, g1, g2, g3, g4⟩ := m_kth (os := os) hC hM hB hy c hM hS (k := j) hm
          have e10 : nI (j + 10) - (10 : Int32) = nI j := by rw [show (10 : Int32) = nI 10 from rfl, pk_sub (by omega), Nat.add_sub_cancel]
          rw [if_neg (show ¬ nI (j + 10) = (0 : Int32) from n0 0 (by decide)), if_neg (show ¬ nI (j + 10) = (1 : Int32) from n0 1 (by decide)), if_neg (show ¬ nI (j + 10) = (2 : Int32) from n0 2 (by decide)), e10, bo_of grc, bo_of (x_has2 hG h60 _), ite_b, if_pos (show nI (j + 10) < (3 : Int32) ∨ (9 : Int32) < nI (j + 10) from Or.inr (nI_lt (a := 9) (by omega) hm)), if_pos rfl, if_neg (show ¬ nI (j + 10) = (0 : Int32) from n0 0 (by decide)), if_neg (show ¬ nI (j + 10) = (1 : Int32) from n0 1 (by decide)), if_neg (show ¬ nI (j + 10) = (2 : Int32) from n0 2 (by decide)), bo_of mrc, bd_of g1, bo_of g2]
          unfold f_X12_fits_122
          rcases g4 with ⟨d, d1, d2, d3, d4⟩ | ⟨d1, d2⟩
          · have hlt := mF_lt d1 d2
            obtain ⟨r1, r2, -⟩ := hG.2.2.2 d d1 d2
            rw [d3] at hlt r1 r2
            rw [ci_in_t hlt, xg3 hR, gai (d := 0) (by decide) (by omega), r1, xg4 hR, gai (d := 1) (by decide) (by omega), r2, bd_s, d4, if_neg (nI_m1 (by omega)), show (10 : Int32) * nI (d / 10) + nI (d % 10) = nI d by (show nI 10 * nI (d / 10) + nI (d % 10) = _; rw [pk_mul, nI_add, Nat.div_add_mod])]
            exact ⟨_, _, _, rfl, rfl, g3.inv hI4⟩
          · rw [ci_in_f (by omega) d1, bd_s, d2, if_pos rfl]
            exact ⟨_, _, _, rfl, rfl, g3.inv hI4⟩
    · rw [ci_f c, ci_f c]
      exact ⟨-2, _, _, rfl, rfl, e4.inv hI2⟩
  · rw [bd_of e1, bd_of e2, if_pos rfl, if_pos rfl]
    exact ⟨-2, _, _, rfl, rfl, hI⟩
  · rw [bd_of e1, bd_of e2, if_pos rfl, if_neg (by decide), bo_of mrc, bd_of e3, if_pos rfl]
    exact ⟨-2, _, _, rfl, rfl, e4⟩
theorem ok_share : LK_share Inv := by
  intro σx σm z1 z2 z3 z4 hI _
  unfold f_X11_share f_X12_share
  simp only [x_now hI.1, bo_s, x_rc1, mrc]
  rcases ask_F hI z1 z2 with ⟨k, A, F, W, σ4, σ10, os, B, n, y, τ, hk, hz, hC, ev, e1, e2, hM, hS, hI2, hB, hy, e3, e4, e5⟩ | ⟨e1, ⟨e2, ev⟩ | ⟨k, A, F, W, σ4, hC, ev, e2, e3, e4⟩⟩
  · have hF := hC.F10
    simp only [ev, bo_s, ite_none, crc hC.1, c_hasFolkB hC, ite_b, x_rc11, e1, bd_s, ite_10, e2, m_areWorks hM hS, m_isFolkB hM]
    rw [bd_of e3, ite_b]
    have hI4 := e4.inv hI2
    by_cases c : alW B W n
    · obtain ⟨hG, h60⟩ := e5 c
      have hR := e4.ref hI.1
      rw [ci_t c, ci_t c]
      by_cases cf : inR z3 F
      · obtain ⟨f, hf, rfl⟩ := cf
        rw [ci_in_t hf, ci_in_t hf, bo_of (x_guess hR), ggi, hG.1, bo_of (x_chance hR), bo_of (x_guess hR), bo_of grc, bo_of (x_manyBy hR hG h60 (by omega)), bo_of (x_guess hR), ggi, hG.1, bo_of x_rcc]
        obtain ⟨ρ, g1, g2⟩ := m_many (os := os) hC hM hB hy c hM hS
        have hM2 := g2.mv hM
        have hS2 := g2.msg hS
        obtain ⟨u, ρ2, x, g3, g4, g5, g6⟩ := m_own (os := os) hC hM hB hy c hM2 hS2 (f := f) (by omega) z4 (lN (mF (fitP σ10 A F W B n y) 100))
        have hby := (byG_le (P := fitP σ10 A F W B n y) f 100).1
        have l1 : (nI (mF (fitP σ10 A F W B n y) 100)).toInt64 = lN (mF (fitP σ10 A F W B n y) 100) := nI_l (by omega)
        have l2 : (nI (ff (fitP σ10 A F W B n y) (byG f) 0 100)).toInt64 = lN (ff (fitP σ10 A F W B n y) (byG f) 0 100) := nI_l (by omega)
        rw [bd_of g1, bd_of g3, l2, l1, bo_of g4, g5]
        simp only [lcmp0 (show mF (fitP σ10 A F W B n y) 100 < 2 ^ 63 by omega)]
        by_cases cz : mF (fitP σ10 A F W B n y) 100 = 0
        · rw [ite_z_t cz, if_pos cz]
          exact ⟨-1, _, _, rfl, rfl, (g2.tr g6).inv hI4⟩
        · rw [ite_z_f (by omega) cz, if_neg cz, bd_of (x_reduce (by omega) (by omega) (by omega)), bo_of (x_chance (show RefX (setL (setL τ 218 0 _) 218 1 _) from hR)), bo_of x_rcc, bo_of (x_part z4), bo_of (m_parted (by omega) (by omega) (by omega) z4)]
          exact ⟨_, _, _, rfl, rfl, (g2.tr g6).inv (((KX_L).tr (KX_L)).inv hI4)⟩
      · rw [ci_f cf, ci_f cf]
        exact ⟨-1, _, _, rfl, rfl, hI2⟩
    · rw [ci_f c, ci_f c]
      by_cases cf : inR z3 F
      · rw [ci_t cf]
        exact ⟨-1, _, _, rfl, rfl, hI4⟩
      · rw [ci_f cf]
        exact ⟨-1, _, _, rfl, rfl, hI2⟩
  · simp only [ev, bo_s, e2, bd_s, if_true]
    exact ⟨-1, _, _, rfl, rfl, hI⟩
  · simp only [ev, bo_s, ite_none, crc hC.1, c_hasFolkB hC, ite_b, x_rc11, e1, e2, bd_s, e3, ite_10, if_true]
    by_cases cf : inR z3 F
    · rw [ci_t cf]
      exact ⟨-1, _, _, rfl, rfl, e4⟩
    · rw [ci_f cf]
      exact ⟨-1, _, _, rfl, rfl, e4⟩
