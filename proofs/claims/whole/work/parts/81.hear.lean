/-! ===== steps of a loop; keepers ===== -/
def stp {S X : Type} (f : S → Option (S ⊕ X)) : Nat → S → Option S
  | 0, s => some s
  | k + 1, s => match f s with
    | some (.inl s') => stp f k s'
    | _ => none
theorem stp_1 {S X : Type} {f : S → Option (S ⊕ X)} {s s' : S} (h : f s = some (.inl s')) : stp f 1 s = some s' := by
  unfold stp
  rw [h]
  rfl
theorem stp_add {S X : Type} {f : S → Option (S ⊕ X)} : ∀ (a b : Nat) {s t u : S}, stp f a s = some t → stp f b t = some u → stp f (a + b) s = some u
  | 0, b, s, t, u, h1, h2 => by
    have : s = t := Option.some.inj h1
    rw [Nat.zero_add, this]
    exact h2
  | a + 1, b, s, t, u, h1, h2 => by
    rw [show a + 1 + b = (a + b) + 1 by omega]
    unfold stp at h1 ⊢
    revert h1
    cases f s with
    | none => intro h1; cases h1
    | some o =>
      cases o with
      | inl s' => intro h1; exact stp_add a b h1 h2
      | inr x => intro h1; cases h1
theorem stp_iter {S X : Type} {f : S → Option (S ⊕ X)} {x : X} : ∀ (a m : Nat) {s t : S}, stp f a s = some t → f t = some (.inr x) → a < m → iter m f s = some x
  | a, 0, s, t, _, _, h => absurd h (Nat.not_lt_zero a)
  | 0, m + 1, s, t, h1, h2, _ => by
    have : s = t := Option.some.inj h1
    subst this
    unfold iter
    rw [h2]
  | a + 1, m + 1, s, t, h1, h2, h3 => by
    unfold stp at h1
    unfold iter
    revert h1
    cases f s with
    | none => intro h1; cases h1
    | some o =>
      cases o with
      | inl s' => intro h1; exact stp_iter a m h1 h2 (by omega)
      | inr y => intro h1; cases h1
/-- who can keep work w in n years -/
noncomputable def kpN (A : Nat → Int32) (F W : Nat) (n : Int32) (w : Nat) : Nat := fld (fun f x => x ||| ci (w < W ∧ kpA A F f w n) (2 ^ f) 0) 0 F
theorem kpN_lt {A : Nat → Int32} {F W : Nat} {n : Int32} {w : Nat} (hF : F ≤ 10) : kpN A F W n w < 1024 := fld_or_lt (m := 10) F (fun i hi => by
  by_cases c : w < W ∧ kpA A F i w n
  · rw [ci_t c]; exact pow_1024 (by omega)
  · rw [ci_f c]; exact Nat.two_pow_pos 10)
theorem kpN_tb {A : Nat → Int32} {F W : Nat} {n : Int32} {w f : Nat} : (kpN A F W n w).testBit f = true ↔ f < F ∧ w < W ∧ kpA A F f w n := by
  unfold kpN
  rw [fld_or_tb]
  constructor
  · rintro ⟨i, hi, q⟩
    by_cases c : w < W ∧ kpA A F i w n
    · rw [ci_t c, tb_pow] at q
      have : i = f := by simpa using q
      subst this
      exact ⟨hi, c⟩
    · rw [ci_f c, Nat.zero_testBit] at q
      cases q
  · rintro ⟨h1, h2⟩
    exact ⟨f, h1, by rw [ci_t h2, tb_pow]; simp⟩
/-- who can keep one of some works -/
def koN (K : Nat → Nat) (s : Nat) : Nat := fld (fun w x => x ||| (if s.testBit w = true then K w else 0)) 0 6
theorem koN_tb {K : Nat → Nat} {s f : Nat} : (koN K s).testBit f = true ↔ ∃ w, w < 6 ∧ s.testBit w = true ∧ (K w).testBit f = true := by
  unfold koN
  rw [fld_or_tb]
  constructor
  · rintro ⟨i, hi, q⟩
    obtain ⟨q1, q2⟩ := tb_if.mp q
    exact ⟨i, hi, q1, q2⟩
  · rintro ⟨i, hi, q1, q2⟩
    exact ⟨i, hi, tb_if.mpr ⟨q1, q2⟩⟩
theorem koN_lt {K : Nat → Nat} {s : Nat} (hK : ∀ w, w < 6 → K w < 1024) : koN K s < 1024 := fld_or_lt (m := 10) 6 (fun i hi => if_lt (hK i hi))
theorem x_speak {σ : Dt} (hR : RefX σ) : xgr SX 11 6 (some 0) σ = some (some 191) := x_00 hR 6 (by decide)
theorem src7 : xrc SX 7 (some 191) = some 191 := xrc_of (by decide) (by decide)
theorem xs0 {β : Type} {σ : Dt} {k : Option Nat → Option β} (hR : RefX σ) : bo (xgr SX 7 0 (some 191) σ) k = k (some 192) := bo_of (by rw [xgr_of (by decide) (by decide), hR.1 191 0 (by decide) (by decide)]; rfl)
theorem xs1 {β : Type} {σ : Dt} {k : Option Nat → Option β} (hR : RefX σ) : bo (xgr SX 7 1 (some 191) σ) k = k (some 193) := bo_of (by rw [xgr_of (by decide) (by decide), hR.1 191 1 (by decide) (by decide)]; rfl)
theorem sai0 {β : Type} {i : Nat} {σ : Dt} {k : Int32 → Option β} (hi : i < 6) : bo (xai SX (some 192) (nI i) σ) k = k (σ.1 192 i) := bo_of (xai_of (by decide) (by decide) (show i < SX.2.2 192 from hi) (by decide))
theorem ssi0 {β : Type} {i : Nat} {v : Int32} {σ : Dt} {k : Dt → Option β} (hi : i < 6) : bo (xsi SX (some 192) (nI i) v σ) k = k (setX σ 192 i v) := bo_of (xsiX (by decide) (by decide) (show i < SX.2.2 192 from hi) (by decide))
theorem sai3 {β : Type} {i : Nat} {σ : Dt} {k : Int32 → Option β} (hi : i < 64) : bo (xai SX (some 193) (nI i) σ) k = k (σ.1 193 i) := bo_of (xai_of (by decide) (by decide) (show i < SX.2.2 193 from hi) (by decide))
theorem ssi3 {β : Type} {i : Nat} {v : Int32} {σ : Dt} {k : Dt → Option β} (hi : i < 64) : bo (xsi SX (some 193) (nI i) v σ) k = k (setX σ 193 i v) := bo_of (xsiX (by decide) (by decide) (show i < SX.2.2 193 from hi) (by decide))
section HEA
variable {σ : Dt} {v F W : Nat} {A : Nat → Int32}
theorem c_canKeepB (h : CV σ v A F W) {f w : Nat} (hf : f < F) (hw : w < 6) (n : Int32) : f_X9_canKeep v (nI f) (nI w) n σ = some (bI (w < W ∧ kpA A F f w n)) := by
  have hF := h.F10
  by_cases c : w < W
  · apply bI_of
    have q := c_canKeep h hf c n
    exact ⟨fun z => q.1 z.2, fun z => q.2 (fun y => z ⟨c, y⟩)⟩
  · rw [bI_f (fun z => c z.1)]
    unfold f_X9_canKeep f_X9_canKeep_37
    rw [bo_of (crc h.1), bo_of (xchild h hf), ite_b, bo_of (crc h.1), bo_of (c_hasWorkB h _), ite_b]
    by_cases d : agN A f < 10
    · rw [ci_t d, ci_in_f (by omega) (by omega)]
    · rw [ci_f d]
/-- the speakers have heard -/
def Hd (σ : Dt) (K : Nat → Nat) : Prop := RefX σ ∧ (∀ w, w < 6 → σ.1 192 w = nI (K w) ∧ K w < 1024) ∧ ∀ s, s < 64 → σ.1 193 s = nI (koN K s)
theorem x_hear (h : CV σ v A F W) (n : Int32) : ∃ τ, f_X7_hear 191 (some v) n σ = some ((), τ) ∧ KX σ τ ∧ Hd τ (kpN A F W n) := by
  have hF := h.F10
  have hW := h.W6
  have hK : ∀ w, w < 6 → kpN A F W n w < 1024 := fun w _ => kpN_lt hF
  have key := iter_w (f := fun s : Int32 × Dt => f_X7_hear_L7 191 (some v) n s.1 s.2) (s0 := ((0 : Int32), σ)) (P := fun i s => s.1 = nI i ∧ KX σ s.2 ∧ ∀ w, w < i → s.2.1 192 w = nI (kpN A F W n w)) (Q := fun τ => KX σ τ ∧ ∀ w, w < 6 → τ.1 192 w = nI (kpN A F W n w)) 6 (by decide) ⟨rfl, KX_0 _, fun w hw => absurd hw (Nat.not_lt_zero w)⟩ (fun i s hi hP => ?_)
  · obtain ⟨ρ, e1, e2, e3⟩ := key
    have key := iter_w (f := fun s : Int32 × Dt => f_X7_hear_L77 191 s.1 s.2) (s0 := ((0 : Int32), ρ)) (P := fun i s => s.1 = nI i ∧ KX σ s.2 ∧ s.2.1 192 = ρ.1 192 ∧ ∀ t, t < i → s.2.1 193 t = nI (koN (kpN A F W n) t)) (Q := fun τ => KX σ τ ∧ τ.1 192 = ρ.1 192 ∧ ∀ t, t < 64 → τ.1 193 t = nI (koN (kpN A F W n) t)) 64 (by decide) ⟨rfl, e2, rfl, fun w hw => absurd hw (Nat.not_lt_zero w)⟩ (fun i s hi hP => ?_)
    · obtain ⟨τ, g1, g2, g3, g4⟩ := key
      refine ⟨τ, ?_, g2, g2.ref h.2.1, fun w hw => ⟨by rw [g3]; exact e3 w hw, hK w hw⟩, g4⟩
      unfold f_X7_hear
      rw [if_neg (by simp), bo_of e1, bo_of g1]
    · obtain ⟨x, τ⟩ := s
      obtain ⟨p1, p2, p3, p4⟩ := hP
      dsimp only at p1 p2 p3 p4 ⊢
      subst p1
      have hR := p2.ref h.2.1
      unfold f_X7_hear_L77
      rcases (show i = 64 ∨ i < 64 by omega) with rfl | e
      · left
        rw [if_pos (by decide)]
        exact ⟨_, rfl, p2, p3, p4⟩
      · right
        refine ⟨e, ?_⟩
        rw [if_neg (show ¬ (64 : Int32) ≤ nI i from nI_ge (b := 64) e (by decide)), xs1 hR, ssi3 e]
        have key := iter_w (f := fun s : Int32 × Dt => f_X7_hear_L93 191 (nI i) s.1 s.2) (s0 := ((0 : Int32), setX τ 193 i 0)) (P := fun w s => s.1 = nI w ∧ KX τ s.2 ∧ s.2.1 192 = τ.1 192 ∧ (∀ t, t ≠ i → s.2.1 193 t = τ.1 193 t) ∧ s.2.1 193 i = nI (fld (fun w x => x ||| (if i.testBit w = true then kpN A F W n w else 0)) 0 w)) (Q := fun ρ2 => KX τ ρ2 ∧ ρ2.1 192 = τ.1 192 ∧ (∀ t, t ≠ i → ρ2.1 193 t = τ.1 193 t) ∧ ρ2.1 193 i = nI (koN (kpN A F W n) i)) 6 (by decide) ⟨rfl, KX_set (by decide), setX_o (by decide), fun t ht => setX_n ht, by rw [setX_j]; rfl⟩ (fun w s hw hP => ?_)
        · obtain ⟨ρ2, q1, q2, q3, q4, q5⟩ := key
          rw [bo_of q1, nI_1]
          refine ⟨_, rfl, rfl, p2.tr q2, q3.trans p3, fun t ht => ?_⟩
          show ρ2.1 193 t = _
          rcases (show t = i ∨ t < i by omega) with z | z
          · rw [z]; exact q5
          · rw [q4 t (by omega)]; exact p4 t z
        · obtain ⟨x, ρ2⟩ := s
          obtain ⟨r1, r2, r3, r4, r5⟩ := hP
          dsimp only at r1 r2 r3 r4 r5 ⊢
          subst r1
          have hR2 := r2.ref hR
          unfold f_X7_hear_L93 f_X7_hear_125
          rcases (show w = 6 ∨ w < 6 by omega) with rfl | e2
          · left
            rw [if_pos (by decide)]
            exact ⟨_, rfl, r2, r3, r4, r5⟩
          · right
            refine ⟨e2, ?_⟩
            have hval : ρ2.1 192 w = nI (kpN A F W n w) := by rw [r3, p3]; exact e3 w e2
            rw [if_neg (show ¬ (6 : Int32) ≤ nI w from nI_ge (b := 6) e2 (by decide)), xs1 hR2, sai3 e, xs0 hR2, sai0 e2, ssi3 e, r5, hval, nI_or, nI_1]
            simp only [bit0 (show i < 2 ^ 31 by omega) (show w < 32 by omega)]
            by_cases z : i.testBit w = true
            · rw [if_neg (fun q => q z)]
              refine ⟨_, rfl, rfl, r2.tr (KX_set (by decide)), by (show (setX ρ2 193 i _).1 192 = _; rw [setX_o (by decide)]; exact r3), fun t ht => by (show (setX ρ2 193 i _).1 193 t = _; rw [setX_n ht]; exact r4 t ht), ?_⟩
              show (setX ρ2 193 i _).1 193 i = nI (_ ||| (if i.testBit w = true then kpN A F W n w else 0))
              rw [setX_j, if_pos z]
            · rw [if_pos z]
              refine ⟨_, rfl, rfl, r2, r3, r4, ?_⟩
              show ρ2.1 193 i = nI (_ ||| (if i.testBit w = true then kpN A F W n w else 0))
              rw [if_neg z, Nat.or_zero]
              exact r5
  · obtain ⟨x, τ⟩ := s
    obtain ⟨p1, p2, p3⟩ := hP
    dsimp only at p1 p2 p3 ⊢
    subst p1
    have hR := p2.ref h.2.1
    unfold f_X7_hear_L7 f_X7_hear_69
    rcases (show i = 6 ∨ i < 6 by omega) with rfl | e
    · left
      rw [if_pos (by decide)]
      exact ⟨_, rfl, p2, p3⟩
    · right
      refine ⟨e, ?_⟩
      rw [if_neg (show ¬ (6 : Int32) ≤ nI i from nI_ge (b := 6) e (by decide)), xs0 hR, ssi0 e]
      have key := iter_w (f := fun s : Int32 × Dt => f_X7_hear_L23 191 (some v) n (nI i) s.1 s.2) (s0 := ((0 : Int32), setX τ 192 i 0)) (P := fun f s => s.1 = nI f ∧ KX τ s.2 ∧ (∀ t, t ≠ i → s.2.1 192 t = τ.1 192 t) ∧ s.2.1 192 i = nI (fld (fun f x => x ||| ci (i < W ∧ kpA A F f i n) (2 ^ f) 0) 0 f)) (Q := fun ρ2 => KX τ ρ2 ∧ (∀ t, t ≠ i → ρ2.1 192 t = τ.1 192 t) ∧ ρ2.1 192 i = nI (kpN A F W n i)) F (by omega) ⟨rfl, KX_set (by decide), fun t ht => setX_n ht, by rw [setX_j]; rfl⟩ (fun f s hf hP => ?_)
      · obtain ⟨ρ2, q1, q2, q4, q5⟩ := key
        rw [bo_of q1, nI_1]
        refine ⟨_, rfl, rfl, p2.tr q2, fun t ht => ?_⟩
        show ρ2.1 192 t = _
        rcases (show t = i ∨ t < i by omega) with z | z
        · rw [z]; exact q5
        · rw [q4 t (by omega)]; exact p3 t z
      · obtain ⟨x, ρ2⟩ := s
        obtain ⟨r1, r2, r4, r5⟩ := hP
        dsimp only at r1 r2 r4 r5 ⊢
        subst r1
        have hR2 := r2.ref hR
        have hC2 := (p2.tr r2).cv h
        unfold f_X7_hear_L23 f_X7_hear_63
        rw [bo_of (xfolk hC2)]
        rcases (show f = F ∨ f < F by omega) with e2 | e2
        · left
          subst e2
          rw [if_pos (nI_le (Nat.le_refl _) (by omega))]
          exact ⟨_, rfl, r2, r4, r5⟩
        · right
          refine ⟨e2, ?_⟩
          rw [ite_le_f (by omega) e2, if_neg (le10 (by omega)), bo_of (crc h.1), bo_of (c_canKeepB hC2 e2 e n), ite_b, xs0 hR2, sai0 e, ssi0 e, r5, shl1 (by omega), nI_or, nI_1]
          by_cases z : i < W ∧ kpA A F f i n
          · rw [ci_t z]
            refine ⟨_, rfl, rfl, r2.tr (KX_set (by decide)), fun t ht => by (show (setX ρ2 192 i _).1 192 t = _; rw [setX_n ht]; exact r4 t ht), ?_⟩
            show (setX ρ2 192 i _).1 192 i = nI (_ ||| ci (i < W ∧ kpA A F f i n) (2 ^ f) 0)
            rw [setX_j, ci_t z]
          · rw [ci_f z]
            refine ⟨_, rfl, rfl, r2, r4, ?_⟩
            show ρ2.1 192 i = nI (_ ||| ci (i < W ∧ kpA A F f i n) (2 ^ f) 0)
            rw [ci_f z, Nat.or_zero]
            exact r5
end HEA
/-! ===== each work another speaker ===== -/
theorem popK_oa (a b : Nat) : ∀ n, popK (a ||| b) n + popK (a &&& b) n = popK a n + popK b n
  | 0 => rfl
  | n + 1 => by
    have := popK_oa a b n
    rw [popK, popK, popK, popK, Nat.testBit_or, Nat.testBit_and]
    cases a.testBit n <;> cases b.testBit n <;> simp <;> omega
theorem popK_0 {a : Nat} : ∀ n, (∀ i, i < n → ¬ a.testBit i = true) → popK a n = 0
  | 0, _ => rfl
  | n + 1, h => by
    rw [popK, popK_0 n (fun i hi => h i (by omega))]
    have := h n (by omega)
    cases e : a.testBit n
    · rfl
    · exact absurd e this
theorem pc_or {a b : Nat} (h : ∀ i, a.testBit i = true → ¬ b.testBit i = true) : popc (a ||| b) = popc a + popc b := by
  have h1 := popK_oa a b 12
  have h2 : popK (a &&& b) 12 = 0 := popK_0 12 (fun i _ z => by
    rw [Nat.testBit_and] at z
    simp at z
    exact h i z.1 z.2)
  unfold popc
  omega
theorem pc_le {a b : Nat} (h : ∀ i, a.testBit i = true → b.testBit i = true) : popc a ≤ popc b := popK_mono 12 (fun i _ z => h i z)
theorem pc_c {a b : Nat} (h : ∀ i, a.testBit i = true ↔ b.testBit i = true) : popc a = popc b := Nat.le_antisymm (pc_le (fun i => (h i).mp)) (pc_le (fun i => (h i).mpr))
theorem popK_pos {a : Nat} : ∀ n, 0 < popK a n → ∃ i, i < n ∧ a.testBit i = true
  | 0, h => absurd h (Nat.lt_irrefl 0)
  | n + 1, h => by
    cases e : a.testBit n
    · rw [popK, e] at h
      obtain ⟨i, h1, h2⟩ := popK_pos n h
      exact ⟨i, by omega, h2⟩
    · exact ⟨n, by omega, e⟩
theorem pc_1 {f : Nat} (hf : f < 12) : popc (2 ^ f) = 1 := (show ∀ f, f < 12 → popc (2 ^ f) = 1 by decide) f hf
theorem pc_pos {a i : Nat} (hi : i < 12) (h : a.testBit i = true) : 1 ≤ popc a := by
  have := pc_le (a := 2 ^ i) (b := a) (fun j hj => by
    rw [tb_pow] at hj
    have : i = j := by simpa using hj
    rw [← this]
    exact h)
  rw [pc_1 hi] at this
  exact this
theorem and_tb {a b i : Nat} : (a &&& b).testBit i = true ↔ a.testBit i = true ∧ b.testBit i = true := by
  rw [Nat.testBit_and]
  simp
theorem or_tb {a b i : Nat} : (a ||| b).testBit i = true ↔ a.testBit i = true ∨ b.testBit i = true := by
  rw [Nat.testBit_or]
  simp
theorem sub_tb {a b i : Nat} : (nsub a b).testBit i = true ↔ a.testBit i = true ∧ ¬ b.testBit i = true := by
  rw [tb_nsub]
  simp
theorem pow_tb {k i : Nat} : (2 ^ k).testBit i = true ↔ k = i := by
  rw [tb_pow]
  simp
def Mt (K : Nat → Nat) (s u : Nat) : Prop := ∃ g : Nat → Nat, (∀ w, w < 6 → s.testBit w = true → (K w).testBit (g w) = true ∧ u.testBit (g w) = true) ∧ ∀ w w', w < 6 → w' < 6 → s.testBit w = true → s.testBit w' = true → g w = g w' → w = w'
def Hl (K : Nat → Nat) (s u : Nat) : Prop := ∀ t, t < 64 → (∀ i, t.testBit i = true → s.testBit i = true) → popc t ≤ popc (koN K t &&& u)
section HALL
variable {K : Nat → Nat}
theorem Mt_0 {s u : Nat} (h : ∀ w, w < 6 → ¬ s.testBit w = true) : Mt K s u := ⟨fun _ => 0, fun w hw z => absurd z (h w hw), fun w _ hw _ z => absurd z (h w hw)⟩
theorem s6 {s i : Nat} (hs : s < 64) (h : s.testBit i = true) : i < 6 := tb_lt (p := 6) hs h
theorem lt64 {a : Nat} (h : ∀ i, a.testBit i = true → i < 6) : a < 64 := Nat.lt_of_not_le (fun z => by
  have : a < 2 ^ 6 := Nat.lt_pow_two_of_testBit a (fun i hi => by
    cases e : a.testBit i
    · rfl
    · have := h i e; omega)
  omega)
theorem hall (hK : ∀ w, w < 6 → K w < 1024) : ∀ (m s u : Nat), s < 64 → popc s ≤ m → Hl K s u → Mt K s u
  | 0, s, u, hs, hm, _ => Mt_0 (fun w hw z => by have := pc_pos (a := s) (show w < 12 by omega) z; omega)
  | m + 1, s, u, hs, hm, hH => by
    by_cases c0 : ∃ w, w < 6 ∧ s.testBit w = true
    · obtain ⟨w0, hw0, hw1⟩ := c0
      by_cases c : ∃ t, t < 64 ∧ (∀ i, t.testBit i = true → s.testBit i = true) ∧ (∃ i, t.testBit i = true) ∧ (∃ i, s.testBit i = true ∧ ¬ t.testBit i = true) ∧ popc (koN K t &&& u) ≤ popc t
      · obtain ⟨t, t1, t2, ⟨i1, t3⟩, ⟨i2, t4, t5⟩, t6⟩ := c
        have hi2 := s6 hs t4
        have hi1 := s6 t1 t3
        -- both parts are smaller
        have hsplit : popc s = popc t + popc (nsub s t) := by
          rw [← pc_or (a := t) (b := nsub s t) (fun i z q => (sub_tb.mp q).2 z)]
          refine pc_c (fun i => ?_)
          rw [or_tb, sub_tb]
          constructor
          · intro z
            by_cases q : t.testBit i = true
            · exact Or.inl q
            · exact Or.inr ⟨z, q⟩
          · rintro (z | z)
            · exact t2 i z
            · exact z.1
        have hp1 := pc_pos (a := t) (show i1 < 12 by omega) t3
        have hp2 := pc_pos (a := nsub s t) (show i2 < 12 by omega) (sub_tb.mpr ⟨t4, t5⟩)
        obtain ⟨g1, g2, g3⟩ := hall hK m t u t1 (by omega) (fun r r1 r2 => hH r r1 (fun i z => t2 i (r2 i z)))
        have hs' : nsub s t < 64 := lt64 (fun i z => s6 hs (sub_tb.mp z).1)
        obtain ⟨k1, k2, k3⟩ := hall hK m (nsub s t) (nsub u (koN K t)) hs' (by omega) (fun r r1 r2 => by
          have hrt : r ||| t < 64 := or_lt (n := 6) r1 t1
          have e1 := hH (r ||| t) hrt (fun i z => by
            rcases or_tb.mp z with z | z
            · exact (sub_tb.mp (r2 i z)).1
            · exact t2 i z)
          have e2 : popc (r ||| t) = popc r + popc t := pc_or (fun i z q => (sub_tb.mp (r2 i z)).2 q)
          have e3 : popc (koN K (r ||| t) &&& u) = popc ((koN K r &&& nsub u (koN K t)) ||| (koN K t &&& u)) := pc_c (fun i => by
            rw [and_tb, or_tb, and_tb, and_tb, sub_tb, koN_tb]
            constructor
            · rintro ⟨⟨w, h1, h2, h3⟩, h4⟩
              by_cases q : (koN K t).testBit i = true
              · exact Or.inr ⟨q, h4⟩
              · rcases or_tb.mp h2 with z | z
                · exact Or.inl ⟨koN_tb.mpr ⟨w, h1, z, h3⟩, h4, q⟩
                · exact absurd (koN_tb.mpr ⟨w, h1, z, h3⟩) q
            · rintro (⟨h1, h2, -⟩ | ⟨h1, h2⟩)
              · obtain ⟨w, z1, z2, z3⟩ := koN_tb.mp h1
                exact ⟨⟨w, z1, or_tb.mpr (Or.inl z2), z3⟩, h2⟩
              · obtain ⟨w, z1, z2, z3⟩ := koN_tb.mp h1
                exact ⟨⟨w, z1, or_tb.mpr (Or.inr z2), z3⟩, h2⟩)
          have e4 : popc ((koN K r &&& nsub u (koN K t)) ||| (koN K t &&& u)) = popc (koN K r &&& nsub u (koN K t)) + popc (koN K t &&& u) := pc_or (fun i z q => (sub_tb.mp (and_tb.mp z).2).2 (and_tb.mp q).1)
          omega)
        have cross : ∀ w w', w < 6 → w' < 6 → t.testBit w = true → (s.testBit w' = true ∧ ¬ t.testBit w' = true) → ¬ g1 w = k1 w' := fun w w' h1 h2 h3 h4 z => by
          have q1 := g2 w h1 h3
          have q2 := (k2 w' h2 (sub_tb.mpr h4)).2
          rw [← z] at q2
          exact (sub_tb.mp q2).2 (koN_tb.mpr ⟨w, h1, h3, q1.1⟩)
        refine ⟨fun w => if t.testBit w = true then g1 w else k1 w, fun w hw z => ?_, fun w w' hw hw' z z' e => ?_⟩
        · dsimp only
          by_cases q : t.testBit w = true
          · rw [if_pos q]; exact g2 w hw q
          · rw [if_neg q]
            have := k2 w hw (sub_tb.mpr ⟨z, q⟩)
            exact ⟨this.1, (sub_tb.mp this.2).1⟩
        · dsimp only at e
          by_cases q : t.testBit w = true
          · by_cases q' : t.testBit w' = true
            · rw [if_pos q, if_pos q'] at e
              exact g3 w w' hw hw' q q' e
            · rw [if_pos q, if_neg q'] at e
              exact absurd e (cross w w' hw hw' q ⟨z', q'⟩)
          · by_cases q' : t.testBit w' = true
            · rw [if_neg q, if_pos q'] at e
              exact absurd e.symm (cross w' w hw' hw q' ⟨z, q⟩)
            · rw [if_neg q, if_neg q'] at e
              exact k3 w w' hw hw' (sub_tb.mpr ⟨z, q⟩) (sub_tb.mpr ⟨z', q'⟩) e
      · -- every part has one more than it needs
        have hone := hH (2 ^ w0) (lt64 (fun i z => by have := pow_tb.mp z; omega)) (fun i z => by rw [← pow_tb.mp z]; exact hw1)
        rw [pc_1 (show w0 < 12 by omega)] at hone
        obtain ⟨f, hf, hf2⟩ := popK_pos 12 (show 0 < popK (koN K (2 ^ w0) &&& u) 12 from hone)
        obtain ⟨hf3, hf4⟩ := and_tb.mp hf2
        obtain ⟨w1, v1, v2, v3⟩ := koN_tb.mp hf3
        have hw01 : w0 = w1 := pow_tb.mp v2
        subst hw01
        have hsplit : popc s = 1 + popc (nsub s (2 ^ w0)) := by
          have e := pc_or (a := 2 ^ w0) (b := nsub s (2 ^ w0)) (fun i z q => (sub_tb.mp q).2 z)
          rw [pc_1 (show w0 < 12 by omega)] at e
          rw [← e]
          refine pc_c (fun i => ?_)
          rw [or_tb, sub_tb]
          constructor
          · intro z
            by_cases q : (2 ^ w0).testBit i = true
            · exact Or.inl q
            · exact Or.inr ⟨z, q⟩
          · rintro (z | z)
            · rw [← pow_tb.mp z]; exact hw1
            · exact z.1
        obtain ⟨k1, k2, k3⟩ := hall hK m (nsub s (2 ^ w0)) (nsub u (2 ^ f)) (lt64 (fun i z => s6 hs (sub_tb.mp z).1)) (by omega) (fun r r1 r2 => by
          by_cases q : ∃ i, r.testBit i = true
          · have h1 : popc r < popc (koN K r &&& u) := Nat.lt_of_not_le (fun z => c ⟨r, r1, fun i y => (sub_tb.mp (r2 i y)).1, q, ⟨w0, hw1, fun y => (sub_tb.mp (r2 w0 y)).2 (pow_tb.mpr rfl)⟩, z⟩)
            have h2 : popc (koN K r &&& u) ≤ popc ((koN K r &&& nsub u (2 ^ f)) ||| 2 ^ f) := pc_le (fun i y => by
              obtain ⟨y1, y2⟩ := and_tb.mp y
              rw [or_tb, and_tb, sub_tb]
              by_cases e : (2 ^ f).testBit i = true
              · exact Or.inr e
              · exact Or.inl ⟨y1, y2, e⟩)
            have h3 : popc ((koN K r &&& nsub u (2 ^ f)) ||| 2 ^ f) = popc (koN K r &&& nsub u (2 ^ f)) + popc (2 ^ f) := pc_or (fun i y e => (sub_tb.mp (and_tb.mp y).2).2 e)
            rw [pc_1 hf] at h3
            omega
          · have : popc r = 0 := popK_0 12 (fun i _ z => q ⟨i, z⟩)
            omega)
        refine ⟨fun w => if w = w0 then f else k1 w, fun w hw z => ?_, fun w w' hw hw' z z' e => ?_⟩
        · dsimp only
          by_cases q : w = w0
          · rw [if_pos q, q]; exact ⟨v3, hf4⟩
          · rw [if_neg q]
            have := k2 w hw (sub_tb.mpr ⟨z, fun y => q (pow_tb.mp y).symm⟩)
            exact ⟨this.1, (sub_tb.mp this.2).1⟩
        · dsimp only at e
          have nof : ∀ x, x < 6 → s.testBit x = true → ¬ x = w0 → ¬ k1 x = f := fun x hx hx2 hx3 y => by
            have := (k2 x hx (sub_tb.mpr ⟨hx2, fun q => hx3 (pow_tb.mp q).symm⟩)).2
            rw [y] at this
            exact (sub_tb.mp this).2 (pow_tb.mpr rfl)
          by_cases q : w = w0
          · by_cases q' : w' = w0
            · rw [q, q']
            · rw [if_pos q, if_neg q'] at e
              exact absurd e.symm (nof w' hw' z' q')
          · by_cases q' : w' = w0
            · rw [if_neg q, if_pos q'] at e
              exact absurd e (nof w hw z q)
            · rw [if_neg q, if_neg q'] at e
              exact k3 w w' hw hw' (sub_tb.mpr ⟨z, fun y => q (pow_tb.mp y).symm⟩) (sub_tb.mpr ⟨z', fun y => q' (pow_tb.mp y).symm⟩) e
    · exact Mt_0 (fun w hw z => c0 ⟨w, hw, z⟩)
/-- the picture of some works -/
def imN (g : Nat → Nat) (t n : Nat) : Nat := fld (fun w x => x ||| (if t.testBit w = true then 2 ^ g w else 0)) 0 n
theorem imN_tb {g : Nat → Nat} {t n i : Nat} : (imN g t n).testBit i = true ↔ ∃ w, w < n ∧ t.testBit w = true ∧ g w = i := by
  unfold imN
  rw [fld_or_tb]
  constructor
  · rintro ⟨w, hw, q⟩
    obtain ⟨q1, q2⟩ := tb_if.mp q
    exact ⟨w, hw, q1, pow_tb.mp q2⟩
  · rintro ⟨w, hw, q1, q2⟩
    exact ⟨w, hw, tb_if.mpr ⟨q1, pow_tb.mpr q2⟩⟩
theorem imN_pc {g : Nat → Nat} {t : Nat} : ∀ n, n ≤ 6 → (∀ w, w < n → t.testBit w = true → g w < 12) → (∀ w w', w < n → w' < n → t.testBit w = true → t.testBit w' = true → g w = g w' → w = w') → popc (imN g t n) = popK t n
  | 0, _, _, _ => popK_0 12 (fun i _ z => by
      obtain ⟨w, hw, -⟩ := imN_tb.mp z
      exact absurd hw (Nat.not_lt_zero w))
  | n + 1, hn, h1, h2 => by
    have ih := imN_pc (g := g) (t := t) n (by omega) (fun w hw => h1 w (by omega)) (fun w w' hw hw' => h2 w w' (by omega) (by omega))
    have e : imN g t (n + 1) = imN g t n ||| (if t.testBit n = true then 2 ^ g n else 0) := rfl
    rw [e, popK]
    cases q : t.testBit n
    · rw [if_neg (by simp), Nat.or_zero, ih]
      rfl
    · rw [if_pos rfl, pc_or (fun i z y => by
        obtain ⟨w, w1, w2, w3⟩ := imN_tb.mp z
        have := h2 w n (by omega) (by omega) w2 q (w3.trans (pow_tb.mp y).symm)
        omega), ih, pc_1 (h1 n (by omega) q)]
      rfl
theorem hall_c (hK : ∀ w, w < 6 → K w < 1024) {s u : Nat} (h : Mt K s u) : Hl K s u := by
  obtain ⟨g, g1, g2⟩ := h
  intro t t1 t2
  have e := imN_pc (g := g) (t := t) 6 (Nat.le_refl _) (fun w hw z => by have := tb_lt (p := 10) (hK w hw) (g1 w hw (t2 w z)).1; omega) (fun w w' hw hw' z z' => g2 w w' hw hw' (t2 w z) (t2 w' z'))
  have e2 : popc t = popK t 6 := by
    have : ∀ t, t < 64 → popc t = popK t 6 := by decide
    exact this t t1
  rw [e2, ← e]
  refine pc_le (fun i z => ?_)
  obtain ⟨w, w1, w2, w3⟩ := imN_tb.mp z
  have := g1 w w1 (t2 w w2)
  rw [w3] at this
  exact and_tb.mpr ⟨koN_tb.mpr ⟨w, w1, w2, this.1⟩, this.2⟩
theorem hall_iff (hK : ∀ w, w < 6 → K w < 1024) {s u : Nat} (hs : s < 64) : Hl K s u ↔ Mt K s u := ⟨hall hK (popc s) s u hs (Nat.le_refl _), hall_c hK⟩
theorem Mt_sub {s s' u u' : Nat} (h : Mt K s u) (hs : ∀ i, s'.testBit i = true → s.testBit i = true) (hu : ∀ w i, w < 6 → s'.testBit w = true → (K w).testBit i = true → u.testBit i = true → u'.testBit i = true) : Mt K s' u' := by
  obtain ⟨g, g1, g2⟩ := h
  exact ⟨g, fun w hw z => ⟨(g1 w hw (hs w z)).1, hu w _ hw z (g1 w hw (hs w z)).1 (g1 w hw (hs w z)).2⟩, fun w w' hw hw' z z' => g2 w w' hw hw' (hs w z) (hs w' z')⟩
/-- one work more: some speaker for it, and the rest without him -/
theorem Mt_one {s u w : Nat} (hw : w < 6) (hws : ¬ s.testBit w = true) : Mt K (2 ^ w ||| s) u ↔ ∃ f, (K w).testBit f = true ∧ u.testBit f = true ∧ Mt K s (nsub u (2 ^ f)) := by
  constructor
  · rintro ⟨g, g1, g2⟩
    have h0 : (2 ^ w ||| s).testBit w = true := or_tb.mpr (Or.inl (pow_tb.mpr rfl))
    have q := g1 w hw h0
    refine ⟨g w, q.1, q.2, g, fun x hx z => ?_, fun x x' hx hx' z z' => g2 x x' hx hx' (or_tb.mpr (Or.inr z)) (or_tb.mpr (Or.inr z'))⟩
    have q2 := g1 x hx (or_tb.mpr (Or.inr z))
    refine ⟨q2.1, sub_tb.mpr ⟨q2.2, fun y => ?_⟩⟩
    have := g2 w x hw hx h0 (or_tb.mpr (Or.inr z)) (pow_tb.mp y)
    subst this
    exact hws z
  · rintro ⟨f, f1, f2, g, g1, g2⟩
    refine ⟨fun x => if x = w then f else g x, fun x hx z => ?_, fun x x' hx hx' z z' e => ?_⟩
    · dsimp only
      by_cases q : x = w
      · rw [if_pos q, q]; exact ⟨f1, f2⟩
      · rw [if_neg q]
        have z2 : s.testBit x = true := (or_tb.mp z).resolve_left (fun y => q (pow_tb.mp y).symm)
        have := g1 x hx z2
        exact ⟨this.1, (sub_tb.mp this.2).1⟩
    · dsimp only at e
      have ne : ∀ y, y < 6 → (2 ^ w ||| s).testBit y = true → ¬ y = w → ¬ g y = f := fun y hy z q e => by
        have z2 : s.testBit y = true := (or_tb.mp z).resolve_left (fun y => q (pow_tb.mp y).symm)
        have := (g1 y hy z2).2
        rw [e] at this
        exact (sub_tb.mp this).2 (pow_tb.mpr rfl)
      by_cases q : x = w
      · by_cases q' : x' = w
        · rw [q, q']
        · rw [if_pos q, if_neg q'] at e
          exact absurd e.symm (ne x' hx' z' q')
      · by_cases q' : x' = w
        · rw [if_neg q, if_pos q'] at e
          exact absurd e (ne x hx z q)
        · rw [if_neg q, if_neg q'] at e
          exact g2 x x' hx hx' ((or_tb.mp z).resolve_left (fun y => q (pow_tb.mp y).symm)) ((or_tb.mp z').resolve_left (fun y => q' (pow_tb.mp y).symm)) e
end HALL
section CSY
variable {σ : Dt} {K : Nat → Nat}
theorem x_canSay (h : Hd σ K) {s u : Nat} (hs : s < 64) (hu : u < 1024) : f_X7_canSay 191 (nI s) (nI u) σ = some (bI (Mt K s u)) := by
  have hK : ∀ w, w < 6 → K w < 1024 := fun w hw => (h.2.1 w hw).2
  rw [show bI (Mt K s u) = bI (Hl K s u) from congrArg bI (propext (hall_iff hK hs)).symm]
  unfold f_X7_canSay
  have key := iter_w (f := fun q : Int32 => f_X7_canSay_L2 191 (nI s) (nI u) q σ) (s0 := (1 : Int32)) (P := fun i q => q = nI (i + 1) ∧ ∀ t, t < i + 1 → (∀ j, t.testBit j = true → s.testBit j = true) → popc t ≤ popc (koN K t &&& u)) (Q := fun x => (x = Sum.inl () ∧ ¬ Hl K s u) ∨ (x = Sum.inr () ∧ Hl K s u)) 63 (by decide) ⟨rfl, fun t ht _ => by rw [show t = 0 by omega]; exact Nat.zero_le _⟩ (fun i q hi hP => ?_)
  · obtain ⟨x, e1, e2⟩ := key
    rw [bo_of e1]
    rcases e2 with ⟨rfl, e2⟩ | ⟨rfl, e2⟩
    · rw [bI_f e2]; rfl
    · rw [bI_t e2]; rfl
  · obtain ⟨p1, p2⟩ := hP
    subst p1
    unfold f_X7_canSay_L2 f_X7_canSay_21 f_X7_canSay_48
    rcases (show i = 63 ∨ i < 63 by omega) with rfl | e
    · left
      rw [if_pos (by decide)]
      exact ⟨_, rfl, Or.inr ⟨rfl, fun t t1 t2 => p2 t (by omega) t2⟩⟩
    · have hko : koN K (i + 1) &&& u < 1024 := Nat.lt_of_le_of_lt Nat.and_le_right hu
      rw [if_neg (show ¬ (64 : Int32) ≤ nI (i + 1) from nI_ge (b := 64) (by omega) (by decide)), nI_andx, ite_10, ite_00, xs1 h.1, sai3 (by omega), h.2.2 (i + 1) (by omega), nI_and, bo_of (xbits hko _), bo_of (xbits (by omega) _), nI_1]
      have hle := nsub_le (i + 1) s
      have pi := popc_le (i + 1)
      have pk := popc_le (koN K (i + 1) &&& u)
      by_cases c : nsub (i + 1) s = 0
      · rw [ite_z_t c]
        by_cases c2 : popc (i + 1) ≤ popc (koN K (i + 1) &&& u)
        · right
          rw [ite_le_t (by omega) c2]
          refine ⟨e, _, rfl, rfl, fun t ht hts => ?_⟩
          rcases (show t = i + 1 ∨ t < i + 1 by omega) with z | z
          · rw [z]; exact c2
          · exact p2 t z hts
        · left
          rw [ite_le_f (by omega) (by omega)]
          refine ⟨_, rfl, Or.inl ⟨rfl, fun z => c2 (z (i + 1) (by omega) (fun j hj => ?_))⟩⟩
          apply Classical.byContradiction
          intro y
          have : (nsub (i + 1) s).testBit j = true := sub_tb.mpr ⟨hj, y⟩
          rw [c, Nat.zero_testBit] at this
          cases this
      · right
        rw [ite_z_f (by omega) c]
        refine ⟨e, _, rfl, rfl, fun t ht hts => ?_⟩
        rcases (show t = i + 1 ∨ t < i + 1 by omega) with z | z
        · subst z
          exfalso
          apply c
          apply Nat.eq_of_testBit_eq
          intro j
          rw [Nat.zero_testBit]
          cases y : (nsub (i + 1) s).testBit j
          · rfl
          · exact absurd (hts j (sub_tb.mp y).1) (sub_tb.mp y).2
        · exact p2 t z hts
end CSY
