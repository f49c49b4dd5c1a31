/-! ===== text: a valley's end ===== -/
/-- grandparents: the parents' parents -/
def grH (p : Nat → Nat) (f i : Nat) : Nat := if (p f).testBit i = true then p i else 0
def grP (p : Nat → Nat) (f : Nat) : Nat := fld (fun i x => x ||| grH p f i) 0 10
def P4 (T F n : Nat) : Prop := ∃ f, f < n ∧ T.testBit f = true ∧ F ≤ f
def P5 (p : Nat → Nat) (n : Nat) : Prop := ∃ f, f < n ∧ 2 < popc (p f)
theorem ci_c {α : Type} {P Q : Prop} {a b : α} (h : P ↔ Q) : ci P a b = ci Q a b := by rw [propext h]
section JUV
variable {σ : Dt} {F T L : Nat} {p : Nat → Nat} {g : Nat × Nat}
theorem x_jv1 (hR : RefX σ) (hF : σ.1 156 0 = nI F) (hF10 : F ≤ 10) (hT : σ.1 155 10 = nI T) (hT2 : T < 1024) (h6 : σ.1 155 6 = nI L) (hg : FX σ g) (hz : g.1 = 0) : ∃ τ, iter FU (fun s => f_X5_judgeValley_L2 155 s.1 s.2) ((0 : Int32), σ) = some τ ∧ KG σ τ ∧ FX τ (ci (P4 T F 10) (4, L) g) := by
  refine iter_w (f := fun q : Int32 × Dt => f_X5_judgeValley_L2 155 q.1 q.2) (P := fun j q => q.1 = nI j ∧ KG σ q.2 ∧ FX q.2 (ci (P4 T F j) (4, L) g)) (Q := fun τ => KG σ τ ∧ FX τ (ci (P4 T F 10) (4, L) g)) 10 (by decide) ⟨rfl, KG_0 σ, by rw [ci_f (fun ⟨f, hf, _⟩ => absurd hf (Nat.not_lt_zero f))]; exact hg⟩ (fun j q hj hP => ?_)
  obtain ⟨x, ρ⟩ := q
  obtain ⟨p1, p2, p3⟩ := hP
  dsimp only at p1 p2 p3 ⊢
  subst p1
  unfold f_X5_judgeValley_L2 f_X5_judgeValley_39
  rcases (show j = 10 ∨ j < 10 by omega) with y | y
  · left
    subst y
    rw [if_pos (by decide)]
    exact ⟨_, rfl, p2, p3⟩
  · right
    have e10 : ρ.1 155 10 = nI T := by rw [p2.2.1 10 (by decide) (by decide)]; exact hT
    have e0 : ρ.1 156 0 = nI F := by rw [p2.1 156 (by decide)]; exact hF
    have e6 : ρ.1 155 6 = nI L := by rw [p2.2.1 6 (by decide) (by decide)]; exact h6
    rw [if_neg (le10 y), r_gi, e10, r_r0 (p2.ref hR), r_g9, e0, r_gi, e6, nI_1]
    simp only [bit0 (show T < 2 ^ 31 by omega) (show j < 32 by omega)]
    have same : ¬ (T.testBit j = true ∧ F ≤ j) → FX ρ (ci (P4 T F (j + 1)) (4, L) g) := fun h => by
      rw [ci_c (show P4 T F (j + 1) ↔ P4 T F j from ⟨fun ⟨f, h1, h2, h3⟩ => ⟨f, by
        rcases (show f = j ∨ f < j by omega) with w | w
        · subst w; exact absurd ⟨h2, h3⟩ h
        · exact w, h2, h3⟩, fun ⟨f, h1, h2, h3⟩ => ⟨f, by omega, h2, h3⟩⟩)]
      exact p3
    by_cases c : T.testBit j = true
    · rw [if_neg (fun z => z c)]
      by_cases d : j < F
      · rw [ite_lt_t (by omega) d]
        exact ⟨y, _, rfl, rfl, p2, same (fun z => by omega)⟩
      · obtain ⟨τ, n1, n2, n3⟩ := x_note (c := 4) (p := L) p3 (by decide) (by decide)
        rw [ite_lt_f (by omega) (by omega), bo_of r_rc, bd_of (show f_X5_note 155 (4 : Int32) (nI L) ρ = _ from n1)]
        refine ⟨y, _, rfl, rfl, p2.tr n3, ?_⟩
        rw [ci_t (show P4 T F (j + 1) from ⟨j, by omega, c, by omega⟩)]
        have e : nt (ci (P4 T F j) (4, L) g) (4, L) = (4, L) := by
          by_cases w : P4 T F j
          · rw [ci_t w]; rfl
          · rw [ci_f w, nt_0 hz]
        rw [e] at n2
        exact n2
    · rw [if_pos c]
      exact ⟨y, _, rfl, rfl, p2, same (fun z => c z.1)⟩
theorem x_jv2 (hR : RefX σ) (hp : ∀ f, f < 10 → σ.1 159 f = nI (p f) ∧ p f < 1024) (h6 : σ.1 155 6 = nI L) (hg : FX σ g) : ∃ τ, iter FU (fun s => f_X5_judgeValley_L47 155 s.1 s.2) ((0 : Int32), σ) = some τ ∧ KG σ τ ∧ FX τ (ci (P5 p 10) (nt g (5, L)) g) := by
  refine iter_w (f := fun q : Int32 × Dt => f_X5_judgeValley_L47 155 q.1 q.2) (P := fun j q => q.1 = nI j ∧ KG σ q.2 ∧ FX q.2 (ci (P5 p j) (nt g (5, L)) g)) (Q := fun τ => KG σ τ ∧ FX τ (ci (P5 p 10) (nt g (5, L)) g)) 10 (by decide) ⟨rfl, KG_0 σ, by rw [ci_f (fun ⟨f, hf, _⟩ => absurd hf (Nat.not_lt_zero f))]; exact hg⟩ (fun j q hj hP => ?_)
  obtain ⟨x, ρ⟩ := q
  obtain ⟨p1, p2, p3⟩ := hP
  dsimp only at p1 p2 p3 ⊢
  subst p1
  unfold f_X5_judgeValley_L47 f_X5_judgeValley_78
  rcases (show j = 10 ∨ j < 10 by omega) with y | y
  · left
    subst y
    rw [if_pos (by decide)]
    exact ⟨_, rfl, p2, p3⟩
  · right
    have hRρ := p2.ref hR
    have e9 : ρ.1 159 j = nI (p j) := by rw [p2.1 159 (by decide)]; exact (hp j y).1
    have e6 : ρ.1 155 6 = nI L := by rw [p2.2.1 6 (by decide) (by decide)]; exact h6
    have hpc := popc_le (p j)
    rw [if_neg (le10 y), r_r0 hRρ, r_v5 hRρ, r_a (by omega), e9, bo_of (xbits (hp j y).2 _), r_gi, e6, nI_1]
    by_cases c : 2 < popc (p j)
    · obtain ⟨τ, n1, n2, n3⟩ := x_note (c := 5) (p := L) p3 (by decide) (by decide)
      rw [if_neg (show ¬ nI (popc (p j)) ≤ (2 : Int32) from nI_ge (a := 2) c (by omega)), bo_of r_rc, bd_of (show f_X5_note 155 (5 : Int32) (nI L) ρ = _ from n1)]
      refine ⟨y, _, rfl, rfl, p2.tr n3, ?_⟩
      rw [ci_t (show P5 p (j + 1) from ⟨j, by omega, c⟩)]
      have e : nt (ci (P5 p j) (nt g (5, L)) g) (5, L) = nt g (5, L) := by
        by_cases w : P5 p j
        · rw [ci_t w, nt_nt (show ¬ (5 : Nat) = 0 by decide)]
        · rw [ci_f w]
      rw [e] at n2
      exact n2
    · rw [if_pos (show nI (popc (p j)) ≤ (2 : Int32) from nI_le (b := 2) (by omega) (by decide))]
      refine ⟨y, _, rfl, rfl, p2, ?_⟩
      rw [ci_c (show P5 p (j + 1) ↔ P5 p j from ⟨fun ⟨f, h1, h2⟩ => ⟨f, by
        rcases (show f = j ∨ f < j by omega) with w | w
        · subst w; exact absurd h2 c
        · exact w, h2⟩, fun ⟨f, h1, h2⟩ => ⟨f, by omega, h2⟩⟩)]
      exact p3
theorem x_judgeV (hR : RefX σ) (hF : σ.1 156 0 = nI F) (hF10 : F ≤ 10) (hT : σ.1 155 10 = nI T) (hT2 : T < 1024) (hp : ∀ f, f < 10 → σ.1 159 f = nI (p f) ∧ p f < 1024) (h6 : σ.1 155 6 = nI L) (hg : FX σ g) (hz : g.1 = 0) : ∃ τ, f_X5_judgeValley 155 σ = some ((), τ) ∧ KG σ τ ∧ FX τ (ci (P5 p 10) (nt (ci (P4 T F 10) (4, L) g) (5, L)) (ci (P4 T F 10) (4, L) g)) := by
  obtain ⟨τ, a1, a2, a3⟩ := x_jv1 hR hF hF10 hT hT2 h6 hg hz
  obtain ⟨τ', b1, b2, b3⟩ := x_jv2 (p := p) (a2.ref hR) (fun f hf => by rw [a2.1 159 (by decide)]; exact hp f hf) (by rw [a2.2.1 6 (by decide) (by decide)]; exact h6) a3
  unfold f_X5_judgeValley
  rw [bo_of a1, bo_of b1]
  exact ⟨τ', rfl, a2.tr b2, b3⟩
/-- only the rows of the grandparents and of their strength have changed -/
def KV (σ τ : Dt) : Prop := (∀ a, ¬ a = 160 → ¬ a = 161 → τ.1 a = σ.1 a) ∧ τ.2 = σ.2
theorem KV.tr {a b c : Dt} (h1 : KV a b) (h2 : KV b c) : KV a c := ⟨fun x x1 x2 => (h2.1 x x1 x2).trans (h1.1 x x1 x2), h2.2.trans h1.2⟩
theorem KV_s {a j : Nat} {v : Int32} (h : a = 160 ∨ a = 161) : KV σ (setX σ a j v) := ⟨fun b b1 b2 => setX_o (by omega), rfl⟩
theorem KV.ref {τ : Dt} (h : KV σ τ) (hR : RefX σ) : RefX τ := by
  unfold RefX at *
  rw [h.2]
  exact hR
theorem x_st1 {i : Nat} (hi : i < 10) (hR : RefX σ) (hp : ∀ f, f < 10 → σ.1 159 f = nI (p f) ∧ p f < 1024) (h0 : σ.1 160 i = 0) : iter FU (fun s => f_X9_settle_L24 156 (nI i) s.1 s.2) ((0 : Int32), σ) = some (setX σ 160 i (nI (grP p i))) := by
  have key := iter_n (f := fun q : Int32 × Dt => f_X9_settle_L24 156 (nI i) q.1 q.2) (st := fun j => (nI j, setX σ 160 i (nI (fld (fun i' x => x ||| grH p i i') 0 j)))) (x := setX σ 160 i (nI (grP p i))) 10 (by decide) (fun j hj => ?_) ?_
  · have e : setX σ 160 i (nI (fld (fun i' x => x ||| grH p i i') 0 0)) = σ := setX_same h0
    rw [e] at key
    exact key
  · dsimp only
    obtain ⟨q1, q2⟩ := hp i hi
    obtain ⟨q3, q4⟩ := hp j hj
    unfold f_X9_settle_L24 f_X9_settle_58
    rw [if_neg (le10 hj), grS, r_v5 hR, r_a (by omega), setX_o (by decide), q1, nI_1]
    simp only [bit0 (show p i < 2 ^ 31 by omega) (show j < 32 by omega)]
    show _ = some (Sum.inl (nI (j + 1), setX σ 160 i (nI (fld (fun i' x => x ||| grH p i i') 0 j ||| grH p i j))))
    unfold grH
    by_cases c : (p i).testBit j = true
    · rw [if_neg (fun z => z c), grS, r_v6 hR, r_a (by omega), setX_j, grS, r_v5 hR, r_a (by omega), setX_o (by decide), q3, nI_or, r_s (by omega), setX_set, if_pos c]
    · rw [if_pos c, if_neg c, Nat.or_zero]
  · dsimp only
    unfold f_X9_settle_L24
    rw [if_pos (by decide)]
    rfl
theorem x_st2 (hR : RefX σ) (hp : ∀ f, f < 10 → σ.1 159 f = nI (p f) ∧ p f < 1024) : ∃ τ, iter FU (fun s => f_X9_settle_L2 156 s.1 s.2) ((0 : Int32), σ) = some τ ∧ KV σ τ ∧ ∀ f, f < 10 → τ.1 160 f = nI (grP p f) ∧ τ.1 161 f = 0 := by
  refine iter_w (f := fun q : Int32 × Dt => f_X9_settle_L2 156 q.1 q.2) (P := fun j q => q.1 = nI j ∧ KV σ q.2 ∧ ∀ f, f < j → q.2.1 160 f = nI (grP p f) ∧ q.2.1 161 f = 0) (Q := fun τ => KV σ τ ∧ ∀ f, f < 10 → τ.1 160 f = nI (grP p f) ∧ τ.1 161 f = 0) 10 (by decide) ⟨rfl, ⟨fun _ _ _ => rfl, rfl⟩, fun f hf => absurd hf (Nat.not_lt_zero f)⟩ (fun j q hj hP => ?_)
  obtain ⟨x, ρ⟩ := q
  obtain ⟨p1, p2, p3⟩ := hP
  dsimp only at p1 p2 p3 ⊢
  subst p1
  unfold f_X9_settle_L2
  rcases (show j = 10 ∨ j < 10 by omega) with y | y
  · left
    subst y
    rw [if_pos (by decide)]
    exact ⟨_, rfl, p2, p3⟩
  · right
    have hRρ := p2.ref hR
    have k1 : KV ρ (setX (setX ρ 160 j 0) 161 j 0) := (KV_s (Or.inl rfl)).tr (KV_s (Or.inr rfl))
    have key := x_st1 (σ := setX (setX ρ 160 j 0) 161 j 0) (p := p) y (k1.ref hRρ) (fun f hf => by rw [k1.1 159 (by decide) (by decide), p2.1 159 (by decide) (by decide)]; exact hp f hf) (by rw [setX_o (by decide), setX_j])
    rw [if_neg (le10 y), r_v6 hRρ, r_s (by omega), grS, r_v7 hRρ, r_s (by omega), bo_of key, nI_1]
    refine ⟨y, _, rfl, rfl, (p2.tr k1).tr (KV_s (Or.inl rfl)), fun f hf => ?_⟩
    show (setX (setX (setX ρ 160 j 0) 161 j 0) 160 j (nI (grP p j))).1 160 f = _ ∧ (setX (setX (setX ρ 160 j 0) 161 j 0) 160 j (nI (grP p j))).1 161 f = 0
    rcases (show f = j ∨ f < j by omega) with w | w
    · subst w
      exact ⟨setX_j, by rw [setX_o (by decide), setX_j]⟩
    · obtain ⟨u1, u2⟩ := p3 f w
      constructor
      · rw [setX_n (by omega), setX_o (by decide), setX_n (by omega)]; exact u1
      · rw [setX_o (by decide), setX_n (by omega), setX_o (by decide)]; exact u2
theorem x_st3 {A : Nat → Int32} {i : Nat} (hi : i < 10) (hR : RefX σ) (hF : σ.1 156 0 = nI F) (hF10 : F ≤ 10) (hs : ∀ f, f < F → σ.1 158 f = A (4 + 4 * f)) (hg : σ.1 160 i = nI (grP p i)) (h0 : σ.1 161 i = 0) : iter FU (fun s => f_X9_settle_L80 156 (nI i) s.1 s.2) ((0 : Int32), σ) = some (setX σ 161 i (strA A (nI (grP p i)) (-1) F)) := by
  have key := iter_n (f := fun q : Int32 × Dt => f_X9_settle_L80 156 (nI i) q.1 q.2) (st := fun j => (nI j, setX σ 161 i (strA A (nI (grP p i)) (-1) j))) (x := setX σ 161 i (strA A (nI (grP p i)) (-1) F)) F (by omega) (fun j hj => ?_) ?_
  · have e : setX σ 161 i (strA A (nI (grP p i)) (-1) 0) = σ := setX_same h0
    rw [e] at key
    exact key
  · dsimp only
    unfold f_X9_settle_L80 f_X9_settle_122
    rw [giSn (by omega), r_g9, hF, ite_le_f (by omega) hj, if_neg (le10 (by omega)), grS, r_v6 hR, r_a (by omega), setX_o (by decide), hg, nI_1]
    show _ = some (Sum.inl (nI (j + 1), setX σ 161 i (strA A (nI (grP p i)) (-1) j + (if (nI (grP p i) >>> (nI j &&& 31)) &&& 1 = 1 ∧ ¬ nI j = -1 then A (4 + 4 * j) else 0))))
    by_cases c : (nI (grP p i) >>> (nI j &&& 31)) &&& 1 = 1
    · rw [if_neg (bit_ne.mpr c), grS, r_v7 hR, r_a (by omega), setX_j, grS, r_v4 hR, r_a (by omega), setX_o (by decide), hs j hj, r_s (by omega), setX_set, if_pos ⟨c, nI_m1 (by omega)⟩]
    · rw [if_pos ((bit01 _).resolve_right c), if_neg (fun z => c z.1), Int32.add_zero]
  · dsimp only
    unfold f_X9_settle_L80
    rw [giSn (by omega), r_g9, hF, if_pos (nI_le (Nat.le_refl _) (by omega))]
theorem x_settle {A : Nat → Int32} (hR : RefX σ) (hF : σ.1 156 0 = nI F) (hF10 : F ≤ 10) (hp : ∀ f, f < 10 → σ.1 159 f = nI (p f) ∧ p f < 1024) (hs : ∀ f, f < F → σ.1 158 f = A (4 + 4 * f)) : ∃ τ, f_X9_settle 156 σ = some ((), τ) ∧ KV σ τ ∧ ∀ f, f < 10 → τ.1 160 f = nI (grP p f) ∧ τ.1 161 f = strA A (nI (grP p f)) (-1) F := by
  obtain ⟨σ1, a1, a2, a3⟩ := x_st2 hR hp
  have key := iter_w (f := fun q : Int32 × Dt => f_X9_settle_L72 156 q.1 q.2) (s0 := ((0 : Int32), σ1)) (P := fun j q => q.1 = nI j ∧ KV σ q.2 ∧ (∀ f, f < 10 → q.2.1 160 f = nI (grP p f)) ∧ (∀ f, f < j → q.2.1 161 f = strA A (nI (grP p f)) (-1) F) ∧ ∀ f, j ≤ f → f < 10 → q.2.1 161 f = 0) (Q := fun τ => KV σ τ ∧ ∀ f, f < 10 → τ.1 160 f = nI (grP p f) ∧ τ.1 161 f = strA A (nI (grP p f)) (-1) F) 10 (by decide) ⟨rfl, a2, fun f hf => (a3 f hf).1, fun f hf => absurd hf (Nat.not_lt_zero f), fun f _ hf => (a3 f hf).2⟩ (fun j q hj hP => ?_)
  · obtain ⟨τ, b1, b2, b3⟩ := key
    unfold f_X9_settle
    rw [bo_of a1, bo_of b1]
    exact ⟨τ, rfl, b2, b3⟩
  · obtain ⟨x, ρ⟩ := q
    obtain ⟨p1, p2, p3, p4, p5⟩ := hP
    dsimp only at p1 p2 p3 p4 p5 ⊢
    subst p1
    unfold f_X9_settle_L72 f_X9_settle_128
    rcases (show j = 10 ∨ j < 10 by omega) with y | y
    · left
      subst y
      rw [if_pos (by decide)]
      exact ⟨_, rfl, p2, fun f hf => ⟨p3 f hf, p4 f hf⟩⟩
    · right
      have st := x_st3 (σ := ρ) (A := A) (p := p) y (p2.ref hR) (by rw [p2.1 156 (by decide) (by decide)]; exact hF) hF10 (fun f hf => by rw [p2.1 158 (by decide) (by decide)]; exact hs f hf) (p3 j y) (p5 j (Nat.le_refl _) y)
      rw [if_neg (le10 y), bo_of st, nI_1]
      refine ⟨y, _, rfl, rfl, p2.tr (KV_s (Or.inr rfl)), fun f hf => ?_, fun f hf => ?_, fun f h1 h2 => ?_⟩
      · show (setX ρ 161 j (strA A (nI (grP p j)) (-1) F)).1 160 f = _
        rw [setX_o (by decide)]; exact p3 f hf
      · show (setX ρ 161 j (strA A (nI (grP p j)) (-1) F)).1 161 f = _
        rcases (show f = j ∨ f < j by omega) with w | w
        · subst w; exact setX_j
        · rw [setX_n (by omega)]; exact p4 f w
      · show (setX ρ 161 j (strA A (nI (grP p j)) (-1) F)).1 161 f = _
        rw [setX_n (by omega)]; exact p5 f (by omega) h2
end JUV
