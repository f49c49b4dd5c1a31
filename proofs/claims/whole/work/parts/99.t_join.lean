/-! ===== text: both sides of a line, what is common ===== -/
theorem pz_ge {B : Nat → Nat} {L i : Nat} (hi : i ≤ L) : ∀ j, i ≤ pz B L i j
  | 0 => Nat.le_refl _
  | j + 1 => by
    have h1 := pz_ge (B := B) hi j
    have h2 := tk_b (B := B) (pz_le (B := B) hi j)
    show i ≤ tE B L (pz B L i j)
    omega
theorem gJ_n {s k : Nat} {N Pl : Nat → Nat} {g : Nat × Nat} (h : ¬ g.1 = 0) : ∀ m, gJ s k N Pl g m = g
  | 0 => rfl
  | m + 1 => by
    rw [gJ, gJ_n h m, nt_n h]
    by_cases c : cb s k m N
    · exact ci_t c
    · exact ci_f c
theorem nt_z {g a : Nat × Nat} (ha : ¬ a.1 = 0) : ¬ (nt g a).1 = 0 := by
  by_cases z : g.1 = 0
  · rw [nt_0 z]; exact ha
  · rw [nt_n z]; exact z
theorem gJ_z {s k : Nat} {N Pl : Nat → Nat} {g : Nat × Nat} : ∀ m, (gJ s k N Pl g m).1 = 0 → gJ s k N Pl g m = g ∧ ∀ j, j < m → cb s k j N
  | 0, _ => ⟨rfl, fun j hj => absurd hj (Nat.not_lt_zero j)⟩
  | m + 1, h => by
    rw [gJ] at h ⊢
    by_cases c : cb s k m N
    · rw [ci_t c] at h ⊢
      obtain ⟨q1, q2⟩ := gJ_z m h
      refine ⟨q1, fun j hj => ?_⟩
      rcases (show j = m ∨ j < m by omega) with y | y
      · rw [y]; exact c
      · exact q2 j y
    · rw [ci_f c] at h
      exact absurd h (nt_z (show ¬ (2 : Nat) = 0 by decide))
noncomputable def nbGI (B : Nat → Nat) (L : Nat) (lo hi : Nat → Nat) (g : Nat × Nat) (m : Nat ⊕ Nat) : Nat → Nat × Nat
  | 0 => g
  | j + 1 => nbG B L (lo j) (hi j) (nbGI B L lo hi g m j) (nbI B L m j)
theorem nbG_2 {B : Nat → Nat} {L i lo hi : Nat} {g : Nat × Nat} (h : tT B L i = 2) : nbG B L lo hi g (.inl i) = ci (lo ≤ nv B L i ∧ nv B L i ≤ hi) g (nt g (2, tS B L i)) := by
  by_cases c : lo ≤ nv B L i ∧ nv B L i ≤ hi
  · rw [ci_t c]
    exact if_neg (fun z => z.2 c)
  · rw [ci_f c]
    exact if_pos ⟨h, c⟩
theorem nbV_2 {B : Nat → Nat} {L i lo hi : Nat} (h : tT B L i = 2) (h2 : lo ≤ nv B L i ∧ nv B L i ≤ hi) : nbV B L lo hi (.inl i) = nv B L i := if_pos ⟨h, h2⟩
theorem gJ_nb {B : Nat → Nat} {L s k i : Nat} {lo hi : Nat → Nat} {g : Nat × Nat} : ∀ m, (∀ j, j < m → tT B L (pz B L i j) = 2) → (∀ j, j < m → (cb s k j (fun j => nv B L (pz B L i j)) ↔ lo j ≤ nv B L (pz B L i j) ∧ nv B L (pz B L i j) ≤ hi j)) → gJ s k (fun j => nv B L (pz B L i j)) (fun j => tS B L (pz B L i j)) g m = nbGI B L lo hi g (.inl i) m
  | 0, _, _ => rfl
  | m + 1, ht, hc => by
    rw [gJ, nbGI, nbI_g m (fun j hj => ht j (by omega)), nbG_2 (ht m (by omega)), gJ_nb m (fun j hj => ht j (by omega)) (fun j hj => hc j (by omega)), propext (hc m (by omega))]
theorem tm_eq {P Q : Prop} [Decidable Q] {g a : Nat × Nat} (h : g.1 = 0 → (P ↔ ¬ Q)) : ci P (nt g a) g = if Q then g else nt g a := by
  by_cases z : g.1 = 0
  · by_cases q : Q
    · rw [if_pos q, ci_f (fun p => (h z).mp p q)]
    · rw [if_neg q, ci_t ((h z).mpr q)]
  · rw [nt_n z, ite_self]
    by_cases p : P
    · exact ci_t p
    · exact ci_f p
theorem ci_z {P : Prop} {g a : Nat × Nat} (ha : ¬ a.1 = 0) (h : (ci P (nt g a) g).1 = 0) : ¬ P ∧ g.1 = 0 := by
  by_cases p : P
  · rw [ci_t p] at h
    exact absurd h (nt_z ha)
  · rw [ci_f p] at h
    exact ⟨p, h⟩
/-- what a line may change in the class -/
def KL (σ τ : Dt) : Prop := (∀ a, (a < 155 ∨ 173 < a) → τ.1 a = σ.1 a) ∧ τ.1 155 6 = σ.1 155 6 ∧ τ.1 155 7 = σ.1 155 7 ∧ τ.2 = σ.2
theorem KL_0 (σ : Dt) : KL σ σ := ⟨fun _ _ => rfl, rfl, rfl, rfl⟩
theorem KL.tr {a b c : Dt} (h1 : KL a b) (h2 : KL b c) : KL a c := ⟨fun x hx => (h2.1 x hx).trans (h1.1 x hx), h2.2.1.trans h1.2.1, h2.2.2.1.trans h1.2.2.1, h2.2.2.2.trans h1.2.2.2⟩
theorem KS.kl {σ τ : Dt} (h : KS σ τ) : KL σ τ := ⟨fun a ha => h.1 a (by omega) (by omega) (by omega), h.2.1 6 (by decide) (by decide) (by decide) (by decide), h.2.1 7 (by decide) (by decide) (by decide) (by decide), h.2.2⟩
theorem KL_s {σ : Dt} {a j : Nat} {v : Int32} (h : (156 ≤ a ∧ a ≤ 173) ∨ (a = 155 ∧ ¬ j = 6 ∧ ¬ j = 7)) : KL σ (setX σ a j v) := ⟨fun b hb => setX_o (by omega), setX_ne (by omega), setX_ne (by omega), rfl⟩
theorem KL.ref {σ τ : Dt} (h : KL σ τ) (hR : RefX σ) : RefX τ := by
  unfold RefX at *
  rw [h.2.2.2]
  exact hR
theorem KL.rd {σ τ : Dt} {B : Nat → Nat} {L : Nat} (h : KL σ τ) (hR : Rd σ B L) : Rd τ B L := by
  obtain ⟨h1, h2, h3, h4, h5⟩ := hR
  refine ⟨h.ref h1, ?_, ?_, h4, fun i hi => ?_⟩
  · rw [h.2.2.2]; exact h2
  · rw [h.2.1]; exact h3
  · rw [h.1 2 (by decide)]; exact h5 i hi
theorem FX_c {σ τ : Dt} {g : Nat × Nat} (h3 : τ.1 155 3 = σ.1 155 3) (h4 : τ.1 155 4 = σ.1 155 4) (h : FX σ g) : FX τ g := by
  unfold FX at *
  rw [h3, h4]
  exact h
/-- a line judged: told where there is no fault -/
theorem x_jt {τ : Dt} {s k m e0 : Nat} {N Pl : Nat → Nat} {g : Nat × Nat} (hR : RefX τ) (hs : s < 3) (h7 : τ.1 155 7 = nI s) (hk : k ≤ 4) (hm : m ≤ 3) (hN : ∀ j, j < m → (τ.1 172 j = nI (N j) ∧ N j ≤ 99) ∧ τ.1 173 j = nI (Pl j)) (hF : FX τ g) : (¬ (gJ s k N Pl (ci (TMx s k τ) (nt g (3, e0)) g) m).1 = 0 → ∃ σ', JT k m e0 τ = some (1, σ') ∧ KG τ σ' ∧ FX σ' (gJ s k N Pl (ci (TMx s k τ) (nt g (3, e0)) g) m)) ∧ ((gJ s k N Pl (ci (TMx s k τ) (nt g (3, e0)) g) m).1 = 0 → ∃ σ', JT k m e0 τ = (bd (f_X5_tellLine 155 (nI k) σ') fun _ σ38 => some ((1 : Int32), σ38)) ∧ KG τ σ' ∧ FX σ' (gJ s k N Pl (ci (TMx s k τ) (nt g (3, e0)) g) m)) := by
  obtain ⟨σ', e1, e2, e3⟩ := x_judge (e0 := e0) hR hs h7 hk hm hN hF
  unfold JT
  rw [bd_of e1, e3.1]
  constructor
  · intro z
    rw [ite_z_f (by have := e3.2.2; omega) z]
    exact ⟨σ', rfl, e2, e3⟩
  · intro z
    rw [ite_z_t z]
    exact ⟨σ', rfl, e2, e3⟩
def JS (σx σm : Dt) (B : Nat → Nat) (L s i : Nat) (g : Nat × Nat) (D : Dt → Dt → Prop) (V : Dt → Prop) : Prop := Rd σx B L ∧ Rq σm B L ∧ σx.1 155 7 = nI s ∧ σx.1 155 9 = nI i ∧ FX σx g ∧ MD σm B L g (.inl i) ∧ V σm ∧ (g.1 = 0 → D σx σm)
/-- a line on both sides: it is out of form (0), or both go on -/
def JL (σx σm : Dt) (B : Nat → Nat) (L s i : Nat) (D : Dt → Dt → Prop) (V : Dt → Prop) (f : Nat → Dt → Option (Unit × Dt)) : Prop := ∃ r σx' σm', f_X5_readLine 155 σx = some (r, σx') ∧ f 0 σm = some ((), σm') ∧ KL σx σx' ∧ K3 σm σm' ∧ ((r = 0 ∧ V σm' ∧ ∃ p g', σx'.1 155 3 = 1 ∧ σx'.1 155 4 = nI p ∧ MD σm' B L g' (.inr p)) ∨ (r = 1 ∧ ∃ i' g', i < i' ∧ JS σx' σm' B L s i' g' D V))
/-- the parts of a line that was read whole -/
theorem j_good {σx σm : Dt} {B : Nat → Nat} {L s i : Nat} {g : Nat × Nat} {D : Dt → Dt → Prop} {V : Dt → Prop} {f : Nat → Dt → Option (Unit × Dt)} (hJ : JS σx σm B L s i g D V) (hs : s < 3) (hG : LGood B L s i) {τ : Dt} (q1 : KR σx τ) (q2 : τ.1 155 9 = nI (pz B L (tE B L i) (nmS s (lnK B L s i) + 1))) (q3 : NumR τ B L (tE B L i) (nmS s (lnK B L s i))) (q4 : f_X5_readLine 155 σx = JT (lnK B L s i) (nmS s (lnK B L s i)) (tS B L i) τ)
    {g' : Nat × Nat} (hg : gJ s (lnK B L s i) (fun j => nv B L (pz B L (tE B L i) j)) (fun j => tS B L (pz B L (tE B L i) j)) (ci (TMx s (lnK B L s i) σx) (nt g (3, tS B L i)) g) (nmS s (lnK B L s i)) = g')
    {σm' : Dt} (m1 : f 0 σm = some ((), σm')) (m2 : K3 σm σm') (m3 : MD σm' B L g' (elM B L (nbI B L (.inl (tE B L i)) (nmS s (lnK B L s i))))) (m4 : V σm')
    (ht : g'.1 = 0 → ∀ ρ, (∀ a, 156 ≤ a → a ≤ 171 → ρ.1 a = σx.1 a) → ρ.1 155 10 = σx.1 155 10 → ρ.1 155 7 = nI s → RefX ρ → ρ.1 172 = τ.1 172 → ∃ ρ', f_X5_tellLine 155 (nI (lnK B L s i)) ρ = some ((), ρ') ∧ KL ρ ρ' ∧ (∀ j, j < 10 → ρ'.1 155 j = ρ.1 155 j) ∧ D ρ' σm') : JL σx σm B L s i D V f := by
  obtain ⟨j1, j2, j3, j4, j5, j6, j7, j8⟩ := hJ
  have hi := j6.1
  have hb := tk_b (B := B) hi
  obtain ⟨t1, -, k4⟩ := lnK_1 hG.1
  have hlt := tk_lt (B := B) hi (by omega)
  have hm := nmS_le s (lnK B L s i)
  have hpz := pz_le (B := B) hb.2.2.1
  rw [lg_mode hG] at m3
  have htm : TMx s (lnK B L s i) τ = TMx s (lnK B L s i) σx := by
    unfold TMx
    rw [q1.1 164 (by decide) (by decide) (by decide), q1.1 169 (by decide) (by decide) (by decide), q1.1 156 (by decide) (by decide) (by decide)]
  have hR := q1.ref j1.1
  have h7 : τ.1 155 7 = nI s := by rw [q1.2.1 7 (by decide) (by decide)]; exact j3
  have hjt := x_jt (τ := τ) (e0 := tS B L i) (N := fun j => nv B L (pz B L (tE B L i) j)) (Pl := fun j => tS B L (pz B L (tE B L i) j)) hR hs h7 k4 hm (fun j hj => ⟨⟨((q3 j (by omega)).1 hj).1, nv_le (hpz j) (hG.2.1 j hj)⟩, ((q3 j (by omega)).1 hj).2⟩) (FX_c (q1.2.1 3 (by decide) (by decide)) (q1.2.1 4 (by decide) (by decide)) j5)
  rw [htm, hg] at hjt
  have hi' : i < pz B L (tE B L i) (nmS s (lnK B L s i) + 1) := by
    have := pz_ge (B := B) hb.2.2.1 (nmS s (lnK B L s i) + 1)
    omega
  by_cases z : g'.1 = 0
  · obtain ⟨ρ, u1, u2, u3⟩ := hjt.2 z
    obtain ⟨ρ', v1, v2, v3, v4⟩ := ht z ρ (fun a a1 a2 => by rw [u2.1 a (by omega), q1.1 a (by omega) (by omega) (by omega)]) (by rw [u2.2.1 10 (by decide) (by decide), q1.2.1 10 (by decide) (by decide)]) (by rw [u2.2.1 7 (by decide) (by decide)]; exact h7) (u2.ref hR) (u2.1 172 (by decide))
    have kl : KL σx ρ' := (q1.ks.kl.tr u2.ks.kl).tr v2
    refine ⟨1, ρ', σm', ?_, m1, kl, m2, Or.inr ⟨rfl, _, g', hi', kl.rd j1, m2.rq j2, by rw [kl.2.2.1]; exact j3, ?_, FX_c (v3 3 (by decide)) (v3 4 (by decide)) u3, m3, m4, fun _ => v4⟩⟩
    · rw [q4, u1, bd_of v1]
    · rw [v3 9 (by decide), u2.2.1 9 (by decide) (by decide)]; exact q2
  · obtain ⟨ρ, u1, u2, u3⟩ := hjt.1 z
    have kl : KL σx ρ := q1.ks.kl.tr u2.ks.kl
    refine ⟨1, ρ, σm', ?_, m1, kl, m2, Or.inr ⟨rfl, _, g', hi', kl.rd j1, m2.rq j2, by rw [kl.2.2.1]; exact j3, ?_, u3, m3, m4, fun y => absurd y z⟩⟩
    · rw [q4, u1]
    · rw [u2.2.1 9 (by decide) (by decide)]; exact q2
theorem j_bad {σx σm : Dt} {B : Nat → Nat} {L s i p : Nat} {g' : Nat × Nat} {D : Dt → Dt → Prop} {V : Dt → Prop} {f : Nat → Dt → Option (Unit × Dt)} {τ σm' : Dt} (q1 : f_X5_readLine 155 σx = some (0, τ)) (q2 : KS σx τ) (q3 : τ.1 155 3 = 1) (q4 : τ.1 155 4 = nI p) (m1 : f 0 σm = some ((), σm')) (m2 : K3 σm σm') (m3 : MD σm' B L g' (.inr p)) (m4 : V σm') : JL σx σm B L s i D V f := ⟨0, τ, σm', q1, m1, q2.kl, m2, Or.inl ⟨rfl, m4, p, g', q3, q4, m3⟩⟩
