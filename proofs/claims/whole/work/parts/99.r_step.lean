/-! ===== text: the reference's steps ===== -/
/-- only the token, the flag of a wrong form and the fault have changed -/
def KF (σ τ : Dt) : Prop := (∀ b, ¬ b = 0 → ¬ b = 1 → τ.1 b = σ.1 b) ∧ (∀ j, (j < 3 ∨ 8 < j) → τ.1 0 j = σ.1 0 j) ∧ (∀ j, ¬ j = 5 → ¬ j = 6 → τ.1 1 j = σ.1 1 j) ∧ τ.2.2 = σ.2.2
theorem KF_0 (σ : Dt) : KF σ σ := ⟨fun _ _ _ => rfl, fun _ _ => rfl, fun _ _ _ => rfl, rfl⟩
theorem KF.tr {a b c : Dt} (h1 : KF a b) (h2 : KF b c) : KF a c := ⟨fun x x1 x2 => (h2.1 x x1 x2).trans (h1.1 x x1 x2), fun j j1 => (h2.2.1 j j1).trans (h1.2.1 j j1), fun j j1 j2 => (h2.2.2.1 j j1 j2).trans (h1.2.2.1 j j1 j2), h2.2.2.2.trans h1.2.2.2⟩
theorem KT.kf {σ τ : Dt} (h : KT σ τ) : KF σ τ := ⟨fun b b1 _ => h.1 b b1, fun j hj => h.2.1 j (by omega), fun j _ _ => by rw [h.1 1 (by decide)], h.2.2⟩
theorem KF.ref {σ τ : Dt} (h : KF σ τ) (hR : RefM σ) : RefM τ := by
  unfold RefM at *
  rw [h.2.2.2]
  exact hR
theorem KF.rq {σ τ : Dt} {B : Nat → Nat} {L : Nat} (h : KF σ τ) (hR : Rq σ B L) : Rq τ B L := by
  obtain ⟨h1, h2, h3, h4⟩ := hR
  refine ⟨h.ref h1, ?_, h3, fun i hi => ?_⟩
  · rw [h.2.1 2 (by omega)]; exact h2
  · rw [h.2.2.1 _ (by omega) (by omega)]; exact h4 i hi
/-- only the fault has changed -/
def KA (σ τ : Dt) : Prop := (∀ b, ¬ b = 1 → τ.1 b = σ.1 b) ∧ (∀ j, ¬ j = 5 → ¬ j = 6 → τ.1 1 j = σ.1 1 j) ∧ τ.2.2 = σ.2.2
theorem KA_0 (σ : Dt) : KA σ σ := ⟨fun _ _ => rfl, fun _ _ _ => rfl, rfl⟩
theorem KA.kf {σ τ : Dt} (h : KA σ τ) : KF σ τ := ⟨fun b _ b1 => h.1 b b1, fun j _ => by rw [h.1 0 (by decide)], h.2.1, h.2.2⟩
theorem KA_f {σ : Dt} {v w : Int32} : KA σ (setX (setX σ 1 5 v) 1 6 w) := ⟨fun b hb => by rw [setX_o hb, setX_o hb], fun j h1 h2 => by rw [setX_n h2, setX_n h1], rfl⟩
def FP (σ : Dt) (g : Nat × Nat) : Prop := σ.1 1 5 = nI g.1 ∧ σ.1 1 6 = (if g.1 = 0 then -1 else nI g.2) ∧ g.1 ≤ 5 ∧ g.2 ≤ 600
/-- the reference reads at i, or has found the form wrong at p -/
def MD (σ : Dt) (B : Nat → Nat) (L : Nat) (g : Nat × Nat) : Nat ⊕ Nat → Prop
  | .inl i => i ≤ L ∧ σ.1 0 8 = 0 ∧ TkM σ B (tT B L i) (tS B L i) (tE B L i) ∧ FP σ g ∧ (¬ g.1 = 0 → g.2 < tS B L i)
  | .inr p => σ.1 0 8 = 1 ∧ σ.1 1 5 = 1 ∧ σ.1 1 6 = nI p
theorem mg0 {β : Type} {σ : Dt} {k : Option Nat → Option β} (hR : RefM σ) : bo (xgr SM 12 0 (some 0) σ) k = k (some 1) := bo_of (m_r hR (by decide) rfl)
theorem mg10 {β : Type} {σ : Dt} {k : Option Nat → Option β} (hR : RefM σ) : bo (xgr SM 12 10 (some 0) σ) k = k (some 3) := bo_of (m_r hR (by decide) rfl)
theorem ms1 {β : Type} {i : Nat} {v : Int32} {σ : Dt} {k : Dt → Option β} (hi : i < 4312) : bo (xsi SM (some 1) (nI i) v σ) k = k (setX σ 1 i v) := bo_of (msi i v σ hi)
theorem ma1 {β : Type} {i : Nat} {σ : Dt} {k : Int32 → Option β} (hi : i < 4312) : bo (xai SM (some 1) (nI i) σ) k = k (σ.1 1 i) := bo_of (mai i σ hi)
theorem ms3 {β : Type} {i : Nat} {v : Int32} {σ : Dt} {k : Dt → Option β} (hi : i < 161) : bo (xsi SM (some 3) (nI i) v σ) k = k (setX σ 3 i v) := bo_of (xsiX (by decide) (by decide) (show i < SM.2.2 3 from hi) (by decide))
theorem ma3 {β : Type} {i : Nat} {σ : Dt} {k : Int32 → Option β} (hi : i < 161) : bo (xai SM (some 3) (nI i) σ) k = k (σ.1 3 i) := bo_of (xai_of (by decide) (by decide) (show i < SM.2.2 3 from hi) (by decide))
theorem mpz8 {β : Type} {v : Int32} {σ : Dt} {k : Dt → Option β} (hv : v = 0 ∨ v = 1) : bo (xpz SM 12 8 (some 0) v σ) k = k (setX σ 0 8 v) := bo_of (xpz_of (by decide) (by decide) hv)
section MST
variable {σ : Dt} {B : Nat → Nat} {L i : Nat} {g : Nat × Nat}
theorem TkM_2 {t e e2 : Nat} (h : TkM σ B t e e2) (ht : t = 2) : σ.1 0 5 = 1 ∧ σ.1 0 6 = nI (nuB B e (e2 - e)) := by
  rcases h.2.2 with ⟨a, b⟩ | ⟨a, b⟩ | ⟨a, b⟩ | ⟨a, b, c⟩ | ⟨a, b, c⟩
  · omega
  · omega
  · omega
  · exact ⟨b, c⟩
  · omega
theorem TkM_n2 {t e e2 : Nat} (h : TkM σ B t e e2) (ht : ¬ t = 2) : ¬ σ.1 0 5 = 1 := by
  rcases h.2.2 with ⟨a, b⟩ | ⟨a, b⟩ | ⟨a, b⟩ | ⟨a, b, c⟩ | ⟨a, b, c⟩
  · rw [b]; decide
  · rw [b]; decide
  · rw [b]; decide
  · exact absurd a ht
  · rw [c]
    by_cases z : wcN B e e2 = 99
    · rw [if_pos z]; decide
    · rw [if_neg z]; decide
theorem TkM_3 {t e e2 : Nat} (h : TkM σ B t e e2) : (t = 3 → σ.1 0 5 = 2) ∧ (¬ t = 3 → ¬ σ.1 0 5 = 2) := by
  rcases h.2.2 with ⟨a, b⟩ | ⟨a, b⟩ | ⟨a, b⟩ | ⟨a, b, c⟩ | ⟨a, b, c⟩
  · exact ⟨fun z => by omega, fun _ => by rw [b]; decide⟩
  · exact ⟨fun _ => b, fun z => absurd a z⟩
  · exact ⟨fun z => by omega, fun _ => by rw [b]; decide⟩
  · exact ⟨fun z => by omega, fun _ => by rw [b]; decide⟩
  · refine ⟨fun z => by omega, fun _ => ?_⟩
    rw [c]
    by_cases z : wcN B e e2 = 99
    · rw [if_pos z]; decide
    · rw [if_neg z]; decide
theorem TkM_0 {t e e2 : Nat} (h : TkM σ B t e e2) : (t = 0 → σ.1 0 5 = 0) ∧ (¬ t = 0 → ¬ σ.1 0 5 = 0) := by
  rcases h.2.2 with ⟨a, b⟩ | ⟨a, b⟩ | ⟨a, b⟩ | ⟨a, b, c⟩ | ⟨a, b, c⟩
  · exact ⟨fun _ => b, fun z => absurd a z⟩
  · exact ⟨fun z => by omega, fun _ => by rw [b]; decide⟩
  · exact ⟨fun z => by omega, fun _ => by rw [b]; decide⟩
  · exact ⟨fun z => by omega, fun _ => by rw [b]; decide⟩
  · refine ⟨fun z => by omega, fun _ => ?_⟩
    rw [c]
    by_cases z : wcN B e e2 = 99
    · rw [if_pos z]; decide
    · rw [if_neg z]; decide
theorem TkM_w {t e e2 : Nat} (h : TkM σ B t e e2) : (t = 1 ∧ ¬ wcN B e e2 = 99 → σ.1 0 5 = 3 ∧ σ.1 0 7 = nI (wcN B e e2)) ∧ (¬ (t = 1 ∧ ¬ wcN B e e2 = 99) → ¬ σ.1 0 5 = 3) := by
  rcases h.2.2 with ⟨a, b⟩ | ⟨a, b⟩ | ⟨a, b⟩ | ⟨a, b, c⟩ | ⟨a, b, c⟩
  · exact ⟨fun z => by omega, fun _ => by rw [b]; decide⟩
  · exact ⟨fun z => by omega, fun _ => by rw [b]; decide⟩
  · exact ⟨fun z => by omega, fun _ => by rw [b]; decide⟩
  · exact ⟨fun z => by omega, fun _ => by rw [b]; decide⟩
  · rw [c]
    by_cases z : wcN B e e2 = 99
    · exact ⟨fun y => absurd z y.2, fun _ => by rw [if_pos z]; decide⟩
    · exact ⟨fun _ => ⟨if_neg z, b⟩, fun y => absurd ⟨a, z⟩ y⟩
theorem KA.tkm {τ : Dt} {t e e2 : Nat} (h : KA σ τ) (hT : TkM σ B t e e2) : TkM τ B t e e2 := by
  unfold TkM at *
  rw [h.1 0 (by decide)]
  exact hT
theorem m_ends (hR : RefM σ) (h8 : σ.1 0 8 = 0) {p : Nat} (h4 : σ.1 0 4 = nI p) : ∃ τ, f_X12_ends 0 σ = some ((), τ) ∧ KF σ τ ∧ MD τ B L g (.inr p) := by
  unfold f_X12_ends
  rw [mgiB, h8, if_pos rfl, mpz8 (Or.inr rfl), grS, mg0 hR, show (5 : Int32) = nI 5 from rfl, ms1 (by decide), grS, grS, mg0 hR, mgiB, setX_o (by decide), setX_n (by decide), h4, show (6 : Int32) = nI 6 from rfl, ms1 (by decide)]
  refine ⟨_, rfl, ⟨fun b b1 b2 => by rw [setX_o b2, setX_o b2, setX_o b1], fun j hj => by rw [setX_o (by decide), setX_o (by decide), setX_n (by omega)], fun j j1 j2 => by rw [setX_n j2, setX_n j1, setX_o (by decide)], rfl⟩, ?_, ?_, ?_⟩
  · rw [setX_o (by decide), setX_o (by decide), setX_j]
  · rw [setX_n (by decide), setX_j]
  · rw [setX_j]
theorem m_endsW (h8 : σ.1 0 8 = 1) : f_X12_ends 0 σ = some ((), σ) := by
  unfold f_X12_ends
  rw [mgiB, h8, if_neg (by decide)]
theorem m_also {kd at' : Nat} (hR : RefM σ) (h8 : σ.1 0 8 = 0) (hF : FP σ g) (h1 : 1 ≤ kd) (h5 : kd ≤ 5) (ha : at' ≤ 600) (hc : ¬ g.1 = 0 → g.2 < at' ∨ (g.2 = at' ∧ g.1 ≤ kd)) : ∃ τ, f_X12_also 0 (nI kd) (nI at') σ = some ((), τ) ∧ KA σ τ ∧ FP τ (nt g (kd, at')) := by
  obtain ⟨f1, f2, f3, f4⟩ := hF
  unfold f_X12_also
  rw [mgiB, h8, if_pos rfl, mg0 hR, show (5 : Int32) = nI 5 from rfl, ma1 (by decide), f1]
  by_cases z : g.1 = 0
  · unfold f_X12_also_49
    rw [ite_z_t z, mg0 hR, show (5 : Int32) = nI 5 from rfl, ms1 (by decide), grS, mg0 hR, show (6 : Int32) = nI 6 from rfl, ms1 (by decide), nt_0 z]
    refine ⟨_, rfl, KA_f, ?_, ?_, h5, ha⟩
    · rw [setX_n (by decide), setX_j]
    · rw [setX_j, if_neg (show ¬ kd = 0 by omega)]
  · rw [if_neg z] at f2
    rw [ite_z_f (by omega) z, mg0 hR, show (6 : Int32) = nI 6 from rfl, ma1 (by decide), f2, nt_n z]
    have fin : ∃ τ, some ((), σ) = some ((), τ) ∧ KA σ τ ∧ FP τ g := ⟨σ, rfl, KA_0 σ, f1, by rw [if_neg z]; exact f2, f3, f4⟩
    rcases hc z with y | ⟨y1, y2⟩
    · rw [ite_lt_t (by omega) y]
      exact fin
    · rw [ite_lt_f (by omega) (by omega), mg0 hR, ma1 (by decide), f2, if_pos (by rw [y1]), mg0 hR, ma1 (by decide), f1, ite_lt_f (by omega) y2]
      exact fin
noncomputable def nbM (B : Nat → Nat) (L : Nat) : Nat ⊕ Nat → Nat ⊕ Nat
  | .inl i => if tT B L i = 2 then .inl (tE B L i) else .inr (tS B L i)
  | .inr p => .inr p
noncomputable def nbV (B : Nat → Nat) (L lo hi : Nat) : Nat ⊕ Nat → Nat
  | .inl i => if tT B L i = 2 ∧ lo ≤ nv B L i ∧ nv B L i ≤ hi then nv B L i else lo
  | .inr _ => lo
noncomputable def nbG (B : Nat → Nat) (L lo hi : Nat) (g : Nat × Nat) : Nat ⊕ Nat → Nat × Nat
  | .inl i => if tT B L i = 2 ∧ ¬ (lo ≤ nv B L i ∧ nv B L i ≤ hi) then nt g (2, tS B L i) else g
  | .inr _ => g
noncomputable def elM (B : Nat → Nat) (L : Nat) : Nat ⊕ Nat → Nat ⊕ Nat
  | .inl i => if tT B L i = 3 then .inl (tE B L i) else .inr (tS B L i)
  | .inr p => .inr p
theorem nt_lt {g : Nat × Nat} {k p q x : Nat} (h : ¬ g.1 = 0 → g.2 < x) (hx : x ≤ q) (hp : p < q) : ¬ (nt g (k, p)).1 = 0 → (nt g (k, p)).2 < q := by
  by_cases z : g.1 = 0
  · rw [nt_0 z]
    exact fun _ => hp
  · rw [nt_n z]
    exact fun _ => Nat.lt_of_lt_of_le (h z) hx
/-- a token is passed -/
theorem m_pass (h : Rq σ B L) {i' : Nat} (hi : i ≤ L) (h8 : σ.1 0 8 = 0) (hT : TkM σ B (tT B L i) (tS B L i) (tE B L i)) (hF : FP σ g) (hp : ¬ g.1 = 0 → g.2 < tE B L i) : ∃ τ, f_X12_advance 0 σ = some ((), τ) ∧ KF σ τ ∧ MD τ B L g (.inl (tE B L i)) := by
  have hb := tk_b (B := B) hi
  obtain ⟨τ, e1, e2, e3⟩ := m_tok h hb.2.2.1 hT.1
  have hb2 := tk_b (B := B) hb.2.2.1
  refine ⟨τ, e1, e2.kf, hb.2.2.1, ?_, e3, ?_, fun z => Nat.lt_of_lt_of_le (hp z) hb2.1⟩
  · rw [e2.2.1 8 (by omega)]; exact h8
  · unfold FP at *
    rw [e2.1 1 (by decide)]
    exact hF
theorem m_numb {lo hi : Nat} {m : Nat ⊕ Nat} (h : Rq σ B L) (hM : MD σ B L g m) (hl : lo ≤ 99) (hh : hi ≤ 99) : ∃ τ, f_X12_numbered 0 (nI lo) (nI hi) σ = some (nI (nbV B L lo hi m), τ) ∧ KF σ τ ∧ MD τ B L (nbG B L lo hi g m) (nbM B L m) := by
  have hL := h.2.2.1
  unfold f_X12_numbered
  cases m with
  | inr p =>
    obtain ⟨w1, w2, w3⟩ := hM
    unfold f_X12_numbered_15
    rw [mgiB, w1, if_neg (by decide), bo_of mrc, bd_of (m_endsW w1)]
    exact ⟨σ, rfl, KF_0 σ, w1, w2, w3⟩
  | inl i =>
    obtain ⟨hi', h8, hT, hF, hp⟩ := hM
    have hb := tk_b (B := B) hi'
    rw [mgiB, h8, if_pos rfl, mgiB]
    by_cases c : tT B L i = 2
    · have hlt := tk_lt (B := B) hi' (by omega)
      have hv := nv_le hi' c
      obtain ⟨q5, q6⟩ := TkM_2 hT c
      have q6 : σ.1 0 6 = nI (nv B L i) := q6
      rw [q5, if_pos rfl, mgiB, q6, bo_of (iInB _ _ _ _), ite_b, show nbM B L (.inl i) = .inl (tE B L i) from if_pos c]
      by_cases d : lo ≤ nv B L i ∧ nv B L i ≤ hi
      · rw [ci_inI_t (by omega) (by omega) (by omega) d.1 d.2, show nbG B L lo hi g (.inl i) = g from if_neg (fun z => z.2 d), show nbV B L lo hi (.inl i) = nv B L i from if_pos ⟨c, d⟩]
        obtain ⟨τ, e1, e2, e3⟩ := m_pass (i' := 0) h hi' h8 hT hF (fun z => by have := hp z; omega)
        unfold f_X12_numbered_44
        rw [bo_of mrc, bd_of e1, bo_of (iInB _ _ _ _), ite_b, ci_inI_t (by omega) (by omega) (by omega) d.1 d.2]
        exact ⟨τ, rfl, e2, e3⟩
      · rw [ci_inI_f (by omega) (by omega) (by omega) (by omega), show nbG B L lo hi g (.inl i) = nt g (2, tS B L i) from if_pos ⟨c, d⟩, show nbV B L lo hi (.inl i) = lo from if_neg (fun z => d z.2), mgiB, hT.2.1]
        obtain ⟨ρ, a1, a2, a3⟩ := m_also (kd := 2) (at' := tS B L i) h.1 h8 hF (by decide) (by decide) (by omega) (fun z => Or.inl (hp z))
        obtain ⟨τ, e1, e2, e3⟩ := m_pass (i' := 0) (g := nt g (2, tS B L i)) (a2.kf.rq h) hi' (by rw [a2.1 0 (by decide)]; exact h8) (a2.tkm hT) a3 (nt_lt hp (by omega) hlt)
        rw [bo_of mrc, bd_of (show f_X12_also 0 (2 : Int32) (nI (tS B L i)) σ = _ from a1)]
        unfold f_X12_numbered_44
        rw [bo_of mrc, bd_of e1, bo_of (iInB _ _ _ _), ite_b, ci_inI_f (by omega) (by omega) (by omega) (by omega)]
        exact ⟨τ, rfl, a2.kf.tr e2, e3⟩
    · rw [if_neg (TkM_n2 hT c), show nbM B L (.inl i) = .inr (tS B L i) from if_neg c, show nbG B L lo hi g (.inl i) = g from if_neg (fun z => c z.1), show nbV B L lo hi (.inl i) = lo from if_neg (fun z => c z.1)]
      obtain ⟨τ, e1, e2, e3⟩ := m_ends (B := B) (L := L) (g := g) h.1 h8 hT.2.1
      unfold f_X12_numbered_15
      rw [bo_of mrc, bd_of e1]
      exact ⟨τ, rfl, e2, e3⟩
theorem m_endL {m : Nat ⊕ Nat} (h : Rq σ B L) (hM : MD σ B L g m) : ∃ τ, f_X12_endsLine 0 σ = some ((), τ) ∧ KF σ τ ∧ MD τ B L g (elM B L m) := by
  unfold f_X12_endsLine
  cases m with
  | inr p =>
    obtain ⟨w1, w2, w3⟩ := hM
    unfold f_X12_endsLine_22
    rw [mgiB, w1, if_neg (by decide), bo_of mrc, bd_of (m_endsW w1)]
    exact ⟨σ, rfl, KF_0 σ, w1, w2, w3⟩
  | inl i =>
    obtain ⟨hi', h8, hT, hF, hp⟩ := hM
    have hb := tk_b (B := B) hi'
    rw [mgiB, h8, if_pos rfl, mgiB]
    by_cases c : tT B L i = 3
    · rw [(TkM_3 hT).1 c, if_pos rfl, show elM B L (.inl i) = .inl (tE B L i) from if_pos c]
      obtain ⟨τ, e1, e2, e3⟩ := m_pass (i' := 0) h hi' h8 hT hF (fun z => by have := hp z; omega)
      rw [bo_of mrc, bd_of e1]
      exact ⟨τ, rfl, e2, e3⟩
    · rw [if_neg ((TkM_3 hT).2 c), show elM B L (.inl i) = .inr (tS B L i) from if_neg c]
      obtain ⟨τ, e1, e2, e3⟩ := m_ends (B := B) (L := L) (g := g) h.1 h8 hT.2.1
      unfold f_X12_endsLine_22
      rw [bo_of mrc, bd_of e1]
      exact ⟨τ, rfl, e2, e3⟩
theorem lnK_iff {s : Nat} (hs : s < 3) : (¬ lnK B L s i = 9) ↔ (tT B L i = 1 ∧ loW s ≤ wcN B (tS B L i) (tE B L i) ∧ wcN B (tS B L i) (tE B L i) ≤ hiW s) := by
  have hh : hiW s ≤ loW s + 4 := by
    unfold hiW loW
    repeat (first | omega | split)
  constructor
  · intro z
    obtain ⟨z1, z2, z3⟩ := lnK_1 z
    refine ⟨z1, ?_⟩
    rw [z2] at z
    exact Classical.not_not.mp (fun y => z (if_neg y))
  · rintro ⟨z1, z2⟩
    rw [show lnK B L s i = kdN s (wcN B (tS B L i) (tE B L i)) from if_pos z1, show kdN s (wcN B (tS B L i) (tE B L i)) = wcN B (tS B L i) (tE B L i) - loW s from if_pos z2]
    omega
theorem m_word {s : Nat} (h : Rq σ B L) (hs : s < 3) (hM : MD σ B L g (.inl i)) : (lnK B L s i = 9 → ∃ τ, f_X12_wordIn 0 (nI (loW s)) (nI (hiW s)) σ = some (0, τ) ∧ KF σ τ ∧ MD τ B L g (.inr (tS B L i))) ∧ (¬ lnK B L s i = 9 → ∃ τ, f_X12_wordIn 0 (nI (loW s)) (nI (hiW s)) σ = some (nI (loW s + lnK B L s i), τ) ∧ KF σ τ ∧ MD τ B L g (.inl (tE B L i))) := by
  obtain ⟨hi', h8, hT, hF, hp⟩ := hM
  have hb := tk_b (B := B) hi'
  have hh : hiW s ≤ 11 ∧ loW s ≤ 10 := by
    unfold hiW loW
    constructor <;> repeat (first | omega | split)
  have q := lnK_iff (B := B) (L := L) (i := i) hs
  have hw99 : wcN B (tS B L i) (tE B L i) ≤ 99 := by
    unfold wcN
    by_cases z : tE B L i - tS B L i ≤ 8
    · rw [if_pos z]; exact wdN_le _
    · rw [if_neg z]; omega
  have out : ∃ τ, f_X12_wordIn_27 0 σ = some (0, τ) ∧ KF σ τ ∧ MD τ B L g (.inr (tS B L i)) := by
    obtain ⟨τ, e1, e2, e3⟩ := m_ends (B := B) (L := L) (g := g) h.1 h8 hT.2.1
    unfold f_X12_wordIn_27
    rw [bo_of mrc, bd_of e1]
    exact ⟨τ, rfl, e2, e3⟩
  unfold f_X12_wordIn
  rw [mgiB, h8, if_pos rfl, mgiB]
  constructor
  · intro z
    have nq : ¬ (tT B L i = 1 ∧ loW s ≤ wcN B (tS B L i) (tE B L i) ∧ wcN B (tS B L i) (tE B L i) ≤ hiW s) := fun y => q.mpr y z
    by_cases c : tT B L i = 1 ∧ ¬ wcN B (tS B L i) (tE B L i) = 99
    · obtain ⟨t5, t7⟩ := (TkM_w hT).1 c
      rw [t5, if_pos rfl, mgiB, t7, bo_of (iInB _ _ _ _), ite_b, ci_inI_f (by omega) (by omega) (by omega) (by omega)]
      exact out
    · rw [if_neg ((TkM_w hT).2 c)]
      exact out
  · intro z
    obtain ⟨z1, z2, z3⟩ := q.mp z
    have ek : loW s + lnK B L s i = wcN B (tS B L i) (tE B L i) := by
      rw [show lnK B L s i = kdN s (wcN B (tS B L i) (tE B L i)) from if_pos z1, show kdN s (wcN B (tS B L i) (tE B L i)) = wcN B (tS B L i) (tE B L i) - loW s from if_pos ⟨z2, z3⟩]
      omega
    have hlt := tk_lt (B := B) hi' (by omega)
    obtain ⟨t5, t7⟩ := (TkM_w hT).1 ⟨z1, by omega⟩
    obtain ⟨τ, e1, e2, e3⟩ := m_pass (i' := 0) h hi' h8 hT hF (fun z => by have := hp z; omega)
    rw [t5, if_pos rfl, mgiB, t7, bo_of (iInB _ _ _ _), ite_b, ci_inI_t (by omega) (by omega) (by omega) z2 z3, mgiB, t7, bo_of mrc, bd_of e1, ek]
    exact ⟨τ, rfl, e2, e3⟩
/-- one that must be below f -/
noncomputable def bwG (B : Nat → Nat) (L f : Nat) (g : Nat × Nat) : Nat ⊕ Nat → Nat × Nat
  | .inl i => if tT B L i = 2 ∧ f ≤ nv B L i then nt (nbG B L 0 9 g (.inl i)) (2, tS B L i) else nbG B L 0 9 g (.inl i)
  | .inr _ => g
theorem m_below {f : Nat} {m : Nat ⊕ Nat} (h : Rq σ B L) (hM : MD σ B L g m) (hf : f ≤ 9) : ∃ τ, f_X12_below0 0 (nI f) (9 : Int32) σ = some (nI (nbV B L 0 9 m), τ) ∧ KF σ τ ∧ MD τ B L (bwG B L f g m) (nbM B L m) := by
  have hL := h.2.2.1
  obtain ⟨τ, e1, e2, e3⟩ := m_numb (lo := 0) (hi := 9) h hM (by decide) (by decide)
  have low : ∀ x, ∃ τ, f_X12_below0_32 0 (9 : Int32) x σ = some (nI (nbV B L 0 9 m), τ) ∧ KF σ τ ∧ MD τ B L (nbG B L 0 9 g m) (nbM B L m) := fun x => by
    unfold f_X12_below0_32 f_X12_below0_33
    rw [bo_of mrc, bd_of (show f_X12_numbered 0 (0 : Int32) (9 : Int32) σ = _ from e1), if_pos rfl]
    exact ⟨τ, rfl, e2, e3⟩
  unfold f_X12_below0
  cases m with
  | inr p =>
    obtain ⟨w1, w2, w3⟩ := id hM
    rw [mgiB, mgiB, w1, if_neg (by decide)]
    exact low _
  | inl i =>
    obtain ⟨hi', h8, hT, hF, hp⟩ := id hM
    have hb := tk_b (B := B) hi'
    rw [mgiB, mgiB, h8, if_pos rfl, mgiB]
    by_cases c : tT B L i = 2
    · have hlt := tk_lt (B := B) hi' (by omega)
      have hv := nv_le hi' c
      obtain ⟨q5, q6⟩ := TkM_2 hT c
      have q6 : σ.1 0 6 = nI (nv B L i) := q6
      rw [q5, if_pos rfl, mgiB, q6]
      by_cases d : f ≤ nv B L i
      · rw [ite_lt_f (by omega) d, hT.2.1, show bwG B L f g (.inl i) = nt (nbG B L 0 9 g (.inl i)) (2, tS B L i) from if_pos ⟨c, d⟩]
        have em : nbM B L (.inl i) = .inl (tE B L i) := if_pos c
        rw [em] at e3
        obtain ⟨u1, u2, u3, u4, u5⟩ := e3
        have hg : ¬ (nbG B L 0 9 g (.inl i)).1 = 0 → (nbG B L 0 9 g (.inl i)).2 < tS B L i ∨ ((nbG B L 0 9 g (.inl i)).2 = tS B L i ∧ (nbG B L 0 9 g (.inl i)).1 ≤ 2) := by
          intro y
          by_cases w : tT B L i = 2 ∧ ¬ (0 ≤ nv B L i ∧ nv B L i ≤ 9)
          · rw [show nbG B L 0 9 g (.inl i) = nt g (2, tS B L i) from if_pos w] at y ⊢
            by_cases v : g.1 = 0
            · rw [nt_0 v]
              exact Or.inr ⟨rfl, Nat.le_refl _⟩
            · rw [nt_n v]
              exact Or.inl (hp v)
          · rw [show nbG B L 0 9 g (.inl i) = g from if_neg w] at y ⊢
            exact Or.inl (hp y)
        obtain ⟨ρ, a1, a2, a3⟩ := m_also (kd := 2) (at' := tS B L i) (e2.ref h.1) u2 u4 (by decide) (by decide) (by omega) hg
        unfold f_X12_below0_33
        rw [bo_of mrc, bd_of (show f_X12_numbered 0 (0 : Int32) (9 : Int32) σ = _ from e1), if_neg (by decide), bo_of mrc, bd_of (show f_X12_also 0 (2 : Int32) (nI (tS B L i)) τ = _ from a1), em]
        refine ⟨ρ, rfl, e2.tr a2.kf, u1, by rw [a2.1 0 (by decide)]; exact u2, a2.tkm u3, a3, ?_⟩
        have hb2 := tk_b (B := B) u1
        exact nt_lt u5 (Nat.le_refl _) (by omega)
      · rw [ite_lt_t (by omega) (by omega), show bwG B L f g (.inl i) = nbG B L 0 9 g (.inl i) from if_neg (fun z => d z.2)]
        exact low _
    · rw [if_neg (TkM_n2 hT c), show bwG B L f g (.inl i) = nbG B L 0 9 g (.inl i) from if_neg (fun z => c z.1)]
      exact low _
end MST
