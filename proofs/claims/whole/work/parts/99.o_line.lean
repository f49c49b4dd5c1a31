/-! ===== text: a line in the class ===== -/
/-- only what reading a line lays by the way has changed -/
def KR (σ τ : Dt) : Prop := (∀ a, ¬ a = 155 → ¬ a = 172 → ¬ a = 173 → τ.1 a = σ.1 a) ∧ (∀ j, ¬ j = 8 → ¬ j = 9 → τ.1 155 j = σ.1 155 j) ∧ τ.2 = σ.2
theorem KR_0 (σ : Dt) : KR σ σ := ⟨fun _ _ _ _ => rfl, fun _ _ _ => rfl, rfl⟩
theorem KR.tr {a b c : Dt} (h1 : KR a b) (h2 : KR b c) : KR a c := ⟨fun x x1 x2 x3 => (h2.1 x x1 x2 x3).trans (h1.1 x x1 x2 x3), fun j j1 j2 => (h2.2.1 j j1 j2).trans (h1.2.1 j j1 j2), h2.2.2.trans h1.2.2⟩
theorem KR_t {σ : Dt} {j : Nat} {v : Int32} (h : j = 8 ∨ j = 9) : KR σ (setX σ 155 j v) := ⟨fun a h1 _ _ => setX_o h1, fun k h1 h2 => setX_n (by omega), rfl⟩
theorem KR_n {σ : Dt} {a j : Nat} {v : Int32} (h : a = 172 ∨ a = 173) : KR σ (setX σ a j v) := ⟨fun b h1 h2 h3 => setX_o (by omega), fun k h1 h2 => by rw [setX_o (by omega)], rfl⟩
theorem KR.ref {σ τ : Dt} (h : KR σ τ) (hR : RefX σ) : RefX τ := by
  unfold RefX at *
  rw [h.2.2]
  exact hR
theorem KR.rd {σ τ : Dt} {B : Nat → Nat} {L : Nat} (h : KR σ τ) (hR : Rd σ B L) : Rd τ B L := by
  obtain ⟨h1, h2, h3, h4, h5⟩ := hR
  refine ⟨h.ref h1, ?_, ?_, h4, fun i hi => ?_⟩
  · rw [h.2.2]; exact h2
  · rw [h.2.1 6 (by decide) (by decide)]; exact h3
  · rw [h.1 2 (by decide) (by decide) (by decide)]; exact h5 i hi
theorem r_r11 {β : Type} {σ : Dt} {k : Option Nat → Option β} (hR : RefX σ) : bo (xgr SX 5 11 (some 155) σ) k = k (some 172) := bo_of (by rw [xgr_of (by decide) (by decide), hR.1 155 11 (by decide) (by decide)]; rfl)
theorem r_r12 {β : Type} {σ : Dt} {k : Option Nat → Option β} (hR : RefX σ) : bo (xgr SX 5 12 (some 155) σ) k = k (some 173) := bo_of (by rw [xgr_of (by decide) (by decide), hR.1 155 12 (by decide) (by decide)]; rfl)
theorem r_r0 {β : Type} {σ : Dt} {k : Option Nat → Option β} (hR : RefX σ) : bo (xgr SX 5 0 (some 155) σ) k = k (some 156) := bo_of (by rw [xgr_of (by decide) (by decide), hR.1 155 0 (by decide) (by decide)]; rfl)
theorem r_r1 {β : Type} {σ : Dt} {k : Option Nat → Option β} (hR : RefX σ) : bo (xgr SX 5 1 (some 155) σ) k = k (some 164) := bo_of (by rw [xgr_of (by decide) (by decide), hR.1 155 1 (by decide) (by decide)]; rfl)
theorem r_r2 {β : Type} {σ : Dt} {k : Option Nat → Option β} (hR : RefX σ) : bo (xgr SX 5 2 (some 155) σ) k = k (some 169) := bo_of (by rw [xgr_of (by decide) (by decide), hR.1 155 2 (by decide) (by decide)]; rfl)
theorem r_sn {β : Type} {a j : Nat} {σ : Dt} {v : Int32} {k : Dt → Option β} (ha : a = 172 ∨ a = 173) (hj : j < 3) : bo (xsi SX (some a) (nI j) v σ) k = k (setX σ a j v) := by
  rcases ha with rfl | rfl
  · exact bo_of (xsiX (by decide) (by decide) (show j < SX.2.2 172 from hj) (by decide))
  · exact bo_of (xsiX (by decide) (by decide) (show j < SX.2.2 173 from hj) (by decide))
theorem r_an {β : Type} {a j : Nat} {σ : Dt} {k : Int32 → Option β} (ha : a = 172 ∨ a = 173) (hj : j < 3) : bo (xai SX (some a) (nI j) σ) k = k (σ.1 a j) := by
  rcases ha with rfl | rfl
  · exact bo_of (xai_of (by decide) (by decide) (show j < SX.2.2 172 from hj) (by decide))
  · exact bo_of (xai_of (by decide) (by decide) (show j < SX.2.2 173 from hj) (by decide))
/-- the numbers of a line as they were read -/
def NumR (τ : Dt) (B : Nat → Nat) (L i m : Nat) : Prop := ∀ k, k < 3 → (k < m → τ.1 172 k = nI (nv B L (pz B L i k)) ∧ τ.1 173 k = nI (tS B L (pz B L i k))) ∧ (m ≤ k → τ.1 172 k = -1)
theorem x_nums {σ : Dt} {B : Nat → Nat} {L i m : Nat} (h : Rd σ B L) (hi : i ≤ L) (hm : m ≤ 3) (h9 : σ.1 155 9 = nI i) (x2 x3 : Int32) : ∃ r, iter FU (fun s => f_X5_readLine_L50 155 x2 x3 (nI m) s.1 s.2) ((0 : Int32), σ) = some r ∧ ((∃ j τ, j < m ∧ (∀ k, k < j → tT B L (pz B L i k) = 2) ∧ ¬ tT B L (pz B L i j) = 2 ∧ r = .inl τ ∧ KR σ τ ∧ τ.1 155 8 = nI (tS B L (pz B L i j))) ∨ (∃ τ, (∀ k, k < m → tT B L (pz B L i k) = 2) ∧ r = .inr τ ∧ KR σ τ ∧ τ.1 155 9 = nI (pz B L i m) ∧ NumR τ B L i m)) := by
  have hL := h.2.2.2.1
  refine iter_w (f := fun s : Int32 × Dt => f_X5_readLine_L50 155 x2 x3 (nI m) s.1 s.2) (P := fun j q => q.1 = nI j ∧ KR σ q.2 ∧ q.2.1 155 9 = nI (pz B L i (min j m)) ∧ (∀ k, k < j → k < m → tT B L (pz B L i k) = 2) ∧ ∀ k, k < j → (k < m → q.2.1 172 k = nI (nv B L (pz B L i k)) ∧ q.2.1 173 k = nI (tS B L (pz B L i k))) ∧ (m ≤ k → q.2.1 172 k = -1)) (Q := fun r => (∃ j τ, j < m ∧ (∀ k, k < j → tT B L (pz B L i k) = 2) ∧ ¬ tT B L (pz B L i j) = 2 ∧ r = .inl τ ∧ KR σ τ ∧ τ.1 155 8 = nI (tS B L (pz B L i j))) ∨ (∃ τ, (∀ k, k < m → tT B L (pz B L i k) = 2) ∧ r = .inr τ ∧ KR σ τ ∧ τ.1 155 9 = nI (pz B L i m) ∧ NumR τ B L i m)) 3 (by decide) ⟨rfl, KR_0 σ, by rw [Nat.zero_min]; exact h9, fun k hk => absurd hk (Nat.not_lt_zero k), fun k hk => absurd hk (Nat.not_lt_zero k)⟩ (fun j q hj hP => ?_)
  obtain ⟨x, τ⟩ := q
  obtain ⟨p1, p2, p3, p4, p5⟩ := hP
  dsimp only at p1 p2 p3 p5 ⊢
  subst p1
  unfold f_X5_readLine_L50 f_X5_readLine_106
  rcases (show j = 3 ∨ j < 3 by omega) with y | y
  · left
    subst y
    rw [if_pos (by decide)]
    refine ⟨_, rfl, Or.inr ⟨τ, fun k hk => p4 k (by omega) hk, rfl, p2, ?_, fun k hk => p5 k hk⟩⟩
    rw [show min 3 m = m by omega] at p3
    exact p3
  · have hR := (p2.ref h.1)
    rw [if_neg (show ¬ (3 : Int32) ≤ nI j from nI_ge (b := 3) y (by decide)), r_r11 hR, r_sn (Or.inl rfl) y]
    have k1 : KR τ (setX τ 172 j (-1)) := KR_n (Or.inl rfl)
    have hR1 := (p2.tr k1).ref h.1
    have hd1 := (p2.tr k1).rd h
    rcases (show m ≤ j ∨ j < m by omega) with z | z
    · right
      rw [ite_le_t (by omega) z, nI_1]
      refine ⟨y, _, rfl, rfl, p2.tr k1, ?_, fun k hk hkm => p4 k (by omega) hkm, fun k hk => ?_⟩
      · show (setX τ 172 j (-1)).1 155 9 = _
        rw [setX_o (by decide), p3, show min j m = m by omega, show min (j + 1) m = m by omega]
      · show (k < m → (setX τ 172 j (-1)).1 172 k = _ ∧ (setX τ 172 j (-1)).1 173 k = _) ∧ (m ≤ k → (setX τ 172 j (-1)).1 172 k = -1)
        rcases (show k = j ∨ k < j by omega) with w | w
        · subst w
          exact ⟨fun u => by omega, fun _ => setX_j⟩
        · rw [setX_n (by omega), setX_o (by decide)]
          exact p5 k w
    · have hpz := pz_le (B := B) hi j
      have h9' : (setX τ 172 j (-1)).1 155 9 = nI (pz B L i j) := by
        rw [setX_o (by decide), p3, show min j m = j by omega]
      rw [ite_le_f (by omega) z, bo_of r_rc, bd_of (x_tok hd1 hpz h9')]
      have hb := tk_b (B := B) hpz
      have k2 : KR (setX τ 172 j (-1)) (setX (setX (setX τ 172 j (-1)) 155 8 (nI (tS B L (pz B L i j)))) 155 9 (nI (tE B L (pz B L i j)))) := (KR_t (Or.inl rfl)).tr (KR_t (Or.inr rfl))
      by_cases c : tT B L (pz B L i j) = 2
      · right
        have hd2 := k2.rd hd1
        have hR2 := hd2.1
        have hx := x_number hd2 (by rw [setX_n (by decide), setX_j]) setX_j hb.2.1 hb.2.2.1 (tk_dig hpz c).1 (tk_dig hpz c).2
        rw [if_pos (show nI (tT B L (pz B L i j)) = (2 : Int32) from by rw [c]; rfl), r_r11 hR2, bo_of r_rc, bo_of hx, r_sn (Or.inl rfl) y]
        have k3 := k2.tr (KR_n (σ := setX (setX (setX τ 172 j (-1)) 155 8 (nI (tS B L (pz B L i j)))) 155 9 (nI (tE B L (pz B L i j)))) (a := 172) (j := j) (v := nI (nuB B (tS B L (pz B L i j)) (tE B L (pz B L i j) - tS B L (pz B L i j)))) (Or.inl rfl))
        rw [r_r12 (k3.ref hR1), r_gi, setX_o (by decide), setX_n (by decide), setX_j, r_sn (Or.inr rfl) y, nI_1]
        have k4 := k3.tr (KR_n (σ := setX (setX (setX (setX τ 172 j (-1)) 155 8 (nI (tS B L (pz B L i j)))) 155 9 (nI (tE B L (pz B L i j)))) 172 j (nI (nuB B (tS B L (pz B L i j)) (tE B L (pz B L i j) - tS B L (pz B L i j))))) (a := 173) (j := j) (v := nI (tS B L (pz B L i j))) (Or.inr rfl))
        refine ⟨y, _, rfl, rfl, (p2.tr k1).tr k4, ?_, fun k hk hkm => ?_, fun k hk => ?_⟩
        · dsimp only
          rw [setX_o (by decide), setX_o (by decide), setX_j, show min (j + 1) m = j + 1 by omega]
          rfl
        · rcases (show k = j ∨ k < j by omega) with w | w
          · rw [w]; exact c
          · exact p4 k w hkm
        · dsimp only
          rcases (show k = j ∨ k < j by omega) with w | w
          · subst w
            refine ⟨fun _ => ⟨?_, setX_j⟩, fun u => by omega⟩
            rw [setX_o (by decide), setX_j]
            rfl
          · rw [setX_o (by decide), setX_n (by omega), setX_o (by decide), setX_o (by decide), setX_n (by omega), setX_n (by omega), setX_o (by decide), setX_o (by decide), setX_o (by decide), setX_o (by decide)]
            exact p5 k w
      · left
        rw [if_neg (show ¬ nI (tT B L (pz B L i j)) = (2 : Int32) from fun u => c ((nI_eq (b := 2) (by omega) (by decide)).mp u))]
        refine ⟨_, rfl, Or.inl ⟨j, _, z, fun k hk => p4 k hk (by omega), c, rfl, (p2.tr k1).tr k2, ?_⟩⟩
        rw [setX_n (by decide), setX_j]
theorem x_oof (σ : Dt) : f_X5_outOfForm 155 σ = some (0, setX (setX σ 155 3 1) 155 4 (σ.1 155 8)) := by
  unfold f_X5_outOfForm
  rw [r_pi, r_gi, setX_n (by decide), r_pi]
/-- the kind of the line from i on; 9: none -/
noncomputable def lnK (B : Nat → Nat) (L s i : Nat) : Nat := @ite _ (tT B L i = 1) (Classical.propDecidable _) (kdN s (wcN B (tS B L i) (tE B L i))) 9
def LBad (B : Nat → Nat) (L s i p : Nat) : Prop := ¬ tT B L i = 0 ∧ ((lnK B L s i = 9 ∧ p = tS B L i) ∨ (¬ lnK B L s i = 9 ∧ ∃ j, j ≤ nmS s (lnK B L s i) ∧ (∀ k, k < j → tT B L (pz B L (tE B L i) k) = 2) ∧ (j < nmS s (lnK B L s i) → ¬ tT B L (pz B L (tE B L i) j) = 2) ∧ (j = nmS s (lnK B L s i) → ¬ tT B L (pz B L (tE B L i) j) = 3) ∧ p = tS B L (pz B L (tE B L i) j)))
def LGood (B : Nat → Nat) (L s i : Nat) : Prop := ¬ lnK B L s i = 9 ∧ (∀ k, k < nmS s (lnK B L s i) → tT B L (pz B L (tE B L i) k) = 2) ∧ tT B L (pz B L (tE B L i) (nmS s (lnK B L s i))) = 3
theorem lnK_1 {B : Nat → Nat} {L s i : Nat} (h : ¬ lnK B L s i = 9) : tT B L i = 1 ∧ lnK B L s i = kdN s (wcN B (tS B L i) (tE B L i)) ∧ lnK B L s i ≤ 4 := by
  unfold lnK at *
  by_cases c : tT B L i = 1
  · rw [if_pos c] at h ⊢
    exact ⟨c, rfl, kdN_le h⟩
  · exact absurd (if_neg c) h
/-- also the fault may have changed -/
def KS (σ τ : Dt) : Prop := (∀ a, ¬ a = 155 → ¬ a = 172 → ¬ a = 173 → τ.1 a = σ.1 a) ∧ (∀ j, ¬ j = 3 → ¬ j = 4 → ¬ j = 8 → ¬ j = 9 → τ.1 155 j = σ.1 155 j) ∧ τ.2 = σ.2
theorem KR.ks {σ τ : Dt} (h : KR σ τ) : KS σ τ := ⟨h.1, fun j _ _ h3 h4 => h.2.1 j h3 h4, h.2.2⟩
theorem KS.tr {a b c : Dt} (h1 : KS a b) (h2 : KS b c) : KS a c := ⟨fun x x1 x2 x3 => (h2.1 x x1 x2 x3).trans (h1.1 x x1 x2 x3), fun j j1 j2 j3 j4 => (h2.2.1 j j1 j2 j3 j4).trans (h1.2.1 j j1 j2 j3 j4), h2.2.2.trans h1.2.2⟩
theorem KS_f {σ : Dt} {j : Nat} {v : Int32} (h : j = 3 ∨ j = 4) : KS σ (setX σ 155 j v) := ⟨fun a h1 _ _ => setX_o h1, fun k h1 h2 _ _ => setX_n (by omega), rfl⟩
theorem KS.ref {σ τ : Dt} (h : KS σ τ) (hR : RefX σ) : RefX τ := by
  unfold RefX at *
  rw [h.2.2]
  exact hR
/-- what becomes of a line that was read whole -/
def JT (k m e0 : Nat) (τ : Dt) : Option (Int32 × Dt) := bd (f_X5_judgeLine 155 (nI k) (nI m) (nI e0) τ) fun _ σ30 => if σ30.1 155 3 = 0 then bd (f_X5_tellLine 155 (nI k) σ30) fun _ σ38 => some ((1 : Int32), σ38) else some ((1 : Int32), σ30)
theorem x_line {σ : Dt} {B : Nat → Nat} {L s i : Nat} (h : Rd σ B L) (hs : s < 3) (h7 : σ.1 155 7 = nI s) (hi : i ≤ L) (h9 : σ.1 155 9 = nI i) : (tT B L i = 0 ∧ ∃ τ, f_X5_readLine 155 σ = some (0, τ) ∧ KR σ τ) ∨ (∃ p, LBad B L s i p ∧ ∃ τ, f_X5_readLine 155 σ = some (0, τ) ∧ KS σ τ ∧ τ.1 155 3 = 1 ∧ τ.1 155 4 = nI p) ∨ (LGood B L s i ∧ ∃ τ, KR σ τ ∧ τ.1 155 9 = nI (pz B L (tE B L i) (nmS s (lnK B L s i) + 1)) ∧ NumR τ B L (tE B L i) (nmS s (lnK B L s i)) ∧ f_X5_readLine 155 σ = JT (lnK B L s i) (nmS s (lnK B L s i)) (tS B L i) τ) := by
  have hL := h.2.2.2.1
  have hb := tk_b (B := B) hi
  have k1 : KR σ (setX (setX σ 155 8 (nI (tS B L i))) 155 9 (nI (tE B L i))) := (KR_t (Or.inl rfl)).tr (KR_t (Or.inr rfl))
  have hd1 := k1.rd h
  have g8 : (setX (setX σ 155 8 (nI (tS B L i))) 155 9 (nI (tE B L i))).1 155 8 = nI (tS B L i) := by rw [setX_n (by decide), setX_j]
  have g9 : (setX (setX σ 155 8 (nI (tS B L i))) 155 9 (nI (tE B L i))).1 155 9 = nI (tE B L i) := setX_j
  have g7 : (setX (setX σ 155 8 (nI (tS B L i))) 155 9 (nI (tE B L i))).1 155 7 = nI s := by rw [setX_n (by decide), setX_n (by decide), h7]
  unfold f_X5_readLine
  rw [bo_of r_rc, bd_of (x_tok h hi h9), r_gi, g8]
  generalize hρ : setX (setX σ 155 8 (nI (tS B L i))) 155 9 (nI (tE B L i)) = ρ at *
  by_cases c0 : tT B L i = 0
  · left
    rw [ite_z_t c0]
    exact ⟨c0, _, rfl, k1⟩
  · right
    rw [ite_z_f (by omega) c0]
    have bad : f_X5_readLine_29 155 (nI (tS B L i)) (-1) ρ = some (0, setX (setX ρ 155 3 1) 155 4 (nI (tS B L i))) := by
      unfold f_X5_readLine_29
      rw [if_pos rfl, bo_of r_rc, bd_of (x_oof ρ), if_pos (Or.inl rfl), g8]
    have badR : lnK B L s i = 9 → ∃ p, LBad B L s i p ∧ ∃ τ, f_X5_readLine_29 155 (nI (tS B L i)) (-1) ρ = some (0, τ) ∧ KS σ τ ∧ τ.1 155 3 = 1 ∧ τ.1 155 4 = nI p := fun z => ⟨tS B L i, ⟨c0, Or.inl ⟨z, rfl⟩⟩, _, bad, (k1.ks.tr (KS_f (Or.inl rfl))).tr (KS_f (Or.inr rfl)), by rw [setX_n (by decide), setX_j], setX_j⟩
    by_cases c1 : tT B L i = 1
    · rw [if_pos (show nI (tT B L i) = (1 : Int32) from by rw [c1]; rfl), bo_of r_rc, bo_of (x_kind hd1 hs g7 g8 g9 hb.2.1 hb.2.2.1 (tk_let hi c1))]
      have ek : lnK B L s i = kdN s (wcN B (tS B L i) (tE B L i)) := if_pos c1
      rw [← ek]
      by_cases c2 : lnK B L s i = 9
      · left
        rw [c2, show kdI 9 = -1 from rfl]
        exact badR c2
      · have hk4 := (lnK_1 c2).2.2
        rw [show kdI (lnK B L s i) = nI (lnK B L s i) from if_neg c2]
        generalize hk : lnK B L s i = k at *
        have hm := nmS_le s k
        obtain ⟨r, e1, e2⟩ := x_nums hd1 hb.2.2.1 hm g9 (nI (tS B L i)) (nI k)
        unfold f_X5_readLine_29
        rw [if_neg (nI_m1 (by omega)), bo_of r_rc, bo_of (x_nmS hs hk4 g7), bo_of e1]
        rcases e2 with ⟨j, τ, q1, q2, q3, rfl, q4, q5⟩ | ⟨τ, q1, rfl, q2, q3, q4⟩
        · left
          refine ⟨tS B L (pz B L (tE B L i) j), ⟨c0, Or.inr ⟨by rw [hk]; exact c2, j, by rw [hk]; omega, q2, fun _ => q3, fun u => by rw [hk] at u; omega, rfl⟩⟩, setX (setX τ 155 3 1) 155 4 (τ.1 155 8), ?_, ((k1.tr q4).ks.tr (KS_f (Or.inl rfl))).tr (KS_f (Or.inr rfl)), by rw [setX_n (by decide), setX_j], by rw [setX_j, q5]⟩
          show (bo (xrc SX 5 (some 155)) fun a15 => bd (f_X5_outOfForm a15 τ) fun v17 σ18 => if v17 = 0 ∨ v17 = 1 then some (v17, σ18) else none) = _
          rw [bo_of r_rc, bd_of (x_oof τ), if_pos (Or.inl rfl)]
        · have hpz := pz_le (B := B) hb.2.2.1 (nmS s k)
          have hdτ := q2.rd hd1
          have k2 : KR τ (setX (setX τ 155 8 (nI (tS B L (pz B L (tE B L i) (nmS s k))))) 155 9 (nI (tE B L (pz B L (tE B L i) (nmS s k))))) := (KR_t (Or.inl rfl)).tr (KR_t (Or.inr rfl))
          have hb2 := tk_b (B := B) hpz
          by_cases c3 : tT B L (pz B L (tE B L i) (nmS s k)) = 3
          · right
            refine ⟨⟨by rw [hk]; exact c2, by rw [hk]; exact q1, by rw [hk]; exact c3⟩, _, (k1.tr q2).tr k2, setX_j, fun k' hk' => ?_, ?_⟩
            · rw [setX_o (by decide), setX_o (by decide), setX_o (by decide), setX_o (by decide)]
              exact q4 k' hk'
            · show (bo (xrc SX 5 (some 155)) fun a21 => bd (f_X5_nextToken a21 τ) fun v23 σ24 => if v23 = (3 : Int32) then bo (xrc SX 5 (some 155)) fun a27 => bd (f_X5_judgeLine a27 (nI k) (nI (nmS s k)) (nI (tS B L i)) σ24) fun v29 σ30 => bo (xgi SX 5 3 (some 155) σ30) fun v32 => if v32 = 0 then bo (xrc SX 5 (some 155)) fun a35 => bd (f_X5_tellLine a35 (nI k) σ30) fun v37 σ38 => some ((1 : Int32), σ38) else some ((1 : Int32), σ30) else bo (xrc SX 5 (some 155)) fun a40 => bd (f_X5_outOfForm a40 σ24) fun v42 σ43 => if v42 = 0 ∨ v42 = 1 then some (v42, σ43) else none) = _
              simp only [bo_of r_rc, bd_of (x_tok hdτ hpz q3), r_gi]
              rw [if_pos (show nI (tT B L (pz B L (tE B L i) (nmS s k))) = (3 : Int32) from by rw [c3]; rfl)]
              rfl
          · left
            refine ⟨tS B L (pz B L (tE B L i) (nmS s k)), ⟨c0, Or.inr ⟨by rw [hk]; exact c2, nmS s k, by rw [hk]; omega, q1, fun u => by rw [hk] at u; omega, fun _ => c3, rfl⟩⟩, _, ?_, (((k1.tr q2).tr k2).ks.tr (KS_f (v := 1) (Or.inl rfl))).tr (KS_f (v := nI (tS B L (pz B L (tE B L i) (nmS s k)))) (Or.inr rfl)), by rw [setX_n (by decide), setX_j], setX_j⟩
            show (bo (xrc SX 5 (some 155)) fun a21 => bd (f_X5_nextToken a21 τ) fun v23 σ24 => if v23 = (3 : Int32) then bo (xrc SX 5 (some 155)) fun a27 => bd (f_X5_judgeLine a27 (nI k) (nI (nmS s k)) (nI (tS B L i)) σ24) fun v29 σ30 => bo (xgi SX 5 3 (some 155) σ30) fun v32 => if v32 = 0 then bo (xrc SX 5 (some 155)) fun a35 => bd (f_X5_tellLine a35 (nI k) σ30) fun v37 σ38 => some ((1 : Int32), σ38) else some ((1 : Int32), σ30) else bo (xrc SX 5 (some 155)) fun a40 => bd (f_X5_outOfForm a40 σ24) fun v42 σ43 => if v42 = 0 ∨ v42 = 1 then some (v42, σ43) else none) = _
            simp only [bo_of r_rc, bd_of (x_tok hdτ hpz q3), r_gi]
            rw [if_neg (show ¬ nI (tT B L (pz B L (tE B L i) (nmS s k))) = (3 : Int32) from fun u => c3 ((nI_eq (b := 3) (by omega) (by decide)).mp u)), bd_of (x_oof _), if_pos (Or.inl rfl), setX_n (by decide), setX_j]
    · left
      rw [if_neg (show ¬ nI (tT B L i) = (1 : Int32) from fun u => c1 ((nI_eq (b := 1) (by omega) (by decide)).mp u))]
      exact badR (if_neg c1)
