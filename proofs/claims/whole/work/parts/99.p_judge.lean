/-! ===== text: a line judged and told in the class ===== -/
/-- the fault noted so far (0: none), and where -/
def FX (σ : Dt) (g : Nat × Nat) : Prop := σ.1 155 3 = nI g.1 ∧ σ.1 155 4 = (if g.1 = 0 then -1 else nI g.2) ∧ g.1 ≤ 5
def nt (g a : Nat × Nat) : Nat × Nat := if g.1 = 0 then a else g
theorem nt_0 {g a : Nat × Nat} (h : g.1 = 0) : nt g a = a := if_pos h
theorem nt_n {g a : Nat × Nat} (h : ¬ g.1 = 0) : nt g a = g := if_neg h
/-- only the fault has changed -/
def KG (σ τ : Dt) : Prop := (∀ a, ¬ a = 155 → τ.1 a = σ.1 a) ∧ (∀ j, ¬ j = 3 → ¬ j = 4 → τ.1 155 j = σ.1 155 j) ∧ τ.2 = σ.2
theorem KG_0 (σ : Dt) : KG σ σ := ⟨fun _ _ => rfl, fun _ _ _ => rfl, rfl⟩
theorem KG.tr {a b c : Dt} (h1 : KG a b) (h2 : KG b c) : KG a c := ⟨fun x x1 => (h2.1 x x1).trans (h1.1 x x1), fun j j1 j2 => (h2.2.1 j j1 j2).trans (h1.2.1 j j1 j2), h2.2.2.trans h1.2.2⟩
theorem KG_f {σ : Dt} {j : Nat} {v : Int32} (h : j = 3 ∨ j = 4) : KG σ (setX σ 155 j v) := ⟨fun a h1 => setX_o h1, fun k h1 h2 => setX_n (by omega), rfl⟩
theorem KG.ref {σ τ : Dt} (h : KG σ τ) (hR : RefX σ) : RefX τ := by
  unfold RefX at *
  rw [h.2.2]
  exact hR
theorem KG.ks {σ τ : Dt} (h : KG σ τ) : KS σ τ := ⟨fun a h1 _ _ => h.1 a h1, fun j h1 h2 _ _ => h.2.1 j h1 h2, h.2.2⟩
theorem x_note {σ : Dt} {g : Nat × Nat} (h : FX σ g) {c p : Nat} (h1 : 1 ≤ c) (h5 : c ≤ 5) : ∃ τ, f_X5_note 155 (nI c) (nI p) σ = some ((), τ) ∧ FX τ (nt g (c, p)) ∧ KG σ τ := by
  obtain ⟨f1, f2, f3⟩ := h
  unfold f_X5_note
  rw [r_gi, f1]
  by_cases z : g.1 = 0
  · rw [ite_z_t z, r_pi, r_pi, nt_0 z]
    refine ⟨_, rfl, ⟨?_, ?_, h5⟩, (KG_f (Or.inl rfl)).tr (KG_f (Or.inr rfl))⟩
    · rw [setX_n (by decide), setX_j]
    · rw [setX_j, if_neg (show ¬ c = 0 by omega)]
  · rw [ite_z_f (by omega) z, nt_n z]
    exact ⟨_, rfl, ⟨f1, f2, f3⟩, KG_0 _⟩
theorem cbU {n c : Nat} (hn : n < 2 ^ 31) (hc : c < 2 ^ 31) : (if nI c < nI n then some (0 : Int32) else some 1) = some (bI (n ≤ c)) := by
  by_cases z : n ≤ c
  · rw [if_neg (Int32.not_lt.mpr (nI_le z hc)), bI_t z]
  · rw [if_pos (nI_lt (by omega) hn), bI_f z]
theorem cbL {n c : Nat} (hn : n < 2 ^ 31) (hc : c < 2 ^ 31) : (if nI c ≤ nI n then some (0 : Int32) else some 1) = some (bI (n < c)) := by
  by_cases z : n < c
  · rw [if_neg (nI_ge z hc), bI_t z]
  · rw [if_pos (nI_le (by omega) hn), bI_f z]
theorem cbB {n a b : Nat} (hn : n < 2 ^ 31) (ha : a < 2 ^ 31) (hb : b < 2 ^ 31) : (if nI n < nI a then some (0 : Int32) else if nI b < nI n then some 0 else some 1) = some (bI (a ≤ n ∧ n ≤ b)) := by
  by_cases z : a ≤ n
  · rw [if_neg (Int32.not_lt.mpr (nI_le z hn))]
    by_cases y : n ≤ b
    · rw [if_neg (Int32.not_lt.mpr (nI_le y hb)), bI_t ⟨z, y⟩]
    · rw [if_pos (nI_lt (by omega) hn), bI_f (fun w => y w.2)]
  · rw [if_pos (nI_lt (by omega) ha), bI_f (fun w => z w.1)]
/-- the j-th number of a line can be -/
def cb (s k j : Nat) (N : Nat → Nat) : Prop := if s = 0 then (if k = 0 then (if j = 0 then True else N j ≤ 9) else if k = 1 then (if j = 0 then N j < 10 else N j < N 0) else if k = 2 then (if j = 0 then 1 ≤ N j ∧ N j ≤ 30 else N j ≤ 20) else 1 ≤ N j ∧ N j ≤ 30) else if s = 1 then (if j = 0 then N j < 10 else if k = 1 then N j ≤ 9 else if j = 1 then N j < 6 else 1 ≤ N j ∧ N j ≤ 9) else (if k = 0 then 1 ≤ N j ∧ N j ≤ 9 else if j = 0 then N j < 6 else N j ≤ 30)
theorem bI01 {P : Prop} {x : Int32 → Option Int32} (h : ∀ v, x v = if v = 0 ∨ v = 1 then some v else none) : x (bI P) = some (bI P) := by
  rw [h, if_pos (bI_01 P)]
theorem x_canBe {σ : Dt} {s k j m : Nat} {N : Nat → Nat} (hR : RefX σ) (hs : s < 3) (h7 : σ.1 155 7 = nI s) (hk : k ≤ 4) (hm : m ≤ 3) (hN : ∀ j, j < m → σ.1 172 j = nI (N j) ∧ N j ≤ 99) (hj : j < m) : f_X5_canBe 155 (nI k) (nI j) σ = some (bI (cb s k j N)) := by
  obtain ⟨n1, n2⟩ := hN j hj
  obtain ⟨z1, z2⟩ := hN 0 (by omega)
  have z1' : bo (xai SX (some 172) (0 : Int32) σ) = fun (k : Int32 → Option Int32) => k (nI (N 0)) := by
    funext k
    rw [show (0 : Int32) = nI 0 from rfl, r_an (Or.inl rfl) (by decide), z1]
  unfold f_X5_canBe
  rw [if_neg (nI_pos (by omega)), if_neg (show ¬ (3 : Int32) ≤ nI j from nI_ge (b := 3) (by omega) (by decide)), r_r11 hR, r_an (Or.inl rfl) (by omega), n1]
  unfold f_X5_canBe_19
  rw [r_gi, h7]
  rcases (show s = 0 ∨ s = 1 ∨ s = 2 by omega) with rfl | rfl | rfl
  · have key : f_X5_canBeInValley 155 (nI k) (nI j) (nI (N j)) σ = some (bI (cb 0 k j N)) := by
      unfold f_X5_canBeInValley f_X5_canBeInValley_38 f_X5_canBeInValley_97 f_X5_canBeInValley_128
      rcases (show k = 0 ∨ k = 1 ∨ k = 2 ∨ (3 ≤ k) by omega) with rfl | rfl | rfl | hk3
      · rw [if_pos (by decide)]
        rcases (show j = 0 ∨ 1 ≤ j by omega) with rfl | hj1
        · rw [if_pos (by decide)]
          exact congrArg some (bI_t trivial).symm
        · rw [ite_z_f (by omega) (by omega), show cb 0 0 j N = (N j ≤ 9) from by unfold cb; rw [if_pos rfl, if_pos rfl, if_neg (show ¬ j = 0 by omega)]]
          exact cbU (c := 9) (by omega) (by decide)
      · rw [if_neg (by decide), if_pos (by decide)]
        rcases (show j = 0 ∨ 1 ≤ j by omega) with rfl | hj1
        · rw [if_pos (by decide)]
          exact cbL (c := 10) (by omega) (by decide)
        · rw [ite_z_f (by omega) (by omega), r_r11 hR, z1', show cb 0 1 j N = (N j < N 0) from by unfold cb; rw [if_pos rfl, if_neg (show ¬ (1 : Nat) = 0 by decide), if_pos rfl, if_neg (show ¬ j = 0 by omega)]]
          exact cbL (by omega) (by omega)
      · rw [if_neg (by decide), if_neg (by decide), if_pos (by decide)]
        rcases (show j = 0 ∨ 1 ≤ j by omega) with rfl | hj1
        · rw [if_pos (by decide)]
          exact cbB (a := 1) (b := 30) (by omega) (by decide) (by decide)
        · rw [ite_z_f (by omega) (by omega), show cb 0 2 j N = (N j ≤ 20) from by unfold cb; rw [if_pos rfl, if_neg (show ¬ (2 : Nat) = 0 by decide), if_neg (show ¬ (2 : Nat) = 1 by decide), if_pos rfl, if_neg (show ¬ j = 0 by omega)]]
          exact cbU (c := 20) (by omega) (by decide)
      · rw [if_neg (show ¬ nI k = (0 : Int32) from z_f (by omega) (by omega)), if_neg (show ¬ nI k = (1 : Int32) from fun u => absurd ((nI_eq (b := 1) (by omega) (by decide)).mp u) (by omega)), if_neg (show ¬ nI k = (2 : Int32) from fun u => absurd ((nI_eq (b := 2) (by omega) (by decide)).mp u) (by omega))]
        rw [show cb 0 k j N = (1 ≤ N j ∧ N j ≤ 30) from by rcases (show k = 3 ∨ k = 4 by omega) with rfl | rfl <;> rfl]
        exact cbB (a := 1) (b := 30) (by omega) (by decide) (by decide)
    rw [if_pos (by decide), bo_of r_rc, bo_of key, if_pos (bI_01 _)]
  · have key : f_X5_canBeInDeed 155 (nI k) (nI j) (nI (N j)) σ = some (bI (cb 1 k j N)) := by
      unfold f_X5_canBeInDeed f_X5_canBeInDeed_67
      rcases (show j = 0 ∨ 1 ≤ j by omega) with rfl | hj1
      · rw [if_pos (by decide)]
        exact cbL (c := 10) (by omega) (by decide)
      · rw [ite_z_f (by omega) (by omega)]
        rcases (show k = 1 ∨ ¬ k = 1 by omega) with rfl | hk1
        · rw [if_pos (by decide), show cb 1 1 j N = (N j ≤ 9) from by unfold cb; rw [if_neg (show ¬ (1 : Nat) = 0 by decide), if_pos rfl, if_neg (show ¬ j = 0 by omega), if_pos rfl]]
          exact cbU (c := 9) (by omega) (by decide)
        · rw [if_neg (show ¬ nI k = (1 : Int32) from fun u => absurd ((nI_eq (b := 1) (by omega) (by decide)).mp u) (by omega))]
          rcases (show j = 1 ∨ j = 2 by omega) with rfl | rfl
          · rw [if_pos (by decide), show cb 1 k 1 N = (N 1 < 6) from by unfold cb; rw [if_neg (show ¬ (1 : Nat) = 0 by decide), if_pos rfl, if_neg (show ¬ (1 : Nat) = 0 by decide), if_neg hk1, if_pos rfl]]
            exact cbL (c := 6) (by omega) (by decide)
          · rw [if_neg (by decide), show cb 1 k 2 N = (1 ≤ N 2 ∧ N 2 ≤ 9) from by unfold cb; rw [if_neg (show ¬ (1 : Nat) = 0 by decide), if_pos rfl, if_neg (show ¬ (2 : Nat) = 0 by decide), if_neg hk1, if_neg (show ¬ (2 : Nat) = 1 by decide)]]
            exact cbB (a := 1) (b := 9) (by omega) (by decide) (by decide)
    rw [if_neg (by decide), r_gi, h7, if_pos (by decide), bo_of r_rc, bo_of key, if_pos (bI_01 _)]
  · rw [if_neg (by decide), r_gi, h7, if_neg (by decide)]
    unfold f_X5_canBe_70
    rcases (show k = 0 ∨ 1 ≤ k by omega) with rfl | hk1
    · rw [if_pos (by decide)]
      exact cbB (a := 1) (b := 9) (by omega) (by decide) (by decide)
    · rw [if_neg (show ¬ nI k = (0 : Int32) from z_f (by omega) (by omega))]
      rcases (show j = 0 ∨ 1 ≤ j by omega) with rfl | hj1
      · rw [if_pos (by decide), show cb 2 k 0 N = (N 0 < 6) from by unfold cb; rw [if_neg (show ¬ (2 : Nat) = 0 by decide), if_neg (show ¬ (2 : Nat) = 1 by decide), if_neg (show ¬ k = 0 by omega), if_pos rfl]]
        exact cbL (c := 6) (by omega) (by decide)
      · rw [ite_z_f (by omega) (by omega), show cb 2 k j N = (N j ≤ 30) from by unfold cb; rw [if_neg (show ¬ (2 : Nat) = 0 by decide), if_neg (show ¬ (2 : Nat) = 1 by decide), if_neg (show ¬ k = 0 by omega), if_neg (show ¬ j = 0 by omega)]]
        exact cbU (c := 30) (by omega) (by decide)
def TMx (s k : Nat) (σ : Dt) : Prop := if s = 1 then ¬ σ.1 164 0 < 40 else if s = 2 then k = 1 ∧ ¬ σ.1 169 1 < 8 else if k = 0 then ¬ σ.1 156 0 < 10 else k = 2 ∧ ¬ σ.1 156 1 < 6
theorem r_g4 {β : Type} {σ : Dt} {k : Int32 → Option β} : bo (xgi SX 4 0 (some 164) σ) k = k (σ.1 164 0) := bo_of (xgi_of (by decide) (by decide))
theorem r_g6 {β : Type} {j : Nat} {σ : Dt} {k : Int32 → Option β} : bo (xgi SX 6 j (some 169) σ) k = k (σ.1 169 j) := bo_of (xgi_of (by decide) (by decide))
theorem r_g9 {β : Type} {j : Nat} {σ : Dt} {k : Int32 → Option β} : bo (xgi SX 9 j (some 156) σ) k = k (σ.1 156 j) := bo_of (xgi_of (by decide) (by decide))
theorem bI_n {x : Prop} [Decidable x] : (if x then some (0 : Int32) else some 1) = some (bI (¬ x)) := by
  by_cases c : x
  · rw [if_pos c, bI_f (fun z => z c)]
  · rw [if_neg c, bI_t c]
theorem x_tm {σ : Dt} {s k : Nat} (hR : RefX σ) (hs : s < 3) (hk : k ≤ 4) (h7 : σ.1 155 7 = nI s) : f_X5_isOneTooMany 155 (nI k) σ = some (bI (TMx s k σ)) := by
  unfold f_X5_isOneTooMany f_X5_isOneTooMany_55 f_X5_isOneTooMany_100
  rw [r_gi, h7]
  rcases (show s = 1 ∨ s = 2 ∨ s = 0 by omega) with rfl | rfl | rfl
  · rw [if_pos (by decide), r_r1 hR, r_g4, show TMx 1 k σ = ¬ σ.1 164 0 < 40 from rfl]
    exact bI_n
  · rw [if_neg (by decide), r_gi, h7, if_pos (by decide), show TMx 2 k σ = (k = 1 ∧ ¬ σ.1 169 1 < 8) from rfl]
    by_cases c : k = 1
    · subst c
      rw [if_pos (by decide), r_r2 hR, r_g6, bI_n, show (1 = 1 ∧ ¬ σ.1 169 1 < 8) = ¬ σ.1 169 1 < 8 from propext ⟨fun z => z.2, fun z => ⟨rfl, z⟩⟩]
    · rw [if_neg (show ¬ nI k = (1 : Int32) from fun u => c ((nI_eq (b := 1) (by omega) (by decide)).mp u)), bI_f (fun z => c z.1)]
  · rw [if_neg (by decide), r_gi, h7, if_neg (by decide)]
    by_cases c : k = 0
    · subst c
      rw [if_pos (by decide), r_r0 hR, r_g9, show TMx 0 0 σ = ¬ σ.1 156 0 < 10 from rfl]
      exact bI_n
    · rw [if_neg (show ¬ nI k = (0 : Int32) from z_f (by omega) c), show TMx 0 k σ = (k = 2 ∧ ¬ σ.1 156 1 < 6) from if_neg c]
      by_cases d : k = 2
      · subst d
        rw [if_pos (by decide), r_r0 hR, r_g9, bI_n, show (2 = 2 ∧ ¬ σ.1 156 1 < 6) = ¬ σ.1 156 1 < 6 from propext ⟨fun z => z.2, fun z => ⟨rfl, z⟩⟩]
      · rw [if_neg (show ¬ nI k = (2 : Int32) from fun u => d ((nI_eq (b := 2) (by omega) (by decide)).mp u)), bI_f (fun z => d z.1)]
/-- the fault behind the numbers of a line -/
noncomputable def gJ (s k : Nat) (N Pl : Nat → Nat) (g : Nat × Nat) : Nat → Nat × Nat
  | 0 => g
  | j + 1 => ci (cb s k j N) (gJ s k N Pl g j) (nt (gJ s k N Pl g j) (2, Pl j))
theorem x_judge {σ : Dt} {s k m e0 : Nat} {N Pl : Nat → Nat} {g : Nat × Nat} (hR : RefX σ) (hs : s < 3) (h7 : σ.1 155 7 = nI s) (hk : k ≤ 4) (hm : m ≤ 3) (hN : ∀ j, j < m → (σ.1 172 j = nI (N j) ∧ N j ≤ 99) ∧ σ.1 173 j = nI (Pl j)) (hF : FX σ g) : ∃ τ, f_X5_judgeLine 155 (nI k) (nI m) (nI e0) σ = some ((), τ) ∧ KG σ τ ∧ FX τ (gJ s k N Pl (ci (TMx s k σ) (nt g (3, e0)) g) m) := by
  have main : ∀ τ g', KG σ τ → FX τ g' → ∃ τ', f_X5_judgeLine_14 155 (nI k) (nI m) τ = some ((), τ') ∧ KG σ τ' ∧ FX τ' (gJ s k N Pl g' m) := by
    intro τ g' k0 f0
    have key := iter_w (f := fun q : Int32 × Dt => f_X5_judgeLine_L17 155 (nI k) (nI m) q.1 q.2) (s0 := ((0 : Int32), τ)) (P := fun j q => q.1 = nI j ∧ KG σ q.2 ∧ FX q.2 (gJ s k N Pl g' j)) (Q := fun r => KG σ r ∧ FX r (gJ s k N Pl g' m)) m (by omega) ⟨rfl, k0, f0⟩ (fun j q hj hP => by
      obtain ⟨x, ρ⟩ := q
      obtain ⟨p1, p2, p3⟩ := hP
      dsimp only at p1 p2 p3 ⊢
      subst p1
      unfold f_X5_judgeLine_L17 f_X5_judgeLine_51
      rcases (show j = m ∨ j < m by omega) with y | y
      · left
        subst y
        rw [if_pos (nI_le (Nat.le_refl _) (by omega))]
        exact ⟨_, rfl, p2, p3⟩
      · right
        have hRρ := p2.ref hR
        have e72 : ∀ j, ρ.1 172 j = σ.1 172 j := fun j => by rw [p2.1 172 (by decide)]
        have e73 : ∀ j, ρ.1 173 j = σ.1 173 j := fun j => by rw [p2.1 173 (by decide)]
        have hcb := x_canBe (σ := ρ) hRρ hs (by rw [p2.2.1 7 (by decide) (by decide)]; exact h7) hk hm (fun j hj => by rw [e72]; exact (hN j hj).1) y
        rw [ite_le_f (by omega) y, if_neg (show ¬ (3 : Int32) ≤ nI j from nI_ge (b := 3) (by omega) (by decide)), bo_of r_rc, bo_of hcb, ite_b, nI_1]
        by_cases c : cb s k j N
        · rw [ci_t c]
          refine ⟨y, _, rfl, rfl, p2, ?_⟩
          show FX ρ (ci (cb s k j N) _ _)
          rw [ci_t c]
          exact p3
        · obtain ⟨ρ', n1, n2, n3⟩ := x_note (c := 2) (p := Pl j) p3 (by decide) (by decide)
          rw [ci_f c, r_r12 hRρ, r_an (Or.inr rfl) (by omega), e73, (hN j y).2, bo_of r_rc, bd_of (show f_X5_note 155 (2 : Int32) (nI (Pl j)) ρ = _ from n1)]
          refine ⟨y, _, rfl, rfl, p2.tr n3, ?_⟩
          show FX ρ' (ci (cb s k j N) _ _)
          rw [ci_f c]
          exact n2)
    obtain ⟨r, e1, e2, e3⟩ := key
    unfold f_X5_judgeLine_14
    rw [bo_of e1]
    exact ⟨r, rfl, e2, e3⟩
  unfold f_X5_judgeLine
  rw [bo_of r_rc, bo_of (x_tm hR hs hk h7), ite_b]
  by_cases c : TMx s k σ
  · obtain ⟨ρ, n1, n2, n3⟩ := x_note (c := 3) (p := e0) hF (by decide) (by decide)
    rw [ci_t c, ci_t c, bo_of r_rc, bd_of (show f_X5_note 155 (3 : Int32) (nI e0) σ = _ from n1)]
    exact main ρ _ n3 n2
  · rw [ci_f c, ci_f c]
    exact main σ g (KG_0 σ) hF
