/-! ===== the reference's reads ===== -/
theorem iIn (x a b : Int32) (σ : Dt) : f_X12_isIn x a b σ = some (if x < a ∨ b < x then 0 else 1) := by
  unfold f_X12_isIn f_X12_isIn_14
  by_cases h1 : x < a
  · rw [if_pos h1, if_pos (Or.inl h1)]
  · rw [if_neg h1]
    by_cases h2 : b < x
    · rw [if_pos h2, if_pos (Or.inr h2)]
    · rw [if_neg h2, if_neg (by rintro (h | h); exact h1 h; exact h2 h)]
/-- x is one of 0 .. n-1 -/
def inR (x : Int32) (n : Nat) : Prop := ∃ j, j < n ∧ x = nI j
theorem inR_iff {x : Int32} {n : Nat} (hn : n < 2 ^ 30) : inR x n ↔ ¬ (x < 0 ∨ nI n - 1 < x) := by
  have e : (nI n - 1).toInt = (n : Int) - 1 := pk_sub_toInt (a := n) (b := 1) hn (by decide)
  constructor
  · rintro ⟨j, hj, rfl⟩ h
    rcases h with h | h
    · exact nI_pos (by omega) h
    · have h2 := Int32.lt_iff_toInt_lt.mp h
      rw [e, nI_toInt (by omega)] at h2
      omega
  · intro h
    have h1 : ¬ x < 0 := fun q => h (Or.inl q)
    obtain ⟨j, hj, rfl⟩ := nI_of h1
    refine ⟨j, ?_, rfl⟩
    have h2 : ¬ nI n - 1 < nI j := fun q => h (Or.inr q)
    have h3 := Int32.le_iff_toInt_le.mp (Int32.not_lt.mp h2)
    rw [e, nI_toInt (by omega)] at h3
    omega
theorem inR_iff2 {x : Int32} {n : Nat} (hn : n < 2 ^ 30) : inR x n ↔ ¬ x < 0 ∧ ¬ nI n ≤ x := by
  constructor
  · rintro ⟨j, hj, rfl⟩
    exact ⟨nI_pos (by omega), fun h => absurd ((nI_leI (by omega) (by omega)).mp h) (by omega)⟩
  · rintro ⟨h1, h2⟩
    obtain ⟨j, hj, rfl⟩ := nI_of h1
    refine ⟨j, ?_, rfl⟩
    have h3 : ¬ n ≤ j := fun q => h2 (nI_le q hj)
    omega
theorem SM1 : (1 : Nat) < SM.1 := by decide
theorem SM_1 : SM.2.1 1 = 13 := by decide
theorem SM_l1 : SM.2.2 1 = 4312 := by decide
theorem mgi (j : Nat) (σ : Dt) : xgi SM 12 j (some 0) σ = some (σ.1 0 j) := xgi_of (by decide) (by decide)
theorem mgr (j : Nat) (σ : Dt) : xgr SM 12 j (some 0) σ = some (σ.2.2 0 j) := xgr_of (by decide) (by decide)
theorem mpi (j : Nat) (v : Int32) (σ : Dt) : xpi SM 12 j (some 0) v σ = some (up2 σ.1 0 j v, σ.2.1, σ.2.2) := xpi_of (by decide) (by decide)
theorem mrc : xrc SM 12 (some 0) = some 0 := xrc_of (by decide) (by decide)
theorem mai (i : Nat) (σ : Dt) (h : i < 4312) : xai SM (some 1) (nI i) σ = some (σ.1 1 i) := xai_of SM1 SM_1 (by rw [SM_l1]; exact h) (by rw [SM_l1]; decide)
theorem msi (i : Nat) (v : Int32) (σ : Dt) (h : i < 4312) : xsi SM (some 1) (nI i) v σ = some (up2 σ.1 1 i v, σ.2.1, σ.2.2) := xsi_of SM1 SM_1 (by rw [SM_l1]; exact h) (by rw [SM_l1]; decide)
theorem mall {σ : Dt} (h : RefM σ) : σ.2.2 0 0 = some 1 := h 0 (by decide)
/-- one of a sort -/
theorem m_isOf {σ : Dt} (hR : RefM σ) (s c : Nat) (hs : s < 3) (hc : σ.1 1 s = nI c) (hc2 : c ≤ 2) (x : Int32) : (inR x c → f_X12_isOf 0 (nI s) x σ = some 1) ∧ (¬ inR x c → f_X12_isOf 0 (nI s) x σ = some 0) := by
  have h := inR_iff (x := x) (n := c) (by omega)
  unfold f_X12_isOf
  rw [mgr, bo_s, mall hR, mai s σ (by omega), bo_s, hc, iIn, bo_s]
  constructor
  · intro q
    rw [if_neg (h.mp q)]
    rfl
  · intro q
    have q2 : x < 0 ∨ nI c - 1 < x := Classical.not_not.mp (fun z => q (h.mpr z))
    rw [if_pos q2]
    rfl
/-- the reference looks at a valley whose row begins at o and holds A: F folk, W works -/
def MV (σ : Dt) (o : Nat) (A : Nat → Int32) (F W : Nat) : Prop := RefM σ ∧ σ.1 0 11 = nI o ∧ σ.1 0 12 = nI F ∧ σ.1 0 13 = nI W ∧ o + 55 ≤ 1078 ∧ (∀ i, i < 55 → σ.1 1 (o + i) = A i) ∧ VW A F W
def setV (σ : Dt) (o F W : Nat) : Dt := (up2 (up2 (up2 σ.1 0 11 (nI o)) 0 12 (nI F)) 0 13 (nI W), σ.2.1, σ.2.2)
theorem up2_o {α : Type} {f : Nat → Nat → α} {a j x y : Nat} {v : α} (h : x ≠ a) : up2 f a j v x y = f x y := if_neg (fun q => h q.1)
theorem up2_j {α : Type} {f : Nat → Nat → α} {a j x y : Nat} {v : α} (h : y ≠ j) : up2 f a j v x y = f x y := if_neg (fun q => h q.2)
theorem setV_1 {σ : Dt} {o F W x y : Nat} (h : x ≠ 0) : (setV σ o F W).1 x y = σ.1 x y := by
  show up2 (up2 (up2 σ.1 0 11 (nI o)) 0 12 (nI F)) 0 13 (nI W) x y = _
  rw [up2_o h, up2_o h, up2_o h]
theorem setV_MV {σ : Dt} {o F W : Nat} {A : Nat → Int32} (hR : RefM σ) (ho : o + 55 ≤ 1078) (hA : ∀ i, i < 55 → σ.1 1 (o + i) = A i) (hV : VW A F W) : MV (setV σ o F W) o A F W := by
  refine ⟨hR, ?_, ?_, ?_, ho, fun i hi => ?_, hV⟩
  · show up2 (up2 (up2 σ.1 0 11 (nI o)) 0 12 (nI F)) 0 13 (nI W) 0 11 = _
    rw [up2_j (by decide), up2_j (by decide), up2_eq]
  · show up2 (up2 (up2 σ.1 0 11 (nI o)) 0 12 (nI F)) 0 13 (nI W) 0 12 = _
    rw [up2_j (by decide), up2_eq]
  · show up2 (up2 (up2 σ.1 0 11 (nI o)) 0 12 (nI F)) 0 13 (nI W) 0 13 = _
    rw [up2_eq]
  · rw [setV_1 (by decide)]
    exact hA i hi
theorem l_place0 (k : Nat) : (610 : Int32) + (55 : Int32) * nI k = nI (610 + 55 * k) := by
  show nI 610 + nI 55 * nI k = _
  rw [pk_mul, nI_add]
theorem m_isValley {σ : Dt} (hR : RefM σ) {c0 : Nat} (hc : σ.1 1 0 = nI c0) (hc2 : c0 ≤ 2) (hV : ∀ k, k < c0 → ∃ F W, VW (fun i => σ.1 1 (610 + 55 * k + i)) F W) (x : Int32) : (∀ k, k < c0 → x = nI k → ∀ F W, VW (fun i => σ.1 1 (610 + 55 * k + i)) F W → f_X12_isValley 0 x σ = some (1, setV σ (610 + 55 * k) F W)) ∧ (¬ inR x c0 → f_X12_isValley 0 x σ = some (0, σ)) := by
  have h := m_isOf hR 0 c0 (by decide) hc hc2 x
  constructor
  · intro k hk hx F W hVW
    subst hx
    unfold f_X12_isValley
    rw [mrc, bo_s, show f_X12_isOf 0 (0 : Int32) (nI k) σ = some 1 from h.1 ⟨k, hk, rfl⟩, bo_s, if_neg (by decide)]
    unfold f_X12_placeOf
    rw [if_pos rfl, bo_s, l_place0, mpi, bo_s, mgr, bo_s, mgi, bo_s]
    dsimp only
    rw [up2_eq, mall hR, mai _ _ (by omega), bo_s]
    dsimp only
    rw [up2_o (by decide), mpi, bo_s, mgr, bo_s, mgi, bo_s]
    dsimp only
    rw [mall hR, up2_j (by decide), up2_eq, show nI (610 + 55 * k) + 1 = nI (610 + 55 * k + 1) from nI_1 _, mai _ _ (by omega), bo_s]
    dsimp only
    rw [up2_o (by decide), up2_o (by decide), mpi, bo_s]
    have h0 : σ.1 1 (610 + 55 * k) = nI F := hVW.1
    have h1 : σ.1 1 (610 + 55 * k + 1) = nI W := hVW.2.1
    rw [h0, h1]
    rfl
  · intro q
    unfold f_X12_isValley
    rw [mrc, bo_s, show f_X12_isOf 0 (0 : Int32) x σ = some 0 from h.2 q, bo_s, if_pos rfl]
section MVL
variable {σ : Dt} {o F W : Nat} {A : Nat → Int32}
theorem m_isFolk (h : MV σ o A F W) (x : Int32) : (inR x F → f_X12_isFolk 0 x σ = some 1) ∧ (¬ inR x F → f_X12_isFolk 0 x σ = some 0) := by
  have q := inR_iff (x := x) (n := F) (by have := h.2.2.2.2.2.2.2.2.1; omega)
  unfold f_X12_isFolk
  rw [mgi, bo_s, h.2.2.1, iIn, bo_s]
  exact ⟨fun z => by rw [if_neg (q.mp z)]; rfl, fun z => by rw [if_pos (Classical.not_not.mp (fun y => z (q.mpr y)))]; rfl⟩
theorem m_isWork (h : MV σ o A F W) (x : Int32) : (inR x W → f_X12_isWork 0 x σ = some 1) ∧ (¬ inR x W → f_X12_isWork 0 x σ = some 0) := by
  have q := inR_iff (x := x) (n := W) (by have := h.2.2.2.2.2.2.2.2.2.1; omega)
  unfold f_X12_isWork
  rw [mgi, bo_s, h.2.2.2.1, iIn, bo_s]
  exact ⟨fun z => by rw [if_neg (q.mp z)]; rfl, fun z => by rw [if_pos (Classical.not_not.mp (fun y => z (q.mpr y)))]; rfl⟩
theorem m_age (h : MV σ o A F W) {f : Nat} (hf : f < 10) : f_X12_ageOf 0 (nI f) σ = some (A (3 + 4 * f)) := by
  unfold f_X12_ageOf
  rw [mgr, bo_s, mgi, bo_s, h.2.1, mall h.1, show nI o + 3 + 4 * nI f = nI (o + (3 + 4 * f)) by (show nI o + nI 3 + nI 4 * nI f = _; rw [pk_mul, nI_add, nI_add, Nat.add_assoc]), mai _ _ (by have := h.2.2.2.2.1; omega), bo_s, h.2.2.2.2.2.1 _ (by omega)]
theorem m_strength (h : MV σ o A F W) {f : Nat} (hf : f < 10) : f_X12_strengthOf 0 (nI f) σ = some (A (4 + 4 * f)) := by
  unfold f_X12_strengthOf
  rw [mgr, bo_s, mgi, bo_s, h.2.1, mall h.1, show nI o + 3 + 1 + 4 * nI f = nI (o + (4 + 4 * f)) by (show nI o + nI 3 + nI 1 + nI 4 * nI f = _; rw [pk_mul, nI_add, nI_add, nI_add]; congr 1; omega), mai _ _ (by have := h.2.2.2.2.1; omega), bo_s, h.2.2.2.2.2.1 _ (by omega)]
theorem m_parents (h : MV σ o A F W) {f : Nat} (hf : f < 10) : f_X12_parentsOf 0 (nI f) σ = some (A (5 + 4 * f)) := by
  unfold f_X12_parentsOf
  rw [mgr, bo_s, mgi, bo_s, h.2.1, mall h.1, show nI o + 3 + 2 + 4 * nI f = nI (o + (5 + 4 * f)) by (show nI o + nI 3 + nI 2 + nI 4 * nI f = _; rw [pk_mul, nI_add, nI_add, nI_add]; congr 1; omega), mai _ _ (by have := h.2.2.2.2.1; omega), bo_s, h.2.2.2.2.2.1 _ (by omega)]
theorem m_elder (h : MV σ o A F W) {f : Nat} (hf : f < 10) : f_X12_elderOf 0 (nI f) σ = some (A (6 + 4 * f)) := by
  unfold f_X12_elderOf
  rw [mgr, bo_s, mgi, bo_s, h.2.1, mall h.1, show nI o + 3 + 3 + 4 * nI f = nI (o + (6 + 4 * f)) by (show nI o + nI 3 + nI 3 + nI 4 * nI f = _; rw [pk_mul, nI_add, nI_add, nI_add]; congr 1; omega), mai _ _ (by have := h.2.2.2.2.1; omega), bo_s, h.2.2.2.2.2.1 _ (by omega)]
theorem m_much (h : MV σ o A F W) {w : Nat} (hw : w < 6) : f_X12_muchOf 0 (nI w) σ = some (A (43 + 2 * w)) := by
  unfold f_X12_muchOf
  rw [mgr, bo_s, mgi, bo_s, h.2.1, mall h.1, show nI o + 43 + 2 * nI w = nI (o + (43 + 2 * w)) by (show nI o + nI 43 + nI 2 * nI w = _; rw [pk_mul, nI_add, nI_add, Nat.add_assoc]), mai _ _ (by have := h.2.2.2.2.1; omega), bo_s, h.2.2.2.2.2.1 _ (by omega)]
theorem m_worth (h : MV σ o A F W) {w : Nat} (hw : w < 6) : f_X12_worthOf 0 (nI w) σ = some (A (44 + 2 * w)) := by
  unfold f_X12_worthOf
  rw [mgr, bo_s, mgi, bo_s, h.2.1, mall h.1, show nI o + 43 + 1 + 2 * nI w = nI (o + (44 + 2 * w)) by (show nI o + nI 43 + nI 1 + nI 2 * nI w = _; rw [pk_mul, nI_add, nI_add, nI_add]; congr 1; omega), mai _ _ (by have := h.2.2.2.2.1; omega), bo_s, h.2.2.2.2.2.1 _ (by omega)]
theorem m_small (h : MV σ o A F W) {f : Nat} (hf : f < 10) : f_X12_isSmall 0 (nI f) σ = some (if (10 : Int32) ≤ A (3 + 4 * f) then 0 else 1) := by
  unfold f_X12_isSmall
  rw [mrc, bo_s, m_age h hf, bo_s]
  by_cases c : (10 : Int32) ≤ A (3 + 4 * f)
  · rw [if_pos c, if_pos c]
  · rw [if_neg c, if_neg c]
end MVL
