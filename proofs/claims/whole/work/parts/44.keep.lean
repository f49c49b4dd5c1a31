/-! ===== keep, soon ===== -/
theorem iff01 {P : Prop} {x : Option Int32} (h : (P → x = some 1) ∧ (¬ P → x = some 0)) : (x = some 1 ∧ P) ∨ (x = some 0 ∧ ¬ P) := by
  by_cases p : P
  · exact Or.inl ⟨h.1 p, p⟩
  · exact Or.inr ⟨h.2 p, p⟩
theorem m_among (x k : Int32) (σ : Dt) : f_X12_isAmong x k σ = some (if (x >>> (k &&& 31)) &&& 1 = 1 then 1 else 0) := by
  unfold f_X12_isAmong
  by_cases c : (x >>> (k &&& 31)) &&& 1 = 1
  · rw [if_pos c, if_pos c]
  · rw [if_neg c, if_neg c]
section KEEP
variable {σ : Dt} {o F W : Nat} {A : Nat → Int32}
theorem m_strengths (h : MV σ o A F W) (set wo : Int32) : f_X12_strengths 0 set wo σ = some (strA A set wo F) := by
  have hF : F ≤ 10 := h.2.2.2.2.2.2.2.2.1
  unfold f_X12_strengths
  have hit : iter FU (fun s => f_X12_strengths_L5 0 set wo s.1 s.2 σ) ((0 : Int32), (0 : Int32)) = some (strA A set wo F) := by
    refine iter_n (st := fun i => (strA A set wo i, nI i)) (x := strA A set wo F) F (by omega) (fun i hi => ?_) ?_
    · dsimp only
      unfold f_X12_strengths_L5
      rw [mgi, bo_s, h.2.2.1, if_neg (fun c => absurd ((nI_leI (by omega) (by omega)).mp c) (by omega)), m_among, bo_s]
      by_cases c1 : (set >>> (nI i &&& 31)) &&& 1 = 1
      · rw [if_pos c1, if_neg (by decide)]
        by_cases c2 : nI i = wo
        · rw [if_pos c2]
          unfold f_X12_strengths_39 f_X12_strengths_40
          rw [strA, if_neg (fun q => q.2 c2), nI_1]
        · rw [if_neg c2, mrc, bo_s, m_strength h (by omega), bo_s]
          unfold f_X12_strengths_40
          rw [strA, if_pos ⟨c1, c2⟩, nI_1]
      · rw [if_neg c1, if_pos rfl]
        unfold f_X12_strengths_39 f_X12_strengths_40
        rw [strA, if_neg (fun q => c1 q.1), nI_1]
    · dsimp only
      unfold f_X12_strengths_L5
      rw [mgi, bo_s, h.2.2.1, if_pos (nI_le (Nat.le_refl _) (by omega))]
  rw [hit, bo_s]
/-- folk f can keep work w in n years -/
def kpA (A : Nat → Int32) (F f w : Nat) (n : Int32) : Prop := ¬ (10 : Int32) ≤ A (3 + 4 * f) ∧ ¬ n * strA A (A (6 + 4 * f)) (-1) F < A (43 + 2 * w)
theorem m_keeps (h : MV σ o A F W) {f w : Nat} (hf : f < 10) (hw : w < 6) (n : Int32) : (kpA A F f w n → f_X12_keeps 0 (nI f) (nI w) n σ = some 1) ∧ (¬ kpA A F f w n → f_X12_keeps 0 (nI f) (nI w) n σ = some 0) := by
  unfold f_X12_keeps f_X12_keeps_32
  rw [mrc, bo_s, m_small h hf, bo_s]
  constructor
  · rintro ⟨k1, k2⟩
    rw [if_neg k1, if_neg (by decide), bo_s, m_elder h hf, bo_s, bo_s, m_strengths h, bo_s, bo_s, m_much h hw, bo_s, if_neg k2]
  · intro k
    by_cases k1 : (10 : Int32) ≤ A (3 + 4 * f)
    · rw [if_pos k1, if_pos rfl]
    · rw [if_neg k1, if_neg (by decide), bo_s, m_elder h hf, bo_s, bo_s, m_strengths h, bo_s, bo_s, m_much h hw, bo_s, if_pos (Classical.not_not.mp (fun q => k ⟨k1, q⟩))]
variable {v : Nat}
theorem c_isChild (h : CV σ v A F W) (x : Int32) : (∀ f, f < F → x = nI f → ¬ (10 : Int32) ≤ A (3 + 4 * f) → f_X9_isChild v x σ = some 1) ∧ ((∀ f, f < F → x = nI f → (10 : Int32) ≤ A (3 + 4 * f)) → f_X9_isChild v x σ = some 0) := by
  have hF := h.F10
  unfold f_X9_isChild f_X9_isChild_23
  rw [crc h.1, bo_s]
  constructor
  · intro f hf hx c
    subst hx
    rw [(c_hasFolk h _).1 ⟨f, hf, rfl⟩, bo_s, if_neg (by decide), cages h.1 h.2.1, bo_s, cai1 h.1 (by omega), bo_s, (h.rf hf).1, if_neg c]
  · intro c
    rcases iff01 (c_hasFolk h x) with ⟨e, f, hf, hx⟩ | ⟨e, -⟩
    · rw [e, bo_s, if_neg (by decide), cages h.1 h.2.1, bo_s, hx, cai1 h.1 (by omega), bo_s, (h.rf hf).1, if_pos (c f hf hx)]
    · rw [e, bo_s, if_pos rfl]
theorem c_canKeep (h : CV σ v A F W) {f w : Nat} (hf : f < F) (hw : w < W) (n : Int32) : (kpA A F f w n → f_X9_canKeep v (nI f) (nI w) n σ = some 1) ∧ (¬ kpA A F f w n → f_X9_canKeep v (nI f) (nI w) n σ = some 0) := by
  have hF := h.F10
  have hW := h.W6
  unfold f_X9_canKeep f_X9_canKeep_37
  rw [crc h.1, bo_s]
  have inj : ∀ f', f' < F → nI f = nI f' → f' = f := fun f' hf' e => ((nI_eq (by omega) (by omega)).mp e).symm
  constructor
  · rintro ⟨k1, k2⟩
    rw [(c_isChild h _).1 f hf rfl k1, bo_s, if_neg (by decide), bo_s, (c_hasWork h _).1 ⟨w, hw, rfl⟩, bo_s, if_neg (by decide), chelps h.1 h.2.1, bo_s, cai5 h.1 (by omega), bo_s, csizes h.1 h.2.1, bo_s, cai6 h.1 (by omega), bo_s, h.2.2.2.2 f (by omega), (h.rw hw).1, if_neg k2]
  · intro k
    by_cases k1 : (10 : Int32) ≤ A (3 + 4 * f)
    · rw [(c_isChild h _).2 (fun f' hf' e => by rw [inj f' hf' e]; exact k1), bo_s, if_pos rfl]
    · rw [(c_isChild h _).1 f hf rfl k1, bo_s, if_neg (by decide), bo_s, (c_hasWork h _).1 ⟨w, hw, rfl⟩, bo_s, if_neg (by decide), chelps h.1 h.2.1, bo_s, cai5 h.1 (by omega), bo_s, csizes h.1 h.2.1, bo_s, cai6 h.1 (by omega), bo_s, h.2.2.2.2 f (by omega), (h.rw hw).1, if_pos (Classical.not_not.mp (fun q => k ⟨k1, q⟩))]
/-- it may be asked whether a folk keeps a work -/
def mayA (A : Nat → Int32) (F W : Nat) (x y n : Int32) : Prop := ∃ f w, f < F ∧ w < W ∧ x = nI f ∧ y = nI w ∧ ¬ (10 : Int32) ≤ A (3 + 4 * f) ∧ ¬ (n < 1 ∨ (9 : Int32) < n)
theorem c_mayAsk (h : CV σ v A F W) (x y n : Int32) : (mayA A F W x y n → f_X9_mayAskKeep v x y n σ = some 1) ∧ (¬ mayA A F W x y n → f_X9_mayAskKeep v x y n σ = some 0) := by
  have hF := h.F10
  have hW := h.W6
  unfold f_X9_mayAskKeep f_X9_mayAskKeep_31
  rw [crc h.1, bo_s]
  constructor
  · rintro ⟨f, w, hf, hw, rfl, rfl, k1, k2⟩
    rw [(c_isChild h _).1 f hf rfl k1, bo_s, if_neg (by decide), bo_s, (c_hasWork h _).1 ⟨w, hw, rfl⟩, bo_s, if_neg (by decide), if_neg (fun q => k2 (Or.inl q)), if_neg (fun q => k2 (Or.inr q))]
  · intro k
    by_cases c1 : ∃ f, f < F ∧ x = nI f ∧ ¬ (10 : Int32) ≤ A (3 + 4 * f)
    · obtain ⟨f, hf, hx, k1⟩ := c1
      rw [(c_isChild h _).1 f hf hx k1, bo_s, if_neg (by decide), bo_s]
      rcases iff01 (c_hasWork h y) with ⟨e, w, hw, hy⟩ | ⟨e, -⟩
      · rw [e, bo_s, if_neg (by decide)]
        by_cases c2 : n < 1
        · rw [if_pos c2]
        · rw [if_neg c2, if_pos (Classical.not_not.mp (fun q => k ⟨f, w, hf, hw, hx, hy, k1, fun z => z.elim c2 q⟩))]
      · rw [e, bo_s, if_pos rfl]
    · rw [(c_isChild h _).2 (fun f hf hx => Classical.not_not.mp (fun q => c1 ⟨f, hf, hx, q⟩)), bo_s, if_pos rfl]
end KEEP
theorem m_mayKeep {σ σ1 : Dt} {o F W : Nat} {A : Nat → Int32} {z1 : Int32} (e : f_X12_isValley 0 z1 σ = some (1, σ1)) (h : MV σ1 o A F W) (x y n : Int32) : (mayA A F W x y n → f_X12_mayKeep 0 z1 x y n σ = some (1, σ1)) ∧ (¬ mayA A F W x y n → f_X12_mayKeep 0 z1 x y n σ = some (0, σ1)) := by
  have hF : F ≤ 10 := h.2.2.2.2.2.2.2.2.1
  unfold f_X12_mayKeep f_X12_mayKeep_47
  rw [mrc, bo_s, e, bd_s, if_neg (by decide), bo_s]
  constructor
  · rintro ⟨f, w, hf, hw, rfl, rfl, k1, k2⟩
    rw [(m_isFolk h _).1 ⟨f, hf, rfl⟩, bo_s, if_neg (by decide), bo_s, (m_isWork h _).1 ⟨w, hw, rfl⟩, bo_s, if_neg (by decide), bo_s, m_small h (by omega), bo_s, if_neg k1, if_neg (by decide), iIn, bo_s, if_neg k2, if_neg (by decide)]
  · intro k
    rcases iff01 (m_isFolk h x) with ⟨e1, f, hf, hx⟩ | ⟨e1, -⟩
    · rw [e1, bo_s, if_neg (by decide), bo_s]
      rcases iff01 (m_isWork h y) with ⟨e2, w, hw, hy⟩ | ⟨e2, -⟩
      · rw [e2, bo_s, if_neg (by decide), bo_s, hx, m_small h (by omega), bo_s]
        by_cases k1 : (10 : Int32) ≤ A (3 + 4 * f)
        · rw [if_pos k1, if_pos rfl]
        · rw [if_neg k1, if_neg (by decide), iIn, bo_s, if_pos (Classical.not_not.mp (fun q => k ⟨f, w, hf, hw, hx, hy, k1, q⟩)), if_pos rfl]
      · rw [e2, bo_s, if_pos rfl]
    · rw [e1, bo_s, if_pos rfl]
theorem m_mayKeep0 {σ : Dt} {z1 : Int32} (e : f_X12_isValley 0 z1 σ = some (0, σ)) (x y n : Int32) : f_X12_mayKeep 0 z1 x y n σ = some (0, σ) := by
  unfold f_X12_mayKeep f_X12_mayKeep_47
  rw [mrc, bo_s, e, bd_s, if_pos rfl]
theorem ok_keep : LK_keep Inv := by
  intro σx σm z1 z2 z3 z4 hI
  have hRx := hI.1
  unfold f_X11_keep f_X12_keep
  rw [x_now hRx, bo_s, x_rc1, bo_s, mrc, bo_s]
  rcases ask_V hI z1 with ⟨k, A, F, W, hk, hz, hC, e1, e2, hM, hI2⟩ | ⟨e1, e2⟩
  · have hF := hC.F10
    have hW := hC.W6
    rw [e1, bo_s, if_neg (by simp), crc hC.1, bo_s]
    by_cases c : mayA A F W z2 z3 z4
    · rw [(c_mayAsk hC _ _ _).1 c, bo_s, if_neg (by decide), bo_s, (m_mayKeep e2 hM _ _ _).1 c, bd_s, if_neg (by decide), bo_s]
      obtain ⟨f, w, hf, hw, rfl, rfl, -⟩ := c
      by_cases q : kpA A F f w z4
      · exact ⟨1, _, by rw [(c_canKeep hC hf hw _).1 q, bo_s]; rfl, by rw [(m_keeps hM (by omega) (by omega) _).1 q, bo_s]; rfl, hI2⟩
      · exact ⟨0, _, by rw [(c_canKeep hC hf hw _).2 q, bo_s]; rfl, by rw [(m_keeps hM (by omega) (by omega) _).2 q, bo_s]; rfl, hI2⟩
    · exact ⟨-1, _, by rw [(c_mayAsk hC _ _ _).2 c, bo_s]; rfl, by rw [(m_mayKeep e2 hM _ _ _).2 c, bd_s]; rfl, hI2⟩
  · exact ⟨-1, _, by rw [e1, bo_s]; rfl, by rw [m_mayKeep0 e2, bd_s]; rfl, hI⟩
