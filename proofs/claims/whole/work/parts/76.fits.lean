/-! ===== one promise lived for some years ===== -/
def yrs (g : Dt → Option (Int32 × Dt)) : Nat → Dt → Option Dt
  | 0, σ => some σ
  | k + 1, σ => bd (g σ) (fun _ σ' => yrs g k σ')
theorem bd_inv {α β : Type} {x : Option (α × Dt)} {k : α → Dt → Option β} {y : β} (h : bd x k = some y) : ∃ v σ, x = some (v, σ) ∧ k v σ = some y := by
  cases x with
  | none => cases h
  | some o => exact ⟨o.1, o.2, rfl, h⟩
theorem yrs_add {g : Dt → Option (Int32 × Dt)} : ∀ (a b : Nat) (σ τ : Dt), yrs g a σ = some τ → yrs g (a + b) σ = yrs g b τ
  | 0, b, σ, τ, h => by
    have : σ = τ := Option.some.inj h
    rw [Nat.zero_add, this]
  | a + 1, b, σ, τ, h => by
    obtain ⟨v, ρ, e1, e2⟩ := bd_inv h
    rw [show a + 1 + b = (a + b) + 1 by omega]
    show bd (g σ) (fun _ σ' => yrs g (a + b) σ') = _
    rw [bd_of e1]
    exact yrs_add a b ρ τ e2
theorem x_yrs {N : Nat} (hN : N ≤ 9) : ∀ (m f i : Nat) (σ σ' : Dt), m < f → i + m = N → yrs (f_X10_passYear 174) m σ = some σ' → iter f (fun s => f_X10_passYears_L2 174 (nI N) s.1 s.2) (nI i, σ) = some σ'
  | m, 0, i, σ, σ', hf, _, _ => absurd hf (Nat.not_lt_zero _)
  | 0, f + 1, i, σ, σ', hf, hi, h => by
    unfold iter
    dsimp only
    unfold f_X10_passYears_L2
    rw [if_pos (nI_le (by omega) (by omega))]
    exact h
  | m + 1, f + 1, i, σ, σ', hf, hi, h => by
    obtain ⟨v, τ, e1, e2⟩ := bd_inv h
    unfold iter
    dsimp only
    unfold f_X10_passYears_L2
    rw [ite_le_f (by omega) (by omega), if_neg (show ¬ (9 : Int32) ≤ nI i from nI_ge (b := 9) (by omega) (by decide)), bo_of wrc, bd_of e1, nI_1]
    exact x_yrs hN m f (i + 1) τ σ' (by omega) (by omega) e2
theorem m_yrs {N : Nat} (hN : N ≤ 9) : ∀ (m f i : Nat) (σ σ' : Dt), m < f → i + m = N → yrs (f_X12_yearGoes 0) m σ = some σ' → iter f (fun s => f_X12_lasts_L16 0 (nI N) s.1 s.2) (nI i, σ) = some σ'
  | m, 0, i, σ, σ', hf, _, _ => absurd hf (Nat.not_lt_zero _)
  | 0, f + 1, i, σ, σ', hf, hi, h => by
    unfold iter
    dsimp only
    unfold f_X12_lasts_L16
    rw [if_pos (nI_le (by omega) (by omega))]
    exact h
  | m + 1, f + 1, i, σ, σ', hf, hi, h => by
    obtain ⟨v, τ, e1, e2⟩ := bd_inv h
    unfold iter
    dsimp only
    unfold f_X12_lasts_L16
    rw [ite_le_f (by omega) (by omega), bo_of mrc, bd_of e1, nI_1]
    exact m_yrs hN m f (i + 1) τ σ' (by omega) (by omega) e2
theorem x_years {N : Nat} (hN : N ≤ 9) {σ σ' : Dt} (h : yrs (f_X10_passYear 174) N σ = some σ') : f_X10_passYears 174 (nI N) σ = some ((), σ') := by
  unfold f_X10_passYears
  rw [bo_of (show iter FU (fun s => f_X10_passYears_L2 174 (nI N) s.1 s.2) ((0 : Int32), σ) = some σ' from x_yrs hN N FU 0 σ σ' (by show N < 100000; omega) (by omega) h)]
theorem SkY.tr {S S' S2 : Nat → Nat → Nat} (h1 : SkY S S') (h2 : SkY S' S2) : SkY S S2 := ⟨h2.1.trans h1.1, fun p => (h2.2.1 p).trans (h1.2.1 p), fun j hj => (h2.2.2 j (fun p hp => by rw [h1.2.1 p]; exact hj p (by rw [h1.1] at hp; exact hp))).trans (h1.2.2 j hj)⟩
theorem w_yrs {o F W : Nat} {A : Nat → Int32} : ∀ (k : Nat) {σx σm : Dt} {S : Nat → Nat → Nat}, Wk σx σm o A F W S → ∃ σx' σm' S', yrs (f_X10_passYear 174) k σx = some σx' ∧ yrs (f_X12_yearGoes 0) k σm = some σm' ∧ Wk σx' σm' o A F W S' ∧ KW σx σx' σm σm' ∧ SkY S S'
  | 0, σx, σm, S, h => ⟨σx, σm, S, rfl, rfl, h, KW_0 _ _, rfl, fun _ => rfl, fun _ _ => rfl⟩
  | k + 1, σx, σm, S, h => by
    obtain ⟨r, ax, am, S1, e1, e2, -, e3, e4, e5⟩ := w_year2 h
    obtain ⟨bx, bm, S2, q1, q2, q3, q4, q5⟩ := w_yrs k e3
    refine ⟨bx, bm, S2, ?_, ?_, q3, e4.tr q4, e5.tr q5⟩
    · show bd (f_X10_passYear 174 σx) (fun _ σ' => yrs (f_X10_passYear 174) k σ') = _
      rw [bd_of e1]; exact q1
    · show bd (f_X12_yearGoes 0 σm) (fun _ σ' => yrs (f_X12_yearGoes 0) k σ') = _
      rw [bd_of e2]; exact q2
theorem prP0 {A : Nat → Int32} {F W f w : Nat} (h : VW A F W) (hf : f < F) (hw : w < W) : prP (S0 A F) A W f w ↔ agN A f < 10 := by
  have hW := h.2.2.2.1
  have h1 := (h.wk (show w < 6 by omega)).2.2 hw
  constructor
  · exact fun z => z.2.1
  · intro z
    refine ⟨⟨hf, ?_⟩, z, ?_, hw, ?_, (show (0 : Nat) < 12 by decide)⟩
    · show (2 ^ F - 1).testBit f = true
      rw [Nat.testBit_two_pow_sub_one]
      exact decide_eq_true hf
    · show ¬ (0 : Nat).testBit f = true
      rw [Nat.zero_testBit]
      simp
    · show ¬ (0 : Nat) = szN A w
      omega
section LAS
variable {σx σm : Dt} {v o F W : Nat} {A : Nat → Int32}
theorem w_run (hC : CV σx v A F W) (hM : MV σm o A F W) {f w y : Nat} (hf : f < F) (hw : w < W) (hy : y ≤ 9) : ∃ ax bx cx am bm S, f_X10_begin 174 (some v) σx = some ((), ax) ∧ f_X10_tryDeed 174 0 (nI f) (nI w) 9 ax = some (bI (agN A f < 10), bx) ∧ yrs (f_X10_passYear 174) y bx = some cx ∧ f_X12_lasts 0 (nI f) (nI w) (nI y) σm = some ((), bm) ∧ Wk cx bm o A F W S ∧ KB σx cx σm bm ∧ (agN A f < 10 → ∀ j, j ≠ w → S 6 j = 0) ∧ (∀ z, z ≤ 9 → f_X12_lasts 0 (nI f) (nI w) (nI z) σm = bo (yrs (f_X12_yearGoes 0) z am) (fun τ => some ((), τ))) ∧ yrs (f_X12_yearGoes 0) y am = some bm := by
  have hF := hC.F10
  have hW := hC.W6
  obtain ⟨ax, a0, b1, b2, b3, -, -, b6⟩ := w_begin hC hM
  obtain ⟨bx, am, S1, c1, c2, c3, c4, c5⟩ := w_promise2 b3 (f := f) (w := w) (y := 9) (by omega) (by omega) (by decide)
  obtain ⟨cx, bm, S2, d1, d2, d3, d4, d5⟩ := w_yrs y c3
  have hl : ∀ z, z ≤ 9 → f_X12_lasts 0 (nI f) (nI w) (nI z) σm = bo (yrs (f_X12_yearGoes 0) z am) (fun τ => some ((), τ)) := by
    intro z hz
    obtain ⟨ex, em, S3, g1, g2, -⟩ := w_yrs z c3
    unfold f_X12_lasts
    rw [bo_of mrc, bd_of b2, bo_of mrc, bd_of (show f_X12_promises 0 (nI f) (nI w) 9 a0 = _ from c2), bo_of (show iter FU (fun s => f_X12_lasts_L16 0 (nI z) s.1 s.2) ((0 : Int32), am) = some em from m_yrs hz z FU 0 am em (by show z < 100000; omega) (by omega) g2), g2]
    rfl
  refine ⟨ax, bx, cx, am, bm, S2, b1, ?_, d1, ?_, d3, b6.tr (c4.kb.tr d4.kb), fun z j hj => ?_, hl, d2⟩
  · rw [show bI (agN A f < 10) = bI (prP (S0 A F) A W f w) from congrArg bI (propext (prP0 hC.vw hf hw)).symm]
    exact x_try0 (show f_X10_makePromise 174 (nI f) (nI w) 9 ax = _ from c1) (bI_01 _)
  · rw [hl y hy, d2]
    rfl
  · obtain ⟨p1, p2, p3⟩ := c5 ((prP0 hC.vw hf hw).mpr z)
    rw [d5.2.2 j (fun p hp => ?_), p3]
    · rfl
    · have p0 : p = S0 A F 11 4 := by
        rw [p1] at hp
        have : S0 A F 11 4 = 0 := rfl
        omega
      rw [p0, p2]
      exact fun q => hj q.symm
/-- how far work j is dug when f has promised w and y years have gone by -/
def laD (σ : Dt) (f w y j : Nat) : Nat := match f_X12_lasts 0 (nI f) (nI w) (nI y) σ with
  | some (_, τ) => (τ.1 21 j).toNatClampNeg
  | none => 0
theorem la_eq {f w y j : Nat} {τ : Dt} {u : Unit} (e : f_X12_lasts 0 (nI f) (nI w) (nI y) σm = some (u, τ)) : laD σm f w y j = (τ.1 21 j).toNatClampNeg := by
  unfold laD
  rw [e]
theorem Wk.dg {S : Nat → Nat → Nat} {cx bm : Dt} (h : Wk cx bm o A F W S) {j : Nat} (hj : j < 6) : cx.1 181 j = nI (S 6 j) ∧ bm.1 21 j = nI (S 6 j) ∧ S 6 j ≤ szN A j ∧ szN A j ≤ 30 := ⟨(h.2.2.1 6 j (Or.inr (Or.inl ⟨rfl, hj⟩))).1.resolve_right (fun z => by omega), (h.2.2.1 6 j (Or.inr (Or.inl ⟨rfl, hj⟩))).2, h.2.2.2.2.2.2.2.2.2.2.2.1 j hj, (h.2.1.vw.wk hj).1.2⟩
theorem la_x (hC : CV σx v A F W) (hM : MV σm o A F W) {f w y : Nat} (hf : f < F) (hw : w < W) (hy : y ≤ 9) : ∃ ax bx cx bm S, f_X10_begin 174 (some v) σx = some ((), ax) ∧ f_X10_tryDeed 174 0 (nI f) (nI w) 9 ax = some (bI (agN A f < 10), bx) ∧ yrs (f_X10_passYear 174) y bx = some cx ∧ f_X12_lasts 0 (nI f) (nI w) (nI y) σm = some ((), bm) ∧ Wk cx bm o A F W S ∧ KB σx cx σm bm ∧ (∀ j, j < 6 → S 6 j = laD σm f w y j) ∧ ∃ am, (∀ z, z ≤ 9 → f_X12_lasts 0 (nI f) (nI w) (nI z) σm = bo (yrs (f_X12_yearGoes 0) z am) (fun τ => some ((), τ))) ∧ yrs (f_X12_yearGoes 0) y am = some bm := by
  obtain ⟨ax, bx, cx, am, bm, S, e1, e2, e3, e4, e5, e6, e7, e8, e9⟩ := w_run hC hM hf hw hy
  refine ⟨ax, bx, cx, bm, S, e1, e2, e3, e4, e5, e6, fun j hj => ?_, am, e8, e9⟩
  obtain ⟨-, q2, q3, q4⟩ := e5.dg hj
  rw [la_eq e4, q2, nI_clamp (by omega)]
theorem la_le (hC : CV σx v A F W) (hM : MV σm o A F W) {f w y j : Nat} (hf : f < F) (hw : w < W) (hy : y ≤ 9) (hj : j < 6) : laD σm f w y j ≤ szN A j ∧ szN A j ≤ 30 := by
  obtain ⟨ax, bx, cx, bm, S, e1, e2, e3, e4, e5, e6, e7, -⟩ := la_x hC hM hf hw hy
  obtain ⟨-, -, q3, q4⟩ := e5.dg hj
  rw [← e7 j hj]
  exact ⟨q3, q4⟩
theorem la_0 (hC : CV σx v A F W) (hM : MV σm o A F W) {f w y j : Nat} (hf : f < F) (hw : w < W) (hy : y ≤ 9) (hj : j < 6) (ha : agN A f < 10) (hn : j ≠ w) : laD σm f w y j = 0 := by
  obtain ⟨ax, bx, cx, am, bm, S, e1, e2, e3, e4, e5, e6, e7, e8, e9⟩ := w_run hC hM hf hw hy
  obtain ⟨-, q2, q3, q4⟩ := e5.dg hj
  rw [la_eq e4, q2, e7 ha j hn]
  rfl
theorem la_m (hC : CV σx v A F W) (hM : MV σm o A F W) {τm : Dt} (hM2 : MV τm o A F W) {f w y : Nat} (hf : f < F) (hw : w < W) (hy : y ≤ 9) : ∃ bm, f_X12_lasts 0 (nI f) (nI w) (nI y) τm = some ((), bm) ∧ KM τm bm ∧ bm.1 26 = τm.1 26 ∧ MV bm o A F W ∧ (∀ j, j < 6 → bm.1 21 j = nI (laD σm f w y j)) ∧ ∀ j, j < 6 → f_X12_isDone 0 (nI j) bm = some (bI (laD σm f w y j = szN A j)) := by
  obtain ⟨ax, bx, cx, bm, S, e1, e2, e3, e4, e5, e6, e7, -⟩ := la_x hC hM hf hw hy
  obtain ⟨ax', bx', cx', am', bm', S', g1, g2, g3, g4, g5, g6, g7, -⟩ := w_run hC hM2 hf hw hy
  have ha : ax = ax' := (Prod.mk.inj (Option.some.inj (e1.symm.trans g1))).2
  subst ha
  have hb : bx = bx' := (Prod.mk.inj (Option.some.inj (e2.symm.trans g2))).2
  subst hb
  have hc : cx = cx' := Option.some.inj (e3.symm.trans g3)
  subst hc
  have hS : ∀ j, j < 6 → S' 6 j = laD σm f w y j := by
    intro j hj
    obtain ⟨q1, -, q3, q4⟩ := e5.dg hj
    obtain ⟨r1, -, r3, -⟩ := g5.dg hj
    rw [← e7 j hj]
    exact (nI_eq (by omega) (by omega)).mp (r1.symm.trans q1)
  refine ⟨bm', g4, g6.km, g6.2.2.2.1 26 (by omega), g5.2.1, fun j hj => ?_, fun j hj => ?_⟩
  · rw [(g5.dg hj).2.1, hS j hj]
  · rw [g5.mdone hj, hS j hj]
end LAS
/-! ===== what fits a sight ===== -/
def swk (B : Nat → Int32) (k : Nat) : Nat := (B (2 + 2 * k)).toNatClampNeg
def sfa (B : Nat → Int32) (k : Nat) : Nat := (B (3 + 2 * k)).toNatClampNeg
theorem SWn.row {B : Nat → Int32} {n k : Nat} (h : SWn B n) (hk : k < n) : (B (2 + 2 * k) = nI (swk B k) ∧ swk B k ≤ 5) ∧ B (3 + 2 * k) = nI (sfa B k) ∧ sfa B k ≤ 30 := by
  obtain ⟨w, f, h1, h2, h3, h4⟩ := h.2.2.2 k hk
  unfold swk sfa
  rw [h1, h3, nI_clamp (by omega), nI_clamp (by omega)]
  exact ⟨⟨rfl, h2⟩, rfl, h4⟩
def agP (D : Nat → Nat) (B : Nat → Int32) (n : Nat) : Prop := ∀ k, k < n → D (swk B k) = sfa B k
def alW (B : Nat → Int32) (W n : Nat) : Prop := ∀ k, k < n → swk B k < W
theorem agP_s {D : Nat → Nat} {B : Nat → Int32} {n : Nat} : agP D B (n + 1) ↔ agP D B n ∧ D (swk B n) = sfa B n := by
  constructor
  · exact fun h => ⟨fun k hk => h k (by omega), h n (by omega)⟩
  · rintro ⟨h1, h2⟩ k hk
    rcases (show k = n ∨ k < n by omega) with e | e
    · rw [e]; exact h2
    · exact h1 k e
theorem alW_s {B : Nat → Int32} {W n : Nat} : alW B W (n + 1) ↔ alW B W n ∧ swk B n < W := by
  constructor
  · exact fun h => ⟨fun k hk => h k (by omega), h n (by omega)⟩
  · rintro ⟨h1, h2⟩ k hk
    rcases (show k = n ∨ k < n by omega) with e | e
    · rw [e]; exact h2
    · exact h1 k e
def fitP (σ : Dt) (A : Nat → Int32) (F W : Nat) (B : Nat → Int32) (n y c : Nat) : Prop := c / 10 < F ∧ c % 10 < W ∧ agN A (c / 10) < 10 ∧ agP (laD σ (c / 10) (c % 10) y) B n
section FIT
variable {σx σm : Dt} {v o s os F W n y : Nat} {A B : Nat → Int32}
theorem MSg.n8 (h : MSg σm os B n) : n ≤ 8 := h.2.2.2.2.2.2.1
theorem MSg.s0 (h : MSg σm os B n) : xgi SM 12 45 (some 0) σm = some (nI os) := by rw [mgi, h.2.1]
theorem MSg.len (h : MSg σm os B n) : xai SM (some 1) (nI os + 1) σm = some (nI n) := by
  rw [show nI os + 1 = nI (os + 1) from nI_1 _, h.at (os + 1) 1 (by decide) rfl, h.2.2.2.2.2.1]
theorem MSg.wk (h : MSg σm os B n) {k : Nat} (hk : k < n) : xai SM (some 1) (nI os + 2 + 2 * nI k) σm = some (nI (swk B k)) := by
  have := h.n8
  rw [show nI os + 2 + 2 * nI k = nI (os + (2 + 2 * k)) by (show nI os + nI 2 + nI 2 * nI k = _; rw [pk_mul, nI_add, nI_add, Nat.add_assoc]), h.at _ (2 + 2 * k) (by omega) rfl, (h.2.2.2.2.row hk).1.1]
theorem MSg.fa (h : MSg σm os B n) {k : Nat} (hk : k < n) : xai SM (some 1) (nI os + 3 + 2 * nI k) σm = some (nI (sfa B k)) := by
  have := h.n8
  rw [show nI os + 3 + 2 * nI k = nI (os + (3 + 2 * k)) by (show nI os + nI 3 + nI 2 * nI k = _; rw [pk_mul, nI_add, nI_add, Nat.add_assoc]), h.at _ (3 + 2 * k) (by omega) rfl, (h.2.2.2.2.row hk).2.1]
theorem m_areWorks (hM : MV σm o A F W) (hS : MSg σm os B n) : f_X12_areWorks 0 σm = some (bI (alW B W n)) := by
  have h8 := hS.n8
  have hr := fun {β : Type} {k : Option Nat → Option β} => (bo_of (m_r hM.1 (by decide) (show rM 0 0 = some 1 from rfl)) : bo (xgr SM 12 0 (some 0) σm) k = k (some 1))
  unfold f_X12_areWorks
  have key := iter_n (f := fun q : Int32 × Int32 => f_X12_areWorks_L4 0 q.1 q.2 σm) (st := fun i => (bI (alW B W i), nI i)) (x := bI (alW B W n)) n (by omega) (fun i hi => ?_) ?_
  · have e0 : bI (alW B W 0) = 1 := bI_t (fun k hk => absurd hk (Nat.not_lt_zero k))
    rw [e0] at key
    rw [bo_of (show iter FU (fun q => f_X12_areWorks_L4 0 q.1 q.2 σm) ((1 : Int32), (0 : Int32)) = _ from key), if_pos (bI_01 _)]
  · dsimp only
    unfold f_X12_areWorks_L4 f_X12_areWorks_49 f_X12_areWorks_50
    rw [hr, bo_of hS.s0, bo_of hS.len, ite_le_f (by omega) hi, hr, bo_of hS.s0, bo_of (hS.wk hi), bo_of mrc, bo_of (m_isWorkB hM _), ite_b, ite_b, nI_1]
    have h5 := (hS.2.2.2.2.row hi).1.2
    have hW := hM.W6
    by_cases c : alW B W i
    · rw [ci_t c]
      by_cases c2 : swk B i < W
      · rw [ci_in_t c2, bI_t (alW_s.mpr ⟨c, c2⟩)]
      · rw [ci_in_f (by omega) (by omega), bI_f (fun z => c2 (alW_s.mp z).2)]
    · rw [ci_f c, bI_f (fun z => c (alW_s.mp z).1)]
  · dsimp only
    unfold f_X12_areWorks_L4
    rw [hr, bo_of hS.s0, bo_of hS.len, if_pos (nI_le (Nat.le_refl _) (by omega))]
theorem m_agree {D : Nat → Nat} (hM : MV σm o A F W) (hS : MSg σm os B n) (hw : alW B W n) (hD : ∀ j, j < 6 → σm.1 21 j = nI (D j) ∧ D j ≤ 30) : iter FU (fun q => f_X12_isSo_L57 0 q.1 q.2 σm) ((1 : Int32), (0 : Int32)) = some (bI (agP D B n)) := by
  have h8 := hS.n8
  have hW := hM.W6
  have hr := fun {β : Type} {k : Option Nat → Option β} => (bo_of (m_r hM.1 (by decide) (show rM 0 0 = some 1 from rfl)) : bo (xgr SM 12 0 (some 0) σm) k = k (some 1))
  have key := iter_n (f := fun q : Int32 × Int32 => f_X12_isSo_L57 0 q.1 q.2 σm) (st := fun i => (bI (agP D B i), nI i)) (x := bI (agP D B n)) n (by omega) (fun i hi => ?_) ?_
  · have e0 : bI (agP D B 0) = 1 := bI_t (fun k hk => absurd hk (Nat.not_lt_zero k))
    rw [e0] at key
    exact key
  · dsimp only
    have hwi := hw i hi
    obtain ⟨d1, d2⟩ := hD (swk B i) (by omega)
    have f30 := (hS.2.2.2.2.row hi).2.2
    unfold f_X12_isSo_L57 f_X12_isSo_121 f_X12_isSo_122
    rw [hr, bo_of hS.s0, bo_of hS.len, ite_le_f (by omega) hi, ite_b, mw40 hM.1, hr, bo_of hS.s0, bo_of (hS.wk hi), bo_of (xai_of (by decide) (by decide) (show swk B i < SM.2.2 21 from (show swk B i < 6 by omega)) (by decide)), d1, hr, bo_of hS.s0, bo_of (hS.fa hi), nI_1]
    by_cases c : agP D B i
    · rw [ci_t c]
      by_cases c2 : D (swk B i) = sfa B i
      · rw [ite_eq_t c2, bI_t (agP_s.mpr ⟨c, c2⟩)]
      · rw [ite_eq_f (by omega) (by omega) c2, bI_f (fun z => c2 (agP_s.mp z).2)]
    · rw [ci_f c, bI_f (fun z => c (agP_s.mp z).1)]
  · dsimp only
    unfold f_X12_isSo_L57
    rw [hr, bo_of hS.s0, bo_of hS.len, if_pos (nI_le (Nat.le_refl _) (by omega))]
theorem x_agree {S : Nat → Nat → Nat} {bm : Dt} (h : Wk σx bm o A F W S) (hS : CSg σx s B n) (hw : alW B W n) : f_X2_agrees (some s) (some 174) σx = some (bI (agP (S 6) B n)) := by
  have h8 := hS.n8
  have hW := h.2.1.W6
  unfold f_X2_agrees
  have key := iter_w (f := fun q : Int32 => f_X2_agrees_L2 (some s) (some 174) q σx) (s0 := (0 : Int32)) (P := fun i q => q = nI i ∧ agP (S 6) B i) (Q := fun x => (x = Sum.inl () ∧ ¬ agP (S 6) B n) ∨ (x = Sum.inr () ∧ agP (S 6) B n)) n (by omega) ⟨rfl, fun k hk => absurd hk (Nat.not_lt_zero k)⟩ (fun i q hi hP => ?_)
  · obtain ⟨x, e1, e2⟩ := key
    rw [bo_of e1]
    rcases e2 with ⟨rfl, e2⟩ | ⟨rfl, e2⟩
    · rw [bI_f e2]; rfl
    · rw [bI_t e2]; rfl
  · obtain ⟨e1, e2⟩ := hP
    subst e1
    unfold f_X2_agrees_L2
    rw [sgi hS.1, bo_s, hS.dn]
    rcases (show i = n ∨ i < n by omega) with e | e
    · left
      subst e
      rw [if_pos (nI_le (Nat.le_refl _) (by omega))]
      exact ⟨_, rfl, Or.inr ⟨rfl, e2⟩⟩
    · have hwi := hw i e
      obtain ⟨⟨r1, r2⟩, r3, r4⟩ := hS.2.2.2.row e
      obtain ⟨d1, -, d3, d4⟩ := h.dg (show swk B i < 6 by omega)
      have hdug : f_X10_dugAt 174 (nI (swk B i)) σx = some (nI (S 6 (swk B i))) := by
        unfold f_X10_dugAt
        rw [bo_of wrc, bo_of (h.hasWork _), ite_b, ci_in_t hwi, xw15 h.1, h.xa6 (by omega)]
      rw [ite_le_f (by omega) e, if_neg (show ¬ (8 : Int32) ≤ nI i from nI_ge (b := 8) (by omega) (by decide)), sgr2 hS, bo_s, sai1 hS e, bo_s, r1, bo_of wrc, bo_of hdug, sgr3 hS, bo_s, sai2 hS e, bo_s, r3]
      by_cases c : S 6 (swk B i) = sfa B i
      · right
        rw [ite_eq_t c, nI_1]
        exact ⟨e, _, rfl, rfl, agP_s.mpr ⟨e2, c⟩⟩
      · left
        rw [ite_eq_f (by omega) (by omega) c]
        exact ⟨_, rfl, Or.inl ⟨rfl, fun z => c (z i e)⟩⟩
variable {σ0 : Dt}
theorem m_isSo (hC : CV σx v A F W) (h0 : MV σ0 o A F W) (hM : MV σm o A F W) (hS : MSg σm os B n) (hB : B 0 = nI y) (hy : y ≤ 9) (hw : alW B W n) {c : Nat} (hc : c < 100) : ∃ τ, f_X12_isSo 0 (nI c) σm = some (bI (fitP σ0 A F W B n y c), τ) ∧ KM σm τ ∧ τ.1 26 = σm.1 26 ∧ (fitP σ0 A F W B n y c → ∀ j, j < 6 → τ.1 21 j = nI (laD σ0 (c / 10) (c % 10) y j)) := by
  have hF := hM.F10
  have hW := hM.W6
  unfold f_X12_isSo
  rw [show nI c / (10 : Int32) = nI (c / 10) from pk_div (d := 10) (by omega) (by decide) (by decide), show nI c - nI (c / 10) * (10 : Int32) = nI (c % 10) by (rw [← pk_rem (a := c) (d := 10) (by omega) (by decide) (by decide), pk_div (by omega) (by decide) (by decide)]; rfl)]
  rw [bo_of mrc, bo_of (m_isFolkB hM _), ite_b]
  have no : ¬ fitP σ0 A F W B n y c → ∃ τ, some ((0 : Int32), σm) = some (bI (fitP σ0 A F W B n y c), τ) ∧ KM σm τ ∧ τ.1 26 = σm.1 26 ∧ (fitP σ0 A F W B n y c → ∀ j, j < 6 → τ.1 21 j = nI (laD σ0 (c / 10) (c % 10) y j)) := fun z => ⟨σm, by rw [bI_f z], KM_0 _, rfl, fun q => absurd q z⟩
  by_cases c1 : c / 10 < F
  · rw [ci_in_t c1, bo_of mrc, bo_of (m_isWorkB hM _), ite_b]
    by_cases c2 : c % 10 < W
    · rw [ci_in_t c2, bo_of mrc, bo_of (msmall hM (by omega)), ite_b]
      by_cases c3 : agN A (c / 10) < 10
      · rw [ci_t c3, bo_of (m_r hM.1 (by decide) (show rM 0 0 = some 1 from rfl)), bo_of hS.s0, bo_of (hS.at os 0 (by decide) rfl), hB, bo_of mrc]
        obtain ⟨bm, g1, g2, g3, g4, g5, -⟩ := la_m hC h0 hM c1 c2 hy
        have hag := m_agree (D := laD σ0 (c / 10) (c % 10) y) g4 (g2.msg hS) hw (fun j hj => ⟨g5 j hj, by have := la_le hC h0 (y := y) c1 c2 hy hj; omega⟩)
        have hfit : fitP σ0 A F W B n y c ↔ agP (laD σ0 (c / 10) (c % 10) y) B n := ⟨fun z => z.2.2.2, fun z => ⟨c1, c2, c3, z⟩⟩
        rw [bd_of g1, bo_of hag, if_pos (bI_01 _)]
        exact ⟨bm, by rw [show bI (fitP σ0 A F W B n y c) = bI (agP (laD σ0 (c / 10) (c % 10) y) B n) from congrArg bI (propext hfit)], g2, g3, fun _ => g5⟩
      · rw [ci_f c3]
        exact no (fun z => c3 z.2.2.1)
    · rw [ci_in_f (by omega) (by omega)]
      exact no (fun z => c2 z.2.1)
  · rw [ci_in_f (by omega) (by omega)]
    exact no (fun z => c1 z.1)
/-- the next that fits, from b on -/
def Nx (P : Nat → Prop) (b : Nat) (v : Int32) (D : Nat → Prop) : Prop := (∃ c, b ≤ c ∧ c < 100 ∧ P c ∧ (∀ d, b ≤ d → d < c → ¬ P d) ∧ v = nI c ∧ D c) ∨ (v = -1 ∧ ∀ d, b ≤ d → d < 100 → ¬ P d)
theorem m_nextFit (hC : CV σx v A F W) (h0 : MV σ0 o A F W) (hM : MV σm o A F W) (hS : MSg σm os B n) (hB : B 0 = nI y) (hy : y ≤ 9) (hw : alW B W n) {x : Int32} {b : Nat} (hx : x + 1 = nI b) (hb : b ≤ 100) : ∃ u τ, f_X12_nextFit 0 x σm = some (u, τ) ∧ KM σm τ ∧ τ.1 26 = σm.1 26 ∧ Nx (fitP σ0 A F W B n y) b u (fun c => ∀ j, j < 6 → τ.1 21 j = nI (laD σ0 (c / 10) (c % 10) y j)) := by
  unfold f_X12_nextFit f_X12_nextFit_24
  rw [hx]
  have key := iter_w (f := fun q : Int32 × Dt => f_X12_nextFit_L4 0 q.1 q.2) (s0 := (nI b, σm)) (P := fun i q => q.1 = nI (b + i) ∧ KM σm q.2 ∧ q.2.1 26 = σm.1 26 ∧ ∀ d, b ≤ d → d < b + i → ¬ fitP σ0 A F W B n y d) (Q := fun q => KM σm q.2 ∧ q.2.1 26 = σm.1 26 ∧ ((∃ c, b ≤ c ∧ c < 100 ∧ fitP σ0 A F W B n y c ∧ (∀ d, b ≤ d → d < c → ¬ fitP σ0 A F W B n y d) ∧ q.1 = nI c ∧ ∀ j, j < 6 → q.2.1 21 j = nI (laD σ0 (c / 10) (c % 10) y j)) ∨ (q.1 = nI 100 ∧ ∀ d, b ≤ d → d < 100 → ¬ fitP σ0 A F W B n y d))) (100 - b) (by omega) ⟨rfl, KM_0 _, rfl, fun d h1 h2 => by omega⟩ (fun i q hi hP => ?_)
  · obtain ⟨q, e1, e2, e3, e4⟩ := key
    rw [bo_of e1]
    rcases e4 with ⟨c, c1, c2, c3, c4, c5, c6⟩ | ⟨c1, c2⟩
    · rw [c5, if_neg (show ¬ (100 : Int32) ≤ nI c from nI_ge (b := 100) c2 (by decide))]
      exact ⟨nI c, q.2, rfl, e2, e3, Or.inl ⟨c, c1, c2, c3, c4, rfl, c6⟩⟩
    · rw [c1, if_pos (by decide)]
      exact ⟨-1, q.2, rfl, e2, e3, Or.inr ⟨rfl, c2⟩⟩
  · obtain ⟨z, τ⟩ := q
    obtain ⟨p1, p2, p3, p4⟩ := hP
    dsimp only at p1 p2 p3 ⊢
    subst p1
    unfold f_X12_nextFit_L4
    rcases (show i = 100 - b ∨ i < 100 - b by omega) with e | e
    · left
      rw [show b + i = 100 by omega, if_pos (by decide)]
      exact ⟨_, rfl, p2, p3, Or.inr ⟨rfl, fun d h1 h2 => p4 d h1 (by omega)⟩⟩
    · obtain ⟨ρ, g1, g2, g3, g4⟩ := m_isSo hC h0 (p2.mv hM) (p2.msg hS) hB hy hw (c := b + i) (by omega)
      rw [if_neg (show ¬ (100 : Int32) ≤ nI (b + i) from nI_ge (b := 100) (by omega) (by decide)), bo_of mrc, bd_of g1, ite_b]
      by_cases c : fitP σ0 A F W B n y (b + i)
      · left
        rw [ci_t c]
        exact ⟨_, rfl, p2.tr g2, g3.trans p3, Or.inl ⟨b + i, by omega, by omega, c, fun d h1 h2 => p4 d h1 h2, rfl, g4 c⟩⟩
      · right
        rw [ci_f c, nI_1]
        refine ⟨e, _, rfl, rfl, p2.tr g2, g3.trans p3, fun d h1 h2 => ?_⟩
        rcases (show d = b + i ∨ d < b + i by omega) with z | z
        · rw [z]; exact c
        · exact p4 d h1 z
/-- a fold over all that fit -/
noncomputable def ff {β : Type} (P : Nat → Prop) (g : Nat → β → β) (b : β) (m : Nat) : β := fld (fun c a => ci (P c) (g c a) a) b m
theorem ff_s {β : Type} (P : Nat → Prop) (g : Nat → β → β) (b : β) (m : Nat) : ff P g b (m + 1) = ci (P m) (g m (ff P g b m)) (ff P g b m) := rfl
theorem ff_skip {β : Type} {P : Nat → Prop} {g : Nat → β → β} {b : β} {m : Nat} : ∀ k, (∀ d, m ≤ d → d < m + k → ¬ P d) → ff P g b (m + k) = ff P g b m
  | 0, _ => rfl
  | k + 1, h => by rw [← Nat.add_assoc, ff_s, ci_f (h (m + k) (by omega) (by omega)), ff_skip k (fun d h1 h2 => h d h1 (by omega))]
theorem m_fold {G : Dt → Prop} {P : Nat → Prop} {D : Nat → Dt → Prop} (hnx : ∀ (b : Nat) (z : Int32) (τ : Dt), z + 1 = nI b → b ≤ 100 → G τ → ∃ u ρ, f_X12_nextFit 0 z τ = some (u, ρ) ∧ G ρ ∧ KM τ ρ ∧ ρ.1 26 = τ.1 26 ∧ Nx P b u (fun c => D c ρ)) {β T X : Type} (body : T → Option (T ⊕ X)) (en : β → Int32 → Dt → T) (out : β → Dt → X) (R : β → Dt → Prop) (E : Nat → β → X → Prop) (g : Nat → β → β) (hR : ∀ b σ τ, R b σ → KM σ τ → τ.1 26 = σ.1 26 → R b τ) (he : ∀ b σ, R b σ → G σ → body (en b (-1) σ) = some (.inr (out b σ))) {b0 : β} (hs : ∀ c b σ, c < 100 → P c → G σ → R b σ → D c σ → b = ff P g b0 c → (∃ x, body (en b (nI c) σ) = some (.inr x) ∧ E c b x) ∨ ∃ σ1, body (en b (nI c) σ) = bd (f_X12_nextFit 0 (nI c) σ1) (fun u τ => some (.inl (en (g c b) u τ))) ∧ G σ1 ∧ R (g c b) σ1) {σm : Dt} (hG : G σm) (hr : R b0 σm) : ∃ u τ, f_X12_nextFit 0 (-1) σm = some (u, τ) ∧ ∃ x, iter FU body (en b0 u τ) = some x ∧ ((∃ c, c < 100 ∧ P c ∧ E c (ff P g b0 c) x) ∨ ∃ ρ, x = out (ff P g b0 100) ρ ∧ G ρ ∧ R (ff P g b0 100) ρ) := by
  have nxt : ∀ (b : Nat) (z : Int32) (τ : Dt), z + 1 = nI b → b ≤ 100 → G τ → R (ff P g b0 b) τ → ∃ u ρ, f_X12_nextFit 0 z τ = some (u, ρ) ∧ G ρ ∧ R (ff P g b0 b) ρ ∧ ((∃ c, b ≤ c ∧ c < 100 ∧ P c ∧ u = nI c ∧ ff P g b0 b = ff P g b0 c ∧ D c ρ) ∨ (u = -1 ∧ ff P g b0 b = ff P g b0 100)) := by
    intro b z τ hz hb hG2 hR2
    obtain ⟨u, ρ, e1, e2, e3, e4, e5⟩ := hnx b z τ hz hb hG2
    refine ⟨u, ρ, e1, e2, hR _ _ _ hR2 e3 e4, ?_⟩
    rcases e5 with ⟨c, c1, c2, c3, c4, c5, c6⟩ | ⟨c1, c2⟩
    · refine Or.inl ⟨c, c1, c2, c3, c5, ?_, c6⟩
      have := ff_skip (P := P) (g := g) (b := b0) (m := b) (c - b) (fun d h1 h2 => c4 d h1 (by omega))
      rw [show b + (c - b) = c by omega] at this
      exact this.symm
    · refine Or.inr ⟨c1, ?_⟩
      have := ff_skip (P := P) (g := g) (b := b0) (m := b) (100 - b) (fun d h1 h2 => c2 d h1 (by omega))
      rw [show b + (100 - b) = 100 by omega] at this
      exact this.symm
  obtain ⟨u, τ, e1, e2, e3, e4⟩ := nxt 0 (-1) σm (by decide) (by decide) hG hr
  refine ⟨u, τ, e1, ?_⟩
  refine iter_w (f := body) (P := fun i t => ∃ b u τ, t = en b u τ ∧ G τ ∧ R b τ ∧ ((∃ c, i ≤ c ∧ c < 100 ∧ P c ∧ u = nI c ∧ b = ff P g b0 c ∧ D c τ) ∨ (u = -1 ∧ b = ff P g b0 100))) (Q := fun x => (∃ c, c < 100 ∧ P c ∧ E c (ff P g b0 c) x) ∨ ∃ ρ, x = out (ff P g b0 100) ρ ∧ G ρ ∧ R (ff P g b0 100) ρ) 100 (by decide) ?_ (fun i t hi hP => ?_)
  · refine ⟨b0, u, τ, rfl, e2, e3, ?_⟩
    rcases e4 with ⟨c, c1, c2, c3, c4, c5, c6⟩ | ⟨c1, c2⟩
    · exact Or.inl ⟨c, c1, c2, c3, c4, c5, c6⟩
    · exact Or.inr ⟨c1, c2⟩
  · obtain ⟨b, u, τ, rfl, k1, k2, k3⟩ := hP
    rcases k3 with ⟨c, c1, c2, c3, rfl, rfl, c6⟩ | ⟨rfl, rfl⟩
    · rcases hs c _ τ c2 c3 k1 k2 c6 rfl with ⟨x, q1, q2⟩ | ⟨σ1, q1, q2, q3⟩
      · exact Or.inl ⟨x, q1, Or.inl ⟨c, c2, c3, q2⟩⟩
      · right
        have hff : g c (ff P g b0 c) = ff P g b0 (c + 1) := by rw [ff_s, ci_t c3]
        rw [hff] at q1 q3
        obtain ⟨u2, ρ, r1, r2, r3, r4⟩ := nxt (c + 1) (nI c) σ1 (nI_1 c) (by omega) q2 q3
        rw [bd_of r1] at q1
        refine ⟨by omega, _, q1, _, u2, ρ, rfl, r2, r3, ?_⟩
        rcases r4 with ⟨d, d1, d2, d3, d4, d5, d6⟩ | ⟨d1, d2⟩
        · exact Or.inl ⟨d, by omega, d2, d3, d4, d5, d6⟩
        · exact Or.inr ⟨d1, d2⟩
    · left
      exact ⟨_, he _ τ k2 k1, Or.inr ⟨τ, rfl, k1, k2⟩⟩
theorem fit_nx (hC : CV σx v A F W) (h0 : MV σ0 o A F W) (hB : B 0 = nI y) (hy : y ≤ 9) (hw : alW B W n) (b : Nat) (z : Int32) (τ : Dt) (hz : z + 1 = nI b) (hb : b ≤ 100) (hG : MV τ o A F W ∧ MSg τ os B n) : ∃ u ρ, f_X12_nextFit 0 z τ = some (u, ρ) ∧ (MV ρ o A F W ∧ MSg ρ os B n) ∧ KM τ ρ ∧ ρ.1 26 = τ.1 26 ∧ Nx (fitP σ0 A F W B n y) b u (fun c => ∀ j, j < 6 → ρ.1 21 j = nI (laD σ0 (c / 10) (c % 10) y j)) := by
  obtain ⟨u, ρ, e1, e2, e3, e4⟩ := m_nextFit hC h0 hG.1 hG.2 hB hy hw hz hb
  exact ⟨u, ρ, e1, ⟨e2.mv hG.1, e2.msg hG.2⟩, e2, e3, e4⟩
end FIT
/-! ===== fits, share, later ===== -/
noncomputable def mF (P : Nat → Prop) (m : Nat) : Nat := ff P (fun _ a => a + 1) 0 m
theorem mF_s (P : Nat → Prop) (m : Nat) : mF P (m + 1) = ci (P m) (mF P m + 1) (mF P m) := rfl
theorem mF_t {P : Nat → Prop} {m : Nat} (h : P m) : mF P (m + 1) = mF P m + 1 := by rw [mF_s, ci_t h]
theorem mF_f {P : Nat → Prop} {m : Nat} (h : ¬ P m) : mF P (m + 1) = mF P m := by rw [mF_s, ci_f h]
theorem mF_up {P : Nat → Prop} {m : Nat} : mF P m ≤ mF P (m + 1) ∧ mF P (m + 1) ≤ mF P m + 1 := by
  by_cases c : P m
  · rw [mF_t c]; omega
  · rw [mF_f c]; omega
theorem mF_mono {P : Nat → Prop} {m : Nat} : ∀ k, mF P m ≤ mF P (m + k)
  | 0 => Nat.le_refl _
  | k + 1 => Nat.le_trans (mF_mono k) (mF_up (m := m + k)).1
theorem mF_on {P : Nat → Prop} : ∀ m k, k < mF P m → ∃ c, c < m ∧ P c ∧ mF P c = k
  | 0, k, h => absurd h (Nat.not_lt_zero k)
  | m + 1, k, h => by
    by_cases c : P m
    · rw [mF_t c] at h
      rcases (show k = mF P m ∨ k < mF P m by omega) with e | e
      · exact ⟨m, by omega, c, e.symm⟩
      · obtain ⟨d, d1, d2, d3⟩ := mF_on m k e
        exact ⟨d, by omega, d2, d3⟩
    · rw [mF_f c] at h
      obtain ⟨d, d1, d2, d3⟩ := mF_on m k h
      exact ⟨d, by omega, d2, d3⟩
theorem mF_lt {P : Nat → Prop} {c m : Nat} (hc : c < m) (h : P c) : mF P c < mF P m := by
  have h1 := mF_t h
  have h2 := mF_mono (P := P) (m := c + 1) (m - (c + 1))
  rw [show c + 1 + (m - (c + 1)) = m by omega] at h2
  omega
theorem ff_en {β : Type} {P : Nat → Prop} (g : Nat → β → β) (b0 : β) (e : Nat → Nat) : ∀ m, (∀ c, c < m → P c → e (mF P c) = c) → fld (fun k a => g (e k) a) b0 (mF P m) = ff P g b0 m
  | 0, _ => rfl
  | m + 1, h => by
    have ih := ff_en g b0 e m (fun c hc => h c (by omega))
    by_cases c : P m
    · rw [mF_t c, ff_s, ci_t c, ← ih]
      show g (e (mF P m)) _ = _
      rw [h m (by omega) c]
    · rw [mF_f c, ff_s, ci_f c, ih]
def GS (σ : Dt) (P : Nat → Prop) (D : Nat → Nat) (W : Nat) (dl : Nat → Nat) (b : Nat) : Prop := σ.1 186 0 = nI (mF P b) ∧ σ.1 186 1 = nI (ff P (fun c a => a + dl c) 0 b) ∧ σ.1 186 2 = nI W ∧ ∀ c, c < b → P c → σ.1 187 (mF P c) = nI (c / 10) ∧ σ.1 188 (mF P c) = nI (c % 10) ∧ σ.1 189 (mF P c) = nI (D c)
theorem GS.sk {σ : Dt} {P : Nat → Prop} {D : Nat → Nat} {W : Nat} {dl : Nat → Nat} {b : Nat} (h : GS σ P D W dl b) {b' : Nat} (hb : b ≤ b') (hn : ∀ d, b ≤ d → d < b' → ¬ P d) : GS σ P D W dl b' := by
  obtain ⟨h1, h2, h3, h4⟩ := h
  have e : ∀ {β : Type} (g : Nat → β → β) (b0 : β), ff P g b0 b' = ff P g b0 b := by
    intro β g b0
    have := ff_skip (P := P) (g := g) (b := b0) (m := b) (b' - b) (fun d z1 z2 => hn d z1 (by omega))
    rw [show b + (b' - b) = b' by omega] at this
    exact this
  refine ⟨?_, ?_, h3, fun c hc hP => ?_⟩
  · rw [h1]; exact congrArg nI (e _ _).symm
  · rw [h2]; exact congrArg nI (e _ _).symm
  · rcases (show c < b ∨ b ≤ c by omega) with z | z
    · exact h4 c z hP
    · exact absurd hP (hn c z hc)
theorem GS.cg {σ τ : Dt} {P : Nat → Prop} {D : Nat → Nat} {W : Nat} {dl : Nat → Nat} {b : Nat} (h : GS σ P D W dl b) (hc : ∀ a, 186 ≤ a → a ≤ 189 → τ.1 a = σ.1 a) : GS τ P D W dl b := by
  unfold GS at *
  rw [hc 186 (by decide) (by decide), hc 187 (by decide) (by decide), hc 188 (by decide) (by decide), hc 189 (by decide) (by decide)]
  exact h
theorem xg3 {β : Type} {σ : Dt} {k : Option Nat → Option β} (hR : RefX σ) : bo (xgr SX 2 3 (some 186) σ) k = k (some 187) := bo_of (by rw [xgr_of (by decide) (by decide), hR.1 186 3 (by decide) (by decide)]; rfl)
theorem xg4 {β : Type} {σ : Dt} {k : Option Nat → Option β} (hR : RefX σ) : bo (xgr SX 2 4 (some 186) σ) k = k (some 188) := bo_of (by rw [xgr_of (by decide) (by decide), hR.1 186 4 (by decide) (by decide)]; rfl)
theorem xg5 {β : Type} {σ : Dt} {k : Option Nat → Option β} (hR : RefX σ) : bo (xgr SX 2 5 (some 186) σ) k = k (some 189) := bo_of (by rw [xgr_of (by decide) (by decide), hR.1 186 5 (by decide) (by decide)]; rfl)
theorem xg6 {β : Type} {σ : Dt} {k : Option Nat → Option β} (hR : RefX σ) : bo (xgr SX 2 6 (some 186) σ) k = k (some 190) := bo_of (by rw [xgr_of (by decide) (by decide), hR.1 186 6 (by decide) (by decide)]; rfl)
theorem ggi {β : Type} {j : Nat} {σ : Dt} {k : Int32 → Option β} : bo (xgi SX 2 j (some 186) σ) k = k (σ.1 186 j) := bo_of (xgi_of (by decide) (by decide))
theorem gpi {β : Type} {j : Nat} {σ : Dt} {v : Int32} {k : Dt → Option β} : bo (xpi SX 2 j (some 186) v σ) k = k (setX σ 186 j v) := bo_of (xpi_of (by decide) (by decide))
theorem grc : xrc SX 2 (some 186) = some 186 := xrc_of (by decide) (by decide)
theorem g_sh : ∀ d, d < 3 → 187 + d < SX.1 ∧ SX.2.1 (187 + d) = 13 ∧ SX.2.2 (187 + d) = 60 := by decide
theorem gai {β : Type} {d i : Nat} {σ : Dt} {k : Int32 → Option β} (hd : d < 3) (hi : i < 60) : bo (xai SX (some (187 + d)) (nI i) σ) k = k (σ.1 (187 + d) i) := bo_of (xai_of (g_sh d hd).1 (g_sh d hd).2.1 (by rw [(g_sh d hd).2.2]; exact hi) (by rw [(g_sh d hd).2.2]; decide))
theorem gsi {β : Type} {d i : Nat} {v : Int32} {σ : Dt} {k : Dt → Option β} (hd : d < 3) (hi : i < 60) : bo (xsi SX (some (187 + d)) (nI i) v σ) k = k (setX σ (187 + d) i v) := bo_of (xsiX (g_sh d hd).1 (g_sh d hd).2.1 (by rw [(g_sh d hd).2.2]; exact hi) (by rw [(g_sh d hd).2.2]; decide))
theorem x_add {σ : Dt} {m : Nat} {x y z : Int32} (hR : RefX σ) (hm : σ.1 186 0 = nI m) (h60 : m < 60) : f_X2_add 186 x y z σ = some ((), setX (setX (setX (setX σ 187 m x) 188 m y) 189 m z) 186 0 (nI (m + 1))) := by
  unfold f_X2_add
  have e1 : (setX σ 187 m x).1 186 0 = nI m := by rw [setX_o (by decide)]; exact hm
  have e2 : (setX (setX σ 187 m x) 188 m y).1 186 0 = nI m := by rw [setX_o (by decide)]; exact e1
  have e3 : (setX (setX (setX σ 187 m x) 188 m y) 189 m z).1 186 0 = nI m := by rw [setX_o (by decide)]; exact e2
  rw [ggi, hm, if_neg (nI_pos (by omega)), ggi, hm, if_neg (show ¬ (60 : Int32) ≤ nI m from nI_ge (b := 60) h60 (by decide)), xg3 hR, ggi, hm, gsi (d := 0) (by decide) h60, xg4 (show RefX (setX σ 187 m x) from hR), ggi, e1, gsi (d := 1) (by decide) h60, xg5 (show RefX (setX (setX σ 187 m x) 188 m y) from hR), ggi, e2, gsi (d := 2) (by decide) h60, ggi, e3, gpi, nI_1]
section FND
variable {σx σ0 : Dt} {v o s n y F W : Nat} {A B : Nat → Int32}
/-- what is done later counts one -/
def dlN (σ : Dt) (A : Nat → Int32) (c : Nat) : Nat := if laD σ (c / 10) (c % 10) 9 (c % 10) = szN A (c % 10) then 1 else 0
def dgN (σ : Dt) (y c : Nat) : Nat := laD σ (c / 10) (c % 10) y (c % 10)
theorem x_find1 (hC : CV σx v A F W) (h0 : MV σ0 o A F W) (hS : CSg σx s B n) (hB : B 0 = nI y) (hy : y ≤ 9) (hw : alW B W n) {f w : Nat} (hf : f < F) (hwW : w < W) (hG : GS σx (fitP σ0 A F W B n y) (dgN σ0 y) W (dlN σ0 A) (10 * f + w)) (hm : mF (fitP σ0 A F W B n y) (10 * f + w) < 60) : ∃ τ, f_X2_find_L100 186 (some v) (some s) (some 174) (nI f) (nI w) σx = some (.inl (nI (w + 1), τ)) ∧ KX σx τ ∧ GS τ (fitP σ0 A F W B n y) (dgN σ0 y) W (dlN σ0 A) (10 * f + w + 1) := by
  have hF := hC.F10
  have hW := hC.W6
  have q1 : (10 * f + w) / 10 = f := by omega
  have q2 : (10 * f + w) % 10 = w := by omega
  obtain ⟨ax, bx, cx, bm, S, e1, e2, e3, e4, e5, e6, e7, am, e8, e9⟩ := la_x hC h0 hf hwW hy
  have hKb : KX σx bx := by
    obtain ⟨ax', bx', cx', am', bm', S', g1, g2, g3, g4, g5, g6, -⟩ := w_run hC h0 (y := 0) hf hwW (by decide)
    have ha : ax = ax' := (Prod.mk.inj (Option.some.inj (e1.symm.trans g1))).2
    subst ha
    have hb : bx = bx' := (Prod.mk.inj (Option.some.inj (e2.symm.trans g2))).2
    subst hb
    have hc : bx = cx' := Option.some.inj g3
    rw [hc]
    exact g6.kx
  have hSb := hKb.csg hS
  have hSc := e6.kx.csg hS
  have yb : xgi SX 6 0 (some s) bx = some (nI y) := by rw [sgi hS.1, hSb.2.2.1.1, hB]
  have hGc := hG.cg (τ := cx) (fun a h1 h2 => e6.1 a (by omega))
  have hag : agP (S 6) B n ↔ agP (laD σ0 f w y) B n := ⟨fun z k hk => by have := hw k hk; rw [← e7 _ (by omega)]; exact z k hk, fun z k hk => by have := hw k hk; rw [e7 _ (by omega)]; exact z k hk⟩
  have hfit : fitP σ0 A F W B n y (10 * f + w) ↔ agN A f < 10 ∧ agP (S 6) B n := by
    unfold fitP
    rw [q1, q2, hag]
    exact ⟨fun z => z.2.2, fun z => ⟨hf, hwW, z⟩⟩
  unfold f_X2_find_L100 f_X2_find_203
  rw [bo_of (xworks hC), ite_le_f (by omega) hwW, if_neg (show ¬ (6 : Int32) ≤ nI w from nI_ge (b := 6) (by omega) (by decide)), bo_of wrc, bd_of e1, bo_of wrc, bd_of e2, bo_of yb, bo_of wrc, bd_of (x_years hy e3), ite_b, bo_of (x_agree e5 hSc hw), ite_b, nI_1]
  have no : ¬ fitP σ0 A F W B n y (10 * f + w) → ∃ τ, (some (Sum.inl (nI (w + 1), cx)) : Option ((Int32 × Dt) ⊕ Dt)) = some (.inl (nI (w + 1), τ)) ∧ KX σx τ ∧ GS τ (fitP σ0 A F W B n y) (dgN σ0 y) W (dlN σ0 A) (10 * f + w + 1) := fun z => ⟨cx, rfl, e6.kx, hGc.sk (by omega) (fun d h1 h2 => by rw [show d = 10 * f + w by omega]; exact z)⟩
  by_cases c1 : agN A f < 10
  · rw [ci_t c1]
    by_cases c2 : agP (S 6) B n
    · have hP := hfit.mpr ⟨c1, c2⟩
      have hd := e5.dg (show w < 6 by omega)
      have hdug : f_X10_dugAt 174 (nI w) cx = some (nI (S 6 w)) := by
        unfold f_X10_dugAt
        rw [bo_of wrc, bo_of (e5.hasWork _), ite_b, ci_in_t hwW, xw15 e5.1, e5.xa6 (by omega)]
      rw [ci_t c2, bo_of wrc, bo_of hdug, bo_of grc, bd_of (x_add e5.1 hGc.1 hm)]
      generalize hdx : setX (setX (setX (setX cx 187 (mF (fitP σ0 A F W B n y) (10 * f + w)) (nI f)) 188 (mF (fitP σ0 A F W B n y) (10 * f + w)) (nI w)) 189 (mF (fitP σ0 A F W B n y) (10 * f + w)) (nI (S 6 w))) 186 0 (nI (mF (fitP σ0 A F W B n y) (10 * f + w) + 1)) = dx
      have hdo : ∀ a, a < 186 ∨ 189 < a → dx.1 a = cx.1 a := fun a ha => by rw [← hdx, setX_o (by omega), setX_o (by omega), setX_o (by omega), setX_o (by omega)]
      have hd2 : dx.2 = cx.2 := by rw [← hdx]; rfl
      have hKd : KX cx dx := ⟨fun a ha => hdo a (by omega), congrArg Prod.snd hd2⟩
      have hWd : Wk dx bm o A F W S := e5.cg (hKd.ref e5.1) e5.2.1 (fun a h1 h2 => hdo a (by omega)) (fun j hj => by rw [hdo 174 (by omega)]) (fun _ _ _ => rfl) (fun _ _ _ _ => rfl)
      have yd : xgi SX 6 0 (some s) dx = some (nI y) := by
        have hSd := hKd.csg hSc
        rw [sgi hS.1, hSd.2.2.1.1, hB]
      obtain ⟨ex, em, S2, g1, g2, g3, g4, -⟩ := w_yrs (9 - y) hWd
      have h9 : f_X12_lasts 0 (nI f) (nI w) (nI 9) σ0 = some ((), em) := by
        rw [e8 9 (by decide)]
        have := yrs_add y (9 - y) am bm e9
        rw [show y + (9 - y) = 9 by omega] at this
        rw [this, g2]
        rfl
      have hS2 : S2 6 w = laD σ0 f w 9 w := by
        obtain ⟨-, k2, k3, k4⟩ := g3.dg (show w < 6 by omega)
        rw [la_eq h9, k2, nI_clamp (by omega)]
      have hdl : dlN σ0 A (10 * f + w) = if S2 6 w = szN A w then 1 else 0 := by
        unfold dlN
        rw [q1, q2, hS2]
      have h186 : ∀ a, 185 < a → ex.1 a = dx.1 a := fun a ha => g4.1 a (Or.inr ha)
      have hdl0 : ex.1 186 1 = nI (ff (fitP σ0 A F W B n y) (fun c a => a + dlN σ0 A c) 0 (10 * f + w)) := by
        rw [h186 186 (by decide), ← hdx, setX_n (by decide), setX_o (by decide), setX_o (by decide), setX_o (by decide)]
        exact hGc.2.1
      rw [bo_of yd, bo_of wrc, show (9 : Int32) - nI y = nI (9 - y) from pk_sub (a := 9) hy, bd_of (x_years (by omega) g1), ggi, hdl0, bo_of wrc, bo_of (g3.xdone hwW), ite_b]
      have hKX : KX σx ex := (e6.kx.tr hKd).tr g4.kx
      have fin : ∀ k : Nat, k = dlN σ0 A (10 * f + w) → ∃ τ, f_X2_find_199 186 (some v) (some s) (some 174) (nI f) (nI w) (some 186) (nI (ff (fitP σ0 A F W B n y) (fun c a => a + dlN σ0 A c) 0 (10 * f + w))) (nI k) ex = some (.inl (nI (w + 1), τ)) ∧ KX σx τ ∧ GS τ (fitP σ0 A F W B n y) (dgN σ0 y) W (dlN σ0 A) (10 * f + w + 1) := by
        intro k hk
        unfold f_X2_find_199 f_X2_find_203
        rw [gpi, nI_add, nI_1]
        refine ⟨_, rfl, hKX.tr (KX_set (by decide)), ?_, ?_, ?_, fun c hc hPc => ?_⟩
        · rw [setX_n (by decide), h186 186 (by decide), ← hdx, setX_j, mF_t hP]
        · rw [setX_j, ff_s, ci_t hP, hk]
        · rw [setX_n (by decide), h186 186 (by decide), ← hdx, setX_n (by decide), setX_o (by decide), setX_o (by decide), setX_o (by decide)]
          exact hGc.2.2.1
        · rw [setX_o (by decide), setX_o (by decide), setX_o (by decide), h186 187 (by decide), h186 188 (by decide), h186 189 (by decide), ← hdx]
          rcases (show c = 10 * f + w ∨ c < 10 * f + w by omega) with z | z
          · subst z
            refine ⟨?_, ?_, ?_⟩
            · rw [setX_o (by decide), setX_o (by decide), setX_o (by decide), setX_j, q1]
            · rw [setX_o (by decide), setX_o (by decide), setX_j, q2]
            · rw [setX_o (by decide), setX_j]
              unfold dgN
              rw [q1, q2, e7 w (by omega)]
          · have hlt := mF_lt z hPc
            obtain ⟨r1, r2, r3⟩ := hGc.2.2.2 c z hPc
            refine ⟨?_, ?_, ?_⟩
            · rw [setX_o (by decide), setX_o (by decide), setX_o (by decide), setX_n (by omega)]; exact r1
            · rw [setX_o (by decide), setX_o (by decide), setX_n (by omega), setX_o (by decide)]; exact r2
            · rw [setX_o (by decide), setX_n (by omega), setX_o (by decide), setX_o (by decide)]; exact r3
      by_cases c3 : S2 6 w = szN A w
      · rw [ci_t c3]
        exact fin 1 (by rw [hdl, if_pos c3])
      · rw [ci_f c3]
        exact fin 0 (by rw [hdl, if_neg c3])
    · rw [ci_f c2]
      exact no (fun z => c2 (hfit.mp z).2)
  · rw [ci_f c1]
    exact no (fun z => c1 (hfit.mp z).1)
theorem x_find (hC : CV σx v A F W) (h0 : MV σ0 o A F W) (hS : CSg σx s B n) (hB : B 0 = nI y) (hy : y ≤ 9) : ∃ τ, f_X2_find 186 (some v) (some s) (some 174) σx = some (bI (alW B W n), τ) ∧ KX σx τ ∧ (alW B W n → GS τ (fitP σ0 A F W B n y) (dgN σ0 y) W (dlN σ0 A) 100 ∧ mF (fitP σ0 A F W B n y) 100 ≤ 60) := by
  have hF := hC.F10
  have hW := hC.W6
  have h8 := hS.n8
  unfold f_X2_find f_X2_find_78
  rw [gpi, gpi, gpi, if_neg (by simp), if_neg (by simp), if_neg (by simp)]
  have hK1 : KX σx (setX (setX (setX σx 186 0 0) 186 1 0) 186 2 0) := ((KX_set (by decide)).tr (KX_set (by decide))).tr (KX_set (by decide))
  rw [bo_of (xworks (hK1.cv hC)), gpi]
  generalize hρ : setX (setX (setX (setX σx 186 0 0) 186 1 0) 186 2 0) 186 2 (nI W) = ρ
  have hK : KX σx ρ := by rw [← hρ]; exact hK1.tr (KX_set (by decide))
  have hC1 := hK.cv hC
  have hS1 := hK.csg hS
  have key := iter_w (f := fun q : Int32 => f_X2_find_L40 186 (some v) (some s) (some 174) q ρ) (s0 := (0 : Int32)) (P := fun i q => q = nI i ∧ alW B W i) (Q := fun x => (x = Sum.inl () ∧ ¬ alW B W n) ∨ (x = Sum.inr () ∧ alW B W n)) n (by omega) ⟨rfl, fun k hk => absurd hk (Nat.not_lt_zero k)⟩ (fun i q hi hP => ?_)
  · obtain ⟨x, e1, e2⟩ := key
    rw [bo_of e1]
    rcases e2 with ⟨rfl, e2⟩ | ⟨rfl, hw⟩
    · exact ⟨ρ, by rw [bI_f e2]; rfl, hK, fun z => absurd z e2⟩
    · have hG0 : GS ρ (fitP σ0 A F W B n y) (dgN σ0 y) W (dlN σ0 A) 0 := by
        refine ⟨?_, ?_, ?_, fun c hc => absurd hc (Nat.not_lt_zero c)⟩
        · rw [← hρ, setX_n (by decide), setX_n (by decide), setX_n (by decide), setX_j]; rfl
        · rw [← hρ, setX_n (by decide), setX_n (by decide), setX_j]; rfl
        · rw [← hρ, setX_j]
      have key := iter_w (f := fun q : Int32 × Dt => f_X2_find_L81 186 (some v) (some s) (some 174) q.1 q.2) (s0 := ((0 : Int32), ρ)) (P := fun f q => q.1 = nI f ∧ KX σx q.2 ∧ GS q.2 (fitP σ0 A F W B n y) (dgN σ0 y) W (dlN σ0 A) (10 * f) ∧ mF (fitP σ0 A F W B n y) (10 * f) ≤ 6 * f) (Q := fun q => KX σx q ∧ GS q (fitP σ0 A F W B n y) (dgN σ0 y) W (dlN σ0 A) (10 * F) ∧ mF (fitP σ0 A F W B n y) (10 * F) ≤ 6 * F) F (by omega) ⟨rfl, hK, hG0, Nat.le_refl _⟩ (fun f q hf hP => ?_)
      · obtain ⟨τ, g1, g2, g3, g4⟩ := key
        refine ⟨τ, ?_, g2, fun _ => ⟨g3.sk (by omega) (fun d h1 h2 z => ?_), ?_⟩⟩
        · show (bo (iter FU (fun s2 => f_X2_find_L81 186 (some v) (some s) (some 174) s2.1 s2.2) ((0 : Int32), ρ)) fun w1 => some ((1 : Int32), w1)) = _
          rw [bo_of g1, bI_t hw]
        · have := z.1
          omega
        · have := ff_skip (P := fitP σ0 A F W B n y) (g := fun _ a => a + 1) (b := 0) (m := 10 * F) (100 - 10 * F) (fun d h1 h2 z => by have := z.1; omega)
          rw [show 10 * F + (100 - 10 * F) = 100 by omega] at this
          show ff (fitP σ0 A F W B n y) (fun _ a => a + 1) 0 100 ≤ 60
          rw [this]
          exact Nat.le_trans g4 (by omega)
      · obtain ⟨z, τ⟩ := q
        obtain ⟨p1, p2, p3, p4⟩ := hP
        dsimp only at p1 p2 p3 ⊢
        subst p1
        have hC2 := p2.cv hC
        unfold f_X2_find_L81 f_X2_find_209
        rw [bo_of (xfolk hC2)]
        rcases (show f = F ∨ f < F by omega) with e | e
        · left
          subst e
          rw [if_pos (nI_le (Nat.le_refl _) (by omega))]
          exact ⟨_, rfl, p2, p3, p4⟩
        · right
          refine ⟨e, ?_⟩
          have key := iter_w (f := fun q : Int32 × Dt => f_X2_find_L100 186 (some v) (some s) (some 174) (nI f) q.1 q.2) (s0 := ((0 : Int32), τ)) (P := fun w q => q.1 = nI w ∧ KX σx q.2 ∧ GS q.2 (fitP σ0 A F W B n y) (dgN σ0 y) W (dlN σ0 A) (10 * f + w) ∧ mF (fitP σ0 A F W B n y) (10 * f + w) ≤ 6 * f + w) (Q := fun q => KX σx q ∧ GS q (fitP σ0 A F W B n y) (dgN σ0 y) W (dlN σ0 A) (10 * f + W) ∧ mF (fitP σ0 A F W B n y) (10 * f + W) ≤ 6 * f + W) W (by omega) ⟨rfl, p2, p3, p4⟩ (fun w q hw2 hP => ?_)
          · obtain ⟨ρ2, k1, k2, k3, k4⟩ := key
            rw [ite_le_f (by omega) e, if_neg (le10 (by omega)), bo_of k1, nI_1]
            have hsk : ∀ d, 10 * f + W ≤ d → d < 10 * (f + 1) → ¬ fitP σ0 A F W B n y d := fun d h1 h2 z => by have := z.2.1; omega
            refine ⟨_, rfl, rfl, k2, k3.sk (by omega) hsk, ?_⟩
            have := ff_skip (P := fitP σ0 A F W B n y) (g := fun _ a => a + 1) (b := 0) (m := 10 * f + W) (10 - W) (fun d h1 h2 => hsk d h1 (by omega))
            rw [show 10 * f + W + (10 - W) = 10 * (f + 1) by omega] at this
            show ff (fitP σ0 A F W B n y) (fun _ a => a + 1) 0 (10 * (f + 1)) ≤ 6 * (f + 1)
            rw [this]
            exact Nat.le_trans k4 (by omega)
          · obtain ⟨z, τ2⟩ := q
            obtain ⟨r1, r2, r3, r4⟩ := hP
            dsimp only at r1 r2 r3 ⊢
            subst r1
            rcases (show w = W ∨ w < W by omega) with e3 | e3
            · left
              subst e3
              refine ⟨τ2, ?_, r2, r3, r4⟩
              unfold f_X2_find_L100
              rw [bo_of (xworks (r2.cv hC)), if_pos (nI_le (Nat.le_refl _) (by omega))]
            · right
              obtain ⟨τ3, t1, t2, t3⟩ := x_find1 (r2.cv hC) h0 (r2.csg hS) hB hy hw e e3 r3 (by omega)
              refine ⟨e3, _, t1, rfl, r2.tr t2, t3, ?_⟩
              have := (mF_up (P := fitP σ0 A F W B n y) (m := 10 * f + w)).2
              show mF (fitP σ0 A F W B n y) (10 * f + w + 1) ≤ 6 * f + (w + 1)
              omega
  · obtain ⟨p1, p2⟩ := hP
    subst p1
    unfold f_X2_find_L40
    rw [sgi hS.1, bo_s, hS1.dn]
    rcases (show i = n ∨ i < n by omega) with e | e
    · left
      subst e
      rw [if_pos (nI_le (Nat.le_refl _) (by omega))]
      exact ⟨_, rfl, Or.inr ⟨rfl, p2⟩⟩
    · obtain ⟨⟨r1, r2⟩, -⟩ := hS.2.2.2.row e
      rw [ite_le_f (by omega) e, if_neg (show ¬ (8 : Int32) ≤ nI i from nI_ge (b := 8) (by omega) (by decide)), sgr2 hS1, bo_s, sai1 hS1 e, bo_s, r1, bo_of (crc hC.1), bo_of (c_hasWorkB hC1 _), ite_b]
      by_cases c : swk B i < W
      · right
        rw [ci_in_t c, nI_1]
        exact ⟨e, _, rfl, rfl, alW_s.mpr ⟨p2, c⟩⟩
      · left
        rw [ci_in_f (by omega) (by omega)]
        exact ⟨_, rfl, Or.inl ⟨rfl, fun z => c (z i e)⟩⟩
end FND
