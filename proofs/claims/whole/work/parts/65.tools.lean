/-! ===== loops by what holds in them; what a call leaves as it was ===== -/
theorem iter_w {S X : Type} {f : S → Option (S ⊕ X)} (P : Nat → S → Prop) (Q : X → Prop) (n : Nat) (hn : n < 100000) {s0 : S} (h0 : P 0 s0) (h : ∀ j s, j ≤ n → P j s → (∃ x, f s = some (.inr x) ∧ Q x) ∨ (j < n ∧ ∃ s', f s = some (.inl s') ∧ P (j + 1) s')) : ∃ x, iter FU f s0 = some x ∧ Q x := by
  have go : ∀ (m k i : Nat) (s : S), i + m = n → m < k → P i s → ∃ x, iter k f s = some x ∧ Q x := by
    intro m
    induction m with
    | zero =>
      intro k i s e hk hp
      obtain ⟨k, rfl⟩ : ∃ k', k = k' + 1 := ⟨k - 1, by omega⟩
      rcases h i s (by omega) hp with ⟨x, e1, q⟩ | ⟨c, -⟩
      · exact ⟨x, by unfold iter; rw [e1], q⟩
      · omega
    | succ m ih =>
      intro k i s e hk hp
      obtain ⟨k, rfl⟩ : ∃ k', k = k' + 1 := ⟨k - 1, by omega⟩
      rcases h i s (by omega) hp with ⟨x, e1, q⟩ | ⟨c, s', e1, q⟩
      · exact ⟨x, by unfold iter; rw [e1], q⟩
      · obtain ⟨x, e2, q2⟩ := ih k (i + 1) s' (by omega) (by omega) q
        exact ⟨x, by unfold iter; rw [e1]; exact e2, q2⟩
  exact go n FU 0 s0 (by omega) hn h0
theorem iter_two {S X T Y : Type} {f : S → Option (S ⊕ X)} {g : T → Option (T ⊕ Y)} (P : Nat → S → T → Prop) (Q : X → Y → Prop) (n : Nat) (hn : n < 100000) {s0 : S} {t0 : T} (h0 : P 0 s0 t0) (h : ∀ j s t, j ≤ n → P j s t → (∃ x y, f s = some (.inr x) ∧ g t = some (.inr y) ∧ Q x y) ∨ (j < n ∧ ∃ s' t', f s = some (.inl s') ∧ g t = some (.inl t') ∧ P (j + 1) s' t')) : ∃ x y, iter FU f s0 = some x ∧ iter FU g t0 = some y ∧ Q x y := by
  have go : ∀ (m k i : Nat) (s : S) (t : T), i + m = n → m < k → P i s t → ∃ x y, iter k f s = some x ∧ iter k g t = some y ∧ Q x y := by
    intro m
    induction m with
    | zero =>
      intro k i s t e hk hp
      obtain ⟨k, rfl⟩ : ∃ k', k = k' + 1 := ⟨k - 1, by omega⟩
      rcases h i s t (by omega) hp with ⟨x, y, e1, e2, q⟩ | ⟨c, -⟩
      · exact ⟨x, y, by unfold iter; rw [e1], by unfold iter; rw [e2], q⟩
      · omega
    | succ m ih =>
      intro k i s t e hk hp
      obtain ⟨k, rfl⟩ : ∃ k', k = k' + 1 := ⟨k - 1, by omega⟩
      rcases h i s t (by omega) hp with ⟨x, y, e1, e2, q⟩ | ⟨c, s', t', e1, e2, q⟩
      · exact ⟨x, y, by unfold iter; rw [e1], by unfold iter; rw [e2], q⟩
      · obtain ⟨x, y, e3, e4, q2⟩ := ih k (i + 1) s' t' (by omega) (by omega) q
        exact ⟨x, y, by unfold iter; rw [e1]; exact e3, by unfold iter; rw [e2]; exact e4, q2⟩
  exact go n FU 0 s0 t0 (by omega) hn h0
/-- the class's told state and reader stand -/
def KX (σ σ' : Dt) : Prop := (∀ a, a < 174 → σ'.1 a = σ.1 a) ∧ σ'.2.2 = σ.2.2
theorem KX_0 (σ : Dt) : KX σ σ := ⟨fun _ _ => rfl, rfl⟩
theorem KX.tr {a b c : Dt} (h1 : KX a b) (h2 : KX b c) : KX a c := ⟨fun x hx => (h2.1 x hx).trans (h1.1 x hx), h2.2.trans h1.2⟩
theorem KX.ref {σ σ' : Dt} (h : KX σ σ') (hR : RefX σ) : RefX σ' := by
  unfold RefX at *
  rw [h.2]
  exact hR
theorem KX.cv {σ σ' : Dt} {v F W : Nat} {A : Nat → Int32} (h : KX σ σ') (hC : CV σ v A F W) : CV σ' v A F W := by
  obtain ⟨hv, hR, h1, h2, h3⟩ := hC
  have hv2 : v ≤ 156 := (show ∀ v ∈ vlist, v ≤ 156 by decide) v hv
  refine ⟨hv, h.ref hR, ?_, h2, ?_⟩
  · unfold VR at *
    rw [h.1 v (by omega), h.1 (v + 1) (by omega), h.1 (v + 2) (by omega), h.1 (v + 3) (by omega), h.1 (v + 4) (by omega), h.1 (v + 6) (by omega), h.1 (v + 7) (by omega)]
    exact h1
  · unfold HR at *
    rw [h.1 (v + 5) (by omega)]
    exact h3
theorem KX.clf {σ σ' : Dt} {l n : Nat} {A : Nat → Int32} (h : KX σ σ') (hC : CLf σ l A n) : CLf σ' l A n := by
  obtain ⟨hv, hR, h1, h2⟩ := hC
  have hv2 : l ≤ 30 := (show ∀ v ∈ llist, v ≤ 30 by decide) l hv
  refine ⟨hv, h.ref hR, ?_, h2⟩
  unfold LR at *
  rw [h.1 l (by omega), h.1 (l + 1) (by omega), h.1 (l + 2) (by omega), h.1 (l + 3) (by omega), h.1 (l + 4) (by omega)]
  exact h1
theorem KX.csg {σ σ' : Dt} {l n : Nat} {A : Nat → Int32} (h : KX σ σ') (hC : CSg σ l A n) : CSg σ' l A n := by
  obtain ⟨hv, hR, h1, h2⟩ := hC
  have hv2 : l ≤ 35 := (show ∀ v ∈ slist, v ≤ 35 by decide) l hv
  refine ⟨hv, h.ref hR, ?_, h2⟩
  unfold SR at *
  rw [h.1 l (by omega), h.1 (l + 1) (by omega), h.1 (l + 2) (by omega)]
  exact h1
theorem KX.inv {σx σx' σm : Dt} (h : KX σx σx') (hI : Inv σx σm) : Inv σx' σm := Inv_x (fun a ha => h.1 a (by omega)) h.2 hI
theorem KX_set {σ : Dt} {a j : Nat} {v : Int32} (ha : 174 ≤ a) : KX σ (setX σ a j v) := ⟨fun b hb => setX_o (by omega), rfl⟩
theorem KX_put {σ : Dt} {a : Nat} {g : Nat → Int32} (ha : 174 ≤ a) : KX σ (putR σ a g) := ⟨fun b hb => putR_o (by omega), rfl⟩
/-- the reference's told state and what it looks at stand -/
def KM (σ σ' : Dt) : Prop := σ'.1 1 = σ.1 1 ∧ σ'.1 2 = σ.1 2 ∧ σ'.2.2 = σ.2.2 ∧ ∀ j, ((11 ≤ j ∧ j ≤ 13) ∨ j = 26 ∨ j = 45) → σ'.1 0 j = σ.1 0 j
theorem KM_0 (σ : Dt) : KM σ σ := ⟨rfl, rfl, rfl, fun _ _ => rfl⟩
theorem KM.tr {a b c : Dt} (h1 : KM a b) (h2 : KM b c) : KM a c := ⟨h2.1.trans h1.1, h2.2.1.trans h1.2.1, h2.2.2.1.trans h1.2.2.1, fun j hj => (h2.2.2.2 j hj).trans (h1.2.2.2 j hj)⟩
theorem KM.ref {σ σ' : Dt} (h : KM σ σ') (hR : RefM σ) : RefM σ' := by
  unfold RefM at *
  rw [h.2.2.1]
  exact hR
theorem KM.mv {σ σ' : Dt} {o F W : Nat} {A : Nat → Int32} (h : KM σ σ') (hM : MV σ o A F W) : MV σ' o A F W := by
  obtain ⟨q1, q2, q3, q4, q5, q6, q7⟩ := hM
  refine ⟨h.ref q1, ?_, ?_, ?_, q5, ?_, q7⟩
  · rw [h.2.2.2 11 (by omega)]; exact q2
  · rw [h.2.2.2 12 (by omega)]; exact q3
  · rw [h.2.2.2 13 (by omega)]; exact q4
  · rw [h.1]; exact q6
theorem KM.mlf {σ σ' : Dt} {o n : Nat} {A : Nat → Int32} (h : KM σ σ') (hM : MLf σ o A n) : MLf σ' o A n := by
  obtain ⟨q1, q2, q3, q4, q5⟩ := hM
  refine ⟨h.ref q1, ?_, q3, ?_, q5⟩
  · rw [h.2.2.2 26 (by omega)]; exact q2
  · rw [h.1]; exact q4
theorem KM.msg {σ σ' : Dt} {o n : Nat} {A : Nat → Int32} (h : KM σ σ') (hM : MSg σ o A n) : MSg σ' o A n := by
  obtain ⟨q1, q2, q3, q4, q5⟩ := hM
  refine ⟨h.ref q1, ?_, q3, ?_, q5⟩
  · rw [h.2.2.2 45 (by omega)]; exact q2
  · rw [h.1]; exact q4
theorem KM.inv {σx σm σm' : Dt} (h : KM σm σm') (hI : Inv σx σm) : Inv σx σm' := Inv_m h.1 h.2.1 h.2.2.1 hI
theorem KM_set {σ : Dt} {a j : Nat} {v : Int32} (ha : 3 ≤ a) : KM σ (setX σ a j v) := ⟨setX_o (by omega), setX_o (by omega), rfl, fun k _ => by rw [setX_o (by omega)]⟩
theorem KM_put {σ : Dt} {a : Nat} {g : Nat → Int32} (ha : 3 ≤ a) : KM σ (putR σ a g) := ⟨putR_o (by omega), putR_o (by omega), rfl, fun k _ => by rw [putR_o (by omega)]⟩
theorem KM_f {σ : Dt} {j : Nat} {v : Int32} (hj : ¬ ((11 ≤ j ∧ j ≤ 13) ∨ j = 26 ∨ j = 45)) : KM σ (setX σ 0 j v) := ⟨setX_o (by decide), setX_o (by decide), rfl, fun k hk => setX_n (fun e => hj (e ▸ hk))⟩
theorem setX_get {σ : Dt} {a j b k : Nat} {v : Int32} : (setX σ a j v).1 b k = if b = a ∧ k = j then v else σ.1 b k := rfl
theorem xsiX {sh : Sh} {a i : Nat} {v : Int32} {σ : Dt} (h1 : a < sh.1) (h2 : sh.2.1 a = 13) (h3 : i < sh.2.2 a) (h4 : sh.2.2 a < 2 ^ 31) : xsi sh (some a) (nI i) v σ = some (setX σ a i v) := xsi_of h1 h2 h3 h4
theorem m_r {σ : Dt} (hR : RefM σ) {j r : Nat} (hj : j < 48) (e : rM 0 j = some r) : xgr SM 12 j (some 0) σ = some (some r) := by
  rw [mgr, hR j hj, e]
/-! ===== line, to its end ===== -/
section LI2
variable {σ : Dt} {v o F W : Nat} {A : Nat → Int32}
theorem x_next (h : CV σ v A F W) {f l : Nat} (hf : f < 10) (hl : l ≤ 10) (ht : ∀ c, c < 10 → σ.1 205 c = nI (lgN A F c)) : (∀ m, m < F → ((paN A m).testBit f = true ∧ lgN A F m = l) → (∀ j, j < m → ¬ ((paN A j).testBit f = true ∧ lgN A F j = l)) → f_X3_nextInLine 203 (some v) (nI f) (nI l) σ = some (nI m)) ∧ ((∀ j, j < F → ¬ ((paN A j).testBit f = true ∧ lgN A F j = l)) → f_X3_nextInLine 203 (some v) (nI f) (nI l) σ = some (-1)) := by
  have hF := h.F10
  have go : ∀ i, i < F → ¬ ((paN A i).testBit f = true ∧ lgN A F i = l) → f_X3_nextInLine_L3 203 (some v) (nI f) (nI l) (nI i) σ = some (.inl (nI (i + 1))) := by
    intro i hi q
    have hp := h.vw.pa10 (show i < 10 by omega)
    have hlg := lg_le (A := A) (F := F) i
    unfold f_X3_nextInLine_L3 f_X3_nextInLine_47
    rw [xfolk h, bo_s, ite_le_f (by omega) hi, if_neg (le10 (by omega)), xpars h, bo_s, xpa h (by omega), bo_s]
    simp only [bit0 (show paN A i < 2 ^ 31 by omega) (show f < 32 by omega), x_k h.2.1 2 205 (by decide) rfl, bo_s, nI_1]
    by_cases c : (paN A i).testBit f = true
    · rw [if_neg (fun z => z c), xai_of (by decide) (by decide) (show i < SX.2.2 205 from (show i < 10 by omega)) (by decide), bo_s, ht i (by omega), ite_eq_f (by omega) (by omega) (fun e => q ⟨c, e⟩)]
    · rw [if_pos c]
  unfold f_X3_nextInLine
  constructor
  · intro m hm q hq
    have key := iter_n (f := fun s : Int32 => f_X3_nextInLine_L3 203 (some v) (nI f) (nI l) s σ) (st := fun i => nI i) (x := (Sum.inl (nI m) : Int32 ⊕ Unit)) m (by omega) (fun i hi => go i (by omega) (hq i hi)) ?_
    · rw [show (0 : Int32) = nI 0 from rfl, key, bo_s]
      rfl
    · have hp := h.vw.pa10 (show m < 10 by omega)
      have hlg := lg_le (A := A) (F := F) m
      unfold f_X3_nextInLine_L3
      rw [xfolk h, bo_s, ite_le_f (by omega) hm, if_neg (le10 (by omega)), xpars h, bo_s, xpa h (by omega), bo_s]
      simp only [bit0 (show paN A m < 2 ^ 31 by omega) (show f < 32 by omega), x_k h.2.1 2 205 (by decide) rfl, bo_s, nI_1]
      rw [if_neg (fun z => z q.1), xai_of (by decide) (by decide) (show m < SX.2.2 205 from (show m < 10 by omega)) (by decide), bo_s, ht m (by omega), ite_eq_t q.2]
  · intro hq
    have key := iter_n (f := fun s : Int32 => f_X3_nextInLine_L3 203 (some v) (nI f) (nI l) s σ) (st := fun i => nI i) (x := (Sum.inr () : Int32 ⊕ Unit)) F (by omega) (fun i hi => go i (by omega) (hq i hi)) ?_
    · rw [show (0 : Int32) = nI 0 from rfl, key, bo_s]
      rfl
    · unfold f_X3_nextInLine_L3
      rw [xfolk h, bo_s, if_pos (nI_le (Nat.le_refl _) (by omega))]
def LnS (σ τ : Dt) (A : Nat → Int32) (F : Nat) : Prop := KX σ τ ∧ τ.1 203 0 = nI (mxL A F F) ∧ ∀ c, c < 10 → τ.1 205 c = nI (lgN A F c)
theorem x_line2 (h : CV σ v A F W) {τ : Dt} (hτ : LnS σ τ A F) {t : Int32} (ht : 0 < F → t = nI (rwN A F 0)) : ∃ τ', iter FU (fun s => f_X3_findLine_L87 203 (some v) s.1 s.2.1 s.2.2) (t, (0 : Int32), τ) = some τ' ∧ LnS σ τ' A F ∧ ∀ j, j < mxL A F F → τ'.1 204 j = nI (rwN A F j) := by
  have hF := h.F10
  have hmx := mxL_le (A := A) (F := F)
  refine iter_w (f := fun s : Int32 × Int32 × Dt => f_X3_findLine_L87 203 (some v) s.1 s.2.1 s.2.2) (P := fun k s => s.2.1 = nI k ∧ (k < mxL A F F → s.1 = nI (rwN A F k)) ∧ LnS σ s.2.2 A F ∧ ∀ j, j < k → s.2.2.1 204 j = nI (rwN A F j)) (Q := fun τ' => LnS σ τ' A F ∧ ∀ j, j < mxL A F F → τ'.1 204 j = nI (rwN A F j)) (mxL A F F) (by omega) ⟨rfl, fun q => ht (by omega), hτ, fun j hj => by omega⟩ (fun k s hk hP => ?_)
  obtain ⟨x2, x3, ρ⟩ := s
  obtain ⟨p1, p2, p3, p4⟩ := hP
  dsimp only at p1 p2 p3 p4 ⊢
  subst p1
  have hC := p3.1.cv h
  unfold f_X3_findLine_L87
  rw [xgi_of (by decide) (by decide), bo_s, p3.2.1]
  rcases (show k = mxL A F F ∨ k < mxL A F F by omega) with e | e
  · subst e
    left
    rw [if_pos (nI_le (Nat.le_refl _) (by omega))]
    exact ⟨_, rfl, p3, p4⟩
  · right
    refine ⟨e, ?_⟩
    have hw := rw_ok h.vw e
    have e2 := p2 e
    subst e2
    have hKX : KX ρ (setX ρ 204 k (nI (rwN A F k))) := KX_set (by decide)
    have hC2 := hKX.cv hC
    have hr5 : ∀ c, c < 10 → (setX ρ 204 k (nI (rwN A F k))).1 205 c = nI (lgN A F c) := fun c hc => by rw [setX_o (by decide)]; exact p3.2.2 c hc
    have hr0 : (setX ρ 204 k (nI (rwN A F k))).1 203 0 = nI (mxL A F F) := by rw [setX_o (by decide)]; exact p3.2.1
    have hr4 : ∀ j, j < k + 1 → (setX ρ 204 k (nI (rwN A F k))).1 204 j = nI (rwN A F j) := by
      intro j hj
      rcases (show j = k ∨ j < k by omega) with q | q
      · rw [q, setX_j]
      · rw [setX_n (by omega)]; exact p4 j q
    have hS : LnS σ (setX ρ 204 k (nI (rwN A F k))) A F := ⟨p3.1.tr hKX, hr0, hr5⟩
    rw [ite_le_f (by omega) e, if_neg (le10 (by omega)), x_k hC.2.1 1 204 (by decide) rfl, bo_s, xsiX (by decide) (by decide) (show k < SX.2.2 204 from (show k < 10 by omega)) (by decide), bo_s, xgi_of (by decide) (by decide), bo_s, hr0, x_rck, bo_s, pk_sub (by omega), show nI (mxL A F F - k) - 1 = nI (mxL A F F - (k + 1)) by rw [show mxL A F F - k = (mxL A F F - (k + 1)) + 1 by omega, nI_pred]]
    have nx := x_next hC2 (f := rwN A F k) (l := mxL A F F - (k + 1)) (by omega) (by omega) hr5
    rcases (show k + 1 < mxL A F F ∨ k + 1 = mxL A F F by omega) with q | q
    · obtain ⟨-, r1, r2, r3, r4⟩ := rw_s h.vw k q
      rw [nx.1 _ r1 ⟨r3, r2⟩ (fun j hj z => r4 j hj ⟨z.2, z.1⟩), bo_s, nI_1]
      exact ⟨_, rfl, rfl, fun _ => rfl, hS, hr4⟩
    · rw [nx.2 (fun j hj z => by have := lg_eq h.vw hj; omega), bo_s, nI_1]
      exact ⟨_, rfl, rfl, fun z => absurd z (by omega), hS, hr4⟩
theorem x_findLine (h : CV σ v A F W) : ∃ τ, f_X3_findLine 203 (some v) σ = some ((), τ) ∧ LnS σ τ A F ∧ ∀ j, j < mxL A F F → τ.1 204 j = nI (rwN A F j) := by
  have e0 : xpi SX 3 0 (some 203) (0 : Int32) σ = some (lnT σ (σ.1 205, 0, -1)) := by
    rw [xpi_of (by decide) (by decide)]
    show some (setX σ 203 0 0) = some (setX (putR σ 205 (σ.1 205)) 203 0 (nI 0))
    rw [putR_self]
    rfl
  obtain ⟨b, q1, q2, q3, q4⟩ := x_line1 h (σ.1 205, 0, -1) rfl
  have hS : LnS σ (lnT σ b) A F := ⟨(KX_put (by decide)).tr (KX_set (by decide)), by rw [lnT_0, q3], fun c hc => by rw [lnT_5]; exact q2 c hc⟩
  obtain ⟨τ, r1, r2, r3⟩ := x_line2 h hS q4
  refine ⟨τ, ?_, r2, r3⟩
  unfold f_X3_findLine
  rw [e0, bo_s, if_neg (by simp), q1, bo_s]
  dsimp only
  rw [r1, bo_s]
theorem mxB_lo (h : VW A F W) {g : Nat → Nat} {f n : Nat} (hn : n ≤ f + 1) (h10 : n ≤ 10) : mxB A g f n = 0 := by
  rcases (mxB_P (A := A) (g := g) (f := f) n).2 with e | ⟨c, hc, q, -⟩
  · exact e
  · have := pa_tb h (show c < 10 by omega) q
    omega
theorem m_lays (h : MV σ o A F W) : ∃ σ', f_X12_laysLines 0 σ = some (nI (mxL A F F), σ') ∧ KM σ σ' ∧ ∀ c, c < F → σ'.1 13 c = nI (lgN A F c) := by
  have hF := h.F10
  unfold f_X12_laysLines
  rw [mfolk h, bo_s]
  have inner : ∀ (m f : Nat) (τ : Dt), f < F → KM σ τ → (∀ d, f < d → d < F → τ.1 13 d = nI (lgN A F d)) → τ.1 13 f = 1 → ∃ τ', iter FU (fun s => f_X12_laysLines_L24 0 (nI m) (nI f) s.1 s.2) (nI f + 1, τ) = some τ' ∧ KM σ τ' ∧ (∀ d, f < d → d < F → τ'.1 13 d = nI (lgN A F d)) ∧ τ'.1 13 f = nI (1 + mxB A (lgN A F) f F) := by
    intro m f τ hf hK hd h1
    refine iter_w (f := fun s : Int32 × Dt => f_X12_laysLines_L24 0 (nI m) (nI f) s.1 s.2) (P := fun c s => s.1 = nI (f + 1 + c) ∧ KM σ s.2 ∧ (∀ d, f < d → d < F → s.2.1 13 d = nI (lgN A F d)) ∧ s.2.1 13 f = nI (1 + mxB A (lgN A F) f (f + 1 + c))) (Q := fun τ' => KM σ τ' ∧ (∀ d, f < d → d < F → τ'.1 13 d = nI (lgN A F d)) ∧ τ'.1 13 f = nI (1 + mxB A (lgN A F) f F)) (F - (f + 1)) (by omega) ⟨nI_1 f, hK, hd, by rw [h1, mxB_lo h.vw (by omega) (by omega)]; rfl⟩ (fun c s hc hP => ?_)
    obtain ⟨x3, ρ⟩ := s
    obtain ⟨p1, p2, p3, p4⟩ := hP
    dsimp only at p1 p2 p3 p4 ⊢
    subst p1
    have hM := p2.mv h
    unfold f_X12_laysLines_L24
    rw [mfolk hM, bo_s]
    rcases (show c = F - (f + 1) ∨ c < F - (f + 1) by omega) with e | e
    · left
      rw [if_pos (nI_le (by omega) (by omega))]
      rw [show f + 1 + c = F by omega] at p4
      exact ⟨_, rfl, p2, p3, p4⟩
    · right
      refine ⟨e, ?_⟩
      have hlt : f + 1 + c < F := by omega
      generalize hdd : f + 1 + c = d at hlt p4 ⊢
      have hp := h.vw.pa10 (show d < 10 by omega)
      have hlg := lg_le (A := A) (F := F) d
      have hb : mxB A (lgN A F) f d ≤ 10 := by
        rcases (mxB_P (A := A) (g := lgN A F) (f := f) d).2 with e | ⟨x, hx, q, e⟩
        · omega
        · have := lg_le (A := A) (F := F) x; omega
      have rd : ∀ i, i < 10 → xai SM (some 13) (nI i) ρ = some (ρ.1 13 i) := fun i hi => xai_of (by decide) (by decide) (show i < SM.2.2 13 from hi) (by decide)
      unfold f_X12_laysLines_73
      rw [ite_le_f (by omega) hlt, mrc, bo_s, mpa hM (by omega), bo_s, mamong (by omega) (by omega), bo_s, ite_b, m_r hM.1 (by decide) (show rM 0 24 = some 13 from rfl)]
      simp only [bo_s]
      rw [rd d (by omega), rd f (by omega)]
      simp only [bo_s]
      by_cases q : (paN A d).testBit f = true
      · have hfd := pa_tb h.vw (show d < 10 by omega) q
        rw [ci_t q, p3 d hfd hlt, p4, nI_1]
        by_cases q2 : lgN A F d ≤ mxB A (lgN A F) f d
        · rw [ite_lt_t (by omega) (by omega)]
          refine ⟨_, rfl, by rw [show f + 1 + (c + 1) = d + 1 by omega], p2, p3, ?_⟩
          rw [show f + 1 + (c + 1) = d + 1 by omega, mxB_s, if_pos q, if_pos q2]
          exact p4
        · rw [ite_lt_f (by omega) (by omega), xsiX (by decide) (by decide) (show f < SM.2.2 13 from (show f < 10 by omega)) (by decide), bo_s]
          refine ⟨_, rfl, by rw [show f + 1 + (c + 1) = d + 1 by omega], p2.tr (KM_set (by decide)), fun d2 h2 h3 => ?_, ?_⟩
          · show (setX ρ 13 f _).1 13 d2 = _
            rw [setX_n (by omega)]
            exact p3 d2 h2 h3
          · show (setX ρ 13 f _).1 13 f = _
            rw [setX_j, show f + 1 + (c + 1) = d + 1 by omega, mxB_s, if_pos q, if_neg q2]
            exact nI_add 1 _
      · rw [ci_f q, nI_1]
        refine ⟨_, rfl, by rw [show f + 1 + (c + 1) = d + 1 by omega], p2, p3, ?_⟩
        rw [show f + 1 + (c + 1) = d + 1 by omega, mxB_s, if_neg q]
        exact p4
  have key := iter_w (f := fun s : Int32 × Int32 × Dt => f_X12_laysLines_L9 0 s.1 s.2.1 s.2.2) (s0 := ((0 : Int32), nI F - 1, σ)) (P := fun i s => ∃ m, s.1 = nI m ∧ s.2.1 = nI (F - i) - 1 ∧ KM σ s.2.2 ∧ (∀ c, F - i ≤ c → c < F → s.2.2.1 13 c = nI (lgN A F c)) ∧ m ≤ 10 ∧ (∀ c, F - i ≤ c → c < F → lgN A F c ≤ m) ∧ (m = 0 ∨ ∃ c, c < F ∧ lgN A F c = m)) (Q := fun x => x.1 = nI (mxL A F F) ∧ KM σ x.2 ∧ ∀ c, c < F → x.2.1 13 c = nI (lgN A F c)) F (by omega) ⟨0, rfl, rfl, KM_0 σ, fun c h1 h2 => by omega, by omega, fun c h1 h2 => by omega, Or.inl rfl⟩ (fun i s hi hP => ?_)
  · obtain ⟨x, e1, e2, e3, e4⟩ := key
    exact ⟨x.2, by rw [e1, bo_s, e2], e3, e4⟩
  · obtain ⟨x1, x2, ρ⟩ := s
    obtain ⟨m, p1, p2, p3, p4, p5, p6, p7⟩ := hP
    dsimp only at p1 p2 p3 p4 ⊢
    subst p1
    subst p2
    unfold f_X12_laysLines_L9 f_X12_laysLines_99
    rcases (show i = F ∨ i < F by omega) with e | e
    · subst e
      left
      rw [if_pos (show nI (i - i) - 1 < 0 by rw [Nat.sub_self]; decide)]
      refine ⟨_, rfl, ?_, p3, fun c hc => p4 c (by omega) hc⟩
      obtain ⟨m1, m2⟩ := mxL_P (A := A) (F := i) i
      show nI m = nI (mxL A i i)
      congr 1
      apply Nat.le_antisymm
      · rcases p7 with q | ⟨c, hc, q⟩
        · omega
        · rw [← q]; exact m1 c hc
      · rcases m2 with q | ⟨c, hc, q⟩
        · omega
        · rw [← q]; exact p6 c (by omega) hc
    · right
      refine ⟨e, ?_⟩
      have hM := p3.mv h
      have hd := nI_dn e
      have hf : F - 1 - i < F := by omega
      have ef : F - i = F - 1 - i + 1 := by omega
      have ei : F - (i + 1) = F - 1 - i := by omega
      rw [hd, ei]
      rw [ef] at p4 p6
      generalize F - 1 - i = f at *
      rw [if_neg (nI_pos (by omega)), m_r hM.1 (by decide) (show rM 0 24 = some 13 from rfl), bo_s, xsiX (by decide) (by decide) (show f < SM.2.2 13 from (show f < 10 by omega)) (by decide), bo_s]
      obtain ⟨τ, r1, r2, r3, r4⟩ := inner m f (setX ρ 13 f 1) hf (p3.tr (KM_set (by decide))) (fun d h1 h2 => by rw [setX_n (by omega)]; exact p4 d (by omega) h2) setX_j
      have hl := lg_eq h.vw hf
      have hl2 := lg_le (A := A) (F := F) f
      rw [← hl] at r4
      have h4 : ∀ c, f ≤ c → c < F → τ.1 13 c = nI (lgN A F c) := by
        intro c h1 h2
        rcases (show c = f ∨ f < c by omega) with q | q
        · rw [q]; exact r4
        · exact r3 c q h2
      rw [r1, bo_s, m_r (r2.ref h.1) (by decide) (show rM 0 24 = some 13 from rfl)]
      simp only [bo_s]
      rw [xai_of (by decide) (by decide) (show f < SM.2.2 13 from (show f < 10 by omega)) (by decide), bo_s, r4]
      have hdn : nI f + (-1) = nI f - 1 := (Int32.sub_eq_add_neg _ _).symm
      by_cases q : lgN A F f ≤ m
      · rw [ite_le_t (by omega) q, hdn]
        refine ⟨_, rfl, m, rfl, rfl, r2, h4, p5, fun c h1 h2 => ?_, p7⟩
        rcases (show c = f ∨ f < c by omega) with z | z
        · rw [z]; exact q
        · exact p6 c (by omega) h2
      · rw [ite_le_f (by omega) (by omega), bo_s, hdn]
        refine ⟨_, rfl, lgN A F f, rfl, rfl, r2, h4, by omega, fun c h1 h2 => ?_, Or.inr ⟨f, hf, rfl⟩⟩
        rcases (show c = f ∨ f < c by omega) with z | z
        · rw [z]; exact Nat.le_refl _
        · have := p6 c (by omega) h2; omega
theorem m_line2 (h : MV σ o A F W) (ht : ∀ c, c < F → σ.1 13 c = nI (lgN A F c)) {k : Nat} (hk : k < mxL A F F) : iter FU (fun s => f_X12_line_L40 0 (nI k) (nI (mxL A F F)) s.1 s.2 σ) ((-1 : Int32), (0 : Int32)) = some (nI (rwN A F k)) := by
  have hF := h.F10
  have hmx := mxL_le (A := A) (F := F)
  have key := iter_n (f := fun s : Int32 × Int32 => f_X12_line_L40 0 (nI k) (nI (mxL A F F)) s.1 s.2 σ) (st := fun i => (if i = 0 then (-1 : Int32) else nI (rwN A F (i - 1)), nI i)) (x := nI (rwN A F k)) (k + 1) (by omega) (fun i hi => ?_) ?_
  · exact key
  · dsimp only
    unfold f_X12_line_L40 f_X12_line_89
    rw [ite_lt_f (by omega) (by omega)]
    have hr := rw_ok h.vw (show i < mxL A F F by omega)
    have rd : ∀ f, f < F → xai SM (some 13) (nI f) σ = some (nI (lgN A F f)) := fun f hf => by rw [xai_of (by decide) (by decide) (show f < SM.2.2 13 from (show f < 10 by omega)) (by decide), ht f hf]
    have hin : iter FU (fun s => f_X12_line_L49 0 (nI k) (nI (mxL A F F)) (if i = 0 then (-1 : Int32) else nI (rwN A F (i - 1))) (nI i) s σ) (0 : Int32) = some (nI (rwN A F i)) := by
      refine iter_n (f := fun s : Int32 => f_X12_line_L49 0 (nI k) (nI (mxL A F F)) (if i = 0 then (-1 : Int32) else nI (rwN A F (i - 1))) (nI i) s σ) (st := fun j => nI j) (x := nI (rwN A F i)) (rwN A F i) (by omega) (fun j hj => ?_) ?_
      · have hlg := lg_le (A := A) (F := F) j
        have hp := h.vw.pa10 (show j < 10 by omega)
        unfold f_X12_line_L49 f_X12_line_83
        rw [m_r h.1 (by decide) (show rM 0 24 = some 13 from rfl), bo_s, rd j (by omega), bo_s, pk_sub (by omega), nI_1]
        by_cases q : lgN A F j = mxL A F F - i
        · rw [ite_eq_t q]
          rcases Nat.eq_zero_or_pos i with e | e
          · subst e
            exact absurd (by omega) ((rw_0 (A := A) (F := F) (by omega)).2.2 j hj)
          · obtain ⟨⟨w1, w2⟩, -, -, -, r4⟩ := rw_s h.vw (i - 1) (by omega)
            rw [show i - 1 + 1 = i by omega] at r4
            rw [if_neg (show ¬ i = 0 by omega), if_neg (nI_m1 (by omega)), mrc, bo_s, mpa h (by omega), bo_s, mamong (by omega) (by omega), bo_s, ite_b, ci_f (fun z => r4 j hj ⟨q, z⟩)]
        · rw [ite_eq_f (by omega) (by omega) q]
      · have hp := h.vw.pa10 (show rwN A F i < 10 by omega)
        unfold f_X12_line_L49
        rw [m_r h.1 (by decide) (show rM 0 24 = some 13 from rfl), bo_s, rd _ hr.1, bo_s, pk_sub (by omega), ite_eq_t hr.2]
        rcases Nat.eq_zero_or_pos i with e | e
        · subst e
          rfl
        · obtain ⟨⟨w1, w2⟩, -, -, r3, -⟩ := rw_s h.vw (i - 1) (by omega)
          rw [show i - 1 + 1 = i by omega] at r3
          rw [if_neg (show ¬ i = 0 by omega), if_neg (nI_m1 (by omega)), mrc, bo_s, mpa h (by omega), bo_s, mamong (by omega) (by omega), bo_s, ite_b, ci_t r3]
    rw [hin, bo_s, nI_1, if_neg (show ¬ i + 1 = 0 by omega), Nat.add_sub_cancel]
  · dsimp only
    unfold f_X12_line_L40
    rw [ite_lt_t (by omega) (by omega), if_neg (show ¬ k + 1 = 0 by omega), Nat.add_sub_cancel]
end LI2
theorem ok_line : LK_line Inv := by
  intro σx σm z1 z2 hI
  unfold f_X11_line f_X12_line f_X11_line_69
  simp only [x_now hI.1, bo_s, x_rc1, mrc]
  rcases ask_V hI z1 with ⟨k, A, F, W, hk, hz, hC, e1, e2, hM, hI2⟩ | ⟨e1, e2⟩
  · have hF := hC.F10
    have hmx := mxL_le (A := A) (F := F)
    obtain ⟨τx, q1, ⟨q2, q3, q4⟩, q5⟩ := x_findLine hC
    obtain ⟨τm, r1, r2, r3⟩ := m_lays hM
    have hRx := q2.ref hI.1
    have hI3 := r2.inv (q2.inv hI2)
    have hI4 := q2.inv hI2
    simp only [e1, bo_s, e2, bd_s, ite_none, ite_10, x_kin hI.1, x_rck, q1, r1, x_kin hRx]
    rw [xgi_of (by decide) (by decide), bo_s, q3]
    by_cases c1 : z2 = -1
    · subst c1
      rw [if_pos rfl, if_pos (by decide), if_pos rfl]
      exact ⟨_, _, _, rfl, rfl, hI3⟩
    · rw [if_neg c1, if_neg c1]
      by_cases c0 : z2 < 0
      · have : ¬ (-1 : Int32) ≤ z2 := by
          intro h
          have h1 := Int32.le_iff_toInt_le.mp h
          have h2 := Int32.lt_iff_toInt_lt.mp c0
          rw [show (-1 : Int32).toInt = -1 by decide] at h1
          rw [show (0 : Int32).toInt = 0 by decide] at h2
          exact c1 (Int32.toInt_inj.mp (by rw [show (-1 : Int32).toInt = -1 by decide]; omega))
        rw [if_pos c0, if_neg this]
        exact ⟨_, _, _, rfl, rfl, hI4⟩
      · obtain ⟨j, hj, rfl⟩ := nI_of c0
        have : (-1 : Int32) ≤ nI j := by
          rw [Int32.le_iff_toInt_le, nI_toInt hj, show (-1 : Int32).toInt = -1 by decide]
          omega
        rw [if_neg c0, if_pos this, bo_s]
        by_cases c2 : mxL A F F ≤ j
        · rw [ite_le_t hj c2, ite_lt_f (by omega) c2]
          exact ⟨_, _, _, rfl, rfl, hI3⟩
        · rw [ite_le_f (by omega) (by omega), ite_lt_t (by omega) (by omega), if_neg (le10 (by omega)), x_k hRx 1 204 (by decide) rfl, bo_s, xai_of (by decide) (by decide) (show j < SX.2.2 204 from (show j < 10 by omega)) (by decide), bo_s, q5 j (by omega), m_line2 (r2.mv hM) r3 (by omega), bo_s]
          exact ⟨_, _, _, rfl, rfl, hI3⟩
  · simp only [e1, bo_s, e2, bd_s]
    exact ⟨-1, _, _, rfl, rfl, hI⟩
