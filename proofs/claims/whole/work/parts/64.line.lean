/-! ===== line ===== -/
def mxB (A : Nat → Int32) (g : Nat → Nat) (f n : Nat) : Nat := fld (fun c b => if (paN A c).testBit f = true then (if g c ≤ b then b else g c) else b) 0 n
theorem mxB_s (A : Nat → Int32) (g : Nat → Nat) (f n : Nat) : mxB A g f (n + 1) = if (paN A n).testBit f = true then (if g n ≤ mxB A g f n then mxB A g f n else g n) else mxB A g f n := rfl
theorem mxB_c {A : Nat → Int32} {g g' : Nat → Nat} {f : Nat} : ∀ n, (∀ c, c < n → (paN A c).testBit f = true → g c = g' c) → mxB A g f n = mxB A g' f n
  | 0, _ => rfl
  | n + 1, h => by
    rw [mxB_s, mxB_s, mxB_c n (fun c hc => h c (by omega))]
    by_cases c : (paN A n).testBit f = true
    · rw [if_pos c, if_pos c, h n (by omega) c]
    · rw [if_neg c, if_neg c]
theorem mxB_P {A : Nat → Int32} {g : Nat → Nat} {f : Nat} : ∀ n, (∀ c, c < n → (paN A c).testBit f = true → g c ≤ mxB A g f n) ∧ (mxB A g f n = 0 ∨ ∃ c, c < n ∧ (paN A c).testBit f = true ∧ g c = mxB A g f n)
  | 0 => ⟨fun c h => by omega, Or.inl rfl⟩
  | n + 1 => by
    obtain ⟨h1, h2⟩ := mxB_P (A := A) (g := g) (f := f) n
    rw [mxB_s]
    by_cases c : (paN A n).testBit f = true
    · rw [if_pos c]
      by_cases c2 : g n ≤ mxB A g f n
      · rw [if_pos c2]
        refine ⟨fun x hx q => ?_, ?_⟩
        · rcases (show x < n ∨ x = n by omega) with z | rfl
          · exact h1 x z q
          · exact c2
        · rcases h2 with e | ⟨x, hx, q, e⟩
          · exact Or.inl e
          · exact Or.inr ⟨x, by omega, q, e⟩
      · rw [if_neg c2]
        refine ⟨fun x hx q => ?_, Or.inr ⟨n, by omega, c, rfl⟩⟩
        rcases (show x < n ∨ x = n by omega) with z | rfl
        · have := h1 x z q; omega
        · exact Nat.le_refl _
    · rw [if_neg c]
      refine ⟨fun x hx q => ?_, ?_⟩
      · rcases (show x < n ∨ x = n by omega) with z | rfl
        · exact h1 x z q
        · exact absurd q c
      · rcases h2 with e | ⟨x, hx, q, e⟩
        · exact Or.inl e
        · exact Or.inr ⟨x, by omega, q, e⟩
/-- how long the longest row from f down is -/
def lgR (A : Nat → Int32) (F : Nat) : Nat → Nat → Nat
  | 0, _ => 0
  | n + 1, f => if f < F then 1 + mxB A (lgR A F n) f F else 0
def lgN (A : Nat → Int32) (F f : Nat) : Nat := lgR A F F f
section LIN
variable {A : Nat → Int32} {F W : Nat}
theorem lgR_le : ∀ n f, lgR A F n f ≤ n
  | 0, f => Nat.le_refl _
  | n + 1, f => by
    rw [lgR]
    by_cases c : f < F
    · rw [if_pos c]
      rcases (mxB_P (A := A) (g := lgR A F n) (f := f) F).2 with e | ⟨x, hx, q, e⟩
      · omega
      · have := lgR_le n x; omega
    · rw [if_neg c]; omega
theorem lgR_st (h : VW A F W) : ∀ n f, F ≤ f + n → lgR A F (n + 1) f = lgR A F n f
  | 0, f, hf => by rw [lgR, lgR, if_neg (by omega)]
  | n + 1, f, hf => by
    rw [lgR, lgR]
    by_cases c : f < F
    · rw [if_pos c, if_pos c, mxB_c F (fun x hx q => lgR_st h n x (by have := pa_tb h (show x < 10 by have := h.2.2.1; omega) q; omega))]
    · rw [if_neg c, if_neg c]
theorem lg_eq (h : VW A F W) {f : Nat} (hf : f < F) : lgN A F f = 1 + mxB A (lgN A F) f F := by
  show lgR A F F f = _
  rw [← lgR_st h F f (by omega), lgR, if_pos hf]
  rfl
theorem lg_0 (h : VW A F W) {f : Nat} (hf : F ≤ f) : lgN A F f = 0 := by
  show lgR A F F f = _
  rw [← lgR_st h F f (by omega), lgR, if_neg (by omega)]
theorem lg_le (f : Nat) : lgN A F f ≤ F := lgR_le F f
def mxL (A : Nat → Int32) (F n : Nat) : Nat := fld (fun f b => if lgN A F f ≤ b then b else lgN A F f) 0 n
theorem mxL_P : ∀ n, (∀ f, f < n → lgN A F f ≤ mxL A F n) ∧ (mxL A F n = 0 ∨ ∃ f, f < n ∧ lgN A F f = mxL A F n)
  | 0 => ⟨fun c h => by omega, Or.inl rfl⟩
  | n + 1 => by
    obtain ⟨h1, h2⟩ := mxL_P n
    have e : mxL A F (n + 1) = if lgN A F n ≤ mxL A F n then mxL A F n else lgN A F n := rfl
    rw [e]
    by_cases c : lgN A F n ≤ mxL A F n
    · rw [if_pos c]
      refine ⟨fun x hx => ?_, ?_⟩
      · rcases (show x < n ∨ x = n by omega) with z | rfl
        · exact h1 x z
        · exact c
      · rcases h2 with e | ⟨x, hx, e⟩
        · exact Or.inl e
        · exact Or.inr ⟨x, by omega, e⟩
    · rw [if_neg c]
      refine ⟨fun x hx => ?_, Or.inr ⟨n, by omega, rfl⟩⟩
      rcases (show x < n ∨ x = n by omega) with z | rfl
      · have := h1 x z; omega
      · exact Nat.le_refl _
theorem mxL_le : mxL A F F ≤ F := by
  rcases (mxL_P (A := A) (F := F) F).2 with e | ⟨f, hf, e⟩
  · omega
  · have := lg_le (A := A) (F := F) f; omega
theorem mxL_pos (h : VW A F W) (hF : 0 < F) : 1 ≤ mxL A F F := by
  have h1 := (mxL_P (A := A) (F := F) F).1 0 hF
  have h2 := lg_eq h hF
  omega
/-- the least of which something holds -/
def leastB (p : Nat → Bool) : Nat → Nat
  | 0 => 0
  | n + 1 => if p 0 = true then 0 else 1 + leastB (fun k => p (k + 1)) n
theorem leastB_P : ∀ (n : Nat) (p : Nat → Bool), (∃ k, k < n ∧ p k = true) → leastB p n < n ∧ p (leastB p n) = true ∧ ∀ j, j < leastB p n → ¬ p j = true
  | 0, p, ⟨k, hk, _⟩ => by omega
  | n + 1, p, ⟨k, hk, q⟩ => by
    rw [leastB]
    by_cases c : p 0 = true
    · rw [if_pos c]
      exact ⟨by omega, c, fun j hj => by omega⟩
    · rw [if_neg c]
      have hk0 : k ≠ 0 := fun e => c (e ▸ q)
      obtain ⟨h1, h2, h3⟩ := leastB_P n (fun k => p (k + 1)) ⟨k - 1, by omega, by rw [show k - 1 + 1 = k by omega]; exact q⟩
      refine ⟨by omega, by rw [Nat.add_comm]; exact h2, fun j hj => ?_⟩
      rcases Nat.eq_zero_or_pos j with rfl | hp
      · exact c
      · have := h3 (j - 1) (by omega)
        rw [show j - 1 + 1 = j by omega] at this
        exact this
def rwN (A : Nat → Int32) (F : Nat) : Nat → Nat
  | 0 => leastB (fun f => decide (lgN A F f = mxL A F F)) F
  | i + 1 => leastB (fun f => decide (lgN A F f = mxL A F F - (i + 1)) && (paN A f).testBit (rwN A F i)) F
theorem rw_0 (hF : 1 ≤ mxL A F F) : rwN A F 0 < F ∧ lgN A F (rwN A F 0) = mxL A F F ∧ ∀ j, j < rwN A F 0 → ¬ lgN A F j = mxL A F F := by
  have hex : ∃ k, k < F ∧ decide (lgN A F k = mxL A F F) = true := by
    rcases (mxL_P (A := A) (F := F) F).2 with e | ⟨f, hf, e⟩
    · omega
    · exact ⟨f, hf, by simpa using e⟩
  obtain ⟨h1, h2, h3⟩ := leastB_P F _ hex
  exact ⟨h1, of_decide_eq_true h2, fun j hj q => h3 j hj (decide_eq_true q)⟩
theorem rw_s (h : VW A F W) : ∀ i, i + 1 < mxL A F F → (rwN A F i < F ∧ lgN A F (rwN A F i) = mxL A F F - i) ∧ (rwN A F (i + 1) < F ∧ lgN A F (rwN A F (i + 1)) = mxL A F F - (i + 1) ∧ (paN A (rwN A F (i + 1))).testBit (rwN A F i) = true ∧ ∀ j, j < rwN A F (i + 1) → ¬ (lgN A F j = mxL A F F - (i + 1) ∧ (paN A j).testBit (rwN A F i) = true)) := by
  have step : ∀ i, i + 1 < mxL A F F → (rwN A F i < F ∧ lgN A F (rwN A F i) = mxL A F F - i) → (rwN A F (i + 1) < F ∧ lgN A F (rwN A F (i + 1)) = mxL A F F - (i + 1) ∧ (paN A (rwN A F (i + 1))).testBit (rwN A F i) = true ∧ ∀ j, j < rwN A F (i + 1) → ¬ (lgN A F j = mxL A F F - (i + 1) ∧ (paN A j).testBit (rwN A F i) = true)) := by
    intro i hi ⟨q1, q2⟩
    have e := lg_eq h q1
    have hex : ∃ k, k < F ∧ (decide (lgN A F k = mxL A F F - (i + 1)) && (paN A k).testBit (rwN A F i)) = true := by
      rcases (mxB_P (A := A) (g := lgN A F) (f := rwN A F i) F).2 with e2 | ⟨x, hx, q, e2⟩
      · omega
      · exact ⟨x, hx, by simp [q]; omega⟩
    obtain ⟨h1, h2, h3⟩ := leastB_P F _ hex
    have h2' : lgN A F (rwN A F (i + 1)) = mxL A F F - (i + 1) ∧ (paN A (rwN A F (i + 1))).testBit (rwN A F i) = true := by
      have := h2
      simp only [Bool.and_eq_true, decide_eq_true_eq] at this
      exact this
    refine ⟨h1, h2'.1, h2'.2, fun j hj q => h3 j hj ?_⟩
    simp only [Bool.and_eq_true, decide_eq_true_eq]
    exact q
  intro i
  induction i with
  | zero =>
    intro hi
    have := rw_0 (A := A) (F := F) (by omega)
    exact ⟨⟨this.1, this.2.1⟩, step 0 hi ⟨this.1, this.2.1⟩⟩
  | succ i ih =>
    intro hi
    have := ih (by omega)
    exact ⟨⟨this.2.1, this.2.2.1⟩, step (i + 1) hi ⟨this.2.1, this.2.2.1⟩⟩
theorem rw_ok (h : VW A F W) {i : Nat} (hi : i < mxL A F F) : rwN A F i < F ∧ lgN A F (rwN A F i) = mxL A F F - i := by
  rcases Nat.eq_zero_or_pos i with rfl | hp
  · have := rw_0 (A := A) (F := F) (by omega)
    exact ⟨this.1, this.2.1⟩
  · have := (rw_s h (i - 1) (by omega)).2
    rw [show i - 1 + 1 = i by omega] at this
    exact ⟨this.1, this.2.1⟩
end LIN
theorem MV_put {σ : Dt} {o F W a : Nat} {A : Nat → Int32} {g : Nat → Int32} (h : MV σ o A F W) (ha : 2 ≤ a) : MV (putR σ a g) o A F W := by
  obtain ⟨q1, q2, q3, q4, q5, q6, q7⟩ := h
  refine ⟨q1, ?_, ?_, ?_, q5, fun i hi => ?_, q7⟩
  · rw [putR_o (by omega)]; exact q2
  · rw [putR_o (by omega)]; exact q3
  · rw [putR_o (by omega)]; exact q4
  · rw [putR_o (by omega)]; exact q6 i hi
theorem Inv_putM {σx σm : Dt} {a : Nat} {g : Nat → Int32} (ha : 3 ≤ a) (h : Inv σx σm) : Inv σx (putR σm a g) := Inv_m (putR_o (by omega)) (putR_o (by omega)) rfl h
theorem Inv_putX {σx σm : Dt} {a : Nat} {g : Nat → Int32} (ha : 155 ≤ a) (h : Inv σx σm) : Inv (putR σx a g) σm := Inv_x (fun b hb => putR_o (by omega)) rfl h
theorem Inv_setX {σx σm : Dt} {a j : Nat} {w : Int32} (ha : 155 ≤ a) (h : Inv σx σm) : Inv (setX σx a j w) σm := Inv_x (fun b hb => setX_o (by omega)) rfl h
section LIX
variable {σ : Dt} {v o F W : Nat} {A : Nat → Int32}
theorem x_k {σ : Dt} (hR : RefX σ) (j r : Nat) (hj : j < 7) (hr : rX 203 j = some r) : xgr SX 3 j (some 203) σ = some (some r) := by
  rw [xgr_of (by decide) (by decide), hR.1 203 j hj (fun q => absurd q.1 (by decide)), hr]
theorem x_below (h : CV σ v A F W) {f : Nat} (hf : f < 10) (ht : ∀ c, f < c → c < 10 → σ.1 205 c = nI (lgN A F c)) : f_X3_longestBelow 203 (some v) (nI f) σ = some (nI (mxB A (lgN A F) f F)) := by
  have hF := h.F10
  unfold f_X3_longestBelow
  have key := iter_n (f := fun q : Int32 × Int32 => f_X3_longestBelow_L5 203 (some v) (nI f) q.1 q.2 σ) (st := fun i => (nI (mxB A (lgN A F) f i), nI i)) (x := nI (mxB A (lgN A F) f F)) F (by omega) (fun i hi => ?_) ?_
  · rw [show ((0 : Int32), (0 : Int32)) = (nI (mxB A (lgN A F) f 0), nI 0) from rfl, key, bo_s]
  · have hp := h.vw.pa10 (show i < 10 by omega)
    have hl := lg_le (A := A) (F := F) i
    have hm : mxB A (lgN A F) f i ≤ 10 := by
      rcases (mxB_P (A := A) (g := lgN A F) (f := f) i).2 with e | ⟨x, hx, q, e⟩
      · omega
      · have := lg_le (A := A) (F := F) x; omega
    dsimp only
    unfold f_X3_longestBelow_L5 f_X3_longestBelow_47
    rw [xfolk h, bo_s, ite_le_f (by omega) hi, if_neg (le10 (by omega)), xpars h, bo_s, xpa h (by omega), bo_s]
    simp only [bit0 (show paN A i < 2 ^ 31 by omega) (show f < 32 by omega), x_k h.2.1 2 205 (by decide) rfl, bo_s, nI_1]
    rw [mxB_s]
    by_cases c : (paN A i).testBit f = true
    · have := pa_tb h.vw (show i < 10 by omega) c
      rw [if_neg (fun q => q c), if_pos c, xai_of (by decide) (by decide) (show i < SX.2.2 205 from (show i < 10 by omega)) (by decide), bo_s, ht i (by omega) (by omega), mmax_nI (by omega) (by omega)]
    · rw [if_pos c, if_neg c]
  · dsimp only
    unfold f_X3_longestBelow_L5
    rw [xfolk h, bo_s, if_pos (nI_le (Nat.le_refl _) (by omega))]
def lnT (σ : Dt) (b : (Nat → Int32) × Nat × Int32) : Dt := setX (putR σ 205 b.1) 203 0 (nI b.2.1)
def lnG (A : Nat → Int32) (F i : Nat) (b : (Nat → Int32) × Nat × Int32) : (Nat → Int32) × Nat × Int32 := (updN b.1 (9 - i) (nI (lgN A F (9 - i))), if 9 - i < F ∧ b.2.1 ≤ lgN A F (9 - i) then (lgN A F (9 - i), nI (9 - i)) else b.2)
theorem lnT_0 {b : (Nat → Int32) × Nat × Int32} : (lnT σ b).1 203 0 = nI b.2.1 := setX_j
theorem lnT_5 {b : (Nat → Int32) × Nat × Int32} {c : Nat} : (lnT σ b).1 205 c = b.1 c := by
  unfold lnT
  rw [setX_o (by decide), putR_a]
def lnP (A : Nat → Int32) (F i : Nat) (b : (Nat → Int32) × Nat × Int32) : Prop := (∀ c, 10 - i ≤ c → c < 10 → b.1 c = nI (lgN A F c)) ∧ b.2.1 ≤ 10 ∧ (∀ f, 10 - i ≤ f → f < F → lgN A F f ≤ b.2.1) ∧ ((b.2.1 = 0 ∧ ∀ f, 10 - i ≤ f → ¬ f < F) ∨ ∃ t, 10 - i ≤ t ∧ t < F ∧ b.2.2 = nI t ∧ lgN A F t = b.2.1 ∧ ∀ f, 10 - i ≤ f → f < t → ¬ lgN A F f = b.2.1)
theorem lnG_P (h : VW A F W) {i : Nat} {b : (Nat → Int32) × Nat × Int32} (hi : i < 10) (hb : lnP A F i b) : lnP A F (i + 1) (lnG A F i b) := by
  have hF := h.2.2.1
  obtain ⟨k1, k2, k3, k4⟩ := hb
  have hl := lg_le (A := A) (F := F) (9 - i)
  unfold lnG
  refine ⟨fun c h1 h2 => ?_, ?_, fun f h1 h2 => ?_, ?_⟩
  · show updN b.1 (9 - i) _ c = _
    unfold updN
    by_cases e : c = 9 - i
    · rw [if_pos e, e]
    · rw [if_neg e]; exact k1 c (by omega) h2
  · by_cases c : 9 - i < F ∧ b.2.1 ≤ lgN A F (9 - i)
    · rw [if_pos c]; show lgN A F (9 - i) ≤ 10; omega
    · rw [if_neg c]; exact k2
  · by_cases c : 9 - i < F ∧ b.2.1 ≤ lgN A F (9 - i)
    · rw [if_pos c]
      show lgN A F f ≤ lgN A F (9 - i)
      rcases (show f = 9 - i ∨ 10 - i ≤ f by omega) with e | e
      · rw [e]; exact Nat.le_refl _
      · have := k3 f e h2; omega
    · rw [if_neg c]
      show lgN A F f ≤ b.2.1
      rcases (show f = 9 - i ∨ 10 - i ≤ f by omega) with e | e
      · subst e
        have : ¬ b.2.1 ≤ lgN A F (9 - i) := fun z => c ⟨h2, z⟩
        omega
      · exact k3 f e h2
  · by_cases c : 9 - i < F ∧ b.2.1 ≤ lgN A F (9 - i)
    · rw [if_pos c]
      exact Or.inr ⟨9 - i, by omega, c.1, rfl, rfl, fun f h1 h2 => by omega⟩
    · rw [if_neg c]
      show (b.2.1 = 0 ∧ _) ∨ _
      rcases k4 with ⟨e, q⟩ | ⟨t, t1, t2, t3, t4, t5⟩
      · refine Or.inl ⟨e, fun f h1 h2 => ?_⟩
        rcases (show f = 9 - i ∨ 10 - i ≤ f by omega) with e2 | e2
        · subst e2
          exact c ⟨h2, by omega⟩
        · exact q f e2 h2
      · refine Or.inr ⟨t, by omega, t2, t3, t4, fun f h1 h2 => ?_⟩
        rcases (show f = 9 - i ∨ 10 - i ≤ f by omega) with e2 | e2
        · subst e2
          intro z
          have z2 : lgN A F (9 - i) = b.2.1 := z
          exact c ⟨by omega, by omega⟩
        · exact t5 f e2 h2
theorem lnG_S (h : CV σ v A F W) {i : Nat} {b : (Nat → Int32) × Nat × Int32} (hi : i < 10) (hb : lnP A F i b) : f_X3_findLine_L15 203 (some v) b.2.2 (nI (10 - i) - 1) (lnT σ b) = some (.inl ((lnG A F i b).2.2, nI (10 - (i + 1)) - 1, lnT σ (lnG A F i b))) := by
  have hF := h.F10
  obtain ⟨k1, k2, k3, k4⟩ := hb
  have hd : nI (10 - i) - 1 = nI (9 - i) := by rw [show 10 - i = (9 - i) + 1 by omega, nI_pred]
  have hd2 : nI (9 - i) + (-1) = nI (10 - (i + 1)) - 1 := by rw [← Int32.sub_eq_add_neg, show 10 - (i + 1) = 9 - i by omega]
  have hl := lg_le (A := A) (F := F) (9 - i)
  have hC : CV (lnT σ b) v A F W := CV_setX (CV_put h (by decide)) (by decide)
  have val : (bo (xrc SX 9 (some v)) fun a4 => bo (f_X9_hasFolk a4 (nI (9 - i)) (lnT σ b)) fun v6 => if v6 = 0 then f_X3_findLine_44 203 (some v) b.2.2 (nI (9 - i)) (some 205) (nI (9 - i)) (0 : Int32) (lnT σ b) else bo (xrc SX 3 (some 203)) fun a9 => bo (f_X3_longestBelow a9 (some v) (nI (9 - i)) (lnT σ b)) fun v11 => f_X3_findLine_44 203 (some v) b.2.2 (nI (9 - i)) (some 205) (nI (9 - i)) ((1 : Int32) + v11) (lnT σ b)) = f_X3_findLine_44 203 (some v) b.2.2 (nI (9 - i)) (some 205) (nI (9 - i)) (nI (lgN A F (9 - i))) (lnT σ b) := by
    rw [crc h.1, bo_s, c_hasFolkB hC, bo_s, ite_b]
    by_cases c : 9 - i < F
    · rw [ci_t ⟨9 - i, c, rfl⟩, x_rck, bo_s, x_below hC (by omega) (fun c h1 h2 => by rw [lnT_5]; exact k1 c (by omega) h2), bo_s, lg_eq h.vw c, show (1 : Int32) + nI (mxB A (lgN A F) (9 - i) F) = nI (1 + mxB A (lgN A F) (9 - i) F) from nI_add 1 _]
    · rw [ci_f (fun q => c ((inR_nI (by omega) (by omega)).mp q)), lg_0 h.vw (by omega)]
      rfl
  have up : xsi SX (some 205) (nI (9 - i)) (nI (lgN A F (9 - i))) (lnT σ b) = some (lnT σ (updN b.1 (9 - i) (nI (lgN A F (9 - i))), b.2)) := by
    rw [xsi_of (by decide) (by decide) (show 9 - i < SX.2.2 205 from (show 9 - i < 10 by omega)) (by decide)]
    exact congrArg some (setX_put (σ := σ) (a := 203) (b := 205) (j := 0) (i := 9 - i) (by decide))
  unfold f_X3_findLine_L15
  rw [hd, if_neg (nI_pos (by omega)), x_k hC.2.1 2 205 (by decide) rfl, bo_s]
  refine val.trans ?_
  unfold f_X3_findLine_44 f_X3_findLine_79
  rw [up, bo_s]
  have hRn : RefX (lnT σ (updN b.1 (9 - i) (nI (lgN A F (9 - i))), b.2)) := h.2.1
  have rd : xai SX (some 205) (nI (9 - i)) (lnT σ (updN b.1 (9 - i) (nI (lgN A F (9 - i))), b.2)) = some (nI (lgN A F (9 - i))) := by
    rw [xai_of (by decide) (by decide) (show 9 - i < SX.2.2 205 from (show 9 - i < 10 by omega)) (by decide), lnT_5]
    exact congrArg some (if_pos rfl)
  rw [x_k hRn 2 205 (by decide) rfl, bo_s, rd, bo_s, hd2]
  unfold lnG
  by_cases c : 9 - i < F
  · have h1 := lg_eq h.vw c
    rw [if_neg (show ¬ nI (lgN A F (9 - i)) ≤ 0 from nI_ge (b := lgN A F (9 - i)) (a := 0) (by omega) (by omega)), bo_s, rd, bo_s, xgi_of (by decide) (by decide), bo_s, lnT_0]
    dsimp only
    by_cases c2 : b.2.1 ≤ lgN A F (9 - i)
    · rw [ite_lt_f (by omega) c2, bo_s, rd, bo_s, xpi_of (by decide) (by decide), bo_s, if_pos ⟨c, c2⟩]
      exact congrArg (fun z => some (Sum.inl (nI (9 - i), nI (10 - (i + 1)) - 1, z))) setX_set
    · rw [ite_lt_t (by omega) (by omega), if_neg (fun q => c2 q.2)]
  · have h1 := lg_0 h.vw (show F ≤ 9 - i by omega)
    rw [h1, if_pos (by decide), if_neg (fun q => c q.1)]
theorem x_line1 (h : CV σ v A F W) (b0 : (Nat → Int32) × Nat × Int32) (hb0 : b0.2 = (0, -1)) : ∃ b, iter FU (fun s => f_X3_findLine_L15 203 (some v) s.1 s.2.1 s.2.2) ((-1 : Int32), (9 : Int32), lnT σ b0) = some (b.2.2, lnT σ b) ∧ (∀ c, c < 10 → b.1 c = nI (lgN A F c)) ∧ b.2.1 = mxL A F F ∧ (0 < F → b.2.2 = nI (rwN A F 0)) := by
  have hF := h.F10
  have key := iter_fld (f := fun q : Int32 × Int32 × Dt => f_X3_findLine_L15 203 (some v) q.1 q.2.1 q.2.2) (st := fun i b => (b.2.2, nI (10 - i) - 1, lnT σ b)) (g := lnG A F) (P := lnP A F) (b0 := b0) (x := fun b => (b.2.2, lnT σ b)) 10 (by decide) ⟨fun c h1 h2 => by omega, by rw [hb0]; decide, fun f h1 h2 => by omega, Or.inl ⟨by rw [hb0], fun f h1 h2 => by omega⟩⟩ (fun i b hi hb => ?_) (fun b hb => ?_)
  · have e0 : ((-1 : Int32), (9 : Int32), lnT σ b0) = (b0.2.2, nI (10 - 0) - 1, lnT σ b0) := by rw [hb0, show nI (10 - 0) - 1 = (9 : Int32) by decide]
    rw [e0, key.1]
    obtain ⟨k1, k2, k3, k4⟩ := key.2
    refine ⟨_, rfl, fun c hc => k1 c (by omega) hc, ?_, fun hp => ?_⟩
    · obtain ⟨m1, m2⟩ := mxL_P (A := A) (F := F) F
      apply Nat.le_antisymm
      · rcases k4 with ⟨e, -⟩ | ⟨t, -, ht, -, e, -⟩
        · omega
        · rw [← e]; exact m1 t ht
      · rcases m2 with e | ⟨t, ht, e⟩
        · omega
        · rw [← e]; exact k3 t (by omega) ht
    · have hmx : (fld (lnG A F) b0 10).2.1 = mxL A F F := by
        obtain ⟨m1, m2⟩ := mxL_P (A := A) (F := F) F
        apply Nat.le_antisymm
        · rcases k4 with ⟨e, -⟩ | ⟨t, -, ht, -, e, -⟩
          · omega
          · rw [← e]; exact m1 t ht
        · rcases m2 with e | ⟨t, ht, e⟩
          · omega
          · rw [← e]; exact k3 t (by omega) ht
      obtain ⟨r1, r2, r3⟩ := rw_0 (A := A) (F := F) (mxL_pos h.vw hp)
      rcases k4 with ⟨-, e⟩ | ⟨t, -, ht, et, e, q⟩
      · exact absurd hp (e 0 (by omega))
      · rw [et]
        have h1 : ¬ t < rwN A F 0 := fun z => r3 t z (by rw [e, hmx])
        have h2 : ¬ rwN A F 0 < t := fun z => q _ (by omega) z (by rw [r2, hmx])
        rw [show t = rwN A F 0 by omega]
  · exact ⟨lnG_S h hi hb, lnG_P h.vw hi hb⟩
  · dsimp only
    unfold f_X3_findLine_L15
    rw [if_pos (show nI (10 - 10) - 1 < 0 by decide)]
end LIX
