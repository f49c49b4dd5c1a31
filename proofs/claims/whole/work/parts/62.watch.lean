/-! ===== the watch; houses ===== -/
theorem fld_pair {α β : Type} (g : Nat → α → α) (h : Nat → β → β) (a : α) (b : β) : ∀ n, fld (fun i (x : α × β) => (g i x.1, h i x.2)) (a, b) n = (fld g a n, fld h b n)
  | 0 => rfl
  | n + 1 => by rw [fld, fld_pair g h a b n, fld, fld]
def smH (A : Nat → Int32) (f : Nat) : Nat := if agN A f < 10 then 2 ^ f else 0
def smN (A : Nat → Int32) (F : Nat) : Nat := fld (fun f x => x ||| smH A f) 0 F
def alH (A : Nat → Int32) (f : Nat) : Nat := if agN A f < 10 then grN A f else 0
def alN (A : Nat → Int32) (F : Nat) : Nat := fld (fun f x => x ||| alH A f) 0 F
def wtH (A : Nat → Int32) (s f : Nat) : Nat := if s.testBit f = true then grN A f else 0
def wtN (A : Nat → Int32) (n s : Nat) : Nat := fld (fun f x => x ||| wtH A s f) 0 n
def wmH (A : Nat → Int32) (s f : Nat) : Nat := if s.testBit f = true ∧ agN A f < 10 then grN A f else 0
def wmN (A : Nat → Int32) (F s : Nat) : Nat := fld (fun f x => x ||| wmH A s f) 0 F
theorem tb_if {p : Prop} {d : Decidable p} {a x : Nat} : (if p then a else 0).testBit x = true ↔ p ∧ a.testBit x = true := by
  by_cases c : p
  · rw [if_pos c]; exact ⟨fun h => ⟨c, h⟩, fun h => h.2⟩
  · rw [if_neg c, Nat.zero_testBit]; exact ⟨fun h => (by cases h), fun h => absurd h.1 c⟩
theorem sm_tb {A : Nat → Int32} {F x : Nat} : (smN A F).testBit x = true ↔ x < F ∧ agN A x < 10 := by
  unfold smN
  rw [fld_or_tb]
  constructor
  · rintro ⟨i, hi, h⟩
    unfold smH at h
    rw [tb_if, tb_pow, decide_eq_true_eq] at h
    obtain ⟨h1, rfl⟩ := h
    exact ⟨hi, h1⟩
  · rintro ⟨h1, h2⟩
    refine ⟨x, h1, ?_⟩
    unfold smH
    rw [tb_if, tb_pow, decide_eq_true_eq]
    exact ⟨h2, rfl⟩
section WAT
variable {A : Nat → Int32} {F W : Nat}
theorem if_lt {p : Prop} {d : Decidable p} {a n : Nat} (h : a < 2 ^ n) : (if p then a else 0) < 2 ^ n := by
  by_cases c : p
  · rw [if_pos c]; exact h
  · rw [if_neg c]; exact Nat.two_pow_pos n
theorem sm_lt (hF : F ≤ 10) : smN A F < 1024 := fld_or_lt (m := 10) F (fun i hi => if_lt (pow_1024 (by omega)))
theorem al_lt (h : VW A F W) : alN A F < 1024 := fld_or_lt (m := 10) F (fun i hi => if_lt (h.gr10 (by have := h.2.2.1; omega)))
theorem wt_lt (h : VW A F W) {n s : Nat} (hn : n ≤ 10) : wtN A n s < 1024 := fld_or_lt (m := 10) n (fun i hi => if_lt (h.gr10 (by omega)))
theorem wm_lt (h : VW A F W) {s : Nat} : wmN A F s < 1024 := fld_or_lt (m := 10) F (fun i hi => if_lt (h.gr10 (by have := h.2.2.1; omega)))
/-- with small ones alone both ways see the same -/
theorem wt_wm (h : VW A F W) {s : Nat} (hs : nsub s (smN A F) = 0) : wtN A 10 s = wmN A F s := by
  have hF := h.2.2.1
  have hsub : ∀ f, s.testBit f = true → f < F ∧ agN A f < 10 := by
    intro f hf
    have := congrArg (fun x => x.testBit f) hs
    simp only [tb_nsub, hf, Nat.zero_testBit, Bool.true_and] at this
    exact sm_tb.mp (by simpa using this)
  apply Nat.eq_of_testBit_eq
  intro x
  apply Bool.eq_iff_iff.mpr
  unfold wtN wmN
  rw [fld_or_tb, fld_or_tb]
  unfold wtH wmH
  constructor
  · rintro ⟨f, h1, h2⟩
    rw [tb_if] at h2
    obtain ⟨q1, q2⟩ := hsub f h2.1
    exact ⟨f, q1, tb_if.mpr ⟨⟨h2.1, q2⟩, h2.2⟩⟩
  · rintro ⟨f, h1, h2⟩
    rw [tb_if] at h2
    exact ⟨f, by omega, tb_if.mpr ⟨h2.1.1, h2.2⟩⟩
theorem al_wm (h : VW A F W) : alN A F = wmN A F (smN A F) := by
  apply Nat.eq_of_testBit_eq
  intro x
  apply Bool.eq_iff_iff.mpr
  unfold alN wmN
  rw [fld_or_tb, fld_or_tb]
  unfold alH wmH
  constructor
  · rintro ⟨f, h1, h2⟩
    rw [tb_if] at h2
    exact ⟨f, h1, tb_if.mpr ⟨⟨sm_tb.mpr ⟨h1, h2.1⟩, h2.1⟩, h2.2⟩⟩
  · rintro ⟨f, h1, h2⟩
    rw [tb_if] at h2
    exact ⟨f, h1, tb_if.mpr ⟨h2.1.2, h2.2⟩⟩
theorem wt_s (n s : Nat) : wtN A (n + 1) s = wtN A n s ||| wtH A s n := rfl
theorem wt_lo {n s t : Nat} (h : ∀ i, i < n → s.testBit i = t.testBit i) : wtN A n s = wtN A n t := by
  unfold wtN
  refine fld_c n (fun i hi b => ?_)
  unfold wtH
  rw [h i hi]
theorem or_pow {f i : Nat} (hi : i < 2 ^ f) : i ||| 2 ^ f = 2 ^ f + i := by
  have := Nat.two_pow_add_eq_or_of_lt hi 1
  rw [Nat.mul_one] at this
  rw [this, Nat.or_comm]
/-- a good watch: small ones alone, who see all -/
def VdN (A : Nat → Int32) (F s : Nat) : Prop := nsub s (smN A F) = 0 ∧ wmN A F s = wmN A F (smN A F)
noncomputable def waX (A : Nat → Int32) (F s : Nat) (b : Nat × Int32) : Nat × Int32 := ci (VdN A F s) (if b.1 ≤ popc s then b else (popc s, nI s)) b
noncomputable def waM (A : Nat → Int32) (F i b : Nat) : Nat := ci (VdN A F (smN A F - i)) (if popc b < popc (smN A F - i) then b else smN A F - i) b
theorem nsub_self (a : Nat) : nsub a a = 0 := by
  unfold nsub
  rw [Nat.and_self, Nat.xor_self]
theorem Vd_sm : VdN A F (smN A F) := ⟨nsub_self _, rfl⟩
theorem Vd_le {s : Nat} (h : VdN A F s) : s ≤ smN A F := by
  apply Nat.le_of_testBit
  intro i hi
  have := congrArg (fun x => x.testBit i) h.1
  simp only [tb_nsub, hi, Nat.zero_testBit, Bool.true_and] at this
  simpa using this
/-- the best watch: of the fewest, the least -/
def BestN (A : Nat → Int32) (F w : Nat) (R : Nat → Prop) : Prop := VdN A F w ∧ ∀ s, R s → VdN A F s → popc w < popc s ∨ (popc w = popc s ∧ w ≤ s)
theorem popc10 {s : Nat} (h : s < 1024) : popc s ≤ 10 := by
  have h1 := popK_le s 10
  have e1 : s.testBit 10 = false := tb_hi (p := 10) h (by decide)
  have e2 : s.testBit 11 = false := tb_hi (p := 10) h (by decide)
  show popK s 10 + (s.testBit 10).toNat + (s.testBit 11).toNat ≤ 10
  rw [e1, e2]
  exact h1
theorem waX_P (hF : F ≤ 10) (b0 : Int32) : ∀ n, (fld (waX A F) (11, b0) n = (11, b0) ∧ ∀ s, s < n → ¬ VdN A F s) ∨ ∃ w, w < n ∧ fld (waX A F) (11, b0) n = (popc w, nI w) ∧ BestN A F w (fun s => s < n)
  | 0 => Or.inl ⟨rfl, fun s h => by omega⟩
  | n + 1 => by
    rcases waX_P hF b0 n with ⟨e, h⟩ | ⟨w, hw, e, h1, h2⟩
    · rw [fld, e]
      unfold waX
      by_cases c : VdN A F n
      · have := popc10 (Nat.lt_of_le_of_lt (Vd_le c) (sm_lt hF))
        rw [ci_t c, if_neg (show ¬ 11 ≤ popc n by omega)]
        refine Or.inr ⟨n, by omega, rfl, c, fun s hs hv => ?_⟩
        rcases (show s < n ∨ s = n by omega) with q | rfl
        · exact absurd hv (h s q)
        · exact Or.inr ⟨rfl, Nat.le_refl _⟩
      · rw [ci_f c]
        refine Or.inl ⟨rfl, fun s hs => ?_⟩
        rcases (show s < n ∨ s = n by omega) with q | rfl
        · exact h s q
        · exact c
    · rw [fld, e]
      unfold waX
      by_cases c : VdN A F n
      · rw [ci_t c]
        by_cases c2 : popc w ≤ popc n
        · rw [if_pos c2]
          refine Or.inr ⟨w, by omega, rfl, h1, fun s hs hv => ?_⟩
          rcases (show s < n ∨ s = n by omega) with q | rfl
          · exact h2 s q hv
          · omega
        · rw [if_neg c2]
          refine Or.inr ⟨n, by omega, rfl, c, fun s hs hv => ?_⟩
          rcases (show s < n ∨ s = n by omega) with q | rfl
          · have := h2 s q hv
            omega
          · exact Or.inr ⟨rfl, Nat.le_refl _⟩
      · rw [ci_f c]
        refine Or.inr ⟨w, by omega, rfl, h1, fun s hs hv => ?_⟩
        rcases (show s < n ∨ s = n by omega) with q | rfl
        · exact h2 s q hv
        · exact absurd hv c
theorem waM_P : ∀ n, n ≤ smN A F + 1 → BestN A F (fld (waM A F) (smN A F) n) (fun s => smN A F < s + n ∧ s ≤ smN A F)
  | 0, _ => ⟨Vd_sm, fun s hs => by omega⟩
  | n + 1, hn => by
    obtain ⟨h1, h2⟩ := waM_P n (by omega)
    rw [fld]
    generalize fld (waM A F) (smN A F) n = b at *
    unfold waM
    by_cases c : VdN A F (smN A F - n)
    · rw [ci_t c]
      by_cases c2 : popc b < popc (smN A F - n)
      · rw [if_pos c2]
        refine ⟨h1, fun s hs hv => ?_⟩
        rcases (show smN A F < s + n ∨ s = smN A F - n by omega) with q | rfl
        · exact h2 s ⟨q, hs.2⟩ hv
        · exact Or.inl c2
      · rw [if_neg c2]
        refine ⟨c, fun s hs hv => ?_⟩
        rcases (show smN A F < s + n ∨ s = smN A F - n by omega) with q | rfl
        · have := h2 s ⟨q, hs.2⟩ hv
          omega
        · exact Or.inr ⟨rfl, Nat.le_refl _⟩
    · rw [ci_f c]
      refine ⟨h1, fun s hs hv => ?_⟩
      rcases (show smN A F < s + n ∨ s = smN A F - n by omega) with q | rfl
      · exact h2 s ⟨q, hs.2⟩ hv
      · exact absurd hv c
noncomputable def bestW (A : Nat → Int32) (F : Nat) : Nat := fld (waM A F) (smN A F) (smN A F + 1)
theorem wa_eq (hF : F ≤ 10) (b0 : Int32) : fld (waX A F) (11, b0) 1024 = (popc (bestW A F), nI (bestW A F)) := by
  have hl := sm_lt (A := A) hF
  obtain ⟨m1, m2⟩ := waM_P (A := A) (F := F) (smN A F + 1) (Nat.le_refl _)
  have hm := Vd_le m1
  rcases waX_P (A := A) (F := F) hF b0 1024 with ⟨-, h⟩ | ⟨w, hw, e, h1, h2⟩
  · exact absurd Vd_sm (h _ hl)
  · have q1 := h2 _ (by show fld (waM A F) (smN A F) (smN A F + 1) < 1024; omega) m1
    have q2 := m2 w ⟨by omega, Vd_le h1⟩ h1
    have e2 : w = bestW A F := by
      unfold bestW
      omega
    rw [e, e2]
theorem best_lt (hF : F ≤ 10) : bestW A F < 1024 := by
  have hl := sm_lt (A := A) hF
  have := Vd_le (waM_P (A := A) (F := F) (smN A F + 1) (Nat.le_refl _)).1
  unfold bestW
  omega
end WAT
-- the class's watch
theorem setX_same {σ : Dt} {a j : Nat} {v : Int32} (h : σ.1 a j = v) : setX σ a j v = σ := by
  unfold setX
  have e : up2 σ.1 a j v = σ.1 := by
    funext x y
    unfold up2
    by_cases q : x = a ∧ y = j
    · rw [if_pos q, q.1, q.2, h]
    · rw [if_neg q]
  rw [e]
theorem setX_comm {σ : Dt} {a j b k : Nat} {v w : Int32} (h : ¬ (a = b ∧ j = k)) : setX (setX σ a j v) b k w = setX (setX σ b k w) a j v := by
  unfold setX
  congr 1
  funext x y
  dsimp only
  unfold up2
  by_cases q1 : x = b ∧ y = k
  · rw [if_pos q1, if_neg (fun q => h ⟨q.1.symm.trans q1.1, q.2.symm.trans q1.2⟩), if_pos q1]
  · rw [if_neg q1]
    by_cases q2 : x = a ∧ y = j
    · rw [if_pos q2, if_pos q2]
    · rw [if_neg q2, if_neg q2, if_neg q1]
theorem CV_setX {σ : Dt} {v a j F W : Nat} {A : Nat → Int32} {w : Int32} (h : CV σ v A F W) (ha : 170 ≤ a) : CV (setX σ a j w) v A F W := by
  obtain ⟨hv, hR, h1, h2, h3⟩ := h
  have hv2 : v ≤ 156 := (show ∀ v ∈ vlist, v ≤ 156 by decide) v hv
  refine ⟨hv, hR, ?_, h2, ?_⟩
  · unfold VR at *
    rw [setX_o (by omega), setX_o (by omega), setX_o (by omega), setX_o (by omega), setX_o (by omega), setX_o (by omega), setX_o (by omega)]
    exact h1
  · unfold HR at *
    rw [setX_o (by omega)]
    exact h3
section WAX
variable {σ : Dt} {v o F W : Nat} {A : Nat → Int32}
theorem x_k4 {σ : Dt} (hR : RefX σ) : xgr SX 3 4 (some 203) σ = some (some 217) := by
  rw [xgr_of (by decide) (by decide), hR.1 203 4 (by decide) (by decide)]
  rfl
theorem x_w7 (h : CV σ v A F W) : iter FU (fun s => f_X3_findWatch_L7 203 (some v) s.1 s.2.1 s.2.2 σ) ((0 : Int32), (0 : Int32), (0 : Int32)) = some (nI (smN A F), nI (alN A F)) := by
  have hF := h.F10
  have key := iter_fld (f := fun q : Int32 × Int32 × Int32 => f_X3_findWatch_L7 203 (some v) q.1 q.2.1 q.2.2 σ) (st := fun i b => (nI b.1, nI b.2, nI i)) (g := fun i b => (b.1 ||| smH A i, b.2 ||| alH A i)) (P := fun i b => True) (b0 := (0, 0)) (x := fun b => (nI b.1, nI b.2)) F (by omega) trivial (fun i b hi hb => ⟨?_, trivial⟩) (fun b hb => ?_)
  · rw [fld_pair (fun i x => x ||| smH A i) (fun i x => x ||| alH A i)] at key
    exact key.1
  · dsimp only
    unfold f_X3_findWatch_L7 f_X3_findWatch_49 smH alH
    rw [xfolk h, bo_s, ite_le_f (by omega) hi, if_neg (le10 (by omega)), crc h.1, bo_s, xchild h hi, bo_s, ite_b, xgrands h, bo_s, xgd h (by omega), bo_s, shl1 (by omega), nI_or, nI_or, nI_1]
    by_cases c : agN A i < 10
    · rw [ci_t c, if_pos c, if_pos c]
    · rw [ci_f c, if_neg c, if_neg c, Nat.or_zero, Nat.or_zero]
  · dsimp only
    unfold f_X3_findWatch_L7
    rw [xfolk h, bo_s, if_pos (nI_le (Nat.le_refl _) (by omega))]
def wtg (A : Nat → Int32) (g : Nat → Int32) (f i : Nat) : Nat → Int32 := fun y => if y < i then nI (wtN A f y) else g y
theorem x_w75 (h : CV σ v A F W) (x2 x3 : Int32) {f : Nat} (hf : f < 10) (g : Nat → Int32) : iter FU (fun s => f_X3_findWatch_L75 203 (some v) x2 x3 (nI f) s.1 s.2) ((0 : Int32), putR σ 217 (wtg A g f (2 ^ f))) = some (putR σ 217 (wtg A g (f + 1) (2 ^ (f + 1)))) := by
  have hp := pow_1024 hf
  have key := iter_n (f := fun q : Int32 × Dt => f_X3_findWatch_L75 203 (some v) x2 x3 (nI f) q.1 q.2) (st := fun i => (nI i, putR σ 217 (wtg A g (f + 1) (2 ^ f + i)))) (x := putR σ 217 (wtg A g (f + 1) (2 ^ (f + 1)))) (2 ^ f) (by omega) (fun i hi => ?_) ?_
  · have e : wtg A g (f + 1) (2 ^ f + 0) = wtg A g f (2 ^ f) := by
      funext y
      unfold wtg
      rw [Nat.add_zero]
      by_cases c : y < 2 ^ f
      · rw [if_pos c, if_pos c, wt_s]
        unfold wtH
        rw [if_neg (show ¬ y.testBit f = true by rw [tb_hi c (Nat.le_refl _)]; decide), Nat.or_zero]
      · rw [if_neg c, if_neg c]
    rw [e] at key
    exact key
  · have hC := CV_put (g := wtg A g (f + 1) (2 ^ f + i)) (a := 217) h (by decide)
    have h2 : 2 ^ f + i < 1024 := by
      have : 2 ^ f + 2 ^ f = 2 ^ (f + 1) := by rw [Nat.pow_succ]; omega
      have : 2 ^ (f + 1) ≤ 2 ^ 10 := Nat.pow_le_pow_right (by decide) (by omega)
      have : (2 : Nat) ^ 10 = 1024 := by decide
      omega
    dsimp only
    unfold f_X3_findWatch_L75
    rw [shl1 (by omega), ite_le_f (by omega) hi]
    simp only [x_k4 hC.2.1, bo_s, xgrands hC, xgd hC hf, nI_or, or_pow hi, nI_1]
    rw [xai_of (by decide) (by decide) (show i < SX.2.2 217 from (show i < 1024 by omega)) (by decide), bo_s, putR_a]
    have e1 : wtg A g (f + 1) (2 ^ f + i) i = nI (wtN A (f + 1) i) := if_pos (by omega)
    rw [e1, nI_or, putR_si (by decide) (by decide) (show 2 ^ f + i < SX.2.2 217 from h2) (by decide), bo_s]
    have e2 : wtN A (f + 1) i ||| grN A f = wtN A (f + 1) (2 ^ f + i) := by
      rw [wt_s, wt_s]
      have a1 : wtH A i f = 0 := if_neg (by rw [tb_hi hi (Nat.le_refl _)]; decide)
      have a2 : wtH A (2 ^ f + i) f = grN A f := if_pos (by rw [← or_pow hi, Nat.testBit_or, tb_pow]; simp)
      have a3 : wtN A f (2 ^ f + i) = wtN A f i := wt_lo (fun j hj => by
        rw [← or_pow hi, Nat.testBit_or, tb_pow]
        have : ¬ f = j := by omega
        simp [this])
      rw [a1, a2, a3, Nat.or_zero]
    rw [e2]
    congr 4
    funext y
    unfold updN wtg
    by_cases c : y = 2 ^ f + i
    · rw [if_pos c, if_pos (by omega), c]
    · rw [if_neg c]
      by_cases c2 : y < 2 ^ f + i
      · rw [if_pos c2, if_pos (by omega)]
      · rw [if_neg c2, if_neg (by omega)]
  · dsimp only
    unfold f_X3_findWatch_L75
    rw [shl1 (by omega), if_pos (nI_le (Nat.le_refl _) (by omega)), show 2 ^ f + 2 ^ f = 2 ^ (f + 1) by rw [Nat.pow_succ]; omega]
theorem x_w65 (h : CV σ v A F W) (x2 x3 : Int32) (g : Nat → Int32) : iter FU (fun s => f_X3_findWatch_L65 203 (some v) x2 x3 s.1 s.2) ((0 : Int32), putR σ 217 (wtg A g 0 (2 ^ 0))) = some (putR σ 217 (wtg A g 10 1024)) := by
  refine iter_n (f := fun q : Int32 × Dt => f_X3_findWatch_L65 203 (some v) x2 x3 q.1 q.2) (st := fun f => (nI f, putR σ 217 (wtg A g f (2 ^ f)))) (x := putR σ 217 (wtg A g 10 1024)) 10 (by omega) (fun f hf => ?_) ?_
  · dsimp only
    unfold f_X3_findWatch_L65
    rw [if_neg (le10 hf), x_w75 h x2 x3 hf g, bo_s, nI_1]
  · dsimp only
    unfold f_X3_findWatch_L65
    rw [if_pos (by decide)]
def waT (σ : Dt) (b : Nat × Int32) : Dt := setX (setX σ 203 6 (nI b.1)) 203 5 b.2
theorem waT_T {σ : Dt} {b c : Nat × Int32} : setX (setX (waT σ b) 203 6 (nI c.1)) 203 5 c.2 = waT σ c := by
  unfold waT
  rw [setX_comm (a := 203) (j := 5) (b := 203) (k := 6) (by decide), setX_set, setX_set]
theorem x_w132 (hR : RefX σ) (hw : VW A F W) (hg : ∀ s, s < 1024 → σ.1 217 s = nI (wtN A 10 s)) : iter FU (fun s => f_X3_findWatch_L132 203 (nI (smN A F)) (nI (alN A F)) s.1 s.2) ((0 : Int32), waT σ (11, σ.1 203 5)) = some (waT σ (fld (waX A F) (11, σ.1 203 5) 1024)) := by
  have hF := hw.2.2.1
  refine (iter_fld (f := fun q : Int32 × Dt => f_X3_findWatch_L132 203 (nI (smN A F)) (nI (alN A F)) q.1 q.2) (st := fun i b => (nI i, waT σ b)) (g := waX A F) (P := fun i b => b.1 ≤ 13) (b0 := (11, σ.1 203 5)) (x := fun b => waT σ b) 1024 (by decide) (show 11 ≤ 13 by decide) (fun i b hi hb => ?_) (fun b hb => ?_)).1
  · have hp := popc_le i
    have hP : (waX A F i b).1 ≤ 13 := by
      unfold waX
      by_cases c : VdN A F i
      · rw [ci_t c]
        by_cases c2 : b.1 ≤ popc i
        · rw [if_pos c2]; exact hb
        · rw [if_neg c2]; show popc i ≤ 13; omega
      · rw [ci_f c]; exact hb
    refine ⟨?_, hP⟩
    have hRb : RefX (waT σ b) := hR
    have e5 : (waT σ b).1 217 i = nI (wtN A 10 i) := by
      unfold waT
      rw [setX_o (by decide), setX_o (by decide), hg i hi]
    have e6 : xgi SX 3 6 (some 203) (waT σ b) = some (nI b.1) := by
      rw [xgi_of (by decide) (by decide)]
      unfold waT
      rw [setX_n (by decide), setX_j]
    have hn : nsub i (smN A F) < 2 ^ 31 := by
      have := nsub_le i (smN A F)
      omega
    have hw1 := wt_lt hw (n := 10) (s := i) (by decide)
    have hw2 := al_lt hw
    dsimp only
    unfold f_X3_findWatch_L132 f_X3_findWatch_171 f_X3_findWatch_172 f_X3_findWatch_200
    rw [if_neg (show ¬ (1024 : Int32) ≤ nI i from nI_ge (b := 1024) hi (by decide)), xbits hi, bo_s, nI_andx, x_k4 hRb, bo_s, xai_of (by decide) (by decide) (show i < SX.2.2 217 from hi) (by decide), bo_s, e5, e6, nI_1]
    simp only [if_true, ite_10, bo_s]
    unfold waX
    by_cases c1 : nsub i (smN A F) = 0
    · rw [if_pos (z_t c1)]
      by_cases c2 : wtN A 10 i = alN A F
      · have hv : VdN A F i := ⟨c1, by rw [← wt_wm hw c1, c2, al_wm hw]⟩
        rw [if_pos (congrArg nI c2), ci_t hv]
        by_cases c3 : b.1 ≤ popc i
        · rw [ite_le_t (by omega) c3, if_pos c3]
        · rw [ite_le_f (by omega) (by omega), if_neg c3, xpi_of (by decide) (by decide), bo_s, xpi_of (by decide) (by decide), bo_s]
          exact congrArg (fun z => some (Sum.inl (nI (i + 1), z))) (waT_T (σ := σ) (b := b) (c := (popc i, nI i)))
      · have hv : ¬ VdN A F i := fun q => c2 (by rw [wt_wm hw c1, q.2, al_wm hw])
        rw [if_neg (fun q => c2 ((nI_eq (by omega) (by omega)).mp q)), ci_f hv]
    · have hv : ¬ VdN A F i := fun q => c1 q.1
      rw [if_neg (z_f hn c1), ci_f hv]
  · dsimp only
    unfold f_X3_findWatch_L132
    rw [if_pos (by decide)]
theorem x_watch (h : CV σ v A F W) : ∃ σ', f_X3_findWatch 203 (some v) σ = some ((), σ') ∧ xgi SX 3 6 (some 203) σ' = some (nI (popc (bestW A F))) ∧ xgi SX 3 5 (some 203) σ' = some (nI (bestW A F)) ∧ (∀ a, a < 155 → σ'.1 a = σ.1 a) ∧ σ'.2.2 = σ.2.2 := by
  have hF := h.F10
  unfold f_X3_findWatch f_X3_findWatch_55
  rw [x_w7 h, bo_s]
  dsimp only
  rw [x_k4 h.2.1, bo_s, show (0 : Int32) = nI 0 from rfl, xsi_of (by decide) (by decide) (show 0 < SX.2.2 217 by decide) (by decide), bo_s]
  have e0 : (up2 σ.1 217 0 (nI 0), σ.2.1, σ.2.2) = putR σ 217 (wtg A (σ.1 217) 0 (2 ^ 0)) := by
    have := putR_up (σ := σ) (a := 217) (i := 0) (g := σ.1 217) (v := nI 0)
    rw [putR_self] at this
    rw [this]
    show putR σ 217 (updN (σ.1 217) 0 (nI 0)) = _
    congr 1
    funext y
    unfold updN wtg
    by_cases c : y = 0
    · rw [if_pos c, if_pos (by rw [c]; decide)]
      rfl
    · rw [if_neg c, if_neg (by rw [Nat.pow_zero]; omega)]
  rw [e0, show nI 0 = (0 : Int32) from rfl, x_w65 h _ _ _, bo_s, xpi_of (by decide) (by decide), bo_s]
  generalize hτ : putR σ 217 (wtg A (σ.1 217) 10 1024) = τ
  have hR : RefX τ := by rw [← hτ]; exact h.2.1
  have hg : ∀ s, s < 1024 → τ.1 217 s = nI (wtN A 10 s) := by
    intro s hs
    rw [← hτ, putR_a]
    exact if_pos hs
  have e1 : (up2 τ.1 203 6 11, τ.2.1, τ.2.2) = waT τ (11, τ.1 203 5) := by
    unfold waT
    rw [setX_same (σ := setX τ 203 6 (nI 11)) (a := 203) (j := 5) (by rw [setX_n (by decide)])]
    rfl
  rw [e1, x_w132 hR h.vw hg, bo_s, wa_eq hF]
  refine ⟨_, rfl, ?_, ?_, fun a ha => ?_, ?_⟩
  · rw [xgi_of (by decide) (by decide)]
    unfold waT
    rw [setX_n (by decide), setX_j]
  · rw [xgi_of (by decide) (by decide)]
    unfold waT
    rw [setX_j]
  · unfold waT
    rw [setX_o (by omega), setX_o (by omega), ← hτ, putR_o (by omega)]
  · show τ.2.2 = σ.2.2
    rw [← hτ]
    rfl
theorem m_watched (h : MV σ o A F W) {s : Nat} (hs : s < 1024) : f_X12_watched 0 (nI s) σ = some (nI (wmN A F s)) := by
  have hF := h.F10
  unfold f_X12_watched
  have key := iter_fld (f := fun q : Int32 × Int32 => f_X12_watched_L4 0 (nI s) q.1 q.2 σ) (st := fun i b => (nI b, nI i)) (g := fun f x => x ||| wmH A s f) (P := fun i b => True) (b0 := 0) (x := fun b => nI b) F (by omega) trivial (fun i b hi _ => ⟨?_, trivial⟩) (fun b hb => ?_)
  · rw [show ((0 : Int32), (0 : Int32)) = (nI 0, nI 0) from rfl, key.1, bo_s]
    rfl
  · dsimp only
    unfold f_X12_watched_L4 f_X12_watched_37 f_X12_watched_38 wmH
    rw [mfolk h, bo_s, ite_le_f (by omega) hi]
    simp only [mrc, bo_s, msmall h (show i < 10 by omega), ite_b, mgd h (show i < 10 by omega), mamong (show s < 2 ^ 31 by omega) (show i < 32 by omega), nI_1, Int32.or_zero, nI_or]
    by_cases c1 : s.testBit i = true
    · rw [ci_t c1]
      by_cases c2 : agN A i < 10
      · rw [ci_t c2, if_pos ⟨c1, c2⟩]
      · rw [ci_f c2, if_neg (fun q => c2 q.2), Nat.or_zero]
    · rw [ci_f c1, if_neg (fun q => c1 q.1), Nat.or_zero]
  · dsimp only
    unfold f_X12_watched_L4
    rw [mfolk h, bo_s, if_pos (nI_le (Nat.le_refl _) (by omega))]
theorem m_watch (h : MV σ o A F W) : f_X12_watchOf 0 σ = some (nI (bestW A F)) := by
  have hF := h.F10
  have hl := sm_lt (A := A) hF
  unfold f_X12_watchOf
  have key := iter_fld (f := fun q : Int32 × Int32 => f_X12_watchOf_L4 0 q.1 q.2 σ) (st := fun i b => (nI b, nI i)) (g := fun f x => x ||| smH A f) (P := fun i b => True) (b0 := 0) (x := fun b => nI b) F (by omega) trivial (fun i b hi _ => ⟨?_, trivial⟩) (fun b hb => ?_)
  · rw [show ((0 : Int32), (0 : Int32)) = (nI 0, nI 0) from rfl, key.1, bo_s]
    have k2 := iter_fld (f := fun q : Int32 × Int32 => f_X12_watchOf_L40 0 (nI (smN A F)) q.1 q.2 σ) (st := fun i b => (nI b, nI (smN A F + 1 - i) - 1)) (g := waM A F) (P := fun i b => b < 1024) (b0 := smN A F) (x := fun b => nI b) (smN A F + 1) (by omega) hl (fun i b hi hb => ?_) (fun b hb => ?_)
    · have e : (nI (smN A F), nI (smN A F)) = (nI (smN A F), nI (smN A F + 1 - 0) - 1) := by rw [Nat.sub_zero, nI_pred]
      show bo (iter FU (fun s => f_X12_watchOf_L40 0 (nI (smN A F)) s.1 s.2 σ) (nI (smN A F), nI (smN A F))) _ = _
      rw [e, k2.1, bo_s]
      rfl
    · have hd : nI (smN A F + 1 - i) - 1 = nI (smN A F - i) := by rw [show smN A F + 1 - i = (smN A F - i) + 1 by omega, nI_pred]
      have hd2 : nI (smN A F - i) + (-1) = nI (smN A F + 1 - (i + 1)) - 1 := by rw [← Int32.sub_eq_add_neg, show smN A F + 1 - (i + 1) = smN A F - i by omega]
      have hp1 := popc_le (smN A F - i)
      have hp2 := popc_le b
      have hw1 := wm_lt h.vw (s := smN A F - i)
      have hw2 := wm_lt h.vw (s := smN A F)
      have hn : nsub (smN A F - i) (smN A F) < 2 ^ 31 := by
        have := nsub_le (smN A F - i) (smN A F)
        omega
      dsimp only
      unfold f_X12_watchOf_L40 f_X12_watchOf_78 waM
      rw [hd, if_neg (nI_pos (by omega)), nI_andx]
      simp only [mrc, bo_s, mbits (show smN A F - i < 2 ^ 31 by omega), mbits (show b < 2 ^ 31 by omega), m_watched h (show smN A F - i < 1024 by omega), m_watched h hl, hd2]
      by_cases c1 : nsub (smN A F - i) (smN A F) = 0
      · rw [if_pos (z_t c1)]
        by_cases c2 : wmN A F (smN A F - i) = wmN A F (smN A F)
        · rw [ci_t (show VdN A F (smN A F - i) from ⟨c1, c2⟩)]
          by_cases c3 : popc b < popc (smN A F - i)
          · rw [ite_lt_t (by omega) c3, if_pos c3]
            exact ⟨rfl, hb⟩
          · rw [ite_lt_f (by omega) (by omega), if_pos (congrArg nI c2), if_neg c3]
            exact ⟨rfl, by omega⟩
        · rw [ci_f (show ¬ VdN A F (smN A F - i) from fun q => c2 q.2), if_neg (fun q => c2 ((nI_eq (by omega) (by omega)).mp q))]
          simp only [ite_self]
          exact ⟨trivial, hb⟩
      · rw [if_neg (z_f hn c1), ci_f (show ¬ VdN A F (smN A F - i) from fun q => c1 q.1)]
        exact ⟨rfl, hb⟩
    · dsimp only
      unfold f_X12_watchOf_L40
      rw [Nat.sub_self, if_pos (by decide)]
  · dsimp only
    unfold f_X12_watchOf_L4 f_X12_watchOf_28 smH
    rw [mfolk h, bo_s, ite_le_f (by omega) hi]
    simp only [mrc, bo_s, msmall h (show i < 10 by omega), ite_b, shl1 (show i < 31 by omega), nI_1, Int32.or_zero, nI_or]
    by_cases c2 : agN A i < 10
    · rw [ci_t c2, if_pos c2]
    · rw [ci_f c2, if_neg c2, Nat.or_zero]
  · dsimp only
    unfold f_X12_watchOf_L4
    rw [mfolk h, bo_s, if_pos (nI_le (Nat.le_refl _) (by omega))]
end WAX
theorem ok_houses : LK_houses Inv := by
  intro σx σm z1 z2 hI
  unfold f_X11_houses f_X12_houses
  simp only [x_now hI.1, bo_s, x_rc1, mrc]
  rcases ask_V hI z1 with ⟨k, A, F, W, hk, hz, hC, e1, e2, hM, hI2⟩ | ⟨e1, e2⟩
  · have hF := hC.F10
    have hbl := best_lt (A := A) hF
    simp only [e1, bo_s, e2, bd_s, ite_none, ite_10, x_kin hI.1, x_rck]
    unfold f_X3_look f_X12_houses_64 f_X12_houses_75 f_X12_houses_79 f_X12_houses_90
    obtain ⟨σ', w1, w2, w3, w4, w5⟩ := x_watch hC
    simp only [ite_none, mrc, bo_s, x_rck, x_many2 hC, x_largest hC, x_roots hC, x_orphans hC, x_cousins hC, (x_burden hC).1, m_houses hM, m_roots hM, m_orphans hM, m_cousins hM, m_burden hM, m_watch hM, mbits (show bestW A F < 2 ^ 31 by omega), w1, w2, w3, bd_s]
    rw [(mh_eq hM.vw F hF).1, lh_eq F]
    by_cases c0 : z2 = 0
    · subst c0
      exact ⟨_, _, _, rfl, rfl, hI2⟩
    by_cases c1 : z2 = 1
    · subst c1
      exact ⟨_, _, _, rfl, rfl, hI2⟩
    by_cases c2 : z2 = 2
    · subst c2
      exact ⟨_, _, _, rfl, rfl, hI2⟩
    by_cases c3 : z2 = 3
    · subst c3
      exact ⟨_, _, _, rfl, rfl, hI2⟩
    by_cases c4 : z2 = 4
    · subst c4
      exact ⟨_, _, _, rfl, rfl, hI2⟩
    by_cases c5 : z2 = 5
    · subst c5
      exact ⟨_, _, _, rfl, rfl, hI2⟩
    simp only [if_neg c0, if_neg c1, if_neg c2, if_neg c3, if_neg c4, if_neg c5]
    by_cases c6 : z2 = 6
    · simp only [if_pos c6]
      rcases (x_burden hC).2 with e | ⟨e, he, e3⟩
      · rw [e, x_binding0 hC, bo_s, if_pos rfl]
        exact ⟨_, _, _, rfl, rfl, hI2⟩
      · rw [e3, x_binding hC he, bo_s, if_neg (nI_m1 (by omega)), m_weighs hM (by omega), bo_s]
        exact ⟨_, _, _, rfl, rfl, hI2⟩
    by_cases c7 : z2 = 7
    · subst c7
      exact ⟨_, _, _, rfl, rfl, Inv_x w4 w5 hI2⟩
    by_cases c8 : z2 = 8
    · subst c8
      exact ⟨_, _, _, rfl, rfl, Inv_x w4 w5 hI2⟩
    simp only [if_neg c6, if_neg c7, if_neg c8]
    exact ⟨_, _, _, rfl, rfl, hI2⟩
  · simp only [e1, bo_s, e2, bd_s]
    exact ⟨-2, _, _, rfl, rfl, hI⟩
