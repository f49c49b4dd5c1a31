/-! ===== odds, power: the class ===== -/
theorem t_div : ∀ a, a ≤ 99 → nI a / (10 : Int32) = nI (a / 10) := by decide +kernel
theorem t_sub : ∀ d, d ≤ 10 → (10 : Int32) - nI d = nI (10 - d) := by decide +kernel
def teN (A : Nat → Int32) (e : Nat) : Nat := 10 - agN A e / 10
theorem teN_le (A : Nat → Int32) (e : Nat) : teN A e ≤ 10 := Nat.sub_le _ _
theorem q_rf {β : Type} {σ : Dt} {k : Option Nat → Option β} {j : Nat} (hR : RefX σ) (h : j = 3 ∨ j = 4 ∨ j = 5) : bo (xgr SX 0 j (some 218) σ) k = k (some (216 + j)) := by
  rcases h with rfl | rfl | rfl
  · exact bo_of (by rw [xgr_of (by decide) (by decide), hR.1 218 3 (by decide) (by decide)]; rfl)
  · exact bo_of (by rw [xgr_of (by decide) (by decide), hR.1 218 4 (by decide) (by decide)]; rfl)
  · exact bo_of (by rw [xgr_of (by decide) (by decide), hR.1 218 5 (by decide) (by decide)]; rfl)
theorem q_sh : 219 < SX.1 ∧ 220 < SX.1 ∧ 221 < SX.1 ∧ SX.2.1 219 = 13 ∧ SX.2.1 220 = 13 ∧ SX.2.1 221 = 13 ∧ SX.2.2 219 = 10 ∧ SX.2.2 220 = 10 ∧ SX.2.2 221 = 10 ∧ 218 < SX.1 ∧ SX.2.1 218 = 0 := by decide
theorem q_ai {β : Type} {a i : Nat} {σ : Dt} {k : Int32 → Option β} (ha : a = 219 ∨ a = 220 ∨ a = 221) (hi : i < 10) : bo (xai SX (some a) (nI i) σ) k = k (σ.1 a i) := by
  obtain ⟨a1, a2, a3, b1, b2, b3, c1, c2, c3, -⟩ := q_sh
  rcases ha with rfl | rfl | rfl
  · exact bo_of (xai_of a1 b1 (by omega) (by omega))
  · exact bo_of (xai_of a2 b2 (by omega) (by omega))
  · exact bo_of (xai_of a3 b3 (by omega) (by omega))
theorem q_si {β : Type} {a i : Nat} {v : Int32} {σ : Dt} {k : Dt → Option β} (ha : a = 219 ∨ a = 220 ∨ a = 221) (hi : i < 10) : bo (xsi SX (some a) (nI i) v σ) k = k (setX σ a i v) := by
  obtain ⟨a1, a2, a3, b1, b2, b3, c1, c2, c3, -⟩ := q_sh
  rcases ha with rfl | rfl | rfl
  · exact bo_of (xsiX a1 b1 (by omega) (by omega))
  · exact bo_of (xsiX a2 b2 (by omega) (by omega))
  · exact bo_of (xsiX a3 b3 (by omega) (by omega))
theorem q_gi {β : Type} {σ : Dt} {k : Int32 → Option β} : bo (xgi SX 0 2 (some 218) σ) k = k (σ.1 218 2) := bo_of (xgi_of q_sh.2.2.2.2.2.2.2.2.2.1 q_sh.2.2.2.2.2.2.2.2.2.2)
theorem q_pi {β : Type} {v : Int32} {σ : Dt} {k : Dt → Option β} : bo (xpi SX 0 2 (some 218) v σ) k = k (setX σ 218 2 v) := bo_of (xpi_of q_sh.2.2.2.2.2.2.2.2.2.1 q_sh.2.2.2.2.2.2.2.2.2.2)
/-- the first i folk looked at -/
def Gat (σ : Dt) (A : Nat → Int32) (E i : Nat) : Prop := σ.1 218 2 = nI (popK E i) ∧ ∀ j, j < popK E i → σ.1 219 j = nI (whE E i j) ∧ σ.1 220 j = nI (stN A (whE E i j)) ∧ σ.1 221 j = nI (teN A (whE E i j))
section ODX
variable {σ : Dt} {v F W : Nat} {A : Nat → Int32}
theorem x_gather (h : CV σ v A F W) {f : Nat} (hf : f < F) : ∃ τ, f_X0_gather 218 (some v) (nI f) σ = some ((), τ) ∧ KX σ τ ∧ Gat τ A (grN A f) F := by
  have hF := h.F10
  have hvw := h.vw
  have key := iter_w (f := fun q : Int32 × Dt => f_X0_gather_L7 218 (some v) (nI f) q.1 q.2) (s0 := ((0 : Int32), setX σ 218 2 0)) (P := fun i q => ∃ τ, q = (nI i, τ) ∧ KX σ τ ∧ Gat τ A (grN A f) i) (Q := fun τ => KX σ τ ∧ Gat τ A (grN A f) F) F (by omega) ⟨_, rfl, KX_set (by decide), setX_j, fun j hj => absurd hj (Nat.not_lt_zero j)⟩ (fun i q hi hP => by
    obtain ⟨τ, rfl, hK, hG1, hG2⟩ := hP
    have hC := hK.cv h
    dsimp only
    unfold f_X0_gather_L7 f_X0_gather_95
    rw [bo_of (xfolk hC)]
    rcases (show i = F ∨ i < F by omega) with e | e
    · left
      subst e
      rw [if_pos (nI_le (Nat.le_refl _) (by omega))]
      exact ⟨_, rfl, hK, hG1, hG2⟩
    · right
      refine ⟨e, ?_⟩
      rw [ite_le_f (by omega) e, if_neg (show ¬ (10 : Int32) ≤ nI i from nI_ge (b := 10) (by omega) (by decide)), bo_of (crc hC.1), bo_of (xgrandp hC e hf), ite_b, nI_1]
      by_cases c : (grN A f).testBit i = true
      · have hm : popK (grN A f) i ≤ i := popK_le _ i
        rw [ci_t c, q_gi, hG1, if_neg (show ¬ (10 : Int32) ≤ nI (popK (grN A f) i) from nI_ge (b := 10) (by omega) (by decide)), q_rf hC.2.1 (Or.inl rfl), q_gi, hG1, q_si (Or.inl rfl) (by omega)]
        obtain ⟨s1, hs1⟩ : ∃ s, s = setX τ 219 (popK (grN A f) i) (nI i) := ⟨_, rfl⟩
        have k1 : KX τ s1 := by rw [hs1]; exact KX_set (by decide)
        have c1 := k1.cv hC
        have g1 : s1.1 218 2 = nI (popK (grN A f) i) := by rw [hs1, setX_o (by decide), hG1]
        rw [← hs1, q_rf c1.2.1 (Or.inr (Or.inl rfl)), q_gi, g1, bo_of (xstrs c1), bo_of (xst c1 (by omega)), q_si (Or.inr (Or.inl rfl)) (by omega)]
        obtain ⟨s2, hs2⟩ : ∃ s, s = setX s1 220 (popK (grN A f) i) (nI (stN A i)) := ⟨_, rfl⟩
        have k2 : KX s1 s2 := by rw [hs2]; exact KX_set (by decide)
        have c2 := k2.cv c1
        have g2 : s2.1 218 2 = nI (popK (grN A f) i) := by rw [hs2, setX_o (by decide), g1]
        rw [← hs2, q_rf c2.2.1 (Or.inr (Or.inr rfl)), q_gi, g2, bo_of (xages c2), bo_of (xag c2 (by omega)), t_div _ (hvw.fk (show i < 10 by omega)).1.2, t_sub _ (by have := (hvw.fk (show i < 10 by omega)).1.2; omega), q_si (Or.inr (Or.inr rfl)) (by omega)]
        obtain ⟨s3, hs3⟩ : ∃ s, s = setX s2 221 (popK (grN A f) i) (nI (teN A i)) := ⟨_, rfl⟩
        have k3 : KX s2 s3 := by rw [hs3]; exact KX_set (by decide)
        have g3 : s3.1 218 2 = nI (popK (grN A f) i) := by rw [hs3, setX_o (by decide), g2]
        rw [show setX s2 (216 + 5) (popK (grN A f) i) (nI (10 - agN A i / 10)) = s3 from hs3.symm, q_gi, g3, nI_1, q_pi]
        refine ⟨_, rfl, _, rfl, (((hK.tr k1).tr k2).tr k3).tr (KX_set (by decide)), ?_, fun j hj => ?_⟩
        · rw [setX_j, popK_t c]
        · rw [popK_t c] at hj
          rw [setX_o (by decide), setX_o (by decide), setX_o (by decide), hs3, whE]
          rcases (show j = popK (grN A f) i ∨ j < popK (grN A f) i by omega) with y | y
          · subst y
            rw [ci_t ⟨c, rfl⟩]
            refine ⟨?_, ?_, ?_⟩
            · rw [setX_o (by decide), hs2, setX_o (by decide), hs1, setX_j]
            · rw [setX_o (by decide), hs2, setX_j]
            · rw [setX_j]
          · obtain ⟨p1, p2, p3⟩ := hG2 j y
            rw [ci_f (fun z => by omega)]
            refine ⟨?_, ?_, ?_⟩
            · rw [setX_o (by decide), hs2, setX_o (by decide), hs1, setX_n (by omega), p1]
            · rw [setX_o (by decide), hs2, setX_n (by omega), hs1, setX_o (by decide), p2]
            · rw [setX_n (by omega), hs2, setX_o (by decide), hs1, setX_o (by decide), p3]
      · rw [ci_f c]
        refine ⟨_, rfl, _, rfl, hK, by rw [popK_n c]; exact hG1, fun j hj => ?_⟩
        rw [popK_n c] at hj
        rw [whE, ci_f (fun z => c z.1)]
        exact hG2 j hj)
  obtain ⟨τ, e1, e2, e3⟩ := key
  refine ⟨τ, ?_, e2, e3⟩
  unfold f_X0_gather
  rw [q_pi, bo_of e1]
theorem x_strOf (hR : RefX σ) (hF : F ≤ 10) {E : Nat} (hG : Gat σ A E F) {s : Nat} (hs : s < 2 ^ 31) : f_X0_strengthOf 218 (nI s) σ = some (nI (sumN (stN A) (exL E F s) F)) := by
  have hm : popK E F ≤ F := popK_le E F
  unfold f_X0_strengthOf
  have key := iter_fld (f := fun q : Int32 × Int32 => f_X0_strengthOf_L4 218 (nI s) q.1 q.2 σ) (st := fun i (b : Nat) => (nI b, nI i)) (g := fun i b => if s.testBit i = true then b + stN A (whE E F i) else b) (P := fun _ _ => True) (b0 := 0) (x := fun b => nI b) (popK E F) (by omega) trivial (fun i b hi _ => ?_) (fun b _ => ?_)
  · rw [bo_of (show iter FU (fun q => f_X0_strengthOf_L4 218 (nI s) q.1 q.2 σ) ((0 : Int32), (0 : Int32)) = _ from key.1)]
    rw [fld_loc (E := E) (fun e c (b : Nat) => if c = true then b + stN A e else b) 0 s F, fld_sum (fun e he => exL_sub he)]
  · dsimp only
    unfold f_X0_strengthOf_L4 f_X0_strengthOf_37
    rw [q_gi, hG.1, ite_le_f (by omega) hi, if_neg (show ¬ (10 : Int32) ≤ nI i from nI_ge (b := 10) (by omega) (by decide)), q_rf hR (Or.inr (Or.inl rfl)), q_ai (Or.inr (Or.inl rfl)) (by omega), (hG.2 i hi).2.1, nI_1]
    simp only [bit0 hs (show i < 32 by omega)]
    by_cases c : s.testBit i = true
    · rw [if_neg (fun z => z c), if_pos c, nI_add]
      exact ⟨rfl, trivial⟩
    · rw [if_pos c, if_neg c, Int32.add_zero]
      exact ⟨rfl, trivial⟩
  · dsimp only
    unfold f_X0_strengthOf_L4
    rw [q_gi, hG.1, if_pos (nI_le (Nat.le_refl _) (by omega))]
theorem x_ways (hR : RefX σ) (hF : F ≤ 10) {E : Nat} (hG : Gat σ A E F) {s : Nat} (hs : s < 2 ^ 31) : f_X0_waysToLive 218 (nI s) σ = some (lN (wyN E (teN A) (exL E F s) F)) := by
  have hm : popK E F ≤ F := popK_le E F
  unfold f_X0_waysToLive
  have key := iter_fld (f := fun q : Int64 × Int32 => f_X0_waysToLive_L5 218 (nI s) q.1 q.2 σ) (st := fun i (b : Nat) => (lN b, nI i)) (g := fun i b => b * (if s.testBit i = true then teN A (whE E F i) else 10 - teN A (whE E F i))) (P := fun _ _ => True) (b0 := 1) (x := fun b => lN b) (popK E F) (by omega) trivial (fun i b hi _ => ?_) (fun b _ => ?_)
  · rw [bo_of (show iter FU (fun q => f_X0_waysToLive_L5 218 (nI s) q.1 q.2 σ) ((1 : Int64), (0 : Int32)) = _ from key.1)]
    rw [fld_loc (E := E) (fun e c (b : Nat) => b * (if c = true then teN A e else 10 - teN A e)) 1 s F]
    rfl
  · dsimp only
    have ht := teN_le A (whE E F i)
    unfold f_X0_waysToLive_L5 f_X0_waysToLive_53
    rw [q_gi, hG.1, ite_le_f (by omega) hi, if_neg (show ¬ (10 : Int32) ≤ nI i from nI_ge (b := 10) (by omega) (by decide)), q_rf hR (Or.inr (Or.inr rfl)), q_ai (Or.inr (Or.inr rfl)) (by omega), (hG.2 i hi).2.2, t_sub _ ht, nI_l (by omega), q_rf hR (Or.inr (Or.inr rfl)), q_ai (Or.inr (Or.inr rfl)) (by omega), (hG.2 i hi).2.2, nI_l (by omega), lN_mul, lN_mul, nI_1]
    simp only [bit0 hs (show i < 32 by omega)]
    by_cases c : s.testBit i = true
    · rw [if_neg (fun z => z c), if_pos c]
      exact ⟨rfl, trivial⟩
    · rw [if_pos c, if_neg c]
      exact ⟨rfl, trivial⟩
  · dsimp only
    unfold f_X0_waysToLive_L5
    rw [q_gi, hG.1, if_pos (nI_le (Nat.le_refl _) (by omega))]
/-- are these enough for the work -/
def enP (A : Nat → Int32) (F w : Nat) (n : Int32) (t : Nat) : Prop := ¬ n * nI (sumN (stN A) t F) < nI (szN A w)
noncomputable def upO (A : Nat → Int32) (F w : Nat) (n : Int32) (E : Nat) : Nat := sT (fun t => ci (nsub t E = 0) (ci (enP A F w n t) (wyN E (teN A) t F) 0) 0) (2 ^ F)
theorem pw_le {m : Nat} (h : m ≤ 10) : 2 ^ m ≤ 1024 := (show 2 ^ m ≤ 2 ^ 10 from Nat.pow_le_pow_right (by decide) h)
theorem upO_le (A : Nat → Int32) (F w : Nat) (n : Int32) (E : Nat) : upO A F w n E ≤ 10 ^ popK E F := by
  rw [← wy_all (T := teN A) (teN_le A) F]
  refine sT_le _ (fun t _ => ?_)
  by_cases d : nsub t E = 0
  · rw [ci_t d, ci_t d]
    by_cases c : enP A F w n t
    · rw [ci_t c]; omega
    · rw [ci_f c]; omega
  · rw [ci_f d]; omega
theorem x_lives (h : CV σ v A F W) {f w : Nat} {n : Int32} (hf : f < F) (hw : w < W) : ∃ τ, f_X0_thatTheyLive 218 (some v) (nI f) (nI w) n σ = some ((), setL (setL τ 218 0 (lN (upO A F w n (grN A f) / Nat.gcd (upO A F w n (grN A f)) (10 ^ popK (grN A f) F)))) 218 1 (lN (10 ^ popK (grN A f) F / Nat.gcd (upO A F w n (grN A f)) (10 ^ popK (grN A f) F)))) ∧ KX σ τ := by
  have hF := h.F10
  have hW := h.W6
  obtain ⟨τ, g1, g2, g3⟩ := x_gather h hf
  have hC := g2.cv h
  have hm : popK (grN A f) F ≤ F := popK_le _ F
  have hp : 2 ^ popK (grN A f) F ≤ 1024 := pw_le (by omega)
  refine ⟨τ, ?_, g2⟩
  unfold f_X0_thatTheyLive
  rw [if_neg (by simp), bo_of (crc h.1), bo_of (c_hasWorkB h _), ite_b, ci_in_t hw, bo_of x_rcc, bd_of g1]
  have key := iter_fld (f := fun q : Int64 × Int64 × Int32 => f_X0_thatTheyLive_L28 218 (some v) (nI w) n q.1 q.2.1 q.2.2 τ) (st := fun i (b : Nat × Nat) => (lN b.1, lN b.2, nI i)) (g := fun s b => (b.1 + ci (enP A F w n (exL (grN A f) F s)) (wyN (grN A f) (teN A) (exL (grN A f) F s) F) 0, b.2 + wyN (grN A f) (teN A) (exL (grN A f) F s) F)) (P := fun _ _ => True) (b0 := (0, 0)) (x := fun b => (lN b.1, lN b.2)) (2 ^ popK (grN A f) F) (by omega) trivial (fun s b hs _ => ?_) (fun b _ => ?_)
  · rw [bo_of (show iter FU (fun q => f_X0_thatTheyLive_L28 218 (some v) (nI w) n q.1 q.2.1 q.2.2 τ) ((0 : Int64), (0 : Int64), (0 : Int32)) = _ from key.1)]
    rw [fld_pair (fun s (b : Nat) => b + ci (enP A F w n (exL (grN A f) F s)) (wyN (grN A f) (teN A) (exL (grN A f) F s) F) 0) (fun s (b : Nat) => b + wyN (grN A f) (teN A) (exL (grN A f) F s) F), sT_fld, sT_fld, Nat.zero_add, Nat.zero_add]
    have e1 : sT (fun s => ci (enP A F w n (exL (grN A f) F s)) (wyN (grN A f) (teN A) (exL (grN A f) F s) F) 0) (2 ^ popK (grN A f) F) = upO A F w n (grN A f) := sT_loc (grN A f) F (fun t => ci (enP A F w n t) (wyN (grN A f) (teN A) t F) 0)
    have e2 : sT (fun s => wyN (grN A f) (teN A) (exL (grN A f) F s) F) (2 ^ popK (grN A f) F) = 10 ^ popK (grN A f) F := (sT_loc (grN A f) F (fun t => wyN (grN A f) (teN A) t F)).trans (wy_all (teN_le A) F)
    rw [e1, e2, bo_of x_rcc]
    have hle := upO_le A F w n (grN A f)
    have h10 : 10 ^ popK (grN A f) F ≤ 10 ^ 10 := Nat.pow_le_pow_right (by decide) (by omega)
    have hpos : 0 < 10 ^ popK (grN A f) F := Nat.pow_pos (by decide)
    rw [bd_of (x_reduce (by omega) hpos (by omega))]
  · dsimp only
    unfold f_X0_thatTheyLive_L28 f_X0_thatTheyLive_79
    rw [q_gi, g3.1, shl1 (by omega), ite_le_f (by omega) hs, bo_of x_rcc, bo_of (x_ways hC.2.1 hF g3 (by omega)), bo_of x_rcc, bo_of (x_strOf hC.2.1 hF g3 (by omega)), bo_of (xsizes hC), bo_of (xsiz hC (by omega)), lN_add, lN_add, nI_1]
    by_cases c : n * nI (sumN (stN A) (exL (grN A f) F s) F) < nI (szN A w)
    · rw [if_pos c, ci_f (show ¬ enP A F w n (exL (grN A f) F s) from fun z => z c), Nat.add_zero]
      exact ⟨rfl, trivial⟩
    · rw [if_neg c, ci_t (show enP A F w n (exL (grN A f) F s) from c)]
      exact ⟨rfl, trivial⟩
  · dsimp only
    unfold f_X0_thatTheyLive_L28
    rw [q_gi, g3.1, shl1 (by omega), if_pos (nI_le (Nat.le_refl _) (by omega))]
end ODX
