/-! ===== kinship, wedding ===== -/
theorem setL_ne {σ : Dt} {a j b k : Nat} {v : Int64} (h : ¬ (b = a ∧ k = j)) : (setL σ a j v).2.1 b k = σ.2.1 b k := if_neg h
theorem k_sh : ∀ d, d < 10 → 207 + d < SX.1 ∧ SX.2.1 (207 + d) = 14 ∧ SX.2.2 (207 + d) = 10 := by decide
theorem k_rf : ∀ d, d < 10 → d < (rXT.getD 206 []).length ∧ rX 206 d = some (207 + d) := by decide
theorem xkn {β : Type} {σ : Dt} {k : Option Nat → Option β} (hR : RefX σ) : bo (xgr SX 3 3 (some 203) σ) k = k (some 206) := bo_of (x_k hR 3 206 (by decide) rfl)
theorem xkr {β : Type} {σ : Dt} {f : Nat} {k : Option Nat → Option β} (hR : RefX σ) (hf : f < 10) : bo (xar SX 20 (some 206) (nI f) σ) k = k (some (207 + f)) := bo_of (by rw [xar_of (by decide) (by decide) (show f < SX.2.2 206 from hf) (by decide), hR.1 206 f (k_rf f hf).1 (fun q => absurd q.1 (by decide)), (k_rf f hf).2])
theorem xkl {β : Type} {σ : Dt} {f g : Nat} {k : Int64 → Option β} (hf : f < 10) (hg : g < 10) : bo (xal SX (some (207 + f)) (nI g) σ) k = k (σ.2.1 (207 + f) g) := bo_of (xal_of (k_sh f hf).1 (k_sh f hf).2.1 (by rw [(k_sh f hf).2.2]; exact hg) (by rw [(k_sh f hf).2.2]; decide))
theorem xks {β : Type} {σ : Dt} {f g : Nat} {v : Int64} {k : Dt → Option β} (hf : f < 10) (hg : g < 10) : bo (xsl SX (some (207 + f)) (nI g) v σ) k = k (setL σ (207 + f) g v) := bo_of (xsl_of (k_sh f hf).1 (k_sh f hf).2.1 (by rw [(k_sh f hf).2.2]; exact hg) (by rw [(k_sh f hf).2.2]; decide))
theorem mkn {β : Type} {σ : Dt} {k : Option Nat → Option β} (hR : RefM σ) : bo (xgr SM 12 23 (some 0) σ) k = k (some 12) := bo_of (m_r hR (by decide) rfl)
theorem mkl {β : Type} {σ : Dt} {i : Nat} {k : Int64 → Option β} (hi : i < 100) : bo (xal SM (some 12) (nI i) σ) k = k (σ.2.1 12 i) := bo_of (xal_of (by decide) (by decide) (show i < SM.2.2 12 from hi) (by decide))
theorem mks {β : Type} {σ : Dt} {i : Nat} {v : Int64} {k : Dt → Option β} (hi : i < 100) : bo (xsl SM (some 12) (nI i) v σ) k = k (setL σ 12 i v) := bo_of (xsl_of (by decide) (by decide) (show i < SM.2.2 12 from hi) (by decide))
def fc : Nat → Nat
  | 0 => 1
  | n + 1 => fc n * (n + 1)
theorem fc_le : ∀ f, f ≤ 10 → fc f ≤ 3628800 := by decide
theorem fc_le9 : ∀ f, f ≤ 9 → fc f ≤ 362880 := by decide
theorem fc_1 : ∀ f, 1 ≤ fc f
  | 0 => Nat.le_refl _
  | n + 1 => Nat.mul_pos (fc_1 n) (Nat.succ_pos n)
theorem fc_s (f : Nat) : fc f ≤ fc (f + 1) := Nat.le_mul_of_pos_right _ (Nat.succ_pos f)
/-- how near a and b are, on both sides, in parts of 2^20 -/
def En (σx σm : Dt) (B a b : Nat) : Prop := ∃ u, (σx.2.1 (207 + a) b = lN (u * 1048576) ∧ σx.2.1 (207 + b) a = lN (u * 1048576)) ∧ (σm.2.1 12 (10 * a + b) = lN (u * 1024) ∧ σm.2.1 12 (10 * b + a) = lN (u * 1024)) ∧ (∃ c, u = c * 2 ^ (19 - a - b)) ∧ u ≤ 1048576 * B
theorem En.sy {σx σm : Dt} {B a b : Nat} (h : En σx σm B a b) : En σx σm B b a := by
  obtain ⟨u, ⟨h1, h2⟩, ⟨h3, h4⟩, ⟨c, h5⟩, h6⟩ := h
  exact ⟨u, ⟨h2, h1⟩, ⟨h4, h3⟩, ⟨c, by rw [h5, show 19 - b - a = 19 - a - b by omega]⟩, h6⟩
theorem En.le {σx σm : Dt} {B B' a b : Nat} (h : En σx σm B a b) (hB : B ≤ B') : En σx σm B' a b := by
  obtain ⟨u, h1, h2, h3, h4⟩ := h
  exact ⟨u, h1, h2, h3, Nat.le_trans h4 (Nat.mul_le_mul_left _ hB)⟩
theorem En.cg {σx σm τx τm : Dt} {B a b : Nat} (h : En σx σm B a b) (h1 : τx.2.1 (207 + a) b = σx.2.1 (207 + a) b) (h2 : τx.2.1 (207 + b) a = σx.2.1 (207 + b) a) (h3 : τm.2.1 12 (10 * a + b) = σm.2.1 12 (10 * a + b)) (h4 : τm.2.1 12 (10 * b + a) = σm.2.1 12 (10 * b + a)) : En τx τm B a b := by
  obtain ⟨u, q1, q2, q3⟩ := h
  refine ⟨u, ?_, ?_, q3⟩
  · rw [h1, h2]; exact q1
  · rw [h3, h4]; exact q2
theorem sumN_s (f : Nat → Nat) (s n : Nat) : sumN f s (n + 1) = sumN f s n + (if s.testBit n = true then f n else 0) := rfl
theorem sumN_hi {f : Nat → Nat} {s m : Nat} (h : s < 2 ^ m) : ∀ d, sumN f s (m + d) = sumN f s m
  | 0 => rfl
  | d + 1 => by rw [← Nat.add_assoc, sumN_s, if_neg (by rw [tb_hi h (by omega)]; simp), sumN_hi h d, Nat.add_zero]
theorem sumN_dv {f : Nat → Nat} {s k : Nat} : ∀ n, (∀ w, w < n → ∃ c, f w = c * k) → ∃ c, sumN f s n = c * k
  | 0, _ => ⟨0, by rw [Nat.zero_mul]; rfl⟩
  | n + 1, h => by
    obtain ⟨c, hc⟩ := sumN_dv (s := s) n (fun w hw => h w (by omega))
    obtain ⟨d, hd⟩ := h n (by omega)
    rw [sumN_s]
    by_cases q : s.testBit n = true
    · exact ⟨c + d, by rw [if_pos q, hc, hd, Nat.add_mul]⟩
    · exact ⟨c, by rw [if_neg q, hc, Nat.add_zero]⟩
theorem sumN_le2 {f : Nat → Nat} {s M : Nat} : ∀ n, (∀ w, w < n → f w ≤ M) → sumN f s n ≤ n * M
  | 0, _ => by rw [Nat.zero_mul]; exact Nat.le_refl _
  | n + 1, h => by
    have h1 := sumN_le2 (s := s) n (fun w hw => h w (by omega))
    have h2 := h n (by omega)
    rw [sumN_s, Nat.add_mul, Nat.one_mul]
    by_cases q : s.testBit n = true
    · rw [if_pos q]; omega
    · rw [if_neg q]; omega
def nthB (s : Nat) : Nat → Nat → Nat
  | 0, _ => 0
  | n + 1, k => if s.testBit n = true then (if popK s n = k then n else nthB s n k) else nthB s n k
theorem cpl0 : ∀ s, s < 512 → iter FU (fun x => f_X3_nearOfCouple_L2 203 (nI s) x σX0) (0 : Int32) = some (if popc s = 2 then Sum.inl (nI (nthB s 12 1), nI (nthB s 12 0)) else Sum.inr ()) := by decide +kernel
theorem cpl1 : ∀ s, s < 512 → popc s = 2 → f_X12_nth (nI s) 0 σX0 = some (nI (nthB s 12 0)) ∧ f_X12_nth (nI s) 1 σX0 = some (nI (nthB s 12 1)) ∧ nthB s 12 0 < nthB s 12 1 ∧ s.testBit (nthB s 12 0) = true ∧ s.testBit (nthB s 12 1) = true := by decide +kernel
section KIN
variable {σx σm : Dt} {v o F W : Nat} {A : Nat → Int32}
/-- all couples below f are laid -/
def Kp (σx σm : Dt) (f : Nat) : Prop := ∀ a b, a < f → b < f → En σx σm (fc f) a b
def Kr (σx σm : Dt) (f g : Nat) : Prop := Kp σx σm f ∧ ∀ b, b < g → En σx σm (fc (f + 1)) f b
theorem k_sum (hx : RefX σx) (hM : MV σm o A F W) {f g : Nat} (hf : f < F) (hg : g < f) (hK : Kp σx σm f) : ∃ u, f_X3_nearByParents 203 (nI (paN A f)) (nI g) σx = some (lN (u * 1048576)) ∧ iter FU (fun s => f_X12_laysKin_L22 0 (nI f) (nI g) s.1 s.2 σm) ((0 : Int64), (0 : Int32)) = some (lN (u * 1024 * 2)) ∧ (∃ c, u = c * 2 ^ (19 - f - g)) ∧ u ≤ 1048576 * fc (f + 1) := by
  have hF := hM.F10
  have hp := hM.vw.pa10 (show f < 10 by omega)
  have hp2 := (hM.vw.fk (show f < 10 by omega)).2.2.1.2
  have hch : ∀ p, ∃ u, p < f → (σx.2.1 (207 + p) g = lN (u * 1048576) ∧ σm.2.1 12 (10 * p + g) = lN (u * 1024) ∧ (∃ c, u = c * 2 ^ (20 - f - g)) ∧ u ≤ 1048576 * fc f) := by
    intro p
    by_cases c : p < f
    · obtain ⟨u, ⟨q1, -⟩, ⟨q2, -⟩, ⟨d, q3⟩, q4⟩ := hK p g c hg
      refine ⟨u, fun _ => ⟨q1, q2, ⟨d * 2 ^ (f - 1 - p), ?_⟩, q4⟩⟩
      rw [q3, Nat.mul_assoc, ← Nat.pow_add, show f - 1 - p + (20 - f - g) = 19 - p - g by omega]
    · exact ⟨0, fun z => absurd z c⟩
  obtain ⟨U, hU⟩ := Classical.axiomOfChoice hch
  have hdv : ∃ c, sumN U (paN A f) f = c * 2 ^ (20 - f - g) := sumN_dv f (fun w hw => (hU w hw).2.2.1)
  obtain ⟨c, hc⟩ := hdv
  have hle : sumN U (paN A f) f ≤ f * (1048576 * fc f) := sumN_le2 f (fun w hw => (hU w hw).2.2.2)
  have hfc := fc_le9 f (by omega)
  have hfc1 := fc_1 f
  have e20 : 2 ^ (20 - f - g) = 2 ^ (19 - f - g) * 2 := by rw [show 20 - f - g = (19 - f - g) + 1 by omega, Nat.pow_succ]
  have hs2 : sumN U (paN A f) f = c * 2 ^ (19 - f - g) * 2 := by rw [hc, e20, Nat.mul_assoc]
  have hb1 : f * (1048576 * fc f) ≤ 9 * (1048576 * 362880) := Nat.mul_le_mul (by omega) (Nat.mul_le_mul_left _ hfc)
  have key1 : iter FU (fun s => f_X3_nearByParents_L5 203 (nI (paN A f)) (nI g) s.1 s.2 σx) ((0 : Int64), (0 : Int32)) = some (lN (sumN U (paN A f) 10 * 1048576)) := by
    have key := iter_n (f := fun s : Int64 × Int32 => f_X3_nearByParents_L5 203 (nI (paN A f)) (nI g) s.1 s.2 σx) (st := fun i => (lN (sumN U (paN A f) i * 1048576), nI i)) (x := lN (sumN U (paN A f) 10 * 1048576)) 10 (by decide) (fun i hi => ?_) ?_
    · have z0 : lN (sumN U (paN A f) 0 * 1048576) = 0 := by
        rw [show sumN U (paN A f) 0 = 0 from rfl, Nat.zero_mul]
        rfl
      rw [z0] at key
      exact key
    · dsimp only
      unfold f_X3_nearByParents_L5 f_X3_nearByParents_43
      rw [if_neg (le10 hi), if_neg (nI_pos (by omega)), if_neg (le10 (by omega)), xkn hx, xkr hx hi, xkl hi (by omega), nI_1, sumN_s]
      simp only [bit0 (show paN A f < 2 ^ 31 by omega) (show i < 32 by omega)]
      by_cases q : (paN A f).testBit i = true
      · have := tb_lt hp2 q
        rw [if_neg (fun z => z q), if_pos q, (hU i this).1, lN_add, Nat.add_mul]
      · rw [if_pos q, if_neg q]
        rfl
    · dsimp only
      unfold f_X3_nearByParents_L5
      rw [if_pos (by decide)]
  have key2 : iter FU (fun s => f_X12_laysKin_L22 0 (nI f) (nI g) s.1 s.2 σm) ((0 : Int64), (0 : Int32)) = some (lN (sumN U (paN A f) f * 1024)) := by
    have key := iter_n (f := fun s : Int64 × Int32 => f_X12_laysKin_L22 0 (nI f) (nI g) s.1 s.2 σm) (st := fun i => (lN (sumN U (paN A f) i * 1024), nI i)) (x := lN (sumN U (paN A f) f * 1024)) f (by omega) (fun i hi => ?_) ?_
    · have z0 : lN (sumN U (paN A f) 0 * 1024) = 0 := by
        rw [show sumN U (paN A f) 0 = 0 from rfl, Nat.zero_mul]
        rfl
      rw [z0] at key
      exact key
    · dsimp only
      unfold f_X12_laysKin_L22 f_X12_laysKin_58
      rw [ite_le_f (by omega) hi, bo_of mrc, bo_of (mpa hM (by omega)), bo_of (mamong (by omega) (by omega) _), ite_b, mkn hM.1, show (10 : Int32) * nI i + nI g = nI (10 * i + g) by (show nI 10 * nI i + nI g = _; rw [pk_mul, nI_add]), mkl (by omega), nI_1, sumN_s]
      by_cases q : (paN A f).testBit i = true
      · rw [ci_t q, if_pos q, (hU i hi).2.1, lN_add, Nat.add_mul]
      · rw [ci_f q, if_neg q, show lN (sumN U (paN A f) i * 1024) + (0 : Int64) = lN (sumN U (paN A f) i * 1024 + 0) from lN_add _ 0]
        simp only [Nat.add_zero]
    · dsimp only
      unfold f_X12_laysKin_L22
      rw [if_pos (nI_le (Nat.le_refl _) (by omega))]
  have e10 : sumN U (paN A f) 10 = sumN U (paN A f) f := by
    have := sumN_hi (f := U) hp2 (10 - f)
    rw [show f + (10 - f) = 10 by omega] at this
    exact this
  refine ⟨c * 2 ^ (19 - f - g), ?_, ?_, ⟨c, rfl⟩, ?_⟩
  · unfold f_X3_nearByParents f_X3_nearByParents_49
    rw [bo_of key1, e10, show (2 : Int64) = lN 2 from rfl, pk_lDiv (by omega) (by decide) (by decide), hs2]
    congr 2
    omega
  · rw [key2, hs2]
    congr 2
    omega
  · show _ ≤ 1048576 * (fc f * (f + 1))
    have h1 : f * (1048576 * fc f) ≤ 1048576 * (fc f * (f + 1)) := by
      rw [Nat.mul_comm f, Nat.mul_assoc]
      exact Nat.mul_le_mul_left _ (Nat.mul_le_mul_left _ (by omega))
    omega
def KxL (σ σ' : Dt) : Prop := σ'.1 = σ.1 ∧ σ'.2.2 = σ.2.2
theorem KxL.kx {σ σ' : Dt} (h : KxL σ σ') : KX σ σ' := ⟨fun a _ => by rw [h.1], h.2⟩
theorem KxL.km {σ σ' : Dt} (h : KxL σ σ') : KM σ σ' := ⟨by rw [h.1], by rw [h.1], h.2, fun j _ => by rw [h.1]⟩
theorem KxL.tr {a b c : Dt} (h1 : KxL a b) (h2 : KxL b c) : KxL a c := ⟨h2.1.trans h1.1, h2.2.trans h1.2⟩
theorem KxL_0 (σ : Dt) : KxL σ σ := ⟨rfl, rfl⟩
theorem KxL_s {σ : Dt} {a j : Nat} {v : Int64} : KxL σ (setL σ a j v) := ⟨rfl, rfl⟩
theorem k_row (hC : CV σx v A F W) (hM : MV σm o A F W) {f : Nat} (hf : f < F) (hK : Kp σx σm f) (x2 x3 : Int32) : ∃ τx τm, iter FU (fun s => f_X3_nearness_L44 203 (some v) x2 x3 (nI f) s.1 s.2) ((0 : Int32), σx) = some τx ∧ iter FU (fun s => f_X12_laysKin_L12 0 (nI f) s.1 s.2) ((0 : Int32), σm) = some τm ∧ Kr τx τm f f ∧ KxL σx τx ∧ KxL σm τm := by
  have hF := hM.F10
  refine iter_two (f := fun s : Int32 × Dt => f_X3_nearness_L44 203 (some v) x2 x3 (nI f) s.1 s.2) (g := fun s : Int32 × Dt => f_X12_laysKin_L12 0 (nI f) s.1 s.2) (P := fun i s t => s.1 = nI i ∧ t.1 = nI i ∧ Kr s.2 t.2 f i ∧ KxL σx s.2 ∧ KxL σm t.2) (Q := fun x y => Kr x y f f ∧ KxL σx x ∧ KxL σm y) f (by omega) ⟨rfl, rfl, ⟨hK, fun b hb => absurd hb (Nat.not_lt_zero b)⟩, KxL_0 _, KxL_0 _⟩ (fun g s t hg hP => ?_)
  obtain ⟨x, τx⟩ := s
  obtain ⟨y, τm⟩ := t
  obtain ⟨e1, e2, hR, k1, k2⟩ := hP
  dsimp only at e1 e2 hR k1 k2 ⊢
  subst e1
  subst e2
  have hC2 := k1.kx.cv hC
  have hM2 := k2.km.mv hM
  unfold f_X3_nearness_L44 f_X12_laysKin_L12
  rcases (show g = f ∨ g < f by omega) with e | e
  · left
    subst e
    rw [if_pos (nI_le (Nat.le_refl _) (by omega)), if_pos (nI_le (Nat.le_refl _) (by omega))]
    exact ⟨_, _, rfl, rfl, hR, k1, k2⟩
  · right
    refine ⟨e, ?_⟩
    obtain ⟨u, q1, q2, q3, q4⟩ := k_sum hC2.2.1 hM2 hf e hR.1
    have hfc := fc_le (f + 1) (by omega)
    have hb1 : 1048576 * fc (f + 1) ≤ 1048576 * 3628800 := Nat.mul_le_mul_left _ hfc
    have a1 : (10 : Int32) * nI f + nI g = nI (10 * f + g) := by (show nI 10 * nI f + nI g = _; rw [pk_mul, nI_add])
    have a2 : (10 : Int32) * nI g + nI f = nI (10 * g + f) := by (show nI 10 * nI g + nI f = _; rw [pk_mul, nI_add])
    have hdv : lN (u * 1024 * 2) / (2 : Int64) = lN (u * 1024) := by
      rw [show (2 : Int64) = lN 2 from rfl, pk_lDiv (by omega) (by decide) (by decide)]
      congr 1
      omega
    rw [ite_le_f (by omega) e, xkn hC2.2.1, xkr hC2.2.1 (by omega), bo_of (xpars hC2), bo_of (xpa hC2 (by omega)), bo_of x_rck, bo_of q1, xks (by omega) (by omega)]
    rw [xkn (show RefX (setL τx (207 + f) g (lN (u * 1048576))) from hC2.2.1), xkr (show RefX (setL τx (207 + f) g (lN (u * 1048576))) from hC2.2.1) (by omega), xkn (show RefX (setL τx (207 + f) g (lN (u * 1048576))) from hC2.2.1), xkr (show RefX (setL τx (207 + f) g (lN (u * 1048576))) from hC2.2.1) (by omega), xkl (by omega) (by omega), setL_j, xks (by omega) (by omega)]
    rw [ite_le_f (by omega) e, bo_of q2, mkn hM2.1, a1, a2, hdv, mks (by omega), mkn (show RefM (setL τm 12 (10 * f + g) (lN (u * 1024))) from hM2.1), mks (by omega), nI_1]
    have w1 : ∀ a b, ¬ (a = f ∧ b = g) → ¬ (a = g ∧ b = f) → (setL (setL τx (207 + f) g (lN (u * 1048576))) (207 + g) f (lN (u * 1048576))).2.1 (207 + a) b = τx.2.1 (207 + a) b := fun a b h1 h2 => by rw [setL_ne (by omega), setL_ne (by omega)]
    have w2 : ∀ a b, a < 10 → b < 10 → ¬ (a = f ∧ b = g) → ¬ (a = g ∧ b = f) → (setL (setL τm 12 (10 * f + g) (lN (u * 1024))) 12 (10 * g + f) (lN (u * 1024))).2.1 12 (10 * a + b) = τm.2.1 12 (10 * a + b) := fun a b h0 h0' h1 h2 => by rw [setL_ne (by omega), setL_ne (by omega)]
    refine ⟨_, _, rfl, rfl, rfl, rfl, ⟨fun a b ha hb => ?_, fun b hb => ?_⟩, k1.tr (KxL_s.tr KxL_s), k2.tr (KxL_s.tr KxL_s)⟩
    · exact (hR.1 a b ha hb).cg (w1 a b (by omega) (by omega)) (w1 b a (by omega) (by omega)) (w2 a b (by omega) (by omega) (by omega) (by omega)) (w2 b a (by omega) (by omega) (by omega) (by omega))
    · rcases (show b = g ∨ b < g by omega) with z | z
      · subst z
        refine ⟨u, ⟨?_, ?_⟩, ⟨?_, ?_⟩, q3, q4⟩
        · show (setL (setL τx (207 + f) b (lN (u * 1048576))) (207 + b) f (lN (u * 1048576))).2.1 (207 + f) b = _
          rw [setL_ne (by omega), setL_j]
        · show (setL (setL τx (207 + f) b (lN (u * 1048576))) (207 + b) f (lN (u * 1048576))).2.1 (207 + b) f = _
          rw [setL_j]
        · show (setL (setL τm 12 (10 * f + b) (lN (u * 1024))) 12 (10 * b + f) (lN (u * 1024))).2.1 12 (10 * f + b) = _
          rw [setL_ne (by omega), setL_j]
        · show (setL (setL τm 12 (10 * f + b) (lN (u * 1024))) 12 (10 * b + f) (lN (u * 1024))).2.1 12 (10 * b + f) = _
          rw [setL_j]
      · exact (hR.2 b z).cg (w1 f b (by omega) (by omega)) (w1 b f (by omega) (by omega)) (w2 f b (by omega) (by omega) (by omega) (by omega)) (w2 b f (by omega) (by omega) (by omega) (by omega))
theorem x_couple {σ : Dt} {s : Nat} (hR : RefX σ) (hs : s < 512) : f_X3_nearOfCouple 203 (nI s) σ = if popc s = 2 then some (σ.2.1 (207 + nthB s 12 1) (nthB s 12 0)) else some (0 : Int64) := by
  have h0 : iter FU (fun x => f_X3_nearOfCouple_L2 203 (nI s) x σ) (0 : Int32) = some (if popc s = 2 then Sum.inl (nI (nthB s 12 1), nI (nthB s 12 0)) else Sum.inr ()) := cpl0 s hs
  unfold f_X3_nearOfCouple
  rw [bo_of h0]
  by_cases c : popc s = 2
  · obtain ⟨-, -, h3, h4, h5⟩ := cpl1 s hs c
    have h9 := tb_lt (p := 9) (show s < 2 ^ 9 from hs) h5
    rw [if_pos c, if_pos c]
    show (bo (xgr SX 3 3 (some 203) σ) fun v4 => bo (xar SX 20 v4 (nI (nthB s 12 1)) σ) fun v6 => bo (xal SX v6 (nI (nthB s 12 0)) σ) fun v8 => some v8) = _
    rw [xkn hR, xkr hR (by omega), xkl (by omega) (by omega)]
  · rw [if_neg c, if_neg c]
    rfl
theorem k_all (hC : CV σx v A F W) (hM : MV σm o A F W) (x2 x3 : Int32) : ∃ τx τm, iter FU (fun s => f_X3_nearness_L25 203 (some v) x2 x3 s.1 s.2) ((0 : Int32), σx) = some τx ∧ f_X12_laysKin 0 σm = some ((), τm) ∧ Kp τx τm F ∧ KxL σx τx ∧ KxL σm τm := by
  have hF := hM.F10
  have key := iter_two (f := fun s : Int32 × Dt => f_X3_nearness_L25 203 (some v) x2 x3 s.1 s.2) (g := fun s : Int32 × Dt => f_X12_laysKin_L2 0 s.1 s.2) (s0 := ((0 : Int32), σx)) (t0 := ((0 : Int32), σm)) (P := fun i s t => s.1 = nI i ∧ t.1 = nI i ∧ Kp s.2 t.2 i ∧ KxL σx s.2 ∧ KxL σm t.2) (Q := fun x y => Kp x y F ∧ KxL σx x ∧ KxL σm y) F (by omega) ⟨rfl, rfl, fun a b ha _ => absurd ha (Nat.not_lt_zero a), KxL_0 _, KxL_0 _⟩ (fun f s t hf hP => ?_)
  · obtain ⟨τx, τm, r1, r2, r3⟩ := key
    refine ⟨τx, τm, r1, ?_, r3⟩
    unfold f_X12_laysKin
    rw [bo_of r2]
  · obtain ⟨x, ax⟩ := s
    obtain ⟨y, am⟩ := t
    obtain ⟨e1, e2, hK, k1, k2⟩ := hP
    dsimp only at e1 e2 hK k1 k2 ⊢
    subst e1
    subst e2
    have hC2 := k1.kx.cv hC
    have hM2 := k2.km.mv hM
    unfold f_X3_nearness_L25 f_X12_laysKin_L2
    rw [bo_of (xfolk hC2), bo_of (mfolk hM2)]
    rcases (show f = F ∨ f < F by omega) with e | e
    · left
      subst e
      rw [if_pos (nI_le (Nat.le_refl _) (by omega)), if_pos (nI_le (Nat.le_refl _) (by omega))]
      exact ⟨_, _, rfl, rfl, hK, k1, k2⟩
    · right
      refine ⟨e, ?_⟩
      obtain ⟨bx, bm, q1, q2, ⟨q3, q3'⟩, q4, q5⟩ := k_row hC2 hM2 e hK x2 x3
      have hC3 := q4.kx.cv hC2
      have hM3 := q5.km.mv hM2
      have hp := (hM.vw.fk (show f < 10 by omega)).2.2.1.2
      have hpow := two_pow_lt (show f < 10 by omega)
      have hfc := fc_le f (by omega)
      have hb1 : 1048576 * fc f ≤ 1048576 * 3628800 := Nat.mul_le_mul_left _ hfc
      have hfs := fc_s f
      have hf1 := fc_1 f
      have a1 : (11 : Int32) * nI f = nI (10 * f + f) := by (show nI 11 * nI f = _; rw [pk_mul]; congr 1; omega)
      -- what lies at (f, f) then
      have fin : ∀ u, (∃ c, u = c * 2 ^ (20 - (f + f))) → u ≤ 1048576 * fc f → ∃ s' t', (some (Sum.inl (nI (f + 1), setL bx (207 + f) f (lN ((524288 + u / 2) * 1048576)))) : Option ((Int32 × Dt) ⊕ Dt)) = some (Sum.inl s') ∧ (some (Sum.inl (nI (f + 1), setL bm 12 (10 * f + f) (lN ((524288 + u / 2) * 1024)))) : Option ((Int32 × Dt) ⊕ Dt)) = some (Sum.inl t') ∧ s'.1 = nI (f + 1) ∧ t'.1 = nI (f + 1) ∧ Kp s'.2 t'.2 (f + 1) ∧ KxL σx s'.2 ∧ KxL σm t'.2 := by
        intro u ⟨c, hc⟩ hu
        have w1 : ∀ a b, ¬ (a = f ∧ b = f) → (setL bx (207 + f) f (lN ((524288 + u / 2) * 1048576))).2.1 (207 + a) b = bx.2.1 (207 + a) b := fun a b h1 => setL_ne (by omega)
        have w2 : ∀ a b, a < 10 → b < 10 → ¬ (a = f ∧ b = f) → (setL bm 12 (10 * f + f) (lN ((524288 + u / 2) * 1024))).2.1 12 (10 * a + b) = bm.2.1 12 (10 * a + b) := fun a b h0 h0' h1 => setL_ne (by omega)
        refine ⟨_, _, rfl, rfl, rfl, rfl, fun a b ha hb => ?_, (k1.tr q4).tr KxL_s, (k2.tr q5).tr KxL_s⟩
        rcases (show (a = f ∧ b = f) ∨ (a = f ∧ b < f) ∨ (a < f ∧ b = f) ∨ (a < f ∧ b < f) by omega) with ⟨h1, h2⟩ | ⟨h1, h2⟩ | ⟨h1, h2⟩ | ⟨h1, h2⟩
        · subst h1
          subst h2
          have h19 : u / 2 = c * 2 ^ (19 - b - b) := by
            rw [hc, show 20 - (b + b) = (19 - b - b) + 1 by omega, Nat.pow_succ, ← Nat.mul_assoc, Nat.mul_div_cancel _ (by decide)]
          refine ⟨524288 + u / 2, ⟨setL_j, setL_j⟩, ⟨setL_j, setL_j⟩, ⟨2 ^ (b + b) + c, ?_⟩, ?_⟩
          · rw [Nat.add_mul, ← Nat.pow_add, show b + b + (19 - b - b) = 19 by omega, h19]
          · have : 1048576 * fc b ≤ 1048576 * fc (b + 1) := Nat.mul_le_mul_left _ hfs
            have : 1048576 * 1 ≤ 1048576 * fc (b + 1) := Nat.mul_le_mul_left _ (fc_1 (b + 1))
            omega
        · subst h1
          exact (q3' b h2).cg (w1 a b (by omega)) (w1 b a (by omega)) (w2 a b (by omega) (by omega) (by omega)) (w2 b a (by omega) (by omega) (by omega))
        · subst h2
          exact (q3' a h1).sy.cg (w1 a b (by omega)) (w1 b a (by omega)) (w2 a b (by omega) (by omega) (by omega)) (w2 b a (by omega) (by omega) (by omega))
        · exact ((q3 a b h1 h2).le hfs).cg (w1 a b (by omega)) (w1 b a (by omega)) (w2 a b (by omega) (by omega) (by omega)) (w2 b a (by omega) (by omega) (by omega))
      rw [ite_le_f (by omega) e, if_neg (le10 (by omega)), bo_of q1, xkn hC3.2.1, xkr hC3.2.1 (by omega), bo_of (xpars hC3), bo_of (xpa hC3 (by omega)), bo_of x_rck, ite_le_f (by omega) e, bo_of q2, bo_of mrc, bo_of (mpa hM3 (by omega)), bo_of (mbits (by omega) _)]
      by_cases c2 : popc (paN A f) = 2
      · obtain ⟨n0, n1, n2, n3, n4⟩ := cpl1 (paN A f) (by omega) c2
        have t1 := tb_lt hp n3
        have t2 := tb_lt hp n4
        obtain ⟨u, ⟨-, u2⟩, ⟨u3, -⟩, ⟨d, u5⟩, u6⟩ := q3 (nthB (paN A f) 12 0) (nthB (paN A f) 12 1) t1 t2
        have hcp := x_couple hC3.2.1 (show paN A f < 512 by omega)
        rw [if_pos c2, u2] at hcp
        rw [bo_of hcp, xks (by omega) (by omega), if_pos (show nI (popc (paN A f)) = 2 from congrArg nI c2)]
        unfold f_X12_laysKin_121 f_X12_laysKin_172
        rw [mkn hM3.1, if_neg (by decide), mkn hM3.1, bo_of mrc, bo_of (mpa hM3 (by omega)), bo_of (show f_X12_nth (nI (paN A f)) 0 bm = some (nI (nthB (paN A f) 12 0)) from n0), bo_of mrc, bo_of (mpa hM3 (by omega)), bo_of (show f_X12_nth (nI (paN A f)) 1 bm = some (nI (nthB (paN A f) 12 1)) from n1), show (10 : Int32) * nI (nthB (paN A f) 12 0) + nI (nthB (paN A f) 12 1) = nI (10 * nthB (paN A f) 12 0 + nthB (paN A f) 12 1) by (show nI 10 * nI _ + nI _ = _; rw [pk_mul, nI_add]), mkl (by omega), u3, a1, mks (by omega), nI_1]
        have hev : ∃ c, u = c * 2 ^ (20 - (f + f)) := ⟨d * 2 ^ (f + f - 1 - (nthB (paN A f) 12 0 + nthB (paN A f) 12 1)), by rw [u5, Nat.mul_assoc, ← Nat.pow_add, show f + f - 1 - (nthB (paN A f) 12 0 + nthB (paN A f) 12 1) + (20 - (f + f)) = 19 - nthB (paN A f) 12 0 - nthB (paN A f) 12 1 by omega]⟩
        have e2 : u % 2 = 0 := by
          obtain ⟨c, hc⟩ := hev
          rw [hc, show 20 - (f + f) = (19 - (f + f)) + 1 by omega, Nat.pow_succ, ← Nat.mul_assoc, Nat.mul_mod_left]
        have d1 : (549755813888 : Int64) + lN (u * 1048576) / (2 : Int64) = lN ((524288 + u / 2) * 1048576) := by
          rw [show (2 : Int64) = lN 2 from rfl, pk_lDiv (by omega) (by decide) (by decide), show (549755813888 : Int64) = lN 549755813888 from rfl, lN_add]
          congr 1
          omega
        have d2 : (536870912 : Int64) + lN (u * 1024) / (2 : Int64) = lN ((524288 + u / 2) * 1024) := by
          rw [show (2 : Int64) = lN 2 from rfl, pk_lDiv (by omega) (by decide) (by decide), show (536870912 : Int64) = lN 536870912 from rfl, lN_add]
          congr 1
          omega
        rw [d1, d2]
        exact fin u hev u6
      · have hcp := x_couple hC3.2.1 (show paN A f < 512 by omega)
        rw [if_neg c2] at hcp
        have h12 := popc_le (paN A f)
        rw [bo_of hcp, xks (by omega) (by omega), if_neg (show ¬ nI (popc (paN A f)) = 2 from fun z => c2 ((nI_eq (b := 2) (by omega) (by decide)).mp z))]
        unfold f_X12_laysKin_121 f_X12_laysKin_172
        rw [mkn hM3.1, if_pos rfl, a1, mks (by omega), nI_1, show (549755813888 : Int64) + (0 : Int64) / (2 : Int64) = lN ((524288 + 0 / 2) * 1048576) from by decide, show (536870912 : Int64) + (0 : Int64) = lN ((524288 + 0 / 2) * 1024) from by decide]
        exact fin 0 ⟨0, by rw [Nat.zero_mul]⟩ (Nat.zero_le _)
theorem x_near (hC : CV σx v A F W) {a b : Nat} (ha : a < F) (hb : b < F) {τx : Dt} (e : iter FU (fun s => f_X3_nearness_L25 203 (some v) (nI a) (nI b) s.1 s.2) ((0 : Int32), σx) = some τx) (hR : RefX τx) : f_X3_nearness 203 (some v) (nI a) (nI b) σx = some (τx.2.1 (207 + a) b, τx) := by
  have hF := hC.F10
  unfold f_X3_nearness f_X3_nearness_135
  rw [if_neg (by simp), bo_of (crc hC.1), bo_of (c_hasFolkB hC _), ite_b, ci_in_t ha, bo_of (crc hC.1), bo_of (c_hasFolkB hC _), ite_b, ci_in_t hb, bo_of e, xkn hR, xkr hR (by omega), xkl (by omega) (by omega)]
end KIN
theorem lcmp_ge {a b : Nat} (ha : a < 2 ^ 63) (hb : b < 2 ^ 63) : ((0 : Int32) ≤ lg_cmp (lN a) (lN b)) = (b ≤ a) := by
  unfold lg_cmp
  by_cases c : b < a
  · rw [if_pos (show lN a > lN b from (pk_lLT hb ha).mpr c)]
    simp only [eq_iff_iff]
    exact ⟨fun _ => by omega, fun _ => by decide⟩
  · rw [if_neg (show ¬ lN a > lN b from fun z => c ((pk_lLT hb ha).mp z))]
    by_cases c2 : a = b
    · rw [if_pos (congrArg lN c2)]
      simp only [eq_iff_iff]
      exact ⟨fun _ => by omega, fun _ => by decide⟩
    · rw [if_neg (fun z => c2 ((pk_lEQ ha hb).mp z))]
      simp only [eq_iff_iff]
      exact ⟨fun z => absurd z (by decide), fun z => by omega⟩
theorem gsc (u b m : Nat) (hm : 0 < m) : (u * m) / Nat.gcd (u * m) (b * m) = u / Nat.gcd u b ∧ (b * m) / Nat.gcd (u * m) (b * m) = b / Nat.gcd u b := by
  rw [Nat.gcd_mul_right]
  exact ⟨Nat.mul_div_mul_right _ _ hm, Nat.mul_div_mul_right _ _ hm⟩
theorem k_x {σ : Dt} {u b m : Nat} (h1 : u * m < 2 ^ 62) (h2 : 0 < b) (h3 : 0 < m) (h4 : b * m < 2 ^ 62) : f_X0_reduce 218 (lN (u * m)) (lN (b * m)) σ = some ((), setL (setL σ 218 0 (lN (u / Nat.gcd u b))) 218 1 (lN (b / Nat.gcd u b))) := by
  rw [x_reduce h1 (Nat.mul_pos h2 h3) h4, (gsc u b m h3).1, (gsc u b m h3).2]
theorem k_m {σ : Dt} {u b m : Nat} (h1 : u * m < 2 ^ 62) (h2 : 0 < b) (h3 : 0 < m) (h4 : b * m < 2 ^ 62) (z : Int32) : f_X12_parted (lN (u * m)) (lN (b * m)) z σ = some (if z = 0 then lN (u / Nat.gcd u b) else lN (b / Nat.gcd u b)) := by
  rw [m_parted h1 (Nat.mul_pos h2 h3) h4, (gsc u b m h3).1, (gsc u b m h3).2]
theorem kin_x {τ : Dt} {u : Nat} (hR : RefX τ) (hu : u ≤ 3805072588800) (z : Int32) : (bd (f_X0_reduce 218 (lN (u * 1048576)) (1099511627776 : Int64) τ) fun v29 σ30 => bo (xgr SX 11 9 (some 0) σ30) fun v32 => bo (xrc SX 0 v32) fun a34 => bo (f_X0_part a34 z σ30) fun v36 => some (v36, σ30)) = some (if z = 0 then lN (u / Nat.gcd u 1048576) else lN (1048576 / Nat.gcd u 1048576), setL (setL τ 218 0 (lN (u / Nat.gcd u 1048576))) 218 1 (lN (1048576 / Nat.gcd u 1048576))) := by
  have l1 : (1099511627776 : Int64) = lN (1048576 * 1048576) := rfl
  have hx := k_x (σ := τ) (u := u) (b := 1048576) (m := 1048576) (by omega) (by omega) (by omega) (by omega)
  generalize 1048576 / Nat.gcd u 1048576 = y at *
  generalize u / Nat.gcd u 1048576 = x at *
  rw [l1, bd_of hx, bo_of (x_chance (show RefX (setL (setL τ 218 0 (lN x)) 218 1 (lN y)) from hR)), bo_of x_rcc, bo_of (x_part z)]
theorem kin_m {τ : Dt} {u : Nat} (hu : u ≤ 3805072588800) (z : Int32) : f_X12_parted (lN (u * 1024)) (1073741824 : Int64) z τ = some (if z = 0 then lN (u / Nat.gcd u 1048576) else lN (1048576 / Nat.gcd u 1048576)) := by
  have l2 : (1073741824 : Int64) = lN (1048576 * 1024) := rfl
  rw [l2]
  exact k_m (b := 1048576) (m := 1024) (by omega) (by omega) (by omega) (by omega) z
theorem ok_wedding : LK_wedding Inv := by
  intro σx σm z1 z2 z3 hI
  unfold f_X11_wedding f_X12_wedding
  simp only [x_now hI.1, bo_s, x_rc1, mrc]
  rcases ask_V hI z1 with ⟨k, A, F, W, hk, hz, hC, e1, e2, hM, hI2⟩ | ⟨e1, e2⟩
  · have hF := hC.F10
    simp only [e1, bo_s, e2, bd_s, ite_none, ite_10, crc hC.1, c_hasFolkB hC, m_isFolkB hM, ite_b]
    by_cases ca : inR z2 F
    · rw [ci_t ca, ci_t ca]
      by_cases cb : inR z3 F
      · rw [ci_t cb, ci_t cb]
        by_cases ce : z2 = z3
        · rw [if_pos ce, if_pos ce]
          exact ⟨-1, _, _, rfl, rfl, hI2⟩
        · rw [if_neg ce, if_neg ce]
          obtain ⟨a, ha, rfl⟩ := ca
          obtain ⟨b, hb, rfl⟩ := cb
          obtain ⟨τx, τm, q1, q2, q3, q4, q5⟩ := k_all hC hM (nI a) (nI b)
          obtain ⟨u, ⟨u1, -⟩, ⟨u3, -⟩, -, u6⟩ := q3 a b ha hb
          have hRx := q4.kx.ref hI.1
          have hM2 := q5.km.mv hM
          have hnear := x_near hC ha hb q1 hRx
          rw [u1] at hnear
          have hfc := fc_le F hF
          have hb1 : 1048576 * fc F ≤ 1048576 * 3628800 := Nat.mul_le_mul_left _ hfc
          have hIm := q5.km.inv hI2
          have hIx := q4.kx.inv hIm
          unfold f_X11_wedding_68 f_X11_wedding_69 f_X11_wedding_98 f_X12_wedding_81
          simp only [xages hC, bo_s, xag hC (show a < F by omega), xag hC (show b < F by omega), x_kin hI.1, x_rck, hnear, bd_s, q2, mag hM2 (show a < 10 by omega), mag hM2 (show b < 10 by omega), if_pos]
          have g1 := (hC.vw.fk (show a < 10 by omega)).1.2
          have g2 := (hC.vw.fk (show b < 10 by omega)).1.2
          by_cases c1 : agN A a < 16
          · rw [if_pos (show nI (agN A a) < (16 : Int32) from nI_lt (b := 16) c1 (by decide)), if_pos (show nI (agN A a) < (16 : Int32) from nI_lt (b := 16) c1 (by decide))]
            exact ⟨0, _, _, rfl, rfl, hIm⟩
          · rw [if_neg (show ¬ nI (agN A a) < (16 : Int32) from nI_nlt (b := 16) (by omega) (by omega)), if_neg (show ¬ nI (agN A a) < (16 : Int32) from nI_nlt (b := 16) (by omega) (by omega))]
            by_cases c2 : agN A b < 16
            · rw [if_pos (show nI (agN A b) < (16 : Int32) from nI_lt (b := 16) c2 (by decide)), if_pos (show nI (agN A b) < (16 : Int32) from nI_lt (b := 16) c2 (by decide))]
              exact ⟨0, _, _, rfl, rfl, hIm⟩
            · rw [if_neg (show ¬ nI (agN A b) < (16 : Int32) from nI_nlt (b := 16) (by omega) (by omega)), if_neg (show ¬ nI (agN A b) < (16 : Int32) from nI_nlt (b := 16) (by omega) (by omega)), if_neg (by decide), mkn hM2.1, show (10 : Int32) * nI a + nI b = nI (10 * a + b) by (show nI 10 * nI a + nI b = _; rw [pk_mul, nI_add]), mkl (by omega), u3, show lN (u * 1024) * (8 : Int64) = lN (u * 1024 * 8) from lN_mul _ 8]
              simp only [show (137438953472 : Int64) = lN 137438953472 from rfl, show (1073741824 : Int64) = lN 1073741824 from rfl, lcmp_ge (show u * 1048576 < 2 ^ 63 by omega) (show 137438953472 < 2 ^ 63 by decide), lcmp_ge (show u * 1024 * 8 < 2 ^ 63 by omega) (show 1073741824 < 2 ^ 63 by decide)]
              by_cases c3 : u < 131072
              · rw [if_neg (by omega), if_neg (by omega)]
                exact ⟨1, _, _, rfl, rfl, hIx⟩
              · rw [if_pos (by omega), if_pos (by omega)]
                exact ⟨0, _, _, rfl, rfl, hIx⟩
      · rw [ci_f cb, ci_f cb]
        by_cases ce : z2 = z3
        · rw [if_pos ce]
          exact ⟨-1, _, _, rfl, rfl, hI2⟩
        · rw [if_neg ce]
          exact ⟨-1, _, _, rfl, rfl, hI2⟩
    · rw [ci_f ca, ci_f ca]
      by_cases ce : z2 = z3
      · rw [if_pos ce]
        exact ⟨-1, _, _, rfl, rfl, hI2⟩
      · rw [if_neg ce]
        exact ⟨-1, _, _, rfl, rfl, hI2⟩
  · simp only [e1, bo_s, e2, bd_s]
    exact ⟨-1, _, _, rfl, rfl, hI⟩
