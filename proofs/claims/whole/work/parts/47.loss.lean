/-! ===== loss ===== -/
/-- how many of the first are so -/
noncomputable def cntW (P : Nat → Prop) (acc : Int32) : Nat → Int32
  | 0 => acc
  | w + 1 => cntW P acc w + @ite _ (P w) (Classical.propDecidable _) 1 0
theorem cntW_0 {P : Nat → Prop} {acc : Int32} : ∀ {n : Nat}, (∀ w, w < n → ¬ P w) → cntW P acc n = acc
  | 0, _ => rfl
  | n + 1, h => by
    rw [cntW, cntW_0 (n := n) (fun w hw => h w (by omega)), if_neg (h n (by omega))]
    exact Int32.add_zero _
theorem nI_m1 {f : Nat} (hf : f < 2 ^ 31) : ¬ nI f = -1 := by
  intro h
  have h2 := congrArg Int32.toInt h
  rw [nI_toInt hf] at h2
  have h3 : (-1 : Int32).toInt = -1 := by decide
  omega
theorem strA_lo {A : Nat → Int32} {set : Int32} {f : Nat} (hf : f < 1000) : ∀ n, n ≤ f → strA A set (nI f) n = strA A set (-1) n
  | 0, _ => rfl
  | n + 1, h => by
    rw [strA, strA, strA_lo hf n (by omega)]
    congr 1
    by_cases c : (set >>> (nI n &&& 31)) &&& 1 = 1
    · rw [if_pos ⟨c, fun e => absurd ((nI_eq (by omega) (by omega)).mp e) (by omega)⟩, if_pos ⟨c, nI_m1 (by omega)⟩]
    · rw [if_neg (fun q => c q.1), if_neg (fun q => c q.1)]
theorem i32_swap (a b c : Int32) : a + b - c = a - c + b := by
  rw [Int32.sub_eq_add_neg, Int32.sub_eq_add_neg, Int32.add_assoc, Int32.add_comm b, ← Int32.add_assoc]
theorem strA_wo {A : Nat → Int32} {set : Int32} {f : Nat} (hf : f < 1000) : ∀ n, f < n → n < 1000 → strA A set (nI f) n = strA A set (-1) n - (if (set >>> (nI f &&& 31)) &&& 1 = 1 then A (4 + 4 * f) else 0)
  | 0, h, _ => by omega
  | n + 1, h, hn => by
    rw [strA, strA]
    by_cases e : n = f
    · subst e
      rw [strA_lo hf n (Nat.le_refl _), if_neg (fun q => q.2 rfl)]
      by_cases c : (set >>> (nI n &&& 31)) &&& 1 = 1
      · rw [if_pos ⟨c, nI_m1 (by omega)⟩, if_pos c, Int32.add_zero, Int32.add_sub_cancel]
      · rw [if_neg (fun q => c q.1), if_neg c, Int32.add_zero, Int32.sub_zero]
    · rw [strA_wo hf n (by omega) (by omega), i32_swap]
      congr 1
      by_cases c : (set >>> (nI n &&& 31)) &&& 1 = 1
      · rw [if_pos ⟨c, fun q => e ((nI_eq (by omega) (by omega)).mp q)⟩, if_pos ⟨c, nI_m1 (by omega)⟩]
      · rw [if_neg (fun q => c q.1), if_neg (fun q => c q.1)]
/-- couple c, w is lost without f -/
def lostA (A : Nat → Int32) (F f : Nat) (n : Int32) (c w : Nat) : Prop := kpA A F c w n ∧ n * strA A (A (6 + 4 * c)) (nI f) F < A (43 + 2 * w)
noncomputable def totL (A : Nat → Int32) (F W f : Nat) (n : Int32) : Nat → Int32
  | 0 => 0
  | c + 1 => cntW (lostA A F f n c) (totL A F W f n c) W
section LOSS
variable {σ : Dt} {o F W : Nat} {A : Nat → Int32}
theorem m_lossL (h : MV σ o A F W) {f c : Nat} (hc : c < F) (n : Int32) (acc : Int32) : iter FU (fun s => f_X12_loss_L46 0 (nI f) n (nI c) s.1 s.2 σ) (acc, (0 : Int32)) = some (cntW (lostA A F f n c) acc W) := by
  have hF : F ≤ 10 := h.2.2.2.2.2.2.2.2.1
  have hW : W ≤ 6 := h.2.2.2.2.2.2.2.2.2.1
  refine iter_n (st := fun i => (cntW (lostA A F f n c) acc i, nI i)) (x := cntW (lostA A F f n c) acc W) W (by omega) (fun i hi => ?_) ?_
  · dsimp only
    unfold f_X12_loss_L46 f_X12_loss_95 f_X12_loss_96
    rw [mgi, bo_s, h.2.2.2.1, if_neg (fun c => absurd ((nI_leI (by omega) (by omega)).mp c) (by omega)), mrc, bo_s, cntW]
    by_cases k : kpA A F c i n
    · rw [(m_keeps h (by omega) (by omega) _).1 k, bo_s, if_neg (by decide), bo_s, m_elder h (by omega), bo_s, bo_s, m_strengths h, bo_s, bo_s, m_much h (by omega), bo_s]
      by_cases q : A (43 + 2 * i) ≤ n * strA A (A (6 + 4 * c)) (nI f) F
      · rw [if_pos q, if_neg (fun z => absurd z.2 (Int32.not_lt.mpr q)), nI_1]
      · rw [if_neg q, if_pos ⟨k, Int32.not_le.mp q⟩, nI_1]
    · rw [(m_keeps h (by omega) (by omega) _).2 k, bo_s, if_pos rfl, if_neg (fun z => k z.1), nI_1]
  · dsimp only
    unfold f_X12_loss_L46
    rw [mgi, bo_s, h.2.2.2.1, if_pos (nI_le (Nat.le_refl _) (by omega))]
variable {v : Nat}
theorem c_isGrand (h : CV σ v A F W) {f c : Nat} (hf : f < F) (hc : c < F) : f_X9_isGrandparent v (nI f) (nI c) σ = some (if (A (6 + 4 * c) >>> (nI f &&& 31)) &&& 1 = 0 then 0 else 1) := by
  have hF := h.F10
  unfold f_X9_isGrandparent f_X9_isGrandparent_33
  rw [crc h.1, bo_s, (c_hasFolk h _).1 ⟨f, hf, rfl⟩, bo_s, if_neg (by decide), bo_s, (c_hasFolk h _).1 ⟨c, hc, rfl⟩, bo_s, if_neg (by decide), cgrands h.1 h.2.1, bo_s, cai4 h.1 (by omega), bo_s, (h.2.2.1.2.2.2.1 c (by omega)).2.2]
  by_cases q : (A (6 + 4 * c) >>> (nI f &&& 31)) &&& 1 = 0
  · rw [if_pos q, if_pos q]
  · rw [if_neg q, if_neg q]
theorem c_lossL (h : CV σ v A F W) {f c : Nat} (hf : f < F) (hc : c < F) (hg : (A (6 + 4 * c) >>> (nI f &&& 31)) &&& 1 = 1) (n : Int32) (acc : Int32) : iter FU (fun s => f_X9_couplesLostWithout_L34 v (nI f) n (nI c) s.1 s.2 σ) (acc, (0 : Int32)) = some (cntW (lostA A F f n c) acc W) := by
  have hF := h.F10
  have hW := h.W6
  refine iter_n (st := fun i => (cntW (lostA A F f n c) acc i, nI i)) (x := cntW (lostA A F f n c) acc W) W (by omega) (fun i hi => ?_) ?_
  · dsimp only
    unfold f_X9_couplesLostWithout_L34
    have e1 : strA A (A (6 + 4 * c)) (-1) F - A (4 + 4 * f) = strA A (A (6 + 4 * c)) (nI f) F := by
      rw [strA_wo (by omega) F hf (by omega), if_pos hg]
    rw [cgi h.1, bo_s, h.works, if_neg (fun c => absurd ((nI_leI (by omega) (by omega)).mp c) (by omega)), if_neg (show ¬ (6 : Int32) ≤ nI i from fun c => absurd ((nI_leI (a := 6) (by decide) (by omega)).mp c) (by omega)), chelps h.1 h.2.1, bo_s, cai5 h.1 (by omega), bo_s, cstrs h.1 h.2.1, bo_s, cai2 h.1 (by omega), bo_s, csizes h.1 h.2.1, bo_s, cai6 h.1 (by omega), bo_s, h.2.2.2.2 c (by omega), (h.rw hi).1, (h.rf hf).2, e1, cntW]
    unfold f_X9_couplesLostWithout_81 f_X9_couplesLostWithout_103
    simp only [crc h.1, bo_s]
    by_cases k : kpA A F c i n
    · rw [(c_canKeep h hc (by omega) _).1 k]
      by_cases q : n * strA A (A (6 + 4 * c)) (nI f) F < A (43 + 2 * i)
      · rw [if_pos q, bo_s, if_neg (by decide), if_pos trivial, if_pos (show lostA A F f n c i from ⟨k, q⟩), nI_1]
      · rw [if_neg q, bo_s, if_neg (by decide), if_neg (by decide), if_neg (show ¬ lostA A F f n c i from fun z => q z.2), nI_1, Int32.add_zero]
    · rw [(c_canKeep h hc (by omega) _).2 k, if_neg (show ¬ lostA A F f n c i from fun z => k z.1)]
      simp only [bo_s, if_true, ite_self]
      rw [nI_1, Int32.add_zero]
  · dsimp only
    unfold f_X9_couplesLostWithout_L34
    rw [cgi h.1, bo_s, h.works, if_pos (nI_le (Nat.le_refl _) (by omega))]
theorem lost_no {f c : Nat} (hf : f < 1000) (hfF : f < F) (hF : F < 1000) (hg : ¬ (A (6 + 4 * c) >>> (nI f &&& 31)) &&& 1 = 1) (n : Int32) (w : Nat) : ¬ lostA A F f n c w := by
  rintro ⟨k, q⟩
  rw [strA_wo hf F hfF hF, if_neg hg, Int32.sub_zero] at q
  exact k.2 q
theorem m_loss (h : MV σ o A F W) {f : Nat} (n : Int32) : iter FU (fun s => f_X12_loss_L34 0 (nI f) n s.1 s.2 σ) ((0 : Int32), (0 : Int32)) = some (totL A F W f n F) := by
  have hF : F ≤ 10 := h.2.2.2.2.2.2.2.2.1
  refine iter_n (st := fun i => (totL A F W f n i, nI i)) (x := totL A F W f n F) F (by omega) (fun i hi => ?_) ?_
  · dsimp only
    unfold f_X12_loss_L34
    rw [mgi, bo_s, h.2.2.1, if_neg (fun c => absurd ((nI_leI (by omega) (by omega)).mp c) (by omega)), m_lossL h hi, bo_s, nI_1, totL]
  · dsimp only
    unfold f_X12_loss_L34
    rw [mgi, bo_s, h.2.2.1, if_pos (nI_le (Nat.le_refl _) (by omega))]
theorem c_loss (h : CV σ v A F W) {f : Nat} (hf : f < F) (n : Int32) : f_X9_couplesLostWithout v (nI f) n σ = some (totL A F W f n F) := by
  have hF := h.F10
  unfold f_X9_couplesLostWithout
  have hit : iter FU (fun s => f_X9_couplesLostWithout_L5 v (nI f) n s.1 s.2 σ) ((0 : Int32), (0 : Int32)) = some (totL A F W f n F) := by
    refine iter_n (st := fun i => (totL A F W f n i, nI i)) (x := totL A F W f n F) F (by omega) (fun i hi => ?_) ?_
    · dsimp only
      unfold f_X9_couplesLostWithout_L5 f_X9_couplesLostWithout_109
      rw [cgi h.1, bo_s, h.folk, if_neg (fun c => absurd ((nI_leI (by omega) (by omega)).mp c) (by omega)), if_neg (show ¬ (10 : Int32) ≤ nI i from fun c => absurd ((nI_leI (a := 10) (by decide) (by omega)).mp c) (by omega)), crc h.1, bo_s, c_isGrand h hf hi, bo_s, totL]
      by_cases q : (A (6 + 4 * i) >>> (nI f &&& 31)) &&& 1 = 0
      · rw [if_pos q, if_pos rfl, cntW_0 (fun w hw => lost_no (by omega) hf (by omega) (fun z => absurd (q.symm.trans z) (by decide)) n w), nI_1]
      · rw [if_neg q, if_neg (by decide), c_lossL h hf hi (bit_ne.mp q), bo_s, nI_1]
    · dsimp only
      unfold f_X9_couplesLostWithout_L5
      rw [cgi h.1, bo_s, h.folk, if_pos (nI_le (Nat.le_refl _) (by omega))]
  rw [hit, bo_s]
end LOSS
theorem ok_loss : LK_loss Inv := by
  intro σx σm z1 z2 z3 hI
  have hRx := hI.1
  unfold f_X11_loss f_X12_loss
  simp only [x_now hRx, bo_s, x_rc1, mrc]
  rcases ask_V hI z1 with ⟨k, A, F, W, hk, hz, hC, e1, e2, hM, hI2⟩ | ⟨e1, e2⟩
  · simp only [e1, bo_s, e2, bd_s, crc hC.1]
    rw [if_neg (by simp), if_neg (by decide)]
    rcases iff01 (c_hasFolk hC z2) with ⟨q1, f, hf, hx⟩ | ⟨q1, hx⟩
    · simp only [q1, bo_s, (m_isFolk hM z2).1 ⟨f, hf, hx⟩]
      rw [if_neg (by decide), if_neg (by decide), x_isSpan, bo_s, iIn, bo_s]
      by_cases c : z3 < 1 ∨ (9 : Int32) < z3
      · exact ⟨-1, _, by rw [if_pos c]; rfl, by rw [if_pos c]; rfl, hI2⟩
      · subst hx
        rw [if_neg c, if_neg (by decide), if_neg (by decide), c_loss hC hf, bo_s, m_loss hM, bo_s]
        exact ⟨_, _, rfl, rfl, hI2⟩
    · simp only [q1, bo_s, (m_isFolk hM z2).2 hx]
      exact ⟨-1, _, rfl, rfl, hI2⟩
  · simp only [e1, bo_s, e2, bd_s]
    exact ⟨-1, _, rfl, rfl, hI⟩
