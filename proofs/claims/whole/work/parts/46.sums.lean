/-! ===== loss, lots and heaps: sums over works ===== -/
theorem x_isSpan (n : Int32) (σ : Dt) : f_X11_isSpan n σ = some (if n < 1 ∨ (9 : Int32) < n then 0 else 1) := by
  unfold f_X11_isSpan f_X11_isSpan_15
  by_cases h1 : n < 1
  · rw [if_pos h1, if_pos (Or.inl h1)]
  · rw [if_neg h1]
    by_cases h2 : (9 : Int32) < n
    · rw [if_pos h2, if_pos (Or.inr h2)]
    · rw [if_neg h2, if_neg (by rintro (h | h); exact h1 h; exact h2 h)]
/-- a sum over the works of a set -/
def sumW (A : Nat → Int32) (b : Nat) (set : Int32) : Nat → Int32
  | 0 => 0
  | w + 1 => sumW A b set w + (if (set >>> (nI w &&& 31)) &&& 1 = 1 then A (b + 2 * w) else 0)
section SUMS
variable {σ : Dt} {o F W : Nat} {A : Nat → Int32}
theorem m_sizes (h : MV σ o A F W) (set : Int32) : f_X12_sizesOf 0 set σ = some (sumW A 43 set W) := by
  have hW : W ≤ 6 := h.2.2.2.2.2.2.2.2.2.1
  unfold f_X12_sizesOf
  have hit : iter FU (fun s => f_X12_sizesOf_L4 0 set s.1 s.2 σ) ((0 : Int32), (0 : Int32)) = some (sumW A 43 set W) := by
    refine iter_n (st := fun i => (sumW A 43 set i, nI i)) (x := sumW A 43 set W) W (by omega) (fun i hi => ?_) ?_
    · dsimp only
      unfold f_X12_sizesOf_L4 f_X12_sizesOf_30
      rw [mgi, bo_s, h.2.2.2.1, if_neg (fun c => absurd ((nI_leI (by omega) (by omega)).mp c) (by omega)), m_among, bo_s]
      by_cases c1 : (set >>> (nI i &&& 31)) &&& 1 = 1
      · rw [if_pos c1, if_neg (by decide), mrc, bo_s, m_much h (by omega), bo_s, sumW, if_pos c1, nI_1]
      · rw [if_neg c1, if_pos rfl, sumW, if_neg c1, nI_1]
    · dsimp only
      unfold f_X12_sizesOf_L4
      rw [mgi, bo_s, h.2.2.2.1, if_pos (nI_le (Nat.le_refl _) (by omega))]
  rw [hit, bo_s]
theorem m_worths (h : MV σ o A F W) (set : Int32) : f_X12_worths 0 set σ = some (sumW A 44 set W) := by
  have hW : W ≤ 6 := h.2.2.2.2.2.2.2.2.2.1
  unfold f_X12_worths
  have hit : iter FU (fun s => f_X12_worths_L4 0 set s.1 s.2 σ) ((0 : Int32), (0 : Int32)) = some (sumW A 44 set W) := by
    refine iter_n (st := fun i => (sumW A 44 set i, nI i)) (x := sumW A 44 set W) W (by omega) (fun i hi => ?_) ?_
    · dsimp only
      unfold f_X12_worths_L4 f_X12_worths_30
      rw [mgi, bo_s, h.2.2.2.1, if_neg (fun c => absurd ((nI_leI (by omega) (by omega)).mp c) (by omega)), m_among, bo_s]
      by_cases c1 : (set >>> (nI i &&& 31)) &&& 1 = 1
      · rw [if_pos c1, if_neg (by decide), mrc, bo_s, m_worth h (by omega), bo_s, sumW, if_pos c1, nI_1]
      · rw [if_neg c1, if_pos rfl, sumW, if_neg c1, nI_1]
    · dsimp only
      unfold f_X12_worths_L4
      rw [mgi, bo_s, h.2.2.2.1, if_pos (nI_le (Nat.le_refl _) (by omega))]
  rw [hit, bo_s]
end SUMS
-- a set's bit, as class and reference ask for it
theorem bit01 (x : Int32) : x &&& 1 = 0 ∨ x &&& 1 = 1 := by
  have h : (x &&& 1).toBitVec.toNat = x.toBitVec.toNat % 2 := by
    rw [Int32.toBitVec_and, BitVec.toNat_and]
    exact Nat.and_one_is_mod _
  refine (Nat.mod_two_eq_zero_or_one x.toBitVec.toNat).imp (fun z => ?_) (fun z => ?_)
  · exact Int32.toBitVec_inj.mp (BitVec.eq_of_toNat_eq (h.trans z))
  · exact Int32.toBitVec_inj.mp (BitVec.eq_of_toNat_eq (h.trans z))
theorem bit_ne {x : Int32} : ¬ x &&& 1 = 0 ↔ x &&& 1 = 1 := by
  constructor
  · intro h
    exact (bit01 x).resolve_left h
  · intro h
    rw [h]
    decide
