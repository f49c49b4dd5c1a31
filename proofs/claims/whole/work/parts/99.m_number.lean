/-! ===== text: the number read ===== -/
theorem x_number {σ : Dt} {B : Nat → Nat} {L e e2 : Nat} (h : Rd σ B L) (h8 : σ.1 155 8 = nI e) (h9 : σ.1 155 9 = nI e2) (he : e ≤ e2) (hL2 : e2 ≤ L) (h2 : e2 - e ≤ 2) (hd : ∀ k, e ≤ k → k < e2 → isDi (B k)) : f_X5_numberRead 155 σ = some (nI (nuB B e (e2 - e))) := by
  have hL := h.2.2.2.1
  unfold f_X5_numberRead
  have key := iter_n (f := fun q : Int32 × Int32 => f_X5_numberRead_L7 155 q.1 q.2 σ) (st := fun j => (nI (nuB B e j), nI (e + j))) (x := nI (nuB B e (e2 - e))) (e2 - e) (by omega) (fun j hj => ?_) ?_
  · rw [r_gi, h8, bo_of (show iter FU (fun q => f_X5_numberRead_L7 155 q.1 q.2 σ) ((0 : Int32), nI e) = _ from key)]
  · dsimp only
    have hb := hd (e + j) (by omega) (by omega)
    have q1 := hb.1
    have q2 := hb.2
    unfold f_X5_numberRead_L7
    have es : nI (B (e + j)) - 48 = nI (B (e + j) - 48) := by
      rw [jI_n (B (e + j)), show (48 : Int32) = jI 48 from rfl, jI_sub, jI_n (B (e + j) - 48)]
      congr 1
      omega
    rw [r_gi, h9, ite_le_f (by omega) (by omega), bo_of r_rc, bo_of (r_byte h (by omega)), if_pos (show e + j < L by omega), es, show (10 : Int32) = nI 10 from rfl, pk_mul, nI_add, nI_1]
    rcases (show j = 0 ∨ j = 1 by omega) with y | y
    · subst y
      show some (Sum.inl (nI (0 * 10 + (B (e + 0) - 48)), nI (e + 0 + 1))) = some (Sum.inl (nI (B e - 48), nI (e + (0 + 1))))
      rw [Nat.zero_mul, Nat.zero_add]
      rfl
    · subst y
      show some (Sum.inl (nI ((B e - 48) * 10 + (B (e + 1) - 48)), nI (e + 1 + 1))) = some (Sum.inl (nI (10 * (B e - 48) + (B (e + 1) - 48)), nI (e + (1 + 1))))
      rw [Nat.mul_comm]
  · dsimp only
    unfold f_X5_numberRead_L7
    rw [r_gi, h9, show e + (e2 - e) = e2 by omega, if_pos (nI_le (Nat.le_refl _) (by omega))]
