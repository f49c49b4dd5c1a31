/-! ===== text: is it this word ===== -/
def lnT' (t : Nat) : Nat := sLn.getD t 0
def wlT (t k : Nat) : Nat := ((sBy.getD t []).getD k 0).toNatClampNeg - 96
theorem wl_f : ∀ t, t < 11 → lnT' t ≤ 8 ∧ xtl t = some (nI (lnT' t)) ∧ ∀ k, k < lnT' t → xtc t (nI k) = some (nI (96 + wlT t k)) ∧ 1 ≤ wlT t k ∧ wlT t k ≤ 26 := by decide +kernel
theorem x_isWord {σ : Dt} {B : Nat → Nat} {L e e2 t : Nat} (h : Rd σ B L) (h8 : σ.1 155 8 = nI e) (h9 : σ.1 155 9 = nI e2) (he : e ≤ e2) (hL2 : e2 ≤ L) (ht : t < 11) : f_X5_isWord 155 t σ = some (bI (e2 - e = lnT' t ∧ ∀ k, k < lnT' t → B (e + k) = 96 + wlT t k)) := by
  have hL := h.2.2.2.1
  obtain ⟨w1, w2, w3⟩ := wl_f t ht
  have hsb : nI e2 - nI e = nI (e2 - e) := by
    rw [jI_n e2, jI_n e, jI_n (e2 - e), jI_sub]
    congr 1
    omega
  unfold f_X5_isWord
  rw [r_gi, h9, r_gi, h8, bo_of w2, hsb]
  by_cases c : e2 - e = lnT' t
  · rw [if_pos (show nI (e2 - e) = nI (lnT' t) by rw [c])]
    have key := iter_w (f := fun q : Int32 => f_X5_isWord_L24 155 t q σ) (s0 := (0 : Int32)) (P := fun i q => q = nI i ∧ ∀ k, k < i → B (e + k) = 96 + wlT t k) (Q := fun r => el (fun _ => some (0 : Int32)) (fun _ => some (1 : Int32)) r = some (bI (e2 - e = lnT' t ∧ ∀ k, k < lnT' t → B (e + k) = 96 + wlT t k))) (lnT' t) (by omega) ⟨rfl, fun k hk => absurd hk (Nat.not_lt_zero k)⟩ (fun i q hi hP => by
      obtain ⟨rfl, p1⟩ := hP
      try dsimp only
      unfold f_X5_isWord_L24
      rw [bo_of w2]
      rcases (show i = lnT' t ∨ i < lnT' t by omega) with y | y
      · left
        rw [y, if_pos (nI_le (Nat.le_refl _) (by omega))]
        refine ⟨_, rfl, ?_⟩
        rw [y] at p1
        rw [bI_t ⟨c, p1⟩]
        rfl
      · have hb := (h.2.2.2.2 (e + i) (by omega)).2
        have hw := (w3 i y).2
        rw [ite_le_f (by omega) y, r_gi, h8, bo_of r_rc, nI_add, bo_of (r_byte h (by omega)), if_pos (show e + i < L by omega), bo_of (w3 i y).1, nI_1]
        by_cases d : B (e + i) = 96 + wlT t i
        · right
          rw [if_pos (show nI (B (e + i)) = nI (96 + wlT t i) by rw [d])]
          refine ⟨y, _, rfl, rfl, fun k hk => ?_⟩
          rcases (show k = i ∨ k < i by omega) with z | z
          · rw [z]; exact d
          · exact p1 k z
        · left
          rw [if_neg (fun z => d ((nI_eq (by omega) (by omega)).mp z))]
          refine ⟨_, rfl, ?_⟩
          rw [bI_f (fun z => d (z.2 i y))]
          rfl)
    obtain ⟨r, e1, e2'⟩ := key
    rw [bo_of e1]
    exact e2'
  · rw [if_neg (fun z => c ((nI_eq (by omega) (by omega)).mp z)), bI_f (fun z => c z.1)]
