/-! ===== text: words by their letters ===== -/
def cvN (w : Nat → Nat) : Nat → Nat
  | 0 => 0
  | n + 1 => 32 * cvN w n + w n
theorem leV_eq {B w : Nat → Nat} {e : Nat} : ∀ (m n : Nat), m ≤ 8 → n ≤ 8 → (∀ k, k < m → isLe (B (e + k))) → (∀ k, k < n → 1 ≤ w k ∧ w k ≤ 26) → (leV B e m = cvN w n ↔ m = n ∧ ∀ k, k < n → B (e + k) = 96 + w k)
  | 0, 0, _, _, _, _ => ⟨fun _ => ⟨rfl, fun k hk => absurd hk (Nat.not_lt_zero k)⟩, fun _ => rfl⟩
  | 0, n + 1, _, _, _, hw => by
    have := (hw n (by omega)).1
    show 0 = 32 * cvN w n + w n ↔ _
    constructor
    · intro z; omega
    · rintro ⟨z, -⟩; omega
  | m + 1, 0, hm, _, hB, _ => by
    have h1 := (hB m (by omega)).1
    rw [leV, if_pos (show m < 8 by omega)]
    show 32 * leV B e m + (B (e + m) - 96) = 0 ↔ _
    constructor
    · intro z; omega
    · rintro ⟨z, -⟩; omega
  | m + 1, n + 1, hm, hn, hB, hw => by
    have h1 := hB m (by omega)
    have h2 := hw n (by omega)
    have h3 := h1.1
    have h4 := h1.2
    have ih := leV_eq (B := B) (w := w) (e := e) m n (by omega) (by omega) (fun k hk => hB k (by omega)) (fun k hk => hw k (by omega))
    rw [leV, if_pos (show m < 8 by omega)]
    show 32 * leV B e m + (B (e + m) - 96) = 32 * cvN w n + w n ↔ _
    constructor
    · intro z
      have q1 : leV B e m = cvN w n := by omega
      obtain ⟨q2, q3⟩ := ih.mp q1
      refine ⟨by omega, fun k hk => ?_⟩
      rcases (show k = n ∨ k < n by omega) with y | y
      · have q4 : B (e + m) = 96 + w n := by omega
        rw [q2] at q4
        rw [y]
        exact q4
      · exact q3 k y
    · rintro ⟨z1, z2⟩
      have q1 : leV B e m = cvN w n := ih.mpr ⟨by omega, fun k hk => z2 k (by omega)⟩
      have q2 := z2 n (by omega)
      have q3 : m = n := by omega
      rw [q1, q3, q2]
      omega
