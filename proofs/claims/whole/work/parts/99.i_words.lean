/-! ===== text: the reference's words ===== -/
theorem lcmpN {a b : Nat} (ha : a < 2 ^ 63) (hb : b < 2 ^ 63) : (lg_cmp (lN a) (lN b) = 0) = (a = b) := by
  have e1 := pk_lLT hb ha
  have e2 := pk_lEQ ha hb
  unfold lg_cmp
  apply propext
  by_cases c : lN a > lN b
  · rw [if_pos c]
    have := e1.mp c
    exact ⟨fun z => absurd z (by decide), fun z => by omega⟩
  · rw [if_neg c]
    by_cases d : lN a = lN b
    · rw [if_pos d]
      exact ⟨fun _ => e2.mp d, fun _ => rfl⟩
    · rw [if_neg d]
      exact ⟨fun z => absurd z (by decide), fun z => absurd (e2.mpr z) d⟩
/-- the number of a word -/
def wdN (v : Nat) : Nat := if v = 212363 then 1 else if v = 3417476 then 2 else if v = 769611 then 3 else if v = 2610628 then 4 else if v = 17800013413 then 5 else if v = 81486 then 6 else if v = 3659954 then 7 else if v = 4389 then 8 else if v = 824370 then 9 else if v = 26379859 then 10 else if v = 4775 then 11 else 99
theorem m_wordOf {v : Nat} (hv : v < 2 ^ 63) (σ : Dt) : f_X12_wordOf (lN v) σ = some (nI (wdN v)) := by
  unfold f_X12_wordOf f_X12_eight f_X12_four wdN
  simp only [bo_s]
  rw [show Int32.toInt64 ((((((6 : Int32) * (32 : Int32)) + 15) * (32 : Int32)) + 12) * (32 : Int32) + 11) = lN 212363 from by decide +kernel]
  rw [show (Int32.toInt64 ((((((0 : Int32) * (32 : Int32)) + 0) * (32 : Int32)) + 0) * (32 : Int32) + 3)) * (1048576 : Int64) + (Int32.toInt64 ((((((8 : Int32) * (32 : Int32)) + 9) * (32 : Int32)) + 12) * (32 : Int32) + 4)) = lN 3417476 from by decide +kernel]
  rw [show Int32.toInt64 ((((((23 : Int32) * (32 : Int32)) + 15) * (32 : Int32)) + 18) * (32 : Int32) + 11) = lN 769611 from by decide +kernel]
  rw [show (Int32.toInt64 ((((((0 : Int32) * (32 : Int32)) + 0) * (32 : Int32)) + 0) * (32 : Int32) + 2)) * (1048576 : Int64) + (Int32.toInt64 ((((((15 : Int32) * (32 : Int32)) + 21) * (32 : Int32)) + 14) * (32 : Int32) + 4)) = lN 2610628 from by decide +kernel]
  rw [show (Int32.toInt64 ((((((0 : Int32) * (32 : Int32)) + 16) * (32 : Int32)) + 18) * (32 : Int32) + 15)) * (1048576 : Int64) + (Int32.toInt64 ((((((13 : Int32) * (32 : Int32)) + 9) * (32 : Int32)) + 19) * (32 : Int32) + 5)) = lN 17800013413 from by decide +kernel]
  rw [show Int32.toInt64 ((((((2 : Int32) * (32 : Int32)) + 15) * (32 : Int32)) + 18) * (32 : Int32) + 14) = lN 81486 from by decide +kernel]
  rw [show (Int32.toInt64 ((((((0 : Int32) * (32 : Int32)) + 0) * (32 : Int32)) + 0) * (32 : Int32) + 3)) * (1048576 : Int64) + (Int32.toInt64 ((((((15 : Int32) * (32 : Int32)) + 22) * (32 : Int32)) + 5) * (32 : Int32) + 18)) = lN 3659954 from by decide +kernel]
  rw [show Int32.toInt64 ((((((0 : Int32) * (32 : Int32)) + 4) * (32 : Int32)) + 9) * (32 : Int32) + 5) = lN 4389 from by decide +kernel]
  rw [show Int32.toInt64 ((((((25 : Int32) * (32 : Int32)) + 5) * (32 : Int32)) + 1) * (32 : Int32) + 18) = lN 824370 from by decide +kernel]
  rw [show (Int32.toInt64 ((((((0 : Int32) * (32 : Int32)) + 0) * (32 : Int32)) + 0) * (32 : Int32) + 25)) * (1048576 : Int64) + (Int32.toInt64 ((((((5 : Int32) * (32 : Int32)) + 1) * (32 : Int32)) + 18) * (32 : Int32) + 19)) = lN 26379859 from by decide +kernel]
  rw [show Int32.toInt64 ((((((0 : Int32) * (32 : Int32)) + 4) * (32 : Int32)) + 21) * (32 : Int32) + 7) = lN 4775 from by decide +kernel]
  simp only [lcmpN hv (show 212363 < 2 ^ 63 by decide), lcmpN hv (show 3417476 < 2 ^ 63 by decide), lcmpN hv (show 769611 < 2 ^ 63 by decide), lcmpN hv (show 2610628 < 2 ^ 63 by decide), lcmpN hv (show 17800013413 < 2 ^ 63 by decide), lcmpN hv (show 81486 < 2 ^ 63 by decide), lcmpN hv (show 3659954 < 2 ^ 63 by decide), lcmpN hv (show 4389 < 2 ^ 63 by decide), lcmpN hv (show 824370 < 2 ^ 63 by decide), lcmpN hv (show 26379859 < 2 ^ 63 by decide), lcmpN hv (show 4775 < 2 ^ 63 by decide)]
  repeat (first | (split; rfl) | rfl | split)
/-- the letters from e on, five bits each, eight of them at most -/
def leV (B : Nat → Nat) (e : Nat) : Nat → Nat
  | 0 => 0
  | m + 1 => if m < 8 then 32 * leV B e m + (B (e + m) - 96) else leV B e m
theorem m_letsT {σ : Dt} {B : Nat → Nat} {L : Nat} (h : Rq σ B L) {e : Nat} (he : e ≤ L) (h4 : σ.1 0 4 = nI e) : ∃ e2, EnR (fun k => isLe (B k)) L e e2 ∧ iter FU (fun s => f_X12_advance_L77 0 s.1 s.2) ((0 : Int64), setX σ 0 3 (nI e)) = some (lN (leV B e (e2 - e)), setX σ 0 3 (nI e2)) := by
  have hL := h.2.2.1
  have key := run_g (f := fun s : Int64 × Dt => f_X12_advance_L77 0 s.1 s.2) (st := fun j => (lN (leV B e (j - e)), setX σ 0 3 (nI j))) (P := fun k => isLe (B k)) hL he (fun j h1 h2 h3 => ?_) (fun j h1 h2 h3 => ?_)
  · obtain ⟨e2, k1, k2⟩ := key
    refine ⟨e2, k1, ?_⟩
    rw [← k2, Nat.sub_self]
    rfl
  · have hR := Rq_set (j := 3) (v := nI j) h (by decide)
    have hb := (h.2.2.2 j h2).2
    have n4 : (setX σ 0 3 (nI j)).1 0 4 = nI e := by rw [setX_n (by decide), h4]
    have hsb : nI j - nI e = nI (j - e) := by
      rw [jI_n j, jI_n e, jI_n (j - e), jI_sub]
      congr 1
      omega
    dsimp only
    unfold f_X12_advance_L77 f_X12_advance_125
    rw [mgiB, setX_j, bo_of mrc, bo_of (m_byteN hR (by omega)), if_pos h2, bo_of (m_letN hb _), ite_b, ci_t h3, mgiB, setX_j, mgiB, n4, hsb]
    rw [show j + 1 - e = (j - e) + 1 by omega, leV]
    by_cases c : j - e < 8
    · rw [if_neg (show ¬ (8 : Int32) ≤ nI (j - e) from nI_ge (b := 8) c (by decide)), if_pos c, mgiB, setX_j, bo_of mrc, bo_of (m_byteN hR (by omega)), if_pos h2, bo_s, mgiB, setX_j, mpiB, setX_set, nI_1]
      have := h3.1
      rw [nI_l (by omega), show (32 : Int64) = lN 32 from rfl, lN_mul, lN_add, show e + (j - e) = j by omega, show 32 * leV B e (j - e) + B j = (32 * leV B e (j - e) + (B j - 96)) + 96 by omega, ← lN_add, show (96 : Int64) = lN 96 from rfl, Int64.add_sub_cancel]
    · rw [if_pos (show (8 : Int32) ≤ nI (j - e) from nI_le (a := 8) (by omega) (by omega)), if_neg c, mgiB, setX_j, mpiB, setX_set, nI_1]
  · have hR := Rq_set (j := 3) (v := nI j) h (by decide)
    dsimp only
    unfold f_X12_advance_L77
    rw [mgiB, setX_j, bo_of mrc, bo_of (m_byteN hR (by omega))]
    rcases (show j = L ∨ j < L by omega) with y | y
    · rw [if_neg (show ¬ j < L by omega), bo_of (m_letM _), ite_00]
    · have hb := (h.2.2.2 j y).2
      have hn : ¬ isLe (B j) := h3.elim (fun z => by omega) id
      rw [if_pos y, bo_of (m_letN hb _), ite_b, ci_f hn]
