/-! ===== text: the reference's tokens ===== -/
def Rq (σ : Dt) (B : Nat → Nat) (L : Nat) : Prop := RefM σ ∧ σ.1 0 2 = nI L ∧ L ≤ 600 ∧ ∀ i, i < L → σ.1 1 (10 + i) = nI (B i) ∧ B i < 256
theorem Rq_set {σ : Dt} {B : Nat → Nat} {L j : Nat} {v : Int32} (h : Rq σ B L) (hj : ¬ j = 2) : Rq (setX σ 0 j v) B L := by
  obtain ⟨h1, h2, h3, h4⟩ := h
  refine ⟨h1, ?_, h3, fun i hi => ?_⟩
  · rw [setX_n (fun z => hj z.symm)]; exact h2
  · rw [setX_o (by decide)]; exact h4 i hi
theorem mgiB {β : Type} {j : Nat} {σ : Dt} {k : Int32 → Option β} : bo (xgi SM 12 j (some 0) σ) k = k (σ.1 0 j) := bo_of (mgi j σ)
theorem m_byteN {σ : Dt} {B : Nat → Nat} {L i : Nat} (h : Rq σ B L) (hi : i < 1000) : f_X12_byteAt 0 (nI i) σ = some (if i < L then nI (B i) else -1) := by
  obtain ⟨h1, h2, h3, h4⟩ := h
  unfold f_X12_byteAt
  rw [mgiB, h2]
  by_cases c : i < L
  · rw [ite_le_f (by omega) c, if_pos c, bo_of (m_r h1 (by decide) rfl), show (10 : Int32) = nI 10 from rfl, nI_add, bo_of (mai (10 + i) σ (by omega)), (h4 i c).1]
  · rw [ite_le_t (by omega) (by omega), if_neg c]
theorem m_letN {b : Nat} (hb : b < 256) (σ : Dt) : f_X12_isLetter (nI b) σ = some (bI (isLe b)) := r_let hb σ
theorem m_digN {b : Nat} (hb : b < 256) (σ : Dt) : f_X12_isDigit (nI b) σ = some (bI (isDi b)) := r_dig hb σ
theorem m_letM (σ : Dt) : f_X12_isLetter (-1) σ = some 0 := by
  unfold f_X12_isLetter f_X12_isLetter_16
  rw [if_pos (by decide)]
theorem m_digM (σ : Dt) : f_X12_isDigit (-1) σ = some 0 := by
  unfold f_X12_isDigit f_X12_isDigit_16
  rw [if_pos (by decide)]
section TOM
variable {σ : Dt} {B : Nat → Nat} {L : Nat}
theorem m_skipT (h : Rq σ B L) {i : Nat} (hi : i ≤ L) : ∃ e, EnR (fun k => isSp (B k)) L i e ∧ iter FU (fun s => f_X12_advance_L0 0 s) (setX σ 0 3 (nI i)) = some (setX σ 0 3 (nI e)) := by
  have hL := h.2.2.1
  refine run_g (f := fun s => f_X12_advance_L0 0 s) (st := fun j => setX σ 0 3 (nI j)) hL hi (fun j h1 h2 h3 => ?_) (fun j h1 h2 h3 => ?_)
  · have hR := Rq_set (j := 3) (v := nI j) h (by decide)
    have hb := (h.2.2.2 j h2).2
    unfold f_X12_advance_L0 f_X12_advance_26
    simp only [mgiB, setX_j, bo_of mrc, bo_of (m_byteN hR (show j < 1000 by omega)), if_pos h2, mpiB, setX_set, nI_1]
    rcases h3 with z | z
    · by_cases c : nI (B j) = (10 : Int32)
      · rw [if_pos c]
      · rw [if_neg c, if_pos (show nI (B j) = (32 : Int32) from by rw [z]; rfl)]
    · rw [if_pos (show nI (B j) = (10 : Int32) from by rw [z]; rfl)]
  · have hR := Rq_set (j := 3) (v := nI j) h (by decide)
    unfold f_X12_advance_L0 f_X12_advance_26
    simp only [mgiB, setX_j, bo_of mrc, bo_of (m_byteN hR (show j < 1000 by omega))]
    rcases (show j = L ∨ j < L by omega) with y | y
    · rw [if_neg (show ¬ j < L by omega), if_neg (by decide), if_neg (by decide)]
    · have hb := (h.2.2.2 j y).2
      have hn : ¬ isSp (B j) := h3.elim (fun z => by omega) id
      rw [if_pos y, if_neg (show ¬ nI (B j) = (10 : Int32) from fun z => hn (Or.inr ((nI_eq (b := 10) (by omega) (by decide)).mp z))), if_neg (show ¬ nI (B j) = (32 : Int32) from fun z => hn (Or.inl ((nI_eq (b := 32) (by omega) (by decide)).mp z)))]
/-- what the first two digits say -/
def nuB (B : Nat → Nat) (e : Nat) : Nat → Nat
  | 0 => 0
  | 1 => B e - 48
  | _ => 10 * (B e - 48) + (B (e + 1) - 48)
theorem m_digsT (h : Rq σ B L) {e : Nat} (he : e ≤ L) (h4 : σ.1 0 4 = nI e) : ∃ e2, EnR (fun k => isDi (B k)) L e e2 ∧ iter FU (fun s => f_X12_advance_L198 0 s) (setX (setX σ 0 3 (nI e)) 0 6 (nI 0)) = some (setX (setX σ 0 3 (nI e2)) 0 6 (nI (nuB B e (e2 - e)))) := by
  have hL := h.2.2.1
  have key := run_g (f := fun s => f_X12_advance_L198 0 s) (st := fun j => setX (setX σ 0 3 (nI j)) 0 6 (nI (nuB B e (j - e)))) (P := fun k => isDi (B k)) hL he (fun j h1 h2 h3 => ?_) (fun j h1 h2 h3 => ?_)
  · obtain ⟨e2, k1, k2⟩ := key
    refine ⟨e2, k1, ?_⟩
    rw [← k2, Nat.sub_self]
    rfl
  · have hR := Rq_set (j := 6) (v := nI (nuB B e (j - e))) (Rq_set (j := 3) (v := nI j) h (by decide)) (by decide)
    have hb := (h.2.2.2 j h2).2
    have n3 : (setX (setX σ 0 3 (nI j)) 0 6 (nI (nuB B e (j - e)))).1 0 3 = nI j := by rw [setX_n (by decide), setX_j]
    have n4 : (setX (setX σ 0 3 (nI j)) 0 6 (nI (nuB B e (j - e)))).1 0 4 = nI e := by rw [setX_n (by decide), setX_n (by decide), h4]
    have hsb : nI j - nI e = nI (j - e) := by
      rw [jI_n j, jI_n e, jI_n (j - e), jI_sub]
      congr 1
      omega
    have hc : ∀ x y z : Int32, setX (setX (setX σ 0 3 x) 0 6 y) 0 3 z = setX (setX σ 0 3 z) 0 6 y := fun x y z => by rw [setX_comm (a := 0) (j := 6) (b := 0) (k := 3) (by omega), setX_set]
    unfold f_X12_advance_L198 f_X12_advance_248
    rw [mgiB, n3, bo_of mrc, bo_of (m_byteN hR (by omega)), if_pos h2, bo_of (m_digN hb _), ite_b, ci_t h3, mgiB, n3, mgiB, n4, hsb]
    rcases (show 2 ≤ j - e ∨ j - e = 0 ∨ j - e = 1 by omega) with c | c | c
    · rw [if_pos (show (2 : Int32) ≤ nI (j - e) from nI_le (a := 2) c (by omega)), mgiB, n3, mpiB, nI_1, hc]
      have : nuB B e (j + 1 - e) = nuB B e (j - e) := by
        obtain ⟨m, hm⟩ : ∃ m, j - e = m + 2 := ⟨j - e - 2, by omega⟩
        rw [hm, show j + 1 - e = m + 3 by omega]
        rfl
      rw [this]
    · have hje : j = e := by omega
      subst hje
      rw [if_neg (show ¬ (2 : Int32) ≤ nI (j - j) from nI_ge (b := 2) (by omega) (by decide)), mgiB, setX_j, mgiB, n3, bo_of mrc, bo_of (m_byteN hR (by omega)), if_pos h2, mpiB, setX_set, mgiB, setX_n (by decide), setX_j, mpiB, nI_1, hc]
      have e1 : (10 : Int32) * nI (nuB B j (j - j)) + nI (B j) - 48 = nI (nuB B j (j + 1 - j)) := by
        rw [Nat.sub_self, show j + 1 - j = 1 by omega]
        show (10 : Int32) * nI 0 + nI (B j) - 48 = nI (B j - 48)
        rw [show (10 : Int32) = nI 10 from rfl, pk_mul, nI_add, jI_n (10 * 0 + B j), show (48 : Int32) = jI 48 from rfl, jI_sub, jI_n (B j - 48)]
        congr 1
        have := h3.1
        omega
      rw [e1]
    · rw [if_neg (show ¬ (2 : Int32) ≤ nI (j - e) from nI_ge (b := 2) (by omega) (by decide)), mgiB, setX_j, mgiB, n3, bo_of mrc, bo_of (m_byteN hR (by omega)), if_pos h2, mpiB, setX_set, mgiB, setX_n (by decide), setX_j, mpiB, nI_1, hc]
      have e1 : (10 : Int32) * nI (nuB B e (j - e)) + nI (B j) - 48 = nI (nuB B e (j + 1 - e)) := by
        rw [c, show j + 1 - e = 2 by omega, show j = e + 1 by omega]
        show (10 : Int32) * nI (B e - 48) + nI (B (e + 1)) - 48 = nI (10 * (B e - 48) + (B (e + 1) - 48))
        have := h3.1
        rw [show j = e + 1 by omega] at this
        rw [show (10 : Int32) = nI 10 from rfl, pk_mul, nI_add, jI_n (10 * (B e - 48) + B (e + 1)), show (48 : Int32) = jI 48 from rfl, jI_sub, jI_n (10 * (B e - 48) + (B (e + 1) - 48))]
        congr 1
        omega
      rw [e1]
  · have hR := Rq_set (j := 6) (v := nI (nuB B e (j - e))) (Rq_set (j := 3) (v := nI j) h (by decide)) (by decide)
    have n3 : (setX (setX σ 0 3 (nI j)) 0 6 (nI (nuB B e (j - e)))).1 0 3 = nI j := by rw [setX_n (by decide), setX_j]
    unfold f_X12_advance_L198
    rw [mgiB, n3, bo_of mrc, bo_of (m_byteN hR (by omega))]
    rcases (show j = L ∨ j < L by omega) with y | y
    · rw [if_neg (show ¬ j < L by omega), bo_of (m_digM _), ite_00]
    · have hb := (h.2.2.2 j y).2
      have hn : ¬ isDi (B j) := h3.elim (fun z => by omega) id
      rw [if_pos y, bo_of (m_digN hb _), ite_b, ci_f hn]
end TOM
