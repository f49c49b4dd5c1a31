/-! ===== text: the reference's token ===== -/
/-- only the fields of the token changed -/
def KT (σ τ : Dt) : Prop := (∀ b, ¬ b = 0 → τ.1 b = σ.1 b) ∧ (∀ j, (j < 3 ∨ 7 < j) → τ.1 0 j = σ.1 0 j) ∧ τ.2.2 = σ.2.2
theorem KT_0 (σ : Dt) : KT σ σ := ⟨fun _ _ => rfl, fun _ _ => rfl, rfl⟩
theorem KT.tr {a b c : Dt} (h1 : KT a b) (h2 : KT b c) : KT a c := ⟨fun x hx => (h2.1 x hx).trans (h1.1 x hx), fun j hj => (h2.2.1 j hj).trans (h1.2.1 j hj), h2.2.2.trans h1.2.2⟩
theorem KT_set {σ : Dt} {j : Nat} {v : Int32} (h : 3 ≤ j ∧ j ≤ 7) : KT σ (setX σ 0 j v) := ⟨fun b hb => setX_o hb, fun k hk => setX_n (by omega), rfl⟩
theorem KT.rq {σ τ : Dt} {B : Nat → Nat} {L : Nat} (h : KT σ τ) (hR : Rq σ B L) : Rq τ B L := by
  obtain ⟨h1, h2, h3, h4⟩ := hR
  refine ⟨?_, ?_, h3, fun i hi => ?_⟩
  · unfold RefM at *
    rw [h.2.2]
    exact h1
  · rw [h.2.1 2 (by omega)]; exact h2
  · rw [h.1 1 (by decide)]; exact h4 i hi
def wcN (B : Nat → Nat) (e e2 : Nat) : Nat := if e2 - e ≤ 8 then wdN (leV B e (e2 - e)) else 99
/-- what the token's fields say -/
def TkM (τ : Dt) (B : Nat → Nat) (t e e2 : Nat) : Prop := τ.1 0 3 = nI e2 ∧ τ.1 0 4 = nI e ∧ ((t = 0 ∧ τ.1 0 5 = nI 0) ∨ (t = 3 ∧ τ.1 0 5 = nI 2) ∨ (t = 4 ∧ τ.1 0 5 = nI 4) ∨ (t = 2 ∧ τ.1 0 5 = nI 1 ∧ τ.1 0 6 = nI (nuB B e (e2 - e))) ∨ (t = 1 ∧ τ.1 0 7 = nI (wcN B e e2) ∧ τ.1 0 5 = (if wcN B e e2 = 99 then nI 4 else nI 3)))
theorem leV_lt {B : Nat → Nat} {e e2 : Nat} (hB : ∀ k, e ≤ k → k < e2 → isLe (B k)) : ∀ m, e + m ≤ e2 → leV B e m < 32 ^ (min m 8)
  | 0, _ => by show 0 < 32 ^ (min 0 8); decide
  | m + 1, hm => by
    have ih := leV_lt hB m (by omega)
    have hb := hB (e + m) (by omega) (by omega)
    rw [leV]
    by_cases c : m < 8
    · rw [if_pos c, show min (m + 1) 8 = m + 1 by omega, Nat.pow_succ]
      rw [show min m 8 = m by omega] at ih
      have := hb.1
      have := hb.2
      omega
    · rw [if_neg c, show min (m + 1) 8 = 8 by omega]
      rw [show min m 8 = 8 by omega] at ih
      exact ih
theorem wdN_le (v : Nat) : wdN v ≤ 99 := by
  unfold wdN
  repeat (first | omega | split)
theorem m_token {σ : Dt} {B : Nat → Nat} {L i : Nat} (h : Rq σ B L) (hi : i ≤ L) (h3 : σ.1 0 3 = nI i) : ∃ t e e2 τ, Tk B L i t e e2 ∧ f_X12_advance 0 σ = some ((), τ) ∧ KT σ τ ∧ TkM τ B t e e2 := by
  have hL := h.2.2.1
  obtain ⟨e, s1, s2⟩ := m_skipT h hi
  have s2' : iter FU (fun s => f_X12_advance_L0 0 s) σ = some (setX σ 0 3 (nI e)) := by rw [← s2, setX_same h3]
  have heL := s1.2.1
  obtain ⟨σ', hσ'⟩ : ∃ s, s = setX σ 0 4 (nI e) := ⟨_, rfl⟩
  have hc : setX (setX σ 0 3 (nI e)) 0 4 (nI e) = setX σ' 0 3 (nI e) := by rw [hσ']; exact setX_comm (by omega)
  have k' : KT σ σ' := by rw [hσ']; exact KT_set (by omega)
  have h' := k'.rq h
  have h4 : σ'.1 0 4 = nI e := by rw [hσ', setX_j]
  have h5 := (KT_set (σ := σ') (j := 3) (v := nI e) (by omega)).rq h'
  unfold f_X12_advance f_X12_advance_308 f_X12_advance_280 f_X12_advance_162 f_X12_advance_180
  rw [bo_of s2', mgiB, setX_j, mpiB, hc, mgiB, setX_j, bo_of mrc, bo_of (m_byteN h5 (by omega))]
  rcases (show e = L ∨ e < L by omega) with y | y
  · rw [if_neg (show ¬ e < L by omega), if_neg (by decide), mpiB]
    refine ⟨0, e, e, _, ⟨s1, Or.inl ⟨y, rfl, y⟩⟩, rfl, (k'.tr (KT_set (by omega))).tr (KT_set (by omega)), ?_, ?_, Or.inl ⟨rfl, ?_⟩⟩
    · rw [setX_n (by decide), setX_j]
    · rw [setX_n (by decide), setX_n (by decide), h4]
    · rw [setX_j]; rfl
  · have hb := (h.2.2.2 e y).2
    rw [if_pos y, if_pos (show (0 : Int32) ≤ nI (B e) from nI_le (a := 0) (by omega) (by omega)), bo_of (m_letN hb _), ite_b, bo_of (m_digN hb _), ite_b]
    by_cases c2 : isLe (B e)
    · obtain ⟨e2, u1, u2⟩ := m_letsT h' heL h4
      have b1 := u1.1
      have b2 := u1.2.1
      have hsb : nI e2 - nI e = nI (e2 - e) := by
        rw [jI_n e2, jI_n e, jI_n (e2 - e), jI_sub]
        congr 1
        omega
      have h99 : wcN B e e2 ≤ 99 := by
        unfold wcN
        by_cases z : e2 - e ≤ 8
        · rw [if_pos z]; exact wdN_le _
        · rw [if_neg z]; omega
      rw [ci_t c2, bo_of u2]
      dsimp only
      rw [mgiB, setX_j, mgiB, setX_n (by decide), h4, hsb]
      have fin : (bo (xpi SM 12 7 (some 0) (nI (wcN B e e2)) (setX σ' 0 3 (nI e2))) fun σ1 => bo (xgi SM 12 7 (some 0) σ1) fun v3 => if v3 = (99 : Int32) then bo (xpi SM 12 5 (some 0) (4 : Int32) σ1) fun σ1 => some ((), σ1) else bo (xpi SM 12 5 (some 0) (3 : Int32) σ1) fun σ1 => some ((), σ1)) = some ((), setX (setX (setX σ' 0 3 (nI e2)) 0 7 (nI (wcN B e e2))) 0 5 (if wcN B e e2 = 99 then nI 4 else nI 3)) := by
        rw [mpiB, mgiB, setX_j, mpiB, mpiB]
        by_cases z : wcN B e e2 = 99
        · rw [if_pos (show nI (wcN B e e2) = (99 : Int32) from by rw [z]; rfl), if_pos z]; rfl
        · rw [if_neg (show ¬ nI (wcN B e e2) = (99 : Int32) from fun w => z ((nI_eq (b := 99) (by omega) (by decide)).mp w)), if_neg z]; rfl
      refine ⟨1, e, e2, setX (setX (setX σ' 0 3 (nI e2)) 0 7 (nI (wcN B e e2))) 0 5 (if wcN B e e2 = 99 then nI 4 else nI 3), ⟨s1, Or.inr (Or.inr (Or.inl ⟨y, c2, u1, rfl⟩))⟩, ?_, ((k'.tr (KT_set (by omega))).tr (KT_set (by omega))).tr (KT_set (by omega)), ?_, ?_, Or.inr (Or.inr (Or.inr (Or.inr ⟨rfl, ?_, ?_⟩)))⟩
      · by_cases z : e2 - e ≤ 8
        · have hw : wcN B e e2 = wdN (leV B e (e2 - e)) := if_pos z
          have hlv := leV_lt u1.2.2.1 (e2 - e) (by omega)
          have hpw : 32 ^ (min (e2 - e) 8) ≤ 32 ^ 8 := Nat.pow_le_pow_right (by decide) (by omega)
          rw [if_pos (show nI (e2 - e) ≤ (8 : Int32) from nI_le (b := 8) z (by decide)), bo_of (m_wordOf (by omega) _), ← hw]
          exact fin
        · have hw : wcN B e e2 = 99 := if_neg z
          rw [if_neg (show ¬ nI (e2 - e) ≤ (8 : Int32) from nI_ge (a := 8) (by omega) (by omega)), show (99 : Int32) = nI (wcN B e e2) from by rw [hw]; rfl]
          rw [hw] at fin ⊢
          exact fin
      · rw [setX_n (by decide), setX_n (by decide), setX_j]
      · rw [setX_n (by decide), setX_n (by decide), setX_n (by decide), h4]
      · rw [setX_n (by decide), setX_j]
      · rw [setX_j]
    · rw [ci_f c2]
      by_cases c3 : isDi (B e)
      · obtain ⟨e2, u1, u2⟩ := m_digsT h' heL h4
        have b1 := u1.1
        have b2 := u1.2.1
        have hsb : nI e2 - nI e = nI (e2 - e) := by
          rw [jI_n e2, jI_n e, jI_n (e2 - e), jI_sub]
          congr 1
          omega
        rw [ci_t c3, mpiB, bo_of (show iter FU (fun s => f_X12_advance_L198 0 s) (setX (setX σ' 0 3 (nI e)) 0 6 (0 : Int32)) = _ from u2), mgiB, setX_n (by decide), setX_j, mgiB, setX_n (by decide), setX_n (by decide), h4, hsb, mpiB, mpiB]
        by_cases z : e2 - e ≤ 2
        · rw [if_pos (show nI (e2 - e) ≤ (2 : Int32) from nI_le (b := 2) z (by decide))]
          refine ⟨2, e, e2, _, ⟨s1, Or.inr (Or.inr (Or.inr (Or.inl ⟨y, c3, u1, (if_pos z).symm⟩)))⟩, rfl, ((k'.tr (KT_set (by omega))).tr (KT_set (by omega))).tr (KT_set (by omega)), ?_, ?_, Or.inr (Or.inr (Or.inr (Or.inl ⟨rfl, ?_, ?_⟩)))⟩
          · rw [setX_n (by decide), setX_n (by decide), setX_j]
          · rw [setX_n (by decide), setX_n (by decide), setX_n (by decide), h4]
          · rw [setX_j]; rfl
          · rw [setX_n (by decide), setX_j]
        · rw [if_neg (show ¬ nI (e2 - e) ≤ (2 : Int32) from nI_ge (a := 2) (by omega) (by omega))]
          refine ⟨4, e, e2, _, ⟨s1, Or.inr (Or.inr (Or.inr (Or.inl ⟨y, c3, u1, (if_neg z).symm⟩)))⟩, rfl, ((k'.tr (KT_set (by omega))).tr (KT_set (by omega))).tr (KT_set (by omega)), ?_, ?_, Or.inr (Or.inr (Or.inl ⟨rfl, ?_⟩))⟩
          · rw [setX_n (by decide), setX_n (by decide), setX_j]
          · rw [setX_n (by decide), setX_n (by decide), setX_n (by decide), h4]
          · rw [setX_j]; rfl
      · rw [ci_f c3, mgiB, setX_j, mpiB, setX_set, nI_1, mpiB, mpiB]
        by_cases c1 : B e = 59
        · rw [if_pos (show nI (B e) = (59 : Int32) from by rw [c1]; rfl)]
          refine ⟨3, e, e + 1, _, ⟨s1, Or.inr (Or.inl ⟨y, c1, rfl, rfl⟩)⟩, rfl, (k'.tr (KT_set (by omega))).tr (KT_set (by omega)), ?_, ?_, Or.inr (Or.inl ⟨rfl, ?_⟩)⟩
          · rw [setX_n (by decide), setX_j]
          · rw [setX_n (by decide), setX_n (by decide), h4]
          · rw [setX_j]; rfl
        · rw [if_neg (show ¬ nI (B e) = (59 : Int32) from fun z => c1 ((nI_eq (b := 59) (by omega) (by decide)).mp z))]
          refine ⟨4, e, e + 1, _, ⟨s1, Or.inr (Or.inr (Or.inr (Or.inr ⟨y, c1, c2, c3, rfl, rfl⟩)))⟩, rfl, (k'.tr (KT_set (by omega))).tr (KT_set (by omega)), ?_, ?_, Or.inr (Or.inr (Or.inl ⟨rfl, ?_⟩))⟩
          · rw [setX_n (by decide), setX_j]
          · rw [setX_n (by decide), setX_n (by decide), h4]
          · rw [setX_j]; rfl
