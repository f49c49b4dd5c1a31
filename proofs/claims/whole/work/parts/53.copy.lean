/-! ===== copies: image, again ===== -/
def cpR (σ : Dt) (a b n : Nat) : Dt := (up1 σ.1 b (va_cpy (σ.1 a) (σ.1 b) 0 0 n), σ.2.1, σ.2.2)
def setX (σ : Dt) (a j : Nat) (v : Int32) : Dt := (up2 σ.1 a j v, σ.2.1, σ.2.2)
theorem cpR_2 {σ : Dt} {a b n : Nat} : (cpR σ a b n).2.2 = σ.2.2 := rfl
theorem setX_2 {σ : Dt} {a j : Nat} {v : Int32} : (setX σ a j v).2.2 = σ.2.2 := rfl
theorem cpR_o {σ : Dt} {a b n x : Nat} (h : ¬ x = b) : (cpR σ a b n).1 x = σ.1 x := up1_ne h
theorem cpR_b {σ : Dt} {a b n j : Nat} (h : j < n) : (cpR σ a b n).1 b j = σ.1 a j := by
  show up1 σ.1 b (va_cpy (σ.1 a) (σ.1 b) 0 0 n) b j = _
  rw [up1_eq, pk_cpy_in (by omega) (by omega), Nat.zero_add, Nat.sub_zero]
theorem setX_o {σ : Dt} {a j x : Nat} {v : Int32} (h : ¬ x = a) : (setX σ a j v).1 x = σ.1 x := up2_ne h
theorem setX_j {σ : Dt} {a j : Nat} {v : Int32} : (setX σ a j v).1 a j = v := up2_eq
theorem setX_n {σ : Dt} {a j y : Nat} {v : Int32} (h : ¬ y = j) : (setX σ a j v).1 a y = σ.1 a y := up2_j h
theorem xcp_of {sh : Sh} {a b n : Nat} {σ : Dt} (h1 : a < sh.1 ∧ sh.2.1 a = 13) (h2 : b < sh.1 ∧ sh.2.1 b = 13) (hn : n < 2 ^ 31) (h3 : n ≤ sh.2.2 a) (h4 : n ≤ sh.2.2 b) : xcp sh (some a) 0 (some b) 0 (nI n) σ = some (cpR σ a b n) := by
  have e : xcp sh (some a) 0 (some b) 0 (nI n) σ = some (up1 σ.1 b (va_cpy (σ.1 a) (σ.1 b) (0 : Int32).toNatClampNeg (0 : Int32).toNatClampNeg (nI n).toNatClampNeg), σ.2.1, σ.2.2) := by
    refine if_pos ⟨⟨h1, h2⟩, ⟨by decide, by decide, nI_pos hn⟩, ?_, ?_⟩
    · rw [nI_clamp hn, show (0 : Int32).toNatClampNeg = 0 by decide]; omega
    · rw [nI_clamp hn, show (0 : Int32).toNatClampNeg = 0 by decide]; omega
  rw [e, nI_clamp hn, show (0 : Int32).toNatClampNeg = 0 by decide]
  rfl
/-- what a copy leaves: cells a .. a+w of lengths l hold what those from b on held -/
def Cpd (σ σ' : Dt) (a b w : Nat) (l : Nat → Nat) : Prop := σ'.2 = σ.2 ∧ (∀ x, (x < a ∨ a + w < x) → σ'.1 x = σ.1 x) ∧ ∀ d, d ≤ w → ∀ j, j < l d → σ'.1 (a + d) j = σ.1 (b + d) j
def lV (d : Nat) : Nat := [3, 10, 10, 10, 10, 10, 6, 6].getD d 0
theorem c_copyV {σ : Dt} {a b : Nat} (ha : a ∈ vlist) (hb : b ∈ vlist) (hab : a + 7 < b ∨ b + 7 < a) (hR : RefX σ) : ∃ σ', f_X9_copyFrom a (some b) σ = some ((), σ') ∧ Cpd σ σ' a b 7 lV := by
  have xg : ∀ j σ, xgi SX 9 j (some b) σ = some (σ.1 b j) := fun j σ => cgi hb j
  have xp : ∀ j v σ, xpi SX 9 j (some a) v σ = some (setX σ a j v) := fun j v σ => xpi_of (v_sh a ha).1 (v_sh a ha).2.1
  have xra : ∀ j σ, xgr SX 9 j (some a) σ = some (σ.2.2 a j) := fun j σ => xgr_of (v_sh a ha).1 (v_sh a ha).2.1
  have xrb : ∀ j σ, xgr SX 9 j (some b) σ = some (σ.2.2 b j) := fun j σ => xgr_of (v_sh b hb).1 (v_sh b hb).2.1
  have ra : ∀ j, j < 10 → σ.2.2 a j = rX a j := fun j hj => hR.1 a j (Nat.lt_of_lt_of_le hj (v_rf a ha).1) (fun h => (v_rf a ha).2.1 h.1)
  have rb : ∀ j, j < 10 → σ.2.2 b j = rX b j := fun j hj => hR.1 b j (Nat.lt_of_lt_of_le hj (v_rf b hb).1) (fun h => (v_rf b hb).2.1 h.1)
  obtain ⟨-, -, a3, a4, a5, a6, a7, a8, a9⟩ := v_rf a ha
  obtain ⟨-, -, b3, b4, b5, b6, b7, b8, b9⟩ := v_rf b hb
  obtain ⟨-, -, s1, s2, s3, s4, s5, s6, s7⟩ := v_sh a ha
  obtain ⟨-, -, t1, t2, t3, t4, t5, t6, t7⟩ := v_sh b hb
  have k1 : ∀ σ, xcp SX (some (b + 1)) 0 (some (a + 1)) 0 10 σ = some (cpR σ (b + 1) (a + 1) 10) := fun σ => xcp_of (n := 10) ⟨t1.1, t1.2.1⟩ ⟨s1.1, s1.2.1⟩ (by decide) (by omega) (by omega)
  have k2 : ∀ σ, xcp SX (some (b + 2)) 0 (some (a + 2)) 0 10 σ = some (cpR σ (b + 2) (a + 2) 10) := fun σ => xcp_of (n := 10) ⟨t2.1, t2.2.1⟩ ⟨s2.1, s2.2.1⟩ (by decide) (by omega) (by omega)
  have k3 : ∀ σ, xcp SX (some (b + 3)) 0 (some (a + 3)) 0 10 σ = some (cpR σ (b + 3) (a + 3) 10) := fun σ => xcp_of (n := 10) ⟨t3.1, t3.2.1⟩ ⟨s3.1, s3.2.1⟩ (by decide) (by omega) (by omega)
  have k4 : ∀ σ, xcp SX (some (b + 4)) 0 (some (a + 4)) 0 10 σ = some (cpR σ (b + 4) (a + 4) 10) := fun σ => xcp_of (n := 10) ⟨t4.1, t4.2.1⟩ ⟨s4.1, s4.2.1⟩ (by decide) (by omega) (by omega)
  have k5 : ∀ σ, xcp SX (some (b + 5)) 0 (some (a + 5)) 0 10 σ = some (cpR σ (b + 5) (a + 5) 10) := fun σ => xcp_of (n := 10) ⟨t5.1, t5.2.1⟩ ⟨s5.1, s5.2.1⟩ (by decide) (by omega) (by omega)
  have k6 : ∀ σ, xcp SX (some (b + 6)) 0 (some (a + 6)) 0 6 σ = some (cpR σ (b + 6) (a + 6) 6) := fun σ => xcp_of (n := 6) ⟨t6.1, t6.2.1⟩ ⟨s6.1, s6.2.1⟩ (by decide) (by omega) (by omega)
  have k7 : ∀ σ, xcp SX (some (b + 7)) 0 (some (a + 7)) 0 6 σ = some (cpR σ (b + 7) (a + 7) 6) := fun σ => xcp_of (n := 6) ⟨t7.1, t7.2.1⟩ ⟨s7.1, s7.2.1⟩ (by decide) (by omega) (by omega)
  unfold f_X9_copyFrom
  simp only [ite_none, xg, xp, xra, xrb, bo_s, cpR_2, setX_2, ra 3 (by decide), rb 3 (by decide), ra 4 (by decide), rb 4 (by decide), ra 5 (by decide), rb 5 (by decide), ra 6 (by decide), rb 6 (by decide), ra 7 (by decide), rb 7 (by decide), ra 8 (by decide), rb 8 (by decide), ra 9 (by decide), rb 9 (by decide), a3, a4, a5, a6, a7, a8, a9, b3, b4, b5, b6, b7, b8, b9, k1, k2, k3, k4, k5, k6, k7]
  refine ⟨_, rfl, rfl, fun x hx => ?_, fun d hd j hj => ?_⟩
  · simp (disch := omega) only [cpR_o, setX_o]
  · rcases (show d = 0 ∨ d = 1 ∨ d = 2 ∨ d = 3 ∨ d = 4 ∨ d = 5 ∨ d = 6 ∨ d = 7 by omega) with rfl | rfl | rfl | rfl | rfl | rfl | rfl | rfl
    · simp (disch := omega) only [cpR_o, setX_o, Nat.add_zero]
      rcases (show j = 0 ∨ j = 1 ∨ j = 2 by (have : j < 3 := hj; omega)) with rfl | rfl | rfl
      · simp (disch := omega) only [setX_j, setX_n, setX_o]
      · simp (disch := omega) only [setX_j, setX_n, setX_o]
      · simp (disch := omega) only [setX_j, setX_n, setX_o]
    · have hj2 : j < 10 := hj
      simp (disch := omega) only [cpR_o, setX_o, cpR_b]
    · have hj2 : j < 10 := hj
      simp (disch := omega) only [cpR_o, setX_o, cpR_b]
    · have hj2 : j < 10 := hj
      simp (disch := omega) only [cpR_o, setX_o, cpR_b]
    · have hj2 : j < 10 := hj
      simp (disch := omega) only [cpR_o, setX_o, cpR_b]
    · have hj2 : j < 10 := hj
      simp (disch := omega) only [cpR_o, setX_o, cpR_b]
    · have hj2 : j < 6 := hj
      simp (disch := omega) only [cpR_o, setX_o, cpR_b]
    · have hj2 : j < 6 := hj
      simp (disch := omega) only [cpR_o, setX_o, cpR_b]
def llist2 : List Nat := [14, 30, 53, 69, 91, 107, 129, 145, 164]
theorem llist2_sh : ∀ l ∈ llist2, l < SX.1 ∧ SX.2.1 l = 4 ∧ (l + 1 < SX.1 ∧ SX.2.1 (l + 1) = 13 ∧ SX.2.2 (l + 1) = 40) ∧ (l + 2 < SX.1 ∧ SX.2.1 (l + 2) = 13 ∧ SX.2.2 (l + 2) = 40) ∧ (l + 3 < SX.1 ∧ SX.2.1 (l + 3) = 13 ∧ SX.2.2 (l + 3) = 40) ∧ (l + 4 < SX.1 ∧ SX.2.1 (l + 4) = 13 ∧ SX.2.2 (l + 4) = 40) := by decide
theorem llist2_rf : ∀ l ∈ llist2, 5 ≤ (rXT.getD l []).length ∧ ¬ l = 155 ∧ rX l 1 = some (l + 1) ∧ rX l 2 = some (l + 2) ∧ rX l 3 = some (l + 3) ∧ rX l 4 = some (l + 4) := by decide
def lL (d : Nat) : Nat := [1, 40, 40, 40, 40].getD d 0
theorem c_copyL {σ : Dt} {a b : Nat} (ha : a ∈ llist2) (hb : b ∈ llist2) (hab : a + 4 < b ∨ b + 4 < a) (hR : RefX σ) : ∃ σ', f_X4_copyFrom a (some b) σ = some ((), σ') ∧ Cpd σ σ' a b 4 lL := by
  have xg : ∀ j σ, xgi SX 4 j (some b) σ = some (σ.1 b j) := fun j σ => xgi_of (llist2_sh b hb).1 (llist2_sh b hb).2.1
  have xp : ∀ j v σ, xpi SX 4 j (some a) v σ = some (setX σ a j v) := fun j v σ => xpi_of (llist2_sh a ha).1 (llist2_sh a ha).2.1
  have xra : ∀ j σ, xgr SX 4 j (some a) σ = some (σ.2.2 a j) := fun j σ => xgr_of (llist2_sh a ha).1 (llist2_sh a ha).2.1
  have xrb : ∀ j σ, xgr SX 4 j (some b) σ = some (σ.2.2 b j) := fun j σ => xgr_of (llist2_sh b hb).1 (llist2_sh b hb).2.1
  have ra : ∀ j, j < 5 → σ.2.2 a j = rX a j := fun j hj => hR.1 a j (Nat.lt_of_lt_of_le hj (llist2_rf a ha).1) (fun h => (llist2_rf a ha).2.1 h.1)
  have rb : ∀ j, j < 5 → σ.2.2 b j = rX b j := fun j hj => hR.1 b j (Nat.lt_of_lt_of_le hj (llist2_rf b hb).1) (fun h => (llist2_rf b hb).2.1 h.1)
  obtain ⟨-, -, a1, a2, a3, a4⟩ := llist2_rf a ha
  obtain ⟨-, -, b1, b2, b3, b4⟩ := llist2_rf b hb
  obtain ⟨-, -, s1, s2, s3, s4⟩ := llist2_sh a ha
  obtain ⟨-, -, t1, t2, t3, t4⟩ := llist2_sh b hb
  have k1 : ∀ σ, xcp SX (some (b + 1)) 0 (some (a + 1)) 0 40 σ = some (cpR σ (b + 1) (a + 1) 40) := fun σ => xcp_of (n := 40) ⟨t1.1, t1.2.1⟩ ⟨s1.1, s1.2.1⟩ (by decide) (by omega) (by omega)
  have k2 : ∀ σ, xcp SX (some (b + 2)) 0 (some (a + 2)) 0 40 σ = some (cpR σ (b + 2) (a + 2) 40) := fun σ => xcp_of (n := 40) ⟨t2.1, t2.2.1⟩ ⟨s2.1, s2.2.1⟩ (by decide) (by omega) (by omega)
  have k3 : ∀ σ, xcp SX (some (b + 3)) 0 (some (a + 3)) 0 40 σ = some (cpR σ (b + 3) (a + 3) 40) := fun σ => xcp_of (n := 40) ⟨t3.1, t3.2.1⟩ ⟨s3.1, s3.2.1⟩ (by decide) (by omega) (by omega)
  have k4 : ∀ σ, xcp SX (some (b + 4)) 0 (some (a + 4)) 0 40 σ = some (cpR σ (b + 4) (a + 4) 40) := fun σ => xcp_of (n := 40) ⟨t4.1, t4.2.1⟩ ⟨s4.1, s4.2.1⟩ (by decide) (by omega) (by omega)
  unfold f_X4_copyFrom
  simp only [ite_none, xg, xp, xra, xrb, bo_s, cpR_2, setX_2, ra 1 (by decide), rb 1 (by decide), ra 2 (by decide), rb 2 (by decide), ra 3 (by decide), rb 3 (by decide), ra 4 (by decide), rb 4 (by decide), a1, b1, a2, b2, a3, b3, a4, b4, k1, k2, k3, k4]
  refine ⟨_, rfl, rfl, fun x hx => ?_, fun d hd j hj => ?_⟩
  · simp (disch := omega) only [cpR_o, setX_o]
  · rcases (show d = 0 ∨ d = 1 ∨ d = 2 ∨ d = 3 ∨ d = 4 by omega) with rfl | rfl | rfl | rfl | rfl
    · simp (disch := omega) only [cpR_o, setX_o, Nat.add_zero]
      rcases (show j = 0 by (have : j < 1 := hj; omega)) with rfl
      · simp (disch := omega) only [setX_j, setX_n, setX_o]
    · have hj2 : j < 40 := hj
      simp (disch := omega) only [cpR_o, setX_o, cpR_b]
    · have hj2 : j < 40 := hj
      simp (disch := omega) only [cpR_o, setX_o, cpR_b]
    · have hj2 : j < 40 := hj
      simp (disch := omega) only [cpR_o, setX_o, cpR_b]
    · have hj2 : j < 40 := hj
      simp (disch := omega) only [cpR_o, setX_o, cpR_b]
def slist2 : List Nat := [19, 35, 58, 74, 96, 112, 134, 150, 169]
theorem slist2_sh : ∀ l ∈ slist2, l < SX.1 ∧ SX.2.1 l = 6 ∧ (l + 1 < SX.1 ∧ SX.2.1 (l + 1) = 13 ∧ SX.2.2 (l + 1) = 8) ∧ (l + 2 < SX.1 ∧ SX.2.1 (l + 2) = 13 ∧ SX.2.2 (l + 2) = 8) := by decide
theorem slist2_rf : ∀ l ∈ slist2, 4 ≤ (rXT.getD l []).length ∧ ¬ l = 155 ∧ rX l 2 = some (l + 1) ∧ rX l 3 = some (l + 2) := by decide
def lS (d : Nat) : Nat := [2, 8, 8].getD d 0
theorem c_copyS {σ : Dt} {a b : Nat} (ha : a ∈ slist2) (hb : b ∈ slist2) (hab : a + 2 < b ∨ b + 2 < a) (hR : RefX σ) : ∃ σ', f_X6_copyFrom a (some b) σ = some ((), σ') ∧ Cpd σ σ' a b 2 lS := by
  have xg : ∀ j σ, xgi SX 6 j (some b) σ = some (σ.1 b j) := fun j σ => xgi_of (slist2_sh b hb).1 (slist2_sh b hb).2.1
  have xp : ∀ j v σ, xpi SX 6 j (some a) v σ = some (setX σ a j v) := fun j v σ => xpi_of (slist2_sh a ha).1 (slist2_sh a ha).2.1
  have xra : ∀ j σ, xgr SX 6 j (some a) σ = some (σ.2.2 a j) := fun j σ => xgr_of (slist2_sh a ha).1 (slist2_sh a ha).2.1
  have xrb : ∀ j σ, xgr SX 6 j (some b) σ = some (σ.2.2 b j) := fun j σ => xgr_of (slist2_sh b hb).1 (slist2_sh b hb).2.1
  have ra : ∀ j, j < 4 → σ.2.2 a j = rX a j := fun j hj => hR.1 a j (Nat.lt_of_lt_of_le hj (slist2_rf a ha).1) (fun h => (slist2_rf a ha).2.1 h.1)
  have rb : ∀ j, j < 4 → σ.2.2 b j = rX b j := fun j hj => hR.1 b j (Nat.lt_of_lt_of_le hj (slist2_rf b hb).1) (fun h => (slist2_rf b hb).2.1 h.1)
  obtain ⟨-, -, a1, a2⟩ := slist2_rf a ha
  obtain ⟨-, -, b1, b2⟩ := slist2_rf b hb
  obtain ⟨-, -, s1, s2⟩ := slist2_sh a ha
  obtain ⟨-, -, t1, t2⟩ := slist2_sh b hb
  have k1 : ∀ σ, xcp SX (some (b + 1)) 0 (some (a + 1)) 0 8 σ = some (cpR σ (b + 1) (a + 1) 8) := fun σ => xcp_of (n := 8) ⟨t1.1, t1.2.1⟩ ⟨s1.1, s1.2.1⟩ (by decide) (by omega) (by omega)
  have k2 : ∀ σ, xcp SX (some (b + 2)) 0 (some (a + 2)) 0 8 σ = some (cpR σ (b + 2) (a + 2) 8) := fun σ => xcp_of (n := 8) ⟨t2.1, t2.2.1⟩ ⟨s2.1, s2.2.1⟩ (by decide) (by omega) (by omega)
  unfold f_X6_copyFrom
  simp only [ite_none, xg, xp, xra, xrb, bo_s, cpR_2, setX_2, ra 2 (by decide), rb 2 (by decide), ra 3 (by decide), rb 3 (by decide), a1, b1, a2, b2, k1, k2]
  refine ⟨_, rfl, rfl, fun x hx => ?_, fun d hd j hj => ?_⟩
  · simp (disch := omega) only [cpR_o, setX_o]
  · rcases (show d = 0 ∨ d = 1 ∨ d = 2 by omega) with rfl | rfl | rfl
    · simp (disch := omega) only [cpR_o, setX_o, Nat.add_zero]
      rcases (show j = 0 ∨ j = 1 by (have : j < 2 := hj; omega)) with rfl | rfl
      · simp (disch := omega) only [setX_j, setX_n, setX_o]
      · simp (disch := omega) only [setX_j, setX_n, setX_o]
    · have hj2 : j < 8 := hj
      simp (disch := omega) only [cpR_o, setX_o, cpR_b]
    · have hj2 : j < 8 := hj
      simp (disch := omega) only [cpR_o, setX_o, cpR_b]
