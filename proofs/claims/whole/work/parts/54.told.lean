/-! ===== a told state copied ===== -/
theorem RefX_2 {σ σ' : Dt} (h : σ'.2 = σ.2) (hR : RefX σ) : RefX σ' := by
  unfold RefX at *
  rw [h]
  exact hR
def lB (d : Nat) : Nat := [3, 10, 10, 10, 10, 10, 6, 6, 1, 40, 40, 40, 40, 2, 8, 8].getD d 0
theorem lB_v : ∀ d, d ≤ 7 → lB d = lV d := by decide
theorem lB_l : ∀ d, d ≤ 4 → lB (8 + d) = lL d := by decide
theorem lB_s : ∀ d, d ≤ 2 → lB (13 + d) = lS d := by decide
theorem Cpd3 {σ σ1 σ2 σ3 : Dt} {a b : Nat} (hab : a + 15 < b ∨ b + 15 < a) (h1 : Cpd σ σ1 a b 7 lV) (h2 : Cpd σ1 σ2 (a + 8) (b + 8) 4 lL) (h3 : Cpd σ2 σ3 (a + 13) (b + 13) 2 lS) : Cpd σ σ3 a b 15 lB := by
  obtain ⟨e1, o1, c1⟩ := h1
  obtain ⟨e2, o2, c2⟩ := h2
  obtain ⟨e3, o3, c3⟩ := h3
  refine ⟨by rw [e3, e2, e1], fun x hx => by rw [o3 x (by omega), o2 x (by omega), o1 x (by omega)], fun d hd j hj => ?_⟩
  rcases (show d ≤ 7 ∨ (8 ≤ d ∧ d ≤ 12) ∨ (13 ≤ d ∧ d ≤ 15) by omega) with q | q | q
  · rw [lB_v d q] at hj
    rw [o3 _ (by omega), o2 _ (by omega), c1 d q j hj]
  · have hj2 := hj
    rw [show d = 8 + (d - 8) by omega, lB_l (d - 8) (by omega)] at hj2
    have := c2 (d - 8) (by omega) j hj2
    rw [show a + 8 + (d - 8) = a + d by omega, show b + 8 + (d - 8) = b + d by omega] at this
    rw [o3 _ (by omega), this, o1 _ (by omega)]
  · have hj2 := hj
    rw [show d = 13 + (d - 13) by omega, lB_s (d - 13) (by omega)] at hj2
    have := c3 (d - 13) (by omega) j hj2
    rw [show a + 13 + (d - 13) = a + d by omega, show b + 13 + (d - 13) = b + d by omega] at this
    rw [this, o2 _ (by omega), o1 _ (by omega)]
def tlist : List Nat := [1, 40, 78, 116]
theorem t_sh : ∀ t ∈ tlist, t < SX.1 ∧ SX.2.1 t = 8 ∧ (t + 1 < SX.1 ∧ SX.2.1 (t + 1) = 13 ∧ SX.2.2 (t + 1) = 600) ∧ (t + 2 < SX.1 ∧ SX.2.1 (t + 2) = 19 ∧ SX.2.2 (t + 2) = 2) ∧ (t + 3 < SX.1 ∧ SX.2.1 (t + 3) = 16 ∧ SX.2.2 (t + 3) = 2) ∧ (t + 4 < SX.1 ∧ SX.2.1 (t + 4) = 17 ∧ SX.2.2 (t + 4) = 2) ∧ (t + 37 < SX.1 ∧ SX.2.1 (t + 37) = 13 ∧ SX.2.2 (t + 37) = 3) := by decide
theorem t_rf : ∀ t ∈ tlist, 8 ≤ (rXT.getD t []).length ∧ ¬ t = 155 ∧ rX t 0 = some (t + 1) ∧ rX t 4 = some (t + 2) ∧ rX t 5 = some (t + 3) ∧ rX t 6 = some (t + 4) ∧ rX t 7 = some (t + 37) := by decide
theorem t_ch : ∀ t ∈ tlist, ∀ k, k < 2 → 2 ≤ (rXT.getD (t + 2) []).length ∧ 2 ≤ (rXT.getD (t + 3) []).length ∧ 2 ≤ (rXT.getD (t + 4) []).length ∧ ¬ t + 2 = 155 ∧ ¬ t + 3 = 155 ∧ ¬ t + 4 = 155 ∧ rX (t + 2) k = some (t + 5 + 16 * k) ∧ rX (t + 3) k = some (t + 5 + 16 * k + 8) ∧ rX (t + 4) k = some (t + 5 + 16 * k + 13) ∧ t + 5 + 16 * k ∈ vlist ∧ t + 5 + 16 * k + 8 ∈ llist2 ∧ t + 5 + 16 * k + 13 ∈ slist2 := by decide
theorem t_ap : ∀ t ∈ tlist, ∀ u ∈ tlist, ¬ t = u → t + 37 < u ∨ u + 37 < t := by decide
theorem c_copy1 {σ : Dt} {t u k : Nat} (ht : t ∈ tlist) (hu : u ∈ tlist) (htu : ¬ t = u) (hk : k < 2) (hR : RefX σ) : ∃ σ', f_X8_copyFrom_L47 t (some u) (nI k) σ = some (.inl (nI (k + 1), σ')) ∧ Cpd σ σ' (t + 5 + 16 * k) (u + 5 + 16 * k) 15 lB := by
  have hap := t_ap t ht u hu htu
  have xra : ∀ j σ, xgr SX 8 j (some t) σ = some (σ.2.2 t j) := fun j σ => xgr_of (t_sh t ht).1 (t_sh t ht).2.1
  have xrb : ∀ j σ, xgr SX 8 j (some u) σ = some (σ.2.2 u j) := fun j σ => xgr_of (t_sh u hu).1 (t_sh u hu).2.1
  obtain ⟨tl, tn, t0, t4, t5, t6, t7⟩ := t_rf t ht
  obtain ⟨ul, un, u0, u4, u5, u6, u7⟩ := t_rf u hu
  obtain ⟨-, -, s1, s2, s3, s4, s5⟩ := t_sh t ht
  obtain ⟨-, -, w1, w2, w3, w4, w5⟩ := t_sh u hu
  obtain ⟨a1, a2, a3, a4, a5, a6, a7, a8, a9, va, la, sa⟩ := t_ch t ht k hk
  obtain ⟨b1, b2, b3, b4, b5, b6, b7, b8, b9, vb, lb, sb⟩ := t_ch u hu k hk
  have rt : ∀ (σ : Dt), RefX σ → ∀ j, j < 8 → σ.2.2 t j = rX t j := fun σ hR j hj => hR.1 t j (by omega) (fun h => tn h.1)
  have ru : ∀ (σ : Dt), RefX σ → ∀ j, j < 8 → σ.2.2 u j = rX u j := fun σ hR j hj => hR.1 u j (by omega) (fun h => un h.1)
  obtain ⟨σ1, q1, h1⟩ := c_copyV va vb (by omega) hR
  have hR1 := RefX_2 h1.1 hR
  obtain ⟨σ2, q2, h2⟩ := c_copyL la lb (by omega) hR1
  have hR2 := RefX_2 h2.1 hR1
  obtain ⟨σ3, q3, h3⟩ := c_copyS sa sb (by omega) hR2
  refine ⟨σ3, ?_, Cpd3 (by omega) h1 h2 h3⟩
  unfold f_X8_copyFrom_L47
  rw [if_neg (show ¬ (2 : Int32) ≤ nI k from nI_ge (b := 2) (by omega) (by decide))]
  have xt4 : xar SX 19 (some (t + 2)) (nI k) σ = some (some (t + 5 + 16 * k)) := by rw [xar_of s2.1 s2.2.1 (by omega) (by omega), hR.1 _ _ (by omega) (fun h => a4 h.1), a7]
  have xu4 : xar SX 19 (some (u + 2)) (nI k) σ = some (some (u + 5 + 16 * k)) := by rw [xar_of w2.1 w2.2.1 (by omega) (by omega), hR.1 _ _ (by omega) (fun h => b4 h.1), b7]
  have xt5 : xar SX 16 (some (t + 3)) (nI k) σ1 = some (some (t + 5 + 16 * k + 8)) := by rw [xar_of s3.1 s3.2.1 (by omega) (by omega), hR1.1 _ _ (by omega) (fun h => a5 h.1), a8]
  have xu5 : xar SX 16 (some (u + 3)) (nI k) σ1 = some (some (u + 5 + 16 * k + 8)) := by rw [xar_of w3.1 w3.2.1 (by omega) (by omega), hR1.1 _ _ (by omega) (fun h => b5 h.1), b8]
  have xt6 : xar SX 17 (some (t + 4)) (nI k) σ2 = some (some (t + 5 + 16 * k + 13)) := by rw [xar_of s4.1 s4.2.1 (by omega) (by omega), hR2.1 _ _ (by omega) (fun h => a6 h.1), a9]
  have xu6 : xar SX 17 (some (u + 4)) (nI k) σ2 = some (some (u + 5 + 16 * k + 13)) := by rw [xar_of w4.1 w4.2.1 (by omega) (by omega), hR2.1 _ _ (by omega) (fun h => b6 h.1), b9]
  have r1 : xrc SX 9 (some (t + 5 + 16 * k)) = some (t + 5 + 16 * k) := crc va
  have r2 : xrc SX 4 (some (t + 5 + 16 * k + 8)) = some (t + 5 + 16 * k + 8) := xrc_of (llist2_sh _ la).1 (llist2_sh _ la).2.1
  have r3 : xrc SX 6 (some (t + 5 + 16 * k + 13)) = some (t + 5 + 16 * k + 13) := xrc_of (slist2_sh _ sa).1 (slist2_sh _ sa).2.1
  simp only [xra, xrb, bo_s, bd_s, rt σ hR 4 (by decide), ru σ hR 4 (by decide), t4, u4, xt4, xu4, r1, q1, rt σ1 hR1 5 (by decide), ru σ1 hR1 5 (by decide), t5, u5, xt5, xu5, r2, q2, rt σ2 hR2 6 (by decide), ru σ2 hR2 6 (by decide), t6, u6, xt6, xu6, r3, q3, nI_1]
theorem iter2 {S X : Type} {f : S → Option (S ⊕ X)} {s0 s1 s2 : S} {x : X} (h0 : f s0 = some (.inl s1)) (h1 : f s1 = some (.inl s2)) (h2 : f s2 = some (.inr x)) : iter FU f s0 = some x := by
  refine iter_n (st := fun i => match i with | 0 => s0 | 1 => s1 | _ => s2) x 2 (by decide) (fun j hj => ?_) h2
  rcases (show j = 0 ∨ j = 1 by omega) with rfl | rfl
  · exact h0
  · exact h1
/-- a told state taken over -/
def CpB (σ σ' : Dt) (t u : Nat) : Prop := (∀ j, 1 ≤ j → j < 4 → σ'.1 t j = σ.1 u j) ∧ (∀ j, j < 600 → σ'.1 (t + 1) j = σ.1 (u + 1) j) ∧ (∀ k, k < 2 → ∀ d, d ≤ 15 → ∀ j, j < lB d → σ'.1 (t + 5 + 16 * k + d) j = σ.1 (u + 5 + 16 * k + d) j) ∧ ∀ j, j < 3 → σ'.1 (t + 37) j = σ.1 (u + 37) j
def CpT (σ σ' : Dt) (t u : Nat) : Prop := σ'.2 = σ.2 ∧ (∀ x, (x < t ∨ t + 37 < x) → σ'.1 x = σ.1 x) ∧ CpB σ σ' t u
theorem c_copyT {σ : Dt} {t u : Nat} (ht : t ∈ tlist) (hu : u ∈ tlist) (htu : ¬ t = u) (hR : RefX σ) : ∃ σ', f_X8_copyFrom t (some u) σ = some ((), σ') ∧ CpT σ σ' t u := by
  have hap := t_ap t ht u hu htu
  have xra : ∀ j σ, xgr SX 8 j (some t) σ = some (σ.2.2 t j) := fun j σ => xgr_of (t_sh t ht).1 (t_sh t ht).2.1
  have xrb : ∀ j σ, xgr SX 8 j (some u) σ = some (σ.2.2 u j) := fun j σ => xgr_of (t_sh u hu).1 (t_sh u hu).2.1
  have xg : ∀ j σ, xgi SX 8 j (some u) σ = some (σ.1 u j) := fun j σ => xgi_of (t_sh u hu).1 (t_sh u hu).2.1
  have xp : ∀ j v σ, xpi SX 8 j (some t) v σ = some (setX σ t j v) := fun j v σ => xpi_of (t_sh t ht).1 (t_sh t ht).2.1
  obtain ⟨tl, tn, t0, t4, t5, t6, t7⟩ := t_rf t ht
  obtain ⟨ul, un, u0, u4, u5, u6, u7⟩ := t_rf u hu
  obtain ⟨-, -, s1, s2, s3, s4, s5⟩ := t_sh t ht
  obtain ⟨-, -, w1, w2, w3, w4, w5⟩ := t_sh u hu
  have rt : ∀ (σ : Dt), RefX σ → ∀ j, j < 8 → σ.2.2 t j = rX t j := fun σ hR j hj => hR.1 t j (by omega) (fun h => tn h.1)
  have ru : ∀ (σ : Dt), RefX σ → ∀ j, j < 8 → σ.2.2 u j = rX u j := fun σ hR j hj => hR.1 u j (by omega) (fun h => un h.1)
  have k1 : ∀ σ, xcp SX (some (u + 1)) 0 (some (t + 1)) 0 600 σ = some (cpR σ (u + 1) (t + 1) 600) := fun σ => xcp_of (n := 600) ⟨w1.1, w1.2.1⟩ ⟨s1.1, s1.2.1⟩ (by decide) (by omega) (by omega)
  have k2 : ∀ σ, xcp SX (some (u + 37)) 0 (some (t + 37)) 0 3 σ = some (cpR σ (u + 37) (t + 37) 3) := fun σ => xcp_of (n := 3) ⟨w5.1, w5.2.1⟩ ⟨s5.1, s5.2.1⟩ (by decide) (by omega) (by omega)
  unfold f_X8_copyFrom
  simp only [ite_none, xra, xrb, xg, xp, bo_s, rt σ hR 0 (by decide), ru σ hR 0 (by decide), t0, u0, k1]
  generalize hσ4 : setX (setX (setX (cpR σ (u + 1) (t + 1) 600) t 1 ((cpR σ (u + 1) (t + 1) 600).1 u 1)) t 2 ((setX (cpR σ (u + 1) (t + 1) 600) t 1 ((cpR σ (u + 1) (t + 1) 600).1 u 1)).1 u 2)) t 3 ((setX (setX (cpR σ (u + 1) (t + 1) 600) t 1 ((cpR σ (u + 1) (t + 1) 600).1 u 1)) t 2 ((setX (cpR σ (u + 1) (t + 1) 600) t 1 ((cpR σ (u + 1) (t + 1) 600).1 u 1)).1 u 2)).1 u 3) = σ4
  have hR4 : RefX σ4 := by rw [← hσ4]; exact hR
  have e4 : σ4.2 = σ.2 := by rw [← hσ4]; rfl
  have o4 : ∀ x, ¬ x = t → ¬ x = t + 1 → σ4.1 x = σ.1 x := by
    intro x h1 h2
    rw [← hσ4]
    simp (disch := omega) only [setX_o, cpR_o]
  have f4 : ∀ j, 1 ≤ j → j < 4 → σ4.1 t j = σ.1 u j := by
    intro j h1 h2
    rw [← hσ4]
    rcases (show j = 1 ∨ j = 2 ∨ j = 3 by omega) with rfl | rfl | rfl
    · simp (disch := omega) only [setX_j, setX_n, setX_o, cpR_o]
    · simp (disch := omega) only [setX_j, setX_n, setX_o, cpR_o]
    · simp (disch := omega) only [setX_j, setX_n, setX_o, cpR_o]
  have p4 : ∀ j, j < 600 → σ4.1 (t + 1) j = σ.1 (u + 1) j := by
    intro j h1
    rw [← hσ4]
    simp (disch := omega) only [setX_o, cpR_b]
  obtain ⟨σ5, q5, c5⟩ := c_copy1 ht hu htu (k := 0) (by decide) hR4
  have hR5 := RefX_2 c5.1 hR4
  obtain ⟨σ6, q6, c6⟩ := c_copy1 ht hu htu (k := 1) (by decide) hR5
  have hR6 := RefX_2 c6.1 hR5
  have hit : iter FU (fun s => f_X8_copyFrom_L47 t (some u) s.1 s.2) ((0 : Int32), σ4) = some σ6 := iter2 (s1 := (nI 1, σ5)) (s2 := (nI 2, σ6)) q5 q6 rfl
  rw [hit]
  simp only [bo_s, rt σ6 hR6 7 (by decide), ru σ6 hR6 7 (by decide), t7, u7, k2]
  obtain ⟨e5, o5, c5⟩ := c5
  obtain ⟨e6, o6, c6⟩ := c6
  refine ⟨_, rfl, ?_, fun x hx => ?_, fun j h1 h2 => ?_, fun j h1 => ?_, fun k hk d hd j hj => ?_, fun j hj => ?_⟩
  · show σ6.2 = σ.2
    rw [e6, e5, e4]
  · rw [cpR_o (by omega), o6 x (by omega), o5 x (by omega), o4 x (by omega) (by omega)]
  · rw [cpR_o (by omega), o6 t (by omega), o5 t (by omega), f4 j h1 h2]
  · rw [cpR_o (by omega), o6 _ (by omega), o5 _ (by omega), p4 j h1]
  · rw [cpR_o (by omega)]
    rcases (show k = 0 ∨ k = 1 by omega) with rfl | rfl
    · rw [o6 _ (by omega), c5 d hd j hj, o4 _ (by omega) (by omega)]
    · rw [c6 d hd j hj, o5 _ (by omega), o4 _ (by omega) (by omega)]
  · rw [cpR_b hj, o6 _ (by omega), o5 _ (by omega), o4 _ (by omega) (by omega)]
theorem VW_c {A A' : Nat → Int32} {F W : Nat} (e : ∀ i, i < 55 → A' i = A i) (h : VW A F W) : VW A' F W := by
  obtain ⟨h0, h1, hF, hW, h2, hf, hw⟩ := h
  refine ⟨(e 0 (by decide)).trans h0, (e 1 (by decide)).trans h1, hF, hW, ?_, fun f q => ?_, fun w q => ?_⟩
  · rw [e 2 (by decide)]; exact h2
  · rw [e _ (by omega), e _ (by omega), e _ (by omega), e _ (by omega)]; exact hf f q
  · rw [e _ (by omega), e _ (by omega)]; exact hw w q
theorem strA_c {A A' : Nat → Int32} (e : ∀ i, i < 55 → A' i = A i) (s wo : Int32) : ∀ n, n ≤ 10 → strA A' s wo n = strA A s wo n
  | 0, _ => rfl
  | n + 1, h => by rw [strA, strA, strA_c e s wo n (by omega), e _ (by omega)]
theorem VR_c {σ σ' : Dt} {v v' : Nat} {A A' : Nat → Int32} (e : ∀ i, i < 55 → A' i = A i) (c : ∀ d, d ≤ 7 → ∀ j, j < lV d → σ'.1 (v' + d) j = σ.1 (v + d) j) (h : VR σ v A) : VR σ' v' A' := by
  obtain ⟨h0, h1, h2, hf, hw⟩ := h
  refine ⟨?_, ?_, ?_, fun f q => ?_, fun w q q2 => ?_⟩
  · rw [e _ (by decide), ← h0]; exact c 0 (by decide) 0 (by decide)
  · rw [e _ (by decide), ← h1]; exact c 0 (by decide) 1 (by decide)
  · rw [e _ (by decide), ← h2]; exact c 0 (by decide) 2 (by decide)
  · rw [e 0 (by decide), e (3 + 4 * f) (by omega), e (4 + 4 * f) (by omega), e (5 + 4 * f) (by omega), e (6 + 4 * f) (by omega), c 1 (by decide) f q, c 2 (by decide) f q, c 3 (by decide) f q, c 4 (by decide) f q]
    exact hf f q
  · rw [e 1 (by decide)] at q2
    rw [e (43 + 2 * w) (by omega), e (44 + 2 * w) (by omega), c 6 (by decide) w q, c 7 (by decide) w q]
    exact hw w q q2
theorem HR_c {σ σ' : Dt} {v v' F : Nat} {A A' : Nat → Int32} (e : ∀ i, i < 55 → A' i = A i) (hF : F ≤ 10) (c : ∀ d, d ≤ 7 → ∀ j, j < lV d → σ'.1 (v' + d) j = σ.1 (v + d) j) (h : HR σ v A F) : HR σ' v' A' F := by
  intro f q
  rw [c 5 (by decide) f q, h f q, e _ (by omega), strA_c e _ _ F hF]
theorem LW_c {A A' : Nat → Int32} (e : ∀ i, i < 161 → A' i = A i) (h : LW A) : LW A' := by
  obtain ⟨n, h0, hn, hk⟩ := h
  refine ⟨n, (e 0 (by decide)).trans h0, hn, fun k q => ?_⟩
  rw [e _ (by omega), e _ (by omega), e _ (by omega), e _ (by omega)]
  exact hk k q
theorem LR_c {σ σ' : Dt} {v v' : Nat} {A A' : Nat → Int32} (e : ∀ i, i < 161 → A' i = A i) (c : ∀ d, d ≤ 4 → ∀ j, j < lL d → σ'.1 (v' + d) j = σ.1 (v + d) j) (h : LR σ v A) : LR σ' v' A' := by
  obtain ⟨h0, hk⟩ := h
  refine ⟨?_, fun k q z => ?_⟩
  · rw [e _ (by decide), ← h0]; exact c 0 (by decide) 0 (by decide)
  · rw [e 0 (by decide)] at z
    rw [e _ (by omega), e _ (by omega), e _ (by omega), e _ (by omega), c 1 (by decide) k q, c 2 (by decide) k q, c 3 (by decide) k q, c 4 (by decide) k q]
    exact hk k q z
theorem SW_c {A A' : Nat → Int32} (e : ∀ i, i < 18 → A' i = A i) (h : SW A) : SW A' := by
  obtain ⟨h0, n, h1, hn, hk⟩ := h
  refine ⟨?_, n, (e 1 (by decide)).trans h1, hn, fun k q => ?_⟩
  · rw [e _ (by decide)]; exact h0
  · rw [e _ (by omega), e _ (by omega)]
    exact hk k q
theorem SR_c {σ σ' : Dt} {v v' : Nat} {A A' : Nat → Int32} (e : ∀ i, i < 18 → A' i = A i) (c : ∀ d, d ≤ 2 → ∀ j, j < lS d → σ'.1 (v' + d) j = σ.1 (v + d) j) (h : SR σ v A) : SR σ' v' A' := by
  obtain ⟨h0, h1, hk⟩ := h
  refine ⟨?_, ?_, fun k q z => ?_⟩
  · rw [e _ (by decide), ← h0]; exact c 0 (by decide) 0 (by decide)
  · rw [e _ (by decide), ← h1]; exact c 0 (by decide) 1 (by decide)
  · rw [e 1 (by decide)] at z
    rw [e _ (by omega), e _ (by omega), c 1 (by decide) k q, c 2 (by decide) k q]
    exact hk k q z
theorem TR_cp {σx σx' σm σm' : Dt} {t u o p : Nat} (h : TR σx σm u p) (hC : CpB σx σx' t u) (hM : ∀ i, i < 1078 → σm'.1 1 (o + i) = σm.1 1 (p + i)) : TR σx' σm' t o := by
  obtain ⟨c0, c1, c2, L, hb, hm, hx, hf, htp, hv, hl, hs⟩ := h
  obtain ⟨cf, ct, cb, cn⟩ := hC
  have m0 := hM 0 (by decide)
  simp only [Nat.add_zero] at m0
  refine ⟨c0, c1, c2, L, hb, ?_, ?_, ?_, ?_, ?_, ?_, ?_⟩
  · rw [m0, hM _ (by decide), hM _ (by decide), hM _ (by decide)]; exact hm
  · rw [cn _ (by decide), cn _ (by decide), cn _ (by decide), cf _ (by decide) (by decide)]; exact hx
  · rw [cf _ (by decide) (by decide), cf _ (by decide) (by decide), hM _ (by decide), hM _ (by decide)]; exact hf
  · intro i hi
    rw [ct i (by omega), show o + 10 + i = o + (10 + i) by omega, hM _ (by omega), ← Nat.add_assoc]; exact htp i hi
  · intro k hk
    obtain ⟨q1, F, W, q2, q3⟩ := hv k hk
    have e : ∀ i, i < 55 → σm'.1 1 (o + 610 + 55 * k + i) = σm.1 1 (p + 610 + 55 * k + i) := by
      intro i hi
      rw [show o + 610 + 55 * k + i = o + (610 + 55 * k + i) by omega, hM _ (by omega), show p + (610 + 55 * k + i) = p + 610 + 55 * k + i by omega]
    have c : ∀ d, d ≤ 7 → ∀ j, j < lV d → σx'.1 (t + 5 + 16 * k + d) j = σx.1 (u + 5 + 16 * k + d) j := fun d hd j hj => cb k (by omega) d (by omega) j (by rw [lB_v d hd]; exact hj)
    exact ⟨VR_c e c q1, F, W, VW_c e q2, HR_c e q2.2.2.1 c q3⟩
  · intro k hk
    obtain ⟨q1, q2⟩ := hl k hk
    have e : ∀ i, i < 161 → σm'.1 1 (o + 720 + 161 * k + i) = σm.1 1 (p + 720 + 161 * k + i) := by
      intro i hi
      rw [show o + 720 + 161 * k + i = o + (720 + 161 * k + i) by omega, hM _ (by omega), show p + (720 + 161 * k + i) = p + 720 + 161 * k + i by omega]
    refine ⟨LR_c e (fun d hd j hj => ?_) q1, LW_c e q2⟩
    have := cb k (by omega) (8 + d) (by omega) j (by rw [lB_l d hd]; exact hj)
    rw [show t + 5 + 16 * k + (8 + d) = t + 13 + 16 * k + d by omega, show u + 5 + 16 * k + (8 + d) = u + 13 + 16 * k + d by omega] at this
    exact this
  · intro k hk
    obtain ⟨q1, q2⟩ := hs k hk
    have e : ∀ i, i < 18 → σm'.1 1 (o + 1042 + 18 * k + i) = σm.1 1 (p + 1042 + 18 * k + i) := by
      intro i hi
      rw [show o + 1042 + 18 * k + i = o + (1042 + 18 * k + i) by omega, hM _ (by omega), show p + (1042 + 18 * k + i) = p + 1042 + 18 * k + i by omega]
    refine ⟨SR_c e (fun d hd j hj => ?_) q1, SW_c e q2⟩
    have := cb k (by omega) (13 + d) (by omega) j (by rw [lB_s d hd]; exact hj)
    rw [show t + 5 + 16 * k + (13 + d) = t + 18 + 16 * k + d by omega, show u + 5 + 16 * k + (13 + d) = u + 18 + 16 * k + d by omega] at this
    exact this
/-- what stands in cells and rows is kept: the same told state -/
theorem TR_keep {σx σx' σm σm' : Dt} {t o : Nat} (h : TR σx σm t o) (hX : ∀ a, t ≤ a → a ≤ t + 37 → σx'.1 a = σx.1 a) (hM : ∀ i, o ≤ i → i < o + 1078 → σm'.1 1 i = σm.1 1 i) : TR σx' σm' t o := by
  obtain ⟨c0, c1, c2, L, hb, hm, hx, hf, htp, hv, hl, hs⟩ := h
  refine ⟨c0, c1, c2, L, hb, ?_, ?_, ?_, ?_, ?_, ?_, ?_⟩
  · rw [hM _ (by omega) (by omega), hM _ (by omega) (by omega), hM _ (by omega) (by omega), hM _ (by omega) (by omega)]; exact hm
  · rw [hX _ (by omega) (by omega), hX _ (by omega) (by omega)]; exact hx
  · rw [hX _ (by omega) (by omega), hM _ (by omega) (by omega), hM _ (by omega) (by omega)]; exact hf
  · intro i hi
    rw [hX _ (by omega) (by omega), hM _ (by omega) (by omega)]; exact htp i hi
  · intro k hk
    obtain ⟨q1, F, W, q2, q3⟩ := hv k hk
    have e : ∀ i, i < 55 → σm'.1 1 (o + 610 + 55 * k + i) = σm.1 1 (o + 610 + 55 * k + i) := fun i hi => hM _ (by omega) (by omega)
    have c : ∀ d, d ≤ 7 → ∀ j, j < lV d → σx'.1 (t + 5 + 16 * k + d) j = σx.1 (t + 5 + 16 * k + d) j := fun d hd j hj => by rw [hX _ (by omega) (by omega)]
    exact ⟨VR_c e c q1, F, W, VW_c e q2, HR_c e q2.2.2.1 c q3⟩
  · intro k hk
    obtain ⟨q1, q2⟩ := hl k hk
    have e : ∀ i, i < 161 → σm'.1 1 (o + 720 + 161 * k + i) = σm.1 1 (o + 720 + 161 * k + i) := fun i hi => hM _ (by omega) (by omega)
    exact ⟨LR_c e (fun d hd j hj => by rw [hX _ (by omega) (by omega)]) q1, LW_c e q2⟩
  · intro k hk
    obtain ⟨q1, q2⟩ := hs k hk
    have e : ∀ i, i < 18 → σm'.1 1 (o + 1042 + 18 * k + i) = σm.1 1 (o + 1042 + 18 * k + i) := fun i hi => hM _ (by omega) (by omega)
    exact ⟨SR_c e (fun d hd j hj => by rw [hX _ (by omega) (by omega)]) q1, SW_c e q2⟩
