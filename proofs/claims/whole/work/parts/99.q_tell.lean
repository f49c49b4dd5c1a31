/-! ===== text: what a line tells in the class ===== -/
theorem r_p9 {β : Type} {j : Nat} {v : Int32} {σ : Dt} {k : Dt → Option β} : bo (xpi SX 9 j (some 156) v σ) k = k (setX σ 156 j v) := bo_of (xpi_of (by decide) (by decide))
theorem r_p4 {β : Type} {j : Nat} {v : Int32} {σ : Dt} {k : Dt → Option β} : bo (xpi SX 4 j (some 164) v σ) k = k (setX σ 164 j v) := bo_of (xpi_of (by decide) (by decide))
theorem r_p6 {β : Type} {j : Nat} {v : Int32} {σ : Dt} {k : Dt → Option β} : bo (xpi SX 6 j (some 169) v σ) k = k (setX σ 169 j v) := bo_of (xpi_of (by decide) (by decide))
theorem r_v3 {β : Type} {σ : Dt} {k : Option Nat → Option β} (hR : RefX σ) : bo (xgr SX 9 3 (some 156) σ) k = k (some 157) := bo_of (cages (v := 156) (by decide) hR)
theorem r_v4 {β : Type} {σ : Dt} {k : Option Nat → Option β} (hR : RefX σ) : bo (xgr SX 9 4 (some 156) σ) k = k (some 158) := bo_of (cstrs (v := 156) (by decide) hR)
theorem r_v5 {β : Type} {σ : Dt} {k : Option Nat → Option β} (hR : RefX σ) : bo (xgr SX 9 5 (some 156) σ) k = k (some 159) := bo_of (cpars (v := 156) (by decide) hR)
theorem r_v6 {β : Type} {σ : Dt} {k : Option Nat → Option β} (hR : RefX σ) : bo (xgr SX 9 6 (some 156) σ) k = k (some 160) := bo_of (cgrands (v := 156) (by decide) hR)
theorem r_v7 {β : Type} {σ : Dt} {k : Option Nat → Option β} (hR : RefX σ) : bo (xgr SX 9 7 (some 156) σ) k = k (some 161) := bo_of (chelps (v := 156) (by decide) hR)
theorem r_v8 {β : Type} {σ : Dt} {k : Option Nat → Option β} (hR : RefX σ) : bo (xgr SX 9 8 (some 156) σ) k = k (some 162) := bo_of (csizes (v := 156) (by decide) hR)
theorem r_v9 {β : Type} {σ : Dt} {k : Option Nat → Option β} (hR : RefX σ) : bo (xgr SX 9 9 (some 156) σ) k = k (some 163) := bo_of (cworths (v := 156) (by decide) hR)
theorem r_l1 {β : Type} {σ : Dt} {k : Option Nat → Option β} (hR : RefX σ) : bo (xgr SX 4 1 (some 164) σ) k = k (some 165) := bo_of (by rw [xgr_of (by decide) (by decide), hR.1 164 1 (by decide) (by decide)]; rfl)
theorem r_l2 {β : Type} {σ : Dt} {k : Option Nat → Option β} (hR : RefX σ) : bo (xgr SX 4 2 (some 164) σ) k = k (some 166) := bo_of (by rw [xgr_of (by decide) (by decide), hR.1 164 2 (by decide) (by decide)]; rfl)
theorem r_l3 {β : Type} {σ : Dt} {k : Option Nat → Option β} (hR : RefX σ) : bo (xgr SX 4 3 (some 164) σ) k = k (some 167) := bo_of (by rw [xgr_of (by decide) (by decide), hR.1 164 3 (by decide) (by decide)]; rfl)
theorem r_l4 {β : Type} {σ : Dt} {k : Option Nat → Option β} (hR : RefX σ) : bo (xgr SX 4 4 (some 164) σ) k = k (some 168) := bo_of (by rw [xgr_of (by decide) (by decide), hR.1 164 4 (by decide) (by decide)]; rfl)
theorem r_i2 {β : Type} {σ : Dt} {k : Option Nat → Option β} (hR : RefX σ) : bo (xgr SX 6 2 (some 169) σ) k = k (some 170) := bo_of (by rw [xgr_of (by decide) (by decide), hR.1 169 2 (by decide) (by decide)]; rfl)
theorem r_i3 {β : Type} {σ : Dt} {k : Option Nat → Option β} (hR : RefX σ) : bo (xgr SX 6 3 (some 169) σ) k = k (some 171) := bo_of (by rw [xgr_of (by decide) (by decide), hR.1 169 3 (by decide) (by decide)]; rfl)
def rl (a : Nat) : Nat := if a ≤ 161 then 10 else if a ≤ 163 then 6 else if a ≤ 168 then 40 else if a ≤ 171 then 8 else 3
theorem rl_ok : ∀ d, d < 17 → ¬ d = 7 → ¬ d = 12 → 157 + d < SX.1 ∧ SX.2.1 (157 + d) = 13 ∧ SX.2.2 (157 + d) = rl (157 + d) := by decide
def rlP (a i : Nat) : Prop := (157 ≤ a ∧ a ≤ 161 ∧ i < 10) ∨ (162 ≤ a ∧ a ≤ 163 ∧ i < 6) ∨ (165 ≤ a ∧ a ≤ 168 ∧ i < 40) ∨ (170 ≤ a ∧ a ≤ 171 ∧ i < 8) ∨ (172 ≤ a ∧ a ≤ 173 ∧ i < 3)
theorem rl_p {a i : Nat} (h : rlP a i) : a < SX.1 ∧ SX.2.1 a = 13 ∧ i < SX.2.2 a ∧ SX.2.2 a < 2 ^ 31 := by
  unfold rlP at h
  obtain ⟨q1, q2, q3⟩ := rl_ok (a - 157) (by omega) (by omega) (by omega)
  rw [show 157 + (a - 157) = a by omega] at q1 q2 q3
  refine ⟨q1, q2, ?_⟩
  rw [q3]
  unfold rl
  repeat (first | omega | split)
theorem r_s {β : Type} {a i : Nat} {σ : Dt} {v : Int32} {k : Dt → Option β} (h : (157 ≤ a ∧ a ≤ 161 ∧ i < 10) ∨ (162 ≤ a ∧ a ≤ 163 ∧ i < 6) ∨ (165 ≤ a ∧ a ≤ 168 ∧ i < 40) ∨ (170 ≤ a ∧ a ≤ 171 ∧ i < 8) ∨ (172 ≤ a ∧ a ≤ 173 ∧ i < 3)) : bo (xsi SX (some a) (nI i) v σ) k = k (setX σ a i v) := by
  obtain ⟨q1, q2, q3, q4⟩ := rl_p h
  exact bo_of (xsiX q1 q2 q3 q4)
theorem r_a {β : Type} {a i : Nat} {σ : Dt} {k : Int32 → Option β} (h : (157 ≤ a ∧ a ≤ 161 ∧ i < 10) ∨ (162 ≤ a ∧ a ≤ 163 ∧ i < 6) ∨ (165 ≤ a ∧ a ≤ 168 ∧ i < 40) ∨ (170 ≤ a ∧ a ≤ 171 ∧ i < 8) ∨ (172 ≤ a ∧ a ≤ 173 ∧ i < 3)) : bo (xai SX (some a) (nI i) σ) k = k (σ.1 a i) := by
  obtain ⟨q1, q2, q3, q4⟩ := rl_p h
  exact bo_of (xai_of q1 q2 q3 q4)
theorem r_a0 {β : Type} {σ : Dt} {k : Int32 → Option β} : bo (xai SX (some 172) (0 : Int32) σ) k = k (σ.1 172 0) := r_a (i := 0) (by omega)
theorem r_a1 {β : Type} {σ : Dt} {k : Int32 → Option β} : bo (xai SX (some 172) (1 : Int32) σ) k = k (σ.1 172 1) := r_a (i := 1) (by omega)
theorem r_a2 {β : Type} {σ : Dt} {k : Int32 → Option β} : bo (xai SX (some 172) (2 : Int32) σ) k = k (σ.1 172 2) := r_a (i := 2) (by omega)
section TEL
variable {σ : Dt} {n0 n1 n : Nat}
theorem t_folk (hR : RefX σ) (h7 : σ.1 155 7 = nI 0) (hn : n < 10) (e0 : σ.1 156 0 = nI n) (a0 : σ.1 172 0 = nI n0) (a1 : σ.1 172 1 = nI n1) : f_X5_tellLine 155 (nI 0) σ = some ((), setX (setX (setX σ 157 n (nI n0)) 158 n (nI n1)) 156 0 (nI (n + 1))) := by
  unfold f_X5_tellLine
  rw [r_gi, h7, if_pos (by decide), bo_of r_rc]
  unfold f_X5_tellOfValley
  rw [r_r11 hR, r_a0, a0, r_r11 hR, r_a1, a1, if_neg (by decide), if_neg (by decide), if_pos (by decide), r_r0 hR, r_g9, e0, if_neg (nI_pos (by omega)), r_r0 hR, r_g9, e0, if_neg (le10 hn)]
  simp (disch := omega) only [↓grS, ↓giSn, ↓r_r0 hR, ↓r_v3 hR, ↓r_v4 hR, ↓r_g9, e0, ↓r_s, ↓r_p9, nI_1]
  rfl
theorem t_child (hR : RefX σ) (h7 : σ.1 155 7 = nI 0) (h0 : n0 < 10) (h1 : n1 < n0) (a0 : σ.1 172 0 = nI n0) (a1 : σ.1 172 1 = nI n1) : f_X5_tellLine 155 (nI 1) σ = some ((), setX (setX σ 159 n0 (σ.1 159 n0 ||| nI (2 ^ n1))) 155 10 (σ.1 155 10 ||| nI (2 ^ n0))) := by
  unfold f_X5_tellLine
  rw [r_gi, h7, if_pos (by decide), bo_of r_rc]
  unfold f_X5_tellOfValley
  rw [r_r11 hR, r_a0, a0, r_r11 hR, r_a1, a1, if_neg (by decide), if_pos (by decide), if_neg (nI_pos (by omega)), if_neg (le10 h0), if_neg (nI_pos (by omega)), ite_le_f (by omega) h1, r_r0 hR, r_v5 hR, r_a (by omega), r_s (by omega), r_gi, setX_o (by decide), r_pi, shl1 (by omega), shl1 (by omega)]
  rfl
theorem t_work (hR : RefX σ) (h7 : σ.1 155 7 = nI 0) (hn : n < 6) (e0 : σ.1 156 1 = nI n) (a0 : σ.1 172 0 = nI n0) (a1 : σ.1 172 1 = nI n1) : f_X5_tellLine 155 (nI 2) σ = some ((), setX (setX (setX σ 162 n (nI n0)) 163 n (nI n1)) 156 1 (nI (n + 1))) := by
  unfold f_X5_tellLine
  rw [r_gi, h7, if_pos (by decide), bo_of r_rc]
  unfold f_X5_tellOfValley
  rw [r_r11 hR, r_a0, a0, r_r11 hR, r_a1, a1, if_neg (by decide), if_neg (by decide), if_neg (by decide), r_r0 hR, r_g9, e0, if_neg (nI_pos (by omega)), r_r0 hR, r_g9, e0, if_neg (show ¬ (6 : Int32) ≤ nI n from nI_ge (b := 6) hn (by decide))]
  simp (disch := omega) only [↓grS, ↓giSn, ↓r_r0 hR, ↓r_v8 hR, ↓r_v9 hR, ↓r_g9, e0, ↓r_s, ↓r_p9, nI_1]
  rfl
theorem t_bound (hR : RefX σ) (h7 : σ.1 155 7 = nI 0) (a0 : σ.1 172 0 = nI n0) : f_X5_tellLine 155 (nI 3) σ = some ((), setX σ 156 2 (nI n0)) := by
  unfold f_X5_tellLine
  rw [r_gi, h7, if_pos (by decide), bo_of r_rc]
  unfold f_X5_tellOfValley
  rw [r_r11 hR, r_a0, a0, r_r11 hR, r_a1, if_pos (by decide), r_r0 hR, r_p9]
  rfl
theorem t_deed (hR : RefX σ) (h7 : σ.1 155 7 = nI 1) (hn : n < 40) (e0 : σ.1 164 0 = nI n) (k : Nat) : f_X5_tellLine 155 (nI k) σ = some ((), setX (setX (setX (setX (setX σ 165 n (nI k)) 166 n (σ.1 172 0)) 167 n (σ.1 172 1)) 168 n (σ.1 172 2)) 164 0 (nI (n + 1))) := by
  unfold f_X5_tellLine
  rw [r_gi, h7, if_neg (by decide), r_gi, h7, if_pos (by decide), bo_of r_rc]
  unfold f_X5_tellDeed
  rw [r_r1 hR, r_g4, e0, if_neg (nI_pos (by omega)), if_neg (show ¬ (40 : Int32) ≤ nI n from nI_ge (b := 40) hn (by decide))]
  simp (disch := omega) only [↓grS, ↓giSn, ↓aiSn, ↓r_r1 hR, ↓r_r11 hR, ↓r_l1 hR, ↓r_l2 hR, ↓r_l3 hR, ↓r_l4 hR, ↓r_g4, e0, ↓r_a0, ↓r_a1, ↓r_a2, ↓r_s, ↓r_p4, nI_1]
  rfl
theorem t_years (hR : RefX σ) (h7 : σ.1 155 7 = nI 2) (a0 : σ.1 172 0 = nI n0) : f_X5_tellLine 155 (nI 0) σ = some ((), setX σ 169 0 (nI n0)) := by
  unfold f_X5_tellLine
  rw [r_gi, h7, if_neg (by decide), r_gi, h7, if_neg (by decide), if_pos (by decide), r_r2 hR, r_r11 hR, r_a0, a0, r_p6]
theorem t_dug (hR : RefX σ) (h7 : σ.1 155 7 = nI 2) (hn : n < 8) (e0 : σ.1 169 1 = nI n) (a0 : σ.1 172 0 = nI n0) (a1 : σ.1 172 1 = nI n1) : f_X5_tellLine 155 (nI 1) σ = some ((), setX (setX (setX σ 170 n (nI n0)) 171 n (nI n1)) 169 1 (nI (n + 1))) := by
  unfold f_X5_tellLine
  rw [r_gi, h7, if_neg (by decide), r_gi, h7, if_neg (by decide), if_neg (by decide), r_r2 hR, r_g6, e0, if_neg (nI_pos (by omega)), r_r2 hR, r_g6, e0, if_neg (show ¬ (8 : Int32) ≤ nI n from nI_ge (b := 8) hn (by decide))]
  simp (disch := omega) only [↓grS, ↓giSn, ↓aiSn, ↓r_r2 hR, ↓r_r11 hR, ↓r_i2 hR, ↓r_i3 hR, ↓r_g6, e0, ↓r_a0, ↓r_a1, a0, a1, ↓r_s, ↓r_p6, nI_1]
end TEL
