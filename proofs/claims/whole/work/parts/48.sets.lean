/-! ===== sums of every set; lot ===== -/
/-- a row put in the place of cell a's -/
def putR (σ : Dt) (a : Nat) (g : Nat → Int32) : Dt := (up1 σ.1 a g, σ.2.1, σ.2.2)
def updN (g : Nat → Int32) (i : Nat) (v : Int32) : Nat → Int32 := fun s => if s = i then v else g s
theorem putR_a {σ : Dt} {a : Nat} {g : Nat → Int32} : (putR σ a g).1 a = g := up1_eq
theorem putR_o {σ : Dt} {a b : Nat} {g : Nat → Int32} (h : b ≠ a) : (putR σ a g).1 b = σ.1 b := up1_ne h
theorem putR_up {σ : Dt} {a i : Nat} {g : Nat → Int32} {v : Int32} : up2 (putR σ a g).1 a i v = (putR σ a (updN g i v)).1 := by
  funext x y
  by_cases hx : x = a
  · subst hx
    rw [putR_a]
    unfold up2 updN
    by_cases hy : y = i
    · rw [if_pos ⟨rfl, hy⟩, if_pos hy]
    · rw [if_neg (fun q => hy q.2), if_neg hy, putR_a]
  · rw [putR_o hx, up2_o hx, putR_o hx]
theorem putR_put {σ : Dt} {a : Nat} {g h : Nat → Int32} : putR (putR σ a g) a h = putR σ a h := by
  unfold putR
  congr 1
  funext x
  by_cases hx : x = a
  · subst hx
    rw [up1_eq, up1_eq]
  · rw [up1_ne hx, up1_ne hx]
    exact up1_ne hx
theorem putR_si {sh : Sh} {σ : Dt} {a i : Nat} {g : Nat → Int32} {v : Int32} (h1 : a < sh.1) (h2 : sh.2.1 a = 13) (h3 : i < sh.2.2 a) (h4 : sh.2.2 a < 2 ^ 31) : xsi sh (some a) (nI i) v (putR σ a g) = some (putR σ a (updN g i v)) := by
  rw [xsi_of h1 h2 h3 h4, putR_up]
  rfl
theorem putR_self {σ : Dt} {a : Nat} : putR σ a (σ.1 a) = σ := by
  unfold putR
  have e : up1 σ.1 a (σ.1 a) = σ.1 := by
    funext x
    by_cases hx : x = a
    · subst hx; exact up1_eq
    · exact up1_ne hx
  rw [e]
theorem RefX_put {σ : Dt} {a : Nat} {g : Nat → Int32} (h : RefX σ) : RefX (putR σ a g) := h
theorem CV_put {σ : Dt} {v a : Nat} {A : Nat → Int32} {F W : Nat} {g : Nat → Int32} (h : CV σ v A F W) (ha : 170 ≤ a) : CV (putR σ a g) v A F W := by
  obtain ⟨hv, hR, h1, h2, h3⟩ := h
  have hv2 : v ≤ 156 := (show ∀ v ∈ vlist, v ≤ 156 by decide) v hv
  refine ⟨hv, hR, ?_, h2, ?_⟩
  · unfold VR at *
    rw [putR_o (by omega), putR_o (by omega), putR_o (by omega), putR_o (by omega), putR_o (by omega), putR_o (by omega), putR_o (by omega)]
    exact h1
  · unfold HR at *
    rw [putR_o (by omega)]
    exact h3
theorem xln_of {sh : Sh} {a : Nat} (h1 : a < sh.1) (h2 : sh.2.1 a = 13) : xln sh (some a) = some (nI (sh.2.2 a)) := if_pos ⟨h1, h2⟩
/-- the sums of every set of works, laid into row d; r is the row of sizes (43) or of worths (44) -/
theorem c_sumUp {σ : Dt} {v F W : Nat} {A : Nat → Int32} (h : CV σ v A F W) (d b j : Nat) (hd : d = 195 ∨ d = 196) (hbj : (b = 43 ∧ j = 6) ∨ (b = 44 ∧ j = 7)) : f_X1_sumUp (some v) (some (v + j)) (some d) σ = some ((), putR σ d (fun s => if s < 64 then sumW A b (nI s) W else σ.1 d s)) := by
  have hW := h.W6
  have hv2 : v ≤ 156 := (show ∀ v ∈ vlist, v ≤ 156 by decide) v h.1
  have hd1 : d < SX.1 := by rcases hd with rfl | rfl <;> decide
  have hd2 : SX.2.1 d = 13 := by rcases hd with rfl | rfl <;> decide
  have hd3 : SX.2.2 d = 64 := by rcases hd with rfl | rfl <;> decide
  have hr : ∀ (σ' : Dt) (w : Nat), w < 6 → xai SX (some (v + j)) (nI w) σ' = some (σ'.1 (v + j) w) := by
    intro σ' w hw
    rcases hbj with ⟨-, rfl⟩ | ⟨-, rfl⟩
    · exact cai6 h.1 hw
    · exact cai7 h.1 hw
  have hl : xln SX (some (v + j)) = some (nI 6) := by
    rcases hbj with ⟨-, rfl⟩ | ⟨-, rfl⟩
    · obtain ⟨h1, h2, h3⟩ := (v_sh v h.1).2.2.2.2.2.2.2.1
      rw [xln_of h1 h2, h3]
    · obtain ⟨h1, h2, h3⟩ := (v_sh v h.1).2.2.2.2.2.2.2.2
      rw [xln_of h1 h2, h3]
  have hval : ∀ w, w < W → σ.1 (v + j) w = A (b + 2 * w) := by
    intro w hw
    rcases hbj with ⟨rfl, rfl⟩ | ⟨rfl, rfl⟩
    · exact (h.rw hw).1
    · exact (h.rw hw).2
  have hj7 : j ≤ 7 := by omega
  have inner : ∀ (s : Nat), s < 64 → ∀ g : Nat → Int32, g s = 0 → iter FU (fun q => f_X1_sumUp_L28 (some v) (some (v + j)) (some d) (nI s) q.1 q.2) ((0 : Int32), putR σ d g) = some (putR σ d (updN g s (sumW A b (nI s) W))) := by
    intro s hs g hg
    have key := iter_n (f := fun q : Int32 × Dt => f_X1_sumUp_L28 (some v) (some (v + j)) (some d) (nI s) q.1 q.2) (st := fun i => (nI i, putR σ d (updN g s (sumW A b (nI s) i)))) (x := putR σ d (updN g s (sumW A b (nI s) W))) W (by omega) (fun i hi => ?_) ?_
    · have e0 : updN g s (sumW A b (nI s) 0) = g := by
        funext y
        unfold updN
        by_cases hy : y = s
        · rw [if_pos hy, hy, hg]; rfl
        · rw [if_neg hy]
      rw [e0] at key
      exact key
    · dsimp only
      have hC := CV_put (g := updN g s (sumW A b (nI s) i)) h (show 170 ≤ d by omega)
      unfold f_X1_sumUp_L28
      rw [cgi h.1, bo_s, hC.works, if_neg (fun c => absurd ((nI_leI (by omega) (by omega)).mp c) (by omega)), hl, bo_s, if_neg (fun c => absurd ((nI_leI (by decide) (by omega)).mp c) (by omega)), xai_of hd1 hd2 (by omega) (by omega), bo_s, putR_a]
      have e1 : updN g s (sumW A b (nI s) i) s = sumW A b (nI s) i := if_pos rfl
      have e2 : ∀ x, updN (updN g s (sumW A b (nI s) i)) s x = updN g s x := by
        intro x
        funext y
        unfold updN
        by_cases hy : y = s
        · rw [if_pos hy, if_pos hy]
        · rw [if_neg hy, if_neg hy, if_neg hy]
      unfold f_X1_sumUp_65
      by_cases c1 : (nI s >>> (nI i &&& 31)) &&& 1 = 1
      · rw [if_neg (fun q => absurd (q.symm.trans c1) (by decide)), hr _ _ (by omega), bo_s, putR_o (by omega), hval i (by omega), e1, putR_si hd1 hd2 (by omega) (by omega), bo_s, e2, sumW, if_pos c1, nI_1]
      · rw [if_pos ((bit01 _).resolve_right c1), e1, putR_si hd1 hd2 (by omega) (by omega), bo_s, e2, sumW, if_neg c1, nI_1]
    · dsimp only
      have hC := CV_put (g := updN g s (sumW A b (nI s) W)) h (show 170 ≤ d by omega)
      unfold f_X1_sumUp_L28
      rw [cgi h.1, bo_s, hC.works, if_pos (nI_le (Nat.le_refl _) (by omega))]
  unfold f_X1_sumUp
  rw [if_neg (by simp), if_neg (by simp), if_neg (by simp)]
  have key := iter_n (f := fun q : Int32 × Dt => f_X1_sumUp_L15 (some v) (some (v + j)) (some d) q.1 q.2) (st := fun i => (nI i, putR σ d (fun s => if s < i then sumW A b (nI s) W else σ.1 d s))) (x := putR σ d (fun s => if s < 64 then sumW A b (nI s) W else σ.1 d s)) 64 (by omega) (fun i hi => ?_) ?_
  · have e0 : (fun s => if s < 0 then sumW A b (nI s) W else σ.1 d s) = σ.1 d := by
      funext s
      rw [if_neg (by omega)]
    rw [e0, putR_self] at key
    rw [show (0 : Int32) = nI 0 from rfl, key, bo_s]
  · dsimp only
    unfold f_X1_sumUp_L15 f_X1_sumUp_73
    rw [xln_of hd1 hd2, hd3, bo_s, if_neg (fun c => absurd ((nI_leI (by decide) (by omega)).mp c) (by omega)), putR_si hd1 hd2 (by omega) (by omega), bo_s, inner i hi _ (if_pos rfl), bo_s, nI_1]
    have e2 : updN (updN (fun s => if s < i then sumW A b (nI s) W else σ.1 d s) i 0) i (sumW A b (nI i) W) = fun s => if s < i + 1 then sumW A b (nI s) W else σ.1 d s := by
      funext y
      unfold updN
      by_cases hy : y = i
      · rw [if_pos hy, if_pos (by omega), hy]
      · rw [if_neg hy, if_neg hy]
        dsimp only
        by_cases h3 : y < i
        · rw [if_pos h3, if_pos (by omega)]
        · rw [if_neg h3, if_neg (by omega)]
    rw [e2]
  · dsimp only
    unfold f_X1_sumUp_L15
    rw [xln_of hd1 hd2, hd3, bo_s, if_pos (nI_le (Nat.le_refl _) (by decide))]
