/-! ===== the class's reads ===== -/
def vlist : List Nat := [6, 22, 45, 61, 83, 99, 121, 137, 156]
theorem v_sh : ∀ v ∈ vlist, v < SX.1 ∧ SX.2.1 v = 9 ∧ (v + 1 < SX.1 ∧ SX.2.1 (v + 1) = 13 ∧ SX.2.2 (v + 1) = 10) ∧ (v + 2 < SX.1 ∧ SX.2.1 (v + 2) = 13 ∧ SX.2.2 (v + 2) = 10) ∧ (v + 3 < SX.1 ∧ SX.2.1 (v + 3) = 13 ∧ SX.2.2 (v + 3) = 10) ∧ (v + 4 < SX.1 ∧ SX.2.1 (v + 4) = 13 ∧ SX.2.2 (v + 4) = 10) ∧ (v + 5 < SX.1 ∧ SX.2.1 (v + 5) = 13 ∧ SX.2.2 (v + 5) = 10) ∧ (v + 6 < SX.1 ∧ SX.2.1 (v + 6) = 13 ∧ SX.2.2 (v + 6) = 6) ∧ (v + 7 < SX.1 ∧ SX.2.1 (v + 7) = 13 ∧ SX.2.2 (v + 7) = 6) := by decide
theorem v_rf : ∀ v ∈ vlist, 10 ≤ (rXT.getD v []).length ∧ ¬ v = 155 ∧ rX v 3 = some (v + 1) ∧ rX v 4 = some (v + 2) ∧ rX v 5 = some (v + 3) ∧ rX v 6 = some (v + 4) ∧ rX v 7 = some (v + 5) ∧ rX v 8 = some (v + 6) ∧ rX v 9 = some (v + 7) := by decide
/-- a valley of the class at v that holds A, F folk, W works -/
def CV (σ : Dt) (v : Nat) (A : Nat → Int32) (F W : Nat) : Prop := v ∈ vlist ∧ RefX σ ∧ VR σ v A ∧ VW A F W ∧ HR σ v A F
section CVL
variable {σ : Dt} {v F W : Nat} {A : Nat → Int32}
theorem cgi (hv : v ∈ vlist) (j : Nat) : xgi SX 9 j (some v) σ = some (σ.1 v j) := xgi_of (v_sh v hv).1 (v_sh v hv).2.1
theorem crc (hv : v ∈ vlist) : xrc SX 9 (some v) = some v := xrc_of (v_sh v hv).1 (v_sh v hv).2.1
theorem cgr (hv : v ∈ vlist) (hR : RefX σ) {j : Nat} (hj : j < 10) : xgr SX 9 j (some v) σ = some (rX v j) := by
  rw [xgr_of (v_sh v hv).1 (v_sh v hv).2.1, hR.1 v j (Nat.lt_of_lt_of_le hj (v_rf v hv).1) (fun h => (v_rf v hv).2.1 h.1)]
theorem cages (hv : v ∈ vlist) (hR : RefX σ) : xgr SX 9 3 (some v) σ = some (some (v + 1)) := by rw [cgr hv hR (by decide), (v_rf v hv).2.2.1]
theorem cstrs (hv : v ∈ vlist) (hR : RefX σ) : xgr SX 9 4 (some v) σ = some (some (v + 2)) := by rw [cgr hv hR (by decide), (v_rf v hv).2.2.2.1]
theorem cpars (hv : v ∈ vlist) (hR : RefX σ) : xgr SX 9 5 (some v) σ = some (some (v + 3)) := by rw [cgr hv hR (by decide), (v_rf v hv).2.2.2.2.1]
theorem cgrands (hv : v ∈ vlist) (hR : RefX σ) : xgr SX 9 6 (some v) σ = some (some (v + 4)) := by rw [cgr hv hR (by decide), (v_rf v hv).2.2.2.2.2.1]
theorem chelps (hv : v ∈ vlist) (hR : RefX σ) : xgr SX 9 7 (some v) σ = some (some (v + 5)) := by rw [cgr hv hR (by decide), (v_rf v hv).2.2.2.2.2.2.1]
theorem csizes (hv : v ∈ vlist) (hR : RefX σ) : xgr SX 9 8 (some v) σ = some (some (v + 6)) := by rw [cgr hv hR (by decide), (v_rf v hv).2.2.2.2.2.2.2.1]
theorem cworths (hv : v ∈ vlist) (hR : RefX σ) : xgr SX 9 9 (some v) σ = some (some (v + 7)) := by rw [cgr hv hR (by decide), (v_rf v hv).2.2.2.2.2.2.2.2]
theorem cai1 (hv : v ∈ vlist) {f : Nat} (hf : f < 10) : xai SX (some (v + 1)) (nI f) σ = some (σ.1 (v + 1) f) := by
  obtain ⟨h1, h2, h3⟩ := (v_sh v hv).2.2.1
  exact xai_of h1 h2 (by omega) (by omega)
theorem cai2 (hv : v ∈ vlist) {f : Nat} (hf : f < 10) : xai SX (some (v + 2)) (nI f) σ = some (σ.1 (v + 2) f) := by
  obtain ⟨h1, h2, h3⟩ := (v_sh v hv).2.2.2.1
  exact xai_of h1 h2 (by omega) (by omega)
theorem cai3 (hv : v ∈ vlist) {f : Nat} (hf : f < 10) : xai SX (some (v + 3)) (nI f) σ = some (σ.1 (v + 3) f) := by
  obtain ⟨h1, h2, h3⟩ := (v_sh v hv).2.2.2.2.1
  exact xai_of h1 h2 (by omega) (by omega)
theorem cai4 (hv : v ∈ vlist) {f : Nat} (hf : f < 10) : xai SX (some (v + 4)) (nI f) σ = some (σ.1 (v + 4) f) := by
  obtain ⟨h1, h2, h3⟩ := (v_sh v hv).2.2.2.2.2.1
  exact xai_of h1 h2 (by omega) (by omega)
theorem cai5 (hv : v ∈ vlist) {f : Nat} (hf : f < 10) : xai SX (some (v + 5)) (nI f) σ = some (σ.1 (v + 5) f) := by
  obtain ⟨h1, h2, h3⟩ := (v_sh v hv).2.2.2.2.2.2.1
  exact xai_of h1 h2 (by omega) (by omega)
theorem cai6 (hv : v ∈ vlist) {w : Nat} (hw : w < 6) : xai SX (some (v + 6)) (nI w) σ = some (σ.1 (v + 6) w) := by
  obtain ⟨h1, h2, h3⟩ := (v_sh v hv).2.2.2.2.2.2.2.1
  exact xai_of h1 h2 (by omega) (by omega)
theorem cai7 (hv : v ∈ vlist) {w : Nat} (hw : w < 6) : xai SX (some (v + 7)) (nI w) σ = some (σ.1 (v + 7) w) := by
  obtain ⟨h1, h2, h3⟩ := (v_sh v hv).2.2.2.2.2.2.2.2
  exact xai_of h1 h2 (by omega) (by omega)
theorem CV.folk (h : CV σ v A F W) : σ.1 v 0 = nI F := h.2.2.1.1.trans h.2.2.2.1.1
theorem CV.works (h : CV σ v A F W) : σ.1 v 1 = nI W := h.2.2.1.2.1.trans h.2.2.2.1.2.1
theorem CV.F10 (h : CV σ v A F W) : F ≤ 10 := h.2.2.2.1.2.2.1
theorem CV.W6 (h : CV σ v A F W) : W ≤ 6 := h.2.2.2.1.2.2.2.1
theorem CV.rf (h : CV σ v A F W) {f : Nat} (hf : f < F) : σ.1 (v + 1) f = A (3 + 4 * f) ∧ σ.1 (v + 2) f = A (4 + 4 * f) := by
  have hF := h.F10
  exact (h.2.2.1.2.2.2.1 f (by omega)).1 (by rw [h.2.2.2.1.1]; exact nI_lt hf (by omega))
theorem CV.rw (h : CV σ v A F W) {w : Nat} (hw : w < W) : σ.1 (v + 6) w = A (43 + 2 * w) ∧ σ.1 (v + 7) w = A (44 + 2 * w) := by
  have hW := h.W6
  exact h.2.2.1.2.2.2.2 w (by omega) (by rw [h.2.2.2.1.2.1]; exact nI_lt hw (by omega))
theorem c_hasFolk (h : CV σ v A F W) (x : Int32) : (inR x F → f_X9_hasFolk v x σ = some 1) ∧ (¬ inR x F → f_X9_hasFolk v x σ = some 0) := by
  have hF := h.F10
  have q := inR_iff2 (x := x) (n := F) (by omega)
  unfold f_X9_hasFolk f_X9_hasFolk_22
  constructor
  · intro z
    obtain ⟨q1, q2⟩ := q.mp z
    rw [if_neg q1, cgi h.1, bo_s, h.folk, if_neg q2, if_neg]
    obtain ⟨j, hj, rfl⟩ := z
    exact fun c => absurd ((nI_leI (a := 10) (by decide) (by omega)).mp c) (by omega)
  · intro z
    by_cases c1 : x < 0
    · rw [if_pos c1]
    · rw [if_neg c1, cgi h.1, bo_s, h.folk, if_pos]
      exact Classical.not_not.mp (fun c2 => z (q.mpr ⟨c1, c2⟩))
theorem c_hasWork (h : CV σ v A F W) (x : Int32) : (inR x W → f_X9_hasWork v x σ = some 1) ∧ (¬ inR x W → f_X9_hasWork v x σ = some 0) := by
  have hF := h.W6
  have q := inR_iff2 (x := x) (n := W) (by omega)
  unfold f_X9_hasWork f_X9_hasWork_22
  constructor
  · intro z
    obtain ⟨q1, q2⟩ := q.mp z
    rw [if_neg q1, cgi h.1, bo_s, h.works, if_neg q2, if_neg]
    obtain ⟨j, hj, rfl⟩ := z
    exact fun c => absurd ((nI_leI (a := 6) (by decide) (by omega)).mp c) (by omega)
  · intro z
    by_cases c1 : x < 0
    · rw [if_pos c1]
    · rw [if_neg c1, cgi h.1, bo_s, h.works, if_pos]
      exact Classical.not_not.mp (fun c2 => z (q.mpr ⟨c1, c2⟩))
end CVL
-- the told state of now
theorem x_now {σ : Dt} (hR : RefX σ) : xgr SX 11 0 (some 0) σ = some (some 1) := by
  rw [xgr_of (by decide) (by decide), hR.1 0 0 (by decide) (by decide)]
  rfl
theorem x_rc1 : xrc SX 8 (some 1) = some 1 := xrc_of (by decide) (by decide)
theorem x_gi1 (j : Nat) (σ : Dt) : xgi SX 8 j (some 1) σ = some (σ.1 1 j) := xgi_of (by decide) (by decide)
theorem x_many {σ : Dt} (hR : RefX σ) {s : Nat} (hs : s < 3) : f_X8_howMany 1 (nI s) σ = some (σ.1 38 s) := by
  unfold f_X8_howMany f_X8_howMany_18
  rw [if_neg (nI_pos (by omega)), if_neg (show ¬ (3 : Int32) ≤ nI s from fun c => absurd ((nI_leI (a := 3) (by decide) (by omega)).mp c) (by omega)), xgr_of (by decide) (by decide), bo_s, hR.1 1 7 (by decide) (by decide), show rX 1 7 = some 38 from rfl, xai_of (by decide) (by decide) (show s < SX.2.2 38 from hs) (by decide), bo_s]
theorem x_has {σ : Dt} (hR : RefX σ) {s c : Nat} (hs : s < 3) (hc : σ.1 38 s = nI c) (hc2 : c ≤ 2) (x : Int32) : (inR x c → f_X8_has 1 (nI s) x σ = some 1) ∧ (¬ inR x c → f_X8_has 1 (nI s) x σ = some 0) := by
  have q := inR_iff2 (x := x) (n := c) (by omega)
  unfold f_X8_has f_X8_has_22
  constructor
  · intro z
    obtain ⟨q1, q2⟩ := q.mp z
    rw [if_neg q1, if_neg (fun c3 => by obtain ⟨j, hj, rfl⟩ := z; exact absurd ((nI_leI (a := 2) (by decide) (by omega)).mp c3) (by omega)), x_rc1, bo_s, x_many hR hs, bo_s, hc, if_neg q2]
  · intro z
    by_cases c1 : x < 0
    · rw [if_pos c1]
    · rw [if_neg c1]
      by_cases c2 : (2 : Int32) ≤ x
      · rw [if_pos c2]
      · rw [if_neg c2, x_rc1, bo_s, x_many hR hs, bo_s, hc, if_pos]
        exact Classical.not_not.mp (fun c3 => z (q.mpr ⟨c1, c3⟩))
theorem x_valleyAt {σ : Dt} (hR : RefX σ) {c : Nat} (hc : σ.1 38 0 = nI c) (hc2 : c ≤ 2) (x : Int32) : (∀ k, k < c → x = nI k → f_X8_valleyAt 1 x σ = some (some (6 + 16 * k))) ∧ (¬ inR x c → f_X8_valleyAt 1 x σ = some none) := by
  have h := x_has hR (s := 0) (by decide) hc hc2 x
  unfold f_X8_valleyAt
  constructor
  · intro k hk hx
    subst hx
    rw [x_rc1, bo_s, show f_X8_has 1 (0 : Int32) (nI k) σ = some 1 from h.1 ⟨k, hk, rfl⟩, bo_s, if_neg (by decide), xgr_of (by decide) (by decide), bo_s, hR.1 1 4 (by decide) (by decide), show rX 1 4 = some 3 from rfl, xar_of (by decide) (by decide) (show k < SX.2.2 3 from (show k < 2 by omega)) (by decide), bo_s]
    rcases (show k = 0 ∨ k = 1 by omega) with rfl | rfl
    · rw [hR.1 3 0 (by decide) (by decide)]; rfl
    · rw [hR.1 3 1 (by decide) (by decide)]; rfl
  · intro z
    rw [x_rc1, bo_s, show f_X8_has 1 (0 : Int32) x σ = some 0 from h.2 z, bo_s, if_pos rfl]
theorem x_lifeAt {σ : Dt} (hR : RefX σ) {c : Nat} (hc : σ.1 38 1 = nI c) (hc2 : c ≤ 2) (x : Int32) : (∀ k, k < c → x = nI k → f_X8_lifeAt 1 x σ = some (some (14 + 16 * k))) ∧ (¬ inR x c → f_X8_lifeAt 1 x σ = some none) := by
  have h := x_has hR (s := 1) (by decide) hc hc2 x
  unfold f_X8_lifeAt
  constructor
  · intro k hk hx
    subst hx
    rw [x_rc1, bo_s, show f_X8_has 1 (1 : Int32) (nI k) σ = some 1 from h.1 ⟨k, hk, rfl⟩, bo_s, if_neg (by decide), xgr_of (by decide) (by decide), bo_s, hR.1 1 5 (by decide) (by decide), show rX 1 5 = some 4 from rfl, xar_of (by decide) (by decide) (show k < SX.2.2 4 from (show k < 2 by omega)) (by decide), bo_s]
    rcases (show k = 0 ∨ k = 1 by omega) with rfl | rfl
    · rw [hR.1 4 0 (by decide) (by decide)]; rfl
    · rw [hR.1 4 1 (by decide) (by decide)]; rfl
  · intro z
    rw [x_rc1, bo_s, show f_X8_has 1 (1 : Int32) x σ = some 0 from h.2 z, bo_s, if_pos rfl]
theorem x_sightAt {σ : Dt} (hR : RefX σ) {c : Nat} (hc : σ.1 38 2 = nI c) (hc2 : c ≤ 2) (x : Int32) : (∀ k, k < c → x = nI k → f_X8_sightAt 1 x σ = some (some (19 + 16 * k))) ∧ (¬ inR x c → f_X8_sightAt 1 x σ = some none) := by
  have h := x_has hR (s := 2) (by decide) hc hc2 x
  unfold f_X8_sightAt
  constructor
  · intro k hk hx
    subst hx
    rw [x_rc1, bo_s, show f_X8_has 1 (2 : Int32) (nI k) σ = some 1 from h.1 ⟨k, hk, rfl⟩, bo_s, if_neg (by decide), xgr_of (by decide) (by decide), bo_s, hR.1 1 6 (by decide) (by decide), show rX 1 6 = some 5 from rfl, xar_of (by decide) (by decide) (show k < SX.2.2 5 from (show k < 2 by omega)) (by decide), bo_s]
    rcases (show k = 0 ∨ k = 1 by omega) with rfl | rfl
    · rw [hR.1 5 0 (by decide) (by decide)]; rfl
    · rw [hR.1 5 1 (by decide) (by decide)]; rfl
  · intro z
    rw [x_rc1, bo_s, show f_X8_has 1 (2 : Int32) x σ = some 0 from h.2 z, bo_s, if_pos rfl]
