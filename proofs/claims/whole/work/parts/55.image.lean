/-! ===== image, again, feed ===== -/
theorem m_row {σ : Dt} {a i : Nat} {g : Nat → Int32} {v : Int32} (h1 : a < SM.1) (h2 : SM.2.1 a = 13) (h3 : i < SM.2.2 a) (h4 : SM.2.2 a < 2 ^ 31) : xsi SM (some a) (nI i) v (putR σ a g) = some (putR σ a (updN g i v)) := putR_si h1 h2 h3 h4
theorem msiR (i : Nat) (v : Int32) (σ : Dt) (g : Nat → Int32) (h : i < 4312) : xsi SM (some 1) (nI i) v (putR σ 1 g) = some (putR σ 1 (updN g i v)) := m_row SM1 SM_1 (by rw [SM_l1]; exact h) (by rw [SM_l1]; decide)
theorem maiR (i : Nat) (σ : Dt) (g : Nat → Int32) (h : i < 4312) : xai SM (some 1) (nI i) (putR σ 1 g) = some (g i) := by rw [mai i _ h, putR_a]
def cpN (g : Nat → Int32) (s d n : Nat) : Nat → Int32 := fun y => if d ≤ y ∧ y < d + n then g (s + (y - d)) else g y
theorem cpN_0 (g : Nat → Int32) (s d : Nat) : cpN g s d 0 = g := funext fun y => if_neg (by omega)
theorem cpN_s {g : Nat → Int32} {s d n : Nat} : updN (cpN g s d n) (d + n) (g (s + n)) = cpN g s d (n + 1) := by
  funext y
  unfold updN cpN
  by_cases h : y = d + n
  · rw [if_pos h, if_pos (by omega), show y - d = n by omega]
  · rw [if_neg h]
    by_cases h2 : d ≤ y ∧ y < d + n
    · rw [if_pos h2, if_pos (by omega)]
    · rw [if_neg h2, if_neg (by omega)]
theorem m_copyI {σ : Dt} (hR : RefM σ) {k : Nat} (hk : k < 3) : iter FU (fun s => f_X12_image_L20 0 (nI k) s.1 s.2) ((0 : Int32), σ) = some (putR σ 1 (cpN (σ.1 1) 0 (1078 * (k + 1)) 1078)) := by
  have key := iter_n (f := fun s : Int32 × Dt => f_X12_image_L20 0 (nI k) s.1 s.2) (st := fun i => (nI i, putR σ 1 (cpN (σ.1 1) 0 (1078 * (k + 1)) i))) (x := putR σ 1 (cpN (σ.1 1) 0 (1078 * (k + 1)) 1078)) 1078 (by decide) (fun i hi => ?_) ?_
  · rw [cpN_0, putR_self] at key
    exact key
  · dsimp only
    unfold f_X12_image_L20
    have e : (1078 : Int32) * (nI k + 1) + nI i = nI (1078 * (k + 1) + i) := by
      show nI 1078 * (nI k + nI 1) + nI i = _
      rw [nI_add, pk_mul, nI_add]
    rw [if_neg (show ¬ (1078 : Int32) ≤ nI i from nI_ge (b := 1078) hi (by decide)), mgr, bo_s, bo_s]
    rw [show (putR σ 1 (cpN (σ.1 1) 0 (1078 * (k + 1)) i)).2.2 0 0 = some 1 from mall hR, maiR _ _ _ (by omega), bo_s, e, msiR _ _ _ _ (by omega), bo_s, nI_1]
    have e2 : cpN (σ.1 1) 0 (1078 * (k + 1)) i i = σ.1 1 (0 + i) := by
      unfold cpN
      rw [if_neg (by omega), Nat.zero_add]
    rw [e2, cpN_s]
  · dsimp only
    unfold f_X12_image_L20
    rw [if_pos (show (1078 : Int32) ≤ nI 1078 by decide)]
theorem m_copyA {σ : Dt} (hR : RefM σ) {k : Nat} (hk : k < 3) : iter FU (fun s => f_X12_again_L22 0 (nI k) s.1 s.2) ((0 : Int32), σ) = some (putR σ 1 (cpN (σ.1 1) (1078 * (k + 1)) 0 1078)) := by
  have key := iter_n (f := fun s : Int32 × Dt => f_X12_again_L22 0 (nI k) s.1 s.2) (st := fun i => (nI i, putR σ 1 (cpN (σ.1 1) (1078 * (k + 1)) 0 i))) (x := putR σ 1 (cpN (σ.1 1) (1078 * (k + 1)) 0 1078)) 1078 (by decide) (fun i hi => ?_) ?_
  · rw [cpN_0, putR_self] at key
    exact key
  · dsimp only
    unfold f_X12_again_L22
    have e : (1078 : Int32) * (nI k + 1) + nI i = nI (1078 * (k + 1) + i) := by
      show nI 1078 * (nI k + nI 1) + nI i = _
      rw [nI_add, pk_mul, nI_add]
    rw [if_neg (show ¬ (1078 : Int32) ≤ nI i from nI_ge (b := 1078) hi (by decide)), mgr, bo_s, bo_s]
    rw [show (putR σ 1 (cpN (σ.1 1) (1078 * (k + 1)) 0 i)).2.2 0 0 = some 1 from mall hR, e, maiR _ _ _ (by omega), bo_s, msiR _ _ _ _ (by omega), bo_s, nI_1]
    have e2 : cpN (σ.1 1) (1078 * (k + 1)) 0 i (1078 * (k + 1) + i) = σ.1 1 (1078 * (k + 1) + i) := by
      unfold cpN
      rw [if_neg (by omega)]
    have e3 := cpN_s (g := σ.1 1) (s := 1078 * (k + 1)) (d := 0) (n := i)
    rw [Nat.zero_add] at e3
    rw [e2, e3]
  · dsimp only
    unfold f_X12_again_L22
    rw [if_pos (show (1078 : Int32) ≤ nI 1078 by decide)]
theorem in3 {x : Int32} : inI x 0 2 ↔ inR x 3 := (inR_iff (n := 3) (by decide)).symm
theorem x_imgs {σ : Dt} (hR : RefX σ) {k : Nat} (hk : k < 3) : xar SX 18 (some 39) (nI k) σ = some (some (40 + 38 * k)) := by
  rw [xar_of (by decide) (by decide) (show k < SX.2.2 39 from hk) (by decide)]
  rcases (show k = 0 ∨ k = 1 ∨ k = 2 by omega) with rfl | rfl | rfl
  · rw [hR.1 39 0 (by decide) (by decide)]; rfl
  · rw [hR.1 39 1 (by decide) (by decide)]; rfl
  · rw [hR.1 39 2 (by decide) (by decide)]; rfl
theorem t_in {k : Nat} (hk : k < 3) : 40 + 38 * k ∈ tlist := by
  rcases (show k = 0 ∨ k = 1 ∨ k = 2 by omega) with rfl | rfl | rfl <;> decide
theorem x_00 {σ : Dt} (hR : RefX σ) (j : Nat) (hj : j < 10) : xgr SX 11 j (some 0) σ = some (rX 0 j) := by
  rw [xgr_of (by decide) (by decide), hR.1 0 j (show j < 10 from hj) (fun q => absurd q.1 (by decide))]
theorem x_szT {σ : Dt} {k : Nat} (hk : k < 3) : xsz SX (some 154) (nI k) 1 σ = some (setX σ 154 k 1) := by
  rw [xsz_of (by decide) (by decide) (show k < SX.2.2 154 from hk) (by decide)]
  rfl
theorem m_szT {σ : Dt} {k : Nat} (hk : k < 3) : xsz SM (some 2) (nI k) 1 σ = some (setX σ 2 k 1) := by
  rw [xsz_of (by decide) (by decide) (show k < SM.2.2 2 from hk) (by decide)]
  rfl
theorem ok_image : LK_image Inv := by
  intro σx σm z hI
  obtain ⟨hRx, hRm, hT, hb, hi⟩ := id hI
  unfold f_X11_image f_X12_image
  rw [iInB, bo_s, ite_b]
  by_cases c : inR z 3
  · rw [ci_t (in3.mpr c)]
    obtain ⟨k, hk, rfl⟩ := c
    obtain ⟨σ', q, hC⟩ := c_copyT (σ := σx) (t := 40 + 38 * k) (u := 1) (t_in hk) (by decide) (by omega) hRx
    have r8 : xrc SX 8 (some (40 + 38 * k)) = some (40 + 38 * k) := xrc_of (t_sh _ (t_in hk)).1 (t_sh _ (t_in hk)).2.1
    have hR' := RefX_2 hC.1 hRx
    rw [if_neg (nI_pos (by omega)), if_pos (show nI k < (3 : Int32) from nI_lt hk (by decide))]
    simp only [x_00 hRx 1 (by decide), x_00 hRx 0 (by decide), show rX 0 1 = some 39 from rfl, show rX 0 0 = some 1 from rfl, bo_s, x_imgs hRx hk, r8, q, bd_s, x_00 hR' 2 (by decide), show rX 0 2 = some 154 from rfl, x_szT hk, mgr, hRm 1 (by decide), show rM 0 1 = some 2 from rfl, m_szT hk]
    rw [m_copyI (σ := setX σm 2 k 1) hRm hk, bo_s]
    refine ⟨_, _, _, rfl, rfl, ?_⟩
    have ex : ∀ a, a < 40 + 38 * k ∨ 40 + 38 * k + 37 < a → ¬ a = 154 → (setX σ' 154 k 1).1 a = σx.1 a := fun a h1 h2 => by rw [setX_o h2, hC.2.1 a h1]
    have em : ∀ i, i < 1078 * (k + 1) ∨ 1078 * (k + 1) + 1078 ≤ i → (putR (setX σm 2 k 1) 1 (cpN ((setX σm 2 k 1).1 1) 0 (1078 * (k + 1)) 1078)).1 1 i = σm.1 1 i := by
      intro i h
      rw [putR_a]
      unfold cpN
      rw [if_neg (by omega), setX_o (by decide)]
    refine ⟨hR', hRm, TR_keep hT (fun a h1 h2 => ex a (by omega) (by omega)) (fun i h1 h2 => em i (by omega)), fun j hj => ?_, fun j hj q => ?_⟩
    · rw [putR_o (by decide)]
      by_cases e : j = k
      · subst e
        rw [setX_j, setX_j]
        exact ⟨rfl, Or.inr rfl⟩
      · rw [setX_n e, setX_n e, hC.2.1 154 (by omega)]
        exact hb j hj
    · by_cases e : j = k
      · subst e
        have hC2 : CpB σx (setX σ' 154 j 1) (40 + 38 * j) 1 := by
          obtain ⟨-, -, a3, a4, a5, a6⟩ := hC
          refine ⟨fun i h1 h2 => ?_, fun i h1 => ?_, fun i h1 d h2 l h3 => ?_, fun i h1 => ?_⟩
          · rw [setX_o (by omega)]; exact a3 i h1 h2
          · rw [setX_o (by omega)]; exact a4 i h1
          · rw [setX_o (by omega)]; exact a5 i h1 d h2 l h3
          · rw [setX_o (by omega)]; exact a6 i h1
        refine TR_cp hT hC2 (fun i hi => ?_)
        rw [putR_a]
        unfold cpN
        rw [if_pos (by omega), setX_o (by decide), show 0 + (1078 * (j + 1) + i - 1078 * (j + 1)) = 0 + i by omega]
      · rw [putR_o (by decide), setX_n e] at q
        exact TR_keep (hi j hj q) (fun a h1 h2 => ex a (by omega) (by omega)) (fun i h1 h2 => em i (by omega))
  · rw [ci_f (fun q => c (in3.mp q))]
    refine ⟨0, _, _, ?_, rfl, hI⟩
    by_cases c1 : z < 0
    · rw [if_pos c1]
    · rw [if_neg c1, if_neg (show ¬ z < 3 from fun q => c ((inR_iff2 (n := 3) (by decide)).mpr ⟨c1, Int32.not_le.mpr q⟩))]
theorem ok_again : LK_again Inv := by
  intro σx σm z hI
  obtain ⟨hRx, hRm, hT, hb, hi⟩ := id hI
  unfold f_X11_again f_X12_again
  rw [iInB, bo_s, ite_b]
  by_cases c : inR z 3
  · rw [ci_t (in3.mpr c)]
    obtain ⟨k, hk, rfl⟩ := c
    rw [if_neg (nI_pos (by omega)), if_neg (show ¬ (3 : Int32) ≤ nI k from nI_ge (b := 3) hk (by decide))]
    have xz : xaz SX (some 154) (nI k) σx = some (σx.1 154 k) := xaz_of (by decide) (by decide) (show k < SX.2.2 154 from hk) (by decide)
    have mz : xaz SM (some 2) (nI k) σm = some (σm.1 2 k) := xaz_of (by decide) (by decide) (show k < SM.2.2 2 from hk) (by decide)
    simp only [x_00 hRx 2 (by decide), show rX 0 2 = some 154 from rfl, bo_s, xz, (hb k hk).1, mgr, hRm 1 (by decide), show rM 0 1 = some 2 from rfl, mz]
    rcases (hb k hk).2 with e | e
    · rw [e]
      exact ⟨0, _, _, rfl, rfl, hI⟩
    · obtain ⟨σ', q, hC⟩ := c_copyT (σ := σx) (t := 1) (u := 40 + 38 * k) (by decide) (t_in hk) (by omega) hRx
      have r8 : xrc SX 8 (some 1) = some 1 := x_rc1
      have hR' := RefX_2 hC.1 hRx
      rw [e, ite_10, ite_10]
      simp only [x_00 hRx 1 (by decide), x_00 hRx 0 (by decide), show rX 0 1 = some 39 from rfl, show rX 0 0 = some 1 from rfl, bo_s, x_imgs hRx hk, r8, q, bd_s]
      rw [m_copyA hRm hk, bo_s]
      refine ⟨_, _, _, rfl, rfl, ?_⟩
      have ex : ∀ a, 39 ≤ a → σ'.1 a = σx.1 a := fun a h1 => hC.2.1 a (by omega)
      have em : ∀ i, 1078 ≤ i → (putR σm 1 (cpN (σm.1 1) (1078 * (k + 1)) 0 1078)).1 1 i = σm.1 1 i := by
        intro i h
        rw [putR_a]
        unfold cpN
        rw [if_neg (by omega)]
      refine ⟨hR', hRm, TR_cp (hi k hk e) hC.2.2 (fun i hi => ?_), fun j hj => ?_, fun j hj q => ?_⟩
      · rw [putR_a]
        unfold cpN
        rw [if_pos (by omega), show 1078 * (k + 1) + (0 + i - 0) = 1078 * (k + 1) + i by omega]
      · rw [putR_o (by decide), ex 154 (by decide)]
        exact hb j hj
      · rw [putR_o (by decide)] at q
        exact TR_keep (hi j hj q) (fun a h1 h2 => ex a (by omega)) (fun i h1 h2 => em i (by omega))
  · rw [ci_f (fun q => c (in3.mp q))]
    refine ⟨0, _, _, ?_, rfl, hI⟩
    by_cases c1 : z < 0
    · rw [if_pos c1]
    · rw [if_neg c1, if_pos (show (3 : Int32) ≤ z from Classical.not_not.mp (fun q => c ((inR_iff2 (n := 3) (by decide)).mpr ⟨c1, q⟩)))]
