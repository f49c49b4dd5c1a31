/-! ===== text: what was read is taken; the law ===== -/
theorem x_pi8 {β : Type} {j : Nat} {v : Int32} {σ : Dt} {k : Dt → Option β} : bo (xpi SX 8 j (some 1) v σ) k = k (setX σ 1 j v) := bo_of (xpi_of (by decide) (by decide))
theorem x_rd3 {σ : Dt} (hR : RefX σ) : xgr SX 11 3 (some 0) σ = some (some 155) := by
  rw [xgr_of (by decide) (by decide), hR.1 0 3 (by decide) (by decide)]
  rfl
theorem x_tp {σ : Dt} (hR : RefX σ) : xgr SX 8 0 (some 1) σ = some (some 2) := by
  rw [xgr_of (by decide) (by decide), hR.1 1 0 (by decide) (by decide)]
  rfl
theorem x_m38 {σ : Dt} (hR : RefX σ) : xgr SX 8 7 (some 1) σ = some (some 38) := by
  rw [xgr_of (by decide) (by decide), hR.1 1 7 (by decide) (by decide)]
  rfl
section TAK
variable {σ : Dt} {s k c : Nat}
theorem x_t77 (hR : RefX σ) (hs : s < 3) (hk : k < 2) (hc : σ.1 38 s = nI c) (hc2 : c ≤ 2) : ∃ τ, f_X8_take_77 1 (nI s) (nI k) σ = some ((), τ) ∧ (∀ a, ¬ a = 38 → τ.1 a = σ.1 a) ∧ τ.2 = σ.2 ∧ (∀ j, ¬ j = s → τ.1 38 j = σ.1 38 j) ∧ τ.1 38 s = nI (if k < c then c else k + 1) := by
  unfold f_X8_take_77
  rw [bo_of (x_m38 hR), bo_of (xai_of (by decide) (by decide) (show s < SX.2.2 38 from hs) (by decide)), hc]
  by_cases d : k < c
  · rw [ite_lt_t (by omega) d, if_pos d]
    exact ⟨σ, rfl, fun _ _ => rfl, rfl, fun _ _ => rfl, hc⟩
  · rw [ite_lt_f (by omega) (by omega), if_neg d, bo_of (x_m38 hR), nI_1, bo_of (xsiX (by decide) (by decide) (show s < SX.2.2 38 from hs) (by decide))]
    exact ⟨_, rfl, fun a ha => setX_o ha, rfl, fun j hj => setX_n hj, setX_j⟩
theorem x_take (hR : RefX σ) (hs : s < 3) (hk : k < 2) (hc : σ.1 38 s = nI c) (hc2 : c ≤ 2) : ∃ τ, f_X8_take 1 (nI s) (nI k) (some 155) σ = some ((), τ) ∧ (∀ a, (a < sA s k ∨ sA s k + sW s < a) → ¬ a = 38 → τ.1 a = σ.1 a) ∧ τ.2 = σ.2 ∧ (∀ j, ¬ j = s → τ.1 38 j = σ.1 38 j) ∧ τ.1 38 s = nI (if k < c then c else k + 1) ∧ (s = 0 → ∀ d, d ≤ 7 → ∀ j, j < lV d → τ.1 (6 + 16 * k + d) j = σ.1 (156 + d) j) ∧ (s = 1 → ∀ d, d ≤ 4 → ∀ j, j < lL d → τ.1 (14 + 16 * k + d) j = σ.1 (164 + d) j) ∧ (s = 2 → ∀ d, d ≤ 2 → ∀ j, j < lS d → τ.1 (19 + 16 * k + d) j = σ.1 (169 + d) j) := by
  unfold f_X8_take
  rw [if_neg (by simp), if_neg (nI_pos (by omega)), if_neg (show ¬ (2 : Int32) ≤ nI k from nI_ge (b := 2) hk (by decide)), if_neg (nI_pos (by omega)), if_pos (show nI s < (3 : Int32) from nI_lt (b := 3) hs (by decide))]
  rcases (show s = 0 ∨ s = 1 ∨ s = 2 by omega) with rfl | rfl | rfl
  · have q : ∀ (hin : 6 + 16 * k ∈ vlist), xar SX 19 (some 3) (nI k) σ = some (some (6 + 16 * k)) → ∃ τ, (bo (xgr SX 8 4 (some 1) σ) fun v7 => bo (xar SX 19 v7 (nI k) σ) fun v9 => bo (xgr SX 5 0 (some 155) σ) fun v11 => bo (xrc SX 9 v9) fun a13 => bd (f_X9_copyFrom a13 v11 σ) fun v15 σ16 => f_X8_take_77 1 (nI 0) (nI k) σ16) = some ((), τ) ∧ (∀ a, (a < sA 0 k ∨ sA 0 k + sW 0 < a) → ¬ a = 38 → τ.1 a = σ.1 a) ∧ τ.2 = σ.2 ∧ (∀ j, ¬ j = 0 → τ.1 38 j = σ.1 38 j) ∧ τ.1 38 0 = nI (if k < c then c else k + 1) ∧ ∀ d, d ≤ 7 → ∀ j, j < lV d → τ.1 (6 + 16 * k + d) j = σ.1 (156 + d) j := by
      intro hin hx
      obtain ⟨ρ, a1, a2, a3, a4⟩ := c_copyV (σ := σ) (a := 6 + 16 * k) (b := 156) hin (by decide) (by omega) hR
      have hRρ : RefX ρ := by unfold RefX at *; rw [a2]; exact hR
      have e38 : ρ.1 38 = σ.1 38 := a3 38 (by omega)
      obtain ⟨τ, b1, b2, b3, b4, b5⟩ := x_t77 (k := k) hRρ hs hk (by rw [e38]; exact hc) hc2
      refine ⟨τ, ?_, fun a h1 h2 => (b2 a h2).trans (a3 a h1), b3.trans a2, fun j hj => (b4 j hj).trans (by rw [e38]), b5, fun d hd j hj => ?_⟩
      · rw [bo_of (show xgr SX 8 4 (some 1) σ = some (some 3) from by rw [xgr_of (by decide) (by decide), hR.1 1 4 (by decide) (by decide)]; rfl), bo_of hx, r_r0 hR, bo_of (crc hin), bd_of a1]
        exact b1
      · rw [b2 _ (by omega)]
        exact a4 d hd j hj
    rw [if_pos (by decide)]
    have hx : xar SX 19 (some 3) (nI k) σ = some (some (6 + 16 * k)) := by
      rw [xar_of (by decide) (by decide) (show k < SX.2.2 3 from hk) (by decide)]
      rcases (show k = 0 ∨ k = 1 by omega) with rfl | rfl
      · rw [hR.1 3 0 (by decide) (by decide)]; rfl
      · rw [hR.1 3 1 (by decide) (by decide)]; rfl
    obtain ⟨τ, t1, t2, t3, t4, t5, t6⟩ := q (by rcases (show k = 0 ∨ k = 1 by omega) with rfl | rfl <;> decide) hx
    exact ⟨τ, t1, t2, t3, t4, t5, fun _ => t6, fun z => absurd z (by decide), fun z => absurd z (by decide)⟩
  · rw [if_neg (by decide), if_pos (by decide)]
    have hx : xar SX 16 (some 4) (nI k) σ = some (some (14 + 16 * k)) := by
      rw [xar_of (by decide) (by decide) (show k < SX.2.2 4 from hk) (by decide)]
      rcases (show k = 0 ∨ k = 1 by omega) with rfl | rfl
      · rw [hR.1 4 0 (by decide) (by decide)]; rfl
      · rw [hR.1 4 1 (by decide) (by decide)]; rfl
    have hin : 14 + 16 * k ∈ llist2 := by rcases (show k = 0 ∨ k = 1 by omega) with rfl | rfl <;> decide
    obtain ⟨ρ, a1, a2, a3, a4⟩ := c_copyL (σ := σ) (a := 14 + 16 * k) (b := 164) hin (by decide) (by omega) hR
    have hRρ : RefX ρ := by unfold RefX at *; rw [a2]; exact hR
    have e38 : ρ.1 38 = σ.1 38 := a3 38 (by omega)
    obtain ⟨τ, b1, b2, b3, b4, b5⟩ := x_t77 (k := k) hRρ hs hk (by rw [e38]; exact hc) hc2
    refine ⟨τ, ?_, fun a h1 h2 => (b2 a h2).trans (a3 a h1), b3.trans a2, fun j hj => (b4 j hj).trans (by rw [e38]), b5, fun z => absurd z (by decide), fun _ d hd j hj => ?_, fun z => absurd z (by decide)⟩
    · rw [bo_of (show xgr SX 8 5 (some 1) σ = some (some 4) from by rw [xgr_of (by decide) (by decide), hR.1 1 5 (by decide) (by decide)]; rfl), bo_of hx, r_r1 hR, bo_of (xrc_of (llist2_sh _ hin).1 (llist2_sh _ hin).2.1), bd_of a1]
      exact b1
    · rw [b2 _ (by omega)]
      exact a4 d hd j hj
  · rw [if_neg (by decide), if_neg (by decide)]
    have hx : xar SX 17 (some 5) (nI k) σ = some (some (19 + 16 * k)) := by
      rw [xar_of (by decide) (by decide) (show k < SX.2.2 5 from hk) (by decide)]
      rcases (show k = 0 ∨ k = 1 by omega) with rfl | rfl
      · rw [hR.1 5 0 (by decide) (by decide)]; rfl
      · rw [hR.1 5 1 (by decide) (by decide)]; rfl
    have hin : 19 + 16 * k ∈ slist2 := by rcases (show k = 0 ∨ k = 1 by omega) with rfl | rfl <;> decide
    obtain ⟨ρ, a1, a2, a3, a4⟩ := c_copyS (σ := σ) (a := 19 + 16 * k) (b := 169) hin (by decide) (by omega) hR
    have hRρ : RefX ρ := by unfold RefX at *; rw [a2]; exact hR
    have e38 : ρ.1 38 = σ.1 38 := a3 38 (by omega)
    obtain ⟨τ, b1, b2, b3, b4, b5⟩ := x_t77 (k := k) hRρ hs hk (by rw [e38]; exact hc) hc2
    refine ⟨τ, ?_, fun a h1 h2 => (b2 a h2).trans (a3 a h1), b3.trans a2, fun j hj => (b4 j hj).trans (by rw [e38]), b5, fun z => absurd z (by decide), fun z => absurd z (by decide), fun _ d hd j hj => ?_⟩
    · rw [bo_of (show xgr SX 8 6 (some 1) σ = some (some 5) from by rw [xgr_of (by decide) (by decide), hR.1 1 6 (by decide) (by decide)]; rfl), bo_of hx, r_r2 hR, bo_of (xrc_of (slist2_sh _ hin).1 (slist2_sh _ hin).2.1), bd_of a1]
      exact b1
    · rw [b2 _ (by omega)]
      exact a4 d hd j hj
theorem m_copy (hR : RefM σ) (hs : s < 3) (hk : k < 2) : ∃ τ, f_X12_text_247 0 (nI s) (nI k) σ = some (nI k, τ) ∧ (∀ b, ¬ b = 1 → τ.1 b = σ.1 b) ∧ τ.2.2 = σ.2.2 ∧ (∀ i, i < sL s → τ.1 1 (sP s k + i) = σ.1 3 i) ∧ ∀ j, (j < sP s k ∨ sP s k + sL s ≤ j) → τ.1 1 j = σ.1 1 j := by
  have hz : ∀ ρ, f_X12_sizeOf (nI s) ρ = some (nI (sL s)) := fun ρ => by
    unfold f_X12_sizeOf
    rcases (show s = 0 ∨ s = 1 ∨ s = 2 by omega) with rfl | rfl | rfl <;> rfl
  have hpl : ∀ ρ, f_X12_placeOf (nI s) (nI k) ρ = some (nI (sP s k)) := fun ρ => by
    unfold f_X12_placeOf
    rcases (show s = 0 ∨ s = 1 ∨ s = 2 by omega) with rfl | rfl | rfl
    · rw [if_pos (by decide)]
      exact congrArg some (nI_ix 610 55 k)
    · rw [if_neg (by decide), if_pos (by decide)]
      exact congrArg some (nI_ix 720 161 k)
    · rw [if_neg (by decide), if_neg (by decide)]
      exact congrArg some (nI_ix 1042 18 k)
  have hLP : sL s ≤ 161 ∧ sP s k + sL s ≤ 1078 := by
    unfold sL sP
    rcases (show s = 0 ∨ s = 1 ∨ s = 2 by omega) with rfl | rfl | rfl
    · show 55 ≤ 161 ∧ 610 + 55 * k + 55 ≤ 1078
      omega
    · show 161 ≤ 161 ∧ 720 + 161 * k + 161 ≤ 1078
      omega
    · show 18 ≤ 161 ∧ 1042 + 18 * k + 18 ≤ 1078
      omega
  have key := iter_w (f := fun q : Int32 × Dt => f_X12_text_L250 0 (nI s) (nI k) q.1 q.2) (s0 := ((0 : Int32), σ)) (P := fun j q => q.1 = nI j ∧ (∀ b, ¬ b = 1 → q.2.1 b = σ.1 b) ∧ q.2.2.2 = σ.2.2 ∧ (∀ i, i < j → q.2.1 1 (sP s k + i) = σ.1 3 i) ∧ ∀ i, (i < sP s k ∨ sP s k + sL s ≤ i) → q.2.1 1 i = σ.1 1 i) (Q := fun τ => (∀ b, ¬ b = 1 → τ.1 b = σ.1 b) ∧ τ.2.2 = σ.2.2 ∧ (∀ i, i < sL s → τ.1 1 (sP s k + i) = σ.1 3 i) ∧ ∀ j, (j < sP s k ∨ sP s k + sL s ≤ j) → τ.1 1 j = σ.1 1 j) (sL s) (by omega) ⟨rfl, fun _ _ => rfl, rfl, fun i hi => absurd hi (Nat.not_lt_zero i), fun _ _ => rfl⟩ (fun j q hj hP => by
    obtain ⟨x, ρ⟩ := q
    obtain ⟨p1, p2, p3, p4, p5⟩ := hP
    dsimp only at p1 p2 p3 p4 p5 ⊢
    subst p1
    unfold f_X12_text_L250
    rw [bo_of (hz _)]
    rcases (show j = sL s ∨ j < sL s by omega) with y | y
    · left
      subst y
      rw [if_pos (nI_le (Nat.le_refl _) (by omega))]
      exact ⟨_, rfl, p2, p3, p4, p5⟩
    · right
      have hRρ : RefM ρ := by unfold RefM at *; rw [p3]; exact hR
      rw [ite_le_f (by omega) y, mg0 hRρ, bo_of (hpl _), mg10 hRρ, ma3 (by omega), nI_add, ms1 (by omega), nI_1, p2 3 (by decide)]
      refine ⟨y, _, rfl, rfl, fun b hb => (setX_o hb).trans (p2 b hb), p3, fun i hi => ?_, fun i hi => ?_⟩
      · show (setX ρ 1 (sP s k + j) (σ.1 3 j)).1 1 (sP s k + i) = _
        rcases (show i = j ∨ i < j by omega) with w | w
        · rw [w, setX_j]
        · rw [setX_n (by omega)]; exact p4 i w
      · show (setX ρ 1 (sP s k + j) (σ.1 3 j)).1 1 i = _
        rw [setX_n (by omega)]; exact p5 i hi)
  obtain ⟨τ, e, h1, h2, h3, h4⟩ := key
  unfold f_X12_text_247
  rw [bo_of e]
  exact ⟨τ, rfl, h1, h2, h3, h4⟩
end TAK
theorem Inv_now2 {σx σm σx' σm' : Dt} (hI : Inv σx σm) (hR' : RefX σx') (hrm : σm'.2.2 = σm.2.2) (hx : ∀ a, 39 ≤ a → a < 155 → σx'.1 a = σx.1 a) (hm : ∀ i, 1078 ≤ i → σm'.1 1 i = σm.1 1 i) (hm2 : σm'.1 2 = σm.1 2) (hT : TR σx' σm' 1 0) : Inv σx' σm' := by
  have hI0 : Inv (σx.1, σx'.2.1, σx'.2.2) σm := ⟨hR', hI.2⟩
  exact Inv_now hI0 rfl hrm hx hm hm2 hT
theorem x_manyN {σ : Dt} {z : Int32} (h : ¬ inR z 3) : f_X8_howMany 1 z σ = some (-2) := by
  unfold f_X8_howMany f_X8_howMany_18
  by_cases c : z < 0
  · rw [if_pos c]
  · rw [if_neg c, if_pos]
    exact Classical.not_not.mp (fun c2 => h ((inR_iff2 (n := 3) (by decide)).mpr ⟨c, c2⟩))
theorem ok_text : LK_text Inv := by
  intro σx σm z1 z2 hI
  obtain ⟨hRx, hRm, hT, hIm, hIi⟩ := id hI
  obtain ⟨c0, c1, c2, L, hb, gm, gx, hf, htp, hv, hl, hs⟩ := id hT
  have hL := hb.2.2.2
  obtain ⟨σx1, hσx⟩ : ∃ q : Dt, q = setX (setX (setX σx 1 1 0) 1 2 0) 1 3 (-1) := ⟨_, rfl⟩
  obtain ⟨σm1, hσm⟩ : ∃ q : Dt, q = setX (setX (setX (setX σm 0 2 (nI L)) 1 4 0) 1 5 0) 1 6 (-1) := ⟨_, rfl⟩
  have hR1 : RefX σx1 := by rw [hσx]; exact hRx
  have hRm1 : RefM σm1 := by rw [hσm]; exact hRm
  have ox : ∀ a, ¬ a = 1 → σx1.1 a = σx.1 a := fun a ha => by rw [hσx, setX_o ha, setX_o ha, setX_o ha]
  have om : ∀ b, ¬ b = 0 → ¬ b = 1 → σm1.1 b = σm.1 b := fun b b0 b1 => by rw [hσm, setX_o b1, setX_o b1, setX_o b1, setX_o b0]
  have om1 : ∀ j, ¬ j = 4 → ¬ j = 5 → ¬ j = 6 → σm1.1 1 j = σm.1 1 j := fun j j4 j5 j6 => by rw [hσm, setX_n j6, setX_n j5, setX_n j4, setX_o (by decide)]
  have x11 : σx1.1 1 1 = 0 := by rw [hσx, setX_n (by decide), setX_n (by decide), setX_j]
  have x12 : σx1.1 1 2 = 0 := by rw [hσx, setX_n (by decide), setX_j]
  have x13 : σx1.1 1 3 = -1 := by rw [hσx, setX_j]
  have m14 : σm1.1 1 4 = 0 := by rw [hσm, setX_n (by decide), setX_n (by decide), setX_j]
  have m15 : σm1.1 1 5 = 0 := by rw [hσm, setX_n (by decide), setX_j]
  have m16 : σm1.1 1 6 = -1 := by rw [hσm, setX_j]
  have rm1 : σm1.2.2 = σm.2.2 := by rw [hσm]; rfl
  have hI1 : Inv σx1 σm1 := Inv_now2 hI hR1 rm1 (fun a h1 _ => ox a (by omega)) (fun i hi => om1 i (by omega) (by omega) (by omega)) (om 2 (by decide) (by decide)) (TR_0 hT (fun a h1 _ => ox a (by omega)) (fun j _ j4 j5 j6 => om1 j j4 j5 j6) x11 m14 (by rw [x12, m15]) (by rw [x13, m16]))
  have ex : f_X11_text 0 z1 z2 σx = bo (f_X8_howMany 1 z1 σx1) fun v21 => if z2 = (-1 : Int32) then f_X11_text_52 0 z1 z2 (nI L) v21 (1 : Int32) σx1 else f_X11_text_52 0 z1 z2 (nI L) v21 (0 : Int32) σx1 := by
    unfold f_X11_text
    rw [bo_of (x_now hRx), bo_of (x_gi1 1 σx), gx.2.2.2, bo_of (x_now hRx), x_pi8, grS, bo_of (x_now hRx), x_pi8, grS, grS, bo_of (x_now hRx), x_pi8, ← hσx, bo_of (x_now hR1), bo_of x_rc1]
  have em : f_X12_text 0 z1 z2 σm = bo (f_X12_isIn z1 (0 : Int32) (2 : Int32) σm1) fun v19 => if v19 = 0 then some ((-2 : Int32), σm1) else if z2 = (-1 : Int32) then bo (xgr SM 12 0 (some 0) σm1) fun v23 => bo (xai SM v23 z1 σm1) fun v25 => if v25 < (2 : Int32) then f_X12_text_71 0 z1 z2 σm1 else some ((-2 : Int32), σm1) else bo (xrc SM 12 (some 0)) fun a28 => bo (f_X12_isOf a28 z1 z2 σm1) fun v30 => if v30 = 0 then some ((-2 : Int32), σm1) else f_X12_text_71 0 z1 z2 σm1 := by
    have g4 : σm.1 1 4 = nI L := gm.2.2.2
    unfold f_X12_text
    rw [mg0 hRm, show (4 : Int32) = nI 4 from rfl, ma1 (by decide), g4, mpiB, grS, mg0 hRm, ms1 (by decide), grS, grS, mg0 hRm, show (5 : Int32) = nI 5 from rfl, ms1 (by decide), grS, grS, grS, mg0 hRm, show (6 : Int32) = nI 6 from rfl, ms1 (by decide)]
    subst hσm
    rfl
  rw [ex, em, bo_of (iInB _ _ _ _), ite_b]
  have q3 := inR_iff (x := z1) (n := 3) (by decide)
  by_cases h3 : inR z1 3
  · rw [ci_t (show inI z1 0 2 from q3.mp h3)]
    obtain ⟨s, hs3, rfl⟩ := h3
    obtain ⟨c, hc, hcx, hc2⟩ : ∃ c, σm.1 1 s = nI c ∧ σx.1 38 s = nI c ∧ c ≤ 2 := by
      rcases (show s = 0 ∨ s = 1 ∨ s = 2 by omega) with rfl | rfl | rfl
      · exact ⟨c0, gm.1, gx.1, hb.1⟩
      · exact ⟨c1, gm.2.1, gx.2.1, hb.2.1⟩
      · exact ⟨c2, gm.2.2.1, gx.2.2.1, hb.2.2.1⟩
    have hc1 : σm1.1 1 s = nI c := by rw [om1 s (by omega) (by omega) (by omega)]; exact hc
    have hx1 : σx1.1 38 s = nI c := by rw [ox 38 (by decide)]; exact hcx
    rw [bo_of (x_many hR1 hs3), hx1, mg0 hRm1, ma1 (by omega), hc1]
    -- the reading
    have read : ∀ k x5, k < 2 → ((z2 = -1 ∧ k = c ∧ x5 = (1 : Int32)) ∨ (¬ z2 = -1 ∧ z2 = nI k ∧ k < c ∧ x5 = 0)) → ∃ r σx' σm', f_X11_text_93 0 (nI s) z2 (nI L) (nI c) x5 σx1 = some (r, σx') ∧ f_X12_text_71 0 (nI s) z2 σm1 = some (r, σm') ∧ Inv σx' σm' := by
      intro k x5 hk hz
      obtain ⟨σx2, σm2, r1, r2, r3, r4, r5, cf, e1, e2, e3, e4, e5⟩ := t_read (σx := σx1) (σm := σm1) (B := fun i => (σm.1 1 (10 + i)).toNatClampNeg) (L := L) (s := s) (z2 := z2) hR1 ⟨hRm1, by rw [hσm]; simp (disch := omega) only [Nat.reduceAdd, setX_ne, setX_j, upS_ne, upS_eq], hL, fun i hi => by
          obtain ⟨-, b, b1, b2⟩ := htp i hi
          rw [show 0 + 10 + i = 10 + i by omega] at b1
          rw [om1 _ (by omega) (by omega) (by omega)]
          try dsimp only
          rw [b1, nI_clamp (by omega)]
          exact ⟨rfl, b2⟩⟩ hs3 (fun i hi => by
          obtain ⟨t1, b, b1, b2⟩ := htp i hi
          rw [show 0 + 10 + i = 10 + i by omega] at b1 t1
          rw [ox 2 (by decide)]
          try dsimp only
          rw [b1, nI_clamp (by omega)]
          exact ⟨t1.trans b1, b2⟩) m15 m16
      obtain ⟨σx3, hσ3⟩ : ∃ q : Dt, q = setX (setX σx2 1 2 (nI cf)) 1 3 (σm2.1 1 6) := ⟨_, rfl⟩
      have hR3 : RefX σx3 := by rw [hσ3]; exact r4
      have o3 : ∀ a, ¬ a = 1 → σx3.1 a = σx2.1 a := fun a ha => by rw [hσ3, setX_o ha, setX_o ha]
      have y11 : σx3.1 1 1 = 0 := by rw [hσ3, setX_n (by decide), setX_n (by decide), r3 1 (by omega)]; exact x11
      have y12 : σx3.1 1 2 = nI cf := by rw [hσ3, setX_n (by decide), setX_j]
      have y13 : σx3.1 1 3 = σm2.1 1 6 := by rw [hσ3, setX_j]
      have p4 : σm2.1 1 4 = 0 := by rw [r5.2.2.1 4 (by decide) (by decide)]; exact m14
      have pj : ∀ j, ¬ j = 4 → ¬ j = 5 → ¬ j = 6 → σm2.1 1 j = σm.1 1 j := fun j j4 j5 j6 => (r5.2.2.1 j j5 j6).trans (om1 j j4 j5 j6)
      have rm2 : σm2.2.2 = σm.2.2 := r5.2.2.2.trans rm1
      have hRm2 : RefM σm2 := r5.ref hRm1
      have ex2 : f_X11_text_93 0 (nI s) z2 (nI L) (nI c) x5 σx1 = if nI cf = 0 then (if x5 = 0 then f_X11_text_160 0 (nI s) z2 σx3 else f_X11_text_160 0 (nI s) (nI c) σx3) else some ((-1 : Int32), σx3) := by
        unfold f_X11_text_93
        rw [bo_of (x_rd3 hR1), bo_of (x_now hR1), bo_of (x_tp hR1), bo_of r_rc, bd_of r1, bo_of (x_now r4), bo_of (x_rd3 r4), r_gi, e1, x_pi8, grS, bo_of (x_now r4), grS, bo_of (x_rd3 r4), r_gi, setX_o (by decide), e4, x_pi8, ← hσ3, bo_of (x_rd3 hR3), r_gi, o3 155 (by decide), e1]
      rw [ex2, r2]
      unfold f_X12_text_205
      rw [mg0 hRm2, ma15, e2]
      by_cases cz : cf = 0
      · rw [ite_z_t cz, ite_z_t cz]
        -- taken
        have take : ∀ (ρm : Dt) (c' : Nat), ((c' = c ∧ k < c) ∨ (c' = c + 1 ∧ k = c)) → RefM ρm → ρm.2.2 = σm.2.2 → (∀ b, ¬ b = 1 → ρm.1 b = σm2.1 b) → (∀ j, ¬ j = s → ρm.1 1 j = σm2.1 1 j) → ρm.1 1 s = nI c' → ∃ r σx' σm', f_X11_text_160 0 (nI s) (nI k) σx3 = some (r, σx') ∧ f_X12_text_247 0 (nI s) (nI k) ρm = some (r, σm') ∧ Inv σx' σm' := by
          intro ρm c' hc' hRρ hr2 ob oj hjs
          obtain ⟨τx, t1, t2, t3, t4, t5, t6, t7, t8⟩ := x_take (σ := σx3) (s := s) (k := k) (c := c) hR3 hs3 hk (by rw [o3 38 (by decide), r3 38 (by omega)]; exact hx1) hc2
          obtain ⟨τm, u1, u2, u3, u4, u5⟩ := m_copy (σ := ρm) (s := s) (k := k) hRρ hs3 hk
          have hRτ : RefX τx := by unfold RefX at *; rw [t3]; exact hR3
          have sAb : 6 ≤ sA s k ∧ sA s k + sW s ≤ 37 := by
            unfold sA sW
            rcases (show s = 0 ∨ s = 1 ∨ s = 2 by omega) with rfl | rfl | rfl
            · show 6 ≤ 6 + 16 * k ∧ 6 + 16 * k + 7 ≤ 37
              omega
            · show 6 ≤ 14 + 16 * k ∧ 14 + 16 * k + 4 ≤ 37
              omega
            · show 6 ≤ 19 + 16 * k ∧ 19 + 16 * k + 2 ≤ 37
              omega
          have sPb : 610 ≤ sP s k ∧ sP s k + sL s ≤ 1078 := by
            unfold sP sL
            rcases (show s = 0 ∨ s = 1 ∨ s = 2 by omega) with rfl | rfl | rfl
            · show 610 ≤ 610 + 55 * k ∧ 610 + 55 * k + 55 ≤ 1078
              omega
            · show 610 ≤ 720 + 161 * k ∧ 720 + 161 * k + 161 ≤ 1078
              omega
            · show 610 ≤ 1042 + 18 * k ∧ 1042 + 18 * k + 18 ≤ 1078
              omega
          have ecc : nI (if k < c then c else k + 1) = nI c' := by
            congr 1
            rcases hc' with ⟨w1, w2⟩ | ⟨w1, w2⟩
            · rw [if_pos w2, w1]
            · rw [if_neg (by omega), w1, w2]
          have fx : ∀ a, ¬ a = 1 → a < 155 → σx3.1 a = σx.1 a := fun a a1 a2 => (o3 a a1).trans ((r3 a (by omega)).trans (ox a a1))
          have fm : ∀ j, ¬ j = s → ¬ j = 4 → ¬ j = 5 → ¬ j = 6 → (j < sP s k ∨ sP s k + sL s ≤ j) → τm.1 1 j = σm.1 1 j := fun j js j4 j5 j6 jo => (u5 j jo).trans ((oj j js).trans (pj j j4 j5 j6))
          have row3 : ρm.1 3 = σm2.1 3 := ob 3 (by decide)
          refine ⟨nI k, τx, τm, ?_, u1, Inv_now2 hI hRτ (u3.trans hr2) (fun a h1 h2 => (t2 a (by omega) (by omega)).trans (fx a (by omega) h2)) (fun i hi => fm i (by omega) (by omega) (by omega) (by omega) (by omega)) ((u2 2 (by decide)).trans ((ob 2 (by decide)).trans ((r5.1 2 (by decide) (by decide) (by decide)).trans (om 2 (by decide) (by decide))))) (TR_new (s := s) (k := k) (c := c) (c' := c') hT hs3 hk hc hc2 hc' (fun a h1 h2 h3 => (t2 a h3 (by omega)).trans (fx a (by omega) (by omega))) (fun j hj => (t4 j hj).trans (by rw [fx 38 (by decide) (by decide)])) (t5.trans ecc) (fun j _ js j4 j5 j6 jo => fm j js j4 j5 j6 jo) ((u5 s (by omega)).trans hjs) ((by rw [t2 1 (by omega) (by decide)]; exact y11)) ((u5 4 (by omega)).trans ((oj 4 (by omega)).trans p4)) ?_ ?_ (fun z => ?_) (fun z => ?_) (fun z => ?_))⟩
          · unfold f_X11_text_160
            rw [bo_of (x_now hR3), bo_of (x_rd3 hR3), bo_of x_rc1, bd_of t1]
          · rw [t2 1 (by omega) (by decide), y12, u5 5 (by omega), oj 5 (by omega), e2]
          · rw [t2 1 (by omega) (by decide), y13, u5 6 (by omega), oj 6 (by omega)]
          · subst z
            obtain ⟨v1, F, W, v2, v3⟩ : R0 σx2 σm2 := e5 cz
            have ee : ∀ i, i < 55 → τm.1 1 (610 + 55 * k + i) = σm2.1 3 i := fun i hi => (u4 i hi).trans (by rw [row3])
            have cc : ∀ d, d ≤ 7 → ∀ j, j < lV d → τx.1 (6 + 16 * k + d) j = σx2.1 (156 + d) j := fun d hd j hj => (t6 rfl d hd j hj).trans (by rw [o3 _ (by omega)])
            exact ⟨VR_c ee cc v1, F, W, VW_c ee v2, HR_c ee v2.2.2.1 cc v3⟩
          · subst z
            obtain ⟨v1, v2⟩ : DR1 σx2 σm2 := e5 cz
            have ee : ∀ i, i < 161 → τm.1 1 (720 + 161 * k + i) = σm2.1 3 i := fun i hi => (u4 i hi).trans (by rw [row3])
            exact ⟨LR_c ee (fun d hd j hj => (t7 rfl d hd j hj).trans (by rw [o3 _ (by omega)])) v1, LW_c ee v2⟩
          · subst z
            obtain ⟨v1, v2⟩ : DR2 σx2 σm2 := e5 cz
            have ee : ∀ i, i < 18 → τm.1 1 (1042 + 18 * k + i) = σm2.1 3 i := fun i hi => (u4 i hi).trans (by rw [row3])
            exact ⟨SR_c ee (fun d hd j hj => (t8 rfl d hd j hj).trans (by rw [o3 _ (by omega)])) v1, SW_c ee v2⟩
        have hs2 : σm2.1 1 s = nI c := by rw [pj s (by omega) (by omega) (by omega)]; exact hc
        rcases hz with ⟨w1, w2, rfl⟩ | ⟨w1, w2, w3, rfl⟩
        · rw [if_neg (by decide), if_pos w1, mg0 hRm2, ma1 (by omega), hs2]
          unfold f_X12_text_231
          rw [if_pos w1, mg0 hRm2, ma1 (by omega), hs2, nI_1, ms1 (by omega), ← w2]
          exact take _ (c + 1) (Or.inr ⟨rfl, w2⟩) hRm2 rm2 (fun b hb => setX_o hb) (fun j hj => setX_n hj) (by rw [setX_j, w2])
        · rw [if_pos rfl, if_neg w1]
          unfold f_X12_text_231
          rw [if_neg w1, w2]
          exact take σm2 c (Or.inl ⟨rfl, w3⟩) hRm2 rm2 (fun _ _ => rfl) (fun _ _ => rfl) hs2
      · rw [ite_z_f (by omega) cz, ite_z_f (by omega) cz]
        refine ⟨-1, σx3, σm2, rfl, rfl, Inv_now2 hI hR3 rm2 (fun a h1 h2 => (o3 a (by omega)).trans ((r3 a (by omega)).trans (ox a (by omega)))) (fun i hi => pj i (by omega) (by omega) (by omega)) ((r5.1 2 (by decide) (by decide) (by decide)).trans (om 2 (by decide) (by decide))) (TR_0 hT (fun a h1 h2 => (o3 a (by omega)).trans ((r3 a (by omega)).trans (ox a (by omega)))) (fun j _ j4 j5 j6 => pj j j4 j5 j6) y11 p4 (by rw [y12, e2]) y13)⟩
    have no : ∃ r σx' σm', some ((-2 : Int32), σx1) = some (r, σx') ∧ some ((-2 : Int32), σm1) = some (r, σm') ∧ Inv σx' σm' := ⟨-2, σx1, σm1, rfl, rfl, hI1⟩
    have n2 : ¬ nI c = (-2 : Int32) := by
      rcases (show c = 0 ∨ c = 1 ∨ c = 2 by omega) with rfl | rfl | rfl <;> decide
    by_cases cz : z2 = -1
    · rw [if_pos cz, if_pos cz]
      unfold f_X11_text_52
      rw [if_neg n2, if_neg (by decide)]
      by_cases d : c < 2
      · rw [if_pos (show nI c < (2 : Int32) from nI_lt (b := 2) d (by decide)), if_pos (show nI c < (2 : Int32) from nI_lt (b := 2) d (by decide))]
        unfold f_X11_text_75
        rw [if_neg (by decide)]
        exact read c 1 d (Or.inl ⟨cz, rfl, rfl⟩)
      · rw [if_neg (show ¬ nI c < (2 : Int32) from nI_nlt (b := 2) (by omega) (by omega)), if_neg (show ¬ nI c < (2 : Int32) from nI_nlt (b := 2) (by omega) (by omega))]
        exact no
    · rw [if_neg cz, if_neg cz, bo_of mrc]
      have ho : f_X12_isOf 0 (nI s) z2 σm1 = some (bI (inI z2 0 (nI c - 1))) := by
        unfold f_X12_isOf
        rw [mg0 hRm1, ma1 (by omega), hc1, bo_of (iInB _ _ _ _), if_pos (bI_01 _)]
      have qc : inR z2 c ↔ inI z2 0 (nI c - 1) := inR_iff (x := z2) (n := c) (by omega)
      have qd := inR_iff2 (x := z2) (n := c) (by omega)
      unfold f_X11_text_52 f_X11_text_75
      rw [if_neg n2, if_pos rfl, if_pos rfl, bo_of ho, ite_b]
      by_cases d : inR z2 c
      · obtain ⟨w1, w2⟩ := qd.mp d
        rw [ci_t (qc.mp d), if_neg w1, if_pos (Int32.not_le.mp w2)]
        obtain ⟨k, hk, rfl⟩ := d
        exact read k 0 (by omega) (Or.inr ⟨cz, rfl, hk, rfl⟩)
      · rw [ci_f (fun y => d (qc.mpr y))]
        by_cases w1 : z2 < 0
        · rw [if_pos w1]; exact no
        · rw [if_neg w1, if_neg (fun y => d (qd.mpr ⟨w1, Int32.not_le.mpr y⟩))]; exact no
  · rw [ci_f (show ¬ inI z1 0 2 from fun y => h3 (q3.mpr y)), bo_of (x_manyN h3)]
    unfold f_X11_text_52
    rw [if_pos rfl, if_pos rfl, ite_self]
    exact ⟨-2, σx1, σm1, rfl, rfl, hI1⟩
