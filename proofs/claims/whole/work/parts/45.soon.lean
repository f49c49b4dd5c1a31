/-! ===== soon, end, valley, deed, sight ===== -/
theorem first_or (P : Nat → Prop) : ∀ N : Nat, (∃ m, m < N ∧ P m ∧ ∀ j, j < m → ¬ P j) ∨ (∀ j, j < N → ¬ P j)
  | 0 => Or.inr (fun j h => by omega)
  | N + 1 => by
    rcases first_or P N with ⟨m, h1, h2, h3⟩ | h
    · exact Or.inl ⟨m, by omega, h2, h3⟩
    · by_cases p : P N
      · exact Or.inl ⟨N, by omega, p, h⟩
      · exact Or.inr (fun j hj => by rcases (show j < N ∨ j = N by omega) with q | rfl; exact h j q; exact p)
theorem ok_soon : LK_soon Inv := by
  intro σx σm z1 z2 z3 hI
  have hRx := hI.1
  unfold f_X11_soon f_X12_soon
  rw [x_now hRx, bo_s, x_rc1, bo_s, mrc, bo_s]
  rcases ask_V hI z1 with ⟨k, A, F, W, hk, hz, hC, e1, e2, hM, hI2⟩ | ⟨e1, e2⟩
  · have hF := hC.F10
    have hW := hC.W6
    rw [e1, bo_s, if_neg (by simp), crc hC.1, bo_s]
    by_cases c : mayA A F W z2 z3 1
    · rw [(c_mayAsk hC _ _ _).1 c, bo_s, if_neg (by decide), (m_mayKeep e2 hM _ _ _).1 c, bd_s, if_neg (by decide)]
      obtain ⟨f, w, hf, hw, rfl, rfl, -⟩ := c
      have sx : ∀ j, j < 9 → ¬ kpA A F f w (nI (1 + j)) → f_X11_soon_L31 (nI f) (nI w) (some (6 + 16 * k)) (nI (1 + j)) σx = some (.inl (nI (1 + (j + 1)))) := by
        intro j hj q
        unfold f_X11_soon_L31
        rw [if_neg (show ¬ (9 : Int32) < nI (1 + j) from fun c => absurd ((nI_ltI (a := 9) (by decide) (by omega)).mp c) (by omega)), crc hC.1, bo_s, (c_canKeep hC hf hw _).2 q, bo_s, if_pos rfl, nI_1, show 1 + j + 1 = 1 + (j + 1) by omega]
      have sm : ∀ j, j < 9 → ¬ kpA A F f w (nI (1 + j)) → f_X12_soon_L16 0 (nI f) (nI w) (nI (1 + j)) (setV σm (610 + 55 * k) F W) = some (.inl (nI (1 + (j + 1)))) := by
        intro j hj q
        unfold f_X12_soon_L16
        rw [if_neg (show ¬ (10 : Int32) ≤ nI (1 + j) from fun c => absurd ((nI_leI (a := 10) (by decide) (by omega)).mp c) (by omega)), mrc, bo_s, (m_keeps hM (by omega) (by omega) _).2 q, bo_s, if_pos rfl, nI_1, show 1 + j + 1 = 1 + (j + 1) by omega]
      rcases first_or (fun j => kpA A F f w (nI (1 + j))) 9 with ⟨n, hn, hp, hl⟩ | hl
      · refine ⟨nI (1 + n), _, ?_, ?_, hI2⟩
        · rw [show iter FU (fun s => f_X11_soon_L31 (nI f) (nI w) (some (6 + 16 * k)) s σx) (1 : Int32) = some (.inl (nI (1 + n))) from iter_n (st := fun j => nI (1 + j)) (x := Sum.inl (nI (1 + n))) n (by omega) (fun j hj => sx j (by omega) (hl j hj)) (by
            show f_X11_soon_L31 (nI f) (nI w) (some (6 + 16 * k)) (nI (1 + n)) σx = _
            unfold f_X11_soon_L31
            rw [if_neg (show ¬ (9 : Int32) < nI (1 + n) from fun c => absurd ((nI_ltI (a := 9) (by decide) (by omega)).mp c) (by omega)), crc hC.1, bo_s, (c_canKeep hC hf hw _).1 hp, bo_s, if_neg (by decide)]), bo_s]
          rfl
        · rw [show iter FU (fun s => f_X12_soon_L16 0 (nI f) (nI w) s (setV σm (610 + 55 * k) F W)) (1 : Int32) = some (nI (1 + n)) from iter_n (st := fun j => nI (1 + j)) (x := nI (1 + n)) n (by omega) (fun j hj => sm j (by omega) (hl j hj)) (by
            show f_X12_soon_L16 0 (nI f) (nI w) (nI (1 + n)) _ = _
            unfold f_X12_soon_L16
            rw [if_neg (show ¬ (10 : Int32) ≤ nI (1 + n) from fun c => absurd ((nI_leI (a := 10) (by decide) (by omega)).mp c) (by omega)), mrc, bo_s, (m_keeps hM (by omega) (by omega) _).1 hp, bo_s, if_neg (by decide)]), bo_s]
          unfold f_X12_soon_40
          rw [if_neg (show ¬ (10 : Int32) ≤ nI (1 + n) from fun c => absurd ((nI_leI (a := 10) (by decide) (by omega)).mp c) (by omega))]
      · refine ⟨-1, _, ?_, ?_, hI2⟩
        · rw [show iter FU (fun s => f_X11_soon_L31 (nI f) (nI w) (some (6 + 16 * k)) s σx) (1 : Int32) = some (.inr ()) from iter_n (st := fun j => nI (1 + j)) (x := Sum.inr ()) 9 (by omega) (fun j hj => sx j hj (hl j hj)) (by
            show f_X11_soon_L31 (nI f) (nI w) (some (6 + 16 * k)) (nI (1 + 9)) σx = _
            unfold f_X11_soon_L31
            rw [if_pos (by decide)]), bo_s]
          rfl
        · rw [show iter FU (fun s => f_X12_soon_L16 0 (nI f) (nI w) s (setV σm (610 + 55 * k) F W)) (1 : Int32) = some (nI (1 + 9)) from iter_n (st := fun j => nI (1 + j)) (x := nI (1 + 9)) 9 (by omega) (fun j hj => sm j hj (hl j hj)) (by
            show f_X12_soon_L16 0 (nI f) (nI w) (nI (1 + 9)) _ = _
            unfold f_X12_soon_L16
            rw [if_pos (by decide)]), bo_s]
          unfold f_X12_soon_40
          rw [if_pos (by decide)]
    · exact ⟨-1, _, by rw [(c_mayAsk hC _ _ _).2 c, bo_s]; rfl, by rw [(m_mayKeep e2 hM _ _ _).2 c, bd_s]; rfl, hI2⟩
  · exact ⟨-1, _, by rw [e1, bo_s]; rfl, by rw [m_mayKeep0 e2, bd_s]; rfl, hI⟩
/-- the tape's length alone is set -/
theorem TR_len {σx σm : Dt} {t o n : Nat} (ht : t + 37 < 155) (h1 : TR σx σm t o) (hn : ∀ L, σm.1 1 (o + 4) = nI L → L ≤ 600 → n ≤ L) : TR (up2 σx.1 t 1 (nI n), σx.2.1, σx.2.2) (up2 σm.1 1 (o + 4) (nI n), σm.2.1, σm.2.2) t o := by
  obtain ⟨c0, c1, c2, L, hb, hm, hx, hf, htp, hv, hl, hs⟩ := h1
  have hnL := hn L hm.2.2.2 hb.2.2.2
  have qm : ∀ i, i ≠ o + 4 → up2 σm.1 1 (o + 4) (nI n) 1 i = σm.1 1 i := fun i h => up2_j h
  have qx : ∀ a, a ≠ t → up2 σx.1 t 1 (nI n) a = σx.1 a := fun a h => up2_ne h
  refine ⟨c0, c1, c2, n, ⟨hb.1, hb.2.1, hb.2.2.1, by omega⟩, ?_, ?_, ?_, ?_, ?_, ?_, ?_⟩
  · dsimp only
    rw [qm _ (by omega), qm _ (by omega), qm _ (by omega), up2_eq]
    exact ⟨hm.1, hm.2.1, hm.2.2.1, rfl⟩
  · dsimp only
    rw [qx _ (by omega), up2_eq]
    exact ⟨hx.1, hx.2.1, hx.2.2.1, rfl⟩
  · dsimp only
    rw [qm _ (by omega), qm _ (by omega), up2_j (by decide), up2_j (by decide)]
    exact hf
  · intro i hi
    dsimp only
    rw [qx _ (by omega), qm _ (by omega)]
    exact htp i (by omega)
  · intro k hk
    have e : (fun i => up2 σm.1 1 (o + 4) (nI n) 1 (o + 610 + 55 * k + i)) = fun i => σm.1 1 (o + 610 + 55 * k + i) := funext fun i => qm _ (by omega)
    dsimp only
    rw [e]
    obtain ⟨q1, F, W, q2, q3⟩ := hv k hk
    refine ⟨?_, F, W, q2, ?_⟩
    · unfold VR at *
      dsimp only
      rw [qx _ (by omega), qx _ (by omega), qx _ (by omega), qx _ (by omega), qx _ (by omega), qx _ (by omega), qx _ (by omega)]
      exact q1
    · unfold HR at *
      dsimp only
      rw [qx _ (by omega)]
      exact q3
  · intro k hk
    have e : (fun i => up2 σm.1 1 (o + 4) (nI n) 1 (o + 720 + 161 * k + i)) = fun i => σm.1 1 (o + 720 + 161 * k + i) := funext fun i => qm _ (by omega)
    dsimp only
    rw [e]
    obtain ⟨q1, q2⟩ := hl k hk
    refine ⟨?_, q2⟩
    unfold LR at *
    dsimp only
    rw [qx _ (by omega), qx _ (by omega), qx _ (by omega), qx _ (by omega), qx _ (by omega)]
    exact q1
  · intro k hk
    have e : (fun i => up2 σm.1 1 (o + 4) (nI n) 1 (o + 1042 + 18 * k + i)) = fun i => σm.1 1 (o + 1042 + 18 * k + i) := funext fun i => qm _ (by omega)
    dsimp only
    rw [e]
    obtain ⟨q1, q2⟩ := hs k hk
    refine ⟨?_, q2⟩
    unfold SR at *
    dsimp only
    rw [qx _ (by omega), qx _ (by omega), qx _ (by omega)]
    exact q1
/-- images stay when the told state of now changes -/
theorem Inv_now {σx σm σx' σm' : Dt} (hI : Inv σx σm) (hr : σx'.2.2 = σx.2.2) (hrm : σm'.2.2 = σm.2.2) (hx : ∀ a, 39 ≤ a → a < 155 → σx'.1 a = σx.1 a) (hm : ∀ i, 1078 ≤ i → σm'.1 1 i = σm.1 1 i) (hm2 : σm'.1 2 = σm.1 2) (hT : TR σx' σm' 1 0) : Inv σx' σm' := by
  obtain ⟨a, b, c, d, e⟩ := hI
  refine ⟨?_, ?_, hT, ?_, fun k hk q => ?_⟩
  · unfold RefX at *; rw [hr]; exact a
  · unfold RefM at *; rw [hrm]; exact b
  · rw [hm2, hx 154 (by decide) (by decide)]; exact d
  · rw [hm2] at q
    obtain ⟨c0, c1, c2, L, hb, gm, gx, hf, htp, hv, hl, hs⟩ := e k hk q
    refine ⟨c0, c1, c2, L, hb, ?_, ?_, ?_, ?_, ?_, ?_, ?_⟩
    · rw [hm _ (by omega), hm _ (by omega), hm _ (by omega), hm _ (by omega)]; exact gm
    · rw [hx _ (by omega) (by omega), hx _ (by omega) (by omega)]; exact gx
    · rw [hx _ (by omega) (by omega), hm _ (by omega), hm _ (by omega)]; exact hf
    · intro i hi
      rw [hx _ (by omega) (by omega), hm _ (by omega)]; exact htp i hi
    · intro j hj
      have e : (fun i => σm'.1 1 (1078 * (k + 1) + 610 + 55 * j + i)) = fun i => σm.1 1 (1078 * (k + 1) + 610 + 55 * j + i) := funext fun i => hm _ (by omega)
      rw [e]
      obtain ⟨q1, F, W, q2, q3⟩ := hv j hj
      refine ⟨?_, F, W, q2, ?_⟩
      · unfold VR at *
        rw [hx _ (by omega) (by omega), hx _ (by omega) (by omega), hx _ (by omega) (by omega), hx _ (by omega) (by omega), hx _ (by omega) (by omega), hx _ (by omega) (by omega), hx _ (by omega) (by omega)]
        exact q1
      · unfold HR at *
        rw [hx _ (by omega) (by omega)]
        exact q3
    · intro j hj
      have e : (fun i => σm'.1 1 (1078 * (k + 1) + 720 + 161 * j + i)) = fun i => σm.1 1 (1078 * (k + 1) + 720 + 161 * j + i) := funext fun i => hm _ (by omega)
      rw [e]
      obtain ⟨q1, q2⟩ := hl j hj
      refine ⟨?_, q2⟩
      unfold LR at *
      rw [hx _ (by omega) (by omega), hx _ (by omega) (by omega), hx _ (by omega) (by omega), hx _ (by omega) (by omega), hx _ (by omega) (by omega)]
      exact q1
    · intro j hj
      have e : (fun i => σm'.1 1 (1078 * (k + 1) + 1042 + 18 * j + i)) = fun i => σm.1 1 (1078 * (k + 1) + 1042 + 18 * j + i) := funext fun i => hm _ (by omega)
      rw [e]
      obtain ⟨q1, q2⟩ := hs j hj
      refine ⟨?_, q2⟩
      unfold SR at *
      rw [hx _ (by omega) (by omega), hx _ (by omega) (by omega), hx _ (by omega) (by omega)]
      exact q1
theorem ok_end : LK_end Inv := by
  intro σx σm z hI
  obtain ⟨hRx, hRm, hT, -⟩ := id hI
  obtain ⟨c0, c1, c2, L, hb, hm, hx, hf, -⟩ := id hT
  unfold f_X11_end f_X12_end
  by_cases h0 : z < 0
  · exact ⟨-1, σx, σm, by rw [if_pos h0], by rw [if_pos h0], hI⟩
  · rw [if_neg h0, if_neg h0, x_now hRx, bo_s, x_gi1, bo_s, mgr, bo_s, mall hRm, bo_s, show (4 : Int32) = nI 4 from rfl, mai _ _ (by decide), bo_s, hx.2.2.2, show σm.1 1 4 = nI L from hm.2.2.2]
    by_cases h1 : z ≤ nI L
    · rw [if_pos h1, if_pos h1, bo_s, msi _ _ _ (by decide), bo_s, xpi_of (by decide) (by decide), bo_s]
      obtain ⟨n, hn, rfl⟩ := nI_of h0
      have hnL : n ≤ L := (nI_leI (by omega) (by omega)).mp h1
      refine ⟨_, _, _, rfl, rfl, Inv_now hI rfl rfl (fun a h2 h3 => up2_ne (by omega)) (fun i hi => up2_j (by omega)) (up2_ne (f := σm.1) (a := 1) (j := 4) (v := nI n) (show (2 : Nat) ≠ 1 by decide)) ?_⟩
      exact TR_len (t := 1) (o := 0) (by decide) hT (fun L' e _ => by
        have e3 : σm.1 1 (0 + 4) = nI L := hm.2.2.2
        rw [e3] at e
        have := (nI_eq (by omega) (by omega)).mp e
        omega)
    · exact ⟨-1, σx, σm, by rw [if_neg h1], by rw [if_neg h1], hI⟩
