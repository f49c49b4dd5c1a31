/-! ===== heaps ===== -/
def sumN (f : Nat → Nat) (s : Nat) : Nat → Nat
  | 0 => 0
  | w + 1 => sumN f s w + (if s.testBit w = true then f w else 0)
theorem sumN_le {f : Nat → Nat} {s M : Nat} : ∀ n, (∀ w, w < n → f w ≤ M) → sumN f s n ≤ n * M
  | 0, _ => by rw [sumN, Nat.zero_mul]; exact Nat.le_refl _
  | n + 1, h => by
    have := sumN_le (s := s) n (fun w hw => h w (by omega))
    have h2 := h n (by omega)
    rw [sumN, Nat.succ_mul]
    by_cases c : s.testBit n = true
    · rw [if_pos c]; omega
    · rw [if_neg c]; omega
theorem sumN_c {f : Nat → Nat} {s t : Nat} : ∀ n, (∀ w, w < n → s.testBit w = t.testBit w) → sumN f s n = sumN f t n
  | 0, _ => rfl
  | n + 1, h => by rw [sumN, sumN, sumN_c n (fun w hw => h w (by omega)), h n (by omega)]
/-- of two that lie opposite: all together -/
theorem sumN_opp {f : Nat → Nat} {s t u : Nat} : ∀ n, (∀ w, w < n → u.testBit w = true ∧ t.testBit w = !s.testBit w) → sumN f s n + sumN f t n = sumN f u n
  | 0, _ => rfl
  | n + 1, h => by
    have := sumN_opp (f := f) n (fun w hw => h w (by omega))
    obtain ⟨h1, h2⟩ := h n (by omega)
    rw [sumN, sumN, sumN, h1, h2]
    cases s.testBit n <;> simp <;> omega
theorem sumW_s {A : Nat → Int32} {F W : Nat} (h : VW A F W) {s : Nat} (hs : s < 2 ^ 31) : ∀ n, n ≤ 6 → sumW A 43 (nI s) n = nI (sumN (szN A) s n)
  | 0, _ => rfl
  | n + 1, hn => by
    rw [sumW, sumN, sumW_s h hs n (by omega), (h.wk (show n < 6 by omega)).1.1]
    simp only [bit1 hs (show n < 32 by omega)]
    by_cases c : s.testBit n = true
    · rw [if_pos c, if_pos c, nI_add]
    · rw [if_neg c, if_neg c, Int32.add_zero, Nat.add_zero]
theorem sumW_w {A : Nat → Int32} {F W : Nat} (h : VW A F W) {s : Nat} (hs : s < 2 ^ 31) : ∀ n, n ≤ 6 → sumW A 44 (nI s) n = nI (sumN (woN A) s n)
  | 0, _ => rfl
  | n + 1, hn => by
    rw [sumW, sumN, sumW_w h hs n (by omega), (h.wk (show n < 6 by omega)).2.1.1]
    simp only [bit1 hs (show n < 32 by omega)]
    by_cases c : s.testBit n = true
    · rw [if_pos c, if_pos c, nI_add]
    · rw [if_neg c, if_neg c, Int32.add_zero, Nat.add_zero]
theorem bit_m1 : ∀ k, k < 32 → (((-1 : Int32) >>> (nI k &&& 31)) &&& 1 = 1) := by decide
theorem sumW_m1 {A : Nat → Int32} {F W : Nat} (h : VW A F W) : ∀ n, n ≤ 6 → sumW A 43 (-1) n = nI (sumN (szN A) 63 n)
  | 0, _ => rfl
  | n + 1, hn => by
    have e : ∀ k, k < 6 → (63 : Nat).testBit k = true := by decide
    rw [sumW, sumN, sumW_m1 h n (by omega), (h.wk (show n < 6 by omega)).1.1, if_pos (bit_m1 n (by omega)), if_pos (e n (by omega)), nI_add]
theorem mabs_sub {a b : Nat} (ha : a < 2 ^ 30) (hb : b < 2 ^ 30) : mabs (nI a - nI b) = nI (if b ≤ a then a - b else b - a) := by
  unfold mabs
  by_cases c : b ≤ a
  · rw [if_pos c, pk_sub c, if_pos (show (0 : Int32) ≤ nI (a - b) from nI_le (a := 0) (Nat.zero_le _) (by omega))]
  · rw [if_neg c, if_neg (Int32.not_le.mpr (pk_sneg hb (by omega)))]
    apply Int32.toInt_inj.mp
    have e := pk_sub_toInt ha hb
    rw [nI_toInt (by omega), Int32.toInt_sub, e, show (0 : Int32).toInt = 0 by decide, Int.bmod_eq_of_le (by omega) (by omega)]
    omega
theorem mmin_nI {a b : Nat} (ha : a < 2 ^ 31) (hb : b < 2 ^ 31) : mmin (nI a) (nI b) = nI (if b < a then b else a) := by
  unfold mmin
  by_cases c : b < a
  · rw [if_pos (nI_lt c ha), if_pos c]
  · rw [if_neg (nI_nlt (by omega) hb), if_neg c]
/-- how far two heaps differ -/
def dfN (A : Nat → Int32) (W s : Nat) : Nat := if 2 * sumN (szN A) s W ≤ sumN (szN A) 63 W then sumN (szN A) 63 W - 2 * sumN (szN A) s W else 2 * sumN (szN A) s W - sumN (szN A) 63 W
def ldX (A : Nat → Int32) (W s b : Nat) : Nat := if dfN A W s < b then dfN A W s else b
def ldM (A : Nat → Int32) (W s b : Nat) : Nat := if 2 * sumN (szN A) s W < sumN (szN A) 63 W then b else if b ≤ 2 * sumN (szN A) s W - sumN (szN A) 63 W then b else 2 * sumN (szN A) s W - sumN (szN A) 63 W
theorem ldX_P (A : Nat → Int32) (W b0 : Nat) : ∀ n, fld (ldX A W) b0 n ≤ b0 ∧ (∀ s, s < n → fld (ldX A W) b0 n ≤ dfN A W s) ∧ (fld (ldX A W) b0 n = b0 ∨ ∃ s, s < n ∧ fld (ldX A W) b0 n = dfN A W s)
  | 0 => ⟨Nat.le_refl _, fun s h => by omega, Or.inl rfl⟩
  | n + 1 => by
    obtain ⟨h1, h2, h3⟩ := ldX_P A W b0 n
    show ldX A W n (fld (ldX A W) b0 n) ≤ _ ∧ _
    rw [fld]
    generalize fld (ldX A W) b0 n = b at *
    unfold ldX
    by_cases c : dfN A W n < b
    · rw [if_pos c]
      refine ⟨by omega, fun s hs => ?_, Or.inr ⟨n, by omega, rfl⟩⟩
      rcases (show s < n ∨ s = n by omega) with q | rfl
      · have := h2 s q; omega
      · exact Nat.le_refl _
    · rw [if_neg c]
      refine ⟨h1, fun s hs => ?_, ?_⟩
      · rcases (show s < n ∨ s = n by omega) with q | rfl
        · exact h2 s q
        · omega
      · rcases h3 with h3 | ⟨s, hs, h3⟩
        · exact Or.inl h3
        · exact Or.inr ⟨s, by omega, h3⟩
theorem ldM_P (A : Nat → Int32) (W b0 : Nat) : ∀ n, fld (ldM A W) b0 n ≤ b0 ∧ (∀ s, s < n → sumN (szN A) 63 W ≤ 2 * sumN (szN A) s W → fld (ldM A W) b0 n ≤ dfN A W s) ∧ (fld (ldM A W) b0 n = b0 ∨ ∃ s, s < n ∧ fld (ldM A W) b0 n = dfN A W s)
  | 0 => ⟨Nat.le_refl _, fun s h => by omega, Or.inl rfl⟩
  | n + 1 => by
    obtain ⟨h1, h2, h3⟩ := ldM_P A W b0 n
    have hd : ∀ s, sumN (szN A) 63 W ≤ 2 * sumN (szN A) s W → dfN A W s = 2 * sumN (szN A) s W - sumN (szN A) 63 W := by
      intro s hs
      unfold dfN
      by_cases c : 2 * sumN (szN A) s W ≤ sumN (szN A) 63 W
      · rw [if_pos c]; omega
      · rw [if_neg c]
    rw [fld]
    generalize fld (ldM A W) b0 n = b at *
    unfold ldM
    by_cases c : 2 * sumN (szN A) n W < sumN (szN A) 63 W
    · rw [if_pos c]
      refine ⟨h1, fun s hs hq => ?_, ?_⟩
      · rcases (show s < n ∨ s = n by omega) with q | rfl
        · exact h2 s q hq
        · omega
      · rcases h3 with h3 | ⟨s, hs, h3⟩
        · exact Or.inl h3
        · exact Or.inr ⟨s, by omega, h3⟩
    · rw [if_neg c]
      by_cases c2 : b ≤ 2 * sumN (szN A) n W - sumN (szN A) 63 W
      · rw [if_pos c2]
        refine ⟨h1, fun s hs hq => ?_, ?_⟩
        · rcases (show s < n ∨ s = n by omega) with q | rfl
          · exact h2 s q hq
          · rw [hd s hq]; exact c2
        · rcases h3 with h3 | ⟨s, hs, h3⟩
          · exact Or.inl h3
          · exact Or.inr ⟨s, by omega, h3⟩
      · rw [if_neg c2]
        refine ⟨by omega, fun s hs hq => ?_, Or.inr ⟨n, by omega, (hd n (by omega)).symm⟩⟩
        rcases (show s < n ∨ s = n by omega) with q | rfl
        · have := h2 s q hq; omega
        · rw [hd s hq]; exact Nat.le_refl _
theorem ld_eq (A : Nat → Int32) {W : Nat} (hW : W ≤ 6) (b0 : Nat) : fld (ldX A W) b0 64 = fld (ldM A W) b0 (2 ^ W) := by
  obtain ⟨x1, x2, x3⟩ := ldX_P A W b0 64
  obtain ⟨m1, m2, m3⟩ := ldM_P A W b0 (2 ^ W)
  have hp : 2 ^ W ≤ 64 := (pow2 W (by omega)).2.1
  apply Nat.le_antisymm
  · rcases m3 with e | ⟨s, hs, e⟩
    · omega
    · rw [e]; exact x2 s (by omega)
  · rcases x3 with e | ⟨s, hs, e⟩
    · omega
    · rw [e]
      have b63 : ∀ w, w < 6 → (63 : Nat).testBit w = true := by decide
      by_cases c : sumN (szN A) 63 W ≤ 2 * sumN (szN A) s W
      · have e1 : sumN (szN A) (s % 2 ^ W) W = sumN (szN A) s W := sumN_c W (fun w hw => by rw [Nat.testBit_mod_two_pow]; simp [hw])
        have e2 : dfN A W (s % 2 ^ W) = dfN A W s := by unfold dfN; rw [e1]
        rw [← e2]
        exact m2 _ (Nat.mod_lt _ (Nat.two_pow_pos W)) (by rw [e1]; exact c)
      · have hopp := sumN_opp (f := szN A) (s := s) (t := nsub (2 ^ W - 1) s) (u := 63) W (fun w hw => ⟨b63 w (by omega), by rw [tb_nsub, Nat.testBit_two_pow_sub_one]; simp [hw]⟩)
        have hlt : nsub (2 ^ W - 1) s < 2 ^ W := by
          have := nsub_le (2 ^ W - 1) s
          have := Nat.two_pow_pos W
          omega
        have e2 : dfN A W (nsub (2 ^ W - 1) s) = dfN A W s := by
          unfold dfN
          by_cases c2 : 2 * sumN (szN A) (nsub (2 ^ W - 1) s) W ≤ sumN (szN A) 63 W
          · rw [if_pos c2, if_pos (by omega)]; omega
          · rw [if_neg c2, if_pos (by omega)]; omega
        rw [← e2]
        exact m2 _ hlt (by omega)
theorem strA_m1 {A : Nat → Int32} {F W : Nat} (h : VW A F W) : ∀ n, n ≤ 10 → strA A (-1) (-1) n = nI (sumN (stN A) 1023 n)
  | 0, _ => rfl
  | n + 1, hn => by
    have e : ∀ k, k < 10 → (1023 : Nat).testBit k = true := by decide
    rw [strA, sumN, strA_m1 h n (by omega), (h.fk (show n < 10 by omega)).2.1.1, if_pos ⟨bit_m1 n (by omega), nI_m1 (by omega)⟩, if_pos (e n (by omega)), nI_add]
theorem x_total {σ : Dt} {v F W : Nat} {A : Nat → Int32} (h : CV σ v A F W) : f_X9_totalStrength v σ = some (nI (sumN (stN A) 1023 F)) := by
  have hF := h.F10
  unfold f_X9_totalStrength
  have key := iter_n (f := fun q : Int32 × Int32 => f_X9_totalStrength_L4 v q.1 q.2 σ) (st := fun i => (nI (sumN (stN A) 1023 i), nI i)) (x := nI (sumN (stN A) 1023 F)) F (by omega) (fun i hi => ?_) ?_
  · rw [show ((0 : Int32), (0 : Int32)) = (nI (sumN (stN A) 1023 0), nI 0) from rfl, key, bo_s]
  · have e : ∀ k, k < 10 → (1023 : Nat).testBit k = true := by decide
    dsimp only
    unfold f_X9_totalStrength_L4
    rw [xfolk h, bo_s, ite_le_f (by omega) hi, if_neg (le10 (by omega)), xstrs h, bo_s, xst h (by omega), bo_s, nI_add, nI_1, sumN, if_pos (e i (by omega))]
  · dsimp only
    unfold f_X9_totalStrength_L4
    rw [xfolk h, bo_s, if_pos (nI_le (Nat.le_refl _) (by omega))]
theorem ok_heaps : LK_heaps Inv := by
  intro σx σm z1 z2 hI hz2
  unfold f_X11_heaps f_X12_heaps
  simp only [x_now hI.1, bo_s, x_rc1, mrc]
  rcases ask_V hI z1 with ⟨k, A, F, W, hk, hz, hC, e1, e2, hM, hI2⟩ | ⟨e1, e2⟩
  · have hF := hC.F10
    have hW := hC.W6
    have hp := pow2 W (by omega)
    have hR := hC.2.1
    have sl : ∀ s, sumN (szN A) s W ≤ 180 := fun s => Nat.le_trans (sumN_le (M := 30) W (fun w hw => (hM.vw.wk (show w < 6 by omega)).1.2)) (by omega)
    have tl : ∀ s, sumN (stN A) s F ≤ 90 := fun s => Nat.le_trans (sumN_le (M := 9) F (fun w hw => (hM.vw.fk (show w < 10 by omega)).2.1.2)) (by omega)
    simp only [e1, bo_s, e2, bd_s, ite_none, ite_10, x_diggers hI.1, x_rcd, m_sizes hM, sumW_m1 hM.vw W hW]
    unfold f_X1_yearsForAll f_X1_leastDifference
    simp only [ite_none, csizes hC.1 hR, bo_s, x_dig3 hR, c_sumUp hC 195 43 6 (Or.inl rfl) (Or.inl ⟨rfl, rfl⟩), bd_s]
    generalize hσ : putR σx 195 (fun s => if s < 64 then sumW A 43 (nI s) W else σx.1 195 s) = τ
    have hCt : CV τ (6 + 16 * k) A F W := by rw [← hσ]; exact CV_put hC (by decide)
    have hIt : Inv τ (setV σm (610 + 55 * k) F W) := Inv_x (fun a ha => by rw [← hσ, putR_o (by omega)]) (by rw [← hσ]; rfl) hI2
    have a1 : ∀ s, s < 64 → xai SX (some 195) (nI s) τ = some (nI (sumN (szN A) s W)) := by
      intro s hs
      rw [xai_of (by decide) (by decide) (show s < SX.2.2 195 from hs) (by decide), ← hσ, putR_a]
      rw [if_pos hs, sumW_s hM.vw (by omega) W hW]
    have a63 : xai SX (some 195) (63 : Int32) τ = some (nI (sumN (szN A) 63 W)) := a1 63 (by decide)
    have mld : iter FU (fun s => f_X12_heaps_L23 0 z2 (nI (sumN (szN A) 63 W)) s.1 s.2 (setV σm (610 + 55 * k) F W)) (nI (sumN (szN A) 63 W), (0 : Int32)) = some (nI (fld (ldM A W) (sumN (szN A) 63 W) (2 ^ W))) := by
      refine (iter_fld (f := fun s : Int32 × Int32 => f_X12_heaps_L23 0 z2 (nI (sumN (szN A) 63 W)) s.1 s.2 (setV σm (610 + 55 * k) F W)) (st := fun i b => (nI b, nI i)) (g := ldM A W) (P := fun i b => b ≤ 400) (b0 := sumN (szN A) 63 W) (x := fun b => nI b) (2 ^ W) (by omega) (by have := sl 63; omega) (fun i b hi hb => ?_) (fun b hb => ?_)).1
      · have h6 := sl 63
        have hi6 := sl i
        dsimp only
        unfold f_X12_heaps_L23 f_X12_heaps_63 f_X12_heaps_65 ldM
        rw [mworks hM, bo_s, hp.1, ite_le_f (by omega) hi, mrc, bo_s, m_sizes hM, bo_s, sumW_s hM.vw (by omega) W hW, show (2 : Int32) * nI (sumN (szN A) i W) = nI (2 * sumN (szN A) i W) from pk_mul 2 _, nI_1]
        by_cases c : 2 * sumN (szN A) i W < sumN (szN A) 63 W
        · rw [if_pos (pk_sneg (by omega) c), if_pos c]
          exact ⟨rfl, hb⟩
        · rw [pk_sub (by omega), if_neg (nI_pos (by omega)), if_neg c]
          by_cases c2 : b ≤ 2 * sumN (szN A) i W - sumN (szN A) 63 W
          · rw [ite_le_t (by omega) c2, if_pos c2]
            exact ⟨rfl, hb⟩
          · rw [ite_le_f (by omega) (by omega), if_neg c2]
            exact ⟨rfl, by omega⟩
      · dsimp only
        unfold f_X12_heaps_L23
        rw [mworks hM, bo_s, hp.1, if_pos (nI_le (Nat.le_refl _) (by omega))]
    rw [mld]
    simp only [x_dig3 hCt.2.1, bo_s, a63, crc hC.1, x_total hCt]
    rcases hz2 with rfl | rfl
    · rw [if_pos rfl, if_pos rfl]
      have h6 := sl 63
      have ht := tl 1023
      have hm : ∀ j, j < 100 → j * sumN (stN A) 1023 F ≤ 9000 := fun j hj => by
        have : j * sumN (stN A) 1023 F ≤ 99 * 90 := Nat.mul_le_mul (by omega) ht
        omega
      have sx : ∀ j, j < 100 → ¬ sumN (szN A) 63 W ≤ j * sumN (stN A) 1023 F → f_X1_yearsForAll_L25 194 (nI (sumN (stN A) 1023 F)) (nI j) τ = some (.inl (nI (j + 1))) := by
        intro j hj q
        have := hm j hj
        unfold f_X1_yearsForAll_L25
        rw [if_neg (show ¬ (99 : Int32) < nI j from fun z => absurd ((nI_ltI (a := 99) (by decide) (by omega)).mp z) (by omega)), x_dig3 hCt.2.1, bo_s, a63, bo_s, pk_mul, ite_lt_t (by omega) (by omega), nI_1]
      have sm : ∀ j, j < 100 → ¬ sumN (szN A) 63 W ≤ j * sumN (stN A) 1023 F → f_X12_heaps_L83 0 (nI (sumN (szN A) 63 W)) (nI j) (setV σm (610 + 55 * k) F W) = some (.inl (nI (j + 1))) := by
        intro j hj q
        have := hm j hj
        unfold f_X12_heaps_L83
        rw [if_neg (show ¬ (100 : Int32) ≤ nI j from nI_ge (b := 100) hj (by decide)), mrc, bo_s, m_strengths hM, bo_s, strA_m1 hM.vw F hF, pk_mul, ite_le_f (by omega) (by omega), nI_1]
      rcases first_or (fun j => sumN (szN A) 63 W ≤ j * sumN (stN A) 1023 F) 100 with ⟨n, hn, hp2, hq⟩ | hq
      · have := hm n hn
        rw [show iter FU (fun s => f_X1_yearsForAll_L25 194 (nI (sumN (stN A) 1023 F)) s τ) (0 : Int32) = some (.inl (nI n)) from iter_n (f := fun s => f_X1_yearsForAll_L25 194 (nI (sumN (stN A) 1023 F)) s τ) (st := fun j => nI j) (x := Sum.inl (nI n)) n (by omega) (fun j hj => sx j (by omega) (hq j hj)) (by
          unfold f_X1_yearsForAll_L25
          rw [if_neg (show ¬ (99 : Int32) < nI n from fun z => absurd ((nI_ltI (a := 99) (by decide) (by omega)).mp z) (by omega)), x_dig3 hCt.2.1, bo_s, a63, bo_s, pk_mul, ite_lt_f (by omega) (by omega)])]
        rw [show iter FU (fun s => f_X12_heaps_L83 0 (nI (sumN (szN A) 63 W)) s (setV σm (610 + 55 * k) F W)) (0 : Int32) = some (nI n) from iter_n (f := fun s => f_X12_heaps_L83 0 (nI (sumN (szN A) 63 W)) s (setV σm (610 + 55 * k) F W)) (st := fun j => nI j) (x := nI n) n (by omega) (fun j hj => sm j (by omega) (hq j hj)) (by
          unfold f_X12_heaps_L83
          rw [if_neg (show ¬ (100 : Int32) ≤ nI n from nI_ge (b := 100) hn (by decide)), mrc, bo_s, m_strengths hM, bo_s, strA_m1 hM.vw F hF, pk_mul, ite_le_t (by omega) (by omega)])]
        unfold f_X12_heaps_109
        refine ⟨nI n, τ, _, rfl, ?_, hIt⟩
        rw [bo_s, if_neg (show ¬ (100 : Int32) ≤ nI n from nI_ge (b := 100) hn (by decide))]
      · rw [show iter FU (fun s => f_X1_yearsForAll_L25 194 (nI (sumN (stN A) 1023 F)) s τ) (0 : Int32) = some (.inr ()) from iter_n (f := fun s => f_X1_yearsForAll_L25 194 (nI (sumN (stN A) 1023 F)) s τ) (st := fun j => nI j) (x := Sum.inr ()) 100 (by omega) (fun j hj => sx j (by omega) (hq j hj)) (by
          unfold f_X1_yearsForAll_L25
          rw [if_pos (by decide)])]
        rw [show iter FU (fun s => f_X12_heaps_L83 0 (nI (sumN (szN A) 63 W)) s (setV σm (610 + 55 * k) F W)) (0 : Int32) = some (nI 100) from iter_n (f := fun s => f_X12_heaps_L83 0 (nI (sumN (szN A) 63 W)) s (setV σm (610 + 55 * k) F W)) (st := fun j => nI j) (x := nI 100) 100 (by omega) (fun j hj => sm j (by omega) (hq j hj)) (by
          unfold f_X12_heaps_L83
          rw [if_pos (by decide)])]
        exact ⟨-1, τ, _, rfl, rfl, hIt⟩
    · rw [if_neg (by decide), if_neg (by decide)]
      have h6 := sl 63
      have xld : iter FU (fun s => f_X1_leastDifference_L31 194 (nI (sumN (szN A) 63 W)) s.1 s.2 τ) (nI (sumN (szN A) 63 W), (0 : Int32)) = some (nI (fld (ldX A W) (sumN (szN A) 63 W) 64)) := by
        refine (iter_fld (f := fun s : Int32 × Int32 => f_X1_leastDifference_L31 194 (nI (sumN (szN A) 63 W)) s.1 s.2 τ) (st := fun i b => (nI b, nI i)) (g := ldX A W) (P := fun i b => b ≤ 400) (b0 := sumN (szN A) 63 W) (x := fun b => nI b) 64 (by omega) (by omega) (fun i b hi hb => ?_) (fun b hb => ?_)).1
        · have hi6 := sl i
          have hd : dfN A W i ≤ 400 := by
            unfold dfN
            by_cases c : 2 * sumN (szN A) i W ≤ sumN (szN A) 63 W
            · rw [if_pos c]; omega
            · rw [if_neg c]; omega
          have e3 : mabs (nI (sumN (szN A) 63 W) - nI (2 * sumN (szN A) i W)) = nI (dfN A W i) := mabs_sub (by omega) (by omega)
          have e4 : mmin (nI b) (nI (dfN A W i)) = nI (ldX A W i b) := mmin_nI (by omega) (by omega)
          refine ⟨?_, ?_⟩
          · dsimp only
            unfold f_X1_leastDifference_L31
            rw [if_neg (show ¬ (64 : Int32) ≤ nI i from nI_ge (b := 64) hi (by decide)), x_dig3 hCt.2.1, bo_s, a1 i hi, bo_s, show (2 : Int32) * nI (sumN (szN A) i W) = nI (2 * sumN (szN A) i W) from pk_mul 2 _, e3, e4, nI_1]
          · unfold ldX
            by_cases c : dfN A W i < b
            · rw [if_pos c]; omega
            · rw [if_neg c]; omega
        · dsimp only
          unfold f_X1_leastDifference_L31
          rw [if_pos (by decide)]
      rw [xld, ld_eq A hW]
      exact ⟨_, τ, _, rfl, rfl, hIt⟩
  · simp only [e1, bo_s, e2, bd_s]
    exact ⟨-2, _, _, rfl, rfl, hI⟩
