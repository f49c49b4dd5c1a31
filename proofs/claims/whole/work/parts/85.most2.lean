/-! ===== most: the promise ===== -/
section MSX
variable {σ : Dt} {o v F W : Nat} {A : Nat → Int32} {n : Int32} {K : Nat → Nat}
noncomputable def nvG (K : Nat → Nat) (W w x : Nat) : Nat := x ||| ci (w < W ∧ K w = 0) (2 ^ w) 0
theorem nv_eq (K : Nat → Nat) {W : Nat} (hW : W ≤ 6) : fld (nvG K W) 0 6 = fld (nvG K W) 0 W := by
  have : ∀ d, fld (nvG K W) 0 (W + d) = fld (nvG K W) 0 W := by
    intro d
    induction d with
    | zero => rfl
    | succ d ih =>
      show nvG K W (W + d) (fld (nvG K W) 0 (W + d)) = _
      unfold nvG at *
      rw [ci_f (fun z => by omega), Nat.or_zero, ih]
  have h := this (6 - W)
  rw [show W + (6 - W) = 6 by omega] at h
  exact h
theorem x_never (h : CV σ v A F W) (hH : Hd σ K) : f_X7_neverKept 191 (some v) σ = some (nI (fld (nvG K W) 0 6)) := by
  have hW := h.W6
  unfold f_X7_neverKept
  have key := iter_n (f := fun q : Int32 × Int32 => f_X7_neverKept_L4 191 (some v) q.1 q.2 σ) (st := fun i => (nI (fld (nvG K W) 0 i), nI i)) (x := nI (fld (nvG K W) 0 6)) 6 (by decide) (fun i hi => ?_) ?_
  · exact bo_of key
  · dsimp only
    have hx := (hH.2.1 i hi).2
    unfold f_X7_neverKept_L4 f_X7_neverKept_37
    rw [if_neg (show ¬ (6 : Int32) ≤ nI i from nI_ge (b := 6) hi (by decide)), if_neg (by simp), bo_of (crc h.1), bo_of (c_hasWorkB h _), ite_b, xs0 hH.1, sai0 hi, (hH.2.1 i hi).1, shl1 (by omega), nI_or, nI_1]
    show _ = some (Sum.inl (nI (nvG K W i (fld (nvG K W) 0 i)), nI (i + 1)))
    have e : nvG K W i (fld (nvG K W) 0 i) = fld (nvG K W) 0 i ||| ci (i < W ∧ K i = 0) (2 ^ i) 0 := rfl
    rw [e]
    by_cases c1 : i < W
    · rw [ci_in_t c1]
      by_cases c2 : K i = 0
      · rw [ite_z_t c2, ci_t ⟨c1, c2⟩]
      · rw [ite_z_f (by omega) c2, ci_f (fun z => c2 z.2), Nat.or_zero]
    · rw [ci_in_f (by omega) (by omega), ci_f (fun z => c1 z.1), Nat.or_zero]
  · dsimp only
    unfold f_X7_neverKept_L4
    rw [if_pos (by decide)]
theorem m_never (h : MV σ o A F W) : f_X12_neverOf 0 n σ = some (nI (fld (nvG (kpN A F W n) W) 0 W)) := by
  have hF := h.F10
  have hW := h.W6
  unfold f_X12_neverOf
  have key := iter_n (f := fun q : Int32 × Int32 => f_X12_neverOf_L4 0 n q.1 q.2 σ) (st := fun i => (nI (fld (nvG (kpN A F W n) W) 0 i), nI i)) (x := nI (fld (nvG (kpN A F W n) W) 0 W)) W (by omega) (fun i hi => ?_) ?_
  · exact bo_of key
  · dsimp only
    have inner : ∀ x2 : Int32, iter FU (fun q => f_X12_neverOf_L18 0 n x2 (nI i) q.1 q.2 σ) ((0 : Int32), (0 : Int32)) = some (bI (∃ f, f < F ∧ kpA A F f i n)) := by
      intro x2
      have key := iter_n (f := fun q : Int32 × Int32 => f_X12_neverOf_L18 0 n x2 (nI i) q.1 q.2 σ) (st := fun j => (bI (∃ f, f < j ∧ kpA A F f i n), nI j)) (x := bI (∃ f, f < F ∧ kpA A F f i n)) F (by omega) (fun j hj => ?_) ?_
      · have e0 : bI (∃ f, f < 0 ∧ kpA A F f i n) = 0 := bI_f (fun ⟨f, hf, _⟩ => absurd hf (Nat.not_lt_zero f))
        rw [e0] at key
        exact key
      · dsimp only
        unfold f_X12_neverOf_L18 f_X12_neverOf_43 f_X12_neverOf_48
        rw [bo_of (mfolk h), ite_le_f (by omega) hj, ite_b, bo_of mrc, bo_of (m_keepsB h (by omega) (by omega) n), ite_b, nI_1]
        by_cases c : ∃ f, f < j ∧ kpA A F f i n
        · obtain ⟨f, f1, f2⟩ := id c
          rw [ci_t c, bI_t ⟨f, by omega, f2⟩]
        · rw [ci_f c]
          by_cases d : kpA A F j i n
          · rw [ci_t d, bI_t ⟨j, by omega, d⟩]
          · rw [ci_f d, bI_f (fun ⟨f, f1, f2⟩ => by
              rcases (show f = j ∨ f < j by omega) with y | y
              · rw [y] at f2; exact d f2
              · exact c ⟨f, y, f2⟩)]
      · dsimp only
        unfold f_X12_neverOf_L18
        rw [bo_of (mfolk h), if_pos (nI_le (Nat.le_refl _) (by omega))]
    unfold f_X12_neverOf_L4 f_X12_neverOf_69
    rw [bo_of (mworks h), ite_le_f (by omega) hi, bo_of (inner _), ite_b, shl1 (by omega), nI_or, Int32.or_zero, nI_1]
    show _ = some (Sum.inl (nI (nvG (kpN A F W n) W i (fld (nvG (kpN A F W n) W) 0 i)), nI (i + 1)))
    have e : nvG (kpN A F W n) W i (fld (nvG (kpN A F W n) W) 0 i) = fld (nvG (kpN A F W n) W) 0 i ||| ci (i < W ∧ kpN A F W n i = 0) (2 ^ i) 0 := rfl
    have hz : kpN A F W n i = 0 ↔ ¬ ∃ f, f < F ∧ kpA A F f i n := by
      constructor
      · rintro z ⟨f, f1, f2⟩
        have := kpN_tb.mpr ⟨f1, hi, f2⟩
        rw [z, Nat.zero_testBit] at this
        cases this
      · intro z
        apply Nat.eq_of_testBit_eq
        intro j
        rw [Nat.zero_testBit]
        cases y : (kpN A F W n i).testBit j
        · rfl
        · obtain ⟨y1, -, y3⟩ := kpN_tb.mp y
          exact absurd ⟨j, y1, y3⟩ z
    rw [e]
    by_cases c : ∃ f, f < F ∧ kpA A F f i n
    · rw [ci_t c, ci_f (fun z => hz.mp z.2 c), Nat.or_zero]
    · rw [ci_f c, ci_t ⟨hi, hz.mpr c⟩]
  · dsimp only
    unfold f_X12_neverOf_L4
    rw [bo_of (mworks h), if_pos (nI_le (Nat.le_refl _) (by omega))]
/-- the greatest of those that can be said -/
noncomputable def msG (K : Nat → Nat) (g : Nat → Nat) (s b : Nat) : Nat := if g s ≤ b then b else ci (Mt K s 1023) (g s) b
theorem ms_le {g : Nat → Nat} {M : Nat} : ∀ m, (∀ s, s < m → g s ≤ M) → fld (msG K g) 0 m ≤ M
  | 0, _ => Nat.zero_le _
  | m + 1, h => by
    have ih := ms_le m (fun s hs => h s (by omega))
    have h2 := h m (by omega)
    show msG K g m (fld (msG K g) 0 m) ≤ M
    unfold msG at *
    by_cases c : g m ≤ fld (fun s b => if g s ≤ b then b else ci (Mt K s 1023) (g s) b) 0 m
    · rw [if_pos c]; exact ih
    · rw [if_neg c]
      by_cases d : Mt K m 1023
      · rw [ci_t d]; exact h2
      · rw [ci_f d]; exact ih
theorem msG_s (g : Nat → Nat) (m : Nat) : fld (msG K g) 0 (m + 1) = if g m ≤ fld (msG K g) 0 m then fld (msG K g) 0 m else ci (Mt K m 1023) (g m) (fld (msG K g) 0 m) := rfl
theorem x_works (h : CV σ v A F W) (hH : Hd σ K) : f_X7_mostWorks 191 (some v) σ = some (nI (fld (msG K popc) 0 (2 ^ W))) := by
  have hW := h.W6
  have hp : 2 ^ W ≤ 2 ^ 6 := Nat.pow_le_pow_right (by decide) hW
  have h0 := Nat.two_pow_pos W
  unfold f_X7_mostWorks f_X7_mostWorks_14
  rw [if_neg (by simp), bo_of (crc h.1), bo_of (c_allWorks h)]
  have key := iter_n (f := fun q : Int32 × Int32 => f_X7_mostWorks_L18 191 (nI (2 ^ W - 1)) q.1 q.2 σ) (st := fun i => (nI (fld (msG K popc) 0 i), nI i)) (x := nI (fld (msG K popc) 0 (2 ^ W))) (2 ^ W) (by omega) (fun i hi => ?_) ?_
  · exact bo_of key
  · dsimp only
    have hb := ms_le (K := K) (g := popc) (M := 12) i (fun s _ => popc_le s)
    have hpi := popc_le i
    unfold f_X7_mostWorks_L18 f_X7_mostWorks_58
    rw [if_neg (nI_nlt (by omega) (by omega)), if_neg (show ¬ (64 : Int32) ≤ nI i from nI_ge (b := 64) (by omega) (by decide)), bo_of (xbits (by omega) _), bo_of src7, bo_of (show f_X7_canSay 191 (nI i) 1023 σ = _ from x_canSay hH (by omega) (u := 1023) (by decide)), ite_b, bo_of (xbits (by omega) _), nI_1, msG_s]
    by_cases c : popc i ≤ fld (msG K popc) 0 i
    · rw [ite_le_t (by omega) c, if_pos c]
    · rw [ite_le_f (by omega) (by omega), if_neg c]
      by_cases d : Mt K i 1023
      · rw [ci_t d, ci_t d]
      · rw [ci_f d, ci_f d]
  · dsimp only
    unfold f_X7_mostWorks_L18
    rw [if_pos (nI_lt (by omega) (by omega))]
theorem wo_le (h : VW A F W) (s : Nat) {m : Nat} (hm : m ≤ W) : sumN (woN A) s m ≤ 120 := by
  have hW := h.2.2.2.1
  have := sumN_le2 (f := woN A) (s := s) (M := 20) m (fun w hw => (h.wk (show w < 6 by omega)).2.1.2)
  omega
theorem x_worthS (h : CV σ v A F W) (hH : Hd σ K) (hK : ∀ w, W ≤ w → K w = 0) : f_X7_mostWorth 191 (some v) σ = some (nI (fld (msG K (fun s => sumN (woN A) s W)) 0 (2 ^ W))) := by
  have hW := h.W6
  have hp : 2 ^ W ≤ 2 ^ 6 := Nat.pow_le_pow_right (by decide) hW
  unfold f_X7_mostWorth
  have key := iter_n (f := fun q : Int32 × Int32 => f_X7_mostWorth_L4 191 (some v) q.1 q.2 σ) (st := fun i => (nI (fld (msG K (fun s => sumN (woN A) s W)) 0 i), nI i)) (x := nI (fld (msG K (fun s => sumN (woN A) s W)) 0 64)) 64 (by decide) (fun i hi => ?_) ?_
  · have hsk : ∀ d, fld (msG K (fun s => sumN (woN A) s W)) 0 (2 ^ W + d) = fld (msG K (fun s => sumN (woN A) s W)) 0 (2 ^ W) ∨ 64 < 2 ^ W + d := by
      intro d
      induction d with
      | zero => exact Or.inl rfl
      | succ d ih =>
        rcases ih with ih | ih
        · rcases (show 2 ^ W + d < 64 ∨ 64 ≤ 2 ^ W + d by omega) with z | z
          · left
            rw [← Nat.add_assoc, msG_s]
            have no : ¬ Mt K (2 ^ W + d) 1023 := by
              rintro ⟨g, g1, -⟩
              -- a set beyond the works holds one that nobody keeps
              have hex : ∃ w, W ≤ w ∧ (2 ^ W + d).testBit w = true := by
                apply Classical.byContradiction
                intro y
                have : 2 ^ W + d < 2 ^ W := Nat.lt_pow_two_of_testBit _ (fun i hi => by
                  cases e : (2 ^ W + d).testBit i
                  · rfl
                  · exact absurd ⟨i, hi, e⟩ y)
                omega
              obtain ⟨w, w1, w2⟩ := hex
              have := (g1 w (s6 z w2) w2).1
              rw [hK w w1, Nat.zero_testBit] at this
              cases this
            by_cases c : sumN (woN A) (2 ^ W + d) W ≤ fld (msG K (fun s => sumN (woN A) s W)) 0 (2 ^ W + d)
            · rw [if_pos c, ih]
            · rw [if_neg c, ci_f no, ih]
          · right; omega
        · right; omega
    have e := (hsk (64 - 2 ^ W)).resolve_right (by omega)
    rw [show 2 ^ W + (64 - 2 ^ W) = 64 by omega] at e
    rw [← e]
    exact bo_of key
  · dsimp only
    have hb := ms_le (K := K) (g := fun s => sumN (woN A) s W) (M := 120) i (fun s _ => wo_le h.vw s (Nat.le_refl _))
    have hwi := wo_le h.vw i (Nat.le_refl W)
    have inner : ∀ x2 : Int32, iter FU (fun q => f_X7_mostWorth_L20 191 (some v) x2 (nI i) q.1 q.2 σ) ((0 : Int32), (0 : Int32)) = some (nI (sumN (woN A) i W)) := by
      intro x2
      have key := iter_n (f := fun q : Int32 × Int32 => f_X7_mostWorth_L20 191 (some v) x2 (nI i) q.1 q.2 σ) (st := fun w => (nI (sumN (woN A) i w), nI w)) (x := nI (sumN (woN A) i W)) W (by omega) (fun w hw => ?_) ?_
      · exact key
      · dsimp only
        unfold f_X7_mostWorth_L20 f_X7_mostWorth_58
        rw [bo_of (xworks h), ite_le_f (by omega) hw, if_neg (show ¬ (6 : Int32) ≤ nI w from nI_ge (b := 6) (by omega) (by decide)), bo_of (xworths h), bo_of (xwor h (by omega)), nI_add, Int32.add_zero, nI_1, sumN_s]
        simp only [bit0 (show i < 2 ^ 31 by omega) (show w < 32 by omega)]
        by_cases c : i.testBit w = true
        · rw [if_neg (fun z => z c), if_pos c]
        · rw [if_pos c, if_neg c]
          rfl
      · dsimp only
        unfold f_X7_mostWorth_L20
        rw [bo_of (xworks h), if_pos (nI_le (Nat.le_refl _) (by omega))]
    unfold f_X7_mostWorth_L4 f_X7_mostWorth_67 f_X7_mostWorth_87
    rw [if_neg (by simp), if_neg (show ¬ (64 : Int32) ≤ nI i from nI_ge (b := 64) hi (by decide)), bo_of (inner _), bo_of src7, bo_of (show f_X7_canSay 191 (nI i) 1023 σ = _ from x_canSay hH hi (u := 1023) (by decide)), ite_b, nI_1, msG_s]
    by_cases c : sumN (woN A) i W ≤ fld (msG K (fun s => sumN (woN A) s W)) 0 i
    · rw [ite_le_t (by omega) c, if_pos c]
    · rw [ite_le_f (by omega) (by omega), if_neg c]
      by_cases d : Mt K i 1023
      · rw [ci_t d, ci_t d]
      · rw [ci_f d, ci_f d]
  · dsimp only
    unfold f_X7_mostWorth_L4
    rw [if_neg (by simp), if_pos (by decide)]
theorem m_most (h : MV σ o A F W) (hk : ∀ s, s < 64 → σ.1 14 s = bI (Mt K s 1023)) {z : Int32} (g : Nat → Nat) (hg : (z = 1 ∧ g = popc) ∨ (¬ z = 1 ∧ g = fun s => sumN (woN A) s W)) : iter FU (fun q => f_X12_most_L50 0 z q.1 q.2 σ) ((0 : Int32), (0 : Int32)) = some (nI (fld (msG K g) 0 (2 ^ W))) := by
  have hW := h.W6
  have hp : 2 ^ W ≤ 2 ^ 6 := Nat.pow_le_pow_right (by decide) hW
  have hg2 : ∀ s, g s ≤ 120 := fun s => by
    rcases hg with ⟨-, rfl⟩ | ⟨-, rfl⟩
    · have := popc_le s; omega
    · exact wo_le h.vw s (Nat.le_refl _)
  have key := iter_n (f := fun q : Int32 × Int32 => f_X12_most_L50 0 z q.1 q.2 σ) (st := fun i => (nI (fld (msG K g) 0 i), nI i)) (x := nI (fld (msG K g) 0 (2 ^ W))) (2 ^ W) (by omega) (fun i hi => ?_) ?_
  · exact key
  · dsimp only
    have hb := ms_le (K := K) (g := g) (M := 120) i (fun s _ => hg2 s)
    have hgi := hg2 i
    have fin : f_X12_most_80 0 z (nI (fld (msG K g) 0 i)) (nI i) (nI (g i)) σ = some (.inl (nI (fld (msG K g) 0 (i + 1)), nI (i + 1))) := by
      unfold f_X12_most_80 f_X12_most_104 f_X12_most_106
      rw [mr25 h.1, mak (by omega), hk i (by omega), ite_b, nI_1, msG_s]
      by_cases c : g i ≤ fld (msG K g) 0 i
      · rw [ite_le_t (by omega) c, if_pos c]
        by_cases d : Mt K i 1023
        · rw [ci_t d]
        · rw [ci_f d]
      · rw [ite_le_f (by omega) (by omega), if_neg c]
        by_cases d : Mt K i 1023
        · rw [ci_t d, ci_t d]
        · rw [ci_f d, ci_f d]
    unfold f_X12_most_L50
    rw [bo_of (mworks h), shl1 (by omega), ite_le_f (by omega) hi]
    rcases hg with ⟨z1, rfl⟩ | ⟨z1, rfl⟩
    · rw [if_pos z1, bo_of (mbits (by omega) _)]
      exact fin
    · rw [if_neg z1, bo_of mrc, bo_of (m_worths h _), sumW_w h.vw (by omega) W hW]
      exact fin
  · dsimp only
    unfold f_X12_most_L50
    rw [bo_of (mworks h), shl1 (by omega), if_pos (nI_le (Nat.le_refl _) (by omega))]
end MSX
theorem ok_most : LK_most Inv := by
  intro σx σm z1 z2 z3 hI
  unfold f_X11_most f_X12_most
  simp only [x_now hI.1, bo_s, x_rc1, mrc]
  rcases ask_V hI z1 with ⟨k, A, F, W, hk, hz, hC, e1, e2, hM, hI2⟩ | ⟨e1, e2⟩
  · have hF := hC.F10
    have hW := hC.W6
    simp only [e1, bo_s, e2, bd_s, ite_none, ite_10, x_isSpan, iInB, ite_b, x_speak hI.1, src7]
    by_cases c1 : z2 < 1 ∨ (9 : Int32) < z2
    · rw [if_pos c1, if_pos rfl, ci_f (show ¬ inI z2 1 9 from fun z => z c1)]
      exact ⟨-1, _, _, rfl, rfl, hI2⟩
    · rw [if_neg c1, if_neg (by decide), ci_t (show inI z2 1 9 from c1)]
      by_cases c2 : z3 < 0
      · rw [if_pos c2, ci_f (inI_neg c2)]
        exact ⟨-1, _, _, rfl, rfl, hI2⟩
      · rw [if_neg c2]
        by_cases c3 : z3 ≤ 2
        · rw [if_pos c3, ci_t (show inI z3 0 2 from fun z => z.elim c2 (Int32.not_lt.mpr c3))]
          obtain ⟨τx, x1, x2, x3⟩ := x_hear hC z2
          have hC2 := x2.cv hC
          have hRx := x2.ref hI.1
          have hI3 := x2.inv hI2
          rw [bd_of x1]
          by_cases c4 : z3 = 0
          · rw [if_pos c4, if_pos c4, bo_of (x_speak hRx), bo_of src7, bo_of (x_never hC2 x3), bo_of (m_never hM), nv_eq _ hW]
            exact ⟨_, _, _, rfl, rfl, hI3⟩
          · obtain ⟨τm, m1, m2, m3⟩ := m_kept (n := z2) hM
            have hM2 := m2.mv hM
            rw [if_neg c4, if_neg c4, bd_of m1]
            by_cases c5 : z3 = 1
            · rw [if_pos c5, bo_of (x_speak hRx), bo_of src7, bo_of (x_works hC2 x3), bo_of (m_most hM2 m3 popc (Or.inl ⟨c5, rfl⟩))]
              exact ⟨_, _, _, rfl, rfl, m2.inv hI3⟩
            · rw [if_neg c5, bo_of (x_speak hRx), bo_of src7, bo_of (x_worthS hC2 x3 (fun w hw => kp_W hw)), bo_of (m_most hM2 m3 (fun s => sumN (woN A) s W) (Or.inr ⟨c5, rfl⟩))]
              exact ⟨_, _, _, rfl, rfl, m2.inv hI3⟩
        · rw [if_neg c3, ci_f (show ¬ inI z3 0 2 from fun z => z (Or.inr (Int32.not_le.mp c3)))]
          exact ⟨-1, _, _, rfl, rfl, hI2⟩
  · simp only [e1, bo_s, e2, bd_s]
    exact ⟨-1, _, _, rfl, rfl, hI⟩
