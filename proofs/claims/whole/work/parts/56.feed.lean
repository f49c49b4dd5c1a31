/-! ===== feed ===== -/
/-- the k-th byte of a number -/
def bY (z : Int32) (k : Nat) : Nat := (z.toBitVec.toNat / 2 ^ (24 - 8 * k)) % 256
theorem bY_lt (z : Int32) (k : Nat) : bY z k < 256 := Nat.mod_lt _ (by decide)
theorem bY_x (z : Int32) {k : Nat} (hk : k < 4) : ((Int32.toUInt32 z >>> (Int32.toUInt32 (nI (24 - 8 * k)) &&& Int32.toUInt32 31)).toInt32) &&& (255 : Int32) = nI (bY z k) := by
  rw [pk_and _ 8 (by decide)]
  unfold bY
  congr 1
  show (z.toUInt32 >>> (Int32.toUInt32 (nI (24 - 8 * k)) &&& Int32.toUInt32 31)).toNat % 2 ^ 8 = _
  rw [UInt32.toNat_shiftRight]
  have h : ∀ k, k < 4 → (Int32.toUInt32 (nI (24 - 8 * k)) &&& Int32.toUInt32 31).toNat % 32 = 24 - 8 * k := by decide
  rw [h k hk, Nat.shiftRight_eq_div_pow]
  rfl
theorem bY_m (z : Int32) {k : Nat} (hk : k < 4) : (z >>> (nI (24 - 8 * k) &&& 31)) &&& (255 : Int32) = nI (bY z k) := by
  rw [pk_and _ 8 (by decide)]
  unfold bY
  congr 1
  have h : ∀ k, k < 4 → ((nI (24 - 8 * k) &&& 31).toBitVec.smod 32).toNat = 24 - 8 * k := by decide
  have e : (z >>> (nI (24 - 8 * k) &&& 31)).toBitVec = z.toBitVec.sshiftRight (24 - 8 * k) := by
    rw [Int32.toBitVec_shiftRight, BitVec.sshiftRight', h k hk]
  rw [e]
  apply Nat.eq_of_testBit_eq
  intro i
  rw [show (256 : Nat) = 2 ^ 8 from rfl, Nat.testBit_mod_two_pow, Nat.testBit_mod_two_pow, Nat.testBit_div_two_pow, BitVec.testBit_toNat, BitVec.testBit_toNat, BitVec.getLsbD_sshiftRight]
  by_cases hi : i < 8
  · have h1 : ¬ 32 ≤ i := by omega
    have h2 : 24 - 8 * k + i < 32 := by omega
    simp [hi, h1, h2, Nat.add_comm]
    intro q
    omega
  · simp [hi]
theorem setX_set {σ : Dt} {a j : Nat} {v w : Int32} : setX (setX σ a j v) a j w = setX σ a j w := by
  unfold setX
  congr 1
  funext x y
  by_cases h : x = a ∧ y = j
  · obtain ⟨rfl, rfl⟩ := h
    rw [up2_eq, up2_eq]
  · unfold up2
    rw [if_neg h, if_neg h]
    exact if_neg h
theorem setX_put {σ : Dt} {a b j i : Nat} {v w : Int32} {g : Nat → Int32} (hab : ¬ b = a) : setX (setX (putR σ b g) a j v) b i w = setX (putR σ b (updN g i w)) a j v := by
  unfold setX putR
  congr 1
  funext x y
  dsimp only
  by_cases hx : x = b
  · subst hx
    rw [up2_o (a := a) hab, up1_eq]
    unfold updN
    by_cases hy : y = i
    · rw [if_pos hy, hy, up2_eq]
    · rw [if_neg hy, up2_j hy]
      show up2 (up1 σ.1 x g) a j v x y = g y
      rw [up2_o hab, up1_eq]
  · rw [up2_o hx]
    show up2 (up1 σ.1 b g) a j v x y = up2 (up1 σ.1 b (updN g i w)) a j v x y
    by_cases hq : x = a ∧ y = j
    · obtain ⟨rfl, rfl⟩ := hq
      rw [up2_eq, up2_eq]
    · unfold up2
      rw [if_neg hq, if_neg hq, up1_ne hx, up1_ne hx]
def fdR (g : Nat → Int32) (o : Nat) (B : Nat → Nat) (n : Nat) : Nat → Int32 := fun y => if o ≤ y ∧ y < o + n then nI (B (y - o)) else g y
theorem fdR_s {g : Nat → Int32} {o n : Nat} {B : Nat → Nat} : updN (fdR g o B n) (o + n) (nI (B n)) = fdR g o B (n + 1) := by
  funext y
  unfold updN fdR
  by_cases h : y = o + n
  · rw [if_pos h, if_pos (by omega), show y - o = n by omega]
  · rw [if_neg h]
    by_cases h2 : o ≤ y ∧ y < o + n
    · rw [if_pos h2, if_pos (by omega)]
    · rw [if_neg h2, if_neg (by omega)]
def stX (σ : Dt) (L : Nat) (B : Nat → Nat) (n : Nat) : Dt := setX (putR σ 2 (fdR (σ.1 2) L B n)) 1 1 (nI (L + n))
theorem x_pi1 (j : Nat) (v : Int32) (σ : Dt) : xpi SX 8 j (some 1) v σ = some (setX σ 1 j v) := xpi_of (by decide) (by decide)
theorem x_put1 {σ : Dt} (hR : RefX σ) {L n k : Nat} {B : Nat → Nat} {z : Int32} (hk : k < 4) (hn : L + n < 600) (hB : B n = bY z k) : f_X8_put_L3 1 z (nI (24 - 8 * k)) (stX σ L B n) = some (.inl (nI (24 - 8 * k) + (-8), stX σ L B (n + 1))) := by
  unfold f_X8_put_L3 f_X8_put_50
  have e1 : (stX σ L B n).1 1 1 = nI (L + n) := setX_j
  have r0 : xgr SX 8 0 (some 1) (stX σ L B n) = some (some 2) := by
    rw [xgr_of (by decide) (by decide), show (stX σ L B n).2.2 1 0 = rX 1 0 from hR.1 1 0 (by decide) (by decide)]
    rfl
  have w : ∀ v, xsi SX (some 2) (nI (L + n)) v (stX σ L B n) = some (setX (stX σ L B n) 2 (L + n) v) := fun v => xsi_of (by decide) (by decide) (show L + n < SX.2.2 2 from hn) (by decide)
  rw [if_neg (nI_pos (by omega))]
  simp only [x_gi1, bo_s, e1]
  rw [if_neg (nI_pos (by omega)), if_neg (show ¬ (600 : Int32) ≤ nI (L + n) from nI_ge (b := 600) hn (by decide)), r0, bo_s, bY_x z hk, w, bo_s, setX_o (by decide), e1, x_pi1, bo_s, nI_1]
  unfold stX
  rw [setX_put (by decide), setX_set, ← hB, fdR_s, Nat.add_assoc]
theorem x_put {σ : Dt} (hR : RefX σ) {L n : Nat} {B : Nat → Nat} {z : Int32} (hn : L + n + 4 ≤ 600) (hB : ∀ k, k < 4 → B (n + k) = bY z k) : f_X8_put 1 z (stX σ L B n) = some ((), stX σ L B (n + 4)) := by
  unfold f_X8_put
  have key := iter_n (f := fun s : Int32 × Dt => f_X8_put_L3 1 z s.1 s.2) (st := fun j => (nI (24 - 8 * j) - (if j < 4 then 0 else 8), stX σ L B (n + j))) (x := stX σ L B (n + 4)) 4 (by decide) (fun j hj => ?_) ?_
  · rw [show (24 : Int32) = nI (24 - 8 * 0) - (if 0 < 4 then 0 else 8) by decide]
    rw [show stX σ L B n = stX σ L B (n + 0) from rfl, key, bo_s]
  · dsimp only
    rw [if_pos hj, Int32.sub_zero, x_put1 hR hj (by omega) (hB j hj)]
    have h : ∀ j, j < 4 → nI (24 - 8 * j) + (-8) = nI (24 - 8 * (j + 1)) - (if j + 1 < 4 then 0 else 8) := by decide
    rw [h j hj, Nat.add_assoc]
  · dsimp only
    unfold f_X8_put_L3
    rw [if_pos (show nI (24 - 8 * 4) - (if 4 < 4 then 0 else 8) < 0 by decide)]
def fdM (g : Nat → Int32) (L : Nat) (B : Nat → Nat) (n : Nat) : Nat → Int32 := fun y => if y = 4 then nI (L + n) else fdR g (10 + L) B n y
theorem m_feed1 {σ : Dt} (hR : RefM σ) {L i : Nat} {B : Nat → Nat} {z : Int32} {z1 z2 z3 z4 z5 : Int32} (hL : L + i < 600) (hi : i < 20) (hB : B i = bY z (i % 4)) : f_X12_feed_73 0 z1 z2 z3 z4 z5 (nI i) z (putR σ 1 (fdM (σ.1 1) L B i)) = some (.inl (nI (i + 1), putR σ 1 (fdM (σ.1 1) L B (i + 1)))) := by
  unfold f_X12_feed_73
  have e4 : fdM (σ.1 1) L B i 4 = nI (L + i) := if_pos rfl
  have s1 : (24 : Int32) - (8 : Int32) * (nI i - nI i / (4 : Int32) * (4 : Int32)) = nI (24 - 8 * (i % 4)) := by
    show nI 24 - nI 8 * (nI i - nI i / nI 4 * nI 4) = _
    rw [pk_rem (by omega) (by decide) (by decide), pk_mul, pk_sub (by omega)]
  have e1 : updN (fdM (σ.1 1) L B i) (10 + (L + i)) (nI (bY z (i % 4))) 4 = nI (L + i) := by
    unfold updN
    rw [if_neg (by omega), e4]
  have mm : ∀ g, (putR σ 1 g).2.2 0 0 = some 1 := fun g => mall hR
  rw [s1, bY_m z (Nat.mod_lt _ (by decide))]
  simp only [mgr, bo_s, mm, show (4 : Int32) = nI 4 from rfl]
  rw [maiR _ _ _ (by decide), e4, bo_s, show (10 : Int32) + nI (L + i) = nI (10 + (L + i)) from nI_add 10 _, msiR _ _ _ _ (by omega), bo_s, mm, maiR _ _ _ (by decide), e1, bo_s, nI_1, msiR _ _ _ _ (by decide), bo_s, nI_1]
  congr 4
  funext y
  unfold updN fdM
  by_cases h4 : y = 4
  · rw [if_pos h4, if_pos h4, Nat.add_assoc]
  · rw [if_neg h4, if_neg h4, if_neg h4, ← fdR_s, ← hB]
    unfold updN
    rw [Nat.add_assoc]
def zB (z1 z2 z3 z4 z5 : Int32) (i : Nat) : Nat := bY (if i < 4 then z1 else if i < 8 then z2 else if i < 12 then z3 else if i < 16 then z4 else z5) (i % 4)
theorem m_feed {σ : Dt} (hR : RefM σ) {L : Nat} (z1 z2 z3 z4 z5 : Int32) (hL : L + 20 ≤ 600) (h4 : σ.1 1 4 = nI L) : iter FU (fun s => f_X12_feed_L20 0 z1 z2 z3 z4 z5 s.1 s.2) ((0 : Int32), σ) = some (putR σ 1 (fdM (σ.1 1) L (zB z1 z2 z3 z4 z5) 20)) := by
  have key := iter_n (f := fun s : Int32 × Dt => f_X12_feed_L20 0 z1 z2 z3 z4 z5 s.1 s.2) (st := fun i => (nI i, putR σ 1 (fdM (σ.1 1) L (zB z1 z2 z3 z4 z5) i))) (x := putR σ 1 (fdM (σ.1 1) L (zB z1 z2 z3 z4 z5) 20)) 20 (by decide) (fun i hi => ?_) ?_
  · have e : fdM (σ.1 1) L (zB z1 z2 z3 z4 z5) 0 = σ.1 1 := by
      funext y
      unfold fdM fdR
      by_cases h : y = 4
      · rw [if_pos h, h, h4]
        rfl
      · rw [if_neg h, if_neg (by omega)]
    rw [e, putR_self] at key
    exact key
  · dsimp only
    unfold f_X12_feed_L20
    simp only [show (20 : Int32) = nI 20 from rfl, show (4 : Int32) = nI 4 from rfl, show (8 : Int32) = nI 8 from rfl, show (12 : Int32) = nI 12 from rfl, show (16 : Int32) = nI 16 from rfl]
    rcases (show i < 4 ∨ (4 ≤ i ∧ i < 8) ∨ (8 ≤ i ∧ i < 12) ∨ (12 ≤ i ∧ i < 16) ∨ (16 ≤ i ∧ i < 20) by omega) with q | q | q | q | q
    · simp (disch := omega) only [↓ite_eq_t, ↓ite_eq_f, ↓ite_le_t, ↓ite_le_f, ↓ite_lt_t, ↓ite_lt_f, ↓ite_none, ↓ite_10, ↓ite_00, ↓ite_10n, ↓ci_sub_t, ↓ci_sub_f, ↓ci_in_t, ↓ci_in_f, ↓ite_or_t, ↓ite_or_f, ↓ci_inI_t, ↓ci_inI_f, ↓reduceIte]
      rw [m_feed1 hR (by omega) hi (by unfold zB; simp (disch := omega) only [↓if_pos, ↓if_neg])]
    · simp (disch := omega) only [↓ite_eq_t, ↓ite_eq_f, ↓ite_le_t, ↓ite_le_f, ↓ite_lt_t, ↓ite_lt_f, ↓ite_none, ↓ite_10, ↓ite_00, ↓ite_10n, ↓ci_sub_t, ↓ci_sub_f, ↓ci_in_t, ↓ci_in_f, ↓ite_or_t, ↓ite_or_f, ↓ci_inI_t, ↓ci_inI_f, ↓reduceIte]
      rw [m_feed1 hR (by omega) hi (by unfold zB; simp (disch := omega) only [↓if_pos, ↓if_neg])]
    · simp (disch := omega) only [↓ite_eq_t, ↓ite_eq_f, ↓ite_le_t, ↓ite_le_f, ↓ite_lt_t, ↓ite_lt_f, ↓ite_none, ↓ite_10, ↓ite_00, ↓ite_10n, ↓ci_sub_t, ↓ci_sub_f, ↓ci_in_t, ↓ci_in_f, ↓ite_or_t, ↓ite_or_f, ↓ci_inI_t, ↓ci_inI_f, ↓reduceIte]
      rw [m_feed1 hR (by omega) hi (by unfold zB; simp (disch := omega) only [↓if_pos, ↓if_neg])]
    · simp (disch := omega) only [↓ite_eq_t, ↓ite_eq_f, ↓ite_le_t, ↓ite_le_f, ↓ite_lt_t, ↓ite_lt_f, ↓ite_none, ↓ite_10, ↓ite_00, ↓ite_10n, ↓ci_sub_t, ↓ci_sub_f, ↓ci_in_t, ↓ci_in_f, ↓ite_or_t, ↓ite_or_f, ↓ci_inI_t, ↓ci_inI_f, ↓reduceIte]
      rw [m_feed1 hR (by omega) hi (by unfold zB; simp (disch := omega) only [↓if_pos, ↓if_neg])]
    · simp (disch := omega) only [↓ite_eq_t, ↓ite_eq_f, ↓ite_le_t, ↓ite_le_f, ↓ite_lt_t, ↓ite_lt_f, ↓ite_none, ↓ite_10, ↓ite_00, ↓ite_10n, ↓ci_sub_t, ↓ci_sub_f, ↓ci_in_t, ↓ci_in_f, ↓ite_or_t, ↓ite_or_f, ↓ci_inI_t, ↓ci_inI_f, ↓reduceIte]
      rw [m_feed1 hR (by omega) hi (by unfold zB; simp (disch := omega) only [↓if_pos, ↓if_neg])]
  · dsimp only
    unfold f_X12_feed_L20
    rw [if_pos (by decide)]
theorem ok_feed : LK_feed Inv := by
  intro σx σm z1 z2 z3 z4 z5 hI
  obtain ⟨hRx, hRm, hT, -⟩ := id hI
  obtain ⟨c0, c1, c2, L, hb, hm, hx, hf, htp, hv, hl, hs⟩ := id hT
  unfold f_X11_feed f_X12_feed
  have m4 : σm.1 1 4 = nI L := hm.2.2.2
  simp only [x_now hRx, bo_s, x_gi1, hx.2.2.2, mgr, mall hRm, show (4 : Int32) = nI 4 from rfl, mai 4 σm (by decide), m4, x_rc1, show (20 : Int32) = nI 20 from rfl, show (600 : Int32) = nI 600 from rfl, nI_add]
  by_cases c : L + 20 ≤ 600
  · rw [ite_le_t (by decide) c, ite_le_t (by decide) c]
    generalize hBB : zB z1 z2 z3 z4 z5 = BB
    have e0 : stX σx L BB 0 = σx := by
      unfold stX
      have e1 : fdR (σx.1 2) L BB 0 = σx.1 2 := by
        funext y
        unfold fdR
        rw [if_neg (by omega)]
      rw [e1, putR_self]
      unfold setX
      have e2 : up2 σx.1 1 1 (nI (L + 0)) = σx.1 := by
        funext x y
        unfold up2
        by_cases h : x = 1 ∧ y = 1
        · rw [if_pos h, h.1, h.2]; exact hx.2.2.2.symm
        · rw [if_neg h]
      rw [e2]
    have p1 : f_X8_put 1 z1 σx = some ((), stX σx L BB 4) := by
      have := x_put (σ := σx) (L := L) (n := 0) (B := BB) (z := z1) hRx (by omega) (fun k hk => by rw [← hBB]; unfold zB; simp (disch := omega) only [↓if_pos, ↓if_neg, Nat.zero_add, Nat.mod_eq_of_lt])
      rw [e0] at this
      exact this
    have p2 : f_X8_put 1 z2 (stX σx L BB 4) = some ((), stX σx L BB 8) := x_put (σ := σx) (n := 4) (B := BB) hRx (by omega) (fun k hk => by rw [← hBB]; unfold zB; simp (disch := omega) only [↓if_pos, ↓if_neg]; rw [show (4 + k) % 4 = k by omega])
    have p3 : f_X8_put 1 z3 (stX σx L BB 8) = some ((), stX σx L BB 12) := x_put (σ := σx) (n := 8) (B := BB) hRx (by omega) (fun k hk => by rw [← hBB]; unfold zB; simp (disch := omega) only [↓if_pos, ↓if_neg]; rw [show (8 + k) % 4 = k by omega])
    have p4 : f_X8_put 1 z4 (stX σx L BB 12) = some ((), stX σx L BB 16) := x_put (σ := σx) (n := 12) (B := BB) hRx (by omega) (fun k hk => by rw [← hBB]; unfold zB; simp (disch := omega) only [↓if_pos, ↓if_neg]; rw [show (12 + k) % 4 = k by omega])
    have p5 : f_X8_put 1 z5 (stX σx L BB 16) = some ((), stX σx L BB 20) := x_put (σ := σx) (n := 16) (B := BB) hRx (by omega) (fun k hk => by rw [← hBB]; unfold zB; simp (disch := omega) only [↓if_pos, ↓if_neg]; rw [show (16 + k) % 4 = k by omega])
    have hRk : ∀ n, RefX (stX σx L BB n) := fun n => hRx
    have g1 : (stX σx L BB 20).1 1 1 = nI (L + 20) := setX_j
    simp only [p1, p2, p3, p4, p5, bd_s, bo_s, x_now (hRk _), x_rc1, x_gi1, g1]
    have mf := m_feed hRm z1 z2 z3 z4 z5 c m4
    rw [hBB] at mf
    have m2 : fdM (σm.1 1) L BB 20 4 = nI (L + 20) := if_pos rfl
    rw [show iter FU (fun s => f_X12_feed_L20 0 z1 z2 z3 z4 z5 s.1 s.2) ((0 : Int32), σm) = some (putR σm 1 (fdM (σm.1 1) L BB 20)) from mf, bo_s, show (putR σm 1 (fdM (σm.1 1) L BB 20)).2.2 0 0 = some 1 from mall hRm, maiR _ _ _ (by decide), bo_s, m2]
    refine ⟨_, _, _, rfl, rfl, Inv_now hI rfl rfl (fun a h1 h2 => ?_) (fun i hi => ?_) (putR_o (by decide)) ?_⟩
    · show (setX (putR σx 2 _) 1 1 _).1 a = _
      rw [setX_o (by omega), putR_o (by omega)]
    · rw [putR_a]
      unfold fdM fdR
      rw [if_neg (by omega), if_neg (by omega)]
    · have ex : ∀ a, 3 ≤ a → (stX σx L BB 20).1 a = σx.1 a := fun a h => by
        show (setX (putR σx 2 _) 1 1 _).1 a = _
        rw [setX_o (by omega), putR_o (by omega)]
      have em : ∀ i, ¬ i = 4 → (i < 10 ∨ 610 ≤ i) → (putR σm 1 (fdM (σm.1 1) L BB 20)).1 1 i = σm.1 1 i := by
        intro i h1 h2
        rw [putR_a]
        unfold fdM fdR
        rw [if_neg h1, if_neg (by omega)]
      have e1 : ∀ j, ¬ j = 1 → (stX σx L BB 20).1 1 j = σx.1 1 j := by
        intro j h
        show (setX (putR σx 2 _) 1 1 _).1 1 j = _
        rw [setX_n h, putR_o (by decide)]
      refine ⟨c0, c1, c2, L + 20, ⟨hb.1, hb.2.1, hb.2.2.1, c⟩, ?_, ?_, ?_, ?_, ?_, ?_, ?_⟩
      · rw [em _ (by decide) (by omega), em _ (by decide) (by omega), em _ (by decide) (by omega), putR_a]
        exact ⟨hm.1, hm.2.1, hm.2.2.1, m2⟩
      · rw [ex _ (by decide)]
        exact ⟨hx.1, hx.2.1, hx.2.2.1, g1⟩
      · rw [em _ (by decide) (by omega), em _ (by decide) (by omega), e1 _ (by decide), e1 _ (by decide)]
        exact hf
      · intro i hi
        have a1 : (stX σx L BB 20).1 (1 + 1) i = fdR (σx.1 2) L BB 20 i := by
          show (setX (putR σx 2 _) 1 1 _).1 2 i = _
          rw [setX_o (by decide), putR_a]
        rw [a1, putR_a]
        unfold fdM
        rw [if_neg (by omega)]
        unfold fdR
        by_cases q : i < L
        · rw [if_neg (by omega), if_neg (by omega)]
          exact htp i q
        · rw [if_pos (by omega), if_pos (by omega), show 0 + 10 + i - (10 + L) = i - L by omega]
          refine ⟨rfl, _, rfl, ?_⟩
          rw [← hBB]
          exact bY_lt _ _
      · intro k hk
        obtain ⟨q1, F, W, q2, q3⟩ := hv k hk
        have e : ∀ i, i < 55 → (putR σm 1 (fdM (σm.1 1) L BB 20)).1 1 (0 + 610 + 55 * k + i) = σm.1 1 (0 + 610 + 55 * k + i) := fun i hi => em _ (by omega) (by omega)
        have c : ∀ d, d ≤ 7 → ∀ j, j < lV d → (stX σx L BB 20).1 (1 + 5 + 16 * k + d) j = σx.1 (1 + 5 + 16 * k + d) j := fun d hd j hj => by rw [ex _ (by omega)]
        exact ⟨VR_c e c q1, F, W, VW_c e q2, HR_c e q2.2.2.1 c q3⟩
      · intro k hk
        obtain ⟨q1, q2⟩ := hl k hk
        have e : ∀ i, i < 161 → (putR σm 1 (fdM (σm.1 1) L BB 20)).1 1 (0 + 720 + 161 * k + i) = σm.1 1 (0 + 720 + 161 * k + i) := fun i hi => em _ (by omega) (by omega)
        exact ⟨LR_c e (fun d hd j hj => by rw [ex _ (by omega)]) q1, LW_c e q2⟩
      · intro k hk
        obtain ⟨q1, q2⟩ := hs k hk
        have e : ∀ i, i < 18 → (putR σm 1 (fdM (σm.1 1) L BB 20)).1 1 (0 + 1042 + 18 * k + i) = σm.1 1 (0 + 1042 + 18 * k + i) := fun i hi => em _ (by omega) (by omega)
        exact ⟨SR_c e (fun d hd j hj => by rw [ex _ (by omega)]) q1, SW_c e q2⟩
  · rw [ite_le_f (by omega) (by omega), ite_le_f (by omega) (by omega)]
    exact ⟨-1, _, _, rfl, rfl, hI⟩
