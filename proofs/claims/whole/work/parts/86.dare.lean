/-! ===== dare ===== -/
def jI (x : Int) : Int32 := Int32.ofInt x
theorem jI_n (n : Nat) : nI n = jI (n : Int) := Int32.ofInt_eq_ofNat.symm
theorem jI_t {x : Int} (h1 : -1000000000 ≤ x) (h2 : x ≤ 1000000000) : (jI x).toInt = x := Int32.toInt_ofInt_of_le (by omega) (by omega)
theorem jI_neg (x : Int) : -jI x = jI (-x) := (Int32.ofInt_neg x).symm
theorem jI_sub (x y : Int) : jI x - jI y = jI (x - y) := (Int32.ofInt_sub x y).symm
theorem jI_add (x y : Int) : jI x + jI y = jI (x + y) := (Int32.ofInt_add x y).symm
theorem jI_lt {x y : Int} (h1 : -1000000000 ≤ x) (h2 : x ≤ 1000000000) (h3 : -1000000000 ≤ y) (h4 : y ≤ 1000000000) : (jI x < jI y) = (x < y) := by
  rw [eq_iff_iff, Int32.lt_iff_toInt_lt, jI_t h1 h2, jI_t h3 h4]
theorem jI_le {x y : Int} (h1 : -1000000000 ≤ x) (h2 : x ≤ 1000000000) (h3 : -1000000000 ≤ y) (h4 : y ≤ 1000000000) : (jI x ≤ jI y) = (x ≤ y) := by
  rw [eq_iff_iff, Int32.le_iff_toInt_le, jI_t h1 h2, jI_t h3 h4]
theorem jI_eq {x y : Int} (h1 : -1000000000 ≤ x) (h2 : x ≤ 1000000000) (h3 : -1000000000 ≤ y) (h4 : y ≤ 1000000000) : (jI x = jI y) = (x = y) := by
  rw [eq_iff_iff, ← Int32.toInt_inj, jI_t h1 h2, jI_t h3 h4]
def lob (x : Nat) : Nat := leastB (fun i => x.testBit i) 10
theorem lob_f : ∀ x, x < 1024 → nI x &&& -(nI x) = (if x = 0 then 0 else nI (2 ^ lob x)) := by decide +kernel
theorem lob_P {x : Nat} (hx : x < 1024) (h : ¬ x = 0) : lob x < 10 ∧ x.testBit (lob x) = true ∧ ∀ j, j < lob x → ¬ x.testBit j = true := by
  refine leastB_P 10 _ ?_
  apply Classical.byContradiction
  intro z
  apply h
  apply Nat.eq_of_testBit_eq
  intro i
  rw [Nat.zero_testBit]
  cases e : x.testBit i
  · rfl
  · exact absurd ⟨i, tb_lt (p := 10) hx e, e⟩ z
/-- may work w be taken -/
def alw (K : Nat → Nat) (W tk sy w : Nat) : Prop := w < W ∧ ¬ tk.testBit w = true ∧ ¬ nsub (K w) sy = 0
def nsy (K : Nat → Nat) (sy w : Nat) : Nat := sy ||| 2 ^ lob (nsub (K w) sy)
noncomputable def ldI (K wo : Nat → Nat) (W : Nat) : Nat → Nat → Nat → Int
  | 0, _, _ => 0
  | t + 1, tk, sy => fld (fun w (b : Int) => ci (alw K W tk sy w) (if b < (wo w : Int) - ldI K wo W t (tk ||| 2 ^ w) (nsy K sy w) then (wo w : Int) - ldI K wo W t (tk ||| 2 ^ w) (nsy K sy w) else b) b) (-ldI K wo W t tk sy) W
noncomputable def gn (K wo : Nat → Nat) (W t tk sy w : Nat) : Int := (wo w : Int) - ldI K wo W t (tk ||| 2 ^ w) (nsy K sy w)
theorem ldI_s (K wo : Nat → Nat) (W t tk sy : Nat) : ldI K wo W (t + 1) tk sy = fld (fun w (b : Int) => ci (alw K W tk sy w) (if b < gn K wo W t tk sy w then gn K wo W t tk sy w else b) b) (-ldI K wo W t tk sy) W := rfl
theorem ldI_b {K wo : Nat → Nat} {W : Nat} (hwo : ∀ w, w < W → wo w ≤ 20) : ∀ (t tk sy : Nat), -(20 * (t : Int)) ≤ ldI K wo W t tk sy ∧ ldI K wo W t tk sy ≤ 20 * (t : Int)
  | 0, tk, sy => by
    show -(20 * ((0 : Nat) : Int)) ≤ (0 : Int) ∧ (0 : Int) ≤ 20 * ((0 : Nat) : Int)
    omega
  | t + 1, tk, sy => by
    have h0 := ldI_b (K := K) hwo t tk sy
    rw [ldI_s]
    refine fld_P (P := fun _ b => -(20 * ((t + 1 : Nat) : Int)) ≤ b ∧ b ≤ 20 * ((t + 1 : Nat) : Int)) (by omega) W (fun i b hi hb => ?_)
    have h1 := ldI_b (K := K) hwo t (tk ||| 2 ^ i) (nsy K sy i)
    have h2 := hwo i hi
    by_cases c : alw K W tk sy i
    · rw [ci_t c]
      unfold gn
      by_cases d : b < (wo i : Int) - ldI K wo W t (tk ||| 2 ^ i) (nsy K sy i)
      · rw [if_pos d]; omega
      · rw [if_neg d]; exact hb
    · rw [ci_f c]; exact hb
theorem nsy_lt {K : Nat → Nat} {sy w : Nat} (hK : K w < 1024) (hs : sy < 1024) (c : ¬ nsub (K w) sy = 0) : nsy K sy w < 1024 :=
  pow_or hs (lob_P (Nat.lt_of_le_of_lt (nsub_le _ _) hK) c).1
theorem mmax_j {x y : Int} (h1 : -1000000000 ≤ x) (h2 : x ≤ 1000000000) (h3 : -1000000000 ≤ y) (h4 : y ≤ 1000000000) : mmax (jI x) (jI y) = jI (if x < y then y else x) := by
  unfold mmax
  simp only [jI_lt h1 h2 h3 h4]
  by_cases c : x < y
  · rw [if_pos c, if_pos c]
  · rw [if_neg c, if_neg c]
section LEA
variable {σ : Dt} {v F W : Nat} {A : Nat → Int32} {K : Nat → Nat}
theorem x_lead (h : CV σ v A F W) (hH : Hd σ K) : ∀ (t nn tk sy : Nat), t < nn → t ≤ 4 → tk < 64 → sy < 1024 → f_X7_lead nn (some v) (some 192) (nI t) (nI tk) (nI sy) σ = some (jI (ldI K (woN A) W t tk sy)) := by
  have hW := h.W6
  have hwo : ∀ w, w < W → woN A w ≤ 20 := fun w hw => (h.vw.wk (show w < 6 by omega)).2.1.2
  have hK : ∀ w, w < 6 → K w < 1024 := fun w hw => (hH.2.1 w hw).2
  intro t
  induction t with
  | zero =>
    intro nn tk sy h1 h2 h3 h4
    obtain ⟨m, rfl⟩ : ∃ m, nn = m + 1 := ⟨nn - 1, by omega⟩
    show f_X7_lead_B (f_X7_lead m) (some v) (some 192) (nI 0) (nI tk) (nI sy) σ = _
    unfold f_X7_lead_B
    rw [if_neg (by simp), if_neg (by simp), if_pos (by decide)]
    rfl
  | succ t ih =>
    intro nn tk sy h1 h2 h3 h4
    obtain ⟨m, rfl⟩ : ∃ m, nn = m + 1 := ⟨nn - 1, by omega⟩
    show f_X7_lead_B (f_X7_lead m) (some v) (some 192) (nI (t + 1)) (nI tk) (nI sy) σ = _
    unfold f_X7_lead_B
    have b0 := ldI_b (K := K) hwo t tk sy
    rw [if_neg (by simp), if_neg (by simp), if_neg (nI_nle (by omega) (by omega)), if_pos (show nI (t + 1) ≤ (4 : Int32) from nI_le (b := 4) (by omega) (by decide)), nI_pred, bo_of (ih m tk sy (by omega) (by omega) h3 h4), jI_neg, ldI_s]
    have key := iter_fld (f := fun q : Int32 × Int32 => f_X7_lead_L36 (f_X7_lead m) (some v) (some 192) (nI (t + 1)) (nI tk) (nI sy) q.1 q.2 σ) (st := fun i b => (jI b, nI i)) (g := fun w (b : Int) => ci (alw K W tk sy w) (if b < gn K (woN A) W t tk sy w then gn K (woN A) W t tk sy w else b) b) (P := fun _ b => -1000 ≤ b ∧ b ≤ 1000) (b0 := -ldI K (woN A) W t tk sy) (x := fun b => jI b) W (by omega) (by omega) (fun i b hi hb => ?_) (fun b _ => ?_)
    · rw [bo_of (show iter FU (fun q => f_X7_lead_L36 (f_X7_lead m) (some v) (some 192) (nI (t + 1)) (nI tk) (nI sy) q.1 q.2 σ) (jI (-ldI K (woN A) W t tk sy), (0 : Int32)) = _ from key.1)]
    · dsimp only
      have hx := hK i (by omega)
      have hsub : nsub (K i) sy < 1024 := Nat.lt_of_le_of_lt (nsub_le _ _) hx
      have b1 := ldI_b (K := K) hwo t (tk ||| 2 ^ i) (nsy K sy i)
      have b2 := hwo i hi
      have hgn : -1000 ≤ gn K (woN A) W t tk sy i ∧ gn K (woN A) W t tk sy i ≤ 1000 := by
        unfold gn
        omega
      unfold f_X7_lead_L36 f_X7_lead_130
      rw [bo_of (xworks h), ite_le_f (by omega) hi, if_neg (show ¬ (6 : Int32) ≤ nI i from nI_ge (b := 6) (by omega) (by decide)), bo_of (show xln SX (some 192) = some (nI 6) from by rw [xln_of (by decide) (by decide)]; rfl), ite_le_f (by decide) (by omega), sai0 (by omega), (hH.2.1 i (by omega)).1, nI_andx, nI_1, lob_f _ hsub]
      simp only [bit0 (show tk < 2 ^ 31 by omega) (show i < 32 by omega)]
      by_cases c1 : tk.testBit i = true
      · rw [if_neg (fun z => z c1), ci_f (fun z : alw K W tk sy i => z.2.1 c1)]
        exact ⟨rfl, hb⟩
      · rw [if_pos c1]
        by_cases c2 : nsub (K i) sy = 0
        · rw [ite_z_t c2, ci_f (fun z : alw K W tk sy i => z.2.2 c2)]
          exact ⟨rfl, hb⟩
        · have htk : tk ||| 2 ^ i < 64 := or_lt (n := 6) h3 (Nat.pow_lt_pow_right (by decide) (by omega))
          rw [ite_z_f (by omega) c2, if_neg c2, nI_or, bo_s, bo_of (xworths h), bo_of (xwor h (by omega)), nI_pred, shl1 (by omega), nI_or, show sy ||| 2 ^ lob (nsub (K i) sy) = nsy K sy i from rfl, bo_of (ih m (tk ||| 2 ^ i) (nsy K sy i) (by omega) (by omega) htk (nsy_lt hx h4 c2)), jI_n (woN A i), jI_sub, ci_t (show alw K W tk sy i from ⟨hi, c1, c2⟩), mmax_j (by omega) (by omega) (by unfold gn at hgn; omega) (by unfold gn at hgn; omega)]
          refine ⟨rfl, ?_⟩
          by_cases d : b < gn K (woN A) W t tk sy i
          · rw [if_pos d]; exact hgn
          · rw [if_neg d]; exact hb
    · dsimp only
      unfold f_X7_lead_L36
      rw [bo_of (xworks h), if_pos (nI_le (Nat.le_refl _) (by omega))]
/-- the first to take, from the last down -/
noncomputable def ftG (K wo : Nat → Nat) (W t i : Nat) (b : Int32 × Int) : Int32 × Int := ci (alw K W 0 0 (5 - i)) (if gn K wo W t 0 0 (5 - i) < b.2 then b else (nI (5 - i), gn K wo W t 0 0 (5 - i))) b
theorem nsub_0 (a : Nat) : nsub a 0 = a := by
  unfold nsub
  rw [Nat.and_zero, Nat.xor_zero]
theorem x_first (h : CV σ v A F W) (hH : Hd σ K) {t : Nat} (ht : t < 4) : f_X7_firstTake 191 (some v) (nI (t + 1)) σ = some (fld (ftG K (woN A) W t) (6, -ldI K (woN A) W t 0 0) 6).1 := by
  have hW := h.W6
  have hwo : ∀ w, w < W → woN A w ≤ 20 := fun w hw => (h.vw.wk (show w < 6 by omega)).2.1.2
  have hK : ∀ w, w < 6 → K w < 1024 := fun w hw => (hH.2.1 w hw).2
  unfold f_X7_firstTake
  have b0 := ldI_b (K := K) hwo t 0 0
  rw [if_neg (by simp), if_pos (show (0 : Int32) < nI (t + 1) from nI_lt (a := 0) (by omega) (by omega)), xs0 hH.1, nI_pred, bo_of (show f_X7_lead 12 (some v) (some 192) (nI t) 0 0 σ = _ from x_lead h hH t 12 0 0 (by omega) (by omega) (by decide) (by decide)), jI_neg]
  have key := iter_fld (f := fun q : Int32 × Int32 × Int32 => f_X7_firstTake_L32 191 (some v) (nI (t + 1)) q.1 q.2.1 q.2.2 σ) (st := fun i (b : Int32 × Int) => (b.1, jI b.2, nI (6 - i) - 1)) (g := ftG K (woN A) W t) (P := fun _ (b : Int32 × Int) => -1000 ≤ b.2 ∧ b.2 ≤ 1000) (b0 := (6, -ldI K (woN A) W t 0 0)) (x := fun b => b.1) 6 (by decide) (by dsimp only; omega) (fun i b hi hb => ?_) (fun b _ => ?_)
  · rw [bo_of (show iter FU (fun q => f_X7_firstTake_L32 191 (some v) (nI (t + 1)) q.1 q.2.1 q.2.2 σ) ((6 : Int32), jI (-ldI K (woN A) W t 0 0), (5 : Int32)) = _ from key.1)]
  · dsimp only
    have hd : nI (6 - i) - 1 = nI (5 - i) := by rw [show 6 - i = (5 - i) + 1 by omega, nI_pred]
    have hd2 : nI (5 - i) + (-1) = nI (6 - (i + 1)) - 1 := by rw [← Int32.sub_eq_add_neg, show 6 - (i + 1) = 5 - i by omega]
    have hw : 5 - i < 6 := by omega
    generalize hwe : 5 - i = w at hd hd2 hw
    have hx := hK w hw
    unfold f_X7_firstTake_L32 f_X7_firstTake_115
    rw [hd, if_neg (nI_pos (by omega)), bo_of (crc h.1), bo_of (c_hasWorkB h _), ite_b, xs0 hH.1, sai0 hw, (hH.2.1 w hw).1, hd2]
    have es : ftG K (woN A) W t i b = ci (alw K W 0 0 w) (if gn K (woN A) W t 0 0 w < b.2 then b else (nI w, gn K (woN A) W t 0 0 w)) b := by
      unfold ftG
      rw [hwe]
    rw [es]
    by_cases c1 : w < W
    · have b1 := ldI_b (K := K) hwo t (0 ||| 2 ^ w) (nsy K 0 w)
      have b2 := hwo w c1
      have hgn : -1000 ≤ gn K (woN A) W t 0 0 w ∧ gn K (woN A) W t 0 0 w ≤ 1000 := by
        unfold gn
        omega
      rw [ci_in_t c1]
      by_cases c2 : K w = 0
      · rw [ite_z_t c2, ci_f (fun z : alw K W 0 0 w => z.2.2 (by rw [nsub_0]; exact c2))]
        exact ⟨rfl, hb⟩
      · have ha : alw K W 0 0 w := ⟨c1, by rw [Nat.zero_testBit]; simp, by rw [nsub_0]; exact c2⟩
        have e1 : (2 : Nat) ^ w = 0 ||| 2 ^ w := (Nat.zero_or _).symm
        have e2 : 2 ^ lob (K w) = nsy K 0 w := by
          unfold nsy
          rw [nsub_0, Nat.zero_or]
        rw [ite_z_f (by omega) c2, xs0 hH.1, sai0 hw, (hH.2.1 w hw).1, xs0 hH.1, sai0 hw, (hH.2.1 w hw).1, bo_of (xworths h), bo_of (xwor h c1), xs0 hH.1, nI_pred, lob_f _ hx, if_neg c2, shl1 (by omega), e1, e2, bo_of (x_lead h hH t 12 (0 ||| 2 ^ w) (nsy K 0 w) (by omega) (by omega) (or_lt (n := 6) (by decide) (Nat.pow_lt_pow_right (by decide) (by omega))) (nsy_lt hx (by decide) (by rw [nsub_0]; exact c2))), jI_n (woN A w), jI_sub, ci_t ha]
        simp only [jI_lt (show -1000000000 ≤ (woN A w : Int) - ldI K (woN A) W t (0 ||| 2 ^ w) (nsy K 0 w) by omega) (show (woN A w : Int) - ldI K (woN A) W t (0 ||| 2 ^ w) (nsy K 0 w) ≤ 1000000000 by omega) (show -1000000000 ≤ b.2 by omega) (show b.2 ≤ 1000000000 by omega)]
        by_cases d : gn K (woN A) W t 0 0 w < b.2
        · rw [if_pos d, if_pos (show (woN A w : Int) - ldI K (woN A) W t (0 ||| 2 ^ w) (nsy K 0 w) < b.2 from d)]
          exact ⟨rfl, hb⟩
        · rw [if_neg d, if_neg (show ¬ (woN A w : Int) - ldI K (woN A) W t (0 ||| 2 ^ w) (nsy K 0 w) < b.2 from d)]
          refine ⟨?_, hgn⟩
          dsimp only
          rw [jI_n]
          rfl
    · rw [ci_in_f (by omega) (by omega), ci_f (fun z : alw K W 0 0 w => c1 z.1)]
      exact ⟨rfl, hb⟩
  · dsimp only
    unfold f_X7_firstTake_L32
    rw [if_pos (by decide)]
end LEA
/-! ===== dare: the reference's search ===== -/
theorem mr15 {β : Type} {σ : Dt} {k : Option Nat → Option β} (hR : RefM σ) : bo (xgr SM 12 15 (some 0) σ) k = k (some 5) := bo_of (m_r hR (by decide) rfl)
theorem mr16 {β : Type} {σ : Dt} {k : Option Nat → Option β} (hR : RefM σ) : bo (xgr SM 12 16 (some 0) σ) k = k (some 6) := bo_of (m_r hR (by decide) rfl)
theorem mr17 {β : Type} {σ : Dt} {k : Option Nat → Option β} (hR : RefM σ) : bo (xgr SM 12 17 (some 0) σ) k = k (some 7) := bo_of (m_r hR (by decide) rfl)
theorem mr18 {β : Type} {σ : Dt} {k : Option Nat → Option β} (hR : RefM σ) : bo (xgr SM 12 18 (some 0) σ) k = k (some 8) := bo_of (m_r hR (by decide) rfl)
theorem mr19 {β : Type} {σ : Dt} {k : Option Nat → Option β} (hR : RefM σ) : bo (xgr SM 12 19 (some 0) σ) k = k (some 9) := bo_of (m_r hR (by decide) rfl)
theorem d_sh : ∀ d, d < 5 → 5 + d < SM.1 ∧ SM.2.1 (5 + d) = 13 ∧ SM.2.2 (5 + d) = 6 := by decide
theorem dai {β : Type} {a i : Nat} {σ : Dt} {k : Int32 → Option β} (h1 : 5 ≤ a) (h2 : a ≤ 9) (hi : i < 6) : bo (xai SM (some a) (nI i) σ) k = k (σ.1 a i) := by
  obtain ⟨q1, q2, q3⟩ := d_sh (a - 5) (by omega)
  rw [show 5 + (a - 5) = a by omega] at q1 q2 q3
  exact bo_of (xai_of q1 q2 (by omega) (by omega))
theorem dsi {β : Type} {a i : Nat} {v : Int32} {σ : Dt} {k : Dt → Option β} (h1 : 5 ≤ a) (h2 : a ≤ 9) (hi : i < 6) : bo (xsi SM (some a) (nI i) v σ) k = k (setX σ a i v) := by
  obtain ⟨q1, q2, q3⟩ := d_sh (a - 5) (by omega)
  rw [show 5 + (a - 5) = a by omega] at q1 q2 q3
  exact bo_of (xsiX q1 q2 (by omega) (by omega))
section DAR
variable {σ : Dt} {o F W : Nat} {A : Nat → Int32}
theorem m_darer (h : MV σ o A F W) {a w sy : Nat} (ha : a < 6) (hw : w < W) (hs : σ.1 6 a = nI sy) (hsy : sy < 1024) : f_X12_darer 0 (nI a) (nI w) σ = some (if nsub (kpN A F W 9 w) sy = 0 then -1 else nI (lob (nsub (kpN A F W 9 w) sy))) := by
  have hF := h.F10
  have hW := h.W6
  have hx : kpN A F W 9 w < 1024 := kpN_lt hF
  have hlt : nsub (kpN A F W 9 w) sy < 1024 := Nat.lt_of_le_of_lt (nsub_le _ _) hx
  have body : ∀ i, i < F → f_X12_darer_L2 0 (nI a) (nI w) (nI i) σ = ci ((nsub (kpN A F W 9 w) sy).testBit i = true) (some (.inr (.inl (nI i)))) (some (.inl (nI (i + 1)))) := by
    intro i hi
    unfold f_X12_darer_L2 f_X12_darer_36
    rw [bo_of (mfolk h), ite_le_f (by omega) hi, mr16 h.1, dai (by decide) (by decide) ha, hs, bo_of (mamong (by omega) (by omega) _), ite_b, bo_of mrc, bo_of (m_keepsB h (by omega) (by omega) 9), ite_b, nI_1]
    by_cases c : sy.testBit i = true
    · rw [ci_t c, ci_f (fun z => (sub_tb.mp z).2 c)]
    · rw [ci_f c]
      by_cases d : kpA A F i w 9
      · rw [ci_t d, ci_t (sub_tb.mpr ⟨kpN_tb.mpr ⟨hi, hw, d⟩, c⟩)]
      · rw [ci_f d, ci_f (fun z => d (kpN_tb.mp (sub_tb.mp z).1).2.2)]
  unfold f_X12_darer
  by_cases c : nsub (kpN A F W 9 w) sy = 0
  · rw [if_pos c]
    have key := iter_n (f := fun q : Int32 => f_X12_darer_L2 0 (nI a) (nI w) q σ) (st := fun i => nI i) (x := (Sum.inr () : Int32 ⊕ Unit)) F (by omega) (fun i hi => ?_) ?_
    · rw [bo_of (show iter FU (fun q => f_X12_darer_L2 0 (nI a) (nI w) q σ) (0 : Int32) = _ from key)]
      rfl
    · show f_X12_darer_L2 _ _ _ _ _ = _
      rw [body i hi, ci_f (by rw [c, Nat.zero_testBit]; simp)]
    · show f_X12_darer_L2 _ _ _ _ _ = _
      unfold f_X12_darer_L2
      rw [bo_of (mfolk h), if_pos (nI_le (Nat.le_refl _) (by omega))]
  · rw [if_neg c]
    obtain ⟨l1, l2, l3⟩ := lob_P hlt c
    have hlF : lob (nsub (kpN A F W 9 w) sy) < F := (kpN_tb.mp (sub_tb.mp l2).1).1
    have key := iter_n (f := fun q : Int32 => f_X12_darer_L2 0 (nI a) (nI w) q σ) (st := fun i => nI i) (x := (Sum.inl (nI (lob (nsub (kpN A F W 9 w) sy))) : Int32 ⊕ Unit)) (lob (nsub (kpN A F W 9 w) sy)) (by omega) (fun i hi => ?_) ?_
    · rw [bo_of (show iter FU (fun q => f_X12_darer_L2 0 (nI a) (nI w) q σ) (0 : Int32) = _ from key)]
      rfl
    · show f_X12_darer_L2 _ _ _ _ _ = _
      rw [body i (by omega), ci_f (l3 i hi)]
    · show f_X12_darer_L2 _ _ _ _ _ = _
      rw [body _ hlF, ci_t l2]
theorem m_mayDare (h : MV σ o A F W) {a w tk sy : Nat} (ha : a < 6) (hw : w < 6) (ht : σ.1 5 a = nI tk) (htk : tk < 64) (hs : σ.1 6 a = nI sy) (hsy : sy < 1024) : f_X12_mayDare 0 (nI a) (nI w) σ = some (bI (alw (kpN A F W 9) W tk sy w)) := by
  have hF := h.F10
  have hW := h.W6
  unfold f_X12_mayDare f_X12_mayDare_37 f_X12_mayDare_41
  rw [if_neg (show ¬ nI w = (6 : Int32) from fun z => absurd ((nI_eq (b := 6) (by omega) (by decide)).mp z) (by omega)), bo_of mrc, bo_of (m_isWorkB h _), ite_b, mr15 h.1, dai (by decide) (by decide) ha, ht, bo_of (mamong (by omega) (by omega) _), ite_b]
  by_cases c : w < W
  · rw [ci_in_t c]
    by_cases d : tk.testBit w = true
    · rw [ci_t d, bI_f (fun z : alw _ _ _ _ _ => z.2.1 d)]
    · rw [ci_f d, bo_of mrc, bo_of (m_darer h ha c hs hsy)]
      by_cases e : nsub (kpN A F W 9 w) sy = 0
      · rw [if_pos e, if_pos rfl, bI_f (fun z : alw _ _ _ _ _ => z.2.2 e)]
      · have hlt : nsub (kpN A F W 9 w) sy < 1024 := Nat.lt_of_le_of_lt (nsub_le _ _) (kpN_lt hF)
        have := (lob_P hlt e).1
        rw [if_neg e, if_neg (nI_m1 (by omega)), bI_t (show alw _ _ _ _ _ from ⟨c, d, e⟩)]
  · rw [ci_in_f (by omega) (by omega), bI_f (fun z : alw _ _ _ _ _ => c z.1)]
/-- the next that may be taken -/
theorem m_nextw (h : MV σ o A F W) {a c tk sy : Nat} {x1 : Int32} (ha : a < 6) (hc : c ≤ 6) (ht : σ.1 5 a = nI tk) (htk : tk < 64) (hs : σ.1 6 a = nI sy) (hsy : sy < 1024) : ∃ w, c ≤ w ∧ w ≤ 6 ∧ (w = 6 ∨ alw (kpN A F W 9) W tk sy w) ∧ (∀ x, c ≤ x → x < w → ¬ alw (kpN A F W 9) W tk sy x) ∧ iter FU (fun q => f_X12_dareOf_L51 0 x1 (nI a) q σ) (nI c) = some (nI w) := by
  obtain ⟨x, e1, w, q1, q2, q3, q4, rfl⟩ := iter_w (f := fun q : Int32 => f_X12_dareOf_L51 0 x1 (nI a) q σ) (s0 := nI c) (P := fun i q => q = nI (c + i) ∧ ∀ x, c ≤ x → x < c + i → ¬ alw (kpN A F W 9) W tk sy x) (Q := fun q => ∃ w, c ≤ w ∧ w ≤ 6 ∧ (w = 6 ∨ alw (kpN A F W 9) W tk sy w) ∧ (∀ x, c ≤ x → x < w → ¬ alw (kpN A F W 9) W tk sy x) ∧ q = nI w) (6 - c) (by omega) ⟨rfl, fun x h1 h2 => by omega⟩ (fun i q hi hP => by
    obtain ⟨p1, p2⟩ := hP
    subst p1
    unfold f_X12_dareOf_L51
    rcases (show i = 6 - c ∨ i < 6 - c by omega) with e | e
    · left
      rw [show c + i = 6 by omega, if_pos (by decide)]
      exact ⟨_, rfl, 6, hc, Nat.le_refl _, Or.inl rfl, fun x h1 h2 => p2 x h1 (by omega), rfl⟩
    · rw [if_neg (show ¬ (6 : Int32) ≤ nI (c + i) from nI_ge (b := 6) (by omega) (by decide)), bo_of mrc, bo_of (m_mayDare h ha (show c + i < 6 by omega) ht htk hs hsy), ite_b]
      by_cases d : alw (kpN A F W 9) W tk sy (c + i)
      · left
        rw [ci_t d]
        exact ⟨_, rfl, c + i, by omega, by omega, Or.inr d, p2, rfl⟩
      · right
        rw [ci_f d, nI_1]
        refine ⟨e, _, rfl, rfl, fun x h1 h2 => ?_⟩
        rcases (show x = c + i ∨ x < c + i by omega) with y | y
        · rw [y]; exact d
        · exact p2 x h1 y)
  exact ⟨w, q1, q2, q3, q4, e1⟩
end DAR
def sg (a : Nat) : Int := if a % 2 = 0 then 1 else -1
theorem sg_s (a : Nat) : sg (a + 1) = -sg a := by
  unfold sg
  rcases (show a % 2 = 0 ∨ a % 2 = 1 by omega) with e | e
  · rw [if_pos e, if_neg (show ¬ (a + 1) % 2 = 0 by omega)]
  · rw [if_neg (show ¬ a % 2 = 0 by omega), if_pos (show (a + 1) % 2 = 0 by omega)]; rfl
theorem sg_2 (a : Nat) : sg a = 1 ∧ a % 2 = 0 ∨ sg a = -1 ∧ ¬ a % 2 = 0 := by
  unfold sg
  by_cases e : a % 2 = 0
  · rw [if_pos e]; exact Or.inl ⟨rfl, e⟩
  · rw [if_neg e]; exact Or.inr ⟨rfl, e⟩
/-- what the one who has come back brings -/
noncomputable def cbS (σ : Dt) (a : Nat) (v : Int32) : Dt := ci (σ.1 8 a = 99999999 ∨ (a % 2 = 0 ∧ σ.1 8 a < v) ∨ (¬ a % 2 = 0 ∧ v < σ.1 8 a)) (if a = 0 then setX (setX σ 8 a v) 0 20 (σ.1 7 0) else setX σ 8 a v) σ
theorem m_comes {σ : Dt} (hR : RefM σ) {a : Nat} (ha : a < 6) (v : Int32) : f_X12_comesBack 0 (nI a) v σ = some ((), cbS σ a v) := by
  have hset : f_X12_comesBack_52 0 (nI a) v σ = some ((), if a = 0 then setX (setX σ 8 a v) 0 20 (σ.1 7 0) else setX σ 8 a v) := by
    unfold f_X12_comesBack_52
    rw [mr18 hR, dsi (by decide) (by decide) ha]
    by_cases c : a = 0
    · rw [ite_z_t c, if_pos c, mr17 (show RefM (setX σ 8 a v) from hR), show (0 : Int32) = nI 0 from rfl, dai (by decide) (by decide) (by decide), mpiB, setX_o (by decide)]
    · rw [ite_z_f (by omega) c, if_neg c]
  have e2 : nI a - nI a / (2 : Int32) * (2 : Int32) = nI (a % 2) := pk_rem (d := 2) (by omega) (by decide) (by decide)
  unfold f_X12_comesBack f_X12_comesBack_11
  rw [e2]
  unfold cbS
  rcases sg_2 a with ⟨-, e⟩ | ⟨-, e⟩
  · rw [ite_z_t e, mr18 hR, dai (by decide) (by decide) ha]
    by_cases c : σ.1 8 a = 99999999
    · rw [if_pos c, ci_t (Or.inl c), hset]
    · rw [if_neg c, ite_10, mr18 hR, dai (by decide) (by decide) ha]
      by_cases d : σ.1 8 a < v
      · rw [if_pos d, ci_t (Or.inr (Or.inl ⟨e, d⟩)), hset]
      · rw [if_neg d, ci_f (fun z => z.elim c (fun z => z.elim (fun z => d z.2) (fun z => z.1 e)))]
  · rw [ite_z_f (by omega) e, mr18 hR, dai (by decide) (by decide) ha]
    by_cases c : σ.1 8 a = 99999999
    · rw [if_pos c, ci_t (Or.inl c), hset]
    · rw [if_neg c, ite_00, mr18 hR, dai (by decide) (by decide) ha]
      by_cases d : v < σ.1 8 a
      · rw [if_pos d, ci_t (Or.inr (Or.inr ⟨e, d⟩)), hset]
      · rw [if_neg d, ci_f (fun z => z.elim c (fun z => z.elim (fun z => e z.1) (fun z => d z.2)))]
theorem KM_cb {σ : Dt} {a : Nat} {v : Int32} : KM σ (cbS σ a v) := by
  unfold cbS
  by_cases c : σ.1 8 a = 99999999 ∨ (a % 2 = 0 ∧ σ.1 8 a < v) ∨ (¬ a % 2 = 0 ∧ v < σ.1 8 a)
  · rw [ci_t c]
    by_cases d : a = 0
    · rw [if_pos d]; exact (KM_set (by decide)).tr (KM_f (by decide))
    · rw [if_neg d]; exact KM_set (by decide)
  · rw [ci_f c]; exact KM_0 _
theorem cb_o {σ : Dt} {a b j : Nat} {v : Int32} (h : ¬ (b = 8 ∧ j = a)) (h2 : ¬ (b = 0 ∧ j = 20)) : (cbS σ a v).1 b j = σ.1 b j := by
  unfold cbS
  by_cases c : σ.1 8 a = 99999999 ∨ (a % 2 = 0 ∧ σ.1 8 a < v) ∨ (¬ a % 2 = 0 ∧ v < σ.1 8 a)
  · rw [ci_t c]
    by_cases d : a = 0
    · rw [if_pos d, setX_ne h2, setX_ne h]
    · rw [if_neg d, setX_ne h]
  · rw [ci_f c]
/-- the best of the first choices, and which -/
noncomputable def mxG (al : Nat → Prop) (g : Nat → Int) : Nat → Option (Int × Nat)
  | 0 => none
  | w + 1 => ci (al w) (match mxG al g w with
    | none => some (g w, w)
    | some b => if g w ≤ b.1 then some b else some (g w, w)) (mxG al g w)
theorem mxG_P {al : Nat → Prop} {g : Nat → Int} : ∀ m, (mxG al g m = none ∧ ∀ w, w < m → ¬ al w) ∨ ∃ v a, mxG al g m = some (v, a) ∧ a < m ∧ al a ∧ v = g a ∧ (∀ w, w < m → al w → g w ≤ v) ∧ ∀ w, w < a → al w → g w < v
  | 0 => Or.inl ⟨rfl, fun w hw => absurd hw (Nat.not_lt_zero w)⟩
  | m + 1 => by
    rw [mxG]
    by_cases c : al m
    · rw [ci_t c]
      right
      rcases mxG_P (al := al) (g := g) m with ⟨h1, h2⟩ | ⟨v, a, h1, h2, h3, h4, h5, h6⟩
      · rw [h1]
        refine ⟨g m, m, rfl, by omega, c, rfl, fun w hw z => ?_, fun w hw z => absurd z (h2 w hw)⟩
        rcases (show w = m ∨ w < m by omega) with y | y
        · rw [y]; omega
        · exact absurd z (h2 w y)
      · rw [h1]
        dsimp only
        by_cases d : g m ≤ v
        · rw [if_pos d]
          refine ⟨v, a, rfl, by omega, h3, h4, fun w hw z => ?_, h6⟩
          rcases (show w = m ∨ w < m by omega) with y | y
          · rw [y]; exact d
          · exact h5 w y z
        · rw [if_neg d]
          refine ⟨g m, m, rfl, by omega, c, rfl, fun w hw z => ?_, fun w hw z => ?_⟩
          · rcases (show w = m ∨ w < m by omega) with y | y
            · rw [y]; omega
            · have := h5 w y z; omega
          · have := h5 w hw z; omega
    · rw [ci_f c]
      rcases mxG_P (al := al) (g := g) m with ⟨h1, h2⟩ | ⟨v, a, h1, h2, h3, h4, h5, h6⟩
      · refine Or.inl ⟨h1, fun w hw z => ?_⟩
        rcases (show w = m ∨ w < m by omega) with y | y
        · rw [y] at z; exact c z
        · exact h2 w y z
      · refine Or.inr ⟨v, a, h1, by omega, h3, h4, fun w hw z => ?_, h6⟩
        rcases (show w = m ∨ w < m by omega) with y | y
        · rw [y] at z; exact absurd z c
        · exact h5 w y z
theorem mxG_skip {al : Nat → Prop} {g : Nat → Int} {c : Nat} : ∀ d, (∀ x, c ≤ x → x < c + d → ¬ al x) → mxG al g (c + d) = mxG al g c
  | 0, _ => rfl
  | d + 1, h => by rw [← Nat.add_assoc, mxG, ci_f (h (c + d) (by omega) (by omega)), mxG_skip d (fun x h1 h2 => h x h1 (by omega))]
/-- all choices: a work, or none -/
def alC (K : Nat → Nat) (W tk sy w : Nat) : Prop := w = 6 ∨ alw K W tk sy w
noncomputable def gC (K wo : Nat → Nat) (W t tk sy w : Nat) : Int := if w = 6 then -ldI K wo W t tk sy else gn K wo W t tk sy w
theorem ld_P {K wo : Nat → Nat} {W t tk sy : Nat} : ∀ m, -ldI K wo W t tk sy ≤ fld (fun w (b : Int) => ci (alw K W tk sy w) (if b < gn K wo W t tk sy w then gn K wo W t tk sy w else b) b) (-ldI K wo W t tk sy) m ∧ (∀ w, w < m → alw K W tk sy w → gn K wo W t tk sy w ≤ fld (fun w (b : Int) => ci (alw K W tk sy w) (if b < gn K wo W t tk sy w then gn K wo W t tk sy w else b) b) (-ldI K wo W t tk sy) m) ∧ (fld (fun w (b : Int) => ci (alw K W tk sy w) (if b < gn K wo W t tk sy w then gn K wo W t tk sy w else b) b) (-ldI K wo W t tk sy) m = -ldI K wo W t tk sy ∨ ∃ w, w < m ∧ alw K W tk sy w ∧ fld (fun w (b : Int) => ci (alw K W tk sy w) (if b < gn K wo W t tk sy w then gn K wo W t tk sy w else b) b) (-ldI K wo W t tk sy) m = gn K wo W t tk sy w)
  | 0 => ⟨Int.le_refl _, fun w hw => absurd hw (Nat.not_lt_zero w), Or.inl rfl⟩
  | m + 1 => by
    obtain ⟨h1, h2, h3⟩ := ld_P (K := K) (wo := wo) (W := W) (t := t) (tk := tk) (sy := sy) m
    rw [fld]
    generalize fld (fun w (b : Int) => ci (alw K W tk sy w) (if b < gn K wo W t tk sy w then gn K wo W t tk sy w else b) b) (-ldI K wo W t tk sy) m = b at *
    by_cases c : alw K W tk sy m
    · rw [ci_t c]
      by_cases d : b < gn K wo W t tk sy m
      · rw [if_pos d]
        refine ⟨by omega, fun w hw z => ?_, Or.inr ⟨m, by omega, c, rfl⟩⟩
        rcases (show w = m ∨ w < m by omega) with y | y
        · rw [y]; omega
        · have := h2 w y z; omega
      · rw [if_neg d]
        refine ⟨h1, fun w hw z => ?_, ?_⟩
        · rcases (show w = m ∨ w < m by omega) with y | y
          · rw [y]; omega
          · exact h2 w y z
        · rcases h3 with h3 | ⟨w, w1, w2⟩
          · exact Or.inl h3
          · exact Or.inr ⟨w, by omega, w2⟩
    · rw [ci_f c]
      refine ⟨h1, fun w hw z => ?_, ?_⟩
      · rcases (show w = m ∨ w < m by omega) with y | y
        · rw [y] at z; exact absurd z c
        · exact h2 w y z
      · rcases h3 with h3 | ⟨w, w1, w2⟩
        · exact Or.inl h3
        · exact Or.inr ⟨w, by omega, w2⟩
theorem mx_ld {K wo : Nat → Nat} {W t tk sy : Nat} (hW : W ≤ 6) : ∃ a, mxG (alC K W tk sy) (gC K wo W t tk sy) 7 = some (ldI K wo W (t + 1) tk sy, a) ∧ a < 7 ∧ alC K W tk sy a ∧ ldI K wo W (t + 1) tk sy = gC K wo W t tk sy a ∧ (∀ w, w < 7 → alC K W tk sy w → gC K wo W t tk sy w ≤ ldI K wo W (t + 1) tk sy) ∧ ∀ w, w < a → alC K W tk sy w → gC K wo W t tk sy w < ldI K wo W (t + 1) tk sy := by
  obtain ⟨l1, l2, l3⟩ := ld_P (K := K) (wo := wo) (W := W) (t := t) (tk := tk) (sy := sy) W
  rw [← ldI_s] at l1 l2 l3
  have g6 : gC K wo W t tk sy 6 = -ldI K wo W t tk sy := if_pos rfl
  have gw : ∀ w, alw K W tk sy w → gC K wo W t tk sy w = gn K wo W t tk sy w := fun w z => if_neg (by have := z.1; omega)
  rcases mxG_P (al := alC K W tk sy) (g := gC K wo W t tk sy) 7 with ⟨-, h2⟩ | ⟨v, a, h1, h2, h3, h4, h5, h6⟩
  · exact absurd (Or.inl rfl) (h2 6 (by decide))
  · have hv : v = ldI K wo W (t + 1) tk sy := by
      apply Int.le_antisymm
      · rw [h4]
        rcases h3 with y | y
        · rw [y, g6]; exact l1
        · rw [gw a y]; exact l2 a y.1 y
      · rcases l3 with y | ⟨w, w1, w2, w3⟩
        · rw [y, ← g6]; exact h5 6 (by decide) (Or.inl rfl)
        · rw [w3, ← gw w w2]; exact h5 w (by omega) (Or.inr w2)
    subst hv
    exact ⟨a, h1, h2, h3, h4, h5, h6⟩
