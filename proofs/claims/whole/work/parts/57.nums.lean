/-! ===== loops as folds; a valley's numbers; counts of bits ===== -/
def fld {β : Type} (g : Nat → β → β) (b : β) : Nat → β
  | 0 => b
  | n + 1 => g n (fld g b n)
theorem iter_fld {T X β : Type} {f : T → Option (T ⊕ X)} (st : Nat → β → T) (g : Nat → β → β) (P : Nat → β → Prop) (b0 : β) (x : β → X) (n : Nat) (hn : n < 100000) (h0 : P 0 b0) (hs : ∀ i b, i < n → P i b → f (st i b) = some (.inl (st (i + 1) (g i b))) ∧ P (i + 1) (g i b)) (he : ∀ b, P n b → f (st n b) = some (.inr (x b))) : iter FU f (st 0 b0) = some (x (fld g b0 n)) ∧ P n (fld g b0 n) := by
  have hP : ∀ i, i ≤ n → P i (fld g b0 i) := by
    intro i
    induction i with
    | zero => exact fun _ => h0
    | succ i ih => exact fun h => (hs i _ (by omega) (ih (by omega))).2
  refine ⟨iter_n (st := fun i => st i (fld g b0 i)) (x := x (fld g b0 n)) n hn (fun j hj => (hs j _ hj (hP j (by omega))).1) (he _ (hP n (Nat.le_refl _))), hP n (Nat.le_refl _)⟩
theorem fld_c {β : Type} {g g' : Nat → β → β} {b : β} : ∀ n, (∀ i, i < n → ∀ b, g i b = g' i b) → fld g b n = fld g' b n
  | 0, _ => rfl
  | n + 1, h => by rw [fld, fld, fld_c n (fun i hi b => h i (by omega) b), h n (by omega)]
theorem fld_P {β : Type} {g : Nat → β → β} {P : Nat → β → Prop} {b : β} (h0 : P 0 b) : ∀ n, (∀ i b, i < n → P i b → P (i + 1) (g i b)) → P n (fld g b n)
  | 0, _ => h0
  | n + 1, h => h n _ (by omega) (fld_P h0 n (fun i b hi => h i b (by omega)))
-- a valley's numbers
def agN (A : Nat → Int32) (f : Nat) : Nat := (A (3 + 4 * f)).toNatClampNeg
def stN (A : Nat → Int32) (f : Nat) : Nat := (A (4 + 4 * f)).toNatClampNeg
def paN (A : Nat → Int32) (f : Nat) : Nat := (A (5 + 4 * f)).toNatClampNeg
def grN (A : Nat → Int32) (f : Nat) : Nat := (A (6 + 4 * f)).toNatClampNeg
def szN (A : Nat → Int32) (w : Nat) : Nat := (A (43 + 2 * w)).toNatClampNeg
def woN (A : Nat → Int32) (w : Nat) : Nat := (A (44 + 2 * w)).toNatClampNeg
theorem two_pow_lt {f : Nat} (hf : f < 10) : 2 ^ f ≤ 512 := by
  have : 2 ^ f ≤ 2 ^ 9 := Nat.pow_le_pow_right (by decide) (by omega)
  exact this
section VWL
variable {A : Nat → Int32} {F W : Nat}
theorem VW.fk (h : VW A F W) {f : Nat} (hf : f < 10) : (A (3 + 4 * f) = nI (agN A f) ∧ agN A f ≤ 99) ∧ (A (4 + 4 * f) = nI (stN A f) ∧ stN A f ≤ 9) ∧ (A (5 + 4 * f) = nI (paN A f) ∧ paN A f < 2 ^ f) ∧ (A (6 + 4 * f) = nI (grN A f) ∧ grN A f < 2 ^ f) ∧ (F ≤ f → agN A f = 0 ∧ stN A f = 0 ∧ paN A f = 0 ∧ grN A f = 0) := by
  obtain ⟨a, s, p, g, ha, ha2, hs, hs2, hp, hp2, hg, hg2, hz⟩ := h.2.2.2.2.2.1 f hf
  have := two_pow_lt hf
  unfold agN stN paN grN
  rw [ha, hs, hp, hg, nI_clamp (by omega), nI_clamp (by omega), nI_clamp (by omega), nI_clamp (by omega)]
  exact ⟨⟨rfl, ha2⟩, ⟨rfl, hs2⟩, ⟨rfl, hp2⟩, ⟨rfl, hg2⟩, hz⟩
theorem VW.wk (h : VW A F W) {w : Nat} (hw : w < 6) : (A (43 + 2 * w) = nI (szN A w) ∧ szN A w ≤ 30) ∧ (A (44 + 2 * w) = nI (woN A w) ∧ woN A w ≤ 20) ∧ (w < W → 1 ≤ szN A w) := by
  obtain ⟨m, r, hm, hm2, hr, hr2, hz⟩ := h.2.2.2.2.2.2 w hw
  unfold szN woN
  rw [hm, hr, nI_clamp (by omega), nI_clamp (by omega)]
  exact ⟨⟨rfl, hm2⟩, ⟨rfl, hr2⟩, hz⟩
theorem VW.pa10 (h : VW A F W) {f : Nat} (hf : f < 10) : paN A f < 1024 := by
  have h1 := (h.fk hf).2.2.1.2
  have := two_pow_lt hf
  omega
theorem VW.gr10 (h : VW A F W) {f : Nat} (hf : f < 10) : grN A f < 1024 := by
  have h1 := (h.fk hf).2.2.2.1.2
  have := two_pow_lt hf
  omega
end VWL
section NV
variable {σ : Dt} {v o F W : Nat} {A : Nat → Int32}
theorem CV.vw (h : CV σ v A F W) : VW A F W := h.2.2.2.1
theorem MV.vw (h : MV σ o A F W) : VW A F W := h.2.2.2.2.2.2
theorem xag (h : CV σ v A F W) {f : Nat} (hf : f < F) : xai SX (some (v + 1)) (nI f) σ = some (nI (agN A f)) := by rw [cai1 h.1 (Nat.lt_of_lt_of_le hf h.F10), h.age f hf, (h.vw.fk (Nat.lt_of_lt_of_le hf h.F10)).1.1]
theorem xst (h : CV σ v A F W) {f : Nat} (hf : f < F) : xai SX (some (v + 2)) (nI f) σ = some (nI (stN A f)) := by rw [cai2 h.1 (Nat.lt_of_lt_of_le hf h.F10), h.str f hf, (h.vw.fk (Nat.lt_of_lt_of_le hf h.F10)).2.1.1]
theorem xpa (h : CV σ v A F W) {f : Nat} (hf : f < 10) : xai SX (some (v + 3)) (nI f) σ = some (nI (paN A f)) := by rw [cai3 h.1 hf, h.par f hf, (h.vw.fk hf).2.2.1.1]
theorem xgd (h : CV σ v A F W) {f : Nat} (hf : f < 10) : xai SX (some (v + 4)) (nI f) σ = some (nI (grN A f)) := by rw [cai4 h.1 hf, h.gra f hf, (h.vw.fk hf).2.2.2.1.1]
theorem xsiz (h : CV σ v A F W) {w : Nat} (hw : w < W) : xai SX (some (v + 6)) (nI w) σ = some (nI (szN A w)) := by rw [cai6 h.1 (Nat.lt_of_lt_of_le hw h.W6), h.siz w hw, (h.vw.wk (Nat.lt_of_lt_of_le hw h.W6)).1.1]
theorem xwor (h : CV σ v A F W) {w : Nat} (hw : w < W) : xai SX (some (v + 7)) (nI w) σ = some (nI (woN A w)) := by rw [cai7 h.1 (Nat.lt_of_lt_of_le hw h.W6), h.wor w hw, (h.vw.wk (Nat.lt_of_lt_of_le hw h.W6)).2.1.1]
theorem xpars (h : CV σ v A F W) : xgr SX 9 5 (some v) σ = some (some (v + 3)) := cpars h.1 h.2.1
theorem xgrands (h : CV σ v A F W) : xgr SX 9 6 (some v) σ = some (some (v + 4)) := cgrands h.1 h.2.1
theorem xages (h : CV σ v A F W) : xgr SX 9 3 (some v) σ = some (some (v + 1)) := cages h.1 h.2.1
theorem xstrs (h : CV σ v A F W) : xgr SX 9 4 (some v) σ = some (some (v + 2)) := cstrs h.1 h.2.1
theorem xsizes (h : CV σ v A F W) : xgr SX 9 8 (some v) σ = some (some (v + 6)) := csizes h.1 h.2.1
theorem xworths (h : CV σ v A F W) : xgr SX 9 9 (some v) σ = some (some (v + 7)) := cworths h.1 h.2.1
theorem xfolk (h : CV σ v A F W) : xgi SX 9 0 (some v) σ = some (nI F) := by rw [cgi h.1, h.folk]
theorem xworks (h : CV σ v A F W) : xgi SX 9 1 (some v) σ = some (nI W) := by rw [cgi h.1, h.works]
theorem mfolk (h : MV σ o A F W) : xgi SM 12 12 (some 0) σ = some (nI F) := by rw [mgi, h.fo]
theorem mworks (h : MV σ o A F W) : xgi SM 12 13 (some 0) σ = some (nI W) := by rw [mgi, h.wo]
theorem mag (h : MV σ o A F W) {f : Nat} (hf : f < 10) : f_X12_ageOf 0 (nI f) σ = some (nI (agN A f)) := by rw [m_age h hf, (h.vw.fk hf).1.1]
theorem mst (h : MV σ o A F W) {f : Nat} (hf : f < 10) : f_X12_strengthOf 0 (nI f) σ = some (nI (stN A f)) := by rw [m_strength h hf, (h.vw.fk hf).2.1.1]
theorem mpa (h : MV σ o A F W) {f : Nat} (hf : f < 10) : f_X12_parentsOf 0 (nI f) σ = some (nI (paN A f)) := by rw [m_parents h hf, (h.vw.fk hf).2.2.1.1]
theorem mgd (h : MV σ o A F W) {f : Nat} (hf : f < 10) : f_X12_elderOf 0 (nI f) σ = some (nI (grN A f)) := by rw [m_elder h hf, (h.vw.fk hf).2.2.2.1.1]
theorem msiz (h : MV σ o A F W) {w : Nat} (hw : w < 6) : f_X12_muchOf 0 (nI w) σ = some (nI (szN A w)) := by rw [m_much h hw, (h.vw.wk hw).1.1]
theorem mwor (h : MV σ o A F W) {w : Nat} (hw : w < 6) : f_X12_worthOf 0 (nI w) σ = some (nI (woN A w)) := by rw [m_worth h hw, (h.vw.wk hw).2.1.1]
theorem msmall (h : MV σ o A F W) {f : Nat} (hf : f < 10) : f_X12_isSmall 0 (nI f) σ = some (bI (agN A f < 10)) := by
  have := (h.vw.fk hf).1.2
  rw [m_small h hf, (h.vw.fk hf).1.1]
  by_cases c : agN A f < 10
  · rw [bI_t c, if_neg (show ¬ (10 : Int32) ≤ nI (agN A f) from nI_ge (b := 10) c (by decide))]
  · rw [bI_f c, if_pos (show (10 : Int32) ≤ nI (agN A f) from nI_le (a := 10) (by omega) (by omega))]
theorem xchild (h : CV σ v A F W) {f : Nat} (hf : f < F) : f_X9_isChild v (nI f) σ = some (bI (agN A f < 10)) := by
  have hF := h.F10
  have h9 := (h.vw.fk (show f < 10 by omega)).1
  unfold f_X9_isChild f_X9_isChild_23
  simp only [crc h.1, bo_s, c_hasFolkB h, ite_b, ci_t (show inR (nI f) F from ⟨f, hf, rfl⟩), xages h, xag h hf]
  by_cases c : agN A f < 10
  · rw [bI_t c, if_neg (show ¬ (10 : Int32) ≤ nI (agN A f) from nI_ge (b := 10) c (by decide))]
  · rw [bI_f c, if_pos (show (10 : Int32) ≤ nI (agN A f) from nI_le (a := 10) (by omega) (by omega))]
theorem xgrandp (h : CV σ v A F W) {g f : Nat} (hg : g < F) (hf : f < F) : f_X9_isGrandparent v (nI g) (nI f) σ = some (bI ((grN A f).testBit g = true)) := by
  have hF := h.F10
  have := h.vw.gr10 (show f < 10 by omega)
  unfold f_X9_isGrandparent f_X9_isGrandparent_33
  simp only [crc h.1, bo_s, c_hasFolkB h, ite_b, ci_t (show inR (nI f) F from ⟨f, hf, rfl⟩), ci_t (show inR (nI g) F from ⟨g, hg, rfl⟩), xgrands h, xgd h (show f < 10 by omega)]
  simp only [bit0 (show grN A f < 2 ^ 31 by omega) (show g < 32 by omega)]
  by_cases c : (grN A f).testBit g = true
  · rw [bI_t c, if_neg (fun q => q c)]
  · rw [bI_f c, if_pos c]
end NV
theorem mamong {s k : Nat} (hs : s < 2 ^ 31) (hk : k < 32) (σ : Dt) : f_X12_isAmong (nI s) (nI k) σ = some (bI (s.testBit k = true)) := by
  rw [m_among]
  simp only [bit1 hs hk]
  by_cases c : s.testBit k = true
  · rw [bI_t c, if_pos c]
  · rw [bI_f c, if_neg c]
theorem nI_andx (a b : Nat) : nI a &&& (nI b ^^^ (-1)) = nI (nsub a b) := by
  rw [← nI_andn]
  congr 1
  apply Int32.toBitVec_inj.mp
  show (nI b).toBitVec ^^^ (-1 : Int32).toBitVec = ~~~(nI b).toBitVec
  rw [show (-1 : Int32).toBitVec = BitVec.allOnes 32 by decide, BitVec.xor_allOnes]
-- counts of bits
def popK (s : Nat) : Nat → Nat
  | 0 => 0
  | k + 1 => popK s k + (s.testBit k).toNat
def popc (s : Nat) : Nat := popK s 12
theorem popK_le (s : Nat) : ∀ k, popK s k ≤ k
  | 0 => Nat.le_refl _
  | k + 1 => by
    have := popK_le s k
    rw [popK]
    cases s.testBit k <;> simp <;> omega
theorem popc_le (s : Nat) : popc s ≤ 12 := popK_le s 12
theorem mbits {s : Nat} (hs : s < 2 ^ 31) (σ : Dt) : f_X12_bitsOf (nI s) σ = some (nI (popc s)) := by
  unfold f_X12_bitsOf
  have key := iter_n (f := fun q : Int32 × Int32 => f_X12_bitsOf_L4 (nI s) q.1 q.2 σ) (st := fun i => (nI (popK s i), nI i)) (x := nI (popK s 12)) 12 (by decide) (fun i hi => ?_) ?_
  · rw [show ((0 : Int32), (0 : Int32)) = (nI (popK s 0), nI 0) from rfl, key, bo_s]
    rfl
  · dsimp only
    unfold f_X12_bitsOf_L4
    rw [if_neg (show ¬ (12 : Int32) ≤ nI i from nI_ge (b := 12) hi (by decide)), bo_s, bitV hs (by omega), nI_add, nI_1]
    rfl
  · dsimp only
    unfold f_X12_bitsOf_L4
    rw [if_pos (by decide)]
theorem xbits0 : ∀ s, s < 1024 → f_J6_bitCount_0f7a4 (nI s) σX0 = some (nI (popc s)) := by decide +kernel
theorem xbits {s : Nat} (hs : s < 1024) (σ : Dt) : f_J6_bitCount_0f7a4 (nI s) σ = some (nI (popc s)) := xbits0 s hs
