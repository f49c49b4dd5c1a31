/-! ===== numbers: all as numbers from 0 on; truth values; bits ===== -/
theorem i0 : (0 : Int32) = nI 0 := rfl
theorem i1 : (1 : Int32) = nI 1 := rfl
theorem i2 : (2 : Int32) = nI 2 := rfl
theorem i3 : (3 : Int32) = nI 3 := rfl
theorem i4 : (4 : Int32) = nI 4 := rfl
theorem i5 : (5 : Int32) = nI 5 := rfl
theorem i6 : (6 : Int32) = nI 6 := rfl
theorem i7 : (7 : Int32) = nI 7 := rfl
theorem i8 : (8 : Int32) = nI 8 := rfl
theorem i9 : (9 : Int32) = nI 9 := rfl
theorem i10 : (10 : Int32) = nI 10 := rfl
theorem i11 : (11 : Int32) = nI 11 := rfl
theorem i12 : (12 : Int32) = nI 12 := rfl
theorem i15 : (15 : Int32) = nI 15 := rfl
theorem i16 : (16 : Int32) = nI 16 := rfl
theorem i20 : (20 : Int32) = nI 20 := rfl
theorem i21 : (21 : Int32) = nI 21 := rfl
theorem i26 : (26 : Int32) = nI 26 := rfl
theorem i29 : (29 : Int32) = nI 29 := rfl
theorem i30 : (30 : Int32) = nI 30 := rfl
theorem i31 : (31 : Int32) = nI 31 := rfl
theorem i39 : (39 : Int32) = nI 39 := rfl
theorem i40 : (40 : Int32) = nI 40 := rfl
theorem i50 : (50 : Int32) = nI 50 := rfl
theorem i51 : (51 : Int32) = nI 51 := rfl
theorem i60 : (60 : Int32) = nI 60 := rfl
theorem i63 : (63 : Int32) = nI 63 := rfl
theorem i64 : (64 : Int32) = nI 64 := rfl
theorem i71 : (71 : Int32) = nI 71 := rfl
theorem i99 : (99 : Int32) = nI 99 := rfl
theorem i100 : (100 : Int32) = nI 100 := rfl
theorem i255 : (255 : Int32) = nI 255 := rfl
theorem i600 : (600 : Int32) = nI 600 := rfl
theorem i610 : (610 : Int32) = nI 610 := rfl
theorem i720 : (720 : Int32) = nI 720 := rfl
theorem i1024 : (1024 : Int32) = nI 1024 := rfl
theorem i1042 : (1042 : Int32) = nI 1042 := rfl
theorem i1078 : (1078 : Int32) = nI 1078 := rfl
noncomputable def bI (p : Prop) : Int32 := @ite _ p (Classical.propDecidable p) 1 0
theorem bI_t {p : Prop} (h : p) : bI p = 1 := if_pos h
theorem bI_f {p : Prop} (h : ¬ p) : bI p = 0 := if_neg h
theorem bI_of {p : Prop} {x : Option Int32} (h : (p → x = some 1) ∧ (¬ p → x = some 0)) : x = some (bI p) := by
  by_cases c : p
  · rw [h.1 c, bI_t c]
  · rw [h.2 c, bI_f c]
theorem bI_0 {p : Prop} : (bI p = 0) = ¬ p := by
  by_cases c : p
  · rw [bI_t c]; simp [c]
  · rw [bI_f c]; simp [c]
theorem bI_0n {p : Prop} : (bI p = nI 0) = ¬ p := bI_0
theorem bI_1 {p : Prop} : (bI p = 1) = p := by
  by_cases c : p
  · rw [bI_t c]; simp [c]
  · rw [bI_f c]; simp [c]
theorem neg_nI {x : Int32} (h : x < 0) (n : Nat) (hn : n < 2 ^ 31) : ¬ x = nI n := fun e => nI_pos hn (e ▸ h)
theorem inR_nI {j n : Nat} (hj : j < 2 ^ 31) (hn : n ≤ 2 ^ 31) : inR (nI j) n ↔ j < n := by
  constructor
  · rintro ⟨i, hi, e⟩
    have := (nI_eq hj (by omega)).mp e
    omega
  · exact fun h => ⟨j, h, rfl⟩
theorem inR_sub {x : Int32} {c n : Nat} : inR (x - nI c) n ↔ ∃ j, j < n ∧ x = nI (c + j) := by
  constructor
  · rintro ⟨j, hj, e⟩
    refine ⟨j, hj, ?_⟩
    rw [← Int32.sub_add_cancel x (nI c), e, nI_add, Nat.add_comm]
  · rintro ⟨j, hj, e⟩
    refine ⟨j, hj, ?_⟩
    rw [e, ← nI_add, Int32.add_comm, Int32.add_sub_cancel]
theorem inR_subN {m c n : Nat} (hm : m < 2 ^ 31) (h : c + n ≤ 2 ^ 31) : inR (nI m - nI c) n ↔ c ≤ m ∧ m < c + n := by
  rw [inR_sub]
  constructor
  · rintro ⟨j, hj, e⟩
    have := (nI_eq hm (by omega)).mp e
    omega
  · rintro ⟨h1, h2⟩
    exact ⟨m - c, by omega, congrArg nI (by omega)⟩
theorem inR_neg {x : Int32} {n : Nat} (h : x < 0) (hn : n ≤ 2 ^ 31) : ¬ inR x n := by
  rintro ⟨j, hj, rfl⟩
  exact nI_pos (by omega) h
theorem inR_subneg {x : Int32} {c n : Nat} (h : x < 0) (hn : c + n ≤ 2 ^ 31) : ¬ inR (x - nI c) n := by
  rw [inR_sub]
  rintro ⟨j, hj, rfl⟩
  exact nI_pos (by omega) h
theorem div_neg10 {x : Int32} (h : x < 0) (d : Nat) (hd : 1 ≤ d) (hd2 : d ≤ 9) : ¬ x / 10 = nI d := by
  intro e
  have h1 := congrArg Int32.toInt e
  have h2 : x.toInt < 0 := by simpa using Int32.lt_iff_toInt_lt.mp h
  have h3 := Int32.le_toInt x
  rw [nI_toInt (by omega), Int32.toInt_div, show (10 : Int32).toInt = 10 from by decide] at h1
  have h4 : x.toInt.tdiv 10 = - ((-x.toInt).tdiv 10) := by rw [Int.neg_tdiv, Int.neg_neg]
  rw [Int.tdiv_eq_ediv_of_nonneg (show 0 ≤ -x.toInt by omega)] at h4
  rw [h4, Int.bmod_eq_of_le (by omega) (by omega)] at h1
  omega
-- bits
theorem sh31 {k : Nat} (hk : k < 32) : nI k &&& 31 = nI k := by
  rw [pk_andN (by omega) 5 (by decide), Nat.mod_eq_of_lt (by omega)]
theorem smod_nI {k : Nat} (hk : k < 32) : ((nI k).toBitVec.smod 32).toNat = k := by
  have h : ∀ k, k < 32 → ((nI k).toBitVec.smod 32).toNat = k := by decide +kernel
  exact h k hk
theorem tb_shift (s k : Nat) : (s / 2 ^ k) % 2 = (s.testBit k).toNat := by
  rw [Nat.testBit_eq_decide_div_mod_eq]
  rcases Nat.mod_two_eq_zero_or_one (s / 2 ^ k) with h | h <;> simp [h]
theorem bitV {s k : Nat} (hs : s < 2 ^ 31) (hk : k < 32) : (nI s >>> (nI k &&& 31)) &&& 1 = nI (s.testBit k).toNat := by
  have hle : s / 2 ^ k ≤ s := Nat.div_le_self _ _
  rw [sh31 hk, pk_shrN hs _ k (smod_nI hk), pk_andN (by omega) 1 (by decide), Nat.pow_one, tb_shift]
theorem bit1 {s k : Nat} (hs : s < 2 ^ 31) (hk : k < 32) : ((nI s >>> (nI k &&& 31)) &&& 1 = 1) = (s.testBit k = true) := by
  rw [bitV hs hk]
  cases s.testBit k <;> decide
theorem bit0 {s k : Nat} (hs : s < 2 ^ 31) (hk : k < 32) : ((nI s >>> (nI k &&& 31)) &&& 1 = 0) = ¬ (s.testBit k = true) := by
  rw [bitV hs hk]
  cases s.testBit k <;> decide
theorem shl1 {k : Nat} (hk : k < 31) : (1 : Int32) <<< (nI k &&& 31) = nI (2 ^ k) := by
  rw [sh31 (by omega), i1, pk_shlN _ k (smod_nI (by omega)) (by rw [Nat.one_mul]; exact Nat.pow_lt_pow_right (by decide) (by omega)), Nat.one_mul]
theorem nI_or (a b : Nat) : nI a ||| nI b = nI (a ||| b) := by
  apply Int32.toBitVec_inj.mp
  show BitVec.ofNat 32 a ||| BitVec.ofNat 32 b = BitVec.ofNat 32 (a ||| b)
  ext i hi
  simp [← BitVec.getLsbD_eq_getElem, BitVec.getLsbD_ofNat, hi]
theorem nI_and (a b : Nat) : nI a &&& nI b = nI (a &&& b) := by
  apply Int32.toBitVec_inj.mp
  show BitVec.ofNat 32 a &&& BitVec.ofNat 32 b = BitVec.ofNat 32 (a &&& b)
  ext i hi
  simp [← BitVec.getLsbD_eq_getElem, BitVec.getLsbD_ofNat, hi]
/-- a without b -/
def nsub (a b : Nat) : Nat := a ^^^ (a &&& b)
theorem tb_nsub (a b i : Nat) : (nsub a b).testBit i = (a.testBit i && !b.testBit i) := by
  unfold nsub
  rw [Nat.testBit_xor, Nat.testBit_and]
  cases a.testBit i <;> cases b.testBit i <;> rfl
theorem nsub_le (a b : Nat) : nsub a b ≤ a := by
  apply Nat.le_of_testBit
  intro i h
  rw [tb_nsub] at h
  simp at h
  exact h.1
theorem nI_andn (a b : Nat) : nI a &&& ~~~(nI b) = nI (nsub a b) := by
  apply Int32.toBitVec_inj.mp
  show BitVec.ofNat 32 a &&& ~~~(BitVec.ofNat 32 b) = BitVec.ofNat 32 (nsub a b)
  ext i hi
  simp [← BitVec.getLsbD_eq_getElem, BitVec.getLsbD_ofNat, hi, tb_nsub]
-- branches
noncomputable def ci {α : Type} (p : Prop) (a b : α) : α := @ite _ p (Classical.propDecidable p) a b
theorem ci_t {α : Type} {p : Prop} {a b : α} (h : p) : ci p a b = a := if_pos h
theorem ci_f {α : Type} {p : Prop} {a b : α} (h : ¬ p) : ci p a b = b := if_neg h
theorem ci_not {α : Type} {p : Prop} {a b : α} : ci (¬ p) a b = ci p b a := by
  by_cases c : p
  · rw [ci_t c, ci_f (fun h => h c)]
  · rw [ci_f c, ci_t c]
theorem ite_b {α : Type} {p : Prop} {a b : α} : (if bI p = 0 then a else b) = ci p b a := by
  by_cases c : p
  · rw [bI_t c, ci_t c, if_neg (by decide)]
  · rw [bI_f c, ci_f c, if_pos rfl]
theorem ite_c {α : Type} {p : Prop} {a b : α} (d : Decidable p) : @ite α p d a b = ci p a b := by
  by_cases c : p
  · rw [ci_t c, if_pos c]
  · rw [ci_f c, if_neg c]
theorem ite_eq_t {α : Type} {a b : Nat} {x y : α} (h : a = b) : (if nI a = nI b then x else y) = x := if_pos (congrArg nI h)
theorem ite_eq_f {α : Type} {a b : Nat} {x y : α} (ha : a < 2 ^ 31) (hb : b < 2 ^ 31) (h : ¬ a = b) : (if nI a = nI b then x else y) = y := if_neg (fun e => h ((nI_eq ha hb).mp e))
theorem ite_le_t {α : Type} {a b : Nat} {x y : α} (hb : b < 2 ^ 31) (h : a ≤ b) : (if nI a ≤ nI b then x else y) = x := if_pos (nI_le h hb)
theorem ite_le_f {α : Type} {a b : Nat} {x y : α} (hb : a < 2 ^ 31) (h : b < a) : (if nI a ≤ nI b then x else y) = y := if_neg (nI_ge h hb)
theorem ite_lt_t {α : Type} {a b : Nat} {x y : α} (hb : b < 2 ^ 31) (h : a < b) : (if nI a < nI b then x else y) = x := if_pos (nI_lt h hb)
theorem ite_lt_f {α : Type} {a b : Nat} {x y : α} (hb : a < 2 ^ 31) (h : b ≤ a) : (if nI a < nI b then x else y) = y := if_neg (nI_nlt h hb)
theorem ite_none {α : Type} {a : Nat} {x y : α} : (if some a = none then x else y) = y := if_neg (by simp)
theorem ite_10 {α : Type} {x y : α} : (if (1 : Int32) = 0 then x else y) = y := if_neg (by decide)
theorem ite_00 {α : Type} {x y : α} : (if (0 : Int32) = 0 then x else y) = x := if_pos rfl
theorem ite_10n {α : Type} {x y : α} : (if nI 1 = 0 then x else y) = y := if_neg (by decide)
theorem ci_sub_t {α : Type} {m c n : Nat} {x y : α} (hm : m < 2 ^ 31) (h : c + n ≤ 2 ^ 31) (h1 : c ≤ m) (h2 : m < c + n) : ci (inR (nI m - nI c) n) x y = x := ci_t ((inR_subN hm h).mpr ⟨h1, h2⟩)
theorem ci_sub_f {α : Type} {m c n : Nat} {x y : α} (hm : m < 2 ^ 31) (h : c + n ≤ 2 ^ 31) (h1 : m < c ∨ c + n ≤ m) : ci (inR (nI m - nI c) n) x y = y := ci_f (fun q => by have := (inR_subN hm h).mp q; omega)
theorem ci_in_t {α : Type} {m n : Nat} {x y : α} (h2 : m < n) : ci (inR (nI m) n) x y = x := ci_t ⟨m, h2, rfl⟩
theorem ci_in_f {α : Type} {m n : Nat} {x y : α} (hm : m < 2 ^ 31) (h2 : n ≤ m) : ci (inR (nI m) n) x y = y := ci_f (fun q => by have := (inR_nI hm (by omega)).mp q; omega)
/-- isIn of numbers from 0 on -/
theorem or_in {m a b : Nat} (hm : m < 2 ^ 31) (ha : a < 2 ^ 31) (hb : b < 2 ^ 31) : (nI m < nI a ∨ nI b < nI m) ↔ (m < a ∨ b < m) := by rw [nI_ltI hm ha, nI_ltI hb hm]
theorem ite_or_t {α : Type} {m a b : Nat} {x y : α} (hm : m < 2 ^ 31) (ha : a < 2 ^ 31) (hb : b < 2 ^ 31) (h : m < a ∨ b < m) : (if nI m < nI a ∨ nI b < nI m then x else y) = x := if_pos ((or_in hm ha hb).mpr h)
theorem ite_or_f {α : Type} {m a b : Nat} {x y : α} (hm : m < 2 ^ 31) (ha : a < 2 ^ 31) (hb : b < 2 ^ 31) (h : ¬ (m < a ∨ b < m)) : (if nI m < nI a ∨ nI b < nI m then x else y) = y := if_neg (fun q => h ((or_in hm ha hb).mp q))
def inI (x a b : Int32) : Prop := ¬ (x < a ∨ b < x)
theorem iInB (x a b : Int32) (σ : Dt) : f_X12_isIn x a b σ = some (bI (inI x a b)) := by
  rw [iIn]
  by_cases c : x < a ∨ b < x
  · rw [if_pos c, bI_f (fun h : inI x a b => h c)]
  · rw [if_neg c, bI_t (show inI x a b from c)]
theorem inI_nI {m a b : Nat} (hm : m < 2 ^ 31) (ha : a < 2 ^ 31) (hb : b < 2 ^ 31) : inI (nI m) (nI a) (nI b) ↔ a ≤ m ∧ m ≤ b := by
  unfold inI
  rw [or_in hm ha hb]
  omega
theorem ci_inI_t {α : Type} {m a b : Nat} {x y : α} (hm : m < 2 ^ 31) (ha : a < 2 ^ 31) (hb : b < 2 ^ 31) (h1 : a ≤ m) (h2 : m ≤ b) : ci (inI (nI m) (nI a) (nI b)) x y = x := ci_t ((inI_nI hm ha hb).mpr ⟨h1, h2⟩)
theorem ci_inI_f {α : Type} {m a b : Nat} {x y : α} (hm : m < 2 ^ 31) (ha : a < 2 ^ 31) (hb : b < 2 ^ 31) (h : m < a ∨ b < m) : ci (inI (nI m) (nI a) (nI b)) x y = y := ci_f (fun q => by have := (inI_nI hm ha hb).mp q; omega)
theorem inI_neg {x a b : Int32} (h : x < a) : ¬ inI x a b := fun q => q (Or.inl h)
