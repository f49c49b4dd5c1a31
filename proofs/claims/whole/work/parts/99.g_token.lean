/-! ===== text: tokens ===== -/
/-- a run of P from i on ends at e -/
def EnR (P : Nat → Prop) (L i e : Nat) : Prop := i ≤ e ∧ e ≤ L ∧ (∀ k, i ≤ k → k < e → P k) ∧ (e = L ∨ ¬ P e)
theorem EnR_u {P : Nat → Prop} {L i e e' : Nat} (h : EnR P L i e) (h' : EnR P L i e') : e = e' := by
  obtain ⟨a1, a2, a3, a4⟩ := h
  obtain ⟨b1, b2, b3, b4⟩ := h'
  rcases (show e = e' ∨ e < e' ∨ e' < e by omega) with c | c | c
  · exact c
  · rcases a4 with z | z
    · omega
    · exact absurd (b3 e a1 c) z
  · rcases b4 with z | z
    · omega
    · exact absurd (a3 e' b1 c) z
theorem run_g {S : Type} {f : S → Option (S ⊕ S)} {st : Nat → S} {P : Nat → Prop} {L i : Nat} (hL : L ≤ 600) (hi : i ≤ L) (hs : ∀ j, i ≤ j → j < L → P j → f (st j) = some (.inl (st (j + 1)))) (he : ∀ j, i ≤ j → j ≤ L → (j = L ∨ ¬ P j) → f (st j) = some (.inr (st j))) : ∃ e, EnR P L i e ∧ iter FU f (st i) = some (st e) := by
  have key := iter_w (f := f) (s0 := st i) (P := fun k q => q = st (i + k) ∧ i + k ≤ L ∧ ∀ m, i ≤ m → m < i + k → P m) (Q := fun r => ∃ e, EnR P L i e ∧ r = st e) (L - i) (by omega) ⟨rfl, hi, fun m h1 h2 => by omega⟩ (fun k q hk hP => by
    obtain ⟨rfl, p1, p2⟩ := hP
    by_cases c : i + k = L ∨ ¬ P (i + k)
    · left
      exact ⟨_, he (i + k) (by omega) p1 c, i + k, ⟨by omega, p1, p2, c⟩, rfl⟩
    · right
      have c1 : ¬ i + k = L := fun z => c (Or.inl z)
      have c2 : P (i + k) := Classical.not_not.mp (fun z => c (Or.inr z))
      refine ⟨by omega, _, hs (i + k) (by omega) (by omega) c2, rfl, by omega, fun m h1 h2 => ?_⟩
      rcases (show m = i + k ∨ m < i + k by omega) with y | y
      · rw [y]; exact c2
      · exact p2 m h1 y)
  obtain ⟨r, e1, e, e2, rfl⟩ := key
  exact ⟨e, e2, e1⟩
def isSp (b : Nat) : Prop := b = 32 ∨ b = 10
def isLe (b : Nat) : Prop := 97 ≤ b ∧ b ≤ 122
def isDi (b : Nat) : Prop := 48 ≤ b ∧ b ≤ 57
/-- the tape, as the reader holds it -/
def Rd (σ : Dt) (B : Nat → Nat) (L : Nat) : Prop := RefX σ ∧ σ.2.2 155 5 = some 2 ∧ σ.1 155 6 = nI L ∧ L ≤ 600 ∧ ∀ i, i < L → σ.1 2 i = nI (B i) ∧ B i < 256
theorem r_gi {β : Type} {j : Nat} {σ : Dt} {k : Int32 → Option β} : bo (xgi SX 5 j (some 155) σ) k = k (σ.1 155 j) := bo_of (xgi_of (by decide) (by decide))
theorem r_pi {β : Type} {j : Nat} {v : Int32} {σ : Dt} {k : Dt → Option β} : bo (xpi SX 5 j (some 155) v σ) k = k (setX σ 155 j v) := bo_of (xpi_of (by decide) (by decide))
theorem r_rc : xrc SX 5 (some 155) = some 155 := xrc_of (by decide) (by decide)
theorem Rd_set {σ : Dt} {B : Nat → Nat} {L j : Nat} {v : Int32} (h : Rd σ B L) (hj : ¬ j = 6) : Rd (setX σ 155 j v) B L := by
  obtain ⟨h1, h2, h3, h4, h5⟩ := h
  refine ⟨h1, h2, ?_, h4, fun i hi => ?_⟩
  · rw [setX_n (fun z => hj z.symm)]; exact h3
  · rw [setX_o (by decide)]; exact h5 i hi
theorem tp_sh : 2 < SX.1 ∧ SX.2.1 2 = 13 ∧ SX.2.2 2 = 600 := by decide
theorem r_byte {σ : Dt} {B : Nat → Nat} {L i : Nat} (h : Rd σ B L) (hi : i < 2 ^ 31) : f_X5_byteAt 155 (nI i) σ = some (if i < L then nI (B i) else -1) := by
  obtain ⟨h1, h2, h3, h4, h5⟩ := h
  obtain ⟨q1, q2, q3⟩ := tp_sh
  have hr : xgr SX 5 5 (some 155) σ = some (some 2) := by rw [xgr_of (by decide) (by decide), h2]
  unfold f_X5_byteAt f_X5_byteAt_37
  rw [bo_of hr, if_neg (by simp), if_neg (nI_pos hi), r_gi, h3, bo_of hr, bo_of (xln_of q1 q2), q3, bo_of hr]
  by_cases c : i < L
  · rw [ite_le_f (by omega) c, ite_le_f (by decide) (by omega), bo_of (xai_of q1 q2 (by omega) (by omega)), if_pos c, (h5 i c).1]
  · rw [ite_le_t hi (by omega), if_neg c]
theorem r_let {b : Nat} (hb : b < 256) (σ : Dt) : f_X5_isLetter (nI b) σ = some (bI (isLe b)) := by
  unfold f_X5_isLetter f_X5_isLetter_16 isLe
  by_cases c1 : b < 97
  · rw [if_pos (show nI b < (97 : Int32) from nI_lt (b := 97) c1 (by decide)), bI_f (by omega)]
  · rw [if_neg (show ¬ nI b < (97 : Int32) from Int32.not_lt.mpr (nI_le (a := 97) (by omega) (by omega)))]
    by_cases c2 : 122 < b
    · rw [if_pos (show (122 : Int32) < nI b from nI_lt (a := 122) c2 (by omega)), bI_f (by omega)]
    · rw [if_neg (show ¬ (122 : Int32) < nI b from Int32.not_lt.mpr (nI_le (b := 122) (by omega) (by decide))), bI_t (by omega)]
theorem r_dig {b : Nat} (hb : b < 256) (σ : Dt) : f_X5_isDigit (nI b) σ = some (bI (isDi b)) := by
  unfold f_X5_isDigit f_X5_isDigit_16 isDi
  by_cases c1 : b < 48
  · rw [if_pos (show nI b < (48 : Int32) from nI_lt (b := 48) c1 (by decide)), bI_f (by omega)]
  · rw [if_neg (show ¬ nI b < (48 : Int32) from Int32.not_lt.mpr (nI_le (a := 48) (by omega) (by omega)))]
    by_cases c2 : 57 < b
    · rw [if_pos (show (57 : Int32) < nI b from nI_lt (a := 57) c2 (by omega)), bI_f (by omega)]
    · rw [if_neg (show ¬ (57 : Int32) < nI b from Int32.not_lt.mpr (nI_le (b := 57) (by omega) (by decide))), bI_t (by omega)]
theorem nI_is {b c : Nat} (hb : b < 2 ^ 31) (hc : c < 2 ^ 31) : (nI b = nI c) = (b = c) := propext (nI_eq hb hc)
section TOK
variable {σ : Dt} {B : Nat → Nat} {L : Nat}
theorem r_skip (h : Rd σ B L) {i : Nat} (hi : i ≤ L) : ∃ e, EnR (fun k => isSp (B k)) L i e ∧ iter FU (fun s => f_X5_nextToken_L0 155 s) (setX σ 155 9 (nI i)) = some (setX σ 155 9 (nI e)) := by
  have hL := h.2.2.2.1
  refine run_g (f := fun s => f_X5_nextToken_L0 155 s) (st := fun j => setX σ 155 9 (nI j)) hL hi (fun j h1 h2 h3 => ?_) (fun j h1 h2 h3 => ?_)
  · have hR := Rd_set (j := 9) (v := nI j) h (by decide)
    have hb := (h.2.2.2.2 j h2).2
    try dsimp only
    unfold f_X5_nextToken_L0 f_X5_nextToken_37
    rw [r_gi, r_gi, hR.2.2.1, setX_j, ite_le_f (by omega) h2, r_gi, setX_j, bo_of r_rc, bo_of (r_byte hR (by omega)), if_pos h2]
    simp only [r_gi, setX_j, bo_of r_rc, bo_of (r_byte hR (show j < 2 ^ 31 by omega)), if_pos h2, r_pi, setX_set, nI_1]
    rcases h3 with z | z
    · rw [if_pos (show nI (B j) = (32 : Int32) from by rw [z]; rfl)]
    · by_cases c : nI (B j) = (32 : Int32)
      · rw [if_pos c]
      · rw [if_neg c, if_pos (show nI (B j) = (10 : Int32) from by rw [z]; rfl)]
  · have hR := Rd_set (j := 9) (v := nI j) h (by decide)
    try dsimp only
    unfold f_X5_nextToken_L0 f_X5_nextToken_37
    rw [r_gi, r_gi, hR.2.2.1, setX_j]
    rcases (show j = L ∨ j < L by omega) with y | y
    · rw [y, if_pos (nI_le (Nat.le_refl _) (by omega))]
    · have hb := (h.2.2.2.2 j y).2
      have hn : ¬ isSp (B j) := h3.elim (fun z => by omega) id
      rw [ite_le_f (by omega) y, r_gi, setX_j, bo_of r_rc, bo_of (r_byte hR (by omega)), if_pos y]
      simp only [r_gi, setX_j, bo_of r_rc, bo_of (r_byte hR (show j < 2 ^ 31 by omega)), if_pos y]
      rw [if_neg (show ¬ nI (B j) = (32 : Int32) from fun z => hn (Or.inl ((nI_eq (b := 32) (by omega) (by decide)).mp z))), if_neg (show ¬ nI (B j) = (10 : Int32) from fun z => hn (Or.inr ((nI_eq (b := 10) (by omega) (by decide)).mp z)))]
theorem r_lets (h : Rd σ B L) {i : Nat} (hi : i ≤ L) : ∃ e, EnR (fun k => isLe (B k)) L i e ∧ iter FU (fun s => f_X5_nextToken_L105 155 s) (setX σ 155 9 (nI i)) = some (setX σ 155 9 (nI e)) := by
  have hL := h.2.2.2.1
  refine run_g (f := fun s => f_X5_nextToken_L105 155 s) (st := fun j => setX σ 155 9 (nI j)) hL hi (fun j h1 h2 h3 => ?_) (fun j h1 h2 h3 => ?_)
  · have hR := Rd_set (j := 9) (v := nI j) h (by decide)
    have hb := (h.2.2.2.2 j h2).2
    try dsimp only
    unfold f_X5_nextToken_L105
    rw [r_gi, r_gi, hR.2.2.1, setX_j, ite_le_f (by omega) h2, r_gi, setX_j, bo_of r_rc, bo_of (r_byte hR (by omega)), if_pos h2, bo_of (r_let hb _), ite_b, ci_t h3, r_gi, setX_j, r_pi, setX_set, nI_1]
  · have hR := Rd_set (j := 9) (v := nI j) h (by decide)
    try dsimp only
    unfold f_X5_nextToken_L105
    rw [r_gi, r_gi, hR.2.2.1, setX_j]
    rcases (show j = L ∨ j < L by omega) with y | y
    · rw [y, if_pos (nI_le (Nat.le_refl _) (by omega))]
    · have hb := (h.2.2.2.2 j y).2
      have hn : ¬ isLe (B j) := h3.elim (fun z => by omega) id
      rw [ite_le_f (by omega) y, r_gi, setX_j, bo_of r_rc, bo_of (r_byte hR (by omega)), if_pos y, bo_of (r_let hb _), ite_b, ci_f hn]
theorem r_digs (h : Rd σ B L) {i : Nat} (hi : i ≤ L) : ∃ e, EnR (fun k => isDi (B k)) L i e ∧ iter FU (fun s => f_X5_nextToken_L152 155 s) (setX σ 155 9 (nI i)) = some (setX σ 155 9 (nI e)) := by
  have hL := h.2.2.2.1
  refine run_g (f := fun s => f_X5_nextToken_L152 155 s) (st := fun j => setX σ 155 9 (nI j)) hL hi (fun j h1 h2 h3 => ?_) (fun j h1 h2 h3 => ?_)
  · have hR := Rd_set (j := 9) (v := nI j) h (by decide)
    have hb := (h.2.2.2.2 j h2).2
    try dsimp only
    unfold f_X5_nextToken_L152
    rw [r_gi, r_gi, hR.2.2.1, setX_j, ite_le_f (by omega) h2, r_gi, setX_j, bo_of r_rc, bo_of (r_byte hR (by omega)), if_pos h2, bo_of (r_dig hb _), ite_b, ci_t h3, r_gi, setX_j, r_pi, setX_set, nI_1]
  · have hR := Rd_set (j := 9) (v := nI j) h (by decide)
    try dsimp only
    unfold f_X5_nextToken_L152
    rw [r_gi, r_gi, hR.2.2.1, setX_j]
    rcases (show j = L ∨ j < L by omega) with y | y
    · rw [y, if_pos (nI_le (Nat.le_refl _) (by omega))]
    · have hb := (h.2.2.2.2 j y).2
      have hn : ¬ isDi (B j) := h3.elim (fun z => by omega) id
      rw [ite_le_f (by omega) y, r_gi, setX_j, bo_of r_rc, bo_of (r_byte hR (by omega)), if_pos y, bo_of (r_dig hb _), ite_b, ci_f hn]
/-- the next token from i on: its kind (0 end, 1 word, 2 number, 3 stop, 4 wrong), where it begins, where it ends -/
def Tk (B : Nat → Nat) (L i t e e2 : Nat) : Prop := EnR (fun k => isSp (B k)) L i e ∧ ((e = L ∧ t = 0 ∧ e2 = L) ∨ (e < L ∧ B e = 59 ∧ t = 3 ∧ e2 = e + 1) ∨ (e < L ∧ isLe (B e) ∧ EnR (fun k => isLe (B k)) L e e2 ∧ t = 1) ∨ (e < L ∧ isDi (B e) ∧ EnR (fun k => isDi (B k)) L e e2 ∧ t = (if e2 - e ≤ 2 then 2 else 4)) ∨ (e < L ∧ ¬ B e = 59 ∧ ¬ isLe (B e) ∧ ¬ isDi (B e) ∧ t = 4 ∧ e2 = e + 1))
theorem Tk_b {i t e e2 : Nat} (h : Tk B L i t e e2) : i ≤ e ∧ e ≤ e2 ∧ e2 ≤ L ∧ t ≤ 4 := by
  obtain ⟨h1, h2⟩ := h
  have := h1.1
  have := h1.2.1
  rcases h2 with ⟨a, b, c⟩ | ⟨a, b, c, d⟩ | ⟨a, b, c, d⟩ | ⟨a, b, c, d⟩ | ⟨a, b, c, d, f, g⟩
  · omega
  · omega
  · have := c.1; have := c.2.1; omega
  · have := c.1; have := c.2.1
    by_cases z : e2 - e ≤ 2
    · rw [if_pos z] at d; omega
    · rw [if_neg z] at d; omega
  · omega
theorem EnR_1 {P : Nat → Prop} {i e : Nat} (hi : i < L) (hP : P i) (h : EnR P L (i + 1) e) : EnR P L i e := by
  obtain ⟨a, b, c, d⟩ := h
  refine ⟨by omega, b, fun k h1 h2 => ?_, d⟩
  rcases (show k = i ∨ i + 1 ≤ k by omega) with y | y
  · rw [y]; exact hP
  · exact c k y h2
theorem x_token (h : Rd σ B L) {i : Nat} (hi : i ≤ L) (h9 : σ.1 155 9 = nI i) : ∃ t e e2, Tk B L i t e e2 ∧ f_X5_nextToken 155 σ = some (nI t, setX (setX σ 155 8 (nI e)) 155 9 (nI e2)) := by
  have hL := h.2.2.2.1
  obtain ⟨e, s1, s2⟩ := r_skip h hi
  have s2' : iter FU (fun s => f_X5_nextToken_L0 155 s) σ = some (setX σ 155 9 (nI e)) := by rw [← s2, setX_same h9]
  have heL := s1.2.1
  have hc : setX (setX σ 155 9 (nI e)) 155 8 (nI e) = setX (setX σ 155 8 (nI e)) 155 9 (nI e) := setX_comm (by omega)
  have h8 := Rd_set (j := 8) (v := nI e) h (by decide)
  have h89 := Rd_set (j := 9) (v := nI e) h8 (by decide)
  unfold f_X5_nextToken
  rw [bo_of s2']
  unfold f_X5_nextToken_50 f_X5_nextToken_190
  rw [r_gi, setX_j, r_pi, hc, r_gi, r_gi, h89.2.2.1, setX_j]
  rcases (show e = L ∨ e < L by omega) with y | y
  · rw [if_neg (Int32.not_lt.mpr (nI_le (by omega) (by omega)))]
    exact ⟨0, e, e, ⟨s1, Or.inl ⟨y, rfl, y⟩⟩, rfl⟩
  · have hb := (h.2.2.2.2 e y).2
    rw [if_pos (nI_lt y (by omega)), r_gi, setX_j, bo_of r_rc, bo_of (r_byte h89 (by omega)), if_pos y, r_gi, setX_j, r_pi, setX_set, nI_1]
    by_cases c1 : B e = 59
    · rw [if_pos (show nI (B e) = (59 : Int32) from by rw [c1]; rfl)]
      exact ⟨3, e, e + 1, ⟨s1, Or.inr (Or.inl ⟨y, c1, rfl, rfl⟩)⟩, rfl⟩
    · rw [if_neg (show ¬ nI (B e) = (59 : Int32) from fun z => c1 ((nI_eq (b := 59) (by omega) (by decide)).mp z)), bo_of (r_let hb _), ite_b, bo_of (r_dig hb _), ite_b]
      by_cases c2 : isLe (B e)
      · obtain ⟨e2, u1, u2⟩ := r_lets h8 (show e + 1 ≤ L by omega)
        rw [ci_t c2, bo_of u2]
        exact ⟨1, e, e2, ⟨s1, Or.inr (Or.inr (Or.inl ⟨y, c2, EnR_1 y c2 u1, rfl⟩))⟩, rfl⟩
      · rw [ci_f c2]
        by_cases c3 : isDi (B e)
        · obtain ⟨e2, u1, u2⟩ := r_digs h8 (show e + 1 ≤ L by omega)
          have b1 := u1.1
          have b2 := u1.2.1
          rw [ci_t c3, bo_of u2, r_gi, setX_j, r_gi, setX_n (by decide), setX_j]
          have hsb : nI e2 - nI e = nI (e2 - e) := by
            rw [jI_n e2, jI_n e, jI_n (e2 - e), jI_sub]
            congr 1
            omega
          rw [hsb]
          by_cases d : e2 - e ≤ 2
          · rw [if_neg (show ¬ (2 : Int32) < nI (e2 - e) from Int32.not_lt.mpr (nI_le (b := 2) d (by decide)))]
            exact ⟨2, e, e2, ⟨s1, Or.inr (Or.inr (Or.inr (Or.inl ⟨y, c3, EnR_1 y c3 u1, (if_pos d).symm⟩)))⟩, rfl⟩
          · rw [if_pos (show (2 : Int32) < nI (e2 - e) from nI_lt (a := 2) (by omega) (by omega))]
            exact ⟨4, e, e2, ⟨s1, Or.inr (Or.inr (Or.inr (Or.inl ⟨y, c3, EnR_1 y c3 u1, (if_neg d).symm⟩)))⟩, rfl⟩
        · rw [ci_f c3]
          exact ⟨4, e, e + 1, ⟨s1, Or.inr (Or.inr (Or.inr (Or.inr ⟨y, c1, c2, c3, rfl, rfl⟩)))⟩, rfl⟩
end TOK
