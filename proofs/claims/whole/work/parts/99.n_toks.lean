/-! ===== text: tokens as functions of the place ===== -/
theorem EnR_ex {P : Nat → Prop} {L : Nat} : ∀ n i, n = L - i → i ≤ L → ∃ e, EnR P L i e
  | 0, i, hn, hi => ⟨i, Nat.le_refl _, hi, fun k h1 h2 => by omega, Or.inl (by omega)⟩
  | n + 1, i, hn, hi => by
    by_cases c : P i
    · obtain ⟨e, h⟩ := EnR_ex (P := P) (L := L) n (i + 1) (by omega) (by omega)
      exact ⟨e, EnR_1 (by omega) c h⟩
    · exact ⟨i, Nat.le_refl _, hi, fun k h1 h2 => by omega, Or.inr c⟩
theorem Tk_ex {B : Nat → Nat} {L i : Nat} (hi : i ≤ L) : ∃ t e e2, Tk B L i t e e2 := by
  obtain ⟨e, h1⟩ := EnR_ex (P := fun k => isSp (B k)) (L := L) _ i rfl hi
  have h2 := h1.2.1
  rcases (show e = L ∨ e < L by omega) with y | y
  · exact ⟨0, e, L, h1, Or.inl ⟨y, rfl, rfl⟩⟩
  · by_cases c1 : B e = 59
    · exact ⟨3, e, e + 1, h1, Or.inr (Or.inl ⟨y, c1, rfl, rfl⟩)⟩
    · by_cases c2 : isLe (B e)
      · obtain ⟨e2, h3⟩ := EnR_ex (P := fun k => isLe (B k)) (L := L) _ e rfl h2
        exact ⟨1, e, e2, h1, Or.inr (Or.inr (Or.inl ⟨y, c2, h3, rfl⟩))⟩
      · by_cases c3 : isDi (B e)
        · obtain ⟨e2, h3⟩ := EnR_ex (P := fun k => isDi (B k)) (L := L) _ e rfl h2
          exact ⟨_, e, e2, h1, Or.inr (Or.inr (Or.inr (Or.inl ⟨y, c3, h3, rfl⟩)))⟩
        · exact ⟨4, e, e + 1, h1, Or.inr (Or.inr (Or.inr (Or.inr ⟨y, c1, c2, c3, rfl, rfl⟩)))⟩
theorem Tk_u {B : Nat → Nat} {L i t e e2 t' e' e2' : Nat} (h : Tk B L i t e e2) (h' : Tk B L i t' e' e2') : t = t' ∧ e = e' ∧ e2 = e2' := by
  obtain ⟨h1, h2⟩ := h
  obtain ⟨h1', h2'⟩ := h'
  have he := EnR_u h1 h1'
  subst he
  rcases h2 with ⟨a, b, c⟩ | ⟨a, b, c, d⟩ | ⟨a, b, c, d⟩ | ⟨a, b, c, d⟩ | ⟨a, b, c, d, f, g⟩ <;> rcases h2' with ⟨a', b', c'⟩ | ⟨a', b', c', d'⟩ | ⟨a', b', c', d'⟩ | ⟨a', b', c', d'⟩ | ⟨a', b', c', d', f', g'⟩
  all_goals first | omega | (obtain rfl := EnR_u c c'; exact ⟨d.trans d'.symm, rfl, rfl⟩) | (simp only [isLe, isDi] at *; omega)
noncomputable def tkF (B : Nat → Nat) (L i : Nat) : Nat × Nat × Nat := @dite _ (∃ p : Nat × Nat × Nat, Tk B L i p.1 p.2.1 p.2.2) (Classical.propDecidable _) (fun h => Classical.choose h) (fun _ => (0, 0, 0))
/-- the token from i on: its kind, its start, its end -/
noncomputable def tT (B : Nat → Nat) (L i : Nat) : Nat := (tkF B L i).1
noncomputable def tS (B : Nat → Nat) (L i : Nat) : Nat := (tkF B L i).2.1
noncomputable def tE (B : Nat → Nat) (L i : Nat) : Nat := (tkF B L i).2.2
section TKS
variable {σ : Dt} {B : Nat → Nat} {L i : Nat}
theorem tk_ok (hi : i ≤ L) : Tk B L i (tT B L i) (tS B L i) (tE B L i) := by
  obtain ⟨t, e, e2, h⟩ := Tk_ex (B := B) hi
  have hx : ∃ p : Nat × Nat × Nat, Tk B L i p.1 p.2.1 p.2.2 := ⟨(t, e, e2), h⟩
  have e : tkF B L i = Classical.choose hx := dif_pos hx
  unfold tT tS tE
  rw [e]
  exact Classical.choose_spec hx
theorem tk_b (hi : i ≤ L) : i ≤ tS B L i ∧ tS B L i ≤ tE B L i ∧ tE B L i ≤ L ∧ tT B L i ≤ 4 := Tk_b (tk_ok hi)
theorem EnR_p {P : Nat → Prop} {e e2 : Nat} (h : EnR P L e e2) (he : e < L) (hP : P e) : e < e2 := by
  obtain ⟨a, b, c, d⟩ := h
  rcases (show e = e2 ∨ e < e2 by omega) with y | y
  · subst y
    rcases d with z | z
    · omega
    · exact absurd hP z
  · exact y
theorem tk_lt (hi : i ≤ L) (ht : ¬ tT B L i = 0) : tS B L i < tE B L i := by
  have h := (tk_ok (B := B) hi).2
  generalize tT B L i = t at *
  generalize tS B L i = e at *
  generalize tE B L i = e2 at *
  rcases h with ⟨a, b, c⟩ | ⟨a, b, c, d⟩ | ⟨a, b, c, d⟩ | ⟨a, b, c, d⟩ | ⟨a, b, c, d, f, g⟩
  · exact absurd b ht
  · omega
  · exact EnR_p c a b
  · exact EnR_p c a b
  · omega
theorem tk_end (hi : i ≤ L) (ht : tT B L i = 0) : tS B L i = L := by
  have h := (tk_ok (B := B) hi).2
  generalize tT B L i = t at *
  generalize tS B L i = e at *
  generalize tE B L i = e2 at *
  rcases h with ⟨a, b, c⟩ | ⟨a, b, c, d⟩ | ⟨a, b, c, d⟩ | ⟨a, b, c, d⟩ | ⟨a, b, c, d, f, g⟩
  · exact a
  · omega
  · omega
  · by_cases z : e2 - e ≤ 2
    · rw [if_pos z] at d; omega
    · rw [if_neg z] at d; omega
  · omega
theorem tk_let (hi : i ≤ L) (ht : tT B L i = 1) : ∀ k, tS B L i ≤ k → k < tE B L i → isLe (B k) := by
  have h := (tk_ok (B := B) hi).2
  generalize tT B L i = t at *
  generalize tS B L i = e at *
  generalize tE B L i = e2 at *
  rcases h with ⟨a, b, c⟩ | ⟨a, b, c, d⟩ | ⟨a, b, c, d⟩ | ⟨a, b, c, d⟩ | ⟨a, b, c, d, f, g⟩
  · omega
  · omega
  · exact c.2.2.1
  · by_cases z : e2 - e ≤ 2
    · rw [if_pos z] at d; omega
    · rw [if_neg z] at d; omega
  · omega
theorem tk_dig (hi : i ≤ L) (ht : tT B L i = 2) : tE B L i - tS B L i ≤ 2 ∧ ∀ k, tS B L i ≤ k → k < tE B L i → isDi (B k) := by
  have h := (tk_ok (B := B) hi).2
  generalize tT B L i = t at *
  generalize tS B L i = e at *
  generalize tE B L i = e2 at *
  rcases h with ⟨a, b, c⟩ | ⟨a, b, c, d⟩ | ⟨a, b, c, d⟩ | ⟨a, b, c, d⟩ | ⟨a, b, c, d, f, g⟩
  · omega
  · omega
  · omega
  · by_cases z : e2 - e ≤ 2
    · exact ⟨z, c.2.2.1⟩
    · rw [if_neg z] at d; omega
  · omega
/-- the number that is told there -/
noncomputable def nv (B : Nat → Nat) (L i : Nat) : Nat := nuB B (tS B L i) (tE B L i - tS B L i)
theorem nv_le (hi : i ≤ L) (ht : tT B L i = 2) : nv B L i ≤ 99 := by
  obtain ⟨h1, h2⟩ := tk_dig hi ht
  have h3 := tk_lt (B := B) hi (by omega)
  unfold nv
  rcases (show tE B L i - tS B L i = 1 ∨ tE B L i - tS B L i = 2 by omega) with y | y
  · rw [y]
    have := (h2 (tS B L i) (by omega) (by omega)).2
    show B (tS B L i) - 48 ≤ 99
    omega
  · rw [y]
    have := (h2 (tS B L i) (by omega) (by omega)).2
    have := (h2 (tS B L i + 1) (by omega) (by omega)).2
    show 10 * (B (tS B L i) - 48) + (B (tS B L i + 1) - 48) ≤ 99
    omega
theorem x_tok (h : Rd σ B L) (hi : i ≤ L) (h9 : σ.1 155 9 = nI i) : f_X5_nextToken 155 σ = some (nI (tT B L i), setX (setX σ 155 8 (nI (tS B L i))) 155 9 (nI (tE B L i))) := by
  obtain ⟨t, e, e2, h1, h2⟩ := x_token h hi h9
  obtain ⟨rfl, rfl, rfl⟩ := Tk_u h1 (tk_ok hi)
  exact h2
theorem m_tok (h : Rq σ B L) (hi : i ≤ L) (h3 : σ.1 0 3 = nI i) : ∃ τ, f_X12_advance 0 σ = some ((), τ) ∧ KT σ τ ∧ TkM τ B (tT B L i) (tS B L i) (tE B L i) := by
  obtain ⟨t, e, e2, τ, h1, h2, h3, h4⟩ := m_token h hi h3
  obtain ⟨rfl, rfl, rfl⟩ := Tk_u h1 (tk_ok hi)
  exact ⟨τ, h2, h3, h4⟩
end TKS
/-- the places of the tokens behind one another -/
noncomputable def pz (B : Nat → Nat) (L i : Nat) : Nat → Nat
  | 0 => i
  | j + 1 => tE B L (pz B L i j)
theorem pz_le {B : Nat → Nat} {L i : Nat} (hi : i ≤ L) : ∀ j, pz B L i j ≤ L
  | 0 => hi
  | j + 1 => (tk_b (pz_le hi j)).2.2.1
/-! ===== text: kinds of lines ===== -/
def cdT (t : Nat) : Nat := ([10, 11, 1, 2, 3, 4, 5, 6, 7, 8, 9] : List Nat).getD t 0
def nmW (c : Nat) : Nat := ([0, 212363, 3417476, 769611, 2610628, 17800013413, 81486, 3659954, 4389, 824370, 26379859, 4775] : List Nat).getD c 0
theorem cd_ok : ∀ t, t < 11 → cvN (wlT t) (lnT' t) = nmW (cdT t) ∧ wdN (nmW (cdT t)) = cdT t ∧ ¬ cdT t = 99 := by decide +kernel
theorem wdN_inv {v c : Nat} (h : wdN v = c) (hc : ¬ c = 99) : v = nmW c := by
  unfold wdN at h
  by_cases c1 : v = 212363
  · rw [if_pos c1] at h; subst h; exact c1
  rw [if_neg c1] at h
  by_cases c2 : v = 3417476
  · rw [if_pos c2] at h; subst h; exact c2
  rw [if_neg c2] at h
  by_cases c3 : v = 769611
  · rw [if_pos c3] at h; subst h; exact c3
  rw [if_neg c3] at h
  by_cases c4 : v = 2610628
  · rw [if_pos c4] at h; subst h; exact c4
  rw [if_neg c4] at h
  by_cases c5 : v = 17800013413
  · rw [if_pos c5] at h; subst h; exact c5
  rw [if_neg c5] at h
  by_cases c6 : v = 81486
  · rw [if_pos c6] at h; subst h; exact c6
  rw [if_neg c6] at h
  by_cases c7 : v = 3659954
  · rw [if_pos c7] at h; subst h; exact c7
  rw [if_neg c7] at h
  by_cases c8 : v = 4389
  · rw [if_pos c8] at h; subst h; exact c8
  rw [if_neg c8] at h
  by_cases c9 : v = 824370
  · rw [if_pos c9] at h; subst h; exact c9
  rw [if_neg c9] at h
  by_cases c10 : v = 26379859
  · rw [if_pos c10] at h; subst h; exact c10
  rw [if_neg c10] at h
  by_cases c11 : v = 4775
  · rw [if_pos c11] at h; subst h; exact c11
  rw [if_neg c11] at h
  exact absurd h.symm hc
theorem wc_iff {B : Nat → Nat} {e e2 t : Nat} (he : e ≤ e2) (hB : ∀ k, e ≤ k → k < e2 → isLe (B k)) (ht : t < 11) : (e2 - e = lnT' t ∧ ∀ k, k < lnT' t → B (e + k) = 96 + wlT t k) ↔ wcN B e e2 = cdT t := by
  obtain ⟨w1, -, w3⟩ := wl_f t ht
  obtain ⟨d1, d2, d3⟩ := cd_ok t ht
  unfold wcN
  by_cases c : e2 - e ≤ 8
  · rw [if_pos c]
    have key := leV_eq (B := B) (w := wlT t) (e := e) (e2 - e) (lnT' t) c w1 (fun k hk => hB (e + k) (by omega) (by omega)) (fun k hk => (w3 k hk).2)
    rw [← key, d1]
    exact ⟨fun z => by rw [z]; exact d2, fun z => wdN_inv z d3⟩
  · rw [if_neg c]
    exact ⟨fun z => absurd z.1 (by omega), fun z => absurd z.symm d3⟩
def loW (s : Nat) : Nat := if s = 0 then 1 else if s = 1 then 5 else 10
def hiW (s : Nat) : Nat := if s = 0 then 4 else if s = 1 then 9 else 11
def kdN (s w : Nat) : Nat := if loW s ≤ w ∧ w ≤ hiW s then w - loW s else 9
def kdI (k : Nat) : Int32 := if k = 9 then -1 else nI k
theorem x_kind {σ : Dt} {B : Nat → Nat} {L e e2 s : Nat} (h : Rd σ B L) (hs : s < 3) (h7 : σ.1 155 7 = nI s) (h8 : σ.1 155 8 = nI e) (h9 : σ.1 155 9 = nI e2) (he : e ≤ e2) (hL2 : e2 ≤ L) (hB : ∀ k, e ≤ k → k < e2 → isLe (B k)) : f_X5_kindOfLine 155 σ = some (kdI (kdN s (wcN B e e2))) := by
  have q : ∀ t, t < 11 → f_X5_isWord 155 t σ = some (bI (wcN B e e2 = cdT t)) := fun t ht => by
    rw [x_isWord h h8 h9 he hL2 ht, propext (wc_iff he hB ht)]
  generalize wcN B e e2 = w at q ⊢
  have q0 : f_X5_isWord 155 0 σ = some (bI (w = 10)) := q 0 (by decide)
  have q1 : f_X5_isWord 155 1 σ = some (bI (w = 11)) := q 1 (by decide)
  have q2 : f_X5_isWord 155 2 σ = some (bI (w = 1)) := q 2 (by decide)
  have q3 : f_X5_isWord 155 3 σ = some (bI (w = 2)) := q 3 (by decide)
  have q4 : f_X5_isWord 155 4 σ = some (bI (w = 3)) := q 4 (by decide)
  have q5 : f_X5_isWord 155 5 σ = some (bI (w = 4)) := q 5 (by decide)
  have q6 : f_X5_isWord 155 6 σ = some (bI (w = 5)) := q 6 (by decide)
  have q7 : f_X5_isWord 155 7 σ = some (bI (w = 6)) := q 7 (by decide)
  have q8 : f_X5_isWord 155 8 σ = some (bI (w = 7)) := q 8 (by decide)
  have q9 : f_X5_isWord 155 9 σ = some (bI (w = 8)) := q 9 (by decide)
  have q10 : f_X5_isWord 155 10 σ = some (bI (w = 9)) := q 10 (by decide)
  unfold f_X5_kindOfLine
  simp only [r_gi, h7, bo_of r_rc]
  rcases (show s = 0 ∨ s = 1 ∨ s = 2 by omega) with rfl | rfl | rfl
  · rw [if_pos (by decide)]
    unfold f_X5_kindOfValleyLine
    simp only [bo_of r_rc, bo_of q2, bo_of q3, bo_of q4, bo_of q5, ite_b]
    by_cases c1 : w = 1
    · rw [ci_t c1, c1]; rfl
    rw [ci_f c1]
    by_cases c2 : w = 2
    · rw [ci_t c2, c2]; rfl
    rw [ci_f c2]
    by_cases c3 : w = 3
    · rw [ci_t c3, c3]; rfl
    rw [ci_f c3]
    by_cases c4 : w = 4
    · rw [ci_t c4, c4]; rfl
    rw [ci_f c4, show kdN 0 w = 9 from if_neg (fun z => by have z1 : 1 ≤ w := z.1; have z2 : w ≤ 4 := z.2; omega)]
    rfl
  · rw [if_neg (by decide), if_pos (by decide)]
    unfold f_X5_kindOfDeed
    simp only [bo_of r_rc, bo_of q6, bo_of q7, bo_of q8, bo_of q9, bo_of q10, ite_b]
    by_cases c1 : w = 5
    · rw [ci_t c1, c1]; rfl
    rw [ci_f c1]
    by_cases c2 : w = 6
    · rw [ci_t c2, c2]; rfl
    rw [ci_f c2]
    by_cases c3 : w = 7
    · rw [ci_t c3, c3]; rfl
    rw [ci_f c3]
    by_cases c4 : w = 8
    · rw [ci_t c4, c4]; rfl
    rw [ci_f c4]
    by_cases c5 : w = 9
    · rw [ci_t c5, c5]; rfl
    rw [ci_f c5, show kdN 1 w = 9 from if_neg (fun z => by have z1 : 5 ≤ w := z.1; have z2 : w ≤ 9 := z.2; omega)]
    rfl
  · rw [if_neg (by decide), if_neg (by decide)]
    simp only [bo_of q0, bo_of q1, ite_b]
    by_cases c1 : w = 10
    · rw [ci_t c1, c1]; rfl
    rw [ci_f c1]
    by_cases c2 : w = 11
    · rw [ci_t c2, c2]; rfl
    rw [ci_f c2, show kdN 2 w = 9 from if_neg (fun z => by have z1 : 10 ≤ w := z.1; have z2 : w ≤ 11 := z.2; omega)]
    rfl
def nmS (s k : Nat) : Nat := if s = 0 then (if k = 3 then 1 else 2) else if s = 2 then (if k = 0 then 1 else 2) else (if k = 0 then 3 else if k = 1 then 2 else if k = 4 then 0 else 1)
theorem nmS_le (s k : Nat) : nmS s k ≤ 3 := by
  unfold nmS
  repeat (first | omega | split)
theorem kdN_le {s w : Nat} (h : ¬ kdN s w = 9) : kdN s w ≤ 4 := by
  unfold kdN at *
  by_cases c : loW s ≤ w ∧ w ≤ hiW s
  · rw [if_pos c]
    have := c.2
    have : hiW s ≤ loW s + 4 := by
      unfold hiW loW
      repeat (first | omega | split)
    omega
  · exact absurd (if_neg c) h
theorem x_nmS {σ : Dt} {s k : Nat} (hs : s < 3) (hk : k ≤ 4) (h7 : σ.1 155 7 = nI s) : f_X5_numbersOf 155 (nI k) σ = some (nI (nmS s k)) := by
  unfold f_X5_numbersOf
  simp only [r_gi, h7]
  rcases (show s = 0 ∨ s = 1 ∨ s = 2 by omega) with rfl | rfl | rfl <;> rcases (show k = 0 ∨ k = 1 ∨ k = 2 ∨ k = 3 ∨ k = 4 by omega) with rfl | rfl | rfl | rfl | rfl <;> rfl
