/-! ===== plan: which sets of works can be ===== -/
/-- groups for the works of S below w -/
def DS (s nd : Nat → Nat) (F S : Nat) : Nat → Nat → Prop
  | 0, _ => True
  | w + 1, T => (S.testBit w = true ∧ ∃ G, nsub G T = 0 ∧ nd w ≤ sumN s G F ∧ DS s nd F S w (nsub T G)) ∨ (¬ S.testBit w = true ∧ DS s nd F S w T)
theorem DS_mono {s nd : Nat → Nat} {F S : Nat} : ∀ (w : Nat) {T T' : Nat}, nsub T T' = 0 → DS s nd F S w T → DS s nd F S w T'
  | 0, _, _, _, _ => trivial
  | w + 1, _, _, h, Or.inl ⟨c, G, g1, g2, g3⟩ => Or.inl ⟨c, G, sub_tr g1 h, g2, DS_mono w (sub_mo h) g3⟩
  | w + 1, _, _, h, Or.inr ⟨c, g⟩ => Or.inr ⟨c, DS_mono w h g⟩
theorem DS_c {s nd : Nat → Nat} {F S S' : Nat} : ∀ (w : Nat) {T : Nat}, (∀ i, i < w → S.testBit i = S'.testBit i) → DS s nd F S w T → DS s nd F S' w T
  | 0, _, _, _ => trivial
  | w + 1, _, h, Or.inl ⟨c, G, g1, g2, g3⟩ => Or.inl ⟨by rw [← h w (by omega)]; exact c, G, g1, g2, DS_c w (fun i hi => h i (by omega)) g3⟩
  | w + 1, _, h, Or.inr ⟨c, g⟩ => Or.inr ⟨by rw [← h w (by omega)]; exact c, DS_c w (fun i hi => h i (by omega)) g⟩
theorem Dk_c {s nd nd' : Nat → Nat} {F : Nat} : ∀ (a : Nat) {T : Nat}, (∀ i, i < a → nd i = nd' i) → Dk s nd F a T → Dk s nd' F a T
  | 0, _, _, _ => trivial
  | a + 1, _, h, ⟨G, g1, g2, g3⟩ => ⟨G, g1, by rw [← h a (by omega)]; exact g2, Dk_c a (fun i hi => h i (by omega)) g3⟩
theorem DS_Dk {s nd : Nat → Nat} {F S : Nat} : ∀ (w T : Nat), DS s nd F S w T ↔ Dk s (fun i => nd (whE S w i)) F (popK S w) T
  | 0, T => Iff.rfl
  | w + 1, T => by
    by_cases c : S.testBit w = true
    · rw [popK_t c]
      have hst : ∀ i, i < popK S w → nd (whE S (w + 1) i) = nd (whE S w i) := fun i hi => by rw [whE, ci_f (fun z => by omega)]
      have htop : nd (whE S (w + 1) (popK S w)) = nd w := by rw [whE, ci_t ⟨c, rfl⟩]
      constructor
      · rintro (⟨-, G, g1, g2, g3⟩ | ⟨z, -⟩)
        · exact ⟨G, g1, by show nd (whE S (w + 1) (popK S w)) ≤ _; rw [htop]; exact g2, Dk_c _ (fun i hi => (hst i hi).symm) ((DS_Dk w _).mp g3)⟩
        · exact absurd c z
      · rintro ⟨G, g1, g2, g3⟩
        have g2' : nd (whE S (w + 1) (popK S w)) ≤ sumN s G F := g2
        rw [htop] at g2'
        exact Or.inl ⟨c, G, g1, g2', (DS_Dk w _).mpr (Dk_c _ hst g3)⟩
    · rw [popK_n c]
      have hst : ∀ i, i < popK S w → nd (whE S (w + 1) i) = nd (whE S w i) := fun i hi => by rw [whE, ci_f (fun z => c z.1)]
      constructor
      · rintro (⟨z, -⟩ | ⟨-, g⟩)
        · exact absurd z c
        · exact Dk_c _ (fun i hi => (hst i hi).symm) ((DS_Dk w T).mp g)
      · intro g
        exact Or.inr ⟨c, (DS_Dk w T).mpr (Dk_c _ hst g)⟩
/-- just enough: none of them is too many -/
def jst (s : Nat → Nat) (F need M : Nat) : Prop := need ≤ sumN s M F ∧ ∀ f, f < F → M.testBit f = true → sumN s (nsub M (2 ^ f)) F < need
theorem jst_ex {s : Nat → Nat} {F need : Nat} : ∀ (m G : Nat), G < m → need ≤ sumN s G F → ∃ M, nsub M G = 0 ∧ jst s F need M
  | 0, G, h, _ => absurd h (Nat.not_lt_zero G)
  | m + 1, G, h, hG => by
    by_cases c : jst s F need G
    · exact ⟨G, sub_0.mpr (fun _ z => z), c⟩
    · have : ∃ f, f < F ∧ G.testBit f = true ∧ need ≤ sumN s (nsub G (2 ^ f)) F := by
        apply Classical.byContradiction
        intro z
        apply c
        refine ⟨hG, fun f h1 h2 => ?_⟩
        apply Classical.byContradiction
        intro y
        exact z ⟨f, h1, h2, by omega⟩
      obtain ⟨f, h1, h2, h3⟩ := this
      have hlt := nsub_lt h2
      obtain ⟨M, m1, m2⟩ := jst_ex m (nsub G (2 ^ f)) (by omega) h3
      exact ⟨M, sub_tr m1 (sub_of _ _), m2⟩
/-- the works of S below w can be by just U -/
def Cb (s nd : Nat → Nat) (F : Nat) : Nat → Nat → Nat → Prop
  | 0, S, U => S = 0 ∧ U = 0
  | w + 1, S, U => (S.testBit w = true ∧ ∃ V M, Cb s nd F w (nsub S (2 ^ w)) V ∧ nsub M (nsub (2 ^ F - 1) V) = 0 ∧ ¬ M = 0 ∧ jst s F (nd w) M ∧ U = V ||| M) ∨ (¬ S.testBit w = true ∧ Cb s nd F w S U)
theorem orTB {a b i : Nat} : (a ||| b).testBit i = true ↔ a.testBit i = true ∨ b.testBit i = true := by
  rw [Nat.testBit_or]
  cases a.testBit i <;> cases b.testBit i <;> simp
theorem Cb_lt {s nd : Nat → Nat} {F : Nat} : ∀ (w S U : Nat), Cb s nd F w S U → S < 2 ^ w ∧ U < 2 ^ F
  | 0, S, U, ⟨h1, h2⟩ => by subst h1; subst h2; exact ⟨Nat.one_pos, Nat.two_pow_pos F⟩
  | w + 1, S, U, Or.inl ⟨c, V, M, h1, h2, h3, h4, h5⟩ => by
    obtain ⟨k1, k2⟩ := Cb_lt w _ _ h1
    have hM : M < 2 ^ F := sub_lt (sub_tr h2 (sub_of _ _)) (by have := Nat.two_pow_pos F; omega)
    refine ⟨?_, by rw [h5]; exact or_lt k2 hM⟩
    have hp : 2 ^ (w + 1) = 2 ^ w * 2 := Nat.pow_succ 2 w
    have : S = nsub S (2 ^ w) ||| 2 ^ w := by
      apply Nat.eq_of_testBit_eq
      intro i
      cases e1 : S.testBit i
      · cases e2 : (nsub S (2 ^ w) ||| 2 ^ w).testBit i
        · rfl
        · rcases orTB.mp e2 with z | z
          · rw [(rm_tb.mp z).1] at e1; cases e1
          · rw [tb_pow] at z
            have : w = i := of_decide_eq_true z
            rw [← this, c] at e1; cases e1
      · symm
        by_cases d : i = w
        · exact orTB.mpr (Or.inr (by rw [tb_pow, d]; simp))
        · exact orTB.mpr (Or.inl (rm_tb.mpr ⟨e1, d⟩))
    rw [this]
    exact or_lt (by omega) (by omega)
  | w + 1, S, U, Or.inr ⟨c, h⟩ => by
    obtain ⟨k1, k2⟩ := Cb_lt w _ _ h
    have hp : 2 ^ (w + 1) = 2 ^ w * 2 := Nat.pow_succ 2 w
    exact ⟨by omega, k2⟩
theorem Cb_DS {s nd : Nat → Nat} {F : Nat} : ∀ (w S U : Nat), Cb s nd F w S U → DS s nd F S w U
  | 0, _, _, _ => trivial
  | w + 1, S, U, Or.inl ⟨c, V, M, h1, h2, h3, h4, h5⟩ => by
    refine Or.inl ⟨c, M, ?_, h4.1, ?_⟩
    · rw [h5]; exact sub_0.mpr (fun i hi => orTB.mpr (Or.inr hi))
    · refine DS_mono w ?_ (DS_c w (fun i hi => ?_) (Cb_DS w _ _ h1))
      · rw [h5]
        exact sub_0.mpr (fun i hi => sub_tb.mpr ⟨orTB.mpr (Or.inl hi), fun z => (sub_tb.mp (sub_0.mp h2 i z)).2 hi⟩)
      · have hne : ¬ i = w := by omega
        cases e : S.testBit i
        · cases e2 : (nsub S (2 ^ w)).testBit i
          · rfl
          · rw [(rm_tb.mp e2).1] at e; cases e
        · exact rm_tb.mpr ⟨e, hne⟩
  | w + 1, S, U, Or.inr ⟨c, h⟩ => Or.inr ⟨c, Cb_DS w _ _ h⟩
theorem all_tb {F i : Nat} : (2 ^ F - 1).testBit i = true ↔ i < F := by
  rw [Nat.testBit_two_pow_sub_one]
  simp
theorem DS_Cb {s nd : Nat → Nat} {F : Nat} : ∀ (w S T : Nat), (∀ v, v < w → 1 ≤ nd v) → S < 2 ^ w → T < 2 ^ F → DS s nd F S w T → ∃ U, nsub U T = 0 ∧ Cb s nd F w S U
  | 0, S, T, _, hS, _, _ => ⟨0, sub_z T, by have : S < 1 := hS; omega, rfl⟩
  | w + 1, S, T, hn, hS, hT, Or.inl ⟨c, G, g1, g2, g3⟩ => by
    have hp : 2 ^ (w + 1) = 2 ^ w * 2 := Nat.pow_succ 2 w
    have hS' : nsub S (2 ^ w) < 2 ^ w := by
      apply Nat.lt_pow_two_of_testBit
      intro i hi
      cases e : (nsub S (2 ^ w)).testBit i
      · rfl
      · obtain ⟨p1, p2⟩ := rm_tb.mp e
        have := tb_lt hS p1
        omega
    have hlo : ∀ i, i < w → S.testBit i = (nsub S (2 ^ w)).testBit i := by
      intro i hi
      have hne : ¬ i = w := by omega
      cases e : S.testBit i
      · cases e2 : (nsub S (2 ^ w)).testBit i
        · rfl
        · rw [(rm_tb.mp e2).1] at e; cases e
      · exact (rm_tb.mpr ⟨e, hne⟩).symm
    obtain ⟨M, m1, m2⟩ := jst_ex (s := s) (F := F) (need := nd w) (G + 1) G (by omega) g2
    obtain ⟨V, v1, v2⟩ := DS_Cb w (nsub S (2 ^ w)) (nsub T G) (fun v hv => hn v (by omega)) hS' (Nat.lt_of_le_of_lt (nsub_le _ _) hT) (DS_c w hlo g3)
    have hM0 : ¬ M = 0 := by
      intro z
      have h1 := m2.1
      have h2 := hn w (by omega)
      rw [z, sumN_z] at h1
      omega
    refine ⟨V ||| M, sub_0.mpr (fun i hi => ?_), Or.inl ⟨c, V, M, v2, sub_0.mpr (fun i hi => ?_), hM0, m2, rfl⟩⟩
    · rcases orTB.mp hi with z | z
      · exact (sub_tb.mp (sub_0.mp v1 i z)).1
      · exact sub_0.mp g1 i (sub_0.mp m1 i z)
    · have hiG := sub_0.mp m1 i hi
      exact sub_tb.mpr ⟨all_tb.mpr (tb_lt hT (sub_0.mp g1 i hiG)), fun z => (sub_tb.mp (sub_0.mp v1 i z)).2 hiG⟩
  | w + 1, S, T, hn, hS, hT, Or.inr ⟨c, g⟩ => by
    have hS' : S < 2 ^ w := by
      apply Nat.lt_pow_two_of_testBit
      intro i hi
      cases e : S.testBit i
      · rfl
      · have := tb_lt hS e
        have : i = w := by omega
        rw [this] at e
        exact absurd e c
    obtain ⟨U, u1, u2⟩ := DS_Cb w S T (fun v hv => hn v (by omega)) hS' hT g
    exact ⟨U, u1, Or.inr ⟨c, u2⟩⟩
/-- together they need no more than there is -/
theorem DS_sum {s nd : Nat → Nat} {F S : Nat} : ∀ (w T : Nat), DS s nd F S w T → sumN nd S w ≤ sumN s T F
  | 0, _, _ => Nat.zero_le _
  | w + 1, T, Or.inl ⟨c, G, g1, g2, g3⟩ => by
    have h1 := DS_sum w _ g3
    have h2 : sumN s G F + sumN s (nsub T G) F = sumN s T F := by
      have : ∀ n, sumN s G n + sumN s (nsub T G) n = sumN s T n := by
        intro n
        induction n with
        | zero => rfl
        | succ n ih =>
          rw [sumN, sumN, sumN, ← ih]
          by_cases d : G.testBit n = true
          · rw [if_pos d, if_neg (fun z => (sub_tb.mp z).2 d), if_pos (sub_0.mp g1 n d)]; omega
          · rw [if_neg d]
            by_cases e : T.testBit n = true
            · rw [if_pos e, if_pos (sub_tb.mpr ⟨e, d⟩)]; omega
            · rw [if_neg e, if_neg (fun z => e (sub_tb.mp z).1)]; omega
      exact this F
    rw [sumN, if_pos c]
    omega
  | w + 1, T, Or.inr ⟨c, g⟩ => by
    have h1 := DS_sum w _ g
    rw [sumN, if_neg c]
    omega
/-- by hands: if each group for w has at least hd w in it -/
theorem DS_hd {s nd hd : Nat → Nat} {F S : Nat} : ∀ (w T : Nat), (∀ v, v < w → ∀ G, nsub G T = 0 → nd v ≤ sumN s G F → hd v ≤ popK G F) → DS s nd F S w T → DS (fun _ => 1) hd F S w T
  | 0, _, _, _ => trivial
  | w + 1, T, h, Or.inl ⟨c, G, g1, g2, g3⟩ => Or.inl ⟨c, G, g1, by rw [← popK_sum]; exact h w (by omega) G g1 g2, DS_hd w _ (fun v hv G' h1 h2 => h v (by omega) G' (sub_tr h1 (sub_of _ _)) h2) g3⟩
  | w + 1, T, h, Or.inr ⟨c, g⟩ => Or.inr ⟨c, DS_hd w T (fun v hv G' h1 h2 => h v (by omega) G' h1 h2) g⟩
