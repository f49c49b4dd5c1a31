/-! ===== plan: groups, and the digging one behind the other ===== -/
theorem sub_tr {a b c : Nat} (h1 : nsub a b = 0) (h2 : nsub b c = 0) : nsub a c = 0 := sub_0.mpr (fun i hi => sub_0.mp h2 i (sub_0.mp h1 i hi))
theorem sub_z (a : Nat) : nsub 0 a = 0 := sub_0.mpr (fun i hi => by rw [Nat.zero_testBit] at hi; cases hi)
theorem sub_of (a b : Nat) : nsub (nsub a b) a = 0 := sub_0.mpr (fun i hi => (sub_tb.mp hi).1)
theorem sub_mo {a b c : Nat} (h : nsub a b = 0) : nsub (nsub a c) (nsub b c) = 0 := sub_0.mpr (fun i hi => sub_tb.mpr ⟨sub_0.mp h i (sub_tb.mp hi).1, (sub_tb.mp hi).2⟩)
theorem sub_lt {a b F : Nat} (h : nsub a b = 0) (hb : b < 2 ^ F) : a < 2 ^ F := by
  have := Nat.le_of_testBit (n := a) (m := b) (fun j hj => sub_0.mp h j hj)
  omega
theorem ne_bit {a : Nat} (h : ¬ a = 0) : ∃ i, a.testBit i = true := by
  apply Classical.byContradiction
  intro z
  apply h
  apply Nat.eq_of_testBit_eq
  intro i
  rw [Nat.zero_testBit]
  cases e : a.testBit i
  · rfl
  · exact absurd ⟨i, e⟩ z
theorem sumN_z {f : Nat → Nat} : ∀ n, sumN f 0 n = 0
  | 0 => rfl
  | n + 1 => by rw [sumN, sumN_z n, Nat.zero_testBit]; rfl
theorem rm_tb {a f i : Nat} : (nsub a (2 ^ f)).testBit i = true ↔ a.testBit i = true ∧ ¬ i = f := by
  rw [sub_tb, tb_pow]
  constructor
  · rintro ⟨h1, h2⟩
    exact ⟨h1, fun z => h2 (by simp [z])⟩
  · rintro ⟨h1, h2⟩
    exact ⟨h1, fun z => h2 (of_decide_eq_true z).symm⟩
theorem sumN_rm {s : Nat → Nat} {G f : Nat} (hG : G.testBit f = true) : ∀ n, sumN s G n = sumN s (nsub G (2 ^ f)) n + (if f < n then s f else 0)
  | 0 => rfl
  | n + 1 => by
    rw [sumN, sumN, sumN_rm hG n]
    by_cases c : f = n
    · subst c
      rw [if_pos hG, if_neg (fun z => (rm_tb.mp z).2 rfl), if_neg (Nat.lt_irrefl f), if_pos (Nat.lt_succ_self f)]
      try omega
    · by_cases d : G.testBit n = true
      · rw [if_pos d, if_pos (rm_tb.mpr ⟨d, fun z => c z.symm⟩)]
        by_cases e : f < n
        · rw [if_pos e, if_pos (by omega)]; try omega
        · rw [if_neg e, if_neg (by omega)]; try omega
      · rw [if_neg d, if_neg (fun z => d (rm_tb.mp z).1)]
        by_cases e : f < n
        · rw [if_pos e, if_pos (by omega)]; try omega
        · rw [if_neg e, if_neg (by omega)]; try omega
theorem sumN_mono {s : Nat → Nat} {a b : Nat} (h : nsub a b = 0) : ∀ n, sumN s a n ≤ sumN s b n
  | 0 => Nat.le_refl _
  | n + 1 => by
    have := sumN_mono (s := s) h n
    rw [sumN, sumN]
    by_cases c : a.testBit n = true
    · rw [if_pos c, if_pos (sub_0.mp h n c)]; omega
    · rw [if_neg c]; omega
/-- groups of folk, one for each of the first a needs, none in two of them -/
def Dk (s nd : Nat → Nat) (F : Nat) : Nat → Nat → Prop
  | 0, _ => True
  | a + 1, T => ∃ G, nsub G T = 0 ∧ nd a ≤ sumN s G F ∧ Dk s nd F a (nsub T G)
theorem Dk_mono {s nd : Nat → Nat} {F : Nat} : ∀ {a T T' : Nat}, nsub T T' = 0 → Dk s nd F a T → Dk s nd F a T'
  | 0, _, _, _, _ => trivial
  | _ + 1, _, _, h, ⟨G, g1, g2, g3⟩ => ⟨G, sub_tr g1 h, g2, Dk_mono (sub_mo h) g3⟩
def dg (nd : Nat → Nat) (k x s : Nat) : Nat := if x / 64 < k then (if x % 64 + s < nd (x / 64) then x / 64 * 64 + (x % 64 + s) else (x / 64 + 1) * 64) else x
def vd (nd : Nat → Nat) (k x : Nat) : Prop := x / 64 ≤ k ∧ (x / 64 < k → x % 64 < nd (x / 64)) ∧ (x / 64 = k → x % 64 = 0)
theorem dg_le {nd : Nat → Nat} {k x s : Nat} (hv : vd nd k x) : x ≤ dg nd k x s := by
  unfold dg
  by_cases c : x / 64 < k
  · rw [if_pos c]
    by_cases d : x % 64 + s < nd (x / 64)
    · rw [if_pos d]; omega
    · rw [if_neg d]; omega
  · rw [if_neg c]; exact Nat.le_refl _
theorem dg_up {nd : Nat → Nat} {k x s a d S : Nat} (hn : ∀ a, a < k → 1 ≤ nd a ∧ nd a ≤ 64) (hv : vd nd k x) (ha : a < k) (h1 : 64 * a + S ≤ x) (h2 : d ≤ S + s) (h3 : d < nd a) : 64 * a + d ≤ dg nd k x s := by
  have hb := hn a ha
  have hle := dg_le (s := s) hv
  rcases (show a < x / 64 ∨ x / 64 = a by omega) with c | c
  · omega
  · unfold dg
    rw [c, if_pos ha]
    by_cases e : x % 64 + s < nd a
    · rw [if_pos e]; omega
    · rw [if_neg e]; omega
theorem dg_hit {nd : Nat → Nat} {k x s a S : Nat} (hv : vd nd k x) (ha : a < k) (h1 : 64 * a + S ≤ x) (h2 : nd a ≤ S + s) : 64 * (a + 1) ≤ dg nd k x s := by
  have hle := dg_le (s := s) hv
  rcases (show a < x / 64 ∨ x / 64 = a by omega) with c | c
  · omega
  · unfold dg
    rw [c, if_pos ha, if_neg (by omega)]
    omega
section DIG
variable {s nd R : Nat → Nat} {F k : Nat}
theorem dig_s (hn : ∀ a, a < k → 1 ≤ nd a ∧ nd a ≤ 64) (h0 : R 0 = 0) (hR : ∀ T, 0 < T → T < 2 ^ F → R T = 0 ∨ ∃ f, f < F ∧ T.testBit f = true ∧ R T = dg nd k (R (nsub T (2 ^ f))) (s f)) : ∀ (m T : Nat), T < m → T < 2 ^ F → vd nd k (R T) ∧ ∃ G, nsub G T = 0 ∧ Dk s nd F (R T / 64) (nsub T G) ∧ R T % 64 ≤ sumN s G F
  | 0, T, h, _ => absurd h (Nat.not_lt_zero T)
  | m + 1, T, hm, hT => by
    have z0 : vd nd k 0 ∧ ∃ G, nsub G T = 0 ∧ Dk s nd F (0 / 64) (nsub T G) ∧ 0 % 64 ≤ sumN s G F := by
      refine ⟨⟨Nat.zero_le _, fun h => ?_, fun _ => rfl⟩, 0, sub_z T, trivial, Nat.zero_le _⟩
      have := (hn 0 h).1
      show 0 < nd 0
      omega
    by_cases c : T = 0
    · subst c
      rw [h0]
      exact z0
    · rcases hR T (by omega) hT with e | ⟨f, hf, hTf, e⟩
      · rw [e]
        exact z0
      · have hlt := nsub_lt hTf
        obtain ⟨v1, G, g1, g2, g3⟩ := dig_s hn h0 hR m (nsub T (2 ^ f)) (by omega) (by omega)
        rw [e]
        generalize R (nsub T (2 ^ f)) = x at *
        have hGf : ¬ G.testBit f = true := fun z => (rm_tb.mp (sub_0.mp g1 f z)).2 rfl
        have hor : (G ||| 2 ^ f).testBit f = true := by rw [Nat.testBit_or, tb_pow]; simp
        have hob : ∀ i, (G ||| 2 ^ f).testBit i = true ↔ G.testBit i = true ∨ i = f := by
          intro i
          rw [Nat.testBit_or, tb_pow]
          constructor
          · intro z
            by_cases c : f = i
            · exact Or.inr c.symm
            · rw [decide_eq_false c, Bool.or_false] at z
              exact Or.inl z
          · rintro (z | z)
            · rw [z]; rfl
            · rw [z]; simp
        have hGT : nsub (G ||| 2 ^ f) T = 0 := sub_0.mpr (fun i hi => ((hob i).mp hi).elim (fun z => (rm_tb.mp (sub_0.mp g1 i z)).1) (fun z => z ▸ hTf))
        have hrm : nsub (G ||| 2 ^ f) (2 ^ f) = G := by
          apply Nat.eq_of_testBit_eq
          intro i
          cases e1 : G.testBit i
          · cases e2 : (nsub (G ||| 2 ^ f) (2 ^ f)).testBit i
            · rfl
            · obtain ⟨p1, p2⟩ := rm_tb.mp e2
              rcases (hob i).mp p1 with y | y
              · rw [e1] at y; cases y
              · exact absurd y p2
          · exact rm_tb.mpr ⟨(hob i).mpr (Or.inl e1), fun z => hGf (z ▸ e1)⟩
        have hsum := sumN_rm (s := s) hor F
        rw [hrm, if_pos hf] at hsum
        have hsub : nsub (nsub (nsub T (2 ^ f)) G) (nsub T (G ||| 2 ^ f)) = 0 := sub_0.mpr (fun i hi => by
          obtain ⟨p1, p2⟩ := sub_tb.mp hi
          obtain ⟨p3, p4⟩ := rm_tb.mp p1
          exact sub_tb.mpr ⟨p3, fun z => ((hob i).mp z).elim p2 p4⟩)
        unfold dg
        by_cases c1 : x / 64 < k
        · have hb := hn _ c1
          rw [if_pos c1]
          by_cases c2 : x % 64 + s f < nd (x / 64)
          · rw [if_pos c2]
            have q1 : (x / 64 * 64 + (x % 64 + s f)) / 64 = x / 64 := by omega
            have q2 : (x / 64 * 64 + (x % 64 + s f)) % 64 = x % 64 + s f := by omega
            unfold vd
            rw [q1, q2]
            exact ⟨⟨by omega, fun _ => c2, fun z => by omega⟩, G ||| 2 ^ f, hGT, Dk_mono hsub g2, by omega⟩
          · rw [if_neg c2]
            have q1 : (x / 64 + 1) * 64 / 64 = x / 64 + 1 := by omega
            have q2 : (x / 64 + 1) * 64 % 64 = 0 := by omega
            unfold vd
            rw [q1, q2]
            refine ⟨⟨by omega, fun z => (hn _ z).1, fun _ => rfl⟩, 0, sub_z T, ?_, Nat.zero_le _⟩
            rw [nsub_0]
            exact ⟨G ||| 2 ^ f, hGT, by omega, Dk_mono hsub g2⟩
        · rw [if_neg c1]
          exact ⟨v1, G, sub_tr g1 (sub_of _ _), Dk_mono (sub_mo (sub_of _ _)) g2, g3⟩
theorem dig_c (hn : ∀ a, a < k → 1 ≤ nd a ∧ nd a ≤ 64) (hV : ∀ T, T < 2 ^ F → vd nd k (R T)) (hR : ∀ T f, 0 < T → T < 2 ^ F → f < F → T.testBit f = true → dg nd k (R (nsub T (2 ^ f))) (s f) ≤ R T) : ∀ (m T : Nat), T < m → T < 2 ^ F → ∀ a d G, (a < k ∧ d < nd a) ∨ (a = k ∧ d = 0) → nsub G T = 0 → Dk s nd F a (nsub T G) → d ≤ sumN s G F → 64 * a + d ≤ R T
  | 0, T, h, _ => absurd h (Nat.not_lt_zero T)
  | m + 1, T, hm, hT => by
    intro a d G had hG hD hd
    have one : ∀ {G f : Nat}, nsub G T = 0 → G.testBit f = true → f < F ∧ T.testBit f = true ∧ 0 < T ∧ nsub T (2 ^ f) < T ∧ sumN s G F = sumN s (nsub G (2 ^ f)) F + s f ∧ nsub (nsub G (2 ^ f)) (nsub T (2 ^ f)) = 0 ∧ nsub (nsub T G) (nsub (nsub T (2 ^ f)) (nsub G (2 ^ f))) = 0 := by
      intro G f hG hGf
      have hTf := sub_0.mp hG f hGf
      have hfF := tb_lt hT hTf
      have hsum := sumN_rm (s := s) hGf F
      rw [if_pos hfF] at hsum
      refine ⟨hfF, hTf, ?_, nsub_lt hTf, hsum, sub_mo hG, sub_0.mpr (fun i hi => ?_)⟩
      · rcases Nat.eq_zero_or_pos T with z | z
        · rw [z, Nat.zero_testBit] at hTf; cases hTf
        · exact z
      · obtain ⟨p1, p2⟩ := sub_tb.mp hi
        exact sub_tb.mpr ⟨rm_tb.mpr ⟨p1, fun z => p2 (z ▸ hGf)⟩, fun z => p2 (rm_tb.mp z).1⟩
    rcases Nat.eq_zero_or_pos d with hd0 | hd0
    · subst hd0
      have hDT : Dk s nd F a T := Dk_mono (sub_of _ _) hD
      rcases a with _ | b
      · omega
      · have hbk : b < k := by omega
        obtain ⟨G2, k1, k2, k3⟩ := hDT
        have hb := hn b hbk
        have hne : ¬ G2 = 0 := by
          intro z
          rw [z, sumN_z] at k2
          omega
        obtain ⟨f, hf⟩ := ne_bit hne
        obtain ⟨o1, o2, o3, o4, o5, o6, o7⟩ := one k1 hf
        have hT' : nsub T (2 ^ f) < 2 ^ F := by omega
        have hstep := hR T f o3 hT o1 o2
        have hv := hV _ hT'
        by_cases c : nd b ≤ sumN s (nsub G2 (2 ^ f)) F
        · have := dig_c hn hV hR m (nsub T (2 ^ f)) (by omega) hT' (b + 1) 0 0 (by
            rcases had with z | z
            · exact Or.inl z
            · exact Or.inr z) (sub_z _) (by rw [nsub_0]; exact ⟨_, o6, c, Dk_mono o7 k3⟩) (Nat.zero_le _)
          have := dg_le (s := s f) hv
          omega
        · have h1 := dig_c hn hV hR m (nsub T (2 ^ f)) (by omega) hT' b (sumN s (nsub G2 (2 ^ f)) F) (nsub G2 (2 ^ f)) (Or.inl ⟨hbk, by omega⟩) o6 (Dk_mono o7 k3) (Nat.le_refl _)
          have h2 := dg_hit hv hbk h1 (s := s f) (by omega)
          omega
    · have hak : a < k ∧ d < nd a := had.elim id (fun z => by omega)
      have hne : ¬ G = 0 := by
        intro z
        rw [z, sumN_z] at hd
        omega
      obtain ⟨f, hf⟩ := ne_bit hne
      obtain ⟨o1, o2, o3, o4, o5, o6, o7⟩ := one hG hf
      have hT' : nsub T (2 ^ f) < 2 ^ F := by omega
      have hstep := hR T f o3 hT o1 o2
      have hv := hV _ hT'
      by_cases c : d ≤ sumN s (nsub G (2 ^ f)) F
      · have := dig_c hn hV hR m (nsub T (2 ^ f)) (by omega) hT' a d (nsub G (2 ^ f)) had o6 (Dk_mono o7 hD) c
        have := dg_le (s := s f) hv
        omega
      · have h1 := dig_c hn hV hR m (nsub T (2 ^ f)) (by omega) hT' a (sumN s (nsub G (2 ^ f)) F) (nsub G (2 ^ f)) (Or.inl ⟨hak.1, by omega⟩) o6 (Dk_mono o7 hD) (Nat.le_refl _)
        have h2 := dg_up hn hv hak.1 h1 (s := s f) (d := d) (by omega) hak.2
        omega
/-- what is reached says whether the groups can be -/
theorem dig_iff (hn : ∀ a, a < k → 1 ≤ nd a ∧ nd a ≤ 64) (h0 : R 0 = 0) (hR1 : ∀ T, 0 < T → T < 2 ^ F → R T = 0 ∨ ∃ f, f < F ∧ T.testBit f = true ∧ R T = dg nd k (R (nsub T (2 ^ f))) (s f)) (hR2 : ∀ T f, 0 < T → T < 2 ^ F → f < F → T.testBit f = true → dg nd k (R (nsub T (2 ^ f))) (s f) ≤ R T) {T : Nat} (hT : T < 2 ^ F) : 64 * k ≤ R T ↔ Dk s nd F k T := by
  have hS := fun T hT => dig_s (s := s) hn h0 hR1 (T + 1) T (by omega) hT
  constructor
  · intro h
    obtain ⟨v, G, g1, g2, g3⟩ := hS T hT
    have hk : R T / 64 = k := by
      have := v.1
      omega
    rw [hk] at g2
    exact Dk_mono (sub_of _ _) g2
  · intro h
    have := dig_c hn (fun T hT => (hS T hT).1) hR2 (T + 1) T (by omega) hT k 0 0 (Or.inr ⟨rfl, rfl⟩) (sub_z T) (by rw [nsub_0]; exact h) (Nat.zero_le _)
    omega
end DIG
