/-! ===== text: the lines of a valley, both sides ===== -/
section JVL
variable {σx σm : Dt} {B : Nat → Nat} {L i : Nat} {g : Nat × Nat}
theorem j_folk (hJ : JS σx σm B L 0 i g DR0 WB0) (hG : LGood B L 0 i) (hk : lnK B L 0 i = 0) {τ : Dt} (q1 : KR σx τ) (q2 : τ.1 155 9 = nI (pz B L (tE B L i) (nmS 0 (lnK B L 0 i) + 1))) (q3 : NumR τ B L (tE B L i) (nmS 0 (lnK B L 0 i))) (q4 : f_X5_readLine 155 σx = JT (lnK B L 0 i) (nmS 0 (lnK B L 0 i)) (tS B L i) τ) : JL σx σm B L 0 i DR0 WB0 f_X12_valleyLine := by
  obtain ⟨j1, j2, j3, j4, j5, j6, ⟨F, W, v1, v2, v3, v4⟩, j8⟩ := id hJ
  have hi := j6.1
  have hb := tk_b (B := B) hi
  have ht : ∀ k, k < 2 → tT B L (pz B L (tE B L i) k) = 2 := by
    have := hG.2.1
    rw [hk] at this
    exact this
  have hn : ∀ k, k < 2 → nv B L (pz B L (tE B L i) k) ≤ 99 := fun k hk => nv_le (pz_le hb.2.2.1 k) (ht k hk)
  have hn0 : nv B L (tE B L i) ≤ 99 := hn 0 (by decide)
  have eN : nbM B L (.inl (tE B L i)) = .inl (tE B L (tE B L i)) := if_pos (ht 0 (by decide))
  obtain ⟨σm', m1, m2, m3, m5, m6⟩ := mv_0 j2 j6 hk v3 v1
  have hg : gJ 0 (lnK B L 0 i) (fun j => nv B L (pz B L (tE B L i) j)) (fun j => tS B L (pz B L (tE B L i) j)) (ci (TMx 0 (lnK B L 0 i) σx) (nt g (3, tS B L i)) g) (nmS 0 (lnK B L 0 i)) = nbG B L 0 9 (nbG B L 0 99 (if F < 10 then g else nt g (3, tS B L i)) (.inl (tE B L i))) (nbM B L (.inl (tE B L i))) := by
    rw [hk, tm_eq (Q := F < 10) (fun z => ?_)]
    · refine gJ_nb (lo := fun _ => 0) (hi := fun j => if j = 0 then 99 else 9) 2 ht (fun j hj => ?_)
      rcases (show j = 0 ∨ j = 1 by omega) with rfl | rfl
      · exact ⟨fun _ => ⟨Nat.zero_le _, hn0⟩, fun _ => trivial⟩
      · exact ⟨fun z => ⟨Nat.zero_le _, z⟩, fun z => z.2⟩
    · obtain ⟨F', W', T, G, d1, d2, -⟩ := j8 z
      have e : F' = F := (nI_eq (by omega) (by omega)).mp (d2.2.symm.trans v3)
      show (¬ σx.1 156 0 < 10) ↔ _
      rw [d2.1, e]
      by_cases c : F < 10
      · exact ⟨fun y => absurd (lt10 c) y, fun y => absurd c y⟩
      · exact ⟨fun _ => c, fun _ => nlt10 (by omega) (by omega)⟩
  have hV : WB0 σm' := by
    by_cases c : F < 10
    · rw [if_pos c] at m6
      refine ⟨F + 1, W, by omega, v2, ?_, ?_⟩
      · rw [m6, setX_j]
      · rw [m6]; simp (disch := omega) only [Nat.reduceAdd, setX_ne, setX_j, upS_ne, upS_eq]; exact v4
    · rw [if_neg c] at m6
      exact ⟨F, W, v1, v2, by rw [m6]; exact v3, by rw [m6]; exact v4⟩
  refine j_good hJ (by decide) hG q1 q2 q3 q4 hg m1 m2 (by rw [hk]; exact m3) hV (fun z ρ r1 r2 r3 r4 r5 => ?_)
  rw [← hg, hk] at z
  obtain ⟨z1, z2⟩ := gJ_z 2 z
  rw [show nmS 0 0 = 2 from rfl, z1] at z
  obtain ⟨z3, z4⟩ := ci_z (show ¬ (3 : Nat) = 0 by decide) z
  obtain ⟨F', W', T, G, d1, d2, d3, d4, d5, d6, d7, d8, d9, d10⟩ := j8 z4
  have e : F' = F := (nI_eq (by omega) (by omega)).mp (d2.2.symm.trans v3)
  subst e
  have hF : F' < 10 := Classical.not_not.mp (fun y => z3 (show ¬ σx.1 156 0 < 10 from by rw [d2.1]; exact nlt10 (by omega) (by omega)))
  have c1 : nv B L (tE B L (tE B L i)) ≤ 9 := z2 1 (by decide)
  rw [hk] at q3
  have a0 : ρ.1 172 0 = nI (nv B L (tE B L i)) := by rw [r5]; exact ((q3 0 (by decide)).1 (by decide)).1
  have a1 : ρ.1 172 1 = nI (nv B L (tE B L (tE B L i))) := by rw [r5]; exact ((q3 1 (by decide)).1 (by decide)).1
  rw [if_pos hF, eN, nbV_2 (i := tE B L i) (ht 0 (by decide)) ⟨Nat.zero_le _, hn0⟩, nbV_2 (i := tE B L (tE B L i)) (ht 1 (by decide)) ⟨Nat.zero_le _, c1⟩] at m6
  have c1' : nv B L (pz B L (tE B L i) 1) ≤ 9 := c1
  rw [hk]
  refine ⟨_, t_folk r4 r3 hF (by rw [r1 156 (by decide) (by decide)]; exact d2.1) a0 a1, ((KL_s (by omega)).tr (KL_s (by omega))).tr (KL_s (by omega)), fun j hj => by simp (disch := omega) only [Nat.reduceAdd, setX_ne, setX_j, upS_ne, upS_eq], ?_⟩
  have o : ∀ a j, 156 ≤ a → a ≤ 171 → ρ.1 a j = σx.1 a j := fun a j h1 h2 => by rw [r1 a h1 h2]
  refine ⟨F' + 1, W', T, G, by omega, ⟨setX_j, by rw [m6, setX_j]⟩, ⟨?_, ?_⟩, ?_, fun f hf => ?_, fun w hw => ?_, ?_, by rw [m5]; exact d8, d9, d10⟩
  · simp (disch := omega) only [Nat.reduceAdd, setX_ne, setX_j, upS_ne, upS_eq]; rw [o _ _ (by decide) (by decide)]; exact d3.1
  · rw [m6]; simp (disch := omega) only [Nat.reduceAdd, setX_ne, setX_j, upS_ne, upS_eq]; exact d3.2
  · rw [m6]; simp (disch := omega) only [Nat.reduceAdd, setX_ne, setX_j, upS_ne, upS_eq]; rw [o _ _ (by decide) (by decide)]; exact d4
  · obtain ⟨a, s, p, u1, u2, u3, u4, u5, u6, u7, u8, u9, u10⟩ := d5 f hf
    rw [m6]
    by_cases c : f = F'
    · subst c
      refine ⟨nv B L (tE B L i), nv B L (tE B L (tE B L i)), p, ?_, hn0, ?_, c1, ?_, u6, ?_, fun _ => ⟨?_, ?_⟩, fun y => by omega, u10⟩
      · simp (disch := omega) only [Nat.reduceAdd, setX_ne, setX_j, upS_ne, upS_eq]
      · simp (disch := omega) only [Nat.reduceAdd, setX_ne, setX_j, upS_ne, upS_eq]
      · simp (disch := omega) only [Nat.reduceAdd, setX_ne, setX_j, upS_ne, upS_eq]; exact u5
      · simp (disch := omega) only [Nat.reduceAdd, setX_ne, setX_j, upS_ne, upS_eq]; rw [o _ _ (by decide) (by decide)]; exact u7
      · simp (disch := omega) only [Nat.reduceAdd, setX_ne, setX_j, upS_ne, upS_eq]
      · simp (disch := omega) only [Nat.reduceAdd, setX_ne, setX_j, upS_ne, upS_eq]
    · refine ⟨a, s, p, ?_, u2, ?_, u4, ?_, u6, ?_, fun y => ?_, fun y => u9 (by omega), u10⟩
      · simp (disch := omega) only [Nat.reduceAdd, setX_ne, setX_j, upS_ne, upS_eq]; exact u1
      · simp (disch := omega) only [Nat.reduceAdd, setX_ne, setX_j, upS_ne, upS_eq]; exact u3
      · simp (disch := omega) only [Nat.reduceAdd, setX_ne, setX_j, upS_ne, upS_eq]; exact u5
      · simp (disch := omega) only [Nat.reduceAdd, setX_ne, setX_j, upS_ne, upS_eq]; rw [o _ _ (by decide) (by decide)]; exact u7
      · simp (disch := omega) only [Nat.reduceAdd, setX_ne, setX_j, upS_ne, upS_eq]; rw [o _ _ (by decide) (by decide), o _ _ (by decide) (by decide)]; exact u8 (by omega)
  · obtain ⟨m, q, u1, u2, u3, u4, u5⟩ := d6 w hw
    rw [m6]
    refine ⟨m, q, ?_, u2, ?_, u4, fun y => ?_⟩
    · simp (disch := omega) only [Nat.reduceAdd, setX_ne, setX_j, upS_ne, upS_eq]; exact u1
    · simp (disch := omega) only [Nat.reduceAdd, setX_ne, setX_j, upS_ne, upS_eq]; exact u3
    · simp (disch := omega) only [Nat.reduceAdd, setX_ne, setX_j, upS_ne, upS_eq]; rw [o _ _ (by decide) (by decide), o _ _ (by decide) (by decide)]; exact u5 y
  · simp (disch := omega) only [Nat.reduceAdd, setX_ne, setX_j, upS_ne, upS_eq]; rw [r2]; exact d7
theorem j_work (hJ : JS σx σm B L 0 i g DR0 WB0) (hG : LGood B L 0 i) (hk : lnK B L 0 i = 2) {τ : Dt} (q1 : KR σx τ) (q2 : τ.1 155 9 = nI (pz B L (tE B L i) (nmS 0 (lnK B L 0 i) + 1))) (q3 : NumR τ B L (tE B L i) (nmS 0 (lnK B L 0 i))) (q4 : f_X5_readLine 155 σx = JT (lnK B L 0 i) (nmS 0 (lnK B L 0 i)) (tS B L i) τ) : JL σx σm B L 0 i DR0 WB0 f_X12_valleyLine := by
  obtain ⟨j1, j2, j3, j4, j5, j6, ⟨F, W, v1, v2, v3, v4⟩, j8⟩ := id hJ
  have hi := j6.1
  have hb := tk_b (B := B) hi
  have ht : ∀ k, k < 2 → tT B L (pz B L (tE B L i) k) = 2 := by
    have := hG.2.1
    rw [hk] at this
    exact this
  have eN : nbM B L (.inl (tE B L i)) = .inl (tE B L (tE B L i)) := if_pos (ht 0 (by decide))
  obtain ⟨σm', m1, m2, m3, m5, m6⟩ := mv_2 j2 j6 hk v4 v2
  have hg : gJ 0 (lnK B L 0 i) (fun j => nv B L (pz B L (tE B L i) j)) (fun j => tS B L (pz B L (tE B L i) j)) (ci (TMx 0 (lnK B L 0 i) σx) (nt g (3, tS B L i)) g) (nmS 0 (lnK B L 0 i)) = nbG B L 0 20 (nbG B L 1 30 (if W < 6 then g else nt g (3, tS B L i)) (.inl (tE B L i))) (nbM B L (.inl (tE B L i))) := by
    rw [hk, tm_eq (Q := W < 6) (fun z => ?_)]
    · refine gJ_nb (lo := fun j => if j = 0 then 1 else 0) (hi := fun j => if j = 0 then 30 else 20) 2 ht (fun j hj => ?_)
      rcases (show j = 0 ∨ j = 1 by omega) with rfl | rfl
      · exact Iff.rfl
      · exact ⟨fun z => ⟨Nat.zero_le _, z⟩, fun z => z.2⟩
    · obtain ⟨F', W', T, G, d1, d2, d3, -⟩ := j8 z
      have e : W' = W := (nI_eq (by omega) (by omega)).mp (d3.2.symm.trans v4)
      show (2 = 2 ∧ ¬ σx.1 156 1 < 6) ↔ _
      rw [d3.1, e]
      by_cases c : W < 6
      · exact ⟨fun y => absurd (show nI W < (6 : Int32) from nI_lt (b := 6) c (by decide)) y.2, fun y => absurd c y⟩
      · exact ⟨fun _ => c, fun _ => ⟨rfl, show ¬ nI W < (6 : Int32) from nI_nlt (b := 6) (by omega) (by omega)⟩⟩
  have hV : WB0 σm' := by
    by_cases c : W < 6
    · rw [if_pos c] at m6
      refine ⟨F, W + 1, v1, by omega, ?_, ?_⟩
      · rw [m6]; simp (disch := omega) only [Nat.reduceAdd, setX_ne, setX_j, upS_ne, upS_eq]; exact v3
      · rw [m6, setX_j]
    · rw [if_neg c] at m6
      exact ⟨F, W, v1, v2, by rw [m6]; exact v3, by rw [m6]; exact v4⟩
  refine j_good hJ (by decide) hG q1 q2 q3 q4 hg m1 m2 (by rw [hk]; exact m3) hV (fun z ρ r1 r2 r3 r4 r5 => ?_)
  rw [← hg, hk] at z
  obtain ⟨z1, z2⟩ := gJ_z 2 z
  rw [show nmS 0 2 = 2 from rfl, z1] at z
  obtain ⟨z3, z4⟩ := ci_z (show ¬ (3 : Nat) = 0 by decide) z
  obtain ⟨F', W', T, G, d1, d2, d3, d4, d5, d6, d7, d8, d9, d10⟩ := j8 z4
  have e : W' = W := (nI_eq (by omega) (by omega)).mp (d3.2.symm.trans v4)
  subst e
  have hW : W' < 6 := Classical.not_not.mp (fun y => z3 ⟨rfl, show ¬ σx.1 156 1 < 6 from by rw [d3.1]; exact (show ¬ nI W' < (6 : Int32) from nI_nlt (b := 6) (by omega) (by omega))⟩)
  have c0 : 1 ≤ nv B L (tE B L i) ∧ nv B L (tE B L i) ≤ 30 := z2 0 (by decide)
  have c1 : nv B L (tE B L (tE B L i)) ≤ 20 := z2 1 (by decide)
  rw [hk] at q3
  have a0 : ρ.1 172 0 = nI (nv B L (tE B L i)) := by rw [r5]; exact ((q3 0 (by decide)).1 (by decide)).1
  have a1 : ρ.1 172 1 = nI (nv B L (tE B L (tE B L i))) := by rw [r5]; exact ((q3 1 (by decide)).1 (by decide)).1
  rw [if_pos hW, eN, nbV_2 (i := tE B L i) (ht 0 (by decide)) c0, nbV_2 (i := tE B L (tE B L i)) (ht 1 (by decide)) ⟨Nat.zero_le _, c1⟩] at m6
  rw [hk]
  refine ⟨_, t_work r4 r3 hW (by rw [r1 156 (by decide) (by decide)]; exact d3.1) a0 a1, ((KL_s (by omega)).tr (KL_s (by omega))).tr (KL_s (by omega)), fun j hj => by simp (disch := omega) only [Nat.reduceAdd, setX_ne, setX_j, upS_ne, upS_eq], ?_⟩
  have o : ∀ a j, 156 ≤ a → a ≤ 171 → ρ.1 a j = σx.1 a j := fun a j h1 h2 => by rw [r1 a h1 h2]
  refine ⟨F', W' + 1, T, G, by omega, ⟨?_, ?_⟩, ⟨setX_j, by rw [m6, setX_j]⟩, ?_, fun f hf => ?_, fun w hw => ?_, ?_, by rw [m5]; exact d8, d9, d10⟩
  · simp (disch := omega) only [Nat.reduceAdd, setX_ne, setX_j, upS_ne, upS_eq]; rw [o _ _ (by decide) (by decide)]; exact d2.1
  · rw [m6]; simp (disch := omega) only [Nat.reduceAdd, setX_ne, setX_j, upS_ne, upS_eq]; exact d2.2
  · rw [m6]; simp (disch := omega) only [Nat.reduceAdd, setX_ne, setX_j, upS_ne, upS_eq]; rw [o _ _ (by decide) (by decide)]; exact d4
  · obtain ⟨a, s, p, u1, u2, u3, u4, u5, u6, u7, u8, u9, u10⟩ := d5 f hf
    rw [m6]
    refine ⟨a, s, p, ?_, u2, ?_, u4, ?_, u6, ?_, fun y => ?_, u9, u10⟩
    · simp (disch := omega) only [Nat.reduceAdd, setX_ne, setX_j, upS_ne, upS_eq]; exact u1
    · simp (disch := omega) only [Nat.reduceAdd, setX_ne, setX_j, upS_ne, upS_eq]; exact u3
    · simp (disch := omega) only [Nat.reduceAdd, setX_ne, setX_j, upS_ne, upS_eq]; exact u5
    · simp (disch := omega) only [Nat.reduceAdd, setX_ne, setX_j, upS_ne, upS_eq]; rw [o _ _ (by decide) (by decide)]; exact u7
    · simp (disch := omega) only [Nat.reduceAdd, setX_ne, setX_j, upS_ne, upS_eq]; rw [o _ _ (by decide) (by decide), o _ _ (by decide) (by decide)]; exact u8 y
  · obtain ⟨m, q, u1, u2, u3, u4, u5⟩ := d6 w hw
    rw [m6]
    by_cases c : w = W'
    · subst c
      refine ⟨nv B L (tE B L i), nv B L (tE B L (tE B L i)), ?_, c0.2, ?_, c1, fun _ => ⟨c0.1, ?_, ?_⟩⟩
      · simp (disch := omega) only [Nat.reduceAdd, setX_ne, setX_j, upS_ne, upS_eq]
      · simp (disch := omega) only [Nat.reduceAdd, setX_ne, setX_j, upS_ne, upS_eq]
      · simp (disch := omega) only [Nat.reduceAdd, setX_ne, setX_j, upS_ne, upS_eq]
      · simp (disch := omega) only [Nat.reduceAdd, setX_ne, setX_j, upS_ne, upS_eq]
    · refine ⟨m, q, ?_, u2, ?_, u4, fun y => ?_⟩
      · simp (disch := omega) only [Nat.reduceAdd, setX_ne, setX_j, upS_ne, upS_eq]; exact u1
      · simp (disch := omega) only [Nat.reduceAdd, setX_ne, setX_j, upS_ne, upS_eq]; exact u3
      · simp (disch := omega) only [Nat.reduceAdd, setX_ne, setX_j, upS_ne, upS_eq]; rw [o _ _ (by decide) (by decide), o _ _ (by decide) (by decide)]; exact u5 (by omega)
  · simp (disch := omega) only [Nat.reduceAdd, setX_ne, setX_j, upS_ne, upS_eq]; rw [r2]; exact d7
theorem j_bound (hJ : JS σx σm B L 0 i g DR0 WB0) (hG : LGood B L 0 i) (hk : lnK B L 0 i = 3) {τ : Dt} (q1 : KR σx τ) (q2 : τ.1 155 9 = nI (pz B L (tE B L i) (nmS 0 (lnK B L 0 i) + 1))) (q3 : NumR τ B L (tE B L i) (nmS 0 (lnK B L 0 i))) (q4 : f_X5_readLine 155 σx = JT (lnK B L 0 i) (nmS 0 (lnK B L 0 i)) (tS B L i) τ) : JL σx σm B L 0 i DR0 WB0 f_X12_valleyLine := by
  obtain ⟨j1, j2, j3, j4, j5, j6, ⟨F, W, v1, v2, v3, v4⟩, j8⟩ := id hJ
  have hi := j6.1
  have hb := tk_b (B := B) hi
  have ht : ∀ k, k < 1 → tT B L (pz B L (tE B L i) k) = 2 := by
    have := hG.2.1
    rw [hk] at this
    exact this
  obtain ⟨σm', m1, m2, m3, m5, m6⟩ := mv_3 j2 j6 hk
  have htm : ¬ TMx 0 3 σx := fun z => absurd z.1 (by decide)
  have hg : gJ 0 (lnK B L 0 i) (fun j => nv B L (pz B L (tE B L i) j)) (fun j => tS B L (pz B L (tE B L i) j)) (ci (TMx 0 (lnK B L 0 i) σx) (nt g (3, tS B L i)) g) (nmS 0 (lnK B L 0 i)) = nbG B L 1 30 g (.inl (tE B L i)) := by
    rw [hk, ci_f htm]
    refine gJ_nb (lo := fun _ => 1) (hi := fun _ => 30) 1 ht (fun j hj => ?_)
    obtain rfl : j = 0 := by omega
    exact Iff.rfl
  have hV : WB0 σm' := ⟨F, W, v1, v2, by rw [m6]; simp (disch := omega) only [Nat.reduceAdd, setX_ne, setX_j, upS_ne, upS_eq]; exact v3, by rw [m6]; simp (disch := omega) only [Nat.reduceAdd, setX_ne, setX_j, upS_ne, upS_eq]; exact v4⟩
  refine j_good hJ (by decide) hG q1 q2 q3 q4 hg m1 m2 (by rw [hk]; exact m3) hV (fun z ρ r1 r2 r3 r4 r5 => ?_)
  rw [← hg, hk, ci_f htm] at z
  obtain ⟨z1, z2⟩ := gJ_z 1 z
  rw [show nmS 0 3 = 1 from rfl, z1] at z
  obtain ⟨F', W', T, G, d1, d2, d3, d4, d5, d6, d7, d8, d9, d10⟩ := j8 z
  have c0 : 1 ≤ nv B L (tE B L i) ∧ nv B L (tE B L i) ≤ 30 := z2 0 (by decide)
  rw [hk] at q3
  have a0 : ρ.1 172 0 = nI (nv B L (tE B L i)) := by rw [r5]; exact ((q3 0 (by decide)).1 (by decide)).1
  rw [nbV_2 (i := tE B L i) (ht 0 (by decide)) c0] at m6
  rw [hk]
  refine ⟨_, t_bound r4 r3 a0, KL_s (by omega), fun j hj => by simp (disch := omega) only [Nat.reduceAdd, setX_ne, setX_j, upS_ne, upS_eq], ?_⟩
  have o : ∀ a j, 156 ≤ a → a ≤ 171 → ρ.1 a j = σx.1 a j := fun a j h1 h2 => by rw [r1 a h1 h2]
  refine ⟨F', W', T, G, d1, ⟨?_, ?_⟩, ⟨?_, ?_⟩, ⟨nv B L (tE B L i), setX_j, by rw [m6, setX_j], c0⟩, fun f hf => ?_, fun w hw => ?_, ?_, by rw [m5]; exact d8, d9, d10⟩
  · simp (disch := omega) only [Nat.reduceAdd, setX_ne, setX_j, upS_ne, upS_eq]; rw [o _ _ (by decide) (by decide)]; exact d2.1
  · rw [m6]; simp (disch := omega) only [Nat.reduceAdd, setX_ne, setX_j, upS_ne, upS_eq]; exact d2.2
  · simp (disch := omega) only [Nat.reduceAdd, setX_ne, setX_j, upS_ne, upS_eq]; rw [o _ _ (by decide) (by decide)]; exact d3.1
  · rw [m6]; simp (disch := omega) only [Nat.reduceAdd, setX_ne, setX_j, upS_ne, upS_eq]; exact d3.2
  · obtain ⟨a, s, p, u1, u2, u3, u4, u5, u6, u7, u8, u9, u10⟩ := d5 f hf
    rw [m6]
    refine ⟨a, s, p, ?_, u2, ?_, u4, ?_, u6, ?_, fun y => ?_, u9, u10⟩
    · simp (disch := omega) only [Nat.reduceAdd, setX_ne, setX_j, upS_ne, upS_eq]; exact u1
    · simp (disch := omega) only [Nat.reduceAdd, setX_ne, setX_j, upS_ne, upS_eq]; exact u3
    · simp (disch := omega) only [Nat.reduceAdd, setX_ne, setX_j, upS_ne, upS_eq]; exact u5
    · simp (disch := omega) only [Nat.reduceAdd, setX_ne, setX_j, upS_ne, upS_eq]; rw [o _ _ (by decide) (by decide)]; exact u7
    · simp (disch := omega) only [Nat.reduceAdd, setX_ne, setX_j, upS_ne, upS_eq]; rw [o _ _ (by decide) (by decide), o _ _ (by decide) (by decide)]; exact u8 y
  · obtain ⟨m, q, u1, u2, u3, u4, u5⟩ := d6 w hw
    rw [m6]
    refine ⟨m, q, ?_, u2, ?_, u4, fun y => ?_⟩
    · simp (disch := omega) only [Nat.reduceAdd, setX_ne, setX_j, upS_ne, upS_eq]; exact u1
    · simp (disch := omega) only [Nat.reduceAdd, setX_ne, setX_j, upS_ne, upS_eq]; exact u3
    · simp (disch := omega) only [Nat.reduceAdd, setX_ne, setX_j, upS_ne, upS_eq]; rw [o _ _ (by decide) (by decide), o _ _ (by decide) (by decide)]; exact u5 y
  · simp (disch := omega) only [Nat.reduceAdd, setX_ne, setX_j, upS_ne, upS_eq]; rw [r2]; exact d7
theorem far_up (G f : Nat) (hG : G ≤ 10) (hf : f < 10) : (if nI f ≤ farI G then farI G else nI f) = farI (if f < G then G else f + 1) := by
  unfold farI
  by_cases c : G = 0
  · subst c
    rw [if_pos rfl, if_neg (show ¬ nI f ≤ (-1 : Int32) from ?_), if_neg (show ¬ f < 0 by omega), if_neg (show ¬ f + 1 = 0 by omega), Nat.add_sub_cancel]
    rw [Int32.not_le, Int32.lt_iff_toInt_lt, jI_n, jI_t (by omega) (by omega), show (-1 : Int32).toInt = -1 from rfl]
    omega
  · rw [if_neg c]
    by_cases d : f < G
    · rw [ite_le_t (by omega) (by omega), if_pos d, if_neg c]
    · rw [ite_le_f (by omega) (by omega), if_neg d, if_neg (show ¬ f + 1 = 0 by omega), Nat.add_sub_cancel]
theorem nt_nt {g a : Nat × Nat} (ha : ¬ a.1 = 0) : nt (nt g a) a = nt g a := nt_n (nt_z ha)
theorem j_child (hJ : JS σx σm B L 0 i g DR0 WB0) (hG : LGood B L 0 i) (hk : lnK B L 0 i = 1) {τ : Dt} (q1 : KR σx τ) (q2 : τ.1 155 9 = nI (pz B L (tE B L i) (nmS 0 (lnK B L 0 i) + 1))) (q3 : NumR τ B L (tE B L i) (nmS 0 (lnK B L 0 i))) (q4 : f_X5_readLine 155 σx = JT (lnK B L 0 i) (nmS 0 (lnK B L 0 i)) (tS B L i) τ) : JL σx σm B L 0 i DR0 WB0 f_X12_valleyLine := by
  obtain ⟨j1, j2, j3, j4, j5, j6, ⟨F, W, v1, v2, v3, v4⟩, j8⟩ := id hJ
  have hi := j6.1
  have hb := tk_b (B := B) hi
  have ht : ∀ k, k < 2 → tT B L (pz B L (tE B L i) k) = 2 := by
    have := hG.2.1
    rw [hk] at this
    exact this
  have t0 : tT B L (tE B L i) = 2 := ht 0 (by decide)
  have t1 : tT B L (tE B L (tE B L i)) = 2 := ht 1 (by decide)
  have eN : nbM B L (.inl (tE B L i)) = .inl (tE B L (tE B L i)) := if_pos t0
  obtain ⟨σm', m1, m2, m3, m5, m6⟩ := mv_1 j2 j6 hk
  have htm : ¬ TMx 0 1 σx := fun z => absurd z.1 (by decide)
  have hg : gJ 0 (lnK B L 0 i) (fun j => nv B L (pz B L (tE B L i) j)) (fun j => tS B L (pz B L (tE B L i) j)) (ci (TMx 0 (lnK B L 0 i) σx) (nt g (3, tS B L i)) g) (nmS 0 (lnK B L 0 i)) = bwG B L (nbV B L 0 9 (.inl (tE B L i))) (nbG B L 0 9 g (.inl (tE B L i))) (nbM B L (.inl (tE B L i))) := by
    rw [hk, ci_f htm, eN]
    show ci (nv B L (tE B L (tE B L i)) < nv B L (tE B L i)) (ci (nv B L (tE B L i) < 10) g (nt g (2, tS B L (tE B L i)))) (nt (ci (nv B L (tE B L i) < 10) g (nt g (2, tS B L (tE B L i)))) (2, tS B L (tE B L (tE B L i)))) = (if tT B L (tE B L (tE B L i)) = 2 ∧ nbV B L 0 9 (.inl (tE B L i)) ≤ nv B L (tE B L (tE B L i)) then nt (nbG B L 0 9 (nbG B L 0 9 g (.inl (tE B L i))) (.inl (tE B L (tE B L i)))) (2, tS B L (tE B L (tE B L i))) else nbG B L 0 9 (nbG B L 0 9 g (.inl (tE B L i))) (.inl (tE B L (tE B L i))))
    rw [nbG_2 t0, nbG_2 t1]
    generalize nv B L (tE B L (tE B L i)) = n1
    by_cases c0 : nv B L (tE B L i) < 10
    · rw [nbV_2 t0 ⟨Nat.zero_le _, by omega⟩]
      generalize nv B L (tE B L i) = n0 at *
      rw [ci_t c0, ci_t (show 0 ≤ n0 ∧ n0 ≤ 9 by omega)]
      by_cases c1 : n1 < n0
      · rw [ci_t c1, if_neg (by omega), ci_t (by omega)]
      · rw [ci_f c1, if_pos ⟨t1, by omega⟩]
        by_cases c2 : n1 ≤ 9
        · rw [ci_t ⟨Nat.zero_le _, c2⟩]
        · rw [ci_f (fun z => c2 z.2), nt_nt (show ¬ (2 : Nat) = 0 by decide)]
    · have hz := nt_z (g := g) (a := (2, tS B L (tE B L i))) (show ¬ (2 : Nat) = 0 by decide)
      rw [show nbV B L 0 9 (.inl (tE B L i)) = 0 from if_neg (fun z => by omega)]
      rw [ci_f c0, ci_f (show ¬ (0 ≤ nv B L (tE B L i) ∧ nv B L (tE B L i) ≤ 9) by omega), if_pos ⟨t1, Nat.zero_le _⟩]
      generalize nt g (2, tS B L (tE B L i)) = g1 at *
      rw [nt_n hz]
      have cc : ∀ P : Prop, ci P g1 g1 = g1 := fun P => by
        by_cases p : P
        · exact ci_t p
        · exact ci_f p
      rw [cc, cc, nt_n hz]
  have hv := (nbV_b (B := B) (L := L) (lo := 0) (hi := 9) (m := .inl (tE B L i)) (by decide)).2
  have hV : WB0 σm' := ⟨F, W, v1, v2, by rw [m6]; simp (disch := omega) only [Nat.reduceAdd, setX_ne, setX_j, upS_ne, upS_eq]; exact v3, by rw [m6]; simp (disch := omega) only [Nat.reduceAdd, setX_ne, setX_j, upS_ne, upS_eq]; exact v4⟩
  refine j_good hJ (by decide) hG q1 q2 q3 q4 hg m1 m2 (by rw [hk]; exact m3) hV (fun z ρ r1 r2 r3 r4 r5 => ?_)
  rw [← hg, hk, ci_f htm] at z
  obtain ⟨z1, z2⟩ := gJ_z 2 z
  rw [show nmS 0 1 = 2 from rfl, z1] at z
  obtain ⟨F', W', T, G, d1, d2, d3, d4, d5, d6, d7, d8, d9, d10⟩ := j8 z
  have c0 : nv B L (tE B L i) < 10 := z2 0 (by decide)
  have c1 : nv B L (tE B L (tE B L i)) < nv B L (tE B L i) := z2 1 (by decide)
  rw [hk] at q3
  have a0 : ρ.1 172 0 = nI (nv B L (tE B L i)) := by rw [r5]; exact ((q3 0 (by decide)).1 (by decide)).1
  have a1 : ρ.1 172 1 = nI (nv B L (tE B L (tE B L i))) := by rw [r5]; exact ((q3 1 (by decide)).1 (by decide)).1
  rw [eN, nbV_2 t0 ⟨Nat.zero_le _, by omega⟩, nbV_2 t1 ⟨Nat.zero_le _, by omega⟩] at m6
  rw [nbV_2 t0 ⟨Nat.zero_le _, by omega⟩] at m5
  rw [hk]
  have hpl := t_child r4 r3 c0 c1 a0 a1
  generalize nv B L (tE B L i) = n0 at *
  generalize nv B L (tE B L (tE B L i)) = n1 at *
  refine ⟨_, hpl, (KL_s (by omega)).tr (KL_s (by omega)), fun j hj => by simp (disch := omega) only [Nat.reduceAdd, setX_ne, setX_j, upS_ne, upS_eq], ?_⟩
  have o : ∀ a j, 156 ≤ a → a ≤ 171 → ρ.1 a j = σx.1 a j := fun a j h1 h2 => by rw [r1 a h1 h2]
  obtain ⟨a', s', p', -, -, -, -, w5, w6, w7, -, -, w10⟩ := d5 n0 c0
  have hp' : p' ||| 2 ^ n1 < 2 ^ n0 := or_lt w6 (Nat.pow_lt_pow_right (by decide) c1)
  refine ⟨F', W', T ||| 2 ^ n0, if n0 < G then G else n0 + 1, ⟨d1.1, d1.2.1, pow_or d1.2.2.1 c0, ?_⟩, ⟨?_, ?_⟩, ⟨?_, ?_⟩, ?_, fun f hf => ?_, fun w hw => ?_, ?_, ?_, fun f hf => ?_, ?_⟩
  · by_cases y : n0 < G
    · rw [if_pos y]; omega
    · rw [if_neg y]; omega
  · simp (disch := omega) only [Nat.reduceAdd, setX_ne, setX_j, upS_ne, upS_eq]; rw [o _ _ (by decide) (by decide)]; exact d2.1
  · rw [m6]; simp (disch := omega) only [Nat.reduceAdd, setX_ne, setX_j, upS_ne, upS_eq]; exact d2.2
  · simp (disch := omega) only [Nat.reduceAdd, setX_ne, setX_j, upS_ne, upS_eq]; rw [o _ _ (by decide) (by decide)]; exact d3.1
  · rw [m6]; simp (disch := omega) only [Nat.reduceAdd, setX_ne, setX_j, upS_ne, upS_eq]; exact d3.2
  · rw [m6]; simp (disch := omega) only [Nat.reduceAdd, setX_ne, setX_j, upS_ne, upS_eq]; rw [o _ _ (by decide) (by decide)]; exact d4
  · obtain ⟨a, s, p, u1, u2, u3, u4, u5, u6, u7, u8, u9, u10⟩ := d5 f hf
    rw [m6]
    have hT : T.testBit f = true → (T ||| 2 ^ n0).testBit f = true := fun y => by rw [Nat.testBit_or, y]; rfl
    by_cases c : f = n0
    · subst c
      refine ⟨a, s, p' ||| 2 ^ n1, ?_, u2, ?_, u4, ?_, hp', ?_, fun y => ?_, u9, fun _ => ?_⟩
      · simp (disch := omega) only [Nat.reduceAdd, setX_ne, setX_j, upS_ne, upS_eq]; exact u1
      · simp (disch := omega) only [Nat.reduceAdd, setX_ne, setX_j, upS_ne, upS_eq]; exact u3
      · simp (disch := omega) only [Nat.reduceAdd, setX_ne, setX_j, upS_ne, upS_eq]; rw [w5, nI_or]
      · simp (disch := omega) only [Nat.reduceAdd, setX_ne, setX_j, upS_ne, upS_eq]; rw [o _ _ (by decide) (by decide), w7, nI_or]
      · simp (disch := omega) only [Nat.reduceAdd, setX_ne, setX_j, upS_ne, upS_eq]; rw [o _ _ (by decide) (by decide), o _ _ (by decide) (by decide)]; exact u8 y
      · rw [Nat.testBit_or, Nat.testBit_two_pow_self, Bool.or_true]
    · refine ⟨a, s, p, ?_, u2, ?_, u4, ?_, u6, ?_, fun y => ?_, u9, fun y => hT (u10 y)⟩
      · simp (disch := omega) only [Nat.reduceAdd, setX_ne, setX_j, upS_ne, upS_eq]; exact u1
      · simp (disch := omega) only [Nat.reduceAdd, setX_ne, setX_j, upS_ne, upS_eq]; exact u3
      · simp (disch := omega) only [Nat.reduceAdd, setX_ne, setX_j, upS_ne, upS_eq]; exact u5
      · simp (disch := omega) only [Nat.reduceAdd, setX_ne, setX_j, upS_ne, upS_eq]; rw [o _ _ (by decide) (by decide)]; exact u7
      · simp (disch := omega) only [Nat.reduceAdd, setX_ne, setX_j, upS_ne, upS_eq]; rw [o _ _ (by decide) (by decide), o _ _ (by decide) (by decide)]; exact u8 y
  · obtain ⟨m, q, u1, u2, u3, u4, u5⟩ := d6 w hw
    rw [m6]
    refine ⟨m, q, ?_, u2, ?_, u4, fun y => ?_⟩
    · simp (disch := omega) only [Nat.reduceAdd, setX_ne, setX_j, upS_ne, upS_eq]; exact u1
    · simp (disch := omega) only [Nat.reduceAdd, setX_ne, setX_j, upS_ne, upS_eq]; exact u3
    · simp (disch := omega) only [Nat.reduceAdd, setX_ne, setX_j, upS_ne, upS_eq]; rw [o _ _ (by decide) (by decide), o _ _ (by decide) (by decide)]; exact u5 y
  · rw [setX_j, r2, d7, nI_or]
  · rw [m5, d8]
    exact far_up G n0 d1.2.2.2 c0
  · rw [Nat.testBit_or, Bool.or_eq_true] at hf
    have : f < G ∨ f = n0 := by
      rcases hf with y | y
      · exact Or.inl (d9 f y)
      · rw [Nat.testBit_two_pow] at y
        exact Or.inr (of_decide_eq_true y).symm
    by_cases y : n0 < G
    · rw [if_pos y]; omega
    · rw [if_neg y]; omega
  · right
    by_cases y : n0 < G
    · rw [if_pos y]
      rcases d10 with w | w
      · omega
      · rw [Nat.testBit_or, w]; rfl
    · rw [if_neg y, Nat.add_sub_cancel, Nat.testBit_or, Nat.testBit_two_pow_self, Bool.or_true]
theorem j_valley (hJ : JS σx σm B L 0 i g DR0 WB0) (h0 : ¬ tT B L i = 0) : JL σx σm B L 0 i DR0 WB0 f_X12_valleyLine := by
  obtain ⟨j1, j2, j3, j4, j5, j6, j7, j8⟩ := id hJ
  rcases x_line j1 (by decide) j3 j6.1 j4 with ⟨z, -⟩ | ⟨p, hB, τ, q1, q2, q3, q4⟩ | ⟨hG, τ, q1, q2, q3, q4⟩
  · exact absurd z h0
  · obtain ⟨σm', g', m1, m2, m3, m4⟩ := mv_bad j2 j6 hB j7
    exact j_bad q1 q2 q3 q4 m1 m2 m3 m4
  · have h3 : lnK B L 0 i ≤ 3 := lnK_s hG.1
    rcases (show lnK B L 0 i = 0 ∨ lnK B L 0 i = 1 ∨ lnK B L 0 i = 2 ∨ lnK B L 0 i = 3 by omega) with hk | hk | hk | hk
    · exact j_folk hJ hG hk q1 q2 q3 q4
    · exact j_child hJ hG hk q1 q2 q3 q4
    · exact j_work hJ hG hk q1 q2 q3 q4
    · exact j_bound hJ hG hk q1 q2 q3 q4
end JVL
