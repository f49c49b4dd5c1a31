/-! ===== text: how the reading ends, both sides ===== -/
def EN (σx σm : Dt) (R : Dt → Dt → Prop) : Prop := ∃ c, σx.1 155 3 = nI c ∧ σm.1 1 5 = nI c ∧ c ≤ 5 ∧ σx.1 155 4 = σm.1 1 6 ∧ (c = 0 → R σx σm)
def R0 (σx σm : Dt) : Prop := VR σx 156 (σm.1 3) ∧ ∃ F W, VW (σm.1 3) F W ∧ HR σx 156 (σm.1 3) F
section ENV
variable {σx σm : Dt} {B : Nat → Nat} {L : Nat}
theorem x_115n (h : ¬ σx.1 155 3 = 0) : f_X5_read_115 155 σx = some ((), σx) := by
  unfold f_X5_read_115
  rw [r_gi, if_neg h]
theorem e_other {s : Nat} {D : Dt → Dt → Prop} (hs : s = 1 ∨ s = 2) (h7 : σx.1 155 7 = nI s) (hE : LE σx σm B L D) : f_X5_read_115 155 σx = some ((), σx) ∧ EN σx σm D := by
  constructor
  · unfold f_X5_read_115
    rw [r_gi, r_gi, h7, if_neg (show ¬ nI s = (0 : Int32) from z_f (by omega) (by omega)), ite_self]
  · rcases hE with ⟨p, g', e1, e2, e3⟩ | ⟨i, g, e1, e2, e3, e4⟩
    · exact ⟨1, e1, e3.2.1, by decide, e2.trans e3.2.2.symm, fun z => absurd z (by decide)⟩
    · exact ⟨g.1, e1.1, e2.2.2.2.1.1, e1.2.2, e1.2.1.trans e2.2.2.2.1.2.1.symm, e4⟩
theorem e_valley (hX : Rd σx B L) (hM : Rq σm B L) (h7 : σx.1 155 7 = nI 0) (hE : LE σx σm B L DR0) : ∃ σx' σm', f_X5_read_115 155 σx = some ((), σx') ∧ f_X12_endsValley 0 σm = some ((), σm') ∧ KL σx σx' ∧ K3 σm σm' ∧ EN σx' σm' R0 := by
  have hL := hX.2.2.2.1
  have bad : ∀ c, ¬ c = 0 → c ≤ 5 → σx.1 155 3 = nI c → σm.1 1 5 = nI c → σx.1 155 4 = σm.1 1 6 → ∃ σx' σm', f_X5_read_115 155 σx = some ((), σx') ∧ f_X12_endsValley 0 σm = some ((), σm') ∧ KL σx σx' ∧ K3 σm σm' ∧ EN σx' σm' R0 := by
    intro c c0 c5 e1 e2 e3
    obtain ⟨τ, t1, t2, t3⟩ := m_evW hM.1 (by rw [e2]; exact z_f (by omega) c0)
    refine ⟨σx, τ, x_115n (by rw [e1]; exact z_f (by omega) c0), t1, KL_0 σx, K3_3 t2 t3, c, e1, by rw [t2 1 (by decide)]; exact e2, c5, by rw [t2 1 (by decide)]; exact e3, fun z => absurd z c0⟩
  rcases hE with ⟨p, g', e1, e2, e3⟩ | ⟨i, g, e1, e2, e3, e4⟩
  · exact bad 1 (by decide) (by decide) e1 e3.2.1 (e2.trans e3.2.2.symm)
  · obtain ⟨hi, h8, hT, hF, hp⟩ := e2
    by_cases c : g.1 = 0
    · obtain ⟨F, W, T, G, d1, d2, d3, d4, d5, d6, d7, d8, d9, d10⟩ := e4 c
      have hpa : ∀ f, f < 10 → σm.1 3 (5 + 4 * f) = nI (paN (σm.1 3) f) ∧ paN (σm.1 3) f < 2 ^ f ∧ σx.1 159 f = nI (paN (σm.1 3) f) ∧ (¬ paN (σm.1 3) f = 0 → T.testBit f = true) := fun f hf => by
        obtain ⟨a, s, p, u1, u2, u3, u4, u5, u6, u7, u8, u9, u10⟩ := d5 f hf
        have hlt : p < 1024 := Nat.lt_trans u6 (pow_1024 hf)
        have e : paN (σm.1 3) f = p := by
          unfold paN
          rw [u5, nI_clamp (by omega)]
        rw [e]
        exact ⟨u5, u6, u7, u10⟩
      have hpm : ∀ f, f < 10 → paN (σm.1 3) f < 1024 := fun f hf => Nat.lt_trans (hpa f hf).2.1 (pow_1024 hf)
      have hw : σm.1 0 4 = nI L := by rw [hT.2.1, tk_end hi e3]
      obtain ⟨σm', m1, m2, m3, m4, m5⟩ := m_ev (σ := σm) (T := T) (p := paN (σm.1 3)) hM.1 h8 hw hL hF c d2.2 d1.1 d8 d1.2.2.2 d9 d10 (fun f hf => ⟨(hpa f hf).1, hpm f hf⟩)
      obtain ⟨ρ, a1, a2, a3⟩ := x_judgeV (σ := σx) (T := T) (p := paN (σm.1 3)) hX.1 d2.1 d1.1 d7 d1.2.2.1 (fun f hf => ⟨(hpa f hf).2.2.1, hpm f hf⟩) hX.2.2.1 e1 c
      have o : ∀ a, ¬ a = 155 → ρ.1 a = σx.1 a := a2.1
      have keep : ∀ k, (∀ f, f < 10 → ¬ k = 6 + 4 * f) → σm'.1 3 k = σm.1 3 k := m5
      obtain ⟨σx', b1, b2, b3⟩ := x_settle (σ := ρ) (p := paN (σm.1 3)) (F := F) (A := σm'.1 3) (a2.ref hX.1) (by rw [o 156 (by decide)]; exact d2.1) d1.1 (fun f hf => by rw [o 159 (by decide)]; exact ⟨(hpa f hf).2.2.1, hpm f hf⟩) (fun f hf => by
        obtain ⟨a, s, p, u1, u2, u3, u4, u5, u6, u7, u8, u9, u10⟩ := d5 f (by omega)
        rw [o 158 (by decide), (u8 hf).2, keep (4 + 4 * f) (fun f' _ => by omega), u3])
      refine ⟨σx', σm', ?_, m1, a2.ks.kl.tr ⟨fun a ha => b2.1 a (by omega) (by omega), by rw [b2.1 155 (by decide) (by decide)], by rw [b2.1 155 (by decide) (by decide)], b2.2⟩, m2, _, by rw [b2.1 155 (by decide) (by decide)]; exact a3.1, m3.1, a3.2.2, by rw [b2.1 155 (by decide) (by decide), a3.2.1, m3.2.1], fun z => ?_⟩
      · unfold f_X5_read_115
        rw [r_gi, e1.1, ite_z_t c, r_gi, h7, if_pos (by decide), bo_of r_rc, bd_of a1, r_r0 (a2.ref hX.1), bo_of (crc (v := 156) (by decide)), bd_of b1]
      · have n5 : ¬ P5 (paN (σm.1 3)) 10 := fun y => by
          rw [ci_t y] at z
          exact nt_z (show ¬ (5 : Nat) = 0 by decide) z
        rw [ci_f n5] at z
        have n4 : ¬ P4 T F 10 := fun y => by
          rw [ci_t y] at z
          exact absurd z (show ¬ (4 : Nat) = 0 by decide)
        have ox : ∀ a, ¬ a = 155 → ¬ a = 160 → ¬ a = 161 → σx'.1 a = σx.1 a := fun a x1 x2 x3 => (b2.1 a x2 x3).trans (o a x1)
        have hgr : ∀ f, f < 10 → grP (paN (σm.1 3)) f < 2 ^ f := fun f hf => fld_or_lt 10 (fun i hi => by
          unfold grH
          by_cases y : (paN (σm.1 3) f).testBit i = true
          · rw [if_pos y]
            have hif := tb_lt (hpa f hf).2.1 y
            exact Nat.lt_of_lt_of_le (hpa i hi).2.1 (Nat.pow_le_pow_right (by decide) (by omega))
          · rw [if_neg y]
            exact Nat.two_pow_pos f)
        have hp0 : ∀ f, f < 10 → F ≤ f → paN (σm.1 3) f = 0 ∧ grP (paN (σm.1 3)) f = 0 := fun f hf hFf => by
          have z1 : paN (σm.1 3) f = 0 := Classical.not_not.mp (fun y => n4 ⟨f, hf, (hpa f hf).2.2.2 y, hFf⟩)
          refine ⟨z1, ?_⟩
          have := fld_or_lt (h := grH (paN (σm.1 3)) f) (m := 0) 10 (fun i hi => by
            unfold grH
            rw [z1, Nat.zero_testBit, if_neg (by decide)]
            decide)
          unfold grP
          omega
        refine ⟨⟨?_, ?_, ?_, fun f hf => ⟨fun y => ?_, ?_, ?_⟩, fun w hw y => ?_⟩, F, W, ⟨?_, ?_, d1.1, d1.2.1, ?_, fun f hf => ?_, fun w hw => ?_⟩, fun f hf => ?_⟩
        · rw [ox 156 (by decide) (by decide) (by decide), keep 0 (fun f _ => by omega), d2.1, d2.2]
        · rw [ox 156 (by decide) (by decide) (by decide), keep 1 (fun f _ => by omega), d3.1, d3.2]
        · obtain ⟨b, v1, v2, -⟩ := d4
          rw [ox 156 (by decide) (by decide) (by decide), keep 2 (fun f _ => by omega), v1, v2]
        · rw [keep 0 (fun f _ => by omega), d2.2] at y
          have hfF : f < F := (nI_ltI (by omega) (by omega)).mp y
          obtain ⟨a, s, p, u1, u2, u3, u4, u5, u6, u7, u8, u9, u10⟩ := d5 f hf
          rw [ox (156 + 1) (by decide) (by decide) (by decide), ox (156 + 2) (by decide) (by decide) (by decide), keep (3 + 4 * f) (fun f' _ => by omega), keep (4 + 4 * f) (fun f' _ => by omega), u1, u3]
          exact u8 hfF
        · rw [ox (156 + 3) (by decide) (by decide) (by decide), keep (5 + 4 * f) (fun f' _ => by omega), (hpa f hf).1]
          exact (hpa f hf).2.2.1
        · rw [m4 f hf]
          exact (b3 f hf).1
        · rw [keep 1 (fun f _ => by omega), d3.2] at y
          have hwW : w < W := (nI_ltI (by omega) (by omega)).mp y
          obtain ⟨m, q, u1, u2, u3, u4, u5⟩ := d6 w hw
          rw [ox (156 + 6) (by decide) (by decide) (by decide), ox (156 + 7) (by decide) (by decide) (by decide), keep (43 + 2 * w) (fun f' _ => by omega), keep (44 + 2 * w) (fun f' h' => by omega), u1, u3]
          exact (u5 hwW).2
        · rw [keep 0 (fun f _ => by omega)]; exact d2.2
        · rw [keep 1 (fun f _ => by omega)]; exact d3.2
        · obtain ⟨b, v1, v2, v3⟩ := d4
          exact ⟨b, by rw [keep 2 (fun f _ => by omega)]; exact v2, v3⟩
        · obtain ⟨a, s, p, u1, u2, u3, u4, u5, u6, u7, u8, u9, u10⟩ := d5 f hf
          refine ⟨a, s, paN (σm.1 3) f, grP (paN (σm.1 3)) f, ?_, u2, ?_, u4, ?_, (hpa f hf).2.1, m4 f hf, hgr f hf, fun y => ⟨(u9 y).1, (u9 y).2, hp0 f hf y⟩⟩
          · rw [keep (3 + 4 * f) (fun f' _ => by omega)]; exact u1
          · rw [keep (4 + 4 * f) (fun f' _ => by omega)]; exact u3
          · rw [keep (5 + 4 * f) (fun f' _ => by omega)]; exact (hpa f hf).1
        · obtain ⟨m, q, u1, u2, u3, u4, u5⟩ := d6 w hw
          refine ⟨m, q, ?_, u2, ?_, u4, fun y => (u5 y).1⟩
          · rw [keep (43 + 2 * w) (fun f' _ => by omega)]; exact u1
          · rw [keep (44 + 2 * w) (fun f' h' => by omega)]; exact u3
        · rw [m4 f hf]
          exact (b3 f hf).2
    · refine bad g.1 c e1.2.2 e1.1 hF.1 ?_
      rw [e1.2.1, hF.2.1]
end ENV
/-! ===== text: the told state anew ===== -/
theorem TR_0 {σx σm σx' σm' : Dt} (hT : TR σx σm 1 0) (hx : ∀ a, 2 ≤ a → a ≤ 38 → σx'.1 a = σx.1 a) (hm : ∀ j, j < 1078 → ¬ j = 4 → ¬ j = 5 → ¬ j = 6 → σm'.1 1 j = σm.1 1 j) (h1 : σx'.1 1 1 = 0) (h4 : σm'.1 1 4 = 0) (h5 : σx'.1 1 2 = σm'.1 1 5) (h6 : σx'.1 1 3 = σm'.1 1 6) : TR σx' σm' 1 0 := by
  obtain ⟨c0, c1, c2, L, hb, gm, gx, hf, htp, hv, hl, hs⟩ := hT
  refine ⟨c0, c1, c2, 0, ⟨hb.1, hb.2.1, hb.2.2.1, by decide⟩, ⟨?_, ?_, ?_, h4⟩, ⟨?_, ?_, ?_, h1⟩, ⟨h5, h6⟩, fun i hi => absurd hi (Nat.not_lt_zero i), fun k hk => ?_, fun k hk => ?_, fun k hk => ?_⟩
  · rw [hm _ (by decide) (by decide) (by decide) (by decide)]; exact gm.1
  · rw [hm _ (by decide) (by decide) (by decide) (by decide)]; exact gm.2.1
  · rw [hm _ (by decide) (by decide) (by decide) (by decide)]; exact gm.2.2.1
  · rw [hx _ (by decide) (by decide)]; exact gx.1
  · rw [hx _ (by decide) (by decide)]; exact gx.2.1
  · rw [hx _ (by decide) (by decide)]; exact gx.2.2.1
  · obtain ⟨q1, F, W, q2, q3⟩ := hv k hk
    have e : ∀ i, i < 55 → σm'.1 1 (0 + 610 + 55 * k + i) = σm.1 1 (0 + 610 + 55 * k + i) := fun i hi => hm _ (by omega) (by omega) (by omega) (by omega)
    have c : ∀ d, d ≤ 7 → ∀ j, j < lV d → σx'.1 (1 + 5 + 16 * k + d) j = σx.1 (1 + 5 + 16 * k + d) j := fun d hd j hj => by rw [hx _ (by omega) (by omega)]
    exact ⟨VR_c e c q1, F, W, VW_c e q2, HR_c e q2.2.2.1 c q3⟩
  · obtain ⟨q1, q2⟩ := hl k hk
    have e : ∀ i, i < 161 → σm'.1 1 (0 + 720 + 161 * k + i) = σm.1 1 (0 + 720 + 161 * k + i) := fun i hi => hm _ (by omega) (by omega) (by omega) (by omega)
    exact ⟨LR_c e (fun d hd j hj => by rw [hx _ (by omega) (by omega)]) q1, LW_c e q2⟩
  · obtain ⟨q1, q2⟩ := hs k hk
    have e : ∀ i, i < 18 → σm'.1 1 (0 + 1042 + 18 * k + i) = σm.1 1 (0 + 1042 + 18 * k + i) := fun i hi => hm _ (by omega) (by omega) (by omega) (by omega)
    exact ⟨SR_c e (fun d hd j hj => by rw [hx _ (by omega) (by omega)]) q1, SW_c e q2⟩
def sA (s k : Nat) : Nat := if s = 0 then 6 + 16 * k else if s = 1 then 14 + 16 * k else 19 + 16 * k
def sW (s : Nat) : Nat := if s = 0 then 7 else if s = 1 then 4 else 2
def sP (s k : Nat) : Nat := if s = 0 then 610 + 55 * k else if s = 1 then 720 + 161 * k else 1042 + 18 * k
def sL (s : Nat) : Nat := if s = 0 then 55 else if s = 1 then 161 else 18
/-- one told state more, or another at its place -/
theorem TR_new {σx σm σx' σm' : Dt} {s k c c' : Nat} (hT : TR σx σm 1 0) (hs : s < 3) (hk : k < 2) (hc : σm.1 1 s = nI c) (hc2 : c ≤ 2) (hc' : (c' = c ∧ k < c) ∨ (c' = c + 1 ∧ k = c))
    (hx : ∀ a, 2 ≤ a → a ≤ 37 → (a < sA s k ∨ sA s k + sW s < a) → σx'.1 a = σx.1 a) (hx38 : ∀ j, ¬ j = s → σx'.1 38 j = σx.1 38 j) (hx38s : σx'.1 38 s = nI c')
    (hm : ∀ j, j < 1078 → ¬ j = s → ¬ j = 4 → ¬ j = 5 → ¬ j = 6 → (j < sP s k ∨ sP s k + sL s ≤ j) → σm'.1 1 j = σm.1 1 j) (hms : σm'.1 1 s = nI c')
    (h1 : σx'.1 1 1 = 0) (h4 : σm'.1 1 4 = 0) (h5 : σx'.1 1 2 = σm'.1 1 5) (h6 : σx'.1 1 3 = σm'.1 1 6)
    (n0 : s = 0 → VR σx' (6 + 16 * k) (fun i => σm'.1 1 (610 + 55 * k + i)) ∧ ∃ F W, VW (fun i => σm'.1 1 (610 + 55 * k + i)) F W ∧ HR σx' (6 + 16 * k) (fun i => σm'.1 1 (610 + 55 * k + i)) F)
    (n1 : s = 1 → LR σx' (14 + 16 * k) (fun i => σm'.1 1 (720 + 161 * k + i)) ∧ LW (fun i => σm'.1 1 (720 + 161 * k + i)))
    (n2 : s = 2 → SR σx' (19 + 16 * k) (fun i => σm'.1 1 (1042 + 18 * k + i)) ∧ SW (fun i => σm'.1 1 (1042 + 18 * k + i))) : TR σx' σm' 1 0 := by
  obtain ⟨c0, c1, c2, L, hb, gm, gx, hf, htp, hv, hl, hsi⟩ := hT
  have oldV : ∀ k', k' < c0 → ¬ (s = 0 ∧ k' = k) → VR σx' (1 + 5 + 16 * k') (fun i => σm'.1 1 (0 + 610 + 55 * k' + i)) ∧ ∃ F W, VW (fun i => σm'.1 1 (0 + 610 + 55 * k' + i)) F W ∧ HR σx' (1 + 5 + 16 * k') (fun i => σm'.1 1 (0 + 610 + 55 * k' + i)) F := by
    intro k' hk' hne
    obtain ⟨q1, F, W, q2, q3⟩ := hv k' hk'
    have e : ∀ i, i < 55 → σm'.1 1 (0 + 610 + 55 * k' + i) = σm.1 1 (0 + 610 + 55 * k' + i) := fun i hi => hm _ (by omega) (by omega) (by omega) (by omega) (by omega) (by
      unfold sP sL
      rcases (show s = 0 ∨ s = 1 ∨ s = 2 by omega) with rfl | rfl | rfl
      · show _ < 610 + 55 * k ∨ 610 + 55 * k + 55 ≤ _
        omega
      · show _ < 720 + 161 * k ∨ _
        omega
      · show _ < 1042 + 18 * k ∨ _
        omega)
    have cc : ∀ d, d ≤ 7 → ∀ j, j < lV d → σx'.1 (1 + 5 + 16 * k' + d) j = σx.1 (1 + 5 + 16 * k' + d) j := fun d hd j hj => by
      rw [hx _ (by omega) (by omega) (by
        unfold sA sW
        rcases (show s = 0 ∨ s = 1 ∨ s = 2 by omega) with rfl | rfl | rfl
        · show _ < 6 + 16 * k ∨ 6 + 16 * k + 7 < _
          omega
        · show _ < 14 + 16 * k ∨ 14 + 16 * k + 4 < _
          omega
        · show _ < 19 + 16 * k ∨ 19 + 16 * k + 2 < _
          omega)]
    exact ⟨VR_c e cc q1, F, W, VW_c e q2, HR_c e q2.2.2.1 cc q3⟩
  have oldL : ∀ k', k' < c1 → ¬ (s = 1 ∧ k' = k) → LR σx' (1 + 13 + 16 * k') (fun i => σm'.1 1 (0 + 720 + 161 * k' + i)) ∧ LW (fun i => σm'.1 1 (0 + 720 + 161 * k' + i)) := by
    intro k' hk' hne
    obtain ⟨q1, q2⟩ := hl k' hk'
    have e : ∀ i, i < 161 → σm'.1 1 (0 + 720 + 161 * k' + i) = σm.1 1 (0 + 720 + 161 * k' + i) := fun i hi => hm _ (by omega) (by omega) (by omega) (by omega) (by omega) (by
      unfold sP sL
      rcases (show s = 0 ∨ s = 1 ∨ s = 2 by omega) with rfl | rfl | rfl
      · show _ ∨ 610 + 55 * k + 55 ≤ _
        omega
      · show _ < 720 + 161 * k ∨ 720 + 161 * k + 161 ≤ _
        omega
      · show _ < 1042 + 18 * k ∨ _
        omega)
    refine ⟨LR_c e (fun d hd j hj => ?_) q1, LW_c e q2⟩
    rw [hx _ (by omega) (by omega) (by
      unfold sA sW
      rcases (show s = 0 ∨ s = 1 ∨ s = 2 by omega) with rfl | rfl | rfl
      · show _ < 6 + 16 * k ∨ 6 + 16 * k + 7 < _
        omega
      · show _ < 14 + 16 * k ∨ 14 + 16 * k + 4 < _
        omega
      · show _ < 19 + 16 * k ∨ 19 + 16 * k + 2 < _
        omega)]
  have oldS : ∀ k', k' < c2 → ¬ (s = 2 ∧ k' = k) → SR σx' (1 + 18 + 16 * k') (fun i => σm'.1 1 (0 + 1042 + 18 * k' + i)) ∧ SW (fun i => σm'.1 1 (0 + 1042 + 18 * k' + i)) := by
    intro k' hk' hne
    obtain ⟨q1, q2⟩ := hsi k' hk'
    have e : ∀ i, i < 18 → σm'.1 1 (0 + 1042 + 18 * k' + i) = σm.1 1 (0 + 1042 + 18 * k' + i) := fun i hi => hm _ (by omega) (by omega) (by omega) (by omega) (by omega) (by
      unfold sP sL
      rcases (show s = 0 ∨ s = 1 ∨ s = 2 by omega) with rfl | rfl | rfl
      · show _ ∨ 610 + 55 * k + 55 ≤ _
        omega
      · show _ ∨ 720 + 161 * k + 161 ≤ _
        omega
      · show _ < 1042 + 18 * k ∨ 1042 + 18 * k + 18 ≤ _
        omega)
    refine ⟨SR_c e (fun d hd j hj => ?_) q1, SW_c e q2⟩
    rw [hx _ (by omega) (by omega) (by
      unfold sA sW
      rcases (show s = 0 ∨ s = 1 ∨ s = 2 by omega) with rfl | rfl | rfl
      · show _ < 6 + 16 * k ∨ 6 + 16 * k + 7 < _
        omega
      · show _ < 14 + 16 * k ∨ 14 + 16 * k + 4 < _
        omega
      · show _ < 19 + 16 * k ∨ 19 + 16 * k + 2 < _
        omega)]
  have e1 : ∀ k i, (0 + 610 + 55 * k + i) = 610 + 55 * k + i := fun k i => by omega
  have e2 : ∀ k i, (0 + 720 + 161 * k + i) = 720 + 161 * k + i := fun k i => by omega
  have e3 : ∀ k i, (0 + 1042 + 18 * k + i) = 1042 + 18 * k + i := fun k i => by omega
  have hmo : ∀ j, j < 3 → ¬ j = s → σm'.1 1 (0 + j) = σm.1 1 (0 + j) := fun j hj hne => by
    rw [Nat.zero_add]
    refine hm _ (by omega) (by omega) (by omega) (by omega) (by omega) (Or.inl ?_)
    unfold sP
    rcases (show s = 0 ∨ s = 1 ∨ s = 2 by omega) with rfl | rfl | rfl
    · show _ < 610 + 55 * k
      omega
    · show _ < 720 + 161 * k
      omega
    · show _ < 1042 + 18 * k
      omega
  rcases (show s = 0 ∨ s = 1 ∨ s = 2 by omega) with rfl | rfl | rfl
  · have ec : c = c0 := (nI_eq (by omega) (by omega)).mp (hc.symm.trans gm.1)
    refine ⟨c', c1, c2, 0, ⟨by omega, hb.2.1, hb.2.2.1, by decide⟩, ⟨hms, (hmo 1 (by decide) (by decide)).trans gm.2.1, (hmo 2 (by decide) (by decide)).trans gm.2.2.1, h4⟩, ⟨hx38s, (hx38 1 (by decide)).trans gx.2.1, (hx38 2 (by decide)).trans gx.2.2.1, h1⟩, ⟨h5, h6⟩, fun i hi => absurd hi (Nat.not_lt_zero i), fun k' hk' => ?_, fun k' hk' => oldL k' hk' (by omega), fun k' hk' => oldS k' hk' (by omega)⟩
    by_cases w : k' = k
    · subst w
      have n := n0 rfl
      simp only [e1, show 1 + 5 + 16 * k' = 6 + 16 * k' by omega]
      exact n
    · exact oldV k' (by omega) (by omega)
  · have ec : c = c1 := (nI_eq (by omega) (by omega)).mp (hc.symm.trans gm.2.1)
    refine ⟨c0, c', c2, 0, ⟨hb.1, by omega, hb.2.2.1, by decide⟩, ⟨(hmo 0 (by decide) (by decide)).trans gm.1, hms, (hmo 2 (by decide) (by decide)).trans gm.2.2.1, h4⟩, ⟨(hx38 0 (by decide)).trans gx.1, hx38s, (hx38 2 (by decide)).trans gx.2.2.1, h1⟩, ⟨h5, h6⟩, fun i hi => absurd hi (Nat.not_lt_zero i), fun k' hk' => oldV k' hk' (by omega), fun k' hk' => ?_, fun k' hk' => oldS k' hk' (by omega)⟩
    by_cases w : k' = k
    · subst w
      have n := n1 rfl
      simp only [e2, show 1 + 13 + 16 * k' = 14 + 16 * k' by omega]
      exact n
    · exact oldL k' (by omega) (by omega)
  · have ec : c = c2 := (nI_eq (by omega) (by omega)).mp (hc.symm.trans gm.2.2.1)
    refine ⟨c0, c1, c', 0, ⟨hb.1, hb.2.1, by omega, by decide⟩, ⟨(hmo 0 (by decide) (by decide)).trans gm.1, (hmo 1 (by decide) (by decide)).trans gm.2.1, hms, h4⟩, ⟨(hx38 0 (by decide)).trans gx.1, (hx38 1 (by decide)).trans gx.2.1, hx38s, h1⟩, ⟨h5, h6⟩, fun i hi => absurd hi (Nat.not_lt_zero i), fun k' hk' => oldV k' hk' (by omega), fun k' hk' => oldL k' hk' (by omega), fun k' hk' => ?_⟩
    by_cases w : k' = k
    · subst w
      have n := n2 rfl
      simp only [e3, show 1 + 18 + 16 * k' = 19 + 16 * k' by omega]
      exact n
    · exact oldS k' (by omega) (by omega)
