/-! ===== dare: the search, level by level ===== -/
def Lv (σ : Dt) (a tk sy : Nat) (ld : Int) : Prop := σ.1 5 a = nI tk ∧ σ.1 6 a = nI sy ∧ σ.1 9 a = jI ld
def Fr (σ : Dt) (a : Nat) : Prop := σ.1 7 a = -1 ∧ σ.1 8 a = 99999999
def ctk (w tk : Nat) : Nat := if w = 6 then tk else tk ||| 2 ^ w
def csy (K : Nat → Nat) (w sy : Nat) : Nat := if w = 6 then sy else nsy K sy w
def cwo (wo : Nat → Nat) (w : Nat) : Int := if w = 6 then 0 else (wo w : Int)
theorem gC_e {K wo : Nat → Nat} {W t tk sy w : Nat} : gC K wo W t tk sy w = cwo wo w - ldI K wo W t (ctk w tk) (csy K w sy) := by
  unfold gC cwo ctk csy
  by_cases c : w = 6
  · rw [if_pos c, if_pos c, if_pos c, if_pos c, Int.zero_sub]
  · rw [if_neg c, if_neg c, if_neg c, if_neg c]; rfl
noncomputable def pS (σ : Dt) (a w tk' sy' : Nat) (ld' : Int) : Dt := setX (setX (setX (setX σ 7 a (nI w)) 5 (a + 1) (nI tk')) 6 (a + 1) (nI sy')) 9 (a + 1) (jI ld')
section DAS
variable {σ : Dt} {o F W : Nat} {A : Nat → Int32}
theorem m_dares (h : MV σ o A F W) {a w tk sy : Nat} {ld : Int} (ha : a < 4) (hw : alC (kpN A F W 9) W tk sy w) (htk : tk < 64) (hsy : sy < 1024) (hL : Lv σ a tk sy ld) : f_X12_dares 0 (nI a) (nI w) σ = some ((), pS σ a w (ctk w tk) (csy (kpN A F W 9) w sy) (ld + sg a * cwo (woN A) w)) := by
  have hF := h.F10
  have hW := h.W6
  obtain ⟨l1, l2, l3⟩ := hL
  have e2 : nI a - nI a / (2 : Int32) * (2 : Int32) = nI (a % 2) := pk_rem (d := 2) (by omega) (by decide) (by decide)
  obtain ⟨s1, hs1⟩ : ∃ s, s = setX σ 7 a (nI w) := ⟨_, rfl⟩
  have h1 : MV s1 o A F W := by rw [hs1]; exact (KM_set (by decide)).mv h
  have r5 : s1.1 5 a = nI tk := by rw [hs1, setX_o (by decide)]; exact l1
  have r6 : s1.1 6 a = nI sy := by rw [hs1, setX_o (by decide)]; exact l2
  have r9 : s1.1 9 a = jI ld := by rw [hs1, setX_o (by decide)]; exact l3
  obtain ⟨s2, hs2⟩ : ∃ s, s = setX s1 5 (a + 1) (nI (ctk w tk)) := ⟨_, rfl⟩
  have h2 : MV s2 o A F W := by rw [hs2]; exact (KM_set (by decide)).mv h1
  have q6 : s2.1 6 a = nI sy := by rw [hs2, setX_o (by decide)]; exact r6
  have q9 : s2.1 9 a = jI ld := by rw [hs2, setX_o (by decide)]; exact r9
  obtain ⟨s3, hs3⟩ : ∃ s, s = setX s2 6 (a + 1) (nI (csy (kpN A F W 9) w sy)) := ⟨_, rfl⟩
  have h3 : MV s3 o A F W := by rw [hs3]; exact (KM_set (by decide)).mv h2
  have p9 : s3.1 9 a = jI ld := by rw [hs3, setX_o (by decide)]; exact q9
  have fin : pS σ a w (ctk w tk) (csy (kpN A F W 9) w sy) (ld + sg a * cwo (woN A) w) = setX s3 9 (a + 1) (jI (ld + sg a * cwo (woN A) w)) := by
    rw [hs3, hs2, hs1]; rfl
  rw [fin]
  have o0 : ∀ x, nI x ||| (0 : Int32) = nI x := fun x => by rw [show (0 : Int32) = nI 0 from rfl, nI_or, Nat.or_zero]
  unfold f_X12_dares f_X12_dares_33 f_X12_dares_66 f_X12_dares_111
  rw [mr17 h.1, dsi (by decide) (by decide) (by omega), ← hs1, mr15 h1.1, mr15 h1.1, dai (by decide) (by decide) (by omega), r5, nI_1]
  by_cases c : w = 6
  · have k1 : ctk w tk = tk := if_pos c
    have k2 : csy (kpN A F W 9) w sy = sy := if_pos c
    have k3 : cwo (woN A) w = 0 := if_pos c
    have k4 : nI w = 6 := by rw [c]; rfl
    rw [k1] at hs2
    rw [k2] at hs3
    rw [k4, if_pos (by decide), o0, dsi (by decide) (by decide) (by omega), ← hs2, mr16 h2.1, mr16 h2.1, dai (by decide) (by decide) (by omega), q6, if_pos (by decide), o0, dsi (by decide) (by decide) (by omega), ← hs3, mr19 h3.1, mr19 h3.1, dai (by decide) (by decide) (by omega), p9, if_pos rfl, dsi (by decide) (by decide) (by omega), k3, Int.mul_zero, Int.add_zero, Int32.add_zero]
  · have hal : alw (kpN A F W 9) W tk sy w := hw.elim (fun z => absurd z c) id
    have hw6 := hal.1
    have k1 : ctk w tk = tk ||| 2 ^ w := if_neg c
    have k2 : csy (kpN A F W 9) w sy = sy ||| 2 ^ lob (nsub (kpN A F W 9 w) sy) := if_neg c
    have k3 : cwo (woN A) w = (woN A w : Int) := if_neg c
    have hlt : nsub (kpN A F W 9 w) sy < 1024 := Nat.lt_of_le_of_lt (nsub_le _ _) (kpN_lt hF)
    have hlb := (lob_P hlt hal.2.2).1
    rw [k1] at hs2
    rw [k2] at hs3
    have n6 : ¬ (6 : Int32) ≤ nI w := nI_ge (b := 6) (by omega) (by decide)
    have n7 : ¬ nI w = (6 : Int32) := fun z => absurd ((nI_eq (b := 6) (by omega) (by decide)).mp z) (by omega)
    rw [if_neg n6, shl1 (by omega), nI_or, dsi (by decide) (by decide) (by omega), ← hs2, mr16 h2.1, mr16 h2.1, dai (by decide) (by decide) (by omega), q6, if_neg n6, bo_of mrc, bo_of (m_darer h2 (by omega) hw6 q6 hsy), if_neg hal.2.2, shl1 (by omega), nI_or, dsi (by decide) (by decide) (by omega), ← hs3, mr19 h3.1, mr19 h3.1, dai (by decide) (by decide) (by omega), p9, if_neg n7, e2, bo_of mrc, bo_of (mwor h3 (by omega)), bo_of mrc, bo_of (mwor h3 (by omega)), jI_n (woN A w), jI_neg, k3]
    rcases sg_2 a with ⟨g, e⟩ | ⟨g, e⟩
    · rw [ite_z_t e, jI_add, dsi (by decide) (by decide) (by omega), g, Int.one_mul]
    · rw [ite_z_f (by omega) e, jI_add, dsi (by decide) (by decide) (by omega), g, Int.neg_mul, Int.one_mul]
theorem m_laysT (hR : RefM σ) {a : Nat} (ha : a < 6) : f_X12_laysTurn 0 (nI a) σ = some ((), setX (setX σ 7 a (-1)) 8 a 99999999) := by
  unfold f_X12_laysTurn
  rw [mr17 hR, dsi (by decide) (by decide) ha, mr18 (show RefM (setX σ 7 a (-1)) from hR), dsi (by decide) (by decide) ha]
theorem m_push (h : MV σ o A F W) {n a c tk sy : Nat} {ld : Int} (ha : a < n) (hn : n ≤ 4) (hc : c ≤ 6) (htk : tk < 64) (hsy : sy < 1024) (hL : Lv σ a tk sy ld) (h7 : σ.1 7 a + 1 = nI c) : ∃ w τ, c ≤ w ∧ w ≤ 6 ∧ alC (kpN A F W 9) W tk sy w ∧ (∀ x, c ≤ x → x < w → ¬ alC (kpN A F W 9) W tk sy x) ∧ f_X12_dareOf_L28 0 (nI n) (nI a) σ = some (.inl (nI (a + 1), τ)) ∧ KM σ τ ∧ (∀ b j, ¬ j = a + 1 → ¬ (b = 7 ∧ j = a) → τ.1 b j = σ.1 b j) ∧ τ.1 7 a = nI w ∧ Lv τ (a + 1) (ctk w tk) (csy (kpN A F W 9) w sy) (ld + sg a * cwo (woN A) w) ∧ Fr τ (a + 1) := by
  obtain ⟨w, w1, w2, w3, w4, w5⟩ := m_nextw (x1 := nI n) h (show a < 6 by omega) hc hL.1 htk hL.2.1 hsy
  have hp := m_dares h (show a < 4 by omega) (show alC (kpN A F W 9) W tk sy w from w3) htk hsy hL
  obtain ⟨p, hpe⟩ : ∃ p, p = pS σ a w (ctk w tk) (csy (kpN A F W 9) w sy) (ld + sg a * cwo (woN A) w) := ⟨_, rfl⟩
  have hk : KM σ p := by
    rw [hpe]
    exact (((KM_set (by decide)).tr (KM_set (by decide))).tr (KM_set (by decide))).tr (KM_set (by decide))
  rw [← hpe] at hp
  refine ⟨w, setX (setX p 7 (a + 1) (-1)) 8 (a + 1) 99999999, w1, w2, w3, ?_, ?_, (hk.tr (KM_set (by decide))).tr (KM_set (by decide)), ?_, ?_, ⟨?_, ?_, ?_⟩, ?_, ?_⟩
  · intro x x1 x2 z
    rcases z with z | z
    · omega
    · exact w4 x x1 x2 z
  · unfold f_X12_dareOf_L28 f_X12_dareOf_50 f_X12_dareOf_72
    rw [if_neg (nI_pos (by omega)), if_neg (show ¬ nI a = nI n from fun z => absurd ((nI_eq (by omega) (by omega)).mp z) (by omega)), mr17 h.1, dai (by decide) (by decide) (by omega), h7, bo_of w5, if_pos (show nI w ≤ (6 : Int32) from nI_le (b := 6) w2 (by decide)), bo_of mrc, bd_of hp, bo_of mrc, nI_1, bd_of (m_laysT (hk.ref h.1) (by omega))]
  · intro b j j1 j2
    rw [setX_ne (fun z => j1 z.2), setX_ne (fun z => j1 z.2), hpe]
    unfold pS
    rw [setX_ne (fun z => j1 z.2), setX_ne (fun z => j1 z.2), setX_ne (fun z => j1 z.2), setX_ne j2]
  · rw [setX_o (by decide), setX_n (by omega), hpe]
    unfold pS
    rw [setX_o (by decide), setX_o (by decide), setX_o (by decide), setX_j]
  · rw [setX_o (by decide), setX_o (by decide), hpe]
    unfold pS
    rw [setX_o (by decide), setX_o (by decide), setX_j]
  · rw [setX_o (by decide), setX_o (by decide), hpe]
    unfold pS
    rw [setX_o (by decide), setX_j]
  · rw [setX_o (by decide), setX_o (by decide), hpe]
    unfold pS
    rw [setX_j]
  · rw [setX_o (by decide), setX_j]
  · rw [setX_j]
noncomputable def popS (σ : Dt) (a : Nat) (v : Int32) : Int32 × Dt := (nI a + (-1), if a = 0 then σ else cbS σ (a - 1) v)
theorem m_pop (hR : RefM σ) {a : Nat} {x1 v : Int32} (ha : a < 6) (hv : σ.1 8 a = v) : f_X12_dareOf_95 0 x1 (nI a) σ = some (.inl (popS σ a v)) := by
  unfold f_X12_dareOf_95 popS
  rcases (show a = 0 ∨ ∃ p, a = p + 1 from by cases a with | zero => exact Or.inl rfl | succ p => exact Or.inr ⟨p, rfl⟩) with c | ⟨p, rfl⟩
  · subst c
    rw [if_pos (by decide), if_pos rfl]
  · have e : nI (p + 1) + (-1) = nI p := by rw [← Int32.sub_eq_add_neg, nI_pred]
    rw [e, if_neg (nI_pos (by omega)), mr18 hR, nI_1, dai (by decide) (by decide) ha, hv, bo_of mrc, bd_of (m_comes hR (show p < 6 by omega) v), if_neg (show ¬ p + 1 = 0 by omega), Nat.add_sub_cancel]
theorem it_7 {x1 : Int32} {a : Nat} : iter FU (fun q => f_X12_dareOf_L51 0 x1 (nI a) q σ) (7 : Int32) = some 7 := by
  refine iter_n (f := fun q : Int32 => f_X12_dareOf_L51 0 x1 (nI a) q σ) (fun _ => (7 : Int32)) 7 0 (by decide) (fun j hj => absurd hj (Nat.not_lt_zero j)) ?_
  show f_X12_dareOf_L51 _ _ _ _ _ = _
  unfold f_X12_dareOf_L51
  rw [if_pos (by decide)]
theorem m_leaf (hR : RefM σ) {n : Nat} {v : Int32} (hn : n ≤ 4) (h9 : σ.1 9 n = v) : f_X12_dareOf_L28 0 (nI n) (nI n) σ = some (.inl (popS (setX σ 8 n v) n v)) := by
  unfold f_X12_dareOf_L28 f_X12_dareOf_50 f_X12_dareOf_72
  rw [if_neg (nI_pos (by omega)), if_pos rfl, bo_of it_7, if_neg (by decide), if_pos rfl, mr18 hR, mr19 hR, dai (by decide) (by decide) (by omega), h9, dsi (by decide) (by decide) (by omega), m_pop (show RefM (setX σ 8 n v) from hR) (by omega) setX_j]
theorem m_last (hR : RefM σ) {n a : Nat} {v : Int32} (ha : a < n) (hn : n ≤ 4) (h7 : σ.1 7 a + 1 = nI 7) (h8 : σ.1 8 a = v) : f_X12_dareOf_L28 0 (nI n) (nI a) σ = some (.inl (popS σ a v)) := by
  have ne : ¬ nI a = nI n := fun z => absurd ((nI_eq (by omega) (by omega)).mp z) (by omega)
  unfold f_X12_dareOf_L28 f_X12_dareOf_50 f_X12_dareOf_72
  rw [if_neg (nI_pos (by omega)), if_neg ne, mr17 hR, dai (by decide) (by decide) (by omega), h7, bo_of (show iter FU (fun q => f_X12_dareOf_L51 0 (nI n) (nI a) q σ) (nI 7) = some 7 from it_7), if_neg (by decide), if_neg ne, m_pop hR (by omega) h8]
end DAS
noncomputable def bsV (ld : Int) (a : Nat) : Option (Int × Nat) → Int32
  | none => 99999999
  | some b => jI (ld + sg a * b.1)
noncomputable def ttV (x : Int32) : Option (Int × Nat) → Int32
  | none => x
  | some b => nI b.2
noncomputable def nxV (mx : Option (Int × Nat)) (v : Int) (w : Nat) : Option (Int × Nat) := match mx with
  | none => some (v, w)
  | some b => if v ≤ b.1 then some b else some (v, w)
theorem mxG_n {al : Nat → Prop} {g : Nat → Int} {w : Nat} (h : al w) : mxG al g (w + 1) = nxV (mxG al g w) (g w) w := by
  rw [mxG, ci_t h]
  rfl
theorem cb_S {ρ : Dt} {a w : Nat} {ld v : Int} {x y : Int32} {mx : Option (Int × Nat)} (hb : ρ.1 8 a = bsV ld a mx) (b1 : -1000 ≤ ld ∧ ld ≤ 1000) (b2 : -1000 ≤ v ∧ v ≤ 1000) (b3 : ∀ b, mx = some b → -1000 ≤ b.1 ∧ b.1 ≤ 1000) (h7 : ρ.1 7 a = nI w) (h20 : ρ.1 0 20 = if a = 0 then ttV x mx else y) : (cbS ρ a (jI (ld + sg a * v))).1 8 a = bsV ld a (nxV mx v w) ∧ (cbS ρ a (jI (ld + sg a * v))).1 0 20 = if a = 0 then ttV x (nxV mx v w) else y := by
  have main : (ρ.1 8 a = 99999999 ∨ (a % 2 = 0 ∧ ρ.1 8 a < jI (ld + sg a * v)) ∨ (¬ a % 2 = 0 ∧ jI (ld + sg a * v) < ρ.1 8 a)) ↔ nxV mx v w = some (v, w) ∧ ∀ b, mx = some b → b.1 < v := by
    cases mx with
    | none =>
      refine ⟨fun _ => ⟨rfl, fun b z => by cases z⟩, fun _ => Or.inl hb⟩
    | some b =>
      have b4 := b3 b rfl
      have hb' : ρ.1 8 a = jI (ld + sg a * b.1) := hb
      have nf : ¬ jI (ld + sg a * b.1) = 99999999 := by
        rcases sg_2 a with ⟨g, -⟩ | ⟨g, -⟩
        · rw [g, Int.one_mul, show (99999999 : Int32) = jI 99999999 from rfl, jI_eq (by omega) (by omega) (by omega) (by omega)]; omega
        · rw [g, Int.neg_mul, Int.one_mul, show (99999999 : Int32) = jI 99999999 from rfl, jI_eq (by omega) (by omega) (by omega) (by omega)]; omega
      rw [hb']
      have e1 : (nxV (some b) v w = some (v, w) ∧ ∀ b', some b = some b' → b'.1 < v) ↔ b.1 < v := by
        constructor
        · intro z; exact z.2 b rfl
        · intro z
          refine ⟨if_neg (by omega), fun b' e => ?_⟩
          cases e
          exact z
      rw [e1]
      rcases sg_2 a with ⟨g, e⟩ | ⟨g, e⟩
      · rw [g, Int.one_mul, Int.one_mul, jI_lt (by omega) (by omega) (by omega) (by omega)]
        rw [g, Int.one_mul] at nf
        constructor
        · rintro (z | z | z)
          · exact absurd z nf
          · omega
          · exact absurd e z.1
        · intro z; exact Or.inr (Or.inl ⟨e, by omega⟩)
      · rw [g, Int.neg_mul, Int.neg_mul, Int.one_mul, Int.one_mul, jI_lt (x := ld + -v) (by omega) (by omega) (by omega) (by omega)]
        rw [g, Int.neg_mul, Int.one_mul] at nf
        constructor
        · rintro (z | z | z)
          · exact absurd z nf
          · exact absurd z.1 e
          · omega
        · intro z; exact Or.inr (Or.inr ⟨e, by omega⟩)
  unfold cbS
  by_cases c : ρ.1 8 a = 99999999 ∨ (a % 2 = 0 ∧ ρ.1 8 a < jI (ld + sg a * v)) ∨ (¬ a % 2 = 0 ∧ jI (ld + sg a * v) < ρ.1 8 a)
  · rw [ci_t c, (main.mp c).1]
    by_cases d : a = 0
    · rw [if_pos d, if_pos d, setX_o (by decide), setX_j, setX_j]
      refine ⟨rfl, ?_⟩
      subst d
      exact h7
    · rw [if_neg d, if_neg d, setX_j, setX_o (by decide), h20, if_neg d]
      exact ⟨rfl, rfl⟩
  · rw [ci_f c]
    have e : nxV mx v w = mx := by
      cases mx with
      | none => exact absurd (Or.inl hb) c
      | some b =>
        by_cases d : v ≤ b.1
        · exact if_pos d
        · refine absurd (main.mpr ⟨if_neg d, fun b' e => ?_⟩) c
          cases e
          omega
    rw [e]
    exact ⟨hb, h20⟩
noncomputable def tsV (K wo : Nat → Nat) (W : Nat) (x : Int32) (tk sy : Nat) : Nat → Int32
  | 0 => x
  | t + 1 => ttV x (mxG (alC K W tk sy) (gC K wo W t tk sy) 7)
def TD : Nat → Nat
  | 0 => 1
  | t + 1 => 7 * (1 + TD t) + 1
theorem ctk_lt {w tk : Nat} (hw : w ≤ 6) (h : tk < 64) : ctk w tk < 64 := by
  unfold ctk
  by_cases c : w = 6
  · rw [if_pos c]; exact h
  · rw [if_neg c]; exact or_lt (n := 6) h (Nat.pow_lt_pow_right (by decide) (by omega))
theorem csy_lt {K : Nat → Nat} {W w tk sy : Nat} (hK : ∀ w, K w < 1024) (hw : alC K W tk sy w) (h : sy < 1024) : csy K w sy < 1024 := by
  unfold csy
  by_cases c : w = 6
  · rw [if_pos c]; exact h
  · rw [if_neg c]; exact nsy_lt (hK w) h (hw.elim (fun z => absurd z c) (fun z => z.2.2))
section DFS
variable {o F W : Nat} {A : Nat → Int32}
theorem cwo_b (h : VW A F W) {w tk sy : Nat} {K : Nat → Nat} (hw : alC K W tk sy w) : 0 ≤ cwo (woN A) w ∧ cwo (woN A) w ≤ 20 := by
  unfold cwo
  by_cases c : w = 6
  · rw [if_pos c]; omega
  · rw [if_neg c]
    have h1 : w < W := hw.elim (fun z => absurd z c) (fun z => z.1)
    have hW : W ≤ 6 := h.2.2.2.1
    have := (h.wk (show w < 6 by omega)).2.1.2
    omega
theorem m_dfs {n : Nat} (hn : n ≤ 4) : ∀ (t a tk sy : Nat) (ld : Int) (σ : Dt), a + t = n → MV σ o A F W → tk < 64 → sy < 1024 → -(20 * (a : Int)) ≤ ld → ld ≤ 20 * (a : Int) → Lv σ a tk sy ld → Fr σ a → ∃ k ρ, k ≤ TD t ∧ stp (fun q : Int32 × Dt => f_X12_dareOf_L28 0 (nI n) q.1 q.2) k (nI a, σ) = some (popS ρ a (jI (ld + sg a * ldI (kpN A F W 9) (woN A) W t tk sy))) ∧ KM σ ρ ∧ (∀ b j, j < a → ρ.1 b j = σ.1 b j) ∧ ρ.1 8 a = jI (ld + sg a * ldI (kpN A F W 9) (woN A) W t tk sy) ∧ ρ.1 0 20 = if a = 0 then tsV (kpN A F W 9) (woN A) W (σ.1 0 20) tk sy t else σ.1 0 20 := by
  intro t
  induction t with
  | zero =>
    intro a tk sy ld σ e hM htk hsy b1 b2 hL hF
    have e' : a = n := e
    subst e'
    have hv : ld + sg a * ldI (kpN A F W 9) (woN A) W 0 tk sy = ld := by
      show ld + sg a * 0 = ld
      rw [Int.mul_zero, Int.add_zero]
    rw [hv]
    refine ⟨1, setX σ 8 a (jI ld), Nat.le_refl _, stp_1 (m_leaf hM.1 hn hL.2.2), KM_set (by decide), fun b j hj => setX_ne (fun z => by omega), setX_j, ?_⟩
    rw [setX_o (by decide)]
    by_cases c : a = 0
    · rw [if_pos c]; rfl
    · rw [if_neg c]
  | succ t ih =>
    intro a tk sy ld σ e hM htk hsy b1 b2 hL hF
    have hF10 := hM.F10
    have hW := hM.W6
    have hvw := hM.vw
    have hwo : ∀ w, w < W → woN A w ≤ 20 := fun w hw => (hvw.wk (show w < 6 by omega)).2.1.2
    have hKl : ∀ w, kpN A F W 9 w < 1024 := fun w => kpN_lt hF10
    obtain ⟨am, m1, -⟩ := mx_ld (K := kpN A F W 9) (wo := woN A) (W := W) (t := t) (tk := tk) (sy := sy) hW
    have gb : ∀ w, w ≤ 6 → alC (kpN A F W 9) W tk sy w → -1000 ≤ gC (kpN A F W 9) (woN A) W t tk sy w ∧ gC (kpN A F W 9) (woN A) W t tk sy w ≤ 1000 := by
      intro w hw ha
      rw [gC_e]
      have q1 := cwo_b hvw ha
      have q2 := ldI_b (K := kpN A F W 9) hwo t (ctk w tk) (csy (kpN A F W 9) w sy)
      omega
    have inner : ∀ (m c : Nat) (τ : Dt), c ≤ 7 → 7 - c ≤ m → KM σ τ → (∀ b j, j < a → τ.1 b j = σ.1 b j) → Lv τ a tk sy ld → τ.1 7 a + 1 = nI c → τ.1 8 a = bsV ld a (mxG (alC (kpN A F W 9) W tk sy) (gC (kpN A F W 9) (woN A) W t tk sy) c) → (τ.1 0 20 = if a = 0 then ttV (σ.1 0 20) (mxG (alC (kpN A F W 9) W tk sy) (gC (kpN A F W 9) (woN A) W t tk sy) c) else σ.1 0 20) → ∃ k ρ, k ≤ m * (1 + TD t) + 1 ∧ stp (fun q : Int32 × Dt => f_X12_dareOf_L28 0 (nI n) q.1 q.2) k (nI a, τ) = some (popS ρ a (jI (ld + sg a * ldI (kpN A F W 9) (woN A) W (t + 1) tk sy))) ∧ KM σ ρ ∧ (∀ b j, j < a → ρ.1 b j = σ.1 b j) ∧ ρ.1 8 a = jI (ld + sg a * ldI (kpN A F W 9) (woN A) W (t + 1) tk sy) ∧ ρ.1 0 20 = if a = 0 then tsV (kpN A F W 9) (woN A) W (σ.1 0 20) tk sy (t + 1) else σ.1 0 20 := by
      intro m
      induction m with
      | zero =>
        intro c τ c1 c2 hK hr hL' h7 h8 h20
        have hc : c = 7 := by omega
        subst hc
        have h8' : τ.1 8 a = jI (ld + sg a * ldI (kpN A F W 9) (woN A) W (t + 1) tk sy) := by
          rw [h8, m1]; rfl
        exact ⟨1, τ, by omega, stp_1 (m_last (hK.ref hM.1) (by omega) hn h7 h8'), hK, hr, h8', h20⟩
      | succ m ihm =>
        intro c τ c1 c2 hK hr hL' h7 h8 h20
        rcases (show c = 7 ∨ c ≤ 6 by omega) with hc | hc
        · subst hc
          have h8' : τ.1 8 a = jI (ld + sg a * ldI (kpN A F W 9) (woN A) W (t + 1) tk sy) := by
            rw [h8, m1]; rfl
          exact ⟨1, τ, by omega, stp_1 (m_last (hK.ref hM.1) (by omega) hn h7 h8'), hK, hr, h8', h20⟩
        · obtain ⟨w, u, w1, w2, w3, w4, u1, u2, u3, u4, u5, u6⟩ := m_push (hK.mv hM) (show a < n by omega) hn hc htk hsy hL' h7
          have q1 := cwo_b hvw w3
          have q2 : -(20 * ((a + 1 : Nat) : Int)) ≤ ld + sg a * cwo (woN A) w ∧ ld + sg a * cwo (woN A) w ≤ 20 * ((a + 1 : Nat) : Int) := by
            rcases sg_2 a with ⟨g, -⟩ | ⟨g, -⟩
            · rw [g, Int.one_mul]; omega
            · rw [g, Int.neg_mul, Int.one_mul]; omega
          obtain ⟨k, ρ, k1, k2, k3, k4, k5, k6⟩ := ih (a + 1) (ctk w tk) (csy (kpN A F W 9) w sy) (ld + sg a * cwo (woN A) w) u (by omega) (u2.mv (hK.mv hM)) (ctk_lt w2 htk) (csy_lt hKl w3 hsy) q2.1 q2.2 u5 u6
          have hv : ld + sg a * cwo (woN A) w + sg (a + 1) * ldI (kpN A F W 9) (woN A) W t (ctk w tk) (csy (kpN A F W 9) w sy) = ld + sg a * gC (kpN A F W 9) (woN A) W t tk sy w := by
            rw [gC_e, sg_s, Int.neg_mul, Int.mul_sub]
            omega
          rw [hv] at k2 k5
          have hpop : popS ρ (a + 1) (jI (ld + sg a * gC (kpN A F W 9) (woN A) W t tk sy w)) = (nI a, cbS ρ a (jI (ld + sg a * gC (kpN A F W 9) (woN A) W t tk sy w))) := by
            unfold popS
            rw [if_neg (show ¬ a + 1 = 0 by omega), Nat.add_sub_cancel, ← Int32.sub_eq_add_neg, nI_pred]
          rw [hpop] at k2
          have hsk : mxG (alC (kpN A F W 9) W tk sy) (gC (kpN A F W 9) (woN A) W t tk sy) w = mxG (alC (kpN A F W 9) W tk sy) (gC (kpN A F W 9) (woN A) W t tk sy) c := by
            have := mxG_skip (al := alC (kpN A F W 9) W tk sy) (g := gC (kpN A F W 9) (woN A) W t tk sy) (c := c) (w - c) (fun x x1 x2 => w4 x x1 (by omega))
            rw [show c + (w - c) = w by omega] at this
            exact this
          have t8 : ρ.1 8 a = bsV ld a (mxG (alC (kpN A F W 9) W tk sy) (gC (kpN A F W 9) (woN A) W t tk sy) w) := by
            rw [k4 8 a (by omega), u3 8 a (by omega) (fun z => absurd z.1 (by decide)), h8, hsk]
          have t7 : ρ.1 7 a = nI w := by rw [k4 7 a (by omega), u4]
          have t20 : ρ.1 0 20 = if a = 0 then ttV (σ.1 0 20) (mxG (alC (kpN A F W 9) W tk sy) (gC (kpN A F W 9) (woN A) W t tk sy) w) else σ.1 0 20 := by
            rw [k6, if_neg (show ¬ a + 1 = 0 by omega), u3 0 20 (by omega) (fun z => absurd z.1 (by decide)), h20, hsk]
          have hbb : ∀ b, mxG (alC (kpN A F W 9) W tk sy) (gC (kpN A F W 9) (woN A) W t tk sy) w = some b → -1000 ≤ b.1 ∧ b.1 ≤ 1000 := by
            intro b hb
            rcases mxG_P (al := alC (kpN A F W 9) W tk sy) (g := gC (kpN A F W 9) (woN A) W t tk sy) w with ⟨z1, -⟩ | ⟨v, x, z1, z2, z3, z4, -⟩
            · rw [z1] at hb; cases hb
            · rw [z1] at hb
              cases hb
              show -1000 ≤ v ∧ v ≤ 1000
              rw [z4]
              exact gb x (by omega) z3
          obtain ⟨f8, f20⟩ := cb_S t8 (by omega) (gb w w2 w3) hbb t7 t20
          rw [← mxG_n w3] at f8 f20
          have cK : KM σ (cbS ρ a (jI (ld + sg a * gC (kpN A F W 9) (woN A) W t tk sy w))) := ((hK.tr u2).tr k3).tr KM_cb
          have cr : ∀ b j, j < a → (cbS ρ a (jI (ld + sg a * gC (kpN A F W 9) (woN A) W t tk sy w))).1 b j = σ.1 b j := by
            intro b j hj
            rw [cb_o (fun z => by omega) (fun z => by omega), k4 b j (by omega), u3 b j (by omega) (fun z => by omega), hr b j hj]
          have cL : Lv (cbS ρ a (jI (ld + sg a * gC (kpN A F W 9) (woN A) W t tk sy w))) a tk sy ld := by
            refine ⟨?_, ?_, ?_⟩
            · rw [cb_o (fun z => absurd z.1 (by decide)) (fun z => absurd z.1 (by decide)), k4 _ _ (by omega), u3 _ _ (by omega) (fun z => absurd z.1 (by decide))]; exact hL'.1
            · rw [cb_o (fun z => absurd z.1 (by decide)) (fun z => absurd z.1 (by decide)), k4 _ _ (by omega), u3 _ _ (by omega) (fun z => absurd z.1 (by decide))]; exact hL'.2.1
            · rw [cb_o (fun z => absurd z.1 (by decide)) (fun z => absurd z.1 (by decide)), k4 _ _ (by omega), u3 _ _ (by omega) (fun z => absurd z.1 (by decide))]; exact hL'.2.2
          have c7 : (cbS ρ a (jI (ld + sg a * gC (kpN A F W 9) (woN A) W t tk sy w))).1 7 a + 1 = nI (w + 1) := by
            rw [cb_o (fun z => absurd z.1 (by decide)) (fun z => absurd z.1 (by decide)), t7, nI_1]
          obtain ⟨k', ρ', r1, r2, r3⟩ := ihm (w + 1) _ (by omega) (by omega) cK cr cL c7 f8 f20
          refine ⟨1 + (k + k'), ρ', ?_, stp_add 1 _ (stp_1 u1) (stp_add k k' k2 r2), r3⟩
          rw [Nat.succ_mul]
          omega
    have h20 : σ.1 0 20 = if a = 0 then ttV (σ.1 0 20) (mxG (alC (kpN A F W 9) W tk sy) (gC (kpN A F W 9) (woN A) W t tk sy) 0) else σ.1 0 20 := by
      by_cases c : a = 0
      · rw [if_pos c]; rfl
      · rw [if_neg c]
    have r := inner 7 0 σ (by omega) (by omega) (KM_0 σ) (fun _ _ _ => rfl) hL (by rw [hF.1]; rfl) hF.2 h20
    obtain ⟨k, ρ, k1, k2⟩ := r
    exact ⟨k, ρ, by unfold TD; omega, k2⟩
end DFS
