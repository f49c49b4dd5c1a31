/-! ===== text: lines in the reference ===== -/
/-- what a line may change -/
def K3 (σ τ : Dt) : Prop := (∀ b, ¬ b = 0 → ¬ b = 1 → ¬ b = 3 → τ.1 b = σ.1 b) ∧ (∀ j, (j < 3 ∨ 9 < j) → τ.1 0 j = σ.1 0 j) ∧ (∀ j, ¬ j = 5 → ¬ j = 6 → τ.1 1 j = σ.1 1 j) ∧ τ.2.2 = σ.2.2
theorem K3_0 (σ : Dt) : K3 σ σ := ⟨fun _ _ _ _ => rfl, fun _ _ => rfl, fun _ _ _ => rfl, rfl⟩
theorem K3.tr {a b c : Dt} (h1 : K3 a b) (h2 : K3 b c) : K3 a c := ⟨fun x x1 x2 x3 => (h2.1 x x1 x2 x3).trans (h1.1 x x1 x2 x3), fun j j1 => (h2.2.1 j j1).trans (h1.2.1 j j1), fun j j1 j2 => (h2.2.2.1 j j1 j2).trans (h1.2.2.1 j j1 j2), h2.2.2.2.trans h1.2.2.2⟩
theorem KF.k3 {σ τ : Dt} (h : KF σ τ) : K3 σ τ := ⟨fun b b1 b2 _ => h.1 b b1 b2, fun j hj => h.2.1 j (by omega), h.2.2.1, h.2.2.2⟩
theorem K3_s {σ : Dt} {j : Nat} {v : Int32} : K3 σ (setX σ 3 j v) := ⟨fun b _ _ b3 => setX_o b3, fun k _ => by rw [setX_o (by decide)], fun k _ _ => by rw [setX_o (by decide)], rfl⟩
theorem K3_9 {σ : Dt} {v : Int32} : K3 σ (setX σ 0 9 v) := ⟨fun b b1 _ _ => setX_o b1, fun k hk => setX_n (by omega), fun k _ _ => by rw [setX_o (by decide)], rfl⟩
theorem K3.ref {σ τ : Dt} (h : K3 σ τ) (hR : RefM σ) : RefM τ := by
  unfold RefM at *
  rw [h.2.2.2]
  exact hR
theorem K3.rq {σ τ : Dt} {B : Nat → Nat} {L : Nat} (h : K3 σ τ) (hR : Rq σ B L) : Rq τ B L := by
  obtain ⟨h1, h2, h3, h4⟩ := hR
  refine ⟨h.ref h1, ?_, h3, fun i hi => ?_⟩
  · rw [h.2.1 2 (by omega)]; exact h2
  · rw [h.2.2.1 _ (by omega) (by omega)]; exact h4 i hi
theorem MD_c {σ τ : Dt} {B : Nat → Nat} {L : Nat} {g : Nat × Nat} {m : Nat ⊕ Nat} (h0 : ∀ j, j ≤ 8 → τ.1 0 j = σ.1 0 j) (h1 : τ.1 1 = σ.1 1) (hM : MD σ B L g m) : MD τ B L g m := by
  cases m with
  | inl i =>
    obtain ⟨a, b, c, d, e⟩ := hM
    refine ⟨a, by rw [h0 8 (by decide)]; exact b, ?_, ?_, e⟩
    · unfold TkM at *
      rw [h0 3 (by decide), h0 4 (by decide), h0 5 (by decide), h0 6 (by decide), h0 7 (by decide)]
      exact c
    · unfold FP at *
      rw [h1]
      exact d
  | inr p =>
    obtain ⟨a, b, c⟩ := hM
    exact ⟨by rw [h0 8 (by decide)]; exact a, by rw [h1]; exact b, by rw [h1]; exact c⟩
theorem MD_3 {σ : Dt} {B : Nat → Nat} {L j : Nat} {v : Int32} {g : Nat × Nat} {m : Nat ⊕ Nat} (hM : MD σ B L g m) : MD (setX σ 3 j v) B L g m := MD_c (fun k _ => by rw [setX_o (by decide)]) (setX_o (by decide)) hM
theorem MD_9 {σ : Dt} {B : Nat → Nat} {L : Nat} {v : Int32} {g : Nat × Nat} {m : Nat ⊕ Nat} (hM : MD σ B L g m) : MD (setX σ 0 9 v) B L g m := MD_c (fun k hk => setX_n (by omega)) (setX_o (by decide)) hM
theorem row_s {σ τ : Dt} {a j : Nat} {v : Int32} (h : τ.1 a = σ.1 a) : (setX τ a j v).1 a = (setX σ a j v).1 a := by
  funext k
  rw [setX_get, setX_get, h]
theorem nI_ix (a b F : Nat) : nI a + nI b * nI F = nI (a + b * F) := by rw [pk_mul, nI_add]
theorem ma30 {β : Type} {σ : Dt} {k : Int32 → Option β} : bo (xai SM (some 3) (0 : Int32) σ) k = k (σ.1 3 0) := ma3 (i := 0) (by decide)
theorem ma31 {β : Type} {σ : Dt} {k : Int32 → Option β} : bo (xai SM (some 3) (1 : Int32) σ) k = k (σ.1 3 1) := ma3 (i := 1) (by decide)
theorem ms30 {β : Type} {v : Int32} {σ : Dt} {k : Dt → Option β} : bo (xsi SM (some 3) (0 : Int32) v σ) k = k (setX σ 3 0 v) := ms3 (i := 0) (by decide)
theorem ms31 {β : Type} {v : Int32} {σ : Dt} {k : Dt → Option β} : bo (xsi SM (some 3) (1 : Int32) v σ) k = k (setX σ 3 1 v) := ms3 (i := 1) (by decide)
theorem ms32 {β : Type} {v : Int32} {σ : Dt} {k : Dt → Option β} : bo (xsi SM (some 3) (2 : Int32) v σ) k = k (setX σ 3 2 v) := ms3 (i := 2) (by decide)
theorem nbV_b {B : Nat → Nat} {L lo hi : Nat} {m : Nat ⊕ Nat} (h : lo ≤ hi) : lo ≤ nbV B L lo hi m ∧ nbV B L lo hi m ≤ hi := by
  cases m with
  | inr p => exact ⟨Nat.le_refl _, h⟩
  | inl i =>
    by_cases c : tT B L i = 2 ∧ lo ≤ nv B L i ∧ nv B L i ≤ hi
    · rw [show nbV B L lo hi (.inl i) = nv B L i from if_pos c]
      exact c.2
    · rw [show nbV B L lo hi (.inl i) = lo from if_neg c]
      exact ⟨Nat.le_refl _, h⟩
section MLN
variable {σ : Dt} {B : Nat → Nat} {L e0 F : Nat} {g : Nat × Nat} {m : Nat ⊕ Nat}
/-- one too many, perhaps -/
theorem m_tooM {i1 : Nat} (h : Rq σ B L) (hM : MD σ B L g (.inl i1)) (hp : ¬ g.1 = 0 → g.2 < e0) (he : e0 < tS B L i1) : ∃ τ, f_X12_also 0 (3 : Int32) (nI e0) σ = some ((), τ) ∧ KF σ τ ∧ MD τ B L (nt g (3, e0)) (.inl i1) := by
  obtain ⟨hi', h8, hT, hF, hq⟩ := hM
  have hb := tk_b (B := B) hi'
  have hL := h.2.2.1
  obtain ⟨ρ, a1, a2, a3⟩ := m_also (kd := 3) (at' := e0) h.1 h8 hF (by decide) (by decide) (by omega) (fun z => Or.inl (hp z))
  exact ⟨ρ, a1, a2.kf, hi', by rw [a2.1 0 (by decide)]; exact h8, a2.tkm hT, a3, nt_lt hp (by omega) he⟩
theorem m_folk17 (h : Rq σ B L) (hM : MD σ B L g m) (hF : σ.1 3 0 = nI F) (hF10 : F ≤ 10) : ∃ τ, f_X12_folkTold_17 0 σ = some ((), τ) ∧ K3 σ τ ∧ MD τ B L (nbG B L 0 9 (nbG B L 0 99 g m) (nbM B L m)) (nbM B L (nbM B L m)) ∧ τ.1 0 9 = σ.1 0 9 ∧ τ.1 3 = (if F < 10 then (setX (setX (setX σ 3 (3 + 4 * F) (nI (nbV B L 0 99 m))) 3 (4 + 4 * F) (nI (nbV B L 0 9 (nbM B L m)))) 3 0 (nI (F + 1))).1 3 else σ.1 3) := by
  obtain ⟨σ1, e1, k1, d1⟩ := m_numb (lo := 0) (hi := 99) h hM (by decide) (by decide)
  have h1 := k1.rq h
  obtain ⟨σ2, e2, k2, d2⟩ := m_numb (lo := 0) (hi := 9) h1 d1 (by decide) (by decide)
  have h2 := k2.rq h1
  have hR2 := h2.1
  have hr : σ2.1 3 = σ.1 3 := (k2.1 3 (by decide) (by decide)).trans (k1.1 3 (by decide) (by decide))
  have h9 : σ2.1 0 9 = σ.1 0 9 := (k2.2.1 9 (by decide)).trans (k1.2.1 9 (by decide))
  have hF2 : σ2.1 3 0 = nI F := by rw [hr]; exact hF
  unfold f_X12_folkTold_17
  rw [bo_of mrc, bd_of (show f_X12_numbered 0 (0 : Int32) (99 : Int32) σ = _ from e1), bo_of mrc, bd_of (show f_X12_numbered 0 (0 : Int32) (9 : Int32) σ1 = _ from e2), mg10 hR2, ma30, hF2]
  by_cases c : F < 10
  · rw [if_pos (lt10 c), if_pos c, mg10 hR2, mg10 hR2, ma30, hF2, show (3 : Int32) + (4 : Int32) * nI F = nI (3 + 4 * F) from nI_ix 3 4 F, ms3 (by omega), grS, mg10 hR2, grS, mg10 hR2, ma30, setX_n (by omega), hF2, show (4 : Int32) + (4 : Int32) * nI F = nI (4 + 4 * F) from nI_ix 4 4 F, ms3 (by omega), grS, grS, mg10 hR2, ma30, setX_n (by omega), setX_n (by omega), hF2, ms30, nI_1]
    refine ⟨_, rfl, (((k1.tr k2).k3.tr K3_s).tr K3_s).tr K3_s, MD_3 (MD_3 (MD_3 d2)), ?_, row_s (row_s (row_s hr))⟩
    rw [setX_o (by decide), setX_o (by decide), setX_o (by decide), h9]
  · rw [if_neg (nlt10 (by omega) (by omega)), if_neg c]
    exact ⟨_, rfl, (k1.tr k2).k3, d2, h9, hr⟩
theorem m_folk {i1 : Nat} (h : Rq σ B L) (hM : MD σ B L g (.inl i1)) (hp : ¬ g.1 = 0 → g.2 < e0) (he : e0 < tS B L i1) (hF : σ.1 3 0 = nI F) (hF10 : F ≤ 10) : ∃ τ, f_X12_folkTold 0 (nI e0) σ = some ((), τ) ∧ K3 σ τ ∧ MD τ B L (nbG B L 0 9 (nbG B L 0 99 (if F < 10 then g else nt g (3, e0)) (.inl i1)) (nbM B L (.inl i1))) (nbM B L (nbM B L (.inl i1))) ∧ τ.1 0 9 = σ.1 0 9 ∧ τ.1 3 = (if F < 10 then (setX (setX (setX σ 3 (3 + 4 * F) (nI (nbV B L 0 99 (.inl i1)))) 3 (4 + 4 * F) (nI (nbV B L 0 9 (nbM B L (.inl i1))))) 3 0 (nI (F + 1))).1 3 else σ.1 3) := by
  unfold f_X12_folkTold
  rw [mg10 h.1, ma30, hF]
  by_cases c : F < 10
  · rw [if_pos (lt10 c), if_pos c]
    exact m_folk17 h hM hF hF10
  · rw [if_neg (nlt10 (by omega) (by omega)), if_neg c, if_neg c]
    obtain ⟨ρ, a1, a2, a3⟩ := m_tooM h hM hp he
    rw [bo_of mrc, bd_of a1]
    have hr : ρ.1 3 = σ.1 3 := a2.1 3 (by decide) (by decide)
    obtain ⟨τ, q1, q2, q3, q4, q5⟩ := m_folk17 (a2.rq h) a3 (by rw [hr]; exact hF) hF10
    rw [if_neg c] at q5
    exact ⟨τ, q1, a2.k3.tr q2, q3, q4.trans (a2.2.1 9 (by decide)), q5.trans hr⟩
theorem m_work17 (h : Rq σ B L) (hM : MD σ B L g m) (hF : σ.1 3 1 = nI F) (hF10 : F ≤ 6) : ∃ τ, f_X12_workTold_17 0 σ = some ((), τ) ∧ K3 σ τ ∧ MD τ B L (nbG B L 0 20 (nbG B L 1 30 g m) (nbM B L m)) (nbM B L (nbM B L m)) ∧ τ.1 0 9 = σ.1 0 9 ∧ τ.1 3 = (if F < 6 then (setX (setX (setX σ 3 (43 + 2 * F) (nI (nbV B L 1 30 m))) 3 (44 + 2 * F) (nI (nbV B L 0 20 (nbM B L m)))) 3 1 (nI (F + 1))).1 3 else σ.1 3) := by
  obtain ⟨σ1, e1, k1, d1⟩ := m_numb (lo := 1) (hi := 30) h hM (by decide) (by decide)
  have h1 := k1.rq h
  obtain ⟨σ2, e2, k2, d2⟩ := m_numb (lo := 0) (hi := 20) h1 d1 (by decide) (by decide)
  have h2 := k2.rq h1
  have hR2 := h2.1
  have hr : σ2.1 3 = σ.1 3 := (k2.1 3 (by decide) (by decide)).trans (k1.1 3 (by decide) (by decide))
  have h9 : σ2.1 0 9 = σ.1 0 9 := (k2.2.1 9 (by decide)).trans (k1.2.1 9 (by decide))
  have hF2 : σ2.1 3 1 = nI F := by rw [hr]; exact hF
  unfold f_X12_workTold_17
  rw [bo_of mrc, bd_of (show f_X12_numbered 0 (1 : Int32) (30 : Int32) σ = _ from e1), bo_of mrc, bd_of (show f_X12_numbered 0 (0 : Int32) (20 : Int32) σ1 = _ from e2), mg10 hR2, ma31, hF2]
  by_cases c : F < 6
  · rw [if_pos (show nI F < (6 : Int32) from nI_lt (b := 6) c (by decide)), if_pos c, mg10 hR2, mg10 hR2, ma31, hF2, show (43 : Int32) + (2 : Int32) * nI F = nI (43 + 2 * F) from nI_ix 43 2 F, ms3 (by omega), grS, mg10 hR2, grS, mg10 hR2, ma31, setX_n (by omega), hF2, show (44 : Int32) + (2 : Int32) * nI F = nI (44 + 2 * F) from nI_ix 44 2 F, ms3 (by omega), grS, grS, mg10 hR2, ma31, setX_n (by omega), setX_n (by omega), hF2, ms31, nI_1]
    refine ⟨_, rfl, (((k1.tr k2).k3.tr K3_s).tr K3_s).tr K3_s, MD_3 (MD_3 (MD_3 d2)), ?_, row_s (row_s (row_s hr))⟩
    rw [setX_o (by decide), setX_o (by decide), setX_o (by decide), h9]
  · rw [if_neg (show ¬ nI F < (6 : Int32) from nI_nlt (b := 6) (by omega) (by omega)), if_neg c]
    exact ⟨_, rfl, (k1.tr k2).k3, d2, h9, hr⟩
theorem m_workT {i1 : Nat} (h : Rq σ B L) (hM : MD σ B L g (.inl i1)) (hp : ¬ g.1 = 0 → g.2 < e0) (he : e0 < tS B L i1) (hF : σ.1 3 1 = nI F) (hF10 : F ≤ 6) : ∃ τ, f_X12_workTold 0 (nI e0) σ = some ((), τ) ∧ K3 σ τ ∧ MD τ B L (nbG B L 0 20 (nbG B L 1 30 (if F < 6 then g else nt g (3, e0)) (.inl i1)) (nbM B L (.inl i1))) (nbM B L (nbM B L (.inl i1))) ∧ τ.1 0 9 = σ.1 0 9 ∧ τ.1 3 = (if F < 6 then (setX (setX (setX σ 3 (43 + 2 * F) (nI (nbV B L 1 30 (.inl i1)))) 3 (44 + 2 * F) (nI (nbV B L 0 20 (nbM B L (.inl i1))))) 3 1 (nI (F + 1))).1 3 else σ.1 3) := by
  unfold f_X12_workTold
  rw [mg10 h.1, ma31, hF]
  by_cases c : F < 6
  · rw [if_pos (show nI F < (6 : Int32) from nI_lt (b := 6) c (by decide)), if_pos c]
    exact m_work17 h hM hF hF10
  · rw [if_neg (show ¬ nI F < (6 : Int32) from nI_nlt (b := 6) (by omega) (by omega)), if_neg c, if_neg c]
    obtain ⟨ρ, a1, a2, a3⟩ := m_tooM h hM hp he
    rw [bo_of mrc, bd_of a1]
    have hr : ρ.1 3 = σ.1 3 := a2.1 3 (by decide) (by decide)
    obtain ⟨τ, q1, q2, q3, q4, q5⟩ := m_work17 (a2.rq h) a3 (by rw [hr]; exact hF) hF10
    rw [if_neg c] at q5
    exact ⟨τ, q1, a2.k3.tr q2, q3, q4.trans (a2.2.1 9 (by decide)), q5.trans hr⟩
theorem m_child (h : Rq σ B L) (hM : MD σ B L g m) : ∃ τ, f_X12_childTold 0 σ = some ((), τ) ∧ K3 σ τ ∧ MD τ B L (bwG B L (nbV B L 0 9 m) (nbG B L 0 9 g m) (nbM B L m)) (nbM B L (nbM B L m)) ∧ τ.1 0 9 = (if nI (nbV B L 0 9 m) ≤ σ.1 0 9 then σ.1 0 9 else nI (nbV B L 0 9 m)) ∧ τ.1 3 = (setX σ 3 (5 + 4 * nbV B L 0 9 m) (σ.1 3 (5 + 4 * nbV B L 0 9 m) ||| nI (2 ^ nbV B L 0 9 (nbM B L m)))).1 3 := by
  obtain ⟨σ1, e1, k1, d1⟩ := m_numb (lo := 0) (hi := 9) h hM (by decide) (by decide)
  have h1 := k1.rq h
  have hv := (nbV_b (B := B) (L := L) (lo := 0) (hi := 9) (m := m) (by decide)).2
  have hv2 := (nbV_b (B := B) (L := L) (lo := 0) (hi := 9) (m := nbM B L m) (by decide)).2
  have h9 : σ1.1 0 9 = σ.1 0 9 := k1.2.1 9 (by decide)
  generalize nbV B L 0 9 m = f at *
  have main : ∀ x : Int32, ∃ τ, f_X12_childTold_25 0 (nI f) (some 0) x σ1 = some ((), τ) ∧ K3 σ τ ∧ MD τ B L (bwG B L f (nbG B L 0 9 g m) (nbM B L m)) (nbM B L (nbM B L m)) ∧ τ.1 0 9 = x ∧ τ.1 3 = (setX σ 3 (5 + 4 * f) (σ.1 3 (5 + 4 * f) ||| nI (2 ^ nbV B L 0 9 (nbM B L m)))).1 3 := by
    intro x
    have hq := Rq_set (j := 9) (v := x) h1 (by decide)
    obtain ⟨σ2, e2, k2, d2⟩ := m_below (f := f) hq (MD_9 (v := x) d1) hv
    have hr : σ2.1 3 = σ.1 3 := (k2.1 3 (by decide) (by decide)).trans ((setX_o (by decide)).trans (k1.1 3 (by decide) (by decide)))
    have hR2 := (k2.rq hq).1
    unfold f_X12_childTold_25
    rw [mpiB, bo_of mrc, bd_of e2, mg10 hR2, show (5 : Int32) + (4 : Int32) * nI f = nI (5 + 4 * f) from nI_ix 5 4 f, ma3 (by omega), shl1 (by omega), ms3 (by omega), hr]
    refine ⟨_, rfl, ((k1.k3.tr K3_9).tr k2.k3).tr K3_s, MD_3 d2, ?_, row_s hr⟩
    rw [setX_o (by decide), k2.2.1 9 (by decide), setX_j]
  unfold f_X12_childTold
  rw [bo_of mrc, bd_of (show f_X12_numbered 0 (0 : Int32) (9 : Int32) σ = _ from e1), mgiB, h9, mgiB, h9]
  by_cases c : nI f ≤ σ.1 0 9
  · rw [if_pos c, if_pos c]
    exact main _
  · rw [if_neg c, if_neg c]
    exact main _
end MLN
/-- numbers read behind one another -/
noncomputable def nbI (B : Nat → Nat) (L : Nat) (m : Nat ⊕ Nat) : Nat → Nat ⊕ Nat
  | 0 => m
  | j + 1 => nbM B L (nbI B L m j)
theorem nbI_g {B : Nat → Nat} {L i : Nat} : ∀ j, (∀ k, k < j → tT B L (pz B L i k) = 2) → nbI B L (.inl i) j = .inl (pz B L i j)
  | 0, _ => rfl
  | j + 1, h => by
    rw [nbI, nbI_g j (fun k hk => h k (by omega))]
    exact if_pos (h j (by omega))
theorem nbI_r {B : Nat → Nat} {L p : Nat} {m : Nat ⊕ Nat} {j : Nat} (h : nbI B L m j = .inr p) : ∀ n, nbI B L m (j + n) = .inr p
  | 0 => h
  | n + 1 => by
    show nbM B L (nbI B L m (j + n)) = _
    rw [nbI_r h n]
    rfl
theorem lb_mode {B : Nat → Nat} {L s i p : Nat} (h : LBad B L s i p) (hk : ¬ lnK B L s i = 9) : elM B L (nbI B L (.inl (tE B L i)) (nmS s (lnK B L s i))) = .inr p := by
  obtain ⟨-, ⟨z, -⟩ | ⟨-, j, j1, j2, j3, j4, rfl⟩⟩ := h
  · exact absurd z hk
  · have e := nbI_g (B := B) (L := L) (i := tE B L i) j j2
    rcases (show j = nmS s (lnK B L s i) ∨ j < nmS s (lnK B L s i) by omega) with y | y
    · rw [← y, e]
      exact if_neg (j4 y)
    · have e2 : nbI B L (.inl (tE B L i)) (j + 1) = .inr (tS B L (pz B L (tE B L i) j)) := by
        rw [nbI, e]
        exact if_neg (j3 y)
      have e3 := nbI_r e2 (nmS s (lnK B L s i) - (j + 1))
      rw [show j + 1 + (nmS s (lnK B L s i) - (j + 1)) = nmS s (lnK B L s i) by omega] at e3
      rw [e3]
      rfl
theorem lg_mode {B : Nat → Nat} {L s i : Nat} (h : LGood B L s i) : elM B L (nbI B L (.inl (tE B L i)) (nmS s (lnK B L s i))) = .inl (pz B L (tE B L i) (nmS s (lnK B L s i) + 1)) := by
  rw [nbI_g _ h.2.1]
  exact if_pos h.2.2
