def rXT : List (List (Option Nat)) := [[some 1, some 39, some 154, some 155, some 174, some 186, some 191, some 194, some 203, some 218], [some 2, none, none, none, some 3, some 4, some 5, some 38], [], [some 6, some 22], [some 14, some 30], [some 19, some 35], [none, none, none, some 7, some 8, some 9, some 10, some 11, some 12, some 13], [], [], [], [], [], [], [], [none, some 15, some 16, some 17, some 18], [], [], [], [], [none, none, some 20, some 21], [], [], [none, none, none, some 23, some 24, some 25, some 26, some 27, some 28, some 29], [], [], [], [], [], [], [], [none, some 31, some 32, some 33, some 34], [], [], [], [], [none, none, some 36, some 37], [], [], [], [some 40, some 78, some 116], [some 41, none, none, none, some 42, some 43, some 44, some 77], [], [some 45, some 61], [some 53, some 69], [some 58, some 74], [none, none, none, some 46, some 47, some 48, some 49, some 50, some 51, some 52], [], [], [], [], [], [], [], [none, some 54, some 55, some 56, some 57], [], [], [], [], [none, none, some 59, some 60], [], [], [none, none, none, some 62, some 63, some 64, some 65, some 66, some 67, some 68], [], [], [], [], [], [], [], [none, some 70, some 71, some 72, some 73], [], [], [], [], [none, none, some 75, some 76], [], [], [], [some 79, none, none, none, some 80, some 81, some 82, some 115], [], [some 83, some 99], [some 91, some 107], [some 96, some 112], [none, none, none, some 84, some 85, some 86, some 87, some 88, some 89, some 90], [], [], [], [], [], [], [], [none, some 92, some 93, some 94, some 95], [], [], [], [], [none, none, some 97, some 98], [], [], [none, none, none, some 100, some 101, some 102, some 103, some 104, some 105, some 106], [], [], [], [], [], [], [], [none, some 108, some 109, some 110, some 111], [], [], [], [], [none, none, some 113, some 114], [], [], [], [some 117, none, none, none, some 118, some 119, some 120, some 153], [], [some 121, some 137], [some 129, some 145], [some 134, some 150], [none, none, none, some 122, some 123, some 124, some 125, some 126, some 127, some 128], [], [], [], [], [], [], [], [none, some 130, some 131, some 132, some 133], [], [], [], [], [none, none, some 135, some 136], [], [], [none, none, none, some 138, some 139, some 140, some 141, some 142, some 143, some 144], [], [], [], [], [], [], [], [none, some 146, some 147, some 148, some 149], [], [], [], [], [none, none, some 151, some 152], [], [], [], [], [some 156, some 164, some 169, none, none, none, none, none, none, none, none, some 172, some 173], [none, none, none, some 157, some 158, some 159, some 160, some 161, some 162, some 163], [], [], [], [], [], [], [], [none, some 165, some 166, some 167, some 168], [], [], [], [], [none, none, some 170, some 171], [], [], [], [], [none, none, none, none, none, none, none, none, none, some 175, some 176, some 177, some 178, some 179, some 180, some 181, some 182, some 183, some 184, some 185], [], [], [], [], [], [], [], [], [], [], [], [none, none, none, some 187, some 188, some 189, some 190], [], [], [], [], [some 192, some 193], [], [], [none, none, none, some 195, some 196, some 197, some 198, some 199, some 200, some 201, none, some 202], [], [], [], [], [], [], [], [], [none, some 204, some 205, some 206, some 217, none, none], [], [], [some 207, some 208, some 209, some 210, some 211, some 212, some 213, some 214, some 215, some 216], [], [], [], [], [], [], [], [], [], [], [], [none, none, none, some 219, some 220, some 221], [], [], []]
def rX (a j : Nat) : Option Nat := (rXT.getD a []).getD j none
def rMT : List (List (Option Nat)) := [[some 1, some 2, none, none, none, none, none, none, none, none, some 3, none, none, none, some 4, some 5, some 6, some 7, some 8, some 9, none, some 10, some 11, some 12, some 13, some 14, none, none, none, none, none, none, none, none, some 15, some 16, some 17, some 18, some 19, some 20, some 21, some 22, some 23, some 24, some 25, none, some 26, none], [], [], [], [], [], [], [], [], [], [], [], [], [], [], [], [], [], [], [], [], [], [], [], [], [], []]
def rM (a j : Nat) : Option Nat := (rMT.getD a []).getD j none
/-! ===== the two systems as they stand: references, the told state, what goes with what ===== -/
theorem bo_s {α β : Type} (v : α) (k : α → Option β) : bo (some v) k = k v := rfl
theorem bd_s {α β : Type} (v : α) (σ : Dt) (k : α → Dt → Option β) : bd (some (v, σ)) k = k v σ := rfl
theorem xgi_of {sh : Sh} {ci j a : Nat} {σ : Dt} (h1 : a < sh.1) (h2 : sh.2.1 a = ci) : xgi sh ci j (some a) σ = some (σ.1 a j) := if_pos ⟨h1, h2⟩
theorem xgl_of {sh : Sh} {ci j a : Nat} {σ : Dt} (h1 : a < sh.1) (h2 : sh.2.1 a = ci) : xgl sh ci j (some a) σ = some (σ.2.1 a j) := if_pos ⟨h1, h2⟩
theorem xgr_of {sh : Sh} {ci j a : Nat} {σ : Dt} (h1 : a < sh.1) (h2 : sh.2.1 a = ci) : xgr sh ci j (some a) σ = some (σ.2.2 a j) := if_pos ⟨h1, h2⟩
theorem xrc_of {sh : Sh} {ci a : Nat} (h1 : a < sh.1) (h2 : sh.2.1 a = ci) : xrc sh ci (some a) = some a := if_pos ⟨h1, h2⟩
theorem xpi_of {sh : Sh} {ci j a : Nat} {v : Int32} {σ : Dt} (h1 : a < sh.1) (h2 : sh.2.1 a = ci) : xpi sh ci j (some a) v σ = some (up2 σ.1 a j v, σ.2.1, σ.2.2) := if_pos ⟨h1, h2⟩
theorem xpl_of {sh : Sh} {ci j a : Nat} {v : Int64} {σ : Dt} (h1 : a < sh.1) (h2 : sh.2.1 a = ci) : xpl sh ci j (some a) v σ = some (σ.1, up2 σ.2.1 a j v, σ.2.2) := if_pos ⟨h1, h2⟩
theorem xpr_of {sh : Sh} {ci j a : Nat} {v : Option Nat} {σ : Dt} (h1 : a < sh.1) (h2 : sh.2.1 a = ci) : xpr sh ci j (some a) v σ = some (σ.1, σ.2.1, up2 σ.2.2 a j v) := if_pos ⟨h1, h2⟩
theorem xpz_of {sh : Sh} {ci j a : Nat} {v : Int32} {σ : Dt} (h1 : a < sh.1) (h2 : sh.2.1 a = ci) (h3 : v = 0 ∨ v = 1) : xpz sh ci j (some a) v σ = some (up2 σ.1 a j v, σ.2.1, σ.2.2) := if_pos ⟨⟨h1, h2⟩, h3⟩
theorem in_nI {n N : Nat} (h : n < N) (hN : N < 2 ^ 31) : ¬ (nI n < 0 ∨ N ≤ (nI n).toNatClampNeg) := nI_in h hN
theorem xai_of {sh : Sh} {a i : Nat} {σ : Dt} (h1 : a < sh.1) (h2 : sh.2.1 a = 13) (h3 : i < sh.2.2 a) (h4 : sh.2.2 a < 2 ^ 31) : xai sh (some a) (nI i) σ = some (σ.1 a i) := by
  have h : xai sh (some a) (nI i) σ = some (σ.1 a (nI i).toNatClampNeg) := if_pos ⟨⟨h1, h2⟩, in_nI h3 h4⟩
  rw [h, nI_clamp (by omega)]
theorem xaz_of {sh : Sh} {a i : Nat} {σ : Dt} (h1 : a < sh.1) (h2 : sh.2.1 a = 15) (h3 : i < sh.2.2 a) (h4 : sh.2.2 a < 2 ^ 31) : xaz sh (some a) (nI i) σ = some (σ.1 a i) := by
  have h : xaz sh (some a) (nI i) σ = some (σ.1 a (nI i).toNatClampNeg) := if_pos ⟨⟨h1, h2⟩, in_nI h3 h4⟩
  rw [h, nI_clamp (by omega)]
theorem xal_of {sh : Sh} {a i : Nat} {σ : Dt} (h1 : a < sh.1) (h2 : sh.2.1 a = 14) (h3 : i < sh.2.2 a) (h4 : sh.2.2 a < 2 ^ 31) : xal sh (some a) (nI i) σ = some (σ.2.1 a i) := by
  have h : xal sh (some a) (nI i) σ = some (σ.2.1 a (nI i).toNatClampNeg) := if_pos ⟨⟨h1, h2⟩, in_nI h3 h4⟩
  rw [h, nI_clamp (by omega)]
theorem xar_of {sh : Sh} {kd a i : Nat} {σ : Dt} (h1 : a < sh.1) (h2 : sh.2.1 a = kd) (h3 : i < sh.2.2 a) (h4 : sh.2.2 a < 2 ^ 31) : xar sh kd (some a) (nI i) σ = some (σ.2.2 a i) := by
  have h : xar sh kd (some a) (nI i) σ = some (σ.2.2 a (nI i).toNatClampNeg) := if_pos ⟨⟨h1, h2⟩, in_nI h3 h4⟩
  rw [h, nI_clamp (by omega)]
theorem xsi_of {sh : Sh} {a i : Nat} {v : Int32} {σ : Dt} (h1 : a < sh.1) (h2 : sh.2.1 a = 13) (h3 : i < sh.2.2 a) (h4 : sh.2.2 a < 2 ^ 31) : xsi sh (some a) (nI i) v σ = some (up2 σ.1 a i v, σ.2.1, σ.2.2) := by
  have h : xsi sh (some a) (nI i) v σ = some (up2 σ.1 a (nI i).toNatClampNeg v, σ.2.1, σ.2.2) := if_pos ⟨⟨h1, h2⟩, in_nI h3 h4⟩
  rw [h, nI_clamp (by omega)]
theorem xsz_of {sh : Sh} {a i : Nat} {v : Int32} {σ : Dt} (h1 : a < sh.1) (h2 : sh.2.1 a = 15) (h3 : i < sh.2.2 a) (h4 : sh.2.2 a < 2 ^ 31) : xsz sh (some a) (nI i) v σ = some (up2 σ.1 a i (vp_nar .boolean v), σ.2.1, σ.2.2) := by
  have h : xsz sh (some a) (nI i) v σ = some (up2 σ.1 a (nI i).toNatClampNeg (vp_nar .boolean v), σ.2.1, σ.2.2) := if_pos ⟨⟨h1, h2⟩, in_nI h3 h4⟩
  rw [h, nI_clamp (by omega)]
theorem xsl_of {sh : Sh} {a i : Nat} {v : Int64} {σ : Dt} (h1 : a < sh.1) (h2 : sh.2.1 a = 14) (h3 : i < sh.2.2 a) (h4 : sh.2.2 a < 2 ^ 31) : xsl sh (some a) (nI i) v σ = some (σ.1, up2 σ.2.1 a i v, σ.2.2) := by
  have h : xsl sh (some a) (nI i) v σ = some (σ.1, up2 σ.2.1 a (nI i).toNatClampNeg v, σ.2.2) := if_pos ⟨⟨h1, h2⟩, in_nI h3 h4⟩
  rw [h, nI_clamp (by omega)]
/-- a loop that turns n times and leaves -/
theorem iter_up {S X : Type} {f : S → Option (S ⊕ X)} (st : Nat → S) (x : X) : ∀ (n k i : Nat), n < k → (∀ j, i ≤ j → j < i + n → f (st j) = some (.inl (st (j + 1)))) → f (st (i + n)) = some (.inr x) → iter k f (st i) = some x
  | 0, k + 1, i, _, _, he => by
    unfold iter
    rw [show f (st i) = some (.inr x) from he]
  | n + 1, k + 1, i, hk, hs, he => by
    unfold iter
    rw [hs i (Nat.le_refl _) (by omega)]
    exact iter_up st x n k (i + 1) (by omega) (fun j h1 h2 => hs j (by omega) (by omega)) (by rw [show i + 1 + n = i + (n + 1) by omega]; exact he)
theorem iter_n {S X : Type} {f : S → Option (S ⊕ X)} (st : Nat → S) (x : X) (n : Nat) (hn : n < 100000) (hs : ∀ j, j < n → f (st j) = some (.inl (st (j + 1)))) (he : f (st n) = some (.inr x)) : iter FU f (st 0) = some x :=
  iter_up st x n FU 0 hn (fun j _ h => hs j (by omega)) (by rw [Nat.zero_add]; exact he)
/-- the class's references stand as they were laid; only the reader's row of bytes is set once -/
def RefX (σ : Dt) : Prop := (∀ a j, j < (rXT.getD a []).length → ¬ (a = 155 ∧ j = 5) → σ.2.2 a j = rX a j) ∧ (σ.2.2 155 5 = none ∨ σ.2.2 155 5 = some 2)
def RefM (σ : Dt) : Prop := ∀ j, j < 48 → σ.2.2 0 j = rM 0 j
theorem rX_ok : ((List.range 222).all (fun a => (List.range (rXT.getD a []).length).all (fun j => decide (σX0.2.2 a j = rX a j)))) = true := by decide +kernel
theorem rX_len (a j : Nat) (h : j < (rXT.getD a []).length) : a < 222 := by
  rcases Nat.lt_or_ge a 222 with q | q
  · exact q
  · rw [List.getD_eq_getElem?_getD, List.getElem?_eq_none (show rXT.length ≤ a from q)] at h
    simp at h
theorem rM_ok : ∀ j, j < 48 → σM0.2.2 0 j = rM 0 j := by decide +kernel
theorem RefX0 : RefX σX0 := by
  refine ⟨fun a j h1 _ => ?_, Or.inl (by decide +kernel)⟩
  have h := List.all_eq_true.mp rX_ok a (List.mem_range.mpr (rX_len a j h1))
  exact of_decide_eq_true (List.all_eq_true.mp h j (List.mem_range.mpr h1))
theorem RefM0 : RefM σM0 := rM_ok
/-- a valley of the class at v holds the row A of 55 numbers (folk, works, bound, then age strength parents grand of each folk, size worth of each work) -/
def VR (σ : Dt) (v : Nat) (A : Nat → Int32) : Prop := σ.1 v 0 = A 0 ∧ σ.1 v 1 = A 1 ∧ σ.1 v 2 = A 2 ∧ (∀ f, f < 10 → (nI f < A 0 → σ.1 (v + 1) f = A (3 + 4 * f) ∧ σ.1 (v + 2) f = A (4 + 4 * f)) ∧ σ.1 (v + 3) f = A (5 + 4 * f) ∧ σ.1 (v + 4) f = A (6 + 4 * f)) ∧ ∀ w, w < 6 → nI w < A 1 → σ.1 (v + 6) w = A (43 + 2 * w) ∧ σ.1 (v + 7) w = A (44 + 2 * w)
/-- what a folk's grandparents are strong together -/
def strA (A : Nat → Int32) (set : Int32) (without : Int32) : Nat → Int32
  | 0 => 0
  | f + 1 => strA A set without f + (if (set >>> (nI f &&& 31)) &&& 1 = 1 ∧ ¬ nI f = without then A (4 + 4 * f) else 0)
def HR (σ : Dt) (v : Nat) (A : Nat → Int32) (F : Nat) : Prop := ∀ f, f < 10 → σ.1 (v + 5) f = strA A (A (6 + 4 * f)) (-1) F
/-- a valley's row is in order: F folk, W works -/
def VW (A : Nat → Int32) (F W : Nat) : Prop := A 0 = nI F ∧ A 1 = nI W ∧ F ≤ 10 ∧ W ≤ 6 ∧ (∃ b, A 2 = nI b ∧ 1 ≤ b ∧ b ≤ 30) ∧ (∀ f, f < 10 → ∃ a s p g, A (3 + 4 * f) = nI a ∧ a ≤ 99 ∧ A (4 + 4 * f) = nI s ∧ s ≤ 9 ∧ A (5 + 4 * f) = nI p ∧ p < 2 ^ f ∧ A (6 + 4 * f) = nI g ∧ g < 2 ^ f ∧ (F ≤ f → a = 0 ∧ s = 0 ∧ p = 0 ∧ g = 0)) ∧ ∀ w, w < 6 → ∃ m r, A (43 + 2 * w) = nI m ∧ m ≤ 30 ∧ A (44 + 2 * w) = nI r ∧ r ≤ 20 ∧ (w < W → 1 ≤ m)
def LR (σ : Dt) (l : Nat) (A : Nat → Int32) : Prop := σ.1 l 0 = A 0 ∧ ∀ k, k < 40 → nI k < A 0 → σ.1 (l + 1) k = A (1 + 4 * k) ∧ σ.1 (l + 2) k = A (2 + 4 * k) ∧ σ.1 (l + 3) k = A (3 + 4 * k) ∧ σ.1 (l + 4) k = A (4 + 4 * k)
def LW (A : Nat → Int32) : Prop := ∃ n, A 0 = nI n ∧ n ≤ 40 ∧ ∀ k, k < n → ∃ d, A (1 + 4 * k) = nI d ∧ d ≤ 4 ∧ (d ≤ 3 → ∃ x, A (2 + 4 * k) = nI x ∧ x ≤ 9) ∧ (d = 4 → A (2 + 4 * k) = -1) ∧ (d = 0 → ∃ x, A (3 + 4 * k) = nI x ∧ x ≤ 5) ∧ (d = 1 → ∃ x, A (3 + 4 * k) = nI x ∧ x ≤ 9) ∧ (2 ≤ d → A (3 + 4 * k) = -1) ∧ (d = 0 → ∃ x, A (4 + 4 * k) = nI x ∧ 1 ≤ x ∧ x ≤ 9) ∧ (1 ≤ d → A (4 + 4 * k) = -1)
def SR (σ : Dt) (l : Nat) (A : Nat → Int32) : Prop := σ.1 l 0 = A 0 ∧ σ.1 l 1 = A 1 ∧ ∀ k, k < 8 → nI k < A 1 → σ.1 (l + 1) k = A (2 + 2 * k) ∧ σ.1 (l + 2) k = A (3 + 2 * k)
def SW (A : Nat → Int32) : Prop := (∃ y, A 0 = nI y ∧ 1 ≤ y ∧ y ≤ 9) ∧ ∃ n, A 1 = nI n ∧ n ≤ 8 ∧ ∀ k, k < n → ∃ w f, A (2 + 2 * k) = nI w ∧ w ≤ 5 ∧ A (3 + 2 * k) = nI f ∧ f ≤ 30
/-- a told state of the class at t goes with the reference's row from o on -/
def TR (σx σm : Dt) (t o : Nat) : Prop := ∃ c0 c1 c2 L : Nat, (c0 ≤ 2 ∧ c1 ≤ 2 ∧ c2 ≤ 2 ∧ L ≤ 600) ∧
  (σm.1 1 o = nI c0 ∧ σm.1 1 (o + 1) = nI c1 ∧ σm.1 1 (o + 2) = nI c2 ∧ σm.1 1 (o + 4) = nI L) ∧
  (σx.1 (t + 37) 0 = nI c0 ∧ σx.1 (t + 37) 1 = nI c1 ∧ σx.1 (t + 37) 2 = nI c2 ∧ σx.1 t 1 = nI L) ∧
  (σx.1 t 2 = σm.1 1 (o + 5) ∧ σx.1 t 3 = σm.1 1 (o + 6)) ∧
  (∀ i, i < L → σx.1 (t + 1) i = σm.1 1 (o + 10 + i) ∧ ∃ b, σm.1 1 (o + 10 + i) = nI b ∧ b < 256) ∧
  (∀ k, k < c0 → VR σx (t + 5 + 16 * k) (fun i => σm.1 1 (o + 610 + 55 * k + i)) ∧ ∃ F W, VW (fun i => σm.1 1 (o + 610 + 55 * k + i)) F W ∧ HR σx (t + 5 + 16 * k) (fun i => σm.1 1 (o + 610 + 55 * k + i)) F) ∧
  (∀ k, k < c1 → LR σx (t + 13 + 16 * k) (fun i => σm.1 1 (o + 720 + 161 * k + i)) ∧ LW (fun i => σm.1 1 (o + 720 + 161 * k + i))) ∧
  (∀ k, k < c2 → SR σx (t + 18 + 16 * k) (fun i => σm.1 1 (o + 1042 + 18 * k + i)) ∧ SW (fun i => σm.1 1 (o + 1042 + 18 * k + i)))
def Inv (σx σm : Dt) : Prop := RefX σx ∧ RefM σm ∧ TR σx σm 1 0 ∧ (∀ k, k < 3 → σx.1 154 k = σm.1 2 k ∧ (σm.1 2 k = 0 ∨ σm.1 2 k = 1)) ∧ ∀ k, k < 3 → σm.1 2 k = 1 → TR σx σm (40 + 38 * k) (1078 * (k + 1))
theorem Inv0 : Inv σX0 σM0 := by
  refine ⟨RefX0, RefM0, ⟨0, 0, 0, 0, by decide, by decide +kernel, by decide +kernel, by decide +kernel, fun i h => by omega, fun i h => by omega, fun i h => by omega, fun i h => by omega⟩, by decide +kernel, fun k hk h => ?_⟩
  have h2 : ∀ k, k < 3 → ¬ σM0.1 2 k = 1 := by decide +kernel
  exact absurd h (h2 k hk)
