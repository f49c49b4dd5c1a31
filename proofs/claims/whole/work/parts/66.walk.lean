/-! ===== a life as it is lived, both sides ===== -/
theorem setX_ne {σ : Dt} {a j b k : Nat} {v : Int32} (h : ¬ (b = a ∧ k = j)) : (setX σ a j v).1 b k = σ.1 b k := if_neg h
def upS (S : Nat → Nat → Nat) (i j v : Nat) : Nat → Nat → Nat := fun a b => if a = i ∧ b = j then v else S a b
theorem upS_eq {S : Nat → Nat → Nat} {i j v : Nat} : upS S i j v i j = v := if_pos ⟨rfl, rfl⟩
theorem upS_ne {S : Nat → Nat → Nat} {i j v a b : Nat} (h : ¬ (a = i ∧ b = j)) : upS S i j v a b = S a b := if_neg h
theorem grS {β : Type} {sh : Sh} {c j : Nat} {r : Option Nat} {σ : Dt} {a i : Nat} {v : Int32} {k : Option Nat → Option β} : bo (xgr sh c j r (setX σ a i v)) k = bo (xgr sh c j r σ) k := by cases r <;> rfl
theorem giSn {β : Type} {sh : Sh} {c j b : Nat} {σ : Dt} {a i : Nat} {v : Int32} {k : Int32 → Option β} (h : ¬ (b = a ∧ j = i)) : bo (xgi sh c j (some b) (setX σ a i v)) k = bo (xgi sh c j (some b) σ) k := by
  have e : xgi sh c j (some b) (setX σ a i v) = xgi sh c j (some b) σ := by
    unfold xgi
    dsimp only
    rw [setX_ne h]
  rw [e]
theorem aiSn {β : Type} {sh : Sh} {b : Nat} {x : Int32} {σ : Dt} {a i : Nat} {v : Int32} {k : Int32 → Option β} (h : ¬ b = a) : bo (xai sh (some b) x (setX σ a i v)) k = bo (xai sh (some b) x σ) k := by
  have e : xai sh (some b) x (setX σ a i v) = xai sh (some b) x σ := by
    unfold xai
    dsimp only
    rw [setX_ne (fun q => h q.1)]
  rw [e]
theorem wgiE {β : Type} {j : Nat} {σ : Dt} {v : Int32} {k : Int32 → Option β} : bo (xgi SX 10 j (some 174) (setX σ 174 j v)) k = k v := bo_of (by rw [xgi_of (by decide) (by decide), setX_j])
theorem mgiE {β : Type} {j : Nat} {σ : Dt} {v : Int32} {k : Int32 → Option β} : bo (xgi SM 12 j (some 0) (setX σ 0 j v)) k = k v := bo_of (by rw [mgi, setX_j])
theorem wpi {β : Type} {j : Nat} {σ : Dt} {v : Int32} {k : Dt → Option β} : bo (xpi SX 10 j (some 174) v σ) k = k (setX σ 174 j v) := bo_of (xpi_of (by decide) (by decide))
theorem mpiB {β : Type} {j : Nat} {σ : Dt} {v : Int32} {k : Dt → Option β} : bo (xpi SM 12 j (some 0) v σ) k = k (setX σ 0 j v) := bo_of (xpi_of (by decide) (by decide))
theorem wrc : xrc SX 10 (some 174) = some 174 := xrc_of (by decide) (by decide)
theorem wsh : ∀ d, d < 11 → 175 + d < SX.1 ∧ SX.2.1 (175 + d) = 13 ∧ SX.2.2 (175 + d) = (if d < 5 then 10 else if d < 7 then 6 else 12) := by decide
theorem msh : ∀ d, d < 11 → 15 + d < SM.1 ∧ SM.2.1 (15 + d) = 13 ∧ SM.2.2 (15 + d) = (if d < 6 then 10 else if d < 7 then 6 else 12) := by decide
theorem wsi {β : Type} {a i : Nat} {σ : Dt} {v : Int32} {k : Dt → Option β} (h : (175 ≤ a ∧ a ≤ 179 ∧ i < 10) ∨ (180 ≤ a ∧ a ≤ 181 ∧ i < 6) ∨ (182 ≤ a ∧ a ≤ 185 ∧ i < 12)) : bo (xsi SX (some a) (nI i) v σ) k = k (setX σ a i v) := by
  obtain ⟨h1, h2, h3⟩ := wsh (a - 175) (by omega)
  rw [show 175 + (a - 175) = a by omega] at h1 h2 h3
  have h4 : i < SX.2.2 a ∧ SX.2.2 a < 2 ^ 31 := by
    rw [h3]
    by_cases c : a - 175 < 5
    · rw [if_pos c]; omega
    · rw [if_neg c]
      by_cases c2 : a - 175 < 7
      · rw [if_pos c2]; omega
      · rw [if_neg c2]; omega
  exact bo_of (xsiX h1 h2 h4.1 h4.2)
theorem msi2 {β : Type} {a i : Nat} {σ : Dt} {v : Int32} {k : Dt → Option β} (h : (15 ≤ a ∧ a ≤ 20 ∧ i < 10) ∨ (a = 21 ∧ i < 6) ∨ (22 ≤ a ∧ a ≤ 25 ∧ i < 12)) : bo (xsi SM (some a) (nI i) v σ) k = k (setX σ a i v) := by
  obtain ⟨h1, h2, h3⟩ := msh (a - 15) (by omega)
  rw [show 15 + (a - 15) = a by omega] at h1 h2 h3
  have h4 : i < SM.2.2 a ∧ SM.2.2 a < 2 ^ 31 := by
    rw [h3]
    by_cases c : a - 15 < 6
    · rw [if_pos c]; omega
    · rw [if_neg c]
      by_cases c2 : a - 15 < 7
      · rw [if_pos c2]; omega
      · rw [if_neg c2]; omega
  exact bo_of (xsiX h1 h2 h4.1 h4.2)
def cnt (p : Nat → Bool) : Nat → Nat
  | 0 => 0
  | n + 1 => cnt p n + (p n).toNat
theorem cnt_c {p q : Nat → Bool} : ∀ n, (∀ i, i < n → p i = q i) → cnt p n = cnt q n
  | 0, _ => rfl
  | n + 1, h => by rw [cnt, cnt, cnt_c n (fun i hi => h i (by omega)), h n (by omega)]
theorem cnt_le (p : Nat → Bool) : ∀ n, cnt p n ≤ n
  | 0 => Nat.le_refl _
  | n + 1 => by
    have := cnt_le p n
    rw [cnt]
    cases p n <;> simp <;> omega
theorem cnt_up {p q : Nat → Bool} {i : Nat} : ∀ n, i < n → (∀ j, j < n → j ≠ i → q j = p j) → cnt q n + (p i).toNat = cnt p n + (q i).toNat
  | 0, h, _ => by omega
  | n + 1, h, hq => by
    rw [cnt, cnt]
    rcases (show i = n ∨ i < n by omega) with e | e
    · subst e
      rw [cnt_c i (fun j hj => hq j (by omega) (by omega))]
      omega
    · have := cnt_up (p := p) (q := q) n e (fun j hj => hq j (by omega))
      rw [hq n (by omega) (by omega)]
      omega
/-- rows (175 + k on the class's side, 15 + k on the reference's): 0 age 1 strength 2 parents 3 grandparents 4 dug by 6 dug 7 whose 8 what 9 due 10 fate; S 11: year, folk, living, covered, told, kept -/
def WC (σx σm : Dt) (S : Nat → Nat → Nat) : Prop := ∀ k j, (k ≤ 4 ∧ j < 10) ∨ (k = 6 ∧ j < 6) ∨ (7 ≤ k ∧ k ≤ 10 ∧ j < S 11 4) → (σx.1 (175 + k) j = nI (S k j) ∨ (k ≤ 1 ∧ S 11 1 ≤ j)) ∧ σm.1 (15 + k) j = nI (S k j)
def WSc (σx σm : Dt) (A : Nat → Int32) (W : Nat) (S : Nat → Nat → Nat) : Prop := (σx.1 174 0 = nI (S 11 0) ∧ σm.1 0 27 = nI (S 11 0)) ∧ (σx.1 174 1 = nI (S 11 1) ∧ σm.1 0 28 = nI (S 11 1)) ∧ (σx.1 174 4 = nI (S 11 2) ∧ σm.1 0 29 = nI (S 11 2)) ∧ (σx.1 174 5 = nI (S 11 3) ∧ σm.1 0 30 = nI (S 11 3)) ∧ (σx.1 174 6 = nI (S 11 4) ∧ σm.1 0 32 = nI (S 11 4)) ∧ σm.1 0 33 = nI (S 11 5) ∧ σx.1 174 2 = nI W ∧ σx.1 174 3 = A 2 ∧ (∀ w, w < W → σx.1 180 w = nI (szN A w)) ∧ ∀ f, f < 10 → σm.1 20 f = nI (cnt (fun p => S 7 p == f) (S 11 4))
def WO (A : Nat → Int32) (W : Nat) (S : Nat → Nat → Nat) : Prop := S 11 0 ≤ 99 ∧ S 11 1 ≤ 10 ∧ S 11 2 < 1024 ∧ S 11 3 < 1024 ∧ S 11 4 ≤ 12 ∧ S 11 5 = cnt (fun p => S 10 p == 1) (S 11 4) ∧ (∀ f, f < 10 → S 0 f ≤ 99 ∧ S 1 f ≤ 9 ∧ S 2 f < 1024 ∧ S 3 f < 1024) ∧ (∀ w, w < 6 → S 6 w ≤ szN A w) ∧ ∀ p, p < S 11 4 → S 7 p < S 11 1 ∧ S 8 p < W ∧ S 9 p ≤ 108 ∧ S 10 p ≤ 4
def Wk (σx σm : Dt) (o : Nat) (A : Nat → Int32) (F W : Nat) (S : Nat → Nat → Nat) : Prop := RefX σx ∧ MV σm o A F W ∧ WC σx σm S ∧ WSc σx σm A W S ∧ WO A W S
/-- what living leaves as it was -/
def KW (σx σx' σm σm' : Dt) : Prop := (∀ a, (a < 174 ∨ 185 < a) → σx'.1 a = σx.1 a) ∧ σx'.2 = σx.2 ∧ (∀ j, 7 ≤ j → σx'.1 174 j = σx.1 174 j) ∧ (∀ a, (1 ≤ a ∧ a < 15) ∨ 25 < a → σm'.1 a = σm.1 a) ∧ σm'.2 = σm.2 ∧ ∀ j, (j < 27 ∨ j = 31 ∨ 33 < j) → σm'.1 0 j = σm.1 0 j
theorem KW_0 (σx σm : Dt) : KW σx σx σm σm := ⟨fun _ _ => rfl, rfl, fun _ _ => rfl, fun _ _ => rfl, rfl, fun _ _ => rfl⟩
theorem KW.tr {a b c d e f : Dt} (h1 : KW a b d e) (h2 : KW b c e f) : KW a c d f := ⟨fun x hx => (h2.1 x hx).trans (h1.1 x hx), h2.2.1.trans h1.2.1, fun j hj => (h2.2.2.1 j hj).trans (h1.2.2.1 j hj), fun x hx => (h2.2.2.2.1 x hx).trans (h1.2.2.2.1 x hx), h2.2.2.2.2.1.trans h1.2.2.2.2.1, fun j hj => (h2.2.2.2.2.2 j hj).trans (h1.2.2.2.2.2 j hj)⟩
theorem KW.xs {a b c d : Dt} (h : KW a b c d) {e i : Nat} (v : Int32) (q : (175 ≤ e ∧ e ≤ 185) ∨ (e = 174 ∧ i < 7)) : KW a (setX b e i v) c d := ⟨fun x hx => by rw [setX_o (by omega)]; exact h.1 x hx, h.2.1, fun j hj => by rw [setX_ne (by omega)]; exact h.2.2.1 j hj, h.2.2.2⟩
theorem KW.ms {a b c d : Dt} (h : KW a b c d) {e i : Nat} (v : Int32) (q : (15 ≤ e ∧ e ≤ 25) ∨ (e = 0 ∧ 27 ≤ i ∧ i ≤ 33 ∧ i ≠ 31)) : KW a b c (setX d e i v) := ⟨h.1, h.2.1, h.2.2.1, fun x hx => by rw [setX_o (by omega)]; exact h.2.2.2.1 x hx, h.2.2.2.2.1, fun j hj => by rw [setX_ne (by omega)]; exact h.2.2.2.2.2 j hj⟩
theorem KW.kx {a b c d : Dt} (h : KW a b c d) : KX a b := ⟨fun x hx => h.1 x (Or.inl hx), congrArg Prod.snd h.2.1⟩
theorem KW.km {a b c d : Dt} (h : KW a b c d) : KM c d := ⟨h.2.2.2.1 1 (by omega), h.2.2.2.1 2 (by omega), congrArg Prod.snd h.2.2.2.2.1, fun j hj => h.2.2.2.2.2 j (by omega)⟩
theorem bI_01 (p : Prop) : bI p = 0 ∨ bI p = 1 := by
  by_cases c : p
  · exact Or.inr (bI_t c)
  · exact Or.inl (bI_f c)
theorem ite_z_t {α : Type} {a : Nat} {x y : α} (h : a = 0) : (if nI a = 0 then x else y) = x := if_pos (z_t h)
theorem ite_z_f {α : Type} {a : Nat} {x y : α} (ha : a < 2 ^ 31) (h : ¬ a = 0) : (if nI a = 0 then x else y) = y := if_neg (z_f ha h)
theorem ite_neg {α : Type} {a : Nat} {x y : α} (ha : a < 2 ^ 31) : (if nI a < 0 then x else y) = y := if_neg (nI_pos ha)
theorem xw9 {β : Type} {σ : Dt} {k : Option Nat → Option β} (hR : RefX σ) : bo (xgr SX 10 9 (some 174) σ) k = k (some 175) := bo_of (by rw [xgr_of (by decide) (by decide), hR.1 174 9 (by decide) (by decide)]; rfl)
theorem xw10 {β : Type} {σ : Dt} {k : Option Nat → Option β} (hR : RefX σ) : bo (xgr SX 10 10 (some 174) σ) k = k (some 176) := bo_of (by rw [xgr_of (by decide) (by decide), hR.1 174 10 (by decide) (by decide)]; rfl)
theorem xw11 {β : Type} {σ : Dt} {k : Option Nat → Option β} (hR : RefX σ) : bo (xgr SX 10 11 (some 174) σ) k = k (some 177) := bo_of (by rw [xgr_of (by decide) (by decide), hR.1 174 11 (by decide) (by decide)]; rfl)
theorem xw12 {β : Type} {σ : Dt} {k : Option Nat → Option β} (hR : RefX σ) : bo (xgr SX 10 12 (some 174) σ) k = k (some 178) := bo_of (by rw [xgr_of (by decide) (by decide), hR.1 174 12 (by decide) (by decide)]; rfl)
theorem xw13 {β : Type} {σ : Dt} {k : Option Nat → Option β} (hR : RefX σ) : bo (xgr SX 10 13 (some 174) σ) k = k (some 179) := bo_of (by rw [xgr_of (by decide) (by decide), hR.1 174 13 (by decide) (by decide)]; rfl)
theorem xw14 {β : Type} {σ : Dt} {k : Option Nat → Option β} (hR : RefX σ) : bo (xgr SX 10 14 (some 174) σ) k = k (some 180) := bo_of (by rw [xgr_of (by decide) (by decide), hR.1 174 14 (by decide) (by decide)]; rfl)
theorem xw15 {β : Type} {σ : Dt} {k : Option Nat → Option β} (hR : RefX σ) : bo (xgr SX 10 15 (some 174) σ) k = k (some 181) := bo_of (by rw [xgr_of (by decide) (by decide), hR.1 174 15 (by decide) (by decide)]; rfl)
theorem xw16 {β : Type} {σ : Dt} {k : Option Nat → Option β} (hR : RefX σ) : bo (xgr SX 10 16 (some 174) σ) k = k (some 182) := bo_of (by rw [xgr_of (by decide) (by decide), hR.1 174 16 (by decide) (by decide)]; rfl)
theorem xw17 {β : Type} {σ : Dt} {k : Option Nat → Option β} (hR : RefX σ) : bo (xgr SX 10 17 (some 174) σ) k = k (some 183) := bo_of (by rw [xgr_of (by decide) (by decide), hR.1 174 17 (by decide) (by decide)]; rfl)
theorem xw18 {β : Type} {σ : Dt} {k : Option Nat → Option β} (hR : RefX σ) : bo (xgr SX 10 18 (some 174) σ) k = k (some 184) := bo_of (by rw [xgr_of (by decide) (by decide), hR.1 174 18 (by decide) (by decide)]; rfl)
theorem xw19 {β : Type} {σ : Dt} {k : Option Nat → Option β} (hR : RefX σ) : bo (xgr SX 10 19 (some 174) σ) k = k (some 185) := bo_of (by rw [xgr_of (by decide) (by decide), hR.1 174 19 (by decide) (by decide)]; rfl)
theorem mw34 {β : Type} {σ : Dt} {k : Option Nat → Option β} (hR : RefM σ) : bo (xgr SM 12 34 (some 0) σ) k = k (some 15) := bo_of (m_r hR (by decide) rfl)
theorem mw35 {β : Type} {σ : Dt} {k : Option Nat → Option β} (hR : RefM σ) : bo (xgr SM 12 35 (some 0) σ) k = k (some 16) := bo_of (m_r hR (by decide) rfl)
theorem mw36 {β : Type} {σ : Dt} {k : Option Nat → Option β} (hR : RefM σ) : bo (xgr SM 12 36 (some 0) σ) k = k (some 17) := bo_of (m_r hR (by decide) rfl)
theorem mw37 {β : Type} {σ : Dt} {k : Option Nat → Option β} (hR : RefM σ) : bo (xgr SM 12 37 (some 0) σ) k = k (some 18) := bo_of (m_r hR (by decide) rfl)
theorem mw38 {β : Type} {σ : Dt} {k : Option Nat → Option β} (hR : RefM σ) : bo (xgr SM 12 38 (some 0) σ) k = k (some 19) := bo_of (m_r hR (by decide) rfl)
theorem mw39 {β : Type} {σ : Dt} {k : Option Nat → Option β} (hR : RefM σ) : bo (xgr SM 12 39 (some 0) σ) k = k (some 20) := bo_of (m_r hR (by decide) rfl)
theorem mw40 {β : Type} {σ : Dt} {k : Option Nat → Option β} (hR : RefM σ) : bo (xgr SM 12 40 (some 0) σ) k = k (some 21) := bo_of (m_r hR (by decide) rfl)
theorem mw41 {β : Type} {σ : Dt} {k : Option Nat → Option β} (hR : RefM σ) : bo (xgr SM 12 41 (some 0) σ) k = k (some 22) := bo_of (m_r hR (by decide) rfl)
theorem mw42 {β : Type} {σ : Dt} {k : Option Nat → Option β} (hR : RefM σ) : bo (xgr SM 12 42 (some 0) σ) k = k (some 23) := bo_of (m_r hR (by decide) rfl)
theorem mw43 {β : Type} {σ : Dt} {k : Option Nat → Option β} (hR : RefM σ) : bo (xgr SM 12 43 (some 0) σ) k = k (some 24) := bo_of (m_r hR (by decide) rfl)
theorem mw44 {β : Type} {σ : Dt} {k : Option Nat → Option β} (hR : RefM σ) : bo (xgr SM 12 44 (some 0) σ) k = k (some 25) := bo_of (m_r hR (by decide) rfl)
section WLK
variable {σx σm : Dt} {o F W : Nat} {A : Nat → Int32} {S : Nat → Nat → Nat}
theorem Wk.x0 {β : Type} {k : Int32 → Option β} (h : Wk σx σm o A F W S) : bo (xgi SX 10 0 (some 174) σx) k = k (nI (S 11 0)) := bo_of (by rw [xgi_of (by decide) (by decide), h.2.2.2.1.1.1])
theorem Wk.x1 {β : Type} {k : Int32 → Option β} (h : Wk σx σm o A F W S) : bo (xgi SX 10 1 (some 174) σx) k = k (nI (S 11 1)) := bo_of (by rw [xgi_of (by decide) (by decide), h.2.2.2.1.2.1.1])
theorem Wk.x4 {β : Type} {k : Int32 → Option β} (h : Wk σx σm o A F W S) : bo (xgi SX 10 4 (some 174) σx) k = k (nI (S 11 2)) := bo_of (by rw [xgi_of (by decide) (by decide), h.2.2.2.1.2.2.1.1])
theorem Wk.x5 {β : Type} {k : Int32 → Option β} (h : Wk σx σm o A F W S) : bo (xgi SX 10 5 (some 174) σx) k = k (nI (S 11 3)) := bo_of (by rw [xgi_of (by decide) (by decide), h.2.2.2.1.2.2.2.1.1])
theorem Wk.x6 {β : Type} {k : Int32 → Option β} (h : Wk σx σm o A F W S) : bo (xgi SX 10 6 (some 174) σx) k = k (nI (S 11 4)) := bo_of (by rw [xgi_of (by decide) (by decide), h.2.2.2.1.2.2.2.2.1.1])
theorem Wk.m27 {β : Type} {k : Int32 → Option β} (h : Wk σx σm o A F W S) : bo (xgi SM 12 27 (some 0) σm) k = k (nI (S 11 0)) := bo_of (by rw [mgi, h.2.2.2.1.1.2])
theorem Wk.m28 {β : Type} {k : Int32 → Option β} (h : Wk σx σm o A F W S) : bo (xgi SM 12 28 (some 0) σm) k = k (nI (S 11 1)) := bo_of (by rw [mgi, h.2.2.2.1.2.1.2])
theorem Wk.m29 {β : Type} {k : Int32 → Option β} (h : Wk σx σm o A F W S) : bo (xgi SM 12 29 (some 0) σm) k = k (nI (S 11 2)) := bo_of (by rw [mgi, h.2.2.2.1.2.2.1.2])
theorem Wk.m30 {β : Type} {k : Int32 → Option β} (h : Wk σx σm o A F W S) : bo (xgi SM 12 30 (some 0) σm) k = k (nI (S 11 3)) := bo_of (by rw [mgi, h.2.2.2.1.2.2.2.1.2])
theorem Wk.m32 {β : Type} {k : Int32 → Option β} (h : Wk σx σm o A F W S) : bo (xgi SM 12 32 (some 0) σm) k = k (nI (S 11 4)) := bo_of (by rw [mgi, h.2.2.2.1.2.2.2.2.1.2])
theorem Wk.m33 {β : Type} {k : Int32 → Option β} (h : Wk σx σm o A F W S) : bo (xgi SM 12 33 (some 0) σm) k = k (nI (S 11 5)) := bo_of (by rw [mgi, h.2.2.2.1.2.2.2.2.2.1])
theorem Wk.x2 {β : Type} {k : Int32 → Option β} (h : Wk σx σm o A F W S) : bo (xgi SX 10 2 (some 174) σx) k = k (nI W) := bo_of (by rw [xgi_of (by decide) (by decide), h.2.2.2.1.2.2.2.2.2.2.1])
theorem Wk.x3 {β : Type} {k : Int32 → Option β} (h : Wk σx σm o A F W S) : bo (xgi SX 10 3 (some 174) σx) k = k (A 2) := bo_of (by rw [xgi_of (by decide) (by decide), h.2.2.2.1.2.2.2.2.2.2.2.1])
theorem Wk.xa0 {β : Type} {k : Int32 → Option β} {f : Nat} (h : Wk σx σm o A F W S) (hf : f < S 11 1) : bo (xai SX (some 175) (nI f) σx) k = k (nI (S 0 f)) := bo_of (by rw [xai_of (by decide) (by decide) (show f < SX.2.2 175 from Nat.lt_of_lt_of_le hf h.2.2.2.2.2.1) (by decide)]; exact congrArg some (((h.2.2.1 0 f (Or.inl ⟨by decide, Nat.lt_of_lt_of_le hf h.2.2.2.2.2.1⟩)).1).resolve_right (fun z => by omega)))
theorem Wk.ma0 {β : Type} {k : Int32 → Option β} {f : Nat} (h : Wk σx σm o A F W S) (hf : f < 10) : bo (xai SM (some 15) (nI f) σm) k = k (nI (S 0 f)) := bo_of (by rw [xai_of (by decide) (by decide) (show f < SM.2.2 15 from hf) (by decide)]; exact congrArg some (h.2.2.1 0 f (Or.inl ⟨by decide, hf⟩)).2)
theorem Wk.xa1 {β : Type} {k : Int32 → Option β} {f : Nat} (h : Wk σx σm o A F W S) (hf : f < S 11 1) : bo (xai SX (some 176) (nI f) σx) k = k (nI (S 1 f)) := bo_of (by rw [xai_of (by decide) (by decide) (show f < SX.2.2 176 from Nat.lt_of_lt_of_le hf h.2.2.2.2.2.1) (by decide)]; exact congrArg some (((h.2.2.1 1 f (Or.inl ⟨by decide, Nat.lt_of_lt_of_le hf h.2.2.2.2.2.1⟩)).1).resolve_right (fun z => by omega)))
theorem Wk.ma1 {β : Type} {k : Int32 → Option β} {f : Nat} (h : Wk σx σm o A F W S) (hf : f < 10) : bo (xai SM (some 16) (nI f) σm) k = k (nI (S 1 f)) := bo_of (by rw [xai_of (by decide) (by decide) (show f < SM.2.2 16 from hf) (by decide)]; exact congrArg some (h.2.2.1 1 f (Or.inl ⟨by decide, hf⟩)).2)
theorem Wk.xa2 {β : Type} {k : Int32 → Option β} {f : Nat} (h : Wk σx σm o A F W S) (hf : f < 10) : bo (xai SX (some 177) (nI f) σx) k = k (nI (S 2 f)) := bo_of (by rw [xai_of (by decide) (by decide) (show f < SX.2.2 177 from hf) (by decide)]; exact congrArg some (((h.2.2.1 2 f (Or.inl ⟨by decide, hf⟩)).1).resolve_right (fun z => by omega)))
theorem Wk.ma2 {β : Type} {k : Int32 → Option β} {f : Nat} (h : Wk σx σm o A F W S) (hf : f < 10) : bo (xai SM (some 17) (nI f) σm) k = k (nI (S 2 f)) := bo_of (by rw [xai_of (by decide) (by decide) (show f < SM.2.2 17 from hf) (by decide)]; exact congrArg some (h.2.2.1 2 f (Or.inl ⟨by decide, hf⟩)).2)
theorem Wk.xa3 {β : Type} {k : Int32 → Option β} {f : Nat} (h : Wk σx σm o A F W S) (hf : f < 10) : bo (xai SX (some 178) (nI f) σx) k = k (nI (S 3 f)) := bo_of (by rw [xai_of (by decide) (by decide) (show f < SX.2.2 178 from hf) (by decide)]; exact congrArg some (((h.2.2.1 3 f (Or.inl ⟨by decide, hf⟩)).1).resolve_right (fun z => by omega)))
theorem Wk.ma3 {β : Type} {k : Int32 → Option β} {f : Nat} (h : Wk σx σm o A F W S) (hf : f < 10) : bo (xai SM (some 18) (nI f) σm) k = k (nI (S 3 f)) := bo_of (by rw [xai_of (by decide) (by decide) (show f < SM.2.2 18 from hf) (by decide)]; exact congrArg some (h.2.2.1 3 f (Or.inl ⟨by decide, hf⟩)).2)
theorem Wk.xa4 {β : Type} {k : Int32 → Option β} {f : Nat} (h : Wk σx σm o A F W S) (hf : f < 10) : bo (xai SX (some 179) (nI f) σx) k = k (nI (S 4 f)) := bo_of (by rw [xai_of (by decide) (by decide) (show f < SX.2.2 179 from hf) (by decide)]; exact congrArg some (((h.2.2.1 4 f (Or.inl ⟨by decide, hf⟩)).1).resolve_right (fun z => by omega)))
theorem Wk.ma4 {β : Type} {k : Int32 → Option β} {f : Nat} (h : Wk σx σm o A F W S) (hf : f < 10) : bo (xai SM (some 19) (nI f) σm) k = k (nI (S 4 f)) := bo_of (by rw [xai_of (by decide) (by decide) (show f < SM.2.2 19 from hf) (by decide)]; exact congrArg some (h.2.2.1 4 f (Or.inl ⟨by decide, hf⟩)).2)
theorem Wk.xa6 {β : Type} {k : Int32 → Option β} {f : Nat} (h : Wk σx σm o A F W S) (hf : f < 6) : bo (xai SX (some 181) (nI f) σx) k = k (nI (S 6 f)) := bo_of (by rw [xai_of (by decide) (by decide) (show f < SX.2.2 181 from hf) (by decide)]; exact congrArg some (((h.2.2.1 6 f (Or.inr (Or.inl ⟨rfl, hf⟩))).1).resolve_right (fun z => by omega)))
theorem Wk.ma6 {β : Type} {k : Int32 → Option β} {f : Nat} (h : Wk σx σm o A F W S) (hf : f < 6) : bo (xai SM (some 21) (nI f) σm) k = k (nI (S 6 f)) := bo_of (by rw [xai_of (by decide) (by decide) (show f < SM.2.2 21 from hf) (by decide)]; exact congrArg some (h.2.2.1 6 f (Or.inr (Or.inl ⟨rfl, hf⟩))).2)
theorem Wk.xa7 {β : Type} {k : Int32 → Option β} {f : Nat} (h : Wk σx σm o A F W S) (hf : f < S 11 4) : bo (xai SX (some 182) (nI f) σx) k = k (nI (S 7 f)) := bo_of (by rw [xai_of (by decide) (by decide) (show f < SX.2.2 182 from (Nat.lt_of_lt_of_le hf h.2.2.2.2.2.2.2.2.1)) (by decide)]; exact congrArg some (((h.2.2.1 7 f (Or.inr (Or.inr ⟨by decide, by decide, hf⟩))).1).resolve_right (fun z => by omega)))
theorem Wk.ma7 {β : Type} {k : Int32 → Option β} {f : Nat} (h : Wk σx σm o A F W S) (hf : f < S 11 4) : bo (xai SM (some 22) (nI f) σm) k = k (nI (S 7 f)) := bo_of (by rw [xai_of (by decide) (by decide) (show f < SM.2.2 22 from (Nat.lt_of_lt_of_le hf h.2.2.2.2.2.2.2.2.1)) (by decide)]; exact congrArg some (h.2.2.1 7 f (Or.inr (Or.inr ⟨by decide, by decide, hf⟩))).2)
theorem Wk.xa8 {β : Type} {k : Int32 → Option β} {f : Nat} (h : Wk σx σm o A F W S) (hf : f < S 11 4) : bo (xai SX (some 183) (nI f) σx) k = k (nI (S 8 f)) := bo_of (by rw [xai_of (by decide) (by decide) (show f < SX.2.2 183 from (Nat.lt_of_lt_of_le hf h.2.2.2.2.2.2.2.2.1)) (by decide)]; exact congrArg some (((h.2.2.1 8 f (Or.inr (Or.inr ⟨by decide, by decide, hf⟩))).1).resolve_right (fun z => by omega)))
theorem Wk.ma8 {β : Type} {k : Int32 → Option β} {f : Nat} (h : Wk σx σm o A F W S) (hf : f < S 11 4) : bo (xai SM (some 23) (nI f) σm) k = k (nI (S 8 f)) := bo_of (by rw [xai_of (by decide) (by decide) (show f < SM.2.2 23 from (Nat.lt_of_lt_of_le hf h.2.2.2.2.2.2.2.2.1)) (by decide)]; exact congrArg some (h.2.2.1 8 f (Or.inr (Or.inr ⟨by decide, by decide, hf⟩))).2)
theorem Wk.xa9 {β : Type} {k : Int32 → Option β} {f : Nat} (h : Wk σx σm o A F W S) (hf : f < S 11 4) : bo (xai SX (some 184) (nI f) σx) k = k (nI (S 9 f)) := bo_of (by rw [xai_of (by decide) (by decide) (show f < SX.2.2 184 from (Nat.lt_of_lt_of_le hf h.2.2.2.2.2.2.2.2.1)) (by decide)]; exact congrArg some (((h.2.2.1 9 f (Or.inr (Or.inr ⟨by decide, by decide, hf⟩))).1).resolve_right (fun z => by omega)))
theorem Wk.ma9 {β : Type} {k : Int32 → Option β} {f : Nat} (h : Wk σx σm o A F W S) (hf : f < S 11 4) : bo (xai SM (some 24) (nI f) σm) k = k (nI (S 9 f)) := bo_of (by rw [xai_of (by decide) (by decide) (show f < SM.2.2 24 from (Nat.lt_of_lt_of_le hf h.2.2.2.2.2.2.2.2.1)) (by decide)]; exact congrArg some (h.2.2.1 9 f (Or.inr (Or.inr ⟨by decide, by decide, hf⟩))).2)
theorem Wk.xa10 {β : Type} {k : Int32 → Option β} {f : Nat} (h : Wk σx σm o A F W S) (hf : f < S 11 4) : bo (xai SX (some 185) (nI f) σx) k = k (nI (S 10 f)) := bo_of (by rw [xai_of (by decide) (by decide) (show f < SX.2.2 185 from (Nat.lt_of_lt_of_le hf h.2.2.2.2.2.2.2.2.1)) (by decide)]; exact congrArg some (((h.2.2.1 10 f (Or.inr (Or.inr ⟨by decide, by decide, hf⟩))).1).resolve_right (fun z => by omega)))
theorem Wk.ma10 {β : Type} {k : Int32 → Option β} {f : Nat} (h : Wk σx σm o A F W S) (hf : f < S 11 4) : bo (xai SM (some 25) (nI f) σm) k = k (nI (S 10 f)) := bo_of (by rw [xai_of (by decide) (by decide) (show f < SM.2.2 25 from (Nat.lt_of_lt_of_le hf h.2.2.2.2.2.2.2.2.1)) (by decide)]; exact congrArg some (h.2.2.1 10 f (Or.inr (Or.inr ⟨by decide, by decide, hf⟩))).2)
theorem Wk.xa5 {β : Type} {k : Int32 → Option β} {w : Nat} (h : Wk σx σm o A F W S) (hw : w < W) : bo (xai SX (some 180) (nI w) σx) k = k (nI (szN A w)) := bo_of (by rw [xai_of (by decide) (by decide) (show w < SX.2.2 180 from Nat.lt_of_lt_of_le hw h.2.1.W6) (by decide), h.2.2.2.1.2.2.2.2.2.2.2.2.1 w hw])
theorem Wk.ma5 {β : Type} {k : Int32 → Option β} {f : Nat} (h : Wk σx σm o A F W S) (hf : f < 10) : bo (xai SM (some 20) (nI f) σm) k = k (nI (cnt (fun p => S 7 p == f) (S 11 4))) := bo_of (by rw [xai_of (by decide) (by decide) (show f < SM.2.2 20 from hf) (by decide), h.2.2.2.1.2.2.2.2.2.2.2.2.2 f hf])
theorem Wk.hasFolk (h : Wk σx σm o A F W S) (x : Int32) : f_X10_hasFolk 174 x σx = some (bI (inR x (S 11 1))) := by
  have hb := h.2.2.2.2.2.1
  apply bI_of
  have q := inR_iff2 (x := x) (n := S 11 1) (by omega)
  unfold f_X10_hasFolk f_X10_hasFolk_22
  constructor
  · intro z
    obtain ⟨q1, q2⟩ := q.mp z
    rw [if_neg q1, h.x1, if_neg q2, if_neg]
    obtain ⟨j, hj, rfl⟩ := z
    exact fun c => absurd ((nI_leI (a := 10) (by decide) (by omega)).mp c) (by omega)
  · intro z
    by_cases c1 : x < 0
    · rw [if_pos c1]
    · rw [if_neg c1, h.x1, if_pos]
      exact Classical.not_not.mp (fun c2 => z (q.mpr ⟨c1, c2⟩))
theorem Wk.hasWork (h : Wk σx σm o A F W S) (x : Int32) : f_X10_hasWork 174 x σx = some (bI (inR x W)) := by
  have hb := h.2.1.W6
  apply bI_of
  have q := inR_iff2 (x := x) (n := W) (by omega)
  unfold f_X10_hasWork f_X10_hasWork_22
  constructor
  · intro z
    obtain ⟨q1, q2⟩ := q.mp z
    rw [if_neg q1, h.x2, if_neg q2, if_neg]
    obtain ⟨j, hj, rfl⟩ := z
    exact fun c => absurd ((nI_leI (a := 6) (by decide) (by omega)).mp c) (by omega)
  · intro z
    by_cases c1 : x < 0
    · rw [if_pos c1]
    · rw [if_neg c1, h.x2, if_pos]
      exact Classical.not_not.mp (fun c2 => z (q.mpr ⟨c1, c2⟩))
theorem Wk.hasProm (h : Wk σx σm o A F W S) (x : Int32) : f_X10_hasPromise 174 x σx = some (bI (inR x (S 11 4))) := by
  have hb := h.2.2.2.2.2.2.2.2.1
  apply bI_of
  have q := inR_iff2 (x := x) (n := S 11 4) (by omega)
  unfold f_X10_hasPromise f_X10_hasPromise_22
  constructor
  · intro z
    obtain ⟨q1, q2⟩ := q.mp z
    rw [if_neg q1, h.x6, if_neg q2, if_neg]
    obtain ⟨j, hj, rfl⟩ := z
    exact fun c => absurd ((nI_leI (a := 12) (by decide) (by omega)).mp c) (by omega)
  · intro z
    by_cases c1 : x < 0
    · rw [if_pos c1]
    · rw [if_neg c1, h.x6, if_pos]
      exact Classical.not_not.mp (fun c2 => z (q.mpr ⟨c1, c2⟩))
def lvN (S : Nat → Nat → Nat) (f : Nat) : Prop := f < S 11 1 ∧ (S 11 2).testBit f = true
theorem Wk.xlives (h : Wk σx σm o A F W S) {f : Nat} (hf : f < 32) : f_X10_lives 174 (nI f) σx = some (bI (lvN S f)) := by
  have h1 := h.2.2.2.2.2.1
  have h2 := h.2.2.2.2.2.2.1
  unfold f_X10_lives f_X10_lives_23
  rw [bo_of wrc, bo_of (h.hasFolk _), ite_b]
  by_cases c : f < S 11 1
  · rw [ci_in_t c, h.x4]
    simp only [bit0 (show S 11 2 < 2 ^ 31 by omega) hf]
    by_cases c2 : (S 11 2).testBit f = true
    · rw [if_neg (fun z => z c2), bI_t ⟨c, c2⟩]
    · rw [if_pos c2, bI_f (fun z => c2 z.2)]
  · rw [ci_in_f (by omega) (by omega), bI_f (fun z => c z.1)]
theorem Wk.mlives (h : Wk σx σm o A F W S) {f : Nat} (hf : f < 32) : f_X12_lives 0 (nI f) σm = some (bI (lvN S f)) := by
  have h1 := h.2.2.2.2.2.1
  have h2 := h.2.2.2.2.2.2.1
  unfold f_X12_lives f_X12_lives_29
  rw [h.m28, bo_of (iInB _ _ _ _), ite_b]
  have q := inR_iff (x := nI f) (n := S 11 1) (by omega)
  by_cases c : f < S 11 1
  · rw [ci_t (show inI (nI f) 0 (nI (S 11 1) - 1) from q.mp ⟨f, c, rfl⟩), h.m29, bo_of (mamong (by omega) hf _), ite_b]
    by_cases c2 : (S 11 2).testBit f = true
    · rw [ci_t c2, bI_t ⟨c, c2⟩]
    · rw [ci_f c2, bI_f (fun z => c2 z.2)]
  · rw [ci_f (show ¬ inI (nI f) 0 (nI (S 11 1) - 1) from fun z => c ((inR_nI (by omega) (by omega)).mp (q.mpr z))), bI_f (fun z => c z.1)]
theorem Wk.xdone (h : Wk σx σm o A F W S) {w : Nat} (hw : w < W) : f_X10_isDone 174 (nI w) σx = some (bI (S 6 w = szN A w)) := by
  have hW := h.2.1.W6
  have h1 := h.2.2.2.2.2.2.2.2.2.2.2.1 w (by omega)
  have h2 := (h.2.1.vw.wk (show w < 6 by omega)).1.2
  unfold f_X10_isDone f_X10_isDone_27
  rw [bo_of wrc, bo_of (h.hasWork _), ite_b, ci_in_t hw, xw15 h.1, h.xa6 (by omega), xw14 h.1, h.xa5 (by omega)]
  by_cases c : S 6 w = szN A w
  · rw [ite_lt_f (by omega) (by omega), bI_t c]
  · rw [ite_lt_t (by omega) (by omega), bI_f c]
theorem Wk.mdone (h : Wk σx σm o A F W S) {w : Nat} (hw : w < 6) : f_X12_isDone 0 (nI w) σm = some (bI (S 6 w = szN A w)) := by
  have h1 := h.2.2.2.2.2.2.2.2.2.2.2.1 w hw
  have h2 := (h.2.1.vw.wk hw).1.2
  unfold f_X12_isDone
  rw [mw40 h.2.1.1, h.ma6 hw, bo_of mrc, bo_of (msiz h.2.1 hw)]
  by_cases c : S 6 w = szN A w
  · rw [ite_eq_t c, bI_t c]
  · rw [ite_eq_f (by omega) (by omega) c, bI_f c]
-- promise
theorem Wk_prom (h : Wk σx σm o A F W S) {f w y q : Nat} (hf : f < S 11 1) (hw : w < W) (hy : y ≤ 9) (hq : q ≤ 4) (hq1 : q ≠ 1) (ht : S 11 4 < 12) : Wk (setX (setX (setX (setX (setX σx 182 (S 11 4) (nI f)) 183 (S 11 4) (nI w)) 184 (S 11 4) (nI (S 11 0 + y))) 185 (S 11 4) (nI q)) 174 6 (nI (S 11 4 + 1))) (setX (setX (setX (setX (setX (setX σm 22 (S 11 4) (nI f)) 23 (S 11 4) (nI w)) 24 (S 11 4) (nI (S 11 0 + y))) 25 (S 11 4) (nI q)) 0 32 (nI (S 11 4 + 1))) 20 f (nI (cnt (fun p => S 7 p == f) (S 11 4) + 1))) o A F W (upS (upS (upS (upS (upS S 7 (S 11 4) f) 8 (S 11 4) w) 9 (S 11 4) (S 11 0 + y)) 10 (S 11 4) q) 11 4 (S 11 4 + 1)) := by
  obtain ⟨hR, hM, hC, ⟨⟨y1, y2⟩, ⟨n1, n2⟩, ⟨l1, l2⟩, ⟨c1, c2⟩, ⟨t1, t2⟩, k2, w1, b1, z1, s2⟩, ⟨o0, o1, o2, o3, o4, o5, o6, o7, o8⟩⟩ := h
  have hKM := ((((((KW_0 σx σm).ms (e := 22) (i := S 11 4) (nI f) (by omega)).ms (e := 23) (i := S 11 4) (nI w) (by omega)).ms (e := 24) (i := S 11 4) (nI (S 11 0 + y)) (by omega)).ms (e := 25) (i := S 11 4) (nI q) (by omega)).ms (e := 0) (i := 32) (nI (S 11 4 + 1)) (by omega)).ms (e := 20) (i := f) (nI (cnt (fun p => S 7 p == f) (S 11 4) + 1)) (by omega)
  refine ⟨hR, hKM.km.mv hM, ?_, ?_, ?_⟩
  · intro k j hk
    rw [show upS (upS (upS (upS (upS S 7 (S 11 4) f) 8 (S 11 4) w) 9 (S 11 4) (S 11 0 + y)) 10 (S 11 4) q) 11 4 (S 11 4 + 1) 11 4 = S 11 4 + 1 from upS_eq] at hk
    by_cases c : 7 ≤ k ∧ j = S 11 4
    · obtain ⟨c1, rfl⟩ := c
      rcases (show k = 7 ∨ k = 8 ∨ k = 9 ∨ k = 10 by omega) with rfl | rfl | rfl | rfl
      · exact ⟨Or.inl (by simp (disch := omega) only [Nat.reduceAdd, setX_ne, setX_j, upS_ne, upS_eq]), by simp (disch := omega) only [Nat.reduceAdd, setX_ne, setX_j, upS_ne, upS_eq]⟩
      · exact ⟨Or.inl (by simp (disch := omega) only [Nat.reduceAdd, setX_ne, setX_j, upS_ne, upS_eq]), by simp (disch := omega) only [Nat.reduceAdd, setX_ne, setX_j, upS_ne, upS_eq]⟩
      · exact ⟨Or.inl (by simp (disch := omega) only [Nat.reduceAdd, setX_ne, setX_j, upS_ne, upS_eq]), by simp (disch := omega) only [Nat.reduceAdd, setX_ne, setX_j, upS_ne, upS_eq]⟩
      · exact ⟨Or.inl (by simp (disch := omega) only [Nat.reduceAdd, setX_ne, setX_j, upS_ne, upS_eq]), by simp (disch := omega) only [Nat.reduceAdd, setX_ne, setX_j, upS_ne, upS_eq]⟩
    · simp (disch := omega) only [Nat.reduceAdd, setX_ne, setX_j, upS_ne, upS_eq]
      exact hC k j (by omega)
  · refine ⟨⟨?_, ?_⟩, ⟨?_, ?_⟩, ⟨?_, ?_⟩, ⟨?_, ?_⟩, ⟨?_, ?_⟩, ?_, ?_, ?_, fun w2 hw2 => ?_, fun g hg => ?_⟩
    · simp (disch := omega) only [Nat.reduceAdd, setX_ne, setX_j, upS_ne, upS_eq]; exact y1
    · simp (disch := omega) only [Nat.reduceAdd, setX_ne, setX_j, upS_ne, upS_eq]; exact y2
    · simp (disch := omega) only [Nat.reduceAdd, setX_ne, setX_j, upS_ne, upS_eq]; exact n1
    · simp (disch := omega) only [Nat.reduceAdd, setX_ne, setX_j, upS_ne, upS_eq]; exact n2
    · simp (disch := omega) only [Nat.reduceAdd, setX_ne, setX_j, upS_ne, upS_eq]; exact l1
    · simp (disch := omega) only [Nat.reduceAdd, setX_ne, setX_j, upS_ne, upS_eq]; exact l2
    · simp (disch := omega) only [Nat.reduceAdd, setX_ne, setX_j, upS_ne, upS_eq]; exact c1
    · simp (disch := omega) only [Nat.reduceAdd, setX_ne, setX_j, upS_ne, upS_eq]; exact c2
    · simp (disch := omega) only [Nat.reduceAdd, setX_ne, setX_j, upS_ne, upS_eq]
    · simp (disch := omega) only [Nat.reduceAdd, setX_ne, setX_j, upS_ne, upS_eq]
    · simp (disch := omega) only [Nat.reduceAdd, setX_ne, setX_j, upS_ne, upS_eq]; exact k2
    · simp (disch := omega) only [Nat.reduceAdd, setX_ne, setX_j, upS_ne, upS_eq]; exact w1
    · simp (disch := omega) only [Nat.reduceAdd, setX_ne, setX_j, upS_ne, upS_eq]; exact b1
    · simp (disch := omega) only [Nat.reduceAdd, setX_ne, setX_j, upS_ne, upS_eq]; exact z1 w2 hw2
    · have hc7 : cnt (fun p => upS (upS (upS (upS (upS S 7 (S 11 4) f) 8 (S 11 4) w) 9 (S 11 4) (S 11 0 + y)) 10 (S 11 4) q) 11 4 (S 11 4 + 1) 7 p == g) (S 11 4) = cnt (fun p => S 7 p == g) (S 11 4) := cnt_c _ (fun i hi => by simp (disch := omega) only [Nat.reduceAdd, setX_ne, setX_j, upS_ne, upS_eq])
      rw [show upS (upS (upS (upS (upS S 7 (S 11 4) f) 8 (S 11 4) w) 9 (S 11 4) (S 11 0 + y)) 10 (S 11 4) q) 11 4 (S 11 4 + 1) 11 4 = S 11 4 + 1 from upS_eq, cnt, hc7]
      by_cases e : g = f
      · subst e
        simp (disch := omega) only [Nat.reduceAdd, setX_ne, setX_j, upS_ne, upS_eq]
        rw [beq_self_eq_true]
        rfl
      · simp (disch := omega) only [Nat.reduceAdd, setX_ne, setX_j, upS_ne, upS_eq]
        rw [s2 g hg, show (f == g) = false from beq_eq_false_iff_ne.mpr (fun z => e z.symm)]
        rfl
  · refine ⟨?_, ?_, ?_, ?_, ?_, ?_, fun f2 hf2 => ?_, fun w2 hw2 => ?_, fun p hp => ?_⟩
    · simp (disch := omega) only [Nat.reduceAdd, setX_ne, setX_j, upS_ne, upS_eq]; exact o0
    · simp (disch := omega) only [Nat.reduceAdd, setX_ne, setX_j, upS_ne, upS_eq]; exact o1
    · simp (disch := omega) only [Nat.reduceAdd, setX_ne, setX_j, upS_ne, upS_eq]; exact o2
    · simp (disch := omega) only [Nat.reduceAdd, setX_ne, setX_j, upS_ne, upS_eq]; exact o3
    · simp (disch := omega) only [Nat.reduceAdd, setX_ne, setX_j, upS_ne, upS_eq]; omega
    · have hc7 : cnt (fun p => upS (upS (upS (upS (upS S 7 (S 11 4) f) 8 (S 11 4) w) 9 (S 11 4) (S 11 0 + y)) 10 (S 11 4) q) 11 4 (S 11 4 + 1) 10 p == 1) (S 11 4) = cnt (fun p => S 10 p == 1) (S 11 4) := cnt_c _ (fun i hi => by simp (disch := omega) only [Nat.reduceAdd, setX_ne, setX_j, upS_ne, upS_eq])
      rw [show upS (upS (upS (upS (upS S 7 (S 11 4) f) 8 (S 11 4) w) 9 (S 11 4) (S 11 0 + y)) 10 (S 11 4) q) 11 4 (S 11 4 + 1) 11 4 = S 11 4 + 1 from upS_eq, cnt, hc7]
      simp (disch := omega) only [Nat.reduceAdd, setX_ne, setX_j, upS_ne, upS_eq]
      rw [o5, show (q == 1) = false from beq_eq_false_iff_ne.mpr hq1]
      rfl
    · simp (disch := omega) only [Nat.reduceAdd, setX_ne, setX_j, upS_ne, upS_eq]; exact o6 f2 hf2
    · simp (disch := omega) only [Nat.reduceAdd, setX_ne, setX_j, upS_ne, upS_eq]; exact o7 w2 hw2
    · rw [show upS (upS (upS (upS (upS S 7 (S 11 4) f) 8 (S 11 4) w) 9 (S 11 4) (S 11 0 + y)) 10 (S 11 4) q) 11 4 (S 11 4 + 1) 11 4 = S 11 4 + 1 from upS_eq] at hp
      by_cases e : p = S 11 4
      · subst e
        simp (disch := omega) only [Nat.reduceAdd, setX_ne, setX_j, upS_ne, upS_eq]
        omega
      · simp (disch := omega) only [Nat.reduceAdd, setX_ne, setX_j, upS_ne, upS_eq]
        exact o8 p (by omega)
theorem Wk_sc (h : Wk σx σm o A F W S) {s a b v : Nat} (hs : (s = 0 ∧ a = 0 ∧ b = 27 ∧ v ≤ 99) ∨ (s = 1 ∧ a = 1 ∧ b = 28 ∧ S 11 1 ≤ v ∧ v ≤ 10) ∨ (s = 2 ∧ a = 4 ∧ b = 29 ∧ v < 1024) ∨ (s = 3 ∧ a = 5 ∧ b = 30 ∧ v < 1024)) (hn : s = 1 → ∀ j, S 11 1 ≤ j → j < v → σx.1 175 j = nI (S 0 j) ∧ σx.1 176 j = nI (S 1 j)) : Wk (setX σx 174 a (nI v)) (setX σm 0 b (nI v)) o A F W (upS S 11 s v) := by
  obtain ⟨hR, hM, hC, ⟨⟨y1, y2⟩, ⟨n1, n2⟩, ⟨l1, l2⟩, ⟨c1, c2⟩, ⟨t1, t2⟩, k2, w1, b1, z1, s2⟩, ⟨o0, o1, o2, o3, o4, o5, o6, o7, o8⟩⟩ := h
  have hKM := (KW_0 σx σm).ms (e := 0) (i := b) (nI v) (by omega)
  have e4 : upS S 11 s v 11 4 = S 11 4 := by simp (disch := omega) only [Nat.reduceAdd, setX_ne, setX_j, upS_ne, upS_eq]
  refine ⟨hR, hKM.km.mv hM, ?_, ?_, ?_⟩
  · intro k j hk
    rw [e4] at hk
    have hc := hC k j (by omega)
    refine ⟨?_, by simp (disch := omega) only [Nat.reduceAdd, setX_ne, setX_j, upS_ne, upS_eq]; exact hc.2⟩
    rcases hc.1 with z | ⟨z1, z2⟩
    · left
      simp (disch := omega) only [Nat.reduceAdd, setX_ne, setX_j, upS_ne, upS_eq]
      exact z
    · by_cases d : s = 1 ∧ j < v
      · left
        have := hn d.1 j z2 d.2
        simp (disch := omega) only [Nat.reduceAdd, setX_ne, setX_j, upS_ne, upS_eq]
        rcases (show k = 0 ∨ k = 1 by omega) with rfl | rfl
        · exact this.1
        · exact this.2
      · right
        refine ⟨z1, ?_⟩
        by_cases d1 : s = 1
        · subst d1
          rw [upS_eq]
          omega
        · rw [upS_ne (by omega)]
          exact z2
  · have hl : ∀ x, cnt (fun p => upS S 11 s v 7 p == x) (upS S 11 s v 11 4) = cnt (fun p => S 7 p == x) (S 11 4) := fun x => by
      rw [e4]
      exact cnt_c _ (fun i hi => by simp (disch := omega) only [Nat.reduceAdd, setX_ne, setX_j, upS_ne, upS_eq])
    refine ⟨?_, ?_, ?_, ?_, ?_, ?_, ?_, ?_, fun w2 hw2 => ?_, fun g hg => ?_⟩
    · rcases hs with ⟨rfl, rfl, rfl, hv⟩ | ⟨rfl, rfl, rfl, hv⟩ | ⟨rfl, rfl, rfl, hv⟩ | ⟨rfl, rfl, rfl, hv⟩
      · constructor <;> simp (disch := omega) only [Nat.reduceAdd, setX_ne, setX_j, upS_ne, upS_eq]
      · simp (disch := omega) only [Nat.reduceAdd, setX_ne, setX_j, upS_ne, upS_eq]; exact ⟨y1, y2⟩
      · simp (disch := omega) only [Nat.reduceAdd, setX_ne, setX_j, upS_ne, upS_eq]; exact ⟨y1, y2⟩
      · simp (disch := omega) only [Nat.reduceAdd, setX_ne, setX_j, upS_ne, upS_eq]; exact ⟨y1, y2⟩
    · rcases hs with ⟨rfl, rfl, rfl, hv⟩ | ⟨rfl, rfl, rfl, hv⟩ | ⟨rfl, rfl, rfl, hv⟩ | ⟨rfl, rfl, rfl, hv⟩
      · simp (disch := omega) only [Nat.reduceAdd, setX_ne, setX_j, upS_ne, upS_eq]; exact ⟨n1, n2⟩
      · constructor <;> simp (disch := omega) only [Nat.reduceAdd, setX_ne, setX_j, upS_ne, upS_eq]
      · simp (disch := omega) only [Nat.reduceAdd, setX_ne, setX_j, upS_ne, upS_eq]; exact ⟨n1, n2⟩
      · simp (disch := omega) only [Nat.reduceAdd, setX_ne, setX_j, upS_ne, upS_eq]; exact ⟨n1, n2⟩
    · rcases hs with ⟨rfl, rfl, rfl, hv⟩ | ⟨rfl, rfl, rfl, hv⟩ | ⟨rfl, rfl, rfl, hv⟩ | ⟨rfl, rfl, rfl, hv⟩
      · simp (disch := omega) only [Nat.reduceAdd, setX_ne, setX_j, upS_ne, upS_eq]; exact ⟨l1, l2⟩
      · simp (disch := omega) only [Nat.reduceAdd, setX_ne, setX_j, upS_ne, upS_eq]; exact ⟨l1, l2⟩
      · constructor <;> simp (disch := omega) only [Nat.reduceAdd, setX_ne, setX_j, upS_ne, upS_eq]
      · simp (disch := omega) only [Nat.reduceAdd, setX_ne, setX_j, upS_ne, upS_eq]; exact ⟨l1, l2⟩
    · rcases hs with ⟨rfl, rfl, rfl, hv⟩ | ⟨rfl, rfl, rfl, hv⟩ | ⟨rfl, rfl, rfl, hv⟩ | ⟨rfl, rfl, rfl, hv⟩
      · simp (disch := omega) only [Nat.reduceAdd, setX_ne, setX_j, upS_ne, upS_eq]; exact ⟨c1, c2⟩
      · simp (disch := omega) only [Nat.reduceAdd, setX_ne, setX_j, upS_ne, upS_eq]; exact ⟨c1, c2⟩
      · simp (disch := omega) only [Nat.reduceAdd, setX_ne, setX_j, upS_ne, upS_eq]; exact ⟨c1, c2⟩
      · constructor <;> simp (disch := omega) only [Nat.reduceAdd, setX_ne, setX_j, upS_ne, upS_eq]
    · simp (disch := omega) only [Nat.reduceAdd, setX_ne, setX_j, upS_ne, upS_eq]; exact ⟨t1, t2⟩
    · simp (disch := omega) only [Nat.reduceAdd, setX_ne, setX_j, upS_ne, upS_eq]; exact k2
    · simp (disch := omega) only [Nat.reduceAdd, setX_ne, setX_j, upS_ne, upS_eq]; exact w1
    · simp (disch := omega) only [Nat.reduceAdd, setX_ne, setX_j, upS_ne, upS_eq]; exact b1
    · simp (disch := omega) only [Nat.reduceAdd, setX_ne, setX_j, upS_ne, upS_eq]; exact z1 w2 hw2
    · rw [hl]; simp (disch := omega) only [Nat.reduceAdd, setX_ne, setX_j, upS_ne, upS_eq]; exact s2 g hg
  · refine ⟨?_, ?_, ?_, ?_, ?_, ?_, fun f2 hf2 => ?_, fun w2 hw2 => ?_, fun p hp => ?_⟩
    · rcases hs with ⟨rfl, rfl, rfl, hv⟩ | ⟨rfl, rfl, rfl, hv⟩ | ⟨rfl, rfl, rfl, hv⟩ | ⟨rfl, rfl, rfl, hv⟩ <;> simp (disch := omega) only [Nat.reduceAdd, setX_ne, setX_j, upS_ne, upS_eq] <;> omega
    · rcases hs with ⟨rfl, rfl, rfl, hv⟩ | ⟨rfl, rfl, rfl, hv⟩ | ⟨rfl, rfl, rfl, hv⟩ | ⟨rfl, rfl, rfl, hv⟩ <;> simp (disch := omega) only [Nat.reduceAdd, setX_ne, setX_j, upS_ne, upS_eq] <;> omega
    · rcases hs with ⟨rfl, rfl, rfl, hv⟩ | ⟨rfl, rfl, rfl, hv⟩ | ⟨rfl, rfl, rfl, hv⟩ | ⟨rfl, rfl, rfl, hv⟩ <;> simp (disch := omega) only [Nat.reduceAdd, setX_ne, setX_j, upS_ne, upS_eq] <;> omega
    · rcases hs with ⟨rfl, rfl, rfl, hv⟩ | ⟨rfl, rfl, rfl, hv⟩ | ⟨rfl, rfl, rfl, hv⟩ | ⟨rfl, rfl, rfl, hv⟩ <;> simp (disch := omega) only [Nat.reduceAdd, setX_ne, setX_j, upS_ne, upS_eq] <;> omega
    · rw [e4]; exact o4
    · have hc7 : cnt (fun p => upS S 11 s v 10 p == 1) (S 11 4) = cnt (fun p => S 10 p == 1) (S 11 4) := cnt_c _ (fun i hi => by simp (disch := omega) only [Nat.reduceAdd, setX_ne, setX_j, upS_ne, upS_eq])
      rw [e4, hc7]
      simp (disch := omega) only [Nat.reduceAdd, setX_ne, setX_j, upS_ne, upS_eq]
      exact o5
    · simp (disch := omega) only [Nat.reduceAdd, setX_ne, setX_j, upS_ne, upS_eq]; exact o6 f2 hf2
    · simp (disch := omega) only [Nat.reduceAdd, setX_ne, setX_j, upS_ne, upS_eq]; exact o7 w2 hw2
    · rw [e4] at hp
      have := o8 p hp
      rcases hs with ⟨rfl, rfl, rfl, hv⟩ | ⟨rfl, rfl, rfl, hv⟩ | ⟨rfl, rfl, rfl, hv⟩ | ⟨rfl, rfl, rfl, hv⟩ <;> simp (disch := omega) only [Nat.reduceAdd, setX_ne, setX_j, upS_ne, upS_eq] <;> omega
theorem Wk_ar (h : Wk σx σm o A F W S) {k j v : Nat} (hs : (k = 0 ∧ v ≤ 99) ∨ (k = 1 ∧ v ≤ 9) ∨ (k = 2 ∧ v < 1024) ∨ (k = 3 ∧ v < 1024) ∨ k = 4 ∨ (k = 6 ∧ v ≤ szN A j)) : Wk (setX σx (175 + k) j (nI v)) (setX σm (15 + k) j (nI v)) o A F W (upS S k j v) := by
  obtain ⟨hR, hM, hC, ⟨⟨y1, y2⟩, ⟨n1, n2⟩, ⟨l1, l2⟩, ⟨c1, c2⟩, ⟨t1, t2⟩, k2, w1, b1, z1, s2⟩, ⟨o0, o1, o2, o3, o4, o5, o6, o7, o8⟩⟩ := h
  have hKM := (KW_0 σx σm).ms (e := 15 + k) (i := j) (nI v) (by omega)
  have e4 : upS S k j v 11 4 = S 11 4 := by simp (disch := omega) only [Nat.reduceAdd, setX_ne, setX_j, upS_ne, upS_eq]
  refine ⟨hR, hKM.km.mv hM, ?_, ?_, ?_⟩
  · intro k' j' hk
    rw [e4] at hk
    by_cases c : k' = k ∧ j' = j
    · obtain ⟨rfl, rfl⟩ := c
      exact ⟨Or.inl (by rw [setX_j, upS_eq]), by rw [setX_j, upS_eq]⟩
    · simp (disch := omega) only [Nat.reduceAdd, setX_ne, setX_j, upS_ne, upS_eq]
      exact hC k' j' (by omega)
  · have hl : ∀ x, cnt (fun p => upS S k j v 7 p == x) (upS S k j v 11 4) = cnt (fun p => S 7 p == x) (S 11 4) := fun x => by
      rw [e4]
      exact cnt_c _ (fun i hi => by simp (disch := omega) only [Nat.reduceAdd, setX_ne, setX_j, upS_ne, upS_eq])
    refine ⟨?_, ?_, ?_, ?_, ?_, ?_, ?_, ?_, fun w2 hw2 => ?_, fun g hg => ?_⟩
    · simp (disch := omega) only [Nat.reduceAdd, setX_ne, setX_j, upS_ne, upS_eq]; exact ⟨y1, y2⟩
    · simp (disch := omega) only [Nat.reduceAdd, setX_ne, setX_j, upS_ne, upS_eq]; exact ⟨n1, n2⟩
    · simp (disch := omega) only [Nat.reduceAdd, setX_ne, setX_j, upS_ne, upS_eq]; exact ⟨l1, l2⟩
    · simp (disch := omega) only [Nat.reduceAdd, setX_ne, setX_j, upS_ne, upS_eq]; exact ⟨c1, c2⟩
    · simp (disch := omega) only [Nat.reduceAdd, setX_ne, setX_j, upS_ne, upS_eq]; exact ⟨t1, t2⟩
    · simp (disch := omega) only [Nat.reduceAdd, setX_ne, setX_j, upS_ne, upS_eq]; exact k2
    · simp (disch := omega) only [Nat.reduceAdd, setX_ne, setX_j, upS_ne, upS_eq]; exact w1
    · simp (disch := omega) only [Nat.reduceAdd, setX_ne, setX_j, upS_ne, upS_eq]; exact b1
    · simp (disch := omega) only [Nat.reduceAdd, setX_ne, setX_j, upS_ne, upS_eq]; exact z1 w2 hw2
    · rw [hl]; simp (disch := omega) only [Nat.reduceAdd, setX_ne, setX_j, upS_ne, upS_eq]; exact s2 g hg
  · refine ⟨?_, ?_, ?_, ?_, ?_, ?_, fun f2 hf2 => ?_, fun w2 hw2 => ?_, fun p hp => ?_⟩
    · simp (disch := omega) only [Nat.reduceAdd, setX_ne, setX_j, upS_ne, upS_eq]; exact o0
    · simp (disch := omega) only [Nat.reduceAdd, setX_ne, setX_j, upS_ne, upS_eq]; exact o1
    · simp (disch := omega) only [Nat.reduceAdd, setX_ne, setX_j, upS_ne, upS_eq]; exact o2
    · simp (disch := omega) only [Nat.reduceAdd, setX_ne, setX_j, upS_ne, upS_eq]; exact o3
    · rw [e4]; exact o4
    · have hc7 : cnt (fun p => upS S k j v 10 p == 1) (S 11 4) = cnt (fun p => S 10 p == 1) (S 11 4) := cnt_c _ (fun i hi => by simp (disch := omega) only [Nat.reduceAdd, setX_ne, setX_j, upS_ne, upS_eq])
      rw [e4, hc7]
      simp (disch := omega) only [Nat.reduceAdd, setX_ne, setX_j, upS_ne, upS_eq]
      exact o5
    · have := o6 f2 hf2
      unfold upS
      refine ⟨?_, ?_, ?_, ?_⟩
      · by_cases c : 0 = k ∧ f2 = j
        · rw [if_pos c]; omega
        · rw [if_neg c]; omega
      · by_cases c : 1 = k ∧ f2 = j
        · rw [if_pos c]; omega
        · rw [if_neg c]; omega
      · by_cases c : 2 = k ∧ f2 = j
        · rw [if_pos c]; omega
        · rw [if_neg c]; omega
      · by_cases c : 3 = k ∧ f2 = j
        · rw [if_pos c]; omega
        · rw [if_neg c]; omega
    · have := o7 w2 hw2
      unfold upS
      by_cases c : 6 = k ∧ w2 = j
      · rw [if_pos c, c.2]; omega
      · rw [if_neg c]; omega
    · rw [e4] at hp
      simp (disch := omega) only [Nat.reduceAdd, setX_ne, setX_j, upS_ne, upS_eq]
      exact o8 p hp
theorem Wk_fa (h : Wk σx σm o A F W S) {p q : Nat} (hp : p < S 11 4) (h0 : S 10 p = 0) (hq : q ≤ 4) {kn : Nat} (hkn : kn = S 11 5 + (q == 1).toNat) : Wk (setX σx 185 p (nI q)) (setX (setX σm 25 p (nI q)) 0 33 (nI kn)) o A F W (upS (upS S 10 p q) 11 5 kn) := by
  obtain ⟨hR, hM, hC, ⟨⟨y1, y2⟩, ⟨n1, n2⟩, ⟨l1, l2⟩, ⟨c1, c2⟩, ⟨t1, t2⟩, k2, w1, b1, z1, s2⟩, ⟨o0, o1, o2, o3, o4, o5, o6, o7, o8⟩⟩ := h
  have hKM := ((KW_0 σx σm).ms (e := 25) (i := p) (nI q) (by omega)).ms (e := 0) (i := 33) (nI kn) (by omega)
  have e4 : upS (upS S 10 p q) 11 5 kn 11 4 = S 11 4 := by simp (disch := omega) only [Nat.reduceAdd, setX_ne, setX_j, upS_ne, upS_eq]
  refine ⟨hR, hKM.km.mv hM, ?_, ?_, ?_⟩
  · intro k' j' hk
    rw [e4] at hk
    by_cases c : k' = 10 ∧ j' = p
    · obtain ⟨rfl, rfl⟩ := c
      exact ⟨Or.inl (by simp (disch := omega) only [Nat.reduceAdd, setX_ne, setX_j, upS_ne, upS_eq]), by simp (disch := omega) only [Nat.reduceAdd, setX_ne, setX_j, upS_ne, upS_eq]⟩
    · simp (disch := omega) only [Nat.reduceAdd, setX_ne, setX_j, upS_ne, upS_eq]
      exact hC k' j' (by omega)
  · have hl : ∀ x, cnt (fun i => upS (upS S 10 p q) 11 5 kn 7 i == x) (upS (upS S 10 p q) 11 5 kn 11 4) = cnt (fun i => S 7 i == x) (S 11 4) := fun x => by
      rw [e4]
      exact cnt_c _ (fun i hi => by simp (disch := omega) only [Nat.reduceAdd, setX_ne, setX_j, upS_ne, upS_eq])
    refine ⟨?_, ?_, ?_, ?_, ?_, ?_, ?_, ?_, fun w2 hw2 => ?_, fun g hg => ?_⟩
    · simp (disch := omega) only [Nat.reduceAdd, setX_ne, setX_j, upS_ne, upS_eq]; exact ⟨y1, y2⟩
    · simp (disch := omega) only [Nat.reduceAdd, setX_ne, setX_j, upS_ne, upS_eq]; exact ⟨n1, n2⟩
    · simp (disch := omega) only [Nat.reduceAdd, setX_ne, setX_j, upS_ne, upS_eq]; exact ⟨l1, l2⟩
    · simp (disch := omega) only [Nat.reduceAdd, setX_ne, setX_j, upS_ne, upS_eq]; exact ⟨c1, c2⟩
    · simp (disch := omega) only [Nat.reduceAdd, setX_ne, setX_j, upS_ne, upS_eq]; exact ⟨t1, t2⟩
    · simp (disch := omega) only [Nat.reduceAdd, setX_ne, setX_j, upS_ne, upS_eq]
    · simp (disch := omega) only [Nat.reduceAdd, setX_ne, setX_j, upS_ne, upS_eq]; exact w1
    · simp (disch := omega) only [Nat.reduceAdd, setX_ne, setX_j, upS_ne, upS_eq]; exact b1
    · simp (disch := omega) only [Nat.reduceAdd, setX_ne, setX_j, upS_ne, upS_eq]; exact z1 w2 hw2
    · rw [hl]; simp (disch := omega) only [Nat.reduceAdd, setX_ne, setX_j, upS_ne, upS_eq]; exact s2 g hg
  · refine ⟨?_, ?_, ?_, ?_, ?_, ?_, fun f2 hf2 => ?_, fun w2 hw2 => ?_, fun p2 hp2 => ?_⟩
    · simp (disch := omega) only [Nat.reduceAdd, setX_ne, setX_j, upS_ne, upS_eq]; exact o0
    · simp (disch := omega) only [Nat.reduceAdd, setX_ne, setX_j, upS_ne, upS_eq]; exact o1
    · simp (disch := omega) only [Nat.reduceAdd, setX_ne, setX_j, upS_ne, upS_eq]; exact o2
    · simp (disch := omega) only [Nat.reduceAdd, setX_ne, setX_j, upS_ne, upS_eq]; exact o3
    · rw [e4]; exact o4
    · rw [e4, upS_eq]
      have e := cnt_up (p := fun i => S 10 i == 1) (q := fun i => upS (upS S 10 p q) 11 5 kn 10 i == 1) (S 11 4) hp (fun j hj hne => by simp (disch := omega) only [Nat.reduceAdd, setX_ne, setX_j, upS_ne, upS_eq])
      rw [h0, show upS (upS S 10 p q) 11 5 kn 10 p = q by simp (disch := omega) only [Nat.reduceAdd, setX_ne, setX_j, upS_ne, upS_eq]] at e
      simp only [show ((0 : Nat) == 1) = false from rfl, Bool.toNat_false, Nat.add_zero] at e
      omega
    · simp (disch := omega) only [Nat.reduceAdd, setX_ne, setX_j, upS_ne, upS_eq]; exact o6 f2 hf2
    · simp (disch := omega) only [Nat.reduceAdd, setX_ne, setX_j, upS_ne, upS_eq]; exact o7 w2 hw2
    · rw [e4] at hp2
      have := o8 p2 hp2
      by_cases c : p2 = p
      · subst c
        simp (disch := omega) only [Nat.reduceAdd, setX_ne, setX_j, upS_ne, upS_eq]
        omega
      · simp (disch := omega) only [Nat.reduceAdd, setX_ne, setX_j, upS_ne, upS_eq]
        exact this
end WLK
