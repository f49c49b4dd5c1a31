/-! ===== the deeds, both sides ===== -/
theorem aiSi {β : Type} {sh : Sh} {b f i : Nat} {σ : Dt} {v : Int32} {k : Int32 → Option β} (hf : f < 2 ^ 31) (h : ¬ f = i) : bo (xai sh (some b) (nI f) (setX σ b i v)) k = bo (xai sh (some b) (nI f) σ) k := by
  have e : xai sh (some b) (nI f) (setX σ b i v) = xai sh (some b) (nI f) σ := by
    unfold xai
    dsimp only
    rw [nI_clamp hf, setX_ne (fun q => h q.2)]
  rw [e]
theorem wai_e {β : Type} {a i : Nat} {σ : Dt} {v : Int32} {k : Int32 → Option β} (h : (175 ≤ a ∧ a ≤ 179 ∧ i < 10) ∨ (180 ≤ a ∧ a ≤ 181 ∧ i < 6) ∨ (182 ≤ a ∧ a ≤ 185 ∧ i < 12)) : bo (xai SX (some a) (nI i) (setX σ a i v)) k = k v := by
  obtain ⟨h1, h2, h3⟩ := wsh (a - 175) (by omega)
  rw [show 175 + (a - 175) = a by omega] at h1 h2 h3
  have h4 : i < SX.2.2 a ∧ SX.2.2 a < 2 ^ 31 := by
    rw [h3]
    by_cases c : a - 175 < 5
    · rw [if_pos c]; omega
    · rw [if_neg c]
      by_cases c2 : a - 175 < 7
      · rw [if_pos c2]; omega
      · rw [if_neg c2]; omega
  exact bo_of (by rw [xai_of h1 h2 h4.1 h4.2, setX_j])
theorem mai_e {β : Type} {a i : Nat} {σ : Dt} {v : Int32} {k : Int32 → Option β} (h : (15 ≤ a ∧ a ≤ 20 ∧ i < 10) ∨ (a = 21 ∧ i < 6) ∨ (22 ≤ a ∧ a ≤ 25 ∧ i < 12)) : bo (xai SM (some a) (nI i) (setX σ a i v)) k = k v := by
  obtain ⟨h1, h2, h3⟩ := msh (a - 15) (by omega)
  rw [show 15 + (a - 15) = a by omega] at h1 h2 h3
  have h4 : i < SM.2.2 a ∧ SM.2.2 a < 2 ^ 31 := by
    rw [h3]
    by_cases c : a - 15 < 6
    · rw [if_pos c]; omega
    · rw [if_neg c]
      by_cases c2 : a - 15 < 7
      · rw [if_pos c2]; omega
      · rw [if_neg c2]; omega
  exact bo_of (by rw [xai_of h1 h2 h4.1 h4.2, setX_j])
theorem lt10 {i : Nat} (h : i < 10) : nI i < (10 : Int32) := nI_lt (b := 10) h (by decide)
theorem nlt10 {i : Nat} (h : 10 ≤ i) (h2 : i < 2 ^ 31) : ¬ nI i < (10 : Int32) := nI_nlt (b := 10) h h2
theorem ge10 {i : Nat} (h : 10 ≤ i) (h2 : i < 2 ^ 31) : (10 : Int32) ≤ nI i := nI_le (a := 10) h h2
theorem le12 {i : Nat} (h : i < 12) : ¬ (12 : Int32) ≤ nI i := nI_ge (b := 12) h (by decide)
section WOP
variable {σx σm : Dt} {o F W : Nat} {A : Nat → Int32} {S : Nat → Nat → Nat}
def prP (S : Nat → Nat → Nat) (A : Nat → Int32) (W f w : Nat) : Prop := lvN S f ∧ S 0 f < 10 ∧ ¬ (S 11 3).testBit f = true ∧ w < W ∧ ¬ S 6 w = szN A w ∧ S 11 4 < 12
def PrS (S S' : Nat → Nat → Nat) (w : Nat) (P : Prop) : Prop := P → S' 11 4 = S 11 4 + 1 ∧ S' 8 (S 11 4) = w ∧ ∀ j, S' 6 j = S 6 j
theorem w_promise2 (h : Wk σx σm o A F W S) {f w y : Nat} (hf : f < 10) (hw : w < 6) (hy : y ≤ 9) : ∃ σx' σm' S', f_X10_makePromise 174 (nI f) (nI w) (nI y) σx = some (bI (prP S A W f w), σx') ∧ f_X12_promises 0 (nI f) (nI w) (nI y) σm = some (bI (prP S A W f w), σm') ∧ Wk σx' σm' o A F W S' ∧ KW σx σx' σm σm' ∧ PrS S S' w (prP S A W f w) := by
  obtain ⟨o0, o1, o2, o3, o4, -, o6, o7, -⟩ := h.2.2.2.2
  have hag := (o6 f hf).1
  have hst := (o6 f hf).2.2.2
  have fail : bI (prP S A W f w) = 0 → ∃ σx' σm' S', some ((0 : Int32), σx) = some (bI (prP S A W f w), σx') ∧ some ((0 : Int32), σm) = some (bI (prP S A W f w), σm') ∧ Wk σx' σm' o A F W S' ∧ KW σx σx' σm σm' ∧ PrS S S' w (prP S A W f w) := fun e => ⟨σx, σm, S, by rw [e], by rw [e], h, KW_0 _ _, fun p => absurd ((bI_t p).symm.trans e) (by decide)⟩
  unfold f_X10_makePromise f_X12_promises
  rw [bo_of wrc, bo_of (h.xlives (by omega)), ite_b, bo_of mrc, bo_of (h.mlives (by omega)), ite_b]
  by_cases c1 : lvN S f
  · rw [ci_t c1, ci_t c1, xw9 h.1, h.xa0 c1.1, mw34 h.2.1.1, h.ma0 hf]
    by_cases c2 : S 0 f < 10
    · rw [if_neg (le10 c2), if_neg (le10 c2), h.x5, h.m30, bo_of (mamong (by omega) (by omega) _), ite_b]
      simp only [bit0 (show S 11 3 < 2 ^ 31 by omega) (show f < 32 by omega)]
      by_cases c3 : (S 11 3).testBit f = true
      · rw [if_neg (fun z => z c3), ci_t c3]
        exact fail (bI_f (fun z => z.2.2.1 c3))
      · rw [if_pos c3, ci_f c3, bo_of wrc, bo_of (h.hasWork _), ite_b, bo_of mrc, bo_of (m_isWorkB h.2.1 _), ite_b]
        by_cases c4 : w < W
        · rw [ci_in_t c4, ci_in_t c4, bo_of wrc, bo_of (h.xdone c4), ite_b, bo_of mrc, bo_of (h.mdone hw), ite_b]
          by_cases c5 : S 6 w = szN A w
          · rw [ci_t c5, ci_t c5]
            exact fail (bI_f (fun z => z.2.2.2.2.1 c5))
          · rw [ci_f c5, ci_f c5, h.x6, ite_neg (by omega), h.x6, h.m32]
            by_cases c6 : S 11 4 < 12
            · have hp : prP S A W f w := ⟨c1, c2, c3, c4, c5, c6⟩
              rw [if_pos (show nI (S 11 4) < (12 : Int32) from nI_lt (b := 12) c6 (by decide)), if_neg (show ¬ nI (S 11 4) = (12 : Int32) from fun e => absurd ((nI_eq (b := 12) (by omega) (by decide)).mp e) (by omega)), bI_t hp]
              simp (disch := omega) only [↓xw16 h.1, ↓xw17 h.1, ↓xw18 h.1, ↓xw19 h.1, ↓xw12 h.1, ↓grS, ↓giSn, ↓aiSn, ↓wsi, ↓h.x6, ↓h.x0, ↓h.x4, ↓h.xa3, ↓mw41 h.2.1.1, ↓mw42 h.2.1.1, ↓mw43 h.2.1.1, ↓mw44 h.2.1.1, ↓mw37 h.2.1.1, ↓msi2, ↓h.m32, ↓h.m27, ↓h.m29, ↓h.ma3, nI_add, nI_and]
              have fin : ∀ q : Nat, q ≤ 4 → q ≠ 1 → ∃ σx' σm' S', f_X10_makePromise_128 174 (some 185) (nI (S 11 4)) (nI q) (setX (setX (setX σx 182 (S 11 4) (nI f)) 183 (S 11 4) (nI w)) 184 (S 11 4) (nI (S 11 0 + y))) = some (1, σx') ∧ f_X12_promises_119 0 (nI f) (some 25) (nI (S 11 4)) (nI q) (setX (setX (setX σm 22 (S 11 4) (nI f)) 23 (S 11 4) (nI w)) 24 (S 11 4) (nI (S 11 0 + y))) = some (1, σm') ∧ Wk σx' σm' o A F W S' ∧ KW σx σx' σm σm' ∧ PrS S S' w (prP S A W f w) := by
                intro q hq hq1
                refine ⟨_, _, _, ?_, ?_, Wk_prom h (f := f) (w := w) (y := y) (q := q) c1.1 c4 hy hq hq1 c6, ?_, fun _ => ⟨?_, ?_, fun j => ?_⟩⟩
                · unfold f_X10_makePromise_128
                  simp (disch := omega) only [↓wsi, ↓giSn, ↓h.x6, ↓wpi, nI_1]
                · unfold f_X12_promises_119
                  simp (disch := omega) only [↓msi2, ↓giSn, ↓h.m32, ↓mpiB, ↓grS, ↓mw39 h.2.1.1, ↓aiSn, ↓h.ma5, nI_1]
                · exact (((((((((((KW_0 σx σm).xs _ (by omega)).xs _ (by omega)).xs _ (by omega)).xs _ (by omega)).xs _ (by omega)).ms _ (by omega)).ms _ (by omega)).ms _ (by omega)).ms _ (by omega)).ms _ (by omega)).ms _ (by omega)
                · simp (disch := omega) only [Nat.reduceAdd, setX_ne, setX_j, upS_ne, upS_eq]
                · simp (disch := omega) only [Nat.reduceAdd, setX_ne, setX_j, upS_ne, upS_eq]
                · simp (disch := omega) only [Nat.reduceAdd, setX_ne, setX_j, upS_ne, upS_eq]
              by_cases c7 : S 3 f &&& S 11 2 = 0
              · rw [ite_z_t c7, ite_z_t c7]
                exact fin 4 (by decide) (by decide)
              · have := and_31 (b := S 11 2) hst
                rw [ite_z_f (by omega) c7, ite_z_f (by omega) c7]
                exact fin 0 (by decide) (by decide)
            · rw [if_neg (show ¬ nI (S 11 4) < (12 : Int32) from nI_nlt (b := 12) (by omega) (by omega)), if_pos (show nI (S 11 4) = (12 : Int32) from congrArg nI (show S 11 4 = 12 by omega))]
              exact fail (bI_f (fun z => c6 z.2.2.2.2.2))
        · rw [ci_in_f (by omega) (by omega), ci_in_f (by omega) (by omega)]
          exact fail (bI_f (fun z => c4 z.2.2.2.1))
    · rw [if_pos (ge10 (by omega) (by omega)), if_pos (ge10 (by omega) (by omega))]
      exact fail (bI_f (fun z => c2 z.2.1))
  · rw [ci_f c1, ci_f c1]
    exact fail (bI_f (fun z => c1 z.1))
theorem w_promise (h : Wk σx σm o A F W S) {f w y : Nat} (hf : f < 10) (hw : w < 6) (hy : y ≤ 9) : ∃ σx' σm' S', f_X10_makePromise 174 (nI f) (nI w) (nI y) σx = some (bI (prP S A W f w), σx') ∧ f_X12_promises 0 (nI f) (nI w) (nI y) σm = some (bI (prP S A W f w), σm') ∧ Wk σx' σm' o A F W S' ∧ KW σx σx' σm σm' := by
  obtain ⟨σx', σm', S', e1, e2, e3, e4, -⟩ := w_promise2 h hf hw hy
  exact ⟨σx', σm', S', e1, e2, e3, e4⟩
theorem w_born (h : Wk σx σm o A F W S) {p s : Nat} (hp : p < 10) (hs : s ≤ 9) : ∃ r σx' σm' S', f_X10_bear 174 (nI p) (nI s) σx = some (r, σx') ∧ f_X12_isBorn 0 (nI p) (nI s) σm = some (r, σm') ∧ (r = 0 ∨ r = 1) ∧ Wk σx' σm' o A F W S' ∧ KW σx σx' σm σm' := by
  obtain ⟨o0, o1, o2, o3, o4, -, o6, o7, -⟩ := h.2.2.2.2
  have hag := (o6 p hp).1
  have hpa := (o6 p hp).2.2.1
  have fail : ∃ r σx' σm' S', some ((0 : Int32), σx) = some (r, σx') ∧ some ((0 : Int32), σm) = some (r, σm') ∧ (r = 0 ∨ r = 1) ∧ Wk σx' σm' o A F W S' ∧ KW σx σx' σm σm' := ⟨0, σx, σm, S, rfl, rfl, Or.inl rfl, h, KW_0 _ _⟩
  unfold f_X10_bear f_X12_isBorn
  rw [bo_of wrc, bo_of (h.xlives (by omega)), ite_b, bo_of mrc, bo_of (h.mlives (by omega)), ite_b]
  by_cases c1 : lvN S p
  · rw [ci_t c1, ci_t c1, xw9 h.1, h.xa0 c1.1, mw34 h.2.1.1, h.ma0 hp]
    by_cases c2 : S 0 p < 16
    · rw [if_pos (show nI (S 0 p) < (16 : Int32) from nI_lt (b := 16) c2 (by decide)), if_pos (show nI (S 0 p) < (16 : Int32) from nI_lt (b := 16) c2 (by decide))]
      exact fail
    · rw [if_neg (show ¬ nI (S 0 p) < (16 : Int32) from nI_nlt (b := 16) (by omega) (by omega)), if_neg (show ¬ nI (S 0 p) < (16 : Int32) from nI_nlt (b := 16) (by omega) (by omega)), h.x1, h.m28]
      by_cases c3 : S 11 1 < 10
      · have hpn : p < S 11 1 := c1.1
        have h1 := Wk_ar h (k := 0) (j := S 11 1) (v := 0) (by omega)
        have h2 := Wk_ar h1 (k := 1) (j := S 11 1) (v := s) (by omega)
        have h3 := Wk_ar h2 (k := 2) (j := S 11 1) (v := 2 ^ p) (by have := pow_1024 hp; omega)
        have h4 := Wk_ar h3 (k := 3) (j := S 11 1) (v := S 2 p) (by omega)
        have h5 := Wk_sc h4 (s := 2) (a := 4) (b := 29) (v := S 11 2 ||| 2 ^ S 11 1) (by have := pow_or o2 c3; omega) (fun z => absurd z (by decide))
        have e11 : upS (upS (upS (upS (upS S 0 (S 11 1) 0) 1 (S 11 1) s) 2 (S 11 1) (2 ^ p)) 3 (S 11 1) (S 2 p)) 11 2 (S 11 2 ||| 2 ^ S 11 1) 11 1 = S 11 1 := by simp (disch := omega) only [Nat.reduceAdd, setX_ne, setX_j, upS_ne, upS_eq]
        have h6 := Wk_sc h5 (s := 1) (a := 1) (b := 28) (v := S 11 1 + 1) (Or.inr (Or.inl ⟨rfl, rfl, rfl, by rw [e11]; omega, by omega⟩)) (fun _ j j1 j2 => by
          rw [e11] at j1
          obtain rfl : j = S 11 1 := by omega
          constructor <;> simp (disch := omega) only [Nat.reduceAdd, setX_ne, setX_j, upS_ne, upS_eq])
        rw [if_pos (lt10 c3), if_neg (show ¬ nI (S 11 1) = (10 : Int32) from fun e => absurd ((nI_eq (b := 10) (by omega) (by decide)).mp e) (by omega))]
        simp (disch := omega) only [↓xw9 h.1, ↓xw10 h.1, ↓xw11 h.1, ↓xw12 h.1, ↓grS, ↓giSn, ↓aiSn, ↓aiSi, ↓wsi, ↓h.x1, ↓h.x4, ↓wgiE, ↓wpi, ↓h.xa2, ↓mw34 h.2.1.1, ↓mw35 h.2.1.1, ↓mw36 h.2.1.1, ↓mw37 h.2.1.1, ↓msi2, ↓h.m28, ↓h.m29, ↓mgiE, ↓mpiB, ↓h.ma2, nI_1, nI_or, shl1]
        refine ⟨1, _, _, _, rfl, rfl, Or.inr rfl, h6, ?_⟩
        exact ((((((((((((KW_0 σx σm).xs _ (by omega)).xs _ (by omega)).xs _ (by omega)).xs _ (by omega)).xs _ (by omega)).xs _ (by omega)).ms _ (by omega)).ms _ (by omega)).ms _ (by omega)).ms _ (by omega)).ms _ (by omega)).ms _ (by omega)
      · rw [if_neg (nlt10 (by omega) (by omega)), if_pos (show nI (S 11 1) = (10 : Int32) from congrArg nI (show S 11 1 = 10 by omega))]
        exact fail
  · rw [ci_f c1, ci_f c1]
    exact fail
theorem w_cover (h : Wk σx σm o A F W S) {f : Nat} (hf : f < 10) : ∃ r σx' σm' S', f_X10_coverMouth 174 (nI f) σx = some (r, σx') ∧ f_X12_covers 0 (nI f) σm = some (r, σm') ∧ (r = 0 ∨ r = 1) ∧ Wk σx' σm' o A F W S' ∧ KW σx σx' σm σm' := by
  obtain ⟨o0, o1, o2, o3, o4, -, o6, o7, -⟩ := h.2.2.2.2
  have hag := (o6 f hf).1
  have fail : ∃ r σx' σm' S', some ((0 : Int32), σx) = some (r, σx') ∧ some ((0 : Int32), σm) = some (r, σm') ∧ (r = 0 ∨ r = 1) ∧ Wk σx' σm' o A F W S' ∧ KW σx σx' σm σm' := ⟨0, σx, σm, S, rfl, rfl, Or.inl rfl, h, KW_0 _ _⟩
  unfold f_X10_coverMouth f_X12_covers
  rw [bo_of wrc, bo_of (h.xlives (by omega)), ite_b, bo_of mrc, bo_of (h.mlives (by omega)), ite_b]
  by_cases c1 : lvN S f
  · rw [ci_t c1, ci_t c1, xw9 h.1, h.xa0 c1.1, mw34 h.2.1.1, h.ma0 hf]
    by_cases c2 : S 0 f < 10
    · rw [if_pos (lt10 c2), if_pos (lt10 c2), h.x5, h.m30, wpi, mpiB, shl1 (by omega), nI_or]
      exact ⟨1, _, _, _, rfl, rfl, Or.inr rfl, Wk_sc h (s := 3) (a := 5) (b := 30) (v := S 11 3 ||| 2 ^ f) (by have := pow_or o3 hf; omega) (fun z => absurd z (by decide)), ((KW_0 σx σm).xs _ (by omega)).ms _ (by omega)⟩
    · rw [if_neg (nlt10 (by omega) (by omega)), if_neg (nlt10 (by omega) (by omega))]
      exact fail
  · rw [ci_f c1, ci_f c1]
    exact fail
/-- a loop over the promises goes with the other side's -/
def Sk (S S' : Nat → Nat → Nat) : Prop := (∀ j, j ≠ 5 → S' 11 j = S 11 j) ∧ (∀ p, S' 8 p = S 8 p) ∧ ∀ j, (∀ p, p < S 11 4 → S 8 p ≠ j) → S' 6 j = S 6 j
theorem Sk_0 (S : Nat → Nat → Nat) : Sk S S := ⟨fun _ _ => rfl, fun _ => rfl, fun _ _ => rfl⟩
theorem Sk.tr {S S' S2 : Nat → Nat → Nat} (h1 : Sk S S') (h2 : Sk S' S2) : Sk S S2 := ⟨fun j hj => (h2.1 j hj).trans (h1.1 j hj), fun p => (h2.2.1 p).trans (h1.2.1 p), fun j hj => (h2.2.2 j (fun p hp => by rw [h1.2.1 p]; exact hj p (by rw [h1.1 4 (by decide)] at hp; exact hp))).trans (h1.2.2 j hj)⟩
theorem Sk_fa {S : Nat → Nat → Nat} {p q kn : Nat} : Sk S (upS (upS S 10 p q) 11 5 kn) := ⟨fun j hj => by simp (disch := omega) only [Nat.reduceAdd, setX_ne, setX_j, upS_ne, upS_eq], fun i => by simp (disch := omega) only [Nat.reduceAdd, setX_ne, setX_j, upS_ne, upS_eq], fun j _ => by simp (disch := omega) only [Nat.reduceAdd, setX_ne, setX_j, upS_ne, upS_eq]⟩
theorem Sk_ar {S : Nat → Nat → Nat} {k j v : Nat} (hk : k ≤ 4) : Sk S (upS S k j v) := ⟨fun i hi => by simp (disch := omega) only [Nat.reduceAdd, setX_ne, setX_j, upS_ne, upS_eq], fun i => by simp (disch := omega) only [Nat.reduceAdd, setX_ne, setX_j, upS_ne, upS_eq], fun i _ => by simp (disch := omega) only [Nat.reduceAdd, setX_ne, setX_j, upS_ne, upS_eq]⟩
theorem Sk_dg {S : Nat → Nat → Nat} {w v p : Nat} (hp : p < S 11 4) (hw : S 8 p = w) : Sk S (upS S 6 w v) := ⟨fun i hi => by simp (disch := omega) only [Nat.reduceAdd, setX_ne, setX_j, upS_ne, upS_eq], fun i => by simp (disch := omega) only [Nat.reduceAdd, setX_ne, setX_j, upS_ne, upS_eq], fun i hi => by rw [upS_ne (fun z => hi p hp (by omega))]⟩
def WsP (σx σm : Dt) (o : Nat) (A : Nat → Int32) (F W : Nat) (S : Nat → Nat → Nat) (τx τm : Dt) : Prop := ∃ S', Wk τx τm o A F W S' ∧ KW σx τx σm τm ∧ Sk S S'
theorem WsP_0 (h : Wk σx σm o A F W S) : WsP σx σm o A F W S σx σm := ⟨S, h, KW_0 _ _, Sk_0 S⟩
theorem w_letgo (h : Wk σx σm o A F W S) {f : Nat} (hf : f < 10) : ∃ τx τm, iter FU (fun s => f_X10_letDie_L26 174 (nI f) s.1 s.2) ((0 : Int32), σx) = some τx ∧ iter FU (fun s => f_X12_becomes_L3 0 (nI f) (-1) 2 s.1 s.2) ((0 : Int32), σm) = some τm ∧ WsP σx σm o A F W S τx τm := by
  have o4 := h.2.2.2.2.2.2.2.2.1
  refine iter_two (P := fun i s t => s.1 = nI i ∧ t.1 = nI i ∧ WsP σx σm o A F W S s.2 t.2) (Q := fun x y => WsP σx σm o A F W S x y) (S 11 4) (by omega) ⟨rfl, rfl, WsP_0 h⟩ (fun i s t hi hP => ?_)
  obtain ⟨x, τx⟩ := s
  obtain ⟨y, τm⟩ := t
  obtain ⟨e1, e2, S', hk, hw, hS⟩ := hP
  dsimp only at e1 e2 hk hw ⊢
  subst e1
  subst e2
  have e4 := hS.1 4 (by decide)
  unfold f_X10_letDie_L26 f_X10_letDie_66 f_X12_becomes_L3 f_X12_becomes_84 f_X12_becomes_38
  rw [hk.x6, hk.m32]
  rcases (show i = S 11 4 ∨ i < S 11 4 by omega) with e | e
  · left
    rw [if_pos (nI_le (by omega) (by omega)), if_pos (nI_le (by omega) (by omega))]
    exact ⟨_, _, rfl, rfl, S', hk, hw, hS⟩
  · right
    refine ⟨e, ?_⟩
    have hi4 : i < S' 11 4 := by omega
    obtain ⟨p1, p2, p3, p4⟩ := hk.2.2.2.2.2.2.2.2.2.2.2.2 i hi4
    have o1 := hk.2.2.2.2.2.1
    have go : ∃ s' t', some (Sum.inl (nI (i + 1), τx) : (Int32 × Dt) ⊕ Dt) = some (Sum.inl s') ∧ some (Sum.inl (nI (i + 1), τm) : (Int32 × Dt) ⊕ Dt) = some (Sum.inl t') ∧ s'.1 = nI (i + 1) ∧ t'.1 = nI (i + 1) ∧ WsP σx σm o A F W S s'.2 t'.2 := ⟨_, _, rfl, rfl, rfl, rfl, S', hk, hw, hS⟩
    rw [ite_le_f (by omega) hi4, if_neg (le12 (by omega)), xw19 hk.1, hk.xa10 hi4, ite_le_f (by omega) hi4, mw44 hk.2.1.1, hk.ma10 hi4]
    by_cases c : S' 10 i = 0
    · rw [ite_z_t c, ite_z_t c, xw16 hk.1, hk.xa7 hi4, if_neg (nI_m1 (by omega)), mw41 hk.2.1.1, hk.ma7 hi4]
      by_cases c2 : S' 7 i = f
      · rw [ite_eq_t c2, ite_eq_t c2, if_pos rfl, xw19 hk.1, wsi (by omega)]
        unfold f_X12_becomes_57 f_X12_becomes_80 f_X12_becomes_84
        rw [mw44 hk.2.1.1, msi2 (by omega), giSn (by omega), hk.m33, if_neg (by decide), mpiB, Int32.add_zero, nI_1]
        refine ⟨_, _, rfl, rfl, rfl, rfl, _, Wk_fa hk (p := i) (q := 2) hi4 c (by decide) (kn := S' 11 5) rfl, ((hw.xs _ (by omega)).ms _ (by omega)).ms _ (by omega), hS.tr Sk_fa⟩
      · rw [ite_eq_f (by omega) (by omega) c2, ite_eq_f (by omega) (by omega) c2, nI_1]
        exact go
    · rw [ite_z_f (by omega) c, ite_z_f (by omega) c, nI_1]
      exact go
theorem w_keptd (h : Wk σx σm o A F W S) {w : Nat} (hw6 : w < 6) : ∃ τx τm, iter FU (fun s => f_X10_digAt_L79 174 (nI w) s.1 s.2) ((0 : Int32), σx) = some τx ∧ iter FU (fun s => f_X12_becomes_L3 0 (-1) (nI w) 1 s.1 s.2) ((0 : Int32), σm) = some τm ∧ WsP σx σm o A F W S τx τm := by
  have o4 := h.2.2.2.2.2.2.2.2.1
  refine iter_two (P := fun i s t => s.1 = nI i ∧ t.1 = nI i ∧ WsP σx σm o A F W S s.2 t.2) (Q := fun x y => WsP σx σm o A F W S x y) (S 11 4) (by omega) ⟨rfl, rfl, WsP_0 h⟩ (fun i s t hi hP => ?_)
  obtain ⟨x, τx⟩ := s
  obtain ⟨y, τm⟩ := t
  obtain ⟨e1, e2, S', hk, hw, hS⟩ := hP
  dsimp only at e1 e2 hk hw ⊢
  subst e1
  subst e2
  have e4 := hS.1 4 (by decide)
  unfold f_X10_digAt_L79 f_X10_digAt_124 f_X12_becomes_L3 f_X12_becomes_84 f_X12_becomes_38
  rw [hk.x6, hk.m32]
  rcases (show i = S 11 4 ∨ i < S 11 4 by omega) with e | e
  · left
    rw [if_pos (nI_le (by omega) (by omega)), if_pos (nI_le (by omega) (by omega))]
    exact ⟨_, _, rfl, rfl, S', hk, hw, hS⟩
  · right
    refine ⟨e, ?_⟩
    have hi4 : i < S' 11 4 := by omega
    obtain ⟨p1, p2, p3, p4⟩ := hk.2.2.2.2.2.2.2.2.2.2.2.2 i hi4
    have o1 := hk.2.2.2.2.2.1
    have hW6 := hk.2.1.W6
    have go : ∃ s' t', some (Sum.inl (nI (i + 1), τx) : (Int32 × Dt) ⊕ Dt) = some (Sum.inl s') ∧ some (Sum.inl (nI (i + 1), τm) : (Int32 × Dt) ⊕ Dt) = some (Sum.inl t') ∧ s'.1 = nI (i + 1) ∧ t'.1 = nI (i + 1) ∧ WsP σx σm o A F W S s'.2 t'.2 := ⟨_, _, rfl, rfl, rfl, rfl, S', hk, hw, hS⟩
    rw [ite_le_f (by omega) hi4, if_neg (le12 (by omega)), xw19 hk.1, hk.xa10 hi4, ite_le_f (by omega) hi4, mw44 hk.2.1.1, hk.ma10 hi4]
    by_cases c : S' 10 i = 0
    · rw [ite_z_t c, ite_z_t c, xw17 hk.1, hk.xa8 hi4, if_pos rfl, if_neg (nI_m1 (by omega)), mw42 hk.2.1.1, hk.ma8 hi4]
      by_cases c2 : S' 8 i = w
      · rw [ite_eq_t c2, ite_eq_t c2, xw19 hk.1, wsi (by omega)]
        unfold f_X12_becomes_57 f_X12_becomes_80 f_X12_becomes_84
        rw [mw44 hk.2.1.1, msi2 (by omega), giSn (by omega), hk.m33, if_pos rfl, mpiB, nI_1, nI_1]
        refine ⟨_, _, rfl, rfl, rfl, rfl, _, Wk_fa hk (p := i) (q := 1) hi4 c (by decide) (kn := S' 11 5 + 1) rfl, ((hw.xs _ (by omega)).ms _ (by omega)).ms _ (by omega), hS.tr Sk_fa⟩
      · rw [ite_eq_f (by omega) (by omega) c2, ite_eq_f (by omega) (by omega) c2]
        unfold f_X12_becomes_84
        rw [nI_1]
        exact go
    · rw [ite_z_f (by omega) c, ite_z_f (by omega) c, nI_1]
      exact go
theorem w_die (h : Wk σx σm o A F W S) {f : Nat} (hf : f < 10) : ∃ r σx' σm' S', f_X10_letDie 174 (nI f) σx = some (r, σx') ∧ f_X12_dies 0 (nI f) σm = some (r, σm') ∧ (r = 0 ∨ r = 1) ∧ Wk σx' σm' o A F W S' ∧ KW σx σx' σm σm' := by
  obtain ⟨o0, o1, o2, o3, o4, -, o6, o7, -⟩ := h.2.2.2.2
  unfold f_X10_letDie f_X12_dies
  rw [bo_of wrc, bo_of (h.xlives (by omega)), ite_b, bo_of mrc, bo_of (h.mlives (by omega)), ite_b]
  by_cases c1 : lvN S f
  · have hn := nsub_le (S 11 2) (2 ^ f)
    have h1 := Wk_sc h (s := 2) (a := 4) (b := 29) (v := nsub (S 11 2) (2 ^ f)) (by omega) (fun z => absurd z (by decide))
    obtain ⟨τx, τm, q1, q2, S', q3, q4, q5⟩ := w_letgo h1 hf
    rw [ci_t c1, ci_t c1, h.x4, h.m29, wpi, mpiB, shl1 (by omega), nI_andx, bo_of mrc]
    unfold f_X12_becomes
    rw [bo_of q1, bo_of q2]
    exact ⟨1, _, _, S', rfl, rfl, Or.inr rfl, q3, (((KW_0 σx σm).xs _ (by omega)).ms _ (by omega)).tr q4⟩
  · rw [ci_f c1, ci_f c1]
    exact ⟨0, σx, σm, S, rfl, rfl, Or.inl rfl, h, KW_0 _ _⟩
end WOP
/-! ===== a year, both sides ===== -/
def owP (S : Nat → Nat → Nat) (f p : Nat) : Prop := S 10 p = 0 ∧ (S 3 (S 7 p)).testBit f = true
noncomputable def fdN (S : Nat → Nat → Nat) (f : Nat) : Nat → Nat
  | 0 => 0
  | n + 1 => ci (owP S f n ∧ (fdN S f n = 0 ∨ S 9 n < S 9 (fdN S f n - 1))) (n + 1) (fdN S f n)
theorem fdN_P (S : Nat → Nat → Nat) (f : Nat) : ∀ n, fdN S f n ≤ n ∧ (fdN S f n ≠ 0 → owP S f (fdN S f n - 1))
  | 0 => ⟨Nat.le_refl _, fun h => absurd rfl h⟩
  | n + 1 => by
    obtain ⟨h1, h2⟩ := fdN_P S f n
    rw [fdN]
    by_cases c : owP S f n ∧ (fdN S f n = 0 ∨ S 9 n < S 9 (fdN S f n - 1))
    · rw [ci_t c]
      exact ⟨Nat.le_refl _, fun _ => c.1⟩
    · rw [ci_f c]
      exact ⟨by omega, h2⟩
def enc (b : Nat) : Int32 := if b = 0 then -1 else nI (b - 1)
theorem enc_0 {b : Nat} (h : b = 0) : enc b = -1 := if_pos h
theorem enc_n {b : Nat} (h : ¬ b = 0) : enc b = nI (b - 1) := if_neg h
theorem enc_s (n : Nat) : enc (n + 1) = nI n := if_neg (by omega)
noncomputable def owN (S : Nat → Nat → Nat) (f n : Nat) : Nat := fld (fun p x => x ||| ci (lvN S f ∧ owP S f p) (2 ^ p) 0) 0 n
theorem owN_lt (S : Nat → Nat → Nat) (f : Nat) {n : Nat} (hn : n ≤ 12) : owN S f n < 4096 := fld_or_lt (m := 12) n (fun i hi => by
  by_cases c : lvN S f ∧ owP S f i
  · rw [ci_t c]; exact Nat.pow_lt_pow_right (by decide) (by omega)
  · rw [ci_f c]; exact Nat.two_pow_pos 12)
theorem owN_tb (S : Nat → Nat → Nat) (f n x : Nat) : (owN S f n).testBit x = true ↔ x < n ∧ lvN S f ∧ owP S f x := by
  unfold owN
  rw [fld_or_tb]
  constructor
  · rintro ⟨i, hi, q⟩
    by_cases c : lvN S f ∧ owP S f i
    · rw [ci_t c, tb_pow] at q
      have : i = x := by simpa using q
      subst this
      exact ⟨hi, c⟩
    · rw [ci_f c, Nat.zero_testBit] at q
      cases q
  · rintro ⟨h1, h2⟩
    exact ⟨x, h1, by rw [ci_t h2, tb_pow]; simp⟩
theorem owN_s (S : Nat → Nat → Nat) (f n : Nat) : owN S f (n + 1) = owN S f n ||| ci (lvN S f ∧ owP S f n) (2 ^ n) 0 := rfl
theorem setX_id {σ : Dt} {a j : Nat} {v : Int32} (h : σ.1 a j = v) : setX σ a j v = σ := setX_same h
section WYR
variable {σx σm : Dt} {o F W : Nat} {A : Nat → Int32} {S : Nat → Nat → Nat}
theorem Wk.xowes (h : Wk σx σm o A F W S) {f p : Nat} (hf : f < 32) (hp : p < S 11 4) : f_X10_owes 174 (nI f) (nI p) σx = some (bI (owP S f p)) := by
  obtain ⟨o0, o1, o2, o3, o4, -, o6, o7, o8⟩ := h.2.2.2.2
  obtain ⟨p1, p2, p3, p4⟩ := o8 p hp
  have hg := (o6 (S 7 p) (by omega)).2.2.2
  unfold f_X10_owes f_X10_owes_55
  rw [ite_neg (by omega), if_neg (le12 (by omega)), xw19 h.1, h.xa10 hp]
  by_cases c : S 10 p = 0
  · rw [ite_z_t c, xw16 h.1, h.xa7 hp, ite_neg (by omega), if_neg (le10 (by omega)), xw12 h.1, h.xa3 (by omega)]
    simp only [bit0 (show S 3 (S 7 p) < 2 ^ 31 by omega) hf]
    by_cases c2 : (S 3 (S 7 p)).testBit f = true
    · rw [if_neg (fun z => z c2), bI_t ⟨c, c2⟩]
    · rw [if_pos c2, bI_f (fun z => c2 z.2)]
  · rw [ite_z_f (by omega) c, bI_f (fun z => c z.1)]
theorem Wk.xfirst (h : Wk σx σm o A F W S) {f : Nat} (hf : f < 32) : f_X10_firstDue 174 (nI f) σx = some (enc (fdN S f (S 11 4))) := by
  obtain ⟨o0, o1, o2, o3, o4, -, o6, o7, o8⟩ := h.2.2.2.2
  unfold f_X10_firstDue
  have key := iter_n (f := fun s : Int32 × Int32 × Int32 => f_X10_firstDue_L7 174 (nI f) s.1 s.2.1 s.2.2 σx) (st := fun i => (enc (fdN S f i), (if fdN S f i = 0 then (0 : Int32) else nI (S 9 (fdN S f i - 1))), nI i)) (x := enc (fdN S f (S 11 4))) (S 11 4) (by omega) (fun i hi => ?_) ?_
  · exact bo_of key
  · dsimp only
    have hq := fdN_P S f i
    have h9 := (o8 i hi).2.2.1
    unfold f_X10_firstDue_L7 f_X10_firstDue_60 f_X10_firstDue_49 f_X10_firstDue_60
    rw [h.x6, ite_le_f (by omega) hi, if_neg (le12 (by omega)), bo_of wrc, bo_of (h.xowes hf hi), ite_b, xw18 h.1, h.xa9 hi, xw18 h.1, h.xa9 hi, nI_1, fdN]
    by_cases c : owP S f i
    · rw [ci_t c]
      by_cases c2 : fdN S f i = 0
      · rw [ci_t ⟨c, Or.inl c2⟩, enc_0 c2, if_pos rfl, enc_s, if_neg (show ¬ i + 1 = 0 by omega), Nat.add_sub_cancel]
      · have h8 := (o8 (fdN S f i - 1) (by omega)).2.2.1
        rw [enc_n c2, if_neg (nI_m1 (by omega)), if_neg c2]
        by_cases c3 : S 9 i < S 9 (fdN S f i - 1)
        · rw [ite_le_f (by omega) c3, ci_t ⟨c, Or.inr c3⟩, enc_s, if_neg (show ¬ i + 1 = 0 by omega), Nat.add_sub_cancel]
        · rw [ite_le_t (by omega) (by omega), ci_f (fun z => z.2.elim c2 c3), enc_n c2, if_neg c2]
    · rw [ci_f c, ci_f (fun z => c z.1)]
  · dsimp only
    unfold f_X10_firstDue_L7
    rw [h.x6, if_pos (nI_le (Nat.le_refl _) (by omega))]
theorem Wk.xowed (h : Wk σx σm o A F W S) {f : Nat} (hf : f < 32) : f_X10_owedBy 174 (nI f) σx = some (nI (owN S f (S 11 4))) := by
  obtain ⟨o0, o1, o2, o3, o4, -, o6, o7, o8⟩ := h.2.2.2.2
  unfold f_X10_owedBy
  have key := iter_n (f := fun s : Int32 × Int32 => f_X10_owedBy_L4 174 (nI f) s.1 s.2 σx) (st := fun i => (nI (owN S f i), nI i)) (x := nI (owN S f (S 11 4))) (S 11 4) (by omega) (fun i hi => ?_) ?_
  · exact bo_of key
  · dsimp only
    unfold f_X10_owedBy_L4 f_X10_owedBy_41
    rw [h.x6, ite_le_f (by omega) hi, if_neg (le12 (by omega)), bo_of wrc, bo_of (h.xlives hf), ite_b, bo_of wrc, bo_of (h.xowes hf hi), ite_b, nI_1, owN_s, shl1 (by omega), nI_or]
    by_cases c : lvN S f
    · rw [ci_t c]
      by_cases c2 : owP S f i
      · rw [ci_t c2, ci_t ⟨c, c2⟩]
      · rw [ci_f c2, ci_f (fun z => c2 z.2), Nat.or_zero]
    · rw [ci_f c, ci_f (fun z => c z.1), Nat.or_zero]
  · dsimp only
    unfold f_X10_owedBy_L4
    rw [h.x6, if_pos (nI_le (Nat.le_refl _) (by omega))]
theorem Wk.mowes (h : Wk σx σm o A F W S) {f : Nat} (hf : f < 32) : f_X12_owesOf 0 (nI f) σm = some (nI (owN S f (S 11 4))) := by
  obtain ⟨o0, o1, o2, o3, o4, -, o6, o7, o8⟩ := h.2.2.2.2
  unfold f_X12_owesOf
  have key := iter_n (f := fun s : Int32 × Int32 => f_X12_owesOf_L4 0 (nI f) s.1 s.2 σm) (st := fun i => (nI (owN S f i), nI i)) (x := nI (owN S f (S 11 4))) (S 11 4) (by omega) (fun i hi => ?_) ?_
  · exact bo_of key
  · dsimp only
    obtain ⟨p1, p2, p3, p4⟩ := o8 i hi
    have hg := (o6 (S 7 i) (by omega)).2.2.2
    unfold f_X12_owesOf_L4 f_X12_owesOf_54 f_X12_owesOf_55
    rw [h.m32, ite_le_f (by omega) hi, bo_of mrc, bo_of (h.mlives hf), ite_b, mw44 h.2.1.1, h.ma10 hi, nI_1, owN_s, shl1 (by omega), nI_or, i0, nI_or, Nat.or_zero]
    by_cases c : lvN S f
    · rw [ci_t c]
      by_cases c2 : S 10 i = 0
      · rw [ite_eq_t c2, mw37 h.2.1.1, mw41 h.2.1.1, h.ma7 hi, h.ma3 (by omega), bo_of (mamong (by omega) hf _), show (if bI ((S 3 (S 7 i)).testBit f = true) = nI 0 then (some (Sum.inl (nI (owN S f i), nI (i + 1))) : Option ((Int32 × Int32) ⊕ Int32)) else some (Sum.inl (nI (owN S f i ||| 2 ^ i), nI (i + 1)))) = ci ((S 3 (S 7 i)).testBit f = true) (some (Sum.inl (nI (owN S f i ||| 2 ^ i), nI (i + 1)))) (some (Sum.inl (nI (owN S f i), nI (i + 1)))) from ite_b]
        by_cases c3 : (S 3 (S 7 i)).testBit f = true
        · rw [ci_t c3, ci_t ⟨c, c2, c3⟩]
        · rw [ci_f c3, ci_f (fun z => c3 z.2.2), Nat.or_zero]
      · rw [ite_eq_f (by omega) (by omega) c2, ci_f (fun z => c2 z.2.1), Nat.or_zero]
    · rw [ci_f c, ci_f (fun z => c z.1), Nat.or_zero]
  · dsimp only
    unfold f_X12_owesOf_L4
    rw [h.m32, if_pos (nI_le (Nat.le_refl _) (by omega))]
theorem Wk.mbest (h : Wk σx σm o A F W S) {f : Nat} : iter FU (fun s => f_X12_works0_L11 0 (nI f) (nI (owN S f (S 11 4))) s.1 s.2 σm) ((-1 : Int32), (0 : Int32)) = some (ci (lvN S f) (enc (fdN S f (S 11 4))) (-1)) := by
  obtain ⟨o0, o1, o2, o3, o4, -, o6, o7, o8⟩ := h.2.2.2.2
  have hl := owN_lt S f o4
  have key := iter_n (f := fun s : Int32 × Int32 => f_X12_works0_L11 0 (nI f) (nI (owN S f (S 11 4))) s.1 s.2 σm) (st := fun i => (ci (lvN S f) (enc (fdN S f i)) (-1), nI i)) (x := ci (lvN S f) (enc (fdN S f (S 11 4))) (-1)) (S 11 4) (by omega) (fun i hi => ?_) ?_
  · have e0 : ci (lvN S f) (enc (fdN S f 0)) (-1) = -1 := by
      by_cases c : lvN S f
      · rw [ci_t c]; rfl
      · rw [ci_f c]
    rw [e0] at key
    exact key
  · dsimp only
    have hq := fdN_P S f i
    have h9 := (o8 i hi).2.2.1
    unfold f_X12_works0_L11 f_X12_works0_53 f_X12_works0_50 f_X12_works0_53
    rw [h.m32, ite_le_f (by omega) hi, bo_of (mamong (by omega) (by omega) _), ite_b, mw43 h.2.1.1, h.ma9 hi, nI_1, fdN]
    by_cases c : lvN S f
    · rw [ci_t c, ci_t c]
      by_cases c1 : owP S f i
      · rw [ci_t ((owN_tb S f _ i).mpr ⟨hi, c, c1⟩)]
        by_cases c2 : fdN S f i = 0
        · rw [ci_t ⟨c1, Or.inl c2⟩, enc_0 c2, if_pos rfl, enc_s]
        · have h8 := (o8 (fdN S f i - 1) (by omega)).2.2.1
          rw [enc_n c2, if_neg (nI_m1 (by omega)), mw43 h.2.1.1, h.ma9 (by omega)]
          by_cases c3 : S 9 i < S 9 (fdN S f i - 1)
          · rw [ite_le_f (by omega) c3, ci_t ⟨c1, Or.inr c3⟩, enc_s]
          · rw [ite_le_t (by omega) (by omega), ci_f (fun z => z.2.elim c2 c3), enc_n c2]
      · rw [ci_f (fun z => c1 ((owN_tb S f _ i).mp z).2.2), ci_f (fun z => c1 z.1)]
    · rw [ci_f (fun z => c ((owN_tb S f _ i).mp z).2.1), ci_f c, ci_f c]
  · dsimp only
    unfold f_X12_works0_L11
    rw [h.m32, if_pos (nI_le (Nat.le_refl _) (by omega))]
theorem w_dig (h : Wk σx σm o A F W S) {w f p : Nat} (hp : p < S 11 4) (hpw : S 8 p = w) (hw : w < W) (hf : f < S 11 1) {m : Nat} (hm : m = if S 1 f ≤ szN A w - S 6 w then S 1 f else szN A w - S 6 w) : ∃ τx τm, f_X10_digAt 174 (nI w) (nI f) σx = some ((), τx) ∧ f_X12_works0_111 0 (nI f) (nI w) (nI m) σm = some ((), τm) ∧ WsP σx σm o A F W S τx τm := by
  obtain ⟨o0, o1, o2, o3, o4, -, o6, o7, o8⟩ := h.2.2.2.2
  have hW := h.2.1.W6
  have hd := o7 w (by omega)
  have hz := (h.2.1.vw.wk (show w < 6 by omega)).1.2
  have hs9 := (o6 f (by omega)).2.1
  have hmm : mmin (nI (S 1 f)) (nI (szN A w) - nI (S 6 w)) = nI m := by
    rw [pk_sub hd, mmin_nI (by omega) (by omega), hm]
    congr 1
    by_cases c : S 1 f ≤ szN A w - S 6 w
    · rw [if_neg (by omega), if_pos c]
    · rw [if_pos (by omega), if_neg c]
  have hmle : S 6 w + m ≤ szN A w := by
    rw [hm]
    by_cases c : S 1 f ≤ szN A w - S 6 w
    · rw [if_pos c]; omega
    · rw [if_neg c]; omega
  have h1 := Wk_ar h (k := 6) (j := w) (v := S 6 w + m) (by omega)
  have h2 := Wk_ar h1 (k := 4) (j := f) (v := S 4 f + m) (by omega)
  unfold f_X10_digAt f_X12_works0_111
  rw [bo_of wrc, bo_of (h.hasWork _), ite_b, ci_in_t hw, bo_of wrc, bo_of (h.hasFolk _), ite_b, ci_in_t hf]
  simp (disch := omega) only [↓xw10 h.1, ↓xw13 h.1, ↓xw14 h.1, ↓xw15 h.1, ↓grS, ↓aiSn, ↓wai_e, ↓wsi, ↓h.xa1, ↓h.xa4, ↓h.xa5, ↓h.xa6, ↓mw38 h.2.1.1, ↓mw40 h.2.1.1, ↓msi2, ↓h.ma4, ↓h.ma6, ↓bo_of mrc, hmm, nI_add]
  have hdm := h2.mdone (w := w) (by omega)
  rw [show upS (upS S 6 w (S 6 w + m)) 4 f (S 4 f + m) 6 w = S 6 w + m by simp (disch := omega) only [Nat.reduceAdd, setX_ne, setX_j, upS_ne, upS_eq]] at hdm
  have hKW : KW σx (setX (setX σx (175 + 6) w (nI (S 6 w + m))) (175 + 4) f (nI (S 4 f + m))) σm (setX (setX σm (15 + 6) w (nI (S 6 w + m))) (15 + 4) f (nI (S 4 f + m))) := ((((KW_0 σx σm).xs _ (by omega)).xs _ (by omega)).ms _ (by omega)).ms _ (by omega)
  have hS : Sk S (upS (upS S 6 w (S 6 w + m)) 4 f (S 4 f + m)) := (Sk_dg hp hpw).tr (Sk_ar (by decide))
  rw [bo_of hdm, ite_b]
  by_cases c : S 6 w + m = szN A w
  · rw [ite_le_t (by omega) (by omega), ci_t c]
    obtain ⟨τx, τm, q1, q2, S', q3, q4, q5⟩ := w_keptd h2 (w := w) (by omega)
    unfold f_X12_becomes
    refine ⟨τx, τm, bo_of q1, ?_, S', q3, hKW.tr q4, hS.tr q5⟩
    rw [bo_of q2]
    rfl
  · rw [ite_le_f (by omega) (by omega), ci_f c]
    exact ⟨_, _, rfl, rfl, _, h2, hKW, hS⟩
theorem w_work (h : Wk σx σm o A F W S) {f : Nat} (hf : f < S 11 1) : ∃ τx τm, f_X10_passYear_L13 174 (nI f) σx = some (.inl (nI (f + 1), τx)) ∧ f_X12_works0 0 (nI f) σm = some ((), τm) ∧ WsP σx σm o A F W S τx τm := by
  obtain ⟨o0, o1, o2, o3, o4, -, o6, o7, o8⟩ := h.2.2.2.2
  have hq := fdN_P S f (S 11 4)
  unfold f_X10_passYear_L13 f_X10_passYear_44 f_X10_passYear_64 f_X12_works0
  rw [h.x1, ite_le_f (by omega) hf, if_neg (le10 (by omega)), bo_of wrc, bo_of (h.xlives (by omega)), ite_b, bo_of wrc, bo_of (h.xfirst (by omega)), bo_of mrc, bo_of (h.mowes (by omega)), bo_of h.mbest, bo_of wrc, bo_of (h.hasProm _), ite_b, bo_of wrc, bo_of (h.hasProm _), ite_b, nI_1]
  have non : ∃ τx τm, (some (Sum.inl (nI (f + 1), σx)) : Option ((Int32 × Dt) ⊕ Dt)) = some (.inl (nI (f + 1), τx)) ∧ some ((), σm) = some ((), τm) ∧ WsP σx σm o A F W S τx τm := ⟨σx, σm, rfl, rfl, WsP_0 h⟩
  by_cases c : lvN S f
  · rw [ci_t c, ci_t c]
    by_cases c2 : fdN S f (S 11 4) = 0
    · rw [enc_0 c2, if_pos rfl, ci_f (inR_neg (show (-1 : Int32) < 0 by decide) (by omega))]
      exact non
    · have hp : fdN S f (S 11 4) - 1 < S 11 4 := by omega
      obtain ⟨p1, p2, p3, p4⟩ := o8 _ hp
      have hW := h.2.1.W6
      have hd := o7 (S 8 (fdN S f (S 11 4) - 1)) (by omega)
      have hz := (h.2.1.vw.wk (show S 8 (fdN S f (S 11 4) - 1) < 6 by omega)).1.2
      have hs9 := (o6 f (by omega)).2.1
      rw [enc_n c2, if_neg (nI_m1 (by omega)), ci_in_t hp, xw17 h.1, h.xa8 hp, mw42 h.2.1.1, h.ma8 hp, bo_of mrc, bo_of (msiz h.2.1 (by omega)), mw40 h.2.1.1, h.ma6 (by omega), mw35 h.2.1.1, h.ma1 (by omega), pk_sub hd]
      obtain ⟨τx, τm, q1, q2, q3⟩ := w_dig h (w := S 8 (fdN S f (S 11 4) - 1)) hp rfl p2 hf rfl
      rw [bo_of wrc, bd_of q1, mw35 h.2.1.1, h.ma1 (by omega)]
      refine ⟨τx, τm, rfl, ?_, q3⟩
      by_cases c3 : szN A (S 8 (fdN S f (S 11 4) - 1)) - S 6 (S 8 (fdN S f (S 11 4) - 1)) ≤ S 1 f
      · rw [ite_le_t (by omega) c3]
        by_cases c4 : S 1 f ≤ szN A (S 8 (fdN S f (S 11 4) - 1)) - S 6 (S 8 (fdN S f (S 11 4) - 1))
        · rw [if_pos c4] at q2
          rw [show szN A (S 8 (fdN S f (S 11 4) - 1)) - S 6 (S 8 (fdN S f (S 11 4) - 1)) = S 1 f by omega]
          exact q2
        · rw [if_neg c4] at q2
          exact q2
      · rw [ite_le_f (by omega) (by omega)]
        rw [if_pos (by omega)] at q2
        exact q2
  · rw [ci_f c, ci_f c, if_pos rfl, ci_f (inR_neg (show (-1 : Int32) < 0 by decide) (by omega))]
    exact non
theorem Wk_fb (h : Wk σx σm o A F W S) {p q : Nat} (hp : p < S 11 4) (h0 : S 10 p = 0) (hq : q ≤ 4) (hq1 : q ≠ 1) : Wk (setX σx 185 p (nI q)) (setX σm 25 p (nI q)) o A F W (upS (upS S 10 p q) 11 5 (S 11 5)) := by
  have e := Wk_fa h hp h0 hq (kn := S 11 5) (by rw [show (q == 1) = false from beq_eq_false_iff_ne.mpr hq1]; rfl)
  rw [setX_id (show (setX σm 25 p (nI q)).1 0 33 = nI (S 11 5) by rw [setX_ne (by omega)]; exact h.2.2.2.1.2.2.2.2.2.1)] at e
  exact e
def fnN (S : Nat → Nat → Nat) (A : Nat → Int32) (b p : Nat) : Nat := if 10 ≤ S 0 (S 7 p) ∧ szN A (S 8 p) < b then 2 else if S 9 p ≤ S 11 0 then 3 else 0
theorem Wk.xfny (h : Wk σx σm o A F W S) {p b : Nat} (hp : p < S 11 4) (hb : A 2 = nI b) (hb30 : b ≤ 30) : f_X10_fateInNewYear 174 (nI p) σx = some (nI (fnN S A b p)) := by
  obtain ⟨o0, o1, o2, o3, o4, -, o6, o7, o8⟩ := h.2.2.2.2
  obtain ⟨p1, p2, p3, p4⟩ := o8 p hp
  have hW := h.2.1.W6
  have hz := (h.2.1.vw.wk (show S 8 p < 6 by omega)).1.2
  have hag := (o6 (S 7 p) (by omega)).1
  unfold f_X10_fateInNewYear f_X10_fateInNewYear_47 f_X10_fateInNewYear_48 f_X10_fateInNewYear_75 f_X10_fateInNewYear_76 f_X10_fateInNewYear_90 fnN
  rw [bo_of wrc, bo_of (h.hasProm _), ite_b, ci_in_t hp, xw16 h.1, h.xa7 hp, xw17 h.1, h.xa8 hp, bo_of wrc, bo_of (h.hasFolk _), ite_b, ci_in_t p1, xw9 h.1, h.xa0 (by omega)]
  simp (disch := omega) only [↓bo_of wrc, ↓bo_of (h.hasWork _), ↓ite_b, ↓ci_in_t p2, ↓xw14 h.1, ↓h.xa5, ↓h.x3, ↓xw18 h.1, ↓h.xa9 hp, ↓h.x0, hb, ite_00, ite_10]
  by_cases c : 10 ≤ S 0 (S 7 p)
  · rw [if_neg (nlt10 c (by omega))]
    by_cases c2 : szN A (S 8 p) < b
    · rw [ite_lt_t (by omega) c2, if_pos (show (10 ≤ S 0 (S 7 p) ∧ szN A (S 8 p) < b) from ⟨c, c2⟩)]
      rfl
    · rw [ite_lt_f (by omega) (by omega), if_neg (show ¬ (10 ≤ S 0 (S 7 p) ∧ szN A (S 8 p) < b) from fun z => c2 z.2)]
      by_cases c3 : S 9 p ≤ S 11 0
      · rw [ite_lt_f (by omega) c3, if_pos c3]
        rfl
      · rw [ite_lt_t (by omega) (by omega), if_neg c3]
        rfl
  · rw [if_pos (lt10 (by omega)), if_neg (show ¬ (10 ≤ S 0 (S 7 p) ∧ szN A (S 8 p) < b) from fun z => c z.1)]
    have e : ∀ x : Option Int32, (if nI (szN A (S 8 p)) < nI b then x else x) = x := fun x => ite_self x
    simp only [if_true]
    rw [e]
    by_cases c3 : S 9 p ≤ S 11 0
    · rw [ite_lt_f (by omega) c3, if_pos c3]
      rfl
    · rw [ite_lt_t (by omega) (by omega), if_neg c3]
      rfl
end WYR
/-! ===== a year to its end; deeds ===== -/
section WYE
variable {σx σm : Dt} {o F W : Nat} {A : Nat → Int32} {S : Nat → Nat → Nat}
theorem WsP.tr {τx τm : Dt} {S' : Nat → Nat → Nat} (hw : KW σx τx σm τm) (hS : Sk S S') {ρx ρm : Dt} (h : WsP τx τm o A F W S' ρx ρm) : WsP σx σm o A F W S ρx ρm := by
  obtain ⟨S2, q1, q2, q3⟩ := h
  exact ⟨S2, q1, hw.tr q2, hS.tr q3⟩
theorem w_dig_all (h : Wk σx σm o A F W S) : ∃ τx τm, iter FU (fun s => f_X10_passYear_L13 174 s.1 s.2) ((0 : Int32), σx) = some τx ∧ iter FU (fun s => f_X12_yearGoes_L13 0 s.1 s.2) ((0 : Int32), σm) = some τm ∧ WsP σx σm o A F W S τx τm := by
  have o1 := h.2.2.2.2.2.1
  refine iter_two (P := fun i s t => s.1 = nI i ∧ t.1 = nI i ∧ WsP σx σm o A F W S s.2 t.2) (Q := fun x y => WsP σx σm o A F W S x y) (S 11 1) (by omega) ⟨rfl, rfl, WsP_0 h⟩ (fun i s t hi hP => ?_)
  obtain ⟨x, τx⟩ := s
  obtain ⟨y, τm⟩ := t
  obtain ⟨e1, e2, S', hk, hw, hS⟩ := hP
  dsimp only at e1 e2 hk hw ⊢
  subst e1
  subst e2
  have e4 := hS.1 1 (by decide)
  rcases (show i = S 11 1 ∨ i < S 11 1 by omega) with e | e
  · left
    unfold f_X10_passYear_L13 f_X12_yearGoes_L13
    rw [hk.x1, hk.m28, if_pos (nI_le (by omega) (by omega)), if_pos (nI_le (by omega) (by omega))]
    exact ⟨_, _, rfl, rfl, S', hk, hw, hS⟩
  · right
    refine ⟨e, ?_⟩
    obtain ⟨ρx, ρm, q1, q2, q3⟩ := w_work hk (f := i) (by omega)
    unfold f_X12_yearGoes_L13
    rw [q1, hk.m28, ite_le_f (by omega) (by omega), bo_of mrc, bd_of q2, nI_1]
    exact ⟨_, _, rfl, rfl, rfl, rfl, q3.tr hw hS⟩
theorem w_ages (h : Wk σx σm o A F W S) : ∃ τx τm, iter FU (fun s => f_X10_passYear_L72 174 s.1 s.2) ((0 : Int32), σx) = some τx ∧ iter FU (fun s => f_X12_yearGoes_L34 0 s.1 s.2) ((0 : Int32), σm) = some τm ∧ WsP σx σm o A F W S τx τm := by
  have o1 := h.2.2.2.2.2.1
  refine iter_two (P := fun i s t => s.1 = nI i ∧ t.1 = nI i ∧ WsP σx σm o A F W S s.2 t.2) (Q := fun x y => WsP σx σm o A F W S x y) (S 11 1) (by omega) ⟨rfl, rfl, WsP_0 h⟩ (fun i s t hi hP => ?_)
  obtain ⟨x, τx⟩ := s
  obtain ⟨y, τm⟩ := t
  obtain ⟨e1, e2, S', hk, hw, hS⟩ := hP
  dsimp only at e1 e2 hk hw ⊢
  subst e1
  subst e2
  have e4 := hS.1 1 (by decide)
  unfold f_X10_passYear_L72 f_X10_passYear_115 f_X12_yearGoes_L34 f_X12_yearGoes_72 f_X12_yearGoes_73
  rw [hk.x1, hk.m28]
  rcases (show i = S 11 1 ∨ i < S 11 1 by omega) with e | e
  · left
    rw [if_pos (nI_le (by omega) (by omega)), if_pos (nI_le (by omega) (by omega))]
    exact ⟨_, _, rfl, rfl, S', hk, hw, hS⟩
  · right
    refine ⟨e, ?_⟩
    have hag := (hk.2.2.2.2.2.2.2.2.2.2.1 i (by omega)).1
    have hsame : setX τm 15 i (nI (S' 0 i)) = τm := setX_id ((hk.2.2.1 0 i (Or.inl ⟨by decide, by omega⟩)).2)
    rw [ite_le_f (by omega) (by omega), if_neg (le10 (by omega)), bo_of wrc, bo_of (hk.xlives (by omega)), ite_b, xw9 hk.1, hk.xa0 (by omega), xw9 hk.1, hk.xa0 (by omega), wsi (by omega), ite_le_f (by omega) (by omega), mw34 hk.2.1.1, hk.ma0 (by omega), bo_of mrc, bo_of (hk.mlives (by omega)), ite_b, mw34 hk.2.1.1, hk.ma0 (by omega), msi2 (by omega), msi2 (by omega), Int32.add_zero, hsame, nI_1, nI_1]
    by_cases c : lvN S' i
    · rw [ci_t c, ci_t c]
      by_cases c2 : 99 ≤ S' 0 i
      · rw [if_pos (show (99 : Int32) ≤ nI (S' 0 i) from nI_le (a := 99) c2 (by omega)), if_pos (show (99 : Int32) ≤ nI (S' 0 i) from nI_le (a := 99) c2 (by omega))]
        exact ⟨_, _, rfl, rfl, rfl, rfl, S', hk, hw, hS⟩
      · rw [if_neg (show ¬ (99 : Int32) ≤ nI (S' 0 i) from nI_ge (b := 99) (by omega) (by decide)), if_neg (show ¬ (99 : Int32) ≤ nI (S' 0 i) from nI_ge (b := 99) (by omega) (by decide))]
        refine ⟨_, _, rfl, rfl, rfl, rfl, _, Wk_ar hk (k := 0) (j := i) (v := S' 0 i + 1) (by omega), (hw.xs _ (by omega)).ms _ (by omega), hS.tr (Sk_ar (by decide))⟩
    · rw [ci_f c, ci_f c]
      exact ⟨_, _, rfl, rfl, rfl, rfl, S', hk, hw, hS⟩
theorem w_fates (h : Wk σx σm o A F W S) : ∃ τx τm, iter FU (fun s => f_X10_passYear_L138 174 s.1 s.2) ((0 : Int32), σx) = some τx ∧ iter FU (fun s => f_X12_yearGoes_L98 0 s.1 s.2) ((0 : Int32), σm) = some τm ∧ WsP σx σm o A F W S τx τm := by
  have o4 := h.2.2.2.2.2.2.2.2.1
  obtain ⟨b, hb, hb1, hb30⟩ := h.2.1.vw.2.2.2.2.1
  refine iter_two (P := fun i s t => s.1 = nI i ∧ t.1 = nI i ∧ WsP σx σm o A F W S s.2 t.2) (Q := fun x y => WsP σx σm o A F W S x y) (S 11 4) (by omega) ⟨rfl, rfl, WsP_0 h⟩ (fun i s t hi hP => ?_)
  obtain ⟨x, τx⟩ := s
  obtain ⟨y, τm⟩ := t
  obtain ⟨e1, e2, S', hk, hw, hS⟩ := hP
  dsimp only at e1 e2 hk hw ⊢
  subst e1
  subst e2
  have e4 := hS.1 4 (by decide)
  unfold f_X10_passYear_L138 f_X10_passYear_172 f_X12_yearGoes_L98 f_X12_yearGoes_196 f_X12_yearGoes_162 f_X12_yearGoes_163 f_X12_yearGoes_195 f_X12_yearGoes_196
  rw [hk.x6, hk.m32]
  rcases (show i = S 11 4 ∨ i < S 11 4 by omega) with e | e
  · left
    rw [if_pos (nI_le (by omega) (by omega)), if_pos (nI_le (by omega) (by omega))]
    exact ⟨_, _, rfl, rfl, S', hk, hw, hS⟩
  · right
    refine ⟨e, ?_⟩
    have hi4 : i < S' 11 4 := by omega
    obtain ⟨p1, p2, p3, p4⟩ := hk.2.2.2.2.2.2.2.2.2.2.2.2 i hi4
    have o0 := hk.2.2.2.2.1
    have o1 := hk.2.2.2.2.2.1
    have hW := hk.2.1.W6
    have hob := hk.2.1.ob
    have hag := (hk.2.2.2.2.2.2.2.2.2.2.1 (S' 7 i) (by omega)).1
    have hz := (hk.2.1.vw.wk (show S' 8 i < 6 by omega)).1.2
    rw [ite_le_f (by omega) hi4, if_neg (le12 (by omega)), xw19 hk.1, hk.xa10 hi4, xw19 hk.1, bo_of wrc, bo_of (hk.xfny hi4 hb hb30), wsi (by omega), ite_le_f (by omega) hi4, mw44 hk.2.1.1, hk.ma10 hi4, nI_1]
    by_cases c : S' 10 i = 0
    · have fin : ∀ q, q = fnN S' A b i → ∃ s' t', (some (Sum.inl (nI (i + 1), setX τx 185 i (nI (fnN S' A b i)))) : Option ((Int32 × Dt) ⊕ Dt)) = some (Sum.inl s') ∧ (some (Sum.inl (nI (i + 1), setX τm 25 i (nI q))) : Option ((Int32 × Dt) ⊕ Dt)) = some (Sum.inl t') ∧ s'.1 = nI (i + 1) ∧ t'.1 = nI (i + 1) ∧ WsP σx σm o A F W S s'.2 t'.2 := by
        intro q hq
        subst hq
        have hf4 : fnN S' A b i ≤ 4 ∧ fnN S' A b i ≠ 1 := by
          unfold fnN
          by_cases d1 : 10 ≤ S' 0 (S' 7 i) ∧ szN A (S' 8 i) < b
          · rw [if_pos d1]; decide
          · rw [if_neg d1]
            by_cases d2 : S' 9 i ≤ S' 11 0
            · rw [if_pos d2]; decide
            · rw [if_neg d2]; decide
        refine ⟨_, _, rfl, rfl, rfl, rfl, _, Wk_fb hk (p := i) hi4 c hf4.1 hf4.2, (hw.xs _ (by omega)).ms _ (by omega), hS.tr Sk_fa⟩
      rw [ite_z_t c, ite_z_t c, mw34 hk.2.1.1, mw41 hk.2.1.1, hk.ma7 hi4, hk.ma0 (by omega)]
      simp (disch := omega) only [↓mw42 hk.2.1.1, ↓hk.ma8 hi4, ↓bo_of mrc, ↓bo_of (msiz hk.2.1 (show S' 8 i < 6 by omega)), ↓bo_of (m_r hk.2.1.1 (show 0 < 48 by decide) (show rM 0 0 = some 1 from rfl)), ↓bo_of (show xgi SM 12 11 (some 0) τm = some (nI o) by rw [mgi, hk.2.1.v0]), show nI o + (2 : Int32) = nI (o + 2) from nI_add o 2, ↓bo_of (hk.2.1.at (o + 2) 2 (by decide) rfl), hb, ↓mw44 hk.2.1.1, ↓mw43 hk.2.1.1, ↓hk.ma9 hi4, ↓hk.m27, ↓msi2, ite_00, ite_10]
      by_cases c1 : 10 ≤ S' 0 (S' 7 i)
      · rw [if_neg (nlt10 c1 (by omega))]
        by_cases c2 : szN A (S' 8 i) < b
        · rw [ite_le_f (by omega) c2]
          exact fin 2 (by unfold fnN; rw [if_pos ⟨c1, c2⟩])
        · rw [ite_le_t (by omega) (by omega)]
          by_cases c3 : S' 9 i ≤ S' 11 0
          · rw [ite_lt_f (by omega) c3]
            exact fin 3 (by unfold fnN; rw [if_neg (fun z => c2 z.2), if_pos c3])
          · rw [ite_lt_t (by omega) (by omega)]
            exact fin 0 (by unfold fnN; rw [if_neg (fun z => c2 z.2), if_neg c3])
      · rw [if_pos (lt10 (by omega))]
        by_cases c3 : S' 9 i ≤ S' 11 0
        · rw [ite_lt_f (by omega) c3]
          exact fin 3 (by unfold fnN; rw [if_neg (fun z => c1 z.1), if_pos c3])
        · rw [ite_lt_t (by omega) (by omega)]
          exact fin 0 (by unfold fnN; rw [if_neg (fun z => c1 z.1), if_neg c3])
    · rw [ite_z_f (by omega) c, ite_z_f (by omega) c]
      exact ⟨_, _, rfl, rfl, rfl, rfl, S', hk, hw, hS⟩
def SkY (S S' : Nat → Nat → Nat) : Prop := S' 11 4 = S 11 4 ∧ (∀ p, S' 8 p = S 8 p) ∧ ∀ j, (∀ p, p < S 11 4 → S 8 p ≠ j) → S' 6 j = S 6 j
theorem w_year2 (h : Wk σx σm o A F W S) : ∃ r σx' σm' S', f_X10_passYear 174 σx = some (r, σx') ∧ f_X12_yearGoes 0 σm = some (r, σm') ∧ (r = 0 ∨ r = 1) ∧ Wk σx' σm' o A F W S' ∧ KW σx σx' σm σm' ∧ SkY S S' := by
  have o0 := h.2.2.2.2.1
  unfold f_X10_passYear f_X12_yearGoes f_X10_passYear_70 f_X10_passYear_121
  rw [h.x0, h.m27]
  by_cases c : S 11 0 < 99
  · rw [if_pos (show nI (S 11 0) < (99 : Int32) from nI_lt (b := 99) c (by decide)), if_neg (show ¬ nI (S 11 0) = (99 : Int32) from fun e => absurd ((nI_eq (b := 99) (by omega) (by decide)).mp e) (by omega))]
    obtain ⟨ax, am, a1, a2, S1, a3, a4, a5⟩ := w_dig_all h
    obtain ⟨bx, bm, b1, b2, S2, b3, b4, b5⟩ := w_ages a3
    have hab := a5.tr b5
    have hy : S2 11 0 = S 11 0 := hab.1 0 (by decide)
    have h2 := Wk_sc b3 (s := 0) (a := 0) (b := 27) (v := S2 11 0 + 1) (by omega) (fun z => absurd z (by decide))
    have h3 := Wk_sc h2 (s := 3) (a := 5) (b := 30) (v := 0) (by omega) (fun z => absurd z (by decide))
    obtain ⟨cx, cm, c1, c2, S3, c3, c4, c5⟩ := w_fates h3
    have c1' : iter FU (fun s => f_X10_passYear_L138 174 s.1 s.2) ((0 : Int32), setX (setX bx 174 0 (nI (S2 11 0 + 1))) 174 5 0) = some cx := c1
    have c2' : iter FU (fun s => f_X12_yearGoes_L98 0 s.1 s.2) ((0 : Int32), setX (setX bm 0 27 (nI (S2 11 0 + 1))) 0 30 0) = some cm := c2
    rw [bo_of a1, bo_of b1, b3.x0, wpi, wpi, nI_1, bo_of c1', bo_of a2, bo_of b2, b3.m27, mpiB, mpiB, nI_1, bo_of c2']
    refine ⟨1, _, _, S3, rfl, rfl, Or.inr rfl, c3, (a4.tr b4).tr (KW.tr ?_ c4), ?_⟩
    · exact ((((KW_0 bx bm).xs _ (by omega)).xs _ (by omega)).ms _ (by omega)).ms _ (by omega)
    · have u4 : upS (upS S2 11 0 (S2 11 0 + 1)) 11 3 0 11 4 = S2 11 4 := by simp (disch := omega) only [Nat.reduceAdd, setX_ne, setX_j, upS_ne, upS_eq]
      have u8 : ∀ p, upS (upS S2 11 0 (S2 11 0 + 1)) 11 3 0 8 p = S2 8 p := fun p => by simp (disch := omega) only [Nat.reduceAdd, setX_ne, setX_j, upS_ne, upS_eq]
      have u6 : ∀ p, upS (upS S2 11 0 (S2 11 0 + 1)) 11 3 0 6 p = S2 6 p := fun p => by simp (disch := omega) only [Nat.reduceAdd, setX_ne, setX_j, upS_ne, upS_eq]
      have f4 : S2 11 4 = S 11 4 := hab.1 4 (by decide)
      refine ⟨by rw [c5.1 4 (by decide), u4, f4], fun p => by rw [c5.2.1, u8, hab.2.1], fun j hj => ?_⟩
      rw [c5.2.2 j (fun p hp => by rw [u8, hab.2.1]; exact hj p (by rw [u4, f4] at hp; exact hp)), u6, hab.2.2 j hj]
  · rw [if_neg (show ¬ nI (S 11 0) < (99 : Int32) from nI_nlt (b := 99) (by omega) (by omega)), if_pos (show nI (S 11 0) = (99 : Int32) from congrArg nI (show S 11 0 = 99 by omega))]
    exact ⟨0, σx, σm, S, rfl, rfl, Or.inl rfl, h, KW_0 _ _, rfl, fun _ => rfl, fun _ _ => rfl⟩
theorem w_year (h : Wk σx σm o A F W S) : ∃ r σx' σm' S', f_X10_passYear 174 σx = some (r, σx') ∧ f_X12_yearGoes 0 σm = some (r, σm') ∧ (r = 0 ∨ r = 1) ∧ Wk σx' σm' o A F W S' ∧ KW σx σx' σm σm' := by
  obtain ⟨r, σx', σm', S', e1, e2, e3, e4, e5, -⟩ := w_year2 h
  exact ⟨r, σx', σm', S', e1, e2, e3, e4, e5⟩
/-- a deed as a life tells it -/
def DeedW (d : Nat) (a b c : Int32) : Prop := d ≤ 4 ∧ (d ≤ 3 → ∃ x, a = nI x ∧ x ≤ 9) ∧ (d = 0 → ∃ x, b = nI x ∧ x ≤ 5) ∧ (d = 1 → ∃ x, b = nI x ∧ x ≤ 9) ∧ (d = 0 → ∃ x, c = nI x ∧ x ≤ 9)
theorem x_try0 {a b c r : Int32} {σ σ' : Dt} (e : f_X10_makePromise 174 a b c σ = some (r, σ')) (hr : r = 0 ∨ r = 1) : f_X10_tryDeed 174 0 a b c σ = some (r, σ') := by
  unfold f_X10_tryDeed
  rw [if_pos rfl, bo_of wrc, bd_of e, if_pos hr]
theorem x_try1 {a b c r : Int32} {σ σ' : Dt} (e : f_X10_bear 174 a b σ = some (r, σ')) (hr : r = 0 ∨ r = 1) : f_X10_tryDeed 174 1 a b c σ = some (r, σ') := by
  unfold f_X10_tryDeed
  rw [if_neg (by decide), if_pos rfl, bo_of wrc, bd_of e, if_pos hr]
theorem x_try2 {a b c r : Int32} {σ σ' : Dt} (e : f_X10_coverMouth 174 a σ = some (r, σ')) (hr : r = 0 ∨ r = 1) : f_X10_tryDeed 174 2 a b c σ = some (r, σ') := by
  unfold f_X10_tryDeed
  rw [if_neg (by decide), if_neg (by decide), if_pos rfl, bo_of wrc, bd_of e, if_pos hr]
theorem x_try3 {a b c r : Int32} {σ σ' : Dt} (e : f_X10_letDie 174 a σ = some (r, σ')) (hr : r = 0 ∨ r = 1) : f_X10_tryDeed 174 3 a b c σ = some (r, σ') := by
  unfold f_X10_tryDeed
  rw [if_neg (by decide), if_neg (by decide), if_neg (by decide), if_pos rfl, bo_of wrc, bd_of e, if_pos hr]
theorem x_try4 {a b c r : Int32} {σ σ' : Dt} (e : f_X10_passYear 174 σ = some (r, σ')) (hr : r = 0 ∨ r = 1) : f_X10_tryDeed 174 4 a b c σ = some (r, σ') := by
  unfold f_X10_tryDeed
  rw [if_neg (by decide), if_neg (by decide), if_neg (by decide), if_neg (by decide), if_pos rfl, bo_of wrc, bd_of e, if_pos hr]
theorem m_do0 {a b c r : Int32} {σ σ' : Dt} (e : f_X12_promises 0 a b c σ = some (r, σ')) (hr : r = 0 ∨ r = 1) : f_X12_does 0 0 a b c σ = some (r, σ') := by
  unfold f_X12_does
  rw [if_pos rfl, bo_of mrc, bd_of e, if_pos hr]
theorem m_do1 {a b c r : Int32} {σ σ' : Dt} (e : f_X12_isBorn 0 a b σ = some (r, σ')) (hr : r = 0 ∨ r = 1) : f_X12_does 0 1 a b c σ = some (r, σ') := by
  unfold f_X12_does
  rw [if_neg (by decide), if_pos rfl, bo_of mrc, bd_of e, if_pos hr]
theorem m_do2 {a b c r : Int32} {σ σ' : Dt} (e : f_X12_covers 0 a σ = some (r, σ')) (hr : r = 0 ∨ r = 1) : f_X12_does 0 2 a b c σ = some (r, σ') := by
  unfold f_X12_does
  rw [if_neg (by decide), if_neg (by decide), if_pos rfl, bo_of mrc, bd_of e, if_pos hr]
theorem m_do3 {a b c r : Int32} {σ σ' : Dt} (e : f_X12_dies 0 a σ = some (r, σ')) (hr : r = 0 ∨ r = 1) : f_X12_does 0 3 a b c σ = some (r, σ') := by
  unfold f_X12_does
  rw [if_neg (by decide), if_neg (by decide), if_neg (by decide), if_pos rfl, bo_of mrc, bd_of e, if_pos hr]
theorem m_do4 {a b c r : Int32} {σ σ' : Dt} (e : f_X12_yearGoes 0 σ = some (r, σ')) (hr : r = 0 ∨ r = 1) : f_X12_does 0 4 a b c σ = some (r, σ') := by
  unfold f_X12_does
  rw [if_neg (by decide), if_neg (by decide), if_neg (by decide), if_neg (by decide), bo_of mrc, bd_of e, if_pos hr]
theorem w_deed (h : Wk σx σm o A F W S) {d : Nat} {a b c : Int32} (hd : DeedW d a b c) : ∃ r σx' σm' S', f_X10_tryDeed 174 (nI d) a b c σx = some (r, σx') ∧ f_X12_does 0 (nI d) a b c σm = some (r, σm') ∧ (r = 0 ∨ r = 1) ∧ Wk σx' σm' o A F W S' ∧ KW σx σx' σm σm' := by
  obtain ⟨d4, q1, q2, q3, q4⟩ := hd
  rcases (show d = 0 ∨ d = 1 ∨ d = 2 ∨ d = 3 ∨ d = 4 by omega) with rfl | rfl | rfl | rfl | rfl
  · obtain ⟨x, rfl, hx⟩ := q1 (by decide)
    obtain ⟨y, rfl, hy⟩ := q2 rfl
    obtain ⟨z, rfl, hz⟩ := q4 rfl
    obtain ⟨σx', σm', S', e1, e2, e3, e4⟩ := w_promise h (f := x) (w := y) (y := z) (by omega) (by omega) hz
    exact ⟨_, σx', σm', S', x_try0 e1 (bI_01 _), m_do0 e2 (bI_01 _), bI_01 _, e3, e4⟩
  · obtain ⟨x, rfl, hx⟩ := q1 (by decide)
    obtain ⟨y, rfl, hy⟩ := q3 rfl
    obtain ⟨r, σx', σm', S', e1, e2, e0, e3, e4⟩ := w_born h (p := x) (s := y) (by omega) hy
    exact ⟨r, σx', σm', S', x_try1 e1 e0, m_do1 e2 e0, e0, e3, e4⟩
  · obtain ⟨x, rfl, hx⟩ := q1 (by decide)
    obtain ⟨r, σx', σm', S', e1, e2, e0, e3, e4⟩ := w_cover h (f := x) (by omega)
    exact ⟨r, σx', σm', S', x_try2 e1 e0, m_do2 e2 e0, e0, e3, e4⟩
  · obtain ⟨x, rfl, hx⟩ := q1 (by decide)
    obtain ⟨r, σx', σm', S', e1, e2, e0, e3, e4⟩ := w_die h (f := x) (by omega)
    exact ⟨r, σx', σm', S', x_try3 e1 e0, m_do3 e2 e0, e0, e3, e4⟩
  · obtain ⟨r, σx', σm', S', e1, e2, e0, e3, e4⟩ := w_year h
    exact ⟨r, σx', σm', S', x_try4 e1 e0, m_do4 e2 e0, e0, e3, e4⟩
end WYE
/-! ===== a life begins ===== -/
theorem grC {β : Type} {sh : Sh} {c j : Nat} {r : Option Nat} {σ : Dt} {a b n : Nat} {k : Option Nat → Option β} : bo (xgr sh c j r (cpR σ a b n)) k = bo (xgr sh c j r σ) k := by cases r <;> rfl
theorem mm_in {F n : Nat} (h : F ≤ n) (hn : n < 2 ^ 31) : mmax 0 (mmin (nI F) (nI n)) = nI F := by
  rw [mmin_nI (by omega) hn, if_neg (by omega), i0, mmax_nI (by decide) (by omega)]
  by_cases c : F ≤ 0
  · rw [if_pos c, show F = 0 by omega]
  · rw [if_neg c]
def S0 (A : Nat → Int32) (F : Nat) : Nat → Nat → Nat := fun k j => if k = 0 then agN A j else if k = 1 then stN A j else if k = 2 then paN A j else if k = 3 then grN A j else if k = 11 then (if j = 1 then F else if j = 2 then 2 ^ F - 1 else 0) else 0
def KB (σx σx' σm σm' : Dt) : Prop := (∀ a, (a < 174 ∨ 185 < a) → σx'.1 a = σx.1 a) ∧ σx'.2 = σx.2 ∧ σx'.1 174 8 = σx.1 174 8 ∧ (∀ a, (1 ≤ a ∧ a < 15) ∨ 25 < a → σm'.1 a = σm.1 a) ∧ σm'.2 = σm.2 ∧ ∀ j, (j < 27 ∨ 33 < j) → σm'.1 0 j = σm.1 0 j
theorem KB.kx {a b c d : Dt} (h : KB a b c d) : KX a b := ⟨fun x hx => h.1 x (Or.inl hx), congrArg Prod.snd h.2.1⟩
theorem KB.km {a b c d : Dt} (h : KB a b c d) : KM c d := ⟨h.2.2.2.1 1 (by omega), h.2.2.2.1 2 (by omega), congrArg Prod.snd h.2.2.2.2.1, fun j hj => h.2.2.2.2.2 j (by omega)⟩
theorem x_zero1 {τ : Dt} (hR : RefX τ) : ∃ τ', iter FU (fun s => f_X10_begin_L156 174 s.1 s.2) ((0 : Int32), τ) = some τ' ∧ (∀ a, a ≠ 179 → τ'.1 a = τ.1 a) ∧ (∀ j, j < 10 → τ'.1 179 j = 0) ∧ τ'.2 = τ.2 := by
  refine iter_w (f := fun s : Int32 × Dt => f_X10_begin_L156 174 s.1 s.2) (P := fun i s => s.1 = nI i ∧ (∀ a, a ≠ 179 → s.2.1 a = τ.1 a) ∧ (∀ j, j < i → s.2.1 179 j = 0) ∧ s.2.2 = τ.2) (Q := fun τ' => (∀ a, a ≠ 179 → τ'.1 a = τ.1 a) ∧ (∀ j, j < 10 → τ'.1 179 j = 0) ∧ τ'.2 = τ.2) 10 (by decide) ⟨rfl, fun _ _ => rfl, fun j hj => by omega, rfl⟩ (fun i s hi hP => ?_)
  obtain ⟨x, ρ⟩ := s
  obtain ⟨e1, e2, e3, e4⟩ := hP
  dsimp only at e1 e2 e3 e4 ⊢
  subst e1
  unfold f_X10_begin_L156
  rcases (show i = 10 ∨ i < 10 by omega) with rfl | e
  · left
    rw [if_pos (by decide)]
    exact ⟨_, rfl, e2, e3, e4⟩
  · right
    have hR2 : RefX ρ := RefX_2 e4 hR
    rw [if_neg (le10 e), xw13 hR2, wsi (by omega), nI_1]
    refine ⟨e, _, rfl, rfl, fun a ha => ?_, fun j hj => ?_, e4⟩
    · show (setX ρ 179 i 0).1 a = _
      rw [setX_o ha]; exact e2 a ha
    · show (setX ρ 179 i 0).1 179 j = _
      rcases (show j = i ∨ j < i by omega) with q | q
      · rw [q, setX_j]
      · rw [setX_n (by omega)]; exact e3 j q
theorem x_zero2 {τ : Dt} (hR : RefX τ) : ∃ τ', iter FU (fun s => f_X10_begin_L177 174 s.1 s.2) ((0 : Int32), τ) = some τ' ∧ (∀ a, a ≠ 181 → τ'.1 a = τ.1 a) ∧ (∀ j, j < 6 → τ'.1 181 j = 0) ∧ τ'.2 = τ.2 := by
  refine iter_w (f := fun s : Int32 × Dt => f_X10_begin_L177 174 s.1 s.2) (P := fun i s => s.1 = nI i ∧ (∀ a, a ≠ 181 → s.2.1 a = τ.1 a) ∧ (∀ j, j < i → s.2.1 181 j = 0) ∧ s.2.2 = τ.2) (Q := fun τ' => (∀ a, a ≠ 181 → τ'.1 a = τ.1 a) ∧ (∀ j, j < 6 → τ'.1 181 j = 0) ∧ τ'.2 = τ.2) 6 (by decide) ⟨rfl, fun _ _ => rfl, fun j hj => by omega, rfl⟩ (fun i s hi hP => ?_)
  obtain ⟨x, ρ⟩ := s
  obtain ⟨e1, e2, e3, e4⟩ := hP
  dsimp only at e1 e2 e3 e4 ⊢
  subst e1
  unfold f_X10_begin_L177
  rcases (show i = 6 ∨ i < 6 by omega) with rfl | e
  · left
    rw [if_pos (by decide)]
    exact ⟨_, rfl, e2, e3, e4⟩
  · right
    have hR2 : RefX ρ := RefX_2 e4 hR
    rw [if_neg (show ¬ (6 : Int32) ≤ nI i from nI_ge (b := 6) e (by decide)), xw15 hR2, wsi (by omega), nI_1]
    refine ⟨e, _, rfl, rfl, fun a ha => ?_, fun j hj => ?_, e4⟩
    · show (setX ρ 181 i 0).1 a = _
      rw [setX_o ha]; exact e2 a ha
    · show (setX ρ 181 i 0).1 181 j = _
      rcases (show j = i ∨ j < i by omega) with q | q
      · rw [q, setX_j]
      · rw [setX_n (by omega)]; exact e3 j q
theorem m_zero {τ : Dt} (hR : RefM τ) : ∃ τ', iter FU (fun s => f_X12_begins_L167 0 s.1 s.2) ((0 : Int32), τ) = some τ' ∧ (∀ a, a ≠ 21 → τ'.1 a = τ.1 a) ∧ (∀ j, j < 6 → τ'.1 21 j = 0) ∧ τ'.2 = τ.2 := by
  refine iter_w (f := fun s : Int32 × Dt => f_X12_begins_L167 0 s.1 s.2) (P := fun i s => s.1 = nI i ∧ (∀ a, a ≠ 21 → s.2.1 a = τ.1 a) ∧ (∀ j, j < i → s.2.1 21 j = 0) ∧ s.2.2 = τ.2) (Q := fun τ' => (∀ a, a ≠ 21 → τ'.1 a = τ.1 a) ∧ (∀ j, j < 6 → τ'.1 21 j = 0) ∧ τ'.2 = τ.2) 6 (by decide) ⟨rfl, fun _ _ => rfl, fun j hj => by omega, rfl⟩ (fun i s hi hP => ?_)
  obtain ⟨x, ρ⟩ := s
  obtain ⟨e1, e2, e3, e4⟩ := hP
  dsimp only at e1 e2 e3 e4 ⊢
  subst e1
  unfold f_X12_begins_L167
  rcases (show i = 6 ∨ i < 6 by omega) with rfl | e
  · left
    rw [if_pos (by decide)]
    exact ⟨_, rfl, e2, e3, e4⟩
  · right
    have hR2 : RefM ρ := by unfold RefM at *; rw [e4]; exact hR
    rw [if_neg (show ¬ (6 : Int32) ≤ nI i from nI_ge (b := 6) e (by decide)), mw40 hR2, msi2 (by omega), nI_1]
    refine ⟨e, _, rfl, rfl, fun a ha => ?_, fun j hj => ?_, e4⟩
    · show (setX ρ 21 i 0).1 a = _
      rw [setX_o ha]; exact e2 a ha
    · show (setX ρ 21 i 0).1 21 j = _
      rcases (show j = i ∨ j < i by omega) with q | q
      · rw [q, setX_j]
      · rw [setX_n (by omega)]; exact e3 j q
theorem VW.z {A : Nat → Int32} {F W : Nat} (h : VW A F W) {f : Nat} (hf : f < 10) (hF : F ≤ f) : nI (agN A f) = 0 ∧ nI (stN A f) = 0 ∧ nI (paN A f) = 0 ∧ nI (grN A f) = 0 := by
  obtain ⟨q1, q2, q3, q4⟩ := (h.fk hf).2.2.2.2 hF
  rw [q1, q2, q3, q4]
  exact ⟨rfl, rfl, rfl, rfl⟩
theorem m_rows {σ : Dt} {o F W : Nat} {A : Nat → Int32} (h : MV σ o A F W) : ∃ τ, iter FU (fun s => f_X12_begins_L47 0 s.1 s.2) ((0 : Int32), σ) = some τ ∧ (∀ a, a < 15 ∨ 20 < a → τ.1 a = σ.1 a) ∧ τ.2 = σ.2 ∧ ∀ j, j < 10 → τ.1 15 j = nI (agN A j) ∧ τ.1 16 j = nI (stN A j) ∧ τ.1 17 j = nI (paN A j) ∧ τ.1 18 j = nI (grN A j) ∧ τ.1 19 j = 0 ∧ τ.1 20 j = 0 := by
  have hF := h.F10
  refine iter_w (f := fun s : Int32 × Dt => f_X12_begins_L47 0 s.1 s.2) (P := fun i s => s.1 = nI i ∧ (∀ a, a < 15 ∨ 20 < a → s.2.1 a = σ.1 a) ∧ s.2.2 = σ.2 ∧ ∀ j, j < i → s.2.1 15 j = nI (agN A j) ∧ s.2.1 16 j = nI (stN A j) ∧ s.2.1 17 j = nI (paN A j) ∧ s.2.1 18 j = nI (grN A j) ∧ s.2.1 19 j = 0 ∧ s.2.1 20 j = 0) (Q := fun τ => (∀ a, a < 15 ∨ 20 < a → τ.1 a = σ.1 a) ∧ τ.2 = σ.2 ∧ ∀ j, j < 10 → τ.1 15 j = nI (agN A j) ∧ τ.1 16 j = nI (stN A j) ∧ τ.1 17 j = nI (paN A j) ∧ τ.1 18 j = nI (grN A j) ∧ τ.1 19 j = 0 ∧ τ.1 20 j = 0) 10 (by decide) ⟨rfl, fun _ _ => rfl, rfl, fun j hj => by omega⟩ (fun i s hi hP => ?_)
  obtain ⟨x, ρ⟩ := s
  obtain ⟨e1, e2, e4, e3⟩ := hP
  dsimp only at e1 e2 e3 e4 ⊢
  subst e1
  unfold f_X12_begins_L47
  rcases (show i = 10 ∨ i < 10 by omega) with rfl | e
  · left
    rw [if_pos (by decide)]
    exact ⟨_, rfl, e2, e4, e3⟩
  · right
    refine ⟨e, ?_⟩
    have hM : MV ρ o A F W := KM.mv ⟨e2 1 (by omega), e2 2 (by omega), congrArg Prod.snd e4, fun j _ => by rw [e2 0 (by omega)]⟩ h
    have h1 : MV (setX ρ 15 i (nI (agN A i))) o A F W := (KM_set (by decide)).mv hM
    have h2 : MV (setX (setX ρ 15 i (nI (agN A i))) 16 i (nI (stN A i))) o A F W := (KM_set (by decide)).mv h1
    have h3 : MV (setX (setX (setX ρ 15 i (nI (agN A i))) 16 i (nI (stN A i))) 17 i (nI (paN A i))) o A F W := (KM_set (by decide)).mv h2
    have hx : ∃ s', f_X12_begins_L47 0 (nI i) ρ = some (Sum.inl s') ∧ s' = (nI (i + 1), setX (setX (setX (setX (setX (setX ρ 15 i (nI (agN A i))) 16 i (nI (stN A i))) 17 i (nI (paN A i))) 18 i (nI (grN A i))) 19 i 0) 20 i 0) := by
      refine ⟨_, ?_, rfl⟩
      unfold f_X12_begins_L47
      rcases (show i < F ∨ F ≤ i by omega) with c | c
      · rw [if_neg (le10 e), mw34 hM.1, bo_of (mfolk hM), ite_le_f (by omega) c, bo_of mrc, bo_of (mag hM e)]
        unfold f_X12_begins_75
        rw [msi2 (by omega), mw35 h1.1, bo_of (mfolk h1), ite_le_f (by omega) c, bo_of mrc, bo_of (mst h1 e)]
        unfold f_X12_begins_98
        rw [msi2 (by omega), mw36 h2.1, bo_of (mfolk h2), ite_le_f (by omega) c, bo_of mrc, bo_of (mpa h2 e)]
        unfold f_X12_begins_121
        rw [msi2 (by omega), mw37 h3.1, bo_of (mfolk h3), ite_le_f (by omega) c, bo_of mrc, bo_of (mgd h3 e)]
        unfold f_X12_begins_144
        rw [msi2 (by omega), grS, mw38 h3.1, msi2 (by omega), grS, grS, mw39 h3.1, msi2 (by omega), nI_1]
      · obtain ⟨z1, z2, z3, z4⟩ := h.vw.z e c
        rw [if_neg (le10 e), mw34 hM.1, bo_of (mfolk hM), ite_le_t (by omega) c, show f_X12_begins_75 0 (nI i) (some 15) (nI i) 0 ρ = f_X12_begins_75 0 (nI i) (some 15) (nI i) (nI (agN A i)) ρ by rw [z1]]
        unfold f_X12_begins_75
        rw [msi2 (by omega), mw35 h1.1, bo_of (mfolk h1), ite_le_t (by omega) c]
        rw [show f_X12_begins_98 0 (nI i) (some 16) (nI i) 0 (setX ρ 15 i (nI (agN A i))) = f_X12_begins_98 0 (nI i) (some 16) (nI i) (nI (stN A i)) (setX ρ 15 i (nI (agN A i))) by rw [z2]]
        unfold f_X12_begins_98
        rw [msi2 (by omega), mw36 h2.1, bo_of (mfolk h2), ite_le_t (by omega) c]
        rw [show f_X12_begins_121 0 (nI i) (some 17) (nI i) 0 (setX (setX ρ 15 i (nI (agN A i))) 16 i (nI (stN A i))) = f_X12_begins_121 0 (nI i) (some 17) (nI i) (nI (paN A i)) (setX (setX ρ 15 i (nI (agN A i))) 16 i (nI (stN A i))) by rw [z3]]
        unfold f_X12_begins_121
        rw [msi2 (by omega), mw37 h3.1, bo_of (mfolk h3), ite_le_t (by omega) c]
        rw [show f_X12_begins_144 0 (nI i) (some 18) (nI i) 0 (setX (setX (setX ρ 15 i (nI (agN A i))) 16 i (nI (stN A i))) 17 i (nI (paN A i))) = f_X12_begins_144 0 (nI i) (some 18) (nI i) (nI (grN A i)) (setX (setX (setX ρ 15 i (nI (agN A i))) 16 i (nI (stN A i))) 17 i (nI (paN A i))) by rw [z4]]
        unfold f_X12_begins_144
        rw [msi2 (by omega), grS, mw38 h3.1, msi2 (by omega), grS, grS, mw39 h3.1, msi2 (by omega), nI_1]
    obtain ⟨s', q1, q2⟩ := hx
    subst q2
    unfold f_X12_begins_L47 at q1
    refine ⟨_, q1, rfl, fun a ha => ?_, e4, fun j hj => ?_⟩
    · dsimp only
      rw [setX_o (by omega), setX_o (by omega), setX_o (by omega), setX_o (by omega), setX_o (by omega), setX_o (by omega)]
      exact e2 a ha
    · dsimp only
      rcases (show j = i ∨ j < i by omega) with q | q
      · subst q
        refine ⟨?_, ?_, ?_, ?_, ?_, ?_⟩ <;> simp (disch := omega) only [Nat.reduceAdd, setX_ne, setX_j, upS_ne, upS_eq]
      · simp (disch := omega) only [Nat.reduceAdd, setX_ne, setX_j, upS_ne, upS_eq]
        exact e3 j q
theorem m_begins {σ : Dt} {o F W : Nat} {A : Nat → Int32} (h : MV σ o A F W) : ∃ τ, f_X12_begins 0 σ = some ((), τ) ∧ (∀ a, (1 ≤ a ∧ a < 15) ∨ 25 < a → τ.1 a = σ.1 a) ∧ τ.2 = σ.2 ∧ (∀ j, (j < 27 ∨ 33 < j) → τ.1 0 j = σ.1 0 j) ∧ (τ.1 0 27 = 0 ∧ τ.1 0 28 = nI F ∧ τ.1 0 29 = nI (2 ^ F - 1) ∧ τ.1 0 30 = 0 ∧ τ.1 0 31 = 0 ∧ τ.1 0 32 = 0 ∧ τ.1 0 33 = 0) ∧ (∀ j, j < 10 → τ.1 15 j = nI (agN A j) ∧ τ.1 16 j = nI (stN A j) ∧ τ.1 17 j = nI (paN A j) ∧ τ.1 18 j = nI (grN A j) ∧ τ.1 19 j = 0 ∧ τ.1 20 j = 0) ∧ ∀ j, j < 6 → τ.1 21 j = 0 := by
  have hF := h.F10
  have hp : nI (2 ^ F) - 1 = nI (2 ^ F - 1) := by
    have := Nat.two_pow_pos F
    rw [show (2 : Nat) ^ F = (2 ^ F - 1) + 1 by omega, nI_pred, Nat.add_sub_cancel]
  unfold f_X12_begins
  simp (disch := omega) only [↓mpiB, ↓giSn, ↓bo_of (mfolk h), shl1 (show F < 31 by omega), hp]
  have h1 : MV (setX (setX (setX (setX (setX (setX (setX σ 0 27 0) 0 28 (nI F)) 0 29 (nI (2 ^ F - 1))) 0 30 0) 0 31 0) 0 32 0) 0 33 0) o A F W := (((((((KM_f (σ := σ) (j := 27) (v := 0) (by omega)).tr (KM_f (j := 28) (v := nI F) (by omega))).tr (KM_f (j := 29) (v := nI (2 ^ F - 1)) (by omega))).tr (KM_f (j := 30) (v := 0) (by omega))).tr (KM_f (j := 31) (v := 0) (by omega))).tr (KM_f (j := 32) (v := 0) (by omega))).tr (KM_f (j := 33) (v := 0) (by omega))).mv h
  obtain ⟨τ, q1, q2, q3, q4⟩ := m_rows h1
  have hRτ : RefM τ := by
    have hR := h1.1
    unfold RefM at *
    rw [q3]
    exact hR
  obtain ⟨ρ, r1, r2, r3, r4⟩ := m_zero hRτ
  rw [bo_of q1, bo_of r1]
  have e0 : ρ.1 0 = (setX (setX (setX (setX (setX (setX (setX σ 0 27 0) 0 28 (nI F)) 0 29 (nI (2 ^ F - 1))) 0 30 0) 0 31 0) 0 32 0) 0 33 0).1 0 := by rw [r2 0 (by decide), q2 0 (by omega)]
  refine ⟨ρ, rfl, fun a ha => ?_, r4.trans q3, fun j hj => ?_, ?_, fun j hj => ?_, r3⟩
  · rw [r2 a (by omega), q2 a (by omega), setX_o (by omega), setX_o (by omega), setX_o (by omega), setX_o (by omega), setX_o (by omega), setX_o (by omega), setX_o (by omega)]
  · rw [e0]
    simp (disch := omega) only [Nat.reduceAdd, setX_ne, setX_j, upS_ne, upS_eq]
  · rw [e0]
    refine ⟨?_, ?_, ?_, ?_, ?_, ?_, ?_⟩ <;> simp (disch := omega) only [Nat.reduceAdd, setX_ne, setX_j, upS_ne, upS_eq]
  · rw [r2 15 (by decide), r2 16 (by decide), r2 17 (by decide), r2 18 (by decide), r2 19 (by decide), r2 20 (by decide)]
    exact q4 j hj
theorem x_begins {σ : Dt} {v F W : Nat} {A : Nat → Int32} (h : CV σ v A F W) : ∃ τ, f_X10_begin 174 (some v) σ = some ((), τ) ∧ (∀ a, (a < 174 ∨ 185 < a) → τ.1 a = σ.1 a) ∧ τ.2 = σ.2 ∧ τ.1 174 8 = σ.1 174 8 ∧ (τ.1 174 0 = 0 ∧ τ.1 174 1 = nI F ∧ τ.1 174 2 = nI W ∧ τ.1 174 3 = A 2 ∧ τ.1 174 4 = nI (2 ^ F - 1) ∧ τ.1 174 5 = 0 ∧ τ.1 174 6 = 0 ∧ τ.1 174 7 = -1) ∧ (∀ j, j < 10 → (j < F → τ.1 175 j = nI (agN A j)) ∧ (j < F → τ.1 176 j = nI (stN A j)) ∧ τ.1 177 j = nI (paN A j) ∧ τ.1 178 j = nI (grN A j) ∧ τ.1 179 j = 0) ∧ ∀ j, j < 6 → (j < W → τ.1 180 j = nI (szN A j)) ∧ τ.1 181 j = 0 := by
  have hF := h.F10
  have hW := h.W6
  have hv2 : v ≤ 156 := (show ∀ v ∈ vlist, v ≤ 156 by decide) v h.1
  have hp : nI (2 ^ F) - 1 = nI (2 ^ F - 1) := by
    have := Nat.two_pow_pos F
    rw [show (2 : Nat) ^ F = (2 ^ F - 1) + 1 by omega, nI_pred, Nat.add_sub_cancel]
  have hbo : xgi SX 9 2 (some v) σ = some (A 2) := by rw [cgi h.1, h.bou]
  have hmF : mmax 0 (mmin (nI F) (10 : Int32)) = nI F := mm_in (n := 10) hF (by decide)
  have hmW : mmax 0 (mmin (nI W) (6 : Int32)) = nI W := mm_in (n := 6) hW (by decide)
  have hs := v_sh v h.1
  have cp1 : ∀ {β : Type} {ρ : Dt} {k : Dt → Option β}, bo (xcp SX (some (v + 1)) 0 (some 175) 0 (10 : Int32) ρ) k = k (cpR ρ (v + 1) 175 10) := fun {β ρ k} => bo_of (xcp_of (n := 10) ⟨hs.2.2.1.1, hs.2.2.1.2.1⟩ (by decide) (by decide) (by rw [hs.2.2.1.2.2]; decide) (by decide))
  have cp2 : ∀ {β : Type} {ρ : Dt} {k : Dt → Option β}, bo (xcp SX (some (v + 2)) 0 (some 176) 0 (10 : Int32) ρ) k = k (cpR ρ (v + 2) 176 10) := fun {β ρ k} => bo_of (xcp_of (n := 10) ⟨hs.2.2.2.1.1, hs.2.2.2.1.2.1⟩ (by decide) (by decide) (by rw [hs.2.2.2.1.2.2]; decide) (by decide))
  have cp3 : ∀ {β : Type} {ρ : Dt} {k : Dt → Option β}, bo (xcp SX (some (v + 3)) 0 (some 177) 0 (10 : Int32) ρ) k = k (cpR ρ (v + 3) 177 10) := fun {β ρ k} => bo_of (xcp_of (n := 10) ⟨hs.2.2.2.2.1.1, hs.2.2.2.2.1.2.1⟩ (by decide) (by decide) (by rw [hs.2.2.2.2.1.2.2]; decide) (by decide))
  have cp4 : ∀ {β : Type} {ρ : Dt} {k : Dt → Option β}, bo (xcp SX (some (v + 4)) 0 (some 178) 0 (10 : Int32) ρ) k = k (cpR ρ (v + 4) 178 10) := fun {β ρ k} => bo_of (xcp_of (n := 10) ⟨hs.2.2.2.2.2.1.1, hs.2.2.2.2.2.1.2.1⟩ (by decide) (by decide) (by rw [hs.2.2.2.2.2.1.2.2]; decide) (by decide))
  have cp6 : ∀ {β : Type} {ρ : Dt} {k : Dt → Option β}, bo (xcp SX (some (v + 6)) 0 (some 180) 0 (6 : Int32) ρ) k = k (cpR ρ (v + 6) 180 6) := fun {β ρ k} => bo_of (xcp_of (n := 6) ⟨hs.2.2.2.2.2.2.2.1.1, hs.2.2.2.2.2.2.2.1.2.1⟩ (by decide) (by decide) (by rw [hs.2.2.2.2.2.2.2.1.2.2]; decide) (by decide))
  unfold f_X10_begin
  simp (disch := omega) only [↓ite_none, ↓wpi, ↓giSn, ↓wgiE, ↓bo_of (xfolk h), ↓bo_of (xworks h), ↓bo_of hbo, ↓grS, ↓grC, ↓bo_of (xages h), ↓bo_of (xstrs h), ↓bo_of (xpars h), ↓bo_of (xgrands h), ↓bo_of (xsizes h), ↓xw9 h.2.1, ↓xw10 h.2.1, ↓xw11 h.2.1, ↓xw12 h.2.1, ↓xw14 h.2.1, ↓cp1, ↓cp2, ↓cp3, ↓cp4, ↓cp6, hmF, hmW, shl1 (show F < 31 by omega), hp]
  obtain ⟨τ1, q1, q2, q3, q4⟩ := x_zero1 (τ := cpR (cpR (cpR (cpR (cpR (setX (setX (setX (setX (setX (setX (setX (setX σ 174 0 0) 174 1 (nI F)) 174 2 (nI W)) 174 3 (A 2)) 174 4 (nI (2 ^ F - 1))) 174 5 0) 174 6 0) 174 7 (-1)) (v + 1) 175 10) (v + 2) 176 10) (v + 3) 177 10) (v + 4) 178 10) (v + 6) 180 6) h.2.1
  obtain ⟨τ2, r1, r2, r3, r4⟩ := x_zero2 (τ := τ1) (RefX_2 q4 h.2.1)
  rw [bo_of q1, bo_of r1]
  have e0 : τ2.1 174 = (setX (setX (setX (setX (setX (setX (setX (setX σ 174 0 0) 174 1 (nI F)) 174 2 (nI W)) 174 3 (A 2)) 174 4 (nI (2 ^ F - 1))) 174 5 0) 174 6 0) 174 7 (-1)).1 174 := by
    rw [r2 174 (by decide), q2 174 (by decide), cpR_o (by decide), cpR_o (by decide), cpR_o (by decide), cpR_o (by decide), cpR_o (by decide)]
  refine ⟨τ2, rfl, fun a ha => ?_, r4.trans q4, ?_, ?_, fun j hj => ?_, fun j hj => ?_⟩
  · rw [r2 a (by omega), q2 a (by omega), cpR_o (by omega), cpR_o (by omega), cpR_o (by omega), cpR_o (by omega), cpR_o (by omega), setX_o (by omega), setX_o (by omega), setX_o (by omega), setX_o (by omega), setX_o (by omega), setX_o (by omega), setX_o (by omega), setX_o (by omega)]
  · rw [e0]
    simp (disch := omega) only [Nat.reduceAdd, setX_ne, setX_j, upS_ne, upS_eq]
  · rw [e0]
    refine ⟨?_, ?_, ?_, ?_, ?_, ?_, ?_, ?_⟩ <;> simp (disch := omega) only [Nat.reduceAdd, setX_ne, setX_j, upS_ne, upS_eq]
  · have hk := h.vw.fk hj
    refine ⟨fun hjF => ?_, fun hjF => ?_, ?_, ?_, ?_⟩
    · rw [r2 175 (by decide), q2 175 (by decide), cpR_o (by decide), cpR_o (by decide), cpR_o (by decide), cpR_o (by decide), cpR_b hj]
      simp (disch := omega) only [Nat.reduceAdd, setX_ne, setX_j, upS_ne, upS_eq]
      rw [h.age j hjF, hk.1.1]
    · rw [r2 176 (by decide), q2 176 (by decide), cpR_o (by decide), cpR_o (by decide), cpR_o (by decide), cpR_b hj, cpR_o (by omega)]
      simp (disch := omega) only [Nat.reduceAdd, setX_ne, setX_j, upS_ne, upS_eq]
      rw [h.str j hjF, hk.2.1.1]
    · rw [r2 177 (by decide), q2 177 (by decide), cpR_o (by decide), cpR_o (by decide), cpR_b hj, cpR_o (by omega), cpR_o (by omega)]
      simp (disch := omega) only [Nat.reduceAdd, setX_ne, setX_j, upS_ne, upS_eq]
      rw [h.par j hj, hk.2.2.1.1]
    · rw [r2 178 (by decide), q2 178 (by decide), cpR_o (by decide), cpR_b hj, cpR_o (by omega), cpR_o (by omega), cpR_o (by omega)]
      simp (disch := omega) only [Nat.reduceAdd, setX_ne, setX_j, upS_ne, upS_eq]
      rw [h.gra j hj, hk.2.2.2.1.1]
    · rw [r2 179 (by decide)]
      exact q3 j hj
  · refine ⟨fun hjW => ?_, r3 j hj⟩
    rw [r2 180 (by decide), q2 180 (by decide), cpR_b hj, cpR_o (by omega), cpR_o (by omega), cpR_o (by omega), cpR_o (by omega)]
    simp (disch := omega) only [Nat.reduceAdd, setX_ne, setX_j, upS_ne, upS_eq]
    rw [h.siz j hjW, (h.vw.wk hj).1.1]
theorem w_begin {σx σm : Dt} {v o F W : Nat} {A : Nat → Int32} (hC : CV σx v A F W) (hM : MV σm o A F W) : ∃ σx' σm', f_X10_begin 174 (some v) σx = some ((), σx') ∧ f_X12_begins 0 σm = some ((), σm') ∧ Wk σx' σm' o A F W (S0 A F) ∧ σx'.1 174 7 = -1 ∧ σm'.1 0 31 = 0 ∧ KB σx σx' σm σm' := by
  obtain ⟨τx, a1, a2, a3, a4, a5, a6, a7⟩ := x_begins hC
  obtain ⟨τm, b1, b2, b3, b4, b5, b6, b7⟩ := m_begins hM
  have hF := hC.F10
  have hKB : KB σx τx σm τm := ⟨a2, a3, a4, b2, b3, b4⟩
  have hpow : 2 ^ F ≤ 2 ^ 10 := Nat.pow_le_pow_right (by decide) hF
  refine ⟨τx, τm, a1, b1, ⟨hKB.kx.ref hC.2.1, hKB.km.mv hM, ?_, ?_, ?_⟩, a5.2.2.2.2.2.2.2, b5.2.2.2.2.1, hKB⟩
  · intro k j hk
    have e4 : S0 A F 11 4 = 0 := rfl
    rw [e4] at hk
    rcases (show (k = 0 ∧ j < 10) ∨ (k = 1 ∧ j < 10) ∨ (k = 2 ∧ j < 10) ∨ (k = 3 ∧ j < 10) ∨ (k = 4 ∧ j < 10) ∨ (k = 6 ∧ j < 6) by omega) with ⟨rfl, hj⟩ | ⟨rfl, hj⟩ | ⟨rfl, hj⟩ | ⟨rfl, hj⟩ | ⟨rfl, hj⟩ | ⟨rfl, hj⟩
    · exact ⟨(Nat.lt_or_ge j F).elim (fun z => Or.inl ((a6 j hj).1 z)) (fun z => Or.inr ⟨by decide, z⟩), (b6 j hj).1⟩
    · exact ⟨(Nat.lt_or_ge j F).elim (fun z => Or.inl ((a6 j hj).2.1 z)) (fun z => Or.inr ⟨by decide, z⟩), (b6 j hj).2.1⟩
    · exact ⟨Or.inl (a6 j hj).2.2.1, (b6 j hj).2.2.1⟩
    · exact ⟨Or.inl (a6 j hj).2.2.2.1, (b6 j hj).2.2.2.1⟩
    · exact ⟨Or.inl (a6 j hj).2.2.2.2, (b6 j hj).2.2.2.2.1⟩
    · exact ⟨Or.inl (a7 j hj).2, b7 j hj⟩
  · obtain ⟨x0, x1, x2, x3, x4, x5, x6, -⟩ := a5
    obtain ⟨y0, y1, y2, y3, -, y5, y6⟩ := b5
    exact ⟨⟨x0, y0⟩, ⟨x1, y1⟩, ⟨x4, y2⟩, ⟨x5, y3⟩, ⟨x6, y5⟩, y6, x2, x3, fun w hw => (a7 w (Nat.lt_of_lt_of_le hw hC.W6)).1 hw, fun f hf => (b6 f hf).2.2.2.2.2⟩
  · refine ⟨Nat.zero_le 99, hF, ?_, (show (0 : Nat) < 1024 by decide), Nat.zero_le 12, rfl, fun f hf => ?_, fun w hw => Nat.zero_le _, fun p hp => absurd hp (Nat.not_lt_zero p)⟩
    · show 2 ^ F - 1 < 1024
      omega
    · have hk := hC.vw.fk hf
      exact ⟨hk.1.2, hk.2.1.2, hC.vw.pa10 hf, hC.vw.gr10 hf⟩
