/-! ===== lives lived; what is looked at ===== -/
theorem KB_0 (σx σm : Dt) : KB σx σx σm σm := ⟨fun _ _ => rfl, rfl, rfl, fun _ _ => rfl, rfl, fun _ _ => rfl⟩
theorem KB.tr {a b c d e f : Dt} (h1 : KB a b d e) (h2 : KB b c e f) : KB a c d f := ⟨fun x hx => (h2.1 x hx).trans (h1.1 x hx), h2.2.1.trans h1.2.1, h2.2.2.1.trans h1.2.2.1, fun x hx => (h2.2.2.2.1 x hx).trans (h1.2.2.2.1 x hx), h2.2.2.2.2.1.trans h1.2.2.2.2.1, fun j hj => (h2.2.2.2.2.2 j hj).trans (h1.2.2.2.2.2 j hj)⟩
theorem KW.kb {a b c d : Dt} (h : KW a b c d) : KB a b c d := ⟨h.1, h.2.1, h.2.2.1 8 (by decide), h.2.2.2.1, h.2.2.2.2.1, fun j hj => h.2.2.2.2.2 j (by omega)⟩
theorem KB.x7 {a b c d : Dt} (h : KB a b c d) {v : Int32} : KB a (setX b 174 7 v) c d := ⟨fun x hx => by rw [setX_o (by omega)]; exact h.1 x hx, h.2.1, by rw [setX_n (by decide)]; exact h.2.2.1, h.2.2.2⟩
theorem KB.m31 {a b c d : Dt} (h : KB a b c d) {v : Int32} : KB a b c (setX d 0 31 v) := ⟨h.1, h.2.1, h.2.2.1, fun x hx => by rw [setX_o (by omega)]; exact h.2.2.2.1 x hx, h.2.2.2.2.1, fun j hj => by rw [setX_n (by omega)]; exact h.2.2.2.2.2 j hj⟩
def bvS (g : Nat → Int32) : Nat → Int32 × Int32
  | 0 => (-1, 0)
  | n + 1 => if g n ≤ (bvS g n).2 then bvS g n else (nI n, g n)
theorem bvS_s (g : Nat → Int32) (n : Nat) : bvS g (n + 1) = if g n ≤ (bvS g n).2 then bvS g n else (nI n, g n) := rfl
theorem bvS_P (g : Nat → Int32) : ∀ n, bvS g n = (-1, 0) ∨ ∃ j, j < n ∧ bvS g n = (nI j, g j)
  | 0 => Or.inl rfl
  | n + 1 => by
    rw [bvS_s]
    by_cases c : g n ≤ (bvS g n).2
    · rw [if_pos c]
      rcases bvS_P g n with q | ⟨j, hj, q⟩
      · exact Or.inl q
      · exact Or.inr ⟨j, by omega, q⟩
    · rw [if_neg c]
      exact Or.inr ⟨n, by omega, rfl⟩
section W71
variable {σx σm : Dt} {o F W : Nat} {A : Nat → Int32} {S : Nat → Nat → Nat}
theorem Wk.cg (h : Wk σx σm o A F W S) {τx τm : Dt} (hR : RefX τx) (hM : MV τm o A F W) (hx : ∀ a, 175 ≤ a → a ≤ 185 → τx.1 a = σx.1 a) (hx2 : ∀ j, j < 7 → τx.1 174 j = σx.1 174 j) (hm : ∀ a, 15 ≤ a → a ≤ 25 → τm.1 a = σm.1 a) (hm2 : ∀ j, 27 ≤ j → j ≤ 33 → j ≠ 31 → τm.1 0 j = σm.1 0 j) : Wk τx τm o A F W S := by
  obtain ⟨-, -, hC, hS, hO⟩ := h
  refine ⟨hR, hM, ?_, ?_, hO⟩
  · intro k j hk
    rw [hx (175 + k) (by omega) (by omega), hm (15 + k) (by omega) (by omega)]
    exact hC k j hk
  · unfold WSc at *
    rw [hx2 0 (by decide), hx2 1 (by decide), hx2 4 (by decide), hx2 5 (by decide), hx2 6 (by decide), hx2 2 (by decide), hx2 3 (by decide), hx 180 (by decide) (by decide), hm 20 (by decide) (by decide), hm2 27 (by decide) (by decide) (by decide), hm2 28 (by decide) (by decide) (by decide), hm2 29 (by decide) (by decide) (by decide), hm2 30 (by decide) (by decide) (by decide), hm2 32 (by decide) (by decide) (by decide), hm2 33 (by decide) (by decide) (by decide)]
    exact hS
theorem Wk.sx (h : Wk σx σm o A F W S) {j : Nat} {v : Int32} (hj : 7 ≤ j) : Wk (setX σx 174 j v) σm o A F W S := h.cg h.1 h.2.1 (fun a _ _ => setX_o (by omega)) (fun i hi => setX_n (by omega)) (fun _ _ _ => rfl) (fun _ _ _ _ => rfl)
theorem Wk.sm (h : Wk σx σm o A F W S) {j : Nat} {v : Int32} (hj : j = 31 ∨ (33 < j ∧ j ≠ 45)) : Wk σx (setX σm 0 j v) o A F W S := h.cg h.1 ((KM_f (by omega)).mv h.2.1) (fun _ _ _ => rfl) (fun _ _ => rfl) (fun a _ _ => setX_o (by omega)) (fun i _ _ _ => setX_n (by omega))
theorem w_hand (h : Wk σx σm o A F W S) : f_X10_bestHand 174 σx = some (bvS (fun f => nI (S 4 f)) (S 11 1)).1 := by
  have o1 := h.2.2.2.2.2.1
  unfold f_X10_bestHand
  have key := iter_n (f := fun s : Int32 × Int32 × Int32 => f_X10_bestHand_L6 174 s.1 s.2.1 s.2.2 σx) (st := fun i => ((bvS (fun f => nI (S 4 f)) i).1, (bvS (fun f => nI (S 4 f)) i).2, nI i)) (x := (bvS (fun f => nI (S 4 f)) (S 11 1)).1) (S 11 1) (by omega) (fun i hi => ?_) ?_
  · exact bo_of key
  · dsimp only
    unfold f_X10_bestHand_L6 f_X10_bestHand_39
    rw [h.x1, ite_le_f (by omega) hi, if_neg (le10 (by omega)), xw13 h.1, h.xa4 (by omega), xw13 h.1, h.xa4 (by omega), nI_1, bvS_s]
    by_cases c : nI (S 4 i) ≤ (bvS (fun f => nI (S 4 f)) i).2
    · rw [if_pos c, if_pos c]
    · rw [if_neg c, if_neg c]
  · dsimp only
    unfold f_X10_bestHand_L6
    rw [h.x1, if_pos (nI_le (Nat.le_refl _) (by omega))]
theorem w_dug (h : Wk σx σm o A F W S) : f_X12_mostDug 0 σm = some (bvS (fun f => nI (S 4 f)) (S 11 1)).1 := by
  have o1 := h.2.2.2.2.2.1
  unfold f_X12_mostDug
  have key := iter_n (f := fun s : Int32 × Int32 => f_X12_mostDug_L4 0 s.1 s.2 σm) (st := fun i => ((bvS (fun f => nI (S 4 f)) i).1, nI i)) (x := (bvS (fun f => nI (S 4 f)) (S 11 1)).1) (S 11 1) (by omega) (fun i hi => ?_) ?_
  · exact bo_of key
  · dsimp only
    unfold f_X12_mostDug_L4 f_X12_mostDug_33 f_X12_mostDug_38
    rw [h.m28, ite_le_f (by omega) hi, mw38 h.2.1.1, h.ma4 (by omega), mw38 h.2.1.1, nI_1, bvS_s]
    rcases bvS_P (fun f => nI (S 4 f)) i with q | ⟨j, hj, q⟩
    · rw [q]
      dsimp only
      rw [if_pos rfl]
      by_cases c : nI (S 4 i) ≤ 0
      · rw [if_pos c, if_pos c]
      · rw [if_neg c, if_neg c]
    · rw [q]
      dsimp only
      rw [if_neg (nI_m1 (by omega)), h.ma4 (by omega)]
      by_cases c : nI (S 4 i) ≤ nI (S 4 j)
      · rw [if_pos c, if_pos c]
      · rw [if_neg c, if_neg c]
  · dsimp only
    unfold f_X12_mostDug_L4
    rw [h.m28, if_pos (nI_le (Nat.le_refl _) (by omega))]
def tkN (S : Nat → Nat → Nat) (f : Nat) : Int32 := nI (cnt (fun p => S 7 p == f) (S 11 4))
theorem w_talker (h : Wk σx σm o A F W S) : f_X10_bestTalker 174 σx = some (bvS (tkN S) (S 11 1)).1 := by
  obtain ⟨o0, o1, o2, o3, o4, -, o6, o7, o8⟩ := h.2.2.2.2
  unfold f_X10_bestTalker
  have key := iter_n (f := fun s : Int32 × Int32 × Int32 => f_X10_bestTalker_L6 174 s.1 s.2.1 s.2.2 σx) (st := fun i => ((bvS (tkN S) i).1, (bvS (tkN S) i).2, nI i)) (x := (bvS (tkN S) (S 11 1)).1) (S 11 1) (by omega) (fun i hi => ?_) ?_
  · exact bo_of key
  · dsimp only
    have inner : iter FU (fun s => f_X10_bestTalker_L26 174 (bvS (tkN S) i).1 (bvS (tkN S) i).2 (nI i) s.1 s.2 σx) ((0 : Int32), (0 : Int32)) = some (tkN S i) := by
      refine iter_n (f := fun s : Int32 × Int32 => f_X10_bestTalker_L26 174 (bvS (tkN S) i).1 (bvS (tkN S) i).2 (nI i) s.1 s.2 σx) (st := fun p => (nI (cnt (fun p => S 7 p == i) p), nI p)) (x := tkN S i) (S 11 4) (by omega) (fun p hp => ?_) ?_
      · dsimp only
        have := (o8 p hp).1
        unfold f_X10_bestTalker_L26 f_X10_bestTalker_56
        rw [h.x6, ite_le_f (by omega) hp, if_neg (le12 (by omega)), xw16 h.1, h.xa7 hp, nI_1, nI_1, cnt]
        by_cases c : S 7 p = i
        · rw [ite_eq_t c, show (S 7 p == i) = true from beq_iff_eq.mpr c]
          rfl
        · rw [ite_eq_f (by omega) (by omega) c, show (S 7 p == i) = false from beq_eq_false_iff_ne.mpr c]
          rfl
      · dsimp only
        unfold f_X10_bestTalker_L26
        rw [h.x6, if_pos (nI_le (Nat.le_refl _) (by omega))]
        rfl
    unfold f_X10_bestTalker_L6 f_X10_bestTalker_62 f_X10_bestTalker_73
    rw [h.x1, ite_le_f (by omega) hi, if_neg (le10 (by omega)), bo_of inner, nI_1, bvS_s]
    by_cases c : tkN S i ≤ (bvS (tkN S) i).2
    · rw [if_pos c, if_pos c]
    · rw [if_neg c, if_neg c]
  · dsimp only
    unfold f_X10_bestTalker_L6
    rw [h.x1, if_pos (nI_le (Nat.le_refl _) (by omega))]
theorem w_said (h : Wk σx σm o A F W S) : f_X12_mostSaid 0 σm = some (bvS (tkN S) (S 11 1)).1 := by
  have o1 := h.2.2.2.2.2.1
  unfold f_X12_mostSaid
  have key := iter_n (f := fun s : Int32 × Int32 => f_X12_mostSaid_L4 0 s.1 s.2 σm) (st := fun i => ((bvS (tkN S) i).1, nI i)) (x := (bvS (tkN S) (S 11 1)).1) (S 11 1) (by omega) (fun i hi => ?_) ?_
  · exact bo_of key
  · dsimp only
    unfold f_X12_mostSaid_L4 f_X12_mostSaid_33 f_X12_mostSaid_38
    rw [h.m28, ite_le_f (by omega) hi, mw39 h.2.1.1, h.ma5 (by omega), mw39 h.2.1.1, nI_1, bvS_s]
    rcases bvS_P (tkN S) i with q | ⟨j, hj, q⟩
    · rw [q]
      dsimp only
      rw [if_pos rfl]
      by_cases c : tkN S i ≤ 0
      · rw [if_pos c, if_pos (show nI (cnt (fun p => S 7 p == i) (S 11 4)) ≤ 0 from c)]
      · rw [if_neg c, if_neg (show ¬ nI (cnt (fun p => S 7 p == i) (S 11 4)) ≤ 0 from c)]
    · rw [q]
      dsimp only
      rw [if_neg (nI_m1 (by omega)), h.ma5 (by omega)]
      by_cases c : tkN S i ≤ tkN S j
      · rw [if_pos c, if_pos (show nI (cnt (fun p => S 7 p == i) (S 11 4)) ≤ nI (cnt (fun p => S 7 p == j) (S 11 4)) from c)]
      · rw [if_neg c, if_neg (show ¬ nI (cnt (fun p => S 7 p == i) (S 11 4)) ≤ nI (cnt (fun p => S 7 p == j) (S 11 4)) from c)]
  · dsimp only
    unfold f_X12_mostSaid_L4
    rw [h.m28, if_pos (nI_le (Nat.le_refl _) (by omega))]
def ftN (S : Nat → Nat → Nat) (v : Int32) (n : Nat) : Nat := cnt (fun p => decide (nI (S 10 p) = v)) n
theorem w_fate (h : Wk σx σm o A F W S) (v : Int32) : f_X10_manyOfFate 174 v σx = some (nI (ftN S v (S 11 4))) := by
  have o4 := h.2.2.2.2.2.2.2.2.1
  unfold f_X10_manyOfFate
  have key := iter_n (f := fun s : Int32 × Int32 => f_X10_manyOfFate_L4 174 v s.1 s.2 σx) (st := fun i => (nI (ftN S v i), nI i)) (x := nI (ftN S v (S 11 4))) (S 11 4) (by omega) (fun i hi => ?_) ?_
  · exact bo_of key
  · dsimp only
    unfold f_X10_manyOfFate_L4 f_X10_manyOfFate_31
    rw [h.x6, ite_le_f (by omega) hi, if_neg (le12 (by omega)), xw19 h.1, h.xa10 hi, nI_1, nI_1, show ftN S v (i + 1) = ftN S v i + (decide (nI (S 10 i) = v)).toNat from rfl]
    by_cases c : nI (S 10 i) = v
    · rw [if_pos c, decide_eq_true c]
      rfl
    · rw [if_neg c, decide_eq_false c]
      rfl
  · dsimp only
    unfold f_X10_manyOfFate_L4
    rw [h.x6, if_pos (nI_le (Nat.le_refl _) (by omega))]
theorem w_fate2 (h : Wk σx σm o A F W S) (z w : Int32) : iter FU (fun s => f_X12_after_L81 0 z w s.1 s.2 σm) ((0 : Int32), (0 : Int32)) = some (nI (ftN S (z - 10) (S 11 4))) := by
  have o4 := h.2.2.2.2.2.2.2.2.1
  refine iter_n (f := fun s : Int32 × Int32 => f_X12_after_L81 0 z w s.1 s.2 σm) (st := fun i => (nI (ftN S (z - 10) i), nI i)) (x := nI (ftN S (z - 10) (S 11 4))) (S 11 4) (by omega) (fun i hi => ?_) ?_
  · dsimp only
    unfold f_X12_after_L81 f_X12_after_111
    rw [h.m32, ite_le_f (by omega) hi, mw44 h.2.1.1, h.ma10 hi, nI_1, show ftN S (z - 10) (i + 1) = ftN S (z - 10) i + (decide (nI (S 10 i) = z - 10)).toNat from rfl]
    by_cases c : nI (S 10 i) = z - 10
    · rw [if_pos c, decide_eq_true c, nI_1]
      rfl
    · rw [if_neg c, decide_eq_false c, Int32.add_zero, nI_1]
      rfl
  · dsimp only
    unfold f_X12_after_L81
    rw [h.m32, if_pos (nI_le (Nat.le_refl _) (by omega))]
theorem ft_kept (h : WO A W S) : ftN S 1 (S 11 4) = S 11 5 := by
  obtain ⟨o0, o1, o2, o3, o4, o5, o6, o7, o8⟩ := h
  rw [o5]
  refine cnt_c _ (fun i hi => ?_)
  have := (o8 i hi).2.2.2
  by_cases c : S 10 i = 1
  · rw [decide_eq_true (show nI (S 10 i) = 1 from congrArg nI c), show (S 10 i == 1) = true from beq_iff_eq.mpr c]
  · rw [decide_eq_false (show ¬ nI (S 10 i) = 1 from fun e => c ((nI_eq (b := 1) (by omega) (by decide)).mp e)), show (S 10 i == 1) = false from beq_eq_false_iff_ne.mpr c]
theorem w_done (h : Wk σx σm o A F W S) : ∃ r, f_X10_doneWorks 174 σx = some r ∧ f_X12_doneWorks 0 σm = some r := by
  have hW := h.2.1.W6
  unfold f_X10_doneWorks f_X12_doneWorks
  have key := iter_two (f := fun s : Int32 × Int32 => f_X10_doneWorks_L4 174 s.1 s.2 σx) (g := fun s : Int32 × Int32 => f_X12_doneWorks_L4 0 s.1 s.2 σm) (s0 := ((0 : Int32), (0 : Int32))) (t0 := ((0 : Int32), (0 : Int32))) (P := fun i s t => s = t ∧ s.2 = nI i) (Q := fun x y => x = y) W (by omega) ⟨rfl, rfl⟩ (fun i s t hi hP => ?_)
  · obtain ⟨x, y, e1, e2, e3⟩ := key
    subst e3
    exact ⟨x, bo_of e1, bo_of e2⟩
  · obtain ⟨a, b⟩ := s
    obtain ⟨e1, e2⟩ := hP
    subst e1
    dsimp only at e2 ⊢
    subst e2
    unfold f_X10_doneWorks_L4 f_X10_doneWorks_32 f_X12_doneWorks_L4 f_X12_doneWorks_28
    rw [h.x2, bo_of (mworks h.2.1)]
    rcases (show i = W ∨ i < W by omega) with e | e
    · left
      rw [if_pos (nI_le (by omega) (by omega)), if_pos (nI_le (by omega) (by omega))]
      exact ⟨_, _, rfl, rfl, rfl⟩
    · right
      rw [ite_le_f (by omega) e, ite_le_f (by omega) e, if_neg (show ¬ (6 : Int32) ≤ nI i from nI_ge (b := 6) (by omega) (by decide)), bo_of wrc, bo_of (h.xdone e), ite_b, bo_of mrc, bo_of (h.mdone (by omega)), ite_b, nI_1]
      by_cases c : S 6 i = szN A i
      · rw [ci_t c, ci_t c]
        exact ⟨e, _, _, rfl, rfl, rfl, rfl⟩
      · rw [ci_f c, ci_f c]
        refine ⟨e, _, _, rfl, rfl, ?_, rfl⟩
        rw [Int32.or_zero]
theorem now_split (m : Nat) : m < 6 ∨ (6 ≤ m ∧ m < 10) ∨ (∃ j, j < 10 ∧ m = 10 + j) ∨ (∃ j, j < 10 ∧ m = 20 + j) ∨ (∃ j, j < 10 ∧ m = 30 + j) ∨ (∃ j, j < 12 ∧ m = 40 + j) ∨ (52 ≤ m ∧ m < 60) ∨ (∃ j, j < 12 ∧ m = 60 + j) ∨ 72 ≤ m := by
  rcases (show m < 6 ∨ (6 ≤ m ∧ m < 10) ∨ (10 ≤ m ∧ m < 20) ∨ (20 ≤ m ∧ m < 30) ∨ (30 ≤ m ∧ m < 40) ∨ (40 ≤ m ∧ m < 52) ∨ (52 ≤ m ∧ m < 60) ∨ (60 ≤ m ∧ m < 72) ∨ 72 ≤ m by omega) with q | q | q | q | q | q | q | q | q
  · exact Or.inl q
  · exact Or.inr (Or.inl q)
  · exact Or.inr (Or.inr (Or.inl ⟨m - 10, by omega, by omega⟩))
  · exact Or.inr (Or.inr (Or.inr (Or.inl ⟨m - 20, by omega, by omega⟩)))
  · exact Or.inr (Or.inr (Or.inr (Or.inr (Or.inl ⟨m - 30, by omega, by omega⟩))))
  · exact Or.inr (Or.inr (Or.inr (Or.inr (Or.inr (Or.inl ⟨m - 40, by omega, by omega⟩)))))
  · exact Or.inr (Or.inr (Or.inr (Or.inr (Or.inr (Or.inr (Or.inl q))))))
  · exact Or.inr (Or.inr (Or.inr (Or.inr (Or.inr (Or.inr (Or.inr (Or.inl ⟨m - 60, by omega, by omega⟩)))))))
  · exact Or.inr (Or.inr (Or.inr (Or.inr (Or.inr (Or.inr (Or.inr (Or.inr q)))))))
theorem w_look6 (h : Wk σx σm o A F W S) {m : Nat} (hm : m < 6) : ∃ r, f_X10_look 174 (nI m) σx = some r ∧ f_X12_nowOf 0 (nI m) σm = some r := by
  unfold f_X10_look f_X12_nowOf
  rcases (show m = 0 ∨ m = 1 ∨ m = 2 ∨ m = 3 ∨ m = 4 ∨ m = 5 by omega) with rfl | rfl | rfl | rfl | rfl | rfl
  · rw [if_pos (show nI 0 = (0 : Int32) from rfl), if_pos (show nI 0 = (0 : Int32) from rfl), h.x0, h.m27]
    exact ⟨_, rfl, rfl⟩
  · rw [if_neg (show ¬ nI 1 = (0 : Int32) by decide), if_neg (show ¬ nI 1 = (0 : Int32) by decide), if_pos (show nI 1 = (1 : Int32) from rfl), if_pos (show nI 1 = (1 : Int32) from rfl), h.x1, h.m28]
    exact ⟨_, rfl, rfl⟩
  · rw [if_neg (show ¬ nI 2 = (0 : Int32) by decide), if_neg (show ¬ nI 2 = (0 : Int32) by decide), if_neg (show ¬ nI 2 = (1 : Int32) by decide), if_neg (show ¬ nI 2 = (1 : Int32) by decide), if_pos (show nI 2 = (2 : Int32) from rfl), if_pos (show nI 2 = (2 : Int32) from rfl), h.x4, h.m29]
    exact ⟨_, rfl, rfl⟩
  · rw [if_neg (show ¬ nI 3 = (0 : Int32) by decide), if_neg (show ¬ nI 3 = (0 : Int32) by decide), if_neg (show ¬ nI 3 = (1 : Int32) by decide), if_neg (show ¬ nI 3 = (1 : Int32) by decide), if_neg (show ¬ nI 3 = (2 : Int32) by decide), if_neg (show ¬ nI 3 = (2 : Int32) by decide), if_pos (show nI 3 = (3 : Int32) from rfl), if_pos (show nI 3 = (3 : Int32) from rfl), h.x5, h.m30]
    exact ⟨_, rfl, rfl⟩
  · rw [if_neg (show ¬ nI 4 = (0 : Int32) by decide), if_neg (show ¬ nI 4 = (0 : Int32) by decide), if_neg (show ¬ nI 4 = (1 : Int32) by decide), if_neg (show ¬ nI 4 = (1 : Int32) by decide), if_neg (show ¬ nI 4 = (2 : Int32) by decide), if_neg (show ¬ nI 4 = (2 : Int32) by decide), if_neg (show ¬ nI 4 = (3 : Int32) by decide), if_neg (show ¬ nI 4 = (3 : Int32) by decide), if_pos (show nI 4 = (4 : Int32) from rfl), if_pos (show nI 4 = (4 : Int32) from rfl), h.x6, h.m32]
    exact ⟨_, rfl, rfl⟩
  · obtain ⟨r, e1, e2⟩ := w_done h
    rw [if_neg (show ¬ nI 5 = (0 : Int32) by decide), if_neg (show ¬ nI 5 = (0 : Int32) by decide), if_neg (show ¬ nI 5 = (1 : Int32) by decide), if_neg (show ¬ nI 5 = (1 : Int32) by decide), if_neg (show ¬ nI 5 = (2 : Int32) by decide), if_neg (show ¬ nI 5 = (2 : Int32) by decide), if_neg (show ¬ nI 5 = (3 : Int32) by decide), if_neg (show ¬ nI 5 = (3 : Int32) by decide), if_neg (show ¬ nI 5 = (4 : Int32) by decide), if_neg (show ¬ nI 5 = (4 : Int32) by decide), if_pos (show nI 5 = (5 : Int32) from rfl), if_pos (show nI 5 = (5 : Int32) from rfl), bo_of wrc, bo_of mrc, bo_of e1, bo_of e2]
    exact ⟨_, rfl, rfl⟩
theorem w_lookP (h : Wk σx σm o A F W S) {m : Nat} (hm : m < 2 ^ 31) (h6 : 6 ≤ m) : ∃ r, f_X10_look 174 (nI m) σx = some r ∧ f_X12_nowOf 0 (nI m) σm = some r := by
  obtain ⟨o0, o1, o2, o3, o4, -, o6, o7, o8⟩ := h.2.2.2.2
  have hW := h.2.1.W6
  unfold f_X10_look f_X10_lookAtOne f_X12_nowOf f_X12_nowOf_222
  have n0 : ∀ d, d < 6 → ¬ nI m = nI d := fun d hd e => absurd ((nI_eq hm (by omega)).mp e) (by omega)
  rw [if_neg (show ¬ nI m = (0 : Int32) from n0 0 (by decide)), if_neg (show ¬ nI m = (1 : Int32) from n0 1 (by decide)), if_neg (show ¬ nI m = (2 : Int32) from n0 2 (by decide)), if_neg (show ¬ nI m = (3 : Int32) from n0 3 (by decide)), if_neg (show ¬ nI m = (4 : Int32) from n0 4 (by decide)), if_neg (show ¬ nI m = (5 : Int32) from n0 5 (by decide)), if_neg (show ¬ nI m = (0 : Int32) from n0 0 (by decide)), if_neg (show ¬ nI m = (1 : Int32) from n0 1 (by decide)), if_neg (show ¬ nI m = (2 : Int32) from n0 2 (by decide)), if_neg (show ¬ nI m = (3 : Int32) from n0 3 (by decide)), if_neg (show ¬ nI m = (4 : Int32) from n0 4 (by decide)), if_neg (show ¬ nI m = (5 : Int32) from n0 5 (by decide))]
  simp only [bo_of wrc, bo_of (h.hasFolk _), bo_of (h.hasWork _), bo_of (h.hasProm _), bo_of (iInB _ _ _ _), bo_of mrc, bo_of (m_isWorkB h.2.1 _), ite_b, xw9 h.1, xw15 h.1, xw18 h.1, xw19 h.1, mw34 h.2.1.1, mw40 h.2.1.1, mw43 h.2.1.1, mw44 h.2.1.1, h.m28, h.m32]
  simp only [i0, i1, i2, i3, i4, i5, i6, i7, i8, i9, i10, i11, i12, i15, i16, i20, i21, i26, i29, i30, i31, i39, i40, i50, i51, i60, i63, i64, i71, i99, i100, i255, i600, i610, i720, i1024, i1042, i1078]
  simp (disch := omega) only [↓pk_rem, pk_div]
  rcases now_split m with q | q | ⟨j, hj, rfl⟩ | ⟨j, hj, rfl⟩ | ⟨j, hj, rfl⟩ | ⟨j, hj, rfl⟩ | q | ⟨j, hj, rfl⟩ | q
  · omega
  · refine ⟨-2, ?_, ?_⟩ <;> simp (disch := omega) only [↓ite_eq_t, ↓ite_eq_f, ↓ite_le_t, ↓ite_le_f, ↓ite_lt_t, ↓ite_lt_f, ↓ite_none, ↓ite_10, ↓ite_00, ↓ite_10n, ↓ci_sub_t, ↓ci_sub_f, ↓ci_in_t, ↓ci_in_f, ↓ite_or_t, ↓ite_or_f, ↓ci_inI_t, ↓ci_inI_f, ↓reduceIte] <;> rfl
  · by_cases c : j < S 11 1
    · refine ⟨nI (S 0 j), ?_, ?_⟩
      · simp (disch := omega) only [↓ite_eq_t, ↓ite_eq_f, ↓ite_le_t, ↓ite_le_f, ↓ite_lt_t, ↓ite_lt_f, ↓ite_none, ↓ite_10, ↓ite_00, ↓ite_10n, ↓ci_sub_t, ↓ci_sub_f, ↓ci_in_t, ↓ci_in_f, ↓ite_or_t, ↓ite_or_f, ↓ci_inI_t, ↓ci_inI_f, ↓reduceIte, pk_sub, Nat.add_sub_cancel_left, h.xa0] <;> rfl
      · rw [show (10 + j) % 10 = j by omega]
        simp (disch := omega) only [↓ite_eq_t, ↓ite_eq_f, ↓ite_le_t, ↓ite_le_f, ↓ite_lt_t, ↓ite_lt_f, ↓ite_none, ↓ite_10, ↓ite_00, ↓ite_10n, ↓ci_sub_t, ↓ci_sub_f, ↓ci_in_t, ↓ci_in_f, ↓ite_or_t, ↓ite_or_f, ↓ci_inI_t, ↓ci_inI_f, ↓reduceIte, h.ma0] <;> rfl
    · refine ⟨-2, ?_, ?_⟩
      · simp (disch := omega) only [↓ite_eq_t, ↓ite_eq_f, ↓ite_le_t, ↓ite_le_f, ↓ite_lt_t, ↓ite_lt_f, ↓ite_none, ↓ite_10, ↓ite_00, ↓ite_10n, ↓ci_sub_t, ↓ci_sub_f, ↓ci_in_t, ↓ci_in_f, ↓ite_or_t, ↓ite_or_f, ↓ci_inI_t, ↓ci_inI_f, ↓reduceIte] <;> rfl
      · rw [show (10 + j) % 10 = j by omega]
        simp (disch := omega) only [↓ite_eq_t, ↓ite_eq_f, ↓ite_le_t, ↓ite_le_f, ↓ite_lt_t, ↓ite_lt_f, ↓ite_none, ↓ite_10, ↓ite_00, ↓ite_10n, ↓ci_sub_t, ↓ci_sub_f, ↓ci_in_t, ↓ci_in_f, ↓ite_or_t, ↓ite_or_f, ↓ci_inI_t, ↓ci_inI_f, ↓reduceIte] <;> rfl
  · by_cases c : j < S 11 1
    · refine ⟨nI (owN S j (S 11 4)), ?_, ?_⟩
      · simp (disch := omega) only [↓ite_eq_t, ↓ite_eq_f, ↓ite_le_t, ↓ite_le_f, ↓ite_lt_t, ↓ite_lt_f, ↓ite_none, ↓ite_10, ↓ite_00, ↓ite_10n, ↓ci_sub_t, ↓ci_sub_f, ↓ci_in_t, ↓ci_in_f, ↓ite_or_t, ↓ite_or_f, ↓ci_inI_t, ↓ci_inI_f, ↓reduceIte, pk_sub, Nat.add_sub_cancel_left]
        rw [bo_of (h.xowed (by omega))]
        rfl
      · rw [show (20 + j) % 10 = j by omega]
        simp (disch := omega) only [↓ite_eq_t, ↓ite_eq_f, ↓ite_le_t, ↓ite_le_f, ↓ite_lt_t, ↓ite_lt_f, ↓ite_none, ↓ite_10, ↓ite_00, ↓ite_10n, ↓ci_sub_t, ↓ci_sub_f, ↓ci_in_t, ↓ci_in_f, ↓ite_or_t, ↓ite_or_f, ↓ci_inI_t, ↓ci_inI_f, ↓reduceIte]
        exact bo_of (h.mowes (by omega))
    · refine ⟨-2, ?_, ?_⟩
      · simp (disch := omega) only [↓ite_eq_t, ↓ite_eq_f, ↓ite_le_t, ↓ite_le_f, ↓ite_lt_t, ↓ite_lt_f, ↓ite_none, ↓ite_10, ↓ite_00, ↓ite_10n, ↓ci_sub_t, ↓ci_sub_f, ↓ci_in_t, ↓ci_in_f, ↓ite_or_t, ↓ite_or_f, ↓ci_inI_t, ↓ci_inI_f, ↓reduceIte] <;> rfl
      · rw [show (20 + j) % 10 = j by omega]
        simp (disch := omega) only [↓ite_eq_t, ↓ite_eq_f, ↓ite_le_t, ↓ite_le_f, ↓ite_lt_t, ↓ite_lt_f, ↓ite_none, ↓ite_10, ↓ite_00, ↓ite_10n, ↓ci_sub_t, ↓ci_sub_f, ↓ci_in_t, ↓ci_in_f, ↓ite_or_t, ↓ite_or_f, ↓ci_inI_t, ↓ci_inI_f, ↓reduceIte] <;> rfl
  · by_cases c : j < W
    · refine ⟨nI (S 6 j), ?_, ?_⟩
      · simp (disch := omega) only [↓ite_eq_t, ↓ite_eq_f, ↓ite_le_t, ↓ite_le_f, ↓ite_lt_t, ↓ite_lt_f, ↓ite_none, ↓ite_10, ↓ite_00, ↓ite_10n, ↓ci_sub_t, ↓ci_sub_f, ↓ci_in_t, ↓ci_in_f, ↓ite_or_t, ↓ite_or_f, ↓ci_inI_t, ↓ci_inI_f, ↓reduceIte, pk_sub, Nat.add_sub_cancel_left, h.xa6] <;> rfl
      · rw [show (30 + j) % 10 = j by omega]
        simp (disch := omega) only [↓ite_eq_t, ↓ite_eq_f, ↓ite_le_t, ↓ite_le_f, ↓ite_lt_t, ↓ite_lt_f, ↓ite_none, ↓ite_10, ↓ite_00, ↓ite_10n, ↓ci_sub_t, ↓ci_sub_f, ↓ci_in_t, ↓ci_in_f, ↓ite_or_t, ↓ite_or_f, ↓ci_inI_t, ↓ci_inI_f, ↓reduceIte, h.ma6] <;> rfl
    · refine ⟨-2, ?_, ?_⟩
      · simp (disch := omega) only [↓ite_eq_t, ↓ite_eq_f, ↓ite_le_t, ↓ite_le_f, ↓ite_lt_t, ↓ite_lt_f, ↓ite_none, ↓ite_10, ↓ite_00, ↓ite_10n, ↓ci_sub_t, ↓ci_sub_f, ↓ci_in_t, ↓ci_in_f, ↓ite_or_t, ↓ite_or_f, ↓ci_inI_t, ↓ci_inI_f, ↓reduceIte] <;> rfl
      · rw [show (30 + j) % 10 = j by omega]
        simp (disch := omega) only [↓ite_eq_t, ↓ite_eq_f, ↓ite_le_t, ↓ite_le_f, ↓ite_lt_t, ↓ite_lt_f, ↓ite_none, ↓ite_10, ↓ite_00, ↓ite_10n, ↓ci_sub_t, ↓ci_sub_f, ↓ci_in_t, ↓ci_in_f, ↓ite_or_t, ↓ite_or_f, ↓ci_inI_t, ↓ci_inI_f, ↓reduceIte] <;> rfl
  · by_cases c : j < S 11 4
    · refine ⟨nI (S 10 j), ?_, ?_⟩
      · simp (disch := omega) only [↓ite_eq_t, ↓ite_eq_f, ↓ite_le_t, ↓ite_le_f, ↓ite_lt_t, ↓ite_lt_f, ↓ite_none, ↓ite_10, ↓ite_00, ↓ite_10n, ↓ci_sub_t, ↓ci_sub_f, ↓ci_in_t, ↓ci_in_f, ↓ite_or_t, ↓ite_or_f, ↓ci_inI_t, ↓ci_inI_f, ↓reduceIte, pk_sub, Nat.add_sub_cancel_left, h.xa10] <;> rfl
      · simp (disch := omega) only [↓ite_eq_t, ↓ite_eq_f, ↓ite_le_t, ↓ite_le_f, ↓ite_lt_t, ↓ite_lt_f, ↓ite_none, ↓ite_10, ↓ite_00, ↓ite_10n, ↓ci_sub_t, ↓ci_sub_f, ↓ci_in_t, ↓ci_in_f, ↓ite_or_t, ↓ite_or_f, ↓ci_inI_t, ↓ci_inI_f, ↓reduceIte, pk_sub, Nat.add_sub_cancel_left, h.ma10] <;> rfl
    · refine ⟨-2, ?_, ?_⟩
      · simp (disch := omega) only [↓ite_eq_t, ↓ite_eq_f, ↓ite_le_t, ↓ite_le_f, ↓ite_lt_t, ↓ite_lt_f, ↓ite_none, ↓ite_10, ↓ite_00, ↓ite_10n, ↓ci_sub_t, ↓ci_sub_f, ↓ci_in_t, ↓ci_in_f, ↓ite_or_t, ↓ite_or_f, ↓ci_inI_t, ↓ci_inI_f, ↓reduceIte] <;> rfl
      · simp (disch := omega) only [↓ite_eq_t, ↓ite_eq_f, ↓ite_le_t, ↓ite_le_f, ↓ite_lt_t, ↓ite_lt_f, ↓ite_none, ↓ite_10, ↓ite_00, ↓ite_10n, ↓ci_sub_t, ↓ci_sub_f, ↓ci_in_t, ↓ci_in_f, ↓ite_or_t, ↓ite_or_f, ↓ci_inI_t, ↓ci_inI_f, ↓reduceIte, pk_sub, Nat.add_sub_cancel_left] <;> rfl
  · refine ⟨-2, ?_, ?_⟩ <;> simp (disch := omega) only [↓ite_eq_t, ↓ite_eq_f, ↓ite_le_t, ↓ite_le_f, ↓ite_lt_t, ↓ite_lt_f, ↓ite_none, ↓ite_10, ↓ite_00, ↓ite_10n, ↓ci_sub_t, ↓ci_sub_f, ↓ci_in_t, ↓ci_in_f, ↓ite_or_t, ↓ite_or_f, ↓ci_inI_t, ↓ci_inI_f, ↓reduceIte] <;> rfl
  · by_cases c : j < S 11 4
    · refine ⟨nI (S 9 j), ?_, ?_⟩
      · simp (disch := omega) only [↓ite_eq_t, ↓ite_eq_f, ↓ite_le_t, ↓ite_le_f, ↓ite_lt_t, ↓ite_lt_f, ↓ite_none, ↓ite_10, ↓ite_00, ↓ite_10n, ↓ci_sub_t, ↓ci_sub_f, ↓ci_in_t, ↓ci_in_f, ↓ite_or_t, ↓ite_or_f, ↓ci_inI_t, ↓ci_inI_f, ↓reduceIte, pk_sub, Nat.add_sub_cancel_left, h.xa9] <;> rfl
      · simp (disch := omega) only [↓ite_eq_t, ↓ite_eq_f, ↓ite_le_t, ↓ite_le_f, ↓ite_lt_t, ↓ite_lt_f, ↓ite_none, ↓ite_10, ↓ite_00, ↓ite_10n, ↓ci_sub_t, ↓ci_sub_f, ↓ci_in_t, ↓ci_in_f, ↓ite_or_t, ↓ite_or_f, ↓ci_inI_t, ↓ci_inI_f, ↓reduceIte, pk_sub, Nat.add_sub_cancel_left, h.ma9] <;> rfl
    · refine ⟨-2, ?_, ?_⟩
      · simp (disch := omega) only [↓ite_eq_t, ↓ite_eq_f, ↓ite_le_t, ↓ite_le_f, ↓ite_lt_t, ↓ite_lt_f, ↓ite_none, ↓ite_10, ↓ite_00, ↓ite_10n, ↓ci_sub_t, ↓ci_sub_f, ↓ci_in_t, ↓ci_in_f, ↓ite_or_t, ↓ite_or_f, ↓ci_inI_t, ↓ci_inI_f, ↓reduceIte] <;> rfl
      · simp (disch := omega) only [↓ite_eq_t, ↓ite_eq_f, ↓ite_le_t, ↓ite_le_f, ↓ite_lt_t, ↓ite_lt_f, ↓ite_none, ↓ite_10, ↓ite_00, ↓ite_10n, ↓ci_sub_t, ↓ci_sub_f, ↓ci_in_t, ↓ci_in_f, ↓ite_or_t, ↓ite_or_f, ↓ci_inI_t, ↓ci_inI_f, ↓reduceIte, pk_sub, Nat.add_sub_cancel_left] <;> rfl
  · refine ⟨-2, ?_, ?_⟩ <;> simp (disch := omega) only [↓ite_eq_t, ↓ite_eq_f, ↓ite_le_t, ↓ite_le_f, ↓ite_lt_t, ↓ite_lt_f, ↓ite_none, ↓ite_10, ↓ite_00, ↓ite_10n, ↓ci_sub_t, ↓ci_sub_f, ↓ci_in_t, ↓ci_in_f, ↓ite_or_t, ↓ite_or_f, ↓ci_inI_t, ↓ci_inI_f, ↓reduceIte] <;> rfl
theorem w_look (h : Wk σx σm o A F W S) (z : Int32) : ∃ r, f_X10_look 174 z σx = some r ∧ f_X12_nowOf 0 z σm = some r := by
  by_cases c0 : z < 0
  · have o1 := h.2.2.2.2.2.1
    have o4 := h.2.2.2.2.2.2.2.2.1
    have hW := h.2.1.W6
    have n0 : ∀ d, d < 6 → ¬ z = nI d := fun d hd => neg_nI c0 d (by omega)
    have q1 : ∀ c n, c ≤ 60 → n ≤ 12 → ∀ (x y : Option Int32), ci (inR (z - nI c) n) x y = y := fun c n h1 h2 x y => ci_f (inR_subneg c0 (by omega))
    have q2 : ∀ c n, 1 ≤ c → c ≤ 60 → ∀ (x y : Option Int32), ci (inI z (nI c) n) x y = y := fun c n h1 h2 x y => ci_f (inI_neg (by
      refine Int32.lt_iff_toInt_lt.mpr ?_
      have := Int32.lt_iff_toInt_lt.mp c0
      rw [show (0 : Int32).toInt = 0 by decide] at this
      rw [nI_toInt (by omega)]
      omega))
    unfold f_X10_look f_X10_lookAtOne f_X12_nowOf f_X12_nowOf_222
    rw [if_neg (show ¬ z = (0 : Int32) from n0 0 (by decide)), if_neg (show ¬ z = (1 : Int32) from n0 1 (by decide)), if_neg (show ¬ z = (2 : Int32) from n0 2 (by decide)), if_neg (show ¬ z = (3 : Int32) from n0 3 (by decide)), if_neg (show ¬ z = (4 : Int32) from n0 4 (by decide)), if_neg (show ¬ z = (5 : Int32) from n0 5 (by decide)), if_neg (show ¬ z = (0 : Int32) from n0 0 (by decide)), if_neg (show ¬ z = (1 : Int32) from n0 1 (by decide)), if_neg (show ¬ z = (2 : Int32) from n0 2 (by decide)), if_neg (show ¬ z = (3 : Int32) from n0 3 (by decide)), if_neg (show ¬ z = (4 : Int32) from n0 4 (by decide)), if_neg (show ¬ z = (5 : Int32) from n0 5 (by decide))]
    simp only [bo_of wrc, bo_of (h.hasFolk _), bo_of (h.hasWork _), bo_of (h.hasProm _), bo_of (iInB _ _ _ _), ite_b]
    simp only [i10, i20, i30, i40, i60]
    rw [q1 10 _ (by decide) (by omega), q1 20 _ (by decide) (by omega), q1 30 _ (by decide) (by omega), q1 40 _ (by decide) (by omega), q1 60 _ (by decide) (by omega), q2 40 _ (by decide) (by decide), q2 60 _ (by decide) (by decide), q2 30 _ (by decide) (by decide), q2 10 _ (by decide) (by decide)]
    exact ⟨-2, rfl, rfl⟩
  · obtain ⟨m, hm, rfl⟩ := nI_of c0
    by_cases c : m < 6
    · exact w_look6 h c
    · exact w_lookP h hm (by omega)
end W71
/-! ===== stop, state, after, drawn ===== -/
theorem LWn.deed {L : Nat → Int32} {n k : Nat} (h : LWn L n) (hk : k < n) : ∃ d, L (1 + 4 * k) = nI d ∧ DeedW d (L (2 + 4 * k)) (L (3 + 4 * k)) (L (4 + 4 * k)) := by
  obtain ⟨d, e, d4, q1, -, q3, q4, -, q6, -⟩ := h.2.2 k hk
  refine ⟨d, e, d4, q1, q3, q4, fun z => ?_⟩
  obtain ⟨x, hx, -, h9⟩ := q6 z
  exact ⟨x, hx, h9⟩
theorem m_told {σm σm' : Dt} {ol n i : Nat} {L : Nat → Int32} {r : Int32} (h : MLf σm ol L n) (hn : n ≤ 40) (hi : i < n) (e : f_X12_does 0 (L (1 + 4 * i)) (L (2 + 4 * i)) (L (3 + 4 * i)) (L (4 + 4 * i)) σm = some (r, σm')) (hr : r = 0 ∨ r = 1) : f_X12_doesTold 0 (nI i) σm = some (r, σm') := by
  have ho := h.2.2.1
  unfold f_X12_doesTold
  have e0 : nI ol + 1 + 4 * nI i = nI (ol + (1 + 4 * i)) := by
    show nI ol + nI 1 + nI 4 * nI i = _
    rw [pk_mul, nI_add, nI_add, Nat.add_assoc]
  rw [mgi, bo_s, h.2.1, e0, bo_of (m_r h.1 (by decide) (show rM 0 0 = some 1 from rfl)), bo_of (h.at _ (1 + 4 * i) (by omega) rfl), bo_of (m_r h.1 (by decide) (show rM 0 0 = some 1 from rfl)), show nI (ol + (1 + 4 * i)) + 1 = nI (ol + (1 + 4 * i) + 1) from nI_1 _, bo_of (h.at _ (2 + 4 * i) (by omega) (by omega)), bo_of (m_r h.1 (by decide) (show rM 0 0 = some 1 from rfl)), show nI (ol + (1 + 4 * i)) + 2 = nI (ol + (1 + 4 * i) + 2) from nI_add _ 2, bo_of (h.at _ (3 + 4 * i) (by omega) (by omega)), bo_of (m_r h.1 (by decide) (show rM 0 0 = some 1 from rfl)), show nI (ol + (1 + 4 * i)) + 3 = nI (ol + (1 + 4 * i) + 3) from nI_add _ 3, bo_of (h.at _ (4 + 4 * i) (by omega) (by omega)), bo_of mrc, bd_of e, if_pos hr]
section W72
variable {σx σm : Dt} {o F W : Nat} {A : Nat → Int32} {S : Nat → Nat → Nat} {l ol n : Nat} {L : Nat → Int32}
theorem w_step (h : Wk σx σm o A F W S) (hC : CLf σx l L n) (hL : MLf σm ol L n) {i : Nat} (hi : i < n) : ∃ r σx' σm' S', f_X10_tryDeed 174 (L (1 + 4 * i)) (L (2 + 4 * i)) (L (3 + 4 * i)) (L (4 + 4 * i)) σx = some (r, σx') ∧ f_X12_doesTold 0 (nI i) σm = some (r, σm') ∧ Wk σx' σm' o A F W S' ∧ KW σx σx' σm σm' := by
  obtain ⟨d, e, hd⟩ := hC.2.2.2.deed hi
  obtain ⟨r, σx', σm', S', q1, q2, q3, q4, q5⟩ := w_deed h hd
  rw [← e] at q1 q2
  exact ⟨r, σx', σm', S', q1, m_told hL hC.n40 hi q2 q3, q4, q5⟩
theorem MLf.l0 (h : MLf σm ol L n) : xgi SM 12 26 (some 0) σm = some (nI ol) := by rw [mgi, h.2.1]
theorem MLf.len (h : MLf σm ol L n) : xai SM (some 1) (nI ol) σm = some (nI n) := by
  rw [h.at ol 0 (by decide) rfl, h.2.2.2.2.1]
/-- the class's step of a life -/
theorem x_lstep {N i : Nat} (hC : CLf σx l L n) (hi : i < N) (hN : N ≤ n) {r : Int32} {σx' : Dt} (e : f_X10_tryDeed 174 (L (1 + 4 * i)) (L (2 + 4 * i)) (L (3 + 4 * i)) (L (4 + 4 * i)) σx = some (r, σx')) (h : Wk σx' σm o A F W S) : f_X10_live_L14 174 (some l) (nI N) (nI i) σx = if r = 0 then some (.inr (.inl (nI i, σx'))) else some (.inl (nI (i + 1), if σx'.1 174 7 = -1 ∧ ¬ S 11 5 = 0 then setX σx' 174 7 (nI i) else σx')) := by
  have h40 := hC.n40
  have o4 := h.2.2.2.2.2.2.2.2.1
  have hk5 := ft_kept h.2.2.2.2
  have h5 : S 11 5 ≤ 12 := by rw [← hk5]; exact Nat.le_trans (cnt_le _ _) o4
  have hmf : f_X10_manyOfFate 174 (1 : Int32) σx' = some (nI (S 11 5)) := by rw [w_fate h, hk5]
  unfold f_X10_live_L14 f_X10_live_96
  rw [ite_le_f (by omega) hi, lgi hC.1, bo_s, hC.dn, ite_le_f (by omega) (by omega), if_neg (show ¬ (40 : Int32) ≤ nI i from nI_ge (b := 40) (by omega) (by decide)), lgr1 hC, bo_s, lai1 hC (by omega), bo_s, lgr2 hC, bo_s, lai2 hC (by omega), bo_s, lgr3 hC, bo_s, lai3 hC (by omega), bo_s, lgr4 hC, bo_s, lai4 hC (by omega), bo_s, bo_of wrc, bd_of e]
  by_cases c : r = 0
  · rw [if_pos c, if_pos c]
  · rw [if_neg c, if_neg c, bo_of (xgi_of (by decide) (by decide)), bo_of wrc, bo_of hmf, wpi, nI_1]
    by_cases c2 : σx'.1 174 7 = -1
    · rw [if_pos c2]
      by_cases c3 : S 11 5 = 0
      · rw [if_pos (show nI (S 11 5) ≤ 0 by rw [c3]; decide), if_neg (fun z => z.2 c3)]
      · rw [if_neg (show ¬ nI (S 11 5) ≤ 0 from nI_nle (by omega) (by omega)), if_pos ⟨c2, c3⟩]
    · rw [if_neg c2, if_neg (fun z => c2 z.1)]
theorem w_live (h : Wk σx σm o A F W S) (hC : CLf σx l L n) (hL : MLf σm ol L n) (h31 : σm.1 0 31 = 0) {N M : Nat} (hN : N ≤ n) (hM : M < 2 ^ 31) (hMN : N ≤ M) (hE : M = N ∨ n = N) : ∃ x σm', iter FU (fun s => f_X10_live_L14 174 (some l) (nI N) s.1 s.2) ((0 : Int32), σx) = some x ∧ iter FU (fun s => f_X12_runs_L4 0 (nI M) s) σm = some σm' ∧ ∃ k σx', k ≤ N ∧ (x = .inl (nI k, σx') ∨ (x = .inr σx' ∧ k = N)) ∧ σm'.1 0 31 = nI k ∧ KB σx σx' σm σm' ∧ ∃ S', Wk σx' σm' o A F W S' := by
  have h40 := hC.n40
  refine iter_two (f := fun s : Int32 × Dt => f_X10_live_L14 174 (some l) (nI N) s.1 s.2) (g := fun s : Dt => f_X12_runs_L4 0 (nI M) s) (P := fun i s t => s.1 = nI i ∧ t.1 0 31 = nI i ∧ KB σx s.2 σm t ∧ ∃ S', Wk s.2 t o A F W S') (Q := fun x σm' => ∃ k σx', k ≤ N ∧ (x = .inl (nI k, σx') ∨ (x = .inr σx' ∧ k = N)) ∧ σm'.1 0 31 = nI k ∧ KB σx σx' σm σm' ∧ ∃ S', Wk σx' σm' o A F W S') N (by omega) ⟨rfl, h31, KB_0 _ _, S, h⟩ (fun i s t hi hP => ?_)
  obtain ⟨x, τx⟩ := s
  obtain ⟨e1, e2, e3, S', hk⟩ := hP
  dsimp only at e1 e2 e3 hk ⊢
  subst e1
  have hC2 := e3.kx.clf hC
  have hL2 := e3.km.mlf hL
  rcases (show i = N ∨ i < N by omega) with e | e
  · subst e
    left
    refine ⟨.inr τx, t, ?_, ?_, i, τx, Nat.le_refl _, Or.inr ⟨rfl, rfl⟩, e2, e3, S', hk⟩
    · unfold f_X10_live_L14
      rw [if_pos (nI_le (Nat.le_refl _) (by omega))]
    · unfold f_X12_runs_L4
      have g31 : xgi SM 12 31 (some 0) t = some (nI i) := by rw [mgi, e2]
      rw [bo_of g31]
      by_cases c : M ≤ i
      · rw [if_pos (nI_le c (by omega))]
      · rw [ite_le_f hM (by omega), bo_of g31, bo_of (m_r hL2.1 (by decide) (show rM 0 0 = some 1 from rfl)), bo_of hL2.l0, bo_of hL2.len, if_pos (nI_le (by omega) (by omega))]
  · obtain ⟨r, ρx, ρm, S2, q1, q2, q3, q4⟩ := w_step hk hC2 hL2 (i := i) (by omega)
    have hx := x_lstep hC2 e hN q1 q3
    have h31' : ρm.1 0 31 = nI i := (q4.2.2.2.2.2 31 (by omega)).trans e2
    have hm : f_X12_runs_L4 0 (nI M) t = if r = 0 then some (.inr ρm) else some (.inl (setX ρm 0 31 (nI (i + 1)))) := by
      have g31 : xgi SM 12 31 (some 0) t = some (nI i) := by rw [mgi, e2]
      have h31b : xgi SM 12 31 (some 0) ρm = some (nI i) := by rw [mgi, h31']
      unfold f_X12_runs_L4
      rw [bo_of g31, ite_le_f hM (by omega), bo_of g31, bo_of (m_r hL2.1 (by decide) (show rM 0 0 = some 1 from rfl)), bo_of hL2.l0, bo_of hL2.len, ite_le_f (by omega) (by omega), bo_of g31, bo_of mrc, bd_of q2]
      by_cases c : r = 0
      · rw [if_pos c, if_pos c]
      · rw [if_neg c, if_neg c, bo_of h31b, mpiB, nI_1]
    rw [hx, hm]
    by_cases c : r = 0
    · left
      rw [if_pos c, if_pos c]
      exact ⟨_, _, rfl, rfl, i, ρx, by omega, Or.inl rfl, h31', e3.tr q4.kb, S2, q3⟩
    · right
      rw [if_neg c, if_neg c]
      refine ⟨e, _, _, rfl, rfl, rfl, setX_j, ?_, S2, ?_⟩
      · by_cases c2 : ρx.1 174 7 = -1 ∧ ¬ S2 11 5 = 0
        · dsimp only
          rw [if_pos c2]
          exact ((e3.tr q4.kb).x7).m31
        · dsimp only
          rw [if_neg c2]
          exact (e3.tr q4.kb).m31
      · by_cases c2 : ρx.1 174 7 = -1 ∧ ¬ S2 11 5 = 0
        · dsimp only
          rw [if_pos c2]
          exact (q3.sx (by decide)).sm (Or.inl rfl)
        · dsimp only
          rw [if_neg c2]
          exact q3.sm (Or.inl rfl)
theorem w_aft (h : Wk σx σm o A F W S) (hC : CLf σx l L n) (hL : MLf σm ol L n) (h7 : σx.1 174 7 = -1) (z : Int32) : ∃ x y, iter FU (fun s => f_X10_live_L14 174 (some l) (nI n) s.1 s.2) ((0 : Int32), σx) = some x ∧ iter FU (fun s => f_X12_after_L29 0 z s.1 s.2.1 s.2.2) ((-1 : Int32), (0 : Int32), σm) = some y ∧ ∃ k σx', k ≤ n ∧ (x = .inl (nI k, σx') ∨ (x = .inr σx' ∧ k = n)) ∧ σx'.1 174 7 = y.1 ∧ KB σx σx' σm y.2 ∧ ∃ S', Wk σx' y.2 o A F W S' := by
  have h40 := hC.n40
  refine iter_two (f := fun s : Int32 × Dt => f_X10_live_L14 174 (some l) (nI n) s.1 s.2) (g := fun s : Int32 × Int32 × Dt => f_X12_after_L29 0 z s.1 s.2.1 s.2.2) (P := fun i s t => s.1 = nI i ∧ t.2.1 = nI i ∧ s.2.1 174 7 = t.1 ∧ KB σx s.2 σm t.2.2 ∧ ∃ S', Wk s.2 t.2.2 o A F W S') (Q := fun x y => ∃ k σx', k ≤ n ∧ (x = .inl (nI k, σx') ∨ (x = .inr σx' ∧ k = n)) ∧ σx'.1 174 7 = y.1 ∧ KB σx σx' σm y.2 ∧ ∃ S', Wk σx' y.2 o A F W S') n (by omega) ⟨rfl, rfl, h7, KB_0 _ _, S, h⟩ (fun i s t hi hP => ?_)
  obtain ⟨x, τx⟩ := s
  obtain ⟨y1, y2, τm⟩ := t
  obtain ⟨e1, e2, e7, e3, S', hk⟩ := hP
  dsimp only at e1 e2 e3 e7 hk ⊢
  subst e1
  subst e2
  subst e7
  have hC2 := e3.kx.clf hC
  have hL2 := e3.km.mlf hL
  rcases (show i = n ∨ i < n by omega) with e | e
  · subst e
    left
    refine ⟨.inr τx, (τx.1 174 7, τm), ?_, ?_, i, τx, Nat.le_refl _, Or.inr ⟨rfl, rfl⟩, rfl, e3, S', hk⟩
    · unfold f_X10_live_L14
      rw [if_pos (nI_le (Nat.le_refl _) (by omega))]
    · unfold f_X12_after_L29
      rw [bo_of (m_r hL2.1 (by decide) (show rM 0 0 = some 1 from rfl)), bo_of hL2.l0, bo_of hL2.len, if_pos (nI_le (by omega) (by omega))]
  · obtain ⟨r, ρx, ρm, S2, q1, q2, q3, q4⟩ := w_step hk hC2 hL2 (i := i) (by omega)
    have hx := x_lstep hC2 e (Nat.le_refl _) q1 q3
    have h7' : ρx.1 174 7 = τx.1 174 7 := q4.2.2.1 7 (by decide)
    have o4 := q3.2.2.2.2.2.2.2.2.1
    have hk5 := ft_kept q3.2.2.2.2
    have h5 : S2 11 5 ≤ 12 := by rw [← hk5]; exact Nat.le_trans (cnt_le _ _) o4
    have hm : f_X12_after_L29 0 z (τx.1 174 7) (nI i) τm = if r = 0 then some (.inr (τx.1 174 7, ρm)) else some (.inl (if ρx.1 174 7 = -1 ∧ ¬ S2 11 5 = 0 then nI i else τx.1 174 7, nI (i + 1), ρm)) := by
      unfold f_X12_after_L29 f_X12_after_69
      rw [bo_of (m_r hL2.1 (by decide) (show rM 0 0 = some 1 from rfl)), bo_of hL2.l0, bo_of hL2.len, ite_le_f (by omega) (by omega), bo_of mrc, bd_of q2]
      by_cases c : r = 0
      · rw [if_pos c, if_pos c]
      · rw [if_neg c, if_neg c, q3.m33, nI_1, h7']
        by_cases c2 : τx.1 174 7 = -1
        · rw [if_pos c2]
          by_cases c3 : S2 11 5 = 0
          · rw [if_pos (show nI (S2 11 5) ≤ 0 by rw [c3]; decide), if_neg (fun z => z.2 c3)]
          · rw [if_neg (show ¬ nI (S2 11 5) ≤ 0 from nI_nle (by omega) (by omega)), if_pos ⟨c2, c3⟩]
        · rw [if_neg c2, if_neg (fun z => c2 z.1)]
    rw [hx, hm]
    by_cases c : r = 0
    · left
      rw [if_pos c, if_pos c]
      exact ⟨_, _, rfl, rfl, i, ρx, by omega, Or.inl rfl, h7', e3.tr q4.kb, S2, q3⟩
    · right
      rw [if_neg c, if_neg c]
      refine ⟨e, _, _, rfl, rfl, rfl, rfl, ?_, ?_, S2, ?_⟩
      · by_cases c2 : ρx.1 174 7 = -1 ∧ ¬ S2 11 5 = 0
        · dsimp only
          rw [if_pos c2, if_pos c2, setX_j]
        · dsimp only
          rw [if_neg c2, if_neg c2]
          exact h7'
      · by_cases c2 : ρx.1 174 7 = -1 ∧ ¬ S2 11 5 = 0
        · dsimp only
          rw [if_pos c2]
          exact (e3.tr q4.kb).x7
        · dsimp only
          rw [if_neg c2]
          exact e3.tr q4.kb
      · by_cases c2 : ρx.1 174 7 = -1 ∧ ¬ S2 11 5 = 0
        · dsimp only
          rw [if_pos c2]
          exact q3.sx (by decide)
        · dsimp only
          rw [if_neg c2]
          exact q3
theorem x_live {v : Nat} {τx : Dt} {N : Nat} (hC : CLf σx l L n) (hN : N ≤ n) (eb : f_X10_begin 174 (some v) σx = some ((), τx)) (hK : KX σx τx) {x : (Int32 × Dt) ⊕ Dt} (e : iter FU (fun s => f_X10_live_L14 174 (some l) (nI N) s.1 s.2) ((0 : Int32), τx) = some x) {k : Nat} {σx' : Dt} (hx : x = .inl (nI k, σx') ∨ (x = .inr σx' ∧ k = N)) (hK2 : KX τx σx') : f_X10_live 174 (some v) (some l) (nI N) σx = some (nI k, σx') := by
  have h40 := hC.n40
  unfold f_X10_live f_X10_live_102
  rw [bo_of wrc, bd_of eb, if_neg (by simp), bo_of e]
  rcases hx with rfl | ⟨rfl, rfl⟩
  · rfl
  · show (bo (xgi SX 4 0 (some l) σx') fun v1 => some (mmax (0 : Int32) (mmin (nI k) v1), σx')) = _
    have hC2 := (hK.tr hK2).clf hC
    rw [lgi hC.1, bo_s, hC2.dn, mm_in hN (by omega)]
end W72
theorem x_walk {σ : Dt} (hR : RefX σ) : xgr SX 11 4 (some 0) σ = some (some 174) := x_00 hR 4 (by decide)
theorem KB.inv {a b c d : Dt} (h : KB a b c d) (hI : Inv a c) : Inv b d := h.km.inv (h.kx.inv hI)
theorem Inv.mx {σx σm : Dt} (hI : Inv σx σm) : RefX σx := hI.1
theorem ok_stop : LK_stop Inv := by
  intro σx σm z1 z2 hI
  unfold f_X11_stop f_X12_stop
  simp only [x_now hI.1, bo_s, x_rc1, mrc]
  rcases ask_V hI z1 with ⟨k, A, F, W, hk, hz, hC, e1, e2, hM, hI2⟩ | ⟨e1, e2⟩
  · rcases ask_L hI2 z2 with ⟨k2, L, n, hk2, hz2, hC2, e3, e4, hM2, hI3⟩ | ⟨e3, e4⟩
    · simp only [e1, e3, bo_s, e2, e4, bd_s, ite_none, ite_10, x_walk hI.1, lgi hC2.1, hC2.dn]
      have hMV := MV_setF hM (show 26 < 11 ∨ 13 < 26 by omega) (v := nI (720 + 161 * k2))
      obtain ⟨τx, τm, b1, b2, b3, b4, b5, b6⟩ := w_begin hC hMV
      obtain ⟨x, σm', c1, c2, k3, σx', c3, c4, c5, c6, S', c7⟩ := w_live b3 (b6.kx.clf hC2) (b6.km.mlf hM2) b5 (Nat.le_refl n) (M := 40) (by decide) hC2.n40 (Or.inr rfl)
      have hl := x_live hC2 (Nat.le_refl n) b1 b6.kx c1 c4 c6.kx
      refine ⟨nI k3, σx', σm', ?_, ?_, (b6.tr c6).inv hI3⟩
      · rw [bo_of wrc, bd_of hl]
      · unfold f_X12_runs
        rw [bo_of mrc, bd_of b2, bo_of (show iter FU (fun s => f_X12_runs_L4 0 40 s) τm = _ from c2), bd_s, mgi, bo_s, c5]
    · simp only [e1, e3, bo_s, e2, e4, bd_s, ite_none, ite_10]
      exact ⟨-1, _, _, rfl, rfl, hI2⟩
  · simp only [e1, bo_s, e2, bd_s]
    rcases ask_L hI z2 with ⟨k2, L, n, hk2, hz2, hC2, e3, e4, hM2, hI3⟩ | ⟨e3, e4⟩
    · simp only [e3, bo_s]
      exact ⟨-1, _, _, rfl, rfl, hI⟩
    · simp only [e3, bo_s]
      exact ⟨-1, _, _, rfl, rfl, hI⟩
theorem ok_state : LK_state Inv := by
  intro σx σm z1 z2 z3 z4 hI
  unfold f_X11_state f_X12_state
  simp only [x_now hI.1, bo_s, x_rc1, mrc]
  rcases ask_V hI z1 with ⟨k, A, F, W, hk, hz, hC, e1, e2, hM, hI2⟩ | ⟨e1, e2⟩
  · rcases ask_L hI2 z2 with ⟨k2, L, n, hk2, hz2, hC2, e3, e4, hM2, hI3⟩ | ⟨e3, e4⟩
    · simp only [e1, e3, bo_s, e2, e4, bd_s, ite_none, ite_10, x_walk hI.1, lgi hC2.1, hC2.dn]
      have h40 := hC2.n40
      by_cases c0 : z3 < 0
      · rw [if_pos c0, if_neg (Int32.not_le.mpr c0)]
        exact ⟨-2, _, _, rfl, rfl, hI3⟩
      · obtain ⟨N, hN, rfl⟩ := nI_of c0
        rw [if_neg c0, if_pos (Int32.not_lt.mp c0)]
        have hMV := MV_setF hM (show 26 < 11 ∨ 13 < 26 by omega) (v := nI (720 + 161 * k2))
        obtain ⟨τx, τm, b1, b2, b3, b4, b5, b6⟩ := w_begin hC hMV
        by_cases cN : N ≤ n
        · obtain ⟨x, σm', c1, c2, k3, σx', c3, c4, c5, c6, S', c7⟩ := w_live b3 (b6.kx.clf hC2) (b6.km.mlf hM2) b5 cN (M := N) hN (Nat.le_refl _) (Or.inl rfl)
          have hl := x_live hC2 cN b1 b6.kx c1 c4 c6.kx
          have hr : f_X12_runs 0 (nI N) (setF (setV σm (610 + 55 * k) F W) 26 (nI (720 + 161 * k2))) = some ((), σm') := by
            unfold f_X12_runs
            rw [bo_of mrc, bd_of b2, bo_of c2]
          rw [ite_le_t (by omega) cN, bo_of wrc, bd_of hl, bd_of hr, mgi, bo_s, c5]
          by_cases ck : k3 = N
          · subst ck
            obtain ⟨r, l1, l2⟩ := w_look c7 z4
            rw [ite_le_t (by omega) (Nat.le_refl _), bo_of (x_walk ((b6.tr c6).kx.ref hI.1)), bo_of wrc, bo_of l1, if_pos rfl, bo_of l2]
            exact ⟨r, _, _, rfl, rfl, (b6.tr c6).inv hI3⟩
          · rw [ite_le_f (by omega) (by omega), if_neg (fun z => ck ((nI_eq (by omega) (by omega)).mp z))]
            exact ⟨-2, _, _, rfl, rfl, (b6.tr c6).inv hI3⟩
        · obtain ⟨x, σm', c1, c2, k3, σx', c3, c4, c5, c6, S', c7⟩ := w_live b3 (b6.kx.clf hC2) (b6.km.mlf hM2) b5 (Nat.le_refl n) (M := N) hN (by omega) (Or.inr rfl)
          have hr : f_X12_runs 0 (nI N) (setF (setV σm (610 + 55 * k) F W) 26 (nI (720 + 161 * k2))) = some ((), σm') := by
            unfold f_X12_runs
            rw [bo_of mrc, bd_of b2, bo_of c2]
          rw [ite_le_f (by omega) (by omega), bd_of hr, mgi, bo_s, c5, if_neg (fun z => by have := (nI_eq (by omega) hN).mp z; omega)]
          exact ⟨-2, _, _, rfl, rfl, (b6.tr c6).km.inv hI3⟩
    · simp only [e1, e3, bo_s, e2, e4, bd_s, ite_none, ite_10]
      exact ⟨-2, _, _, rfl, rfl, hI2⟩
  · simp only [e1, bo_s, e2, bd_s]
    rcases ask_L hI z2 with ⟨k2, L, n, hk2, hz2, hC2, e3, e4, hM2, hI3⟩ | ⟨e3, e4⟩
    · simp only [e3, bo_s]
      exact ⟨-2, _, _, rfl, rfl, hI⟩
    · simp only [e3, bo_s]
      exact ⟨-2, _, _, rfl, rfl, hI⟩
theorem w_back {σx σm : Dt} {o F W : Nat} {A : Nat → Int32} {S : Nat → Nat → Nat} (h : Wk σx σm o A F W S) (z : Int32) : ∃ r, f_X10_lookBack 174 z σx = some r ∧ f_X12_after_75 0 z (σx.1 174 7) σm = some (r, σm) := by
  unfold f_X10_lookBack f_X10_lookBack_52 f_X12_after_75
  rw [bo_of (w_fate2 h z _)]
  by_cases c0 : z = 0
  · rw [if_pos c0, if_pos c0, bo_of (xgi_of (by decide) (by decide))]
    exact ⟨_, rfl, rfl⟩
  · rw [if_neg c0, if_neg c0]
    by_cases c1 : z = 1
    · rw [if_pos c1, if_pos c1, bo_of wrc, bo_of mrc, bo_of (w_hand h), bo_of (w_dug h)]
      exact ⟨_, rfl, rfl⟩
    · rw [if_neg c1, if_neg c1]
      by_cases c2 : z = 2
      · rw [if_pos c2, if_pos c2, bo_of wrc, bo_of mrc, bo_of (w_talker h), bo_of (w_said h)]
        exact ⟨_, rfl, rfl⟩
      · rw [if_neg c2, if_neg c2, bo_of (iIn _ _ _ _)]
        by_cases c3 : z < 10
        · rw [if_pos c3, if_pos (Or.inl c3), if_pos rfl]
          exact ⟨-2, rfl, rfl⟩
        · rw [if_neg c3]
          by_cases c4 : (14 : Int32) < z
          · rw [if_pos c4, if_pos (Or.inr c4), if_pos rfl]
            exact ⟨-2, rfl, rfl⟩
          · rw [if_neg c4, if_neg (show ¬ (z < 10 ∨ (14 : Int32) < z) from fun q => q.elim c3 c4), if_neg (by decide), bo_of wrc, bo_of (w_fate h _)]
            exact ⟨_, rfl, rfl⟩
theorem ok_after : LK_after Inv := by
  intro σx σm z1 z2 z3 hI
  unfold f_X11_after f_X12_after
  simp only [x_now hI.1, bo_s, x_rc1, mrc]
  rcases ask_V hI z1 with ⟨k, A, F, W, hk, hz, hC, e1, e2, hM, hI2⟩ | ⟨e1, e2⟩
  · rcases ask_L hI2 z2 with ⟨k2, L, n, hk2, hz2, hC2, e3, e4, hM2, hI3⟩ | ⟨e3, e4⟩
    · simp only [e1, e3, bo_s, e2, e4, bd_s, ite_none, ite_10, x_walk hI.1, lgi hC2.1, hC2.dn]
      have hMV := MV_setF hM (show 26 < 11 ∨ 13 < 26 by omega) (v := nI (720 + 161 * k2))
      obtain ⟨τx, τm, b1, b2, b3, b4, b5, b6⟩ := w_begin hC hMV
      obtain ⟨x, y, c1, c2, k3, σx', c3, c4, c5, c6, S', c7⟩ := w_aft b3 (b6.kx.clf hC2) (b6.km.mlf hM2) b4 z3
      have hl := x_live hC2 (Nat.le_refl n) b1 b6.kx c1 c4 c6.kx
      obtain ⟨r, l1, l2⟩ := w_back c7 z3
      refine ⟨r, σx', y.2, ?_, ?_, (b6.tr c6).inv hI3⟩
      · rw [bo_of wrc, bd_of hl, bo_of (x_walk ((b6.tr c6).kx.ref hI.1)), bo_of wrc, bo_of l1]
      · rw [bd_of b2, bo_of c2, ← c5]
        exact l2
    · simp only [e1, e3, bo_s, e2, e4, bd_s, ite_none, ite_10]
      exact ⟨-2, _, _, rfl, rfl, hI2⟩
  · simp only [e1, bo_s, e2, bd_s]
    rcases ask_L hI z2 with ⟨k2, L, n, hk2, hz2, hC2, e3, e4, hM2, hI3⟩ | ⟨e3, e4⟩
    · simp only [e3, bo_s]
      exact ⟨-2, _, _, rfl, rfl, hI⟩
    · simp only [e3, bo_s]
      exact ⟨-2, _, _, rfl, rfl, hI⟩
/-! ===== drawn ===== -/
theorem ush16 (v : Int32) : ∃ u, u < 65536 ∧ (Int32.toUInt32 v >>> (Int32.toUInt32 (16 : Int32) &&& Int32.toUInt32 31)).toInt32 = nI u := by
  have h := pk_ushr v 16 16 (by decide)
  have hv : v.toBitVec.toNat < 2 ^ 32 := v.toBitVec.isLt
  refine ⟨v.toBitVec.toNat / 2 ^ 16, by omega, ?_⟩
  apply Int32.toBitVec_inj.mp
  apply BitVec.eq_of_toNat_eq
  rw [h, pk_tn (by omega)]
section W73
variable {σx σm : Dt} {o F W : Nat} {A : Nat → Int32} {S : Nat → Nat → Nat}
theorem w_draw (hs : σx.1 174 8 = σm.1 0 47) {b : Nat} (hb : 0 < b) (hb2 : b < 2 ^ 31) : ∃ j v, j < b ∧ f_X10_draw 174 (nI b) σx = some (nI j, setX σx 174 8 v) ∧ f_X12_below 0 (nI b) σm = some (nI j, setX σm 0 47 v) := by
  obtain ⟨u, hu, e⟩ := ush16 (σm.1 0 47 * (1103515245 : Int32) + (12345 : Int32))
  refine ⟨u % b, σm.1 0 47 * (1103515245 : Int32) + (12345 : Int32), Nat.mod_lt _ hb, ?_, ?_⟩
  · unfold f_X10_draw
    rw [bo_of (xgi_of (by decide) (by decide)), hs, wpi, if_neg (show ¬ nI b ≤ 0 from nI_nle hb hb2), wgiE, if_neg (nI_ne0 hb hb2), e, pk_rem (by omega) hb hb2]
  · unfold f_X12_below
    rw [mgi, bo_s, mpiB, mgiE, if_neg (nI_ne0 hb hb2), e, pk_rem (by omega) hb hb2]
def Dr (σx σm : Dt) (o : Nat) (A : Nat → Int32) (F W : Nat) (τx τm : Dt) : Prop := τx.1 174 8 = τm.1 0 47 ∧ KX σx τx ∧ KM σm τm ∧ ∃ S', Wk τx τm o A F W S'
theorem Dr.dr {τx τm : Dt} (h : Dr σx σm o A F W τx τm) {v : Int32} : Dr σx σm o A F W (setX τx 174 8 v) (setX τm 0 47 v) := by
  obtain ⟨h1, h2, h3, S', h4⟩ := h
  exact ⟨by rw [setX_j, setX_j], h2.tr (KX_set (by decide)), h3.tr (KM_f (by decide)), S', (h4.sx (by decide)).sm (Or.inr ⟨by decide, by decide⟩)⟩
theorem Dr.kw {τx τm ρx ρm : Dt} {S' : Nat → Nat → Nat} (h : Dr σx σm o A F W τx τm) (hk : KW τx ρx τm ρm) (hw : Wk ρx ρm o A F W S') : Dr σx σm o A F W ρx ρm := by
  obtain ⟨h1, h2, h3, -⟩ := h
  refine ⟨?_, h2.tr hk.kx, h3.tr hk.km, S', hw⟩
  rw [hk.2.2.1 8 (by decide), hk.2.2.2.2.2 47 (by omega)]
  exact h1
theorem w_drawn {τx τm : Dt} (h : Dr σx σm o A F W τx τm) : ∃ ρx ρm, f_X10_drawDeed 174 τx = some ((), ρx) ∧ f_X12_draws 0 τm = some ((), ρm) ∧ Dr σx σm o A F W ρx ρm := by
  obtain ⟨d, v1, hd, x1, m1⟩ := w_draw h.1 (b := 8) (by decide) (by decide)
  have h1 := h.dr (v := v1)
  obtain ⟨s1, -, -, S1, hk⟩ := id h1
  have o1 := hk.2.2.2.2.2.1
  have hW := hk.2.1.W6
  unfold f_X10_drawDeed f_X12_draws
  rw [bo_of wrc, bd_of (show f_X10_draw 174 8 τx = _ from x1), bo_of mrc, bd_of (show f_X12_below 0 8 τm = _ from m1)]
  by_cases c5 : d < 5
  · rw [if_pos (show nI d < (5 : Int32) from nI_lt (b := 5) c5 (by decide)), if_pos (show nI d ≤ (4 : Int32) from nI_le (b := 4) (by omega) (by decide)), hk.x1, hk.m28, hk.x2, bo_of (mworks hk.2.1)]
    by_cases c0 : S1 11 1 = 0
    · rw [ite_z_t c0, ite_z_t c0]
      exact ⟨_, _, rfl, rfl, h1⟩
    · rw [ite_z_f (by omega) c0, ite_z_f (by omega) c0]
      obtain ⟨f, v2, hf, x2, m2⟩ := w_draw s1 (b := S1 11 1) (by omega) (by omega)
      have h2 := h1.dr (v := v2)
      obtain ⟨s2, -, -, S2, hk2⟩ := id h2
      by_cases c1 : d ≤ 1
      · rw [if_neg (show ¬ (1 : Int32) < nI d from nI_nlt (a := 1) (by omega) (by decide)), if_neg (show ¬ (2 : Int32) ≤ nI d from nI_ge (b := 2) (by omega) (by decide))]
        by_cases cw : W = 0
        · rw [ite_z_t cw, ite_z_t cw]
          exact ⟨_, _, rfl, rfl, h1⟩
        · rw [ite_z_f (by omega) cw, ite_z_f (by omega) cw]
          obtain ⟨w, v3, hw, x3, m3⟩ := w_draw s2 (b := W) (by omega) (by omega)
          have h3 := h2.dr (v := v3)
          obtain ⟨s3, -, -, S3, hk3⟩ := id h3
          obtain ⟨y, v4, hy, x4, m4⟩ := w_draw s3 (b := 9) (by decide) (by decide)
          have h4 := h3.dr (v := v4)
          obtain ⟨s4, -, -, S4, hk4⟩ := id h4
          obtain ⟨ρx, ρm, S5, e1, e2, e3, e4⟩ := w_promise hk4 (f := f) (w := w) (y := 1 + y) (by omega) (by omega) (by omega)
          have ey : (1 : Int32) + nI y = nI (1 + y) := nI_add 1 y
          refine ⟨ρx, ρm, ?_, ?_, h4.kw e4 e3⟩
          · unfold f_X10_drawDeed_42
            rw [hk.x1, bo_of wrc, bd_of x2, if_neg (show ¬ (1 : Int32) < nI d from nI_nlt (a := 1) (by omega) (by decide)), hk2.x2, bo_of wrc, bd_of x3, bo_of wrc, bd_of (show f_X10_draw 174 9 _ = _ from x4), bo_of wrc, ey, bd_of (x_try0 e1 (bI_01 _))]
          · unfold f_X12_draws_38 f_X12_draws_80
            rw [hk.m28, bo_of mrc, bd_of m2]
            rcases (show d = 0 ∨ d = 1 by omega) with rfl | rfl
            · rw [if_pos (show nI 0 = (0 : Int32) from rfl), bo_of (mworks hk2.2.1), bo_of mrc, bd_of m3, bo_of mrc, bd_of (show f_X12_below 0 9 _ = _ from m4), bo_of mrc, ey, bd_of e2]
            · rw [if_neg (show ¬ nI 1 = (0 : Int32) by decide), if_pos (show nI 1 = (1 : Int32) from rfl), bo_of (mworks hk2.2.1), bo_of mrc, bd_of m3, bo_of mrc, bd_of (show f_X12_below 0 9 _ = _ from m4), bo_of mrc, ey, bd_of e2]
      · rw [if_pos (show (1 : Int32) < nI d from nI_lt (a := 1) (by omega) (by omega)), if_pos (show (2 : Int32) ≤ nI d from nI_le (a := 2) (by omega) (by omega))]
        unfold f_X10_drawDeed_42 f_X12_draws_38
        rw [hk.x1, bo_of wrc, bd_of x2, if_pos (show (1 : Int32) < nI d from nI_lt (a := 1) (by omega) (by omega)), hk.m28, bo_of mrc, bd_of m2]
        rcases (show d = 2 ∨ d = 3 ∨ d = 4 by omega) with rfl | rfl | rfl
        · obtain ⟨r, ρx, ρm, S5, e1, e2, e0, e3, e4⟩ := w_cover hk2 (f := f) (by omega)
          rw [if_pos (show nI 2 = (2 : Int32) from rfl), if_neg (show ¬ nI 2 = (0 : Int32) by decide), if_neg (show ¬ nI 2 = (1 : Int32) by decide), if_pos (show nI 2 = (2 : Int32) from rfl), bo_of wrc, bd_of (x_try2 e1 e0), bo_of mrc, bd_of e2]
          exact ⟨ρx, ρm, rfl, rfl, h2.kw e4 e3⟩
        · obtain ⟨r, ρx, ρm, S5, e1, e2, e0, e3, e4⟩ := w_die hk2 (f := f) (by omega)
          rw [if_neg (show ¬ nI 3 = (2 : Int32) by decide), if_pos (show nI 3 = (3 : Int32) from rfl), if_neg (show ¬ nI 3 = (0 : Int32) by decide), if_neg (show ¬ nI 3 = (1 : Int32) by decide), if_neg (show ¬ nI 3 = (2 : Int32) by decide), if_pos (show nI 3 = (3 : Int32) from rfl), bo_of wrc, bd_of (x_try3 e1 e0), bo_of mrc, bd_of e2]
          exact ⟨ρx, ρm, rfl, rfl, h2.kw e4 e3⟩
        · obtain ⟨y, v3, hy, x3, m3⟩ := w_draw s2 (b := 10) (by decide) (by decide)
          have h3 := h2.dr (v := v3)
          obtain ⟨s3, -, -, S3, hk3⟩ := id h3
          obtain ⟨r, ρx, ρm, S5, e1, e2, e0, e3, e4⟩ := w_born hk3 (p := f) (s := y) (by omega) (by omega)
          rw [if_neg (show ¬ nI 4 = (2 : Int32) by decide), if_neg (show ¬ nI 4 = (3 : Int32) by decide), if_neg (show ¬ nI 4 = (0 : Int32) by decide), if_neg (show ¬ nI 4 = (1 : Int32) by decide), if_neg (show ¬ nI 4 = (2 : Int32) by decide), if_neg (show ¬ nI 4 = (3 : Int32) by decide), bo_of wrc, bd_of (show f_X10_draw 174 10 _ = _ from x3), bo_of wrc, bd_of (x_try1 e1 e0), bo_of mrc, bd_of (show f_X12_below 0 10 _ = _ from m3), bo_of mrc, bd_of e2]
          exact ⟨ρx, ρm, rfl, rfl, h3.kw e4 e3⟩
  · rw [if_neg (show ¬ nI d < (5 : Int32) from nI_nlt (b := 5) (by omega) (by omega)), if_neg (show ¬ nI d ≤ (4 : Int32) from nI_ge (a := 4) (by omega) (by omega))]
    obtain ⟨r, ρx, ρm, S5, e1, e2, e0, e3, e4⟩ := w_year hk
    rw [bo_of wrc, bd_of (x_try4 e1 e0), bo_of mrc, bd_of e2]
    exact ⟨ρx, ρm, rfl, rfl, h1.kw e4 e3⟩
end W73
theorem ok_drawn : LK_drawn Inv := by
  intro σx σm z1 z2 z3 z4 hI
  unfold f_X11_drawn f_X12_drawn
  simp only [x_now hI.1, bo_s, x_rc1, mrc]
  rcases ask_V hI z1 with ⟨k, A, F, W, hk, hz, hC, e1, e2, hM, hI2⟩ | ⟨e1, e2⟩
  · simp only [e1, bo_s, e2, bd_s, ite_none, ite_10]
    rw [bo_of (iIn _ _ _ _)]
    by_cases c0 : z3 < 0
    · rw [if_pos c0, if_pos (Or.inl c0), if_pos rfl]
      exact ⟨-2, _, _, rfl, rfl, hI2⟩
    · obtain ⟨N, hN, rfl⟩ := nI_of c0
      rw [if_neg c0]
      by_cases c1 : N ≤ 60
      · rw [if_pos (show nI N ≤ (60 : Int32) from nI_le (b := 60) c1 (by decide)), if_neg (show ¬ (nI N < 0 ∨ (60 : Int32) < nI N) from fun q => q.elim c0 (nI_nlt (a := 60) c1 (by decide))), if_neg (by decide), mpiB]
        have hM2 : MV (setX (setV σm (610 + 55 * k) F W) 0 47 z2) (610 + 55 * k) A F W := (KM_f (by decide)).mv hM
        obtain ⟨τx, τm, b1, b2, b3, b4, b5, b6⟩ := w_begin hC hM2
        have hD : Dr σx (setV σm (610 + 55 * k) F W) (610 + 55 * k) A F W (setX τx 174 8 z2) τm := ⟨by rw [setX_j, b6.2.2.2.2.2 47 (by omega), setX_j], b6.kx.tr (KX_set (by decide)), (KM_f (by decide)).tr b6.km, _, b3.sx (by decide)⟩
        have key := iter_two (f := fun s : Int32 × Dt => f_X10_liveBySeed_L13 174 (nI N) s.1 s.2) (g := fun s : Int32 × Dt => f_X12_drawn_L33 0 (nI N) z4 s.1 s.2) (s0 := ((0 : Int32), setX τx 174 8 z2)) (t0 := ((0 : Int32), τm)) (P := fun i s t => s.1 = nI i ∧ t.1 = nI i ∧ Dr σx (setV σm (610 + 55 * k) F W) (610 + 55 * k) A F W s.2 t.2) (Q := fun x y => Dr σx (setV σm (610 + 55 * k) F W) (610 + 55 * k) A F W x y) N (by omega) ⟨rfl, rfl, hD⟩ (fun i s t hi hP => ?_)
        · obtain ⟨ρx, ρm, c2, c3, c4⟩ := key
          obtain ⟨-, d2, d3, S', d4⟩ := c4
          obtain ⟨r, l1, l2⟩ := w_look d4 z4
          have hl : f_X10_liveBySeed 174 (some (6 + 16 * k)) z2 (nI N) σx = some ((), ρx) := by
            unfold f_X10_liveBySeed
            rw [bo_of wrc, bd_of b1, wpi, bo_of c2]
          refine ⟨r, ρx, ρm, ?_, ?_, d3.inv (d2.inv hI2)⟩
          · rw [bo_of (x_walk hI.1), bo_of wrc, bd_of hl, bo_of (x_walk (d2.ref hI.1)), bo_of wrc, bo_of l1]
          · rw [bd_of b2, bo_of c3, bo_of l2]
        · obtain ⟨x, ax⟩ := s
          obtain ⟨y, am⟩ := t
          obtain ⟨p1, p2, p3⟩ := hP
          dsimp only at p1 p2 p3 ⊢
          subst p1
          subst p2
          unfold f_X10_liveBySeed_L13 f_X12_drawn_L33
          rcases (show i = N ∨ i < N by omega) with e | e
          · left
            rw [if_pos (nI_le (by omega) (by omega)), if_pos (nI_le (by omega) (by omega))]
            exact ⟨_, _, rfl, rfl, p3⟩
          · right
            obtain ⟨bx, bm, q1, q2, q3⟩ := w_drawn p3
            rw [ite_le_f (by omega) e, ite_le_f (by omega) e, if_neg (show ¬ (60 : Int32) ≤ nI i from nI_ge (b := 60) (by omega) (by decide)), bo_of wrc, bd_of q1, bo_of mrc, bd_of q2, nI_1]
            exact ⟨e, _, _, rfl, rfl, rfl, rfl, q3⟩
      · rw [if_neg (show ¬ nI N ≤ (60 : Int32) from nI_ge (a := 60) (by omega) hN), if_pos (show nI N < 0 ∨ (60 : Int32) < nI N from Or.inr (nI_lt (a := 60) (by omega) hN)), if_pos rfl]
        exact ⟨-2, _, _, rfl, rfl, hI2⟩
  · simp only [e1, bo_s, e2, bd_s]
    exact ⟨-2, _, _, rfl, rfl, hI⟩
/-! ===== fractions in least terms ===== -/
theorem lcmp0 {a : Nat} (h : a < 2 ^ 63) : (lg_cmp (lN a) (0 : Int64) = 0) = (a = 0) := by
  have e0 : (0 : Int64) = lN 0 := rfl
  unfold lg_cmp
  rw [e0]
  by_cases c : a = 0
  · subst c
    rw [if_neg (show ¬ lN 0 > lN 0 from fun q => absurd ((pk_lLT (by decide) (by decide)).mp q) (by decide)), if_pos rfl]
    simp
  · rw [if_pos (show lN a > lN 0 from (pk_lLT (by decide) h).mpr (by omega))]
    simp [c]
theorem lN_0 {a : Nat} (h : a < 2 ^ 63) : (lN a = (0 : Int64)) = (a = 0) := propext (pk_lEQ (b := 0) h (by decide))
theorem half_rem {y r : Nat} (hr : 0 < r) (hy : r < y) : 2 * (y % r) < y := by
  have h1 := Nat.mod_lt y hr
  have h2 := Nat.div_add_mod y r
  have h3 : 1 ≤ y / r := (Nat.le_div_iff_mul_le hr).mpr (by omega)
  have h4 : r * 1 ≤ r * (y / r) := Nat.mul_le_mul_left r h3
  omega
theorem m_gcdL {σ : Dt} {x y : Nat} (hx : x < 2 ^ 63) (hy : y < 2 ^ 63) : f_X12_common_L6 (lN x) (lN y) σ = if y = 0 then some (.inr (lN x)) else some (.inl (lN y, lN (x % y))) := by
  unfold f_X12_common_L6
  simp only [lcmp0 hy, lN_0 hy]
  by_cases c : y = 0
  · rw [if_pos c, if_pos c]
  · rw [if_neg c, if_neg c, if_neg c, pk_lRem hx (by omega) hy]
theorem m_gcd {σ : Dt} : ∀ (k f x y : Nat), 2 * k < f → k ≤ 62 → y < 2 ^ k → x < 2 ^ 62 → iter f (fun s => f_X12_common_L6 s.1 s.2 σ) (lN x, lN y) = some (lN (Nat.gcd x y))
  | k, 0, x, y, hf, _, _, _ => absurd hf (Nat.not_lt_zero _)
  | 0, f + 1, x, y, hf, hk, hy, hx => by
    have : y = 0 := by omega
    subst this
    unfold iter
    dsimp only
    rw [m_gcdL (by omega) (by decide), if_pos rfl, Nat.gcd_zero_right]
  | k + 1, f + 1, x, y, hf, hk, hy, hx => by
    have hp : 2 ^ (k + 1) ≤ 2 ^ 62 := Nat.pow_le_pow_right (by decide) hk
    have hpk : 2 ^ (k + 1) = 2 * 2 ^ k := by rw [Nat.pow_succ, Nat.mul_comm]
    unfold iter
    dsimp only
    rw [m_gcdL (by omega) (by omega)]
    by_cases c : y = 0
    · subst c
      rw [if_pos rfl, Nat.gcd_zero_right]
    · rw [if_neg c]
      have hr := Nat.mod_lt x (show 0 < y by omega)
      have hg : Nat.gcd x y = Nat.gcd y (x % y) := by rw [Nat.gcd_comm x y, Nat.gcd_rec y x, Nat.gcd_comm]
      dsimp only
      rw [hg]
      generalize x % y = r at *
      rcases f with _ | f
      · omega
      · unfold iter
        dsimp only
        rw [m_gcdL (by omega) (by omega)]
        by_cases c2 : r = 0
        · subst c2
          rw [if_pos rfl, Nat.gcd_zero_right]
        · rw [if_neg c2]
          have hh := half_rem (show 0 < r by omega) hr
          have hg2 : Nat.gcd y r = Nat.gcd r (y % r) := by rw [Nat.gcd_comm y r, Nat.gcd_rec r y, Nat.gcd_comm]
          dsimp only
          rw [hg2]
          exact m_gcd k f r (y % r) (by omega) (by omega) (by omega) (by omega)
theorem x_gcdL {σ : Dt} {x y i : Nat} {p q : Int64} (hx : x < 2 ^ 63) (hy : y < 2 ^ 63) (hi : i < 200) : f_X0_reduce_L9 218 p q (lN x) (lN y) (nI i) σ = if y = 0 then some (.inr (lN x)) else some (.inl (lN y, lN (x % y), nI (i + 1))) := by
  unfold f_X0_reduce_L9
  simp only [lcmp0 hy, lN_0 hy]
  rw [if_neg (show ¬ (200 : Int32) ≤ nI i from nI_ge (b := 200) hi (by decide))]
  by_cases c : y = 0
  · rw [if_pos c, if_pos c]
  · rw [if_neg c, if_neg c, if_neg c, pk_lRem hx (by omega) hy, nI_1]
theorem x_gcd {σ : Dt} {p q : Int64} : ∀ (k f i x y : Nat), 2 * k < f → i + 2 * k < 200 → k ≤ 62 → y < 2 ^ k → x < 2 ^ 62 → iter f (fun s => f_X0_reduce_L9 218 p q s.1 s.2.1 s.2.2 σ) (lN x, lN y, nI i) = some (lN (Nat.gcd x y))
  | k, 0, i, x, y, hf, _, _, _, _ => absurd hf (Nat.not_lt_zero _)
  | 0, f + 1, i, x, y, hf, hi, hk, hy, hx => by
    have : y = 0 := by omega
    subst this
    unfold iter
    dsimp only
    rw [x_gcdL (by omega) (by decide) (by omega), if_pos rfl, Nat.gcd_zero_right]
  | k + 1, f + 1, i, x, y, hf, hi, hk, hy, hx => by
    have hp : 2 ^ (k + 1) ≤ 2 ^ 62 := Nat.pow_le_pow_right (by decide) hk
    have hpk : 2 ^ (k + 1) = 2 * 2 ^ k := by rw [Nat.pow_succ, Nat.mul_comm]
    unfold iter
    dsimp only
    rw [x_gcdL (by omega) (by omega) (by omega)]
    by_cases c : y = 0
    · subst c
      rw [if_pos rfl, Nat.gcd_zero_right]
    · rw [if_neg c]
      have hr := Nat.mod_lt x (show 0 < y by omega)
      have hg : Nat.gcd x y = Nat.gcd y (x % y) := by rw [Nat.gcd_comm x y, Nat.gcd_rec y x, Nat.gcd_comm]
      dsimp only
      rw [hg]
      generalize x % y = r at *
      rcases f with _ | f
      · omega
      · unfold iter
        dsimp only
        rw [x_gcdL (by omega) (by omega) (by omega)]
        by_cases c2 : r = 0
        · subst c2
          rw [if_pos rfl, Nat.gcd_zero_right]
        · rw [if_neg c2]
          have hh := half_rem (show 0 < r by omega) hr
          have hg2 : Nat.gcd y r = Nat.gcd r (y % r) := by rw [Nat.gcd_comm y r, Nat.gcd_rec r y, Nat.gcd_comm]
          dsimp only
          rw [hg2]
          exact x_gcd k f (i + 2) r (y % r) (by omega) (by omega) (by omega) (by omega) (by omega)
/-- a long put into a field of the class -/
def setL (σ : Dt) (a j : Nat) (v : Int64) : Dt := (σ.1, up2 σ.2.1 a j v, σ.2.2)
theorem setL_1 {σ : Dt} {a j : Nat} {v : Int64} : (setL σ a j v).1 = σ.1 := rfl
theorem setL_2 {σ : Dt} {a j : Nat} {v : Int64} : (setL σ a j v).2.2 = σ.2.2 := rfl
theorem setL_j {σ : Dt} {a j : Nat} {v : Int64} : (setL σ a j v).2.1 a j = v := up2_eq
theorem setL_n {σ : Dt} {a j k : Nat} {v : Int64} (h : k ≠ j) : (setL σ a j v).2.1 a k = σ.2.1 a k := up2_j h
theorem KX_L {σ : Dt} {a j : Nat} {v : Int64} : KX σ (setL σ a j v) := ⟨fun _ _ => rfl, rfl⟩
theorem KM_L {σ : Dt} {a j : Nat} {v : Int64} : KM σ (setL σ a j v) := ⟨rfl, rfl, rfl, fun _ _ => rfl⟩
theorem x_reduce {σ : Dt} {a b : Nat} (ha : a < 2 ^ 62) (hb0 : 0 < b) (hb : b < 2 ^ 62) : f_X0_reduce 218 (lN a) (lN b) σ = some ((), setL (setL σ 218 0 (lN (a / Nat.gcd a b))) 218 1 (lN (b / Nat.gcd a b))) := by
  have hg := Nat.gcd_pos_of_pos_right a hb0
  have hgb : Nat.gcd a b ≤ b := Nat.le_of_dvd hb0 (Nat.gcd_dvd_right a b)
  unfold f_X0_reduce
  rw [bo_of (show iter FU (fun s => f_X0_reduce_L9 218 (lN a) (lN b) s.1 s.2.1 s.2.2 σ) (lN a, lN b, (0 : Int32)) = _ from x_gcd 62 FU 0 a b (by decide) (by decide) (by decide) hb ha)]
  unfold f_X0_reduce_45 f_X0_reduce_61
  simp only [lcmp0 (show Nat.gcd a b < 2 ^ 63 by omega), lN_0 (show Nat.gcd a b < 2 ^ 63 by omega)]
  rw [if_neg (by omega), if_neg (by omega), pk_lDiv (by omega) hg (by omega), bo_of (xpl_of (by decide) (by decide)), if_neg (by omega), if_neg (by omega), pk_lDiv (by omega) hg (by omega), bo_of (xpl_of (by decide) (by decide))]
  rfl
theorem x_part {σ : Dt} {x y : Int64} (u : Int32) : f_X0_part 218 u (setL (setL σ 218 0 x) 218 1 y) = some (if u = 0 then x else y) := by
  unfold f_X0_part
  by_cases c : u = 0
  · rw [if_pos c, if_pos c, bo_of (xgl_of (by decide) (by decide)), setL_n (by decide), setL_j]
  · rw [if_neg c, if_neg c, bo_of (xgl_of (by decide) (by decide)), setL_j]
theorem m_parted {σ : Dt} {a b : Nat} (ha : a < 2 ^ 62) (hb0 : 0 < b) (hb : b < 2 ^ 62) (u : Int32) : f_X12_parted (lN a) (lN b) u σ = some (if u = 0 then lN (a / Nat.gcd a b) else lN (b / Nat.gcd a b)) := by
  have hg := Nat.gcd_pos_of_pos_right a hb0
  have hgb : Nat.gcd a b ≤ b := Nat.le_of_dvd hb0 (Nat.gcd_dvd_right a b)
  have hc : f_X12_common (lN a) (lN b) σ = some (lN (Nat.gcd a b)) := by
    unfold f_X12_common
    rw [bo_of (m_gcd 62 FU a b (by decide) (by decide) hb ha)]
  unfold f_X12_parted f_X12_parted_10
  simp only [bo_of hc, lN_0 (show Nat.gcd a b < 2 ^ 63 by omega)]
  by_cases c : u = 0
  · rw [if_pos c, if_pos c, if_neg (by omega), pk_lDiv (by omega) hg (by omega)]
  · rw [if_neg c, if_neg c, if_neg (by omega), pk_lDiv (by omega) hg (by omega)]
theorem x_chance {σ : Dt} (hR : RefX σ) : xgr SX 11 9 (some 0) σ = some (some 218) := x_00 hR 9 (by decide)
theorem x_rcc : xrc SX 0 (some 218) = some 218 := xrc_of (by decide) (by decide)
