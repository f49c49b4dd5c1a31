/-! ===== rows of rows of longs: the machine's own step ===== -/
/-- the outer row with i of its rows laid -/
def mwC (h0 N : Nat) (cA : ClassId) (i : Nat) : Cell := arrV cA N (fun j => if j < i then .ref (h0 + 1 + j) else .null)
def mwI (cB : ClassId) (K : Nat) : Cell := arrV cB K (fun _ => .long 0)
/-- the state with the outer row and i inner ones -/
def mwS (V : State) (cA cB : ClassId) (N K : Nat) : Nat → State
  | 0 => V.pushCell (mwC V.heap.size N cA 0)
  | i + 1 => ((mwS V cA cB N K i).pushCell (mwI cB K)).setCell V.heap.size (mwC V.heap.size N cA (i + 1))
theorem mwC_s (h0 N : Nat) (cA : ClassId) (i : Nat) : (mwC h0 N cA i).setSlot i (.ref (h0 + 1 + i)) = mwC h0 N cA (i + 1) := by
  unfold mwC
  rw [arrV_store]
  refine congrArg (arrV cA N) (funext fun j => ?_)
  unfold updV
  by_cases h : j = i
  · subst h
    simp
  · by_cases h2 : j < i
    · rw [if_neg h, if_pos (show j < i + 1 by omega)]
      exact if_pos h2
    · rw [if_neg h, if_neg (show ¬ j < i + 1 by omega)]
      exact if_neg h2
section MWS
variable {V : State} {cA cB : ClassId} {N K : Nat}
theorem mw_f : ∀ i, (mwS V cA cB N K i).heap.size = V.heap.size + 1 + i ∧ (mwS V cA cB N K i).heap[V.heap.size]? = some (mwC V.heap.size N cA i) ∧ (mwS V cA cB N K i).vm = V.vm
  | 0 => ⟨by simp [mwS], by simp [mwS], rfl⟩
  | i + 1 => by
    obtain ⟨a, b, c⟩ := mw_f i
    have hlt : V.heap.size < (mwS V cA cB N K i).heap.size := by omega
    have hb : ((mwS V cA cB N K i).pushCell (mwI cB K)).heap[V.heap.size]? = some (mwC V.heap.size N cA i) := by rw [State.heap_pushCell_of_lt (h := hlt)]; exact b
    refine ⟨?_, State.heap_setCell_self hb, by simp [mwS, c]⟩
    simp [mwS, State.setCell, a]
    omega
theorem mw_old {a : Nat} (ha : a < V.heap.size) : ∀ i, (mwS V cA cB N K i).heap[a]? = V.heap[a]?
  | 0 => State.heap_pushCell_of_lt _ _ ha
  | i + 1 => by
    have h1 := (mw_f (V := V) (cA := cA) (cB := cB) (N := N) (K := K) i).1
    show (((mwS V cA cB N K i).pushCell (mwI cB K)).setCell V.heap.size _).heap[a]? = _
    have h2 : a < (mwS V cA cB N K i).heap.size := by omega
    rw [State.heap_setCell_other (Nat.ne_of_gt ha), State.heap_pushCell_of_lt (h := h2)]
    exact mw_old ha i
theorem mw_in : ∀ i j, j < i → (mwS V cA cB N K i).heap[V.heap.size + 1 + j]? = some (mwI cB K)
  | 0, j, h => absurd h (Nat.not_lt_zero j)
  | i + 1, j, h => by
    have h1 := (mw_f (V := V) (cA := cA) (cB := cB) (N := N) (K := K) i).1
    show (((mwS V cA cB N K i).pushCell (mwI cB K)).setCell V.heap.size _).heap[V.heap.size + 1 + j]? = _
    rw [State.heap_setCell_other (show V.heap.size ≠ V.heap.size + 1 + j by omega)]
    rcases (show j = i ∨ j < i by omega) with e | e
    · rw [e, ← h1]
      exact State.heap_pushCell_size _ _
    · have h2 : V.heap.size + 1 + j < (mwS V cA cB N K i).heap.size := by omega
      rw [State.heap_pushCell_of_lt (h := h2)]
      exact mw_in i j e
theorem mw_top (f : JFrame) : ∀ i, mwS (V.setTop f) cA cB N K i = (mwS V cA cB N K i).setTop f
  | 0 => by
    show (V.setTop f).pushCell (mwC (V.setTop f).heap.size N cA 0) = _
    rw [State.heap_setTop, State.pushCell_setTop]
    rfl
  | i + 1 => by
    show ((mwS (V.setTop f) cA cB N K i).pushCell (mwI cB K)).setCell (V.setTop f).heap.size (mwC (V.setTop f).heap.size N cA (i + 1)) = _
    rw [mw_top f i, State.heap_setTop, State.pushCell_setTop, State.setCell_setTop]
    rfl
end MWS
section MWX
variable {p : Program} {l : Launch} {e : Env} {R : Room} {s : State} {m : MethodId} {args : Array Value} {below : List Frame} {meth : Method} {c : Code} {V : State} {locs : List Loc} {cells slots : Nat} {cA cB : ClassId} {N K : Nat}
theorem mw_X (X : Stand p l e R s m args below meth c V locs cells slots) : ∀ i, ∃ Ls, (∀ q ∈ Ls, q.base = V.heap.size) ∧ Stand p l e R s m args below meth c (mwS V cA cB N K i) (locs ++ Ls) (cells + 1 + i) (slots + N + i * K)
  | 0 => by
    have h := X.pushed (mwC V.heap.size N cA 0)
    rw [show (mwC V.heap.size N cA 0).slots.size = N from arrV_size _ _ _] at h
    refine ⟨[], fun q hq => absurd hq List.not_mem_nil, ?_⟩
    rw [List.append_nil, Nat.zero_mul]
    exact h
  | i + 1 => by
    obtain ⟨Ls, q1, q2⟩ := mw_X X i
    have h1 := mw_f (V := V) (cA := cA) (cB := cB) (N := N) (K := K) i
    have hlt : V.heap.size < (mwS V cA cB N K i).heap.size := by omega
    have hb : ((mwS V cA cB N K i).pushCell (mwI cB K)).heap[V.heap.size]? = some (mwC V.heap.size N cA i) := by rw [State.heap_pushCell_of_lt (h := hlt)]; exact h1.2.1
    have h := (q2.pushed (mwI cB K)).stored hb i (.ref (V.heap.size + 1 + i))
    rw [mwC_s, show (mwI cB K).slots.size = K from arrV_size _ _ _, List.append_assoc] at h
    refine ⟨Ls ++ [⟨V.heap.size, i⟩], fun q hq => ?_, ?_⟩
    · rcases List.mem_append.mp hq with z | z
      · exact q1 q z
      · rw [List.mem_singleton.mp z]
    · rw [show slots + N + (i + 1) * K = slots + N + i * K + K by rw [Nat.succ_mul]; omega]
      exact h
end MWX
section MWW
variable {E : CtlPost} {e : Env} {d : Bool} {acts : List Action} {s : State}
theorem mw_new {cI comp : ClassId} {kI : Class} {ty : FieldType} {len : Nat} {v : Value} {Q : Addr → Pre} (hk : s.vm.classes[cI]? = some kI) (hkd : kI.kind = .array comp ty) (hl : ¬ len > e.platform.arrayLengthLimit) (hh : ¬ len * componentBytes ty > e.platform.maxHeapBytes) (hf : fits ty v = true) (h1 : s.heap.size < e.platform.maxCells) (h2 : s.slotsUsed + len ≤ e.platform.maxSlots) (hq : ∀ acts', Q s.heap.size d acts' (s.pushCell (arrV cI len (fun _ => v)))) : wp (Jvm.newArray cI len v) Q E e d acts s := by
  have hfit : ∀ i w, (Array.replicate len v)[i]? = some w → s.fitsSlot cI .none i w = true := by
    intro i w hw
    rw [Array.getElem?_replicate] at hw
    by_cases z : i < len
    · rw [if_pos z] at hw
      rw [← Option.some.inj hw]
      simp [State.fitsSlot, State.slotType?, hk, hkd, hf]
    · rw [if_neg z] at hw
      cases hw
  simp only [Jvm.newArray, Jvm.arrayFits, wp_bind', W.ask, W.ite, wp_pure', W.theClass, W.alloc, W.stop, hl, hk, hkd, hh, if_false, Option.some.injEq, exists_eq_left', Array.size_replicate]
  rw [if_neg (by omega)]
  refine ⟨h1, h2, hfit, ?_⟩
  rw [arrV_new]
  exact hq _
theorem mw_make1 {cB cc : ClassId} {kB : Class} {k2 : Int32} {Q : Addr → Pre} (kB1 : s.vm.classes[cB]? = some kB) (kB2 : kB.kind = .array cc .long) (hk : ¬ k2 < 0) (l2 : ¬ k2.toNatClampNeg > e.platform.arrayLengthLimit) (b2 : ¬ k2.toNatClampNeg * 8 > e.platform.maxHeapBytes) (h1 : s.heap.size < e.platform.maxCells) (h2 : s.slotsUsed + k2.toNatClampNeg ≤ e.platform.maxSlots) (hq : ∀ acts', Q s.heap.size d acts' (s.pushCell (mwI cB k2.toNatClampNeg))) : wp (multianewarray.make cB [k2]) Q E e d acts s := by
  rw [multianewarray.make]
  simp only [wp_bind', W.ite, hk, if_false, wp_pure', W.theClass, kB1, kB2, Option.some.injEq, exists_eq_left']
  exact mw_new (kI := kB) (comp := cc) (ty := .long) kB1 kB2 l2 b2 rfl h1 h2 hq
theorem mw_make {V : State} {gF : JFrame} {cA cB cc : ClassId} {kA kB : Class} {n k2 : Int32} {Q : Addr → Pre} (kA1 : V.vm.classes[cA]? = some kA) (kA2 : kA.kind = .array cB (.array .long)) (kB1 : V.vm.classes[cB]? = some kB) (kB2 : kB.kind = .array cc .long) (hn : ¬ n < 0) (hk : ¬ k2 < 0) (l1 : ¬ n.toNatClampNeg > e.platform.arrayLengthLimit) (b1 : ¬ n.toNatClampNeg * 4 > e.platform.maxHeapBytes) (l2 : ¬ k2.toNatClampNeg > e.platform.arrayLengthLimit) (b2 : ¬ k2.toNatClampNeg * 8 > e.platform.maxHeapBytes) (hr : ∀ i, i < n.toNatClampNeg → (mwS V cA cB n.toNatClampNeg k2.toNatClampNeg i).heap.size < e.platform.maxCells ∧ (mwS V cA cB n.toNatClampNeg k2.toNatClampNeg i).slotsUsed + k2.toNatClampNeg ≤ e.platform.maxSlots) (h1 : V.heap.size < e.platform.maxCells) (h2 : V.slotsUsed + n.toNatClampNeg ≤ e.platform.maxSlots) (hq : ∀ d' acts', Q V.heap.size d' acts' ((mwS V cA cB n.toNatClampNeg k2.toNatClampNeg n.toNatClampNeg).setTop gF)) : wp (multianewarray.make cA [n, k2]) Q E e d acts (V.setTop gF) := by
  generalize hNN : n.toNatClampNeg = N at *
  rw [multianewarray.make]
  simp only [wp_bind', W.ite, hn, if_false, wp_pure', W.theClass, State.vm_setTop, kA1, kA2, Option.some.injEq, exists_eq_left']
  rw [hNN]
  refine mw_new (kI := kA) (comp := cB) (ty := .array .long) kA1 kA2 l1 b1 rfl h1 h2 (fun acts' => ?_)
  have hf : ([k2].find? (· < 0)) = none := by simp [hk]
  simp only [hf]
  rw [ite_self, wp_bind', Std.Legacy.Range.forIn_eq_forIn_range']
  rw [show ([:N] : Std.Legacy.Range).size = N from by simp [Std.Legacy.Range.size]]
  show wp (forIn (List.range' 0 N 1) PUnit.unit _) _ E e d acts' _
  refine wp_forIn_inv (fun rest s' => ∃ i, i ≤ N ∧ rest = List.range' i (N - i) ∧ s' = (mwS V cA cB N k2.toNatClampNeg i).setTop gF) _ _ ⟨0, Nat.zero_le _, rfl, ?_⟩ ?_ ?_
  · rw [State.pushCell_setTop, show arrV cA N (fun _ => Value.null) = mwC V.heap.size N cA 0 from congrArg (arrV cA N) (funext fun j => (if_neg (Nat.not_lt_zero j)).symm)]
    rfl
  · rintro x rest s' d' acts2 Q' ⟨i, hi, hl, rfl⟩ hnext
    have hlt : i < N := by
      rcases Nat.lt_or_ge i N with z | z
      · exact z
      · rw [show N - i = 0 by omega] at hl
        cases hl
    rw [show N - i = (N - (i + 1)) + 1 by omega, List.range'_succ] at hl
    obtain ⟨rfl, hrest⟩ : x = i ∧ rest = List.range' (i + 1) (N - (i + 1)) := ⟨(List.cons.inj hl).1, (List.cons.inj hl).2⟩
    obtain ⟨f1, f2, f3⟩ := mw_f (V := V) (cA := cA) (cB := cB) (N := N) (K := k2.toNatClampNeg) x
    have hv : ((mwS V cA cB N k2.toNatClampNeg x).setTop gF).vm = V.vm := f3
    have hlt0 : V.heap.size < (mwS V cA cB N k2.toNatClampNeg x).heap.size := by omega
    simp only [wp_bind']
    refine mw_make1 (s := (mwS V cA cB N k2.toNatClampNeg x).setTop gF) (by rw [hv]; exact kB1) kB2 hk l2 b2 (hr x hlt).1 (hr x hlt).2 (fun acts3 => ?_)
    simp only [wp_bind', W.writeLoc, wp_pure']
    refine ⟨mwC V.heap.size N cA x, ?_, (fun z => by cases z), by rw [show (mwC V.heap.size N cA x).slots.size = N from arrV_size _ _ _]; exact hlt, ?_, hnext _ _ _ ⟨x + 1, hlt, hrest, ?_⟩⟩
    · rw [State.pushCell_setTop]
      show ((mwS V cA cB N k2.toNatClampNeg x).pushCell _).heap[V.heap.size]? = _
      rw [State.heap_pushCell_of_lt (h := hlt0)]
      exact f2
    · simp [State.fitsSlot, State.slotType?, mwC, arrV, f3, kA1, kA2, fits]
    · rw [State.heap_setTop, State.heap_setTop, f1, mwC_s, State.pushCell_setTop, State.setCell_setTop]
      rfl
  · rintro s' d' acts2 ⟨i, hi, hl, rfl⟩
    have hiN : i = N := by
      rcases Nat.lt_or_ge i N with z | z
      · rw [show N - i = (N - (i + 1)) + 1 by omega, List.range'_succ] at hl
        cases hl
      · omega
    subst hiN
    simp only [wp_pure']
    exact hq _ _
end MWW
theorem W.mula {p : Program} {l : Launch} {e : Env} {R : Room} {s : State} {m : MethodId} {args : Array Value} {below : List Frame} {meth : Method} {c : Code} {H : Heap} {locs : List Loc} {cells slots : Nat} {Q : State → Prop} {cc : ByteArray} (hexec : p.tables.exec = Jvm.exec) (hb : c.code = cc) {own : String} {index : Nat} (hown : s.vm.findClass own = some m.cls) (hclink : (Cond.classLink own index "[[J").before args s = true) {cA cB c3 : ClassId} {kA kB : Class} (fA : s.vm.findClass "[[J" = some cA) (kA1 : s.vm.classes[cA]? = some kA) (kA2 : kA.kind = .array cB (.array .long)) (kB1 : s.vm.classes[cB]? = some kB) (kB2 : kB.kind = .array c3 .long)
    {g : JFrame} (hg : g.method = m) (hdg : decode cc g.pc = .ok (.multianewarray index 2, 4)) {n k2 : Int32} {N K : Nat} {rest : List Value} (hstack : g.stack = .int k2 :: .int n :: rest) (hn : ¬ n < 0) (hk : ¬ k2 < 0) (hN : n.toNatClampNeg = N) (hK : k2.toNatClampNeg = K) (hb1 : N * 4 ≤ 536870912) (hb2 : K * 8 ≤ 536870912) (hcells : cells + (1 + N) ≤ R.cells) (hslots : slots + (N + N * K) ≤ R.slots) {h : Nat} (hh : H.size = h)
    (kk : ∀ (H' : Heap) (Ls : List Loc), (∀ q ∈ Ls, q.base = h) → H'.size = h + 1 + N → H'[h]? = some (mwC h N cA N) → (∀ q, q < h → H'[q]? = H[q]?) → (∀ j, j < N → H'[h + 1 + j]? = some (mwI cB K)) → W p l e R s m args below meth c H' (locs ++ Ls) (cells + (1 + N)) (slots + (N + N * K)) Q { g with pc := g.pc + 4, stack := .ref h :: rest }) : W p l e R s m args below meth c H locs cells slots Q g := by
  intro T hT X
  subst hT
  subst hb
  subst hg
  subst hh
  subst hN
  subst hK
  have hpl : e.platform.magicAccessors = ({} : Platform).magicAccessors := by rw [X.admits.platform]
  obtain ⟨c0, hc0, hcl⟩ := Cond.classLink_spec hown hclink e.platform hpl
  cases fA.symm.trans hc0
  obtain ⟨hg1, hw1, hr1⟩ := State.classEntry (e := e) X.warmed hcl
  generalize T.vm.noted g.method.cls index (.cls cA) = vm1 at hg1 hw1 hr1
  have hal : s.vm.Alike vm1 := hw1.alike
  obtain ⟨kA', a1, a2⟩ := hal.2.2 _ _ kA1
  obtain ⟨kB', b1, b2⟩ := hal.2.2 _ _ kB1
  have a3 : kA'.kind = .array cB (.array .long) := by rw [a2]; exact kA2
  have b3 : kB'.kind = .array c3 .long := by rw [b2]; exact kB2
  have X1 := X.noted hw1
  obtain ⟨Ls, q1, q2⟩ := mw_X (cA := cA) (cB := cB) (N := n.toNatClampNeg) (K := k2.toNatClampNeg) X1 n.toNatClampNeg
  obtain ⟨f1, f2, f3⟩ := mw_f (V := T.setVm vm1) (cA := cA) (cB := cB) (N := n.toNatClampNeg) (K := k2.toNatClampNeg) n.toNatClampNeg
  have hst := kk (mwS (T.setVm vm1) cA cB n.toNatClampNeg k2.toNatClampNeg n.toNatClampNeg).heap Ls q1 f1 f2 (fun q hq => mw_old (V := T.setVm vm1) hq _) (fun j hj => mw_in (V := T.setVm vm1) _ j hj)
  obtain ⟨t, t1, t2⟩ := hst (mwS (T.setVm vm1) cA cB n.toNatClampNeg k2.toNatClampNeg n.toNatClampNeg) rfl (by rw [← Nat.add_assoc, ← Nat.add_assoc]; exact q2)
  refine ⟨t, ?_, t2⟩
  have rm : ∀ i, i < n.toNatClampNeg → (mwS (T.setVm vm1) cA cB n.toNatClampNeg k2.toNatClampNeg i).heap.size < e.platform.maxCells ∧ (mwS (T.setVm vm1) cA cB n.toNatClampNeg k2.toNatClampNeg i).slotsUsed + k2.toNatClampNeg ≤ e.platform.maxSlots := by
    intro i hi
    obtain ⟨Li, -, Xi⟩ := mw_X (cA := cA) (cB := cB) (N := n.toNatClampNeg) (K := k2.toNatClampNeg) X1 i
    have hm : i * k2.toNatClampNeg + k2.toNatClampNeg ≤ n.toNatClampNeg * k2.toNatClampNeg := by
      have := Nat.mul_le_mul_right k2.toNatClampNeg (show i + 1 ≤ n.toNatClampNeg from hi)
      rw [Nat.succ_mul] at this
      exact this
    obtain ⟨u1, u2⟩ := Xi.roomAbove (a := 1) (b := k2.toNatClampNeg) (by omega) (by omega)
    exact ⟨u1, u2⟩
  obtain ⟨v1, v2⟩ := X1.roomAbove (a := 1) (b := n.toNatClampNeg) (by omega) (by omega)
  have lim1 : ¬ n.toNatClampNeg > e.platform.arrayLengthLimit := by rw [Launch.admits_arrayLengthLimit X.admits]; omega
  have lim2 : ¬ k2.toNatClampNeg > e.platform.arrayLengthLimit := by rw [Launch.admits_arrayLengthLimit X.admits]; omega
  have hp1 : ¬ n.toNatClampNeg * 4 > e.platform.maxHeapBytes := by rw [Launch.admits_maxHeapBytes X.admits]; omega
  have hp2 : ¬ k2.toNatClampNeg * 8 > e.platform.maxHeapBytes := by rw [Launch.admits_maxHeapBytes X.admits]; omega
  jvm_step X.here [hexec, hdg]
  simp only [multianewarray.sem, wp_bind', W.resolveClassAt_links (State.method?_setTop g X.here.top) hg1]
  rw [W.popN, if_neg (by decide)]
  refine ⟨g, State.topJava?_setTop' (s := T.setVm vm1) g X.here.top, [.int n, .int k2], rest, rfl, hstack, ?_⟩
  simp only [List.mapM_cons, List.mapM_nil, wp_bind', wp_pure']
  have eS : ((T.setTop g).setVm vm1).setTop { g with stack := rest } = (T.setVm vm1).setTop { g with stack := rest } := by
    show ((T.setVm vm1).setTop g).setTop _ = _
    rw [State.setTop_setTop]
  rw [eS]
  refine mw_make (V := T.setVm vm1) (gF := { g with stack := rest }) a1 a3 b1 b3 hn hk lim1 hp1 lim2 hp2 rm v1 v2 (fun d' acts' => ?_)
  simp only [wp_bind', W.mark, W.pushRef, State.topJava?_setTop' _ q2.here.top, Option.some.injEq, exists_eq_left', State.setTop_setTop, State.heap_setTop]
  intro acts
  simp [jvm, q2.here.top]
  exact t1
