/-! ===== constructors ===== -/
def xnA (sh : Sh) (kd N : Nat) (σ : Dt) : Option (Sh × Dt) := some (newA sh kd N, clr σ sh.1)
def xnO (sh : Sh) (ci : Nat) (σ : Dt) : Option (Sh × Dt) := some (newO sh ci, clr σ sh.1)
def xsr (sh : Sh) (kd ci : Nat) (r : Option Nat) (i : Int32) (v : Option Nat) (σ : Dt) : Option Dt := match r with
  | none => none
  | some a => match v with
    | none => none
    | some b => if ((a < sh.1 ∧ sh.2.1 a = kd) ∧ ¬ (i < 0 ∨ sh.2.2 a ≤ i.toNatClampNeg)) ∧ b < sh.1 ∧ sh.2.1 b = ci then some (σ.1, σ.2.1, up2 σ.2.2 a i.toNatClampNeg (some b)) else none
section ROWSC
variable {M : Mx} {cc : ByteArray} {y0 : MethodName} {k q pc : Nat} {lv lv' : List (Nat × Av)} {st stk : List Av} {sh sh' : Sh} {σ σ' : Dt} {pp : Sh × Dt}
variable {l0 : Launch} {fr0 lc0 mc0 ms0 idx : Nat}
theorem c_new {ci : Nat} {C : String} {T : u_T} (O : Ok M cc y0) (R0 : Rm M l0 fr0 lc0 mc0 ms0) (hal : Ma M = true) (d : decode cc pc = .ok (.new idx, 3)) (hC : CL ci C T) (w1 : Cond.classLink y0.cls idx C ∈ tbl) (w2 : Cond.instantiable C (nf ci) ∈ tbl) (w3 : Cond.initialized C ∈ tbl) (k1 q1 : Nat) (hk : k + 1 = k1) (hq : q + nf ci = q1) (hc : k1 ≤ mc0 ∧ q1 ≤ ms0) (e : xnO sh ci σ = some pp) (kk : G M k1 q1 (pc + 3) lv (vA (some sh.1) :: st) pp.1 pp.2) : G M k q pc lv st sh σ := by
  subst hk
  subst hq
  cases e
  exact g_new O R0 hal d hC w1 w2 w3 hc kk
theorem c_newI {N : Nat} {n : Int32} (O : Ok M cc y0) (R0 : Rm M l0 fr0 lc0 mc0 ms0) (hal : Ma M = true) (d : decode cc pc = .ok (.newarray .int, 2)) (w : Cond.arrayClass .int ∈ tbl) (hn : ¬ n < 0) (hN : n.toNatClampNeg = N) (hby : N * 4 ≤ 536870912) (k1 q1 : Nat) (hk : k + 1 = k1) (hq : q + N = q1) (hc : k1 ≤ mc0 ∧ q1 ≤ ms0) (e : xnA sh 13 N σ = some pp) (kk : G M k1 q1 (pc + 2) lv (vA (some sh.1) :: st) pp.1 pp.2) : G M k q pc lv (vI n :: st) sh σ := by
  subst hk
  subst hq
  cases e
  exact g_newI O R0 hal d w hn hN hby hc kk
theorem c_newJ {N : Nat} {n : Int32} (O : Ok M cc y0) (R0 : Rm M l0 fr0 lc0 mc0 ms0) (hal : Ma M = true) (d : decode cc pc = .ok (.newarray .long, 2)) (w : Cond.arrayClass .long ∈ tbl) (hn : ¬ n < 0) (hN : n.toNatClampNeg = N) (hby : N * 8 ≤ 536870912) (k1 q1 : Nat) (hk : k + 1 = k1) (hq : q + N = q1) (hc : k1 ≤ mc0 ∧ q1 ≤ ms0) (e : xnA sh 14 N σ = some pp) (kk : G M k1 q1 (pc + 2) lv (vA (some sh.1) :: st) pp.1 pp.2) : G M k q pc lv (vI n :: st) sh σ := by
  subst hk
  subst hq
  cases e
  exact g_newJ O R0 hal d w hn hN hby hc kk
theorem c_newZ {N : Nat} {n : Int32} (O : Ok M cc y0) (R0 : Rm M l0 fr0 lc0 mc0 ms0) (hal : Ma M = true) (d : decode cc pc = .ok (.newarray .boolean, 2)) (w : Cond.arrayClass .boolean ∈ tbl) (hn : ¬ n < 0) (hN : n.toNatClampNeg = N) (hby : N * 1 ≤ 536870912) (k1 q1 : Nat) (hk : k + 1 = k1) (hq : q + N = q1) (hc : k1 ≤ mc0 ∧ q1 ≤ ms0) (e : xnA sh 15 N σ = some pp) (kk : G M k1 q1 (pc + 2) lv (vA (some sh.1) :: st) pp.1 pp.2) : G M k q pc lv (vI n :: st) sh σ := by
  subst hk
  subst hq
  cases e
  exact g_newZ O R0 hal d w hn hN hby hc kk
theorem c_newR {kd N : Nat} {n : Int32} {C : String} (O : Ok M cc y0) (R0 : Rm M l0 fr0 lc0 mc0 ms0) (hal : Ma M = true) (d : decode cc pc = .ok (.anewarray idx, 3)) (w : Cond.classLink y0.cls idx C ∈ tbl) (hkd : 15 < kd) (htl : ∀ cy, (tyl cy)[kd - 13]? = some (cy kd, .object C)) (hao : ∀ U : State, (va_AO RX4 U ∧ va_AO RX6 U ∧ va_AO RX8 U ∧ va_AO RX9 U ∧ xAOL U) → va_AO C U) (hn : ¬ n < 0) (hN : n.toNatClampNeg = N) (hby : N * 4 ≤ 536870912) (k1 q1 : Nat) (hk : k + 1 = k1) (hq : q + N = q1) (hc : k1 ≤ mc0 ∧ q1 ≤ ms0) (e : xnA sh kd N σ = some pp) (kk : G M k1 q1 (pc + 3) lv (vA (some sh.1) :: st) pp.1 pp.2) : G M k q pc lv (vI n :: st) sh σ := by
  subst hk
  subst hq
  cases e
  exact g_newR O R0 hal d w hkd htl hao hn hN hby hc kk
theorem c_call {y : MethodName} {cc1 : ByteArray} {mL fr lc mc ms : Nat} {a : Nat} (O : Ok M cc y0) (R0 : Rm M l0 fr0 lc0 mc0 ms0) (hal : Ma M = true) (d : decode cc pc = .ok (.invokespecial idx, 3)) (V : VL y0.cls idx y cc1 mL none 0) (V2 : Cond.instanceMethod y ∈ tbl ∧ y.name = "<init>") (hw : Nat.ble (st.map avc).sum 8 = true) (hR : fr + 1 ≤ fr0 ∧ 8 + (mL + 11) + lc ≤ lc0) (k1 q1 : Nat) (hk : k + mc = k1) (hq : q + ms = q1) (hc : k1 ≤ mc0 ∧ q1 ≤ ms0) (C : Ctr l0 y cc1 mL none true fr lc mc ms [vA (some a)] sh σ pp.1 pp.2 none) (kk : G M k1 q1 (pc + 3) lv st pp.1 pp.2) : G M k q pc lv (vA (some a) :: st) sh σ := by
  subst hk
  subst hq
  exact g_callI (as := []) O R0 hal d V V2 rfl rfl (Nat.le_of_ble_eq_true hw) hR hc C kk
theorem c_aastore {kd ci : Nat} {C : String} {T : u_T} {r v : Option Nat} {i : Int32} (O : Ok M cc y0) (d : decode cc pc = .ok (.aastore, 1)) (hC : CL ci C T) (hkd : 15 < kd) (htl : ∀ cy, (tyl cy)[kd - 13]? = some (cy kd, .object C)) (hx : xsr sh kd ci r i v σ = some σ') (kk : G M k q (pc + 1) lv st sh σ') : G M k q pc lv (vA v :: vI i :: vA r :: st) sh σ := by
  obtain ⟨p, l, e, R, s, m, args, below, meth, c, Q, nL, D, b, cy, A, al, ad, dV, lo⟩ := M
  obtain ⟨hx', hb, hml, hown, hts, hK, hA, hX, hAl, hlk, hnm⟩ := O
  obtain ⟨h13, hcl, hin, -, -⟩ := id hC
  cases r with
  | none => cases hx
  | some a =>
    cases v with
    | none => cases hx
    | some w =>
      obtain ⟨⟨⟨⟨ha, hk⟩, hi⟩, hwb, hwk⟩, hv⟩ := ite_some hx
      subst hv
      intro H locs ls hl hP hD hS hz
      have hlt : i.toNatClampNeg < sh.2.2 a := Nat.not_le.mp fun q => hi (Or.inr q)
      have h0 : ¬ i < 0 := fun q => hi (Or.inl q)
      have he : (Ws b cy sh σ)[a]? = some (b + a, .inl (cy kd, sh.2.2 a, .inr (.inr (.inr (.inr (fun i => (σ.2.2 a i).map (fun x => b + x))))))) := by rw [Ws_get ha, cellE_r hk hkd]
      have hv : (Ws b cy sh σ)[w]? = some (b + w, .inr (ci, (List.range (nf ci)).map (fval b σ ci w))) := by rw [Ws_get hwb, cellE_o hwk h13]
      obtain ⟨r', hr', cellV, g1, g2, g3, -⟩ := hP w _ hv
      have hcls := (hK.1 ci _ hcl).2
      obtain ⟨kA, comp, k1, k2, k3, -⟩ := (hK.2 _ _ (htl cy)).2
      have hcomp : comp = D.1 ci := Option.some.inj (k3.symm.trans hcls.1)
      subst hcomp
      obtain ⟨kC, hkC, -⟩ := hcls.2
      have hroom : i.toNatClampNeg < (arrV (cy kd) (sh.2.2 a) (fun j => va_rf ((σ.2.2 a j).map (fun x => b + x)))).slots.size := Nat.lt_of_lt_of_eq hlt (arrV_size _ _ _).symm
      have hkw : s.vm.classes[cellV.cls]? = some kC := (congrArg (fun t => s.vm.classes[t]?) g2).trans hkC
      have hgo : s.vm.assignable cellV.cls (D.1 ci) = true := (congrArg (fun t => s.vm.assignable t (D.1 ci)) g2).trans (va_assign hcls)
      have hvm0 : ∀ y, cellV.vm ≠ .statics y := fun y hy => nomatch g3.symm.trans hy
      refine W.aast hx' hb (hP a _ he) (fun _ hy => nomatch hy) (fun hy => nomatch hy) k1 k2 rfl hkC (And.intro h0 hroom) g1 hvm0 hkw hgo rfl rfl d fun H1 e z oq => ?_
      have hset : (Ws b cy sh σ).set a (b + a, .inl (cy kd, sh.2.2 a, .inr (.inr (.inr (.inr (va_up (fun i => (σ.2.2 a i).map (fun x => b + x)) i.toNatClampNeg (some (b + w)))))))) = Ws b cy sh (σ.1, σ.2.1, up2 σ.2.2 a i.toNatClampNeg (some w)) := by
        refine Ws_set ?_ (fun y hy => cellE_congr rfl rfl (up2_ne hy))
        rw [cellE_r hk hkd]
        refine congrArg (fun f => (Sum.inl (cy kd, sh.2.2 a, Sum.inr (Sum.inr (Sum.inr (Sum.inr f)))) : va_E)) (funext fun j => ?_)
        show (up2 σ.2.2 a i.toNatClampNeg (some w) a j).map (fun x => b + x) = _
        rw [up2_up]
        unfold va_up
        by_cases hj : j = i.toNatClampNeg
        · rw [if_pos hj, if_pos hj]; rfl
        · rw [if_neg hj, if_neg hj]
      refine kk H1 _ ls hl ?_ ?_ (hS.put z oq (hD.2 a _ he)) (fun h => z.trans (hz h))
      · rw [← hset]
        refine hP.set hD he ?_ oq
        show H1[b + a]? = some (vp_cell _ _)
        rw [e]
        show some ((arrV (cy kd) (sh.2.2 a) (fun j => va_rf ((σ.2.2 a j).map (fun x => b + x)))).setSlot i.toNatClampNeg (.ref (b + w))) = some (arrV (cy kd) (sh.2.2 a) (fun j => va_rf (va_up (fun i => (σ.2.2 a i).map (fun x => b + x)) i.toNatClampNeg (some (b + w)) j)))
        rw [arrV_store]
        refine congrArg some (congrArg (arrV (cy kd) (sh.2.2 a)) (funext fun j => ?_))
        by_cases h : j = i.toNatClampNeg
        · simp [updV, va_up, va_rf, h]
        · simp [updV, va_up, h]
      · rw [← hset]
        exact hD.set he
end ROWSC
/-- rows of rows of longs: the outer one, then the inner ones -/
def newM (sh : Sh) (n k : Nat) : Sh := (sh.1 + (1 + n), fun a => if a = sh.1 then 20 else if sh.1 < a ∧ a < sh.1 + (1 + n) then 14 else sh.2.1 a, fun a => if a = sh.1 then n else if sh.1 < a ∧ a < sh.1 + (1 + n) then k else sh.2.2 a)
def clrM (σ : Dt) (b n : Nat) : Dt := (σ.1, (fun a => if b < a ∧ a < b + (1 + n) then (fun _ => 0) else σ.2.1 a), (fun a => if a = b then (fun i => if i < n then some (b + 1 + i) else none) else σ.2.2 a))
def xnM (sh : Sh) (n k : Nat) (σ : Dt) : Option (Sh × Dt) := some (newM sh n k, clrM σ sh.1 n)
/-! ===== rows of rows of longs: the machine's own step ===== -/
/-- the outer row with i of its rows laid -/
def mwC (h0 N : Nat) (cA : ClassId) (i : Nat) : Cell := arrV cA N (fun j => if j < i then .ref (h0 + 1 + j) else .null)
def mwI (cB : ClassId) (K : Nat) : Cell := arrV cB K (fun _ => .long 0)
/-- the state with the outer row and i inner ones -/
def mwS (V : State) (cA cB : ClassId) (N K : Nat) : Nat → State
  | 0 => V.pushCell (mwC V.heap.size N cA 0)
  | i + 1 => ((mwS V cA cB N K i).pushCell (mwI cB K)).setCell V.heap.size (mwC V.heap.size N cA (i + 1))
theorem mwC_s (h0 N : Nat) (cA : ClassId) (i : Nat) : (mwC h0 N cA i).setSlot i (.ref (h0 + 1 + i)) = mwC h0 N cA (i + 1) := by
  unfold mwC
  rw [arrV_store]
  refine congrArg (arrV cA N) (funext fun j => ?_)
  unfold updV
  by_cases h : j = i
  · subst h
    simp
  · by_cases h2 : j < i
    · rw [if_neg h, if_pos (show j < i + 1 by omega)]
      exact if_pos h2
    · rw [if_neg h, if_neg (show ¬ j < i + 1 by omega)]
      exact if_neg h2
section MWS
variable {V : State} {cA cB : ClassId} {N K : Nat}
theorem mw_f : ∀ i, (mwS V cA cB N K i).heap.size = V.heap.size + 1 + i ∧ (mwS V cA cB N K i).heap[V.heap.size]? = some (mwC V.heap.size N cA i) ∧ (mwS V cA cB N K i).vm = V.vm
  | 0 => ⟨by simp [mwS], by simp [mwS], rfl⟩
  | i + 1 => by
    obtain ⟨a, b, c⟩ := mw_f i
    have hlt : V.heap.size < (mwS V cA cB N K i).heap.size := by omega
    have hb : ((mwS V cA cB N K i).pushCell (mwI cB K)).heap[V.heap.size]? = some (mwC V.heap.size N cA i) := by rw [State.heap_pushCell_of_lt (h := hlt)]; exact b
    refine ⟨?_, State.heap_setCell_self hb, by simp [mwS, c]⟩
    simp [mwS, State.setCell, a]
    omega
theorem mw_old {a : Nat} (ha : a < V.heap.size) : ∀ i, (mwS V cA cB N K i).heap[a]? = V.heap[a]?
  | 0 => State.heap_pushCell_of_lt _ _ ha
  | i + 1 => by
    have h1 := (mw_f (V := V) (cA := cA) (cB := cB) (N := N) (K := K) i).1
    show (((mwS V cA cB N K i).pushCell (mwI cB K)).setCell V.heap.size _).heap[a]? = _
    have h2 : a < (mwS V cA cB N K i).heap.size := by omega
    rw [State.heap_setCell_other (Nat.ne_of_gt ha), State.heap_pushCell_of_lt (h := h2)]
    exact mw_old ha i
theorem mw_in : ∀ i j, j < i → (mwS V cA cB N K i).heap[V.heap.size + 1 + j]? = some (mwI cB K)
  | 0, j, h => absurd h (Nat.not_lt_zero j)
  | i + 1, j, h => by
    have h1 := (mw_f (V := V) (cA := cA) (cB := cB) (N := N) (K := K) i).1
    show (((mwS V cA cB N K i).pushCell (mwI cB K)).setCell V.heap.size _).heap[V.heap.size + 1 + j]? = _
    rw [State.heap_setCell_other (show V.heap.size ≠ V.heap.size + 1 + j by omega)]
    rcases (show j = i ∨ j < i by omega) with e | e
    · rw [e, ← h1]
      exact State.heap_pushCell_size _ _
    · have h2 : V.heap.size + 1 + j < (mwS V cA cB N K i).heap.size := by omega
      rw [State.heap_pushCell_of_lt (h := h2)]
      exact mw_in i j e
theorem mw_top (f : JFrame) : ∀ i, mwS (V.setTop f) cA cB N K i = (mwS V cA cB N K i).setTop f
  | 0 => by
    show (V.setTop f).pushCell (mwC (V.setTop f).heap.size N cA 0) = _
    rw [State.heap_setTop, State.pushCell_setTop]
    rfl
  | i + 1 => by
    show ((mwS (V.setTop f) cA cB N K i).pushCell (mwI cB K)).setCell (V.setTop f).heap.size (mwC (V.setTop f).heap.size N cA (i + 1)) = _
    rw [mw_top f i, State.heap_setTop, State.pushCell_setTop, State.setCell_setTop]
    rfl
end MWS
section MWX
variable {p : Program} {l : Launch} {e : Env} {R : Room} {s : State} {m : MethodId} {args : Array Value} {below : List Frame} {meth : Method} {c : Code} {V : State} {locs : List Loc} {cells slots : Nat} {cA cB : ClassId} {N K : Nat}
theorem mw_X (X : Stand p l e R s m args below meth c V locs cells slots) : ∀ i, ∃ Ls, (∀ q ∈ Ls, q.base = V.heap.size) ∧ Stand p l e R s m args below meth c (mwS V cA cB N K i) (locs ++ Ls) (cells + 1 + i) (slots + N + i * K)
  | 0 => by
    have h := X.pushed (mwC V.heap.size N cA 0)
    rw [show (mwC V.heap.size N cA 0).slots.size = N from arrV_size _ _ _] at h
    refine ⟨[], fun q hq => absurd hq List.not_mem_nil, ?_⟩
    rw [List.append_nil, Nat.zero_mul]
    exact h
  | i + 1 => by
    obtain ⟨Ls, q1, q2⟩ := mw_X X i
    have h1 := mw_f (V := V) (cA := cA) (cB := cB) (N := N) (K := K) i
    have hlt : V.heap.size < (mwS V cA cB N K i).heap.size := by omega
    have hb : ((mwS V cA cB N K i).pushCell (mwI cB K)).heap[V.heap.size]? = some (mwC V.heap.size N cA i) := by rw [State.heap_pushCell_of_lt (h := hlt)]; exact h1.2.1
    have h := (q2.pushed (mwI cB K)).stored hb i (.ref (V.heap.size + 1 + i))
    rw [mwC_s, show (mwI cB K).slots.size = K from arrV_size _ _ _, List.append_assoc] at h
    refine ⟨Ls ++ [⟨V.heap.size, i⟩], fun q hq => ?_, ?_⟩
    · rcases List.mem_append.mp hq with z | z
      · exact q1 q z
      · rw [List.mem_singleton.mp z]
    · rw [show slots + N + (i + 1) * K = slots + N + i * K + K by rw [Nat.succ_mul]; omega]
      exact h
end MWX
section MWW
variable {E : CtlPost} {e : Env} {d : Bool} {acts : List Action} {s : State}
theorem mw_new {cI comp : ClassId} {kI : Class} {ty : FieldType} {len : Nat} {v : Value} {Q : Addr → Pre} (hk : s.vm.classes[cI]? = some kI) (hkd : kI.kind = .array comp ty) (hl : ¬ len > e.platform.arrayLengthLimit) (hh : ¬ len * componentBytes ty > e.platform.maxHeapBytes) (hf : fits ty v = true) (h1 : s.heap.size < e.platform.maxCells) (h2 : s.slotsUsed + len ≤ e.platform.maxSlots) (hq : ∀ acts', Q s.heap.size d acts' (s.pushCell (arrV cI len (fun _ => v)))) : wp (Jvm.newArray cI len v) Q E e d acts s := by
  have hfit : ∀ i w, (Array.replicate len v)[i]? = some w → s.fitsSlot cI .none i w = true := by
    intro i w hw
    rw [Array.getElem?_replicate] at hw
    by_cases z : i < len
    · rw [if_pos z] at hw
      rw [← Option.some.inj hw]
      simp [State.fitsSlot, State.slotType?, hk, hkd, hf]
    · rw [if_neg z] at hw
      cases hw
  simp only [Jvm.newArray, Jvm.arrayFits, wp_bind', W.ask, W.ite, wp_pure', W.theClass, W.alloc, W.stop, hl, hk, hkd, hh, if_false, Option.some.injEq, exists_eq_left', Array.size_replicate]
  rw [if_neg (by omega)]
  refine ⟨h1, h2, hfit, ?_⟩
  rw [arrV_new]
  exact hq _
theorem mw_make1 {cB cc : ClassId} {kB : Class} {k2 : Int32} {Q : Addr → Pre} (kB1 : s.vm.classes[cB]? = some kB) (kB2 : kB.kind = .array cc .long) (hk : ¬ k2 < 0) (l2 : ¬ k2.toNatClampNeg > e.platform.arrayLengthLimit) (b2 : ¬ k2.toNatClampNeg * 8 > e.platform.maxHeapBytes) (h1 : s.heap.size < e.platform.maxCells) (h2 : s.slotsUsed + k2.toNatClampNeg ≤ e.platform.maxSlots) (hq : ∀ acts', Q s.heap.size d acts' (s.pushCell (mwI cB k2.toNatClampNeg))) : wp (multianewarray.make cB [k2]) Q E e d acts s := by
  rw [multianewarray.make]
  simp only [wp_bind', W.ite, hk, if_false, wp_pure', W.theClass, kB1, kB2, Option.some.injEq, exists_eq_left']
  exact mw_new (kI := kB) (comp := cc) (ty := .long) kB1 kB2 l2 b2 rfl h1 h2 hq
theorem mw_make {V : State} {gF : JFrame} {cA cB cc : ClassId} {kA kB : Class} {n k2 : Int32} {Q : Addr → Pre} (kA1 : V.vm.classes[cA]? = some kA) (kA2 : kA.kind = .array cB (.array .long)) (kB1 : V.vm.classes[cB]? = some kB) (kB2 : kB.kind = .array cc .long) (hn : ¬ n < 0) (hk : ¬ k2 < 0) (l1 : ¬ n.toNatClampNeg > e.platform.arrayLengthLimit) (b1 : ¬ n.toNatClampNeg * 4 > e.platform.maxHeapBytes) (l2 : ¬ k2.toNatClampNeg > e.platform.arrayLengthLimit) (b2 : ¬ k2.toNatClampNeg * 8 > e.platform.maxHeapBytes) (hr : ∀ i, i < n.toNatClampNeg → (mwS V cA cB n.toNatClampNeg k2.toNatClampNeg i).heap.size < e.platform.maxCells ∧ (mwS V cA cB n.toNatClampNeg k2.toNatClampNeg i).slotsUsed + k2.toNatClampNeg ≤ e.platform.maxSlots) (h1 : V.heap.size < e.platform.maxCells) (h2 : V.slotsUsed + n.toNatClampNeg ≤ e.platform.maxSlots) (hq : ∀ d' acts', Q V.heap.size d' acts' ((mwS V cA cB n.toNatClampNeg k2.toNatClampNeg n.toNatClampNeg).setTop gF)) : wp (multianewarray.make cA [n, k2]) Q E e d acts (V.setTop gF) := by
  generalize hNN : n.toNatClampNeg = N at *
  rw [multianewarray.make]
  simp only [wp_bind', W.ite, hn, if_false, wp_pure', W.theClass, State.vm_setTop, kA1, kA2, Option.some.injEq, exists_eq_left']
  rw [hNN]
  refine mw_new (kI := kA) (comp := cB) (ty := .array .long) kA1 kA2 l1 b1 rfl h1 h2 (fun acts' => ?_)
  have hf : ([k2].find? (· < 0)) = none := by simp [hk]
  simp only [hf]
  rw [ite_self, wp_bind', Std.Legacy.Range.forIn_eq_forIn_range']
  rw [show ([:N] : Std.Legacy.Range).size = N from by simp [Std.Legacy.Range.size]]
  show wp (forIn (List.range' 0 N 1) PUnit.unit _) _ E e d acts' _
  refine wp_forIn_inv (fun rest s' => ∃ i, i ≤ N ∧ rest = List.range' i (N - i) ∧ s' = (mwS V cA cB N k2.toNatClampNeg i).setTop gF) _ _ ⟨0, Nat.zero_le _, rfl, ?_⟩ ?_ ?_
  · rw [State.pushCell_setTop, show arrV cA N (fun _ => Value.null) = mwC V.heap.size N cA 0 from congrArg (arrV cA N) (funext fun j => (if_neg (Nat.not_lt_zero j)).symm)]
    rfl
  · rintro x rest s' d' acts2 Q' ⟨i, hi, hl, rfl⟩ hnext
    have hlt : i < N := by
      rcases Nat.lt_or_ge i N with z | z
      · exact z
      · rw [show N - i = 0 by omega] at hl
        cases hl
    rw [show N - i = (N - (i + 1)) + 1 by omega, List.range'_succ] at hl
    obtain ⟨rfl, hrest⟩ : x = i ∧ rest = List.range' (i + 1) (N - (i + 1)) := ⟨(List.cons.inj hl).1, (List.cons.inj hl).2⟩
    obtain ⟨f1, f2, f3⟩ := mw_f (V := V) (cA := cA) (cB := cB) (N := N) (K := k2.toNatClampNeg) x
    have hv : ((mwS V cA cB N k2.toNatClampNeg x).setTop gF).vm = V.vm := f3
    have hlt0 : V.heap.size < (mwS V cA cB N k2.toNatClampNeg x).heap.size := by omega
    simp only [wp_bind']
    refine mw_make1 (s := (mwS V cA cB N k2.toNatClampNeg x).setTop gF) (by rw [hv]; exact kB1) kB2 hk l2 b2 (hr x hlt).1 (hr x hlt).2 (fun acts3 => ?_)
    simp only [wp_bind', W.writeLoc, wp_pure']
    refine ⟨mwC V.heap.size N cA x, ?_, (fun z => by cases z), by rw [show (mwC V.heap.size N cA x).slots.size = N from arrV_size _ _ _]; exact hlt, ?_, hnext _ _ _ ⟨x + 1, hlt, hrest, ?_⟩⟩
    · rw [State.pushCell_setTop]
      show ((mwS V cA cB N k2.toNatClampNeg x).pushCell _).heap[V.heap.size]? = _
      rw [State.heap_pushCell_of_lt (h := hlt0)]
      exact f2
    · simp [State.fitsSlot, State.slotType?, mwC, arrV, f3, kA1, kA2, fits]
    · rw [State.heap_setTop, State.heap_setTop, f1, mwC_s, State.pushCell_setTop, State.setCell_setTop]
      rfl
  · rintro s' d' acts2 ⟨i, hi, hl, rfl⟩
    have hiN : i = N := by
      rcases Nat.lt_or_ge i N with z | z
      · rw [show N - i = (N - (i + 1)) + 1 by omega, List.range'_succ] at hl
        cases hl
      · omega
    subst hiN
    simp only [wp_pure']
    exact hq _ _
end MWW
theorem W.mula {p : Program} {l : Launch} {e : Env} {R : Room} {s : State} {m : MethodId} {args : Array Value} {below : List Frame} {meth : Method} {c : Code} {H : Heap} {locs : List Loc} {cells slots : Nat} {Q : State → Prop} {cc : ByteArray} (hexec : p.tables.exec = Jvm.exec) (hb : c.code = cc) {own : String} {index : Nat} (hown : s.vm.findClass own = some m.cls) (hclink : (Cond.classLink own index "[[J").before args s = true) {cA cB c3 : ClassId} {kA kB : Class} (fA : s.vm.findClass "[[J" = some cA) (kA1 : s.vm.classes[cA]? = some kA) (kA2 : kA.kind = .array cB (.array .long)) (kB1 : s.vm.classes[cB]? = some kB) (kB2 : kB.kind = .array c3 .long)
    {g : JFrame} (hg : g.method = m) (hdg : decode cc g.pc = .ok (.multianewarray index 2, 4)) {n k2 : Int32} {N K : Nat} {rest : List Value} (hstack : g.stack = .int k2 :: .int n :: rest) (hn : ¬ n < 0) (hk : ¬ k2 < 0) (hN : n.toNatClampNeg = N) (hK : k2.toNatClampNeg = K) (hb1 : N * 4 ≤ 536870912) (hb2 : K * 8 ≤ 536870912) (hcells : cells + (1 + N) ≤ R.cells) (hslots : slots + (N + N * K) ≤ R.slots) {h : Nat} (hh : H.size = h)
    (kk : ∀ (H' : Heap) (Ls : List Loc), (∀ q ∈ Ls, q.base = h) → H'.size = h + 1 + N → H'[h]? = some (mwC h N cA N) → (∀ q, q < h → H'[q]? = H[q]?) → (∀ j, j < N → H'[h + 1 + j]? = some (mwI cB K)) → W p l e R s m args below meth c H' (locs ++ Ls) (cells + (1 + N)) (slots + (N + N * K)) Q { g with pc := g.pc + 4, stack := .ref h :: rest }) : W p l e R s m args below meth c H locs cells slots Q g := by
  intro T hT X
  subst hT
  subst hb
  subst hg
  subst hh
  subst hN
  subst hK
  have hpl : e.platform.magicAccessors = ({} : Platform).magicAccessors := by rw [X.admits.platform]
  obtain ⟨c0, hc0, hcl⟩ := Cond.classLink_spec hown hclink e.platform hpl
  cases fA.symm.trans hc0
  obtain ⟨hg1, hw1, hr1⟩ := State.classEntry (e := e) X.warmed hcl
  generalize T.vm.noted g.method.cls index (.cls cA) = vm1 at hg1 hw1 hr1
  have hal : s.vm.Alike vm1 := hw1.alike
  obtain ⟨kA', a1, a2⟩ := hal.2.2 _ _ kA1
  obtain ⟨kB', b1, b2⟩ := hal.2.2 _ _ kB1
  have a3 : kA'.kind = .array cB (.array .long) := by rw [a2]; exact kA2
  have b3 : kB'.kind = .array c3 .long := by rw [b2]; exact kB2
  have X1 := X.noted hw1
  obtain ⟨Ls, q1, q2⟩ := mw_X (cA := cA) (cB := cB) (N := n.toNatClampNeg) (K := k2.toNatClampNeg) X1 n.toNatClampNeg
  obtain ⟨f1, f2, f3⟩ := mw_f (V := T.setVm vm1) (cA := cA) (cB := cB) (N := n.toNatClampNeg) (K := k2.toNatClampNeg) n.toNatClampNeg
  have hst := kk (mwS (T.setVm vm1) cA cB n.toNatClampNeg k2.toNatClampNeg n.toNatClampNeg).heap Ls q1 f1 f2 (fun q hq => mw_old (V := T.setVm vm1) hq _) (fun j hj => mw_in (V := T.setVm vm1) _ j hj)
  obtain ⟨t, t1, t2⟩ := hst (mwS (T.setVm vm1) cA cB n.toNatClampNeg k2.toNatClampNeg n.toNatClampNeg) rfl (by rw [← Nat.add_assoc, ← Nat.add_assoc]; exact q2)
  refine ⟨t, ?_, t2⟩
  have rm : ∀ i, i < n.toNatClampNeg → (mwS (T.setVm vm1) cA cB n.toNatClampNeg k2.toNatClampNeg i).heap.size < e.platform.maxCells ∧ (mwS (T.setVm vm1) cA cB n.toNatClampNeg k2.toNatClampNeg i).slotsUsed + k2.toNatClampNeg ≤ e.platform.maxSlots := by
    intro i hi
    obtain ⟨Li, -, Xi⟩ := mw_X (cA := cA) (cB := cB) (N := n.toNatClampNeg) (K := k2.toNatClampNeg) X1 i
    have hm : i * k2.toNatClampNeg + k2.toNatClampNeg ≤ n.toNatClampNeg * k2.toNatClampNeg := by
      have := Nat.mul_le_mul_right k2.toNatClampNeg (show i + 1 ≤ n.toNatClampNeg from hi)
      rw [Nat.succ_mul] at this
      exact this
    obtain ⟨u1, u2⟩ := Xi.roomAbove (a := 1) (b := k2.toNatClampNeg) (by omega) (by omega)
    exact ⟨u1, u2⟩
  obtain ⟨v1, v2⟩ := X1.roomAbove (a := 1) (b := n.toNatClampNeg) (by omega) (by omega)
  have lim1 : ¬ n.toNatClampNeg > e.platform.arrayLengthLimit := by rw [Launch.admits_arrayLengthLimit X.admits]; omega
  have lim2 : ¬ k2.toNatClampNeg > e.platform.arrayLengthLimit := by rw [Launch.admits_arrayLengthLimit X.admits]; omega
  have hp1 : ¬ n.toNatClampNeg * 4 > e.platform.maxHeapBytes := by rw [Launch.admits_maxHeapBytes X.admits]; omega
  have hp2 : ¬ k2.toNatClampNeg * 8 > e.platform.maxHeapBytes := by rw [Launch.admits_maxHeapBytes X.admits]; omega
  jvm_step X.here [hexec, hdg]
  simp only [multianewarray.sem, wp_bind', W.resolveClassAt_links (State.method?_setTop g X.here.top) hg1]
  rw [W.popN, if_neg (by decide)]
  refine ⟨g, State.topJava?_setTop' (s := T.setVm vm1) g X.here.top, [.int n, .int k2], rest, rfl, hstack, ?_⟩
  simp only [List.mapM_cons, List.mapM_nil, wp_bind', wp_pure']
  have eS : ((T.setTop g).setVm vm1).setTop { g with stack := rest } = (T.setVm vm1).setTop { g with stack := rest } := by
    show ((T.setVm vm1).setTop g).setTop _ = _
    rw [State.setTop_setTop]
  rw [eS]
  refine mw_make (V := T.setVm vm1) (gF := { g with stack := rest }) a1 a3 b1 b3 hn hk lim1 hp1 lim2 hp2 rm v1 v2 (fun d' acts' => ?_)
  simp only [wp_bind', W.mark, W.pushRef, State.topJava?_setTop' _ q2.here.top, Option.some.injEq, exists_eq_left', State.setTop_setTop, State.heap_setTop]
  intro acts
  simp [jvm, q2.here.top]
  exact t1
section ROWSM
variable {M : Mx} {cc : ByteArray} {y0 : MethodName} {k q pc : Nat} {lv : List (Nat × Av)} {st : List Av} {sh : Sh} {σ : Dt} {pp : Sh × Dt} {l0 : Launch} {fr0 lc0 mc0 ms0 idx : Nat}
theorem c_multi {n m : Int32} {N K : Nat} (O : Ok M cc y0) (R0 : Rm M l0 fr0 lc0 mc0 ms0) (hal : Ma M = true) (d : decode cc pc = .ok (.multianewarray idx 2, 4)) (w : Cond.classLink y0.cls idx "[[J" ∈ tbl) (w2 : Cond.arrayClass .long ∈ tbl) (hn : ¬ n < 0) (hm : ¬ m < 0) (hN : n.toNatClampNeg = N) (hK : m.toNatClampNeg = K) (hby : N * 4 ≤ 536870912 ∧ K * 8 ≤ 536870912) (k1 q1 : Nat) (hk : k + (1 + N) = k1) (hq : q + (N + N * K) = q1) (hc : k1 ≤ mc0 ∧ q1 ≤ ms0) (e : xnM sh N K σ = some pp) (kk : G M k1 q1 (pc + 4) lv (vA (some sh.1) :: st) pp.1 pp.2) : G M k q pc lv (vI m :: vI n :: st) sh σ := by
  subst hk
  subst hq
  cases e
  obtain ⟨p, l, e, R, s, mi, args, below, meth, c, Q, nL, D, b, cy, A, al, ad, dV, lo⟩ := M
  obtain ⟨hx, hb, hml, hown, hts, hKK, hA, hX, hAl, hlk, hnm⟩ := O
  obtain ⟨rfl, hfr, hlc, hmc, hms⟩ := R0
  obtain rfl : al = true := hal
  intro H locs ls hl hP hD hS hz
  have hHz : H.size = b + sh.1 := hz rfl
  obtain ⟨comp, cA, kA, a1, -, a2, a3, a4⟩ := xAOL_spec hX.2.2.2.2.2.2.2.2
  obtain ⟨cB, kB, c3, b1, b2, b3⟩ := Cond.arrayClass_spec (hts _ w2)
  have f20 : s.vm.findClass ("[" ++ (FieldType.array .long).toString) = some (cy 20) := (hKK.2 7 _ rfl).2
  have f14 : s.vm.findClass ("[" ++ FieldType.long.toString) = some (cy 14) := (hKK.2 1 _ rfl).2
  have eA : cA = cy 20 := Option.some.inj (a4.symm.trans f20)
  have eB : cB = cy 14 := Option.some.inj (b1.symm.trans f14)
  have eC : comp = cy 14 := Option.some.inj (a1.symm.trans f14)
  subst eA
  subst eB
  subst eC
  refine W.mula hx hb hown (hts _ w) f20 a2 a3 b2 b3 rfl d rfl hn hm hN hK hby.1 hby.2 (by rw [hmc]; exact hc.1) (by rw [hms]; exact hc.2) hHz fun H1 Ls g1 g2 g3 g4 g5 => ?_
  have hPn : va_P D vwCl (Ws b cy (newM sh N K) (clrM σ sh.1 N)) H1 := by
    intro i x hx'
    obtain ⟨hi, rfl⟩ := Ws_get2 hx'
    have hi : i < sh.1 + (1 + N) := hi
    rcases (show i < sh.1 ∨ i = sh.1 ∨ (sh.1 < i ∧ i < sh.1 + (1 + N)) by omega) with y | y | y
    · have hold := (hP.kept (fun k x hx => g4 x.1 (by have := (hP k x hx).lt; omega))) i _ (Ws_get (b := b) (cy := cy) (σ := σ) y)
      rw [show cellE b cy (newM sh N K) (clrM σ sh.1 N) i = cellE b cy sh σ i from cellE_cg2 ((if_neg (by omega)).trans (if_neg (by omega))) ((if_neg (by omega)).trans (if_neg (by omega))) rfl (if_neg (by omega)) (if_neg (by omega))]
      exact hold
    · subst y
      rw [cellE_r (kd := 20) (if_pos rfl) (by decide)]
      show H1[b + sh.1]? = some (arrV (cy 20) ((newM sh N K).2.2 sh.1) (fun j => va_rf (((clrM σ sh.1 N).2.2 sh.1 j).map (fun x => b + x))))
      rw [g3, show (newM sh N K).2.2 sh.1 = N from if_pos rfl, show (clrM σ sh.1 N).2.2 sh.1 = (fun i => if i < N then some (sh.1 + 1 + i) else none) from if_pos rfl]
      refine congrArg some (congrArg (arrV (cy 20) N) (funext fun j => ?_))
      by_cases h : j < N
      · rw [if_pos h]
        show _ = va_rf (Option.map (fun x => b + x) (if j < N then some (sh.1 + 1 + j) else none))
        rw [if_pos h]
        exact congrArg Value.ref (show (b + sh.1 + 1 + j : Nat) = b + (sh.1 + 1 + j) by omega)
      · rw [if_neg h]
        show _ = va_rf (Option.map (fun x => b + x) (if j < N then some (sh.1 + 1 + j) else none))
        rw [if_neg h]
        rfl
    · rw [cellE_l ((if_neg (by omega)).trans (if_pos y))]
      show H1[b + i]? = some (arrV (cy 14) ((newM sh N K).2.2 i) (fun j => .long ((clrM σ sh.1 N).2.1 i j)))
      rw [show (newM sh N K).2.2 i = K from (if_neg (by omega)).trans (if_pos y), show (clrM σ sh.1 N).2.1 i = (fun _ => 0) from if_pos y, show b + i = b + sh.1 + 1 + (i - sh.1 - 1) by omega]
      exact g5 (i - sh.1 - 1) (by omega)
  have hDn : va_D A (Ws b cy (newM sh N K) (clrM σ sh.1 N)) := by
    refine ⟨fun i j x y h1 h2 h3 => ?_, fun i x h1 => ?_⟩
    · obtain ⟨-, rfl⟩ := Ws_get2 h1
      obtain ⟨-, rfl⟩ := Ws_get2 h2
      have h3 : b + i = b + j := h3
      omega
    · obtain ⟨-, rfl⟩ := Ws_get2 h1
      show A (b + i)
      rcases (show i < sh.1 ∨ sh.1 ≤ i by omega) with y | y
      · exact hD.2 i _ (Ws_get (b := b) (cy := cy) (σ := σ) y)
      · exact hA _ (by have := hS.1; omega)
  have hg := kk H1 (locs ++ Ls) ls hl hPn hDn ⟨by have := hS.1; omega, fun x h1 h2 => (g4 x (by have := hS.1; omega)).trans (hS.2.1 x h1 h2), fun x hx => by
    rcases List.mem_append.mp hx with y | y
    · exact hS.2.2 x y
    · rw [g1 x y]
      exact hA _ (by have := hS.1; omega)⟩ (fun _ => by
    show H1.size = b + (sh.1 + (1 + N))
    omega)
  exact hg
end ROWSM
theorem cl_uniq {ci : Nat} {C C' : String} {T T' : u_T} (h : CL ci C T) (h' : CL ci C' T') : C = C' := by
  have e := h.2.1.symm.trans h'.2.1
  exact (Prod.mk.inj (Option.some.inj e)).1
theorem w174 : Cond.methodLink RX11 3 Lib.objectInit ∈ tbl := mt 174 (by decide +kernel) (by decide +kernel)
theorem w175 : Cond.instanceMethod Lib.objectInit ∈ tbl := mt 175 (by decide +kernel) (by decide +kernel)
theorem w176 : Cond.code Lib.objectInit ⟨#[0xb1]⟩ 1 none ∈ tbl := mt 176 (by decide +kernel) (by decide +kernel)
theorem w177 : Cond.classLink RX11 9 RX8 ∈ tbl := mt 177 (by decide +kernel) (by decide +kernel)
theorem w178 : Cond.instantiable RX8 8 ∈ tbl := mt 178 (by decide +kernel) (by decide +kernel)
theorem w179 : Cond.methodLink RX11 11 yX8_init ∈ tbl := mt 179 (by decide +kernel) (by decide +kernel)
theorem w180 : Cond.instanceMethod yX8_init ∈ tbl := mt 180 (by decide +kernel) (by decide +kernel)
theorem w181 : Cond.code yX8_init cX8_init 2 none ∈ tbl := mt 181 (by decide +kernel) (by decide +kernel)
theorem w182 : Cond.methodLink RX8 3 Lib.objectInit ∈ tbl := mt 182 (by decide +kernel) (by decide +kernel)
theorem w183 : Cond.classLink RX8 25 RX9 ∈ tbl := mt 183 (by decide +kernel) (by decide +kernel)
theorem w185 : Cond.classLink RX8 31 RX4 ∈ tbl := mt 185 (by decide +kernel) (by decide +kernel)
theorem w187 : Cond.classLink RX8 37 RX6 ∈ tbl := mt 187 (by decide +kernel) (by decide +kernel)
theorem w189 : Cond.instantiable RX9 10 ∈ tbl := mt 189 (by decide +kernel) (by decide +kernel)
theorem w190 : Cond.methodLink RX8 43 yX9_init ∈ tbl := mt 190 (by decide +kernel) (by decide +kernel)
theorem w191 : Cond.instanceMethod yX9_init ∈ tbl := mt 191 (by decide +kernel) (by decide +kernel)
theorem w192 : Cond.code yX9_init cX9_init 1 none ∈ tbl := mt 192 (by decide +kernel) (by decide +kernel)
theorem w193 : Cond.methodLink RX9 3 Lib.objectInit ∈ tbl := mt 193 (by decide +kernel) (by decide +kernel)
theorem w259 : Cond.arrayClass .int ∈ tbl := mt 259 (by decide +kernel) (by decide +kernel)
theorem w260 : Cond.instantiable RX4 5 ∈ tbl := mt 260 (by decide +kernel) (by decide +kernel)
theorem w261 : Cond.methodLink RX8 44 yX4_init ∈ tbl := mt 261 (by decide +kernel) (by decide +kernel)
theorem w262 : Cond.instanceMethod yX4_init ∈ tbl := mt 262 (by decide +kernel) (by decide +kernel)
theorem w263 : Cond.code yX4_init cX4_init 1 none ∈ tbl := mt 263 (by decide +kernel) (by decide +kernel)
theorem w264 : Cond.methodLink RX4 3 Lib.objectInit ∈ tbl := mt 264 (by decide +kernel) (by decide +kernel)
theorem w292 : Cond.instantiable RX6 4 ∈ tbl := mt 292 (by decide +kernel) (by decide +kernel)
theorem w293 : Cond.methodLink RX8 45 yX6_init ∈ tbl := mt 293 (by decide +kernel) (by decide +kernel)
theorem w294 : Cond.instanceMethod yX6_init ∈ tbl := mt 294 (by decide +kernel) (by decide +kernel)
theorem w295 : Cond.code yX6_init cX6_init 1 none ∈ tbl := mt 295 (by decide +kernel) (by decide +kernel)
theorem w296 : Cond.methodLink RX6 3 Lib.objectInit ∈ tbl := mt 296 (by decide +kernel) (by decide +kernel)
theorem w348 : Cond.classLink RX11 24 RX5 ∈ tbl := mt 348 (by decide +kernel) (by decide +kernel)
theorem w349 : Cond.instantiable RX5 13 ∈ tbl := mt 349 (by decide +kernel) (by decide +kernel)
theorem w350 : Cond.methodLink RX11 26 yX5_init ∈ tbl := mt 350 (by decide +kernel) (by decide +kernel)
theorem w351 : Cond.instanceMethod yX5_init ∈ tbl := mt 351 (by decide +kernel) (by decide +kernel)
theorem w352 : Cond.code yX5_init cX5_init 1 none ∈ tbl := mt 352 (by decide +kernel) (by decide +kernel)
theorem w353 : Cond.methodLink RX5 3 Lib.objectInit ∈ tbl := mt 353 (by decide +kernel) (by decide +kernel)
theorem w354 : Cond.classLink RX5 9 RX9 ∈ tbl := mt 354 (by decide +kernel) (by decide +kernel)
theorem w355 : Cond.methodLink RX5 11 yX9_init ∈ tbl := mt 355 (by decide +kernel) (by decide +kernel)
theorem w356 : Cond.classLink RX5 18 RX4 ∈ tbl := mt 356 (by decide +kernel) (by decide +kernel)
theorem w357 : Cond.methodLink RX5 20 yX4_init ∈ tbl := mt 357 (by decide +kernel) (by decide +kernel)
theorem w358 : Cond.classLink RX5 25 RX6 ∈ tbl := mt 358 (by decide +kernel) (by decide +kernel)
theorem w359 : Cond.methodLink RX5 27 yX6_init ∈ tbl := mt 359 (by decide +kernel) (by decide +kernel)
theorem w405 : Cond.arrayClass .boolean ∈ tbl := mt 405 (by decide +kernel) (by decide +kernel)
theorem w406 : Cond.classLink RX11 31 RX10 ∈ tbl := mt 406 (by decide +kernel) (by decide +kernel)
theorem w407 : Cond.instantiable RX10 20 ∈ tbl := mt 407 (by decide +kernel) (by decide +kernel)
theorem w408 : Cond.methodLink RX11 33 yX10_init ∈ tbl := mt 408 (by decide +kernel) (by decide +kernel)
theorem w409 : Cond.instanceMethod yX10_init ∈ tbl := mt 409 (by decide +kernel) (by decide +kernel)
theorem w410 : Cond.code yX10_init cX10_init 1 none ∈ tbl := mt 410 (by decide +kernel) (by decide +kernel)
theorem w411 : Cond.methodLink RX10 3 Lib.objectInit ∈ tbl := mt 411 (by decide +kernel) (by decide +kernel)
theorem w473 : Cond.classLink RX11 38 RX2 ∈ tbl := mt 473 (by decide +kernel) (by decide +kernel)
theorem w474 : Cond.instantiable RX2 7 ∈ tbl := mt 474 (by decide +kernel) (by decide +kernel)
theorem w475 : Cond.methodLink RX11 40 yX2_init ∈ tbl := mt 475 (by decide +kernel) (by decide +kernel)
theorem w476 : Cond.instanceMethod yX2_init ∈ tbl := mt 476 (by decide +kernel) (by decide +kernel)
theorem w477 : Cond.code yX2_init cX2_init 1 none ∈ tbl := mt 477 (by decide +kernel) (by decide +kernel)
theorem w478 : Cond.methodLink RX2 3 Lib.objectInit ∈ tbl := mt 478 (by decide +kernel) (by decide +kernel)
theorem w503 : Cond.classLink RX11 45 RX7 ∈ tbl := mt 503 (by decide +kernel) (by decide +kernel)
theorem w504 : Cond.instantiable RX7 2 ∈ tbl := mt 504 (by decide +kernel) (by decide +kernel)
theorem w505 : Cond.methodLink RX11 47 yX7_init ∈ tbl := mt 505 (by decide +kernel) (by decide +kernel)
theorem w506 : Cond.instanceMethod yX7_init ∈ tbl := mt 506 (by decide +kernel) (by decide +kernel)
theorem w507 : Cond.code yX7_init cX7_init 1 none ∈ tbl := mt 507 (by decide +kernel) (by decide +kernel)
theorem w508 : Cond.methodLink RX7 3 Lib.objectInit ∈ tbl := mt 508 (by decide +kernel) (by decide +kernel)
theorem w516 : Cond.classLink RX11 52 RX1 ∈ tbl := mt 516 (by decide +kernel) (by decide +kernel)
theorem w517 : Cond.instantiable RX1 12 ∈ tbl := mt 517 (by decide +kernel) (by decide +kernel)
theorem w518 : Cond.methodLink RX11 54 yX1_init ∈ tbl := mt 518 (by decide +kernel) (by decide +kernel)
theorem w519 : Cond.instanceMethod yX1_init ∈ tbl := mt 519 (by decide +kernel) (by decide +kernel)
theorem w520 : Cond.code yX1_init cX1_init 1 none ∈ tbl := mt 520 (by decide +kernel) (by decide +kernel)
theorem w521 : Cond.methodLink RX1 3 Lib.objectInit ∈ tbl := mt 521 (by decide +kernel) (by decide +kernel)
theorem w562 : Cond.classLink RX11 59 RX3 ∈ tbl := mt 562 (by decide +kernel) (by decide +kernel)
theorem w563 : Cond.instantiable RX3 7 ∈ tbl := mt 563 (by decide +kernel) (by decide +kernel)
theorem w564 : Cond.methodLink RX11 61 yX3_init ∈ tbl := mt 564 (by decide +kernel) (by decide +kernel)
theorem w565 : Cond.instanceMethod yX3_init ∈ tbl := mt 565 (by decide +kernel) (by decide +kernel)
theorem w566 : Cond.code yX3_init cX3_init 1 none ∈ tbl := mt 566 (by decide +kernel) (by decide +kernel)
theorem w567 : Cond.methodLink RX3 5 Lib.objectInit ∈ tbl := mt 567 (by decide +kernel) (by decide +kernel)
theorem w568 : Cond.classLink RX3 18 "[[J" ∈ tbl := mt 568 (by decide +kernel) (by decide +kernel)
theorem w594 : Cond.arrayClass .long ∈ tbl := mt 594 (by decide +kernel) (by decide +kernel)
theorem w595 : Cond.classLink RX11 66 RX0 ∈ tbl := mt 595 (by decide +kernel) (by decide +kernel)
theorem w596 : Cond.instantiable RX0 6 ∈ tbl := mt 596 (by decide +kernel) (by decide +kernel)
theorem w597 : Cond.methodLink RX11 68 yX0_init ∈ tbl := mt 597 (by decide +kernel) (by decide +kernel)
theorem w598 : Cond.instanceMethod yX0_init ∈ tbl := mt 598 (by decide +kernel) (by decide +kernel)
theorem w599 : Cond.code yX0_init cX0_init 1 none ∈ tbl := mt 599 (by decide +kernel) (by decide +kernel)
theorem w600 : Cond.methodLink RX0 3 Lib.objectInit ∈ tbl := mt 600 (by decide +kernel) (by decide +kernel)
theorem w1456 : Cond.methodLink RX12 1 Lib.objectInit ∈ tbl := mt 1456 (by decide +kernel) (by decide +kernel)
def f_X9_init (a0 : Nat) (sh : Sh) (σ : Dt) : Option (Sh × Dt) := bo (xnA sh 13 10 σ) fun p1 => bo (xpr p1.1 9 3 (some a0) (some sh.1) p1.2) fun σ3 => bo (xnA p1.1 13 10 σ3) fun p5 => bo (xpr p5.1 9 4 (some a0) (some p1.1.1) p5.2) fun σ7 => bo (xnA p5.1 13 10 σ7) fun p9 => bo (xpr p9.1 9 5 (some a0) (some p5.1.1) p9.2) fun σ11 => bo (xnA p9.1 13 10 σ11) fun p13 => bo (xpr p13.1 9 6 (some a0) (some p9.1.1) p13.2) fun σ15 => bo (xnA p13.1 13 10 σ15) fun p17 => bo (xpr p17.1 9 7 (some a0) (some p13.1.1) p17.2) fun σ19 => bo (xnA p17.1 13 6 σ19) fun p21 => bo (xpr p21.1 9 8 (some a0) (some p17.1.1) p21.2) fun σ23 => bo (xnA p21.1 13 6 σ23) fun p25 => bo (xpr p25.1 9 9 (some a0) (some p21.1.1) p25.2) fun σ27 => bo (xpi p25.1 9 0 (some a0) (0 : Int32) σ27) fun σ29 => bo (xpi p25.1 9 1 (some a0) (0 : Int32) σ29) fun σ31 => bo (xpi p25.1 9 2 (some a0) (20 : Int32) σ31) fun σ33 => some (p25.1, σ33)
theorem c_X9_init (l0 : Launch) (a0 : Nat) (sh : Sh) (σ : Dt) (r : Sh × Dt) (h : f_X9_init a0 sh σ = some r) : Ctr l0 yX9_init cX9_init 1 none true 2 80 7 62 [vA (some a0)] sh σ r.1 r.2 none := by
  unfold f_X9_init at h
  refine ctr_of (by decide) (Nat.le_of_ble_eq_true rfl) (fun M O F R0 hal hn => ?_)
  refine g_sub [0] (lv' := [(0, vA (some a0))]) rfl ?_
  refine g_aload_n O dX9_init_0 rfl 0 rfl ?_
  refine g_objInit (r := none) O R0 dX9_init_1 w193 w175 w176 (Nat.le_of_ble_eq_true rfl) (Nat.le_of_ble_eq_true rfl) ?_
  refine g_aload_n O dX9_init_4 rfl 0 rfl ?_
  refine g_bipush (v := (10 : Int32)) O dX9_init_5 rfl ?_
  obtain ⟨p1, e2, h⟩ := bo_some h
  refine c_newI O R0 hal dX9_init_7 w259 (by decide) rfl (Nat.le_of_ble_eq_true rfl) 1 10 rfl rfl ⟨by decide, by decide⟩ e2 ?_
  obtain ⟨σ3, e4, h⟩ := bo_some h
  refine g_putR O dX9_init_9 fl_X9_9 (Or.inr ⟨rfl, fun T C h => cl_uniq clX9 h⟩) rfl e4 ?_
  refine g_aload_n O dX9_init_12 rfl 0 rfl ?_
  refine g_bipush (v := (10 : Int32)) O dX9_init_13 rfl ?_
  obtain ⟨p5, e6, h⟩ := bo_some h
  refine c_newI O R0 hal dX9_init_15 w259 (by decide) rfl (Nat.le_of_ble_eq_true rfl) 2 20 rfl rfl ⟨by decide, by decide⟩ e6 ?_
  obtain ⟨σ7, e8, h⟩ := bo_some h
  refine g_putR O dX9_init_17 fl_X9_15 (Or.inr ⟨rfl, fun T C h => cl_uniq clX9 h⟩) rfl e8 ?_
  refine g_aload_n O dX9_init_20 rfl 0 rfl ?_
  refine g_bipush (v := (10 : Int32)) O dX9_init_21 rfl ?_
  obtain ⟨p9, e10, h⟩ := bo_some h
  refine c_newI O R0 hal dX9_init_23 w259 (by decide) rfl (Nat.le_of_ble_eq_true rfl) 3 30 rfl rfl ⟨by decide, by decide⟩ e10 ?_
  obtain ⟨σ11, e12, h⟩ := bo_some h
  refine g_putR O dX9_init_25 fl_X9_18 (Or.inr ⟨rfl, fun T C h => cl_uniq clX9 h⟩) rfl e12 ?_
  refine g_aload_n O dX9_init_28 rfl 0 rfl ?_
  refine g_bipush (v := (10 : Int32)) O dX9_init_29 rfl ?_
  obtain ⟨p13, e14, h⟩ := bo_some h
  refine c_newI O R0 hal dX9_init_31 w259 (by decide) rfl (Nat.le_of_ble_eq_true rfl) 4 40 rfl rfl ⟨by decide, by decide⟩ e14 ?_
  obtain ⟨σ15, e16, h⟩ := bo_some h
  refine g_putR O dX9_init_33 fl_X9_21 (Or.inr ⟨rfl, fun T C h => cl_uniq clX9 h⟩) rfl e16 ?_
  refine g_aload_n O dX9_init_36 rfl 0 rfl ?_
  refine g_bipush (v := (10 : Int32)) O dX9_init_37 rfl ?_
  obtain ⟨p17, e18, h⟩ := bo_some h
  refine c_newI O R0 hal dX9_init_39 w259 (by decide) rfl (Nat.le_of_ble_eq_true rfl) 5 50 rfl rfl ⟨by decide, by decide⟩ e18 ?_
  obtain ⟨σ19, e20, h⟩ := bo_some h
  refine g_putR O dX9_init_41 fl_X9_24 (Or.inr ⟨rfl, fun T C h => cl_uniq clX9 h⟩) rfl e20 ?_
  refine g_aload_n O dX9_init_44 rfl 0 rfl ?_
  refine g_bipush (v := (6 : Int32)) O dX9_init_45 rfl ?_
  obtain ⟨p21, e22, h⟩ := bo_some h
  refine c_newI O R0 hal dX9_init_47 w259 (by decide) rfl (Nat.le_of_ble_eq_true rfl) 6 56 rfl rfl ⟨by decide, by decide⟩ e22 ?_
  obtain ⟨σ23, e24, h⟩ := bo_some h
  refine g_putR O dX9_init_49 fl_X9_27 (Or.inr ⟨rfl, fun T C h => cl_uniq clX9 h⟩) rfl e24 ?_
  refine g_aload_n O dX9_init_52 rfl 0 rfl ?_
  refine g_bipush (v := (6 : Int32)) O dX9_init_53 rfl ?_
  obtain ⟨p25, e26, h⟩ := bo_some h
  refine c_newI O R0 hal dX9_init_55 w259 (by decide) rfl (Nat.le_of_ble_eq_true rfl) 7 62 rfl rfl ⟨by decide, by decide⟩ e26 ?_
  obtain ⟨σ27, e28, h⟩ := bo_some h
  refine g_putR O dX9_init_57 fl_X9_30 (Or.inr ⟨rfl, fun T C h => cl_uniq clX9 h⟩) rfl e28 ?_
  refine g_aload_n O dX9_init_60 rfl 0 rfl ?_
  refine g_iconst (v := (0 : Int32)) O dX9_init_61 rfl ?_
  obtain ⟨σ29, e30, h⟩ := bo_some h
  refine g_putI O dX9_init_62 fl_X9_33 (Or.inl rfl) rfl e30 ?_
  refine g_aload_n O dX9_init_65 rfl 0 rfl ?_
  refine g_iconst (v := (0 : Int32)) O dX9_init_66 rfl ?_
  obtain ⟨σ31, e32, h⟩ := bo_some h
  refine g_putI O dX9_init_67 fl_X9_37 (Or.inl rfl) rfl e32 ?_
  refine g_aload_n O dX9_init_70 rfl 0 rfl ?_
  refine g_bipush (v := (20 : Int32)) O dX9_init_71 rfl ?_
  obtain ⟨σ33, e34, h⟩ := bo_some h
  refine g_putI O dX9_init_73 fl_X9_40 (Or.inl rfl) rfl e34 ?_
  cases h
  exact g_return O F dX9_init_76
def f_X4_init (a0 : Nat) (sh : Sh) (σ : Dt) : Option (Sh × Dt) := bo (xnA sh 13 40 σ) fun p1 => bo (xpr p1.1 4 1 (some a0) (some sh.1) p1.2) fun σ3 => bo (xnA p1.1 13 40 σ3) fun p5 => bo (xpr p5.1 4 2 (some a0) (some p1.1.1) p5.2) fun σ7 => bo (xnA p5.1 13 40 σ7) fun p9 => bo (xpr p9.1 4 3 (some a0) (some p5.1.1) p9.2) fun σ11 => bo (xnA p9.1 13 40 σ11) fun p13 => bo (xpr p13.1 4 4 (some a0) (some p9.1.1) p13.2) fun σ15 => bo (xpi p13.1 4 0 (some a0) (0 : Int32) σ15) fun σ17 => some (p13.1, σ17)
theorem c_X4_init (l0 : Launch) (a0 : Nat) (sh : Sh) (σ : Dt) (r : Sh × Dt) (h : f_X4_init a0 sh σ = some r) : Ctr l0 yX4_init cX4_init 1 none true 2 80 4 160 [vA (some a0)] sh σ r.1 r.2 none := by
  unfold f_X4_init at h
  refine ctr_of (by decide) (Nat.le_of_ble_eq_true rfl) (fun M O F R0 hal hn => ?_)
  refine g_sub [0] (lv' := [(0, vA (some a0))]) rfl ?_
  refine g_aload_n O dX4_init_0 rfl 0 rfl ?_
  refine g_objInit (r := none) O R0 dX4_init_1 w264 w175 w176 (Nat.le_of_ble_eq_true rfl) (Nat.le_of_ble_eq_true rfl) ?_
  refine g_aload_n O dX4_init_4 rfl 0 rfl ?_
  refine g_bipush (v := (40 : Int32)) O dX4_init_5 rfl ?_
  obtain ⟨p1, e2, h⟩ := bo_some h
  refine c_newI O R0 hal dX4_init_7 w259 (by decide) rfl (Nat.le_of_ble_eq_true rfl) 1 40 rfl rfl ⟨by decide, by decide⟩ e2 ?_
  obtain ⟨σ3, e4, h⟩ := bo_some h
  refine g_putR O dX4_init_9 fl_X4_9 (Or.inr ⟨rfl, fun T C h => cl_uniq clX4 h⟩) rfl e4 ?_
  refine g_aload_n O dX4_init_12 rfl 0 rfl ?_
  refine g_bipush (v := (40 : Int32)) O dX4_init_13 rfl ?_
  obtain ⟨p5, e6, h⟩ := bo_some h
  refine c_newI O R0 hal dX4_init_15 w259 (by decide) rfl (Nat.le_of_ble_eq_true rfl) 2 80 rfl rfl ⟨by decide, by decide⟩ e6 ?_
  obtain ⟨σ7, e8, h⟩ := bo_some h
  refine g_putR O dX4_init_17 fl_X4_15 (Or.inr ⟨rfl, fun T C h => cl_uniq clX4 h⟩) rfl e8 ?_
  refine g_aload_n O dX4_init_20 rfl 0 rfl ?_
  refine g_bipush (v := (40 : Int32)) O dX4_init_21 rfl ?_
  obtain ⟨p9, e10, h⟩ := bo_some h
  refine c_newI O R0 hal dX4_init_23 w259 (by decide) rfl (Nat.le_of_ble_eq_true rfl) 3 120 rfl rfl ⟨by decide, by decide⟩ e10 ?_
  obtain ⟨σ11, e12, h⟩ := bo_some h
  refine g_putR O dX4_init_25 fl_X4_18 (Or.inr ⟨rfl, fun T C h => cl_uniq clX4 h⟩) rfl e12 ?_
  refine g_aload_n O dX4_init_28 rfl 0 rfl ?_
  refine g_bipush (v := (40 : Int32)) O dX4_init_29 rfl ?_
  obtain ⟨p13, e14, h⟩ := bo_some h
  refine c_newI O R0 hal dX4_init_31 w259 (by decide) rfl (Nat.le_of_ble_eq_true rfl) 4 160 rfl rfl ⟨by decide, by decide⟩ e14 ?_
  obtain ⟨σ15, e16, h⟩ := bo_some h
  refine g_putR O dX4_init_33 fl_X4_21 (Or.inr ⟨rfl, fun T C h => cl_uniq clX4 h⟩) rfl e16 ?_
  refine g_aload_n O dX4_init_36 rfl 0 rfl ?_
  refine g_iconst (v := (0 : Int32)) O dX4_init_37 rfl ?_
  obtain ⟨σ17, e18, h⟩ := bo_some h
  refine g_putI O dX4_init_38 fl_X4_24 (Or.inl rfl) rfl e18 ?_
  cases h
  exact g_return O F dX4_init_41
def f_X6_init (a0 : Nat) (sh : Sh) (σ : Dt) : Option (Sh × Dt) := bo (xnA sh 13 8 σ) fun p1 => bo (xpr p1.1 6 2 (some a0) (some sh.1) p1.2) fun σ3 => bo (xnA p1.1 13 8 σ3) fun p5 => bo (xpr p5.1 6 3 (some a0) (some p1.1.1) p5.2) fun σ7 => bo (xpi p5.1 6 0 (some a0) (1 : Int32) σ7) fun σ9 => bo (xpi p5.1 6 1 (some a0) (0 : Int32) σ9) fun σ11 => some (p5.1, σ11)
theorem c_X6_init (l0 : Launch) (a0 : Nat) (sh : Sh) (σ : Dt) (r : Sh × Dt) (h : f_X6_init a0 sh σ = some r) : Ctr l0 yX6_init cX6_init 1 none true 2 80 2 16 [vA (some a0)] sh σ r.1 r.2 none := by
  unfold f_X6_init at h
  refine ctr_of (by decide) (Nat.le_of_ble_eq_true rfl) (fun M O F R0 hal hn => ?_)
  refine g_sub [0] (lv' := [(0, vA (some a0))]) rfl ?_
  refine g_aload_n O dX6_init_0 rfl 0 rfl ?_
  refine g_objInit (r := none) O R0 dX6_init_1 w296 w175 w176 (Nat.le_of_ble_eq_true rfl) (Nat.le_of_ble_eq_true rfl) ?_
  refine g_aload_n O dX6_init_4 rfl 0 rfl ?_
  refine g_bipush (v := (8 : Int32)) O dX6_init_5 rfl ?_
  obtain ⟨p1, e2, h⟩ := bo_some h
  refine c_newI O R0 hal dX6_init_7 w259 (by decide) rfl (Nat.le_of_ble_eq_true rfl) 1 8 rfl rfl ⟨by decide, by decide⟩ e2 ?_
  obtain ⟨σ3, e4, h⟩ := bo_some h
  refine g_putR O dX6_init_9 fl_X6_9 (Or.inr ⟨rfl, fun T C h => cl_uniq clX6 h⟩) rfl e4 ?_
  refine g_aload_n O dX6_init_12 rfl 0 rfl ?_
  refine g_bipush (v := (8 : Int32)) O dX6_init_13 rfl ?_
  obtain ⟨p5, e6, h⟩ := bo_some h
  refine c_newI O R0 hal dX6_init_15 w259 (by decide) rfl (Nat.le_of_ble_eq_true rfl) 2 16 rfl rfl ⟨by decide, by decide⟩ e6 ?_
  obtain ⟨σ7, e8, h⟩ := bo_some h
  refine g_putR O dX6_init_17 fl_X6_15 (Or.inr ⟨rfl, fun T C h => cl_uniq clX6 h⟩) rfl e8 ?_
  refine g_aload_n O dX6_init_20 rfl 0 rfl ?_
  refine g_iconst (v := (1 : Int32)) O dX6_init_21 rfl ?_
  obtain ⟨σ9, e10, h⟩ := bo_some h
  refine g_putI O dX6_init_22 fl_X6_18 (Or.inl rfl) rfl e10 ?_
  refine g_aload_n O dX6_init_25 rfl 0 rfl ?_
  refine g_iconst (v := (0 : Int32)) O dX6_init_26 rfl ?_
  obtain ⟨σ11, e12, h⟩ := bo_some h
  refine g_putI O dX6_init_27 fl_X6_22 (Or.inl rfl) rfl e12 ?_
  cases h
  exact g_return O F dX6_init_30
def f_X8_init (a0 : Nat) (sh : Sh) (σ : Dt) : Option (Sh × Dt) := bo (xnA sh 13 600 σ) fun p1 => bo (xpr p1.1 8 0 (some a0) (some sh.1) p1.2) fun σ3 => bo (xpi p1.1 8 1 (some a0) (0 : Int32) σ3) fun σ5 => bo (xpi p1.1 8 2 (some a0) (0 : Int32) σ5) fun σ7 => bo (xpi p1.1 8 3 (some a0) (-1 : Int32) σ7) fun σ9 => bo (xnA p1.1 19 2 σ9) fun p11 => bo (xpr p11.1 8 4 (some a0) (some p1.1.1) p11.2) fun σ13 => bo (xnA p11.1 16 2 σ13) fun p15 => bo (xpr p15.1 8 5 (some a0) (some p11.1.1) p15.2) fun σ17 => bo (xnA p15.1 17 2 σ17) fun p19 => bo (xpr p19.1 8 6 (some a0) (some p15.1.1) p19.2) fun σ21 => bo (xgr p19.1 8 4 (some a0) σ21) fun v23 => bo (xnO p19.1 9 σ21) fun p25 => bo (f_X9_init (p19.1.1) p25.1 p25.2) fun p27 => bo (xsr p27.1 19 9 v23 (0 : Int32) (some p19.1.1) p27.2) fun σ29 => bo (xgr p27.1 8 5 (some a0) σ29) fun v31 => bo (xnO p27.1 4 σ29) fun p33 => bo (f_X4_init (p27.1.1) p33.1 p33.2) fun p35 => bo (xsr p35.1 16 4 v31 (0 : Int32) (some p27.1.1) p35.2) fun σ37 => bo (xgr p35.1 8 6 (some a0) σ37) fun v39 => bo (xnO p35.1 6 σ37) fun p41 => bo (f_X6_init (p35.1.1) p41.1 p41.2) fun p43 => bo (xsr p43.1 17 6 v39 (0 : Int32) (some p35.1.1) p43.2) fun σ45 => bo (xgr p43.1 8 4 (some a0) σ45) fun v47 => bo (xnO p43.1 9 σ45) fun p49 => bo (f_X9_init (p43.1.1) p49.1 p49.2) fun p51 => bo (xsr p51.1 19 9 v47 (1 : Int32) (some p43.1.1) p51.2) fun σ53 => bo (xgr p51.1 8 5 (some a0) σ53) fun v55 => bo (xnO p51.1 4 σ53) fun p57 => bo (f_X4_init (p51.1.1) p57.1 p57.2) fun p59 => bo (xsr p59.1 16 4 v55 (1 : Int32) (some p51.1.1) p59.2) fun σ61 => bo (xgr p59.1 8 6 (some a0) σ61) fun v63 => bo (xnO p59.1 6 σ61) fun p65 => bo (f_X6_init (p59.1.1) p65.1 p65.2) fun p67 => bo (xsr p67.1 17 6 v63 (1 : Int32) (some p59.1.1) p67.2) fun σ69 => bo (xnA p67.1 13 3 σ69) fun p71 => bo (xpr p71.1 8 7 (some a0) (some p67.1.1) p71.2) fun σ73 => some (p71.1, σ73)
theorem c_X8_init (l0 : Launch) (a0 : Nat) (sh : Sh) (σ : Dt) (r : Sh × Dt) (h : f_X8_init a0 sh σ = some r) : Ctr l0 yX8_init cX8_init 2 none true 3 100 37 1123 [vA (some a0)] sh σ r.1 r.2 none := by
  unfold f_X8_init at h
  refine ctr_of (by decide) (Nat.le_of_ble_eq_true rfl) (fun M O F R0 hal hn => ?_)
  refine g_sub [0] (lv' := [(0, vA (some a0))]) rfl ?_
  refine g_aload_n O dX8_init_0 rfl 0 rfl ?_
  refine g_objInit (r := none) O R0 dX8_init_1 w182 w175 w176 (Nat.le_of_ble_eq_true rfl) (Nat.le_of_ble_eq_true rfl) ?_
  refine g_aload_n O dX8_init_4 rfl 0 rfl ?_
  refine g_sipush (v := (600 : Int32)) O dX8_init_5 rfl ?_
  obtain ⟨p1, e2, h⟩ := bo_some h
  refine c_newI O R0 hal dX8_init_8 w259 (by decide) rfl (Nat.le_of_ble_eq_true rfl) 1 600 rfl rfl ⟨by decide, by decide⟩ e2 ?_
  obtain ⟨σ3, e4, h⟩ := bo_some h
  refine g_putR O dX8_init_10 fl_X8_9 (Or.inr ⟨rfl, fun T C h => cl_uniq clX8 h⟩) rfl e4 ?_
  refine g_aload_n O dX8_init_13 rfl 0 rfl ?_
  refine g_iconst (v := (0 : Int32)) O dX8_init_14 rfl ?_
  obtain ⟨σ5, e6, h⟩ := bo_some h
  refine g_putI O dX8_init_15 fl_X8_15 (Or.inl rfl) rfl e6 ?_
  refine g_aload_n O dX8_init_18 rfl 0 rfl ?_
  refine g_iconst (v := (0 : Int32)) O dX8_init_19 rfl ?_
  obtain ⟨σ7, e8, h⟩ := bo_some h
  refine g_putI O dX8_init_20 fl_X8_19 (Or.inl rfl) rfl e8 ?_
  refine g_aload_n O dX8_init_23 rfl 0 rfl ?_
  refine g_iconst (v := (-1 : Int32)) O dX8_init_24 rfl ?_
  obtain ⟨σ9, e10, h⟩ := bo_some h
  refine g_putI O dX8_init_25 fl_X8_22 (Or.inl rfl) rfl e10 ?_
  refine g_aload_n O dX8_init_28 rfl 0 rfl ?_
  refine g_iconst (v := (2 : Int32)) O dX8_init_29 rfl ?_
  obtain ⟨p11, e12, h⟩ := bo_some h
  refine c_newR (kd := 19) (C := RX9) O R0 hal dX8_init_30 w183 (by decide) (fun _ => rfl) (fun _ h => h.2.2.2.1) (by decide) rfl (Nat.le_of_ble_eq_true rfl) 2 602 rfl rfl ⟨by decide, by decide⟩ e12 ?_
  obtain ⟨σ13, e14, h⟩ := bo_some h
  refine g_putR O dX8_init_33 fl_X8_27 (Or.inr ⟨rfl, fun T C h => cl_uniq clX8 h⟩) rfl e14 ?_
  refine g_aload_n O dX8_init_36 rfl 0 rfl ?_
  refine g_iconst (v := (2 : Int32)) O dX8_init_37 rfl ?_
  obtain ⟨p15, e16, h⟩ := bo_some h
  refine c_newR (kd := 16) (C := RX4) O R0 hal dX8_init_38 w185 (by decide) (fun _ => rfl) (fun _ h => h.1) (by decide) rfl (Nat.le_of_ble_eq_true rfl) 3 604 rfl rfl ⟨by decide, by decide⟩ e16 ?_
  obtain ⟨σ17, e18, h⟩ := bo_some h
  refine g_putR O dX8_init_41 fl_X8_33 (Or.inr ⟨rfl, fun T C h => cl_uniq clX8 h⟩) rfl e18 ?_
  refine g_aload_n O dX8_init_44 rfl 0 rfl ?_
  refine g_iconst (v := (2 : Int32)) O dX8_init_45 rfl ?_
  obtain ⟨p19, e20, h⟩ := bo_some h
  refine c_newR (kd := 17) (C := RX6) O R0 hal dX8_init_46 w187 (by decide) (fun _ => rfl) (fun _ h => h.2.1) (by decide) rfl (Nat.le_of_ble_eq_true rfl) 4 606 rfl rfl ⟨by decide, by decide⟩ e20 ?_
  obtain ⟨σ21, e22, h⟩ := bo_some h
  refine g_putR O dX8_init_49 fl_X8_39 (Or.inr ⟨rfl, fun T C h => cl_uniq clX8 h⟩) rfl e22 ?_
  refine g_iconst (v := (0 : Int32)) O dX8_init_52 rfl ?_
  refine g_istore_n (lv' := [(1, vI (0 : Int32)), (0, vA (some a0))]) O dX8_init_53 rfl 2 hn (by decide) rfl ?_
  refine g_iload_n O dX8_init_54 rfl 0 rfl ?_
  refine g_iconst (v := (2 : Int32)) O dX8_init_55 rfl ?_
  refine g_icmp_ge O dX8_init_56 rfl (fun c => absurd c (by decide)) (fun _ => ?_)
  refine g_aload_n O dX8_init_59 rfl 1 rfl ?_
  obtain ⟨v23, e24, h⟩ := bo_some h
  refine g_getR O dX8_init_60 fl_X8_27 rfl e24 ?_
  refine g_iload_n O dX8_init_63 rfl 0 rfl ?_
  obtain ⟨p25, e26, h⟩ := bo_some h
  refine c_new O R0 hal dX8_init_64 clX9 w183 w189 w151 5 616 rfl rfl ⟨by decide, by decide⟩ e26 ?_
  refine g_dup O dX8_init_67 rfl ?_
  obtain ⟨p27, e28, h⟩ := bo_some h
  refine c_call O R0 hal dX8_init_68 ⟨w190, w192, w151, by decide, by decide, by decide +kernel⟩ ⟨w191, rfl⟩ rfl ⟨Nat.le_of_ble_eq_true rfl, Nat.le_of_ble_eq_true rfl⟩ 12 678 rfl rfl ⟨by decide, by decide⟩ (c_X9_init l0 (p19.1.1) p25.1 p25.2 p27 e28) ?_
  obtain ⟨σ29, e30, h⟩ := bo_some h
  refine c_aastore (kd := 19) O dX8_init_71 clX9 (by decide) (fun _ => rfl) e30 ?_
  refine g_aload_n O dX8_init_72 rfl 1 rfl ?_
  obtain ⟨v31, e32, h⟩ := bo_some h
  refine g_getR O dX8_init_73 fl_X8_33 rfl e32 ?_
  refine g_iload_n O dX8_init_76 rfl 0 rfl ?_
  obtain ⟨p33, e34, h⟩ := bo_some h
  refine c_new O R0 hal dX8_init_77 clX4 w185 w260 w152 13 683 rfl rfl ⟨by decide, by decide⟩ e34 ?_
  refine g_dup O dX8_init_80 rfl ?_
  obtain ⟨p35, e36, h⟩ := bo_some h
  refine c_call O R0 hal dX8_init_81 ⟨w261, w263, w152, by decide, by decide, by decide +kernel⟩ ⟨w262, rfl⟩ rfl ⟨Nat.le_of_ble_eq_true rfl, Nat.le_of_ble_eq_true rfl⟩ 17 843 rfl rfl ⟨by decide, by decide⟩ (c_X4_init l0 (p27.1.1) p33.1 p33.2 p35 e36) ?_
  obtain ⟨σ37, e38, h⟩ := bo_some h
  refine c_aastore (kd := 16) O dX8_init_84 clX4 (by decide) (fun _ => rfl) e38 ?_
  refine g_aload_n O dX8_init_85 rfl 1 rfl ?_
  obtain ⟨v39, e40, h⟩ := bo_some h
  refine g_getR O dX8_init_86 fl_X8_39 rfl e40 ?_
  refine g_iload_n O dX8_init_89 rfl 0 rfl ?_
  obtain ⟨p41, e42, h⟩ := bo_some h
  refine c_new O R0 hal dX8_init_90 clX6 w187 w292 w153 18 847 rfl rfl ⟨by decide, by decide⟩ e42 ?_
  refine g_dup O dX8_init_93 rfl ?_
  obtain ⟨p43, e44, h⟩ := bo_some h
  refine c_call O R0 hal dX8_init_94 ⟨w293, w295, w153, by decide, by decide, by decide +kernel⟩ ⟨w294, rfl⟩ rfl ⟨Nat.le_of_ble_eq_true rfl, Nat.le_of_ble_eq_true rfl⟩ 20 863 rfl rfl ⟨by decide, by decide⟩ (c_X6_init l0 (p35.1.1) p41.1 p41.2 p43 e44) ?_
  obtain ⟨σ45, e46, h⟩ := bo_some h
  refine c_aastore (kd := 17) O dX8_init_97 clX6 (by decide) (fun _ => rfl) e46 ?_
  refine g_iinc (v := (1 : Int32)) (lv' := [(1, vI (1 : Int32)), (0, vA (some a0))]) O dX8_init_98 2 hn (by decide) 0 rfl rfl rfl ?_
  refine g_goto O dX8_init_101 rfl ?_
  refine g_iload_n O dX8_init_54 rfl 0 rfl ?_
  refine g_iconst (v := (2 : Int32)) O dX8_init_55 rfl ?_
  refine g_icmp_ge O dX8_init_56 rfl (fun c => absurd c (by decide)) (fun _ => ?_)
  refine g_aload_n O dX8_init_59 rfl 1 rfl ?_
  obtain ⟨v47, e48, h⟩ := bo_some h
  refine g_getR O dX8_init_60 fl_X8_27 rfl e48 ?_
  refine g_iload_n O dX8_init_63 rfl 0 rfl ?_
  obtain ⟨p49, e50, h⟩ := bo_some h
  refine c_new O R0 hal dX8_init_64 clX9 w183 w189 w151 21 873 rfl rfl ⟨by decide, by decide⟩ e50 ?_
  refine g_dup O dX8_init_67 rfl ?_
  obtain ⟨p51, e52, h⟩ := bo_some h
  refine c_call O R0 hal dX8_init_68 ⟨w190, w192, w151, by decide, by decide, by decide +kernel⟩ ⟨w191, rfl⟩ rfl ⟨Nat.le_of_ble_eq_true rfl, Nat.le_of_ble_eq_true rfl⟩ 28 935 rfl rfl ⟨by decide, by decide⟩ (c_X9_init l0 (p43.1.1) p49.1 p49.2 p51 e52) ?_
  obtain ⟨σ53, e54, h⟩ := bo_some h
  refine c_aastore (kd := 19) O dX8_init_71 clX9 (by decide) (fun _ => rfl) e54 ?_
  refine g_aload_n O dX8_init_72 rfl 1 rfl ?_
  obtain ⟨v55, e56, h⟩ := bo_some h
  refine g_getR O dX8_init_73 fl_X8_33 rfl e56 ?_
  refine g_iload_n O dX8_init_76 rfl 0 rfl ?_
  obtain ⟨p57, e58, h⟩ := bo_some h
  refine c_new O R0 hal dX8_init_77 clX4 w185 w260 w152 29 940 rfl rfl ⟨by decide, by decide⟩ e58 ?_
  refine g_dup O dX8_init_80 rfl ?_
  obtain ⟨p59, e60, h⟩ := bo_some h
  refine c_call O R0 hal dX8_init_81 ⟨w261, w263, w152, by decide, by decide, by decide +kernel⟩ ⟨w262, rfl⟩ rfl ⟨Nat.le_of_ble_eq_true rfl, Nat.le_of_ble_eq_true rfl⟩ 33 1100 rfl rfl ⟨by decide, by decide⟩ (c_X4_init l0 (p51.1.1) p57.1 p57.2 p59 e60) ?_
  obtain ⟨σ61, e62, h⟩ := bo_some h
  refine c_aastore (kd := 16) O dX8_init_84 clX4 (by decide) (fun _ => rfl) e62 ?_
  refine g_aload_n O dX8_init_85 rfl 1 rfl ?_
  obtain ⟨v63, e64, h⟩ := bo_some h
  refine g_getR O dX8_init_86 fl_X8_39 rfl e64 ?_
  refine g_iload_n O dX8_init_89 rfl 0 rfl ?_
  obtain ⟨p65, e66, h⟩ := bo_some h
  refine c_new O R0 hal dX8_init_90 clX6 w187 w292 w153 34 1104 rfl rfl ⟨by decide, by decide⟩ e66 ?_
  refine g_dup O dX8_init_93 rfl ?_
  obtain ⟨p67, e68, h⟩ := bo_some h
  refine c_call O R0 hal dX8_init_94 ⟨w293, w295, w153, by decide, by decide, by decide +kernel⟩ ⟨w294, rfl⟩ rfl ⟨Nat.le_of_ble_eq_true rfl, Nat.le_of_ble_eq_true rfl⟩ 36 1120 rfl rfl ⟨by decide, by decide⟩ (c_X6_init l0 (p59.1.1) p65.1 p65.2 p67 e68) ?_
  obtain ⟨σ69, e70, h⟩ := bo_some h
  refine c_aastore (kd := 17) O dX8_init_97 clX6 (by decide) (fun _ => rfl) e70 ?_
  refine g_iinc (v := (2 : Int32)) (lv' := [(1, vI (2 : Int32)), (0, vA (some a0))]) O dX8_init_98 2 hn (by decide) 0 rfl rfl rfl ?_
  refine g_goto O dX8_init_101 rfl ?_
  refine g_iload_n O dX8_init_54 rfl 0 rfl ?_
  refine g_iconst (v := (2 : Int32)) O dX8_init_55 rfl ?_
  refine g_icmp_ge O dX8_init_56 rfl (fun _ => ?_) (fun c => absurd (by decide) c)
  refine g_aload_n O dX8_init_104 rfl 1 rfl ?_
  refine g_iconst (v := (3 : Int32)) O dX8_init_105 rfl ?_
  obtain ⟨p71, e72, h⟩ := bo_some h
  refine c_newI O R0 hal dX8_init_106 w259 (by decide) rfl (Nat.le_of_ble_eq_true rfl) 37 1123 rfl rfl ⟨by decide, by decide⟩ e72 ?_
  obtain ⟨σ73, e74, h⟩ := bo_some h
  refine g_putR O dX8_init_108 fl_X8_46 (Or.inr ⟨rfl, fun T C h => cl_uniq clX8 h⟩) rfl e74 ?_
  cases h
  exact g_return O F dX8_init_111
def f_X5_init (a0 : Nat) (sh : Sh) (σ : Dt) : Option (Sh × Dt) := bo (xnO sh 9 σ) fun p1 => bo (f_X9_init (sh.1) p1.1 p1.2) fun p3 => bo (xpr p3.1 5 0 (some a0) (some sh.1) p3.2) fun σ5 => bo (xnO p3.1 4 σ5) fun p7 => bo (f_X4_init (p3.1.1) p7.1 p7.2) fun p9 => bo (xpr p9.1 5 1 (some a0) (some p3.1.1) p9.2) fun σ11 => bo (xnO p9.1 6 σ11) fun p13 => bo (f_X6_init (p9.1.1) p13.1 p13.2) fun p15 => bo (xpr p15.1 5 2 (some a0) (some p9.1.1) p15.2) fun σ17 => bo (xpi p15.1 5 3 (some a0) (0 : Int32) σ17) fun σ19 => bo (xpi p15.1 5 4 (some a0) (-1 : Int32) σ19) fun σ21 => bo (xpr p15.1 5 5 (some a0) none σ21) fun σ23 => bo (xnA p15.1 13 3 σ23) fun p25 => bo (xpr p25.1 5 11 (some a0) (some p15.1.1) p25.2) fun σ27 => bo (xnA p25.1 13 3 σ27) fun p29 => bo (xpr p29.1 5 12 (some a0) (some p25.1.1) p29.2) fun σ31 => some (p29.1, σ31)
theorem c_X5_init (l0 : Launch) (a0 : Nat) (sh : Sh) (σ : Dt) (r : Sh × Dt) (h : f_X5_init a0 sh σ = some r) : Ctr l0 yX5_init cX5_init 1 none true 3 100 18 263 [vA (some a0)] sh σ r.1 r.2 none := by
  unfold f_X5_init at h
  refine ctr_of (by decide) (Nat.le_of_ble_eq_true rfl) (fun M O F R0 hal hn => ?_)
  refine g_sub [0] (lv' := [(0, vA (some a0))]) rfl ?_
  refine g_aload_n O dX5_init_0 rfl 0 rfl ?_
  refine g_objInit (r := none) O R0 dX5_init_1 w353 w175 w176 (Nat.le_of_ble_eq_true rfl) (Nat.le_of_ble_eq_true rfl) ?_
  refine g_aload_n O dX5_init_4 rfl 0 rfl ?_
  obtain ⟨p1, e2, h⟩ := bo_some h
  refine c_new O R0 hal dX5_init_5 clX9 w354 w189 w151 1 10 rfl rfl ⟨by decide, by decide⟩ e2 ?_
  refine g_dup O dX5_init_8 rfl ?_
  obtain ⟨p3, e4, h⟩ := bo_some h
  refine c_call O R0 hal dX5_init_9 ⟨w355, w192, w151, by decide, by decide, by decide +kernel⟩ ⟨w191, rfl⟩ rfl ⟨Nat.le_of_ble_eq_true rfl, Nat.le_of_ble_eq_true rfl⟩ 8 72 rfl rfl ⟨by decide, by decide⟩ (c_X9_init l0 (sh.1) p1.1 p1.2 p3 e4) ?_
  obtain ⟨σ5, e6, h⟩ := bo_some h
  refine g_putR O dX5_init_12 fl_X5_12 (Or.inr ⟨rfl, fun T C h => cl_uniq clX5 h⟩) rfl e6 ?_
  refine g_aload_n O dX5_init_15 rfl 0 rfl ?_
  obtain ⟨p7, e8, h⟩ := bo_some h
  refine c_new O R0 hal dX5_init_16 clX4 w356 w260 w152 9 77 rfl rfl ⟨by decide, by decide⟩ e8 ?_
  refine g_dup O dX5_init_19 rfl ?_
  obtain ⟨p9, e10, h⟩ := bo_some h
  refine c_call O R0 hal dX5_init_20 ⟨w357, w263, w152, by decide, by decide, by decide +kernel⟩ ⟨w262, rfl⟩ rfl ⟨Nat.le_of_ble_eq_true rfl, Nat.le_of_ble_eq_true rfl⟩ 13 237 rfl rfl ⟨by decide, by decide⟩ (c_X4_init l0 (p3.1.1) p7.1 p7.2 p9 e10) ?_
  obtain ⟨σ11, e12, h⟩ := bo_some h
  refine g_putR O dX5_init_23 fl_X5_21 (Or.inr ⟨rfl, fun T C h => cl_uniq clX5 h⟩) rfl e12 ?_
  refine g_aload_n O dX5_init_26 rfl 0 rfl ?_
  obtain ⟨p13, e14, h⟩ := bo_some h
  refine c_new O R0 hal dX5_init_27 clX6 w358 w292 w153 14 241 rfl rfl ⟨by decide, by decide⟩ e14 ?_
  refine g_dup O dX5_init_30 rfl ?_
  obtain ⟨p15, e16, h⟩ := bo_some h
  refine c_call O R0 hal dX5_init_31 ⟨w359, w295, w153, by decide, by decide, by decide +kernel⟩ ⟨w294, rfl⟩ rfl ⟨Nat.le_of_ble_eq_true rfl, Nat.le_of_ble_eq_true rfl⟩ 16 257 rfl rfl ⟨by decide, by decide⟩ (c_X6_init l0 (p9.1.1) p13.1 p13.2 p15 e16) ?_
  obtain ⟨σ17, e18, h⟩ := bo_some h
  refine g_putR O dX5_init_34 fl_X5_28 (Or.inr ⟨rfl, fun T C h => cl_uniq clX5 h⟩) rfl e18 ?_
  refine g_aload_n O dX5_init_37 rfl 0 rfl ?_
  refine g_iconst (v := (0 : Int32)) O dX5_init_38 rfl ?_
  obtain ⟨σ19, e20, h⟩ := bo_some h
  refine g_putI O dX5_init_39 fl_X5_32 (Or.inl rfl) rfl e20 ?_
  refine g_aload_n O dX5_init_42 rfl 0 rfl ?_
  refine g_iconst (v := (-1 : Int32)) O dX5_init_43 rfl ?_
  obtain ⟨σ21, e22, h⟩ := bo_some h
  refine g_putI O dX5_init_44 fl_X5_36 (Or.inl rfl) rfl e22 ?_
  refine g_aload_n O dX5_init_47 rfl 0 rfl ?_
  refine g_null O dX5_init_48 ?_
  obtain ⟨σ23, e24, h⟩ := bo_some h
  refine g_putR O dX5_init_49 fl_X5_39 (Or.inl rfl) rfl e24 ?_
  refine g_aload_n O dX5_init_52 rfl 0 rfl ?_
  refine g_iconst (v := (3 : Int32)) O dX5_init_53 rfl ?_
  obtain ⟨p25, e26, h⟩ := bo_some h
  refine c_newI O R0 hal dX5_init_54 w259 (by decide) rfl (Nat.le_of_ble_eq_true rfl) 17 260 rfl rfl ⟨by decide, by decide⟩ e26 ?_
  obtain ⟨σ27, e28, h⟩ := bo_some h
  refine g_putR O dX5_init_56 fl_X5_43 (Or.inr ⟨rfl, fun T C h => cl_uniq clX5 h⟩) rfl e28 ?_
  refine g_aload_n O dX5_init_59 rfl 0 rfl ?_
  refine g_iconst (v := (3 : Int32)) O dX5_init_60 rfl ?_
  obtain ⟨p29, e30, h⟩ := bo_some h
  refine c_newI O R0 hal dX5_init_61 w259 (by decide) rfl (Nat.le_of_ble_eq_true rfl) 18 263 rfl rfl ⟨by decide, by decide⟩ e30 ?_
  obtain ⟨σ31, e32, h⟩ := bo_some h
  refine g_putR O dX5_init_63 fl_X5_46 (Or.inr ⟨rfl, fun T C h => cl_uniq clX5 h⟩) rfl e32 ?_
  cases h
  exact g_return O F dX5_init_66
def f_X10_init (a0 : Nat) (sh : Sh) (σ : Dt) : Option (Sh × Dt) := bo (xnA sh 13 10 σ) fun p1 => bo (xpr p1.1 10 9 (some a0) (some sh.1) p1.2) fun σ3 => bo (xnA p1.1 13 10 σ3) fun p5 => bo (xpr p5.1 10 10 (some a0) (some p1.1.1) p5.2) fun σ7 => bo (xnA p5.1 13 10 σ7) fun p9 => bo (xpr p9.1 10 11 (some a0) (some p5.1.1) p9.2) fun σ11 => bo (xnA p9.1 13 10 σ11) fun p13 => bo (xpr p13.1 10 12 (some a0) (some p9.1.1) p13.2) fun σ15 => bo (xnA p13.1 13 10 σ15) fun p17 => bo (xpr p17.1 10 13 (some a0) (some p13.1.1) p17.2) fun σ19 => bo (xnA p17.1 13 6 σ19) fun p21 => bo (xpr p21.1 10 14 (some a0) (some p17.1.1) p21.2) fun σ23 => bo (xnA p21.1 13 6 σ23) fun p25 => bo (xpr p25.1 10 15 (some a0) (some p21.1.1) p25.2) fun σ27 => bo (xnA p25.1 13 12 σ27) fun p29 => bo (xpr p29.1 10 16 (some a0) (some p25.1.1) p29.2) fun σ31 => bo (xnA p29.1 13 12 σ31) fun p33 => bo (xpr p33.1 10 17 (some a0) (some p29.1.1) p33.2) fun σ35 => bo (xnA p33.1 13 12 σ35) fun p37 => bo (xpr p37.1 10 18 (some a0) (some p33.1.1) p37.2) fun σ39 => bo (xnA p37.1 13 12 σ39) fun p41 => bo (xpr p41.1 10 19 (some a0) (some p37.1.1) p41.2) fun σ43 => some (p41.1, σ43)
theorem c_X10_init (l0 : Launch) (a0 : Nat) (sh : Sh) (σ : Dt) (r : Sh × Dt) (h : f_X10_init a0 sh σ = some r) : Ctr l0 yX10_init cX10_init 1 none true 2 80 11 110 [vA (some a0)] sh σ r.1 r.2 none := by
  unfold f_X10_init at h
  refine ctr_of (by decide) (Nat.le_of_ble_eq_true rfl) (fun M O F R0 hal hn => ?_)
  refine g_sub [0] (lv' := [(0, vA (some a0))]) rfl ?_
  refine g_aload_n O dX10_init_0 rfl 0 rfl ?_
  refine g_objInit (r := none) O R0 dX10_init_1 w411 w175 w176 (Nat.le_of_ble_eq_true rfl) (Nat.le_of_ble_eq_true rfl) ?_
  refine g_aload_n O dX10_init_4 rfl 0 rfl ?_
  refine g_bipush (v := (10 : Int32)) O dX10_init_5 rfl ?_
  obtain ⟨p1, e2, h⟩ := bo_some h
  refine c_newI O R0 hal dX10_init_7 w259 (by decide) rfl (Nat.le_of_ble_eq_true rfl) 1 10 rfl rfl ⟨by decide, by decide⟩ e2 ?_
  obtain ⟨σ3, e4, h⟩ := bo_some h
  refine g_putR O dX10_init_9 fl_X10_9 (Or.inr ⟨rfl, fun T C h => cl_uniq clX10 h⟩) rfl e4 ?_
  refine g_aload_n O dX10_init_12 rfl 0 rfl ?_
  refine g_bipush (v := (10 : Int32)) O dX10_init_13 rfl ?_
  obtain ⟨p5, e6, h⟩ := bo_some h
  refine c_newI O R0 hal dX10_init_15 w259 (by decide) rfl (Nat.le_of_ble_eq_true rfl) 2 20 rfl rfl ⟨by decide, by decide⟩ e6 ?_
  obtain ⟨σ7, e8, h⟩ := bo_some h
  refine g_putR O dX10_init_17 fl_X10_15 (Or.inr ⟨rfl, fun T C h => cl_uniq clX10 h⟩) rfl e8 ?_
  refine g_aload_n O dX10_init_20 rfl 0 rfl ?_
  refine g_bipush (v := (10 : Int32)) O dX10_init_21 rfl ?_
  obtain ⟨p9, e10, h⟩ := bo_some h
  refine c_newI O R0 hal dX10_init_23 w259 (by decide) rfl (Nat.le_of_ble_eq_true rfl) 3 30 rfl rfl ⟨by decide, by decide⟩ e10 ?_
  obtain ⟨σ11, e12, h⟩ := bo_some h
  refine g_putR O dX10_init_25 fl_X10_18 (Or.inr ⟨rfl, fun T C h => cl_uniq clX10 h⟩) rfl e12 ?_
  refine g_aload_n O dX10_init_28 rfl 0 rfl ?_
  refine g_bipush (v := (10 : Int32)) O dX10_init_29 rfl ?_
  obtain ⟨p13, e14, h⟩ := bo_some h
  refine c_newI O R0 hal dX10_init_31 w259 (by decide) rfl (Nat.le_of_ble_eq_true rfl) 4 40 rfl rfl ⟨by decide, by decide⟩ e14 ?_
  obtain ⟨σ15, e16, h⟩ := bo_some h
  refine g_putR O dX10_init_33 fl_X10_21 (Or.inr ⟨rfl, fun T C h => cl_uniq clX10 h⟩) rfl e16 ?_
  refine g_aload_n O dX10_init_36 rfl 0 rfl ?_
  refine g_bipush (v := (10 : Int32)) O dX10_init_37 rfl ?_
  obtain ⟨p17, e18, h⟩ := bo_some h
  refine c_newI O R0 hal dX10_init_39 w259 (by decide) rfl (Nat.le_of_ble_eq_true rfl) 5 50 rfl rfl ⟨by decide, by decide⟩ e18 ?_
  obtain ⟨σ19, e20, h⟩ := bo_some h
  refine g_putR O dX10_init_41 fl_X10_24 (Or.inr ⟨rfl, fun T C h => cl_uniq clX10 h⟩) rfl e20 ?_
  refine g_aload_n O dX10_init_44 rfl 0 rfl ?_
  refine g_bipush (v := (6 : Int32)) O dX10_init_45 rfl ?_
  obtain ⟨p21, e22, h⟩ := bo_some h
  refine c_newI O R0 hal dX10_init_47 w259 (by decide) rfl (Nat.le_of_ble_eq_true rfl) 6 56 rfl rfl ⟨by decide, by decide⟩ e22 ?_
  obtain ⟨σ23, e24, h⟩ := bo_some h
  refine g_putR O dX10_init_49 fl_X10_27 (Or.inr ⟨rfl, fun T C h => cl_uniq clX10 h⟩) rfl e24 ?_
  refine g_aload_n O dX10_init_52 rfl 0 rfl ?_
  refine g_bipush (v := (6 : Int32)) O dX10_init_53 rfl ?_
  obtain ⟨p25, e26, h⟩ := bo_some h
  refine c_newI O R0 hal dX10_init_55 w259 (by decide) rfl (Nat.le_of_ble_eq_true rfl) 7 62 rfl rfl ⟨by decide, by decide⟩ e26 ?_
  obtain ⟨σ27, e28, h⟩ := bo_some h
  refine g_putR O dX10_init_57 fl_X10_30 (Or.inr ⟨rfl, fun T C h => cl_uniq clX10 h⟩) rfl e28 ?_
  refine g_aload_n O dX10_init_60 rfl 0 rfl ?_
  refine g_bipush (v := (12 : Int32)) O dX10_init_61 rfl ?_
  obtain ⟨p29, e30, h⟩ := bo_some h
  refine c_newI O R0 hal dX10_init_63 w259 (by decide) rfl (Nat.le_of_ble_eq_true rfl) 8 74 rfl rfl ⟨by decide, by decide⟩ e30 ?_
  obtain ⟨σ31, e32, h⟩ := bo_some h
  refine g_putR O dX10_init_65 fl_X10_33 (Or.inr ⟨rfl, fun T C h => cl_uniq clX10 h⟩) rfl e32 ?_
  refine g_aload_n O dX10_init_68 rfl 0 rfl ?_
  refine g_bipush (v := (12 : Int32)) O dX10_init_69 rfl ?_
  obtain ⟨p33, e34, h⟩ := bo_some h
  refine c_newI O R0 hal dX10_init_71 w259 (by decide) rfl (Nat.le_of_ble_eq_true rfl) 9 86 rfl rfl ⟨by decide, by decide⟩ e34 ?_
  obtain ⟨σ35, e36, h⟩ := bo_some h
  refine g_putR O dX10_init_73 fl_X10_36 (Or.inr ⟨rfl, fun T C h => cl_uniq clX10 h⟩) rfl e36 ?_
  refine g_aload_n O dX10_init_76 rfl 0 rfl ?_
  refine g_bipush (v := (12 : Int32)) O dX10_init_77 rfl ?_
  obtain ⟨p37, e38, h⟩ := bo_some h
  refine c_newI O R0 hal dX10_init_79 w259 (by decide) rfl (Nat.le_of_ble_eq_true rfl) 10 98 rfl rfl ⟨by decide, by decide⟩ e38 ?_
  obtain ⟨σ39, e40, h⟩ := bo_some h
  refine g_putR O dX10_init_81 fl_X10_39 (Or.inr ⟨rfl, fun T C h => cl_uniq clX10 h⟩) rfl e40 ?_
  refine g_aload_n O dX10_init_84 rfl 0 rfl ?_
  refine g_bipush (v := (12 : Int32)) O dX10_init_85 rfl ?_
  obtain ⟨p41, e42, h⟩ := bo_some h
  refine c_newI O R0 hal dX10_init_87 w259 (by decide) rfl (Nat.le_of_ble_eq_true rfl) 11 110 rfl rfl ⟨by decide, by decide⟩ e42 ?_
  obtain ⟨σ43, e44, h⟩ := bo_some h
  refine g_putR O dX10_init_89 fl_X10_42 (Or.inr ⟨rfl, fun T C h => cl_uniq clX10 h⟩) rfl e44 ?_
  cases h
  exact g_return O F dX10_init_92
def f_X2_init (a0 : Nat) (sh : Sh) (σ : Dt) : Option (Sh × Dt) := bo (xnA sh 13 60 σ) fun p1 => bo (xpr p1.1 2 3 (some a0) (some sh.1) p1.2) fun σ3 => bo (xnA p1.1 13 60 σ3) fun p5 => bo (xpr p5.1 2 4 (some a0) (some p1.1.1) p5.2) fun σ7 => bo (xnA p5.1 13 60 σ7) fun p9 => bo (xpr p9.1 2 5 (some a0) (some p5.1.1) p9.2) fun σ11 => bo (xnA p9.1 13 31 σ11) fun p13 => bo (xpr p13.1 2 6 (some a0) (some p9.1.1) p13.2) fun σ15 => some (p13.1, σ15)
theorem c_X2_init (l0 : Launch) (a0 : Nat) (sh : Sh) (σ : Dt) (r : Sh × Dt) (h : f_X2_init a0 sh σ = some r) : Ctr l0 yX2_init cX2_init 1 none true 2 80 4 211 [vA (some a0)] sh σ r.1 r.2 none := by
  unfold f_X2_init at h
  refine ctr_of (by decide) (Nat.le_of_ble_eq_true rfl) (fun M O F R0 hal hn => ?_)
  refine g_sub [0] (lv' := [(0, vA (some a0))]) rfl ?_
  refine g_aload_n O dX2_init_0 rfl 0 rfl ?_
  refine g_objInit (r := none) O R0 dX2_init_1 w478 w175 w176 (Nat.le_of_ble_eq_true rfl) (Nat.le_of_ble_eq_true rfl) ?_
  refine g_aload_n O dX2_init_4 rfl 0 rfl ?_
  refine g_bipush (v := (60 : Int32)) O dX2_init_5 rfl ?_
  obtain ⟨p1, e2, h⟩ := bo_some h
  refine c_newI O R0 hal dX2_init_7 w259 (by decide) rfl (Nat.le_of_ble_eq_true rfl) 1 60 rfl rfl ⟨by decide, by decide⟩ e2 ?_
  obtain ⟨σ3, e4, h⟩ := bo_some h
  refine g_putR O dX2_init_9 fl_X2_11 (Or.inr ⟨rfl, fun T C h => cl_uniq clX2 h⟩) rfl e4 ?_
  refine g_aload_n O dX2_init_12 rfl 0 rfl ?_
  refine g_bipush (v := (60 : Int32)) O dX2_init_13 rfl ?_
  obtain ⟨p5, e6, h⟩ := bo_some h
  refine c_newI O R0 hal dX2_init_15 w259 (by decide) rfl (Nat.le_of_ble_eq_true rfl) 2 120 rfl rfl ⟨by decide, by decide⟩ e6 ?_
  obtain ⟨σ7, e8, h⟩ := bo_some h
  refine g_putR O dX2_init_17 fl_X2_15 (Or.inr ⟨rfl, fun T C h => cl_uniq clX2 h⟩) rfl e8 ?_
  refine g_aload_n O dX2_init_20 rfl 0 rfl ?_
  refine g_bipush (v := (60 : Int32)) O dX2_init_21 rfl ?_
  obtain ⟨p9, e10, h⟩ := bo_some h
  refine c_newI O R0 hal dX2_init_23 w259 (by decide) rfl (Nat.le_of_ble_eq_true rfl) 3 180 rfl rfl ⟨by decide, by decide⟩ e10 ?_
  obtain ⟨σ11, e12, h⟩ := bo_some h
  refine g_putR O dX2_init_25 fl_X2_18 (Or.inr ⟨rfl, fun T C h => cl_uniq clX2 h⟩) rfl e12 ?_
  refine g_aload_n O dX2_init_28 rfl 0 rfl ?_
  refine g_bipush (v := (31 : Int32)) O dX2_init_29 rfl ?_
  obtain ⟨p13, e14, h⟩ := bo_some h
  refine c_newI O R0 hal dX2_init_31 w259 (by decide) rfl (Nat.le_of_ble_eq_true rfl) 4 211 rfl rfl ⟨by decide, by decide⟩ e14 ?_
  obtain ⟨σ15, e16, h⟩ := bo_some h
  refine g_putR O dX2_init_33 fl_X2_21 (Or.inr ⟨rfl, fun T C h => cl_uniq clX2 h⟩) rfl e16 ?_
  cases h
  exact g_return O F dX2_init_36
def f_X7_init (a0 : Nat) (sh : Sh) (σ : Dt) : Option (Sh × Dt) := bo (xnA sh 13 6 σ) fun p1 => bo (xpr p1.1 7 0 (some a0) (some sh.1) p1.2) fun σ3 => bo (xnA p1.1 13 64 σ3) fun p5 => bo (xpr p5.1 7 1 (some a0) (some p1.1.1) p5.2) fun σ7 => some (p5.1, σ7)
theorem c_X7_init (l0 : Launch) (a0 : Nat) (sh : Sh) (σ : Dt) (r : Sh × Dt) (h : f_X7_init a0 sh σ = some r) : Ctr l0 yX7_init cX7_init 1 none true 2 80 2 70 [vA (some a0)] sh σ r.1 r.2 none := by
  unfold f_X7_init at h
  refine ctr_of (by decide) (Nat.le_of_ble_eq_true rfl) (fun M O F R0 hal hn => ?_)
  refine g_sub [0] (lv' := [(0, vA (some a0))]) rfl ?_
  refine g_aload_n O dX7_init_0 rfl 0 rfl ?_
  refine g_objInit (r := none) O R0 dX7_init_1 w508 w175 w176 (Nat.le_of_ble_eq_true rfl) (Nat.le_of_ble_eq_true rfl) ?_
  refine g_aload_n O dX7_init_4 rfl 0 rfl ?_
  refine g_bipush (v := (6 : Int32)) O dX7_init_5 rfl ?_
  obtain ⟨p1, e2, h⟩ := bo_some h
  refine c_newI O R0 hal dX7_init_7 w259 (by decide) rfl (Nat.le_of_ble_eq_true rfl) 1 6 rfl rfl ⟨by decide, by decide⟩ e2 ?_
  obtain ⟨σ3, e4, h⟩ := bo_some h
  refine g_putR O dX7_init_9 fl_X7_9 (Or.inr ⟨rfl, fun T C h => cl_uniq clX7 h⟩) rfl e4 ?_
  refine g_aload_n O dX7_init_12 rfl 0 rfl ?_
  refine g_bipush (v := (64 : Int32)) O dX7_init_13 rfl ?_
  obtain ⟨p5, e6, h⟩ := bo_some h
  refine c_newI O R0 hal dX7_init_15 w259 (by decide) rfl (Nat.le_of_ble_eq_true rfl) 2 70 rfl rfl ⟨by decide, by decide⟩ e6 ?_
  obtain ⟨σ7, e8, h⟩ := bo_some h
  refine g_putR O dX7_init_17 fl_X7_15 (Or.inr ⟨rfl, fun T C h => cl_uniq clX7 h⟩) rfl e8 ?_
  cases h
  exact g_return O F dX7_init_20
def f_X1_init (a0 : Nat) (sh : Sh) (σ : Dt) : Option (Sh × Dt) := bo (xnA sh 13 64 σ) fun p1 => bo (xpr p1.1 1 3 (some a0) (some sh.1) p1.2) fun σ3 => bo (xnA p1.1 13 64 σ3) fun p5 => bo (xpr p5.1 1 4 (some a0) (some p1.1.1) p5.2) fun σ7 => bo (xnA p5.1 13 6 σ7) fun p9 => bo (xpr p9.1 1 5 (some a0) (some p5.1.1) p9.2) fun σ11 => bo (xnA p9.1 13 64 σ11) fun p13 => bo (xpr p13.1 1 6 (some a0) (some p9.1.1) p13.2) fun σ15 => bo (xnA p13.1 13 6 σ15) fun p17 => bo (xpr p17.1 1 7 (some a0) (some p13.1.1) p17.2) fun σ19 => bo (xnA p17.1 13 64 σ19) fun p21 => bo (xpr p21.1 1 8 (some a0) (some p17.1.1) p21.2) fun σ23 => bo (xnA p21.1 13 6 σ23) fun p25 => bo (xpr p25.1 1 9 (some a0) (some p21.1.1) p25.2) fun σ27 => bo (xnA p25.1 13 1024 σ27) fun p29 => bo (xpr p29.1 1 11 (some a0) (some p25.1.1) p29.2) fun σ31 => some (p29.1, σ31)
theorem c_X1_init (l0 : Launch) (a0 : Nat) (sh : Sh) (σ : Dt) (r : Sh × Dt) (h : f_X1_init a0 sh σ = some r) : Ctr l0 yX1_init cX1_init 1 none true 2 80 8 1298 [vA (some a0)] sh σ r.1 r.2 none := by
  unfold f_X1_init at h
  refine ctr_of (by decide) (Nat.le_of_ble_eq_true rfl) (fun M O F R0 hal hn => ?_)
  refine g_sub [0] (lv' := [(0, vA (some a0))]) rfl ?_
  refine g_aload_n O dX1_init_0 rfl 0 rfl ?_
  refine g_objInit (r := none) O R0 dX1_init_1 w521 w175 w176 (Nat.le_of_ble_eq_true rfl) (Nat.le_of_ble_eq_true rfl) ?_
  refine g_aload_n O dX1_init_4 rfl 0 rfl ?_
  refine g_bipush (v := (64 : Int32)) O dX1_init_5 rfl ?_
  obtain ⟨p1, e2, h⟩ := bo_some h
  refine c_newI O R0 hal dX1_init_7 w259 (by decide) rfl (Nat.le_of_ble_eq_true rfl) 1 64 rfl rfl ⟨by decide, by decide⟩ e2 ?_
  obtain ⟨σ3, e4, h⟩ := bo_some h
  refine g_putR O dX1_init_9 fl_X1_9 (Or.inr ⟨rfl, fun T C h => cl_uniq clX1 h⟩) rfl e4 ?_
  refine g_aload_n O dX1_init_12 rfl 0 rfl ?_
  refine g_bipush (v := (64 : Int32)) O dX1_init_13 rfl ?_
  obtain ⟨p5, e6, h⟩ := bo_some h
  refine c_newI O R0 hal dX1_init_15 w259 (by decide) rfl (Nat.le_of_ble_eq_true rfl) 2 128 rfl rfl ⟨by decide, by decide⟩ e6 ?_
  obtain ⟨σ7, e8, h⟩ := bo_some h
  refine g_putR O dX1_init_17 fl_X1_15 (Or.inr ⟨rfl, fun T C h => cl_uniq clX1 h⟩) rfl e8 ?_
  refine g_aload_n O dX1_init_20 rfl 0 rfl ?_
  refine g_bipush (v := (6 : Int32)) O dX1_init_21 rfl ?_
  obtain ⟨p9, e10, h⟩ := bo_some h
  refine c_newI O R0 hal dX1_init_23 w259 (by decide) rfl (Nat.le_of_ble_eq_true rfl) 3 134 rfl rfl ⟨by decide, by decide⟩ e10 ?_
  obtain ⟨σ11, e12, h⟩ := bo_some h
  refine g_putR O dX1_init_25 fl_X1_18 (Or.inr ⟨rfl, fun T C h => cl_uniq clX1 h⟩) rfl e12 ?_
  refine g_aload_n O dX1_init_28 rfl 0 rfl ?_
  refine g_bipush (v := (64 : Int32)) O dX1_init_29 rfl ?_
  obtain ⟨p13, e14, h⟩ := bo_some h
  refine c_newI O R0 hal dX1_init_31 w259 (by decide) rfl (Nat.le_of_ble_eq_true rfl) 4 198 rfl rfl ⟨by decide, by decide⟩ e14 ?_
  obtain ⟨σ15, e16, h⟩ := bo_some h
  refine g_putR O dX1_init_33 fl_X1_21 (Or.inr ⟨rfl, fun T C h => cl_uniq clX1 h⟩) rfl e16 ?_
  refine g_aload_n O dX1_init_36 rfl 0 rfl ?_
  refine g_bipush (v := (6 : Int32)) O dX1_init_37 rfl ?_
  obtain ⟨p17, e18, h⟩ := bo_some h
  refine c_newI O R0 hal dX1_init_39 w259 (by decide) rfl (Nat.le_of_ble_eq_true rfl) 5 204 rfl rfl ⟨by decide, by decide⟩ e18 ?_
  obtain ⟨σ19, e20, h⟩ := bo_some h
  refine g_putR O dX1_init_41 fl_X1_24 (Or.inr ⟨rfl, fun T C h => cl_uniq clX1 h⟩) rfl e20 ?_
  refine g_aload_n O dX1_init_44 rfl 0 rfl ?_
  refine g_bipush (v := (64 : Int32)) O dX1_init_45 rfl ?_
  obtain ⟨p21, e22, h⟩ := bo_some h
  refine c_newI O R0 hal dX1_init_47 w259 (by decide) rfl (Nat.le_of_ble_eq_true rfl) 6 268 rfl rfl ⟨by decide, by decide⟩ e22 ?_
  obtain ⟨σ23, e24, h⟩ := bo_some h
  refine g_putR O dX1_init_49 fl_X1_27 (Or.inr ⟨rfl, fun T C h => cl_uniq clX1 h⟩) rfl e24 ?_
  refine g_aload_n O dX1_init_52 rfl 0 rfl ?_
  refine g_bipush (v := (6 : Int32)) O dX1_init_53 rfl ?_
  obtain ⟨p25, e26, h⟩ := bo_some h
  refine c_newI O R0 hal dX1_init_55 w259 (by decide) rfl (Nat.le_of_ble_eq_true rfl) 7 274 rfl rfl ⟨by decide, by decide⟩ e26 ?_
  obtain ⟨σ27, e28, h⟩ := bo_some h
  refine g_putR O dX1_init_57 fl_X1_30 (Or.inr ⟨rfl, fun T C h => cl_uniq clX1 h⟩) rfl e28 ?_
  refine g_aload_n O dX1_init_60 rfl 0 rfl ?_
  refine g_sipush (v := (1024 : Int32)) O dX1_init_61 rfl ?_
  obtain ⟨p29, e30, h⟩ := bo_some h
  refine c_newI O R0 hal dX1_init_64 w259 (by decide) rfl (Nat.le_of_ble_eq_true rfl) 8 1298 rfl rfl ⟨by decide, by decide⟩ e30 ?_
  obtain ⟨σ31, e32, h⟩ := bo_some h
  refine g_putR O dX1_init_66 fl_X1_33 (Or.inr ⟨rfl, fun T C h => cl_uniq clX1 h⟩) rfl e32 ?_
  cases h
  exact g_return O F dX1_init_69
def f_X3_init (a0 : Nat) (sh : Sh) (σ : Dt) : Option (Sh × Dt) := bo (xnA sh 13 10 σ) fun p1 => bo (xpr p1.1 3 1 (some a0) (some sh.1) p1.2) fun σ3 => bo (xnA p1.1 13 10 σ3) fun p5 => bo (xpr p5.1 3 2 (some a0) (some p1.1.1) p5.2) fun σ7 => bo (xnM p5.1 10 10 σ7) fun p9 => bo (xpr p9.1 3 3 (some a0) (some p5.1.1) p9.2) fun σ11 => bo (xnA p9.1 13 1024 σ11) fun p13 => bo (xpr p13.1 3 4 (some a0) (some p9.1.1) p13.2) fun σ15 => some (p13.1, σ15)
theorem c_X3_init (l0 : Launch) (a0 : Nat) (sh : Sh) (σ : Dt) (r : Sh × Dt) (h : f_X3_init a0 sh σ = some r) : Ctr l0 yX3_init cX3_init 1 none true 2 80 14 1154 [vA (some a0)] sh σ r.1 r.2 none := by
  unfold f_X3_init at h
  refine ctr_of (by decide) (Nat.le_of_ble_eq_true rfl) (fun M O F R0 hal hn => ?_)
  refine g_sub [0] (lv' := [(0, vA (some a0))]) rfl ?_
  refine g_aload_n O dX3_init_0 rfl 0 rfl ?_
  refine g_objInit (r := none) O R0 dX3_init_1 w567 w175 w176 (Nat.le_of_ble_eq_true rfl) (Nat.le_of_ble_eq_true rfl) ?_
  refine g_aload_n O dX3_init_4 rfl 0 rfl ?_
  refine g_bipush (v := (10 : Int32)) O dX3_init_5 rfl ?_
  obtain ⟨p1, e2, h⟩ := bo_some h
  refine c_newI O R0 hal dX3_init_7 w259 (by decide) rfl (Nat.le_of_ble_eq_true rfl) 1 10 rfl rfl ⟨by decide, by decide⟩ e2 ?_
  obtain ⟨σ3, e4, h⟩ := bo_some h
  refine g_putR O dX3_init_9 fl_X3_11 (Or.inr ⟨rfl, fun T C h => cl_uniq clX3 h⟩) rfl e4 ?_
  refine g_aload_n O dX3_init_12 rfl 0 rfl ?_
  refine g_bipush (v := (10 : Int32)) O dX3_init_13 rfl ?_
  obtain ⟨p5, e6, h⟩ := bo_some h
  refine c_newI O R0 hal dX3_init_15 w259 (by decide) rfl (Nat.le_of_ble_eq_true rfl) 2 20 rfl rfl ⟨by decide, by decide⟩ e6 ?_
  obtain ⟨σ7, e8, h⟩ := bo_some h
  refine g_putR O dX3_init_17 fl_X3_15 (Or.inr ⟨rfl, fun T C h => cl_uniq clX3 h⟩) rfl e8 ?_
  refine g_aload_n O dX3_init_20 rfl 0 rfl ?_
  refine g_bipush (v := (10 : Int32)) O dX3_init_21 rfl ?_
  refine g_bipush (v := (10 : Int32)) O dX3_init_23 rfl ?_
  obtain ⟨p9, e10, h⟩ := bo_some h
  refine c_multi O R0 hal dX3_init_25 w568 w594 (by decide) (by decide) rfl rfl ⟨by decide, by decide⟩ 13 130 rfl rfl ⟨by decide, by decide⟩ e10 ?_
  obtain ⟨σ11, e12, h⟩ := bo_some h
  refine g_putR O dX3_init_29 fl_X3_20 (Or.inr ⟨rfl, fun T C h => cl_uniq clX3 h⟩) rfl e12 ?_
  refine g_aload_n O dX3_init_32 rfl 0 rfl ?_
  refine g_sipush (v := (1024 : Int32)) O dX3_init_33 rfl ?_
  obtain ⟨p13, e14, h⟩ := bo_some h
  refine c_newI O R0 hal dX3_init_36 w259 (by decide) rfl (Nat.le_of_ble_eq_true rfl) 14 1154 rfl rfl ⟨by decide, by decide⟩ e14 ?_
  obtain ⟨σ15, e16, h⟩ := bo_some h
  refine g_putR O dX3_init_38 fl_X3_23 (Or.inr ⟨rfl, fun T C h => cl_uniq clX3 h⟩) rfl e16 ?_
  cases h
  exact g_return O F dX3_init_41
def f_X0_init (a0 : Nat) (sh : Sh) (σ : Dt) : Option (Sh × Dt) := bo (xpl sh 0 0 (some a0) (0 : Int64) σ) fun σ1 => bo (xpl sh 0 1 (some a0) (1 : Int64) σ1) fun σ3 => bo (xnA sh 13 10 σ3) fun p5 => bo (xpr p5.1 0 3 (some a0) (some sh.1) p5.2) fun σ7 => bo (xnA p5.1 13 10 σ7) fun p9 => bo (xpr p9.1 0 4 (some a0) (some p5.1.1) p9.2) fun σ11 => bo (xnA p9.1 13 10 σ11) fun p13 => bo (xpr p13.1 0 5 (some a0) (some p9.1.1) p13.2) fun σ15 => some (p13.1, σ15)
theorem c_X0_init (l0 : Launch) (a0 : Nat) (sh : Sh) (σ : Dt) (r : Sh × Dt) (h : f_X0_init a0 sh σ = some r) : Ctr l0 yX0_init cX0_init 1 none true 2 80 3 30 [vA (some a0)] sh σ r.1 r.2 none := by
  unfold f_X0_init at h
  refine ctr_of (by decide) (Nat.le_of_ble_eq_true rfl) (fun M O F R0 hal hn => ?_)
  refine g_sub [0] (lv' := [(0, vA (some a0))]) rfl ?_
  refine g_aload_n O dX0_init_0 rfl 0 rfl ?_
  refine g_objInit (r := none) O R0 dX0_init_1 w600 w175 w176 (Nat.le_of_ble_eq_true rfl) (Nat.le_of_ble_eq_true rfl) ?_
  refine g_aload_n O dX0_init_4 rfl 0 rfl ?_
  refine g_lconst (v := (0 : Int64)) O dX0_init_5 rfl ?_
  obtain ⟨σ1, e2, h⟩ := bo_some h
  refine g_putL O dX0_init_6 fl_X0_9 (Or.inl rfl) rfl e2 ?_
  refine g_aload_n O dX0_init_9 rfl 0 rfl ?_
  refine g_lconst (v := (1 : Int64)) O dX0_init_10 rfl ?_
  obtain ⟨σ3, e4, h⟩ := bo_some h
  refine g_putL O dX0_init_11 fl_X0_15 (Or.inl rfl) rfl e4 ?_
  refine g_aload_n O dX0_init_14 rfl 0 rfl ?_
  refine g_bipush (v := (10 : Int32)) O dX0_init_15 rfl ?_
  obtain ⟨p5, e6, h⟩ := bo_some h
  refine c_newI O R0 hal dX0_init_17 w259 (by decide) rfl (Nat.le_of_ble_eq_true rfl) 1 10 rfl rfl ⟨by decide, by decide⟩ e6 ?_
  obtain ⟨σ7, e8, h⟩ := bo_some h
  refine g_putR O dX0_init_19 fl_X0_18 (Or.inr ⟨rfl, fun T C h => cl_uniq clX0 h⟩) rfl e8 ?_
  refine g_aload_n O dX0_init_22 rfl 0 rfl ?_
  refine g_bipush (v := (10 : Int32)) O dX0_init_23 rfl ?_
  obtain ⟨p9, e10, h⟩ := bo_some h
  refine c_newI O R0 hal dX0_init_25 w259 (by decide) rfl (Nat.le_of_ble_eq_true rfl) 2 20 rfl rfl ⟨by decide, by decide⟩ e10 ?_
  obtain ⟨σ11, e12, h⟩ := bo_some h
  refine g_putR O dX0_init_27 fl_X0_22 (Or.inr ⟨rfl, fun T C h => cl_uniq clX0 h⟩) rfl e12 ?_
  refine g_aload_n O dX0_init_30 rfl 0 rfl ?_
  refine g_bipush (v := (10 : Int32)) O dX0_init_31 rfl ?_
  obtain ⟨p13, e14, h⟩ := bo_some h
  refine c_newI O R0 hal dX0_init_33 w259 (by decide) rfl (Nat.le_of_ble_eq_true rfl) 3 30 rfl rfl ⟨by decide, by decide⟩ e14 ?_
  obtain ⟨σ15, e16, h⟩ := bo_some h
  refine g_putR O dX0_init_35 fl_X0_25 (Or.inr ⟨rfl, fun T C h => cl_uniq clX0 h⟩) rfl e16 ?_
  cases h
  exact g_return O F dX0_init_38
def f_X11_init (a0 : Nat) (sh : Sh) (σ : Dt) : Option (Sh × Dt) := bo (xnO sh 8 σ) fun p1 => bo (f_X8_init (sh.1) p1.1 p1.2) fun p3 => bo (xpr p3.1 11 0 (some a0) (some sh.1) p3.2) fun σ5 => bo (xnA p3.1 18 3 σ5) fun p7 => bo (xpr p7.1 11 1 (some a0) (some p3.1.1) p7.2) fun σ9 => bo (xgr p7.1 11 1 (some a0) σ9) fun v11 => bo (xnO p7.1 8 σ9) fun p13 => bo (f_X8_init (p7.1.1) p13.1 p13.2) fun p15 => bo (xsr p15.1 18 8 v11 (0 : Int32) (some p7.1.1) p15.2) fun σ17 => bo (xgr p15.1 11 1 (some a0) σ17) fun v19 => bo (xnO p15.1 8 σ17) fun p21 => bo (f_X8_init (p15.1.1) p21.1 p21.2) fun p23 => bo (xsr p23.1 18 8 v19 (1 : Int32) (some p15.1.1) p23.2) fun σ25 => bo (xgr p23.1 11 1 (some a0) σ25) fun v27 => bo (xnO p23.1 8 σ25) fun p29 => bo (f_X8_init (p23.1.1) p29.1 p29.2) fun p31 => bo (xsr p31.1 18 8 v27 (2 : Int32) (some p23.1.1) p31.2) fun σ33 => bo (xnA p31.1 15 3 σ33) fun p35 => bo (xpr p35.1 11 2 (some a0) (some p31.1.1) p35.2) fun σ37 => bo (xnO p35.1 5 σ37) fun p39 => bo (f_X5_init (p35.1.1) p39.1 p39.2) fun p41 => bo (xpr p41.1 11 3 (some a0) (some p35.1.1) p41.2) fun σ43 => bo (xnO p41.1 10 σ43) fun p45 => bo (f_X10_init (p41.1.1) p45.1 p45.2) fun p47 => bo (xpr p47.1 11 4 (some a0) (some p41.1.1) p47.2) fun σ49 => bo (xnO p47.1 2 σ49) fun p51 => bo (f_X2_init (p47.1.1) p51.1 p51.2) fun p53 => bo (xpr p53.1 11 5 (some a0) (some p47.1.1) p53.2) fun σ55 => bo (xnO p53.1 7 σ55) fun p57 => bo (f_X7_init (p53.1.1) p57.1 p57.2) fun p59 => bo (xpr p59.1 11 6 (some a0) (some p53.1.1) p59.2) fun σ61 => bo (xnO p59.1 1 σ61) fun p63 => bo (f_X1_init (p59.1.1) p63.1 p63.2) fun p65 => bo (xpr p65.1 11 7 (some a0) (some p59.1.1) p65.2) fun σ67 => bo (xnO p65.1 3 σ67) fun p69 => bo (f_X3_init (p65.1.1) p69.1 p69.2) fun p71 => bo (xpr p71.1 11 8 (some a0) (some p65.1.1) p71.2) fun σ73 => bo (xnO p71.1 0 σ73) fun p75 => bo (f_X0_init (p71.1.1) p75.1 p75.2) fun p77 => bo (xpr p77.1 11 9 (some a0) (some p71.1.1) p77.2) fun σ79 => some (p77.1, σ79)
theorem c_X11_init (l0 : Launch) (a0 : Nat) (sh : Sh) (σ : Dt) (r : Sh × Dt) (h : f_X11_init a0 sh σ = some r) : Ctr l0 yX11_init cX11_init 2 none true 4 121 221 7733 [vA (some a0)] sh σ r.1 r.2 none := by
  unfold f_X11_init at h
  refine ctr_of (by decide) (Nat.le_of_ble_eq_true rfl) (fun M O F R0 hal hn => ?_)
  refine g_sub [0] (lv' := [(0, vA (some a0))]) rfl ?_
  refine g_aload_n O dX11_init_0 rfl 0 rfl ?_
  refine g_objInit (r := none) O R0 dX11_init_1 w174 w175 w176 (Nat.le_of_ble_eq_true rfl) (Nat.le_of_ble_eq_true rfl) ?_
  refine g_aload_n O dX11_init_4 rfl 0 rfl ?_
  obtain ⟨p1, e2, h⟩ := bo_some h
  refine c_new O R0 hal dX11_init_5 clX8 w177 w178 w150 1 8 rfl rfl ⟨by decide, by decide⟩ e2 ?_
  refine g_dup O dX11_init_8 rfl ?_
  obtain ⟨p3, e4, h⟩ := bo_some h
  refine c_call O R0 hal dX11_init_9 ⟨w179, w181, w150, by decide, by decide, by decide +kernel⟩ ⟨w180, rfl⟩ rfl ⟨Nat.le_of_ble_eq_true rfl, Nat.le_of_ble_eq_true rfl⟩ 38 1131 rfl rfl ⟨by decide, by decide⟩ (c_X8_init l0 (sh.1) p1.1 p1.2 p3 e4) ?_
  obtain ⟨σ5, e6, h⟩ := bo_some h
  refine g_putR O dX11_init_12 fl_X11_12 (Or.inr ⟨rfl, fun T C h => cl_uniq clX11 h⟩) rfl e6 ?_
  refine g_aload_n O dX11_init_15 rfl 0 rfl ?_
  refine g_iconst (v := (3 : Int32)) O dX11_init_16 rfl ?_
  obtain ⟨p7, e8, h⟩ := bo_some h
  refine c_newR (kd := 18) (C := RX8) O R0 hal dX11_init_17 w177 (by decide) (fun _ => rfl) (fun _ h => h.2.2.1) (by decide) rfl (Nat.le_of_ble_eq_true rfl) 39 1134 rfl rfl ⟨by decide, by decide⟩ e8 ?_
  obtain ⟨σ9, e10, h⟩ := bo_some h
  refine g_putR O dX11_init_20 fl_X11_16 (Or.inr ⟨rfl, fun T C h => cl_uniq clX11 h⟩) rfl e10 ?_
  refine g_iconst (v := (0 : Int32)) O dX11_init_23 rfl ?_
  refine g_istore_n (lv' := [(1, vI (0 : Int32)), (0, vA (some a0))]) O dX11_init_24 rfl 2 hn (by decide) rfl ?_
  refine g_iload_n O dX11_init_25 rfl 0 rfl ?_
  refine g_iconst (v := (3 : Int32)) O dX11_init_26 rfl ?_
  refine g_icmp_ge O dX11_init_27 rfl (fun c => absurd c (by decide)) (fun _ => ?_)
  refine g_aload_n O dX11_init_30 rfl 1 rfl ?_
  obtain ⟨v11, e12, h⟩ := bo_some h
  refine g_getR O dX11_init_31 fl_X11_16 rfl e12 ?_
  refine g_iload_n O dX11_init_34 rfl 0 rfl ?_
  obtain ⟨p13, e14, h⟩ := bo_some h
  refine c_new O R0 hal dX11_init_35 clX8 w177 w178 w150 40 1142 rfl rfl ⟨by decide, by decide⟩ e14 ?_
  refine g_dup O dX11_init_38 rfl ?_
  obtain ⟨p15, e16, h⟩ := bo_some h
  refine c_call O R0 hal dX11_init_39 ⟨w179, w181, w150, by decide, by decide, by decide +kernel⟩ ⟨w180, rfl⟩ rfl ⟨Nat.le_of_ble_eq_true rfl, Nat.le_of_ble_eq_true rfl⟩ 77 2265 rfl rfl ⟨by decide, by decide⟩ (c_X8_init l0 (p7.1.1) p13.1 p13.2 p15 e16) ?_
  obtain ⟨σ17, e18, h⟩ := bo_some h
  refine c_aastore (kd := 18) O dX11_init_42 clX8 (by decide) (fun _ => rfl) e18 ?_
  refine g_iinc (v := (1 : Int32)) (lv' := [(1, vI (1 : Int32)), (0, vA (some a0))]) O dX11_init_43 2 hn (by decide) 0 rfl rfl rfl ?_
  refine g_goto O dX11_init_46 rfl ?_
  refine g_iload_n O dX11_init_25 rfl 0 rfl ?_
  refine g_iconst (v := (3 : Int32)) O dX11_init_26 rfl ?_
  refine g_icmp_ge O dX11_init_27 rfl (fun c => absurd c (by decide)) (fun _ => ?_)
  refine g_aload_n O dX11_init_30 rfl 1 rfl ?_
  obtain ⟨v19, e20, h⟩ := bo_some h
  refine g_getR O dX11_init_31 fl_X11_16 rfl e20 ?_
  refine g_iload_n O dX11_init_34 rfl 0 rfl ?_
  obtain ⟨p21, e22, h⟩ := bo_some h
  refine c_new O R0 hal dX11_init_35 clX8 w177 w178 w150 78 2273 rfl rfl ⟨by decide, by decide⟩ e22 ?_
  refine g_dup O dX11_init_38 rfl ?_
  obtain ⟨p23, e24, h⟩ := bo_some h
  refine c_call O R0 hal dX11_init_39 ⟨w179, w181, w150, by decide, by decide, by decide +kernel⟩ ⟨w180, rfl⟩ rfl ⟨Nat.le_of_ble_eq_true rfl, Nat.le_of_ble_eq_true rfl⟩ 115 3396 rfl rfl ⟨by decide, by decide⟩ (c_X8_init l0 (p15.1.1) p21.1 p21.2 p23 e24) ?_
  obtain ⟨σ25, e26, h⟩ := bo_some h
  refine c_aastore (kd := 18) O dX11_init_42 clX8 (by decide) (fun _ => rfl) e26 ?_
  refine g_iinc (v := (2 : Int32)) (lv' := [(1, vI (2 : Int32)), (0, vA (some a0))]) O dX11_init_43 2 hn (by decide) 0 rfl rfl rfl ?_
  refine g_goto O dX11_init_46 rfl ?_
  refine g_iload_n O dX11_init_25 rfl 0 rfl ?_
  refine g_iconst (v := (3 : Int32)) O dX11_init_26 rfl ?_
  refine g_icmp_ge O dX11_init_27 rfl (fun c => absurd c (by decide)) (fun _ => ?_)
  refine g_aload_n O dX11_init_30 rfl 1 rfl ?_
  obtain ⟨v27, e28, h⟩ := bo_some h
  refine g_getR O dX11_init_31 fl_X11_16 rfl e28 ?_
  refine g_iload_n O dX11_init_34 rfl 0 rfl ?_
  obtain ⟨p29, e30, h⟩ := bo_some h
  refine c_new O R0 hal dX11_init_35 clX8 w177 w178 w150 116 3404 rfl rfl ⟨by decide, by decide⟩ e30 ?_
  refine g_dup O dX11_init_38 rfl ?_
  obtain ⟨p31, e32, h⟩ := bo_some h
  refine c_call O R0 hal dX11_init_39 ⟨w179, w181, w150, by decide, by decide, by decide +kernel⟩ ⟨w180, rfl⟩ rfl ⟨Nat.le_of_ble_eq_true rfl, Nat.le_of_ble_eq_true rfl⟩ 153 4527 rfl rfl ⟨by decide, by decide⟩ (c_X8_init l0 (p23.1.1) p29.1 p29.2 p31 e32) ?_
  obtain ⟨σ33, e34, h⟩ := bo_some h
  refine c_aastore (kd := 18) O dX11_init_42 clX8 (by decide) (fun _ => rfl) e34 ?_
  refine g_iinc (v := (3 : Int32)) (lv' := [(1, vI (3 : Int32)), (0, vA (some a0))]) O dX11_init_43 2 hn (by decide) 0 rfl rfl rfl ?_
  refine g_goto O dX11_init_46 rfl ?_
  refine g_iload_n O dX11_init_25 rfl 0 rfl ?_
  refine g_iconst (v := (3 : Int32)) O dX11_init_26 rfl ?_
  refine g_icmp_ge O dX11_init_27 rfl (fun _ => ?_) (fun c => absurd (by decide) c)
  refine g_aload_n O dX11_init_49 rfl 1 rfl ?_
  refine g_iconst (v := (3 : Int32)) O dX11_init_50 rfl ?_
  obtain ⟨p35, e36, h⟩ := bo_some h
  refine c_newZ O R0 hal dX11_init_51 w405 (by decide) rfl (Nat.le_of_ble_eq_true rfl) 154 4530 rfl rfl ⟨by decide, by decide⟩ e36 ?_
  obtain ⟨σ37, e38, h⟩ := bo_some h
  refine g_putR O dX11_init_53 fl_X11_20 (Or.inr ⟨rfl, fun T C h => cl_uniq clX11 h⟩) rfl e38 ?_
  refine g_aload_n O dX11_init_56 rfl 1 rfl ?_
  obtain ⟨p39, e40, h⟩ := bo_some h
  refine c_new O R0 hal dX11_init_57 clX5 w348 w349 w154 155 4543 rfl rfl ⟨by decide, by decide⟩ e40 ?_
  refine g_dup O dX11_init_60 rfl ?_
  obtain ⟨p41, e42, h⟩ := bo_some h
  refine c_call O R0 hal dX11_init_61 ⟨w350, w352, w154, by decide, by decide, by decide +kernel⟩ ⟨w351, rfl⟩ rfl ⟨Nat.le_of_ble_eq_true rfl, Nat.le_of_ble_eq_true rfl⟩ 173 4806 rfl rfl ⟨by decide, by decide⟩ (c_X5_init l0 (p35.1.1) p39.1 p39.2 p41 e42) ?_
  obtain ⟨σ43, e44, h⟩ := bo_some h
  refine g_putR O dX11_init_64 fl_X11_27 (Or.inr ⟨rfl, fun T C h => cl_uniq clX11 h⟩) rfl e44 ?_
  refine g_aload_n O dX11_init_67 rfl 1 rfl ?_
  obtain ⟨p45, e46, h⟩ := bo_some h
  refine c_new O R0 hal dX11_init_68 clX10 w406 w407 w155 174 4826 rfl rfl ⟨by decide, by decide⟩ e46 ?_
  refine g_dup O dX11_init_71 rfl ?_
  obtain ⟨p47, e48, h⟩ := bo_some h
  refine c_call O R0 hal dX11_init_72 ⟨w408, w410, w155, by decide, by decide, by decide +kernel⟩ ⟨w409, rfl⟩ rfl ⟨Nat.le_of_ble_eq_true rfl, Nat.le_of_ble_eq_true rfl⟩ 185 4936 rfl rfl ⟨by decide, by decide⟩ (c_X10_init l0 (p41.1.1) p45.1 p45.2 p47 e48) ?_
  obtain ⟨σ49, e50, h⟩ := bo_some h
  refine g_putR O dX11_init_75 fl_X11_34 (Or.inr ⟨rfl, fun T C h => cl_uniq clX11 h⟩) rfl e50 ?_
  refine g_aload_n O dX11_init_78 rfl 1 rfl ?_
  obtain ⟨p51, e52, h⟩ := bo_some h
  refine c_new O R0 hal dX11_init_79 clX2 w473 w474 w156 186 4943 rfl rfl ⟨by decide, by decide⟩ e52 ?_
  refine g_dup O dX11_init_82 rfl ?_
  obtain ⟨p53, e54, h⟩ := bo_some h
  refine c_call O R0 hal dX11_init_83 ⟨w475, w477, w156, by decide, by decide, by decide +kernel⟩ ⟨w476, rfl⟩ rfl ⟨Nat.le_of_ble_eq_true rfl, Nat.le_of_ble_eq_true rfl⟩ 190 5154 rfl rfl ⟨by decide, by decide⟩ (c_X2_init l0 (p47.1.1) p51.1 p51.2 p53 e54) ?_
  obtain ⟨σ55, e56, h⟩ := bo_some h
  refine g_putR O dX11_init_86 fl_X11_41 (Or.inr ⟨rfl, fun T C h => cl_uniq clX11 h⟩) rfl e56 ?_
  refine g_aload_n O dX11_init_89 rfl 1 rfl ?_
  obtain ⟨p57, e58, h⟩ := bo_some h
  refine c_new O R0 hal dX11_init_90 clX7 w503 w504 w157 191 5156 rfl rfl ⟨by decide, by decide⟩ e58 ?_
  refine g_dup O dX11_init_93 rfl ?_
  obtain ⟨p59, e60, h⟩ := bo_some h
  refine c_call O R0 hal dX11_init_94 ⟨w505, w507, w157, by decide, by decide, by decide +kernel⟩ ⟨w506, rfl⟩ rfl ⟨Nat.le_of_ble_eq_true rfl, Nat.le_of_ble_eq_true rfl⟩ 193 5226 rfl rfl ⟨by decide, by decide⟩ (c_X7_init l0 (p53.1.1) p57.1 p57.2 p59 e60) ?_
  obtain ⟨σ61, e62, h⟩ := bo_some h
  refine g_putR O dX11_init_97 fl_X11_48 (Or.inr ⟨rfl, fun T C h => cl_uniq clX11 h⟩) rfl e62 ?_
  refine g_aload_n O dX11_init_100 rfl 1 rfl ?_
  obtain ⟨p63, e64, h⟩ := bo_some h
  refine c_new O R0 hal dX11_init_101 clX1 w516 w517 w158 194 5238 rfl rfl ⟨by decide, by decide⟩ e64 ?_
  refine g_dup O dX11_init_104 rfl ?_
  obtain ⟨p65, e66, h⟩ := bo_some h
  refine c_call O R0 hal dX11_init_105 ⟨w518, w520, w158, by decide, by decide, by decide +kernel⟩ ⟨w519, rfl⟩ rfl ⟨Nat.le_of_ble_eq_true rfl, Nat.le_of_ble_eq_true rfl⟩ 202 6536 rfl rfl ⟨by decide, by decide⟩ (c_X1_init l0 (p59.1.1) p63.1 p63.2 p65 e66) ?_
  obtain ⟨σ67, e68, h⟩ := bo_some h
  refine g_putR O dX11_init_108 fl_X11_55 (Or.inr ⟨rfl, fun T C h => cl_uniq clX11 h⟩) rfl e68 ?_
  refine g_aload_n O dX11_init_111 rfl 1 rfl ?_
  obtain ⟨p69, e70, h⟩ := bo_some h
  refine c_new O R0 hal dX11_init_112 clX3 w562 w563 w159 203 6543 rfl rfl ⟨by decide, by decide⟩ e70 ?_
  refine g_dup O dX11_init_115 rfl ?_
  obtain ⟨p71, e72, h⟩ := bo_some h
  refine c_call O R0 hal dX11_init_116 ⟨w564, w566, w159, by decide, by decide, by decide +kernel⟩ ⟨w565, rfl⟩ rfl ⟨Nat.le_of_ble_eq_true rfl, Nat.le_of_ble_eq_true rfl⟩ 217 7697 rfl rfl ⟨by decide, by decide⟩ (c_X3_init l0 (p65.1.1) p69.1 p69.2 p71 e72) ?_
  obtain ⟨σ73, e74, h⟩ := bo_some h
  refine g_putR O dX11_init_119 fl_X11_62 (Or.inr ⟨rfl, fun T C h => cl_uniq clX11 h⟩) rfl e74 ?_
  refine g_aload_n O dX11_init_122 rfl 1 rfl ?_
  obtain ⟨p75, e76, h⟩ := bo_some h
  refine c_new O R0 hal dX11_init_123 clX0 w595 w596 w160 218 7703 rfl rfl ⟨by decide, by decide⟩ e76 ?_
  refine g_dup O dX11_init_126 rfl ?_
  obtain ⟨p77, e78, h⟩ := bo_some h
  refine c_call O R0 hal dX11_init_127 ⟨w597, w599, w160, by decide, by decide, by decide +kernel⟩ ⟨w598, rfl⟩ rfl ⟨Nat.le_of_ble_eq_true rfl, Nat.le_of_ble_eq_true rfl⟩ 221 7733 rfl rfl ⟨by decide, by decide⟩ (c_X0_init l0 (p71.1.1) p75.1 p75.2 p77 e78) ?_
  obtain ⟨σ79, e80, h⟩ := bo_some h
  refine g_putR O dX11_init_130 fl_X11_69 (Or.inr ⟨rfl, fun T C h => cl_uniq clX11 h⟩) rfl e80 ?_
  cases h
  exact g_return O F dX11_init_133
def f_X12_init (a0 : Nat) (sh : Sh) (σ : Dt) : Option (Sh × Dt) := bo (xnA sh 13 4312 σ) fun p1 => bo (xpr p1.1 12 0 (some a0) (some sh.1) p1.2) fun σ3 => bo (xnA p1.1 15 3 σ3) fun p5 => bo (xpr p5.1 12 1 (some a0) (some p1.1.1) p5.2) fun σ7 => bo (xnA p5.1 13 161 σ7) fun p9 => bo (xpr p9.1 12 10 (some a0) (some p5.1.1) p9.2) fun σ11 => bo (xnA p9.1 13 6 σ11) fun p13 => bo (xpr p13.1 12 14 (some a0) (some p9.1.1) p13.2) fun σ15 => bo (xnA p13.1 13 6 σ15) fun p17 => bo (xpr p17.1 12 15 (some a0) (some p13.1.1) p17.2) fun σ19 => bo (xnA p17.1 13 6 σ19) fun p21 => bo (xpr p21.1 12 16 (some a0) (some p17.1.1) p21.2) fun σ23 => bo (xnA p21.1 13 6 σ23) fun p25 => bo (xpr p25.1 12 17 (some a0) (some p21.1.1) p25.2) fun σ27 => bo (xnA p25.1 13 6 σ27) fun p29 => bo (xpr p29.1 12 18 (some a0) (some p25.1.1) p29.2) fun σ31 => bo (xnA p29.1 13 6 σ31) fun p33 => bo (xpr p33.1 12 19 (some a0) (some p29.1.1) p33.2) fun σ35 => bo (xnA p33.1 15 65536 σ35) fun p37 => bo (xpr p37.1 12 21 (some a0) (some p33.1.1) p37.2) fun σ39 => bo (xnA p37.1 15 1024 σ39) fun p41 => bo (xpr p41.1 12 22 (some a0) (some p37.1.1) p41.2) fun σ43 => bo (xnA p41.1 14 100 σ43) fun p45 => bo (xpr p45.1 12 23 (some a0) (some p41.1.1) p45.2) fun σ47 => bo (xnA p45.1 13 10 σ47) fun p49 => bo (xpr p49.1 12 24 (some a0) (some p45.1.1) p49.2) fun σ51 => bo (xnA p49.1 15 64 σ51) fun p53 => bo (xpr p53.1 12 25 (some a0) (some p49.1.1) p53.2) fun σ55 => bo (xnA p53.1 13 10 σ55) fun p57 => bo (xpr p57.1 12 34 (some a0) (some p53.1.1) p57.2) fun σ59 => bo (xnA p57.1 13 10 σ59) fun p61 => bo (xpr p61.1 12 35 (some a0) (some p57.1.1) p61.2) fun σ63 => bo (xnA p61.1 13 10 σ63) fun p65 => bo (xpr p65.1 12 36 (some a0) (some p61.1.1) p65.2) fun σ67 => bo (xnA p65.1 13 10 σ67) fun p69 => bo (xpr p69.1 12 37 (some a0) (some p65.1.1) p69.2) fun σ71 => bo (xnA p69.1 13 10 σ71) fun p73 => bo (xpr p73.1 12 38 (some a0) (some p69.1.1) p73.2) fun σ75 => bo (xnA p73.1 13 10 σ75) fun p77 => bo (xpr p77.1 12 39 (some a0) (some p73.1.1) p77.2) fun σ79 => bo (xnA p77.1 13 6 σ79) fun p81 => bo (xpr p81.1 12 40 (some a0) (some p77.1.1) p81.2) fun σ83 => bo (xnA p81.1 13 12 σ83) fun p85 => bo (xpr p85.1 12 41 (some a0) (some p81.1.1) p85.2) fun σ87 => bo (xnA p85.1 13 12 σ87) fun p89 => bo (xpr p89.1 12 42 (some a0) (some p85.1.1) p89.2) fun σ91 => bo (xnA p89.1 13 12 σ91) fun p93 => bo (xpr p93.1 12 43 (some a0) (some p89.1.1) p93.2) fun σ95 => bo (xnA p93.1 13 12 σ95) fun p97 => bo (xpr p97.1 12 44 (some a0) (some p93.1.1) p97.2) fun σ99 => bo (xnA p97.1 13 31 σ99) fun p101 => bo (xpr p101.1 12 46 (some a0) (some p97.1.1) p101.2) fun σ103 => bo (xgr p101.1 12 0 (some a0) σ103) fun v105 => bo (xsi p101.1 v105 (6 : Int32) (-1 : Int32) σ103) fun σ107 => some (p101.1, σ107)
theorem c_X12_init (l0 : Launch) (a0 : Nat) (sh : Sh) (σ : Dt) (r : Sh × Dt) (h : f_X12_init a0 sh σ = some r) : Ctr l0 yX12_init cX12_init 1 none true 2 80 26 71391 [vA (some a0)] sh σ r.1 r.2 none := by
  unfold f_X12_init at h
  refine ctr_of (by decide) (Nat.le_of_ble_eq_true rfl) (fun M O F R0 hal hn => ?_)
  refine g_sub [0] (lv' := [(0, vA (some a0))]) rfl ?_
  refine g_aload_n O dX12_init_0 rfl 0 rfl ?_
  refine g_objInit (r := none) O R0 dX12_init_1 w1456 w175 w176 (Nat.le_of_ble_eq_true rfl) (Nat.le_of_ble_eq_true rfl) ?_
  refine g_aload_n O dX12_init_4 rfl 0 rfl ?_
  refine g_sipush (v := (4312 : Int32)) O dX12_init_5 rfl ?_
  obtain ⟨p1, e2, h⟩ := bo_some h
  refine c_newI O R0 hal dX12_init_8 w259 (by decide) rfl (Nat.le_of_ble_eq_true rfl) 1 4312 rfl rfl ⟨by decide, by decide⟩ e2 ?_
  obtain ⟨σ3, e4, h⟩ := bo_some h
  refine g_putR O dX12_init_10 fl_X12_7 (Or.inr ⟨rfl, fun T C h => cl_uniq clX12 h⟩) rfl e4 ?_
  refine g_aload_n O dX12_init_13 rfl 0 rfl ?_
  refine g_iconst (v := (3 : Int32)) O dX12_init_14 rfl ?_
  obtain ⟨p5, e6, h⟩ := bo_some h
  refine c_newZ O R0 hal dX12_init_15 w405 (by decide) rfl (Nat.le_of_ble_eq_true rfl) 2 4315 rfl rfl ⟨by decide, by decide⟩ e6 ?_
  obtain ⟨σ7, e8, h⟩ := bo_some h
  refine g_putR O dX12_init_17 fl_X12_13 (Or.inr ⟨rfl, fun T C h => cl_uniq clX12 h⟩) rfl e8 ?_
  refine g_aload_n O dX12_init_20 rfl 0 rfl ?_
  refine g_sipush (v := (161 : Int32)) O dX12_init_21 rfl ?_
  obtain ⟨p9, e10, h⟩ := bo_some h
  refine c_newI O R0 hal dX12_init_24 w259 (by decide) rfl (Nat.le_of_ble_eq_true rfl) 3 4476 rfl rfl ⟨by decide, by decide⟩ e10 ?_
  obtain ⟨σ11, e12, h⟩ := bo_some h
  refine g_putR O dX12_init_26 fl_X12_17 (Or.inr ⟨rfl, fun T C h => cl_uniq clX12 h⟩) rfl e12 ?_
  refine g_aload_n O dX12_init_29 rfl 0 rfl ?_
  refine g_bipush (v := (6 : Int32)) O dX12_init_30 rfl ?_
  obtain ⟨p13, e14, h⟩ := bo_some h
  refine c_newI O R0 hal dX12_init_32 w259 (by decide) rfl (Nat.le_of_ble_eq_true rfl) 4 4482 rfl rfl ⟨by decide, by decide⟩ e14 ?_
  obtain ⟨σ15, e16, h⟩ := bo_some h
  refine g_putR O dX12_init_34 fl_X12_20 (Or.inr ⟨rfl, fun T C h => cl_uniq clX12 h⟩) rfl e16 ?_
  refine g_aload_n O dX12_init_37 rfl 0 rfl ?_
  refine g_bipush (v := (6 : Int32)) O dX12_init_38 rfl ?_
  obtain ⟨p17, e18, h⟩ := bo_some h
  refine c_newI O R0 hal dX12_init_40 w259 (by decide) rfl (Nat.le_of_ble_eq_true rfl) 5 4488 rfl rfl ⟨by decide, by decide⟩ e18 ?_
  obtain ⟨σ19, e20, h⟩ := bo_some h
  refine g_putR O dX12_init_42 fl_X12_23 (Or.inr ⟨rfl, fun T C h => cl_uniq clX12 h⟩) rfl e20 ?_
  refine g_aload_n O dX12_init_45 rfl 0 rfl ?_
  refine g_bipush (v := (6 : Int32)) O dX12_init_46 rfl ?_
  obtain ⟨p21, e22, h⟩ := bo_some h
  refine c_newI O R0 hal dX12_init_48 w259 (by decide) rfl (Nat.le_of_ble_eq_true rfl) 6 4494 rfl rfl ⟨by decide, by decide⟩ e22 ?_
  obtain ⟨σ23, e24, h⟩ := bo_some h
  refine g_putR O dX12_init_50 fl_X12_26 (Or.inr ⟨rfl, fun T C h => cl_uniq clX12 h⟩) rfl e24 ?_
  refine g_aload_n O dX12_init_53 rfl 0 rfl ?_
  refine g_bipush (v := (6 : Int32)) O dX12_init_54 rfl ?_
  obtain ⟨p25, e26, h⟩ := bo_some h
  refine c_newI O R0 hal dX12_init_56 w259 (by decide) rfl (Nat.le_of_ble_eq_true rfl) 7 4500 rfl rfl ⟨by decide, by decide⟩ e26 ?_
  obtain ⟨σ27, e28, h⟩ := bo_some h
  refine g_putR O dX12_init_58 fl_X12_29 (Or.inr ⟨rfl, fun T C h => cl_uniq clX12 h⟩) rfl e28 ?_
  refine g_aload_n O dX12_init_61 rfl 0 rfl ?_
  refine g_bipush (v := (6 : Int32)) O dX12_init_62 rfl ?_
  obtain ⟨p29, e30, h⟩ := bo_some h
  refine c_newI O R0 hal dX12_init_64 w259 (by decide) rfl (Nat.le_of_ble_eq_true rfl) 8 4506 rfl rfl ⟨by decide, by decide⟩ e30 ?_
  obtain ⟨σ31, e32, h⟩ := bo_some h
  refine g_putR O dX12_init_66 fl_X12_32 (Or.inr ⟨rfl, fun T C h => cl_uniq clX12 h⟩) rfl e32 ?_
  refine g_aload_n O dX12_init_69 rfl 0 rfl ?_
  refine g_bipush (v := (6 : Int32)) O dX12_init_70 rfl ?_
  obtain ⟨p33, e34, h⟩ := bo_some h
  refine c_newI O R0 hal dX12_init_72 w259 (by decide) rfl (Nat.le_of_ble_eq_true rfl) 9 4512 rfl rfl ⟨by decide, by decide⟩ e34 ?_
  obtain ⟨σ35, e36, h⟩ := bo_some h
  refine g_putR O dX12_init_74 fl_X12_35 (Or.inr ⟨rfl, fun T C h => cl_uniq clX12 h⟩) rfl e36 ?_
  refine g_aload_n O dX12_init_77 rfl 0 rfl ?_
  refine g_ldc O dX12_init_78 w1457 ?_
  obtain ⟨p37, e38, h⟩ := bo_some h
  refine c_newZ O R0 hal dX12_init_80 w405 (by decide) rfl (Nat.le_of_ble_eq_true rfl) 10 70048 rfl rfl ⟨by decide, by decide⟩ e38 ?_
  obtain ⟨σ39, e40, h⟩ := bo_some h
  refine g_putR O dX12_init_82 fl_X12_39 (Or.inr ⟨rfl, fun T C h => cl_uniq clX12 h⟩) rfl e40 ?_
  refine g_aload_n O dX12_init_85 rfl 0 rfl ?_
  refine g_sipush (v := (1024 : Int32)) O dX12_init_86 rfl ?_
  obtain ⟨p41, e42, h⟩ := bo_some h
  refine c_newZ O R0 hal dX12_init_89 w405 (by decide) rfl (Nat.le_of_ble_eq_true rfl) 11 71072 rfl rfl ⟨by decide, by decide⟩ e42 ?_
  obtain ⟨σ43, e44, h⟩ := bo_some h
  refine g_putR O dX12_init_91 fl_X12_42 (Or.inr ⟨rfl, fun T C h => cl_uniq clX12 h⟩) rfl e44 ?_
  refine g_aload_n O dX12_init_94 rfl 0 rfl ?_
  refine g_bipush (v := (100 : Int32)) O dX12_init_95 rfl ?_
  obtain ⟨p45, e46, h⟩ := bo_some h
  refine c_newJ O R0 hal dX12_init_97 w594 (by decide) rfl (Nat.le_of_ble_eq_true rfl) 12 71172 rfl rfl ⟨by decide, by decide⟩ e46 ?_
  obtain ⟨σ47, e48, h⟩ := bo_some h
  refine g_putR O dX12_init_99 fl_X12_45 (Or.inr ⟨rfl, fun T C h => cl_uniq clX12 h⟩) rfl e48 ?_
  refine g_aload_n O dX12_init_102 rfl 0 rfl ?_
  refine g_bipush (v := (10 : Int32)) O dX12_init_103 rfl ?_
  obtain ⟨p49, e50, h⟩ := bo_some h
  refine c_newI O R0 hal dX12_init_105 w259 (by decide) rfl (Nat.le_of_ble_eq_true rfl) 13 71182 rfl rfl ⟨by decide, by decide⟩ e50 ?_
  obtain ⟨σ51, e52, h⟩ := bo_some h
  refine g_putR O dX12_init_107 fl_X12_49 (Or.inr ⟨rfl, fun T C h => cl_uniq clX12 h⟩) rfl e52 ?_
  refine g_aload_n O dX12_init_110 rfl 0 rfl ?_
  refine g_bipush (v := (64 : Int32)) O dX12_init_111 rfl ?_
  obtain ⟨p53, e54, h⟩ := bo_some h
  refine c_newZ O R0 hal dX12_init_113 w405 (by decide) rfl (Nat.le_of_ble_eq_true rfl) 14 71246 rfl rfl ⟨by decide, by decide⟩ e54 ?_
  obtain ⟨σ55, e56, h⟩ := bo_some h
  refine g_putR O dX12_init_115 fl_X12_52 (Or.inr ⟨rfl, fun T C h => cl_uniq clX12 h⟩) rfl e56 ?_
  refine g_aload_n O dX12_init_118 rfl 0 rfl ?_
  refine g_bipush (v := (10 : Int32)) O dX12_init_119 rfl ?_
  obtain ⟨p57, e58, h⟩ := bo_some h
  refine c_newI O R0 hal dX12_init_121 w259 (by decide) rfl (Nat.le_of_ble_eq_true rfl) 15 71256 rfl rfl ⟨by decide, by decide⟩ e58 ?_
  obtain ⟨σ59, e60, h⟩ := bo_some h
  refine g_putR O dX12_init_123 fl_X12_55 (Or.inr ⟨rfl, fun T C h => cl_uniq clX12 h⟩) rfl e60 ?_
  refine g_aload_n O dX12_init_126 rfl 0 rfl ?_
  refine g_bipush (v := (10 : Int32)) O dX12_init_127 rfl ?_
  obtain ⟨p61, e62, h⟩ := bo_some h
  refine c_newI O R0 hal dX12_init_129 w259 (by decide) rfl (Nat.le_of_ble_eq_true rfl) 16 71266 rfl rfl ⟨by decide, by decide⟩ e62 ?_
  obtain ⟨σ63, e64, h⟩ := bo_some h
  refine g_putR O dX12_init_131 fl_X12_58 (Or.inr ⟨rfl, fun T C h => cl_uniq clX12 h⟩) rfl e64 ?_
  refine g_aload_n O dX12_init_134 rfl 0 rfl ?_
  refine g_bipush (v := (10 : Int32)) O dX12_init_135 rfl ?_
  obtain ⟨p65, e66, h⟩ := bo_some h
  refine c_newI O R0 hal dX12_init_137 w259 (by decide) rfl (Nat.le_of_ble_eq_true rfl) 17 71276 rfl rfl ⟨by decide, by decide⟩ e66 ?_
  obtain ⟨σ67, e68, h⟩ := bo_some h
  refine g_putR O dX12_init_139 fl_X12_61 (Or.inr ⟨rfl, fun T C h => cl_uniq clX12 h⟩) rfl e68 ?_
  refine g_aload_n O dX12_init_142 rfl 0 rfl ?_
  refine g_bipush (v := (10 : Int32)) O dX12_init_143 rfl ?_
  obtain ⟨p69, e70, h⟩ := bo_some h
  refine c_newI O R0 hal dX12_init_145 w259 (by decide) rfl (Nat.le_of_ble_eq_true rfl) 18 71286 rfl rfl ⟨by decide, by decide⟩ e70 ?_
  obtain ⟨σ71, e72, h⟩ := bo_some h
  refine g_putR O dX12_init_147 fl_X12_64 (Or.inr ⟨rfl, fun T C h => cl_uniq clX12 h⟩) rfl e72 ?_
  refine g_aload_n O dX12_init_150 rfl 0 rfl ?_
  refine g_bipush (v := (10 : Int32)) O dX12_init_151 rfl ?_
  obtain ⟨p73, e74, h⟩ := bo_some h
  refine c_newI O R0 hal dX12_init_153 w259 (by decide) rfl (Nat.le_of_ble_eq_true rfl) 19 71296 rfl rfl ⟨by decide, by decide⟩ e74 ?_
  obtain ⟨σ75, e76, h⟩ := bo_some h
  refine g_putR O dX12_init_155 fl_X12_67 (Or.inr ⟨rfl, fun T C h => cl_uniq clX12 h⟩) rfl e76 ?_
  refine g_aload_n O dX12_init_158 rfl 0 rfl ?_
  refine g_bipush (v := (10 : Int32)) O dX12_init_159 rfl ?_
  obtain ⟨p77, e78, h⟩ := bo_some h
  refine c_newI O R0 hal dX12_init_161 w259 (by decide) rfl (Nat.le_of_ble_eq_true rfl) 20 71306 rfl rfl ⟨by decide, by decide⟩ e78 ?_
  obtain ⟨σ79, e80, h⟩ := bo_some h
  refine g_putR O dX12_init_163 fl_X12_70 (Or.inr ⟨rfl, fun T C h => cl_uniq clX12 h⟩) rfl e80 ?_
  refine g_aload_n O dX12_init_166 rfl 0 rfl ?_
  refine g_bipush (v := (6 : Int32)) O dX12_init_167 rfl ?_
  obtain ⟨p81, e82, h⟩ := bo_some h
  refine c_newI O R0 hal dX12_init_169 w259 (by decide) rfl (Nat.le_of_ble_eq_true rfl) 21 71312 rfl rfl ⟨by decide, by decide⟩ e82 ?_
  obtain ⟨σ83, e84, h⟩ := bo_some h
  refine g_putR O dX12_init_171 fl_X12_73 (Or.inr ⟨rfl, fun T C h => cl_uniq clX12 h⟩) rfl e84 ?_
  refine g_aload_n O dX12_init_174 rfl 0 rfl ?_
  refine g_bipush (v := (12 : Int32)) O dX12_init_175 rfl ?_
  obtain ⟨p85, e86, h⟩ := bo_some h
  refine c_newI O R0 hal dX12_init_177 w259 (by decide) rfl (Nat.le_of_ble_eq_true rfl) 22 71324 rfl rfl ⟨by decide, by decide⟩ e86 ?_
  obtain ⟨σ87, e88, h⟩ := bo_some h
  refine g_putR O dX12_init_179 fl_X12_76 (Or.inr ⟨rfl, fun T C h => cl_uniq clX12 h⟩) rfl e88 ?_
  refine g_aload_n O dX12_init_182 rfl 0 rfl ?_
  refine g_bipush (v := (12 : Int32)) O dX12_init_183 rfl ?_
  obtain ⟨p89, e90, h⟩ := bo_some h
  refine c_newI O R0 hal dX12_init_185 w259 (by decide) rfl (Nat.le_of_ble_eq_true rfl) 23 71336 rfl rfl ⟨by decide, by decide⟩ e90 ?_
  obtain ⟨σ91, e92, h⟩ := bo_some h
  refine g_putR O dX12_init_187 fl_X12_79 (Or.inr ⟨rfl, fun T C h => cl_uniq clX12 h⟩) rfl e92 ?_
  refine g_aload_n O dX12_init_190 rfl 0 rfl ?_
  refine g_bipush (v := (12 : Int32)) O dX12_init_191 rfl ?_
  obtain ⟨p93, e94, h⟩ := bo_some h
  refine c_newI O R0 hal dX12_init_193 w259 (by decide) rfl (Nat.le_of_ble_eq_true rfl) 24 71348 rfl rfl ⟨by decide, by decide⟩ e94 ?_
  obtain ⟨σ95, e96, h⟩ := bo_some h
  refine g_putR O dX12_init_195 fl_X12_82 (Or.inr ⟨rfl, fun T C h => cl_uniq clX12 h⟩) rfl e96 ?_
  refine g_aload_n O dX12_init_198 rfl 0 rfl ?_
  refine g_bipush (v := (12 : Int32)) O dX12_init_199 rfl ?_
  obtain ⟨p97, e98, h⟩ := bo_some h
  refine c_newI O R0 hal dX12_init_201 w259 (by decide) rfl (Nat.le_of_ble_eq_true rfl) 25 71360 rfl rfl ⟨by decide, by decide⟩ e98 ?_
  obtain ⟨σ99, e100, h⟩ := bo_some h
  refine g_putR O dX12_init_203 fl_X12_85 (Or.inr ⟨rfl, fun T C h => cl_uniq clX12 h⟩) rfl e100 ?_
  refine g_aload_n O dX12_init_206 rfl 0 rfl ?_
  refine g_bipush (v := (31 : Int32)) O dX12_init_207 rfl ?_
  obtain ⟨p101, e102, h⟩ := bo_some h
  refine c_newI O R0 hal dX12_init_209 w259 (by decide) rfl (Nat.le_of_ble_eq_true rfl) 26 71391 rfl rfl ⟨by decide, by decide⟩ e102 ?_
  obtain ⟨σ103, e104, h⟩ := bo_some h
  refine g_putR O dX12_init_211 fl_X12_88 (Or.inr ⟨rfl, fun T C h => cl_uniq clX12 h⟩) rfl e104 ?_
  refine g_aload_n O dX12_init_214 rfl 0 rfl ?_
  obtain ⟨v105, e106, h⟩ := bo_some h
  refine g_getR O dX12_init_215 fl_X12_7 rfl e106 ?_
  refine g_bipush (v := (6 : Int32)) O dX12_init_218 rfl ?_
  refine g_iconst (v := (-1 : Int32)) O dX12_init_220 rfl ?_
  obtain ⟨σ107, e108, h⟩ := bo_some h
  refine g_iastore O dX12_init_221 e108 ?_
  cases h
  exact g_return O F dX12_init_222
