/-- how many fields a class has, and of what kind each is: 0 int, 1 long, 2 a reference, 3 boolean -/
def nfT : List Nat := [6, 12, 7, 7, 5, 13, 4, 2, 8, 10, 20, 10, 48]
def ftyT : List (List Nat) := [[1, 1, 0, 2, 2, 2], [0, 0, 0, 2, 2, 2, 2, 2, 2, 2, 0, 2], [0, 0, 0, 2, 2, 2, 2], [0, 2, 2, 2, 2, 0, 0], [0, 2, 2, 2, 2], [2, 2, 2, 0, 0, 2, 0, 0, 0, 0, 0, 2, 2], [0, 0, 2, 2], [2, 2], [2, 0, 0, 0, 2, 2, 2, 2], [0, 0, 0, 2, 2, 2, 2, 2, 2, 2], [0, 0, 0, 0, 0, 0, 0, 0, 0, 2, 2, 2, 2, 2, 2, 2, 2, 2, 2, 2], [2, 2, 2, 2, 2, 2, 2, 2, 2, 2], [2, 2, 0, 0, 0, 0, 0, 0, 3, 0, 2, 0, 0, 0, 2, 2, 2, 2, 2, 2, 0, 2, 2, 2, 2, 2, 0, 0, 0, 0, 0, 0, 0, 0, 2, 2, 2, 2, 2, 2, 2, 2, 2, 2, 2, 0, 2, 0]]
def nf (ci : Nat) : Nat := nfT.getD ci 0
def fty (ci j : Nat) : Nat := (ftyT.getD ci []).getD j 0
/-! ===== the pure world: cells by number, what each holds, what may be done with it ===== -/
abbrev Sh : Type := Nat × (Nat → Nat) × (Nat → Nat)
abbrev Dt : Type := (Nat → Nat → Int32) × (Nat → Nat → Int64) × (Nat → Nat → Option Nat)
abbrev Av : Type := Int32 ⊕ (Int64 ⊕ (Option Nat ⊕ Nat))
abbrev vI (x : Int32) : Av := .inl x
abbrev vJ (x : Int64) : Av := .inr (.inl x)
abbrev vA (r : Option Nat) : Av := .inr (.inr (.inl r))
abbrev vT (i : Nat) : Av := .inr (.inr (.inr i))
def av (b : Nat) (ad : Nat → Nat) : Av → Value
  | .inl x => .int x
  | .inr (.inl x) => .long x
  | .inr (.inr (.inl r)) => va_rf (r.map (fun a => b + a))
  | .inr (.inr (.inr i)) => .ref (ad i)
def avc : Av → Nat
  | .inl _ => 1
  | .inr (.inl _) => 2
  | .inr (.inr _) => 1
theorem av_cat (b : Nat) (ad : Nat → Nat) (v : Av) : (av b ad v).category = avc v := by
  rcases v with x | x | r | i
  · rfl
  · rfl
  · cases r <;> rfl
  · rfl
def fval (b : Nat) (σ : Dt) (ci a j : Nat) : Value := if fty ci j = 1 then .long (σ.2.1 a j) else if fty ci j = 2 then va_rf ((σ.2.2 a j).map (fun x => b + x)) else .int (σ.1 a j)
def cellA (b : Nat) (sh : Sh) (σ : Dt) (a : Nat) : ((Nat → Int32) ⊕ (Nat → Int64) ⊕ (Nat → UInt32) ⊕ (Nat → UInt64) ⊕ (Nat → Option Nat)) := if sh.2.1 a = 13 ∨ sh.2.1 a = 15 then .inl (σ.1 a) else if sh.2.1 a = 14 then .inr (.inl (σ.2.1 a)) else .inr (.inr (.inr (.inr (fun i => (σ.2.2 a i).map (fun x => b + x)))))
def cellE (b : Nat) (cy : Nat → ClassId) (sh : Sh) (σ : Dt) (a : Nat) : va_E := if sh.2.1 a < 13 then .inr (sh.2.1 a, (List.range (nf (sh.2.1 a))).map (fval b σ (sh.2.1 a) a)) else .inl (cy (sh.2.1 a), sh.2.2 a, cellA b sh σ a)
def Ws (b : Nat) (cy : Nat → ClassId) (sh : Sh) (σ : Dt) : va_W := (List.range sh.1).map (fun a => (b + a, cellE b cy sh σ a))
theorem Ws_get {b : Nat} {cy : Nat → ClassId} {sh : Sh} {σ : Dt} {a : Nat} (h : a < sh.1) : (Ws b cy sh σ)[a]? = some (b + a, cellE b cy sh σ a) := by
  unfold Ws
  rw [List.getElem?_map, List.getElem?_range h]
  rfl
theorem Ws_get2 {b : Nat} {cy : Nat → ClassId} {sh : Sh} {σ : Dt} {k : Nat} {q : Nat × va_E} (h : (Ws b cy sh σ)[k]? = some q) : k < sh.1 ∧ q = (b + k, cellE b cy sh σ k) := by
  unfold Ws at h
  rw [List.getElem?_map] at h
  by_cases hk : k < sh.1
  · rw [List.getElem?_range hk] at h
    cases h
    exact ⟨hk, rfl⟩
  · rw [List.getElem?_eq_none (by rw [List.length_range]; omega)] at h
    cases h
theorem Ws_set {b : Nat} {cy : Nat → ClassId} {sh : Sh} {σ σ' : Dt} {a : Nat} {e : va_E} (he : cellE b cy sh σ' a = e) (hn : ∀ x, x ≠ a → cellE b cy sh σ' x = cellE b cy sh σ x) : (Ws b cy sh σ).set a (b + a, e) = Ws b cy sh σ' := by
  apply List.ext_getElem?
  intro k
  by_cases hk : k < sh.1
  · rw [Ws_get hk, List.getElem?_set]
    by_cases hka : a = k
    · subst hka
      rw [if_pos rfl, if_pos (by simpa [Ws] using hk), he]
    · rw [if_neg hka, Ws_get hk, hn k (fun h => hka h.symm)]
  · rw [List.getElem?_eq_none (by simp [Ws]; omega), List.getElem?_eq_none (by simp [Ws]; omega)]
theorem cellE_o {b : Nat} {cy : Nat → ClassId} {sh : Sh} {σ : Dt} {a ci : Nat} (h : sh.2.1 a = ci) (hc : ci < 13) : cellE b cy sh σ a = .inr (ci, (List.range (nf ci)).map (fval b σ ci a)) := by
  subst h
  exact if_pos hc
theorem cellE_i {b : Nat} {cy : Nat → ClassId} {sh : Sh} {σ : Dt} {a : Nat} (h : sh.2.1 a = 13) : cellE b cy sh σ a = .inl (cy 13, sh.2.2 a, .inl (σ.1 a)) := by
  simp [cellE, cellA, h]
theorem cellE_z {b : Nat} {cy : Nat → ClassId} {sh : Sh} {σ : Dt} {a : Nat} (h : sh.2.1 a = 15) : cellE b cy sh σ a = .inl (cy 15, sh.2.2 a, .inl (σ.1 a)) := by
  simp [cellE, cellA, h]
theorem cellE_l {b : Nat} {cy : Nat → ClassId} {sh : Sh} {σ : Dt} {a : Nat} (h : sh.2.1 a = 14) : cellE b cy sh σ a = .inl (cy 14, sh.2.2 a, .inr (.inl (σ.2.1 a))) := by
  simp [cellE, cellA, h]
theorem cellE_r {b : Nat} {cy : Nat → ClassId} {sh : Sh} {σ : Dt} {a kd : Nat} (h : sh.2.1 a = kd) (hk : 15 < kd) : cellE b cy sh σ a = .inl (cy kd, sh.2.2 a, .inr (.inr (.inr (.inr (fun i => (σ.2.2 a i).map (fun x => b + x)))))) := by
  subst h
  simp [cellE, cellA, show ¬ sh.2.1 a < 13 by omega, show ¬ sh.2.1 a = 13 by omega, show ¬ sh.2.1 a = 14 by omega, show ¬ sh.2.1 a = 15 by omega]
def up2 {α : Type} (f : Nat → Nat → α) (a j : Nat) (v : α) : Nat → Nat → α := fun x y => if x = a ∧ y = j then v else f x y
def up1 {α : Type} (f : Nat → α) (a : Nat) (v : α) : Nat → α := fun x => if x = a then v else f x
-- a field read, written
def xgi (sh : Sh) (ci j : Nat) (r : Option Nat) (σ : Dt) : Option Int32 := match r with
  | none => none
  | some a => if a < sh.1 ∧ sh.2.1 a = ci then some (σ.1 a j) else none
def xgl (sh : Sh) (ci j : Nat) (r : Option Nat) (σ : Dt) : Option Int64 := match r with
  | none => none
  | some a => if a < sh.1 ∧ sh.2.1 a = ci then some (σ.2.1 a j) else none
def xgr (sh : Sh) (ci j : Nat) (r : Option Nat) (σ : Dt) : Option (Option Nat) := match r with
  | none => none
  | some a => if a < sh.1 ∧ sh.2.1 a = ci then some (σ.2.2 a j) else none
def xpi (sh : Sh) (ci j : Nat) (r : Option Nat) (v : Int32) (σ : Dt) : Option Dt := match r with
  | none => none
  | some a => if a < sh.1 ∧ sh.2.1 a = ci then some (up2 σ.1 a j v, σ.2.1, σ.2.2) else none
def xpz (sh : Sh) (ci j : Nat) (r : Option Nat) (v : Int32) (σ : Dt) : Option Dt := match r with
  | none => none
  | some a => if (a < sh.1 ∧ sh.2.1 a = ci) ∧ (v = 0 ∨ v = 1) then some (up2 σ.1 a j v, σ.2.1, σ.2.2) else none
def xpl (sh : Sh) (ci j : Nat) (r : Option Nat) (v : Int64) (σ : Dt) : Option Dt := match r with
  | none => none
  | some a => if a < sh.1 ∧ sh.2.1 a = ci then some (σ.1, up2 σ.2.1 a j v, σ.2.2) else none
def xpr (sh : Sh) (ci j : Nat) (r : Option Nat) (v : Option Nat) (σ : Dt) : Option Dt := match r with
  | none => none
  | some a => if a < sh.1 ∧ sh.2.1 a = ci then some (σ.1, σ.2.1, up2 σ.2.2 a j v) else none
-- a row read, written
def xai (sh : Sh) (r : Option Nat) (i : Int32) (σ : Dt) : Option Int32 := match r with
  | none => none
  | some a => if (a < sh.1 ∧ sh.2.1 a = 13) ∧ ¬ (i < 0 ∨ sh.2.2 a ≤ i.toNatClampNeg) then some (σ.1 a i.toNatClampNeg) else none
def xaz (sh : Sh) (r : Option Nat) (i : Int32) (σ : Dt) : Option Int32 := match r with
  | none => none
  | some a => if (a < sh.1 ∧ sh.2.1 a = 15) ∧ ¬ (i < 0 ∨ sh.2.2 a ≤ i.toNatClampNeg) then some (σ.1 a i.toNatClampNeg) else none
def xal (sh : Sh) (r : Option Nat) (i : Int32) (σ : Dt) : Option Int64 := match r with
  | none => none
  | some a => if (a < sh.1 ∧ sh.2.1 a = 14) ∧ ¬ (i < 0 ∨ sh.2.2 a ≤ i.toNatClampNeg) then some (σ.2.1 a i.toNatClampNeg) else none
def xar (sh : Sh) (kd : Nat) (r : Option Nat) (i : Int32) (σ : Dt) : Option (Option Nat) := match r with
  | none => none
  | some a => if (a < sh.1 ∧ sh.2.1 a = kd) ∧ ¬ (i < 0 ∨ sh.2.2 a ≤ i.toNatClampNeg) then some (σ.2.2 a i.toNatClampNeg) else none
def xsi (sh : Sh) (r : Option Nat) (i v : Int32) (σ : Dt) : Option Dt := match r with
  | none => none
  | some a => if (a < sh.1 ∧ sh.2.1 a = 13) ∧ ¬ (i < 0 ∨ sh.2.2 a ≤ i.toNatClampNeg) then some (up2 σ.1 a i.toNatClampNeg v, σ.2.1, σ.2.2) else none
def xsz (sh : Sh) (r : Option Nat) (i v : Int32) (σ : Dt) : Option Dt := match r with
  | none => none
  | some a => if (a < sh.1 ∧ sh.2.1 a = 15) ∧ ¬ (i < 0 ∨ sh.2.2 a ≤ i.toNatClampNeg) then some (up2 σ.1 a i.toNatClampNeg (vp_nar .boolean v), σ.2.1, σ.2.2) else none
def xsl (sh : Sh) (r : Option Nat) (i : Int32) (v : Int64) (σ : Dt) : Option Dt := match r with
  | none => none
  | some a => if (a < sh.1 ∧ sh.2.1 a = 14) ∧ ¬ (i < 0 ∨ sh.2.2 a ≤ i.toNatClampNeg) then some (σ.1, up2 σ.2.1 a i.toNatClampNeg v, σ.2.2) else none
def xln (sh : Sh) (r : Option Nat) : Option Int32 := match r with
  | none => none
  | some a => if a < sh.1 ∧ sh.2.1 a = 13 then some (Int32.ofNat (sh.2.2 a)) else none
def xrc (sh : Sh) (ci : Nat) (r : Option Nat) : Option Nat := match r with
  | none => none
  | some a => if a < sh.1 ∧ sh.2.1 a = ci then some a else none
def xcp (sh : Sh) (r0 : Option Nat) (sp : Int32) (r1 : Option Nat) (dp n : Int32) (σ : Dt) : Option Dt := match r0 with
  | none => none
  | some a0 => match r1 with
    | none => none
    | some a1 => if ((a0 < sh.1 ∧ sh.2.1 a0 = 13) ∧ a1 < sh.1 ∧ sh.2.1 a1 = 13) ∧ (¬ sp < 0 ∧ ¬ dp < 0 ∧ ¬ n < 0) ∧ sp.toNatClampNeg + n.toNatClampNeg ≤ sh.2.2 a0 ∧ dp.toNatClampNeg + n.toNatClampNeg ≤ sh.2.2 a1 then some (up1 σ.1 a1 (va_cpy (σ.1 a0) (σ.1 a1) sp.toNatClampNeg dp.toNatClampNeg n.toNatClampNeg), σ.2.1, σ.2.2) else none
-- what comes behind
def bo {α β : Type} (x : Option α) (k : α → Option β) : Option β := match x with
  | none => none
  | some v => k v
def bd {α β : Type} (x : Option (α × Dt)) (k : α → Dt → Option β) : Option β := match x with
  | none => none
  | some o => k o.1 o.2
theorem bo_some {α β : Type} {x : Option α} {k : α → Option β} {o : β} (h : bo x k = some o) : ∃ v, x = some v ∧ k v = some o := by
  cases x with
  | none => cases h
  | some v => exact ⟨v, rfl, h⟩
theorem bd_some {α β : Type} {x : Option (α × Dt)} {k : α → Dt → Option β} {o : β} (h : bd x k = some o) : ∃ v σ, x = some (v, σ) ∧ k v σ = some o := by
  cases x with
  | none => cases h
  | some v => exact ⟨v.1, v.2, rfl, h⟩
theorem bo_of {α β : Type} {x : Option α} {k : α → Option β} {v : α} (h : x = some v) : bo x k = k v := by rw [h]; rfl
theorem bd_of {α β : Type} {x : Option (α × Dt)} {k : α → Dt → Option β} {v : α} {σ : Dt} (h : x = some (v, σ)) : bd x k = k v σ := by rw [h]; rfl
/-- a loop: on (inl) or out (inr) -/
def iter {S X : Type} : Nat → (S → Option (S ⊕ X)) → S → Option X
  | 0, _, _ => none
  | n + 1, f, s => match f s with
    | none => none
    | some (.inl s') => iter n f s'
    | some (.inr x) => some x
def kon {S X : Type} (P : S → Prop) (E : X → Prop) (o : S ⊕ X) : Prop := match o with
  | .inl s' => P s'
  | .inr x => E x
theorem iter_G {S X : Type} {f : S → Option (S ⊕ X)} {P : S → Prop} {E : X → Prop} (hb : ∀ s o, f s = some o → kon P E o → P s) : ∀ n s x, iter n f s = some x → E x → P s := by
  intro n
  induction n with
  | zero => intro s x h; cases h
  | succ n ih =>
    intro s x h hE
    unfold iter at h
    cases hf : f s with
    | none => rw [hf] at h; cases h
    | some o =>
      rw [hf] at h
      cases o with
      | inl s' => exact hb s _ hf (ih s' x h hE)
      | inr y =>
        cases h
        exact hb s _ hf hE
/-- how often a loop may turn -/
def FU : Nat := 100000
/-! ===== the machine over the pure world ===== -/
/-- the tables' words that every frame may use -/
def tbl : List Cond := lw_tbl.filter goodWord
def tyl (cy : Nat → ClassId) : List (ClassId × FieldType) := [(cy 13, .int), (cy 14, .long), (cy 15, .boolean), (cy 16, .object RX4), (cy 17, .object RX6), (cy 18, .object RX8), (cy 19, .object RX9), (cy 20, .array .long)]
def sTx : List String := ["years", "dug", "folk", "child", "work", "bound", "promise", "born", "cover", "die", "year"]
def sIx : List Nat := [144, 149, 151, 153, 155, 157, 159, 161, 163, 165, 167]
def sLn : List Nat := [5, 3, 4, 5, 4, 5, 7, 4, 5, 3, 4]
def sBy : List (List Int32) := [[121, 101, 97, 114, 115], [100, 117, 103], [102, 111, 108, 107], [99, 104, 105, 108, 100], [119, 111, 114, 107], [98, 111, 117, 110, 100], [112, 114, 111, 109, 105, 115, 101], [98, 111, 114, 110], [99, 111, 118, 101, 114], [100, 105, 101], [121, 101, 97, 114]]
def xAOL (U : State) : Prop := (Cond.arrayOver (.array .long)).before #[] U = true
theorem xAOL_spec {s : State} (h : xAOL s) : ∃ comp c k, s.vm.findClass (FieldType.array .long).toString = some comp ∧ (s.vm.classes.findIdx? fun (x : Class) => match x.kind with | .array component _ => component == comp | _ => false) = some c ∧ s.vm.classes[c]? = some k ∧ k.kind = .array comp (.array .long) ∧ s.vm.findClass ("[" ++ (FieldType.array .long).toString) = some c := arrayOverA_spec h
theorem xAOL.moved {u U : State} (hvm : u.vm.Alike U.vm) (h : xAOL u) : xAOL U := over_moved hvm h
/-- what stands of the machine's own: the texts, and what their methods read -/
def Sx (ad _dV : Nat → Nat) (lo : Nat) (U : State) (H : Heap) : Prop := vk_S 11 sLn sBy ad (fun i => ad (100 + i)) (fun q => lo ≤ q) U H ∧ (∀ i, i < 11 → vk_R RX5 (sIx.getD i 0) (sTx.getD i "") (ad i) U) ∧ va_Z "java/lang/String" "COMPACT_STRINGS" "Z" (.int 1) (fun q => lo ≤ q) U H ∧ (va_Z "jdk/internal/util/Preconditions" "SIOOBE_FORMATTER" "Ljava/util/function/BiFunction;" .null (fun q => lo ≤ q) U H ∨ va_Z "jdk/internal/util/Preconditions" "SIOOBE_FORMATTER" "Ljava/util/function/BiFunction;" (.ref (ad 200)) (fun q => lo ≤ q) U H) ∧ (va_AO RX4 U ∧ va_AO RX6 U ∧ va_AO RX8 U ∧ va_AO RX9 U ∧ xAOL U)
theorem Sx.go {ad dV : Nat → Nat} {lo : Nat} {U V : State} {H H1 : Heap} (h : Sx ad dV lo U H) (hvm : U.vm.Alike V.vm) (hr : ∀ own k tx a, vk_R own k tx a U → vk_R own k tx a V) (hq : ∀ a : Nat, a < H.size → ¬ lo ≤ a → H1[a]? = H[a]?) : Sx ad dV lo V H1 :=
  ⟨(h.1.moved hvm).kept hq, fun i hi => hr _ _ _ _ (h.2.1 i hi), (h.2.2.1.moved hvm).kept hq, h.2.2.2.1.imp (fun z => (z.moved hvm).kept hq) (fun z => (z.moved hvm).kept hq), h.2.2.2.2.1.moved hvm, h.2.2.2.2.2.1.moved hvm, h.2.2.2.2.2.2.1.moved hvm, h.2.2.2.2.2.2.2.1.moved hvm, h.2.2.2.2.2.2.2.2.moved hvm⟩
abbrev Mx : Type := Program × Launch × Env × Room × State × MethodId × Array Value × List Frame × Method × Code × (State → Prop) × Nat × va_G × Nat × (Nat → ClassId) × (Nat → Prop) × Bool × (Nat → Nat) × (Nat → Nat) × Nat
def lvm (b : Nat) (ad : Nat → Nat) (lv : List (Nat × Av)) : List (Nat × Value) := lv.map (fun t => (t.1, av b ad t.2))
def G (M : Mx) (k q pc : Nat) (lv : List (Nat × Av)) (st : List Av) (sh : Sh) (σ : Dt) : Prop := match M with
  | (p, l, e, R, s, m, args, below, meth, c, Q, nL, D, b, cy, A, al, ad, _, _) => ∀ (H : Heap) (locs : List Loc) (ls : Array Slot), lv_has ls nL (lvm b ad lv) → va_P D vwCl (Ws b cy sh σ) H → va_D A (Ws b cy sh σ) → va_S A s.heap H locs → (al = true → H.size = b + sh.1) → W p l e R s m args below meth c H locs k q Q (F0 m pc ls (st.map (av b ad)))
def Ok (M : Mx) (cc : ByteArray) (y : MethodName) : Prop := match M with
  | (p, _, _, _, s, m, args, _, meth, c, _, nL, D, _, cy, A, _, ad, dV, lo) => p.tables.exec = Jvm.exec ∧ c.code = cc ∧ c.maxLocals = nL ∧ s.vm.findClass y.cls = some m.cls ∧ (∀ w ∈ tbl, w.before args s = true) ∧ va_K D vwCl (tyl cy) s ∧ (∀ q : Nat, s.heap.size ≤ q → A q) ∧ Sx ad dV lo s s.heap ∧ (∀ q : Nat, A q → lo ≤ q) ∧ meth.locks = false ∧ meth.name = y.name
def Qx (D : va_G) (b : Nat) (cy : Nat → ClassId) (al : Bool) (ad : Nat → Nat) (A : Nat → Prop) (sh : Sh) (σ : Dt) (rv : Option Av) : Array Value → State → Outcome → State → Prop := fun _ st oc t => (oc = .returned (rv.map (av b ad)) ∧ va_P D vwCl (Ws b cy sh σ) t.heap ∧ va_D A (Ws b cy sh σ) ∧ (al = true → t.heap.size = b + sh.1)) ∧ va_F A st t
def Fin' (M : Mx) (ret : Option FieldType) (mc ms : Nat) (sh : Sh) (σ : Dt) (rv : Option Av) : Prop := match M with
  | (_, _, _, _, s, _, args, below, meth, _, Q, _, D, b, cy, A, al, ad, _, _) => meth.sig.returnType = ret ∧ Q = MQ below (Qx D b cy al ad A sh σ rv) args s mc ms A
def Rm (M : Mx) (l : Launch) (fr lc mc ms : Nat) : Prop := match M with
  | (_, l', _, R, _, _, _, _, _, _, _, _, _, _, _, _, _, _, _, _) => l' = l ∧ R.frames = fr ∧ R.locals = lc ∧ R.cells = mc ∧ R.slots = ms
/-- it makes cells: then the world's own cells are the last of the heap -/
def Ma (M : Mx) : Bool := match M with
  | (_, _, _, _, _, _, _, _, _, _, _, _, _, _, _, _, al, _, _, _) => al
def Pcx (D : va_G) (b : Nat) (cy : Nat → ClassId) (al : Bool) (sz : Nat) (ad dV : Nat → Nat) (lo : Nat) (sh : Sh) (σ : Dt) (as : List Av) : Array Value → State → Prop := va_Pc (as.map (av b ad)) (fun U => U.heap.size = sz ∧ (al = true → sz = b + sh.1) ∧ va_P D vwCl (Ws b cy sh σ) U.heap ∧ va_K D vwCl (tyl cy) U ∧ va_D (fun q => lo ≤ q) (Ws b cy sh σ) ∧ Sx ad dV lo U U.heap ∧ lo ≤ U.heap.size)
/-- a method's contract: from these arguments and this world to that answer and that world -/
def Ctr (l : Launch) (y : MethodName) (cc : ByteArray) (mL : Nat) (ret : Option FieldType) (al : Bool) (fr lc mc ms : Nat) (as : List Av) (sh : Sh) (σ : Dt) (sh' : Sh) (σ' : Dt) (rv : Option Av) : Prop :=
  ∀ (D : va_G) (b : Nat) (cy : Nat → ClassId) (sz : Nat) (ad dV : Nat → Nat) (lo : Nat), Met l y (Cond.code y cc mL ret :: tbl) { frames := fr, cells := mc, slots := ms, locals := lc } (Pcx D b cy al sz ad dV lo sh σ as) (Qx D b cy al ad (va_A (Ws b cy sh σ) sz) sh' σ' rv) mc ms (va_A (Ws b cy sh σ) sz)
def Mn (M : Mx) : Nat := match M with
  | (_, _, _, _, _, _, _, _, _, _, _, nL, _, _, _, _, _, _, _, _) => nL
def lvA : Nat → List Av → List (Nat × Av)
  | _, [] => []
  | i, v :: vs => (i, v) :: lvA (i + avc v) vs
def alen (as : List Av) : Nat := (as.map avc).sum
theorem lvA_eq (b : Nat) (ad : Nat → Nat) : ∀ (as : List Av) (i : Nat), lv_args i (as.map (av b ad)) = lvm b ad (lvA i as)
  | [], i => rfl
  | v :: vs, i => by
    have h := av_cat b ad v
    show (i, av b ad v) :: lv_args (if (av b ad v).category = 2 then i + 2 else i + 1) (vs.map (av b ad)) = (i, av b ad v) :: lvm b ad (lvA (i + avc v) vs)
    rw [h, ← lvA_eq b ad vs]
    rcases v with x | x | x <;> rfl
theorem sl_len (b : Nat) (ad : Nat → Nat) : ∀ as : List Av, (lg_sl (as.map (av b ad))).length = alen as
  | [] => rfl
  | v :: vs => by
    have h := av_cat b ad v
    have ih := sl_len b ad vs
    unfold lg_sl alen at *
    rw [List.map_cons, List.flatMap_cons, List.length_append, ih, List.map_cons, List.sum_cons, h]
    rcases v with x | x | x <;> rfl
theorem ctr_of {l : Launch} {y : MethodName} {cc : ByteArray} {mL : Nat} {ret : Option FieldType} {al : Bool} {fr lc mc ms : Nat} {as : List Av} {sh : Sh} {σ : Dt} {sh' : Sh} {σ' : Dt} {rv : Option Av} (hy : plainName y.cls = true) (hlen : alen as ≤ mL)
    (body : ∀ M : Mx, Ok M cc y → Fin' M ret mc ms sh' σ' rv → Rm M l fr lc mc ms → Ma M = al → Mn M = mL → G M 0 0 0 (lvA 0 as) [] sh σ) : Ctr l y cc mL ret al fr lc mc ms as sh σ sh' σ' rv := by
  intro D b cy sz ad dV lo
  refine Met.ofW (cc := cc) (maxL := mL) (ret := ret) hy rfl ?_
  intro p e s m args below meth c s₁ B hml hv
  obtain ⟨rfl, hsz, hal, hP, hK, hD, hX, hlo⟩ := hv
  have hts := atoms_spec (ws := Cond.code y cc mL ret :: tbl) B.pre
  have hnm := name_of_methodNamed B.named B.method
  have hlA : ∀ q : Nat, va_A (Ws b cy sh σ) sz q → lo ≤ q := by
    intro q h
    rcases h with ⟨k, e, h⟩ | h
    · exact hD.2 k (q, e) h
    · omega
  have hg := body (p, l, e, { frames := fr, cells := mc, slots := ms, locals := lc }, s, m, (as.map (av b ad)).toArray, below, meth, c, MQ below (Qx D b cy al ad (va_A (Ws b cy sh σ) sz) sh' σ' rv) (as.map (av b ad)).toArray s mc ms (va_A (Ws b cy sh σ) sz), mL, D, b, cy, va_A (Ws b cy sh σ) sz, al, ad, dV, lo)
    ⟨B.exec, B.bytes, hml, findClass_of_methodNamed B.named, fun w hw => hts w (List.mem_cons_of_mem _ hw), hK, fun q h => Or.inr (by omega), hX, hlA, B.notSynchronized, hnm.1⟩ ⟨B.returns, rfl⟩ ⟨rfl, rfl, rfl, rfl, rfl⟩ rfl rfl
  rw [lg_entry_eq]
  have hl := lv_entry (as.map (av b ad)) (n := mL) (by rw [sl_len]; exact hlen)
  rw [lvA_eq] at hl
  exact hg s.heap [] _ hl hP hD.self va_S.rf (fun h => hsz.trans (hal h))
section ROWS
variable {M : Mx} {cc : ByteArray} {y0 : MethodName} {k q pc : Nat} {lv lv' : List (Nat × Av)} {st : List Av} {sh : Sh} {σ : Dt}
theorem g_sub (js : List Nat) (hl : js.filterMap (fun j => lv[j]?) = lv') (kk : G M k q pc lv' st sh σ) : G M k q pc lv st sh σ := by
  obtain ⟨p, l, e, R, s, m, args, below, meth, c, Q, nL, D, b, cy, A, al, ad, dV, lo⟩ := M
  intro H locs ls h
  refine kk H locs ls ⟨h.1, h.2.1, fun t ht => ?_⟩
  subst hl
  obtain ⟨t0, ht0, rfl⟩ := List.mem_map.mp ht
  obtain ⟨j, -, hj⟩ := List.mem_filterMap.mp ht0
  exact h.2.2 _ (List.mem_map.mpr ⟨t0, List.mem_of_getElem? hj, rfl⟩)
theorem lvm_at {b : Nat} {ad : Nat → Nat} {ls : Array Slot} {nL i : Nat} {v : Av} (h : lv_has ls nL (lvm b ad lv)) (j : Nat) (hj : lv[j]? = some (i, v)) : ls[i]? = some (.val (av b ad v)) := h.2.2 (i, av b ad v) (List.mem_map.mpr ⟨(i, v), List.mem_of_getElem? hj, rfl⟩)
/-- a local stored: of one word, of two -/
def ls1 (i : Nat) (v : Av) (lv : List (Nat × Av)) : List (Nat × Av) := (i, v) :: lv.filter (fun t => !(t.1 == i) && !(t.1 + 1 == i && avc t.2 == 2))
def ls2 (i : Nat) (v : Av) (lv : List (Nat × Av)) : List (Nat × Av) := (i, v) :: lv.filter (fun t => !(t.1 == i) && (!(t.1 == i + 1) && !(t.1 + 1 == i && avc t.2 == 2)))
theorem ls1_eq (b : Nat) (ad : Nat → Nat) (i : Nat) (v : Av) (lv : List (Nat × Av)) : (i, av b ad v) :: (lvm b ad lv).filter (fun q => !(q.1 == i) && !(q.1 + 1 == i && q.2.category == 2)) = lvm b ad (ls1 i v lv) := by
  show _ = (i, av b ad v) :: lvm b ad (lv.filter (fun t => !(t.1 == i) && !(t.1 + 1 == i && avc t.2 == 2)))
  congr 1
  unfold lvm
  rw [List.filter_map]
  congr 1
  apply List.filter_congr
  intro t _
  simp only [Function.comp, av_cat]
theorem ls2_eq (b : Nat) (ad : Nat → Nat) (i : Nat) (v : Av) (lv : List (Nat × Av)) : (i, av b ad v) :: (lvm b ad lv).filter (fun q => !(q.1 == i) && (!(q.1 == i + 1) && !(q.1 + 1 == i && q.2.category == 2))) = lvm b ad (ls2 i v lv) := by
  show _ = (i, av b ad v) :: lvm b ad (lv.filter (fun t => !(t.1 == i) && (!(t.1 == i + 1) && !(t.1 + 1 == i && avc t.2 == 2))))
  congr 1
  unfold lvm
  rw [List.filter_map]
  congr 1
  apply List.filter_congr
  intro t _
  simp only [Function.comp, av_cat]
theorem g_iconst {n : Int} {v : Int32} (O : Ok M cc y0) (d : decode cc pc = .ok (.iconst n, 1)) (hv : Int32.ofInt n = v) (kk : G M k q (pc + 1) lv (vI v :: st) sh σ) : G M k q pc lv (st) sh σ := by
  obtain ⟨p, l, e, R, s, m, args, below, meth, c, Q, nL, D, b, cy, A, al, ad, dV, lo⟩ := M
  obtain ⟨hx, hb, hml, hown, hts, hK, hA, hX, hAl, hlk, hnm⟩ := O
  exact fun H locs ls hl hP hD hS hz => lv_iconst hx hb d hv (kk H locs ls hl hP hD hS hz)
theorem g_bipush {n : Int} {v : Int32} (O : Ok M cc y0) (d : decode cc pc = .ok (.bipush n, 2)) (hv : (Int8.ofInt n).toInt32 = v) (kk : G M k q (pc + 2) lv (vI v :: st) sh σ) : G M k q pc lv (st) sh σ := by
  obtain ⟨p, l, e, R, s, m, args, below, meth, c, Q, nL, D, b, cy, A, al, ad, dV, lo⟩ := M
  obtain ⟨hx, hb, hml, hown, hts, hK, hA, hX, hAl, hlk, hnm⟩ := O
  exact fun H locs ls hl hP hD hS hz => lv_bipush hx hb d hv (kk H locs ls hl hP hD hS hz)
theorem g_sipush {n : Int} {v : Int32} (O : Ok M cc y0) (d : decode cc pc = .ok (.sipush n, 3)) (hv : (Int16.ofInt n).toInt32 = v) (kk : G M k q (pc + 3) lv (vI v :: st) sh σ) : G M k q pc lv (st) sh σ := by
  obtain ⟨p, l, e, R, s, m, args, below, meth, c, Q, nL, D, b, cy, A, al, ad, dV, lo⟩ := M
  obtain ⟨hx, hb, hml, hown, hts, hK, hA, hX, hAl, hlk, hnm⟩ := O
  exact fun H locs ls hl hP hD hS hz => lv_sipush hx hb d hv (kk H locs ls hl hP hD hS hz)
theorem g_lconst {n : Fin 2} {v : Int64} (O : Ok M cc y0) (d : decode cc pc = .ok (.lconst n, 1)) (hv : Int64.ofNat (n : Nat) = v) (kk : G M k q (pc + 1) lv (vJ v :: st) sh σ) : G M k q pc lv (st) sh σ := by
  obtain ⟨p, l, e, R, s, m, args, below, meth, c, Q, nL, D, b, cy, A, al, ad, dV, lo⟩ := M
  obtain ⟨hx, hb, hml, hown, hts, hK, hA, hX, hAl, hlk, hnm⟩ := O
  exact fun H locs ls hl hP hD hS hz => lv_lconst hx hb d hv (kk H locs ls hl hP hD hS hz)
theorem g_null  (O : Ok M cc y0) (d : decode cc pc = .ok (.aconst_null, 1)) (kk : G M k q (pc + 1) lv (vA none :: st) sh σ) : G M k q pc lv (st) sh σ := by
  obtain ⟨p, l, e, R, s, m, args, below, meth, c, Q, nL, D, b, cy, A, al, ad, dV, lo⟩ := M
  obtain ⟨hx, hb, hml, hown, hts, hK, hA, hX, hAl, hlk, hnm⟩ := O
  exact fun H locs ls hl hP hD hS hz => lv_null hx hb d (kk H locs ls hl hP hD hS hz)
theorem g_ldc {index : Nat} {v : Int32} (O : Ok M cc y0) (d : decode cc pc = .ok (.ldc index, 2)) (w : Cond.constant y0.cls index v ∈ tbl) (kk : G M k q (pc + 2) lv (vI v :: st) sh σ) : G M k q pc lv (st) sh σ := by
  obtain ⟨p, l, e, R, s, m, args, below, meth, c, Q, nL, D, b, cy, A, al, ad, dV, lo⟩ := M
  obtain ⟨hx, hb, hml, hown, hts, hK, hA, hX, hAl, hlk, hnm⟩ := O
  exact fun H locs ls hl hP hD hS hz => lv_ldc hx hb hown (hts _ w) d (kk H locs ls hl hP hD hS hz)
theorem g_ldcw {index : Nat} {v : Int32} (O : Ok M cc y0) (d : decode cc pc = .ok (.ldc_w index, 3)) (w : Cond.constant y0.cls index v ∈ tbl) (kk : G M k q (pc + 3) lv (vI v :: st) sh σ) : G M k q pc lv (st) sh σ := by
  obtain ⟨p, l, e, R, s, m, args, below, meth, c, Q, nL, D, b, cy, A, al, ad, dV, lo⟩ := M
  obtain ⟨hx, hb, hml, hown, hts, hK, hA, hX, hAl, hlk, hnm⟩ := O
  exact fun H locs ls hl hP hD hS hz => lv_ldcw hx hb hown (hts _ w) d (kk H locs ls hl hP hD hS hz)
theorem g_ldc2 {index : Nat} {v : Int64} (O : Ok M cc y0) (d : decode cc pc = .ok (.ldc2_w index, 3)) (w : Cond.constantLong y0.cls index v ∈ tbl) (kk : G M k q (pc + 3) lv (vJ v :: st) sh σ) : G M k q pc lv (st) sh σ := by
  obtain ⟨p, l, e, R, s, m, args, below, meth, c, Q, nL, D, b, cy, A, al, ad, dV, lo⟩ := M
  obtain ⟨hx, hb, hml, hown, hts, hK, hA, hX, hAl, hlk, hnm⟩ := O
  exact fun H locs ls hl hP hD hS hz => lv_ldc2 hx hb hown (hts _ w) d (kk H locs ls hl hP hD hS hz)
theorem g_iload_n {a : Fin 4} {i : Nat} {x : Int32} (O : Ok M cc y0) (d : decode cc pc = .ok (.iload_n a, 1)) (hi : (a : Nat) = i) (j : Nat) (hj : lv[j]? = some (i, vI x)) (kk : G M k q (pc + 1) lv (vI x :: st) sh σ) : G M k q pc lv (st) sh σ := by
  obtain ⟨p, l, e, R, s, m, args, below, meth, c, Q, nL, D, b, cy, A, al, ad, dV, lo⟩ := M
  obtain ⟨hx, hb, hml, hown, hts, hK, hA, hX, hAl, hlk, hnm⟩ := O
  exact fun H locs ls hl hP hD hS hz => lv_iload_n hx hb d hi (lvm_at hl j hj) (kk H locs ls hl hP hD hS hz)
theorem g_iload {i : Nat} {x : Int32} (O : Ok M cc y0) (d : decode cc pc = .ok (.iload i, 2)) (j : Nat) (hj : lv[j]? = some (i, vI x)) (kk : G M k q (pc + 2) lv (vI x :: st) sh σ) : G M k q pc lv (st) sh σ := by
  obtain ⟨p, l, e, R, s, m, args, below, meth, c, Q, nL, D, b, cy, A, al, ad, dV, lo⟩ := M
  obtain ⟨hx, hb, hml, hown, hts, hK, hA, hX, hAl, hlk, hnm⟩ := O
  exact fun H locs ls hl hP hD hS hz => lv_iload hx hb d (lvm_at hl j hj) (kk H locs ls hl hP hD hS hz)
theorem g_lload_n {a : Fin 4} {i : Nat} {x : Int64} (O : Ok M cc y0) (d : decode cc pc = .ok (.lload_n a, 1)) (hi : (a : Nat) = i) (j : Nat) (hj : lv[j]? = some (i, vJ x)) (kk : G M k q (pc + 1) lv (vJ x :: st) sh σ) : G M k q pc lv (st) sh σ := by
  obtain ⟨p, l, e, R, s, m, args, below, meth, c, Q, nL, D, b, cy, A, al, ad, dV, lo⟩ := M
  obtain ⟨hx, hb, hml, hown, hts, hK, hA, hX, hAl, hlk, hnm⟩ := O
  exact fun H locs ls hl hP hD hS hz => lv_lload_n hx hb d hi (lvm_at hl j hj) (kk H locs ls hl hP hD hS hz)
theorem g_lload {i : Nat} {x : Int64} (O : Ok M cc y0) (d : decode cc pc = .ok (.lload i, 2)) (j : Nat) (hj : lv[j]? = some (i, vJ x)) (kk : G M k q (pc + 2) lv (vJ x :: st) sh σ) : G M k q pc lv (st) sh σ := by
  obtain ⟨p, l, e, R, s, m, args, below, meth, c, Q, nL, D, b, cy, A, al, ad, dV, lo⟩ := M
  obtain ⟨hx, hb, hml, hown, hts, hK, hA, hX, hAl, hlk, hnm⟩ := O
  exact fun H locs ls hl hP hD hS hz => lv_lload hx hb d (lvm_at hl j hj) (kk H locs ls hl hP hD hS hz)
theorem g_aload_n {a : Fin 4} {i : Nat} {r : Option Nat} (O : Ok M cc y0) (d : decode cc pc = .ok (.aload_n a, 1)) (hi : (a : Nat) = i) (j : Nat) (hj : lv[j]? = some (i, vA r)) (kk : G M k q (pc + 1) lv (vA r :: st) sh σ) : G M k q pc lv (st) sh σ := by
  obtain ⟨p, l, e, R, s, m, args, below, meth, c, Q, nL, D, b, cy, A, al, ad, dV, lo⟩ := M
  obtain ⟨hx, hb, hml, hown, hts, hK, hA, hX, hAl, hlk, hnm⟩ := O
  cases r with
  | none => exact fun H locs ls hl hP hD hS hz => lv_aload_nN hx hb d hi (lvm_at hl j hj) (kk H locs ls hl hP hD hS hz)
  | some a => exact fun H locs ls hl hP hD hS hz => lv_aload_n hx hb d hi (lvm_at hl j hj) (kk H locs ls hl hP hD hS hz)
theorem g_aload {i : Nat} {r : Option Nat} (O : Ok M cc y0) (d : decode cc pc = .ok (.aload i, 2)) (j : Nat) (hj : lv[j]? = some (i, vA r)) (kk : G M k q (pc + 2) lv (vA r :: st) sh σ) : G M k q pc lv (st) sh σ := by
  obtain ⟨p, l, e, R, s, m, args, below, meth, c, Q, nL, D, b, cy, A, al, ad, dV, lo⟩ := M
  obtain ⟨hx, hb, hml, hown, hts, hK, hA, hX, hAl, hlk, hnm⟩ := O
  cases r with
  | none => exact fun H locs ls hl hP hD hS hz => lv_aloadN hx hb d (lvm_at hl j hj) (kk H locs ls hl hP hD hS hz)
  | some a => exact fun H locs ls hl hP hD hS hz => lv_aload hx hb d (lvm_at hl j hj) (kk H locs ls hl hP hD hS hz)
theorem g_tload_n {a : Fin 4} {i x : Nat} (O : Ok M cc y0) (d : decode cc pc = .ok (.aload_n a, 1)) (hi : (a : Nat) = i) (j : Nat) (hj : lv[j]? = some (i, vT x)) (kk : G M k q (pc + 1) lv (vT x :: st) sh σ) : G M k q pc lv (st) sh σ := by
  obtain ⟨p, l, e, R, s, m, args, below, meth, c, Q, nL, D, b, cy, A, al, ad, dV, lo⟩ := M
  obtain ⟨hx, hb, hml, hown, hts, hK, hA, hX, hAl, hlk, hnm⟩ := O
  exact fun H locs ls hl hP hD hS hz => lv_aload_n hx hb d hi (lvm_at hl j hj) (kk H locs ls hl hP hD hS hz)
theorem g_istore_n {a : Fin 4} {i : Nat} {x : Int32} (O : Ok M cc y0) (d : decode cc pc = .ok (.istore_n a, 1)) (hi : (a : Nat) = i) (nL : Nat) (hn : Mn M = nL) (hi2 : i < nL) (hl' : ls1 i (vI x) lv = lv') (kk : G M k q (pc + 1) lv' st sh σ) : G M k q pc lv (vI x :: st) sh σ := by
  obtain ⟨p, l, e, R, s, m, args, below, meth, c, Q, nL, D, b, cy, A, al, ad, dV, lo⟩ := M
  obtain ⟨hx, hb, hml, hown, hts, hK, hA, hX, hAl, hlk, hnm⟩ := O
  subst hn
  subst hl'
  exact fun H locs ls hl hP hD hS hz => lv_istore_n hx hb d hi hl hi2 (ls1_eq b ad i (vI x) lv) (fun ls2 hl2 => kk H locs ls2 hl2 hP hD hS hz)
theorem g_istore {i : Nat} {x : Int32} (O : Ok M cc y0) (d : decode cc pc = .ok (.istore i, 2)) (nL : Nat) (hn : Mn M = nL) (hi2 : i < nL) (hl' : ls1 i (vI x) lv = lv') (kk : G M k q (pc + 2) lv' st sh σ) : G M k q pc lv (vI x :: st) sh σ := by
  obtain ⟨p, l, e, R, s, m, args, below, meth, c, Q, nL, D, b, cy, A, al, ad, dV, lo⟩ := M
  obtain ⟨hx, hb, hml, hown, hts, hK, hA, hX, hAl, hlk, hnm⟩ := O
  subst hn
  subst hl'
  exact fun H locs ls hl hP hD hS hz => lv_istore hx hb d hl hi2 (ls1_eq b ad i (vI x) lv) (fun ls2 hl2 => kk H locs ls2 hl2 hP hD hS hz)
theorem g_lstore_n {a : Fin 4} {i : Nat} {x : Int64} (O : Ok M cc y0) (d : decode cc pc = .ok (.lstore_n a, 1)) (hi : (a : Nat) = i) (nL : Nat) (hn : Mn M = nL) (hi2 : i + 1 < nL) (hl' : ls2 i (vJ x) lv = lv') (kk : G M k q (pc + 1) lv' st sh σ) : G M k q pc lv (vJ x :: st) sh σ := by
  obtain ⟨p, l, e, R, s, m, args, below, meth, c, Q, nL, D, b, cy, A, al, ad, dV, lo⟩ := M
  obtain ⟨hx, hb, hml, hown, hts, hK, hA, hX, hAl, hlk, hnm⟩ := O
  subst hn
  subst hl'
  exact fun H locs ls hl hP hD hS hz => lv_lstore_n hx hb d hi hl hi2 (ls2_eq b ad i (vJ x) lv) (fun ls2 hl2 => kk H locs ls2 hl2 hP hD hS hz)
theorem g_lstore {i : Nat} {x : Int64} (O : Ok M cc y0) (d : decode cc pc = .ok (.lstore i, 2)) (nL : Nat) (hn : Mn M = nL) (hi2 : i + 1 < nL) (hl' : ls2 i (vJ x) lv = lv') (kk : G M k q (pc + 2) lv' st sh σ) : G M k q pc lv (vJ x :: st) sh σ := by
  obtain ⟨p, l, e, R, s, m, args, below, meth, c, Q, nL, D, b, cy, A, al, ad, dV, lo⟩ := M
  obtain ⟨hx, hb, hml, hown, hts, hK, hA, hX, hAl, hlk, hnm⟩ := O
  subst hn
  subst hl'
  exact fun H locs ls hl hP hD hS hz => lv_lstore hx hb d hl hi2 (ls2_eq b ad i (vJ x) lv) (fun ls2 hl2 => kk H locs ls2 hl2 hP hD hS hz)
theorem g_astore_n {a : Fin 4} {i : Nat} {r : Option Nat} (O : Ok M cc y0) (d : decode cc pc = .ok (.astore_n a, 1)) (hi : (a : Nat) = i) (nL : Nat) (hn : Mn M = nL) (hi2 : i < nL) (hl' : ls1 i (vA r) lv = lv') (kk : G M k q (pc + 1) lv' st sh σ) : G M k q pc lv (vA r :: st) sh σ := by
  obtain ⟨p, l, e, R, s, m, args, below, meth, c, Q, nL, D, b, cy, A, al, ad, dV, lo⟩ := M
  obtain ⟨hx, hb, hml, hown, hts, hK, hA, hX, hAl, hlk, hnm⟩ := O
  subst hn
  subst hl'
  cases r with
  | none => exact fun H locs ls hl hP hD hS hz => lv_astore_nN hx hb d hi hl hi2 (ls1_eq b ad i (vA none) lv) (fun ls2 hl2 => kk H locs ls2 hl2 hP hD hS hz)
  | some a => exact fun H locs ls hl hP hD hS hz => lv_astore_n hx hb d hi hl hi2 (ls1_eq b ad i (vA (some a)) lv) (fun ls2 hl2 => kk H locs ls2 hl2 hP hD hS hz)
theorem g_astore {i : Nat} {r : Option Nat} (O : Ok M cc y0) (d : decode cc pc = .ok (.astore i, 2)) (nL : Nat) (hn : Mn M = nL) (hi2 : i < nL) (hl' : ls1 i (vA r) lv = lv') (kk : G M k q (pc + 2) lv' st sh σ) : G M k q pc lv (vA r :: st) sh σ := by
  obtain ⟨p, l, e, R, s, m, args, below, meth, c, Q, nL, D, b, cy, A, al, ad, dV, lo⟩ := M
  obtain ⟨hx, hb, hml, hown, hts, hK, hA, hX, hAl, hlk, hnm⟩ := O
  subst hn
  subst hl'
  cases r with
  | none => exact fun H locs ls hl hP hD hS hz => lv_astoreN hx hb d hl hi2 (ls1_eq b ad i (vA none) lv) (fun ls2 hl2 => kk H locs ls2 hl2 hP hD hS hz)
  | some a => exact fun H locs ls hl hP hD hS hz => lv_astore hx hb d hl hi2 (ls1_eq b ad i (vA (some a)) lv) (fun ls2 hl2 => kk H locs ls2 hl2 hP hD hS hz)
theorem g_iinc {i : Nat} {n : Int} {x v : Int32} (O : Ok M cc y0) (d : decode cc pc = .ok (.iinc i n, 3)) (nL : Nat) (hn : Mn M = nL) (hi2 : i < nL) (j : Nat) (hj : lv[j]? = some (i, vI x)) (hv : x + Int32.ofInt n = v) (hl' : ls1 i (vI v) lv = lv') (kk : G M k q (pc + 3) lv' st sh σ) : G M k q pc lv st sh σ := by
  obtain ⟨p, l, e, R, s, m, args, below, meth, c, Q, nL, D, b, cy, A, al, ad, dV, lo⟩ := M
  obtain ⟨hx, hb, hml, hown, hts, hK, hA, hX, hAl, hlk, hnm⟩ := O
  subst hn
  subst hl'
  exact fun H locs ls hl hP hD hS hz => lv_iinc hx hb d hl (k := j) (by unfold lvm; rw [List.getElem?_map, hj]; rfl) hv hi2 (ls1_eq b ad i (vI v) lv) (fun ls2 hl2 => kk H locs ls2 hl2 hP hD hS hz)
theorem g_iadd {x y : Int32} (O : Ok M cc y0) (d : decode cc pc = .ok (.iadd, 1)) (kk : G M k q (pc + 1) lv (vI (x + y) :: st) sh σ) : G M k q pc lv (vI y :: vI x :: st) sh σ := by
  obtain ⟨p, l, e, R, s, m, args, below, meth, c, Q, nL, D, b, cy, A, al, ad, dV, lo⟩ := M
  obtain ⟨hx, hb, hml, hown, hts, hK, hA, hX, hAl, hlk, hnm⟩ := O
  exact fun H locs ls hl hP hD hS hz => lv_iadd hx hb d (kk H locs ls hl hP hD hS hz)
theorem g_isub {x y : Int32} (O : Ok M cc y0) (d : decode cc pc = .ok (.isub, 1)) (kk : G M k q (pc + 1) lv (vI (x - y) :: st) sh σ) : G M k q pc lv (vI y :: vI x :: st) sh σ := by
  obtain ⟨p, l, e, R, s, m, args, below, meth, c, Q, nL, D, b, cy, A, al, ad, dV, lo⟩ := M
  obtain ⟨hx, hb, hml, hown, hts, hK, hA, hX, hAl, hlk, hnm⟩ := O
  exact fun H locs ls hl hP hD hS hz => lv_isub hx hb d (kk H locs ls hl hP hD hS hz)
theorem g_imul {x y : Int32} (O : Ok M cc y0) (d : decode cc pc = .ok (.imul, 1)) (kk : G M k q (pc + 1) lv (vI (x * y) :: st) sh σ) : G M k q pc lv (vI y :: vI x :: st) sh σ := by
  obtain ⟨p, l, e, R, s, m, args, below, meth, c, Q, nL, D, b, cy, A, al, ad, dV, lo⟩ := M
  obtain ⟨hx, hb, hml, hown, hts, hK, hA, hX, hAl, hlk, hnm⟩ := O
  exact fun H locs ls hl hP hD hS hz => lv_imul hx hb d (kk H locs ls hl hP hD hS hz)
theorem g_iand {x y : Int32} (O : Ok M cc y0) (d : decode cc pc = .ok (.iand, 1)) (kk : G M k q (pc + 1) lv (vI (x &&& y) :: st) sh σ) : G M k q pc lv (vI y :: vI x :: st) sh σ := by
  obtain ⟨p, l, e, R, s, m, args, below, meth, c, Q, nL, D, b, cy, A, al, ad, dV, lo⟩ := M
  obtain ⟨hx, hb, hml, hown, hts, hK, hA, hX, hAl, hlk, hnm⟩ := O
  exact fun H locs ls hl hP hD hS hz => lv_iand hx hb d (kk H locs ls hl hP hD hS hz)
theorem g_ior {x y : Int32} (O : Ok M cc y0) (d : decode cc pc = .ok (.ior, 1)) (kk : G M k q (pc + 1) lv (vI (x ||| y) :: st) sh σ) : G M k q pc lv (vI y :: vI x :: st) sh σ := by
  obtain ⟨p, l, e, R, s, m, args, below, meth, c, Q, nL, D, b, cy, A, al, ad, dV, lo⟩ := M
  obtain ⟨hx, hb, hml, hown, hts, hK, hA, hX, hAl, hlk, hnm⟩ := O
  exact fun H locs ls hl hP hD hS hz => lv_ior hx hb d (kk H locs ls hl hP hD hS hz)
theorem g_ixor {x y : Int32} (O : Ok M cc y0) (d : decode cc pc = .ok (.ixor, 1)) (kk : G M k q (pc + 1) lv (vI (x ^^^ y) :: st) sh σ) : G M k q pc lv (vI y :: vI x :: st) sh σ := by
  obtain ⟨p, l, e, R, s, m, args, below, meth, c, Q, nL, D, b, cy, A, al, ad, dV, lo⟩ := M
  obtain ⟨hx, hb, hml, hown, hts, hK, hA, hX, hAl, hlk, hnm⟩ := O
  exact fun H locs ls hl hP hD hS hz => lv_ixor hx hb d (kk H locs ls hl hP hD hS hz)
theorem g_ishl {x y : Int32} (O : Ok M cc y0) (d : decode cc pc = .ok (.ishl, 1)) (kk : G M k q (pc + 1) lv (vI (x <<< (y &&& 31)) :: st) sh σ) : G M k q pc lv (vI y :: vI x :: st) sh σ := by
  obtain ⟨p, l, e, R, s, m, args, below, meth, c, Q, nL, D, b, cy, A, al, ad, dV, lo⟩ := M
  obtain ⟨hx, hb, hml, hown, hts, hK, hA, hX, hAl, hlk, hnm⟩ := O
  exact fun H locs ls hl hP hD hS hz => lv_ishl hx hb d (kk H locs ls hl hP hD hS hz)
theorem g_ishr {x y : Int32} (O : Ok M cc y0) (d : decode cc pc = .ok (.ishr, 1)) (kk : G M k q (pc + 1) lv (vI (x >>> (y &&& 31)) :: st) sh σ) : G M k q pc lv (vI y :: vI x :: st) sh σ := by
  obtain ⟨p, l, e, R, s, m, args, below, meth, c, Q, nL, D, b, cy, A, al, ad, dV, lo⟩ := M
  obtain ⟨hx, hb, hml, hown, hts, hK, hA, hX, hAl, hlk, hnm⟩ := O
  exact fun H locs ls hl hP hD hS hz => lv_ishr hx hb d (kk H locs ls hl hP hD hS hz)
theorem g_iushr {x y : Int32} (O : Ok M cc y0) (d : decode cc pc = .ok (.iushr, 1)) (kk : G M k q (pc + 1) lv (vI ((x.toUInt32 >>> (y.toUInt32 &&& Int32.toUInt32 31)).toInt32) :: st) sh σ) : G M k q pc lv (vI y :: vI x :: st) sh σ := by
  obtain ⟨p, l, e, R, s, m, args, below, meth, c, Q, nL, D, b, cy, A, al, ad, dV, lo⟩ := M
  obtain ⟨hx, hb, hml, hown, hts, hK, hA, hX, hAl, hlk, hnm⟩ := O
  exact fun H locs ls hl hP hD hS hz => lv_iushr hx hb d rfl (kk H locs ls hl hP hD hS hz)
theorem g_idiv {x y : Int32} (O : Ok M cc y0) (d : decode cc pc = .ok (.idiv, 1)) (hne : ¬ y = 0) (kk : G M k q (pc + 1) lv (vI (x / y) :: st) sh σ) : G M k q pc lv (vI y :: vI x :: st) sh σ := by
  obtain ⟨p, l, e, R, s, m, args, below, meth, c, Q, nL, D, b, cy, A, al, ad, dV, lo⟩ := M
  obtain ⟨hx, hb, hml, hown, hts, hK, hA, hX, hAl, hlk, hnm⟩ := O
  exact fun H locs ls hl hP hD hS hz => lv_idiv hx hb d hne (kk H locs ls hl hP hD hS hz)
theorem g_irem {x y : Int32} (O : Ok M cc y0) (d : decode cc pc = .ok (.irem, 1)) (hne : ¬ y = 0) (kk : G M k q (pc + 1) lv (vI (x - x / y * y) :: st) sh σ) : G M k q pc lv (vI y :: vI x :: st) sh σ := by
  obtain ⟨p, l, e, R, s, m, args, below, meth, c, Q, nL, D, b, cy, A, al, ad, dV, lo⟩ := M
  obtain ⟨hx, hb, hml, hown, hts, hK, hA, hX, hAl, hlk, hnm⟩ := O
  exact fun H locs ls hl hP hD hS hz => lv_irem hx hb d hne (kk H locs ls hl hP hD hS hz)
theorem g_ineg {x : Int32} (O : Ok M cc y0) (d : decode cc pc = .ok (.ineg, 1)) (kk : G M k q (pc + 1) lv (vI (-x) :: st) sh σ) : G M k q pc lv (vI x :: st) sh σ := by
  obtain ⟨p, l, e, R, s, m, args, below, meth, c, Q, nL, D, b, cy, A, al, ad, dV, lo⟩ := M
  obtain ⟨hx, hb, hml, hown, hts, hK, hA, hX, hAl, hlk, hnm⟩ := O
  exact fun H locs ls hl hP hD hS hz => lv_ineg hx hb d (kk H locs ls hl hP hD hS hz)
theorem g_ladd {x y : Int64} (O : Ok M cc y0) (d : decode cc pc = .ok (.ladd, 1)) (kk : G M k q (pc + 1) lv (vJ (x + y) :: st) sh σ) : G M k q pc lv (vJ y :: vJ x :: st) sh σ := by
  obtain ⟨p, l, e, R, s, m, args, below, meth, c, Q, nL, D, b, cy, A, al, ad, dV, lo⟩ := M
  obtain ⟨hx, hb, hml, hown, hts, hK, hA, hX, hAl, hlk, hnm⟩ := O
  exact fun H locs ls hl hP hD hS hz => lv_ladd hx hb d (kk H locs ls hl hP hD hS hz)
theorem g_lsub {x y : Int64} (O : Ok M cc y0) (d : decode cc pc = .ok (.lsub, 1)) (kk : G M k q (pc + 1) lv (vJ (x - y) :: st) sh σ) : G M k q pc lv (vJ y :: vJ x :: st) sh σ := by
  obtain ⟨p, l, e, R, s, m, args, below, meth, c, Q, nL, D, b, cy, A, al, ad, dV, lo⟩ := M
  obtain ⟨hx, hb, hml, hown, hts, hK, hA, hX, hAl, hlk, hnm⟩ := O
  exact fun H locs ls hl hP hD hS hz => lv_lsub hx hb d (kk H locs ls hl hP hD hS hz)
theorem g_lmul {x y : Int64} (O : Ok M cc y0) (d : decode cc pc = .ok (.lmul, 1)) (kk : G M k q (pc + 1) lv (vJ (x * y) :: st) sh σ) : G M k q pc lv (vJ y :: vJ x :: st) sh σ := by
  obtain ⟨p, l, e, R, s, m, args, below, meth, c, Q, nL, D, b, cy, A, al, ad, dV, lo⟩ := M
  obtain ⟨hx, hb, hml, hown, hts, hK, hA, hX, hAl, hlk, hnm⟩ := O
  exact fun H locs ls hl hP hD hS hz => lv_lmul hx hb d (kk H locs ls hl hP hD hS hz)
theorem g_ldiv {x y : Int64} (O : Ok M cc y0) (d : decode cc pc = .ok (.ldiv, 1)) (hne : ¬ y = 0) (kk : G M k q (pc + 1) lv (vJ (x / y) :: st) sh σ) : G M k q pc lv (vJ y :: vJ x :: st) sh σ := by
  obtain ⟨p, l, e, R, s, m, args, below, meth, c, Q, nL, D, b, cy, A, al, ad, dV, lo⟩ := M
  obtain ⟨hx, hb, hml, hown, hts, hK, hA, hX, hAl, hlk, hnm⟩ := O
  exact fun H locs ls hl hP hD hS hz => lv_ldiv hx hb d hne (kk H locs ls hl hP hD hS hz)
theorem g_lrem {x y : Int64} (O : Ok M cc y0) (d : decode cc pc = .ok (.lrem, 1)) (hne : ¬ y = 0) (kk : G M k q (pc + 1) lv (vJ (x - x / y * y) :: st) sh σ) : G M k q pc lv (vJ y :: vJ x :: st) sh σ := by
  obtain ⟨p, l, e, R, s, m, args, below, meth, c, Q, nL, D, b, cy, A, al, ad, dV, lo⟩ := M
  obtain ⟨hx, hb, hml, hown, hts, hK, hA, hX, hAl, hlk, hnm⟩ := O
  exact fun H locs ls hl hP hD hS hz => lv_lrem hx hb d hne (kk H locs ls hl hP hD hS hz)
theorem g_lcmp {x y : Int64} (O : Ok M cc y0) (d : decode cc pc = .ok (.lcmp, 1)) (kk : G M k q (pc + 1) lv (vI (lg_cmp x y) :: st) sh σ) : G M k q pc lv (vJ y :: vJ x :: st) sh σ := by
  obtain ⟨p, l, e, R, s, m, args, below, meth, c, Q, nL, D, b, cy, A, al, ad, dV, lo⟩ := M
  obtain ⟨hx, hb, hml, hown, hts, hK, hA, hX, hAl, hlk, hnm⟩ := O
  exact fun H locs ls hl hP hD hS hz => W.lcmp hx hb d (kk H locs ls hl hP hD hS hz)
theorem g_i2l {x : Int32} (O : Ok M cc y0) (d : decode cc pc = .ok (.i2l, 1)) (kk : G M k q (pc + 1) lv (vJ x.toInt64 :: st) sh σ) : G M k q pc lv (vI x :: st) sh σ := by
  obtain ⟨p, l, e, R, s, m, args, below, meth, c, Q, nL, D, b, cy, A, al, ad, dV, lo⟩ := M
  obtain ⟨hx, hb, hml, hown, hts, hK, hA, hX, hAl, hlk, hnm⟩ := O
  exact fun H locs ls hl hP hD hS hz => lv_i2l hx hb d rfl (kk H locs ls hl hP hD hS hz)
theorem g_dup {v : Av} (O : Ok M cc y0) (d : decode cc pc = .ok (.dup, 1)) (hv : avc v = 1) (kk : G M k q (pc + 1) lv (v :: v :: st) sh σ) : G M k q pc lv (v :: st) sh σ := by
  obtain ⟨p, l, e, R, s, m, args, below, meth, c, Q, nL, D, b, cy, A, al, ad, dV, lo⟩ := M
  obtain ⟨hx, hb, hml, hown, hts, hK, hA, hX, hAl, hlk, hnm⟩ := O
  exact fun H locs ls hl hP hD hS hz => lv_dup hx hb d ((av_cat b ad v).trans hv) (kk H locs ls hl hP hD hS hz)
theorem g_pop {v : Av} (O : Ok M cc y0) (d : decode cc pc = .ok (.pop, 1)) (hv : avc v = 1) (kk : G M k q (pc + 1) lv st sh σ) : G M k q pc lv (v :: st) sh σ := by
  obtain ⟨p, l, e, R, s, m, args, below, meth, c, Q, nL, D, b, cy, A, al, ad, dV, lo⟩ := M
  obtain ⟨hx, hb, hml, hown, hts, hK, hA, hX, hAl, hlk, hnm⟩ := O
  exact fun H locs ls hl hP hD hS hz => lv_pop hx hb d ((av_cat b ad v).trans hv) (kk H locs ls hl hP hD hS hz)
theorem g_dup2 {v w : Av} (O : Ok M cc y0) (d : decode cc pc = .ok (.dup2, 1)) (hv : avc v = 1) (hw : avc w = 1) (kk : G M k q (pc + 1) lv (v :: w :: v :: w :: st) sh σ) : G M k q pc lv (v :: w :: st) sh σ := by
  obtain ⟨p, l, e, R, s, m, args, below, meth, c, Q, nL, D, b, cy, A, al, ad, dV, lo⟩ := M
  obtain ⟨hx, hb, hml, hown, hts, hK, hA, hX, hAl, hlk, hnm⟩ := O
  exact fun H locs ls hl hP hD hS hz => lv_dup2_11 hx hb d ((av_cat b ad v).trans hv) ((av_cat b ad w).trans hw) (kk H locs ls hl hP hD hS hz)
theorem g_dup2L {v : Av} (O : Ok M cc y0) (d : decode cc pc = .ok (.dup2, 1)) (hv : avc v = 2) (kk : G M k q (pc + 1) lv (v :: v :: st) sh σ) : G M k q pc lv (v :: st) sh σ := by
  obtain ⟨p, l, e, R, s, m, args, below, meth, c, Q, nL, D, b, cy, A, al, ad, dV, lo⟩ := M
  obtain ⟨hx, hb, hml, hown, hts, hK, hA, hX, hAl, hlk, hnm⟩ := O
  exact fun H locs ls hl hP hD hS hz => lv_dup2_2 hx hb d ((av_cat b ad v).trans hv) (kk H locs ls hl hP hD hS hz)
theorem g_if_eq {x : Int32} {off : Int} {tgt : Nat} (O : Ok M cc y0) (d : decode cc pc = .ok (.ifCond .eq off, 3)) (ht : (pc : Int) + off = (tgt : Int)) (kt : x = 0 → G M k q tgt lv st sh σ) (kf : ¬ x = 0 → G M k q (pc + 3) lv st sh σ) : G M k q pc lv (vI x :: st) sh σ := by
  obtain ⟨p, l, e, R, s, m, args, below, meth, c, Q, nL, D, b, cy, A, al, ad, dV, lo⟩ := M
  obtain ⟨hx, hb, hml, hown, hts, hK, hA, hX, hAl, hlk, hnm⟩ := O
  exact fun H locs ls hl hP hD hS hz => lv_if_eq hx hb d ht (fun h => kt h H locs ls hl hP hD hS hz) (fun h => kf h H locs ls hl hP hD hS hz)
theorem g_icmp_eq {x y : Int32} {off : Int} {tgt : Nat} (O : Ok M cc y0) (d : decode cc pc = .ok (.if_icmp .eq off, 3)) (ht : (pc : Int) + off = (tgt : Int)) (kt : x = y → G M k q tgt lv st sh σ) (kf : ¬ x = y → G M k q (pc + 3) lv st sh σ) : G M k q pc lv (vI y :: vI x :: st) sh σ := by
  obtain ⟨p, l, e, R, s, m, args, below, meth, c, Q, nL, D, b, cy, A, al, ad, dV, lo⟩ := M
  obtain ⟨hx, hb, hml, hown, hts, hK, hA, hX, hAl, hlk, hnm⟩ := O
  exact fun H locs ls hl hP hD hS hz => lv_icmp_eq hx hb d ht (fun h => kt h H locs ls hl hP hD hS hz) (fun h => kf h H locs ls hl hP hD hS hz)
theorem g_if_ne {x : Int32} {off : Int} {tgt : Nat} (O : Ok M cc y0) (d : decode cc pc = .ok (.ifCond .ne off, 3)) (ht : (pc : Int) + off = (tgt : Int)) (kf : x = 0 → G M k q (pc + 3) lv st sh σ) (kt : ¬ x = 0 → G M k q tgt lv st sh σ) : G M k q pc lv (vI x :: st) sh σ := by
  obtain ⟨p, l, e, R, s, m, args, below, meth, c, Q, nL, D, b, cy, A, al, ad, dV, lo⟩ := M
  obtain ⟨hx, hb, hml, hown, hts, hK, hA, hX, hAl, hlk, hnm⟩ := O
  exact fun H locs ls hl hP hD hS hz => lv_if_ne hx hb d ht (fun h => kt h H locs ls hl hP hD hS hz) (fun h => kf h H locs ls hl hP hD hS hz)
theorem g_icmp_ne {x y : Int32} {off : Int} {tgt : Nat} (O : Ok M cc y0) (d : decode cc pc = .ok (.if_icmp .ne off, 3)) (ht : (pc : Int) + off = (tgt : Int)) (kf : x = y → G M k q (pc + 3) lv st sh σ) (kt : ¬ x = y → G M k q tgt lv st sh σ) : G M k q pc lv (vI y :: vI x :: st) sh σ := by
  obtain ⟨p, l, e, R, s, m, args, below, meth, c, Q, nL, D, b, cy, A, al, ad, dV, lo⟩ := M
  obtain ⟨hx, hb, hml, hown, hts, hK, hA, hX, hAl, hlk, hnm⟩ := O
  exact fun H locs ls hl hP hD hS hz => lv_icmp_ne hx hb d ht (fun h => kt h H locs ls hl hP hD hS hz) (fun h => kf h H locs ls hl hP hD hS hz)
theorem g_if_lt {x : Int32} {off : Int} {tgt : Nat} (O : Ok M cc y0) (d : decode cc pc = .ok (.ifCond .lt off, 3)) (ht : (pc : Int) + off = (tgt : Int)) (kt : x < 0 → G M k q tgt lv st sh σ) (kf : ¬ x < 0 → G M k q (pc + 3) lv st sh σ) : G M k q pc lv (vI x :: st) sh σ := by
  obtain ⟨p, l, e, R, s, m, args, below, meth, c, Q, nL, D, b, cy, A, al, ad, dV, lo⟩ := M
  obtain ⟨hx, hb, hml, hown, hts, hK, hA, hX, hAl, hlk, hnm⟩ := O
  exact fun H locs ls hl hP hD hS hz => lv_if_lt hx hb d ht (fun h => kt h H locs ls hl hP hD hS hz) (fun h => kf h H locs ls hl hP hD hS hz)
theorem g_icmp_lt {x y : Int32} {off : Int} {tgt : Nat} (O : Ok M cc y0) (d : decode cc pc = .ok (.if_icmp .lt off, 3)) (ht : (pc : Int) + off = (tgt : Int)) (kt : x < y → G M k q tgt lv st sh σ) (kf : ¬ x < y → G M k q (pc + 3) lv st sh σ) : G M k q pc lv (vI y :: vI x :: st) sh σ := by
  obtain ⟨p, l, e, R, s, m, args, below, meth, c, Q, nL, D, b, cy, A, al, ad, dV, lo⟩ := M
  obtain ⟨hx, hb, hml, hown, hts, hK, hA, hX, hAl, hlk, hnm⟩ := O
  exact fun H locs ls hl hP hD hS hz => lv_icmp_lt hx hb d ht (fun h => kt h H locs ls hl hP hD hS hz) (fun h => kf h H locs ls hl hP hD hS hz)
theorem g_if_ge {x : Int32} {off : Int} {tgt : Nat} (O : Ok M cc y0) (d : decode cc pc = .ok (.ifCond .ge off, 3)) (ht : (pc : Int) + off = (tgt : Int)) (kt : 0 ≤ x → G M k q tgt lv st sh σ) (kf : ¬ 0 ≤ x → G M k q (pc + 3) lv st sh σ) : G M k q pc lv (vI x :: st) sh σ := by
  obtain ⟨p, l, e, R, s, m, args, below, meth, c, Q, nL, D, b, cy, A, al, ad, dV, lo⟩ := M
  obtain ⟨hx, hb, hml, hown, hts, hK, hA, hX, hAl, hlk, hnm⟩ := O
  exact fun H locs ls hl hP hD hS hz => lv_if_ge hx hb d ht (fun h => kt h H locs ls hl hP hD hS hz) (fun h => kf h H locs ls hl hP hD hS hz)
theorem g_icmp_ge {x y : Int32} {off : Int} {tgt : Nat} (O : Ok M cc y0) (d : decode cc pc = .ok (.if_icmp .ge off, 3)) (ht : (pc : Int) + off = (tgt : Int)) (kt : y ≤ x → G M k q tgt lv st sh σ) (kf : ¬ y ≤ x → G M k q (pc + 3) lv st sh σ) : G M k q pc lv (vI y :: vI x :: st) sh σ := by
  obtain ⟨p, l, e, R, s, m, args, below, meth, c, Q, nL, D, b, cy, A, al, ad, dV, lo⟩ := M
  obtain ⟨hx, hb, hml, hown, hts, hK, hA, hX, hAl, hlk, hnm⟩ := O
  exact fun H locs ls hl hP hD hS hz => lv_icmp_ge hx hb d ht (fun h => kt h H locs ls hl hP hD hS hz) (fun h => kf h H locs ls hl hP hD hS hz)
theorem g_if_gt {x : Int32} {off : Int} {tgt : Nat} (O : Ok M cc y0) (d : decode cc pc = .ok (.ifCond .gt off, 3)) (ht : (pc : Int) + off = (tgt : Int)) (kt : 0 < x → G M k q tgt lv st sh σ) (kf : ¬ 0 < x → G M k q (pc + 3) lv st sh σ) : G M k q pc lv (vI x :: st) sh σ := by
  obtain ⟨p, l, e, R, s, m, args, below, meth, c, Q, nL, D, b, cy, A, al, ad, dV, lo⟩ := M
  obtain ⟨hx, hb, hml, hown, hts, hK, hA, hX, hAl, hlk, hnm⟩ := O
  exact fun H locs ls hl hP hD hS hz => lv_if_gt hx hb d ht (fun h => kt h H locs ls hl hP hD hS hz) (fun h => kf h H locs ls hl hP hD hS hz)
theorem g_icmp_gt {x y : Int32} {off : Int} {tgt : Nat} (O : Ok M cc y0) (d : decode cc pc = .ok (.if_icmp .gt off, 3)) (ht : (pc : Int) + off = (tgt : Int)) (kt : y < x → G M k q tgt lv st sh σ) (kf : ¬ y < x → G M k q (pc + 3) lv st sh σ) : G M k q pc lv (vI y :: vI x :: st) sh σ := by
  obtain ⟨p, l, e, R, s, m, args, below, meth, c, Q, nL, D, b, cy, A, al, ad, dV, lo⟩ := M
  obtain ⟨hx, hb, hml, hown, hts, hK, hA, hX, hAl, hlk, hnm⟩ := O
  exact fun H locs ls hl hP hD hS hz => lv_icmp_gt hx hb d ht (fun h => kt h H locs ls hl hP hD hS hz) (fun h => kf h H locs ls hl hP hD hS hz)
theorem g_if_le {x : Int32} {off : Int} {tgt : Nat} (O : Ok M cc y0) (d : decode cc pc = .ok (.ifCond .le off, 3)) (ht : (pc : Int) + off = (tgt : Int)) (kt : x ≤ 0 → G M k q tgt lv st sh σ) (kf : ¬ x ≤ 0 → G M k q (pc + 3) lv st sh σ) : G M k q pc lv (vI x :: st) sh σ := by
  obtain ⟨p, l, e, R, s, m, args, below, meth, c, Q, nL, D, b, cy, A, al, ad, dV, lo⟩ := M
  obtain ⟨hx, hb, hml, hown, hts, hK, hA, hX, hAl, hlk, hnm⟩ := O
  exact fun H locs ls hl hP hD hS hz => lv_if_le hx hb d ht (fun h => kt h H locs ls hl hP hD hS hz) (fun h => kf h H locs ls hl hP hD hS hz)
theorem g_icmp_le {x y : Int32} {off : Int} {tgt : Nat} (O : Ok M cc y0) (d : decode cc pc = .ok (.if_icmp .le off, 3)) (ht : (pc : Int) + off = (tgt : Int)) (kt : x ≤ y → G M k q tgt lv st sh σ) (kf : ¬ x ≤ y → G M k q (pc + 3) lv st sh σ) : G M k q pc lv (vI y :: vI x :: st) sh σ := by
  obtain ⟨p, l, e, R, s, m, args, below, meth, c, Q, nL, D, b, cy, A, al, ad, dV, lo⟩ := M
  obtain ⟨hx, hb, hml, hown, hts, hK, hA, hX, hAl, hlk, hnm⟩ := O
  exact fun H locs ls hl hP hD hS hz => lv_icmp_le hx hb d ht (fun h => kt h H locs ls hl hP hD hS hz) (fun h => kf h H locs ls hl hP hD hS hz)
theorem g_goto {off : Int} {tgt : Nat} (O : Ok M cc y0) (d : decode cc pc = .ok (.goto off, 3)) (ht : (pc : Int) + off = (tgt : Int)) (kk : G M k q tgt lv st sh σ) : G M k q pc lv (st) sh σ := by
  obtain ⟨p, l, e, R, s, m, args, below, meth, c, Q, nL, D, b, cy, A, al, ad, dV, lo⟩ := M
  obtain ⟨hx, hb, hml, hown, hts, hK, hA, hX, hAl, hlk, hnm⟩ := O
  exact fun H locs ls hl hP hD hS hz => lv_goto hx hb d ht (kk H locs ls hl hP hD hS hz)
theorem g_ifnull {r : Option Nat} {off : Int} {tgt : Nat} (O : Ok M cc y0) (d : decode cc pc = .ok (.ifnull off, 3)) (ht : (pc : Int) + off = (tgt : Int)) (kt : r = none → G M k q tgt lv st sh σ) (kf : ¬ r = none → G M k q (pc + 3) lv st sh σ) : G M k q pc lv (vA r :: st) sh σ := by
  obtain ⟨p, l, e, R, s, m, args, below, meth, c, Q, nL, D, b, cy, A, al, ad, dV, lo⟩ := M
  obtain ⟨hx, hb, hml, hown, hts, hK, hA, hX, hAl, hlk, hnm⟩ := O
  cases r with
  | none => exact fun H locs ls hl hP hD hS hz => lv_ifnullN hx hb d ht (kt rfl H locs ls hl hP hD hS hz)
  | some a => exact fun H locs ls hl hP hD hS hz => lv_ifnull hx hb d (kf (fun h => by cases h) H locs ls hl hP hD hS hz)
theorem g_ifnonnull {r : Option Nat} {off : Int} {tgt : Nat} (O : Ok M cc y0) (d : decode cc pc = .ok (.ifnonnull off, 3)) (ht : (pc : Int) + off = (tgt : Int)) (kt : ¬ r = none → G M k q tgt lv st sh σ) (kf : r = none → G M k q (pc + 3) lv st sh σ) : G M k q pc lv (vA r :: st) sh σ := by
  obtain ⟨p, l, e, R, s, m, args, below, meth, c, Q, nL, D, b, cy, A, al, ad, dV, lo⟩ := M
  obtain ⟨hx, hb, hml, hown, hts, hK, hA, hX, hAl, hlk, hnm⟩ := O
  cases r with
  | none => exact fun H locs ls hl hP hD hS hz => lv_ifnonnullN hx hb d (kf rfl H locs ls hl hP hD hS hz)
  | some a => exact fun H locs ls hl hP hD hS hz => lv_ifnonnull hx hb d ht (kt (fun h => by cases h) H locs ls hl hP hD hS hz)
theorem g_ifnullT {x : Nat} {off : Int} (O : Ok M cc y0) (d : decode cc pc = .ok (.ifnull off, 3)) (kk : G M k q (pc + 3) lv st sh σ) : G M k q pc lv (vT x :: st) sh σ := by
  obtain ⟨p, l, e, R, s, m, args, below, meth, c, Q, nL, D, b, cy, A, al, ad, dV, lo⟩ := M
  obtain ⟨hx, hb, hml, hown, hts, hK, hA, hX, hAl, hlk, hnm⟩ := O
  exact fun H locs ls hl hP hD hS hz => lv_ifnull hx hb d (kk H locs ls hl hP hD hS hz)
theorem g_tabIn {dflt lo hi : Int} {offs : Array Int} {len : Nat} {x : Int32} {off : Int} {tgt : Nat} (O : Ok M cc y0) (d : decode cc pc = .ok (.tableswitch dflt lo hi offs, len)) (h1 : ¬ x.toInt < lo) (h2 : ¬ hi < x.toInt) (ho : offs[(x.toInt - lo).toNat]? = some off) (ht : (pc : Int) + off = (tgt : Int)) (kk : G M k q tgt lv st sh σ) : G M k q pc lv (vI x :: st) sh σ := by
  obtain ⟨p, l, e, R, s, m, args, below, meth, c, Q, nL, D, b, cy, A, al, ad, dV, lo⟩ := M
  obtain ⟨hx, hb, hml, hown, hts, hK, hA, hX, hAl, hlk, hnm⟩ := O
  exact fun H locs ls hl hP hD hS hz => lv_tableIn hx hb d h1 h2 ho ht (kk H locs ls hl hP hD hS hz)
theorem g_tabOut {dflt lo hi : Int} {offs : Array Int} {len : Nat} {x : Int32} {tgt : Nat} (O : Ok M cc y0) (d : decode cc pc = .ok (.tableswitch dflt lo hi offs, len)) (h : x.toInt < lo ∨ hi < x.toInt) (ht : (pc : Int) + dflt = (tgt : Int)) (kk : G M k q tgt lv st sh σ) : G M k q pc lv (vI x :: st) sh σ := by
  obtain ⟨p, l, e, R, s, m, args, below, meth, c, Q, nL, D, b, cy, A, al, ad, dV, lo⟩ := M
  obtain ⟨hx, hb, hml, hown, hts, hK, hA, hX, hAl, hlk, hnm⟩ := O
  exact fun H locs ls hl hP hD hS hz => lv_tableOut hx hb d h ht (kk H locs ls hl hP hD hS hz)
theorem g_look {dflt : Int} {ps : Array (Int × Int)} {len : Nat} {x : Int32} {off : Int} {tgt : Nat} (O : Ok M cc y0) (d : decode cc pc = .ok (.lookupswitch dflt ps, len)) (hp : (ps.toList.zip (ps.toList.drop 1)).all (fun (a, next) => a.1 < next.1) = true) (ho : Op.lookupswitch.offset ps.toList dflt x.toInt = off) (ht : (pc : Int) + off = (tgt : Int)) (kk : G M k q tgt lv st sh σ) : G M k q pc lv (vI x :: st) sh σ := by
  obtain ⟨p, l, e, R, s, m, args, below, meth, c, Q, nL, D, b, cy, A, al, ad, dV, lo⟩ := M
  obtain ⟨hx, hb, hml, hown, hts, hK, hA, hX, hAl, hlk, hnm⟩ := O
  exact fun H locs ls hl hP hD hS hz => lv_lookup hx hb d hp ho ht (kk H locs ls hl hP hD hS hz)
end ROWS
/-! ===== fields, rows, returns, calls ===== -/
theorem ite_some {c : Prop} {hd : Decidable c} {α : Type} {x y : α} (h : (@ite _ c hd (some x) none) = some y) : c ∧ x = y := by
  by_cases hc : c
  · rw [if_pos hc] at h
    exact ⟨hc, Option.some.inj h⟩
  · rw [if_neg hc] at h
    cases h
def tyOk (t : FieldType) (n : Nat) : Prop := (n = 0 → t = .int) ∧ (n = 1 → t = .long) ∧ (n = 3 → t = .boolean) ∧ (n = 2 → (∃ c, t = .object c) ∨ ∃ a, t = .array a)
/-- a class of the world -/
def CL (ci : Nat) (C : String) (T : u_T) : Prop := ci < 13 ∧ vwCl[ci]? = some (C, T, nf ci) ∧ (∀ w ∈ u_ws C T (nf ci), w ∈ tbl) ∧ (∃ ty : Nat → FieldType, (∀ k, k < nf ci → parseFieldDescriptor (T k).2.2.1 = some (ty k)) ∧ ∀ k, k < nf ci → tyOk (ty k) (fty ci k)) ∧ ∀ a, a < nf ci → ∀ b, b < nf ci → a ≠ b → (T a).2.1 ≠ (T b).2.1
/-- a field's link -/
def FL (own : String) (idx ci j : Nat) (fin : Bool) : Prop := ∃ (C : String) (T : u_T), CL ci C T ∧ j < nf ci ∧ Cond.fieldLink own idx (T j).1 (T j).2.1 (T j).2.2.1 ∈ tbl ∧ (T j).2.2.2 = fin ∧ (T j).1 = C
theorem cellE_congr {b : Nat} {cy : Nat → ClassId} {sh : Sh} {σ σ' : Dt} {x : Nat} (h1 : σ'.1 x = σ.1 x) (h2 : σ'.2.1 x = σ.2.1 x) (h3 : σ'.2.2 x = σ.2.2 x) : cellE b cy sh σ' x = cellE b cy sh σ x := by
  unfold cellE cellA
  have hf : fval b σ' (sh.2.1 x) x = fval b σ (sh.2.1 x) x := by
    funext j
    unfold fval
    rw [h1, h2, h3]
  rw [hf, h1, h2, h3]
theorem up2_ne {α : Type} {f : Nat → Nat → α} {a j x : Nat} {v : α} (h : x ≠ a) : up2 f a j v x = f x := by
  funext y
  exact if_neg (fun q => h q.1)
theorem up2_eq {α : Type} {f : Nat → Nat → α} {a j : Nat} {v : α} : up2 f a j v a j = v := if_pos ⟨rfl, rfl⟩
theorem up2_nj {α : Type} {f : Nat → Nat → α} {a j y : Nat} {v : α} (h : y ≠ j) : up2 f a j v a y = f a y := if_neg (fun q => h q.2)
theorem up2_upd {f : Nat → Nat → Int32} {a j : Nat} {v : Int32} : up2 f a j v a = upd (f a) j v := by
  funext y
  by_cases h : y = j
  · subst h; simp [up2, upd]
  · simp [up2, upd, h]
theorem up2_updL {f : Nat → Nat → Int64} {a j : Nat} {v : Int64} : up2 f a j v a = vp_updL (f a) j v := by
  funext y
  by_cases h : y = j
  · subst h; simp [up2, vp_updL]
  · simp [up2, vp_updL, h]
theorem up2_up {α : Type} {f : Nat → Nat → α} {a j : Nat} {v : α} : up2 f a j v a = va_up (f a) j v := by
  funext y
  by_cases h : y = j
  · subst h; simp [up2, va_up]
  · simp [up2, va_up, h]
theorem fset {b : Nat} {σ σ' : Dt} {ci a j n : Nat} {v : Value} (hv : fval b σ' ci a j = v) (hn : ∀ y, y ≠ j → fval b σ' ci a y = fval b σ ci a y) : ((List.range n).map (fval b σ ci a)).set j v = (List.range n).map (fval b σ' ci a) := by
  apply List.ext_getElem?
  intro k
  rw [List.getElem?_set, List.getElem?_map, List.getElem?_map]
  by_cases hk : k < n
  · rw [List.getElem?_range hk]
    by_cases h : j = k
    · subst h
      simp [hk, hv]
    · simp [h, hn k (fun q => h q.symm)]
  · rw [List.getElem?_eq_none (by rw [List.length_range]; omega)]
    by_cases h : j = k
    · subst h
      simp [hk]
    · simp [h]
section ROWS3
variable {M : Mx} {cc : ByteArray} {y0 : MethodName} {k q pc : Nat} {lv lv' : List (Nat × Av)} {st : List Av} {sh : Sh} {σ σ' : Dt}
theorem g_get {idx ci j a : Nat} {fin : Bool} {v : Av} (O : Ok M cc y0) (d : decode cc pc = .ok (.getfield idx, 3)) (f : FL y0.cls idx ci j fin) (ha : a < sh.1) (hk : sh.2.1 a = ci) (hv : ∀ b ad, fval b σ ci a j = av b ad v) (kk : G M k q (pc + 3) lv (v :: st) sh σ) : G M k q pc lv (vA (some a) :: st) sh σ := by
  obtain ⟨p, l, e, R, s, m, args, below, meth, c, Q, nL, D, b, cy, A, al, ad, dV, lo⟩ := M
  obtain ⟨hx, hb, hml, hown, hts, hK, hA, hX, hAl, hlk, hnm⟩ := O
  obtain ⟨C, T, ⟨h13, hc, hin, hty, hnm'⟩, hj, hw, hfi, hTC⟩ := f
  exact fun H locs ls hl hP hD hS hz => va_get hx hb hts hin hown hK hP a (by rw [Ws_get ha, cellE_o hk h13]) hc j hj (hts _ hw) (fun _ h => h) (v := av b ad v) (by rw [List.getElem?_map, List.getElem?_range hj]; exact congrArg some (hv b ad)) d (kk H locs ls hl hP hD hS hz)
theorem g_getI {idx ci j : Nat} {fin : Bool} {r : Option Nat} {x : Int32} (O : Ok M cc y0) (d : decode cc pc = .ok (.getfield idx, 3)) (f : FL y0.cls idx ci j fin) (hf : Nat.beq (fty ci j % 3) 0 = true) (hx : xgi sh ci j r σ = some x) (kk : G M k q (pc + 3) lv (vI x :: st) sh σ) : G M k q pc lv (vA r :: st) sh σ := by
  cases r with
  | none => cases hx
  | some a =>
    obtain ⟨⟨ha, hk⟩, hv⟩ := ite_some hx
    have hf' := Nat.eq_of_beq_eq_true hf
    refine g_get O d f ha hk (fun b ad => ?_) kk
    unfold fval
    rw [if_neg (by omega), if_neg (by omega), hv]
    rfl
theorem g_getL {idx ci j : Nat} {fin : Bool} {r : Option Nat} {x : Int64} (O : Ok M cc y0) (d : decode cc pc = .ok (.getfield idx, 3)) (f : FL y0.cls idx ci j fin) (hf : fty ci j = 1) (hx : xgl sh ci j r σ = some x) (kk : G M k q (pc + 3) lv (vJ x :: st) sh σ) : G M k q pc lv (vA r :: st) sh σ := by
  cases r with
  | none => cases hx
  | some a =>
    obtain ⟨⟨ha, hk⟩, hv⟩ := ite_some hx
    refine g_get O d f ha hk (fun b ad => ?_) kk
    unfold fval
    rw [if_pos hf, hv]
    rfl
theorem g_getR {idx ci j : Nat} {fin : Bool} {r x : Option Nat} (O : Ok M cc y0) (d : decode cc pc = .ok (.getfield idx, 3)) (f : FL y0.cls idx ci j fin) (hf : fty ci j = 2) (hx : xgr sh ci j r σ = some x) (kk : G M k q (pc + 3) lv (vA x :: st) sh σ) : G M k q pc lv (vA r :: st) sh σ := by
  cases r with
  | none => cases hx
  | some a =>
    obtain ⟨⟨ha, hk⟩, hv⟩ := ite_some hx
    refine g_get O d f ha hk (fun b ad => ?_) kk
    unfold fval
    rw [if_neg (by omega), if_pos hf, hv]
    rfl
theorem g_put {idx ci j a : Nat} {fin : Bool} {v : Av} (O : Ok M cc y0) (d : decode cc pc = .ok (.putfield idx, 3)) (f : FL y0.cls idx ci j fin) (hfi' : fin = false ∨ (y0.name = "<init>" ∧ ∀ T C, CL ci C T → y0.cls = C)) (ha : a < sh.1) (hk : sh.2.1 a = ci) (hfit : ∀ (ty : FieldType) b ad, tyOk ty (fty ci j) → narrow ty (av b ad v) = av b ad v ∧ fits ty (av b ad v) = true)
    (hv : ∀ b ad, fval b σ' ci a j = av b ad v) (hn : ∀ b y, y ≠ j → fval b σ' ci a y = fval b σ ci a y) (ho : ∀ x, x ≠ a → σ'.1 x = σ.1 x ∧ σ'.2.1 x = σ.2.1 x ∧ σ'.2.2 x = σ.2.2 x) (kk : G M k q (pc + 3) lv st sh σ') : G M k q pc lv (v :: vA (some a) :: st) sh σ := by
  obtain ⟨p, l, e, R, s, m, args, below, meth, c, Q, nL, D, b, cy, A, al, ad, dV, lo⟩ := M
  obtain ⟨hx, hb, hml, hown, hts, hK, hA, hX, hAl, hlk, hnm⟩ := O
  obtain ⟨C, T, hCL, hj, hw, hfi, hTC⟩ := f
  obtain ⟨h13, hc, hin, ⟨ty, hty, htk⟩, hnm'⟩ := id hCL
  intro H locs ls hl hP hD hS hz
  have he : (Ws b cy sh σ)[a]? = some (b + a, .inr (ci, (List.range (nf ci)).map (fval b σ ci a))) := by rw [Ws_get ha, cellE_o hk h13]
  have hap := va_apart (own := y0.cls) hts hin ty hty hnm' hK hc
  obtain ⟨r, h1, cell, q1, q2, q3, q4⟩ := hP a _ he
  have hr : r = (C, T, nf ci) := Option.some.inj (h1.symm.trans hc)
  subst hr
  obtain ⟨hSl, hfc, kC, hkC, hkind⟩ := hK.1 ci _ hc
  obtain ⟨cf, kf, fi, f, hi, hsl⟩ := hSl j hj
  have hlay := hts _ (hin _ (u_in_lay hj))
  have hst := (u_facts hfc hkC (u_lays hts hin hj) hi).1
  obtain ⟨hn1, hf1⟩ := hfit (ty j) b ad (htk j hj)
  have key : ∀ H' : Heap, H'[b + a]? = some (cell.setSlot f.slot (av b ad v)) → H'.size = H.size → (∀ q, q ≠ b + a → H'[q]? = H[q]?) → W p l e R s m args below meth c H' (locs ++ [⟨b + a, f.slot⟩]) k q Q (F0 m (pc + 3) ls (st.map (av b ad))) := by
    intro H' e1 e2 e3
    rw [hsl] at e1
    have hset : (Ws b cy sh σ).set a (b + a, .inr (ci, ((List.range (nf ci)).map (fval b σ ci a)).set j (av b ad v))) = Ws b cy sh σ' := by
      refine Ws_set ?_ (fun x hxa => cellE_congr (ho x hxa).1 (ho x hxa).2.1 (ho x hxa).2.2)
      rw [cellE_o hk h13, fset (hv b ad) (hn b)]
    refine kk H' _ ls hl ?_ ?_ (hS.put e2 e3 (hD.2 a _ he)) (fun h => e2.trans (hz h))
    · rw [← hset]
      exact hP.set hD he ⟨_, hc, t_OB.to (V := updV (vp_V ((List.range (nf ci)).map (fval b σ ci a))) j (av b ad v)) ⟨_, e1, q2, q3, t_set q4 hap hj (av b ad v)⟩ (fun i _ => vp_updV_set (by simpa using hj) (av b ad v) i)⟩ e3
    · rw [← hset]
      exact hD.set he
  cases hfb : (T j).2.2.2 with
  | false =>
    unfold u_lay at hlay
    rw [if_neg (by rw [hfb]; decide)] at hlay
    have h6 := u_store hfc hkC hkind hlay hi (hty j hj) hn1 hf1
    exact W.putK hx hb (f := f) ⟨hown, hts _ hw, ⟨_, _, _, hi⟩, hst⟩ (by rw [q2]; exact h6) q1 q3 (by rw [hsl]; exact k2_hasslot (q4 j hj)) rfl rfl d key
  | true =>
    obtain hff | ⟨hin2, hCC⟩ := hfi'
    · rw [hff] at hfi; rw [hfi] at hfb; cases hfb
    · unfold u_lay at hlay
      rw [if_pos hfb] at hlay
      have hcf : m.cls = cf := by
        have hw2 := Cond.laysFinal_spec hlay
        obtain ⟨_, _, cz, _, _, _, _, _, hq, _, _, _, ho, _⟩ := hw2
        rw [hTC, ← hCC T C hCL, hown] at ho
        have hz2 : some cz = some cf := congrArg (Option.map Prod.fst) (hq.symm.trans hi)
        exact Option.some.inj (ho.trans hz2)
      have h6 := u_fits hfc hkC hkind (Or.inr hlay) hi (hty j hj) hn1 hf1
      exact W.putFinK hx hb hown (hts _ hw) hi hst hcf (hnm.trans hin2) (by rw [q2]; exact h6) q1 q3 (by rw [hsl]; exact k2_hasslot (q4 j hj)) rfl rfl d key
theorem g_putI {idx ci j : Nat} {fin : Bool} {r : Option Nat} {x : Int32} (O : Ok M cc y0) (d : decode cc pc = .ok (.putfield idx, 3)) (f : FL y0.cls idx ci j fin) (hfi : fin = false ∨ (y0.name = "<init>" ∧ ∀ T C, CL ci C T → y0.cls = C)) (hf : fty ci j = 0) (hx : xpi sh ci j r x σ = some σ') (kk : G M k q (pc + 3) lv st sh σ') : G M k q pc lv (vI x :: vA r :: st) sh σ := by
  cases r with
  | none => cases hx
  | some a =>
    obtain ⟨⟨ha, hk⟩, hv⟩ := ite_some hx
    subst hv
    refine g_put (σ' := (up2 σ.1 a j x, σ.2.1, σ.2.2)) O d f hfi ha hk (fun ty b ad h => ?_) (fun b ad => ?_) (fun b y hy => ?_) (fun x hxa => ⟨up2_ne hxa, rfl, rfl⟩) kk
    · rw [h.1 hf]; exact ⟨rfl, rfl⟩
    · unfold fval
      rw [if_neg (by omega), if_neg (by omega)]
      exact congrArg Value.int up2_eq
    · unfold fval
      dsimp only
      rw [up2_nj hy]
theorem g_putZ {idx ci j : Nat} {fin : Bool} {r : Option Nat} {x : Int32} (O : Ok M cc y0) (d : decode cc pc = .ok (.putfield idx, 3)) (f : FL y0.cls idx ci j fin) (hfi : fin = false ∨ (y0.name = "<init>" ∧ ∀ T C, CL ci C T → y0.cls = C)) (hf : fty ci j = 3) (hx : xpz sh ci j r x σ = some σ') (kk : G M k q (pc + 3) lv st sh σ') : G M k q pc lv (vI x :: vA r :: st) sh σ := by
  cases r with
  | none => cases hx
  | some a =>
    obtain ⟨⟨⟨ha, hk⟩, h01⟩, hv⟩ := ite_some hx
    subst hv
    refine g_put (σ' := (up2 σ.1 a j x, σ.2.1, σ.2.2)) O d f hfi ha hk (fun ty b ad h => ?_) (fun b ad => ?_) (fun b y hy => ?_) (fun x hxa => ⟨up2_ne hxa, rfl, rfl⟩) kk
    · rw [h.2.2.1 hf]
      rcases h01 with h | h <;> subst h <;> exact ⟨rfl, rfl⟩
    · unfold fval
      rw [if_neg (by omega), if_neg (by omega)]
      exact congrArg Value.int up2_eq
    · unfold fval
      dsimp only
      rw [up2_nj hy]
theorem g_putL {idx ci j : Nat} {fin : Bool} {r : Option Nat} {x : Int64} (O : Ok M cc y0) (d : decode cc pc = .ok (.putfield idx, 3)) (f : FL y0.cls idx ci j fin) (hfi : fin = false ∨ (y0.name = "<init>" ∧ ∀ T C, CL ci C T → y0.cls = C)) (hf : fty ci j = 1) (hx : xpl sh ci j r x σ = some σ') (kk : G M k q (pc + 3) lv st sh σ') : G M k q pc lv (vJ x :: vA r :: st) sh σ := by
  cases r with
  | none => cases hx
  | some a =>
    obtain ⟨⟨ha, hk⟩, hv⟩ := ite_some hx
    subst hv
    refine g_put (σ' := (σ.1, up2 σ.2.1 a j x, σ.2.2)) O d f hfi ha hk (fun ty b ad h => ?_) (fun b ad => ?_) (fun b y hy => ?_) (fun x hxa => ⟨rfl, up2_ne hxa, rfl⟩) kk
    · rw [h.2.1 hf]; exact ⟨rfl, rfl⟩
    · unfold fval
      rw [if_pos hf]
      exact congrArg Value.long up2_eq
    · unfold fval
      dsimp only
      rw [up2_nj hy]
theorem g_putR {idx ci j : Nat} {fin : Bool} {r x : Option Nat} (O : Ok M cc y0) (d : decode cc pc = .ok (.putfield idx, 3)) (f : FL y0.cls idx ci j fin) (hfi : fin = false ∨ (y0.name = "<init>" ∧ ∀ T C, CL ci C T → y0.cls = C)) (hf : fty ci j = 2) (hx : xpr sh ci j r x σ = some σ') (kk : G M k q (pc + 3) lv st sh σ') : G M k q pc lv (vA x :: vA r :: st) sh σ := by
  cases r with
  | none => cases hx
  | some a =>
    obtain ⟨⟨ha, hk⟩, hv⟩ := ite_some hx
    subst hv
    refine g_put (σ' := (σ.1, σ.2.1, up2 σ.2.2 a j x)) O d f hfi ha hk (fun ty b ad h => ?_) (fun b ad => ?_) (fun b y hy => ?_) (fun x hxa => ⟨rfl, rfl, up2_ne hxa⟩) kk
    · rcases h.2.2.2 hf with ⟨c, rfl⟩ | ⟨c, rfl⟩ <;> cases x <;> exact ⟨rfl, rfl⟩
    · unfold fval
      rw [if_neg (by omega), if_pos hf]
      exact congrArg (fun r : Option Nat => va_rf (r.map (fun x => b + x))) up2_eq
    · unfold fval
      dsimp only
      rw [up2_nj hy]
-- rows
theorem g_iaload {r : Option Nat} {i x : Int32} (O : Ok M cc y0) (d : decode cc pc = .ok (.iaload, 1)) (hx : xai sh r i σ = some x) (kk : G M k q (pc + 1) lv (vI x :: st) sh σ) : G M k q pc lv (vI i :: vA r :: st) sh σ := by
  obtain ⟨p, l, e, R, s, m, args, below, meth, c, Q, nL, D, b, cy, A, al, ad, dV, lo⟩ := M
  obtain ⟨hx', hb, hml, hown, hts, hK, hA, hX, hAl, hlk, hnm⟩ := O
  cases r with
  | none => cases hx
  | some a =>
    obtain ⟨⟨⟨ha, hk⟩, hi⟩, hv⟩ := ite_some hx
    subst hv
    exact fun H locs ls hl hP hD hS hz => va_iald hx' hb hK hP a 0 (by rw [Ws_get ha, cellE_i hk]) rfl hi d (kk H locs ls hl hP hD hS hz)
theorem g_baload {r : Option Nat} {i x : Int32} (O : Ok M cc y0) (d : decode cc pc = .ok (.baload, 1)) (hx : xaz sh r i σ = some x) (kk : G M k q (pc + 1) lv (vI x :: st) sh σ) : G M k q pc lv (vI i :: vA r :: st) sh σ := by
  obtain ⟨p, l, e, R, s, m, args, below, meth, c, Q, nL, D, b, cy, A, al, ad, dV, lo⟩ := M
  obtain ⟨hx', hb, hml, hown, hts, hK, hA, hX, hAl, hlk, hnm⟩ := O
  cases r with
  | none => cases hx
  | some a =>
    obtain ⟨⟨⟨ha, hk⟩, hi⟩, hv⟩ := ite_some hx
    subst hv
    exact fun H locs ls hl hP hD hS hz => va_zald hx' hb hK hP a 2 (by rw [Ws_get ha, cellE_z hk]) rfl hi d (kk H locs ls hl hP hD hS hz)
theorem g_laload {r : Option Nat} {i : Int32} {x : Int64} (O : Ok M cc y0) (d : decode cc pc = .ok (.laload, 1)) (hx : xal sh r i σ = some x) (kk : G M k q (pc + 1) lv (vJ x :: st) sh σ) : G M k q pc lv (vI i :: vA r :: st) sh σ := by
  obtain ⟨p, l, e, R, s, m, args, below, meth, c, Q, nL, D, b, cy, A, al, ad, dV, lo⟩ := M
  obtain ⟨hx', hb, hml, hown, hts, hK, hA, hX, hAl, hlk, hnm⟩ := O
  cases r with
  | none => cases hx
  | some a =>
    obtain ⟨⟨⟨ha, hk⟩, hi⟩, hv⟩ := ite_some hx
    subst hv
    exact fun H locs ls hl hP hD hS hz => va_lald hx' hb hK hP a 1 (by rw [Ws_get ha, cellE_l hk]) rfl hi d (kk H locs ls hl hP hD hS hz)
theorem tyl_ref {cy : Nat → ClassId} {kd : Nat} (h1 : 15 < kd) (h2 : kd < 21) : ∃ ty : FieldType, (tyl cy)[kd - 13]? = some (cy kd, ty) ∧ ty.isReference = true := by
  have : kd = 16 ∨ kd = 17 ∨ kd = 18 ∨ kd = 19 ∨ kd = 20 := by omega
  rcases this with rfl | rfl | rfl | rfl | rfl <;> exact ⟨_, rfl, rfl⟩
theorem g_aaload {r x : Option Nat} {i : Int32} {kd : Nat} (O : Ok M cc y0) (d : decode cc pc = .ok (.aaload, 1)) (h1 : 15 < kd) (h2 : kd < 21) (hx : xar sh kd r i σ = some x) (kk : G M k q (pc + 1) lv (vA x :: st) sh σ) : G M k q pc lv (vI i :: vA r :: st) sh σ := by
  obtain ⟨p, l, e, R, s, m, args, below, meth, c, Q, nL, D, b, cy, A, al, ad, dV, lo⟩ := M
  obtain ⟨hx', hb, hml, hown, hts, hK, hA, hX, hAl, hlk, hnm⟩ := O
  cases r with
  | none => cases hx
  | some a =>
    obtain ⟨⟨⟨ha, hk⟩, hi⟩, hv⟩ := ite_some hx
    subst hv
    obtain ⟨ty, ht, hty⟩ := tyl_ref (cy := cy) h1 h2
    intro H locs ls hl hP hD hS hz
    have hlt : i.toNatClampNeg < sh.2.2 a := Nat.not_le.mp fun q => hi (Or.inr q)
    have he : (Ws b cy sh σ)[a]? = some (b + a, .inl (cy kd, sh.2.2 a, .inr (.inr (.inr (.inr (fun i => (σ.2.2 a i).map (fun x => b + x))))))) := by rw [Ws_get ha, cellE_r hk h1]
    exact W.aald (v := va_rf ((σ.2.2 a i.toNatClampNeg).map (fun x => b + x))) (ty := ty) hx' hb (hP a _ he) ((hK.2 _ _ ht).1 (sh.2.2 a) (fun j => va_rf ((σ.2.2 a j).map (fun x => b + x)))) hty (fun q => by cases q) (by show ¬ (i < 0 ∨ (arrV _ _ _).slots.size ≤ _); rw [arrV_size]; exact hi) (by show (arrV _ _ _).slots[_]? = _; rw [arrV_read _ _ hlt]) rfl rfl d (kk H locs ls hl hP hD hS hz)
theorem g_alen {r : Option Nat} {x : Int32} (O : Ok M cc y0) (d : decode cc pc = .ok (.arraylength, 1)) (hx : xln sh r = some x) (kk : G M k q (pc + 1) lv (vI x :: st) sh σ) : G M k q pc lv (vA r :: st) sh σ := by
  obtain ⟨p, l, e, R, s, m, args, below, meth, c, Q, nL, D, b, cy, A, al, ad, dV, lo⟩ := M
  obtain ⟨hx', hb, hml, hown, hts, hK, hA, hX, hAl, hlk, hnm⟩ := O
  cases r with
  | none => cases hx
  | some a =>
    obtain ⟨⟨ha, hk⟩, hv⟩ := ite_some hx
    subst hv
    exact fun H locs ls hl hP hD hS hz => va_alen (x := (sh.2.2 a, .inl (σ.1 a))) hx' hb hK hP a 0 (by rw [Ws_get ha, cellE_i hk]) rfl rfl d (kk H locs ls hl hP hD hS hz)
theorem g_iastore {r : Option Nat} {i x : Int32} (O : Ok M cc y0) (d : decode cc pc = .ok (.iastore, 1)) (hx : xsi sh r i x σ = some σ') (kk : G M k q (pc + 1) lv st sh σ') : G M k q pc lv (vI x :: vI i :: vA r :: st) sh σ := by
  obtain ⟨p, l, e, R, s, m, args, below, meth, c, Q, nL, D, b, cy, A, al, ad, dV, lo⟩ := M
  obtain ⟨hx', hb, hml, hown, hts, hK, hA, hX, hAl, hlk, hnm⟩ := O
  cases r with
  | none => cases hx
  | some a =>
    obtain ⟨⟨⟨ha, hk⟩, hi⟩, hv⟩ := ite_some hx
    subst hv
    intro H locs ls hl hP hD hS hz
    have he : (Ws b cy sh σ)[a]? = some (b + a, .inl (cy 13, sh.2.2 a, .inl (σ.1 a))) := by rw [Ws_get ha, cellE_i hk]
    refine W.iast hx' hb (hP a _ he) ((hK.2 0 _ rfl).1 (sh.2.2 a) (fun j => .int (σ.1 a j))) (fun q => by cases q) (by show ¬ (i < 0 ∨ (arrV _ _ _).slots.size ≤ _); rw [arrV_size]; exact hi) rfl rfl d fun H1 e z oq => ?_
    have hset : (Ws b cy sh σ).set a (b + a, .inl (cy 13, sh.2.2 a, .inl (upd (σ.1 a) i.toNatClampNeg x))) = Ws b cy sh (up2 σ.1 a i.toNatClampNeg x, σ.2.1, σ.2.2) := by
      refine Ws_set ?_ (fun y hy => cellE_congr (up2_ne hy) rfl rfl)
      rw [cellE_i hk]
      exact congrArg (fun f => (Sum.inl (cy 13, sh.2.2 a, Sum.inl f) : va_E)) up2_upd
    refine kk H1 _ ls hl ?_ ?_ (hS.put z oq (hD.2 a _ he)) (fun h => z.trans (hz h))
    · rw [← hset]
      refine hP.set hD he ?_ oq
      show H1[b + a]? = some (vp_cell _ _)
      rw [e]
      show some ((arrV (cy 13) (sh.2.2 a) (fun j => .int (σ.1 a j))).setSlot i.toNatClampNeg (.int x)) = some (arrV (cy 13) (sh.2.2 a) (fun j => .int (upd (σ.1 a) i.toNatClampNeg x j)))
      rw [arrV_store]
      refine congrArg some (congrArg (arrV (cy 13) (sh.2.2 a)) (funext fun j => ?_))
      by_cases h : j = i.toNatClampNeg
      · simp [updV, upd, h]
      · simp [updV, upd, h]
    · rw [← hset]
      exact hD.set he
theorem g_bastore {r : Option Nat} {i x : Int32} (O : Ok M cc y0) (hna : Ma M = false) (d : decode cc pc = .ok (.bastore, 1)) (hx : xsz sh r i x σ = some σ') (kk : G M k q (pc + 1) lv st sh σ') : G M k q pc lv (vI x :: vI i :: vA r :: st) sh σ := by
  obtain ⟨p, l, e, R, s, m, args, below, meth, c, Q, nL, D, b, cy, A, al, ad, dV, lo⟩ := M
  obtain ⟨hx', hb, hml, hown, hts, hK, hA, hX, hAl, hlk, hnm⟩ := O
  cases r with
  | none => cases hx
  | some a =>
    obtain ⟨⟨⟨ha, hk⟩, hi⟩, hv⟩ := ite_some hx
    subst hv
    intro H locs ls hl hP hD hS hz
    have he : (Ws b cy sh σ)[a]? = some (b + a, .inl (cy 15, sh.2.2 a, .inl (σ.1 a))) := by rw [Ws_get ha, cellE_z hk]
    have hset : (Ws b cy sh σ).set a (b + a, .inl (cy 15, sh.2.2 a, .inl (upd (σ.1 a) i.toNatClampNeg (vp_nar .boolean x)))) = Ws b cy sh (up2 σ.1 a i.toNatClampNeg (vp_nar .boolean x), σ.2.1, σ.2.2) := by
      refine Ws_set ?_ (fun y hy => cellE_congr (up2_ne hy) rfl rfl)
      rw [cellE_z hk]
      exact congrArg (fun f => (Sum.inl (cy 15, sh.2.2 a, Sum.inl f) : va_E)) up2_upd
    refine va_zast hx' hb hK hP hD hS a 2 he rfl hi d (fun H1 locs1 hP1 hD1 hS1 => ?_)
    rw [hset] at hP1 hD1
    exact kk H1 locs1 ls hl hP1 hD1 hS1 (fun h => by rw [show al = false from hna] at h; cases h)
theorem g_lastore {r : Option Nat} {i : Int32} {x : Int64} (O : Ok M cc y0) (hna : Ma M = false) (d : decode cc pc = .ok (.lastore, 1)) (hx : xsl sh r i x σ = some σ') (kk : G M k q (pc + 1) lv st sh σ') : G M k q pc lv (vJ x :: vI i :: vA r :: st) sh σ := by
  obtain ⟨p, l, e, R, s, m, args, below, meth, c, Q, nL, D, b, cy, A, al, ad, dV, lo⟩ := M
  obtain ⟨hx', hb, hml, hown, hts, hK, hA, hX, hAl, hlk, hnm⟩ := O
  cases r with
  | none => cases hx
  | some a =>
    obtain ⟨⟨⟨ha, hk⟩, hi⟩, hv⟩ := ite_some hx
    subst hv
    intro H locs ls hl hP hD hS hz
    have he : (Ws b cy sh σ)[a]? = some (b + a, .inl (cy 14, sh.2.2 a, .inr (.inl (σ.2.1 a)))) := by rw [Ws_get ha, cellE_l hk]
    have hset : (Ws b cy sh σ).set a (b + a, .inl (cy 14, sh.2.2 a, .inr (.inl (vp_updL (σ.2.1 a) i.toNatClampNeg x)))) = Ws b cy sh (σ.1, up2 σ.2.1 a i.toNatClampNeg x, σ.2.2) := by
      refine Ws_set ?_ (fun y hy => cellE_congr rfl (up2_ne hy) rfl)
      rw [cellE_l hk]
      exact congrArg (fun f => (Sum.inl (cy 14, sh.2.2 a, Sum.inr (Sum.inl f)) : va_E)) up2_updL
    refine va_last hx' hb hK hP hD hS a 1 he rfl hi d (fun H1 locs1 hP1 hD1 hS1 => ?_)
    rw [hset] at hP1 hD1
    exact kk H1 locs1 ls hl hP1 hD1 hS1 (fun h => by rw [show al = false from hna] at h; cases h)
theorem g_copy {l0 : Launch} {fr lc mc ms idx : Nat} {r0 r1 : Option Nat} {sp dp n : Int32} (O : Ok M cc y0) (R0 : Rm M l0 fr lc mc ms) (hna : Ma M = false) (d : decode cc pc = .ok (.invokestatic idx, 3)) (w : Cond.methodLink y0.cls idx arraycopyName ∈ tbl) (w2 : Cond.native arraycopyName ∈ tbl ∧ Cond.static arraycopyName ∈ tbl ∧ Cond.initialized "java/lang/System" ∈ tbl) (hR : 1 ≤ fr ∧ (st.map avc).sum + (nativeFrameWords "java/lang/System" "arraycopy" 5 + 11) ≤ lc) (hx : xcp sh r0 sp r1 dp n σ = some σ') (kk : G M k q (pc + 3) lv st sh σ') : G M k q pc lv (vI n :: vI dp :: vA r1 :: vI sp :: vA r0 :: st) sh σ := by
  obtain ⟨p, l, e, R, s, m, args, below, meth, c, Q, nL, D, b, cy, A, al, ad, dV, lo⟩ := M
  obtain ⟨hx', hb, hml, hown, hts, hK, hA, hX, hAl, hlk, hnm⟩ := O
  obtain ⟨-, hfr, hlc, -, -⟩ := R0
  cases r0 with
  | none => cases hx
  | some a0 =>
    cases r1 with
    | none => cases hx
    | some a1 =>
      obtain ⟨⟨⟨⟨ha0, hk0⟩, ha1, hk1⟩, ⟨h1, h2, h3⟩, h4, h5⟩, hv⟩ := ite_some hx
      subst hv
      intro H locs ls hl hP hD hS hz
      have he0 : (Ws b cy sh σ)[a0]? = some (b + a0, .inl (cy 13, sh.2.2 a0, .inl (σ.1 a0))) := by rw [Ws_get ha0, cellE_i hk0]
      have he1 : (Ws b cy sh σ)[a1]? = some (b + a1, .inl (cy 13, sh.2.2 a1, .inl (σ.1 a1))) := by rw [Ws_get ha1, cellE_i hk1]
      have hset : (Ws b cy sh σ).set a1 (b + a1, .inl (cy 13, sh.2.2 a1, .inl (va_cpy (σ.1 a0) (σ.1 a1) sp.toNatClampNeg dp.toNatClampNeg n.toNatClampNeg))) = Ws b cy sh (up1 σ.1 a1 (va_cpy (σ.1 a0) (σ.1 a1) sp.toNatClampNeg dp.toNatClampNeg n.toNatClampNeg), σ.2.1, σ.2.2) := by
        refine Ws_set ?_ (fun y hy => cellE_congr (if_neg hy) rfl rfl)
        rw [cellE_i hk1]
        simp [up1]
      refine va_copyi hx' hb (hml.trans hl.1.symm) hown (hts _ w) (hts _ w2.1) (hts _ w2.2.1) (hts _ w2.2.2) hK hP hD hS a0 a1 0 0 he0 he1 rfl rfl rfl h1 h2 h3 h4 h5 (fun _ _ => rfl) (by rw [hfr]; exact hR.1) (by rw [hlc, List.map_map, show ((fun v : Value => v.category) ∘ av b ad) = avc from funext (av_cat b ad)]; exact hR.2) d (fun H1 locs1 hP1 hD1 hS1 => ?_)
      rw [hset] at hP1 hD1
      exact kk H1 locs1 ls hl hP1 hD1 hS1 (fun h => by rw [show al = false from hna] at h; cases h)
-- returns
theorem g_ireturn {x : Int32} (O : Ok M cc y0) (F : Fin' M (some .int) k q sh σ (some (vI x))) (d : decode cc pc = .ok (.ireturn, 1)) : G M k q pc lv [vI x] sh σ := by
  obtain ⟨p, l, e, R, s, m, args, below, meth, c, Q, nL, D, b, cy, A, al, ad, dV, lo⟩ := M
  obtain ⟨hx', hb, hml, hown, hts, hK, hA, hX, hAl, hlk, hnm⟩ := O
  obtain ⟨hr, rfl⟩ := F
  exact fun H locs ls hl hP hD hS hz => W.iret hx' hb hr (fun t ht hW => ⟨⟨rfl, by rw [ht]; exact hP, hD, fun h => by rw [ht]; exact hz h⟩, hS.F ht⟩) hS.2.2 d hlk
theorem g_zreturn {x : Int32} (O : Ok M cc y0) (h01 : x = 0 ∨ x = 1) (F : Fin' M (some .boolean) k q sh σ (some (vI x))) (d : decode cc pc = .ok (.ireturn, 1)) : G M k q pc lv [vI x] sh σ := by
  obtain ⟨p, l, e, R, s, m, args, below, meth, c, Q, nL, D, b, cy, A, al, ad, dV, lo⟩ := M
  obtain ⟨hx', hb, hml, hown, hts, hK, hA, hX, hAl, hlk, hnm⟩ := O
  obtain ⟨hr, rfl⟩ := F
  exact fun H locs ls hl hP hD hS hz => W.zret hx' hb hr (by rcases h01 with h | h <;> subst h <;> rfl) (fun t ht hW => ⟨⟨rfl, by rw [ht]; exact hP, hD, fun h => by rw [ht]; exact hz h⟩, hS.F ht⟩) hS.2.2 d hlk
theorem g_lreturn {x : Int64} (O : Ok M cc y0) (F : Fin' M (some .long) k q sh σ (some (vJ x))) (d : decode cc pc = .ok (.lreturn, 1)) : G M k q pc lv [vJ x] sh σ := by
  obtain ⟨p, l, e, R, s, m, args, below, meth, c, Q, nL, D, b, cy, A, al, ad, dV, lo⟩ := M
  obtain ⟨hx', hb, hml, hown, hts, hK, hA, hX, hAl, hlk, hnm⟩ := O
  obtain ⟨hr, rfl⟩ := F
  exact fun H locs ls hl hP hD hS hz => W.lret hx' hb hr (fun t ht hW => ⟨⟨rfl, by rw [ht]; exact hP, hD, fun h => by rw [ht]; exact hz h⟩, hS.F ht⟩) hS.2.2 d hlk
theorem g_return (O : Ok M cc y0) (F : Fin' M none k q sh σ none) (d : decode cc pc = .ok (.return_, 1)) : G M k q pc lv [] sh σ := by
  obtain ⟨p, l, e, R, s, m, args, below, meth, c, Q, nL, D, b, cy, A, al, ad, dV, lo⟩ := M
  obtain ⟨hx', hb, hml, hown, hts, hK, hA, hX, hAl, hlk, hnm⟩ := O
  obtain ⟨hr, rfl⟩ := F
  exact fun H locs ls hl hP hD hS hz => W.vret hx' hb hr (fun t ht hW => ⟨⟨rfl, by rw [ht]; exact hP, hD, fun h => by rw [ht]; exact hz h⟩, hS.F ht⟩) hS.2.2 d hlk
theorem g_areturn {r : Option Nat} {rt : FieldType} (O : Ok M cc y0) (hrt : (∃ n, rt = .object n) ∨ ∃ t, rt = .array t) (F : Fin' M (some rt) k q sh σ (some (vA r))) (d : decode cc pc = .ok (.areturn, 1)) : G M k q pc lv [vA r] sh σ := by
  obtain ⟨p, l, e, R, s, m, args, below, meth, c, Q, nL, D, b, cy, A, al, ad, dV, lo⟩ := M
  obtain ⟨hx', hb, hml, hown, hts, hK, hA, hX, hAl, hlk, hnm⟩ := O
  obtain ⟨hr, rfl⟩ := F
  exact fun H locs ls hl hP hD hS hz => W.aret hx' hb hr hrt (by cases r with | none => exact Or.inl rfl | some a => exact Or.inr ⟨_, rfl⟩) (fun t ht hW => ⟨⟨rfl, by rw [ht]; exact hP, hD, fun h => by rw [ht]; exact hz h⟩, hS.F ht⟩) hS.2.2 d hlk
end ROWS3
/-! ===== calls ===== -/
theorem tbl_good : tbl.all goodWord = true := List.all_eq_true.mpr (fun _ h => (List.mem_filter.mp h).2)
theorem goodIn_tbl {y : MethodName} {cc : ByteArray} {mL : Nat} {ret : Option FieldType} (h : Cond.code y cc mL ret ∈ tbl) : GoodIn tbl (Cond.code y cc mL ret :: tbl) := by
  intro w hw
  rcases List.mem_cons.mp hw with e | e
  · subst e
    exact ⟨h, good_of_word (List.all_eq_true.mp tbl_good _ h)⟩
  · exact ⟨e, good_of_word (List.all_eq_true.mp tbl_good _ e)⟩
def VL (own : String) (idx : Nat) (y : MethodName) (cc : ByteArray) (mL : Nat) (ret : Option FieldType) (n : Nat) : Prop := Cond.methodLink own idx y ∈ tbl ∧ Cond.code y cc mL ret ∈ tbl ∧ Cond.initialized y.cls ∈ tbl ∧ (y.cls ≠ "java/lang/invoke/MethodHandle" ∧ y.cls ≠ "java/lang/invoke/VarHandle" ∧ (parseMethodDescriptor y.desc).map (fun d => d.parameters.length) = some n)
def VV (y : MethodName) (ci : Nat) : Prop := Cond.instanceMethod y ∈ tbl ∧ Cond.selects y.cls y y ∈ tbl ∧ ci < 13 ∧ ∃ (T : u_T) (N : Nat), vwCl[ci]? = some (y.cls, T, N)
theorem Pcx_blind {D : va_G} {b : Nat} {cy : Nat → ClassId} {al : Bool} {sz : Nat} {ad dV : Nat → Nat} {lo : Nat} {sh : Sh} {σ : Dt} {as : List Av} : FrameBlind (Pcx D b cy al sz ad dV lo sh σ as) := by
  intro a U g mk h
  obtain ⟨e, hsz, hal, hP, hK, hD, hX, hlo⟩ := h
  exact ⟨e, hsz, hal, hP, va_K.moved (u := U) (U := U.calling g mk a) (Vm.Alike.refl U.vm) hK, hD, hX.go (V := U.calling g mk a) (Vm.Alike.refl U.vm) (fun _ _ _ _ h => vk_R.same rfl h) (fun _ _ _ => rfl), hlo⟩
section CALLS
variable {p : Program} {l : Launch} {e : Env} {R : Room} {s : State} {m : MethodId} {args : Array Value} {below : List Frame} {meth : Method} {c : Code} {H : Heap} {locs : List Loc} {k q : Nat} {Q : State → Prop}
theorem Pcx_pre {D : va_G} {b : Nat} {cy : Nat → ClassId} {al : Bool} {ad dV : Nat → Nat} {lo : Nat} {A : Nat → Prop} {sh : Sh} {σ : Dt} {as : List Av} (hK : va_K D vwCl (tyl cy) s) (hA : ∀ q : Nat, s.heap.size ≤ q → A q) (hX : Sx ad dV lo s s.heap) (hAl : ∀ q : Nat, A q → lo ≤ q) (hP : va_P D vwCl (Ws b cy sh σ) H) (hD : va_D A (Ws b cy sh σ)) (hS : va_S A s.heap H locs) (hz : al = true → H.size = b + sh.1) : ∀ U : State, U.heap = H → s.WarmedH U.vm → Pcx D b cy al H.size ad dV lo sh σ as (as.map (av b ad)).toArray U := by
  intro U hU hW
  refine ⟨rfl, by rw [hU], hz, by rw [hU]; exact hP, va_K.moved hW.alike hK, hD.weaken (fun _ _ _ h => hAl _ h), ?_, ?_⟩
  · rw [hU]
    exact hX.go hW.alike (fun _ _ _ _ h => vk_R.warm hW h) (fun a h1 h2 => hS.2.1 a h1 (fun h => h2 (hAl a h)))
  · rw [hU]
    exact Nat.le_trans (hAl _ (hA _ (Nat.le_refl _))) hS.1
/-- behind a call -/
theorem run_on {D : va_G} {b : Nat} {cy : Nat → ClassId} {al : Bool} {ad : Nat → Nat} {A : Nat → Prop} {sh sh' : Sh} {σ σ' : Dt} {rv : Option Av} {mc ms pc : Nat} {ls : Array Slot} {st0 : List Value} {st : List Av} {a : Array Value}
    (hr : va_Run p l e R s m args below meth c H locs k q mc ms (F0 m pc ls st0) (st.map (av b ad)) (Qx D b cy al ad (va_A (Ws b cy sh σ) H.size) sh' σ' rv a) (va_A (Ws b cy sh σ) H.size)) (hA : ∀ q : Nat, s.heap.size ≤ q → A q) (hD : va_D A (Ws b cy sh σ)) (hS : va_S A s.heap H locs)
    (kk : ∀ (H1 : Heap) (locs1 : List Loc), va_P D vwCl (Ws b cy sh' σ') H1 → va_D A (Ws b cy sh' σ') → va_S A s.heap H1 locs1 → (al = true → H1.size = b + sh'.1) → W p l e R s m args below meth c H1 locs1 (k + mc) (q + ms) Q (F0 m (pc + 3) ls ((rv.toList ++ st).map (av b ad)))) : W p l e R s m args below meth c H locs k q Q (F0 m pc ls st0) := by
  have hF : ∀ q, va_A (Ws b cy sh σ) H.size q → A q := by
    intro q h
    rcases h with ⟨j, e', h⟩ | h
    · exact hD.2 j (q, e') h
    · exact hA q (Nat.le_trans hS.1 h)
  intro T hT X
  obtain ⟨v, st₀, t, T', L, h0, X', hL, e1, e2, ⟨⟨hv, hP1, hD1, hz1⟩, hz, hk⟩, stp⟩ := hr T hT X
  have hv' : v = rv.map (av b ad) := by cases hv; rfl
  subst hv'
  rw [h0] at hz hk
  obtain ⟨t2, a1, b1⟩ := kk T'.heap (locs ++ L) (by rw [e1]; exact hP1) (hD1.weaken (fun _ _ _ h => hF _ h))
    ⟨Nat.le_trans hS.1 (by rw [e1]; exact hz), fun q h1 h2 => by rw [e1, hk q (Nat.lt_of_lt_of_le h1 hS.1) (fun z => h2 (hF q z))]; exact hS.2.1 q h1 h2, fun q hq => by
      rcases List.mem_append.mp hq with h | h
      · exact hS.2.2 q h
      · exact hF _ (hL q h)⟩ (fun h => by rw [e1]; exact hz1 h) T' rfl X'
  refine ⟨t2, stp t2 ?_, b1⟩
  cases rv with
  | none => exact a1
  | some x => exact a1
end CALLS
section ROWS4
variable {M : Mx} {cc : ByteArray} {y0 : MethodName} {k q pc : Nat} {lv lv' : List (Nat × Av)} {st stk : List Av} {sh sh' : Sh} {σ σ' : Dt}
variable {l0 : Launch} {fr0 lc0 mc0 ms0 idx mL fr lc mc ms n ci a : Nat} {y : MethodName} {cc1 : ByteArray} {ret : Option FieldType} {al : Bool} {as : List Av} {rv : Option Av}
theorem cat_eq (b : Nat) (ad : Nat → Nat) (st : List Av) : ((st.map (av b ad)).map fun v => v.category) = st.map avc := by
  rw [List.map_map]
  congr 1
  exact funext (av_cat b ad)
theorem g_callV (O : Ok M cc y0) (R0 : Rm M l0 fr0 lc0 mc0 ms0) (hal : Ma M = al) (d : decode cc pc = .ok (.invokevirtual idx, 3)) (V : VL y0.cls idx y cc1 mL ret n) (V2 : VV y ci) (hx : xrc sh ci (some a) = some a) (hn : as.length = n) (hst : stk = as.reverse ++ vA (some a) :: st) (hw : (st.map avc).sum ≤ 8) (hR : fr + 1 ≤ fr0 ∧ 8 + (mL + 11) + lc ≤ lc0) (hc : k + mc ≤ mc0 ∧ q + ms ≤ ms0) (C : Ctr l0 y cc1 mL ret al fr lc mc ms (vA (some a) :: as) sh σ sh' σ' rv) (kk : G M (k + mc) (q + ms) (pc + 3) lv (rv.toList ++ st) sh' σ') : G M k q pc lv stk sh σ := by
  obtain ⟨p, l, e, R, s, m, args, below, meth, c, Q, nL, D, b, cy, A, al', ad, dV, lo⟩ := M
  obtain ⟨hx', hb, hml, hown, hts, hK, hA, hX, hAl, hlk, hnm⟩ := O
  obtain ⟨rfl, hfr, hlc, hmc, hms⟩ := R0
  obtain rfl : al' = al := hal
  obtain ⟨⟨ha, hk⟩, -⟩ := ite_some hx
  obtain ⟨v1, v2, h13, T, N, hcl⟩ := V2
  intro H locs ls hl hP hD hS hz
  refine run_on (va_runV (C := y.cls) (b := b + a) (As := as.map (av b ad)) (rest := st.map (av b ad)) (g := F0 m pc ls (stk.map (av b ad))) (bytes := cc1) (maxL := mL) (ret := ret) (n := n) (index := idx) ⟨hx', hb, hml, hown, hts⟩ (C D b cy H.size ad dV lo) ⟨callB_of n hts (goodIn_tbl V.2.1) rfl rfl rfl (hts _ V.2.2.1) (hts _ V.1) V.2.2.2 (by rw [hfr, hlc]; exact hR), hts _ v1, hts _ v2⟩ ⟨Pcx_blind, va_recv hK hP hcl (q0 := a) (by rw [Ws_get ha, cellE_o hk h13]), Pcx_pre (as := vA (some a) :: as) hK hA hX hAl hP hD hS hz⟩ rfl (by rw [List.length_map]; exact hn) hl.1 ?_ (lv_room (by rw [cat_eq]; exact hw)) d ⟨by rw [hmc]; exact hc.1, by rw [hms]; exact hc.2⟩) hA hD hS (fun H1 locs1 hP1 hD1 hS1 hz1 => kk H1 locs1 ls hl hP1 hD1 hS1 hz1)
  show stk.map (av b ad) = _
  rw [hst, List.map_append, List.map_reverse, List.map_cons]
  rfl
theorem g_callS (O : Ok M cc y0) (R0 : Rm M l0 fr0 lc0 mc0 ms0) (hal : Ma M = al) (d : decode cc pc = .ok (.invokestatic idx, 3)) (V : VL y0.cls idx y cc1 mL ret n) (V2 : Cond.static y ∈ tbl) (hn : as.length = n) (hst : stk = as.reverse ++ st) (hw : (st.map avc).sum ≤ 8) (hR : fr + 1 ≤ fr0 ∧ 8 + (mL + 11) + lc ≤ lc0) (hc : k + mc ≤ mc0 ∧ q + ms ≤ ms0) (C : Ctr l0 y cc1 mL ret al fr lc mc ms as sh σ sh' σ' rv) (kk : G M (k + mc) (q + ms) (pc + 3) lv (rv.toList ++ st) sh' σ') : G M k q pc lv stk sh σ := by
  obtain ⟨p, l, e, R, s, m, args, below, meth, c, Q, nL, D, b, cy, A, al', ad, dV, lo⟩ := M
  obtain ⟨hx', hb, hml, hown, hts, hK, hA, hX, hAl, hlk, hnm⟩ := O
  obtain ⟨rfl, hfr, hlc, hmc, hms⟩ := R0
  obtain rfl : al' = al := hal
  intro H locs ls hl hP hD hS hz
  refine run_on (va_runS (As := as.map (av b ad)) (rest := st.map (av b ad)) (g := F0 m pc ls (stk.map (av b ad))) (bytes := cc1) (maxL := mL) (ret := ret) (n := n) (index := idx) ⟨hx', hb, hml, hown, hts⟩ (C D b cy H.size ad dV lo) ⟨callB_of n hts (goodIn_tbl V.2.1) rfl rfl rfl (hts _ V.2.2.1) (hts _ V.1) V.2.2.2 (by rw [hfr, hlc]; exact hR), hts _ V2⟩ ⟨Pcx_blind, Pcx_pre (as := as) hK hA hX hAl hP hD hS hz⟩ rfl (by rw [List.length_map]; exact hn) hl.1 ?_ (lv_room (by rw [cat_eq]; exact hw)) d ⟨by rw [hmc]; exact hc.1, by rw [hms]; exact hc.2⟩) hA hD hS (fun H1 locs1 hP1 hD1 hS1 hz1 => kk H1 locs1 ls hl hP1 hD1 hS1 hz1)
  show stk.map (av b ad) = _
  rw [hst, List.map_append, List.map_reverse]
theorem g_callI (O : Ok M cc y0) (R0 : Rm M l0 fr0 lc0 mc0 ms0) (hal : Ma M = al) (d : decode cc pc = .ok (.invokespecial idx, 3)) (V : VL y0.cls idx y cc1 mL none n) (V2 : Cond.instanceMethod y ∈ tbl ∧ y.name = "<init>") (hn : as.length = n) (hst : stk = as.reverse ++ vA (some a) :: st) (hw : (st.map avc).sum ≤ 8) (hR : fr + 1 ≤ fr0 ∧ 8 + (mL + 11) + lc ≤ lc0) (hc : k + mc ≤ mc0 ∧ q + ms ≤ ms0) (C : Ctr l0 y cc1 mL none al fr lc mc ms (vA (some a) :: as) sh σ sh' σ' none) (kk : G M (k + mc) (q + ms) (pc + 3) lv st sh' σ') : G M k q pc lv stk sh σ := by
  obtain ⟨p, l, e, R, s, m, args, below, meth, c, Q, nL, D, b, cy, A, al', ad, dV, lo⟩ := M
  obtain ⟨hx', hb, hml, hown, hts, hK, hA, hX, hAl, hlk, hnm⟩ := O
  obtain ⟨rfl, hfr, hlc, hmc, hms⟩ := R0
  obtain rfl : al' = al := hal
  intro H locs ls hl hP hD hS hz
  refine run_on (va_runI (b := b + a) (As := as.map (av b ad)) (rest := st.map (av b ad)) (g := F0 m pc ls (stk.map (av b ad))) (bytes := cc1) (maxL := mL) (n := n) (index := idx) ⟨hx', hb, hml, hown, hts⟩ (C D b cy H.size ad dV lo) ⟨callB_of n hts (goodIn_tbl V.2.1) rfl rfl rfl (hts _ V.2.2.1) (hts _ V.1) V.2.2.2 (by rw [hfr, hlc]; exact hR), V2.2, hts _ V2.1⟩ ⟨Pcx_blind, Pcx_pre (as := vA (some a) :: as) hK hA hX hAl hP hD hS hz⟩ rfl (by rw [List.length_map]; exact hn) hl.1 ?_ (lv_room (by rw [cat_eq]; exact hw)) d ⟨by rw [hmc]; exact hc.1, by rw [hms]; exact hc.2⟩) hA hD hS (fun H1 locs1 hP1 hD1 hS1 hz1 => kk H1 locs1 ls hl hP1 hD1 hS1 hz1)
  show stk.map (av b ad) = _
  rw [hst, List.map_append, List.map_reverse, List.map_cons]
  rfl
end ROWS4
/-! ===== what is made: objects, rows ===== -/
def clr (σ : Dt) (n : Nat) : Dt := (up1 σ.1 n (fun _ => 0), up1 σ.2.1 n (fun _ => 0), up1 σ.2.2 n (fun _ => none))
def newO (sh : Sh) (ci : Nat) : Sh := (sh.1 + 1, up1 sh.2.1 sh.1 ci, sh.2.2)
def newA (sh : Sh) (kd N : Nat) : Sh := (sh.1 + 1, up1 sh.2.1 sh.1 kd, up1 sh.2.2 sh.1 N)
theorem up1_ne {α : Type} {f : Nat → α} {a x : Nat} {v : α} (h : x ≠ a) : up1 f a v x = f x := if_neg h
theorem up1_eq {α : Type} {f : Nat → α} {a : Nat} {v : α} : up1 f a v a = v := if_pos rfl
theorem getD_mem {α : Type} (l : List α) (d : α) (i : Nat) : l.getD i d ∈ d :: l := by
  rw [List.getD_eq_getElem?_getD]
  cases h : l[i]? with
  | none => exact List.mem_cons_self
  | some x => exact List.mem_cons_of_mem _ (List.mem_of_getElem? h)
theorem fty_le (ci j : Nat) : fty ci j = 0 ∨ fty ci j = 1 ∨ fty ci j = 2 ∨ fty ci j = 3 := by
  have h : ∀ l ∈ ([] :: ftyT), ∀ x ∈ (0 :: l), x ≤ 3 := by decide
  have h2 : fty ci j ≤ 3 := h _ (getD_mem ftyT [] ci) _ (getD_mem _ 0 j)
  omega
theorem cellE_cg2 {b : Nat} {cy : Nat → ClassId} {sh sh' : Sh} {σ σ' : Dt} {x : Nat} (hk : sh'.2.1 x = sh.2.1 x) (hl : sh'.2.2 x = sh.2.2 x) (h1 : σ'.1 x = σ.1 x) (h2 : σ'.2.1 x = σ.2.1 x) (h3 : σ'.2.2 x = σ.2.2 x) : cellE b cy sh' σ' x = cellE b cy sh σ x := by
  have hf : fval b σ' (sh.2.1 x) x = fval b σ (sh.2.1 x) x := by
    funext j
    unfold fval
    rw [h1, h2, h3]
  unfold cellE cellA
  rw [hk, hl, hf, h1, h2, h3]
theorem Ws_push {b : Nat} {cy : Nat → ClassId} {sh sh' : Sh} {σ σ' : Dt} {e : va_E} (hn : sh'.1 = sh.1 + 1) (ho : ∀ x, x < sh.1 → cellE b cy sh' σ' x = cellE b cy sh σ x) (he : cellE b cy sh' σ' sh.1 = e) : Ws b cy sh' σ' = Ws b cy sh σ ++ [(b + sh.1, e)] := by
  unfold Ws
  rw [hn, List.range_succ, List.map_append]
  congr 1
  · apply List.map_congr_left
    intro a ha
    rw [ho a (List.mem_range.mp ha)]
  · show [(b + sh.1, cellE b cy sh' σ' sh.1)] = _
    rw [he]
theorem va_P1 {D : va_G} {ws : va_W} {H H1 : Heap} {q : Nat × va_E} (hP : va_P D vwCl ws H) (hk : ∀ x, x < H.size → H1[x]? = H[x]?) (hq : va_at D vwCl q H1) : va_P D vwCl (ws ++ [q]) H1 := by
  refine (hP.kept (fun k x hx => hk x.1 ((hP k x hx).lt))).app (fun k x hx => ?_)
  have hz : k < 1 := (List.getElem?_eq_some_iff.mp hx).1
  rw [show k = 0 by omega] at hx
  cases hx
  exact hq
section ROWS6
variable {M : Mx} {cc : ByteArray} {y0 : MethodName} {k q pc : Nat} {lv lv' : List (Nat × Av)} {st stk : List Av} {sh sh' : Sh} {σ σ' : Dt}
variable {l0 : Launch} {fr0 lc0 mc0 ms0 idx : Nat}
theorem g_new {ci : Nat} {C : String} {T : u_T} (O : Ok M cc y0) (R0 : Rm M l0 fr0 lc0 mc0 ms0) (hal : Ma M = true) (d : decode cc pc = .ok (.new idx, 3)) (hC : CL ci C T) (w1 : Cond.classLink y0.cls idx C ∈ tbl) (w2 : Cond.instantiable C (nf ci) ∈ tbl) (w3 : Cond.initialized C ∈ tbl) (hc : k + 1 ≤ mc0 ∧ q + nf ci ≤ ms0) (kk : G M (k + 1) (q + nf ci) (pc + 3) lv (vA (some sh.1) :: st) (newO sh ci) (clr σ sh.1)) : G M k q pc lv st sh σ := by
  obtain ⟨p, l, e, R, s, m, args, below, meth, c, Q, nL, D, b, cy, A, al, ad, dV, lo⟩ := M
  obtain ⟨hx, hb, hml, hown, hts, hK, hA, hX, hAl, hlk, hnm⟩ := O
  obtain ⟨rfl, hfr, hlc, hmc, hms⟩ := R0
  obtain rfl : al = true := hal
  obtain ⟨h13, hcl, hin, ⟨ty, hty, htk⟩, hnm'⟩ := id hC
  intro H locs ls hl hP hD hS hz
  have hKn := hK.1 ci _ hcl
  refine W.newcK hx hb hown (hts _ w1) (hts _ w2) (hts _ w3) rfl d (by rw [hmc]; exact hc.1) (by rw [hms]; exact hc.2) hKn.2.1 rfl fun H1 kC hkC e1 z1 o1 => ?_
  have hWs : Ws b cy (newO sh ci) (clr σ sh.1) = Ws b cy sh σ ++ [(b + sh.1, .inr (ci, (List.range (nf ci)).map (fval b (clr σ sh.1) ci sh.1)))] := by
    refine Ws_push rfl (fun x hx => ?_) (cellE_o up1_eq h13)
    have hne : x ≠ sh.1 := by omega
    exact cellE_cg2 (up1_ne hne) rfl (up1_ne hne) (up1_ne hne) (up1_ne hne)
  have hHz : H.size = b + sh.1 := hz rfl
  have hfs : ∀ j, j < nf ci → defaultValue (ty j) = vp_V ((List.range (nf ci)).map (fval b (clr σ sh.1) ci sh.1)) j := by
    intro j hj
    have e2 : vp_V ((List.range (nf ci)).map (fval b (clr σ sh.1) ci sh.1)) j = fval b (clr σ sh.1) ci sh.1 j := by
      unfold vp_V
      rw [List.getD_eq_getElem?_getD, List.getElem?_map, List.getElem?_range hj]
      rfl
    rw [e2]
    obtain ⟨t0, t1, t3, t2⟩ := htk j hj
    have hft : fty ci j = 0 ∨ fty ci j = 1 ∨ fty ci j = 2 ∨ fty ci j = 3 := fty_le ci j
    unfold fval clr
    dsimp only
    rw [up1_eq, up1_eq, up1_eq]
    rcases hft with h | h | h | h
    · rw [t0 h, h]; rfl
    · rw [t1 h, h]; rfl
    · rcases t2 h with ⟨c, e3⟩ | ⟨c, e3⟩ <;> rw [e3, h] <;> rfl
    · rw [t3 h, h]; rfl
  have hPn : va_P D vwCl (Ws b cy (newO sh ci) (clr σ sh.1)) H1 := by
    rw [hWs]
    refine va_P1 hP o1 ⟨_, hcl, ?_⟩
    rw [hHz] at e1
    exact (u_born ty hts hin hKn hkC e1 hty).to hfs
  have hDn : va_D A (Ws b cy (newO sh ci) (clr σ sh.1)) := by
    rw [hWs]
    exact hD.push hP hHz.symm (hA _ (by rw [← hHz]; exact hS.1))
  have hg := kk H1 locs ls hl hPn hDn ⟨Nat.le_trans hS.1 (by omega), fun x h1 h2 => (o1 x (Nat.lt_of_lt_of_le h1 hS.1)).trans (hS.2.1 x h1 h2), hS.2.2⟩ (fun _ => by rw [z1, hHz]; rfl)
  rw [hHz]
  exact hg
theorem g_newA {kd N : Nat} {n : Int32} {at_ : ArrayType} {dv : Value} {ty : FieldType} (O : Ok M cc y0) (R0 : Rm M l0 fr0 lc0 mc0 ms0) (hal : Ma M = true) (d : decode cc pc = .ok (.newarray at_, 2)) (w : Cond.arrayClass (newarray.typeOf at_) ∈ tbl) (hty : newarray.typeOf at_ = ty) (htl : ∀ cy, (tyl cy)[kd - 13]? = some (cy kd, ty)) (hkd : kd = 13 ∨ kd = 14 ∨ kd = 15) (hcell : ∀ (b : Nat) (cA : ClassId), vp_cell cA (N, cellA b (newA sh kd N) (clr σ sh.1) sh.1) = arrV cA N (fun _ => defaultValue ty)) (hn : ¬ n < 0) (hN : n.toNatClampNeg = N) (hby : N * componentBytes ty ≤ 536870912) (hc : k + 1 ≤ mc0 ∧ q + N ≤ ms0) (kk : G M (k + 1) (q + N) (pc + 2) lv (vA (some sh.1) :: st) (newA sh kd N) (clr σ sh.1)) : G M k q pc lv (vI n :: st) sh σ := by
  obtain ⟨p, l, e, R, s, m, args, below, meth, c, Q, nL, D, b, cy, A, al, ad, dV, lo⟩ := M
  obtain ⟨hx, hb, hml, hown, hts, hK, hA, hX, hAl, hlk, hnm⟩ := O
  obtain ⟨rfl, hfr, hlc, hmc, hms⟩ := R0
  obtain rfl : al = true := hal
  intro H locs ls hl hP hD hS hz
  subst hty
  have hHz : H.size = b + sh.1 := hz rfl
  refine va_newaK hx hb (hts _ w) rfl d rfl hn hN hby (by rw [hmc]; exact hc.1) (by rw [hms]; exact hc.2) rfl fun H1 cA e1 z1 o1 hAr hNm => ?_
  have hcA : cA = cy kd := by
    have h := (hK.2 _ _ (htl cy)).2
    have h2 : s.vm.findClass ("[" ++ (newarray.typeOf at_).toString) = some (cy kd) := by cases at_ <;> exact h
    exact Option.some.inj (hNm.symm.trans h2)
  subst hcA
  have hWs : Ws b cy (newA sh kd N) (clr σ sh.1) = Ws b cy sh σ ++ [(b + sh.1, .inl (cy kd, N, cellA b (newA sh kd N) (clr σ sh.1) sh.1))] := by
    refine Ws_push rfl (fun x hx => ?_) ?_
    · have hne : x ≠ sh.1 := by omega
      exact cellE_cg2 (up1_ne hne) (up1_ne hne) (up1_ne hne) (up1_ne hne) (up1_ne hne)
    · have e1 : (newA sh kd N).2.1 sh.1 = kd := up1_eq
      have e2 : (newA sh kd N).2.2 sh.1 = N := up1_eq
      unfold cellE
      rw [e1, e2, if_neg (by omega)]
  have hPn : va_P D vwCl (Ws b cy (newA sh kd N) (clr σ sh.1)) H1 := by
    rw [hWs]
    refine va_P1 hP o1 ?_
    show H1[b + sh.1]? = some (vp_cell _ _)
    rw [hcell, ← hHz]
    exact e1
  have hDn : va_D A (Ws b cy (newA sh kd N) (clr σ sh.1)) := by
    rw [hWs]
    exact hD.push hP hHz.symm (hA _ (by rw [← hHz]; exact hS.1))
  have hg := kk H1 locs ls hl hPn hDn ⟨Nat.le_trans hS.1 (by omega), fun x h1 h2 => (o1 x (Nat.lt_of_lt_of_le h1 hS.1)).trans (hS.2.1 x h1 h2), hS.2.2⟩ (fun _ => by rw [z1, hHz]; rfl)
  rw [hHz]
  exact hg
theorem g_newI {N : Nat} {n : Int32} (O : Ok M cc y0) (R0 : Rm M l0 fr0 lc0 mc0 ms0) (hal : Ma M = true) (d : decode cc pc = .ok (.newarray .int, 2)) (w : Cond.arrayClass .int ∈ tbl) (hn : ¬ n < 0) (hN : n.toNatClampNeg = N) (hby : N * 4 ≤ 536870912) (hc : k + 1 ≤ mc0 ∧ q + N ≤ ms0) (kk : G M (k + 1) (q + N) (pc + 2) lv (vA (some sh.1) :: st) (newA sh 13 N) (clr σ sh.1)) : G M k q pc lv (vI n :: st) sh σ :=
  g_newA (dv := .null) O R0 hal d w rfl (fun _ => rfl) (Or.inl rfl) (fun b cA => by
    have e1 : (newA sh 13 N).2.1 sh.1 = 13 := up1_eq
    unfold cellA
    rw [e1, if_pos (Or.inl rfl)]
    show arrV cA N (fun j => .int (up1 σ.1 sh.1 (fun _ => 0) sh.1 j)) = _
    rw [up1_eq]
    rfl) hn hN hby hc kk
theorem g_newJ {N : Nat} {n : Int32} (O : Ok M cc y0) (R0 : Rm M l0 fr0 lc0 mc0 ms0) (hal : Ma M = true) (d : decode cc pc = .ok (.newarray .long, 2)) (w : Cond.arrayClass .long ∈ tbl) (hn : ¬ n < 0) (hN : n.toNatClampNeg = N) (hby : N * 8 ≤ 536870912) (hc : k + 1 ≤ mc0 ∧ q + N ≤ ms0) (kk : G M (k + 1) (q + N) (pc + 2) lv (vA (some sh.1) :: st) (newA sh 14 N) (clr σ sh.1)) : G M k q pc lv (vI n :: st) sh σ :=
  g_newA (dv := .null) O R0 hal d w rfl (fun _ => rfl) (Or.inr (Or.inl rfl)) (fun b cA => by
    have e1 : (newA sh 14 N).2.1 sh.1 = 14 := up1_eq
    unfold cellA
    rw [e1, if_neg (by omega), if_pos rfl]
    show arrV cA N (fun j => .long (up1 σ.2.1 sh.1 (fun _ => 0) sh.1 j)) = _
    rw [up1_eq]
    rfl) hn hN hby hc kk
theorem g_newZ {N : Nat} {n : Int32} (O : Ok M cc y0) (R0 : Rm M l0 fr0 lc0 mc0 ms0) (hal : Ma M = true) (d : decode cc pc = .ok (.newarray .boolean, 2)) (w : Cond.arrayClass .boolean ∈ tbl) (hn : ¬ n < 0) (hN : n.toNatClampNeg = N) (hby : N * 1 ≤ 536870912) (hc : k + 1 ≤ mc0 ∧ q + N ≤ ms0) (kk : G M (k + 1) (q + N) (pc + 2) lv (vA (some sh.1) :: st) (newA sh 15 N) (clr σ sh.1)) : G M k q pc lv (vI n :: st) sh σ :=
  g_newA (dv := .null) O R0 hal d w rfl (fun _ => rfl) (Or.inr (Or.inr rfl)) (fun b cA => by
    have e1 : (newA sh 15 N).2.1 sh.1 = 15 := up1_eq
    unfold cellA
    rw [e1, if_pos (Or.inr rfl)]
    show arrV cA N (fun j => .int (up1 σ.1 sh.1 (fun _ => 0) sh.1 j)) = _
    rw [up1_eq]
    rfl) hn hN hby hc kk
/-- a heap with one cell more, by what is asked of it -/
theorem hp_push (H : Heap) (x : Cell) : ∃ H1 : Heap, H1 = H.push x ∧ H1.size = H.size + 1 ∧ H1[H.size]? = some x ∧ ∀ q : Nat, q < H.size → H1[q]? = H[q]? :=
  ⟨_, rfl, by simp, by simp, fun q hq => by simp [Array.getElem?_push, Nat.ne_of_lt hq]⟩
theorem g_newR {kd N : Nat} {n : Int32} {C : String} (O : Ok M cc y0) (R0 : Rm M l0 fr0 lc0 mc0 ms0) (hal : Ma M = true) (d : decode cc pc = .ok (.anewarray idx, 3)) (w : Cond.classLink y0.cls idx C ∈ tbl) (hkd : 15 < kd) (htl : ∀ cy, (tyl cy)[kd - 13]? = some (cy kd, .object C)) (hao : ∀ U : State, (va_AO RX4 U ∧ va_AO RX6 U ∧ va_AO RX8 U ∧ va_AO RX9 U ∧ xAOL U) → va_AO C U) (hn : ¬ n < 0) (hN : n.toNatClampNeg = N) (hby : N * 4 ≤ 536870912) (hc : k + 1 ≤ mc0 ∧ q + N ≤ ms0) (kk : G M (k + 1) (q + N) (pc + 3) lv (vA (some sh.1) :: st) (newA sh kd N) (clr σ sh.1)) : G M k q pc lv (vI n :: st) sh σ := by
  obtain ⟨p, l, e, R, s, m, args, below, meth, c, Q, nL, D, b, cy, A, al, ad, dV, lo⟩ := M
  obtain ⟨hx, hb, hml, hown, hts, hK, hA, hX, hAl, hlk, hnm⟩ := O
  obtain ⟨rfl, hfr, hlc, hmc, hms⟩ := R0
  obtain rfl : al = true := hal
  intro H locs ls hl hP hD hS hz
  subst hN
  have hHz : H.size = b + sh.1 := hz rfl
  refine W.anew hx hb hown (hts _ w) (va_AO.use (hao s hX.2.2.2.2)) rfl d rfl hn hby (by rw [hmc]; exact hc.1) (by rw [hms]; exact hc.2) fun cA kA comp f1 _ _ _ => ?_
  rw [arrV_new]
  obtain ⟨H1, hH1, z1, e1, o1⟩ := hp_push H (arrV cA n.toNatClampNeg (fun _ => .null))
  rw [← hH1]
  have hcA : cA = cy kd := by
    obtain ⟨kA2, comp2, g1, g2, g3, g4⟩ := (hK.2 _ _ (htl cy)).2
    exact Option.some.inj (f1.symm.trans g4)
  subst hcA
  have hWs : Ws b cy (newA sh kd n.toNatClampNeg) (clr σ sh.1) = Ws b cy sh σ ++ [(b + sh.1, .inl (cy kd, n.toNatClampNeg, .inr (.inr (.inr (.inr (fun _ => none))))))] := by
    refine Ws_push rfl (fun x hx => ?_) ?_
    · have hne : x ≠ sh.1 := by omega
      exact cellE_cg2 (up1_ne hne) (up1_ne hne) (up1_ne hne) (up1_ne hne) (up1_ne hne)
    · have e2 : (newA sh kd n.toNatClampNeg).2.2 sh.1 = n.toNatClampNeg := up1_eq
      rw [cellE_r (kd := kd) up1_eq hkd, e2]
      show Sum.inl (cy kd, n.toNatClampNeg, Sum.inr (Sum.inr (Sum.inr (Sum.inr (fun i => (up1 σ.2.2 sh.1 (fun _ => none) sh.1 i).map (fun x => b + x)))))) = _
      rw [up1_eq]
      rfl
  have hPn : va_P D vwCl (Ws b cy (newA sh kd n.toNatClampNeg) (clr σ sh.1)) H1 := by
    rw [hWs]
    refine va_P1 hP o1 ?_
    show H1[b + sh.1]? = some (vp_cell _ _)
    rw [← hHz]
    exact e1
  have hDn : va_D A (Ws b cy (newA sh kd n.toNatClampNeg) (clr σ sh.1)) := by
    rw [hWs]
    exact hD.push hP hHz.symm (hA _ (by rw [← hHz]; exact hS.1))
  have hg := kk H1 locs ls hl hPn hDn ⟨Nat.le_trans hS.1 (by omega), fun x h1 h2 => (o1 x (Nat.lt_of_lt_of_le h1 hS.1)).trans (hS.2.1 x h1 h2), hS.2.2⟩ (fun _ => by rw [z1, hHz]; rfl)
  rw [hHz]
  exact hg
theorem g_objInit {r : Option Nat} {a : Nat} (O : Ok M cc y0) (R0 : Rm M l0 fr0 lc0 mc0 ms0) (d : decode cc pc = .ok (.invokespecial idx, 3)) (w1 : Cond.methodLink y0.cls idx Lib.objectInit ∈ tbl) (w2 : Cond.instanceMethod Lib.objectInit ∈ tbl) (w3 : Cond.code Lib.objectInit ⟨#[0xb1]⟩ 1 none ∈ tbl) (hf : 1 ≤ fr0) (hlo : (st.map avc).sum + 12 ≤ lc0) (kk : G M k q (pc + 3) lv st sh σ) : G M k q pc lv (vA (some a) :: st) sh σ := by
  obtain ⟨p, l, e, R, s, m, args, below, meth, c, Q, nL, D, b, cy, A, al, ad, dV, lo⟩ := M
  obtain ⟨hx, hb, hml, hown, hts, hK, hA, hX, hAl, hlk, hnm⟩ := O
  obtain ⟨rfl, hfr, hlc, hmc, hms⟩ := R0
  intro H locs ls hl hP hD hS hz
  refine W.objInit hx hb hown (hts _ w1) (hts _ w2) (hts _ w3) rfl (hl.1.trans hml.symm) (rest := st.map (av b ad)) rfl d (by rw [hfr]; exact hf) ?_ (kk H locs ls hl hP hD hS hz)
  rw [hlc, cat_eq]
  show 2 * 0 + _ + 12 ≤ _
  omega
end ROWS6
