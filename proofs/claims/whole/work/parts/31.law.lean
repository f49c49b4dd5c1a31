/-! ===== the law ===== -/
def R_law : String := "PromiseValleyLaw"
def lw_P (b : Addr) (xs : List Int32) (args : Array Value) (s : State) : Prop := args = #[.ref b] ∧ s.IntsAt b xs ∧ xs.length ≤ 3584 ∧ (Jvm.Cond.and given_1 narrow_1).before args s = true
def lw_Q (_ : Array Value) (s : State) (o : Outcome) (t : State) : Prop := o = .returned (some (.int 1)) ∧ Framed s o t [] 600000 7302250
def lw_Z (below : List Frame) (a : Array Value) (s : State) : State → Prop := fun t => ∃ o, t.status = .running ∧ Ended t below o ∧ lw_Q a s o t
/-- the law's own end, with 1 on the stack, nothing written that was there before, its room as the claim has it -/
theorem lw_ret {p : Program} {l : Launch} {e : Env} {s : State} {m : MethodId} {below : List Frame} {meth : Method} {c : Code} {b : Nat} (hx : p.tables.exec = Jvm.exec) (hb : c.code = code) (hr : meth.sig.returnType = ret) (hlocks : meth.locks = false) {pc : Nat} {H : Heap} {ls : Array Slot} (hdg : decode code pc = .ok (.ireturn, 1)) : W p l e room_1 s m #[Value.ref b] below meth c H [] 600000 7302250 (lw_Z below #[Value.ref b] s) (F0 m pc ls [.int 1]) := by
  intro T hT X
  obtain ⟨fs, hret, hrun, hended, hW, hframe⟩ := X.leave (v := some (.int 1)) (hlocks := hlocks) (fun h => by rw [hr] at h; cases h)
  have hmeth' : T.vm.method? m = some meth := X.method'
  refine ⟨T.setFrames fs, ?_, .returned (some (.int 1)), hrun, hended, rfl, ⟨_, rfl⟩, hW, hframe⟩
  jvm_step X.here [X.here.top, hx, hb, hdg, hmeth', hr, ret, narrow_b1]
  (try refine ⟨rfl, ?_⟩); (try refine ⟨rfl, ?_⟩)
  first | (intro acts; rw [hret _ acts rfl rfl rfl]) | rw [hret _ _ rfl rfl rfl]
  exact Steps.refl _
abbrev Ml : Type := Program × Launch × Env × State × MethodId × List Frame × Method × Code × va_G × (Nat → ClassId) × (Nat → Nat) × Nat × Nat × (Nat → Int32)
def GL (M : Ml) (pc : Nat) (lv : List (Nat × Av)) (st : List Av) (σx σm : Dt) : Prop := match M with
  | (p, l, e, s, m, below, meth, c, D, cy, ad, bs, _, _) => ∀ (H : Heap) (locs : List Loc) (ls : Array Slot), lv_has ls 4 (lvm s.heap.size ad lv) → va_P D vwCl (Ws s.heap.size cy SX σx) H → va_P D vwCl (Ws (s.heap.size + 222) cy SM σm) H → va_S (fun q : Nat => s.heap.size ≤ q) s.heap H locs → W p l e room_1 s m #[Value.ref bs] below meth c H locs 249 79182 (lw_Z below #[Value.ref bs] s) (F0 m pc ls (st.map (av s.heap.size ad)))
def OkL (M : Ml) : Prop := match M with
  | (p, _, _, s, m, _, meth, c, D, cy, ad, bs, L, xs) => p.tables.exec = Jvm.exec ∧ c.code = code ∧ c.maxLocals = 4 ∧ s.vm.findClass RL = some m.cls ∧ (∀ w ∈ tbl, w.before #[Value.ref bs] s = true) ∧ va_K D vwCl (tyl cy) s ∧ Sx ad ad s.heap.size s s.heap ∧ va_X bs L xs s s.heap ∧ bs < s.heap.size ∧ meth.locks = false ∧ meth.sig.returnType = ret ∧ ad 300 = bs
def Mxs (M : Ml) : Nat → Int32 := match M with
  | (_, _, _, _, _, _, _, _, _, _, _, _, _, xs) => xs
def ML (M : Ml) : Nat := match M with
  | (_, _, _, _, _, _, _, _, _, _, _, _, L, _) => L
theorem lcmp_self (r : Int64) : lg_cmp r r = 0 := by
  unfold lg_cmp
  simp
theorem WsD {b lo : Nat} {cy : Nat → ClassId} {sh : Sh} {σ : Dt} (h : lo ≤ b) : va_D (fun q : Nat => lo ≤ q) (Ws b cy sh σ) := by
  refine ⟨fun i j x y hi hj hxy => ?_, fun k x hk => ?_⟩
  · obtain ⟨-, rfl⟩ := Ws_get2 hi
    obtain ⟨-, rfl⟩ := Ws_get2 hj
    have : b + i = b + j := hxy
    omega
  · obtain ⟨-, rfl⟩ := Ws_get2 hk
    show lo ≤ b + k
    omega
/-- what was kept up to here, and over a call that touches less, is kept -/
theorem S_more {A B : Nat → Prop} {H0 H H1 : Heap} {l1 l2 : List Loc} (hS : va_S A H0 H l1) (hF : ∀ x, B x → A x) (hz : H.size ≤ H1.size) (hk : ∀ x : Nat, x < H.size → ¬ B x → H1[x]? = H[x]?) (hL : ∀ x ∈ l2, B x.base) : va_S A H0 H1 (l1 ++ l2) := by
  obtain ⟨s1, s2, s3⟩ := hS
  refine ⟨Nat.le_trans s1 hz, ?_, ?_⟩
  · intro x hx hn
    have hn2 : ¬ B x := fun y => hn (hF x y)
    exact (hk x (Nat.lt_of_lt_of_le hx s1) hn2).trans (s2 x hx hn)
  · intro x hx
    exact (List.mem_append.mp hx).elim (s3 x) (fun y => hF _ (hL x y))
section RUN2
variable {p : Program} {l : Launch} {e : Env} {R : Room} {s : State} {m : MethodId} {args : Array Value} {below : List Frame} {meth : Method} {c : Code} {H : Heap} {locs : List Loc} {k q : Nat} {Q : State → Prop}
theorem run_on2 {D : va_G} {b b0 : Nat} {cy : Nat → ClassId} {al : Bool} {ad : Nat → Nat} {A : Nat → Prop} {sh sh' : Sh} {σ σ' : Dt} {rv : Option Av} {mc ms pc : Nat} {ls : Array Slot} {st0 : List Value} {st : List Av} {a : Array Value}
    (hr : va_Run p l e R s m args below meth c H locs k q mc ms (F0 m pc ls st0) (st.map (av b0 ad)) (Qx D b cy al ad (va_A (Ws b cy sh σ) H.size) sh' σ' rv a) (va_A (Ws b cy sh σ) H.size)) (hrv : rv.map (av b ad) = rv.map (av b0 ad)) (hA : ∀ q : Nat, s.heap.size ≤ q → A q) (hD : va_D A (Ws b cy sh σ)) (hS : va_S A s.heap H locs)
    (kk : ∀ (H1 : Heap) (locs1 : List Loc), va_P D vwCl (Ws b cy sh' σ') H1 → (∀ q : Nat, q < H.size → ¬ va_A (Ws b cy sh σ) H.size q → H1[q]? = H[q]?) → va_S A s.heap H1 locs1 → (al = true → H1.size = b + sh'.1) → W p l e R s m args below meth c H1 locs1 (k + mc) (q + ms) Q (F0 m (pc + 3) ls ((rv.toList ++ st).map (av b0 ad)))) : W p l e R s m args below meth c H locs k q Q (F0 m pc ls st0) := by
  have hF : ∀ q, va_A (Ws b cy sh σ) H.size q → A q := by
    intro q h
    rcases h with ⟨j, e', h⟩ | h
    · exact hD.2 j (q, e') h
    · exact hA q (Nat.le_trans hS.1 h)
  intro T hT X
  obtain ⟨v, st₀, t, T', L, h0, X', hL, e1, e2, ⟨⟨hv, hP1, hD1, hz1⟩, hz, hk⟩, stp⟩ := hr T hT X
  have hv' : v = rv.map (av b0 ad) := by rw [← hrv]; cases hv; rfl
  subst hv'
  rw [h0] at hz hk
  rw [← e1] at hP1 hz hk hz1
  obtain ⟨t2, a1, b1⟩ := kk T'.heap (locs ++ L) hP1 hk (S_more hS hF hz hk hL) hz1 T' rfl X'
  refine ⟨t2, stp t2 ?_, b1⟩
  cases rv with
  | none => exact a1
  | some x => exact a1
theorem Pcx_pre2 {D : va_G} {b : Nat} {cy : Nat → ClassId} {al : Bool} {ad dV : Nat → Nat} {lo : Nat} {sh : Sh} {σ : Dt} {as : List Av} (hK : va_K D vwCl (tyl cy) s) (hX : Sx ad dV lo s s.heap) (hlo : lo ≤ s.heap.size) (hlb : lo ≤ b) (hP : va_P D vwCl (Ws b cy sh σ) H) (hS : va_S (fun q : Nat => lo ≤ q) s.heap H locs) (hz : al = true → H.size = b + sh.1) : ∀ U : State, U.heap = H → s.WarmedH U.vm → Pcx D b cy al H.size ad dV lo sh σ as (as.map (av b ad)).toArray U := by
  intro U hU hW
  refine ⟨rfl, by rw [hU], hz, by rw [hU]; exact hP, va_K.moved hW.alike hK, WsD hlb, ?_, ?_⟩
  · rw [hU]
    exact hX.go hW.alike (fun _ _ _ _ h => vk_R.warm hW h) (fun a h1 h2 => hS.2.1 a h1 h2)
  · rw [hU]
    exact Nat.le_trans hlo hS.1
end RUN2
theorem Ws_lt {D : va_G} {b : Nat} {cy : Nat → ClassId} {sh : Sh} {σ : Dt} {H : Heap} (hP : va_P D vwCl (Ws b cy sh σ) H) {k : Nat} (hk : k < sh.1) : b + k < H.size := (hP k _ (Ws_get hk)).lt
/-- the other world stays -/
theorem Ws_kept {D : va_G} {b b2 : Nat} {cy : Nat → ClassId} {sh sh2 : Sh} {σ σ2 : Dt} {H H1 : Heap} (hP : va_P D vwCl (Ws b2 cy sh2 σ2) H) (hk : ∀ q : Nat, q < H.size → ¬ va_A (Ws b cy sh σ) H.size q → H1[q]? = H[q]?) (hd : ∀ i j, i < sh.1 → j < sh2.1 → b + i ≠ b2 + j) : va_P D vwCl (Ws b2 cy sh2 σ2) H1 := by
  refine hP.kept (fun k x hx => ?_)
  have hlt := (hP k x hx).lt
  obtain ⟨hk2, rfl⟩ := Ws_get2 hx
  refine hk _ hlt (fun h => ?_)
  rcases h with ⟨j, e, h⟩ | h
  · obtain ⟨hj, he⟩ := Ws_get2 h
    exact hd j k hj hk2 (Prod.mk.inj he).1.symm
  · have : H.size ≤ b2 + k := h
    have : b2 + k < H.size := hlt
    omega
section LROWS
variable {M : Ml} {pc : Nat} {lv lv' : List (Nat × Av)} {st : List Av} {σx σm : Dt}
theorem q_iconst {n : Int} {v : Int32} (O : OkL M) (d : decode code pc = .ok (.iconst n, 1)) (hv : Int32.ofInt n = v) (kk : GL M (pc + 1) lv (vI v :: st) σx σm) : GL M pc lv (st) σx σm := by
  obtain ⟨p, l, e, s, m, below, meth, c, D, cy, ad, bs, L, xs⟩ := M
  obtain ⟨hx, hb, hml, hown, hts, hK, hX, hXs, hbs, hlk, hr, had⟩ := O
  exact fun H locs ls hl hP hP2 hS => lv_iconst hx hb d hv (kk H locs ls hl hP hP2 hS)
theorem q_bipush {n : Int} {v : Int32} (O : OkL M) (d : decode code pc = .ok (.bipush n, 2)) (hv : (Int8.ofInt n).toInt32 = v) (kk : GL M (pc + 2) lv (vI v :: st) σx σm) : GL M pc lv (st) σx σm := by
  obtain ⟨p, l, e, s, m, below, meth, c, D, cy, ad, bs, L, xs⟩ := M
  obtain ⟨hx, hb, hml, hown, hts, hK, hX, hXs, hbs, hlk, hr, had⟩ := O
  exact fun H locs ls hl hP hP2 hS => lv_bipush hx hb d hv (kk H locs ls hl hP hP2 hS)
theorem q_iload_n {a : Fin 4} {i : Nat} {x : Int32} (O : OkL M) (d : decode code pc = .ok (.iload_n a, 1)) (hi : (a : Nat) = i) (j : Nat) (hj : lv[j]? = some (i, vI x)) (kk : GL M (pc + 1) lv (vI x :: st) σx σm) : GL M pc lv (st) σx σm := by
  obtain ⟨p, l, e, s, m, below, meth, c, D, cy, ad, bs, L, xs⟩ := M
  obtain ⟨hx, hb, hml, hown, hts, hK, hX, hXs, hbs, hlk, hr, had⟩ := O
  exact fun H locs ls hl hP hP2 hS => lv_iload_n hx hb d hi (lvm_at hl j hj) (kk H locs ls hl hP hP2 hS)
theorem q_aload_n {a : Fin 4} {i x : Nat} (O : OkL M) (d : decode code pc = .ok (.aload_n a, 1)) (hi : (a : Nat) = i) (j : Nat) (hj : lv[j]? = some (i, vA (some x))) (kk : GL M (pc + 1) lv (vA (some x) :: st) σx σm) : GL M pc lv (st) σx σm := by
  obtain ⟨p, l, e, s, m, below, meth, c, D, cy, ad, bs, L, xs⟩ := M
  obtain ⟨hx, hb, hml, hown, hts, hK, hX, hXs, hbs, hlk, hr, had⟩ := O
  exact fun H locs ls hl hP hP2 hS => lv_aload_n hx hb d hi (lvm_at hl j hj) (kk H locs ls hl hP hP2 hS)
theorem q_tload_n {a : Fin 4} {i x : Nat} (O : OkL M) (d : decode code pc = .ok (.aload_n a, 1)) (hi : (a : Nat) = i) (j : Nat) (hj : lv[j]? = some (i, vT x)) (kk : GL M (pc + 1) lv (vT x :: st) σx σm) : GL M pc lv (st) σx σm := by
  obtain ⟨p, l, e, s, m, below, meth, c, D, cy, ad, bs, L, xs⟩ := M
  obtain ⟨hx, hb, hml, hown, hts, hK, hX, hXs, hbs, hlk, hr, had⟩ := O
  exact fun H locs ls hl hP hP2 hS => lv_aload_n hx hb d hi (lvm_at hl j hj) (kk H locs ls hl hP hP2 hS)
theorem q_iadd {x y : Int32} (O : OkL M) (d : decode code pc = .ok (.iadd, 1)) (kk : GL M (pc + 1) lv (vI (x + y) :: st) σx σm) : GL M pc lv (vI y :: vI x :: st) σx σm := by
  obtain ⟨p, l, e, s, m, below, meth, c, D, cy, ad, bs, L, xs⟩ := M
  obtain ⟨hx, hb, hml, hown, hts, hK, hX, hXs, hbs, hlk, hr, had⟩ := O
  exact fun H locs ls hl hP hP2 hS => lv_iadd hx hb d (kk H locs ls hl hP hP2 hS)
theorem q_isub {x y : Int32} (O : OkL M) (d : decode code pc = .ok (.isub, 1)) (kk : GL M (pc + 1) lv (vI (x - y) :: st) σx σm) : GL M pc lv (vI y :: vI x :: st) σx σm := by
  obtain ⟨p, l, e, s, m, below, meth, c, D, cy, ad, bs, L, xs⟩ := M
  obtain ⟨hx, hb, hml, hown, hts, hK, hX, hXs, hbs, hlk, hr, had⟩ := O
  exact fun H locs ls hl hP hP2 hS => lv_isub hx hb d (kk H locs ls hl hP hP2 hS)
theorem q_iand {x y : Int32} (O : OkL M) (d : decode code pc = .ok (.iand, 1)) (kk : GL M (pc + 1) lv (vI (x &&& y) :: st) σx σm) : GL M pc lv (vI y :: vI x :: st) σx σm := by
  obtain ⟨p, l, e, s, m, below, meth, c, D, cy, ad, bs, L, xs⟩ := M
  obtain ⟨hx, hb, hml, hown, hts, hK, hX, hXs, hbs, hlk, hr, had⟩ := O
  exact fun H locs ls hl hP hP2 hS => lv_iand hx hb d (kk H locs ls hl hP hP2 hS)
theorem q_lcmp {x y : Int64} (O : OkL M) (d : decode code pc = .ok (.lcmp, 1)) (kk : GL M (pc + 1) lv (vI (lg_cmp x y) :: st) σx σm) : GL M pc lv (vJ y :: vJ x :: st) σx σm := by
  obtain ⟨p, l, e, s, m, below, meth, c, D, cy, ad, bs, L, xs⟩ := M
  obtain ⟨hx, hb, hml, hown, hts, hK, hX, hXs, hbs, hlk, hr, had⟩ := O
  exact fun H locs ls hl hP hP2 hS => W.lcmp hx hb d (kk H locs ls hl hP hP2 hS)
theorem q_goto {off : Int} {tgt : Nat} (O : OkL M) (d : decode code pc = .ok (.goto off, 3)) (ht : (pc : Int) + off = (tgt : Int)) (kk : GL M tgt lv st σx σm) : GL M pc lv (st) σx σm := by
  obtain ⟨p, l, e, s, m, below, meth, c, D, cy, ad, bs, L, xs⟩ := M
  obtain ⟨hx, hb, hml, hown, hts, hK, hX, hXs, hbs, hlk, hr, had⟩ := O
  exact fun H locs ls hl hP hP2 hS => lv_goto hx hb d ht (kk H locs ls hl hP hP2 hS)
theorem q_if_eq {x : Int32} {off : Int} {tgt : Nat} (O : OkL M) (d : decode code pc = .ok (.ifCond .eq off, 3)) (ht : (pc : Int) + off = (tgt : Int)) (kt : x = 0 → GL M tgt lv st σx σm) (kf : ¬ x = 0 → GL M (pc + 3) lv st σx σm) : GL M pc lv (vI x :: st) σx σm := by
  obtain ⟨p, l, e, s, m, below, meth, c, D, cy, ad, bs, L, xs⟩ := M
  obtain ⟨hx, hb, hml, hown, hts, hK, hX, hXs, hbs, hlk, hr, had⟩ := O
  exact fun H locs ls hl hP hP2 hS => lv_if_eq hx hb d ht (fun h => kt h H locs ls hl hP hP2 hS) (fun h => kf h H locs ls hl hP hP2 hS)
theorem q_icmp_eq {x y : Int32} {off : Int} {tgt : Nat} (O : OkL M) (d : decode code pc = .ok (.if_icmp .eq off, 3)) (ht : (pc : Int) + off = (tgt : Int)) (kt : x = y → GL M tgt lv st σx σm) (kf : ¬ x = y → GL M (pc + 3) lv st σx σm) : GL M pc lv (vI y :: vI x :: st) σx σm := by
  obtain ⟨p, l, e, s, m, below, meth, c, D, cy, ad, bs, L, xs⟩ := M
  obtain ⟨hx, hb, hml, hown, hts, hK, hX, hXs, hbs, hlk, hr, had⟩ := O
  exact fun H locs ls hl hP hP2 hS => lv_icmp_eq hx hb d ht (fun h => kt h H locs ls hl hP hP2 hS) (fun h => kf h H locs ls hl hP hP2 hS)
theorem q_icmp_gt {x y : Int32} {off : Int} {tgt : Nat} (O : OkL M) (d : decode code pc = .ok (.if_icmp .gt off, 3)) (ht : (pc : Int) + off = (tgt : Int)) (kt : y < x → GL M tgt lv st σx σm) (kf : ¬ y < x → GL M (pc + 3) lv st σx σm) : GL M pc lv (vI y :: vI x :: st) σx σm := by
  obtain ⟨p, l, e, s, m, below, meth, c, D, cy, ad, bs, L, xs⟩ := M
  obtain ⟨hx, hb, hml, hown, hts, hK, hX, hXs, hbs, hlk, hr, had⟩ := O
  exact fun H locs ls hl hP hP2 hS => lv_icmp_gt hx hb d ht (fun h => kt h H locs ls hl hP hP2 hS) (fun h => kf h H locs ls hl hP hP2 hS)
theorem q_tabIn {dflt lo hi : Int} {offs : Array Int} {len : Nat} {x : Int32} {off : Int} {tgt : Nat} (O : OkL M) (d : decode code pc = .ok (.tableswitch dflt lo hi offs, len)) (h1 : ¬ x.toInt < lo) (h2 : ¬ hi < x.toInt) (ho : offs[(x.toInt - lo).toNat]? = some off) (ht : (pc : Int) + off = (tgt : Int)) (kk : GL M tgt lv st σx σm) : GL M pc lv (vI x :: st) σx σm := by
  obtain ⟨p, l, e, s, m, below, meth, c, D, cy, ad, bs, L, xs⟩ := M
  obtain ⟨hx, hb, hml, hown, hts, hK, hX, hXs, hbs, hlk, hr, had⟩ := O
  exact fun H locs ls hl hP hP2 hS => lv_tableIn hx hb d h1 h2 ho ht (kk H locs ls hl hP hP2 hS)
theorem q_tabOut {dflt lo hi : Int} {offs : Array Int} {len : Nat} {x : Int32} {tgt : Nat} (O : OkL M) (d : decode code pc = .ok (.tableswitch dflt lo hi offs, len)) (h : x.toInt < lo ∨ hi < x.toInt) (ht : (pc : Int) + dflt = (tgt : Int)) (kk : GL M tgt lv st σx σm) : GL M pc lv (vI x :: st) σx σm := by
  obtain ⟨p, l, e, s, m, below, meth, c, D, cy, ad, bs, L, xs⟩ := M
  obtain ⟨hx, hb, hml, hown, hts, hK, hX, hXs, hbs, hlk, hr, had⟩ := O
  exact fun H locs ls hl hP hP2 hS => lv_tableOut hx hb d h ht (kk H locs ls hl hP hP2 hS)
theorem q_sub (js : List Nat) (hl : js.filterMap (fun j => lv[j]?) = lv') (kk : GL M pc lv' st σx σm) : GL M pc lv st σx σm := by
  obtain ⟨p, l, e, s, m, below, meth, c, D, cy, ad, bs, L, xs⟩ := M
  intro H locs ls h
  refine kk H locs ls ⟨h.1, h.2.1, fun t ht => ?_⟩
  subst hl
  obtain ⟨t0, ht0, rfl⟩ := List.mem_map.mp ht
  obtain ⟨j, -, hj⟩ := List.mem_filterMap.mp ht0
  exact h.2.2 _ (List.mem_map.mpr ⟨t0, List.mem_of_getElem? hj, rfl⟩)
theorem q_istore_n {a : Fin 4} {i : Nat} {x : Int32} (O : OkL M) (d : decode code pc = .ok (.istore_n a, 1)) (hi : (a : Nat) = i) (hi2 : i < 4) (hl' : ls1 i (vI x) lv = lv') (kk : GL M (pc + 1) lv' st σx σm) : GL M pc lv (vI x :: st) σx σm := by
  obtain ⟨p, l, e, s, m, below, meth, c, D, cy, ad, bs, L, xs⟩ := M
  obtain ⟨hx, hb, hml, hown, hts, hK, hX, hXs, hbs, hlk, hr, had⟩ := O
  subst hl'
  exact fun H locs ls hl hP hP2 hS => lv_istore_n hx hb d hi hl hi2 (ls1_eq s.heap.size ad i (vI x) lv) (fun ls2 hl2 => kk H locs ls2 hl2 hP hP2 hS)
theorem q_iinc {i : Nat} {n : Int} {x v : Int32} (O : OkL M) (d : decode code pc = .ok (.iinc i n, 3)) (hi2 : i < 4) (j : Nat) (hj : lv[j]? = some (i, vI x)) (hv : x + Int32.ofInt n = v) (hl' : ls1 i (vI v) lv = lv') (kk : GL M (pc + 3) lv' st σx σm) : GL M pc lv st σx σm := by
  obtain ⟨p, l, e, s, m, below, meth, c, D, cy, ad, bs, L, xs⟩ := M
  obtain ⟨hx, hb, hml, hown, hts, hK, hX, hXs, hbs, hlk, hr, had⟩ := O
  subst hl'
  exact fun H locs ls hl hP hP2 hS => lv_iinc hx hb d hl (k := j) (by unfold lvm; rw [List.getElem?_map, hj]; rfl) hv hi2 (ls1_eq s.heap.size ad i (vI v) lv) (fun ls2 hl2 => kk H locs ls2 hl2 hP hP2 hS)
theorem q_sld {i : Int32} (O : OkL M) (d : decode code pc = .ok (.iaload, 1)) (hin : vp_in i (ML M)) (kk : GL M (pc + 1) lv (vI (Mxs M i.toNatClampNeg) :: st) σx σm) : GL M pc lv (vI i :: vT 300 :: st) σx σm := by
  obtain ⟨p, l, e, s, m, below, meth, c, D, cy, ad, bs, L, xs⟩ := M
  obtain ⟨hx, hb, hml, hown, hts, hK, hX, hXs, hbs, hlk, hr, had⟩ := O
  intro H locs ls hl hP hP2 hS
  have hk := kk H locs ls hl hP hP2 hS
  show W p l e room_1 s m #[Value.ref bs] below meth c H locs 249 79182 _ (F0 m pc ls (.int i :: .ref (ad 300) :: st.map (av s.heap.size ad)))
  rw [had]
  exact va_sld hx hb hXs hbs (Nat.not_le.mpr hbs) hS hin d hk
theorem q_slen (O : OkL M) (d : decode code pc = .ok (.arraylength, 1)) (kk : GL M (pc + 1) lv (vI (Int32.ofNat (ML M)) :: st) σx σm) : GL M pc lv (vT 300 :: st) σx σm := by
  obtain ⟨p, l, e, s, m, below, meth, c, D, cy, ad, bs, L, xs⟩ := M
  obtain ⟨hx, hb, hml, hown, hts, hK, hX, hXs, hbs, hlk, hr, had⟩ := O
  intro H locs ls hl hP hP2 hS
  have hk := kk H locs ls hl hP hP2 hS
  show W p l e room_1 s m #[Value.ref bs] below meth c H locs 249 79182 _ (F0 m pc ls (.ref (ad 300) :: st.map (av s.heap.size ad)))
  rw [had]
  exact va_slen hx hb hXs hbs (Nat.not_le.mpr hbs) hS d hk
theorem q_ret (O : OkL M) (d : decode code pc = .ok (.ireturn, 1)) : GL M pc lv [vI 1] σx σm := by
  obtain ⟨p, l, e, s, m, below, meth, c, D, cy, ad, bs, L, xs⟩ := M
  obtain ⟨hx, hb, hml, hown, hts, hK, hX, hXs, hbs, hlk, hr, had⟩ := O
  intro H locs ls hl hP hP2 hS
  refine va_forget (fun q hq => hS.2.2 q hq) ?_
  refine W.widen (Nat.le_of_ble_eq_true rfl : 249 ≤ 600000) (Nat.le_of_ble_eq_true rfl : 79182 ≤ 7302250) ?_
  exact lw_ret hx hb hr hlk d
theorem q_callX {idx n fr lc mL : Nat} {y : MethodName} {cc1 : ByteArray} {ret' : Option FieldType} {rv : Av} {stk : List Av} {σx' : Dt} (O : OkL M) (d : decode code pc = .ok (.invokevirtual idx, 3)) (V : VL RL idx y cc1 mL ret' n) (V2 : VV y 11) (as : List Av) (hn : as.length = n) (hst : stk = as.reverse ++ vA (some 0) :: st) (hw : Nat.ble (st.map avc).sum 8 = true) (hR : fr + 1 ≤ 2048 ∧ 8 + (mL + 11) + lc ≤ 84000) (C : ∀ l, Ctr l y cc1 mL ret' false fr lc 0 0 (vA (some 0) :: as) SX σx SX σx' (some rv)) (kk : GL M (pc + 3) lv (rv :: st) σx' σm) : GL M pc lv stk σx σm := by
  obtain ⟨p, l, e, s, m, below, meth, c, D, cy, ad, bs, L, xs⟩ := M
  obtain ⟨hx, hb, hml, hown, hts, hK, hX, hXs, hbs, hlk, hr, had⟩ := O
  obtain ⟨v1, v2, h13, T, N, hcl⟩ := V2
  intro H locs ls hl hP hP2 hS
  refine run_on2 (va_runV (C := y.cls) (b := s.heap.size + 0) (As := as.map (av s.heap.size ad)) (rest := st.map (av s.heap.size ad)) (g := F0 m pc ls (stk.map (av s.heap.size ad))) (bytes := cc1) (maxL := mL) (ret := ret') (n := n) (index := idx) ⟨hx, hb, hml, hown, hts⟩ (C l D s.heap.size cy H.size ad ad s.heap.size) ⟨callB_of n hts (goodIn_tbl V.2.1) rfl rfl rfl (hts _ V.2.2.1) (hts _ V.1) V.2.2.2 hR, hts _ v1, hts _ v2⟩ ⟨Pcx_blind, va_recv hK hP hcl (q0 := 0) (Ws_get (show (0 : Nat) < 222 by omega)), Pcx_pre2 (as := vA (some 0) :: as) hK hX (Nat.le_refl _) (Nat.le_refl _) hP hS (fun h => by cases h)⟩ rfl (by rw [List.length_map]; exact hn) hl.1 ?_ (lv_room (by rw [cat_eq]; exact Nat.le_of_ble_eq_true hw)) d ⟨Nat.le_of_ble_eq_true rfl, Nat.le_of_ble_eq_true rfl⟩) rfl (fun _ h => h) (WsD (Nat.le_refl _)) hS (fun H1 locs1 hP1 hk1 hS1 _ => kk H1 locs1 ls hl hP1 (Ws_kept hP2 hk1 (fun i j hi hj => by have : i < 222 := hi; omega)) hS1)
  show stk.map (av s.heap.size ad) = _
  rw [hst, List.map_append, List.map_reverse, List.map_cons]
  rfl
theorem q_callM {idx n fr lc mL : Nat} {y : MethodName} {cc1 : ByteArray} {ret' : Option FieldType} {rv : Av} {stk : List Av} {σm' : Dt} (O : OkL M) (d : decode code pc = .ok (.invokevirtual idx, 3)) (V : VL RL idx y cc1 mL ret' n) (V2 : VV y 12) (xs' : List Int32) (hn : xs'.length = n) (hst : stk = (xs'.map vI).reverse ++ vA (some 222) :: st) (hw : Nat.ble (st.map avc).sum 8 = true) (hR : fr + 1 ≤ 2048 ∧ 8 + (mL + 11) + lc ≤ 84000) (hrv : ∀ b b2 ad, av b ad rv = av b2 ad rv) (C : ∀ l, Ctr l y cc1 mL ret' false fr lc 0 0 (vA (some 0) :: xs'.map vI) SM σm SM σm' (some rv)) (kk : GL M (pc + 3) lv (rv :: st) σx σm') : GL M pc lv stk σx σm := by
  obtain ⟨p, l, e, s, m, below, meth, c, D, cy, ad, bs, L, xs⟩ := M
  obtain ⟨hx, hb, hml, hown, hts, hK, hX, hXs, hbs, hlk, hr, had⟩ := O
  obtain ⟨v1, v2, h13, T, N, hcl⟩ := V2
  intro H locs ls hl hP hP2 hS
  have hav : ∀ b, (xs'.map vI).map (av b ad) = xs'.map (fun x => Value.int x) := fun b => by rw [List.map_map]; rfl
  refine run_on2 (b0 := s.heap.size) (va_runV (C := y.cls) (b := s.heap.size + 222 + 0) (As := (xs'.map vI).map (av (s.heap.size + 222) ad)) (rest := st.map (av s.heap.size ad)) (g := F0 m pc ls (stk.map (av s.heap.size ad))) (bytes := cc1) (maxL := mL) (ret := ret') (n := n) (index := idx) ⟨hx, hb, hml, hown, hts⟩ (C l D (s.heap.size + 222) cy H.size ad ad s.heap.size) ⟨callB_of n hts (goodIn_tbl V.2.1) rfl rfl rfl (hts _ V.2.2.1) (hts _ V.1) V.2.2.2 hR, hts _ v1, hts _ v2⟩ ⟨Pcx_blind, va_recv hK hP2 hcl (q0 := 0) (Ws_get (show (0 : Nat) < 27 by omega)), Pcx_pre2 (as := vA (some 0) :: xs'.map vI) hK hX (Nat.le_refl _) (Nat.le_add_right _ _) hP2 hS (fun h => by cases h)⟩ rfl (by rw [List.length_map, List.length_map]; exact hn) hl.1 ?_ (lv_room (by rw [cat_eq]; exact Nat.le_of_ble_eq_true hw)) d ⟨Nat.le_of_ble_eq_true rfl, Nat.le_of_ble_eq_true rfl⟩) (congrArg some (hrv _ _ ad)) (fun _ h => h) (WsD (Nat.le_add_right _ _)) hS (fun H1 locs1 hP1 hk1 hS1 _ => kk H1 locs1 ls hl (Ws_kept hP hk1 (fun i j hi hj => by have : j < 222 := hj; omega)) hP1 hS1)
  show stk.map (av s.heap.size ad) = _
  rw [hst, List.map_append, List.map_reverse, List.map_cons, hav, hav]
  rfl
end LROWS
theorem w651 : Cond.methodLink RL 13 yX11_feed ∈ tbl := mt 651 (by decide +kernel) (by decide +kernel)
theorem w652 : Cond.instanceMethod yX11_feed ∈ tbl := mt 652 (by decide +kernel) (by decide +kernel)
theorem w653 : Cond.selects RX11 yX11_feed yX11_feed ∈ tbl := mt 653 (by decide +kernel) (by decide +kernel)
theorem w654 : Cond.code yX11_feed cX11_feed 6 (some .int) ∈ tbl := mt 654 (by decide +kernel) (by decide +kernel)
theorem w659 : Cond.methodLink RL 18 yX11_end ∈ tbl := mt 659 (by decide +kernel) (by decide +kernel)
theorem w660 : Cond.instanceMethod yX11_end ∈ tbl := mt 660 (by decide +kernel) (by decide +kernel)
theorem w661 : Cond.selects RX11 yX11_end yX11_end ∈ tbl := mt 661 (by decide +kernel) (by decide +kernel)
theorem w662 : Cond.code yX11_end cX11_end 2 (some .int) ∈ tbl := mt 662 (by decide +kernel) (by decide +kernel)
theorem w663 : Cond.methodLink RL 23 yX11_text ∈ tbl := mt 663 (by decide +kernel) (by decide +kernel)
theorem w664 : Cond.instanceMethod yX11_text ∈ tbl := mt 664 (by decide +kernel) (by decide +kernel)
theorem w665 : Cond.selects RX11 yX11_text yX11_text ∈ tbl := mt 665 (by decide +kernel) (by decide +kernel)
theorem w666 : Cond.code yX11_text cX11_text 7 (some .int) ∈ tbl := mt 666 (by decide +kernel) (by decide +kernel)
theorem w862 : Cond.methodLink RL 28 yX11_fault ∈ tbl := mt 862 (by decide +kernel) (by decide +kernel)
theorem w863 : Cond.instanceMethod yX11_fault ∈ tbl := mt 863 (by decide +kernel) (by decide +kernel)
theorem w864 : Cond.selects RX11 yX11_fault yX11_fault ∈ tbl := mt 864 (by decide +kernel) (by decide +kernel)
theorem w865 : Cond.code yX11_fault cX11_fault 2 (some .int) ∈ tbl := mt 865 (by decide +kernel) (by decide +kernel)
theorem w866 : Cond.methodLink RL 32 yX11_valley ∈ tbl := mt 866 (by decide +kernel) (by decide +kernel)
theorem w867 : Cond.instanceMethod yX11_valley ∈ tbl := mt 867 (by decide +kernel) (by decide +kernel)
theorem w868 : Cond.selects RX11 yX11_valley yX11_valley ∈ tbl := mt 868 (by decide +kernel) (by decide +kernel)
theorem w869 : Cond.code yX11_valley cX11_valley 4 (some .int) ∈ tbl := mt 869 (by decide +kernel) (by decide +kernel)
theorem w891 : Cond.methodLink RL 36 yX11_deed ∈ tbl := mt 891 (by decide +kernel) (by decide +kernel)
theorem w892 : Cond.instanceMethod yX11_deed ∈ tbl := mt 892 (by decide +kernel) (by decide +kernel)
theorem w893 : Cond.selects RX11 yX11_deed yX11_deed ∈ tbl := mt 893 (by decide +kernel) (by decide +kernel)
theorem w894 : Cond.code yX11_deed cX11_deed 5 (some .int) ∈ tbl := mt 894 (by decide +kernel) (by decide +kernel)
theorem w907 : Cond.methodLink RL 41 yX11_stop ∈ tbl := mt 907 (by decide +kernel) (by decide +kernel)
theorem w908 : Cond.instanceMethod yX11_stop ∈ tbl := mt 908 (by decide +kernel) (by decide +kernel)
theorem w909 : Cond.selects RX11 yX11_stop yX11_stop ∈ tbl := mt 909 (by decide +kernel) (by decide +kernel)
theorem w910 : Cond.code yX11_stop cX11_stop 5 (some .int) ∈ tbl := mt 910 (by decide +kernel) (by decide +kernel)
theorem w986 : Cond.methodLink RL 45 yX11_state ∈ tbl := mt 986 (by decide +kernel) (by decide +kernel)
theorem w987 : Cond.instanceMethod yX11_state ∈ tbl := mt 987 (by decide +kernel) (by decide +kernel)
theorem w988 : Cond.selects RX11 yX11_state yX11_state ∈ tbl := mt 988 (by decide +kernel) (by decide +kernel)
theorem w989 : Cond.code yX11_state cX11_state 7 (some .int) ∈ tbl := mt 989 (by decide +kernel) (by decide +kernel)
theorem w1006 : Cond.methodLink RL 50 yX11_keep ∈ tbl := mt 1006 (by decide +kernel) (by decide +kernel)
theorem w1007 : Cond.instanceMethod yX11_keep ∈ tbl := mt 1007 (by decide +kernel) (by decide +kernel)
theorem w1008 : Cond.selects RX11 yX11_keep yX11_keep ∈ tbl := mt 1008 (by decide +kernel) (by decide +kernel)
theorem w1009 : Cond.code yX11_keep cX11_keep 6 (some .int) ∈ tbl := mt 1009 (by decide +kernel) (by decide +kernel)
theorem w1022 : Cond.methodLink RL 54 yX11_say ∈ tbl := mt 1022 (by decide +kernel) (by decide +kernel)
theorem w1023 : Cond.instanceMethod yX11_say ∈ tbl := mt 1023 (by decide +kernel) (by decide +kernel)
theorem w1024 : Cond.selects RX11 yX11_say yX11_say ∈ tbl := mt 1024 (by decide +kernel) (by decide +kernel)
theorem w1025 : Cond.code yX11_say cX11_say 6 (some .int) ∈ tbl := mt 1025 (by decide +kernel) (by decide +kernel)
theorem w1053 : Cond.methodLink RL 58 yX11_dare ∈ tbl := mt 1053 (by decide +kernel) (by decide +kernel)
theorem w1054 : Cond.instanceMethod yX11_dare ∈ tbl := mt 1054 (by decide +kernel) (by decide +kernel)
theorem w1055 : Cond.selects RX11 yX11_dare yX11_dare ∈ tbl := mt 1055 (by decide +kernel) (by decide +kernel)
theorem w1056 : Cond.code yX11_dare cX11_dare 5 (some .int) ∈ tbl := mt 1056 (by decide +kernel) (by decide +kernel)
theorem w1070 : Cond.methodLink RL 63 yX11_plan ∈ tbl := mt 1070 (by decide +kernel) (by decide +kernel)
theorem w1071 : Cond.instanceMethod yX11_plan ∈ tbl := mt 1071 (by decide +kernel) (by decide +kernel)
theorem w1072 : Cond.selects RX11 yX11_plan yX11_plan ∈ tbl := mt 1072 (by decide +kernel) (by decide +kernel)
theorem w1073 : Cond.code yX11_plan cX11_plan 5 (some .int) ∈ tbl := mt 1073 (by decide +kernel) (by decide +kernel)
theorem w1112 : Cond.methodLink RL 67 yX11_odds ∈ tbl := mt 1112 (by decide +kernel) (by decide +kernel)
theorem w1113 : Cond.instanceMethod yX11_odds ∈ tbl := mt 1113 (by decide +kernel) (by decide +kernel)
theorem w1114 : Cond.selects RX11 yX11_odds yX11_odds ∈ tbl := mt 1114 (by decide +kernel) (by decide +kernel)
theorem w1115 : Cond.code yX11_odds cX11_odds 7 (some .long) ∈ tbl := mt 1115 (by decide +kernel) (by decide +kernel)
theorem w1146 : Cond.methodLink RL 72 yX11_power ∈ tbl := mt 1146 (by decide +kernel) (by decide +kernel)
theorem w1147 : Cond.instanceMethod yX11_power ∈ tbl := mt 1147 (by decide +kernel) (by decide +kernel)
theorem w1148 : Cond.selects RX11 yX11_power yX11_power ∈ tbl := mt 1148 (by decide +kernel) (by decide +kernel)
theorem w1149 : Cond.code yX11_power cX11_power 8 (some .long) ∈ tbl := mt 1149 (by decide +kernel) (by decide +kernel)
theorem w1159 : Cond.methodLink RL 77 yX11_kinship ∈ tbl := mt 1159 (by decide +kernel) (by decide +kernel)
theorem w1160 : Cond.instanceMethod yX11_kinship ∈ tbl := mt 1160 (by decide +kernel) (by decide +kernel)
theorem w1161 : Cond.selects RX11 yX11_kinship yX11_kinship ∈ tbl := mt 1161 (by decide +kernel) (by decide +kernel)
theorem w1162 : Cond.code yX11_kinship cX11_kinship 6 (some .long) ∈ tbl := mt 1162 (by decide +kernel) (by decide +kernel)
theorem w1181 : Cond.methodLink RL 82 yX11_line ∈ tbl := mt 1181 (by decide +kernel) (by decide +kernel)
theorem w1182 : Cond.instanceMethod yX11_line ∈ tbl := mt 1182 (by decide +kernel) (by decide +kernel)
theorem w1183 : Cond.selects RX11 yX11_line yX11_line ∈ tbl := mt 1183 (by decide +kernel) (by decide +kernel)
theorem w1184 : Cond.code yX11_line cX11_line 4 (some .int) ∈ tbl := mt 1184 (by decide +kernel) (by decide +kernel)
theorem w1198 : Cond.methodLink RL 86 yX11_sight ∈ tbl := mt 1198 (by decide +kernel) (by decide +kernel)
theorem w1199 : Cond.instanceMethod yX11_sight ∈ tbl := mt 1199 (by decide +kernel) (by decide +kernel)
theorem w1200 : Cond.selects RX11 yX11_sight yX11_sight ∈ tbl := mt 1200 (by decide +kernel) (by decide +kernel)
theorem w1201 : Cond.code yX11_sight cX11_sight 4 (some .int) ∈ tbl := mt 1201 (by decide +kernel) (by decide +kernel)
theorem w1214 : Cond.methodLink RL 90 yX11_fits ∈ tbl := mt 1214 (by decide +kernel) (by decide +kernel)
theorem w1215 : Cond.instanceMethod yX11_fits ∈ tbl := mt 1215 (by decide +kernel) (by decide +kernel)
theorem w1216 : Cond.selects RX11 yX11_fits yX11_fits ∈ tbl := mt 1216 (by decide +kernel) (by decide +kernel)
theorem w1217 : Cond.code yX11_fits cX11_fits 4 (some .int) ∈ tbl := mt 1217 (by decide +kernel) (by decide +kernel)
theorem w1270 : Cond.methodLink RL 94 yX11_drawn ∈ tbl := mt 1270 (by decide +kernel) (by decide +kernel)
theorem w1271 : Cond.instanceMethod yX11_drawn ∈ tbl := mt 1271 (by decide +kernel) (by decide +kernel)
theorem w1272 : Cond.selects RX11 yX11_drawn yX11_drawn ∈ tbl := mt 1272 (by decide +kernel) (by decide +kernel)
theorem w1273 : Cond.code yX11_drawn cX11_drawn 6 (some .int) ∈ tbl := mt 1273 (by decide +kernel) (by decide +kernel)
theorem w1287 : Cond.methodLink RL 98 yX11_elders ∈ tbl := mt 1287 (by decide +kernel) (by decide +kernel)
theorem w1288 : Cond.instanceMethod yX11_elders ∈ tbl := mt 1288 (by decide +kernel) (by decide +kernel)
theorem w1289 : Cond.selects RX11 yX11_elders yX11_elders ∈ tbl := mt 1289 (by decide +kernel) (by decide +kernel)
theorem w1290 : Cond.code yX11_elders cX11_elders 5 (some .int) ∈ tbl := mt 1290 (by decide +kernel) (by decide +kernel)
theorem w1299 : Cond.methodLink RL 102 yX11_apart ∈ tbl := mt 1299 (by decide +kernel) (by decide +kernel)
theorem w1300 : Cond.instanceMethod yX11_apart ∈ tbl := mt 1300 (by decide +kernel) (by decide +kernel)
theorem w1301 : Cond.selects RX11 yX11_apart yX11_apart ∈ tbl := mt 1301 (by decide +kernel) (by decide +kernel)
theorem w1302 : Cond.code yX11_apart cX11_apart 5 (some .int) ∈ tbl := mt 1302 (by decide +kernel) (by decide +kernel)
theorem w1310 : Cond.methodLink RL 106 yX11_houses ∈ tbl := mt 1310 (by decide +kernel) (by decide +kernel)
theorem w1311 : Cond.instanceMethod yX11_houses ∈ tbl := mt 1311 (by decide +kernel) (by decide +kernel)
theorem w1312 : Cond.selects RX11 yX11_houses yX11_houses ∈ tbl := mt 1312 (by decide +kernel) (by decide +kernel)
theorem w1313 : Cond.code yX11_houses cX11_houses 4 (some .int) ∈ tbl := mt 1313 (by decide +kernel) (by decide +kernel)
theorem w1349 : Cond.methodLink RL 110 yX11_soon ∈ tbl := mt 1349 (by decide +kernel) (by decide +kernel)
theorem w1350 : Cond.instanceMethod yX11_soon ∈ tbl := mt 1350 (by decide +kernel) (by decide +kernel)
theorem w1351 : Cond.selects RX11 yX11_soon yX11_soon ∈ tbl := mt 1351 (by decide +kernel) (by decide +kernel)
theorem w1352 : Cond.code yX11_soon cX11_soon 6 (some .int) ∈ tbl := mt 1352 (by decide +kernel) (by decide +kernel)
theorem w1353 : Cond.methodLink RL 114 yX11_most ∈ tbl := mt 1353 (by decide +kernel) (by decide +kernel)
theorem w1354 : Cond.instanceMethod yX11_most ∈ tbl := mt 1354 (by decide +kernel) (by decide +kernel)
theorem w1355 : Cond.selects RX11 yX11_most yX11_most ∈ tbl := mt 1355 (by decide +kernel) (by decide +kernel)
theorem w1356 : Cond.code yX11_most cX11_most 5 (some .int) ∈ tbl := mt 1356 (by decide +kernel) (by decide +kernel)
theorem w1370 : Cond.methodLink RL 118 yX11_lot ∈ tbl := mt 1370 (by decide +kernel) (by decide +kernel)
theorem w1371 : Cond.instanceMethod yX11_lot ∈ tbl := mt 1371 (by decide +kernel) (by decide +kernel)
theorem w1372 : Cond.selects RX11 yX11_lot yX11_lot ∈ tbl := mt 1372 (by decide +kernel) (by decide +kernel)
theorem w1373 : Cond.code yX11_lot cX11_lot 5 (some .int) ∈ tbl := mt 1373 (by decide +kernel) (by decide +kernel)
theorem w1378 : Cond.methodLink RL 122 yX11_heaps ∈ tbl := mt 1378 (by decide +kernel) (by decide +kernel)
theorem w1379 : Cond.instanceMethod yX11_heaps ∈ tbl := mt 1379 (by decide +kernel) (by decide +kernel)
theorem w1380 : Cond.selects RX11 yX11_heaps yX11_heaps ∈ tbl := mt 1380 (by decide +kernel) (by decide +kernel)
theorem w1381 : Cond.code yX11_heaps cX11_heaps 4 (some .int) ∈ tbl := mt 1381 (by decide +kernel) (by decide +kernel)
theorem w1394 : Cond.methodLink RL 127 yX11_loss ∈ tbl := mt 1394 (by decide +kernel) (by decide +kernel)
theorem w1395 : Cond.instanceMethod yX11_loss ∈ tbl := mt 1395 (by decide +kernel) (by decide +kernel)
theorem w1396 : Cond.selects RX11 yX11_loss yX11_loss ∈ tbl := mt 1396 (by decide +kernel) (by decide +kernel)
theorem w1397 : Cond.code yX11_loss cX11_loss 5 (some .int) ∈ tbl := mt 1397 (by decide +kernel) (by decide +kernel)
theorem w1404 : Cond.methodLink RL 131 yX11_wedding ∈ tbl := mt 1404 (by decide +kernel) (by decide +kernel)
theorem w1405 : Cond.instanceMethod yX11_wedding ∈ tbl := mt 1405 (by decide +kernel) (by decide +kernel)
theorem w1406 : Cond.selects RX11 yX11_wedding yX11_wedding ∈ tbl := mt 1406 (by decide +kernel) (by decide +kernel)
theorem w1407 : Cond.code yX11_wedding cX11_wedding 6 (some .int) ∈ tbl := mt 1407 (by decide +kernel) (by decide +kernel)
theorem w1409 : Cond.methodLink RL 135 yX11_after ∈ tbl := mt 1409 (by decide +kernel) (by decide +kernel)
theorem w1410 : Cond.instanceMethod yX11_after ∈ tbl := mt 1410 (by decide +kernel) (by decide +kernel)
theorem w1411 : Cond.selects RX11 yX11_after yX11_after ∈ tbl := mt 1411 (by decide +kernel) (by decide +kernel)
theorem w1412 : Cond.code yX11_after cX11_after 6 (some .int) ∈ tbl := mt 1412 (by decide +kernel) (by decide +kernel)
theorem w1425 : Cond.methodLink RL 139 yX11_share ∈ tbl := mt 1425 (by decide +kernel) (by decide +kernel)
theorem w1426 : Cond.instanceMethod yX11_share ∈ tbl := mt 1426 (by decide +kernel) (by decide +kernel)
theorem w1427 : Cond.selects RX11 yX11_share yX11_share ∈ tbl := mt 1427 (by decide +kernel) (by decide +kernel)
theorem w1428 : Cond.code yX11_share cX11_share 6 (some .long) ∈ tbl := mt 1428 (by decide +kernel) (by decide +kernel)
theorem w1430 : Cond.methodLink RL 143 yX11_later ∈ tbl := mt 1430 (by decide +kernel) (by decide +kernel)
theorem w1431 : Cond.instanceMethod yX11_later ∈ tbl := mt 1431 (by decide +kernel) (by decide +kernel)
theorem w1432 : Cond.selects RX11 yX11_later yX11_later ∈ tbl := mt 1432 (by decide +kernel) (by decide +kernel)
theorem w1433 : Cond.code yX11_later cX11_later 3 (some .int) ∈ tbl := mt 1433 (by decide +kernel) (by decide +kernel)
theorem w1434 : Cond.methodLink RL 147 yX11_count ∈ tbl := mt 1434 (by decide +kernel) (by decide +kernel)
theorem w1435 : Cond.instanceMethod yX11_count ∈ tbl := mt 1435 (by decide +kernel) (by decide +kernel)
theorem w1436 : Cond.selects RX11 yX11_count yX11_count ∈ tbl := mt 1436 (by decide +kernel) (by decide +kernel)
theorem w1437 : Cond.code yX11_count cX11_count 2 (some .int) ∈ tbl := mt 1437 (by decide +kernel) (by decide +kernel)
theorem w1438 : Cond.methodLink RL 151 yX11_image ∈ tbl := mt 1438 (by decide +kernel) (by decide +kernel)
theorem w1439 : Cond.instanceMethod yX11_image ∈ tbl := mt 1439 (by decide +kernel) (by decide +kernel)
theorem w1440 : Cond.selects RX11 yX11_image yX11_image ∈ tbl := mt 1440 (by decide +kernel) (by decide +kernel)
theorem w1441 : Cond.code yX11_image cX11_image 2 (some .boolean) ∈ tbl := mt 1441 (by decide +kernel) (by decide +kernel)
theorem w1447 : Cond.methodLink RL 156 yX11_again ∈ tbl := mt 1447 (by decide +kernel) (by decide +kernel)
theorem w1448 : Cond.instanceMethod yX11_again ∈ tbl := mt 1448 (by decide +kernel) (by decide +kernel)
theorem w1449 : Cond.selects RX11 yX11_again yX11_again ∈ tbl := mt 1449 (by decide +kernel) (by decide +kernel)
theorem w1450 : Cond.code yX11_again cX11_again 2 (some .boolean) ∈ tbl := mt 1450 (by decide +kernel) (by decide +kernel)
theorem w1603 : Cond.methodLink RL 17 yX12_feed ∈ tbl := mt 1603 (by decide +kernel) (by decide +kernel)
theorem w1604 : Cond.instanceMethod yX12_feed ∈ tbl := mt 1604 (by decide +kernel) (by decide +kernel)
theorem w1605 : Cond.selects RX12 yX12_feed yX12_feed ∈ tbl := mt 1605 (by decide +kernel) (by decide +kernel)
theorem w1606 : Cond.code yX12_feed cX12_feed 8 (some .int) ∈ tbl := mt 1606 (by decide +kernel) (by decide +kernel)
theorem w1607 : Cond.methodLink RL 22 yX12_end ∈ tbl := mt 1607 (by decide +kernel) (by decide +kernel)
theorem w1608 : Cond.instanceMethod yX12_end ∈ tbl := mt 1608 (by decide +kernel) (by decide +kernel)
theorem w1609 : Cond.selects RX12 yX12_end yX12_end ∈ tbl := mt 1609 (by decide +kernel) (by decide +kernel)
theorem w1610 : Cond.code yX12_end cX12_end 2 (some .int) ∈ tbl := mt 1610 (by decide +kernel) (by decide +kernel)
theorem w1611 : Cond.methodLink RL 27 yX12_text ∈ tbl := mt 1611 (by decide +kernel) (by decide +kernel)
theorem w1612 : Cond.instanceMethod yX12_text ∈ tbl := mt 1612 (by decide +kernel) (by decide +kernel)
theorem w1613 : Cond.selects RX12 yX12_text yX12_text ∈ tbl := mt 1613 (by decide +kernel) (by decide +kernel)
theorem w1614 : Cond.code yX12_text cX12_text 5 (some .int) ∈ tbl := mt 1614 (by decide +kernel) (by decide +kernel)
theorem w1709 : Cond.methodLink RL 31 yX12_fault ∈ tbl := mt 1709 (by decide +kernel) (by decide +kernel)
theorem w1710 : Cond.instanceMethod yX12_fault ∈ tbl := mt 1710 (by decide +kernel) (by decide +kernel)
theorem w1711 : Cond.selects RX12 yX12_fault yX12_fault ∈ tbl := mt 1711 (by decide +kernel) (by decide +kernel)
theorem w1712 : Cond.code yX12_fault cX12_fault 2 (some .int) ∈ tbl := mt 1712 (by decide +kernel) (by decide +kernel)
theorem w1713 : Cond.methodLink RL 35 yX12_valley ∈ tbl := mt 1713 (by decide +kernel) (by decide +kernel)
theorem w1714 : Cond.instanceMethod yX12_valley ∈ tbl := mt 1714 (by decide +kernel) (by decide +kernel)
theorem w1715 : Cond.selects RX12 yX12_valley yX12_valley ∈ tbl := mt 1715 (by decide +kernel) (by decide +kernel)
theorem w1716 : Cond.code yX12_valley cX12_valley 4 (some .int) ∈ tbl := mt 1716 (by decide +kernel) (by decide +kernel)
theorem w1737 : Cond.methodLink RL 53 yX12_keep ∈ tbl := mt 1737 (by decide +kernel) (by decide +kernel)
theorem w1738 : Cond.instanceMethod yX12_keep ∈ tbl := mt 1738 (by decide +kernel) (by decide +kernel)
theorem w1739 : Cond.selects RX12 yX12_keep yX12_keep ∈ tbl := mt 1739 (by decide +kernel) (by decide +kernel)
theorem w1740 : Cond.code yX12_keep cX12_keep 5 (some .int) ∈ tbl := mt 1740 (by decide +kernel) (by decide +kernel)
theorem w1772 : Cond.methodLink RL 113 yX12_soon ∈ tbl := mt 1772 (by decide +kernel) (by decide +kernel)
theorem w1773 : Cond.instanceMethod yX12_soon ∈ tbl := mt 1773 (by decide +kernel) (by decide +kernel)
theorem w1774 : Cond.selects RX12 yX12_soon yX12_soon ∈ tbl := mt 1774 (by decide +kernel) (by decide +kernel)
theorem w1775 : Cond.code yX12_soon cX12_soon 5 (some .int) ∈ tbl := mt 1775 (by decide +kernel) (by decide +kernel)
theorem w1776 : Cond.methodLink RL 57 yX12_say ∈ tbl := mt 1776 (by decide +kernel) (by decide +kernel)
theorem w1777 : Cond.instanceMethod yX12_say ∈ tbl := mt 1777 (by decide +kernel) (by decide +kernel)
theorem w1778 : Cond.selects RX12 yX12_say yX12_say ∈ tbl := mt 1778 (by decide +kernel) (by decide +kernel)
theorem w1779 : Cond.code yX12_say cX12_say 5 (some .int) ∈ tbl := mt 1779 (by decide +kernel) (by decide +kernel)
theorem w1787 : Cond.methodLink RL 62 yX12_dare ∈ tbl := mt 1787 (by decide +kernel) (by decide +kernel)
theorem w1788 : Cond.instanceMethod yX12_dare ∈ tbl := mt 1788 (by decide +kernel) (by decide +kernel)
theorem w1789 : Cond.selects RX12 yX12_dare yX12_dare ∈ tbl := mt 1789 (by decide +kernel) (by decide +kernel)
theorem w1790 : Cond.code yX12_dare cX12_dare 5 (some .int) ∈ tbl := mt 1790 (by decide +kernel) (by decide +kernel)
theorem w1816 : Cond.methodLink RL 66 yX12_plan ∈ tbl := mt 1816 (by decide +kernel) (by decide +kernel)
theorem w1817 : Cond.instanceMethod yX12_plan ∈ tbl := mt 1817 (by decide +kernel) (by decide +kernel)
theorem w1818 : Cond.selects RX12 yX12_plan yX12_plan ∈ tbl := mt 1818 (by decide +kernel) (by decide +kernel)
theorem w1819 : Cond.code yX12_plan cX12_plan 6 (some .int) ∈ tbl := mt 1819 (by decide +kernel) (by decide +kernel)
theorem w1840 : Cond.methodLink RL 71 yX12_odds ∈ tbl := mt 1840 (by decide +kernel) (by decide +kernel)
theorem w1841 : Cond.instanceMethod yX12_odds ∈ tbl := mt 1841 (by decide +kernel) (by decide +kernel)
theorem w1842 : Cond.selects RX12 yX12_odds yX12_odds ∈ tbl := mt 1842 (by decide +kernel) (by decide +kernel)
theorem w1843 : Cond.code yX12_odds cX12_odds 14 (some .long) ∈ tbl := mt 1843 (by decide +kernel) (by decide +kernel)
theorem w1855 : Cond.methodLink RL 76 yX12_power ∈ tbl := mt 1855 (by decide +kernel) (by decide +kernel)
theorem w1856 : Cond.instanceMethod yX12_power ∈ tbl := mt 1856 (by decide +kernel) (by decide +kernel)
theorem w1857 : Cond.selects RX12 yX12_power yX12_power ∈ tbl := mt 1857 (by decide +kernel) (by decide +kernel)
theorem w1858 : Cond.code yX12_power cX12_power 12 (some .long) ∈ tbl := mt 1858 (by decide +kernel) (by decide +kernel)
theorem w1862 : Cond.methodLink RL 81 yX12_kinship ∈ tbl := mt 1862 (by decide +kernel) (by decide +kernel)
theorem w1863 : Cond.instanceMethod yX12_kinship ∈ tbl := mt 1863 (by decide +kernel) (by decide +kernel)
theorem w1864 : Cond.selects RX12 yX12_kinship yX12_kinship ∈ tbl := mt 1864 (by decide +kernel) (by decide +kernel)
theorem w1865 : Cond.code yX12_kinship cX12_kinship 5 (some .long) ∈ tbl := mt 1865 (by decide +kernel) (by decide +kernel)
theorem w1877 : Cond.methodLink RL 134 yX12_wedding ∈ tbl := mt 1877 (by decide +kernel) (by decide +kernel)
theorem w1878 : Cond.instanceMethod yX12_wedding ∈ tbl := mt 1878 (by decide +kernel) (by decide +kernel)
theorem w1879 : Cond.selects RX12 yX12_wedding yX12_wedding ∈ tbl := mt 1879 (by decide +kernel) (by decide +kernel)
theorem w1880 : Cond.code yX12_wedding cX12_wedding 4 (some .int) ∈ tbl := mt 1880 (by decide +kernel) (by decide +kernel)
theorem w1882 : Cond.methodLink RL 85 yX12_line ∈ tbl := mt 1882 (by decide +kernel) (by decide +kernel)
theorem w1883 : Cond.instanceMethod yX12_line ∈ tbl := mt 1883 (by decide +kernel) (by decide +kernel)
theorem w1884 : Cond.selects RX12 yX12_line yX12_line ∈ tbl := mt 1884 (by decide +kernel) (by decide +kernel)
theorem w1885 : Cond.code yX12_line cX12_line 7 (some .int) ∈ tbl := mt 1885 (by decide +kernel) (by decide +kernel)
theorem w1890 : Cond.methodLink RL 101 yX12_elders ∈ tbl := mt 1890 (by decide +kernel) (by decide +kernel)
theorem w1891 : Cond.instanceMethod yX12_elders ∈ tbl := mt 1891 (by decide +kernel) (by decide +kernel)
theorem w1892 : Cond.selects RX12 yX12_elders yX12_elders ∈ tbl := mt 1892 (by decide +kernel) (by decide +kernel)
theorem w1893 : Cond.code yX12_elders cX12_elders 6 (some .int) ∈ tbl := mt 1893 (by decide +kernel) (by decide +kernel)
theorem w1898 : Cond.methodLink RL 105 yX12_apart ∈ tbl := mt 1898 (by decide +kernel) (by decide +kernel)
theorem w1899 : Cond.instanceMethod yX12_apart ∈ tbl := mt 1899 (by decide +kernel) (by decide +kernel)
theorem w1900 : Cond.selects RX12 yX12_apart yX12_apart ∈ tbl := mt 1900 (by decide +kernel) (by decide +kernel)
theorem w1901 : Cond.code yX12_apart cX12_apart 6 (some .int) ∈ tbl := mt 1901 (by decide +kernel) (by decide +kernel)
theorem w1906 : Cond.methodLink RL 109 yX12_houses ∈ tbl := mt 1906 (by decide +kernel) (by decide +kernel)
theorem w1907 : Cond.instanceMethod yX12_houses ∈ tbl := mt 1907 (by decide +kernel) (by decide +kernel)
theorem w1908 : Cond.selects RX12 yX12_houses yX12_houses ∈ tbl := mt 1908 (by decide +kernel) (by decide +kernel)
theorem w1909 : Cond.code yX12_houses cX12_houses 3 (some .int) ∈ tbl := mt 1909 (by decide +kernel) (by decide +kernel)
theorem w1942 : Cond.methodLink RL 117 yX12_most ∈ tbl := mt 1942 (by decide +kernel) (by decide +kernel)
theorem w1943 : Cond.instanceMethod yX12_most ∈ tbl := mt 1943 (by decide +kernel) (by decide +kernel)
theorem w1944 : Cond.selects RX12 yX12_most yX12_most ∈ tbl := mt 1944 (by decide +kernel) (by decide +kernel)
theorem w1945 : Cond.code yX12_most cX12_most 7 (some .int) ∈ tbl := mt 1945 (by decide +kernel) (by decide +kernel)
theorem w1954 : Cond.methodLink RL 121 yX12_lot ∈ tbl := mt 1954 (by decide +kernel) (by decide +kernel)
theorem w1955 : Cond.instanceMethod yX12_lot ∈ tbl := mt 1955 (by decide +kernel) (by decide +kernel)
theorem w1956 : Cond.selects RX12 yX12_lot yX12_lot ∈ tbl := mt 1956 (by decide +kernel) (by decide +kernel)
theorem w1957 : Cond.code yX12_lot cX12_lot 6 (some .int) ∈ tbl := mt 1957 (by decide +kernel) (by decide +kernel)
theorem w1962 : Cond.methodLink RL 126 yX12_heaps ∈ tbl := mt 1962 (by decide +kernel) (by decide +kernel)
theorem w1963 : Cond.instanceMethod yX12_heaps ∈ tbl := mt 1963 (by decide +kernel) (by decide +kernel)
theorem w1964 : Cond.selects RX12 yX12_heaps yX12_heaps ∈ tbl := mt 1964 (by decide +kernel) (by decide +kernel)
theorem w1965 : Cond.code yX12_heaps cX12_heaps 7 (some .int) ∈ tbl := mt 1965 (by decide +kernel) (by decide +kernel)
theorem w1966 : Cond.methodLink RL 130 yX12_loss ∈ tbl := mt 1966 (by decide +kernel) (by decide +kernel)
theorem w1967 : Cond.instanceMethod yX12_loss ∈ tbl := mt 1967 (by decide +kernel) (by decide +kernel)
theorem w1968 : Cond.selects RX12 yX12_loss yX12_loss ∈ tbl := mt 1968 (by decide +kernel) (by decide +kernel)
theorem w1969 : Cond.code yX12_loss cX12_loss 7 (some .int) ∈ tbl := mt 1969 (by decide +kernel) (by decide +kernel)
theorem w1970 : Cond.methodLink RL 40 yX12_deed ∈ tbl := mt 1970 (by decide +kernel) (by decide +kernel)
theorem w1971 : Cond.instanceMethod yX12_deed ∈ tbl := mt 1971 (by decide +kernel) (by decide +kernel)
theorem w1972 : Cond.selects RX12 yX12_deed yX12_deed ∈ tbl := mt 1972 (by decide +kernel) (by decide +kernel)
theorem w1973 : Cond.code yX12_deed cX12_deed 4 (some .int) ∈ tbl := mt 1973 (by decide +kernel) (by decide +kernel)
theorem w1978 : Cond.methodLink RL 44 yX12_stop ∈ tbl := mt 1978 (by decide +kernel) (by decide +kernel)
theorem w1979 : Cond.instanceMethod yX12_stop ∈ tbl := mt 1979 (by decide +kernel) (by decide +kernel)
theorem w1980 : Cond.selects RX12 yX12_stop yX12_stop ∈ tbl := mt 1980 (by decide +kernel) (by decide +kernel)
theorem w1981 : Cond.code yX12_stop cX12_stop 3 (some .int) ∈ tbl := mt 1981 (by decide +kernel) (by decide +kernel)
theorem w2038 : Cond.methodLink RL 49 yX12_state ∈ tbl := mt 2038 (by decide +kernel) (by decide +kernel)
theorem w2039 : Cond.instanceMethod yX12_state ∈ tbl := mt 2039 (by decide +kernel) (by decide +kernel)
theorem w2040 : Cond.selects RX12 yX12_state yX12_state ∈ tbl := mt 2040 (by decide +kernel) (by decide +kernel)
theorem w2041 : Cond.code yX12_state cX12_state 5 (some .int) ∈ tbl := mt 2041 (by decide +kernel) (by decide +kernel)
theorem w2050 : Cond.methodLink RL 138 yX12_after ∈ tbl := mt 2050 (by decide +kernel) (by decide +kernel)
theorem w2051 : Cond.instanceMethod yX12_after ∈ tbl := mt 2051 (by decide +kernel) (by decide +kernel)
theorem w2052 : Cond.selects RX12 yX12_after yX12_after ∈ tbl := mt 2052 (by decide +kernel) (by decide +kernel)
theorem w2053 : Cond.code yX12_after cX12_after 7 (some .int) ∈ tbl := mt 2053 (by decide +kernel) (by decide +kernel)
theorem w2062 : Cond.methodLink RL 89 yX12_sight ∈ tbl := mt 2062 (by decide +kernel) (by decide +kernel)
theorem w2063 : Cond.instanceMethod yX12_sight ∈ tbl := mt 2063 (by decide +kernel) (by decide +kernel)
theorem w2064 : Cond.selects RX12 yX12_sight yX12_sight ∈ tbl := mt 2064 (by decide +kernel) (by decide +kernel)
theorem w2065 : Cond.code yX12_sight cX12_sight 4 (some .int) ∈ tbl := mt 2065 (by decide +kernel) (by decide +kernel)
theorem w2070 : Cond.methodLink RL 93 yX12_fits ∈ tbl := mt 2070 (by decide +kernel) (by decide +kernel)
theorem w2071 : Cond.instanceMethod yX12_fits ∈ tbl := mt 2071 (by decide +kernel) (by decide +kernel)
theorem w2072 : Cond.selects RX12 yX12_fits yX12_fits ∈ tbl := mt 2072 (by decide +kernel) (by decide +kernel)
theorem w2073 : Cond.code yX12_fits cX12_fits 6 (some .int) ∈ tbl := mt 2073 (by decide +kernel) (by decide +kernel)
theorem w2106 : Cond.methodLink RL 142 yX12_share ∈ tbl := mt 2106 (by decide +kernel) (by decide +kernel)
theorem w2107 : Cond.instanceMethod yX12_share ∈ tbl := mt 2107 (by decide +kernel) (by decide +kernel)
theorem w2108 : Cond.selects RX12 yX12_share yX12_share ∈ tbl := mt 2108 (by decide +kernel) (by decide +kernel)
theorem w2109 : Cond.code yX12_share cX12_share 10 (some .long) ∈ tbl := mt 2109 (by decide +kernel) (by decide +kernel)
theorem w2110 : Cond.methodLink RL 146 yX12_later ∈ tbl := mt 2110 (by decide +kernel) (by decide +kernel)
theorem w2111 : Cond.instanceMethod yX12_later ∈ tbl := mt 2111 (by decide +kernel) (by decide +kernel)
theorem w2112 : Cond.selects RX12 yX12_later yX12_later ∈ tbl := mt 2112 (by decide +kernel) (by decide +kernel)
theorem w2113 : Cond.code yX12_later cX12_later 5 (some .int) ∈ tbl := mt 2113 (by decide +kernel) (by decide +kernel)
theorem w2114 : Cond.methodLink RL 97 yX12_drawn ∈ tbl := mt 2114 (by decide +kernel) (by decide +kernel)
theorem w2115 : Cond.instanceMethod yX12_drawn ∈ tbl := mt 2115 (by decide +kernel) (by decide +kernel)
theorem w2116 : Cond.selects RX12 yX12_drawn yX12_drawn ∈ tbl := mt 2116 (by decide +kernel) (by decide +kernel)
theorem w2117 : Cond.code yX12_drawn cX12_drawn 6 (some .int) ∈ tbl := mt 2117 (by decide +kernel) (by decide +kernel)
theorem w2127 : Cond.methodLink RL 150 yX12_count ∈ tbl := mt 2127 (by decide +kernel) (by decide +kernel)
theorem w2128 : Cond.instanceMethod yX12_count ∈ tbl := mt 2128 (by decide +kernel) (by decide +kernel)
theorem w2129 : Cond.selects RX12 yX12_count yX12_count ∈ tbl := mt 2129 (by decide +kernel) (by decide +kernel)
theorem w2130 : Cond.code yX12_count cX12_count 2 (some .int) ∈ tbl := mt 2130 (by decide +kernel) (by decide +kernel)
theorem w2131 : Cond.methodLink RL 155 yX12_image ∈ tbl := mt 2131 (by decide +kernel) (by decide +kernel)
theorem w2132 : Cond.instanceMethod yX12_image ∈ tbl := mt 2132 (by decide +kernel) (by decide +kernel)
theorem w2133 : Cond.selects RX12 yX12_image yX12_image ∈ tbl := mt 2133 (by decide +kernel) (by decide +kernel)
theorem w2134 : Cond.code yX12_image cX12_image 3 (some .boolean) ∈ tbl := mt 2134 (by decide +kernel) (by decide +kernel)
theorem w2135 : Cond.methodLink RL 159 yX12_again ∈ tbl := mt 2135 (by decide +kernel) (by decide +kernel)
theorem w2136 : Cond.instanceMethod yX12_again ∈ tbl := mt 2136 (by decide +kernel) (by decide +kernel)
theorem w2137 : Cond.selects RX12 yX12_again yX12_again ∈ tbl := mt 2137 (by decide +kernel) (by decide +kernel)
theorem w2138 : Cond.code yX12_again cX12_again 3 (some .boolean) ∈ tbl := mt 2138 (by decide +kernel) (by decide +kernel)
theorem vl_L_13 : VL RL 13 yX11_feed cX11_feed 6 (some .int) 5 := ⟨w651, w654, w149, by decide, by decide, by decide +kernel⟩
theorem vv_X11_feed : VV yX11_feed 11 := ⟨w652, w653, by decide, TX11, 10, rfl⟩
theorem vl_L_17 : VL RL 17 yX12_feed cX12_feed 8 (some .int) 5 := ⟨w1603, w1606, w161, by decide, by decide, by decide +kernel⟩
theorem vv_X12_feed : VV yX12_feed 12 := ⟨w1604, w1605, by decide, TX12, 48, rfl⟩
theorem vl_L_18 : VL RL 18 yX11_end cX11_end 2 (some .int) 1 := ⟨w659, w662, w149, by decide, by decide, by decide +kernel⟩
theorem vv_X11_end : VV yX11_end 11 := ⟨w660, w661, by decide, TX11, 10, rfl⟩
theorem vl_L_22 : VL RL 22 yX12_end cX12_end 2 (some .int) 1 := ⟨w1607, w1610, w161, by decide, by decide, by decide +kernel⟩
theorem vv_X12_end : VV yX12_end 12 := ⟨w1608, w1609, by decide, TX12, 48, rfl⟩
theorem vl_L_23 : VL RL 23 yX11_text cX11_text 7 (some .int) 2 := ⟨w663, w666, w149, by decide, by decide, by decide +kernel⟩
theorem vv_X11_text : VV yX11_text 11 := ⟨w664, w665, by decide, TX11, 10, rfl⟩
theorem vl_L_27 : VL RL 27 yX12_text cX12_text 5 (some .int) 2 := ⟨w1611, w1614, w161, by decide, by decide, by decide +kernel⟩
theorem vv_X12_text : VV yX12_text 12 := ⟨w1612, w1613, by decide, TX12, 48, rfl⟩
theorem vl_L_28 : VL RL 28 yX11_fault cX11_fault 2 (some .int) 1 := ⟨w862, w865, w149, by decide, by decide, by decide +kernel⟩
theorem vv_X11_fault : VV yX11_fault 11 := ⟨w863, w864, by decide, TX11, 10, rfl⟩
theorem vl_L_31 : VL RL 31 yX12_fault cX12_fault 2 (some .int) 1 := ⟨w1709, w1712, w161, by decide, by decide, by decide +kernel⟩
theorem vv_X12_fault : VV yX12_fault 12 := ⟨w1710, w1711, by decide, TX12, 48, rfl⟩
theorem vl_L_32 : VL RL 32 yX11_valley cX11_valley 4 (some .int) 2 := ⟨w866, w869, w149, by decide, by decide, by decide +kernel⟩
theorem vv_X11_valley : VV yX11_valley 11 := ⟨w867, w868, by decide, TX11, 10, rfl⟩
theorem vl_L_35 : VL RL 35 yX12_valley cX12_valley 4 (some .int) 2 := ⟨w1713, w1716, w161, by decide, by decide, by decide +kernel⟩
theorem vv_X12_valley : VV yX12_valley 12 := ⟨w1714, w1715, by decide, TX12, 48, rfl⟩
theorem vl_L_36 : VL RL 36 yX11_deed cX11_deed 5 (some .int) 3 := ⟨w891, w894, w149, by decide, by decide, by decide +kernel⟩
theorem vv_X11_deed : VV yX11_deed 11 := ⟨w892, w893, by decide, TX11, 10, rfl⟩
theorem vl_L_40 : VL RL 40 yX12_deed cX12_deed 4 (some .int) 3 := ⟨w1970, w1973, w161, by decide, by decide, by decide +kernel⟩
theorem vv_X12_deed : VV yX12_deed 12 := ⟨w1971, w1972, by decide, TX12, 48, rfl⟩
theorem vl_L_41 : VL RL 41 yX11_stop cX11_stop 5 (some .int) 2 := ⟨w907, w910, w149, by decide, by decide, by decide +kernel⟩
theorem vv_X11_stop : VV yX11_stop 11 := ⟨w908, w909, by decide, TX11, 10, rfl⟩
theorem vl_L_44 : VL RL 44 yX12_stop cX12_stop 3 (some .int) 2 := ⟨w1978, w1981, w161, by decide, by decide, by decide +kernel⟩
theorem vv_X12_stop : VV yX12_stop 12 := ⟨w1979, w1980, by decide, TX12, 48, rfl⟩
theorem vl_L_45 : VL RL 45 yX11_state cX11_state 7 (some .int) 4 := ⟨w986, w989, w149, by decide, by decide, by decide +kernel⟩
theorem vv_X11_state : VV yX11_state 11 := ⟨w987, w988, by decide, TX11, 10, rfl⟩
theorem vl_L_49 : VL RL 49 yX12_state cX12_state 5 (some .int) 4 := ⟨w2038, w2041, w161, by decide, by decide, by decide +kernel⟩
theorem vv_X12_state : VV yX12_state 12 := ⟨w2039, w2040, by decide, TX12, 48, rfl⟩
theorem vl_L_50 : VL RL 50 yX11_keep cX11_keep 6 (some .int) 4 := ⟨w1006, w1009, w149, by decide, by decide, by decide +kernel⟩
theorem vv_X11_keep : VV yX11_keep 11 := ⟨w1007, w1008, by decide, TX11, 10, rfl⟩
theorem vl_L_53 : VL RL 53 yX12_keep cX12_keep 5 (some .int) 4 := ⟨w1737, w1740, w161, by decide, by decide, by decide +kernel⟩
theorem vv_X12_keep : VV yX12_keep 12 := ⟨w1738, w1739, by decide, TX12, 48, rfl⟩
theorem vl_L_54 : VL RL 54 yX11_say cX11_say 6 (some .int) 4 := ⟨w1022, w1025, w149, by decide, by decide, by decide +kernel⟩
theorem vv_X11_say : VV yX11_say 11 := ⟨w1023, w1024, by decide, TX11, 10, rfl⟩
theorem vl_L_57 : VL RL 57 yX12_say cX12_say 5 (some .int) 4 := ⟨w1776, w1779, w161, by decide, by decide, by decide +kernel⟩
theorem vv_X12_say : VV yX12_say 12 := ⟨w1777, w1778, by decide, TX12, 48, rfl⟩
theorem vl_L_58 : VL RL 58 yX11_dare cX11_dare 5 (some .int) 3 := ⟨w1053, w1056, w149, by decide, by decide, by decide +kernel⟩
theorem vv_X11_dare : VV yX11_dare 11 := ⟨w1054, w1055, by decide, TX11, 10, rfl⟩
theorem vl_L_62 : VL RL 62 yX12_dare cX12_dare 5 (some .int) 3 := ⟨w1787, w1790, w161, by decide, by decide, by decide +kernel⟩
theorem vv_X12_dare : VV yX12_dare 12 := ⟨w1788, w1789, by decide, TX12, 48, rfl⟩
theorem vl_L_63 : VL RL 63 yX11_plan cX11_plan 5 (some .int) 3 := ⟨w1070, w1073, w149, by decide, by decide, by decide +kernel⟩
theorem vv_X11_plan : VV yX11_plan 11 := ⟨w1071, w1072, by decide, TX11, 10, rfl⟩
theorem vl_L_66 : VL RL 66 yX12_plan cX12_plan 6 (some .int) 3 := ⟨w1816, w1819, w161, by decide, by decide, by decide +kernel⟩
theorem vv_X12_plan : VV yX12_plan 12 := ⟨w1817, w1818, by decide, TX12, 48, rfl⟩
theorem vl_L_67 : VL RL 67 yX11_odds cX11_odds 7 (some .long) 5 := ⟨w1112, w1115, w149, by decide, by decide, by decide +kernel⟩
theorem vv_X11_odds : VV yX11_odds 11 := ⟨w1113, w1114, by decide, TX11, 10, rfl⟩
theorem vl_L_71 : VL RL 71 yX12_odds cX12_odds 14 (some .long) 5 := ⟨w1840, w1843, w161, by decide, by decide, by decide +kernel⟩
theorem vv_X12_odds : VV yX12_odds 12 := ⟨w1841, w1842, by decide, TX12, 48, rfl⟩
theorem vl_L_72 : VL RL 72 yX11_power cX11_power 8 (some .long) 6 := ⟨w1146, w1149, w149, by decide, by decide, by decide +kernel⟩
theorem vv_X11_power : VV yX11_power 11 := ⟨w1147, w1148, by decide, TX11, 10, rfl⟩
theorem vl_L_76 : VL RL 76 yX12_power cX12_power 12 (some .long) 6 := ⟨w1855, w1858, w161, by decide, by decide, by decide +kernel⟩
theorem vv_X12_power : VV yX12_power 12 := ⟨w1856, w1857, by decide, TX12, 48, rfl⟩
theorem vl_L_77 : VL RL 77 yX11_kinship cX11_kinship 6 (some .long) 4 := ⟨w1159, w1162, w149, by decide, by decide, by decide +kernel⟩
theorem vv_X11_kinship : VV yX11_kinship 11 := ⟨w1160, w1161, by decide, TX11, 10, rfl⟩
theorem vl_L_81 : VL RL 81 yX12_kinship cX12_kinship 5 (some .long) 4 := ⟨w1862, w1865, w161, by decide, by decide, by decide +kernel⟩
theorem vv_X12_kinship : VV yX12_kinship 12 := ⟨w1863, w1864, by decide, TX12, 48, rfl⟩
theorem vl_L_82 : VL RL 82 yX11_line cX11_line 4 (some .int) 2 := ⟨w1181, w1184, w149, by decide, by decide, by decide +kernel⟩
theorem vv_X11_line : VV yX11_line 11 := ⟨w1182, w1183, by decide, TX11, 10, rfl⟩
theorem vl_L_85 : VL RL 85 yX12_line cX12_line 7 (some .int) 2 := ⟨w1882, w1885, w161, by decide, by decide, by decide +kernel⟩
theorem vv_X12_line : VV yX12_line 12 := ⟨w1883, w1884, by decide, TX12, 48, rfl⟩
theorem vl_L_86 : VL RL 86 yX11_sight cX11_sight 4 (some .int) 2 := ⟨w1198, w1201, w149, by decide, by decide, by decide +kernel⟩
theorem vv_X11_sight : VV yX11_sight 11 := ⟨w1199, w1200, by decide, TX11, 10, rfl⟩
theorem vl_L_89 : VL RL 89 yX12_sight cX12_sight 4 (some .int) 2 := ⟨w2062, w2065, w161, by decide, by decide, by decide +kernel⟩
theorem vv_X12_sight : VV yX12_sight 12 := ⟨w2063, w2064, by decide, TX12, 48, rfl⟩
theorem vl_L_90 : VL RL 90 yX11_fits cX11_fits 4 (some .int) 3 := ⟨w1214, w1217, w149, by decide, by decide, by decide +kernel⟩
theorem vv_X11_fits : VV yX11_fits 11 := ⟨w1215, w1216, by decide, TX11, 10, rfl⟩
theorem vl_L_93 : VL RL 93 yX12_fits cX12_fits 6 (some .int) 3 := ⟨w2070, w2073, w161, by decide, by decide, by decide +kernel⟩
theorem vv_X12_fits : VV yX12_fits 12 := ⟨w2071, w2072, by decide, TX12, 48, rfl⟩
theorem vl_L_94 : VL RL 94 yX11_drawn cX11_drawn 6 (some .int) 4 := ⟨w1270, w1273, w149, by decide, by decide, by decide +kernel⟩
theorem vv_X11_drawn : VV yX11_drawn 11 := ⟨w1271, w1272, by decide, TX11, 10, rfl⟩
theorem vl_L_97 : VL RL 97 yX12_drawn cX12_drawn 6 (some .int) 4 := ⟨w2114, w2117, w161, by decide, by decide, by decide +kernel⟩
theorem vv_X12_drawn : VV yX12_drawn 12 := ⟨w2115, w2116, by decide, TX12, 48, rfl⟩
theorem vl_L_98 : VL RL 98 yX11_elders cX11_elders 5 (some .int) 3 := ⟨w1287, w1290, w149, by decide, by decide, by decide +kernel⟩
theorem vv_X11_elders : VV yX11_elders 11 := ⟨w1288, w1289, by decide, TX11, 10, rfl⟩
theorem vl_L_101 : VL RL 101 yX12_elders cX12_elders 6 (some .int) 3 := ⟨w1890, w1893, w161, by decide, by decide, by decide +kernel⟩
theorem vv_X12_elders : VV yX12_elders 12 := ⟨w1891, w1892, by decide, TX12, 48, rfl⟩
theorem vl_L_102 : VL RL 102 yX11_apart cX11_apart 5 (some .int) 3 := ⟨w1299, w1302, w149, by decide, by decide, by decide +kernel⟩
theorem vv_X11_apart : VV yX11_apart 11 := ⟨w1300, w1301, by decide, TX11, 10, rfl⟩
theorem vl_L_105 : VL RL 105 yX12_apart cX12_apart 6 (some .int) 3 := ⟨w1898, w1901, w161, by decide, by decide, by decide +kernel⟩
theorem vv_X12_apart : VV yX12_apart 12 := ⟨w1899, w1900, by decide, TX12, 48, rfl⟩
theorem vl_L_106 : VL RL 106 yX11_houses cX11_houses 4 (some .int) 2 := ⟨w1310, w1313, w149, by decide, by decide, by decide +kernel⟩
theorem vv_X11_houses : VV yX11_houses 11 := ⟨w1311, w1312, by decide, TX11, 10, rfl⟩
theorem vl_L_109 : VL RL 109 yX12_houses cX12_houses 3 (some .int) 2 := ⟨w1906, w1909, w161, by decide, by decide, by decide +kernel⟩
theorem vv_X12_houses : VV yX12_houses 12 := ⟨w1907, w1908, by decide, TX12, 48, rfl⟩
theorem vl_L_110 : VL RL 110 yX11_soon cX11_soon 6 (some .int) 3 := ⟨w1349, w1352, w149, by decide, by decide, by decide +kernel⟩
theorem vv_X11_soon : VV yX11_soon 11 := ⟨w1350, w1351, by decide, TX11, 10, rfl⟩
theorem vl_L_113 : VL RL 113 yX12_soon cX12_soon 5 (some .int) 3 := ⟨w1772, w1775, w161, by decide, by decide, by decide +kernel⟩
theorem vv_X12_soon : VV yX12_soon 12 := ⟨w1773, w1774, by decide, TX12, 48, rfl⟩
theorem vl_L_114 : VL RL 114 yX11_most cX11_most 5 (some .int) 3 := ⟨w1353, w1356, w149, by decide, by decide, by decide +kernel⟩
theorem vv_X11_most : VV yX11_most 11 := ⟨w1354, w1355, by decide, TX11, 10, rfl⟩
theorem vl_L_117 : VL RL 117 yX12_most cX12_most 7 (some .int) 3 := ⟨w1942, w1945, w161, by decide, by decide, by decide +kernel⟩
theorem vv_X12_most : VV yX12_most 12 := ⟨w1943, w1944, by decide, TX12, 48, rfl⟩
theorem vl_L_118 : VL RL 118 yX11_lot cX11_lot 5 (some .int) 3 := ⟨w1370, w1373, w149, by decide, by decide, by decide +kernel⟩
theorem vv_X11_lot : VV yX11_lot 11 := ⟨w1371, w1372, by decide, TX11, 10, rfl⟩
theorem vl_L_121 : VL RL 121 yX12_lot cX12_lot 6 (some .int) 3 := ⟨w1954, w1957, w161, by decide, by decide, by decide +kernel⟩
theorem vv_X12_lot : VV yX12_lot 12 := ⟨w1955, w1956, by decide, TX12, 48, rfl⟩
theorem vl_L_122 : VL RL 122 yX11_heaps cX11_heaps 4 (some .int) 2 := ⟨w1378, w1381, w149, by decide, by decide, by decide +kernel⟩
theorem vv_X11_heaps : VV yX11_heaps 11 := ⟨w1379, w1380, by decide, TX11, 10, rfl⟩
theorem vl_L_126 : VL RL 126 yX12_heaps cX12_heaps 7 (some .int) 2 := ⟨w1962, w1965, w161, by decide, by decide, by decide +kernel⟩
theorem vv_X12_heaps : VV yX12_heaps 12 := ⟨w1963, w1964, by decide, TX12, 48, rfl⟩
theorem vl_L_127 : VL RL 127 yX11_loss cX11_loss 5 (some .int) 3 := ⟨w1394, w1397, w149, by decide, by decide, by decide +kernel⟩
theorem vv_X11_loss : VV yX11_loss 11 := ⟨w1395, w1396, by decide, TX11, 10, rfl⟩
theorem vl_L_130 : VL RL 130 yX12_loss cX12_loss 7 (some .int) 3 := ⟨w1966, w1969, w161, by decide, by decide, by decide +kernel⟩
theorem vv_X12_loss : VV yX12_loss 12 := ⟨w1967, w1968, by decide, TX12, 48, rfl⟩
theorem vl_L_131 : VL RL 131 yX11_wedding cX11_wedding 6 (some .int) 3 := ⟨w1404, w1407, w149, by decide, by decide, by decide +kernel⟩
theorem vv_X11_wedding : VV yX11_wedding 11 := ⟨w1405, w1406, by decide, TX11, 10, rfl⟩
theorem vl_L_134 : VL RL 134 yX12_wedding cX12_wedding 4 (some .int) 3 := ⟨w1877, w1880, w161, by decide, by decide, by decide +kernel⟩
theorem vv_X12_wedding : VV yX12_wedding 12 := ⟨w1878, w1879, by decide, TX12, 48, rfl⟩
theorem vl_L_135 : VL RL 135 yX11_after cX11_after 6 (some .int) 3 := ⟨w1409, w1412, w149, by decide, by decide, by decide +kernel⟩
theorem vv_X11_after : VV yX11_after 11 := ⟨w1410, w1411, by decide, TX11, 10, rfl⟩
theorem vl_L_138 : VL RL 138 yX12_after cX12_after 7 (some .int) 3 := ⟨w2050, w2053, w161, by decide, by decide, by decide +kernel⟩
theorem vv_X12_after : VV yX12_after 12 := ⟨w2051, w2052, by decide, TX12, 48, rfl⟩
theorem vl_L_139 : VL RL 139 yX11_share cX11_share 6 (some .long) 4 := ⟨w1425, w1428, w149, by decide, by decide, by decide +kernel⟩
theorem vv_X11_share : VV yX11_share 11 := ⟨w1426, w1427, by decide, TX11, 10, rfl⟩
theorem vl_L_142 : VL RL 142 yX12_share cX12_share 10 (some .long) 4 := ⟨w2106, w2109, w161, by decide, by decide, by decide +kernel⟩
theorem vv_X12_share : VV yX12_share 12 := ⟨w2107, w2108, by decide, TX12, 48, rfl⟩
theorem vl_L_143 : VL RL 143 yX11_later cX11_later 3 (some .int) 2 := ⟨w1430, w1433, w149, by decide, by decide, by decide +kernel⟩
theorem vv_X11_later : VV yX11_later 11 := ⟨w1431, w1432, by decide, TX11, 10, rfl⟩
theorem vl_L_146 : VL RL 146 yX12_later cX12_later 5 (some .int) 2 := ⟨w2110, w2113, w161, by decide, by decide, by decide +kernel⟩
theorem vv_X12_later : VV yX12_later 12 := ⟨w2111, w2112, by decide, TX12, 48, rfl⟩
theorem vl_L_147 : VL RL 147 yX11_count cX11_count 2 (some .int) 1 := ⟨w1434, w1437, w149, by decide, by decide, by decide +kernel⟩
theorem vv_X11_count : VV yX11_count 11 := ⟨w1435, w1436, by decide, TX11, 10, rfl⟩
theorem vl_L_150 : VL RL 150 yX12_count cX12_count 2 (some .int) 1 := ⟨w2127, w2130, w161, by decide, by decide, by decide +kernel⟩
theorem vv_X12_count : VV yX12_count 12 := ⟨w2128, w2129, by decide, TX12, 48, rfl⟩
theorem vl_L_151 : VL RL 151 yX11_image cX11_image 2 (some .boolean) 1 := ⟨w1438, w1441, w149, by decide, by decide, by decide +kernel⟩
theorem vv_X11_image : VV yX11_image 11 := ⟨w1439, w1440, by decide, TX11, 10, rfl⟩
theorem vl_L_155 : VL RL 155 yX12_image cX12_image 3 (some .boolean) 1 := ⟨w2131, w2134, w161, by decide, by decide, by decide +kernel⟩
theorem vv_X12_image : VV yX12_image 12 := ⟨w2132, w2133, by decide, TX12, 48, rfl⟩
theorem vl_L_156 : VL RL 156 yX11_again cX11_again 2 (some .boolean) 1 := ⟨w1447, w1450, w149, by decide, by decide, by decide +kernel⟩
theorem vv_X11_again : VV yX11_again 11 := ⟨w1448, w1449, by decide, TX11, 10, rfl⟩
theorem vl_L_159 : VL RL 159 yX12_again cX12_again 3 (some .boolean) 1 := ⟨w2135, w2138, w161, by decide, by decide, by decide +kernel⟩
theorem vv_X12_again : VV yX12_again 12 := ⟨w2136, w2137, by decide, TX12, 48, rfl⟩
/-- feed -/
def LK_feed (Inv : Dt → Dt → Prop) : Prop := ∀ (σx σm : Dt) (z1 z2 z3 z4 z5 : Int32), Inv σx σm → ∃ (r : Int32) (σx' : Dt) (σm' : Dt), f_X11_feed 0 z1 z2 z3 z4 z5 σx = some (r, σx') ∧ f_X12_feed 0 z1 z2 z3 z4 z5 σm = some (r, σm') ∧ Inv σx' σm'
/-- end -/
def LK_end (Inv : Dt → Dt → Prop) : Prop := ∀ (σx σm : Dt) (z1 : Int32), Inv σx σm → ∃ (r : Int32) (σx' : Dt) (σm' : Dt), f_X11_end 0 z1 σx = some (r, σx') ∧ f_X12_end 0 z1 σm = some (r, σm') ∧ Inv σx' σm'
/-- text -/
def LK_text (Inv : Dt → Dt → Prop) : Prop := ∀ (σx σm : Dt) (z1 z2 : Int32), Inv σx σm → ∃ (r : Int32) (σx' : Dt) (σm' : Dt), f_X11_text 0 z1 z2 σx = some (r, σx') ∧ f_X12_text 0 z1 z2 σm = some (r, σm') ∧ Inv σx' σm'
/-- fault -/
def LK_fault (Inv : Dt → Dt → Prop) : Prop := ∀ (σx σm : Dt) (z1 : Int32), Inv σx σm → ∃ (r : Int32), f_X11_fault 0 z1 σx = some r ∧ f_X12_fault 0 z1 σm = some r ∧ Inv σx σm
/-- valley -/
def LK_valley (Inv : Dt → Dt → Prop) : Prop := ∀ (σx σm : Dt) (z1 z2 : Int32), Inv σx σm → ∃ (r : Int32) (σm' : Dt), f_X11_valley 0 z1 z2 σx = some r ∧ f_X12_valley 0 z1 z2 σm = some (r, σm') ∧ Inv σx σm'
/-- deed -/
def LK_deed (Inv : Dt → Dt → Prop) : Prop := ∀ (σx σm : Dt) (z1 z2 z3 : Int32), Inv σx σm → ∃ (r : Int32) (σm' : Dt), f_X11_deed 0 z1 z2 z3 σx = some r ∧ f_X12_deed 0 z1 z2 z3 σm = some (r, σm') ∧ Inv σx σm'
/-- stop -/
def LK_stop (Inv : Dt → Dt → Prop) : Prop := ∀ (σx σm : Dt) (z1 z2 : Int32), Inv σx σm → ∃ (r : Int32) (σx' : Dt) (σm' : Dt), f_X11_stop 0 z1 z2 σx = some (r, σx') ∧ f_X12_stop 0 z1 z2 σm = some (r, σm') ∧ Inv σx' σm'
/-- state -/
def LK_state (Inv : Dt → Dt → Prop) : Prop := ∀ (σx σm : Dt) (z1 z2 z3 z4 : Int32), Inv σx σm → ∃ (r : Int32) (σx' : Dt) (σm' : Dt), f_X11_state 0 z1 z2 z3 z4 σx = some (r, σx') ∧ f_X12_state 0 z1 z2 z3 z4 σm = some (r, σm') ∧ Inv σx' σm'
/-- keep -/
def LK_keep (Inv : Dt → Dt → Prop) : Prop := ∀ (σx σm : Dt) (z1 z2 z3 z4 : Int32), Inv σx σm → ∃ (r : Int32) (σm' : Dt), f_X11_keep 0 z1 z2 z3 z4 σx = some r ∧ f_X12_keep 0 z1 z2 z3 z4 σm = some (r, σm') ∧ Inv σx σm'
/-- say -/
def LK_say (Inv : Dt → Dt → Prop) : Prop := ∀ (σx σm : Dt) (z1 z2 z3 z4 : Int32), Inv σx σm → ∃ (r : Int32) (σx' : Dt) (σm' : Dt), f_X11_say 0 z1 z2 z3 z4 σx = some (r, σx') ∧ f_X12_say 0 z1 z2 z3 z4 σm = some (r, σm') ∧ Inv σx' σm'
/-- dare -/
def LK_dare (Inv : Dt → Dt → Prop) : Prop := ∀ (σx σm : Dt) (z1 z2 z3 : Int32), Inv σx σm → (z3 = 0 ∨ z3 = 1) → ∃ (r : Int32) (σx' : Dt) (σm' : Dt), f_X11_dare 0 z1 z2 z3 σx = some (r, σx') ∧ f_X12_dare 0 z1 z2 z3 σm = some (r, σm') ∧ Inv σx' σm'
/-- plan -/
def LK_plan (Inv : Dt → Dt → Prop) : Prop := ∀ (σx σm : Dt) (z1 z2 z3 : Int32), Inv σx σm → ∃ (r : Int32) (σx' : Dt) (σm' : Dt), f_X11_plan 0 z1 z2 z3 σx = some (r, σx') ∧ f_X12_plan 0 z1 z2 z3 σm = some (r, σm') ∧ Inv σx' σm'
/-- odds -/
def LK_odds (Inv : Dt → Dt → Prop) : Prop := ∀ (σx σm : Dt) (z1 z2 z3 z4 z5 : Int32), Inv σx σm → (z5 = 0 ∨ z5 = 1) → ∃ (r : Int64) (σx' : Dt) (σm' : Dt), f_X11_odds 0 z1 z2 z3 z4 z5 σx = some (r, σx') ∧ f_X12_odds 0 z1 z2 z3 z4 z5 σm = some (r, σm') ∧ Inv σx' σm'
/-- power -/
def LK_power (Inv : Dt → Dt → Prop) : Prop := ∀ (σx σm : Dt) (z1 z2 z3 z4 z5 z6 : Int32), Inv σx σm → (z6 = 0 ∨ z6 = 1) → ∃ (r : Int64) (σx' : Dt) (σm' : Dt), f_X11_power 0 z1 z2 z3 z4 z5 z6 σx = some (r, σx') ∧ f_X12_power 0 z1 z2 z3 z4 z5 z6 σm = some (r, σm') ∧ Inv σx' σm'
/-- kinship -/
def LK_kinship (Inv : Dt → Dt → Prop) : Prop := ∀ (σx σm : Dt) (z1 z2 z3 z4 : Int32), Inv σx σm → (z4 = 0 ∨ z4 = 1) → ∃ (r : Int64) (σx' : Dt) (σm' : Dt), f_X11_kinship 0 z1 z2 z3 z4 σx = some (r, σx') ∧ f_X12_kinship 0 z1 z2 z3 z4 σm = some (r, σm') ∧ Inv σx' σm'
/-- line -/
def LK_line (Inv : Dt → Dt → Prop) : Prop := ∀ (σx σm : Dt) (z1 z2 : Int32), Inv σx σm → ∃ (r : Int32) (σx' : Dt) (σm' : Dt), f_X11_line 0 z1 z2 σx = some (r, σx') ∧ f_X12_line 0 z1 z2 σm = some (r, σm') ∧ Inv σx' σm'
/-- sight -/
def LK_sight (Inv : Dt → Dt → Prop) : Prop := ∀ (σx σm : Dt) (z1 z2 : Int32), Inv σx σm → ∃ (r : Int32) (σm' : Dt), f_X11_sight 0 z1 z2 σx = some r ∧ f_X12_sight 0 z1 z2 σm = some (r, σm') ∧ Inv σx σm'
/-- fits -/
def LK_fits (Inv : Dt → Dt → Prop) : Prop := ∀ (σx σm : Dt) (z1 z2 z3 : Int32), Inv σx σm → ∃ (r : Int32) (σx' : Dt) (σm' : Dt), f_X11_fits 0 z1 z2 z3 σx = some (r, σx') ∧ f_X12_fits 0 z1 z2 z3 σm = some (r, σm') ∧ Inv σx' σm'
/-- drawn -/
def LK_drawn (Inv : Dt → Dt → Prop) : Prop := ∀ (σx σm : Dt) (z1 z2 z3 z4 : Int32), Inv σx σm → ∃ (r : Int32) (σx' : Dt) (σm' : Dt), f_X11_drawn 0 z1 z2 z3 z4 σx = some (r, σx') ∧ f_X12_drawn 0 z1 z2 z3 z4 σm = some (r, σm') ∧ Inv σx' σm'
/-- elders -/
def LK_elders (Inv : Dt → Dt → Prop) : Prop := ∀ (σx σm : Dt) (z1 z2 z3 : Int32), Inv σx σm → (z3 = 0 ∨ z3 = 1) → ∃ (r : Int32) (σm' : Dt), f_X11_elders 0 z1 z2 z3 σx = some r ∧ f_X12_elders 0 z1 z2 z3 σm = some (r, σm') ∧ Inv σx σm'
/-- apart -/
def LK_apart (Inv : Dt → Dt → Prop) : Prop := ∀ (σx σm : Dt) (z1 z2 z3 : Int32), Inv σx σm → ∃ (r : Int32) (σm' : Dt), f_X11_apart 0 z1 z2 z3 σx = some r ∧ f_X12_apart 0 z1 z2 z3 σm = some (r, σm') ∧ Inv σx σm'
/-- houses -/
def LK_houses (Inv : Dt → Dt → Prop) : Prop := ∀ (σx σm : Dt) (z1 z2 : Int32), Inv σx σm → ∃ (r : Int32) (σx' : Dt) (σm' : Dt), f_X11_houses 0 z1 z2 σx = some (r, σx') ∧ f_X12_houses 0 z1 z2 σm = some (r, σm') ∧ Inv σx' σm'
/-- soon -/
def LK_soon (Inv : Dt → Dt → Prop) : Prop := ∀ (σx σm : Dt) (z1 z2 z3 : Int32), Inv σx σm → ∃ (r : Int32) (σm' : Dt), f_X11_soon 0 z1 z2 z3 σx = some r ∧ f_X12_soon 0 z1 z2 z3 σm = some (r, σm') ∧ Inv σx σm'
/-- most -/
def LK_most (Inv : Dt → Dt → Prop) : Prop := ∀ (σx σm : Dt) (z1 z2 z3 : Int32), Inv σx σm → ∃ (r : Int32) (σx' : Dt) (σm' : Dt), f_X11_most 0 z1 z2 z3 σx = some (r, σx') ∧ f_X12_most 0 z1 z2 z3 σm = some (r, σm') ∧ Inv σx' σm'
/-- lot -/
def LK_lot (Inv : Dt → Dt → Prop) : Prop := ∀ (σx σm : Dt) (z1 z2 z3 : Int32), Inv σx σm → (z3 = 0 ∨ z3 = 1) → ∃ (r : Int32) (σx' : Dt) (σm' : Dt), f_X11_lot 0 z1 z2 z3 σx = some (r, σx') ∧ f_X12_lot 0 z1 z2 z3 σm = some (r, σm') ∧ Inv σx' σm'
/-- heaps -/
def LK_heaps (Inv : Dt → Dt → Prop) : Prop := ∀ (σx σm : Dt) (z1 z2 : Int32), Inv σx σm → (z2 = 0 ∨ z2 = 1) → ∃ (r : Int32) (σx' : Dt) (σm' : Dt), f_X11_heaps 0 z1 z2 σx = some (r, σx') ∧ f_X12_heaps 0 z1 z2 σm = some (r, σm') ∧ Inv σx' σm'
/-- loss -/
def LK_loss (Inv : Dt → Dt → Prop) : Prop := ∀ (σx σm : Dt) (z1 z2 z3 : Int32), Inv σx σm → ∃ (r : Int32) (σm' : Dt), f_X11_loss 0 z1 z2 z3 σx = some r ∧ f_X12_loss 0 z1 z2 z3 σm = some (r, σm') ∧ Inv σx σm'
/-- wedding -/
def LK_wedding (Inv : Dt → Dt → Prop) : Prop := ∀ (σx σm : Dt) (z1 z2 z3 : Int32), Inv σx σm → ∃ (r : Int32) (σx' : Dt) (σm' : Dt), f_X11_wedding 0 z1 z2 z3 σx = some (r, σx') ∧ f_X12_wedding 0 z1 z2 z3 σm = some (r, σm') ∧ Inv σx' σm'
/-- after -/
def LK_after (Inv : Dt → Dt → Prop) : Prop := ∀ (σx σm : Dt) (z1 z2 z3 : Int32), Inv σx σm → ∃ (r : Int32) (σx' : Dt) (σm' : Dt), f_X11_after 0 z1 z2 z3 σx = some (r, σx') ∧ f_X12_after 0 z1 z2 z3 σm = some (r, σm') ∧ Inv σx' σm'
/-- share -/
def LK_share (Inv : Dt → Dt → Prop) : Prop := ∀ (σx σm : Dt) (z1 z2 z3 z4 : Int32), Inv σx σm → (z4 = 0 ∨ z4 = 1) → ∃ (r : Int64) (σx' : Dt) (σm' : Dt), f_X11_share 0 z1 z2 z3 z4 σx = some (r, σx') ∧ f_X12_share 0 z1 z2 z3 z4 σm = some (r, σm') ∧ Inv σx' σm'
/-- later -/
def LK_later (Inv : Dt → Dt → Prop) : Prop := ∀ (σx σm : Dt) (z1 z2 : Int32), Inv σx σm → ∃ (r : Int32) (σx' : Dt) (σm' : Dt), f_X11_later 0 z1 z2 σx = some (r, σx') ∧ f_X12_later 0 z1 z2 σm = some (r, σm') ∧ Inv σx' σm'
/-- count -/
def LK_count (Inv : Dt → Dt → Prop) : Prop := ∀ (σx σm : Dt) (z1 : Int32), Inv σx σm → ∃ (r : Int32), f_X11_count 0 z1 σx = some r ∧ f_X12_count 0 z1 σm = some r ∧ Inv σx σm
/-- image -/
def LK_image (Inv : Dt → Dt → Prop) : Prop := ∀ (σx σm : Dt) (z1 : Int32), Inv σx σm → ∃ (r : Int32) (σx' : Dt) (σm' : Dt), f_X11_image 0 z1 σx = some (r, σx') ∧ f_X12_image 0 z1 σm = some (r, σm') ∧ Inv σx' σm'
/-- again -/
def LK_again (Inv : Dt → Dt → Prop) : Prop := ∀ (σx σm : Dt) (z1 : Int32), Inv σx σm → ∃ (r : Int32) (σx' : Dt) (σm' : Dt), f_X11_again 0 z1 σx = some (r, σx') ∧ f_X12_again 0 z1 σm = some (r, σm') ∧ Inv σx' σm'
theorem lc_feed {M : Ml} (O : OkL M) (Inv : Dt → Dt → Prop) (hk_feed : LK_feed Inv) (σx σm : Dt) (hI : Inv σx σm) (x3 : Int32) (xs : Nat → Int32) (hxs : Mxs M = xs) (hin : ∀ j : Nat, j ≤ 6 → vp_in (x3 + Int32.ofNat j) (ML M)) (hgo : ∀ σx σm, Inv σx σm → GL M 1730 [(0, vT 300), (1, vA (some 0)), (2, vA (some 222)), (3, vI x3)] [] σx σm) : GL M 184 [(0, vT 300), (1, vA (some 0)), (2, vA (some 222)), (3, vI x3)] [] σx σm := by
  subst hxs
  refine q_aload_n O dL_law_184 rfl 1 rfl ?_
  refine q_tload_n O dL_law_185 rfl 0 rfl ?_
  refine q_iload_n O dL_law_186 rfl 3 rfl ?_
  refine q_iconst (v := 1) O dL_law_187 rfl ?_
  refine q_iadd O dL_law_188 ?_
  refine q_sld O dL_law_189 (hin 1 (by decide)) ?_
  refine q_tload_n O dL_law_190 rfl 0 rfl ?_
  refine q_iload_n O dL_law_191 rfl 3 rfl ?_
  refine q_iconst (v := 2) O dL_law_192 rfl ?_
  refine q_iadd O dL_law_193 ?_
  refine q_sld O dL_law_194 (hin 2 (by decide)) ?_
  refine q_tload_n O dL_law_195 rfl 0 rfl ?_
  refine q_iload_n O dL_law_196 rfl 3 rfl ?_
  refine q_iconst (v := 3) O dL_law_197 rfl ?_
  refine q_iadd O dL_law_198 ?_
  refine q_sld O dL_law_199 (hin 3 (by decide)) ?_
  refine q_tload_n O dL_law_200 rfl 0 rfl ?_
  refine q_iload_n O dL_law_201 rfl 3 rfl ?_
  refine q_iconst (v := 4) O dL_law_202 rfl ?_
  refine q_iadd O dL_law_203 ?_
  refine q_sld O dL_law_204 (hin 4 (by decide)) ?_
  refine q_tload_n O dL_law_205 rfl 0 rfl ?_
  refine q_iload_n O dL_law_206 rfl 3 rfl ?_
  refine q_iconst (v := 5) O dL_law_207 rfl ?_
  refine q_iadd O dL_law_208 ?_
  refine q_sld O dL_law_209 (hin 5 (by decide)) ?_
  obtain ⟨r, sx1, sm1, hfx, hfm, hI1⟩ := hk_feed σx σm (Mxs M (x3 + 1).toNatClampNeg) (Mxs M (x3 + 2).toNatClampNeg) (Mxs M (x3 + 3).toNatClampNeg) (Mxs M (x3 + 4).toNatClampNeg) (Mxs M (x3 + 5).toNatClampNeg) hI 
  refine q_callX O dL_law_210 vl_L_13 vv_X11_feed [vI (Mxs M (x3 + 1).toNatClampNeg), vI (Mxs M (x3 + 2).toNatClampNeg), vI (Mxs M (x3 + 3).toNatClampNeg), vI (Mxs M (x3 + 4).toNatClampNeg), vI (Mxs M (x3 + 5).toNatClampNeg)] rfl rfl rfl ⟨Nat.le_of_ble_eq_true rfl, Nat.le_of_ble_eq_true rfl⟩ (fun l => c_X11_feed l 0 (Mxs M (x3 + 1).toNatClampNeg) (Mxs M (x3 + 2).toNatClampNeg) (Mxs M (x3 + 3).toNatClampNeg) (Mxs M (x3 + 4).toNatClampNeg) (Mxs M (x3 + 5).toNatClampNeg) σx r sx1 hfx) ?_
  refine q_aload_n O dL_law_213 rfl 2 rfl ?_
  refine q_tload_n O dL_law_214 rfl 0 rfl ?_
  refine q_iload_n O dL_law_215 rfl 3 rfl ?_
  refine q_iconst (v := 1) O dL_law_216 rfl ?_
  refine q_iadd O dL_law_217 ?_
  refine q_sld O dL_law_218 (hin 1 (by decide)) ?_
  refine q_tload_n O dL_law_219 rfl 0 rfl ?_
  refine q_iload_n O dL_law_220 rfl 3 rfl ?_
  refine q_iconst (v := 2) O dL_law_221 rfl ?_
  refine q_iadd O dL_law_222 ?_
  refine q_sld O dL_law_223 (hin 2 (by decide)) ?_
  refine q_tload_n O dL_law_224 rfl 0 rfl ?_
  refine q_iload_n O dL_law_225 rfl 3 rfl ?_
  refine q_iconst (v := 3) O dL_law_226 rfl ?_
  refine q_iadd O dL_law_227 ?_
  refine q_sld O dL_law_228 (hin 3 (by decide)) ?_
  refine q_tload_n O dL_law_229 rfl 0 rfl ?_
  refine q_iload_n O dL_law_230 rfl 3 rfl ?_
  refine q_iconst (v := 4) O dL_law_231 rfl ?_
  refine q_iadd O dL_law_232 ?_
  refine q_sld O dL_law_233 (hin 4 (by decide)) ?_
  refine q_tload_n O dL_law_234 rfl 0 rfl ?_
  refine q_iload_n O dL_law_235 rfl 3 rfl ?_
  refine q_iconst (v := 5) O dL_law_236 rfl ?_
  refine q_iadd O dL_law_237 ?_
  refine q_sld O dL_law_238 (hin 5 (by decide)) ?_
  refine q_callM O dL_law_239 vl_L_17 vv_X12_feed [Mxs M (x3 + 1).toNatClampNeg, Mxs M (x3 + 2).toNatClampNeg, Mxs M (x3 + 3).toNatClampNeg, Mxs M (x3 + 4).toNatClampNeg, Mxs M (x3 + 5).toNatClampNeg] rfl rfl rfl ⟨Nat.le_of_ble_eq_true rfl, Nat.le_of_ble_eq_true rfl⟩ (fun _ _ _ => rfl) (fun l => c_X12_feed l 0 (Mxs M (x3 + 1).toNatClampNeg) (Mxs M (x3 + 2).toNatClampNeg) (Mxs M (x3 + 3).toNatClampNeg) (Mxs M (x3 + 4).toNatClampNeg) (Mxs M (x3 + 5).toNatClampNeg) σm r sm1 hfm) ?_
  refine q_icmp_eq O dL_law_242 rfl (fun _ => ?_) (fun c => absurd rfl c)
  exact hgo _ _ hI1
theorem lc_end {M : Ml} (O : OkL M) (Inv : Dt → Dt → Prop) (hk_end : LK_end Inv) (σx σm : Dt) (hI : Inv σx σm) (x3 : Int32) (xs : Nat → Int32) (hxs : Mxs M = xs) (hin : ∀ j : Nat, j ≤ 6 → vp_in (x3 + Int32.ofNat j) (ML M)) (hgo : ∀ σx σm, Inv σx σm → GL M 1730 [(0, vT 300), (1, vA (some 0)), (2, vA (some 222)), (3, vI x3)] [] σx σm) : GL M 247 [(0, vT 300), (1, vA (some 0)), (2, vA (some 222)), (3, vI x3)] [] σx σm := by
  subst hxs
  refine q_aload_n O dL_law_247 rfl 1 rfl ?_
  refine q_tload_n O dL_law_248 rfl 0 rfl ?_
  refine q_iload_n O dL_law_249 rfl 3 rfl ?_
  refine q_iconst (v := 1) O dL_law_250 rfl ?_
  refine q_iadd O dL_law_251 ?_
  refine q_sld O dL_law_252 (hin 1 (by decide)) ?_
  obtain ⟨r, sx1, sm1, hfx, hfm, hI1⟩ := hk_end σx σm (Mxs M (x3 + 1).toNatClampNeg) hI 
  refine q_callX O dL_law_253 vl_L_18 vv_X11_end [vI (Mxs M (x3 + 1).toNatClampNeg)] rfl rfl rfl ⟨Nat.le_of_ble_eq_true rfl, Nat.le_of_ble_eq_true rfl⟩ (fun l => c_X11_end l 0 (Mxs M (x3 + 1).toNatClampNeg) σx r sx1 hfx) ?_
  refine q_aload_n O dL_law_256 rfl 2 rfl ?_
  refine q_tload_n O dL_law_257 rfl 0 rfl ?_
  refine q_iload_n O dL_law_258 rfl 3 rfl ?_
  refine q_iconst (v := 1) O dL_law_259 rfl ?_
  refine q_iadd O dL_law_260 ?_
  refine q_sld O dL_law_261 (hin 1 (by decide)) ?_
  refine q_callM O dL_law_262 vl_L_22 vv_X12_end [Mxs M (x3 + 1).toNatClampNeg] rfl rfl rfl ⟨Nat.le_of_ble_eq_true rfl, Nat.le_of_ble_eq_true rfl⟩ (fun _ _ _ => rfl) (fun l => c_X12_end l 0 (Mxs M (x3 + 1).toNatClampNeg) σm r sm1 hfm) ?_
  refine q_icmp_eq O dL_law_265 rfl (fun _ => ?_) (fun c => absurd rfl c)
  exact hgo _ _ hI1
theorem lc_text {M : Ml} (O : OkL M) (Inv : Dt → Dt → Prop) (hk_text : LK_text Inv) (σx σm : Dt) (hI : Inv σx σm) (x3 : Int32) (xs : Nat → Int32) (hxs : Mxs M = xs) (hin : ∀ j : Nat, j ≤ 6 → vp_in (x3 + Int32.ofNat j) (ML M)) (hgo : ∀ σx σm, Inv σx σm → GL M 1730 [(0, vT 300), (1, vA (some 0)), (2, vA (some 222)), (3, vI x3)] [] σx σm) : GL M 270 [(0, vT 300), (1, vA (some 0)), (2, vA (some 222)), (3, vI x3)] [] σx σm := by
  subst hxs
  refine q_aload_n O dL_law_270 rfl 1 rfl ?_
  refine q_tload_n O dL_law_271 rfl 0 rfl ?_
  refine q_iload_n O dL_law_272 rfl 3 rfl ?_
  refine q_iconst (v := 1) O dL_law_273 rfl ?_
  refine q_iadd O dL_law_274 ?_
  refine q_sld O dL_law_275 (hin 1 (by decide)) ?_
  refine q_tload_n O dL_law_276 rfl 0 rfl ?_
  refine q_iload_n O dL_law_277 rfl 3 rfl ?_
  refine q_iconst (v := 2) O dL_law_278 rfl ?_
  refine q_iadd O dL_law_279 ?_
  refine q_sld O dL_law_280 (hin 2 (by decide)) ?_
  obtain ⟨r, sx1, sm1, hfx, hfm, hI1⟩ := hk_text σx σm (Mxs M (x3 + 1).toNatClampNeg) (Mxs M (x3 + 2).toNatClampNeg) hI 
  refine q_callX O dL_law_281 vl_L_23 vv_X11_text [vI (Mxs M (x3 + 1).toNatClampNeg), vI (Mxs M (x3 + 2).toNatClampNeg)] rfl rfl rfl ⟨Nat.le_of_ble_eq_true rfl, Nat.le_of_ble_eq_true rfl⟩ (fun l => c_X11_text l 0 (Mxs M (x3 + 1).toNatClampNeg) (Mxs M (x3 + 2).toNatClampNeg) σx r sx1 hfx) ?_
  refine q_aload_n O dL_law_284 rfl 2 rfl ?_
  refine q_tload_n O dL_law_285 rfl 0 rfl ?_
  refine q_iload_n O dL_law_286 rfl 3 rfl ?_
  refine q_iconst (v := 1) O dL_law_287 rfl ?_
  refine q_iadd O dL_law_288 ?_
  refine q_sld O dL_law_289 (hin 1 (by decide)) ?_
  refine q_tload_n O dL_law_290 rfl 0 rfl ?_
  refine q_iload_n O dL_law_291 rfl 3 rfl ?_
  refine q_iconst (v := 2) O dL_law_292 rfl ?_
  refine q_iadd O dL_law_293 ?_
  refine q_sld O dL_law_294 (hin 2 (by decide)) ?_
  refine q_callM O dL_law_295 vl_L_27 vv_X12_text [Mxs M (x3 + 1).toNatClampNeg, Mxs M (x3 + 2).toNatClampNeg] rfl rfl rfl ⟨Nat.le_of_ble_eq_true rfl, Nat.le_of_ble_eq_true rfl⟩ (fun _ _ _ => rfl) (fun l => c_X12_text l 0 (Mxs M (x3 + 1).toNatClampNeg) (Mxs M (x3 + 2).toNatClampNeg) σm r sm1 hfm) ?_
  refine q_icmp_eq O dL_law_298 rfl (fun _ => ?_) (fun c => absurd rfl c)
  exact hgo _ _ hI1
theorem lc_fault {M : Ml} (O : OkL M) (Inv : Dt → Dt → Prop) (hk_fault : LK_fault Inv) (σx σm : Dt) (hI : Inv σx σm) (x3 : Int32) (xs : Nat → Int32) (hxs : Mxs M = xs) (hin : ∀ j : Nat, j ≤ 6 → vp_in (x3 + Int32.ofNat j) (ML M)) (hgo : ∀ σx σm, Inv σx σm → GL M 1730 [(0, vT 300), (1, vA (some 0)), (2, vA (some 222)), (3, vI x3)] [] σx σm) : GL M 303 [(0, vT 300), (1, vA (some 0)), (2, vA (some 222)), (3, vI x3)] [] σx σm := by
  subst hxs
  refine q_aload_n O dL_law_303 rfl 1 rfl ?_
  refine q_tload_n O dL_law_304 rfl 0 rfl ?_
  refine q_iload_n O dL_law_305 rfl 3 rfl ?_
  refine q_iconst (v := 1) O dL_law_306 rfl ?_
  refine q_iadd O dL_law_307 ?_
  refine q_sld O dL_law_308 (hin 1 (by decide)) ?_
  obtain ⟨r, hfx, hfm, hI1⟩ := hk_fault σx σm (Mxs M (x3 + 1).toNatClampNeg) hI 
  refine q_callX O dL_law_309 vl_L_28 vv_X11_fault [vI (Mxs M (x3 + 1).toNatClampNeg)] rfl rfl rfl ⟨Nat.le_of_ble_eq_true rfl, Nat.le_of_ble_eq_true rfl⟩ (fun l => c_X11_fault l 0 (Mxs M (x3 + 1).toNatClampNeg) σx r hfx) ?_
  refine q_aload_n O dL_law_312 rfl 2 rfl ?_
  refine q_tload_n O dL_law_313 rfl 0 rfl ?_
  refine q_iload_n O dL_law_314 rfl 3 rfl ?_
  refine q_iconst (v := 1) O dL_law_315 rfl ?_
  refine q_iadd O dL_law_316 ?_
  refine q_sld O dL_law_317 (hin 1 (by decide)) ?_
  refine q_callM O dL_law_318 vl_L_31 vv_X12_fault [Mxs M (x3 + 1).toNatClampNeg] rfl rfl rfl ⟨Nat.le_of_ble_eq_true rfl, Nat.le_of_ble_eq_true rfl⟩ (fun _ _ _ => rfl) (fun l => c_X12_fault l 0 (Mxs M (x3 + 1).toNatClampNeg) σm r hfm) ?_
  refine q_icmp_eq O dL_law_321 rfl (fun _ => ?_) (fun c => absurd rfl c)
  exact hgo _ _ hI1
theorem lc_valley {M : Ml} (O : OkL M) (Inv : Dt → Dt → Prop) (hk_valley : LK_valley Inv) (σx σm : Dt) (hI : Inv σx σm) (x3 : Int32) (xs : Nat → Int32) (hxs : Mxs M = xs) (hin : ∀ j : Nat, j ≤ 6 → vp_in (x3 + Int32.ofNat j) (ML M)) (hgo : ∀ σx σm, Inv σx σm → GL M 1730 [(0, vT 300), (1, vA (some 0)), (2, vA (some 222)), (3, vI x3)] [] σx σm) : GL M 326 [(0, vT 300), (1, vA (some 0)), (2, vA (some 222)), (3, vI x3)] [] σx σm := by
  subst hxs
  refine q_aload_n O dL_law_326 rfl 1 rfl ?_
  refine q_tload_n O dL_law_327 rfl 0 rfl ?_
  refine q_iload_n O dL_law_328 rfl 3 rfl ?_
  refine q_iconst (v := 1) O dL_law_329 rfl ?_
  refine q_iadd O dL_law_330 ?_
  refine q_sld O dL_law_331 (hin 1 (by decide)) ?_
  refine q_tload_n O dL_law_332 rfl 0 rfl ?_
  refine q_iload_n O dL_law_333 rfl 3 rfl ?_
  refine q_iconst (v := 2) O dL_law_334 rfl ?_
  refine q_iadd O dL_law_335 ?_
  refine q_sld O dL_law_336 (hin 2 (by decide)) ?_
  obtain ⟨r, sm1, hfx, hfm, hI1⟩ := hk_valley σx σm (Mxs M (x3 + 1).toNatClampNeg) (Mxs M (x3 + 2).toNatClampNeg) hI 
  refine q_callX O dL_law_337 vl_L_32 vv_X11_valley [vI (Mxs M (x3 + 1).toNatClampNeg), vI (Mxs M (x3 + 2).toNatClampNeg)] rfl rfl rfl ⟨Nat.le_of_ble_eq_true rfl, Nat.le_of_ble_eq_true rfl⟩ (fun l => c_X11_valley l 0 (Mxs M (x3 + 1).toNatClampNeg) (Mxs M (x3 + 2).toNatClampNeg) σx r hfx) ?_
  refine q_aload_n O dL_law_340 rfl 2 rfl ?_
  refine q_tload_n O dL_law_341 rfl 0 rfl ?_
  refine q_iload_n O dL_law_342 rfl 3 rfl ?_
  refine q_iconst (v := 1) O dL_law_343 rfl ?_
  refine q_iadd O dL_law_344 ?_
  refine q_sld O dL_law_345 (hin 1 (by decide)) ?_
  refine q_tload_n O dL_law_346 rfl 0 rfl ?_
  refine q_iload_n O dL_law_347 rfl 3 rfl ?_
  refine q_iconst (v := 2) O dL_law_348 rfl ?_
  refine q_iadd O dL_law_349 ?_
  refine q_sld O dL_law_350 (hin 2 (by decide)) ?_
  refine q_callM O dL_law_351 vl_L_35 vv_X12_valley [Mxs M (x3 + 1).toNatClampNeg, Mxs M (x3 + 2).toNatClampNeg] rfl rfl rfl ⟨Nat.le_of_ble_eq_true rfl, Nat.le_of_ble_eq_true rfl⟩ (fun _ _ _ => rfl) (fun l => c_X12_valley l 0 (Mxs M (x3 + 1).toNatClampNeg) (Mxs M (x3 + 2).toNatClampNeg) σm r sm1 hfm) ?_
  refine q_icmp_eq O dL_law_354 rfl (fun _ => ?_) (fun c => absurd rfl c)
  exact hgo _ _ hI1
theorem lc_deed {M : Ml} (O : OkL M) (Inv : Dt → Dt → Prop) (hk_deed : LK_deed Inv) (σx σm : Dt) (hI : Inv σx σm) (x3 : Int32) (xs : Nat → Int32) (hxs : Mxs M = xs) (hin : ∀ j : Nat, j ≤ 6 → vp_in (x3 + Int32.ofNat j) (ML M)) (hgo : ∀ σx σm, Inv σx σm → GL M 1730 [(0, vT 300), (1, vA (some 0)), (2, vA (some 222)), (3, vI x3)] [] σx σm) : GL M 359 [(0, vT 300), (1, vA (some 0)), (2, vA (some 222)), (3, vI x3)] [] σx σm := by
  subst hxs
  refine q_aload_n O dL_law_359 rfl 1 rfl ?_
  refine q_tload_n O dL_law_360 rfl 0 rfl ?_
  refine q_iload_n O dL_law_361 rfl 3 rfl ?_
  refine q_iconst (v := 1) O dL_law_362 rfl ?_
  refine q_iadd O dL_law_363 ?_
  refine q_sld O dL_law_364 (hin 1 (by decide)) ?_
  refine q_tload_n O dL_law_365 rfl 0 rfl ?_
  refine q_iload_n O dL_law_366 rfl 3 rfl ?_
  refine q_iconst (v := 2) O dL_law_367 rfl ?_
  refine q_iadd O dL_law_368 ?_
  refine q_sld O dL_law_369 (hin 2 (by decide)) ?_
  refine q_tload_n O dL_law_370 rfl 0 rfl ?_
  refine q_iload_n O dL_law_371 rfl 3 rfl ?_
  refine q_iconst (v := 3) O dL_law_372 rfl ?_
  refine q_iadd O dL_law_373 ?_
  refine q_sld O dL_law_374 (hin 3 (by decide)) ?_
  obtain ⟨r, sm1, hfx, hfm, hI1⟩ := hk_deed σx σm (Mxs M (x3 + 1).toNatClampNeg) (Mxs M (x3 + 2).toNatClampNeg) (Mxs M (x3 + 3).toNatClampNeg) hI 
  refine q_callX O dL_law_375 vl_L_36 vv_X11_deed [vI (Mxs M (x3 + 1).toNatClampNeg), vI (Mxs M (x3 + 2).toNatClampNeg), vI (Mxs M (x3 + 3).toNatClampNeg)] rfl rfl rfl ⟨Nat.le_of_ble_eq_true rfl, Nat.le_of_ble_eq_true rfl⟩ (fun l => c_X11_deed l 0 (Mxs M (x3 + 1).toNatClampNeg) (Mxs M (x3 + 2).toNatClampNeg) (Mxs M (x3 + 3).toNatClampNeg) σx r hfx) ?_
  refine q_aload_n O dL_law_378 rfl 2 rfl ?_
  refine q_tload_n O dL_law_379 rfl 0 rfl ?_
  refine q_iload_n O dL_law_380 rfl 3 rfl ?_
  refine q_iconst (v := 1) O dL_law_381 rfl ?_
  refine q_iadd O dL_law_382 ?_
  refine q_sld O dL_law_383 (hin 1 (by decide)) ?_
  refine q_tload_n O dL_law_384 rfl 0 rfl ?_
  refine q_iload_n O dL_law_385 rfl 3 rfl ?_
  refine q_iconst (v := 2) O dL_law_386 rfl ?_
  refine q_iadd O dL_law_387 ?_
  refine q_sld O dL_law_388 (hin 2 (by decide)) ?_
  refine q_tload_n O dL_law_389 rfl 0 rfl ?_
  refine q_iload_n O dL_law_390 rfl 3 rfl ?_
  refine q_iconst (v := 3) O dL_law_391 rfl ?_
  refine q_iadd O dL_law_392 ?_
  refine q_sld O dL_law_393 (hin 3 (by decide)) ?_
  refine q_callM O dL_law_394 vl_L_40 vv_X12_deed [Mxs M (x3 + 1).toNatClampNeg, Mxs M (x3 + 2).toNatClampNeg, Mxs M (x3 + 3).toNatClampNeg] rfl rfl rfl ⟨Nat.le_of_ble_eq_true rfl, Nat.le_of_ble_eq_true rfl⟩ (fun _ _ _ => rfl) (fun l => c_X12_deed l 0 (Mxs M (x3 + 1).toNatClampNeg) (Mxs M (x3 + 2).toNatClampNeg) (Mxs M (x3 + 3).toNatClampNeg) σm r sm1 hfm) ?_
  refine q_icmp_eq O dL_law_397 rfl (fun _ => ?_) (fun c => absurd rfl c)
  exact hgo _ _ hI1
theorem lc_stop {M : Ml} (O : OkL M) (Inv : Dt → Dt → Prop) (hk_stop : LK_stop Inv) (σx σm : Dt) (hI : Inv σx σm) (x3 : Int32) (xs : Nat → Int32) (hxs : Mxs M = xs) (hin : ∀ j : Nat, j ≤ 6 → vp_in (x3 + Int32.ofNat j) (ML M)) (hgo : ∀ σx σm, Inv σx σm → GL M 1730 [(0, vT 300), (1, vA (some 0)), (2, vA (some 222)), (3, vI x3)] [] σx σm) : GL M 402 [(0, vT 300), (1, vA (some 0)), (2, vA (some 222)), (3, vI x3)] [] σx σm := by
  subst hxs
  refine q_aload_n O dL_law_402 rfl 1 rfl ?_
  refine q_tload_n O dL_law_403 rfl 0 rfl ?_
  refine q_iload_n O dL_law_404 rfl 3 rfl ?_
  refine q_iconst (v := 1) O dL_law_405 rfl ?_
  refine q_iadd O dL_law_406 ?_
  refine q_sld O dL_law_407 (hin 1 (by decide)) ?_
  refine q_tload_n O dL_law_408 rfl 0 rfl ?_
  refine q_iload_n O dL_law_409 rfl 3 rfl ?_
  refine q_iconst (v := 2) O dL_law_410 rfl ?_
  refine q_iadd O dL_law_411 ?_
  refine q_sld O dL_law_412 (hin 2 (by decide)) ?_
  obtain ⟨r, sx1, sm1, hfx, hfm, hI1⟩ := hk_stop σx σm (Mxs M (x3 + 1).toNatClampNeg) (Mxs M (x3 + 2).toNatClampNeg) hI 
  refine q_callX O dL_law_413 vl_L_41 vv_X11_stop [vI (Mxs M (x3 + 1).toNatClampNeg), vI (Mxs M (x3 + 2).toNatClampNeg)] rfl rfl rfl ⟨Nat.le_of_ble_eq_true rfl, Nat.le_of_ble_eq_true rfl⟩ (fun l => c_X11_stop l 0 (Mxs M (x3 + 1).toNatClampNeg) (Mxs M (x3 + 2).toNatClampNeg) σx r sx1 hfx) ?_
  refine q_aload_n O dL_law_416 rfl 2 rfl ?_
  refine q_tload_n O dL_law_417 rfl 0 rfl ?_
  refine q_iload_n O dL_law_418 rfl 3 rfl ?_
  refine q_iconst (v := 1) O dL_law_419 rfl ?_
  refine q_iadd O dL_law_420 ?_
  refine q_sld O dL_law_421 (hin 1 (by decide)) ?_
  refine q_tload_n O dL_law_422 rfl 0 rfl ?_
  refine q_iload_n O dL_law_423 rfl 3 rfl ?_
  refine q_iconst (v := 2) O dL_law_424 rfl ?_
  refine q_iadd O dL_law_425 ?_
  refine q_sld O dL_law_426 (hin 2 (by decide)) ?_
  refine q_callM O dL_law_427 vl_L_44 vv_X12_stop [Mxs M (x3 + 1).toNatClampNeg, Mxs M (x3 + 2).toNatClampNeg] rfl rfl rfl ⟨Nat.le_of_ble_eq_true rfl, Nat.le_of_ble_eq_true rfl⟩ (fun _ _ _ => rfl) (fun l => c_X12_stop l 0 (Mxs M (x3 + 1).toNatClampNeg) (Mxs M (x3 + 2).toNatClampNeg) σm r sm1 hfm) ?_
  refine q_icmp_eq O dL_law_430 rfl (fun _ => ?_) (fun c => absurd rfl c)
  exact hgo _ _ hI1
theorem lc_state {M : Ml} (O : OkL M) (Inv : Dt → Dt → Prop) (hk_state : LK_state Inv) (σx σm : Dt) (hI : Inv σx σm) (x3 : Int32) (xs : Nat → Int32) (hxs : Mxs M = xs) (hin : ∀ j : Nat, j ≤ 6 → vp_in (x3 + Int32.ofNat j) (ML M)) (hgo : ∀ σx σm, Inv σx σm → GL M 1730 [(0, vT 300), (1, vA (some 0)), (2, vA (some 222)), (3, vI x3)] [] σx σm) : GL M 435 [(0, vT 300), (1, vA (some 0)), (2, vA (some 222)), (3, vI x3)] [] σx σm := by
  subst hxs
  refine q_aload_n O dL_law_435 rfl 1 rfl ?_
  refine q_tload_n O dL_law_436 rfl 0 rfl ?_
  refine q_iload_n O dL_law_437 rfl 3 rfl ?_
  refine q_iconst (v := 1) O dL_law_438 rfl ?_
  refine q_iadd O dL_law_439 ?_
  refine q_sld O dL_law_440 (hin 1 (by decide)) ?_
  refine q_tload_n O dL_law_441 rfl 0 rfl ?_
  refine q_iload_n O dL_law_442 rfl 3 rfl ?_
  refine q_iconst (v := 2) O dL_law_443 rfl ?_
  refine q_iadd O dL_law_444 ?_
  refine q_sld O dL_law_445 (hin 2 (by decide)) ?_
  refine q_tload_n O dL_law_446 rfl 0 rfl ?_
  refine q_iload_n O dL_law_447 rfl 3 rfl ?_
  refine q_iconst (v := 3) O dL_law_448 rfl ?_
  refine q_iadd O dL_law_449 ?_
  refine q_sld O dL_law_450 (hin 3 (by decide)) ?_
  refine q_tload_n O dL_law_451 rfl 0 rfl ?_
  refine q_iload_n O dL_law_452 rfl 3 rfl ?_
  refine q_iconst (v := 4) O dL_law_453 rfl ?_
  refine q_iadd O dL_law_454 ?_
  refine q_sld O dL_law_455 (hin 4 (by decide)) ?_
  obtain ⟨r, sx1, sm1, hfx, hfm, hI1⟩ := hk_state σx σm (Mxs M (x3 + 1).toNatClampNeg) (Mxs M (x3 + 2).toNatClampNeg) (Mxs M (x3 + 3).toNatClampNeg) (Mxs M (x3 + 4).toNatClampNeg) hI 
  refine q_callX O dL_law_456 vl_L_45 vv_X11_state [vI (Mxs M (x3 + 1).toNatClampNeg), vI (Mxs M (x3 + 2).toNatClampNeg), vI (Mxs M (x3 + 3).toNatClampNeg), vI (Mxs M (x3 + 4).toNatClampNeg)] rfl rfl rfl ⟨Nat.le_of_ble_eq_true rfl, Nat.le_of_ble_eq_true rfl⟩ (fun l => c_X11_state l 0 (Mxs M (x3 + 1).toNatClampNeg) (Mxs M (x3 + 2).toNatClampNeg) (Mxs M (x3 + 3).toNatClampNeg) (Mxs M (x3 + 4).toNatClampNeg) σx r sx1 hfx) ?_
  refine q_aload_n O dL_law_459 rfl 2 rfl ?_
  refine q_tload_n O dL_law_460 rfl 0 rfl ?_
  refine q_iload_n O dL_law_461 rfl 3 rfl ?_
  refine q_iconst (v := 1) O dL_law_462 rfl ?_
  refine q_iadd O dL_law_463 ?_
  refine q_sld O dL_law_464 (hin 1 (by decide)) ?_
  refine q_tload_n O dL_law_465 rfl 0 rfl ?_
  refine q_iload_n O dL_law_466 rfl 3 rfl ?_
  refine q_iconst (v := 2) O dL_law_467 rfl ?_
  refine q_iadd O dL_law_468 ?_
  refine q_sld O dL_law_469 (hin 2 (by decide)) ?_
  refine q_tload_n O dL_law_470 rfl 0 rfl ?_
  refine q_iload_n O dL_law_471 rfl 3 rfl ?_
  refine q_iconst (v := 3) O dL_law_472 rfl ?_
  refine q_iadd O dL_law_473 ?_
  refine q_sld O dL_law_474 (hin 3 (by decide)) ?_
  refine q_tload_n O dL_law_475 rfl 0 rfl ?_
  refine q_iload_n O dL_law_476 rfl 3 rfl ?_
  refine q_iconst (v := 4) O dL_law_477 rfl ?_
  refine q_iadd O dL_law_478 ?_
  refine q_sld O dL_law_479 (hin 4 (by decide)) ?_
  refine q_callM O dL_law_480 vl_L_49 vv_X12_state [Mxs M (x3 + 1).toNatClampNeg, Mxs M (x3 + 2).toNatClampNeg, Mxs M (x3 + 3).toNatClampNeg, Mxs M (x3 + 4).toNatClampNeg] rfl rfl rfl ⟨Nat.le_of_ble_eq_true rfl, Nat.le_of_ble_eq_true rfl⟩ (fun _ _ _ => rfl) (fun l => c_X12_state l 0 (Mxs M (x3 + 1).toNatClampNeg) (Mxs M (x3 + 2).toNatClampNeg) (Mxs M (x3 + 3).toNatClampNeg) (Mxs M (x3 + 4).toNatClampNeg) σm r sm1 hfm) ?_
  refine q_icmp_eq O dL_law_483 rfl (fun _ => ?_) (fun c => absurd rfl c)
  exact hgo _ _ hI1
theorem lc_keep {M : Ml} (O : OkL M) (Inv : Dt → Dt → Prop) (hk_keep : LK_keep Inv) (σx σm : Dt) (hI : Inv σx σm) (x3 : Int32) (xs : Nat → Int32) (hxs : Mxs M = xs) (hin : ∀ j : Nat, j ≤ 6 → vp_in (x3 + Int32.ofNat j) (ML M)) (hgo : ∀ σx σm, Inv σx σm → GL M 1730 [(0, vT 300), (1, vA (some 0)), (2, vA (some 222)), (3, vI x3)] [] σx σm) : GL M 488 [(0, vT 300), (1, vA (some 0)), (2, vA (some 222)), (3, vI x3)] [] σx σm := by
  subst hxs
  refine q_aload_n O dL_law_488 rfl 1 rfl ?_
  refine q_tload_n O dL_law_489 rfl 0 rfl ?_
  refine q_iload_n O dL_law_490 rfl 3 rfl ?_
  refine q_iconst (v := 1) O dL_law_491 rfl ?_
  refine q_iadd O dL_law_492 ?_
  refine q_sld O dL_law_493 (hin 1 (by decide)) ?_
  refine q_tload_n O dL_law_494 rfl 0 rfl ?_
  refine q_iload_n O dL_law_495 rfl 3 rfl ?_
  refine q_iconst (v := 2) O dL_law_496 rfl ?_
  refine q_iadd O dL_law_497 ?_
  refine q_sld O dL_law_498 (hin 2 (by decide)) ?_
  refine q_tload_n O dL_law_499 rfl 0 rfl ?_
  refine q_iload_n O dL_law_500 rfl 3 rfl ?_
  refine q_iconst (v := 3) O dL_law_501 rfl ?_
  refine q_iadd O dL_law_502 ?_
  refine q_sld O dL_law_503 (hin 3 (by decide)) ?_
  refine q_tload_n O dL_law_504 rfl 0 rfl ?_
  refine q_iload_n O dL_law_505 rfl 3 rfl ?_
  refine q_iconst (v := 4) O dL_law_506 rfl ?_
  refine q_iadd O dL_law_507 ?_
  refine q_sld O dL_law_508 (hin 4 (by decide)) ?_
  obtain ⟨r, sm1, hfx, hfm, hI1⟩ := hk_keep σx σm (Mxs M (x3 + 1).toNatClampNeg) (Mxs M (x3 + 2).toNatClampNeg) (Mxs M (x3 + 3).toNatClampNeg) (Mxs M (x3 + 4).toNatClampNeg) hI 
  refine q_callX O dL_law_509 vl_L_50 vv_X11_keep [vI (Mxs M (x3 + 1).toNatClampNeg), vI (Mxs M (x3 + 2).toNatClampNeg), vI (Mxs M (x3 + 3).toNatClampNeg), vI (Mxs M (x3 + 4).toNatClampNeg)] rfl rfl rfl ⟨Nat.le_of_ble_eq_true rfl, Nat.le_of_ble_eq_true rfl⟩ (fun l => c_X11_keep l 0 (Mxs M (x3 + 1).toNatClampNeg) (Mxs M (x3 + 2).toNatClampNeg) (Mxs M (x3 + 3).toNatClampNeg) (Mxs M (x3 + 4).toNatClampNeg) σx r hfx) ?_
  refine q_aload_n O dL_law_512 rfl 2 rfl ?_
  refine q_tload_n O dL_law_513 rfl 0 rfl ?_
  refine q_iload_n O dL_law_514 rfl 3 rfl ?_
  refine q_iconst (v := 1) O dL_law_515 rfl ?_
  refine q_iadd O dL_law_516 ?_
  refine q_sld O dL_law_517 (hin 1 (by decide)) ?_
  refine q_tload_n O dL_law_518 rfl 0 rfl ?_
  refine q_iload_n O dL_law_519 rfl 3 rfl ?_
  refine q_iconst (v := 2) O dL_law_520 rfl ?_
  refine q_iadd O dL_law_521 ?_
  refine q_sld O dL_law_522 (hin 2 (by decide)) ?_
  refine q_tload_n O dL_law_523 rfl 0 rfl ?_
  refine q_iload_n O dL_law_524 rfl 3 rfl ?_
  refine q_iconst (v := 3) O dL_law_525 rfl ?_
  refine q_iadd O dL_law_526 ?_
  refine q_sld O dL_law_527 (hin 3 (by decide)) ?_
  refine q_tload_n O dL_law_528 rfl 0 rfl ?_
  refine q_iload_n O dL_law_529 rfl 3 rfl ?_
  refine q_iconst (v := 4) O dL_law_530 rfl ?_
  refine q_iadd O dL_law_531 ?_
  refine q_sld O dL_law_532 (hin 4 (by decide)) ?_
  refine q_callM O dL_law_533 vl_L_53 vv_X12_keep [Mxs M (x3 + 1).toNatClampNeg, Mxs M (x3 + 2).toNatClampNeg, Mxs M (x3 + 3).toNatClampNeg, Mxs M (x3 + 4).toNatClampNeg] rfl rfl rfl ⟨Nat.le_of_ble_eq_true rfl, Nat.le_of_ble_eq_true rfl⟩ (fun _ _ _ => rfl) (fun l => c_X12_keep l 0 (Mxs M (x3 + 1).toNatClampNeg) (Mxs M (x3 + 2).toNatClampNeg) (Mxs M (x3 + 3).toNatClampNeg) (Mxs M (x3 + 4).toNatClampNeg) σm r sm1 hfm) ?_
  refine q_icmp_eq O dL_law_536 rfl (fun _ => ?_) (fun c => absurd rfl c)
  exact hgo _ _ hI1
theorem lc_say {M : Ml} (O : OkL M) (Inv : Dt → Dt → Prop) (hk_say : LK_say Inv) (σx σm : Dt) (hI : Inv σx σm) (x3 : Int32) (xs : Nat → Int32) (hxs : Mxs M = xs) (hin : ∀ j : Nat, j ≤ 6 → vp_in (x3 + Int32.ofNat j) (ML M)) (hgo : ∀ σx σm, Inv σx σm → GL M 1730 [(0, vT 300), (1, vA (some 0)), (2, vA (some 222)), (3, vI x3)] [] σx σm) : GL M 541 [(0, vT 300), (1, vA (some 0)), (2, vA (some 222)), (3, vI x3)] [] σx σm := by
  subst hxs
  refine q_aload_n O dL_law_541 rfl 1 rfl ?_
  refine q_tload_n O dL_law_542 rfl 0 rfl ?_
  refine q_iload_n O dL_law_543 rfl 3 rfl ?_
  refine q_iconst (v := 1) O dL_law_544 rfl ?_
  refine q_iadd O dL_law_545 ?_
  refine q_sld O dL_law_546 (hin 1 (by decide)) ?_
  refine q_tload_n O dL_law_547 rfl 0 rfl ?_
  refine q_iload_n O dL_law_548 rfl 3 rfl ?_
  refine q_iconst (v := 2) O dL_law_549 rfl ?_
  refine q_iadd O dL_law_550 ?_
  refine q_sld O dL_law_551 (hin 2 (by decide)) ?_
  refine q_tload_n O dL_law_552 rfl 0 rfl ?_
  refine q_iload_n O dL_law_553 rfl 3 rfl ?_
  refine q_iconst (v := 3) O dL_law_554 rfl ?_
  refine q_iadd O dL_law_555 ?_
  refine q_sld O dL_law_556 (hin 3 (by decide)) ?_
  refine q_tload_n O dL_law_557 rfl 0 rfl ?_
  refine q_iload_n O dL_law_558 rfl 3 rfl ?_
  refine q_iconst (v := 4) O dL_law_559 rfl ?_
  refine q_iadd O dL_law_560 ?_
  refine q_sld O dL_law_561 (hin 4 (by decide)) ?_
  obtain ⟨r, sx1, sm1, hfx, hfm, hI1⟩ := hk_say σx σm (Mxs M (x3 + 1).toNatClampNeg) (Mxs M (x3 + 2).toNatClampNeg) (Mxs M (x3 + 3).toNatClampNeg) (Mxs M (x3 + 4).toNatClampNeg) hI 
  refine q_callX O dL_law_562 vl_L_54 vv_X11_say [vI (Mxs M (x3 + 1).toNatClampNeg), vI (Mxs M (x3 + 2).toNatClampNeg), vI (Mxs M (x3 + 3).toNatClampNeg), vI (Mxs M (x3 + 4).toNatClampNeg)] rfl rfl rfl ⟨Nat.le_of_ble_eq_true rfl, Nat.le_of_ble_eq_true rfl⟩ (fun l => c_X11_say l 0 (Mxs M (x3 + 1).toNatClampNeg) (Mxs M (x3 + 2).toNatClampNeg) (Mxs M (x3 + 3).toNatClampNeg) (Mxs M (x3 + 4).toNatClampNeg) σx r sx1 hfx) ?_
  refine q_aload_n O dL_law_565 rfl 2 rfl ?_
  refine q_tload_n O dL_law_566 rfl 0 rfl ?_
  refine q_iload_n O dL_law_567 rfl 3 rfl ?_
  refine q_iconst (v := 1) O dL_law_568 rfl ?_
  refine q_iadd O dL_law_569 ?_
  refine q_sld O dL_law_570 (hin 1 (by decide)) ?_
  refine q_tload_n O dL_law_571 rfl 0 rfl ?_
  refine q_iload_n O dL_law_572 rfl 3 rfl ?_
  refine q_iconst (v := 2) O dL_law_573 rfl ?_
  refine q_iadd O dL_law_574 ?_
  refine q_sld O dL_law_575 (hin 2 (by decide)) ?_
  refine q_tload_n O dL_law_576 rfl 0 rfl ?_
  refine q_iload_n O dL_law_577 rfl 3 rfl ?_
  refine q_iconst (v := 3) O dL_law_578 rfl ?_
  refine q_iadd O dL_law_579 ?_
  refine q_sld O dL_law_580 (hin 3 (by decide)) ?_
  refine q_tload_n O dL_law_581 rfl 0 rfl ?_
  refine q_iload_n O dL_law_582 rfl 3 rfl ?_
  refine q_iconst (v := 4) O dL_law_583 rfl ?_
  refine q_iadd O dL_law_584 ?_
  refine q_sld O dL_law_585 (hin 4 (by decide)) ?_
  refine q_callM O dL_law_586 vl_L_57 vv_X12_say [Mxs M (x3 + 1).toNatClampNeg, Mxs M (x3 + 2).toNatClampNeg, Mxs M (x3 + 3).toNatClampNeg, Mxs M (x3 + 4).toNatClampNeg] rfl rfl rfl ⟨Nat.le_of_ble_eq_true rfl, Nat.le_of_ble_eq_true rfl⟩ (fun _ _ _ => rfl) (fun l => c_X12_say l 0 (Mxs M (x3 + 1).toNatClampNeg) (Mxs M (x3 + 2).toNatClampNeg) (Mxs M (x3 + 3).toNatClampNeg) (Mxs M (x3 + 4).toNatClampNeg) σm r sm1 hfm) ?_
  refine q_icmp_eq O dL_law_589 rfl (fun _ => ?_) (fun c => absurd rfl c)
  exact hgo _ _ hI1
theorem lc_dare {M : Ml} (O : OkL M) (Inv : Dt → Dt → Prop) (hk_dare : LK_dare Inv) (σx σm : Dt) (hI : Inv σx σm) (x3 : Int32) (xs : Nat → Int32) (hxs : Mxs M = xs) (hin : ∀ j : Nat, j ≤ 6 → vp_in (x3 + Int32.ofNat j) (ML M)) (hgo : ∀ σx σm, Inv σx σm → GL M 1730 [(0, vT 300), (1, vA (some 0)), (2, vA (some 222)), (3, vI x3)] [] σx σm) : GL M 594 [(0, vT 300), (1, vA (some 0)), (2, vA (some 222)), (3, vI x3)] [] σx σm := by
  subst hxs
  refine q_aload_n O dL_law_594 rfl 1 rfl ?_
  refine q_tload_n O dL_law_595 rfl 0 rfl ?_
  refine q_iload_n O dL_law_596 rfl 3 rfl ?_
  refine q_iconst (v := 1) O dL_law_597 rfl ?_
  refine q_iadd O dL_law_598 ?_
  refine q_sld O dL_law_599 (hin 1 (by decide)) ?_
  refine q_tload_n O dL_law_600 rfl 0 rfl ?_
  refine q_iload_n O dL_law_601 rfl 3 rfl ?_
  refine q_iconst (v := 2) O dL_law_602 rfl ?_
  refine q_iadd O dL_law_603 ?_
  refine q_sld O dL_law_604 (hin 2 (by decide)) ?_
  refine q_tload_n O dL_law_605 rfl 0 rfl ?_
  refine q_iload_n O dL_law_606 rfl 3 rfl ?_
  refine q_iconst (v := 3) O dL_law_607 rfl ?_
  refine q_iadd O dL_law_608 ?_
  refine q_sld O dL_law_609 (hin 3 (by decide)) ?_
  refine q_if_eq O dL_law_610 rfl (fun hc3 => ?_) (fun hc3 => ?_)
  · skip
    refine q_iconst (v := 0) O dL_law_617 rfl ?_
    obtain ⟨r, sx1, sm1, hfx, hfm, hI1⟩ := hk_dare σx σm (Mxs M (x3 + 1).toNatClampNeg) (Mxs M (x3 + 2).toNatClampNeg) (0) hI (by decide)
    refine q_callX O dL_law_618 vl_L_58 vv_X11_dare [vI (Mxs M (x3 + 1).toNatClampNeg), vI (Mxs M (x3 + 2).toNatClampNeg), vI (0)] rfl rfl rfl ⟨Nat.le_of_ble_eq_true rfl, Nat.le_of_ble_eq_true rfl⟩ (fun l => c_X11_dare l 0 (Mxs M (x3 + 1).toNatClampNeg) (Mxs M (x3 + 2).toNatClampNeg) (0) σx r sx1 hfx) ?_
    refine q_aload_n O dL_law_621 rfl 2 rfl ?_
    refine q_tload_n O dL_law_622 rfl 0 rfl ?_
    refine q_iload_n O dL_law_623 rfl 3 rfl ?_
    refine q_iconst (v := 1) O dL_law_624 rfl ?_
    refine q_iadd O dL_law_625 ?_
    refine q_sld O dL_law_626 (hin 1 (by decide)) ?_
    refine q_tload_n O dL_law_627 rfl 0 rfl ?_
    refine q_iload_n O dL_law_628 rfl 3 rfl ?_
    refine q_iconst (v := 2) O dL_law_629 rfl ?_
    refine q_iadd O dL_law_630 ?_
    refine q_sld O dL_law_631 (hin 2 (by decide)) ?_
    refine q_tload_n O dL_law_632 rfl 0 rfl ?_
    refine q_iload_n O dL_law_633 rfl 3 rfl ?_
    refine q_iconst (v := 3) O dL_law_634 rfl ?_
    refine q_iadd O dL_law_635 ?_
    refine q_sld O dL_law_636 (hin 3 (by decide)) ?_
    refine q_if_eq O dL_law_637 rfl (fun _ => ?_) (fun c => absurd hc3 c)
    refine q_iconst (v := 0) O dL_law_644 rfl ?_
    refine q_callM O dL_law_645 vl_L_62 vv_X12_dare [Mxs M (x3 + 1).toNatClampNeg, Mxs M (x3 + 2).toNatClampNeg, 0] rfl rfl rfl ⟨Nat.le_of_ble_eq_true rfl, Nat.le_of_ble_eq_true rfl⟩ (fun _ _ _ => rfl) (fun l => c_X12_dare l 0 (Mxs M (x3 + 1).toNatClampNeg) (Mxs M (x3 + 2).toNatClampNeg) (0) σm r sm1 hfm) ?_
    refine q_icmp_eq O dL_law_648 rfl (fun _ => ?_) (fun c => absurd rfl c)
    exact hgo _ _ hI1
  · skip
    refine q_iconst (v := 1) O dL_law_613 rfl ?_
    refine q_goto O dL_law_614 rfl ?_
    obtain ⟨r, sx1, sm1, hfx, hfm, hI1⟩ := hk_dare σx σm (Mxs M (x3 + 1).toNatClampNeg) (Mxs M (x3 + 2).toNatClampNeg) (1) hI (by decide)
    refine q_callX O dL_law_618 vl_L_58 vv_X11_dare [vI (Mxs M (x3 + 1).toNatClampNeg), vI (Mxs M (x3 + 2).toNatClampNeg), vI (1)] rfl rfl rfl ⟨Nat.le_of_ble_eq_true rfl, Nat.le_of_ble_eq_true rfl⟩ (fun l => c_X11_dare l 0 (Mxs M (x3 + 1).toNatClampNeg) (Mxs M (x3 + 2).toNatClampNeg) (1) σx r sx1 hfx) ?_
    refine q_aload_n O dL_law_621 rfl 2 rfl ?_
    refine q_tload_n O dL_law_622 rfl 0 rfl ?_
    refine q_iload_n O dL_law_623 rfl 3 rfl ?_
    refine q_iconst (v := 1) O dL_law_624 rfl ?_
    refine q_iadd O dL_law_625 ?_
    refine q_sld O dL_law_626 (hin 1 (by decide)) ?_
    refine q_tload_n O dL_law_627 rfl 0 rfl ?_
    refine q_iload_n O dL_law_628 rfl 3 rfl ?_
    refine q_iconst (v := 2) O dL_law_629 rfl ?_
    refine q_iadd O dL_law_630 ?_
    refine q_sld O dL_law_631 (hin 2 (by decide)) ?_
    refine q_tload_n O dL_law_632 rfl 0 rfl ?_
    refine q_iload_n O dL_law_633 rfl 3 rfl ?_
    refine q_iconst (v := 3) O dL_law_634 rfl ?_
    refine q_iadd O dL_law_635 ?_
    refine q_sld O dL_law_636 (hin 3 (by decide)) ?_
    refine q_if_eq O dL_law_637 rfl (fun c => absurd c hc3) (fun _ => ?_)
    refine q_iconst (v := 1) O dL_law_640 rfl ?_
    refine q_goto O dL_law_641 rfl ?_
    refine q_callM O dL_law_645 vl_L_62 vv_X12_dare [Mxs M (x3 + 1).toNatClampNeg, Mxs M (x3 + 2).toNatClampNeg, 1] rfl rfl rfl ⟨Nat.le_of_ble_eq_true rfl, Nat.le_of_ble_eq_true rfl⟩ (fun _ _ _ => rfl) (fun l => c_X12_dare l 0 (Mxs M (x3 + 1).toNatClampNeg) (Mxs M (x3 + 2).toNatClampNeg) (1) σm r sm1 hfm) ?_
    refine q_icmp_eq O dL_law_648 rfl (fun _ => ?_) (fun c => absurd rfl c)
    exact hgo _ _ hI1
theorem lc_plan {M : Ml} (O : OkL M) (Inv : Dt → Dt → Prop) (hk_plan : LK_plan Inv) (σx σm : Dt) (hI : Inv σx σm) (x3 : Int32) (xs : Nat → Int32) (hxs : Mxs M = xs) (hin : ∀ j : Nat, j ≤ 6 → vp_in (x3 + Int32.ofNat j) (ML M)) (hgo : ∀ σx σm, Inv σx σm → GL M 1730 [(0, vT 300), (1, vA (some 0)), (2, vA (some 222)), (3, vI x3)] [] σx σm) : GL M 653 [(0, vT 300), (1, vA (some 0)), (2, vA (some 222)), (3, vI x3)] [] σx σm := by
  subst hxs
  refine q_aload_n O dL_law_653 rfl 1 rfl ?_
  refine q_tload_n O dL_law_654 rfl 0 rfl ?_
  refine q_iload_n O dL_law_655 rfl 3 rfl ?_
  refine q_iconst (v := 1) O dL_law_656 rfl ?_
  refine q_iadd O dL_law_657 ?_
  refine q_sld O dL_law_658 (hin 1 (by decide)) ?_
  refine q_tload_n O dL_law_659 rfl 0 rfl ?_
  refine q_iload_n O dL_law_660 rfl 3 rfl ?_
  refine q_iconst (v := 2) O dL_law_661 rfl ?_
  refine q_iadd O dL_law_662 ?_
  refine q_sld O dL_law_663 (hin 2 (by decide)) ?_
  refine q_tload_n O dL_law_664 rfl 0 rfl ?_
  refine q_iload_n O dL_law_665 rfl 3 rfl ?_
  refine q_iconst (v := 3) O dL_law_666 rfl ?_
  refine q_iadd O dL_law_667 ?_
  refine q_sld O dL_law_668 (hin 3 (by decide)) ?_
  obtain ⟨r, sx1, sm1, hfx, hfm, hI1⟩ := hk_plan σx σm (Mxs M (x3 + 1).toNatClampNeg) (Mxs M (x3 + 2).toNatClampNeg) (Mxs M (x3 + 3).toNatClampNeg) hI 
  refine q_callX O dL_law_669 vl_L_63 vv_X11_plan [vI (Mxs M (x3 + 1).toNatClampNeg), vI (Mxs M (x3 + 2).toNatClampNeg), vI (Mxs M (x3 + 3).toNatClampNeg)] rfl rfl rfl ⟨Nat.le_of_ble_eq_true rfl, Nat.le_of_ble_eq_true rfl⟩ (fun l => c_X11_plan l 0 (Mxs M (x3 + 1).toNatClampNeg) (Mxs M (x3 + 2).toNatClampNeg) (Mxs M (x3 + 3).toNatClampNeg) σx r sx1 hfx) ?_
  refine q_aload_n O dL_law_672 rfl 2 rfl ?_
  refine q_tload_n O dL_law_673 rfl 0 rfl ?_
  refine q_iload_n O dL_law_674 rfl 3 rfl ?_
  refine q_iconst (v := 1) O dL_law_675 rfl ?_
  refine q_iadd O dL_law_676 ?_
  refine q_sld O dL_law_677 (hin 1 (by decide)) ?_
  refine q_tload_n O dL_law_678 rfl 0 rfl ?_
  refine q_iload_n O dL_law_679 rfl 3 rfl ?_
  refine q_iconst (v := 2) O dL_law_680 rfl ?_
  refine q_iadd O dL_law_681 ?_
  refine q_sld O dL_law_682 (hin 2 (by decide)) ?_
  refine q_tload_n O dL_law_683 rfl 0 rfl ?_
  refine q_iload_n O dL_law_684 rfl 3 rfl ?_
  refine q_iconst (v := 3) O dL_law_685 rfl ?_
  refine q_iadd O dL_law_686 ?_
  refine q_sld O dL_law_687 (hin 3 (by decide)) ?_
  refine q_callM O dL_law_688 vl_L_66 vv_X12_plan [Mxs M (x3 + 1).toNatClampNeg, Mxs M (x3 + 2).toNatClampNeg, Mxs M (x3 + 3).toNatClampNeg] rfl rfl rfl ⟨Nat.le_of_ble_eq_true rfl, Nat.le_of_ble_eq_true rfl⟩ (fun _ _ _ => rfl) (fun l => c_X12_plan l 0 (Mxs M (x3 + 1).toNatClampNeg) (Mxs M (x3 + 2).toNatClampNeg) (Mxs M (x3 + 3).toNatClampNeg) σm r sm1 hfm) ?_
  refine q_icmp_eq O dL_law_691 rfl (fun _ => ?_) (fun c => absurd rfl c)
  exact hgo _ _ hI1
theorem lc_odds {M : Ml} (O : OkL M) (Inv : Dt → Dt → Prop) (hk_odds : LK_odds Inv) (σx σm : Dt) (hI : Inv σx σm) (x3 : Int32) (xs : Nat → Int32) (hxs : Mxs M = xs) (hin : ∀ j : Nat, j ≤ 6 → vp_in (x3 + Int32.ofNat j) (ML M)) (hgo : ∀ σx σm, Inv σx σm → GL M 1730 [(0, vT 300), (1, vA (some 0)), (2, vA (some 222)), (3, vI x3)] [] σx σm) : GL M 696 [(0, vT 300), (1, vA (some 0)), (2, vA (some 222)), (3, vI x3)] [] σx σm := by
  subst hxs
  refine q_aload_n O dL_law_696 rfl 1 rfl ?_
  refine q_tload_n O dL_law_697 rfl 0 rfl ?_
  refine q_iload_n O dL_law_698 rfl 3 rfl ?_
  refine q_iconst (v := 1) O dL_law_699 rfl ?_
  refine q_iadd O dL_law_700 ?_
  refine q_sld O dL_law_701 (hin 1 (by decide)) ?_
  refine q_tload_n O dL_law_702 rfl 0 rfl ?_
  refine q_iload_n O dL_law_703 rfl 3 rfl ?_
  refine q_iconst (v := 2) O dL_law_704 rfl ?_
  refine q_iadd O dL_law_705 ?_
  refine q_sld O dL_law_706 (hin 2 (by decide)) ?_
  refine q_tload_n O dL_law_707 rfl 0 rfl ?_
  refine q_iload_n O dL_law_708 rfl 3 rfl ?_
  refine q_iconst (v := 3) O dL_law_709 rfl ?_
  refine q_iadd O dL_law_710 ?_
  refine q_sld O dL_law_711 (hin 3 (by decide)) ?_
  refine q_tload_n O dL_law_712 rfl 0 rfl ?_
  refine q_iload_n O dL_law_713 rfl 3 rfl ?_
  refine q_iconst (v := 4) O dL_law_714 rfl ?_
  refine q_iadd O dL_law_715 ?_
  refine q_sld O dL_law_716 (hin 4 (by decide)) ?_
  refine q_tload_n O dL_law_717 rfl 0 rfl ?_
  refine q_iload_n O dL_law_718 rfl 3 rfl ?_
  refine q_iconst (v := 5) O dL_law_719 rfl ?_
  refine q_iadd O dL_law_720 ?_
  refine q_sld O dL_law_721 (hin 5 (by decide)) ?_
  refine q_if_eq O dL_law_722 rfl (fun hc5 => ?_) (fun hc5 => ?_)
  · skip
    refine q_iconst (v := 0) O dL_law_729 rfl ?_
    obtain ⟨r, sx1, sm1, hfx, hfm, hI1⟩ := hk_odds σx σm (Mxs M (x3 + 1).toNatClampNeg) (Mxs M (x3 + 2).toNatClampNeg) (Mxs M (x3 + 3).toNatClampNeg) (Mxs M (x3 + 4).toNatClampNeg) (0) hI (by decide)
    refine q_callX O dL_law_730 vl_L_67 vv_X11_odds [vI (Mxs M (x3 + 1).toNatClampNeg), vI (Mxs M (x3 + 2).toNatClampNeg), vI (Mxs M (x3 + 3).toNatClampNeg), vI (Mxs M (x3 + 4).toNatClampNeg), vI (0)] rfl rfl rfl ⟨Nat.le_of_ble_eq_true rfl, Nat.le_of_ble_eq_true rfl⟩ (fun l => c_X11_odds l 0 (Mxs M (x3 + 1).toNatClampNeg) (Mxs M (x3 + 2).toNatClampNeg) (Mxs M (x3 + 3).toNatClampNeg) (Mxs M (x3 + 4).toNatClampNeg) (0) σx r sx1 hfx) ?_
    refine q_aload_n O dL_law_733 rfl 2 rfl ?_
    refine q_tload_n O dL_law_734 rfl 0 rfl ?_
    refine q_iload_n O dL_law_735 rfl 3 rfl ?_
    refine q_iconst (v := 1) O dL_law_736 rfl ?_
    refine q_iadd O dL_law_737 ?_
    refine q_sld O dL_law_738 (hin 1 (by decide)) ?_
    refine q_tload_n O dL_law_739 rfl 0 rfl ?_
    refine q_iload_n O dL_law_740 rfl 3 rfl ?_
    refine q_iconst (v := 2) O dL_law_741 rfl ?_
    refine q_iadd O dL_law_742 ?_
    refine q_sld O dL_law_743 (hin 2 (by decide)) ?_
    refine q_tload_n O dL_law_744 rfl 0 rfl ?_
    refine q_iload_n O dL_law_745 rfl 3 rfl ?_
    refine q_iconst (v := 3) O dL_law_746 rfl ?_
    refine q_iadd O dL_law_747 ?_
    refine q_sld O dL_law_748 (hin 3 (by decide)) ?_
    refine q_tload_n O dL_law_749 rfl 0 rfl ?_
    refine q_iload_n O dL_law_750 rfl 3 rfl ?_
    refine q_iconst (v := 4) O dL_law_751 rfl ?_
    refine q_iadd O dL_law_752 ?_
    refine q_sld O dL_law_753 (hin 4 (by decide)) ?_
    refine q_tload_n O dL_law_754 rfl 0 rfl ?_
    refine q_iload_n O dL_law_755 rfl 3 rfl ?_
    refine q_iconst (v := 5) O dL_law_756 rfl ?_
    refine q_iadd O dL_law_757 ?_
    refine q_sld O dL_law_758 (hin 5 (by decide)) ?_
    refine q_if_eq O dL_law_759 rfl (fun _ => ?_) (fun c => absurd hc5 c)
    refine q_iconst (v := 0) O dL_law_766 rfl ?_
    refine q_callM O dL_law_767 vl_L_71 vv_X12_odds [Mxs M (x3 + 1).toNatClampNeg, Mxs M (x3 + 2).toNatClampNeg, Mxs M (x3 + 3).toNatClampNeg, Mxs M (x3 + 4).toNatClampNeg, 0] rfl rfl rfl ⟨Nat.le_of_ble_eq_true rfl, Nat.le_of_ble_eq_true rfl⟩ (fun _ _ _ => rfl) (fun l => c_X12_odds l 0 (Mxs M (x3 + 1).toNatClampNeg) (Mxs M (x3 + 2).toNatClampNeg) (Mxs M (x3 + 3).toNatClampNeg) (Mxs M (x3 + 4).toNatClampNeg) (0) σm r sm1 hfm) ?_
    refine q_lcmp O dL_law_770 ?_
    refine q_if_eq O dL_law_771 rfl (fun _ => ?_) (fun c => absurd (lcmp_self r) c)
    exact hgo _ _ hI1
  · skip
    refine q_iconst (v := 1) O dL_law_725 rfl ?_
    refine q_goto O dL_law_726 rfl ?_
    obtain ⟨r, sx1, sm1, hfx, hfm, hI1⟩ := hk_odds σx σm (Mxs M (x3 + 1).toNatClampNeg) (Mxs M (x3 + 2).toNatClampNeg) (Mxs M (x3 + 3).toNatClampNeg) (Mxs M (x3 + 4).toNatClampNeg) (1) hI (by decide)
    refine q_callX O dL_law_730 vl_L_67 vv_X11_odds [vI (Mxs M (x3 + 1).toNatClampNeg), vI (Mxs M (x3 + 2).toNatClampNeg), vI (Mxs M (x3 + 3).toNatClampNeg), vI (Mxs M (x3 + 4).toNatClampNeg), vI (1)] rfl rfl rfl ⟨Nat.le_of_ble_eq_true rfl, Nat.le_of_ble_eq_true rfl⟩ (fun l => c_X11_odds l 0 (Mxs M (x3 + 1).toNatClampNeg) (Mxs M (x3 + 2).toNatClampNeg) (Mxs M (x3 + 3).toNatClampNeg) (Mxs M (x3 + 4).toNatClampNeg) (1) σx r sx1 hfx) ?_
    refine q_aload_n O dL_law_733 rfl 2 rfl ?_
    refine q_tload_n O dL_law_734 rfl 0 rfl ?_
    refine q_iload_n O dL_law_735 rfl 3 rfl ?_
    refine q_iconst (v := 1) O dL_law_736 rfl ?_
    refine q_iadd O dL_law_737 ?_
    refine q_sld O dL_law_738 (hin 1 (by decide)) ?_
    refine q_tload_n O dL_law_739 rfl 0 rfl ?_
    refine q_iload_n O dL_law_740 rfl 3 rfl ?_
    refine q_iconst (v := 2) O dL_law_741 rfl ?_
    refine q_iadd O dL_law_742 ?_
    refine q_sld O dL_law_743 (hin 2 (by decide)) ?_
    refine q_tload_n O dL_law_744 rfl 0 rfl ?_
    refine q_iload_n O dL_law_745 rfl 3 rfl ?_
    refine q_iconst (v := 3) O dL_law_746 rfl ?_
    refine q_iadd O dL_law_747 ?_
    refine q_sld O dL_law_748 (hin 3 (by decide)) ?_
    refine q_tload_n O dL_law_749 rfl 0 rfl ?_
    refine q_iload_n O dL_law_750 rfl 3 rfl ?_
    refine q_iconst (v := 4) O dL_law_751 rfl ?_
    refine q_iadd O dL_law_752 ?_
    refine q_sld O dL_law_753 (hin 4 (by decide)) ?_
    refine q_tload_n O dL_law_754 rfl 0 rfl ?_
    refine q_iload_n O dL_law_755 rfl 3 rfl ?_
    refine q_iconst (v := 5) O dL_law_756 rfl ?_
    refine q_iadd O dL_law_757 ?_
    refine q_sld O dL_law_758 (hin 5 (by decide)) ?_
    refine q_if_eq O dL_law_759 rfl (fun c => absurd c hc5) (fun _ => ?_)
    refine q_iconst (v := 1) O dL_law_762 rfl ?_
    refine q_goto O dL_law_763 rfl ?_
    refine q_callM O dL_law_767 vl_L_71 vv_X12_odds [Mxs M (x3 + 1).toNatClampNeg, Mxs M (x3 + 2).toNatClampNeg, Mxs M (x3 + 3).toNatClampNeg, Mxs M (x3 + 4).toNatClampNeg, 1] rfl rfl rfl ⟨Nat.le_of_ble_eq_true rfl, Nat.le_of_ble_eq_true rfl⟩ (fun _ _ _ => rfl) (fun l => c_X12_odds l 0 (Mxs M (x3 + 1).toNatClampNeg) (Mxs M (x3 + 2).toNatClampNeg) (Mxs M (x3 + 3).toNatClampNeg) (Mxs M (x3 + 4).toNatClampNeg) (1) σm r sm1 hfm) ?_
    refine q_lcmp O dL_law_770 ?_
    refine q_if_eq O dL_law_771 rfl (fun _ => ?_) (fun c => absurd (lcmp_self r) c)
    exact hgo _ _ hI1
theorem lc_power {M : Ml} (O : OkL M) (Inv : Dt → Dt → Prop) (hk_power : LK_power Inv) (σx σm : Dt) (hI : Inv σx σm) (x3 : Int32) (xs : Nat → Int32) (hxs : Mxs M = xs) (hin : ∀ j : Nat, j ≤ 6 → vp_in (x3 + Int32.ofNat j) (ML M)) (hgo : ∀ σx σm, Inv σx σm → GL M 1730 [(0, vT 300), (1, vA (some 0)), (2, vA (some 222)), (3, vI x3)] [] σx σm) : GL M 776 [(0, vT 300), (1, vA (some 0)), (2, vA (some 222)), (3, vI x3)] [] σx σm := by
  subst hxs
  refine q_aload_n O dL_law_776 rfl 1 rfl ?_
  refine q_tload_n O dL_law_777 rfl 0 rfl ?_
  refine q_iload_n O dL_law_778 rfl 3 rfl ?_
  refine q_iconst (v := 1) O dL_law_779 rfl ?_
  refine q_iadd O dL_law_780 ?_
  refine q_sld O dL_law_781 (hin 1 (by decide)) ?_
  refine q_tload_n O dL_law_782 rfl 0 rfl ?_
  refine q_iload_n O dL_law_783 rfl 3 rfl ?_
  refine q_iconst (v := 2) O dL_law_784 rfl ?_
  refine q_iadd O dL_law_785 ?_
  refine q_sld O dL_law_786 (hin 2 (by decide)) ?_
  refine q_tload_n O dL_law_787 rfl 0 rfl ?_
  refine q_iload_n O dL_law_788 rfl 3 rfl ?_
  refine q_iconst (v := 3) O dL_law_789 rfl ?_
  refine q_iadd O dL_law_790 ?_
  refine q_sld O dL_law_791 (hin 3 (by decide)) ?_
  refine q_tload_n O dL_law_792 rfl 0 rfl ?_
  refine q_iload_n O dL_law_793 rfl 3 rfl ?_
  refine q_iconst (v := 4) O dL_law_794 rfl ?_
  refine q_iadd O dL_law_795 ?_
  refine q_sld O dL_law_796 (hin 4 (by decide)) ?_
  refine q_tload_n O dL_law_797 rfl 0 rfl ?_
  refine q_iload_n O dL_law_798 rfl 3 rfl ?_
  refine q_iconst (v := 5) O dL_law_799 rfl ?_
  refine q_iadd O dL_law_800 ?_
  refine q_sld O dL_law_801 (hin 5 (by decide)) ?_
  refine q_tload_n O dL_law_802 rfl 0 rfl ?_
  refine q_iload_n O dL_law_803 rfl 3 rfl ?_
  refine q_bipush (v := 6) O dL_law_804 rfl ?_
  refine q_iadd O dL_law_806 ?_
  refine q_sld O dL_law_807 (hin 6 (by decide)) ?_
  refine q_if_eq O dL_law_808 rfl (fun hc6 => ?_) (fun hc6 => ?_)
  · skip
    refine q_iconst (v := 0) O dL_law_815 rfl ?_
    obtain ⟨r, sx1, sm1, hfx, hfm, hI1⟩ := hk_power σx σm (Mxs M (x3 + 1).toNatClampNeg) (Mxs M (x3 + 2).toNatClampNeg) (Mxs M (x3 + 3).toNatClampNeg) (Mxs M (x3 + 4).toNatClampNeg) (Mxs M (x3 + 5).toNatClampNeg) (0) hI (by decide)
    refine q_callX O dL_law_816 vl_L_72 vv_X11_power [vI (Mxs M (x3 + 1).toNatClampNeg), vI (Mxs M (x3 + 2).toNatClampNeg), vI (Mxs M (x3 + 3).toNatClampNeg), vI (Mxs M (x3 + 4).toNatClampNeg), vI (Mxs M (x3 + 5).toNatClampNeg), vI (0)] rfl rfl rfl ⟨Nat.le_of_ble_eq_true rfl, Nat.le_of_ble_eq_true rfl⟩ (fun l => c_X11_power l 0 (Mxs M (x3 + 1).toNatClampNeg) (Mxs M (x3 + 2).toNatClampNeg) (Mxs M (x3 + 3).toNatClampNeg) (Mxs M (x3 + 4).toNatClampNeg) (Mxs M (x3 + 5).toNatClampNeg) (0) σx r sx1 hfx) ?_
    refine q_aload_n O dL_law_819 rfl 2 rfl ?_
    refine q_tload_n O dL_law_820 rfl 0 rfl ?_
    refine q_iload_n O dL_law_821 rfl 3 rfl ?_
    refine q_iconst (v := 1) O dL_law_822 rfl ?_
    refine q_iadd O dL_law_823 ?_
    refine q_sld O dL_law_824 (hin 1 (by decide)) ?_
    refine q_tload_n O dL_law_825 rfl 0 rfl ?_
    refine q_iload_n O dL_law_826 rfl 3 rfl ?_
    refine q_iconst (v := 2) O dL_law_827 rfl ?_
    refine q_iadd O dL_law_828 ?_
    refine q_sld O dL_law_829 (hin 2 (by decide)) ?_
    refine q_tload_n O dL_law_830 rfl 0 rfl ?_
    refine q_iload_n O dL_law_831 rfl 3 rfl ?_
    refine q_iconst (v := 3) O dL_law_832 rfl ?_
    refine q_iadd O dL_law_833 ?_
    refine q_sld O dL_law_834 (hin 3 (by decide)) ?_
    refine q_tload_n O dL_law_835 rfl 0 rfl ?_
    refine q_iload_n O dL_law_836 rfl 3 rfl ?_
    refine q_iconst (v := 4) O dL_law_837 rfl ?_
    refine q_iadd O dL_law_838 ?_
    refine q_sld O dL_law_839 (hin 4 (by decide)) ?_
    refine q_tload_n O dL_law_840 rfl 0 rfl ?_
    refine q_iload_n O dL_law_841 rfl 3 rfl ?_
    refine q_iconst (v := 5) O dL_law_842 rfl ?_
    refine q_iadd O dL_law_843 ?_
    refine q_sld O dL_law_844 (hin 5 (by decide)) ?_
    refine q_tload_n O dL_law_845 rfl 0 rfl ?_
    refine q_iload_n O dL_law_846 rfl 3 rfl ?_
    refine q_bipush (v := 6) O dL_law_847 rfl ?_
    refine q_iadd O dL_law_849 ?_
    refine q_sld O dL_law_850 (hin 6 (by decide)) ?_
    refine q_if_eq O dL_law_851 rfl (fun _ => ?_) (fun c => absurd hc6 c)
    refine q_iconst (v := 0) O dL_law_858 rfl ?_
    refine q_callM O dL_law_859 vl_L_76 vv_X12_power [Mxs M (x3 + 1).toNatClampNeg, Mxs M (x3 + 2).toNatClampNeg, Mxs M (x3 + 3).toNatClampNeg, Mxs M (x3 + 4).toNatClampNeg, Mxs M (x3 + 5).toNatClampNeg, 0] rfl rfl rfl ⟨Nat.le_of_ble_eq_true rfl, Nat.le_of_ble_eq_true rfl⟩ (fun _ _ _ => rfl) (fun l => c_X12_power l 0 (Mxs M (x3 + 1).toNatClampNeg) (Mxs M (x3 + 2).toNatClampNeg) (Mxs M (x3 + 3).toNatClampNeg) (Mxs M (x3 + 4).toNatClampNeg) (Mxs M (x3 + 5).toNatClampNeg) (0) σm r sm1 hfm) ?_
    refine q_lcmp O dL_law_862 ?_
    refine q_if_eq O dL_law_863 rfl (fun _ => ?_) (fun c => absurd (lcmp_self r) c)
    exact hgo _ _ hI1
  · skip
    refine q_iconst (v := 1) O dL_law_811 rfl ?_
    refine q_goto O dL_law_812 rfl ?_
    obtain ⟨r, sx1, sm1, hfx, hfm, hI1⟩ := hk_power σx σm (Mxs M (x3 + 1).toNatClampNeg) (Mxs M (x3 + 2).toNatClampNeg) (Mxs M (x3 + 3).toNatClampNeg) (Mxs M (x3 + 4).toNatClampNeg) (Mxs M (x3 + 5).toNatClampNeg) (1) hI (by decide)
    refine q_callX O dL_law_816 vl_L_72 vv_X11_power [vI (Mxs M (x3 + 1).toNatClampNeg), vI (Mxs M (x3 + 2).toNatClampNeg), vI (Mxs M (x3 + 3).toNatClampNeg), vI (Mxs M (x3 + 4).toNatClampNeg), vI (Mxs M (x3 + 5).toNatClampNeg), vI (1)] rfl rfl rfl ⟨Nat.le_of_ble_eq_true rfl, Nat.le_of_ble_eq_true rfl⟩ (fun l => c_X11_power l 0 (Mxs M (x3 + 1).toNatClampNeg) (Mxs M (x3 + 2).toNatClampNeg) (Mxs M (x3 + 3).toNatClampNeg) (Mxs M (x3 + 4).toNatClampNeg) (Mxs M (x3 + 5).toNatClampNeg) (1) σx r sx1 hfx) ?_
    refine q_aload_n O dL_law_819 rfl 2 rfl ?_
    refine q_tload_n O dL_law_820 rfl 0 rfl ?_
    refine q_iload_n O dL_law_821 rfl 3 rfl ?_
    refine q_iconst (v := 1) O dL_law_822 rfl ?_
    refine q_iadd O dL_law_823 ?_
    refine q_sld O dL_law_824 (hin 1 (by decide)) ?_
    refine q_tload_n O dL_law_825 rfl 0 rfl ?_
    refine q_iload_n O dL_law_826 rfl 3 rfl ?_
    refine q_iconst (v := 2) O dL_law_827 rfl ?_
    refine q_iadd O dL_law_828 ?_
    refine q_sld O dL_law_829 (hin 2 (by decide)) ?_
    refine q_tload_n O dL_law_830 rfl 0 rfl ?_
    refine q_iload_n O dL_law_831 rfl 3 rfl ?_
    refine q_iconst (v := 3) O dL_law_832 rfl ?_
    refine q_iadd O dL_law_833 ?_
    refine q_sld O dL_law_834 (hin 3 (by decide)) ?_
    refine q_tload_n O dL_law_835 rfl 0 rfl ?_
    refine q_iload_n O dL_law_836 rfl 3 rfl ?_
    refine q_iconst (v := 4) O dL_law_837 rfl ?_
    refine q_iadd O dL_law_838 ?_
    refine q_sld O dL_law_839 (hin 4 (by decide)) ?_
    refine q_tload_n O dL_law_840 rfl 0 rfl ?_
    refine q_iload_n O dL_law_841 rfl 3 rfl ?_
    refine q_iconst (v := 5) O dL_law_842 rfl ?_
    refine q_iadd O dL_law_843 ?_
    refine q_sld O dL_law_844 (hin 5 (by decide)) ?_
    refine q_tload_n O dL_law_845 rfl 0 rfl ?_
    refine q_iload_n O dL_law_846 rfl 3 rfl ?_
    refine q_bipush (v := 6) O dL_law_847 rfl ?_
    refine q_iadd O dL_law_849 ?_
    refine q_sld O dL_law_850 (hin 6 (by decide)) ?_
    refine q_if_eq O dL_law_851 rfl (fun c => absurd c hc6) (fun _ => ?_)
    refine q_iconst (v := 1) O dL_law_854 rfl ?_
    refine q_goto O dL_law_855 rfl ?_
    refine q_callM O dL_law_859 vl_L_76 vv_X12_power [Mxs M (x3 + 1).toNatClampNeg, Mxs M (x3 + 2).toNatClampNeg, Mxs M (x3 + 3).toNatClampNeg, Mxs M (x3 + 4).toNatClampNeg, Mxs M (x3 + 5).toNatClampNeg, 1] rfl rfl rfl ⟨Nat.le_of_ble_eq_true rfl, Nat.le_of_ble_eq_true rfl⟩ (fun _ _ _ => rfl) (fun l => c_X12_power l 0 (Mxs M (x3 + 1).toNatClampNeg) (Mxs M (x3 + 2).toNatClampNeg) (Mxs M (x3 + 3).toNatClampNeg) (Mxs M (x3 + 4).toNatClampNeg) (Mxs M (x3 + 5).toNatClampNeg) (1) σm r sm1 hfm) ?_
    refine q_lcmp O dL_law_862 ?_
    refine q_if_eq O dL_law_863 rfl (fun _ => ?_) (fun c => absurd (lcmp_self r) c)
    exact hgo _ _ hI1
theorem lc_kinship {M : Ml} (O : OkL M) (Inv : Dt → Dt → Prop) (hk_kinship : LK_kinship Inv) (σx σm : Dt) (hI : Inv σx σm) (x3 : Int32) (xs : Nat → Int32) (hxs : Mxs M = xs) (hin : ∀ j : Nat, j ≤ 6 → vp_in (x3 + Int32.ofNat j) (ML M)) (hgo : ∀ σx σm, Inv σx σm → GL M 1730 [(0, vT 300), (1, vA (some 0)), (2, vA (some 222)), (3, vI x3)] [] σx σm) : GL M 868 [(0, vT 300), (1, vA (some 0)), (2, vA (some 222)), (3, vI x3)] [] σx σm := by
  subst hxs
  refine q_aload_n O dL_law_868 rfl 1 rfl ?_
  refine q_tload_n O dL_law_869 rfl 0 rfl ?_
  refine q_iload_n O dL_law_870 rfl 3 rfl ?_
  refine q_iconst (v := 1) O dL_law_871 rfl ?_
  refine q_iadd O dL_law_872 ?_
  refine q_sld O dL_law_873 (hin 1 (by decide)) ?_
  refine q_tload_n O dL_law_874 rfl 0 rfl ?_
  refine q_iload_n O dL_law_875 rfl 3 rfl ?_
  refine q_iconst (v := 2) O dL_law_876 rfl ?_
  refine q_iadd O dL_law_877 ?_
  refine q_sld O dL_law_878 (hin 2 (by decide)) ?_
  refine q_tload_n O dL_law_879 rfl 0 rfl ?_
  refine q_iload_n O dL_law_880 rfl 3 rfl ?_
  refine q_iconst (v := 3) O dL_law_881 rfl ?_
  refine q_iadd O dL_law_882 ?_
  refine q_sld O dL_law_883 (hin 3 (by decide)) ?_
  refine q_tload_n O dL_law_884 rfl 0 rfl ?_
  refine q_iload_n O dL_law_885 rfl 3 rfl ?_
  refine q_iconst (v := 4) O dL_law_886 rfl ?_
  refine q_iadd O dL_law_887 ?_
  refine q_sld O dL_law_888 (hin 4 (by decide)) ?_
  refine q_if_eq O dL_law_889 rfl (fun hc4 => ?_) (fun hc4 => ?_)
  · skip
    refine q_iconst (v := 0) O dL_law_896 rfl ?_
    obtain ⟨r, sx1, sm1, hfx, hfm, hI1⟩ := hk_kinship σx σm (Mxs M (x3 + 1).toNatClampNeg) (Mxs M (x3 + 2).toNatClampNeg) (Mxs M (x3 + 3).toNatClampNeg) (0) hI (by decide)
    refine q_callX O dL_law_897 vl_L_77 vv_X11_kinship [vI (Mxs M (x3 + 1).toNatClampNeg), vI (Mxs M (x3 + 2).toNatClampNeg), vI (Mxs M (x3 + 3).toNatClampNeg), vI (0)] rfl rfl rfl ⟨Nat.le_of_ble_eq_true rfl, Nat.le_of_ble_eq_true rfl⟩ (fun l => c_X11_kinship l 0 (Mxs M (x3 + 1).toNatClampNeg) (Mxs M (x3 + 2).toNatClampNeg) (Mxs M (x3 + 3).toNatClampNeg) (0) σx r sx1 hfx) ?_
    refine q_aload_n O dL_law_900 rfl 2 rfl ?_
    refine q_tload_n O dL_law_901 rfl 0 rfl ?_
    refine q_iload_n O dL_law_902 rfl 3 rfl ?_
    refine q_iconst (v := 1) O dL_law_903 rfl ?_
    refine q_iadd O dL_law_904 ?_
    refine q_sld O dL_law_905 (hin 1 (by decide)) ?_
    refine q_tload_n O dL_law_906 rfl 0 rfl ?_
    refine q_iload_n O dL_law_907 rfl 3 rfl ?_
    refine q_iconst (v := 2) O dL_law_908 rfl ?_
    refine q_iadd O dL_law_909 ?_
    refine q_sld O dL_law_910 (hin 2 (by decide)) ?_
    refine q_tload_n O dL_law_911 rfl 0 rfl ?_
    refine q_iload_n O dL_law_912 rfl 3 rfl ?_
    refine q_iconst (v := 3) O dL_law_913 rfl ?_
    refine q_iadd O dL_law_914 ?_
    refine q_sld O dL_law_915 (hin 3 (by decide)) ?_
    refine q_tload_n O dL_law_916 rfl 0 rfl ?_
    refine q_iload_n O dL_law_917 rfl 3 rfl ?_
    refine q_iconst (v := 4) O dL_law_918 rfl ?_
    refine q_iadd O dL_law_919 ?_
    refine q_sld O dL_law_920 (hin 4 (by decide)) ?_
    refine q_if_eq O dL_law_921 rfl (fun _ => ?_) (fun c => absurd hc4 c)
    refine q_iconst (v := 0) O dL_law_928 rfl ?_
    refine q_callM O dL_law_929 vl_L_81 vv_X12_kinship [Mxs M (x3 + 1).toNatClampNeg, Mxs M (x3 + 2).toNatClampNeg, Mxs M (x3 + 3).toNatClampNeg, 0] rfl rfl rfl ⟨Nat.le_of_ble_eq_true rfl, Nat.le_of_ble_eq_true rfl⟩ (fun _ _ _ => rfl) (fun l => c_X12_kinship l 0 (Mxs M (x3 + 1).toNatClampNeg) (Mxs M (x3 + 2).toNatClampNeg) (Mxs M (x3 + 3).toNatClampNeg) (0) σm r sm1 hfm) ?_
    refine q_lcmp O dL_law_932 ?_
    refine q_if_eq O dL_law_933 rfl (fun _ => ?_) (fun c => absurd (lcmp_self r) c)
    exact hgo _ _ hI1
  · skip
    refine q_iconst (v := 1) O dL_law_892 rfl ?_
    refine q_goto O dL_law_893 rfl ?_
    obtain ⟨r, sx1, sm1, hfx, hfm, hI1⟩ := hk_kinship σx σm (Mxs M (x3 + 1).toNatClampNeg) (Mxs M (x3 + 2).toNatClampNeg) (Mxs M (x3 + 3).toNatClampNeg) (1) hI (by decide)
    refine q_callX O dL_law_897 vl_L_77 vv_X11_kinship [vI (Mxs M (x3 + 1).toNatClampNeg), vI (Mxs M (x3 + 2).toNatClampNeg), vI (Mxs M (x3 + 3).toNatClampNeg), vI (1)] rfl rfl rfl ⟨Nat.le_of_ble_eq_true rfl, Nat.le_of_ble_eq_true rfl⟩ (fun l => c_X11_kinship l 0 (Mxs M (x3 + 1).toNatClampNeg) (Mxs M (x3 + 2).toNatClampNeg) (Mxs M (x3 + 3).toNatClampNeg) (1) σx r sx1 hfx) ?_
    refine q_aload_n O dL_law_900 rfl 2 rfl ?_
    refine q_tload_n O dL_law_901 rfl 0 rfl ?_
    refine q_iload_n O dL_law_902 rfl 3 rfl ?_
    refine q_iconst (v := 1) O dL_law_903 rfl ?_
    refine q_iadd O dL_law_904 ?_
    refine q_sld O dL_law_905 (hin 1 (by decide)) ?_
    refine q_tload_n O dL_law_906 rfl 0 rfl ?_
    refine q_iload_n O dL_law_907 rfl 3 rfl ?_
    refine q_iconst (v := 2) O dL_law_908 rfl ?_
    refine q_iadd O dL_law_909 ?_
    refine q_sld O dL_law_910 (hin 2 (by decide)) ?_
    refine q_tload_n O dL_law_911 rfl 0 rfl ?_
    refine q_iload_n O dL_law_912 rfl 3 rfl ?_
    refine q_iconst (v := 3) O dL_law_913 rfl ?_
    refine q_iadd O dL_law_914 ?_
    refine q_sld O dL_law_915 (hin 3 (by decide)) ?_
    refine q_tload_n O dL_law_916 rfl 0 rfl ?_
    refine q_iload_n O dL_law_917 rfl 3 rfl ?_
    refine q_iconst (v := 4) O dL_law_918 rfl ?_
    refine q_iadd O dL_law_919 ?_
    refine q_sld O dL_law_920 (hin 4 (by decide)) ?_
    refine q_if_eq O dL_law_921 rfl (fun c => absurd c hc4) (fun _ => ?_)
    refine q_iconst (v := 1) O dL_law_924 rfl ?_
    refine q_goto O dL_law_925 rfl ?_
    refine q_callM O dL_law_929 vl_L_81 vv_X12_kinship [Mxs M (x3 + 1).toNatClampNeg, Mxs M (x3 + 2).toNatClampNeg, Mxs M (x3 + 3).toNatClampNeg, 1] rfl rfl rfl ⟨Nat.le_of_ble_eq_true rfl, Nat.le_of_ble_eq_true rfl⟩ (fun _ _ _ => rfl) (fun l => c_X12_kinship l 0 (Mxs M (x3 + 1).toNatClampNeg) (Mxs M (x3 + 2).toNatClampNeg) (Mxs M (x3 + 3).toNatClampNeg) (1) σm r sm1 hfm) ?_
    refine q_lcmp O dL_law_932 ?_
    refine q_if_eq O dL_law_933 rfl (fun _ => ?_) (fun c => absurd (lcmp_self r) c)
    exact hgo _ _ hI1
theorem lc_line {M : Ml} (O : OkL M) (Inv : Dt → Dt → Prop) (hk_line : LK_line Inv) (σx σm : Dt) (hI : Inv σx σm) (x3 : Int32) (xs : Nat → Int32) (hxs : Mxs M = xs) (hin : ∀ j : Nat, j ≤ 6 → vp_in (x3 + Int32.ofNat j) (ML M)) (hgo : ∀ σx σm, Inv σx σm → GL M 1730 [(0, vT 300), (1, vA (some 0)), (2, vA (some 222)), (3, vI x3)] [] σx σm) : GL M 938 [(0, vT 300), (1, vA (some 0)), (2, vA (some 222)), (3, vI x3)] [] σx σm := by
  subst hxs
  refine q_aload_n O dL_law_938 rfl 1 rfl ?_
  refine q_tload_n O dL_law_939 rfl 0 rfl ?_
  refine q_iload_n O dL_law_940 rfl 3 rfl ?_
  refine q_iconst (v := 1) O dL_law_941 rfl ?_
  refine q_iadd O dL_law_942 ?_
  refine q_sld O dL_law_943 (hin 1 (by decide)) ?_
  refine q_tload_n O dL_law_944 rfl 0 rfl ?_
  refine q_iload_n O dL_law_945 rfl 3 rfl ?_
  refine q_iconst (v := 2) O dL_law_946 rfl ?_
  refine q_iadd O dL_law_947 ?_
  refine q_sld O dL_law_948 (hin 2 (by decide)) ?_
  obtain ⟨r, sx1, sm1, hfx, hfm, hI1⟩ := hk_line σx σm (Mxs M (x3 + 1).toNatClampNeg) (Mxs M (x3 + 2).toNatClampNeg) hI 
  refine q_callX O dL_law_949 vl_L_82 vv_X11_line [vI (Mxs M (x3 + 1).toNatClampNeg), vI (Mxs M (x3 + 2).toNatClampNeg)] rfl rfl rfl ⟨Nat.le_of_ble_eq_true rfl, Nat.le_of_ble_eq_true rfl⟩ (fun l => c_X11_line l 0 (Mxs M (x3 + 1).toNatClampNeg) (Mxs M (x3 + 2).toNatClampNeg) σx r sx1 hfx) ?_
  refine q_aload_n O dL_law_952 rfl 2 rfl ?_
  refine q_tload_n O dL_law_953 rfl 0 rfl ?_
  refine q_iload_n O dL_law_954 rfl 3 rfl ?_
  refine q_iconst (v := 1) O dL_law_955 rfl ?_
  refine q_iadd O dL_law_956 ?_
  refine q_sld O dL_law_957 (hin 1 (by decide)) ?_
  refine q_tload_n O dL_law_958 rfl 0 rfl ?_
  refine q_iload_n O dL_law_959 rfl 3 rfl ?_
  refine q_iconst (v := 2) O dL_law_960 rfl ?_
  refine q_iadd O dL_law_961 ?_
  refine q_sld O dL_law_962 (hin 2 (by decide)) ?_
  refine q_callM O dL_law_963 vl_L_85 vv_X12_line [Mxs M (x3 + 1).toNatClampNeg, Mxs M (x3 + 2).toNatClampNeg] rfl rfl rfl ⟨Nat.le_of_ble_eq_true rfl, Nat.le_of_ble_eq_true rfl⟩ (fun _ _ _ => rfl) (fun l => c_X12_line l 0 (Mxs M (x3 + 1).toNatClampNeg) (Mxs M (x3 + 2).toNatClampNeg) σm r sm1 hfm) ?_
  refine q_icmp_eq O dL_law_966 rfl (fun _ => ?_) (fun c => absurd rfl c)
  exact hgo _ _ hI1
theorem lc_sight {M : Ml} (O : OkL M) (Inv : Dt → Dt → Prop) (hk_sight : LK_sight Inv) (σx σm : Dt) (hI : Inv σx σm) (x3 : Int32) (xs : Nat → Int32) (hxs : Mxs M = xs) (hin : ∀ j : Nat, j ≤ 6 → vp_in (x3 + Int32.ofNat j) (ML M)) (hgo : ∀ σx σm, Inv σx σm → GL M 1730 [(0, vT 300), (1, vA (some 0)), (2, vA (some 222)), (3, vI x3)] [] σx σm) : GL M 971 [(0, vT 300), (1, vA (some 0)), (2, vA (some 222)), (3, vI x3)] [] σx σm := by
  subst hxs
  refine q_aload_n O dL_law_971 rfl 1 rfl ?_
  refine q_tload_n O dL_law_972 rfl 0 rfl ?_
  refine q_iload_n O dL_law_973 rfl 3 rfl ?_
  refine q_iconst (v := 1) O dL_law_974 rfl ?_
  refine q_iadd O dL_law_975 ?_
  refine q_sld O dL_law_976 (hin 1 (by decide)) ?_
  refine q_tload_n O dL_law_977 rfl 0 rfl ?_
  refine q_iload_n O dL_law_978 rfl 3 rfl ?_
  refine q_iconst (v := 2) O dL_law_979 rfl ?_
  refine q_iadd O dL_law_980 ?_
  refine q_sld O dL_law_981 (hin 2 (by decide)) ?_
  obtain ⟨r, sm1, hfx, hfm, hI1⟩ := hk_sight σx σm (Mxs M (x3 + 1).toNatClampNeg) (Mxs M (x3 + 2).toNatClampNeg) hI 
  refine q_callX O dL_law_982 vl_L_86 vv_X11_sight [vI (Mxs M (x3 + 1).toNatClampNeg), vI (Mxs M (x3 + 2).toNatClampNeg)] rfl rfl rfl ⟨Nat.le_of_ble_eq_true rfl, Nat.le_of_ble_eq_true rfl⟩ (fun l => c_X11_sight l 0 (Mxs M (x3 + 1).toNatClampNeg) (Mxs M (x3 + 2).toNatClampNeg) σx r hfx) ?_
  refine q_aload_n O dL_law_985 rfl 2 rfl ?_
  refine q_tload_n O dL_law_986 rfl 0 rfl ?_
  refine q_iload_n O dL_law_987 rfl 3 rfl ?_
  refine q_iconst (v := 1) O dL_law_988 rfl ?_
  refine q_iadd O dL_law_989 ?_
  refine q_sld O dL_law_990 (hin 1 (by decide)) ?_
  refine q_tload_n O dL_law_991 rfl 0 rfl ?_
  refine q_iload_n O dL_law_992 rfl 3 rfl ?_
  refine q_iconst (v := 2) O dL_law_993 rfl ?_
  refine q_iadd O dL_law_994 ?_
  refine q_sld O dL_law_995 (hin 2 (by decide)) ?_
  refine q_callM O dL_law_996 vl_L_89 vv_X12_sight [Mxs M (x3 + 1).toNatClampNeg, Mxs M (x3 + 2).toNatClampNeg] rfl rfl rfl ⟨Nat.le_of_ble_eq_true rfl, Nat.le_of_ble_eq_true rfl⟩ (fun _ _ _ => rfl) (fun l => c_X12_sight l 0 (Mxs M (x3 + 1).toNatClampNeg) (Mxs M (x3 + 2).toNatClampNeg) σm r sm1 hfm) ?_
  refine q_icmp_eq O dL_law_999 rfl (fun _ => ?_) (fun c => absurd rfl c)
  exact hgo _ _ hI1
theorem lc_fits {M : Ml} (O : OkL M) (Inv : Dt → Dt → Prop) (hk_fits : LK_fits Inv) (σx σm : Dt) (hI : Inv σx σm) (x3 : Int32) (xs : Nat → Int32) (hxs : Mxs M = xs) (hin : ∀ j : Nat, j ≤ 6 → vp_in (x3 + Int32.ofNat j) (ML M)) (hgo : ∀ σx σm, Inv σx σm → GL M 1730 [(0, vT 300), (1, vA (some 0)), (2, vA (some 222)), (3, vI x3)] [] σx σm) : GL M 1004 [(0, vT 300), (1, vA (some 0)), (2, vA (some 222)), (3, vI x3)] [] σx σm := by
  subst hxs
  refine q_aload_n O dL_law_1004 rfl 1 rfl ?_
  refine q_tload_n O dL_law_1005 rfl 0 rfl ?_
  refine q_iload_n O dL_law_1006 rfl 3 rfl ?_
  refine q_iconst (v := 1) O dL_law_1007 rfl ?_
  refine q_iadd O dL_law_1008 ?_
  refine q_sld O dL_law_1009 (hin 1 (by decide)) ?_
  refine q_tload_n O dL_law_1010 rfl 0 rfl ?_
  refine q_iload_n O dL_law_1011 rfl 3 rfl ?_
  refine q_iconst (v := 2) O dL_law_1012 rfl ?_
  refine q_iadd O dL_law_1013 ?_
  refine q_sld O dL_law_1014 (hin 2 (by decide)) ?_
  refine q_tload_n O dL_law_1015 rfl 0 rfl ?_
  refine q_iload_n O dL_law_1016 rfl 3 rfl ?_
  refine q_iconst (v := 3) O dL_law_1017 rfl ?_
  refine q_iadd O dL_law_1018 ?_
  refine q_sld O dL_law_1019 (hin 3 (by decide)) ?_
  obtain ⟨r, sx1, sm1, hfx, hfm, hI1⟩ := hk_fits σx σm (Mxs M (x3 + 1).toNatClampNeg) (Mxs M (x3 + 2).toNatClampNeg) (Mxs M (x3 + 3).toNatClampNeg) hI 
  refine q_callX O dL_law_1020 vl_L_90 vv_X11_fits [vI (Mxs M (x3 + 1).toNatClampNeg), vI (Mxs M (x3 + 2).toNatClampNeg), vI (Mxs M (x3 + 3).toNatClampNeg)] rfl rfl rfl ⟨Nat.le_of_ble_eq_true rfl, Nat.le_of_ble_eq_true rfl⟩ (fun l => c_X11_fits l 0 (Mxs M (x3 + 1).toNatClampNeg) (Mxs M (x3 + 2).toNatClampNeg) (Mxs M (x3 + 3).toNatClampNeg) σx r sx1 hfx) ?_
  refine q_aload_n O dL_law_1023 rfl 2 rfl ?_
  refine q_tload_n O dL_law_1024 rfl 0 rfl ?_
  refine q_iload_n O dL_law_1025 rfl 3 rfl ?_
  refine q_iconst (v := 1) O dL_law_1026 rfl ?_
  refine q_iadd O dL_law_1027 ?_
  refine q_sld O dL_law_1028 (hin 1 (by decide)) ?_
  refine q_tload_n O dL_law_1029 rfl 0 rfl ?_
  refine q_iload_n O dL_law_1030 rfl 3 rfl ?_
  refine q_iconst (v := 2) O dL_law_1031 rfl ?_
  refine q_iadd O dL_law_1032 ?_
  refine q_sld O dL_law_1033 (hin 2 (by decide)) ?_
  refine q_tload_n O dL_law_1034 rfl 0 rfl ?_
  refine q_iload_n O dL_law_1035 rfl 3 rfl ?_
  refine q_iconst (v := 3) O dL_law_1036 rfl ?_
  refine q_iadd O dL_law_1037 ?_
  refine q_sld O dL_law_1038 (hin 3 (by decide)) ?_
  refine q_callM O dL_law_1039 vl_L_93 vv_X12_fits [Mxs M (x3 + 1).toNatClampNeg, Mxs M (x3 + 2).toNatClampNeg, Mxs M (x3 + 3).toNatClampNeg] rfl rfl rfl ⟨Nat.le_of_ble_eq_true rfl, Nat.le_of_ble_eq_true rfl⟩ (fun _ _ _ => rfl) (fun l => c_X12_fits l 0 (Mxs M (x3 + 1).toNatClampNeg) (Mxs M (x3 + 2).toNatClampNeg) (Mxs M (x3 + 3).toNatClampNeg) σm r sm1 hfm) ?_
  refine q_icmp_eq O dL_law_1042 rfl (fun _ => ?_) (fun c => absurd rfl c)
  exact hgo _ _ hI1
theorem lc_drawn {M : Ml} (O : OkL M) (Inv : Dt → Dt → Prop) (hk_drawn : LK_drawn Inv) (σx σm : Dt) (hI : Inv σx σm) (x3 : Int32) (xs : Nat → Int32) (hxs : Mxs M = xs) (hin : ∀ j : Nat, j ≤ 6 → vp_in (x3 + Int32.ofNat j) (ML M)) (hgo : ∀ σx σm, Inv σx σm → GL M 1730 [(0, vT 300), (1, vA (some 0)), (2, vA (some 222)), (3, vI x3)] [] σx σm) : GL M 1047 [(0, vT 300), (1, vA (some 0)), (2, vA (some 222)), (3, vI x3)] [] σx σm := by
  subst hxs
  refine q_aload_n O dL_law_1047 rfl 1 rfl ?_
  refine q_tload_n O dL_law_1048 rfl 0 rfl ?_
  refine q_iload_n O dL_law_1049 rfl 3 rfl ?_
  refine q_iconst (v := 1) O dL_law_1050 rfl ?_
  refine q_iadd O dL_law_1051 ?_
  refine q_sld O dL_law_1052 (hin 1 (by decide)) ?_
  refine q_tload_n O dL_law_1053 rfl 0 rfl ?_
  refine q_iload_n O dL_law_1054 rfl 3 rfl ?_
  refine q_iconst (v := 2) O dL_law_1055 rfl ?_
  refine q_iadd O dL_law_1056 ?_
  refine q_sld O dL_law_1057 (hin 2 (by decide)) ?_
  refine q_tload_n O dL_law_1058 rfl 0 rfl ?_
  refine q_iload_n O dL_law_1059 rfl 3 rfl ?_
  refine q_iconst (v := 3) O dL_law_1060 rfl ?_
  refine q_iadd O dL_law_1061 ?_
  refine q_sld O dL_law_1062 (hin 3 (by decide)) ?_
  refine q_tload_n O dL_law_1063 rfl 0 rfl ?_
  refine q_iload_n O dL_law_1064 rfl 3 rfl ?_
  refine q_iconst (v := 4) O dL_law_1065 rfl ?_
  refine q_iadd O dL_law_1066 ?_
  refine q_sld O dL_law_1067 (hin 4 (by decide)) ?_
  obtain ⟨r, sx1, sm1, hfx, hfm, hI1⟩ := hk_drawn σx σm (Mxs M (x3 + 1).toNatClampNeg) (Mxs M (x3 + 2).toNatClampNeg) (Mxs M (x3 + 3).toNatClampNeg) (Mxs M (x3 + 4).toNatClampNeg) hI 
  refine q_callX O dL_law_1068 vl_L_94 vv_X11_drawn [vI (Mxs M (x3 + 1).toNatClampNeg), vI (Mxs M (x3 + 2).toNatClampNeg), vI (Mxs M (x3 + 3).toNatClampNeg), vI (Mxs M (x3 + 4).toNatClampNeg)] rfl rfl rfl ⟨Nat.le_of_ble_eq_true rfl, Nat.le_of_ble_eq_true rfl⟩ (fun l => c_X11_drawn l 0 (Mxs M (x3 + 1).toNatClampNeg) (Mxs M (x3 + 2).toNatClampNeg) (Mxs M (x3 + 3).toNatClampNeg) (Mxs M (x3 + 4).toNatClampNeg) σx r sx1 hfx) ?_
  refine q_aload_n O dL_law_1071 rfl 2 rfl ?_
  refine q_tload_n O dL_law_1072 rfl 0 rfl ?_
  refine q_iload_n O dL_law_1073 rfl 3 rfl ?_
  refine q_iconst (v := 1) O dL_law_1074 rfl ?_
  refine q_iadd O dL_law_1075 ?_
  refine q_sld O dL_law_1076 (hin 1 (by decide)) ?_
  refine q_tload_n O dL_law_1077 rfl 0 rfl ?_
  refine q_iload_n O dL_law_1078 rfl 3 rfl ?_
  refine q_iconst (v := 2) O dL_law_1079 rfl ?_
  refine q_iadd O dL_law_1080 ?_
  refine q_sld O dL_law_1081 (hin 2 (by decide)) ?_
  refine q_tload_n O dL_law_1082 rfl 0 rfl ?_
  refine q_iload_n O dL_law_1083 rfl 3 rfl ?_
  refine q_iconst (v := 3) O dL_law_1084 rfl ?_
  refine q_iadd O dL_law_1085 ?_
  refine q_sld O dL_law_1086 (hin 3 (by decide)) ?_
  refine q_tload_n O dL_law_1087 rfl 0 rfl ?_
  refine q_iload_n O dL_law_1088 rfl 3 rfl ?_
  refine q_iconst (v := 4) O dL_law_1089 rfl ?_
  refine q_iadd O dL_law_1090 ?_
  refine q_sld O dL_law_1091 (hin 4 (by decide)) ?_
  refine q_callM O dL_law_1092 vl_L_97 vv_X12_drawn [Mxs M (x3 + 1).toNatClampNeg, Mxs M (x3 + 2).toNatClampNeg, Mxs M (x3 + 3).toNatClampNeg, Mxs M (x3 + 4).toNatClampNeg] rfl rfl rfl ⟨Nat.le_of_ble_eq_true rfl, Nat.le_of_ble_eq_true rfl⟩ (fun _ _ _ => rfl) (fun l => c_X12_drawn l 0 (Mxs M (x3 + 1).toNatClampNeg) (Mxs M (x3 + 2).toNatClampNeg) (Mxs M (x3 + 3).toNatClampNeg) (Mxs M (x3 + 4).toNatClampNeg) σm r sm1 hfm) ?_
  refine q_icmp_eq O dL_law_1095 rfl (fun _ => ?_) (fun c => absurd rfl c)
  exact hgo _ _ hI1
theorem lc_elders {M : Ml} (O : OkL M) (Inv : Dt → Dt → Prop) (hk_elders : LK_elders Inv) (σx σm : Dt) (hI : Inv σx σm) (x3 : Int32) (xs : Nat → Int32) (hxs : Mxs M = xs) (hin : ∀ j : Nat, j ≤ 6 → vp_in (x3 + Int32.ofNat j) (ML M)) (hgo : ∀ σx σm, Inv σx σm → GL M 1730 [(0, vT 300), (1, vA (some 0)), (2, vA (some 222)), (3, vI x3)] [] σx σm) : GL M 1100 [(0, vT 300), (1, vA (some 0)), (2, vA (some 222)), (3, vI x3)] [] σx σm := by
  subst hxs
  refine q_aload_n O dL_law_1100 rfl 1 rfl ?_
  refine q_tload_n O dL_law_1101 rfl 0 rfl ?_
  refine q_iload_n O dL_law_1102 rfl 3 rfl ?_
  refine q_iconst (v := 1) O dL_law_1103 rfl ?_
  refine q_iadd O dL_law_1104 ?_
  refine q_sld O dL_law_1105 (hin 1 (by decide)) ?_
  refine q_tload_n O dL_law_1106 rfl 0 rfl ?_
  refine q_iload_n O dL_law_1107 rfl 3 rfl ?_
  refine q_iconst (v := 2) O dL_law_1108 rfl ?_
  refine q_iadd O dL_law_1109 ?_
  refine q_sld O dL_law_1110 (hin 2 (by decide)) ?_
  refine q_tload_n O dL_law_1111 rfl 0 rfl ?_
  refine q_iload_n O dL_law_1112 rfl 3 rfl ?_
  refine q_iconst (v := 3) O dL_law_1113 rfl ?_
  refine q_iadd O dL_law_1114 ?_
  refine q_sld O dL_law_1115 (hin 3 (by decide)) ?_
  refine q_if_eq O dL_law_1116 rfl (fun hc3 => ?_) (fun hc3 => ?_)
  · skip
    refine q_iconst (v := 0) O dL_law_1123 rfl ?_
    obtain ⟨r, sm1, hfx, hfm, hI1⟩ := hk_elders σx σm (Mxs M (x3 + 1).toNatClampNeg) (Mxs M (x3 + 2).toNatClampNeg) (0) hI (by decide)
    refine q_callX O dL_law_1124 vl_L_98 vv_X11_elders [vI (Mxs M (x3 + 1).toNatClampNeg), vI (Mxs M (x3 + 2).toNatClampNeg), vI (0)] rfl rfl rfl ⟨Nat.le_of_ble_eq_true rfl, Nat.le_of_ble_eq_true rfl⟩ (fun l => c_X11_elders l 0 (Mxs M (x3 + 1).toNatClampNeg) (Mxs M (x3 + 2).toNatClampNeg) (0) σx r hfx) ?_
    refine q_aload_n O dL_law_1127 rfl 2 rfl ?_
    refine q_tload_n O dL_law_1128 rfl 0 rfl ?_
    refine q_iload_n O dL_law_1129 rfl 3 rfl ?_
    refine q_iconst (v := 1) O dL_law_1130 rfl ?_
    refine q_iadd O dL_law_1131 ?_
    refine q_sld O dL_law_1132 (hin 1 (by decide)) ?_
    refine q_tload_n O dL_law_1133 rfl 0 rfl ?_
    refine q_iload_n O dL_law_1134 rfl 3 rfl ?_
    refine q_iconst (v := 2) O dL_law_1135 rfl ?_
    refine q_iadd O dL_law_1136 ?_
    refine q_sld O dL_law_1137 (hin 2 (by decide)) ?_
    refine q_tload_n O dL_law_1138 rfl 0 rfl ?_
    refine q_iload_n O dL_law_1139 rfl 3 rfl ?_
    refine q_iconst (v := 3) O dL_law_1140 rfl ?_
    refine q_iadd O dL_law_1141 ?_
    refine q_sld O dL_law_1142 (hin 3 (by decide)) ?_
    refine q_if_eq O dL_law_1143 rfl (fun _ => ?_) (fun c => absurd hc3 c)
    refine q_iconst (v := 0) O dL_law_1150 rfl ?_
    refine q_callM O dL_law_1151 vl_L_101 vv_X12_elders [Mxs M (x3 + 1).toNatClampNeg, Mxs M (x3 + 2).toNatClampNeg, 0] rfl rfl rfl ⟨Nat.le_of_ble_eq_true rfl, Nat.le_of_ble_eq_true rfl⟩ (fun _ _ _ => rfl) (fun l => c_X12_elders l 0 (Mxs M (x3 + 1).toNatClampNeg) (Mxs M (x3 + 2).toNatClampNeg) (0) σm r sm1 hfm) ?_
    refine q_icmp_eq O dL_law_1154 rfl (fun _ => ?_) (fun c => absurd rfl c)
    exact hgo _ _ hI1
  · skip
    refine q_iconst (v := 1) O dL_law_1119 rfl ?_
    refine q_goto O dL_law_1120 rfl ?_
    obtain ⟨r, sm1, hfx, hfm, hI1⟩ := hk_elders σx σm (Mxs M (x3 + 1).toNatClampNeg) (Mxs M (x3 + 2).toNatClampNeg) (1) hI (by decide)
    refine q_callX O dL_law_1124 vl_L_98 vv_X11_elders [vI (Mxs M (x3 + 1).toNatClampNeg), vI (Mxs M (x3 + 2).toNatClampNeg), vI (1)] rfl rfl rfl ⟨Nat.le_of_ble_eq_true rfl, Nat.le_of_ble_eq_true rfl⟩ (fun l => c_X11_elders l 0 (Mxs M (x3 + 1).toNatClampNeg) (Mxs M (x3 + 2).toNatClampNeg) (1) σx r hfx) ?_
    refine q_aload_n O dL_law_1127 rfl 2 rfl ?_
    refine q_tload_n O dL_law_1128 rfl 0 rfl ?_
    refine q_iload_n O dL_law_1129 rfl 3 rfl ?_
    refine q_iconst (v := 1) O dL_law_1130 rfl ?_
    refine q_iadd O dL_law_1131 ?_
    refine q_sld O dL_law_1132 (hin 1 (by decide)) ?_
    refine q_tload_n O dL_law_1133 rfl 0 rfl ?_
    refine q_iload_n O dL_law_1134 rfl 3 rfl ?_
    refine q_iconst (v := 2) O dL_law_1135 rfl ?_
    refine q_iadd O dL_law_1136 ?_
    refine q_sld O dL_law_1137 (hin 2 (by decide)) ?_
    refine q_tload_n O dL_law_1138 rfl 0 rfl ?_
    refine q_iload_n O dL_law_1139 rfl 3 rfl ?_
    refine q_iconst (v := 3) O dL_law_1140 rfl ?_
    refine q_iadd O dL_law_1141 ?_
    refine q_sld O dL_law_1142 (hin 3 (by decide)) ?_
    refine q_if_eq O dL_law_1143 rfl (fun c => absurd c hc3) (fun _ => ?_)
    refine q_iconst (v := 1) O dL_law_1146 rfl ?_
    refine q_goto O dL_law_1147 rfl ?_
    refine q_callM O dL_law_1151 vl_L_101 vv_X12_elders [Mxs M (x3 + 1).toNatClampNeg, Mxs M (x3 + 2).toNatClampNeg, 1] rfl rfl rfl ⟨Nat.le_of_ble_eq_true rfl, Nat.le_of_ble_eq_true rfl⟩ (fun _ _ _ => rfl) (fun l => c_X12_elders l 0 (Mxs M (x3 + 1).toNatClampNeg) (Mxs M (x3 + 2).toNatClampNeg) (1) σm r sm1 hfm) ?_
    refine q_icmp_eq O dL_law_1154 rfl (fun _ => ?_) (fun c => absurd rfl c)
    exact hgo _ _ hI1
theorem lc_apart {M : Ml} (O : OkL M) (Inv : Dt → Dt → Prop) (hk_apart : LK_apart Inv) (σx σm : Dt) (hI : Inv σx σm) (x3 : Int32) (xs : Nat → Int32) (hxs : Mxs M = xs) (hin : ∀ j : Nat, j ≤ 6 → vp_in (x3 + Int32.ofNat j) (ML M)) (hgo : ∀ σx σm, Inv σx σm → GL M 1730 [(0, vT 300), (1, vA (some 0)), (2, vA (some 222)), (3, vI x3)] [] σx σm) : GL M 1159 [(0, vT 300), (1, vA (some 0)), (2, vA (some 222)), (3, vI x3)] [] σx σm := by
  subst hxs
  refine q_aload_n O dL_law_1159 rfl 1 rfl ?_
  refine q_tload_n O dL_law_1160 rfl 0 rfl ?_
  refine q_iload_n O dL_law_1161 rfl 3 rfl ?_
  refine q_iconst (v := 1) O dL_law_1162 rfl ?_
  refine q_iadd O dL_law_1163 ?_
  refine q_sld O dL_law_1164 (hin 1 (by decide)) ?_
  refine q_tload_n O dL_law_1165 rfl 0 rfl ?_
  refine q_iload_n O dL_law_1166 rfl 3 rfl ?_
  refine q_iconst (v := 2) O dL_law_1167 rfl ?_
  refine q_iadd O dL_law_1168 ?_
  refine q_sld O dL_law_1169 (hin 2 (by decide)) ?_
  refine q_tload_n O dL_law_1170 rfl 0 rfl ?_
  refine q_iload_n O dL_law_1171 rfl 3 rfl ?_
  refine q_iconst (v := 3) O dL_law_1172 rfl ?_
  refine q_iadd O dL_law_1173 ?_
  refine q_sld O dL_law_1174 (hin 3 (by decide)) ?_
  obtain ⟨r, sm1, hfx, hfm, hI1⟩ := hk_apart σx σm (Mxs M (x3 + 1).toNatClampNeg) (Mxs M (x3 + 2).toNatClampNeg) (Mxs M (x3 + 3).toNatClampNeg) hI 
  refine q_callX O dL_law_1175 vl_L_102 vv_X11_apart [vI (Mxs M (x3 + 1).toNatClampNeg), vI (Mxs M (x3 + 2).toNatClampNeg), vI (Mxs M (x3 + 3).toNatClampNeg)] rfl rfl rfl ⟨Nat.le_of_ble_eq_true rfl, Nat.le_of_ble_eq_true rfl⟩ (fun l => c_X11_apart l 0 (Mxs M (x3 + 1).toNatClampNeg) (Mxs M (x3 + 2).toNatClampNeg) (Mxs M (x3 + 3).toNatClampNeg) σx r hfx) ?_
  refine q_aload_n O dL_law_1178 rfl 2 rfl ?_
  refine q_tload_n O dL_law_1179 rfl 0 rfl ?_
  refine q_iload_n O dL_law_1180 rfl 3 rfl ?_
  refine q_iconst (v := 1) O dL_law_1181 rfl ?_
  refine q_iadd O dL_law_1182 ?_
  refine q_sld O dL_law_1183 (hin 1 (by decide)) ?_
  refine q_tload_n O dL_law_1184 rfl 0 rfl ?_
  refine q_iload_n O dL_law_1185 rfl 3 rfl ?_
  refine q_iconst (v := 2) O dL_law_1186 rfl ?_
  refine q_iadd O dL_law_1187 ?_
  refine q_sld O dL_law_1188 (hin 2 (by decide)) ?_
  refine q_tload_n O dL_law_1189 rfl 0 rfl ?_
  refine q_iload_n O dL_law_1190 rfl 3 rfl ?_
  refine q_iconst (v := 3) O dL_law_1191 rfl ?_
  refine q_iadd O dL_law_1192 ?_
  refine q_sld O dL_law_1193 (hin 3 (by decide)) ?_
  refine q_callM O dL_law_1194 vl_L_105 vv_X12_apart [Mxs M (x3 + 1).toNatClampNeg, Mxs M (x3 + 2).toNatClampNeg, Mxs M (x3 + 3).toNatClampNeg] rfl rfl rfl ⟨Nat.le_of_ble_eq_true rfl, Nat.le_of_ble_eq_true rfl⟩ (fun _ _ _ => rfl) (fun l => c_X12_apart l 0 (Mxs M (x3 + 1).toNatClampNeg) (Mxs M (x3 + 2).toNatClampNeg) (Mxs M (x3 + 3).toNatClampNeg) σm r sm1 hfm) ?_
  refine q_icmp_eq O dL_law_1197 rfl (fun _ => ?_) (fun c => absurd rfl c)
  exact hgo _ _ hI1
theorem lc_houses {M : Ml} (O : OkL M) (Inv : Dt → Dt → Prop) (hk_houses : LK_houses Inv) (σx σm : Dt) (hI : Inv σx σm) (x3 : Int32) (xs : Nat → Int32) (hxs : Mxs M = xs) (hin : ∀ j : Nat, j ≤ 6 → vp_in (x3 + Int32.ofNat j) (ML M)) (hgo : ∀ σx σm, Inv σx σm → GL M 1730 [(0, vT 300), (1, vA (some 0)), (2, vA (some 222)), (3, vI x3)] [] σx σm) : GL M 1202 [(0, vT 300), (1, vA (some 0)), (2, vA (some 222)), (3, vI x3)] [] σx σm := by
  subst hxs
  refine q_aload_n O dL_law_1202 rfl 1 rfl ?_
  refine q_tload_n O dL_law_1203 rfl 0 rfl ?_
  refine q_iload_n O dL_law_1204 rfl 3 rfl ?_
  refine q_iconst (v := 1) O dL_law_1205 rfl ?_
  refine q_iadd O dL_law_1206 ?_
  refine q_sld O dL_law_1207 (hin 1 (by decide)) ?_
  refine q_tload_n O dL_law_1208 rfl 0 rfl ?_
  refine q_iload_n O dL_law_1209 rfl 3 rfl ?_
  refine q_iconst (v := 2) O dL_law_1210 rfl ?_
  refine q_iadd O dL_law_1211 ?_
  refine q_sld O dL_law_1212 (hin 2 (by decide)) ?_
  obtain ⟨r, sx1, sm1, hfx, hfm, hI1⟩ := hk_houses σx σm (Mxs M (x3 + 1).toNatClampNeg) (Mxs M (x3 + 2).toNatClampNeg) hI 
  refine q_callX O dL_law_1213 vl_L_106 vv_X11_houses [vI (Mxs M (x3 + 1).toNatClampNeg), vI (Mxs M (x3 + 2).toNatClampNeg)] rfl rfl rfl ⟨Nat.le_of_ble_eq_true rfl, Nat.le_of_ble_eq_true rfl⟩ (fun l => c_X11_houses l 0 (Mxs M (x3 + 1).toNatClampNeg) (Mxs M (x3 + 2).toNatClampNeg) σx r sx1 hfx) ?_
  refine q_aload_n O dL_law_1216 rfl 2 rfl ?_
  refine q_tload_n O dL_law_1217 rfl 0 rfl ?_
  refine q_iload_n O dL_law_1218 rfl 3 rfl ?_
  refine q_iconst (v := 1) O dL_law_1219 rfl ?_
  refine q_iadd O dL_law_1220 ?_
  refine q_sld O dL_law_1221 (hin 1 (by decide)) ?_
  refine q_tload_n O dL_law_1222 rfl 0 rfl ?_
  refine q_iload_n O dL_law_1223 rfl 3 rfl ?_
  refine q_iconst (v := 2) O dL_law_1224 rfl ?_
  refine q_iadd O dL_law_1225 ?_
  refine q_sld O dL_law_1226 (hin 2 (by decide)) ?_
  refine q_callM O dL_law_1227 vl_L_109 vv_X12_houses [Mxs M (x3 + 1).toNatClampNeg, Mxs M (x3 + 2).toNatClampNeg] rfl rfl rfl ⟨Nat.le_of_ble_eq_true rfl, Nat.le_of_ble_eq_true rfl⟩ (fun _ _ _ => rfl) (fun l => c_X12_houses l 0 (Mxs M (x3 + 1).toNatClampNeg) (Mxs M (x3 + 2).toNatClampNeg) σm r sm1 hfm) ?_
  refine q_icmp_eq O dL_law_1230 rfl (fun _ => ?_) (fun c => absurd rfl c)
  exact hgo _ _ hI1
theorem lc_soon {M : Ml} (O : OkL M) (Inv : Dt → Dt → Prop) (hk_soon : LK_soon Inv) (σx σm : Dt) (hI : Inv σx σm) (x3 : Int32) (xs : Nat → Int32) (hxs : Mxs M = xs) (hin : ∀ j : Nat, j ≤ 6 → vp_in (x3 + Int32.ofNat j) (ML M)) (hgo : ∀ σx σm, Inv σx σm → GL M 1730 [(0, vT 300), (1, vA (some 0)), (2, vA (some 222)), (3, vI x3)] [] σx σm) : GL M 1235 [(0, vT 300), (1, vA (some 0)), (2, vA (some 222)), (3, vI x3)] [] σx σm := by
  subst hxs
  refine q_aload_n O dL_law_1235 rfl 1 rfl ?_
  refine q_tload_n O dL_law_1236 rfl 0 rfl ?_
  refine q_iload_n O dL_law_1237 rfl 3 rfl ?_
  refine q_iconst (v := 1) O dL_law_1238 rfl ?_
  refine q_iadd O dL_law_1239 ?_
  refine q_sld O dL_law_1240 (hin 1 (by decide)) ?_
  refine q_tload_n O dL_law_1241 rfl 0 rfl ?_
  refine q_iload_n O dL_law_1242 rfl 3 rfl ?_
  refine q_iconst (v := 2) O dL_law_1243 rfl ?_
  refine q_iadd O dL_law_1244 ?_
  refine q_sld O dL_law_1245 (hin 2 (by decide)) ?_
  refine q_tload_n O dL_law_1246 rfl 0 rfl ?_
  refine q_iload_n O dL_law_1247 rfl 3 rfl ?_
  refine q_iconst (v := 3) O dL_law_1248 rfl ?_
  refine q_iadd O dL_law_1249 ?_
  refine q_sld O dL_law_1250 (hin 3 (by decide)) ?_
  obtain ⟨r, sm1, hfx, hfm, hI1⟩ := hk_soon σx σm (Mxs M (x3 + 1).toNatClampNeg) (Mxs M (x3 + 2).toNatClampNeg) (Mxs M (x3 + 3).toNatClampNeg) hI 
  refine q_callX O dL_law_1251 vl_L_110 vv_X11_soon [vI (Mxs M (x3 + 1).toNatClampNeg), vI (Mxs M (x3 + 2).toNatClampNeg), vI (Mxs M (x3 + 3).toNatClampNeg)] rfl rfl rfl ⟨Nat.le_of_ble_eq_true rfl, Nat.le_of_ble_eq_true rfl⟩ (fun l => c_X11_soon l 0 (Mxs M (x3 + 1).toNatClampNeg) (Mxs M (x3 + 2).toNatClampNeg) (Mxs M (x3 + 3).toNatClampNeg) σx r hfx) ?_
  refine q_aload_n O dL_law_1254 rfl 2 rfl ?_
  refine q_tload_n O dL_law_1255 rfl 0 rfl ?_
  refine q_iload_n O dL_law_1256 rfl 3 rfl ?_
  refine q_iconst (v := 1) O dL_law_1257 rfl ?_
  refine q_iadd O dL_law_1258 ?_
  refine q_sld O dL_law_1259 (hin 1 (by decide)) ?_
  refine q_tload_n O dL_law_1260 rfl 0 rfl ?_
  refine q_iload_n O dL_law_1261 rfl 3 rfl ?_
  refine q_iconst (v := 2) O dL_law_1262 rfl ?_
  refine q_iadd O dL_law_1263 ?_
  refine q_sld O dL_law_1264 (hin 2 (by decide)) ?_
  refine q_tload_n O dL_law_1265 rfl 0 rfl ?_
  refine q_iload_n O dL_law_1266 rfl 3 rfl ?_
  refine q_iconst (v := 3) O dL_law_1267 rfl ?_
  refine q_iadd O dL_law_1268 ?_
  refine q_sld O dL_law_1269 (hin 3 (by decide)) ?_
  refine q_callM O dL_law_1270 vl_L_113 vv_X12_soon [Mxs M (x3 + 1).toNatClampNeg, Mxs M (x3 + 2).toNatClampNeg, Mxs M (x3 + 3).toNatClampNeg] rfl rfl rfl ⟨Nat.le_of_ble_eq_true rfl, Nat.le_of_ble_eq_true rfl⟩ (fun _ _ _ => rfl) (fun l => c_X12_soon l 0 (Mxs M (x3 + 1).toNatClampNeg) (Mxs M (x3 + 2).toNatClampNeg) (Mxs M (x3 + 3).toNatClampNeg) σm r sm1 hfm) ?_
  refine q_icmp_eq O dL_law_1273 rfl (fun _ => ?_) (fun c => absurd rfl c)
  exact hgo _ _ hI1
theorem lc_most {M : Ml} (O : OkL M) (Inv : Dt → Dt → Prop) (hk_most : LK_most Inv) (σx σm : Dt) (hI : Inv σx σm) (x3 : Int32) (xs : Nat → Int32) (hxs : Mxs M = xs) (hin : ∀ j : Nat, j ≤ 6 → vp_in (x3 + Int32.ofNat j) (ML M)) (hgo : ∀ σx σm, Inv σx σm → GL M 1730 [(0, vT 300), (1, vA (some 0)), (2, vA (some 222)), (3, vI x3)] [] σx σm) : GL M 1278 [(0, vT 300), (1, vA (some 0)), (2, vA (some 222)), (3, vI x3)] [] σx σm := by
  subst hxs
  refine q_aload_n O dL_law_1278 rfl 1 rfl ?_
  refine q_tload_n O dL_law_1279 rfl 0 rfl ?_
  refine q_iload_n O dL_law_1280 rfl 3 rfl ?_
  refine q_iconst (v := 1) O dL_law_1281 rfl ?_
  refine q_iadd O dL_law_1282 ?_
  refine q_sld O dL_law_1283 (hin 1 (by decide)) ?_
  refine q_tload_n O dL_law_1284 rfl 0 rfl ?_
  refine q_iload_n O dL_law_1285 rfl 3 rfl ?_
  refine q_iconst (v := 2) O dL_law_1286 rfl ?_
  refine q_iadd O dL_law_1287 ?_
  refine q_sld O dL_law_1288 (hin 2 (by decide)) ?_
  refine q_tload_n O dL_law_1289 rfl 0 rfl ?_
  refine q_iload_n O dL_law_1290 rfl 3 rfl ?_
  refine q_iconst (v := 3) O dL_law_1291 rfl ?_
  refine q_iadd O dL_law_1292 ?_
  refine q_sld O dL_law_1293 (hin 3 (by decide)) ?_
  obtain ⟨r, sx1, sm1, hfx, hfm, hI1⟩ := hk_most σx σm (Mxs M (x3 + 1).toNatClampNeg) (Mxs M (x3 + 2).toNatClampNeg) (Mxs M (x3 + 3).toNatClampNeg) hI 
  refine q_callX O dL_law_1294 vl_L_114 vv_X11_most [vI (Mxs M (x3 + 1).toNatClampNeg), vI (Mxs M (x3 + 2).toNatClampNeg), vI (Mxs M (x3 + 3).toNatClampNeg)] rfl rfl rfl ⟨Nat.le_of_ble_eq_true rfl, Nat.le_of_ble_eq_true rfl⟩ (fun l => c_X11_most l 0 (Mxs M (x3 + 1).toNatClampNeg) (Mxs M (x3 + 2).toNatClampNeg) (Mxs M (x3 + 3).toNatClampNeg) σx r sx1 hfx) ?_
  refine q_aload_n O dL_law_1297 rfl 2 rfl ?_
  refine q_tload_n O dL_law_1298 rfl 0 rfl ?_
  refine q_iload_n O dL_law_1299 rfl 3 rfl ?_
  refine q_iconst (v := 1) O dL_law_1300 rfl ?_
  refine q_iadd O dL_law_1301 ?_
  refine q_sld O dL_law_1302 (hin 1 (by decide)) ?_
  refine q_tload_n O dL_law_1303 rfl 0 rfl ?_
  refine q_iload_n O dL_law_1304 rfl 3 rfl ?_
  refine q_iconst (v := 2) O dL_law_1305 rfl ?_
  refine q_iadd O dL_law_1306 ?_
  refine q_sld O dL_law_1307 (hin 2 (by decide)) ?_
  refine q_tload_n O dL_law_1308 rfl 0 rfl ?_
  refine q_iload_n O dL_law_1309 rfl 3 rfl ?_
  refine q_iconst (v := 3) O dL_law_1310 rfl ?_
  refine q_iadd O dL_law_1311 ?_
  refine q_sld O dL_law_1312 (hin 3 (by decide)) ?_
  refine q_callM O dL_law_1313 vl_L_117 vv_X12_most [Mxs M (x3 + 1).toNatClampNeg, Mxs M (x3 + 2).toNatClampNeg, Mxs M (x3 + 3).toNatClampNeg] rfl rfl rfl ⟨Nat.le_of_ble_eq_true rfl, Nat.le_of_ble_eq_true rfl⟩ (fun _ _ _ => rfl) (fun l => c_X12_most l 0 (Mxs M (x3 + 1).toNatClampNeg) (Mxs M (x3 + 2).toNatClampNeg) (Mxs M (x3 + 3).toNatClampNeg) σm r sm1 hfm) ?_
  refine q_icmp_eq O dL_law_1316 rfl (fun _ => ?_) (fun c => absurd rfl c)
  exact hgo _ _ hI1
theorem lc_lot {M : Ml} (O : OkL M) (Inv : Dt → Dt → Prop) (hk_lot : LK_lot Inv) (σx σm : Dt) (hI : Inv σx σm) (x3 : Int32) (xs : Nat → Int32) (hxs : Mxs M = xs) (hin : ∀ j : Nat, j ≤ 6 → vp_in (x3 + Int32.ofNat j) (ML M)) (hgo : ∀ σx σm, Inv σx σm → GL M 1730 [(0, vT 300), (1, vA (some 0)), (2, vA (some 222)), (3, vI x3)] [] σx σm) : GL M 1321 [(0, vT 300), (1, vA (some 0)), (2, vA (some 222)), (3, vI x3)] [] σx σm := by
  subst hxs
  refine q_aload_n O dL_law_1321 rfl 1 rfl ?_
  refine q_tload_n O dL_law_1322 rfl 0 rfl ?_
  refine q_iload_n O dL_law_1323 rfl 3 rfl ?_
  refine q_iconst (v := 1) O dL_law_1324 rfl ?_
  refine q_iadd O dL_law_1325 ?_
  refine q_sld O dL_law_1326 (hin 1 (by decide)) ?_
  refine q_tload_n O dL_law_1327 rfl 0 rfl ?_
  refine q_iload_n O dL_law_1328 rfl 3 rfl ?_
  refine q_iconst (v := 2) O dL_law_1329 rfl ?_
  refine q_iadd O dL_law_1330 ?_
  refine q_sld O dL_law_1331 (hin 2 (by decide)) ?_
  refine q_tload_n O dL_law_1332 rfl 0 rfl ?_
  refine q_iload_n O dL_law_1333 rfl 3 rfl ?_
  refine q_iconst (v := 3) O dL_law_1334 rfl ?_
  refine q_iadd O dL_law_1335 ?_
  refine q_sld O dL_law_1336 (hin 3 (by decide)) ?_
  refine q_if_eq O dL_law_1337 rfl (fun hc3 => ?_) (fun hc3 => ?_)
  · skip
    refine q_iconst (v := 0) O dL_law_1344 rfl ?_
    obtain ⟨r, sx1, sm1, hfx, hfm, hI1⟩ := hk_lot σx σm (Mxs M (x3 + 1).toNatClampNeg) (Mxs M (x3 + 2).toNatClampNeg) (0) hI (by decide)
    refine q_callX O dL_law_1345 vl_L_118 vv_X11_lot [vI (Mxs M (x3 + 1).toNatClampNeg), vI (Mxs M (x3 + 2).toNatClampNeg), vI (0)] rfl rfl rfl ⟨Nat.le_of_ble_eq_true rfl, Nat.le_of_ble_eq_true rfl⟩ (fun l => c_X11_lot l 0 (Mxs M (x3 + 1).toNatClampNeg) (Mxs M (x3 + 2).toNatClampNeg) (0) σx r sx1 hfx) ?_
    refine q_aload_n O dL_law_1348 rfl 2 rfl ?_
    refine q_tload_n O dL_law_1349 rfl 0 rfl ?_
    refine q_iload_n O dL_law_1350 rfl 3 rfl ?_
    refine q_iconst (v := 1) O dL_law_1351 rfl ?_
    refine q_iadd O dL_law_1352 ?_
    refine q_sld O dL_law_1353 (hin 1 (by decide)) ?_
    refine q_tload_n O dL_law_1354 rfl 0 rfl ?_
    refine q_iload_n O dL_law_1355 rfl 3 rfl ?_
    refine q_iconst (v := 2) O dL_law_1356 rfl ?_
    refine q_iadd O dL_law_1357 ?_
    refine q_sld O dL_law_1358 (hin 2 (by decide)) ?_
    refine q_tload_n O dL_law_1359 rfl 0 rfl ?_
    refine q_iload_n O dL_law_1360 rfl 3 rfl ?_
    refine q_iconst (v := 3) O dL_law_1361 rfl ?_
    refine q_iadd O dL_law_1362 ?_
    refine q_sld O dL_law_1363 (hin 3 (by decide)) ?_
    refine q_if_eq O dL_law_1364 rfl (fun _ => ?_) (fun c => absurd hc3 c)
    refine q_iconst (v := 0) O dL_law_1371 rfl ?_
    refine q_callM O dL_law_1372 vl_L_121 vv_X12_lot [Mxs M (x3 + 1).toNatClampNeg, Mxs M (x3 + 2).toNatClampNeg, 0] rfl rfl rfl ⟨Nat.le_of_ble_eq_true rfl, Nat.le_of_ble_eq_true rfl⟩ (fun _ _ _ => rfl) (fun l => c_X12_lot l 0 (Mxs M (x3 + 1).toNatClampNeg) (Mxs M (x3 + 2).toNatClampNeg) (0) σm r sm1 hfm) ?_
    refine q_icmp_eq O dL_law_1375 rfl (fun _ => ?_) (fun c => absurd rfl c)
    exact hgo _ _ hI1
  · skip
    refine q_iconst (v := 1) O dL_law_1340 rfl ?_
    refine q_goto O dL_law_1341 rfl ?_
    obtain ⟨r, sx1, sm1, hfx, hfm, hI1⟩ := hk_lot σx σm (Mxs M (x3 + 1).toNatClampNeg) (Mxs M (x3 + 2).toNatClampNeg) (1) hI (by decide)
    refine q_callX O dL_law_1345 vl_L_118 vv_X11_lot [vI (Mxs M (x3 + 1).toNatClampNeg), vI (Mxs M (x3 + 2).toNatClampNeg), vI (1)] rfl rfl rfl ⟨Nat.le_of_ble_eq_true rfl, Nat.le_of_ble_eq_true rfl⟩ (fun l => c_X11_lot l 0 (Mxs M (x3 + 1).toNatClampNeg) (Mxs M (x3 + 2).toNatClampNeg) (1) σx r sx1 hfx) ?_
    refine q_aload_n O dL_law_1348 rfl 2 rfl ?_
    refine q_tload_n O dL_law_1349 rfl 0 rfl ?_
    refine q_iload_n O dL_law_1350 rfl 3 rfl ?_
    refine q_iconst (v := 1) O dL_law_1351 rfl ?_
    refine q_iadd O dL_law_1352 ?_
    refine q_sld O dL_law_1353 (hin 1 (by decide)) ?_
    refine q_tload_n O dL_law_1354 rfl 0 rfl ?_
    refine q_iload_n O dL_law_1355 rfl 3 rfl ?_
    refine q_iconst (v := 2) O dL_law_1356 rfl ?_
    refine q_iadd O dL_law_1357 ?_
    refine q_sld O dL_law_1358 (hin 2 (by decide)) ?_
    refine q_tload_n O dL_law_1359 rfl 0 rfl ?_
    refine q_iload_n O dL_law_1360 rfl 3 rfl ?_
    refine q_iconst (v := 3) O dL_law_1361 rfl ?_
    refine q_iadd O dL_law_1362 ?_
    refine q_sld O dL_law_1363 (hin 3 (by decide)) ?_
    refine q_if_eq O dL_law_1364 rfl (fun c => absurd c hc3) (fun _ => ?_)
    refine q_iconst (v := 1) O dL_law_1367 rfl ?_
    refine q_goto O dL_law_1368 rfl ?_
    refine q_callM O dL_law_1372 vl_L_121 vv_X12_lot [Mxs M (x3 + 1).toNatClampNeg, Mxs M (x3 + 2).toNatClampNeg, 1] rfl rfl rfl ⟨Nat.le_of_ble_eq_true rfl, Nat.le_of_ble_eq_true rfl⟩ (fun _ _ _ => rfl) (fun l => c_X12_lot l 0 (Mxs M (x3 + 1).toNatClampNeg) (Mxs M (x3 + 2).toNatClampNeg) (1) σm r sm1 hfm) ?_
    refine q_icmp_eq O dL_law_1375 rfl (fun _ => ?_) (fun c => absurd rfl c)
    exact hgo _ _ hI1
theorem lc_heaps {M : Ml} (O : OkL M) (Inv : Dt → Dt → Prop) (hk_heaps : LK_heaps Inv) (σx σm : Dt) (hI : Inv σx σm) (x3 : Int32) (xs : Nat → Int32) (hxs : Mxs M = xs) (hin : ∀ j : Nat, j ≤ 6 → vp_in (x3 + Int32.ofNat j) (ML M)) (hgo : ∀ σx σm, Inv σx σm → GL M 1730 [(0, vT 300), (1, vA (some 0)), (2, vA (some 222)), (3, vI x3)] [] σx σm) : GL M 1380 [(0, vT 300), (1, vA (some 0)), (2, vA (some 222)), (3, vI x3)] [] σx σm := by
  subst hxs
  refine q_aload_n O dL_law_1380 rfl 1 rfl ?_
  refine q_tload_n O dL_law_1381 rfl 0 rfl ?_
  refine q_iload_n O dL_law_1382 rfl 3 rfl ?_
  refine q_iconst (v := 1) O dL_law_1383 rfl ?_
  refine q_iadd O dL_law_1384 ?_
  refine q_sld O dL_law_1385 (hin 1 (by decide)) ?_
  refine q_tload_n O dL_law_1386 rfl 0 rfl ?_
  refine q_iload_n O dL_law_1387 rfl 3 rfl ?_
  refine q_iconst (v := 2) O dL_law_1388 rfl ?_
  refine q_iadd O dL_law_1389 ?_
  refine q_sld O dL_law_1390 (hin 2 (by decide)) ?_
  refine q_if_eq O dL_law_1391 rfl (fun hc2 => ?_) (fun hc2 => ?_)
  · skip
    refine q_iconst (v := 0) O dL_law_1398 rfl ?_
    obtain ⟨r, sx1, sm1, hfx, hfm, hI1⟩ := hk_heaps σx σm (Mxs M (x3 + 1).toNatClampNeg) (0) hI (by decide)
    refine q_callX O dL_law_1399 vl_L_122 vv_X11_heaps [vI (Mxs M (x3 + 1).toNatClampNeg), vI (0)] rfl rfl rfl ⟨Nat.le_of_ble_eq_true rfl, Nat.le_of_ble_eq_true rfl⟩ (fun l => c_X11_heaps l 0 (Mxs M (x3 + 1).toNatClampNeg) (0) σx r sx1 hfx) ?_
    refine q_aload_n O dL_law_1402 rfl 2 rfl ?_
    refine q_tload_n O dL_law_1403 rfl 0 rfl ?_
    refine q_iload_n O dL_law_1404 rfl 3 rfl ?_
    refine q_iconst (v := 1) O dL_law_1405 rfl ?_
    refine q_iadd O dL_law_1406 ?_
    refine q_sld O dL_law_1407 (hin 1 (by decide)) ?_
    refine q_tload_n O dL_law_1408 rfl 0 rfl ?_
    refine q_iload_n O dL_law_1409 rfl 3 rfl ?_
    refine q_iconst (v := 2) O dL_law_1410 rfl ?_
    refine q_iadd O dL_law_1411 ?_
    refine q_sld O dL_law_1412 (hin 2 (by decide)) ?_
    refine q_if_eq O dL_law_1413 rfl (fun _ => ?_) (fun c => absurd hc2 c)
    refine q_iconst (v := 0) O dL_law_1420 rfl ?_
    refine q_callM O dL_law_1421 vl_L_126 vv_X12_heaps [Mxs M (x3 + 1).toNatClampNeg, 0] rfl rfl rfl ⟨Nat.le_of_ble_eq_true rfl, Nat.le_of_ble_eq_true rfl⟩ (fun _ _ _ => rfl) (fun l => c_X12_heaps l 0 (Mxs M (x3 + 1).toNatClampNeg) (0) σm r sm1 hfm) ?_
    refine q_icmp_eq O dL_law_1424 rfl (fun _ => ?_) (fun c => absurd rfl c)
    exact hgo _ _ hI1
  · skip
    refine q_iconst (v := 1) O dL_law_1394 rfl ?_
    refine q_goto O dL_law_1395 rfl ?_
    obtain ⟨r, sx1, sm1, hfx, hfm, hI1⟩ := hk_heaps σx σm (Mxs M (x3 + 1).toNatClampNeg) (1) hI (by decide)
    refine q_callX O dL_law_1399 vl_L_122 vv_X11_heaps [vI (Mxs M (x3 + 1).toNatClampNeg), vI (1)] rfl rfl rfl ⟨Nat.le_of_ble_eq_true rfl, Nat.le_of_ble_eq_true rfl⟩ (fun l => c_X11_heaps l 0 (Mxs M (x3 + 1).toNatClampNeg) (1) σx r sx1 hfx) ?_
    refine q_aload_n O dL_law_1402 rfl 2 rfl ?_
    refine q_tload_n O dL_law_1403 rfl 0 rfl ?_
    refine q_iload_n O dL_law_1404 rfl 3 rfl ?_
    refine q_iconst (v := 1) O dL_law_1405 rfl ?_
    refine q_iadd O dL_law_1406 ?_
    refine q_sld O dL_law_1407 (hin 1 (by decide)) ?_
    refine q_tload_n O dL_law_1408 rfl 0 rfl ?_
    refine q_iload_n O dL_law_1409 rfl 3 rfl ?_
    refine q_iconst (v := 2) O dL_law_1410 rfl ?_
    refine q_iadd O dL_law_1411 ?_
    refine q_sld O dL_law_1412 (hin 2 (by decide)) ?_
    refine q_if_eq O dL_law_1413 rfl (fun c => absurd c hc2) (fun _ => ?_)
    refine q_iconst (v := 1) O dL_law_1416 rfl ?_
    refine q_goto O dL_law_1417 rfl ?_
    refine q_callM O dL_law_1421 vl_L_126 vv_X12_heaps [Mxs M (x3 + 1).toNatClampNeg, 1] rfl rfl rfl ⟨Nat.le_of_ble_eq_true rfl, Nat.le_of_ble_eq_true rfl⟩ (fun _ _ _ => rfl) (fun l => c_X12_heaps l 0 (Mxs M (x3 + 1).toNatClampNeg) (1) σm r sm1 hfm) ?_
    refine q_icmp_eq O dL_law_1424 rfl (fun _ => ?_) (fun c => absurd rfl c)
    exact hgo _ _ hI1
theorem lc_loss {M : Ml} (O : OkL M) (Inv : Dt → Dt → Prop) (hk_loss : LK_loss Inv) (σx σm : Dt) (hI : Inv σx σm) (x3 : Int32) (xs : Nat → Int32) (hxs : Mxs M = xs) (hin : ∀ j : Nat, j ≤ 6 → vp_in (x3 + Int32.ofNat j) (ML M)) (hgo : ∀ σx σm, Inv σx σm → GL M 1730 [(0, vT 300), (1, vA (some 0)), (2, vA (some 222)), (3, vI x3)] [] σx σm) : GL M 1429 [(0, vT 300), (1, vA (some 0)), (2, vA (some 222)), (3, vI x3)] [] σx σm := by
  subst hxs
  refine q_aload_n O dL_law_1429 rfl 1 rfl ?_
  refine q_tload_n O dL_law_1430 rfl 0 rfl ?_
  refine q_iload_n O dL_law_1431 rfl 3 rfl ?_
  refine q_iconst (v := 1) O dL_law_1432 rfl ?_
  refine q_iadd O dL_law_1433 ?_
  refine q_sld O dL_law_1434 (hin 1 (by decide)) ?_
  refine q_tload_n O dL_law_1435 rfl 0 rfl ?_
  refine q_iload_n O dL_law_1436 rfl 3 rfl ?_
  refine q_iconst (v := 2) O dL_law_1437 rfl ?_
  refine q_iadd O dL_law_1438 ?_
  refine q_sld O dL_law_1439 (hin 2 (by decide)) ?_
  refine q_tload_n O dL_law_1440 rfl 0 rfl ?_
  refine q_iload_n O dL_law_1441 rfl 3 rfl ?_
  refine q_iconst (v := 3) O dL_law_1442 rfl ?_
  refine q_iadd O dL_law_1443 ?_
  refine q_sld O dL_law_1444 (hin 3 (by decide)) ?_
  obtain ⟨r, sm1, hfx, hfm, hI1⟩ := hk_loss σx σm (Mxs M (x3 + 1).toNatClampNeg) (Mxs M (x3 + 2).toNatClampNeg) (Mxs M (x3 + 3).toNatClampNeg) hI 
  refine q_callX O dL_law_1445 vl_L_127 vv_X11_loss [vI (Mxs M (x3 + 1).toNatClampNeg), vI (Mxs M (x3 + 2).toNatClampNeg), vI (Mxs M (x3 + 3).toNatClampNeg)] rfl rfl rfl ⟨Nat.le_of_ble_eq_true rfl, Nat.le_of_ble_eq_true rfl⟩ (fun l => c_X11_loss l 0 (Mxs M (x3 + 1).toNatClampNeg) (Mxs M (x3 + 2).toNatClampNeg) (Mxs M (x3 + 3).toNatClampNeg) σx r hfx) ?_
  refine q_aload_n O dL_law_1448 rfl 2 rfl ?_
  refine q_tload_n O dL_law_1449 rfl 0 rfl ?_
  refine q_iload_n O dL_law_1450 rfl 3 rfl ?_
  refine q_iconst (v := 1) O dL_law_1451 rfl ?_
  refine q_iadd O dL_law_1452 ?_
  refine q_sld O dL_law_1453 (hin 1 (by decide)) ?_
  refine q_tload_n O dL_law_1454 rfl 0 rfl ?_
  refine q_iload_n O dL_law_1455 rfl 3 rfl ?_
  refine q_iconst (v := 2) O dL_law_1456 rfl ?_
  refine q_iadd O dL_law_1457 ?_
  refine q_sld O dL_law_1458 (hin 2 (by decide)) ?_
  refine q_tload_n O dL_law_1459 rfl 0 rfl ?_
  refine q_iload_n O dL_law_1460 rfl 3 rfl ?_
  refine q_iconst (v := 3) O dL_law_1461 rfl ?_
  refine q_iadd O dL_law_1462 ?_
  refine q_sld O dL_law_1463 (hin 3 (by decide)) ?_
  refine q_callM O dL_law_1464 vl_L_130 vv_X12_loss [Mxs M (x3 + 1).toNatClampNeg, Mxs M (x3 + 2).toNatClampNeg, Mxs M (x3 + 3).toNatClampNeg] rfl rfl rfl ⟨Nat.le_of_ble_eq_true rfl, Nat.le_of_ble_eq_true rfl⟩ (fun _ _ _ => rfl) (fun l => c_X12_loss l 0 (Mxs M (x3 + 1).toNatClampNeg) (Mxs M (x3 + 2).toNatClampNeg) (Mxs M (x3 + 3).toNatClampNeg) σm r sm1 hfm) ?_
  refine q_icmp_eq O dL_law_1467 rfl (fun _ => ?_) (fun c => absurd rfl c)
  exact hgo _ _ hI1
theorem lc_wedding {M : Ml} (O : OkL M) (Inv : Dt → Dt → Prop) (hk_wedding : LK_wedding Inv) (σx σm : Dt) (hI : Inv σx σm) (x3 : Int32) (xs : Nat → Int32) (hxs : Mxs M = xs) (hin : ∀ j : Nat, j ≤ 6 → vp_in (x3 + Int32.ofNat j) (ML M)) (hgo : ∀ σx σm, Inv σx σm → GL M 1730 [(0, vT 300), (1, vA (some 0)), (2, vA (some 222)), (3, vI x3)] [] σx σm) : GL M 1472 [(0, vT 300), (1, vA (some 0)), (2, vA (some 222)), (3, vI x3)] [] σx σm := by
  subst hxs
  refine q_aload_n O dL_law_1472 rfl 1 rfl ?_
  refine q_tload_n O dL_law_1473 rfl 0 rfl ?_
  refine q_iload_n O dL_law_1474 rfl 3 rfl ?_
  refine q_iconst (v := 1) O dL_law_1475 rfl ?_
  refine q_iadd O dL_law_1476 ?_
  refine q_sld O dL_law_1477 (hin 1 (by decide)) ?_
  refine q_tload_n O dL_law_1478 rfl 0 rfl ?_
  refine q_iload_n O dL_law_1479 rfl 3 rfl ?_
  refine q_iconst (v := 2) O dL_law_1480 rfl ?_
  refine q_iadd O dL_law_1481 ?_
  refine q_sld O dL_law_1482 (hin 2 (by decide)) ?_
  refine q_tload_n O dL_law_1483 rfl 0 rfl ?_
  refine q_iload_n O dL_law_1484 rfl 3 rfl ?_
  refine q_iconst (v := 3) O dL_law_1485 rfl ?_
  refine q_iadd O dL_law_1486 ?_
  refine q_sld O dL_law_1487 (hin 3 (by decide)) ?_
  obtain ⟨r, sx1, sm1, hfx, hfm, hI1⟩ := hk_wedding σx σm (Mxs M (x3 + 1).toNatClampNeg) (Mxs M (x3 + 2).toNatClampNeg) (Mxs M (x3 + 3).toNatClampNeg) hI 
  refine q_callX O dL_law_1488 vl_L_131 vv_X11_wedding [vI (Mxs M (x3 + 1).toNatClampNeg), vI (Mxs M (x3 + 2).toNatClampNeg), vI (Mxs M (x3 + 3).toNatClampNeg)] rfl rfl rfl ⟨Nat.le_of_ble_eq_true rfl, Nat.le_of_ble_eq_true rfl⟩ (fun l => c_X11_wedding l 0 (Mxs M (x3 + 1).toNatClampNeg) (Mxs M (x3 + 2).toNatClampNeg) (Mxs M (x3 + 3).toNatClampNeg) σx r sx1 hfx) ?_
  refine q_aload_n O dL_law_1491 rfl 2 rfl ?_
  refine q_tload_n O dL_law_1492 rfl 0 rfl ?_
  refine q_iload_n O dL_law_1493 rfl 3 rfl ?_
  refine q_iconst (v := 1) O dL_law_1494 rfl ?_
  refine q_iadd O dL_law_1495 ?_
  refine q_sld O dL_law_1496 (hin 1 (by decide)) ?_
  refine q_tload_n O dL_law_1497 rfl 0 rfl ?_
  refine q_iload_n O dL_law_1498 rfl 3 rfl ?_
  refine q_iconst (v := 2) O dL_law_1499 rfl ?_
  refine q_iadd O dL_law_1500 ?_
  refine q_sld O dL_law_1501 (hin 2 (by decide)) ?_
  refine q_tload_n O dL_law_1502 rfl 0 rfl ?_
  refine q_iload_n O dL_law_1503 rfl 3 rfl ?_
  refine q_iconst (v := 3) O dL_law_1504 rfl ?_
  refine q_iadd O dL_law_1505 ?_
  refine q_sld O dL_law_1506 (hin 3 (by decide)) ?_
  refine q_callM O dL_law_1507 vl_L_134 vv_X12_wedding [Mxs M (x3 + 1).toNatClampNeg, Mxs M (x3 + 2).toNatClampNeg, Mxs M (x3 + 3).toNatClampNeg] rfl rfl rfl ⟨Nat.le_of_ble_eq_true rfl, Nat.le_of_ble_eq_true rfl⟩ (fun _ _ _ => rfl) (fun l => c_X12_wedding l 0 (Mxs M (x3 + 1).toNatClampNeg) (Mxs M (x3 + 2).toNatClampNeg) (Mxs M (x3 + 3).toNatClampNeg) σm r sm1 hfm) ?_
  refine q_icmp_eq O dL_law_1510 rfl (fun _ => ?_) (fun c => absurd rfl c)
  exact hgo _ _ hI1
theorem lc_after {M : Ml} (O : OkL M) (Inv : Dt → Dt → Prop) (hk_after : LK_after Inv) (σx σm : Dt) (hI : Inv σx σm) (x3 : Int32) (xs : Nat → Int32) (hxs : Mxs M = xs) (hin : ∀ j : Nat, j ≤ 6 → vp_in (x3 + Int32.ofNat j) (ML M)) (hgo : ∀ σx σm, Inv σx σm → GL M 1730 [(0, vT 300), (1, vA (some 0)), (2, vA (some 222)), (3, vI x3)] [] σx σm) : GL M 1515 [(0, vT 300), (1, vA (some 0)), (2, vA (some 222)), (3, vI x3)] [] σx σm := by
  subst hxs
  refine q_aload_n O dL_law_1515 rfl 1 rfl ?_
  refine q_tload_n O dL_law_1516 rfl 0 rfl ?_
  refine q_iload_n O dL_law_1517 rfl 3 rfl ?_
  refine q_iconst (v := 1) O dL_law_1518 rfl ?_
  refine q_iadd O dL_law_1519 ?_
  refine q_sld O dL_law_1520 (hin 1 (by decide)) ?_
  refine q_tload_n O dL_law_1521 rfl 0 rfl ?_
  refine q_iload_n O dL_law_1522 rfl 3 rfl ?_
  refine q_iconst (v := 2) O dL_law_1523 rfl ?_
  refine q_iadd O dL_law_1524 ?_
  refine q_sld O dL_law_1525 (hin 2 (by decide)) ?_
  refine q_tload_n O dL_law_1526 rfl 0 rfl ?_
  refine q_iload_n O dL_law_1527 rfl 3 rfl ?_
  refine q_iconst (v := 3) O dL_law_1528 rfl ?_
  refine q_iadd O dL_law_1529 ?_
  refine q_sld O dL_law_1530 (hin 3 (by decide)) ?_
  obtain ⟨r, sx1, sm1, hfx, hfm, hI1⟩ := hk_after σx σm (Mxs M (x3 + 1).toNatClampNeg) (Mxs M (x3 + 2).toNatClampNeg) (Mxs M (x3 + 3).toNatClampNeg) hI 
  refine q_callX O dL_law_1531 vl_L_135 vv_X11_after [vI (Mxs M (x3 + 1).toNatClampNeg), vI (Mxs M (x3 + 2).toNatClampNeg), vI (Mxs M (x3 + 3).toNatClampNeg)] rfl rfl rfl ⟨Nat.le_of_ble_eq_true rfl, Nat.le_of_ble_eq_true rfl⟩ (fun l => c_X11_after l 0 (Mxs M (x3 + 1).toNatClampNeg) (Mxs M (x3 + 2).toNatClampNeg) (Mxs M (x3 + 3).toNatClampNeg) σx r sx1 hfx) ?_
  refine q_aload_n O dL_law_1534 rfl 2 rfl ?_
  refine q_tload_n O dL_law_1535 rfl 0 rfl ?_
  refine q_iload_n O dL_law_1536 rfl 3 rfl ?_
  refine q_iconst (v := 1) O dL_law_1537 rfl ?_
  refine q_iadd O dL_law_1538 ?_
  refine q_sld O dL_law_1539 (hin 1 (by decide)) ?_
  refine q_tload_n O dL_law_1540 rfl 0 rfl ?_
  refine q_iload_n O dL_law_1541 rfl 3 rfl ?_
  refine q_iconst (v := 2) O dL_law_1542 rfl ?_
  refine q_iadd O dL_law_1543 ?_
  refine q_sld O dL_law_1544 (hin 2 (by decide)) ?_
  refine q_tload_n O dL_law_1545 rfl 0 rfl ?_
  refine q_iload_n O dL_law_1546 rfl 3 rfl ?_
  refine q_iconst (v := 3) O dL_law_1547 rfl ?_
  refine q_iadd O dL_law_1548 ?_
  refine q_sld O dL_law_1549 (hin 3 (by decide)) ?_
  refine q_callM O dL_law_1550 vl_L_138 vv_X12_after [Mxs M (x3 + 1).toNatClampNeg, Mxs M (x3 + 2).toNatClampNeg, Mxs M (x3 + 3).toNatClampNeg] rfl rfl rfl ⟨Nat.le_of_ble_eq_true rfl, Nat.le_of_ble_eq_true rfl⟩ (fun _ _ _ => rfl) (fun l => c_X12_after l 0 (Mxs M (x3 + 1).toNatClampNeg) (Mxs M (x3 + 2).toNatClampNeg) (Mxs M (x3 + 3).toNatClampNeg) σm r sm1 hfm) ?_
  refine q_icmp_eq O dL_law_1553 rfl (fun _ => ?_) (fun c => absurd rfl c)
  exact hgo _ _ hI1
theorem lc_share {M : Ml} (O : OkL M) (Inv : Dt → Dt → Prop) (hk_share : LK_share Inv) (σx σm : Dt) (hI : Inv σx σm) (x3 : Int32) (xs : Nat → Int32) (hxs : Mxs M = xs) (hin : ∀ j : Nat, j ≤ 6 → vp_in (x3 + Int32.ofNat j) (ML M)) (hgo : ∀ σx σm, Inv σx σm → GL M 1730 [(0, vT 300), (1, vA (some 0)), (2, vA (some 222)), (3, vI x3)] [] σx σm) : GL M 1558 [(0, vT 300), (1, vA (some 0)), (2, vA (some 222)), (3, vI x3)] [] σx σm := by
  subst hxs
  refine q_aload_n O dL_law_1558 rfl 1 rfl ?_
  refine q_tload_n O dL_law_1559 rfl 0 rfl ?_
  refine q_iload_n O dL_law_1560 rfl 3 rfl ?_
  refine q_iconst (v := 1) O dL_law_1561 rfl ?_
  refine q_iadd O dL_law_1562 ?_
  refine q_sld O dL_law_1563 (hin 1 (by decide)) ?_
  refine q_tload_n O dL_law_1564 rfl 0 rfl ?_
  refine q_iload_n O dL_law_1565 rfl 3 rfl ?_
  refine q_iconst (v := 2) O dL_law_1566 rfl ?_
  refine q_iadd O dL_law_1567 ?_
  refine q_sld O dL_law_1568 (hin 2 (by decide)) ?_
  refine q_tload_n O dL_law_1569 rfl 0 rfl ?_
  refine q_iload_n O dL_law_1570 rfl 3 rfl ?_
  refine q_iconst (v := 3) O dL_law_1571 rfl ?_
  refine q_iadd O dL_law_1572 ?_
  refine q_sld O dL_law_1573 (hin 3 (by decide)) ?_
  refine q_tload_n O dL_law_1574 rfl 0 rfl ?_
  refine q_iload_n O dL_law_1575 rfl 3 rfl ?_
  refine q_iconst (v := 4) O dL_law_1576 rfl ?_
  refine q_iadd O dL_law_1577 ?_
  refine q_sld O dL_law_1578 (hin 4 (by decide)) ?_
  refine q_if_eq O dL_law_1579 rfl (fun hc4 => ?_) (fun hc4 => ?_)
  · skip
    refine q_iconst (v := 0) O dL_law_1586 rfl ?_
    obtain ⟨r, sx1, sm1, hfx, hfm, hI1⟩ := hk_share σx σm (Mxs M (x3 + 1).toNatClampNeg) (Mxs M (x3 + 2).toNatClampNeg) (Mxs M (x3 + 3).toNatClampNeg) (0) hI (by decide)
    refine q_callX O dL_law_1587 vl_L_139 vv_X11_share [vI (Mxs M (x3 + 1).toNatClampNeg), vI (Mxs M (x3 + 2).toNatClampNeg), vI (Mxs M (x3 + 3).toNatClampNeg), vI (0)] rfl rfl rfl ⟨Nat.le_of_ble_eq_true rfl, Nat.le_of_ble_eq_true rfl⟩ (fun l => c_X11_share l 0 (Mxs M (x3 + 1).toNatClampNeg) (Mxs M (x3 + 2).toNatClampNeg) (Mxs M (x3 + 3).toNatClampNeg) (0) σx r sx1 hfx) ?_
    refine q_aload_n O dL_law_1590 rfl 2 rfl ?_
    refine q_tload_n O dL_law_1591 rfl 0 rfl ?_
    refine q_iload_n O dL_law_1592 rfl 3 rfl ?_
    refine q_iconst (v := 1) O dL_law_1593 rfl ?_
    refine q_iadd O dL_law_1594 ?_
    refine q_sld O dL_law_1595 (hin 1 (by decide)) ?_
    refine q_tload_n O dL_law_1596 rfl 0 rfl ?_
    refine q_iload_n O dL_law_1597 rfl 3 rfl ?_
    refine q_iconst (v := 2) O dL_law_1598 rfl ?_
    refine q_iadd O dL_law_1599 ?_
    refine q_sld O dL_law_1600 (hin 2 (by decide)) ?_
    refine q_tload_n O dL_law_1601 rfl 0 rfl ?_
    refine q_iload_n O dL_law_1602 rfl 3 rfl ?_
    refine q_iconst (v := 3) O dL_law_1603 rfl ?_
    refine q_iadd O dL_law_1604 ?_
    refine q_sld O dL_law_1605 (hin 3 (by decide)) ?_
    refine q_tload_n O dL_law_1606 rfl 0 rfl ?_
    refine q_iload_n O dL_law_1607 rfl 3 rfl ?_
    refine q_iconst (v := 4) O dL_law_1608 rfl ?_
    refine q_iadd O dL_law_1609 ?_
    refine q_sld O dL_law_1610 (hin 4 (by decide)) ?_
    refine q_if_eq O dL_law_1611 rfl (fun _ => ?_) (fun c => absurd hc4 c)
    refine q_iconst (v := 0) O dL_law_1618 rfl ?_
    refine q_callM O dL_law_1619 vl_L_142 vv_X12_share [Mxs M (x3 + 1).toNatClampNeg, Mxs M (x3 + 2).toNatClampNeg, Mxs M (x3 + 3).toNatClampNeg, 0] rfl rfl rfl ⟨Nat.le_of_ble_eq_true rfl, Nat.le_of_ble_eq_true rfl⟩ (fun _ _ _ => rfl) (fun l => c_X12_share l 0 (Mxs M (x3 + 1).toNatClampNeg) (Mxs M (x3 + 2).toNatClampNeg) (Mxs M (x3 + 3).toNatClampNeg) (0) σm r sm1 hfm) ?_
    refine q_lcmp O dL_law_1622 ?_
    refine q_if_eq O dL_law_1623 rfl (fun _ => ?_) (fun c => absurd (lcmp_self r) c)
    exact hgo _ _ hI1
  · skip
    refine q_iconst (v := 1) O dL_law_1582 rfl ?_
    refine q_goto O dL_law_1583 rfl ?_
    obtain ⟨r, sx1, sm1, hfx, hfm, hI1⟩ := hk_share σx σm (Mxs M (x3 + 1).toNatClampNeg) (Mxs M (x3 + 2).toNatClampNeg) (Mxs M (x3 + 3).toNatClampNeg) (1) hI (by decide)
    refine q_callX O dL_law_1587 vl_L_139 vv_X11_share [vI (Mxs M (x3 + 1).toNatClampNeg), vI (Mxs M (x3 + 2).toNatClampNeg), vI (Mxs M (x3 + 3).toNatClampNeg), vI (1)] rfl rfl rfl ⟨Nat.le_of_ble_eq_true rfl, Nat.le_of_ble_eq_true rfl⟩ (fun l => c_X11_share l 0 (Mxs M (x3 + 1).toNatClampNeg) (Mxs M (x3 + 2).toNatClampNeg) (Mxs M (x3 + 3).toNatClampNeg) (1) σx r sx1 hfx) ?_
    refine q_aload_n O dL_law_1590 rfl 2 rfl ?_
    refine q_tload_n O dL_law_1591 rfl 0 rfl ?_
    refine q_iload_n O dL_law_1592 rfl 3 rfl ?_
    refine q_iconst (v := 1) O dL_law_1593 rfl ?_
    refine q_iadd O dL_law_1594 ?_
    refine q_sld O dL_law_1595 (hin 1 (by decide)) ?_
    refine q_tload_n O dL_law_1596 rfl 0 rfl ?_
    refine q_iload_n O dL_law_1597 rfl 3 rfl ?_
    refine q_iconst (v := 2) O dL_law_1598 rfl ?_
    refine q_iadd O dL_law_1599 ?_
    refine q_sld O dL_law_1600 (hin 2 (by decide)) ?_
    refine q_tload_n O dL_law_1601 rfl 0 rfl ?_
    refine q_iload_n O dL_law_1602 rfl 3 rfl ?_
    refine q_iconst (v := 3) O dL_law_1603 rfl ?_
    refine q_iadd O dL_law_1604 ?_
    refine q_sld O dL_law_1605 (hin 3 (by decide)) ?_
    refine q_tload_n O dL_law_1606 rfl 0 rfl ?_
    refine q_iload_n O dL_law_1607 rfl 3 rfl ?_
    refine q_iconst (v := 4) O dL_law_1608 rfl ?_
    refine q_iadd O dL_law_1609 ?_
    refine q_sld O dL_law_1610 (hin 4 (by decide)) ?_
    refine q_if_eq O dL_law_1611 rfl (fun c => absurd c hc4) (fun _ => ?_)
    refine q_iconst (v := 1) O dL_law_1614 rfl ?_
    refine q_goto O dL_law_1615 rfl ?_
    refine q_callM O dL_law_1619 vl_L_142 vv_X12_share [Mxs M (x3 + 1).toNatClampNeg, Mxs M (x3 + 2).toNatClampNeg, Mxs M (x3 + 3).toNatClampNeg, 1] rfl rfl rfl ⟨Nat.le_of_ble_eq_true rfl, Nat.le_of_ble_eq_true rfl⟩ (fun _ _ _ => rfl) (fun l => c_X12_share l 0 (Mxs M (x3 + 1).toNatClampNeg) (Mxs M (x3 + 2).toNatClampNeg) (Mxs M (x3 + 3).toNatClampNeg) (1) σm r sm1 hfm) ?_
    refine q_lcmp O dL_law_1622 ?_
    refine q_if_eq O dL_law_1623 rfl (fun _ => ?_) (fun c => absurd (lcmp_self r) c)
    exact hgo _ _ hI1
theorem lc_later {M : Ml} (O : OkL M) (Inv : Dt → Dt → Prop) (hk_later : LK_later Inv) (σx σm : Dt) (hI : Inv σx σm) (x3 : Int32) (xs : Nat → Int32) (hxs : Mxs M = xs) (hin : ∀ j : Nat, j ≤ 6 → vp_in (x3 + Int32.ofNat j) (ML M)) (hgo : ∀ σx σm, Inv σx σm → GL M 1730 [(0, vT 300), (1, vA (some 0)), (2, vA (some 222)), (3, vI x3)] [] σx σm) : GL M 1628 [(0, vT 300), (1, vA (some 0)), (2, vA (some 222)), (3, vI x3)] [] σx σm := by
  subst hxs
  refine q_aload_n O dL_law_1628 rfl 1 rfl ?_
  refine q_tload_n O dL_law_1629 rfl 0 rfl ?_
  refine q_iload_n O dL_law_1630 rfl 3 rfl ?_
  refine q_iconst (v := 1) O dL_law_1631 rfl ?_
  refine q_iadd O dL_law_1632 ?_
  refine q_sld O dL_law_1633 (hin 1 (by decide)) ?_
  refine q_tload_n O dL_law_1634 rfl 0 rfl ?_
  refine q_iload_n O dL_law_1635 rfl 3 rfl ?_
  refine q_iconst (v := 2) O dL_law_1636 rfl ?_
  refine q_iadd O dL_law_1637 ?_
  refine q_sld O dL_law_1638 (hin 2 (by decide)) ?_
  obtain ⟨r, sx1, sm1, hfx, hfm, hI1⟩ := hk_later σx σm (Mxs M (x3 + 1).toNatClampNeg) (Mxs M (x3 + 2).toNatClampNeg) hI 
  refine q_callX O dL_law_1639 vl_L_143 vv_X11_later [vI (Mxs M (x3 + 1).toNatClampNeg), vI (Mxs M (x3 + 2).toNatClampNeg)] rfl rfl rfl ⟨Nat.le_of_ble_eq_true rfl, Nat.le_of_ble_eq_true rfl⟩ (fun l => c_X11_later l 0 (Mxs M (x3 + 1).toNatClampNeg) (Mxs M (x3 + 2).toNatClampNeg) σx r sx1 hfx) ?_
  refine q_aload_n O dL_law_1642 rfl 2 rfl ?_
  refine q_tload_n O dL_law_1643 rfl 0 rfl ?_
  refine q_iload_n O dL_law_1644 rfl 3 rfl ?_
  refine q_iconst (v := 1) O dL_law_1645 rfl ?_
  refine q_iadd O dL_law_1646 ?_
  refine q_sld O dL_law_1647 (hin 1 (by decide)) ?_
  refine q_tload_n O dL_law_1648 rfl 0 rfl ?_
  refine q_iload_n O dL_law_1649 rfl 3 rfl ?_
  refine q_iconst (v := 2) O dL_law_1650 rfl ?_
  refine q_iadd O dL_law_1651 ?_
  refine q_sld O dL_law_1652 (hin 2 (by decide)) ?_
  refine q_callM O dL_law_1653 vl_L_146 vv_X12_later [Mxs M (x3 + 1).toNatClampNeg, Mxs M (x3 + 2).toNatClampNeg] rfl rfl rfl ⟨Nat.le_of_ble_eq_true rfl, Nat.le_of_ble_eq_true rfl⟩ (fun _ _ _ => rfl) (fun l => c_X12_later l 0 (Mxs M (x3 + 1).toNatClampNeg) (Mxs M (x3 + 2).toNatClampNeg) σm r sm1 hfm) ?_
  refine q_icmp_eq O dL_law_1656 rfl (fun _ => ?_) (fun c => absurd rfl c)
  exact hgo _ _ hI1
theorem lc_count {M : Ml} (O : OkL M) (Inv : Dt → Dt → Prop) (hk_count : LK_count Inv) (σx σm : Dt) (hI : Inv σx σm) (x3 : Int32) (xs : Nat → Int32) (hxs : Mxs M = xs) (hin : ∀ j : Nat, j ≤ 6 → vp_in (x3 + Int32.ofNat j) (ML M)) (hgo : ∀ σx σm, Inv σx σm → GL M 1730 [(0, vT 300), (1, vA (some 0)), (2, vA (some 222)), (3, vI x3)] [] σx σm) : GL M 1661 [(0, vT 300), (1, vA (some 0)), (2, vA (some 222)), (3, vI x3)] [] σx σm := by
  subst hxs
  refine q_aload_n O dL_law_1661 rfl 1 rfl ?_
  refine q_tload_n O dL_law_1662 rfl 0 rfl ?_
  refine q_iload_n O dL_law_1663 rfl 3 rfl ?_
  refine q_iconst (v := 1) O dL_law_1664 rfl ?_
  refine q_iadd O dL_law_1665 ?_
  refine q_sld O dL_law_1666 (hin 1 (by decide)) ?_
  obtain ⟨r, hfx, hfm, hI1⟩ := hk_count σx σm (Mxs M (x3 + 1).toNatClampNeg) hI 
  refine q_callX O dL_law_1667 vl_L_147 vv_X11_count [vI (Mxs M (x3 + 1).toNatClampNeg)] rfl rfl rfl ⟨Nat.le_of_ble_eq_true rfl, Nat.le_of_ble_eq_true rfl⟩ (fun l => c_X11_count l 0 (Mxs M (x3 + 1).toNatClampNeg) σx r hfx) ?_
  refine q_aload_n O dL_law_1670 rfl 2 rfl ?_
  refine q_tload_n O dL_law_1671 rfl 0 rfl ?_
  refine q_iload_n O dL_law_1672 rfl 3 rfl ?_
  refine q_iconst (v := 1) O dL_law_1673 rfl ?_
  refine q_iadd O dL_law_1674 ?_
  refine q_sld O dL_law_1675 (hin 1 (by decide)) ?_
  refine q_callM O dL_law_1676 vl_L_150 vv_X12_count [Mxs M (x3 + 1).toNatClampNeg] rfl rfl rfl ⟨Nat.le_of_ble_eq_true rfl, Nat.le_of_ble_eq_true rfl⟩ (fun _ _ _ => rfl) (fun l => c_X12_count l 0 (Mxs M (x3 + 1).toNatClampNeg) σm r hfm) ?_
  refine q_icmp_eq O dL_law_1679 rfl (fun _ => ?_) (fun c => absurd rfl c)
  exact hgo _ _ hI1
theorem lc_image {M : Ml} (O : OkL M) (Inv : Dt → Dt → Prop) (hk_image : LK_image Inv) (σx σm : Dt) (hI : Inv σx σm) (x3 : Int32) (xs : Nat → Int32) (hxs : Mxs M = xs) (hin : ∀ j : Nat, j ≤ 6 → vp_in (x3 + Int32.ofNat j) (ML M)) (hgo : ∀ σx σm, Inv σx σm → GL M 1730 [(0, vT 300), (1, vA (some 0)), (2, vA (some 222)), (3, vI x3)] [] σx σm) : GL M 1684 [(0, vT 300), (1, vA (some 0)), (2, vA (some 222)), (3, vI x3)] [] σx σm := by
  subst hxs
  refine q_aload_n O dL_law_1684 rfl 1 rfl ?_
  refine q_tload_n O dL_law_1685 rfl 0 rfl ?_
  refine q_iload_n O dL_law_1686 rfl 3 rfl ?_
  refine q_iconst (v := 1) O dL_law_1687 rfl ?_
  refine q_iadd O dL_law_1688 ?_
  refine q_sld O dL_law_1689 (hin 1 (by decide)) ?_
  obtain ⟨r, sx1, sm1, hfx, hfm, hI1⟩ := hk_image σx σm (Mxs M (x3 + 1).toNatClampNeg) hI 
  refine q_callX O dL_law_1690 vl_L_151 vv_X11_image [vI (Mxs M (x3 + 1).toNatClampNeg)] rfl rfl rfl ⟨Nat.le_of_ble_eq_true rfl, Nat.le_of_ble_eq_true rfl⟩ (fun l => c_X11_image l 0 (Mxs M (x3 + 1).toNatClampNeg) σx r sx1 hfx) ?_
  refine q_aload_n O dL_law_1693 rfl 2 rfl ?_
  refine q_tload_n O dL_law_1694 rfl 0 rfl ?_
  refine q_iload_n O dL_law_1695 rfl 3 rfl ?_
  refine q_iconst (v := 1) O dL_law_1696 rfl ?_
  refine q_iadd O dL_law_1697 ?_
  refine q_sld O dL_law_1698 (hin 1 (by decide)) ?_
  refine q_callM O dL_law_1699 vl_L_155 vv_X12_image [Mxs M (x3 + 1).toNatClampNeg] rfl rfl rfl ⟨Nat.le_of_ble_eq_true rfl, Nat.le_of_ble_eq_true rfl⟩ (fun _ _ _ => rfl) (fun l => c_X12_image l 0 (Mxs M (x3 + 1).toNatClampNeg) σm r sm1 hfm) ?_
  refine q_icmp_eq O dL_law_1702 rfl (fun _ => ?_) (fun c => absurd rfl c)
  exact hgo _ _ hI1
theorem lc_again {M : Ml} (O : OkL M) (Inv : Dt → Dt → Prop) (hk_again : LK_again Inv) (σx σm : Dt) (hI : Inv σx σm) (x3 : Int32) (xs : Nat → Int32) (hxs : Mxs M = xs) (hin : ∀ j : Nat, j ≤ 6 → vp_in (x3 + Int32.ofNat j) (ML M)) (hgo : ∀ σx σm, Inv σx σm → GL M 1730 [(0, vT 300), (1, vA (some 0)), (2, vA (some 222)), (3, vI x3)] [] σx σm) : GL M 1707 [(0, vT 300), (1, vA (some 0)), (2, vA (some 222)), (3, vI x3)] [] σx σm := by
  subst hxs
  refine q_aload_n O dL_law_1707 rfl 1 rfl ?_
  refine q_tload_n O dL_law_1708 rfl 0 rfl ?_
  refine q_iload_n O dL_law_1709 rfl 3 rfl ?_
  refine q_iconst (v := 1) O dL_law_1710 rfl ?_
  refine q_iadd O dL_law_1711 ?_
  refine q_sld O dL_law_1712 (hin 1 (by decide)) ?_
  obtain ⟨r, sx1, sm1, hfx, hfm, hI1⟩ := hk_again σx σm (Mxs M (x3 + 1).toNatClampNeg) hI 
  refine q_callX O dL_law_1713 vl_L_156 vv_X11_again [vI (Mxs M (x3 + 1).toNatClampNeg)] rfl rfl rfl ⟨Nat.le_of_ble_eq_true rfl, Nat.le_of_ble_eq_true rfl⟩ (fun l => c_X11_again l 0 (Mxs M (x3 + 1).toNatClampNeg) σx r sx1 hfx) ?_
  refine q_aload_n O dL_law_1716 rfl 2 rfl ?_
  refine q_tload_n O dL_law_1717 rfl 0 rfl ?_
  refine q_iload_n O dL_law_1718 rfl 3 rfl ?_
  refine q_iconst (v := 1) O dL_law_1719 rfl ?_
  refine q_iadd O dL_law_1720 ?_
  refine q_sld O dL_law_1721 (hin 1 (by decide)) ?_
  refine q_callM O dL_law_1722 vl_L_159 vv_X12_again [Mxs M (x3 + 1).toNatClampNeg] rfl rfl rfl ⟨Nat.le_of_ble_eq_true rfl, Nat.le_of_ble_eq_true rfl⟩ (fun _ _ _ => rfl) (fun l => c_X12_again l 0 (Mxs M (x3 + 1).toNatClampNeg) σm r sm1 hfm) ?_
  refine q_icmp_eq O dL_law_1725 rfl (fun _ => ?_) (fun c => absurd rfl c)
  exact hgo _ _ hI1
def LKall (Inv : Dt → Dt → Prop) : Prop := LK_feed Inv ∧ LK_end Inv ∧ LK_text Inv ∧ LK_fault Inv ∧ LK_valley Inv ∧ LK_deed Inv ∧ LK_stop Inv ∧ LK_state Inv ∧ LK_keep Inv ∧ LK_say Inv ∧ LK_dare Inv ∧ LK_plan Inv ∧ LK_odds Inv ∧ LK_power Inv ∧ LK_kinship Inv ∧ LK_line Inv ∧ LK_sight Inv ∧ LK_fits Inv ∧ LK_drawn Inv ∧ LK_elders Inv ∧ LK_apart Inv ∧ LK_houses Inv ∧ LK_soon Inv ∧ LK_most Inv ∧ LK_lot Inv ∧ LK_heaps Inv ∧ LK_loss Inv ∧ LK_wedding Inv ∧ LK_after Inv ∧ LK_share Inv ∧ LK_later Inv ∧ LK_count Inv ∧ LK_image Inv ∧ LK_again Inv
