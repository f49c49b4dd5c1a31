/-! ===== the start: what the two constructors make ===== -/
def sh00 : Sh := (0, fun _ => 0, fun _ => 0)
def σ00 : Dt := (fun _ _ => 0, fun _ _ => 0, fun _ _ => none)
def fall : Option ((Sh × Dt) × (Sh × Dt)) := bo (xnO sh00 11 σ00) fun p1 => bo (f_X11_init 0 p1.1 p1.2) fun p2 => bo (xnO p2.1 12 p2.2) fun p3 => bo (f_X12_init p2.1.1 p3.1 p3.2) fun r => some (p2, r)
def refUp (r : Option Nat) : Bool := match r with
  | none => true
  | some x => Nat.ble 222 x
def chk (r : Sh × Dt) : Bool := Nat.beq r.1.1 249 && (List.range 222).all (fun k => Nat.beq (r.1.2.1 k) (KXT.getD k 0) && Nat.beq (r.1.2.2 k) (LXT.getD k 0)) && (List.range 27).all (fun k => Nat.beq (r.1.2.1 (222 + k)) (KMT.getD k 0) && Nat.beq (r.1.2.2 (222 + k)) (LMT.getD k 0)) && (List.range 48).all (fun j => refUp (r.2.2.2 222 j))
def fallB : Bool := match fall with
  | none => false
  | some q => Nat.beq q.1.1.1 222 && chk q.2
theorem fallB_ok : fallB = true := by decide +kernel
def rAll : Sh × Dt := match fall with
  | none => (sh00, σ00)
  | some q => q.2
def σX0 : Dt := rAll.2
def σM0 : Dt := (fun k => rAll.2.1 (222 + k), fun k => rAll.2.2.1 (222 + k), fun k j => (rAll.2.2.2 (222 + k) j).map (fun x => x - 222))
theorem fall_ex : ∃ p1 p2 p3, xnO sh00 11 σ00 = some p1 ∧ f_X11_init 0 p1.1 p1.2 = some p2 ∧ xnO p2.1 12 p2.2 = some p3 ∧ f_X12_init 222 p3.1 p3.2 = some rAll ∧ p2.1.1 = 222 ∧ chk rAll = true := by
  have h := fallB_ok
  unfold fallB at h
  cases hf : fall with
  | none => rw [hf] at h; cases h
  | some q =>
    rw [hf] at h
    simp only [Bool.and_eq_true] at h
    have hr : rAll = q.2 := by unfold rAll; rw [hf]
    have h222 := Nat.eq_of_beq_eq_true h.1
    unfold fall at hf
    obtain ⟨p1, e1, hf⟩ := bo_some hf
    obtain ⟨p2, e2, hf⟩ := bo_some hf
    obtain ⟨p3, e3, hf⟩ := bo_some hf
    obtain ⟨r, e4, hf⟩ := bo_some hf
    cases hf
    have h222' : p2.1.1 = 222 := h222
    refine ⟨p1, p2, p3, e1, e2, e3, ?_, h222', ?_⟩
    · rw [hr, ← e4, h222']
    · rw [hr]; exact h.2
theorem chk_x {b : Nat} {cy : Nat → ClassId} {r : Sh × Dt} (h : chk r = true) {k : Nat} (hk : k < 222) : cellE b cy SX r.2 k = cellE b cy r.1 r.2 k := by
  unfold chk at h
  simp only [Bool.and_eq_true, List.all_eq_true] at h
  have h1 := h.1.1.2 k (List.mem_range.mpr hk)
  exact cellE_cg2 (Nat.eq_of_beq_eq_true h1.1).symm (Nat.eq_of_beq_eq_true h1.2).symm rfl rfl rfl
theorem KMT_ne : ∀ k, k < 27 → (KMT.getD k 0 = 12 ↔ k = 0) ∧ (KMT.getD k 0 = 12 ∨ 13 ≤ KMT.getD k 0 ∧ KMT.getD k 0 < 16) := by decide
theorem chk_m {b : Nat} {cy : Nat → ClassId} {r : Sh × Dt} (h : chk r = true) {k : Nat} (hk : k < 27) : cellE (b + 222) cy SM (fun k => r.2.1 (222 + k), fun k => r.2.2.1 (222 + k), fun k j => (r.2.2.2 (222 + k) j).map (fun x => x - 222)) k = cellE b cy r.1 r.2 (222 + k) := by
  unfold chk at h
  simp only [Bool.and_eq_true, List.all_eq_true] at h
  have h1 := h.1.2 k (List.mem_range.mpr hk)
  have hkd : r.1.2.1 (222 + k) = KMT.getD k 0 := Nat.eq_of_beq_eq_true h1.1
  have hln : r.1.2.2 (222 + k) = LMT.getD k 0 := Nat.eq_of_beq_eq_true h1.2
  have hsk : SM.2.1 k = KMT.getD k 0 := rfl
  have hsl : SM.2.2 k = LMT.getD k 0 := rfl
  obtain ⟨h0, h2⟩ := KMT_ne k hk
  unfold cellE cellA
  rw [hkd, hln, hsk, hsl]
  rcases h2 with h2 | h2
  · rw [h2, if_pos (by omega), if_pos (by omega)]
    have hk0 := h0.mp h2
    subst hk0
    refine congrArg (fun l => (Sum.inr (12, l) : va_E)) (List.map_congr_left (fun j hj => ?_))
    have hj48 : j < 48 := List.mem_range.mp hj
    have hr := h.2 j (List.mem_range.mpr hj48)
    unfold fval
    by_cases c1 : fty 12 j = 1
    · rw [if_pos c1, if_pos c1]
    · rw [if_neg c1, if_neg c1]
      by_cases c2 : fty 12 j = 2
      · rw [if_pos c2, if_pos c2]
        show va_rf (((r.2.2.2 222 j).map (fun x => x - 222)).map (fun x => b + 222 + x)) = va_rf ((r.2.2.2 222 j).map (fun x => b + x))
        cases hc : r.2.2.2 222 j with
        | none => rfl
        | some x =>
          rw [hc] at hr
          have hx : 222 ≤ x := Nat.le_of_ble_eq_true hr
          show Value.ref (b + 222 + (x - 222)) = Value.ref (b + x)
          rw [show b + 222 + (x - 222) = b + x by omega]
      · rw [if_neg c2, if_neg c2]
  · generalize KMT.getD k 0 = kd at h2 ⊢
    have c0 : ¬ kd < 13 := by omega
    rw [if_neg c0, if_neg c0]
    by_cases c1 : kd = 13 ∨ kd = 15
    · rw [if_pos c1, if_pos c1]
    · have c2 : kd = 14 := by omega
      rw [if_neg c1, if_neg c1, if_pos c2, if_pos c2]
def tmS (i : Nat) : Term := Term.string "PromiseValley$Reader" (sIx.getD i 0)
def nar : List Cond := flatC (Jvm.Cond.and given_1 narrow_1)
theorem nS1 : ∀ i, i < 11 → Cond.exactly (tmS i) "java/lang/String" ∈ nar := by decide +kernel
theorem nS2 : ∀ i, i < 11 → Cond.eq (.field (tmS i) "java/lang/String" "coder" "B") (.int 0) ∈ nar := by decide +kernel
theorem nS3 : ∀ i, i < 11 → Cond.arrayOf (.field (tmS i) "java/lang/String" "value" "[B") .byte ∈ nar := by decide +kernel
theorem nS4 : ∀ i, i < 11 → Cond.eq (.length (.field (tmS i) "java/lang/String" "value" "[B")) (.int (Int32.ofNat (sLn.getD i 0))) ∈ nar := by decide +kernel
theorem nS5 : ∀ i, i < 11 → ∀ j, j < sLn.getD i 0 → Cond.eq (.elem (.field (tmS i) "java/lang/String" "value" "[B") (.int (Int32.ofNat j))) (.int ((sBy.getD i []).getD j 0)) ∈ nar := by decide +kernel
theorem nS6 : ∀ i, i < 11 → ∀ j, j < 11 → i ≠ j → Cond.not (Cond.eq (tmS i) (tmS j)) ∈ nar ∨ Cond.not (Cond.eq (tmS j) (tmS i)) ∈ nar := by decide +kernel
theorem nS7 : Cond.eq (.static "java/lang/String" "COMPACT_STRINGS" "Z") (.int 1) ∈ nar := by decide +kernel
theorem nS8 : Cond.isRef (.static "jdk/internal/util/Preconditions" "SIOOBE_FORMATTER" "Ljava/util/function/BiFunction;") ∈ nar := by decide +kernel
theorem nR : ∀ i, i < 11 → Cond.stringRef RX5 (sIx.getD i 0) (sTx.getD i "") ∈ lw_tbl := by decide +kernel
theorem nZ1 : Cond.laysStatic "java/lang/String" "COMPACT_STRINGS" "Z" ∈ lw_tbl ∧ Cond.initialized "java/lang/String" ∈ lw_tbl := by decide +kernel
theorem nZ2 : Cond.laysStatic "jdk/internal/util/Preconditions" "SIOOBE_FORMATTER" "Ljava/util/function/BiFunction;" ∈ lw_tbl ∧ Cond.initialized "jdk/internal/util/Preconditions" ∈ lw_tbl := by decide +kernel
theorem nA : Cond.arrayOver (.object RX4) ∈ lw_tbl ∧ Cond.arrayOver (.object RX6) ∈ lw_tbl ∧ Cond.arrayOver (.object RX8) ∈ lw_tbl ∧ Cond.arrayOver (.object RX9) ∈ lw_tbl ∧ Cond.arrayOver (.array .long) ∈ lw_tbl := by decide +kernel
theorem nB : Cond.arrayClass .int ∈ lw_tbl ∧ Cond.arrayClass .long ∈ lw_tbl ∧ Cond.arrayClass .boolean ∈ lw_tbl := by decide +kernel
theorem nIn_0 : Cond.instantiable RX0 6 ∈ tbl := mt 596 (by decide +kernel) (by decide +kernel)
theorem nIn_1 : Cond.instantiable RX1 12 ∈ tbl := mt 517 (by decide +kernel) (by decide +kernel)
theorem nIn_2 : Cond.instantiable RX2 7 ∈ tbl := mt 474 (by decide +kernel) (by decide +kernel)
theorem nIn_3 : Cond.instantiable RX3 7 ∈ tbl := mt 563 (by decide +kernel) (by decide +kernel)
theorem nIn_4 : Cond.instantiable RX4 5 ∈ tbl := mt 260 (by decide +kernel) (by decide +kernel)
theorem nIn_5 : Cond.instantiable RX5 13 ∈ tbl := mt 349 (by decide +kernel) (by decide +kernel)
theorem nIn_6 : Cond.instantiable RX6 4 ∈ tbl := mt 292 (by decide +kernel) (by decide +kernel)
theorem nIn_7 : Cond.instantiable RX7 2 ∈ tbl := mt 504 (by decide +kernel) (by decide +kernel)
theorem nIn_8 : Cond.instantiable RX8 8 ∈ tbl := mt 178 (by decide +kernel) (by decide +kernel)
theorem nIn_9 : Cond.instantiable RX9 10 ∈ tbl := mt 189 (by decide +kernel) (by decide +kernel)
theorem nIn_10 : Cond.instantiable RX10 20 ∈ tbl := mt 407 (by decide +kernel) (by decide +kernel)
theorem nIn_11 : Cond.instantiable RX11 10 ∈ tbl := mt 170 (by decide +kernel) (by decide +kernel)
theorem nIn_12 : Cond.instantiable RX12 48 ∈ tbl := mt 1452 (by decide +kernel) (by decide +kernel)
theorem arr_of {s : State} {ty : FieldType} {c comp : ClassId} {k : Class} (h1 : s.vm.classes[c]? = some k) (h2 : k.kind = .array comp ty) : ArrOfT s c ty := fun n z => ⟨fun _ h => (by cases h), k, h1, comp, h2⟩
theorem start_K {s : State} {bs : Nat} (hts : ∀ w ∈ lw_tbl, w.before #[Value.ref bs] s = true) : ∃ (D : va_G) (cy : Nat → ClassId), va_K D vwCl (tyl cy) s := by
  have htb : ∀ w ∈ tbl, w.before #[Value.ref bs] s = true := fun w h => hts w (List.mem_filter.mp h).1
  obtain ⟨c0, i0, K0⟩ := u_known (C := RX0) (T := TX0) (N := 6) (n := 6) htb inX0 (htb _ nIn_0)
  obtain ⟨c1, i1, K1⟩ := u_known (C := RX1) (T := TX1) (N := 12) (n := 12) htb inX1 (htb _ nIn_1)
  obtain ⟨c2, i2, K2⟩ := u_known (C := RX2) (T := TX2) (N := 7) (n := 7) htb inX2 (htb _ nIn_2)
  obtain ⟨c3, i3, K3⟩ := u_known (C := RX3) (T := TX3) (N := 7) (n := 7) htb inX3 (htb _ nIn_3)
  obtain ⟨c4, i4, K4⟩ := u_known (C := RX4) (T := TX4) (N := 5) (n := 5) htb inX4 (htb _ nIn_4)
  obtain ⟨c5, i5, K5⟩ := u_known (C := RX5) (T := TX5) (N := 13) (n := 13) htb inX5 (htb _ nIn_5)
  obtain ⟨c6, i6, K6⟩ := u_known (C := RX6) (T := TX6) (N := 4) (n := 4) htb inX6 (htb _ nIn_6)
  obtain ⟨c7, i7, K7⟩ := u_known (C := RX7) (T := TX7) (N := 2) (n := 2) htb inX7 (htb _ nIn_7)
  obtain ⟨c8, i8, K8⟩ := u_known (C := RX8) (T := TX8) (N := 8) (n := 8) htb inX8 (htb _ nIn_8)
  obtain ⟨c9, i9, K9⟩ := u_known (C := RX9) (T := TX9) (N := 10) (n := 10) htb inX9 (htb _ nIn_9)
  obtain ⟨c10, i10, K10⟩ := u_known (C := RX10) (T := TX10) (N := 20) (n := 20) htb inX10 (htb _ nIn_10)
  obtain ⟨c11, i11, K11⟩ := u_known (C := RX11) (T := TX11) (N := 10) (n := 10) htb inX11 (htb _ nIn_11)
  obtain ⟨c12, i12, K12⟩ := u_known (C := RX12) (T := TX12) (N := 48) (n := 48) htb inX12 (htb _ nIn_12)
  obtain ⟨a13, k13, m13, f13, g13, h13⟩ := Cond.arrayClass_spec (hts _ nB.1)
  obtain ⟨a14, k14, m14, f14, g14, h14⟩ := Cond.arrayClass_spec (hts _ nB.2.1)
  obtain ⟨a15, k15, m15, f15, g15, h15⟩ := Cond.arrayClass_spec (hts _ nB.2.2)
  obtain ⟨m16, a16, k16, e16, -, g16, h16, f16⟩ := Cond.arrayOver_spec (hts _ nA.1)
  obtain ⟨m17, a17, k17, e17, -, g17, h17, f17⟩ := Cond.arrayOver_spec (hts _ nA.2.1)
  obtain ⟨m18, a18, k18, e18, -, g18, h18, f18⟩ := Cond.arrayOver_spec (hts _ nA.2.2.1)
  obtain ⟨m19, a19, k19, e19, -, g19, h19, f19⟩ := Cond.arrayOver_spec (hts _ nA.2.2.2.1)
  obtain ⟨m20, a20, k20, e20, -, g20, h20, f20⟩ := xAOL_spec (show xAOL s from hts _ nA.2.2.2.2)
  refine ⟨(fun k => if k = 0 then c0 else if k = 1 then c1 else if k = 2 then c2 else if k = 3 then c3 else if k = 4 then c4 else if k = 5 then c5 else if k = 6 then c6 else if k = 7 then c7 else if k = 8 then c8 else if k = 9 then c9 else if k = 10 then c10 else if k = 11 then c11 else c12, fun k => if k = 0 then i0 else if k = 1 then i1 else if k = 2 then i2 else if k = 3 then i3 else if k = 4 then i4 else if k = 5 then i5 else if k = 6 then i6 else if k = 7 then i7 else if k = 8 then i8 else if k = 9 then i9 else if k = 10 then i10 else if k = 11 then i11 else i12), fun k => if k = 13 then a13 else if k = 14 then a14 else if k = 15 then a15 else if k = 16 then a16 else if k = 17 then a17 else if k = 18 then a18 else if k = 19 then a19 else a20, fun k q hq => ?_, fun k q hq => ?_⟩
  · match k, hq with
    | 0, hq => cases hq; exact K0
    | 1, hq => cases hq; exact K1
    | 2, hq => cases hq; exact K2
    | 3, hq => cases hq; exact K3
    | 4, hq => cases hq; exact K4
    | 5, hq => cases hq; exact K5
    | 6, hq => cases hq; exact K6
    | 7, hq => cases hq; exact K7
    | 8, hq => cases hq; exact K8
    | 9, hq => cases hq; exact K9
    | 10, hq => cases hq; exact K10
    | 11, hq => cases hq; exact K11
    | 12, hq => cases hq; exact K12
    | k + 13, hq => simp [vwCl] at hq
  · match k, hq with
    | 0, hq => cases hq; exact ⟨arr_of g13 h13, f13⟩
    | 1, hq => cases hq; exact ⟨arr_of g14 h14, f14⟩
    | 2, hq => cases hq; exact ⟨arr_of g15 h15, f15⟩
    | 3, hq => cases hq; exact ⟨arr_of g16 h16, k16, m16, g16, h16, e16, f16⟩
    | 4, hq => cases hq; exact ⟨arr_of g17 h17, k17, m17, g17, h17, e17, f17⟩
    | 5, hq => cases hq; exact ⟨arr_of g18 h18, k18, m18, g18, h18, e18, f18⟩
    | 6, hq => cases hq; exact ⟨arr_of g19 h19, k19, m19, g19, h19, e19, f19⟩
    | 7, hq => cases hq; exact ⟨arr_of g20 h20, f20⟩
    | k + 8, hq => simp [tyl] at hq
theorem start_S {s : State} {bs : Nat} (hts : ∀ w ∈ lw_tbl, w.before #[Value.ref bs] s = true) (hgv : (Jvm.Cond.and given_1 narrow_1).before #[Value.ref bs] s = true) : ∃ ad : Nat → Nat, Sx ad ad s.heap.size s s.heap ∧ ad 300 = bs := by
  have hs : ∀ c ∈ nar, c.before #[Value.ref bs] s = true := flat_of_before _ hgv
  have hA : ∀ a : Nat, a < s.heap.size → ¬ (fun q : Nat => s.heap.size ≤ q) a := fun a h => Nat.not_le.mpr h
  obtain ⟨adK, adV, hS, hev⟩ := vk_Sof (N := 11) (tm := tmS) (len := sLn) (byt := sBy) (A := fun q : Nat => s.heap.size ≤ q) (fun i hi => by have := sLn_le i hi; omega) (fun i hi => hs _ (nS1 i hi)) (fun i hi => hs _ (nS2 i hi)) (fun i hi => hs _ (nS3 i hi)) (fun i hi => hs _ (nS4 i hi)) (fun i hi j hj => hs _ (nS5 i hi j hj)) (fun i j hi hj hij => (nS6 i hi j hj hij).imp (hs _) (hs _)) hA
  have hZ1 := va_Zof (A := fun q : Nat => s.heap.size ≤ q) (hts _ nZ1.1) (hts _ nZ1.2) (va_eqt (hs _ nS7)) hA
  have hZ2 := va_Zqof (A := fun q : Nat => s.heap.size ≤ q) (hts _ nZ2.1) (hts _ nZ2.2) (hs _ nS8) hA
  obtain ⟨t, hZ3⟩ : ∃ t : Nat, va_Z "jdk/internal/util/Preconditions" "SIOOBE_FORMATTER" "Ljava/util/function/BiFunction;" .null (fun q : Nat => s.heap.size ≤ q) s s.heap ∨ va_Z "jdk/internal/util/Preconditions" "SIOOBE_FORMATTER" "Ljava/util/function/BiFunction;" (.ref t) (fun q : Nat => s.heap.size ≤ q) s s.heap := by
    rcases hZ2 with h | ⟨t, h⟩
    · exact ⟨0, Or.inl h⟩
    · exact ⟨t, Or.inr h⟩
  refine ⟨fun i => if i < 100 then adK i else if i < 200 then adV (i - 100) else if i = 200 then t else bs, ⟨?_, fun i hi => ?_, hZ1, ?_, va_AO.of (hts _ nA.1), va_AO.of (hts _ nA.2.1), va_AO.of (hts _ nA.2.2.1), va_AO.of (hts _ nA.2.2.2.1), hts _ nA.2.2.2.2⟩, rfl⟩
  · refine ⟨fun i hi => ?_, fun i j hi hj h => ?_⟩
    · have e1 : (if i < 100 then adK i else if i < 200 then adV (i - 100) else if i = 200 then t else bs) = adK i := if_pos (by omega)
      have e2 : (if 100 + i < 100 then adK (100 + i) else if 100 + i < 200 then adV (100 + i - 100) else if 100 + i = 200 then t else bs) = adV i := by
        rw [if_neg (by omega), if_pos (by omega), show 100 + i - 100 = i by omega]
      dsimp only
      rw [e1, e2]
      exact hS.1 i hi
    · dsimp only at h
      rw [if_pos (by omega), if_pos (by omega)] at h
      exact hS.2 i j hi hj h
  · have e1 : (if i < 100 then adK i else if i < 200 then adV (i - 100) else if i = 200 then t else bs) = adK i := if_pos (by omega)
    dsimp only
    rw [e1]
    exact vk_R.of (A := #[Value.ref bs]) (hts _ (nR i hi)) (hev i hi)
  · exact hZ3
theorem nL1 : Cond.classLink RL 7 RX11 ∈ tbl := mt 169 (by decide +kernel) (by decide +kernel)
theorem nL2 : Cond.classLink RL 10 RX12 ∈ tbl := mt 1451 (by decide +kernel) (by decide +kernel)
theorem nL3 : Cond.methodLink RL 9 yX11_init ∈ tbl ∧ Cond.code yX11_init cX11_init 2 none ∈ tbl ∧ Cond.instanceMethod yX11_init ∈ tbl := ⟨mt 171 (by decide +kernel) (by decide +kernel), mt 173 (by decide +kernel) (by decide +kernel), mt 172 (by decide +kernel) (by decide +kernel)⟩
theorem nL4 : Cond.methodLink RL 12 yX12_init ∈ tbl ∧ Cond.code yX12_init cX12_init 1 none ∈ tbl ∧ Cond.instanceMethod yX12_init ∈ tbl := ⟨mt 1453 (by decide +kernel) (by decide +kernel), mt 1455 (by decide +kernel) (by decide +kernel), mt 1454 (by decide +kernel) (by decide +kernel)⟩
def lw_At (p : Program) (s : State) (m : MethodId) (meth : Method) (c : Code) (b L : Nat) (xs : Nat → Int32) : Prop :=
  p.tables.exec = Jvm.exec ∧ c.code = code ∧ meth.sig.returnType = ret ∧ c.maxLocals = 4 ∧ s.vm.findClass R_law = some m.cls ∧ (∀ w ∈ lw_tbl, w.before #[Value.ref b] s = true) ∧ va_X b L xs s s.heap ∧ b < s.heap.size ∧ meth.locks = false ∧ (Jvm.Cond.and given_1 narrow_1).before #[Value.ref b] s = true
set_option maxHeartbeats 4000000 in
/-- the law from its entry, if every promise of the two systems is kept from their start on -/
theorem whole_open (Inv : Dt → Dt → Prop) (hk : LKall Inv) (h0 : Inv σX0 σM0) {p : Program} {e : Env} {s : State} {m : MethodId} {below : List Frame} {meth : Method} {c : Code} (l : Launch) {b L : Nat} {xs : Nat → Int32} (hL : L ≤ 3584) (C0 : lw_At p s m meth c b L xs) : W p l e room_1 s m #[Value.ref b] below meth c s.heap [] 0 0 (lw_Z below #[Value.ref b] s) (entryFrame m ([Value.ref b] : List Value).toArray 4) := by
  obtain ⟨hx, hb, hr, hml, hown, hts, hX, hbl, hlocks, hgv⟩ := id C0
  obtain ⟨D, cy, hK⟩ := start_K hts
  obtain ⟨ad, hS, had⟩ := start_S hts hgv
  have htb : ∀ w ∈ tbl, w.before #[Value.ref b] s = true := fun w h => hts w (List.mem_filter.mp h).1
  obtain ⟨p1, p2, p3, e1, e2, e3, e4, h222, hchk⟩ := fall_ex
  have hA : ∀ q : Nat, s.heap.size ≤ q → (fun q : Nat => s.heap.size ≤ q) q := fun _ h => h
  have OL : OkL (p, l, e, s, m, below, meth, c, D, cy, ad, b, L, xs) := ⟨hx, hb, hml, hown, htb, hK, hS, hX, hbl, hlocks, hr, had⟩
  have O : Ok (p, l, e, room_1, s, m, #[Value.ref b], below, meth, c, lw_Z below #[Value.ref b] s, 4, D, s.heap.size, cy, (fun q : Nat => s.heap.size ≤ q), true, ad, ad, s.heap.size) code ⟨RL, meth.name, ""⟩ := ⟨hx, hb, hml, hown, htb, hK, hA, hS, hA, hlocks, rfl⟩
  have R0 : Rm (p, l, e, room_1, s, m, #[Value.ref b], below, meth, c, lw_Z below #[Value.ref b] s, 4, D, s.heap.size, cy, (fun q : Nat => s.heap.size ≤ q), true, ad, ad, s.heap.size) l 2048 84000 600000 7302250 := ⟨rfl, rfl, rfl, rfl, rfl⟩
  have key : G (p, l, e, room_1, s, m, #[Value.ref b], below, meth, c, lw_Z below #[Value.ref b] s, 4, D, s.heap.size, cy, (fun q : Nat => s.heap.size ≤ q), true, ad, ad, s.heap.size) 0 0 0 [(0, vT 300)] [] sh00 σ00 := by
    refine c_new O R0 rfl dL_law_0 clX11 nL1 nIn_11 w149 1 10 rfl rfl ⟨Nat.le_of_ble_eq_true rfl, Nat.le_of_ble_eq_true rfl⟩ e1 ?_
    refine g_dup O dL_law_3 rfl ?_
    refine c_call O R0 rfl dL_law_4 ⟨nL3.1, nL3.2.1, w149, by decide, by decide, by decide +kernel⟩ ⟨nL3.2.2, rfl⟩ rfl ⟨Nat.le_of_ble_eq_true rfl, Nat.le_of_ble_eq_true rfl⟩ 222 7743 rfl rfl ⟨Nat.le_of_ble_eq_true rfl, Nat.le_of_ble_eq_true rfl⟩ (c_X11_init l 0 p1.1 p1.2 p2 e2) ?_
    refine g_astore_n (lv' := [(1, vA (some 0)), (0, vT 300)]) O dL_law_7 rfl 4 rfl (by decide) rfl ?_
    refine c_new O R0 rfl dL_law_8 clX12 nL2 nIn_12 w161 223 7791 rfl rfl ⟨Nat.le_of_ble_eq_true rfl, Nat.le_of_ble_eq_true rfl⟩ e3 ?_
    rw [h222]
    refine g_dup O dL_law_11 rfl ?_
    refine c_call O R0 rfl dL_law_12 ⟨nL4.1, nL4.2.1, w161, by decide, by decide, by decide +kernel⟩ ⟨nL4.2.2, rfl⟩ rfl ⟨Nat.le_of_ble_eq_true rfl, Nat.le_of_ble_eq_true rfl⟩ 249 79182 rfl rfl ⟨Nat.le_of_ble_eq_true rfl, Nat.le_of_ble_eq_true rfl⟩ (c_X12_init l 222 p3.1 p3.2 rAll e4) ?_
    refine g_astore_n (lv' := [(2, vA (some 222)), (1, vA (some 0)), (0, vT 300)]) O dL_law_15 rfl 4 rfl (by decide) rfl ?_
    refine g_iconst (v := 0) O dL_law_16 rfl ?_
    refine g_istore_n (lv' := [(3, vI 0), (2, vA (some 222)), (1, vA (some 0)), (0, vT 300)]) O dL_law_17 rfl 4 rfl (by decide) rfl ?_
    refine g_sub [3, 2, 1, 0] (lv' := [(0, vT 300), (1, vA (some 0)), (2, vA (some 222)), (3, vI 0)]) rfl ?_
    intro H locs ls hl hP hD hSS hz
    have hn : rAll.1.1 = 249 := by
      have h := hchk
      unfold chk at h
      simp only [Bool.and_eq_true] at h
      exact Nat.eq_of_beq_eq_true h.1.1.1
    refine law_loop OL hL Inv hk (L + 1) 0 0 σX0 σM0 nI_0.symm (Nat.zero_le _) (by show L - 0 < L + 1; omega) h0 H locs ls hl ?_ ?_ hSS
    · intro k q hq
      obtain ⟨hk2, rfl⟩ := Ws_get2 hq
      have hk3 : k < 222 := hk2
      have h := hP k _ (Ws_get (by rw [hn]; omega))
      rw [show cellE s.heap.size cy SX σX0 k = cellE s.heap.size cy rAll.1 rAll.2 k from chk_x hchk hk3]
      exact h
    · intro k q hq
      obtain ⟨hk2, rfl⟩ := Ws_get2 hq
      have hk3 : k < 27 := hk2
      have h := hP (222 + k) _ (Ws_get (by rw [hn]; omega))
      rw [show cellE (s.heap.size + 222) cy SM σM0 k = cellE s.heap.size cy rAll.1 rAll.2 (222 + k) from chk_m hchk hk3, Nat.add_assoc]
      exact h
  rw [lg_entry_eq]
  have hl := lv_entry ([Value.ref b]) (n := 4) (Nat.le_of_ble_eq_true rfl)
  refine key s.heap [] _ ?_ (fun k q h => by simp [Ws, sh00] at h) ⟨fun i j x y h => by simp [Ws, sh00] at h, fun k q h => by simp [Ws, sh00] at h⟩ va_S.rf (fun _ => rfl)
  have hl2 : lv_has _ 4 [(0, Value.ref b)] := hl
  have e5 : lvm s.heap.size ad [(0, vT 300)] = [(0, Value.ref b)] := by
    show [(0, Value.ref (ad 300))] = _
    rw [had]
  rw [e5]
  exact hl2
