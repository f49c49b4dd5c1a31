def P_X3_oneStepOn_4 (M : Mx) (r0 : Option Nat) (x1 : Int32) (σ : Dt) (s : (Int32 × Int32)) : Prop := G M 0 0 4 [(0, vA r0), (1, vI x1), (2, vI s.1), (3, vI s.2)] [] SX σ
def E_X3_oneStepOn_4 (M : Mx) (r0 : Option Nat) (x1 : Int32) (σ : Dt) : Int32 → Prop := (fun w => G M 0 0 58 [(2, vI w)] [] SX σ)
def f_X3_oneStepOn_52 (r0 : Option Nat) (x1 : Int32) (x2 : Int32) (x3 : Int32) (σ : Dt) : Option ((Int32 × Int32) ⊕ Int32) := some (.inl (x2, (x3 + (1 : Int32))))
theorem t_X3_oneStepOn_52 {M : Mx} {l0 : Launch} (O : Ok M cX3_oneStepOn yX3_oneStepOn) (R0 : Rm M l0 2 80 0 0) (N : Ma M = false) (hn : Mn M = 4)  (r0 : Option Nat) (x1 : Int32) (x2 : Int32) (x3 : Int32) (σ : Dt) (o : ((Int32 × Int32) ⊕ Int32)) (h : f_X3_oneStepOn_52 r0 x1 x2 x3 σ = some o) (K : kon (P_X3_oneStepOn_4 M r0 x1 σ) (E_X3_oneStepOn_4 M r0 x1 σ) o) : G M 0 0 52 [(0, vA r0), (1, vI x1), (2, vI x2), (3, vI x3)] [] SX σ := by
  unfold f_X3_oneStepOn_52 at h
  refine g_iinc (v := (x3 + (1 : Int32))) (lv' := [(3, vI (x3 + (1 : Int32))), (0, vA r0), (1, vI x1), (2, vI x2)]) O dX3_oneStepOn_52 4 hn (by decide) 3 rfl rfl rfl ?_
  refine g_goto O dX3_oneStepOn_55 rfl ?_
  refine g_sub [1, 2, 3, 0] (lv' := [(0, vA r0), (1, vI x1), (2, vI x2), (3, vI (x3 + (1 : Int32)))]) rfl ?_
  cases h
  exact K
def f_X3_oneStepOn_35 (r0 : Option Nat) (x1 : Int32) (x2 : Int32) (x3 : Int32) (σ : Dt) : Option ((Int32 × Int32) ⊕ Int32) := bo (xgr SX 9 5 r0 σ) fun v1 => bo (xai SX v1 x3 σ) fun v3 => if (v3 &&& x1) = 0 then f_X3_oneStepOn_52 r0 x1 x2 x3 σ else f_X3_oneStepOn_52 r0 x1 (x2 ||| ((1 : Int32) <<< (x3 &&& 31))) x3 σ
theorem t_X3_oneStepOn_35 {M : Mx} {l0 : Launch} (O : Ok M cX3_oneStepOn yX3_oneStepOn) (R0 : Rm M l0 2 80 0 0) (N : Ma M = false) (hn : Mn M = 4)  (r0 : Option Nat) (x1 : Int32) (x2 : Int32) (x3 : Int32) (σ : Dt) (o : ((Int32 × Int32) ⊕ Int32)) (h : f_X3_oneStepOn_35 r0 x1 x2 x3 σ = some o) (K : kon (P_X3_oneStepOn_4 M r0 x1 σ) (E_X3_oneStepOn_4 M r0 x1 σ) o) : G M 0 0 35 [(0, vA r0), (1, vI x1), (2, vI x2), (3, vI x3)] [] SX σ := by
  unfold f_X3_oneStepOn_35 at h
  refine g_aload_n O dX3_oneStepOn_35 rfl 0 rfl ?_
  obtain ⟨v1, e2, h⟩ := bo_some h
  refine g_getR O dX3_oneStepOn_36 fl_X3_36 rfl e2 ?_
  refine g_iload_n O dX3_oneStepOn_39 rfl 3 rfl ?_
  obtain ⟨v3, e4, h⟩ := bo_some h
  refine g_iaload O dX3_oneStepOn_40 e4 ?_
  refine g_iload_n O dX3_oneStepOn_41 rfl 1 rfl ?_
  refine g_iand O dX3_oneStepOn_42 ?_
  refine g_if_eq O dX3_oneStepOn_43 rfl (fun c5 => ?_) (fun c5 => ?_)
  · replace h := (if_pos c5).symm.trans h
    exact t_X3_oneStepOn_52 O R0 N hn r0 x1 x2 x3 σ o h K
  · replace h := (if_neg c5).symm.trans h
    refine g_iload_n O dX3_oneStepOn_46 rfl 2 rfl ?_
    refine g_iconst (v := (1 : Int32)) O dX3_oneStepOn_47 rfl ?_
    refine g_iload_n O dX3_oneStepOn_48 rfl 3 rfl ?_
    refine g_ishl O dX3_oneStepOn_49 ?_
    refine g_ior O dX3_oneStepOn_50 ?_
    refine g_istore_n (lv' := [(2, vI (x2 ||| ((1 : Int32) <<< (x3 &&& 31)))), (0, vA r0), (1, vI x1), (3, vI x3)]) O dX3_oneStepOn_51 rfl 4 hn (by decide) rfl ?_
    refine g_sub [1, 2, 0, 3] (lv' := [(0, vA r0), (1, vI x1), (2, vI (x2 ||| ((1 : Int32) <<< (x3 &&& 31)))), (3, vI x3)]) rfl ?_
    exact t_X3_oneStepOn_52 O R0 N hn r0 x1 (x2 ||| ((1 : Int32) <<< (x3 &&& 31))) x3 σ o h K
def f_X3_oneStepOn_L4 (r0 : Option Nat) (x1 : Int32) (x2 : Int32) (x3 : Int32) (σ : Dt) : Option ((Int32 × Int32) ⊕ Int32) := bo (xgi SX 9 0 r0 σ) fun v1 => if v1 ≤ x3 then some (.inr x2) else if (10 : Int32) ≤ x3 then some (.inr x2) else if ((x1 >>> (x3 &&& 31)) &&& (1 : Int32)) = 0 then f_X3_oneStepOn_35 r0 x1 x2 x3 σ else bo (xgr SX 9 5 r0 σ) fun v6 => bo (xai SX v6 x3 σ) fun v8 => f_X3_oneStepOn_35 r0 x1 (x2 ||| v8) x3 σ
theorem t_X3_oneStepOn_L4 {M : Mx} {l0 : Launch} (O : Ok M cX3_oneStepOn yX3_oneStepOn) (R0 : Rm M l0 2 80 0 0) (N : Ma M = false) (hn : Mn M = 4) (r0 : Option Nat) (x1 : Int32) (x2 : Int32) (x3 : Int32) (σ : Dt) (o : ((Int32 × Int32) ⊕ Int32)) (h : f_X3_oneStepOn_L4 r0 x1 x2 x3 σ = some o) (K : kon (P_X3_oneStepOn_4 M r0 x1 σ) (E_X3_oneStepOn_4 M r0 x1 σ) o) : G M 0 0 4 [(0, vA r0), (1, vI x1), (2, vI x2), (3, vI x3)] [] SX σ := by
  unfold f_X3_oneStepOn_L4 at h
  refine g_iload_n O dX3_oneStepOn_4 rfl 3 rfl ?_
  refine g_aload_n O dX3_oneStepOn_5 rfl 0 rfl ?_
  obtain ⟨v1, e2, h⟩ := bo_some h
  refine g_getI O dX3_oneStepOn_6 fl_X3_32 rfl e2 ?_
  refine g_icmp_ge O dX3_oneStepOn_9 rfl (fun c3 => ?_) (fun c3 => ?_)
  · replace h := (if_pos c3).symm.trans h
    refine g_sub [2] (lv' := [(2, vI x2)]) rfl ?_
    cases h
    exact K
  · replace h := (if_neg c3).symm.trans h
    refine g_iload_n O dX3_oneStepOn_12 rfl 3 rfl ?_
    refine g_bipush (v := (10 : Int32)) O dX3_oneStepOn_13 rfl ?_
    refine g_icmp_ge O dX3_oneStepOn_15 rfl (fun c4 => ?_) (fun c4 => ?_)
    · replace h := (if_pos c4).symm.trans h
      refine g_sub [2] (lv' := [(2, vI x2)]) rfl ?_
      cases h
      exact K
    · replace h := (if_neg c4).symm.trans h
      refine g_iload_n O dX3_oneStepOn_18 rfl 1 rfl ?_
      refine g_iload_n O dX3_oneStepOn_19 rfl 3 rfl ?_
      refine g_ishr O dX3_oneStepOn_20 ?_
      refine g_iconst (v := (1 : Int32)) O dX3_oneStepOn_21 rfl ?_
      refine g_iand O dX3_oneStepOn_22 ?_
      refine g_if_eq O dX3_oneStepOn_23 rfl (fun c5 => ?_) (fun c5 => ?_)
      · replace h := (if_pos c5).symm.trans h
        exact t_X3_oneStepOn_35 O R0 N hn r0 x1 x2 x3 σ o h K
      · replace h := (if_neg c5).symm.trans h
        refine g_iload_n O dX3_oneStepOn_26 rfl 2 rfl ?_
        refine g_aload_n O dX3_oneStepOn_27 rfl 0 rfl ?_
        obtain ⟨v6, e7, h⟩ := bo_some h
        refine g_getR O dX3_oneStepOn_28 fl_X3_36 rfl e7 ?_
        refine g_iload_n O dX3_oneStepOn_31 rfl 3 rfl ?_
        obtain ⟨v8, e9, h⟩ := bo_some h
        refine g_iaload O dX3_oneStepOn_32 e9 ?_
        refine g_ior O dX3_oneStepOn_33 ?_
        refine g_istore_n (lv' := [(2, vI (x2 ||| v8)), (0, vA r0), (1, vI x1), (3, vI x3)]) O dX3_oneStepOn_34 rfl 4 hn (by decide) rfl ?_
        refine g_sub [1, 2, 0, 3] (lv' := [(0, vA r0), (1, vI x1), (2, vI (x2 ||| v8)), (3, vI x3)]) rfl ?_
        exact t_X3_oneStepOn_35 O R0 N hn r0 x1 (x2 ||| v8) x3 σ o h K
def f_X3_oneStepOn (r0 : Option Nat) (x1 : Int32) (σ : Dt) : Option Int32 := bo (iter FU (fun s => f_X3_oneStepOn_L4 r0 x1 s.1 s.2 σ) (x1, (0 : Int32))) fun w1 => some w1
theorem t_X3_oneStepOn {M : Mx} {l0 : Launch} (O : Ok M cX3_oneStepOn yX3_oneStepOn) (R0 : Rm M l0 2 80 0 0) (N : Ma M = false) (hn : Mn M = 4) (r0 : Option Nat) (x1 : Int32) (σ : Dt) (o : Int32) (h : f_X3_oneStepOn r0 x1 σ = some o) (K : Fin' M (some .int) 0 0 SX σ (some (vI o))) : G M 0 0 0 [(0, vA r0), (1, vI x1)] [] SX σ := by
  unfold f_X3_oneStepOn at h
  refine g_iload_n O dX3_oneStepOn_0 rfl 1 rfl ?_
  refine g_istore_n (lv' := [(2, vI x1), (0, vA r0), (1, vI x1)]) O dX3_oneStepOn_1 rfl 4 hn (by decide) rfl ?_
  refine g_iconst (v := (0 : Int32)) O dX3_oneStepOn_2 rfl ?_
  refine g_istore_n (lv' := [(3, vI (0 : Int32)), (2, vI x1), (0, vA r0), (1, vI x1)]) O dX3_oneStepOn_3 rfl 4 hn (by decide) rfl ?_
  refine g_sub [2, 3, 1, 0] (lv' := [(0, vA r0), (1, vI x1), (2, vI x1), (3, vI (0 : Int32))]) rfl ?_
  obtain ⟨w1, e2, h⟩ := bo_some h
  refine iter_G (P := P_X3_oneStepOn_4 M r0 x1 σ) (E := E_X3_oneStepOn_4 M r0 x1 σ) (fun s o hb hk => t_X3_oneStepOn_L4 O R0 N hn r0 x1 s.1 s.2 σ o hb hk) FU (x1, (0 : Int32)) w1 e2 ?_
  show G M 0 0 58 [(2, vI w1)] [] SX σ
  refine g_iload_n O dX3_oneStepOn_58 rfl 0 rfl ?_
  cases h
  exact g_ireturn O K dX3_oneStepOn_59
theorem c_X3_oneStepOn (l0 : Launch) (r0 : Option Nat) (x1 : Int32) (σ : Dt) (r : Int32) (h : f_X3_oneStepOn r0 x1 σ = some r) : Ctr l0 yX3_oneStepOn cX3_oneStepOn 4 (some .int) false 2 80 0 0 [vA r0, vI x1] SX σ SX σ (some (vI r)) := ctr_of (by decide) (Nat.le_of_ble_eq_true rfl) (fun M O F R0 N hn => t_X3_oneStepOn O R0 N hn r0 x1 σ r h F)
def P_X3_stepsBetween_30 (M : Mx) (r1 : Option Nat) (x3 : Int32) (σ : Dt) (s : (Int32 × Int32)) : Prop := G M 0 0 30 [(1, vA r1), (3, vI x3), (4, vI s.1), (5, vI s.2)] [] SX σ
def E_X3_stepsBetween_30 (M : Mx) (r1 : Option Nat) (x3 : Int32) (σ : Dt) : (Int32 ⊕ Unit) → Prop := (el (fun w => G M 0 0 46 [(5, vI w)] [] SX σ) (fun w => G M 0 0 63 [] [] SX σ))
def f_X3_stepsBetween_L30 (r1 : Option Nat) (x3 : Int32) (x4 : Int32) (x5 : Int32) (σ : Dt) : Option ((Int32 × Int32) ⊕ (Int32 ⊕ Unit)) := if (10 : Int32) ≤ x5 then some (.inr (.inr ())) else if ((x4 >>> (x3 &&& 31)) &&& (1 : Int32)) = 0 then bo (f_X3_oneStepOn r1 x4 σ) fun v3 => some (.inl (v3, (x5 + (1 : Int32)))) else some (.inr (.inl x5))
theorem t_X3_stepsBetween_L30 {M : Mx} {l0 : Launch} (O : Ok M cX3_stepsBetween yX3_stepsBetween) (R0 : Rm M l0 3 103 0 0) (N : Ma M = false) (hn : Mn M = 6) (r1 : Option Nat) (x3 : Int32) (x4 : Int32) (x5 : Int32) (σ : Dt) (o : ((Int32 × Int32) ⊕ (Int32 ⊕ Unit))) (h : f_X3_stepsBetween_L30 r1 x3 x4 x5 σ = some o) (K : kon (P_X3_stepsBetween_30 M r1 x3 σ) (E_X3_stepsBetween_30 M r1 x3 σ) o) : G M 0 0 30 [(1, vA r1), (3, vI x3), (4, vI x4), (5, vI x5)] [] SX σ := by
  unfold f_X3_stepsBetween_L30 at h
  refine g_iload O dX3_stepsBetween_30 3 rfl ?_
  refine g_bipush (v := (10 : Int32)) O dX3_stepsBetween_32 rfl ?_
  refine g_icmp_ge O dX3_stepsBetween_34 rfl (fun c1 => ?_) (fun c1 => ?_)
  · replace h := (if_pos c1).symm.trans h
    refine g_sub [] (lv' := []) rfl ?_
    cases h
    exact K
  · replace h := (if_neg c1).symm.trans h
    refine g_iload O dX3_stepsBetween_37 2 rfl ?_
    refine g_iload_n O dX3_stepsBetween_39 rfl 1 rfl ?_
    refine g_ishr O dX3_stepsBetween_40 ?_
    refine g_iconst (v := (1 : Int32)) O dX3_stepsBetween_41 rfl ?_
    refine g_iand O dX3_stepsBetween_42 ?_
    refine g_if_eq O dX3_stepsBetween_43 rfl (fun c2 => ?_) (fun c2 => ?_)
    · replace h := (if_pos c2).symm.trans h
      refine g_aload_n O dX3_stepsBetween_49 rfl 0 rfl ?_
      refine g_iload O dX3_stepsBetween_50 2 rfl ?_
      obtain ⟨v3, e4, h⟩ := bo_some h
      refine g_cS1 O R0 N dX3_stepsBetween_52 vl_X3_68 w1308 [vA r1, vI x4] rfl rfl rfl ⟨Nat.le_of_ble_eq_true rfl, Nat.le_of_ble_eq_true rfl⟩ (c_X3_oneStepOn l0 r1 x4 σ v3 e4) ?_
      refine g_istore (lv' := [(4, vI v3), (1, vA r1), (3, vI x3), (5, vI x5)]) O dX3_stepsBetween_55 6 hn (by decide) rfl ?_
      refine g_iinc (v := (x5 + (1 : Int32))) (lv' := [(5, vI (x5 + (1 : Int32))), (4, vI v3), (1, vA r1), (3, vI x3)]) O dX3_stepsBetween_57 6 hn (by decide) 3 rfl rfl rfl ?_
      refine g_goto O dX3_stepsBetween_60 rfl ?_
      refine g_sub [2, 3, 1, 0] (lv' := [(1, vA r1), (3, vI x3), (4, vI v3), (5, vI (x5 + (1 : Int32)))]) rfl ?_
      cases h
      exact K
    · replace h := (if_neg c2).symm.trans h
      refine g_sub [3] (lv' := [(5, vI x5)]) rfl ?_
      cases h
      exact K
def f_X3_stepsBetween (a0 : Nat) (r1 : Option Nat) (x2 : Int32) (x3 : Int32) (σ : Dt) : Option Int32 := if r1 = none then some (-1 : Int32) else bo (xrc SX 9 r1) fun a2 => bo (f_X9_hasFolk a2 x2 σ) fun v4 => if v4 = 0 then some (-1 : Int32) else bo (xrc SX 9 r1) fun a7 => bo (f_X9_hasFolk a7 x3 σ) fun v9 => if v9 = 0 then some (-1 : Int32) else bo (iter FU (fun s => f_X3_stepsBetween_L30 r1 x3 s.1 s.2 σ) (((1 : Int32) <<< (x2 &&& 31)), (0 : Int32))) fun w12 => el (fun w14 => some w14) (fun w14 => some (-1 : Int32)) w12
theorem t_X3_stepsBetween {M : Mx} {l0 : Launch} (O : Ok M cX3_stepsBetween yX3_stepsBetween) (R0 : Rm M l0 3 103 0 0) (N : Ma M = false) (hn : Mn M = 6) (a0 : Nat) (r1 : Option Nat) (x2 : Int32) (x3 : Int32) (σ : Dt) (o : Int32) (h : f_X3_stepsBetween a0 r1 x2 x3 σ = some o) (K : Fin' M (some .int) 0 0 SX σ (some (vI o))) : G M 0 0 0 [(0, vA (some a0)), (1, vA r1), (2, vI x2), (3, vI x3)] [] SX σ := by
  unfold f_X3_stepsBetween at h
  refine g_aload_n O dX3_stepsBetween_0 rfl 1 rfl ?_
  refine g_ifnull O dX3_stepsBetween_1 rfl (fun c1 => ?_) (fun c1 => ?_)
  · replace h := (if_pos c1).symm.trans h
    refine g_iconst (v := (-1 : Int32)) O dX3_stepsBetween_20 rfl ?_
    cases h
    exact g_ireturn O K dX3_stepsBetween_21
  · replace h := (if_neg c1).symm.trans h
    refine g_aload_n O dX3_stepsBetween_4 rfl 1 rfl ?_
    refine g_iload_n O dX3_stepsBetween_5 rfl 2 rfl ?_
    obtain ⟨a2, e3, h⟩ := bo_some h
    obtain ⟨v4, e5, h⟩ := bo_some h
    refine g_cV1 O R0 N dX3_stepsBetween_6 vl_X3_26 vv_X9_hasFolk e3 [vI x2] rfl rfl rfl ⟨Nat.le_of_ble_eq_true rfl, Nat.le_of_ble_eq_true rfl⟩ (c_X9_hasFolk l0 a2 x2 σ v4 e5) ?_
    refine g_if_eq O dX3_stepsBetween_9 rfl (fun c6 => ?_) (fun c6 => ?_)
    · replace h := (if_pos c6).symm.trans h
      refine g_iconst (v := (-1 : Int32)) O dX3_stepsBetween_20 rfl ?_
      cases h
      exact g_ireturn O K dX3_stepsBetween_21
    · replace h := (if_neg c6).symm.trans h
      refine g_aload_n O dX3_stepsBetween_12 rfl 1 rfl ?_
      refine g_iload_n O dX3_stepsBetween_13 rfl 3 rfl ?_
      obtain ⟨a7, e8, h⟩ := bo_some h
      obtain ⟨v9, e10, h⟩ := bo_some h
      refine g_cV1 O R0 N dX3_stepsBetween_14 vl_X3_26 vv_X9_hasFolk e8 [vI x3] rfl rfl rfl ⟨Nat.le_of_ble_eq_true rfl, Nat.le_of_ble_eq_true rfl⟩ (c_X9_hasFolk l0 a7 x3 σ v9 e10) ?_
      refine g_if_ne O dX3_stepsBetween_17 rfl (fun c11 => ?_) (fun c11 => ?_)
      · replace h := (if_pos c11).symm.trans h
        refine g_iconst (v := (-1 : Int32)) O dX3_stepsBetween_20 rfl ?_
        cases h
        exact g_ireturn O K dX3_stepsBetween_21
      · replace h := (if_neg c11).symm.trans h
        refine g_iconst (v := (1 : Int32)) O dX3_stepsBetween_22 rfl ?_
        refine g_iload_n O dX3_stepsBetween_23 rfl 2 rfl ?_
        refine g_ishl O dX3_stepsBetween_24 ?_
        refine g_istore (lv' := [(4, vI ((1 : Int32) <<< (x2 &&& 31))), (0, vA (some a0)), (1, vA r1), (2, vI x2), (3, vI x3)]) O dX3_stepsBetween_25 6 hn (by decide) rfl ?_
        refine g_iconst (v := (0 : Int32)) O dX3_stepsBetween_27 rfl ?_
        refine g_istore (lv' := [(5, vI (0 : Int32)), (4, vI ((1 : Int32) <<< (x2 &&& 31))), (0, vA (some a0)), (1, vA r1), (2, vI x2), (3, vI x3)]) O dX3_stepsBetween_28 6 hn (by decide) rfl ?_
        refine g_sub [3, 5, 1, 0] (lv' := [(1, vA r1), (3, vI x3), (4, vI ((1 : Int32) <<< (x2 &&& 31))), (5, vI (0 : Int32))]) rfl ?_
        obtain ⟨w12, e13, h⟩ := bo_some h
        refine iter_G (P := P_X3_stepsBetween_30 M r1 x3 σ) (E := E_X3_stepsBetween_30 M r1 x3 σ) (fun s o hb hk => t_X3_stepsBetween_L30 O R0 N hn r1 x3 s.1 s.2 σ o hb hk) FU (((1 : Int32) <<< (x2 &&& 31)), (0 : Int32)) w12 e13 ?_
        rcases w12 with w14 | w14
        · replace h := el_l h
          show G M 0 0 46 [(5, vI w14)] [] SX σ
          refine g_iload O dX3_stepsBetween_46 0 rfl ?_
          cases h
          exact g_ireturn O K dX3_stepsBetween_48
        · replace h := el_r h
          show G M 0 0 63 [] [] SX σ
          refine g_iconst (v := (-1 : Int32)) O dX3_stepsBetween_63 rfl ?_
          cases h
          exact g_ireturn O K dX3_stepsBetween_64
theorem c_X3_stepsBetween (l0 : Launch) (a0 : Nat) (r1 : Option Nat) (x2 : Int32) (x3 : Int32) (σ : Dt) (r : Int32) (h : f_X3_stepsBetween a0 r1 x2 x3 σ = some r) : Ctr l0 yX3_stepsBetween cX3_stepsBetween 6 (some .int) false 3 103 0 0 [vA (some a0), vA r1, vI x2, vI x3] SX σ SX σ (some (vI r)) := ctr_of (by decide) (Nat.le_of_ble_eq_true rfl) (fun M O F R0 N hn => t_X3_stepsBetween O R0 N hn a0 r1 x2 x3 σ r h F)
def f_X11_apart (a0 : Nat) (x1 : Int32) (x2 : Int32) (x3 : Int32) (σ : Dt) : Option Int32 := bo (xgr SX 11 0 (some a0) σ) fun v1 => bo (xrc SX 8 v1) fun a3 => bo (f_X8_valleyAt a3 x1 σ) fun v5 => if v5 = none then some (-1 : Int32) else bo (xrc SX 9 v5) fun a8 => bo (f_X9_hasFolk a8 x2 σ) fun v10 => if v10 = 0 then some (-1 : Int32) else bo (xrc SX 9 v5) fun a13 => bo (f_X9_hasFolk a13 x3 σ) fun v15 => if v15 = 0 then some (-1 : Int32) else bo (xgr SX 11 8 (some a0) σ) fun v18 => bo (xrc SX 3 v18) fun a20 => bo (f_X3_stepsBetween a20 v5 x2 x3 σ) fun v22 => some v22
theorem t_X11_apart {M : Mx} {l0 : Launch} (O : Ok M cX11_apart yX11_apart) (R0 : Rm M l0 5 144 0 0) (N : Ma M = false) (hn : Mn M = 5) (a0 : Nat) (x1 : Int32) (x2 : Int32) (x3 : Int32) (σ : Dt) (o : Int32) (h : f_X11_apart a0 x1 x2 x3 σ = some o) (K : Fin' M (some .int) 0 0 SX σ (some (vI o))) : G M 0 0 0 [(0, vA (some a0)), (1, vI x1), (2, vI x2), (3, vI x3)] [] SX σ := by
  unfold f_X11_apart at h
  refine g_aload_n O dX11_apart_0 rfl 0 rfl ?_
  obtain ⟨v1, e2, h⟩ := bo_some h
  refine g_getR O dX11_apart_1 fl_X11_12 rfl e2 ?_
  refine g_iload_n O dX11_apart_4 rfl 1 rfl ?_
  obtain ⟨a3, e4, h⟩ := bo_some h
  obtain ⟨v5, e6, h⟩ := bo_some h
  refine g_cV1 O R0 N dX11_apart_5 vl_X11_105 vv_X8_valleyAt e4 [vI x1] rfl rfl rfl ⟨Nat.le_of_ble_eq_true rfl, Nat.le_of_ble_eq_true rfl⟩ (c_X8_valleyAt l0 a3 x1 σ v5 e6) ?_
  refine g_astore (lv' := [(4, vA v5), (0, vA (some a0)), (1, vI x1), (2, vI x2), (3, vI x3)]) O dX11_apart_8 5 hn (by decide) rfl ?_
  refine g_aload O dX11_apart_10 0 rfl ?_
  refine g_ifnull O dX11_apart_12 rfl (fun c7 => ?_) (fun c7 => ?_)
  · replace h := (if_pos c7).symm.trans h
    refine g_iconst (v := (-1 : Int32)) O dX11_apart_33 rfl ?_
    cases h
    exact g_ireturn O K dX11_apart_34
  · replace h := (if_neg c7).symm.trans h
    refine g_aload O dX11_apart_15 0 rfl ?_
    refine g_iload_n O dX11_apart_17 rfl 3 rfl ?_
    obtain ⟨a8, e9, h⟩ := bo_some h
    obtain ⟨v10, e11, h⟩ := bo_some h
    refine g_cV1 O R0 N dX11_apart_18 vl_X11_198 vv_X9_hasFolk e9 [vI x2] rfl rfl rfl ⟨Nat.le_of_ble_eq_true rfl, Nat.le_of_ble_eq_true rfl⟩ (c_X9_hasFolk l0 a8 x2 σ v10 e11) ?_
    refine g_if_eq O dX11_apart_21 rfl (fun c12 => ?_) (fun c12 => ?_)
    · replace h := (if_pos c12).symm.trans h
      refine g_iconst (v := (-1 : Int32)) O dX11_apart_33 rfl ?_
      cases h
      exact g_ireturn O K dX11_apart_34
    · replace h := (if_neg c12).symm.trans h
      refine g_aload O dX11_apart_24 0 rfl ?_
      refine g_iload_n O dX11_apart_26 rfl 4 rfl ?_
      obtain ⟨a13, e14, h⟩ := bo_some h
      obtain ⟨v15, e16, h⟩ := bo_some h
      refine g_cV1 O R0 N dX11_apart_27 vl_X11_198 vv_X9_hasFolk e14 [vI x3] rfl rfl rfl ⟨Nat.le_of_ble_eq_true rfl, Nat.le_of_ble_eq_true rfl⟩ (c_X9_hasFolk l0 a13 x3 σ v15 e16) ?_
      refine g_if_ne O dX11_apart_30 rfl (fun c17 => ?_) (fun c17 => ?_)
      · replace h := (if_pos c17).symm.trans h
        refine g_iconst (v := (-1 : Int32)) O dX11_apart_33 rfl ?_
        cases h
        exact g_ireturn O K dX11_apart_34
      · replace h := (if_neg c17).symm.trans h
        refine g_aload_n O dX11_apart_35 rfl 1 rfl ?_
        obtain ⟨v18, e19, h⟩ := bo_some h
        refine g_getR O dX11_apart_36 fl_X11_62 rfl e19 ?_
        refine g_aload O dX11_apart_39 0 rfl ?_
        refine g_iload_n O dX11_apart_41 rfl 3 rfl ?_
        refine g_iload_n O dX11_apart_42 rfl 4 rfl ?_
        obtain ⟨a20, e21, h⟩ := bo_some h
        obtain ⟨v22, e23, h⟩ := bo_some h
        refine g_cV1 O R0 N dX11_apart_43 vl_X11_242 vv_X3_stepsBetween e21 [vA v5, vI x2, vI x3] rfl rfl rfl ⟨Nat.le_of_ble_eq_true rfl, Nat.le_of_ble_eq_true rfl⟩ (c_X3_stepsBetween l0 a20 v5 x2 x3 σ v22 e23) ?_
        cases h
        exact g_ireturn O K dX11_apart_46
theorem c_X11_apart (l0 : Launch) (a0 : Nat) (x1 : Int32) (x2 : Int32) (x3 : Int32) (σ : Dt) (r : Int32) (h : f_X11_apart a0 x1 x2 x3 σ = some r) : Ctr l0 yX11_apart cX11_apart 5 (some .int) false 5 144 0 0 [vA (some a0), vI x1, vI x2, vI x3] SX σ SX σ (some (vI r)) := ctr_of (by decide) (Nat.le_of_ble_eq_true rfl) (fun M O F R0 N hn => t_X11_apart O R0 N hn a0 x1 x2 x3 σ r h F)
def P_X3_houseOf_6 (M : Mx) (r0 : Option Nat) (σ : Dt) (s : (Int32 × Int32)) : Prop := G M 0 0 6 [(0, vA r0), (2, vI s.1), (3, vI s.2)] [] SX σ
def E_X3_houseOf_6 (M : Mx) (r0 : Option Nat) (σ : Dt) : Int32 → Prop := (fun w => G M 0 0 24 [(2, vI w)] [] SX σ)
def f_X3_houseOf_L6 (r0 : Option Nat) (x2 : Int32) (x3 : Int32) (σ : Dt) : Option ((Int32 × Int32) ⊕ Int32) := if (10 : Int32) ≤ x3 then some (.inr x2) else bo (f_X3_oneStepOn r0 x2 σ) fun v2 => some (.inl (v2, (x3 + (1 : Int32))))
theorem t_X3_houseOf_L6 {M : Mx} {l0 : Launch} (O : Ok M cX3_houseOf yX3_houseOf) (R0 : Rm M l0 3 103 0 0) (N : Ma M = false) (hn : Mn M = 4) (r0 : Option Nat) (x2 : Int32) (x3 : Int32) (σ : Dt) (o : ((Int32 × Int32) ⊕ Int32)) (h : f_X3_houseOf_L6 r0 x2 x3 σ = some o) (K : kon (P_X3_houseOf_6 M r0 σ) (E_X3_houseOf_6 M r0 σ) o) : G M 0 0 6 [(0, vA r0), (2, vI x2), (3, vI x3)] [] SX σ := by
  unfold f_X3_houseOf_L6 at h
  refine g_iload_n O dX3_houseOf_6 rfl 2 rfl ?_
  refine g_bipush (v := (10 : Int32)) O dX3_houseOf_7 rfl ?_
  refine g_icmp_ge O dX3_houseOf_9 rfl (fun c1 => ?_) (fun c1 => ?_)
  · replace h := (if_pos c1).symm.trans h
    refine g_sub [1] (lv' := [(2, vI x2)]) rfl ?_
    cases h
    exact K
  · replace h := (if_neg c1).symm.trans h
    refine g_aload_n O dX3_houseOf_12 rfl 0 rfl ?_
    refine g_iload_n O dX3_houseOf_13 rfl 1 rfl ?_
    obtain ⟨v2, e3, h⟩ := bo_some h
    refine g_cS1 O R0 N dX3_houseOf_14 vl_X3_68 w1308 [vA r0, vI x2] rfl rfl rfl ⟨Nat.le_of_ble_eq_true rfl, Nat.le_of_ble_eq_true rfl⟩ (c_X3_oneStepOn l0 r0 x2 σ v2 e3) ?_
    refine g_istore_n (lv' := [(2, vI v2), (0, vA r0), (3, vI x3)]) O dX3_houseOf_17 rfl 4 hn (by decide) rfl ?_
    refine g_iinc (v := (x3 + (1 : Int32))) (lv' := [(3, vI (x3 + (1 : Int32))), (2, vI v2), (0, vA r0)]) O dX3_houseOf_18 4 hn (by decide) 2 rfl rfl rfl ?_
    refine g_goto O dX3_houseOf_21 rfl ?_
    refine g_sub [2, 1, 0] (lv' := [(0, vA r0), (2, vI v2), (3, vI (x3 + (1 : Int32)))]) rfl ?_
    cases h
    exact K
def f_X3_houseOf (r0 : Option Nat) (x1 : Int32) (σ : Dt) : Option Int32 := bo (iter FU (fun s => f_X3_houseOf_L6 r0 s.1 s.2 σ) (((1 : Int32) <<< (x1 &&& 31)), (0 : Int32))) fun w1 => some w1
theorem t_X3_houseOf {M : Mx} {l0 : Launch} (O : Ok M cX3_houseOf yX3_houseOf) (R0 : Rm M l0 3 103 0 0) (N : Ma M = false) (hn : Mn M = 4) (r0 : Option Nat) (x1 : Int32) (σ : Dt) (o : Int32) (h : f_X3_houseOf r0 x1 σ = some o) (K : Fin' M (some .int) 0 0 SX σ (some (vI o))) : G M 0 0 0 [(0, vA r0), (1, vI x1)] [] SX σ := by
  unfold f_X3_houseOf at h
  refine g_iconst (v := (1 : Int32)) O dX3_houseOf_0 rfl ?_
  refine g_iload_n O dX3_houseOf_1 rfl 1 rfl ?_
  refine g_ishl O dX3_houseOf_2 ?_
  refine g_istore_n (lv' := [(2, vI ((1 : Int32) <<< (x1 &&& 31))), (0, vA r0), (1, vI x1)]) O dX3_houseOf_3 rfl 4 hn (by decide) rfl ?_
  refine g_iconst (v := (0 : Int32)) O dX3_houseOf_4 rfl ?_
  refine g_istore_n (lv' := [(3, vI (0 : Int32)), (2, vI ((1 : Int32) <<< (x1 &&& 31))), (0, vA r0), (1, vI x1)]) O dX3_houseOf_5 rfl 4 hn (by decide) rfl ?_
  refine g_sub [2, 1, 0] (lv' := [(0, vA r0), (2, vI ((1 : Int32) <<< (x1 &&& 31))), (3, vI (0 : Int32))]) rfl ?_
  obtain ⟨w1, e2, h⟩ := bo_some h
  refine iter_G (P := P_X3_houseOf_6 M r0 σ) (E := E_X3_houseOf_6 M r0 σ) (fun s o hb hk => t_X3_houseOf_L6 O R0 N hn r0 s.1 s.2 σ o hb hk) FU (((1 : Int32) <<< (x1 &&& 31)), (0 : Int32)) w1 e2 ?_
  show G M 0 0 24 [(2, vI w1)] [] SX σ
  refine g_iload_n O dX3_houseOf_24 rfl 0 rfl ?_
  cases h
  exact g_ireturn O K dX3_houseOf_25
theorem c_X3_houseOf (l0 : Launch) (r0 : Option Nat) (x1 : Int32) (σ : Dt) (r : Int32) (h : f_X3_houseOf r0 x1 σ = some r) : Ctr l0 yX3_houseOf cX3_houseOf 4 (some .int) false 3 103 0 0 [vA r0, vI x1] SX σ SX σ (some (vI r)) := ctr_of (by decide) (Nat.le_of_ble_eq_true rfl) (fun M O F R0 N hn => t_X3_houseOf O R0 N hn r0 x1 σ r h F)
def P_X3_manyHouses_6 (M : Mx) (r0 : Option Nat) (σ : Dt) (s : (Int32 × Int32 × Int32)) : Prop := G M 0 0 6 [(0, vA r0), (1, vI s.1), (2, vI s.2.1), (3, vI s.2.2)] [] SX σ
def E_X3_manyHouses_6 (M : Mx) (r0 : Option Nat) (σ : Dt) : Int32 → Prop := (fun w => G M 0 0 45 [(1, vI w)] [] SX σ)
def f_X3_manyHouses_39 (r0 : Option Nat) (x1 : Int32) (x2 : Int32) (x3 : Int32) (σ : Dt) : Option ((Int32 × Int32 × Int32) ⊕ Int32) := some (.inl (x1, x2, (x3 + (1 : Int32))))
theorem t_X3_manyHouses_39 {M : Mx} {l0 : Launch} (O : Ok M cX3_manyHouses yX3_manyHouses) (R0 : Rm M l0 4 126 0 0) (N : Ma M = false) (hn : Mn M = 4)  (r0 : Option Nat) (x1 : Int32) (x2 : Int32) (x3 : Int32) (σ : Dt) (o : ((Int32 × Int32 × Int32) ⊕ Int32)) (h : f_X3_manyHouses_39 r0 x1 x2 x3 σ = some o) (K : kon (P_X3_manyHouses_6 M r0 σ) (E_X3_manyHouses_6 M r0 σ) o) : G M 0 0 39 [(0, vA r0), (1, vI x1), (2, vI x2), (3, vI x3)] [] SX σ := by
  unfold f_X3_manyHouses_39 at h
  refine g_iinc (v := (x3 + (1 : Int32))) (lv' := [(3, vI (x3 + (1 : Int32))), (0, vA r0), (1, vI x1), (2, vI x2)]) O dX3_manyHouses_39 4 hn (by decide) 3 rfl rfl rfl ?_
  refine g_goto O dX3_manyHouses_42 rfl ?_
  refine g_sub [1, 2, 3, 0] (lv' := [(0, vA r0), (1, vI x1), (2, vI x2), (3, vI (x3 + (1 : Int32)))]) rfl ?_
  cases h
  exact K
def f_X3_manyHouses_L6 (r0 : Option Nat) (x1 : Int32) (x2 : Int32) (x3 : Int32) (σ : Dt) : Option ((Int32 × Int32 × Int32) ⊕ Int32) := bo (xgi SX 9 0 r0 σ) fun v1 => if v1 ≤ x3 then some (.inr x1) else if (10 : Int32) ≤ x3 then some (.inr x1) else if ((x2 >>> (x3 &&& 31)) &&& (1 : Int32)) = 0 then bo (f_X3_houseOf r0 x3 σ) fun v6 => f_X3_manyHouses_39 r0 (x1 + (1 : Int32)) (x2 ||| v6) x3 σ else f_X3_manyHouses_39 r0 x1 x2 x3 σ
theorem t_X3_manyHouses_L6 {M : Mx} {l0 : Launch} (O : Ok M cX3_manyHouses yX3_manyHouses) (R0 : Rm M l0 4 126 0 0) (N : Ma M = false) (hn : Mn M = 4) (r0 : Option Nat) (x1 : Int32) (x2 : Int32) (x3 : Int32) (σ : Dt) (o : ((Int32 × Int32 × Int32) ⊕ Int32)) (h : f_X3_manyHouses_L6 r0 x1 x2 x3 σ = some o) (K : kon (P_X3_manyHouses_6 M r0 σ) (E_X3_manyHouses_6 M r0 σ) o) : G M 0 0 6 [(0, vA r0), (1, vI x1), (2, vI x2), (3, vI x3)] [] SX σ := by
  unfold f_X3_manyHouses_L6 at h
  refine g_iload_n O dX3_manyHouses_6 rfl 3 rfl ?_
  refine g_aload_n O dX3_manyHouses_7 rfl 0 rfl ?_
  obtain ⟨v1, e2, h⟩ := bo_some h
  refine g_getI O dX3_manyHouses_8 fl_X3_32 rfl e2 ?_
  refine g_icmp_ge O dX3_manyHouses_11 rfl (fun c3 => ?_) (fun c3 => ?_)
  · replace h := (if_pos c3).symm.trans h
    refine g_sub [1] (lv' := [(1, vI x1)]) rfl ?_
    cases h
    exact K
  · replace h := (if_neg c3).symm.trans h
    refine g_iload_n O dX3_manyHouses_14 rfl 3 rfl ?_
    refine g_bipush (v := (10 : Int32)) O dX3_manyHouses_15 rfl ?_
    refine g_icmp_ge O dX3_manyHouses_17 rfl (fun c4 => ?_) (fun c4 => ?_)
    · replace h := (if_pos c4).symm.trans h
      refine g_sub [1] (lv' := [(1, vI x1)]) rfl ?_
      cases h
      exact K
    · replace h := (if_neg c4).symm.trans h
      refine g_iload_n O dX3_manyHouses_20 rfl 2 rfl ?_
      refine g_iload_n O dX3_manyHouses_21 rfl 3 rfl ?_
      refine g_ishr O dX3_manyHouses_22 ?_
      refine g_iconst (v := (1 : Int32)) O dX3_manyHouses_23 rfl ?_
      refine g_iand O dX3_manyHouses_24 ?_
      refine g_if_ne O dX3_manyHouses_25 rfl (fun c5 => ?_) (fun c5 => ?_)
      · replace h := (if_pos c5).symm.trans h
        refine g_iload_n O dX3_manyHouses_28 rfl 2 rfl ?_
        refine g_aload_n O dX3_manyHouses_29 rfl 0 rfl ?_
        refine g_iload_n O dX3_manyHouses_30 rfl 3 rfl ?_
        obtain ⟨v6, e7, h⟩ := bo_some h
        refine g_cS1 O R0 N dX3_manyHouses_31 vl_X3_103 w1322 [vA r0, vI x3] rfl rfl rfl ⟨Nat.le_of_ble_eq_true rfl, Nat.le_of_ble_eq_true rfl⟩ (c_X3_houseOf l0 r0 x3 σ v6 e7) ?_
        refine g_ior O dX3_manyHouses_34 ?_
        refine g_istore_n (lv' := [(2, vI (x2 ||| v6)), (0, vA r0), (1, vI x1), (3, vI x3)]) O dX3_manyHouses_35 rfl 4 hn (by decide) rfl ?_
        refine g_iinc (v := (x1 + (1 : Int32))) (lv' := [(1, vI (x1 + (1 : Int32))), (2, vI (x2 ||| v6)), (0, vA r0), (3, vI x3)]) O dX3_manyHouses_36 4 hn (by decide) 2 rfl rfl rfl ?_
        refine g_sub [2, 0, 1, 3] (lv' := [(0, vA r0), (1, vI (x1 + (1 : Int32))), (2, vI (x2 ||| v6)), (3, vI x3)]) rfl ?_
        exact t_X3_manyHouses_39 O R0 N hn r0 (x1 + (1 : Int32)) (x2 ||| v6) x3 σ o h K
      · replace h := (if_neg c5).symm.trans h
        exact t_X3_manyHouses_39 O R0 N hn r0 x1 x2 x3 σ o h K
def f_X3_manyHouses (r0 : Option Nat) (σ : Dt) : Option Int32 := bo (iter FU (fun s => f_X3_manyHouses_L6 r0 s.1 s.2.1 s.2.2 σ) ((0 : Int32), (0 : Int32), (0 : Int32))) fun w1 => some w1
theorem t_X3_manyHouses {M : Mx} {l0 : Launch} (O : Ok M cX3_manyHouses yX3_manyHouses) (R0 : Rm M l0 4 126 0 0) (N : Ma M = false) (hn : Mn M = 4) (r0 : Option Nat) (σ : Dt) (o : Int32) (h : f_X3_manyHouses r0 σ = some o) (K : Fin' M (some .int) 0 0 SX σ (some (vI o))) : G M 0 0 0 [(0, vA r0)] [] SX σ := by
  unfold f_X3_manyHouses at h
  refine g_iconst (v := (0 : Int32)) O dX3_manyHouses_0 rfl ?_
  refine g_istore_n (lv' := [(1, vI (0 : Int32)), (0, vA r0)]) O dX3_manyHouses_1 rfl 4 hn (by decide) rfl ?_
  refine g_iconst (v := (0 : Int32)) O dX3_manyHouses_2 rfl ?_
  refine g_istore_n (lv' := [(2, vI (0 : Int32)), (1, vI (0 : Int32)), (0, vA r0)]) O dX3_manyHouses_3 rfl 4 hn (by decide) rfl ?_
  refine g_iconst (v := (0 : Int32)) O dX3_manyHouses_4 rfl ?_
  refine g_istore_n (lv' := [(3, vI (0 : Int32)), (2, vI (0 : Int32)), (1, vI (0 : Int32)), (0, vA r0)]) O dX3_manyHouses_5 rfl 4 hn (by decide) rfl ?_
  refine g_sub [3, 2, 1, 0] (lv' := [(0, vA r0), (1, vI (0 : Int32)), (2, vI (0 : Int32)), (3, vI (0 : Int32))]) rfl ?_
  obtain ⟨w1, e2, h⟩ := bo_some h
  refine iter_G (P := P_X3_manyHouses_6 M r0 σ) (E := E_X3_manyHouses_6 M r0 σ) (fun s o hb hk => t_X3_manyHouses_L6 O R0 N hn r0 s.1 s.2.1 s.2.2 σ o hb hk) FU ((0 : Int32), (0 : Int32), (0 : Int32)) w1 e2 ?_
  show G M 0 0 45 [(1, vI w1)] [] SX σ
  refine g_iload_n O dX3_manyHouses_45 rfl 0 rfl ?_
  cases h
  exact g_ireturn O K dX3_manyHouses_46
theorem c_X3_manyHouses (l0 : Launch) (r0 : Option Nat) (σ : Dt) (r : Int32) (h : f_X3_manyHouses r0 σ = some r) : Ctr l0 yX3_manyHouses cX3_manyHouses 4 (some .int) false 4 126 0 0 [vA r0] SX σ SX σ (some (vI r)) := ctr_of (by decide) (Nat.le_of_ble_eq_true rfl) (fun M O F R0 N hn => t_X3_manyHouses O R0 N hn r0 σ r h F)
def P_X3_largestHouse_4 (M : Mx) (r0 : Option Nat) (σ : Dt) (s : (Int32 × Int32)) : Prop := G M 0 0 4 [(0, vA r0), (1, vI s.1), (2, vI s.2)] [] SX σ
def E_X3_largestHouse_4 (M : Mx) (r0 : Option Nat) (σ : Dt) : Int32 → Prop := (fun w => G M 0 0 37 [(1, vI w)] [] SX σ)
def f_X3_largestHouse_L4 (r0 : Option Nat) (x1 : Int32) (x2 : Int32) (σ : Dt) : Option ((Int32 × Int32) ⊕ Int32) := bo (xgi SX 9 0 r0 σ) fun v1 => if v1 ≤ x2 then some (.inr x1) else if (10 : Int32) ≤ x2 then some (.inr x1) else bo (f_X3_houseOf r0 x2 σ) fun v5 => bo (f_J6_bitCount_0f7a4 v5 σ) fun v7 => some (.inl ((mmax x1 v7), (x2 + (1 : Int32))))
theorem t_X3_largestHouse_L4 {M : Mx} {l0 : Launch} (O : Ok M cX3_largestHouse yX3_largestHouse) (R0 : Rm M l0 4 126 0 0) (N : Ma M = false) (hn : Mn M = 3) (r0 : Option Nat) (x1 : Int32) (x2 : Int32) (σ : Dt) (o : ((Int32 × Int32) ⊕ Int32)) (h : f_X3_largestHouse_L4 r0 x1 x2 σ = some o) (K : kon (P_X3_largestHouse_4 M r0 σ) (E_X3_largestHouse_4 M r0 σ) o) : G M 0 0 4 [(0, vA r0), (1, vI x1), (2, vI x2)] [] SX σ := by
  unfold f_X3_largestHouse_L4 at h
  refine g_iload_n O dX3_largestHouse_4 rfl 2 rfl ?_
  refine g_aload_n O dX3_largestHouse_5 rfl 0 rfl ?_
  obtain ⟨v1, e2, h⟩ := bo_some h
  refine g_getI O dX3_largestHouse_6 fl_X3_32 rfl e2 ?_
  refine g_icmp_ge O dX3_largestHouse_9 rfl (fun c3 => ?_) (fun c3 => ?_)
  · replace h := (if_pos c3).symm.trans h
    refine g_sub [1] (lv' := [(1, vI x1)]) rfl ?_
    cases h
    exact K
  · replace h := (if_neg c3).symm.trans h
    refine g_iload_n O dX3_largestHouse_12 rfl 2 rfl ?_
    refine g_bipush (v := (10 : Int32)) O dX3_largestHouse_13 rfl ?_
    refine g_icmp_ge O dX3_largestHouse_15 rfl (fun c4 => ?_) (fun c4 => ?_)
    · replace h := (if_pos c4).symm.trans h
      refine g_sub [1] (lv' := [(1, vI x1)]) rfl ?_
      cases h
      exact K
    · replace h := (if_neg c4).symm.trans h
      refine g_iload_n O dX3_largestHouse_18 rfl 1 rfl ?_
      refine g_aload_n O dX3_largestHouse_19 rfl 0 rfl ?_
      refine g_iload_n O dX3_largestHouse_20 rfl 2 rfl ?_
      obtain ⟨v5, e6, h⟩ := bo_some h
      refine g_cS1 O R0 N dX3_largestHouse_21 vl_X3_103 w1322 [vA r0, vI x2] rfl rfl rfl ⟨Nat.le_of_ble_eq_true rfl, Nat.le_of_ble_eq_true rfl⟩ (c_X3_houseOf l0 r0 x2 σ v5 e6) ?_
      obtain ⟨v7, e8, h⟩ := bo_some h
      refine g_cS1 O R0 N dX3_largestHouse_24 vl_X3_106 w831 [vI v5] rfl rfl rfl ⟨Nat.le_of_ble_eq_true rfl, Nat.le_of_ble_eq_true rfl⟩ (c_J6_bitCount_0f7a4 l0 v5 σ v7 e8) ?_
      refine g_mmax O R0 dX3_largestHouse_27 w1193 ⟨Nat.le_of_ble_eq_true rfl, Nat.le_of_ble_eq_true rfl⟩ ?_
      refine g_istore_n (lv' := [(1, vI (mmax x1 v7)), (0, vA r0), (2, vI x2)]) O dX3_largestHouse_30 rfl 3 hn (by decide) rfl ?_
      refine g_iinc (v := (x2 + (1 : Int32))) (lv' := [(2, vI (x2 + (1 : Int32))), (1, vI (mmax x1 v7)), (0, vA r0)]) O dX3_largestHouse_31 3 hn (by decide) 2 rfl rfl rfl ?_
      refine g_goto O dX3_largestHouse_34 rfl ?_
      refine g_sub [2, 1, 0] (lv' := [(0, vA r0), (1, vI (mmax x1 v7)), (2, vI (x2 + (1 : Int32)))]) rfl ?_
      cases h
      exact K
def f_X3_largestHouse (r0 : Option Nat) (σ : Dt) : Option Int32 := bo (iter FU (fun s => f_X3_largestHouse_L4 r0 s.1 s.2 σ) ((0 : Int32), (0 : Int32))) fun w1 => some w1
theorem t_X3_largestHouse {M : Mx} {l0 : Launch} (O : Ok M cX3_largestHouse yX3_largestHouse) (R0 : Rm M l0 4 126 0 0) (N : Ma M = false) (hn : Mn M = 3) (r0 : Option Nat) (σ : Dt) (o : Int32) (h : f_X3_largestHouse r0 σ = some o) (K : Fin' M (some .int) 0 0 SX σ (some (vI o))) : G M 0 0 0 [(0, vA r0)] [] SX σ := by
  unfold f_X3_largestHouse at h
  refine g_iconst (v := (0 : Int32)) O dX3_largestHouse_0 rfl ?_
  refine g_istore_n (lv' := [(1, vI (0 : Int32)), (0, vA r0)]) O dX3_largestHouse_1 rfl 3 hn (by decide) rfl ?_
  refine g_iconst (v := (0 : Int32)) O dX3_largestHouse_2 rfl ?_
  refine g_istore_n (lv' := [(2, vI (0 : Int32)), (1, vI (0 : Int32)), (0, vA r0)]) O dX3_largestHouse_3 rfl 3 hn (by decide) rfl ?_
  refine g_sub [2, 1, 0] (lv' := [(0, vA r0), (1, vI (0 : Int32)), (2, vI (0 : Int32))]) rfl ?_
  obtain ⟨w1, e2, h⟩ := bo_some h
  refine iter_G (P := P_X3_largestHouse_4 M r0 σ) (E := E_X3_largestHouse_4 M r0 σ) (fun s o hb hk => t_X3_largestHouse_L4 O R0 N hn r0 s.1 s.2 σ o hb hk) FU ((0 : Int32), (0 : Int32)) w1 e2 ?_
  show G M 0 0 37 [(1, vI w1)] [] SX σ
  refine g_iload_n O dX3_largestHouse_37 rfl 0 rfl ?_
  cases h
  exact g_ireturn O K dX3_largestHouse_38
theorem c_X3_largestHouse (l0 : Launch) (r0 : Option Nat) (σ : Dt) (r : Int32) (h : f_X3_largestHouse r0 σ = some r) : Ctr l0 yX3_largestHouse cX3_largestHouse 3 (some .int) false 4 126 0 0 [vA r0] SX σ SX σ (some (vI r)) := ctr_of (by decide) (Nat.le_of_ble_eq_true rfl) (fun M O F R0 N hn => t_X3_largestHouse O R0 N hn r0 σ r h F)
def P_X3_roots_4 (M : Mx) (r0 : Option Nat) (σ : Dt) (s : (Int32 × Int32)) : Prop := G M 0 0 4 [(0, vA r0), (1, vI s.1), (2, vI s.2)] [] SX σ
def E_X3_roots_4 (M : Mx) (r0 : Option Nat) (σ : Dt) : Int32 → Prop := (fun w => G M 0 0 39 [(1, vI w)] [] SX σ)
def f_X3_roots_33 (r0 : Option Nat) (x1 : Int32) (x2 : Int32) (σ : Dt) : Option ((Int32 × Int32) ⊕ Int32) := some (.inl (x1, (x2 + (1 : Int32))))
theorem t_X3_roots_33 {M : Mx} {l0 : Launch} (O : Ok M cX3_roots yX3_roots) (R0 : Rm M l0 2 80 0 0) (N : Ma M = false) (hn : Mn M = 3)  (r0 : Option Nat) (x1 : Int32) (x2 : Int32) (σ : Dt) (o : ((Int32 × Int32) ⊕ Int32)) (h : f_X3_roots_33 r0 x1 x2 σ = some o) (K : kon (P_X3_roots_4 M r0 σ) (E_X3_roots_4 M r0 σ) o) : G M 0 0 33 [(0, vA r0), (1, vI x1), (2, vI x2)] [] SX σ := by
  unfold f_X3_roots_33 at h
  refine g_iinc (v := (x2 + (1 : Int32))) (lv' := [(2, vI (x2 + (1 : Int32))), (0, vA r0), (1, vI x1)]) O dX3_roots_33 3 hn (by decide) 2 rfl rfl rfl ?_
  refine g_goto O dX3_roots_36 rfl ?_
  refine g_sub [1, 2, 0] (lv' := [(0, vA r0), (1, vI x1), (2, vI (x2 + (1 : Int32)))]) rfl ?_
  cases h
  exact K
def f_X3_roots_L4 (r0 : Option Nat) (x1 : Int32) (x2 : Int32) (σ : Dt) : Option ((Int32 × Int32) ⊕ Int32) := bo (xgi SX 9 0 r0 σ) fun v1 => if v1 ≤ x2 then some (.inr x1) else if (10 : Int32) ≤ x2 then some (.inr x1) else bo (xgr SX 9 5 r0 σ) fun v5 => bo (xai SX v5 x2 σ) fun v7 => if v7 = 0 then f_X3_roots_33 r0 (x1 ||| ((1 : Int32) <<< (x2 &&& 31))) x2 σ else f_X3_roots_33 r0 x1 x2 σ
theorem t_X3_roots_L4 {M : Mx} {l0 : Launch} (O : Ok M cX3_roots yX3_roots) (R0 : Rm M l0 2 80 0 0) (N : Ma M = false) (hn : Mn M = 3) (r0 : Option Nat) (x1 : Int32) (x2 : Int32) (σ : Dt) (o : ((Int32 × Int32) ⊕ Int32)) (h : f_X3_roots_L4 r0 x1 x2 σ = some o) (K : kon (P_X3_roots_4 M r0 σ) (E_X3_roots_4 M r0 σ) o) : G M 0 0 4 [(0, vA r0), (1, vI x1), (2, vI x2)] [] SX σ := by
  unfold f_X3_roots_L4 at h
  refine g_iload_n O dX3_roots_4 rfl 2 rfl ?_
  refine g_aload_n O dX3_roots_5 rfl 0 rfl ?_
  obtain ⟨v1, e2, h⟩ := bo_some h
  refine g_getI O dX3_roots_6 fl_X3_32 rfl e2 ?_
  refine g_icmp_ge O dX3_roots_9 rfl (fun c3 => ?_) (fun c3 => ?_)
  · replace h := (if_pos c3).symm.trans h
    refine g_sub [1] (lv' := [(1, vI x1)]) rfl ?_
    cases h
    exact K
  · replace h := (if_neg c3).symm.trans h
    refine g_iload_n O dX3_roots_12 rfl 2 rfl ?_
    refine g_bipush (v := (10 : Int32)) O dX3_roots_13 rfl ?_
    refine g_icmp_ge O dX3_roots_15 rfl (fun c4 => ?_) (fun c4 => ?_)
    · replace h := (if_pos c4).symm.trans h
      refine g_sub [1] (lv' := [(1, vI x1)]) rfl ?_
      cases h
      exact K
    · replace h := (if_neg c4).symm.trans h
      refine g_aload_n O dX3_roots_18 rfl 0 rfl ?_
      obtain ⟨v5, e6, h⟩ := bo_some h
      refine g_getR O dX3_roots_19 fl_X3_36 rfl e6 ?_
      refine g_iload_n O dX3_roots_22 rfl 2 rfl ?_
      obtain ⟨v7, e8, h⟩ := bo_some h
      refine g_iaload O dX3_roots_23 e8 ?_
      refine g_if_ne O dX3_roots_24 rfl (fun c9 => ?_) (fun c9 => ?_)
      · replace h := (if_pos c9).symm.trans h
        refine g_iload_n O dX3_roots_27 rfl 1 rfl ?_
        refine g_iconst (v := (1 : Int32)) O dX3_roots_28 rfl ?_
        refine g_iload_n O dX3_roots_29 rfl 2 rfl ?_
        refine g_ishl O dX3_roots_30 ?_
        refine g_ior O dX3_roots_31 ?_
        refine g_istore_n (lv' := [(1, vI (x1 ||| ((1 : Int32) <<< (x2 &&& 31)))), (0, vA r0), (2, vI x2)]) O dX3_roots_32 rfl 3 hn (by decide) rfl ?_
        refine g_sub [1, 0, 2] (lv' := [(0, vA r0), (1, vI (x1 ||| ((1 : Int32) <<< (x2 &&& 31)))), (2, vI x2)]) rfl ?_
        exact t_X3_roots_33 O R0 N hn r0 (x1 ||| ((1 : Int32) <<< (x2 &&& 31))) x2 σ o h K
      · replace h := (if_neg c9).symm.trans h
        exact t_X3_roots_33 O R0 N hn r0 x1 x2 σ o h K
def f_X3_roots (r0 : Option Nat) (σ : Dt) : Option Int32 := bo (iter FU (fun s => f_X3_roots_L4 r0 s.1 s.2 σ) ((0 : Int32), (0 : Int32))) fun w1 => some w1
theorem t_X3_roots {M : Mx} {l0 : Launch} (O : Ok M cX3_roots yX3_roots) (R0 : Rm M l0 2 80 0 0) (N : Ma M = false) (hn : Mn M = 3) (r0 : Option Nat) (σ : Dt) (o : Int32) (h : f_X3_roots r0 σ = some o) (K : Fin' M (some .int) 0 0 SX σ (some (vI o))) : G M 0 0 0 [(0, vA r0)] [] SX σ := by
  unfold f_X3_roots at h
  refine g_iconst (v := (0 : Int32)) O dX3_roots_0 rfl ?_
  refine g_istore_n (lv' := [(1, vI (0 : Int32)), (0, vA r0)]) O dX3_roots_1 rfl 3 hn (by decide) rfl ?_
  refine g_iconst (v := (0 : Int32)) O dX3_roots_2 rfl ?_
  refine g_istore_n (lv' := [(2, vI (0 : Int32)), (1, vI (0 : Int32)), (0, vA r0)]) O dX3_roots_3 rfl 3 hn (by decide) rfl ?_
  refine g_sub [2, 1, 0] (lv' := [(0, vA r0), (1, vI (0 : Int32)), (2, vI (0 : Int32))]) rfl ?_
  obtain ⟨w1, e2, h⟩ := bo_some h
  refine iter_G (P := P_X3_roots_4 M r0 σ) (E := E_X3_roots_4 M r0 σ) (fun s o hb hk => t_X3_roots_L4 O R0 N hn r0 s.1 s.2 σ o hb hk) FU ((0 : Int32), (0 : Int32)) w1 e2 ?_
  show G M 0 0 39 [(1, vI w1)] [] SX σ
  refine g_iload_n O dX3_roots_39 rfl 0 rfl ?_
  cases h
  exact g_ireturn O K dX3_roots_40
theorem c_X3_roots (l0 : Launch) (r0 : Option Nat) (σ : Dt) (r : Int32) (h : f_X3_roots r0 σ = some r) : Ctr l0 yX3_roots cX3_roots 3 (some .int) false 2 80 0 0 [vA r0] SX σ SX σ (some (vI r)) := ctr_of (by decide) (Nat.le_of_ble_eq_true rfl) (fun M O F R0 N hn => t_X3_roots O R0 N hn r0 σ r h F)
def P_X3_orphans_4 (M : Mx) (r0 : Option Nat) (σ : Dt) (s : (Int32 × Int32)) : Prop := G M 0 0 4 [(0, vA r0), (1, vI s.1), (2, vI s.2)] [] SX σ
def E_X3_orphans_4 (M : Mx) (r0 : Option Nat) (σ : Dt) : Int32 → Prop := (fun w => G M 0 0 47 [(1, vI w)] [] SX σ)
def f_X3_orphans_41 (r0 : Option Nat) (x1 : Int32) (x2 : Int32) (σ : Dt) : Option ((Int32 × Int32) ⊕ Int32) := some (.inl (x1, (x2 + (1 : Int32))))
theorem t_X3_orphans_41 {M : Mx} {l0 : Launch} (O : Ok M cX3_orphans yX3_orphans) (R0 : Rm M l0 4 122 0 0) (N : Ma M = false) (hn : Mn M = 3)  (r0 : Option Nat) (x1 : Int32) (x2 : Int32) (σ : Dt) (o : ((Int32 × Int32) ⊕ Int32)) (h : f_X3_orphans_41 r0 x1 x2 σ = some o) (K : kon (P_X3_orphans_4 M r0 σ) (E_X3_orphans_4 M r0 σ) o) : G M 0 0 41 [(0, vA r0), (1, vI x1), (2, vI x2)] [] SX σ := by
  unfold f_X3_orphans_41 at h
  refine g_iinc (v := (x2 + (1 : Int32))) (lv' := [(2, vI (x2 + (1 : Int32))), (0, vA r0), (1, vI x1)]) O dX3_orphans_41 3 hn (by decide) 2 rfl rfl rfl ?_
  refine g_goto O dX3_orphans_44 rfl ?_
  refine g_sub [1, 2, 0] (lv' := [(0, vA r0), (1, vI x1), (2, vI (x2 + (1 : Int32)))]) rfl ?_
  cases h
  exact K
def f_X3_orphans_L4 (r0 : Option Nat) (x1 : Int32) (x2 : Int32) (σ : Dt) : Option ((Int32 × Int32) ⊕ Int32) := bo (xgi SX 9 0 r0 σ) fun v1 => if v1 ≤ x2 then some (.inr x1) else if (10 : Int32) ≤ x2 then some (.inr x1) else bo (xrc SX 9 r0) fun a5 => bo (f_X9_isChild a5 x2 σ) fun v7 => if v7 = 0 then f_X3_orphans_41 r0 x1 x2 σ else bo (xgr SX 9 6 r0 σ) fun v10 => bo (xai SX v10 x2 σ) fun v12 => if v12 = 0 then f_X3_orphans_41 r0 (x1 ||| ((1 : Int32) <<< (x2 &&& 31))) x2 σ else f_X3_orphans_41 r0 x1 x2 σ
theorem t_X3_orphans_L4 {M : Mx} {l0 : Launch} (O : Ok M cX3_orphans yX3_orphans) (R0 : Rm M l0 4 122 0 0) (N : Ma M = false) (hn : Mn M = 3) (r0 : Option Nat) (x1 : Int32) (x2 : Int32) (σ : Dt) (o : ((Int32 × Int32) ⊕ Int32)) (h : f_X3_orphans_L4 r0 x1 x2 σ = some o) (K : kon (P_X3_orphans_4 M r0 σ) (E_X3_orphans_4 M r0 σ) o) : G M 0 0 4 [(0, vA r0), (1, vI x1), (2, vI x2)] [] SX σ := by
  unfold f_X3_orphans_L4 at h
  refine g_iload_n O dX3_orphans_4 rfl 2 rfl ?_
  refine g_aload_n O dX3_orphans_5 rfl 0 rfl ?_
  obtain ⟨v1, e2, h⟩ := bo_some h
  refine g_getI O dX3_orphans_6 fl_X3_32 rfl e2 ?_
  refine g_icmp_ge O dX3_orphans_9 rfl (fun c3 => ?_) (fun c3 => ?_)
  · replace h := (if_pos c3).symm.trans h
    refine g_sub [1] (lv' := [(1, vI x1)]) rfl ?_
    cases h
    exact K
  · replace h := (if_neg c3).symm.trans h
    refine g_iload_n O dX3_orphans_12 rfl 2 rfl ?_
    refine g_bipush (v := (10 : Int32)) O dX3_orphans_13 rfl ?_
    refine g_icmp_ge O dX3_orphans_15 rfl (fun c4 => ?_) (fun c4 => ?_)
    · replace h := (if_pos c4).symm.trans h
      refine g_sub [1] (lv' := [(1, vI x1)]) rfl ?_
      cases h
      exact K
    · replace h := (if_neg c4).symm.trans h
      refine g_aload_n O dX3_orphans_18 rfl 0 rfl ?_
      refine g_iload_n O dX3_orphans_19 rfl 2 rfl ?_
      obtain ⟨a5, e6, h⟩ := bo_some h
      obtain ⟨v7, e8, h⟩ := bo_some h
      refine g_cV1 O R0 N dX3_orphans_20 vl_X3_112 vv_X9_isChild e6 [vI x2] rfl rfl rfl ⟨Nat.le_of_ble_eq_true rfl, Nat.le_of_ble_eq_true rfl⟩ (c_X9_isChild l0 a5 x2 σ v7 e8) ?_
      refine g_if_eq O dX3_orphans_23 rfl (fun c9 => ?_) (fun c9 => ?_)
      · replace h := (if_pos c9).symm.trans h
        exact t_X3_orphans_41 O R0 N hn r0 x1 x2 σ o h K
      · replace h := (if_neg c9).symm.trans h
        refine g_aload_n O dX3_orphans_26 rfl 0 rfl ?_
        obtain ⟨v10, e11, h⟩ := bo_some h
        refine g_getR O dX3_orphans_27 fl_X3_115 rfl e11 ?_
        refine g_iload_n O dX3_orphans_30 rfl 2 rfl ?_
        obtain ⟨v12, e13, h⟩ := bo_some h
        refine g_iaload O dX3_orphans_31 e13 ?_
        refine g_if_ne O dX3_orphans_32 rfl (fun c14 => ?_) (fun c14 => ?_)
        · replace h := (if_pos c14).symm.trans h
          refine g_iload_n O dX3_orphans_35 rfl 1 rfl ?_
          refine g_iconst (v := (1 : Int32)) O dX3_orphans_36 rfl ?_
          refine g_iload_n O dX3_orphans_37 rfl 2 rfl ?_
          refine g_ishl O dX3_orphans_38 ?_
          refine g_ior O dX3_orphans_39 ?_
          refine g_istore_n (lv' := [(1, vI (x1 ||| ((1 : Int32) <<< (x2 &&& 31)))), (0, vA r0), (2, vI x2)]) O dX3_orphans_40 rfl 3 hn (by decide) rfl ?_
          refine g_sub [1, 0, 2] (lv' := [(0, vA r0), (1, vI (x1 ||| ((1 : Int32) <<< (x2 &&& 31)))), (2, vI x2)]) rfl ?_
          exact t_X3_orphans_41 O R0 N hn r0 (x1 ||| ((1 : Int32) <<< (x2 &&& 31))) x2 σ o h K
        · replace h := (if_neg c14).symm.trans h
          exact t_X3_orphans_41 O R0 N hn r0 x1 x2 σ o h K
def f_X3_orphans (r0 : Option Nat) (σ : Dt) : Option Int32 := bo (iter FU (fun s => f_X3_orphans_L4 r0 s.1 s.2 σ) ((0 : Int32), (0 : Int32))) fun w1 => some w1
theorem t_X3_orphans {M : Mx} {l0 : Launch} (O : Ok M cX3_orphans yX3_orphans) (R0 : Rm M l0 4 122 0 0) (N : Ma M = false) (hn : Mn M = 3) (r0 : Option Nat) (σ : Dt) (o : Int32) (h : f_X3_orphans r0 σ = some o) (K : Fin' M (some .int) 0 0 SX σ (some (vI o))) : G M 0 0 0 [(0, vA r0)] [] SX σ := by
  unfold f_X3_orphans at h
  refine g_iconst (v := (0 : Int32)) O dX3_orphans_0 rfl ?_
  refine g_istore_n (lv' := [(1, vI (0 : Int32)), (0, vA r0)]) O dX3_orphans_1 rfl 3 hn (by decide) rfl ?_
  refine g_iconst (v := (0 : Int32)) O dX3_orphans_2 rfl ?_
  refine g_istore_n (lv' := [(2, vI (0 : Int32)), (1, vI (0 : Int32)), (0, vA r0)]) O dX3_orphans_3 rfl 3 hn (by decide) rfl ?_
  refine g_sub [2, 1, 0] (lv' := [(0, vA r0), (1, vI (0 : Int32)), (2, vI (0 : Int32))]) rfl ?_
  obtain ⟨w1, e2, h⟩ := bo_some h
  refine iter_G (P := P_X3_orphans_4 M r0 σ) (E := E_X3_orphans_4 M r0 σ) (fun s o hb hk => t_X3_orphans_L4 O R0 N hn r0 s.1 s.2 σ o hb hk) FU ((0 : Int32), (0 : Int32)) w1 e2 ?_
  show G M 0 0 47 [(1, vI w1)] [] SX σ
  refine g_iload_n O dX3_orphans_47 rfl 0 rfl ?_
  cases h
  exact g_ireturn O K dX3_orphans_48
theorem c_X3_orphans (l0 : Launch) (r0 : Option Nat) (σ : Dt) (r : Int32) (h : f_X3_orphans r0 σ = some r) : Ctr l0 yX3_orphans cX3_orphans 3 (some .int) false 4 122 0 0 [vA r0] SX σ SX σ (some (vI r)) := ctr_of (by decide) (Nat.le_of_ble_eq_true rfl) (fun M O F R0 N hn => t_X3_orphans O R0 N hn r0 σ r h F)
def P_X3_cousins_20 (M : Mx) (r0 : Option Nat) (x2 : Int32) (σ : Dt) (s : (Int32 × Int32)) : Prop := G M 0 0 20 [(0, vA r0), (1, vI s.1), (2, vI x2), (3, vI s.2)] [] SX σ
def E_X3_cousins_20 (M : Mx) (r0 : Option Nat) (x2 : Int32) (σ : Dt) : Int32 → Prop := (fun w => G M 0 0 78 [(0, vA r0), (1, vI w), (2, vI x2)] [] SX σ)
def f_X3_cousins_72 (r0 : Option Nat) (x1 : Int32) (x2 : Int32) (x3 : Int32) (σ : Dt) : Option ((Int32 × Int32) ⊕ Int32) := some (.inl (x1, (x3 + (1 : Int32))))
theorem t_X3_cousins_72 {M : Mx} {l0 : Launch} (O : Ok M cX3_cousins yX3_cousins) (R0 : Rm M l0 2 80 0 0) (N : Ma M = false) (hn : Mn M = 5)  (r0 : Option Nat) (x1 : Int32) (x2 : Int32) (x3 : Int32) (σ : Dt) (o : ((Int32 × Int32) ⊕ Int32)) (h : f_X3_cousins_72 r0 x1 x2 x3 σ = some o) (K : kon (P_X3_cousins_20 M r0 x2 σ) (E_X3_cousins_20 M r0 x2 σ) o) : G M 0 0 72 [(0, vA r0), (1, vI x1), (2, vI x2), (3, vI x3)] [] SX σ := by
  unfold f_X3_cousins_72 at h
  refine g_iinc (v := (x3 + (1 : Int32))) (lv' := [(3, vI (x3 + (1 : Int32))), (0, vA r0), (1, vI x1), (2, vI x2)]) O dX3_cousins_72 5 hn (by decide) 3 rfl rfl rfl ?_
  refine g_goto O dX3_cousins_75 rfl ?_
  refine g_sub [1, 2, 3, 0] (lv' := [(0, vA r0), (1, vI x1), (2, vI x2), (3, vI (x3 + (1 : Int32)))]) rfl ?_
  cases h
  exact K
def f_X3_cousins_46 (r0 : Option Nat) (x1 : Int32) (x2 : Int32) (x3 : Int32) (k0 : Int32) (σ : Dt) : Option ((Int32 × Int32) ⊕ Int32) := if k0 = 0 then f_X3_cousins_72 r0 x1 x2 x3 σ else bo (xgr SX 9 6 r0 σ) fun v2 => bo (xai SX v2 x2 σ) fun v4 => bo (xgr SX 9 6 r0 σ) fun v6 => bo (xai SX v6 x3 σ) fun v8 => if (v4 &&& v8) = 0 then f_X3_cousins_72 r0 x1 x2 x3 σ else f_X3_cousins_72 r0 (x1 + (1 : Int32)) x2 x3 σ
theorem t_X3_cousins_46 {M : Mx} {l0 : Launch} (O : Ok M cX3_cousins yX3_cousins) (R0 : Rm M l0 2 80 0 0) (N : Ma M = false) (hn : Mn M = 5)  (r0 : Option Nat) (x1 : Int32) (x2 : Int32) (x3 : Int32) (k0 : Int32) (σ : Dt) (o : ((Int32 × Int32) ⊕ Int32)) (h : f_X3_cousins_46 r0 x1 x2 x3 k0 σ = some o) (K : kon (P_X3_cousins_20 M r0 x2 σ) (E_X3_cousins_20 M r0 x2 σ) o) : G M 0 0 46 [(0, vA r0), (1, vI x1), (2, vI x2), (3, vI x3)] [vI k0] SX σ := by
  unfold f_X3_cousins_46 at h
  refine g_istore (lv' := [(4, vI k0), (0, vA r0), (1, vI x1), (2, vI x2), (3, vI x3)]) O dX3_cousins_46 5 hn (by decide) rfl ?_
  refine g_iload O dX3_cousins_48 0 rfl ?_
  refine g_if_eq O dX3_cousins_50 rfl (fun c1 => ?_) (fun c1 => ?_)
  · replace h := (if_pos c1).symm.trans h
    refine g_sub [1, 2, 3, 4] (lv' := [(0, vA r0), (1, vI x1), (2, vI x2), (3, vI x3)]) rfl ?_
    exact t_X3_cousins_72 O R0 N hn r0 x1 x2 x3 σ o h K
  · replace h := (if_neg c1).symm.trans h
    refine g_aload_n O dX3_cousins_53 rfl 1 rfl ?_
    obtain ⟨v2, e3, h⟩ := bo_some h
    refine g_getR O dX3_cousins_54 fl_X3_115 rfl e3 ?_
    refine g_iload_n O dX3_cousins_57 rfl 3 rfl ?_
    obtain ⟨v4, e5, h⟩ := bo_some h
    refine g_iaload O dX3_cousins_58 e5 ?_
    refine g_aload_n O dX3_cousins_59 rfl 1 rfl ?_
    obtain ⟨v6, e7, h⟩ := bo_some h
    refine g_getR O dX3_cousins_60 fl_X3_115 rfl e7 ?_
    refine g_iload_n O dX3_cousins_63 rfl 4 rfl ?_
    obtain ⟨v8, e9, h⟩ := bo_some h
    refine g_iaload O dX3_cousins_64 e9 ?_
    refine g_iand O dX3_cousins_65 ?_
    refine g_if_eq O dX3_cousins_66 rfl (fun c10 => ?_) (fun c10 => ?_)
    · replace h := (if_pos c10).symm.trans h
      refine g_sub [1, 2, 3, 4] (lv' := [(0, vA r0), (1, vI x1), (2, vI x2), (3, vI x3)]) rfl ?_
      exact t_X3_cousins_72 O R0 N hn r0 x1 x2 x3 σ o h K
    · replace h := (if_neg c10).symm.trans h
      refine g_iinc (v := (x1 + (1 : Int32))) (lv' := [(1, vI (x1 + (1 : Int32))), (4, vI k0), (0, vA r0), (2, vI x2), (3, vI x3)]) O dX3_cousins_69 5 hn (by decide) 2 rfl rfl rfl ?_
      refine g_sub [2, 0, 3, 4] (lv' := [(0, vA r0), (1, vI (x1 + (1 : Int32))), (2, vI x2), (3, vI x3)]) rfl ?_
      exact t_X3_cousins_72 O R0 N hn r0 (x1 + (1 : Int32)) x2 x3 σ o h K
def f_X3_cousins_L20 (r0 : Option Nat) (x2 : Int32) (x1 : Int32) (x3 : Int32) (σ : Dt) : Option ((Int32 × Int32) ⊕ Int32) := if x2 ≤ x3 then some (.inr x1) else bo (xgr SX 9 5 r0 σ) fun v2 => bo (xai SX v2 x2 σ) fun v4 => bo (xgr SX 9 5 r0 σ) fun v6 => bo (xai SX v6 x3 σ) fun v8 => if (v4 &&& v8) = 0 then f_X3_cousins_46 r0 x1 x2 x3 (1 : Int32) σ else f_X3_cousins_46 r0 x1 x2 x3 (0 : Int32) σ
theorem t_X3_cousins_L20 {M : Mx} {l0 : Launch} (O : Ok M cX3_cousins yX3_cousins) (R0 : Rm M l0 2 80 0 0) (N : Ma M = false) (hn : Mn M = 5) (r0 : Option Nat) (x2 : Int32) (x1 : Int32) (x3 : Int32) (σ : Dt) (o : ((Int32 × Int32) ⊕ Int32)) (h : f_X3_cousins_L20 r0 x2 x1 x3 σ = some o) (K : kon (P_X3_cousins_20 M r0 x2 σ) (E_X3_cousins_20 M r0 x2 σ) o) : G M 0 0 20 [(0, vA r0), (1, vI x1), (2, vI x2), (3, vI x3)] [] SX σ := by
  unfold f_X3_cousins_L20 at h
  refine g_iload_n O dX3_cousins_20 rfl 3 rfl ?_
  refine g_iload_n O dX3_cousins_21 rfl 2 rfl ?_
  refine g_icmp_ge O dX3_cousins_22 rfl (fun c1 => ?_) (fun c1 => ?_)
  · replace h := (if_pos c1).symm.trans h
    refine g_sub [0, 1, 2] (lv' := [(0, vA r0), (1, vI x1), (2, vI x2)]) rfl ?_
    cases h
    exact K
  · replace h := (if_neg c1).symm.trans h
    refine g_aload_n O dX3_cousins_25 rfl 0 rfl ?_
    obtain ⟨v2, e3, h⟩ := bo_some h
    refine g_getR O dX3_cousins_26 fl_X3_36 rfl e3 ?_
    refine g_iload_n O dX3_cousins_29 rfl 2 rfl ?_
    obtain ⟨v4, e5, h⟩ := bo_some h
    refine g_iaload O dX3_cousins_30 e5 ?_
    refine g_aload_n O dX3_cousins_31 rfl 0 rfl ?_
    obtain ⟨v6, e7, h⟩ := bo_some h
    refine g_getR O dX3_cousins_32 fl_X3_36 rfl e7 ?_
    refine g_iload_n O dX3_cousins_35 rfl 3 rfl ?_
    obtain ⟨v8, e9, h⟩ := bo_some h
    refine g_iaload O dX3_cousins_36 e9 ?_
    refine g_iand O dX3_cousins_37 ?_
    refine g_if_ne O dX3_cousins_38 rfl (fun c10 => ?_) (fun c10 => ?_)
    · replace h := (if_pos c10).symm.trans h
      refine g_iconst (v := (1 : Int32)) O dX3_cousins_41 rfl ?_
      refine g_goto O dX3_cousins_42 rfl ?_
      exact t_X3_cousins_46 O R0 N hn r0 x1 x2 x3 (1 : Int32) σ o h K
    · replace h := (if_neg c10).symm.trans h
      refine g_iconst (v := (0 : Int32)) O dX3_cousins_45 rfl ?_
      exact t_X3_cousins_46 O R0 N hn r0 x1 x2 x3 (0 : Int32) σ o h K
def P_X3_cousins_4 (M : Mx) (r0 : Option Nat) (σ : Dt) (s : (Int32 × Int32)) : Prop := G M 0 0 4 [(0, vA r0), (1, vI s.1), (2, vI s.2)] [] SX σ
def E_X3_cousins_4 (M : Mx) (r0 : Option Nat) (σ : Dt) : Int32 → Prop := (fun w => G M 0 0 84 [(1, vI w)] [] SX σ)
def f_X3_cousins_L4 (r0 : Option Nat) (x1 : Int32) (x2 : Int32) (σ : Dt) : Option ((Int32 × Int32) ⊕ Int32) := bo (xgi SX 9 0 r0 σ) fun v1 => if v1 ≤ x2 then some (.inr x1) else if (10 : Int32) ≤ x2 then some (.inr x1) else bo (iter FU (fun s => f_X3_cousins_L20 r0 x2 s.1 s.2 σ) (x1, (0 : Int32))) fun w5 => some (.inl (w5, (x2 + (1 : Int32))))
theorem t_X3_cousins_L4 {M : Mx} {l0 : Launch} (O : Ok M cX3_cousins yX3_cousins) (R0 : Rm M l0 2 80 0 0) (N : Ma M = false) (hn : Mn M = 5) (r0 : Option Nat) (x1 : Int32) (x2 : Int32) (σ : Dt) (o : ((Int32 × Int32) ⊕ Int32)) (h : f_X3_cousins_L4 r0 x1 x2 σ = some o) (K : kon (P_X3_cousins_4 M r0 σ) (E_X3_cousins_4 M r0 σ) o) : G M 0 0 4 [(0, vA r0), (1, vI x1), (2, vI x2)] [] SX σ := by
  unfold f_X3_cousins_L4 at h
  refine g_iload_n O dX3_cousins_4 rfl 2 rfl ?_
  refine g_aload_n O dX3_cousins_5 rfl 0 rfl ?_
  obtain ⟨v1, e2, h⟩ := bo_some h
  refine g_getI O dX3_cousins_6 fl_X3_32 rfl e2 ?_
  refine g_icmp_ge O dX3_cousins_9 rfl (fun c3 => ?_) (fun c3 => ?_)
  · replace h := (if_pos c3).symm.trans h
    refine g_sub [1] (lv' := [(1, vI x1)]) rfl ?_
    cases h
    exact K
  · replace h := (if_neg c3).symm.trans h
    refine g_iload_n O dX3_cousins_12 rfl 2 rfl ?_
    refine g_bipush (v := (10 : Int32)) O dX3_cousins_13 rfl ?_
    refine g_icmp_ge O dX3_cousins_15 rfl (fun c4 => ?_) (fun c4 => ?_)
    · replace h := (if_pos c4).symm.trans h
      refine g_sub [1] (lv' := [(1, vI x1)]) rfl ?_
      cases h
      exact K
    · replace h := (if_neg c4).symm.trans h
      refine g_iconst (v := (0 : Int32)) O dX3_cousins_18 rfl ?_
      refine g_istore_n (lv' := [(3, vI (0 : Int32)), (0, vA r0), (1, vI x1), (2, vI x2)]) O dX3_cousins_19 rfl 5 hn (by decide) rfl ?_
      refine g_sub [1, 2, 3, 0] (lv' := [(0, vA r0), (1, vI x1), (2, vI x2), (3, vI (0 : Int32))]) rfl ?_
      obtain ⟨w5, e6, h⟩ := bo_some h
      refine iter_G (P := P_X3_cousins_20 M r0 x2 σ) (E := E_X3_cousins_20 M r0 x2 σ) (fun s o hb hk => t_X3_cousins_L20 O R0 N hn r0 x2 s.1 s.2 σ o hb hk) FU (x1, (0 : Int32)) w5 e6 ?_
      show G M 0 0 78 [(0, vA r0), (1, vI w5), (2, vI x2)] [] SX σ
      refine g_iinc (v := (x2 + (1 : Int32))) (lv' := [(2, vI (x2 + (1 : Int32))), (0, vA r0), (1, vI w5)]) O dX3_cousins_78 5 hn (by decide) 2 rfl rfl rfl ?_
      refine g_goto O dX3_cousins_81 rfl ?_
      refine g_sub [1, 2, 0] (lv' := [(0, vA r0), (1, vI w5), (2, vI (x2 + (1 : Int32)))]) rfl ?_
      cases h
      exact K
def f_X3_cousins (r0 : Option Nat) (σ : Dt) : Option Int32 := bo (iter FU (fun s => f_X3_cousins_L4 r0 s.1 s.2 σ) ((0 : Int32), (0 : Int32))) fun w1 => some w1
theorem t_X3_cousins {M : Mx} {l0 : Launch} (O : Ok M cX3_cousins yX3_cousins) (R0 : Rm M l0 2 80 0 0) (N : Ma M = false) (hn : Mn M = 5) (r0 : Option Nat) (σ : Dt) (o : Int32) (h : f_X3_cousins r0 σ = some o) (K : Fin' M (some .int) 0 0 SX σ (some (vI o))) : G M 0 0 0 [(0, vA r0)] [] SX σ := by
  unfold f_X3_cousins at h
  refine g_iconst (v := (0 : Int32)) O dX3_cousins_0 rfl ?_
  refine g_istore_n (lv' := [(1, vI (0 : Int32)), (0, vA r0)]) O dX3_cousins_1 rfl 5 hn (by decide) rfl ?_
  refine g_iconst (v := (0 : Int32)) O dX3_cousins_2 rfl ?_
  refine g_istore_n (lv' := [(2, vI (0 : Int32)), (1, vI (0 : Int32)), (0, vA r0)]) O dX3_cousins_3 rfl 5 hn (by decide) rfl ?_
  refine g_sub [2, 1, 0] (lv' := [(0, vA r0), (1, vI (0 : Int32)), (2, vI (0 : Int32))]) rfl ?_
  obtain ⟨w1, e2, h⟩ := bo_some h
  refine iter_G (P := P_X3_cousins_4 M r0 σ) (E := E_X3_cousins_4 M r0 σ) (fun s o hb hk => t_X3_cousins_L4 O R0 N hn r0 s.1 s.2 σ o hb hk) FU ((0 : Int32), (0 : Int32)) w1 e2 ?_
  show G M 0 0 84 [(1, vI w1)] [] SX σ
  refine g_iload_n O dX3_cousins_84 rfl 0 rfl ?_
  cases h
  exact g_ireturn O K dX3_cousins_85
theorem c_X3_cousins (l0 : Launch) (r0 : Option Nat) (σ : Dt) (r : Int32) (h : f_X3_cousins r0 σ = some r) : Ctr l0 yX3_cousins cX3_cousins 5 (some .int) false 2 80 0 0 [vA r0] SX σ SX σ (some (vI r)) := ctr_of (by decide) (Nat.le_of_ble_eq_true rfl) (fun M O F R0 N hn => t_X3_cousins O R0 N hn r0 σ r h F)
def P_X3_childrenBinding_4 (M : Mx) (r0 : Option Nat) (x1 : Int32) (σ : Dt) (s : (Int32 × Int32)) : Prop := G M 0 0 4 [(0, vA r0), (1, vI x1), (2, vI s.1), (3, vI s.2)] [] SX σ
def E_X3_childrenBinding_4 (M : Mx) (r0 : Option Nat) (x1 : Int32) (σ : Dt) : Int32 → Prop := (fun w => G M 0 0 44 [(2, vI w)] [] SX σ)
def f_X3_childrenBinding_38 (r0 : Option Nat) (x1 : Int32) (x2 : Int32) (x3 : Int32) (σ : Dt) : Option ((Int32 × Int32) ⊕ Int32) := some (.inl (x2, (x3 + (1 : Int32))))
theorem t_X3_childrenBinding_38 {M : Mx} {l0 : Launch} (O : Ok M cX3_childrenBinding yX3_childrenBinding) (R0 : Rm M l0 4 123 0 0) (N : Ma M = false) (hn : Mn M = 4)  (r0 : Option Nat) (x1 : Int32) (x2 : Int32) (x3 : Int32) (σ : Dt) (o : ((Int32 × Int32) ⊕ Int32)) (h : f_X3_childrenBinding_38 r0 x1 x2 x3 σ = some o) (K : kon (P_X3_childrenBinding_4 M r0 x1 σ) (E_X3_childrenBinding_4 M r0 x1 σ) o) : G M 0 0 38 [(0, vA r0), (1, vI x1), (2, vI x2), (3, vI x3)] [] SX σ := by
  unfold f_X3_childrenBinding_38 at h
  refine g_iinc (v := (x3 + (1 : Int32))) (lv' := [(3, vI (x3 + (1 : Int32))), (0, vA r0), (1, vI x1), (2, vI x2)]) O dX3_childrenBinding_38 4 hn (by decide) 3 rfl rfl rfl ?_
  refine g_goto O dX3_childrenBinding_41 rfl ?_
  refine g_sub [1, 2, 3, 0] (lv' := [(0, vA r0), (1, vI x1), (2, vI x2), (3, vI (x3 + (1 : Int32)))]) rfl ?_
  cases h
  exact K
def f_X3_childrenBinding_L4 (r0 : Option Nat) (x1 : Int32) (x2 : Int32) (x3 : Int32) (σ : Dt) : Option ((Int32 × Int32) ⊕ Int32) := bo (xgi SX 9 0 r0 σ) fun v1 => if v1 ≤ x3 then some (.inr x2) else if (10 : Int32) ≤ x3 then some (.inr x2) else bo (xrc SX 9 r0) fun a5 => bo (f_X9_isChild a5 x3 σ) fun v7 => if v7 = 0 then f_X3_childrenBinding_38 r0 x1 x2 x3 σ else bo (xrc SX 9 r0) fun a10 => bo (f_X9_isGrandparent a10 x1 x3 σ) fun v12 => if v12 = 0 then f_X3_childrenBinding_38 r0 x1 x2 x3 σ else f_X3_childrenBinding_38 r0 x1 (x2 + (1 : Int32)) x3 σ
theorem t_X3_childrenBinding_L4 {M : Mx} {l0 : Launch} (O : Ok M cX3_childrenBinding yX3_childrenBinding) (R0 : Rm M l0 4 123 0 0) (N : Ma M = false) (hn : Mn M = 4) (r0 : Option Nat) (x1 : Int32) (x2 : Int32) (x3 : Int32) (σ : Dt) (o : ((Int32 × Int32) ⊕ Int32)) (h : f_X3_childrenBinding_L4 r0 x1 x2 x3 σ = some o) (K : kon (P_X3_childrenBinding_4 M r0 x1 σ) (E_X3_childrenBinding_4 M r0 x1 σ) o) : G M 0 0 4 [(0, vA r0), (1, vI x1), (2, vI x2), (3, vI x3)] [] SX σ := by
  unfold f_X3_childrenBinding_L4 at h
  refine g_iload_n O dX3_childrenBinding_4 rfl 3 rfl ?_
  refine g_aload_n O dX3_childrenBinding_5 rfl 0 rfl ?_
  obtain ⟨v1, e2, h⟩ := bo_some h
  refine g_getI O dX3_childrenBinding_6 fl_X3_32 rfl e2 ?_
  refine g_icmp_ge O dX3_childrenBinding_9 rfl (fun c3 => ?_) (fun c3 => ?_)
  · replace h := (if_pos c3).symm.trans h
    refine g_sub [2] (lv' := [(2, vI x2)]) rfl ?_
    cases h
    exact K
  · replace h := (if_neg c3).symm.trans h
    refine g_iload_n O dX3_childrenBinding_12 rfl 3 rfl ?_
    refine g_bipush (v := (10 : Int32)) O dX3_childrenBinding_13 rfl ?_
    refine g_icmp_ge O dX3_childrenBinding_15 rfl (fun c4 => ?_) (fun c4 => ?_)
    · replace h := (if_pos c4).symm.trans h
      refine g_sub [2] (lv' := [(2, vI x2)]) rfl ?_
      cases h
      exact K
    · replace h := (if_neg c4).symm.trans h
      refine g_aload_n O dX3_childrenBinding_18 rfl 0 rfl ?_
      refine g_iload_n O dX3_childrenBinding_19 rfl 3 rfl ?_
      obtain ⟨a5, e6, h⟩ := bo_some h
      obtain ⟨v7, e8, h⟩ := bo_some h
      refine g_cV1 O R0 N dX3_childrenBinding_20 vl_X3_112 vv_X9_isChild e6 [vI x3] rfl rfl rfl ⟨Nat.le_of_ble_eq_true rfl, Nat.le_of_ble_eq_true rfl⟩ (c_X9_isChild l0 a5 x3 σ v7 e8) ?_
      refine g_if_eq O dX3_childrenBinding_23 rfl (fun c9 => ?_) (fun c9 => ?_)
      · replace h := (if_pos c9).symm.trans h
        exact t_X3_childrenBinding_38 O R0 N hn r0 x1 x2 x3 σ o h K
      · replace h := (if_neg c9).symm.trans h
        refine g_aload_n O dX3_childrenBinding_26 rfl 0 rfl ?_
        refine g_iload_n O dX3_childrenBinding_27 rfl 1 rfl ?_
        refine g_iload_n O dX3_childrenBinding_28 rfl 3 rfl ?_
        obtain ⟨a10, e11, h⟩ := bo_some h
        obtain ⟨v12, e13, h⟩ := bo_some h
        refine g_cV1 O R0 N dX3_childrenBinding_29 vl_X3_118 vv_X9_isGrandparent e11 [vI x1, vI x3] rfl rfl rfl ⟨Nat.le_of_ble_eq_true rfl, Nat.le_of_ble_eq_true rfl⟩ (c_X9_isGrandparent l0 a10 x1 x3 σ v12 e13) ?_
        refine g_if_eq O dX3_childrenBinding_32 rfl (fun c14 => ?_) (fun c14 => ?_)
        · replace h := (if_pos c14).symm.trans h
          exact t_X3_childrenBinding_38 O R0 N hn r0 x1 x2 x3 σ o h K
        · replace h := (if_neg c14).symm.trans h
          refine g_iinc (v := (x2 + (1 : Int32))) (lv' := [(2, vI (x2 + (1 : Int32))), (0, vA r0), (1, vI x1), (3, vI x3)]) O dX3_childrenBinding_35 4 hn (by decide) 2 rfl rfl rfl ?_
          refine g_sub [1, 2, 0, 3] (lv' := [(0, vA r0), (1, vI x1), (2, vI (x2 + (1 : Int32))), (3, vI x3)]) rfl ?_
          exact t_X3_childrenBinding_38 O R0 N hn r0 x1 (x2 + (1 : Int32)) x3 σ o h K
def f_X3_childrenBinding (r0 : Option Nat) (x1 : Int32) (σ : Dt) : Option Int32 := bo (iter FU (fun s => f_X3_childrenBinding_L4 r0 x1 s.1 s.2 σ) ((0 : Int32), (0 : Int32))) fun w1 => some w1
theorem t_X3_childrenBinding {M : Mx} {l0 : Launch} (O : Ok M cX3_childrenBinding yX3_childrenBinding) (R0 : Rm M l0 4 123 0 0) (N : Ma M = false) (hn : Mn M = 4) (r0 : Option Nat) (x1 : Int32) (σ : Dt) (o : Int32) (h : f_X3_childrenBinding r0 x1 σ = some o) (K : Fin' M (some .int) 0 0 SX σ (some (vI o))) : G M 0 0 0 [(0, vA r0), (1, vI x1)] [] SX σ := by
  unfold f_X3_childrenBinding at h
  refine g_iconst (v := (0 : Int32)) O dX3_childrenBinding_0 rfl ?_
  refine g_istore_n (lv' := [(2, vI (0 : Int32)), (0, vA r0), (1, vI x1)]) O dX3_childrenBinding_1 rfl 4 hn (by decide) rfl ?_
  refine g_iconst (v := (0 : Int32)) O dX3_childrenBinding_2 rfl ?_
  refine g_istore_n (lv' := [(3, vI (0 : Int32)), (2, vI (0 : Int32)), (0, vA r0), (1, vI x1)]) O dX3_childrenBinding_3 rfl 4 hn (by decide) rfl ?_
  refine g_sub [2, 3, 1, 0] (lv' := [(0, vA r0), (1, vI x1), (2, vI (0 : Int32)), (3, vI (0 : Int32))]) rfl ?_
  obtain ⟨w1, e2, h⟩ := bo_some h
  refine iter_G (P := P_X3_childrenBinding_4 M r0 x1 σ) (E := E_X3_childrenBinding_4 M r0 x1 σ) (fun s o hb hk => t_X3_childrenBinding_L4 O R0 N hn r0 x1 s.1 s.2 σ o hb hk) FU ((0 : Int32), (0 : Int32)) w1 e2 ?_
  show G M 0 0 44 [(2, vI w1)] [] SX σ
  refine g_iload_n O dX3_childrenBinding_44 rfl 0 rfl ?_
  cases h
  exact g_ireturn O K dX3_childrenBinding_45
theorem c_X3_childrenBinding (l0 : Launch) (r0 : Option Nat) (x1 : Int32) (σ : Dt) (r : Int32) (h : f_X3_childrenBinding r0 x1 σ = some r) : Ctr l0 yX3_childrenBinding cX3_childrenBinding 4 (some .int) false 4 123 0 0 [vA r0, vI x1] SX σ SX σ (some (vI r)) := ctr_of (by decide) (Nat.le_of_ble_eq_true rfl) (fun M O F R0 N hn => t_X3_childrenBinding O R0 N hn r0 x1 σ r h F)
def P_X3_mostBurdened_6 (M : Mx) (r0 : Option Nat) (σ : Dt) (s : (Int32 × Int32 × Int32)) : Prop := G M 0 0 6 [(0, vA r0), (1, vI s.1), (2, vI s.2.1), (3, vI s.2.2)] [] SX σ
def E_X3_mostBurdened_6 (M : Mx) (r0 : Option Nat) (σ : Dt) : Int32 → Prop := (fun w => G M 0 0 44 [(1, vI w)] [] SX σ)
def f_X3_mostBurdened_38 (r0 : Option Nat) (x1 : Int32) (x2 : Int32) (x3 : Int32) (σ : Dt) : Option ((Int32 × Int32 × Int32) ⊕ Int32) := some (.inl (x1, x2, (x3 + (1 : Int32))))
theorem t_X3_mostBurdened_38 {M : Mx} {l0 : Launch} (O : Ok M cX3_mostBurdened yX3_mostBurdened) (R0 : Rm M l0 5 146 0 0) (N : Ma M = false) (hn : Mn M = 5)  (r0 : Option Nat) (x1 : Int32) (x2 : Int32) (x3 : Int32) (σ : Dt) (o : ((Int32 × Int32 × Int32) ⊕ Int32)) (h : f_X3_mostBurdened_38 r0 x1 x2 x3 σ = some o) (K : kon (P_X3_mostBurdened_6 M r0 σ) (E_X3_mostBurdened_6 M r0 σ) o) : G M 0 0 38 [(0, vA r0), (1, vI x1), (2, vI x2), (3, vI x3)] [] SX σ := by
  unfold f_X3_mostBurdened_38 at h
  refine g_iinc (v := (x3 + (1 : Int32))) (lv' := [(3, vI (x3 + (1 : Int32))), (0, vA r0), (1, vI x1), (2, vI x2)]) O dX3_mostBurdened_38 5 hn (by decide) 3 rfl rfl rfl ?_
  refine g_goto O dX3_mostBurdened_41 rfl ?_
  refine g_sub [1, 2, 3, 0] (lv' := [(0, vA r0), (1, vI x1), (2, vI x2), (3, vI (x3 + (1 : Int32)))]) rfl ?_
  cases h
  exact K
def f_X3_mostBurdened_L6 (r0 : Option Nat) (x1 : Int32) (x2 : Int32) (x3 : Int32) (σ : Dt) : Option ((Int32 × Int32 × Int32) ⊕ Int32) := bo (xgi SX 9 0 r0 σ) fun v1 => if v1 ≤ x3 then some (.inr x1) else if (10 : Int32) ≤ x3 then some (.inr x1) else bo (f_X3_childrenBinding r0 x3 σ) fun v5 => if v5 ≤ x2 then f_X3_mostBurdened_38 r0 x1 x2 x3 σ else f_X3_mostBurdened_38 r0 x3 v5 x3 σ
theorem t_X3_mostBurdened_L6 {M : Mx} {l0 : Launch} (O : Ok M cX3_mostBurdened yX3_mostBurdened) (R0 : Rm M l0 5 146 0 0) (N : Ma M = false) (hn : Mn M = 5) (r0 : Option Nat) (x1 : Int32) (x2 : Int32) (x3 : Int32) (σ : Dt) (o : ((Int32 × Int32 × Int32) ⊕ Int32)) (h : f_X3_mostBurdened_L6 r0 x1 x2 x3 σ = some o) (K : kon (P_X3_mostBurdened_6 M r0 σ) (E_X3_mostBurdened_6 M r0 σ) o) : G M 0 0 6 [(0, vA r0), (1, vI x1), (2, vI x2), (3, vI x3)] [] SX σ := by
  unfold f_X3_mostBurdened_L6 at h
  refine g_iload_n O dX3_mostBurdened_6 rfl 3 rfl ?_
  refine g_aload_n O dX3_mostBurdened_7 rfl 0 rfl ?_
  obtain ⟨v1, e2, h⟩ := bo_some h
  refine g_getI O dX3_mostBurdened_8 fl_X3_32 rfl e2 ?_
  refine g_icmp_ge O dX3_mostBurdened_11 rfl (fun c3 => ?_) (fun c3 => ?_)
  · replace h := (if_pos c3).symm.trans h
    refine g_sub [1] (lv' := [(1, vI x1)]) rfl ?_
    cases h
    exact K
  · replace h := (if_neg c3).symm.trans h
    refine g_iload_n O dX3_mostBurdened_14 rfl 3 rfl ?_
    refine g_bipush (v := (10 : Int32)) O dX3_mostBurdened_15 rfl ?_
    refine g_icmp_ge O dX3_mostBurdened_17 rfl (fun c4 => ?_) (fun c4 => ?_)
    · replace h := (if_pos c4).symm.trans h
      refine g_sub [1] (lv' := [(1, vI x1)]) rfl ?_
      cases h
      exact K
    · replace h := (if_neg c4).symm.trans h
      refine g_aload_n O dX3_mostBurdened_20 rfl 0 rfl ?_
      refine g_iload_n O dX3_mostBurdened_21 rfl 3 rfl ?_
      obtain ⟨v5, e6, h⟩ := bo_some h
      refine g_cS1 O R0 N dX3_mostBurdened_22 vl_X3_90 w1342 [vA r0, vI x3] rfl rfl rfl ⟨Nat.le_of_ble_eq_true rfl, Nat.le_of_ble_eq_true rfl⟩ (c_X3_childrenBinding l0 r0 x3 σ v5 e6) ?_
      refine g_istore (lv' := [(4, vI v5), (0, vA r0), (1, vI x1), (2, vI x2), (3, vI x3)]) O dX3_mostBurdened_25 5 hn (by decide) rfl ?_
      refine g_iload O dX3_mostBurdened_27 0 rfl ?_
      refine g_iload_n O dX3_mostBurdened_29 rfl 3 rfl ?_
      refine g_icmp_le O dX3_mostBurdened_30 rfl (fun c7 => ?_) (fun c7 => ?_)
      · replace h := (if_pos c7).symm.trans h
        refine g_sub [1, 2, 3, 4] (lv' := [(0, vA r0), (1, vI x1), (2, vI x2), (3, vI x3)]) rfl ?_
        exact t_X3_mostBurdened_38 O R0 N hn r0 x1 x2 x3 σ o h K
      · replace h := (if_neg c7).symm.trans h
        refine g_iload O dX3_mostBurdened_33 0 rfl ?_
        refine g_istore_n (lv' := [(2, vI v5), (4, vI v5), (0, vA r0), (1, vI x1), (3, vI x3)]) O dX3_mostBurdened_35 rfl 5 hn (by decide) rfl ?_
        refine g_iload_n O dX3_mostBurdened_36 rfl 4 rfl ?_
        refine g_istore_n (lv' := [(1, vI x3), (2, vI v5), (4, vI v5), (0, vA r0), (3, vI x3)]) O dX3_mostBurdened_37 rfl 5 hn (by decide) rfl ?_
        refine g_sub [3, 0, 1, 4] (lv' := [(0, vA r0), (1, vI x3), (2, vI v5), (3, vI x3)]) rfl ?_
        exact t_X3_mostBurdened_38 O R0 N hn r0 x3 v5 x3 σ o h K
def f_X3_mostBurdened (r0 : Option Nat) (σ : Dt) : Option Int32 := bo (iter FU (fun s => f_X3_mostBurdened_L6 r0 s.1 s.2.1 s.2.2 σ) ((-1 : Int32), (0 : Int32), (0 : Int32))) fun w1 => some w1
theorem t_X3_mostBurdened {M : Mx} {l0 : Launch} (O : Ok M cX3_mostBurdened yX3_mostBurdened) (R0 : Rm M l0 5 146 0 0) (N : Ma M = false) (hn : Mn M = 5) (r0 : Option Nat) (σ : Dt) (o : Int32) (h : f_X3_mostBurdened r0 σ = some o) (K : Fin' M (some .int) 0 0 SX σ (some (vI o))) : G M 0 0 0 [(0, vA r0)] [] SX σ := by
  unfold f_X3_mostBurdened at h
  refine g_iconst (v := (-1 : Int32)) O dX3_mostBurdened_0 rfl ?_
  refine g_istore_n (lv' := [(1, vI (-1 : Int32)), (0, vA r0)]) O dX3_mostBurdened_1 rfl 5 hn (by decide) rfl ?_
  refine g_iconst (v := (0 : Int32)) O dX3_mostBurdened_2 rfl ?_
  refine g_istore_n (lv' := [(2, vI (0 : Int32)), (1, vI (-1 : Int32)), (0, vA r0)]) O dX3_mostBurdened_3 rfl 5 hn (by decide) rfl ?_
  refine g_iconst (v := (0 : Int32)) O dX3_mostBurdened_4 rfl ?_
  refine g_istore_n (lv' := [(3, vI (0 : Int32)), (2, vI (0 : Int32)), (1, vI (-1 : Int32)), (0, vA r0)]) O dX3_mostBurdened_5 rfl 5 hn (by decide) rfl ?_
  refine g_sub [3, 2, 1, 0] (lv' := [(0, vA r0), (1, vI (-1 : Int32)), (2, vI (0 : Int32)), (3, vI (0 : Int32))]) rfl ?_
  obtain ⟨w1, e2, h⟩ := bo_some h
  refine iter_G (P := P_X3_mostBurdened_6 M r0 σ) (E := E_X3_mostBurdened_6 M r0 σ) (fun s o hb hk => t_X3_mostBurdened_L6 O R0 N hn r0 s.1 s.2.1 s.2.2 σ o hb hk) FU ((-1 : Int32), (0 : Int32), (0 : Int32)) w1 e2 ?_
  show G M 0 0 44 [(1, vI w1)] [] SX σ
  refine g_iload_n O dX3_mostBurdened_44 rfl 0 rfl ?_
  cases h
  exact g_ireturn O K dX3_mostBurdened_45
theorem c_X3_mostBurdened (l0 : Launch) (r0 : Option Nat) (σ : Dt) (r : Int32) (h : f_X3_mostBurdened r0 σ = some r) : Ctr l0 yX3_mostBurdened cX3_mostBurdened 5 (some .int) false 5 146 0 0 [vA r0] SX σ SX σ (some (vI r)) := ctr_of (by decide) (Nat.le_of_ble_eq_true rfl) (fun M O F R0 N hn => t_X3_mostBurdened O R0 N hn r0 σ r h F)
def P_X3_findWatch_75 (M : Mx) (a0 : Nat) (r1 : Option Nat) (x2 : Int32) (x3 : Int32) (x4 : Int32) (s : (Int32 × Dt)) : Prop := G M 0 0 75 [(0, vA (some a0)), (1, vA r1), (2, vI x2), (3, vI x3), (4, vI x4), (5, vI s.1)] [] SX s.2
def E_X3_findWatch_75 (M : Mx) (a0 : Nat) (r1 : Option Nat) (x2 : Int32) (x3 : Int32) (x4 : Int32) : Dt → Prop := (fun w => G M 0 0 117 [(0, vA (some a0)), (1, vA r1), (2, vI x2), (3, vI x3), (4, vI x4)] [] SX w)
def f_X3_findWatch_L75 (a0 : Nat) (r1 : Option Nat) (x2 : Int32) (x3 : Int32) (x4 : Int32) (x5 : Int32) (σ : Dt) : Option ((Int32 × Dt) ⊕ Dt) := if ((1 : Int32) <<< (x4 &&& 31)) ≤ x5 then some (.inr σ) else bo (xgr SX 3 4 (some a0) σ) fun v2 => bo (xgr SX 3 4 (some a0) σ) fun v4 => bo (xai SX v4 x5 σ) fun v6 => bo (xgr SX 9 6 r1 σ) fun v8 => bo (xai SX v8 x4 σ) fun v10 => bo (xsi SX v2 (x5 ||| ((1 : Int32) <<< (x4 &&& 31))) (v6 ||| v10) σ) fun σ12 => some (.inl ((x5 + (1 : Int32)), σ12))
theorem t_X3_findWatch_L75 {M : Mx} {l0 : Launch} (O : Ok M cX3_findWatch yX3_findWatch) (R0 : Rm M l0 4 122 0 0) (N : Ma M = false) (hn : Mn M = 7) (a0 : Nat) (r1 : Option Nat) (x2 : Int32) (x3 : Int32) (x4 : Int32) (x5 : Int32) (σ : Dt) (o : ((Int32 × Dt) ⊕ Dt)) (h : f_X3_findWatch_L75 a0 r1 x2 x3 x4 x5 σ = some o) (K : kon (P_X3_findWatch_75 M a0 r1 x2 x3 x4) (E_X3_findWatch_75 M a0 r1 x2 x3 x4) o) : G M 0 0 75 [(0, vA (some a0)), (1, vA r1), (2, vI x2), (3, vI x3), (4, vI x4), (5, vI x5)] [] SX σ := by
  unfold f_X3_findWatch_L75 at h
  refine g_iload O dX3_findWatch_75 5 rfl ?_
  refine g_iconst (v := (1 : Int32)) O dX3_findWatch_77 rfl ?_
  refine g_iload O dX3_findWatch_78 4 rfl ?_
  refine g_ishl O dX3_findWatch_80 ?_
  refine g_icmp_ge O dX3_findWatch_81 rfl (fun c1 => ?_) (fun c1 => ?_)
  · replace h := (if_pos c1).symm.trans h
    refine g_sub [0, 1, 2, 3, 4] (lv' := [(0, vA (some a0)), (1, vA r1), (2, vI x2), (3, vI x3), (4, vI x4)]) rfl ?_
    cases h
    exact K
  · replace h := (if_neg c1).symm.trans h
    refine g_aload_n O dX3_findWatch_84 rfl 0 rfl ?_
    obtain ⟨v2, e3, h⟩ := bo_some h
    refine g_getR O dX3_findWatch_85 fl_X3_23 rfl e3 ?_
    refine g_iload O dX3_findWatch_88 5 rfl ?_
    refine g_iconst (v := (1 : Int32)) O dX3_findWatch_90 rfl ?_
    refine g_iload O dX3_findWatch_91 4 rfl ?_
    refine g_ishl O dX3_findWatch_93 ?_
    refine g_ior O dX3_findWatch_94 ?_
    refine g_aload_n O dX3_findWatch_95 rfl 0 rfl ?_
    obtain ⟨v4, e5, h⟩ := bo_some h
    refine g_getR O dX3_findWatch_96 fl_X3_23 rfl e5 ?_
    refine g_iload O dX3_findWatch_99 5 rfl ?_
    obtain ⟨v6, e7, h⟩ := bo_some h
    refine g_iaload O dX3_findWatch_101 e7 ?_
    refine g_aload_n O dX3_findWatch_102 rfl 1 rfl ?_
    obtain ⟨v8, e9, h⟩ := bo_some h
    refine g_getR O dX3_findWatch_103 fl_X3_115 rfl e9 ?_
    refine g_iload O dX3_findWatch_106 4 rfl ?_
    obtain ⟨v10, e11, h⟩ := bo_some h
    refine g_iaload O dX3_findWatch_108 e11 ?_
    refine g_ior O dX3_findWatch_109 ?_
    obtain ⟨σ12, e13, h⟩ := bo_some h
    refine g_iastore O dX3_findWatch_110 e13 ?_
    refine g_iinc (v := (x5 + (1 : Int32))) (lv' := [(5, vI (x5 + (1 : Int32))), (0, vA (some a0)), (1, vA r1), (2, vI x2), (3, vI x3), (4, vI x4)]) O dX3_findWatch_111 7 hn (by decide) 5 rfl rfl rfl ?_
    refine g_goto O dX3_findWatch_114 rfl ?_
    refine g_sub [1, 2, 3, 4, 5, 0] (lv' := [(0, vA (some a0)), (1, vA r1), (2, vI x2), (3, vI x3), (4, vI x4), (5, vI (x5 + (1 : Int32)))]) rfl ?_
    cases h
    exact K
def P_X3_findWatch_7 (M : Mx) (a0 : Nat) (r1 : Option Nat) (σ : Dt) (s : (Int32 × Int32 × Int32)) : Prop := G M 0 0 7 [(0, vA (some a0)), (1, vA r1), (2, vI s.1), (3, vI s.2.1), (4, vI s.2.2)] [] SX σ
def E_X3_findWatch_7 (M : Mx) (a0 : Nat) (r1 : Option Nat) (σ : Dt) : (Int32 × Int32) → Prop := (fun w => G M 0 0 55 [(0, vA (some a0)), (1, vA r1), (2, vI w.1), (3, vI w.2)] [] SX σ)
def f_X3_findWatch_49 (a0 : Nat) (r1 : Option Nat) (x2 : Int32) (x3 : Int32) (x4 : Int32) (σ : Dt) : Option ((Int32 × Int32 × Int32) ⊕ (Int32 × Int32)) := some (.inl (x2, x3, (x4 + (1 : Int32))))
theorem t_X3_findWatch_49 {M : Mx} {l0 : Launch} (O : Ok M cX3_findWatch yX3_findWatch) (R0 : Rm M l0 4 122 0 0) (N : Ma M = false) (hn : Mn M = 7)  (a0 : Nat) (r1 : Option Nat) (x2 : Int32) (x3 : Int32) (x4 : Int32) (σ : Dt) (o : ((Int32 × Int32 × Int32) ⊕ (Int32 × Int32))) (h : f_X3_findWatch_49 a0 r1 x2 x3 x4 σ = some o) (K : kon (P_X3_findWatch_7 M a0 r1 σ) (E_X3_findWatch_7 M a0 r1 σ) o) : G M 0 0 49 [(0, vA (some a0)), (1, vA r1), (2, vI x2), (3, vI x3), (4, vI x4)] [] SX σ := by
  unfold f_X3_findWatch_49 at h
  refine g_iinc (v := (x4 + (1 : Int32))) (lv' := [(4, vI (x4 + (1 : Int32))), (0, vA (some a0)), (1, vA r1), (2, vI x2), (3, vI x3)]) O dX3_findWatch_49 7 hn (by decide) 4 rfl rfl rfl ?_
  refine g_goto O dX3_findWatch_52 rfl ?_
  refine g_sub [1, 2, 3, 4, 0] (lv' := [(0, vA (some a0)), (1, vA r1), (2, vI x2), (3, vI x3), (4, vI (x4 + (1 : Int32)))]) rfl ?_
  cases h
  exact K
def f_X3_findWatch_L7 (a0 : Nat) (r1 : Option Nat) (x2 : Int32) (x3 : Int32) (x4 : Int32) (σ : Dt) : Option ((Int32 × Int32 × Int32) ⊕ (Int32 × Int32)) := bo (xgi SX 9 0 r1 σ) fun v1 => if v1 ≤ x4 then some (.inr (x2, x3)) else if (10 : Int32) ≤ x4 then some (.inr (x2, x3)) else bo (xrc SX 9 r1) fun a5 => bo (f_X9_isChild a5 x4 σ) fun v7 => if v7 = 0 then f_X3_findWatch_49 a0 r1 x2 x3 x4 σ else bo (xgr SX 9 6 r1 σ) fun v10 => bo (xai SX v10 x4 σ) fun v12 => f_X3_findWatch_49 a0 r1 (x2 ||| ((1 : Int32) <<< (x4 &&& 31))) (x3 ||| v12) x4 σ
theorem t_X3_findWatch_L7 {M : Mx} {l0 : Launch} (O : Ok M cX3_findWatch yX3_findWatch) (R0 : Rm M l0 4 122 0 0) (N : Ma M = false) (hn : Mn M = 7) (a0 : Nat) (r1 : Option Nat) (x2 : Int32) (x3 : Int32) (x4 : Int32) (σ : Dt) (o : ((Int32 × Int32 × Int32) ⊕ (Int32 × Int32))) (h : f_X3_findWatch_L7 a0 r1 x2 x3 x4 σ = some o) (K : kon (P_X3_findWatch_7 M a0 r1 σ) (E_X3_findWatch_7 M a0 r1 σ) o) : G M 0 0 7 [(0, vA (some a0)), (1, vA r1), (2, vI x2), (3, vI x3), (4, vI x4)] [] SX σ := by
  unfold f_X3_findWatch_L7 at h
  refine g_iload O dX3_findWatch_7 4 rfl ?_
  refine g_aload_n O dX3_findWatch_9 rfl 1 rfl ?_
  obtain ⟨v1, e2, h⟩ := bo_some h
  refine g_getI O dX3_findWatch_10 fl_X3_32 rfl e2 ?_
  refine g_icmp_ge O dX3_findWatch_13 rfl (fun c3 => ?_) (fun c3 => ?_)
  · replace h := (if_pos c3).symm.trans h
    refine g_sub [0, 1, 2, 3] (lv' := [(0, vA (some a0)), (1, vA r1), (2, vI x2), (3, vI x3)]) rfl ?_
    cases h
    exact K
  · replace h := (if_neg c3).symm.trans h
    refine g_iload O dX3_findWatch_16 4 rfl ?_
    refine g_bipush (v := (10 : Int32)) O dX3_findWatch_18 rfl ?_
    refine g_icmp_ge O dX3_findWatch_20 rfl (fun c4 => ?_) (fun c4 => ?_)
    · replace h := (if_pos c4).symm.trans h
      refine g_sub [0, 1, 2, 3] (lv' := [(0, vA (some a0)), (1, vA r1), (2, vI x2), (3, vI x3)]) rfl ?_
      cases h
      exact K
    · replace h := (if_neg c4).symm.trans h
      refine g_aload_n O dX3_findWatch_23 rfl 1 rfl ?_
      refine g_iload O dX3_findWatch_24 4 rfl ?_
      obtain ⟨a5, e6, h⟩ := bo_some h
      obtain ⟨v7, e8, h⟩ := bo_some h
      refine g_cV1 O R0 N dX3_findWatch_26 vl_X3_112 vv_X9_isChild e6 [vI x4] rfl rfl rfl ⟨Nat.le_of_ble_eq_true rfl, Nat.le_of_ble_eq_true rfl⟩ (c_X9_isChild l0 a5 x4 σ v7 e8) ?_
      refine g_if_eq O dX3_findWatch_29 rfl (fun c9 => ?_) (fun c9 => ?_)
      · replace h := (if_pos c9).symm.trans h
        exact t_X3_findWatch_49 O R0 N hn a0 r1 x2 x3 x4 σ o h K
      · replace h := (if_neg c9).symm.trans h
        refine g_iload_n O dX3_findWatch_32 rfl 2 rfl ?_
        refine g_iconst (v := (1 : Int32)) O dX3_findWatch_33 rfl ?_
        refine g_iload O dX3_findWatch_34 4 rfl ?_
        refine g_ishl O dX3_findWatch_36 ?_
        refine g_ior O dX3_findWatch_37 ?_
        refine g_istore_n (lv' := [(2, vI (x2 ||| ((1 : Int32) <<< (x4 &&& 31)))), (0, vA (some a0)), (1, vA r1), (3, vI x3), (4, vI x4)]) O dX3_findWatch_38 rfl 7 hn (by decide) rfl ?_
        refine g_iload_n O dX3_findWatch_39 rfl 3 rfl ?_
        refine g_aload_n O dX3_findWatch_40 rfl 2 rfl ?_
        obtain ⟨v10, e11, h⟩ := bo_some h
        refine g_getR O dX3_findWatch_41 fl_X3_115 rfl e11 ?_
        refine g_iload O dX3_findWatch_44 4 rfl ?_
        obtain ⟨v12, e13, h⟩ := bo_some h
        refine g_iaload O dX3_findWatch_46 e13 ?_
        refine g_ior O dX3_findWatch_47 ?_
        refine g_istore_n (lv' := [(3, vI (x3 ||| v12)), (2, vI (x2 ||| ((1 : Int32) <<< (x4 &&& 31)))), (0, vA (some a0)), (1, vA r1), (4, vI x4)]) O dX3_findWatch_48 rfl 7 hn (by decide) rfl ?_
        refine g_sub [2, 3, 1, 0, 4] (lv' := [(0, vA (some a0)), (1, vA r1), (2, vI (x2 ||| ((1 : Int32) <<< (x4 &&& 31)))), (3, vI (x3 ||| v12)), (4, vI x4)]) rfl ?_
        exact t_X3_findWatch_49 O R0 N hn a0 r1 (x2 ||| ((1 : Int32) <<< (x4 &&& 31))) (x3 ||| v12) x4 σ o h K
def P_X3_findWatch_65 (M : Mx) (a0 : Nat) (r1 : Option Nat) (x2 : Int32) (x3 : Int32) (s : (Int32 × Dt)) : Prop := G M 0 0 65 [(0, vA (some a0)), (1, vA r1), (2, vI x2), (3, vI x3), (4, vI s.1)] [] SX s.2
def E_X3_findWatch_65 (M : Mx) (a0 : Nat) (r1 : Option Nat) (x2 : Int32) (x3 : Int32) : Dt → Prop := (fun w => G M 0 0 123 [(0, vA (some a0)), (2, vI x2), (3, vI x3)] [] SX w)
def f_X3_findWatch_L65 (a0 : Nat) (r1 : Option Nat) (x2 : Int32) (x3 : Int32) (x4 : Int32) (σ : Dt) : Option ((Int32 × Dt) ⊕ Dt) := if (10 : Int32) ≤ x4 then some (.inr σ) else bo (iter FU (fun s => f_X3_findWatch_L75 a0 r1 x2 x3 x4 s.1 s.2) ((0 : Int32), σ)) fun w2 => some (.inl ((x4 + (1 : Int32)), w2))
theorem t_X3_findWatch_L65 {M : Mx} {l0 : Launch} (O : Ok M cX3_findWatch yX3_findWatch) (R0 : Rm M l0 4 122 0 0) (N : Ma M = false) (hn : Mn M = 7) (a0 : Nat) (r1 : Option Nat) (x2 : Int32) (x3 : Int32) (x4 : Int32) (σ : Dt) (o : ((Int32 × Dt) ⊕ Dt)) (h : f_X3_findWatch_L65 a0 r1 x2 x3 x4 σ = some o) (K : kon (P_X3_findWatch_65 M a0 r1 x2 x3) (E_X3_findWatch_65 M a0 r1 x2 x3) o) : G M 0 0 65 [(0, vA (some a0)), (1, vA r1), (2, vI x2), (3, vI x3), (4, vI x4)] [] SX σ := by
  unfold f_X3_findWatch_L65 at h
  refine g_iload O dX3_findWatch_65 4 rfl ?_
  refine g_bipush (v := (10 : Int32)) O dX3_findWatch_67 rfl ?_
  refine g_icmp_ge O dX3_findWatch_69 rfl (fun c1 => ?_) (fun c1 => ?_)
  · replace h := (if_pos c1).symm.trans h
    refine g_sub [0, 2, 3] (lv' := [(0, vA (some a0)), (2, vI x2), (3, vI x3)]) rfl ?_
    cases h
    exact K
  · replace h := (if_neg c1).symm.trans h
    refine g_iconst (v := (0 : Int32)) O dX3_findWatch_72 rfl ?_
    refine g_istore (lv' := [(5, vI (0 : Int32)), (0, vA (some a0)), (1, vA r1), (2, vI x2), (3, vI x3), (4, vI x4)]) O dX3_findWatch_73 7 hn (by decide) rfl ?_
    refine g_sub [1, 2, 3, 4, 5, 0] (lv' := [(0, vA (some a0)), (1, vA r1), (2, vI x2), (3, vI x3), (4, vI x4), (5, vI (0 : Int32))]) rfl ?_
    obtain ⟨w2, e3, h⟩ := bo_some h
    refine iter_G (P := P_X3_findWatch_75 M a0 r1 x2 x3 x4) (E := E_X3_findWatch_75 M a0 r1 x2 x3 x4) (fun s o hb hk => t_X3_findWatch_L75 O R0 N hn a0 r1 x2 x3 x4 s.1 s.2 o hb hk) FU ((0 : Int32), σ) w2 e3 ?_
    show G M 0 0 117 [(0, vA (some a0)), (1, vA r1), (2, vI x2), (3, vI x3), (4, vI x4)] [] SX w2
    refine g_iinc (v := (x4 + (1 : Int32))) (lv' := [(4, vI (x4 + (1 : Int32))), (0, vA (some a0)), (1, vA r1), (2, vI x2), (3, vI x3)]) O dX3_findWatch_117 7 hn (by decide) 4 rfl rfl rfl ?_
    refine g_goto O dX3_findWatch_120 rfl ?_
    refine g_sub [1, 2, 3, 4, 0] (lv' := [(0, vA (some a0)), (1, vA r1), (2, vI x2), (3, vI x3), (4, vI (x4 + (1 : Int32)))]) rfl ?_
    cases h
    exact K
def P_X3_findWatch_132 (M : Mx) (a0 : Nat) (x2 : Int32) (x3 : Int32) (s : (Int32 × Dt)) : Prop := G M 0 0 132 [(0, vA (some a0)), (2, vI x2), (3, vI x3), (4, vI s.1)] [] SX s.2
def E_X3_findWatch_132 (M : Mx) (a0 : Nat) (x2 : Int32) (x3 : Int32) : Dt → Prop := (fun w => G M 0 0 206 [] [] SX w)
def f_X3_findWatch_200 (a0 : Nat) (x2 : Int32) (x3 : Int32) (x4 : Int32) (σ : Dt) : Option ((Int32 × Dt) ⊕ Dt) := some (.inl ((x4 + (1 : Int32)), σ))
theorem t_X3_findWatch_200 {M : Mx} {l0 : Launch} (O : Ok M cX3_findWatch yX3_findWatch) (R0 : Rm M l0 4 122 0 0) (N : Ma M = false) (hn : Mn M = 7)  (a0 : Nat) (x2 : Int32) (x3 : Int32) (x4 : Int32) (σ : Dt) (o : ((Int32 × Dt) ⊕ Dt)) (h : f_X3_findWatch_200 a0 x2 x3 x4 σ = some o) (K : kon (P_X3_findWatch_132 M a0 x2 x3) (E_X3_findWatch_132 M a0 x2 x3) o) : G M 0 0 200 [(0, vA (some a0)), (2, vI x2), (3, vI x3), (4, vI x4)] [] SX σ := by
  unfold f_X3_findWatch_200 at h
  refine g_iinc (v := (x4 + (1 : Int32))) (lv' := [(4, vI (x4 + (1 : Int32))), (0, vA (some a0)), (2, vI x2), (3, vI x3)]) O dX3_findWatch_200 7 hn (by decide) 3 rfl rfl rfl ?_
  refine g_goto O dX3_findWatch_203 rfl ?_
  refine g_sub [1, 2, 3, 0] (lv' := [(0, vA (some a0)), (2, vI x2), (3, vI x3), (4, vI (x4 + (1 : Int32)))]) rfl ?_
  cases h
  exact K
def f_X3_findWatch_172 (a0 : Nat) (x2 : Int32) (x3 : Int32) (x4 : Int32) (x5 : Int32) (k0 : Int32) (σ : Dt) : Option ((Int32 × Dt) ⊕ Dt) := if k0 = 0 then f_X3_findWatch_200 a0 x2 x3 x4 σ else bo (xgi SX 3 6 (some a0) σ) fun v2 => if v2 ≤ x5 then f_X3_findWatch_200 a0 x2 x3 x4 σ else bo (xpi SX 3 6 (some a0) x5 σ) fun σ5 => bo (xpi SX 3 5 (some a0) x4 σ5) fun σ7 => f_X3_findWatch_200 a0 x2 x3 x4 σ7
theorem t_X3_findWatch_172 {M : Mx} {l0 : Launch} (O : Ok M cX3_findWatch yX3_findWatch) (R0 : Rm M l0 4 122 0 0) (N : Ma M = false) (hn : Mn M = 7)  (a0 : Nat) (x2 : Int32) (x3 : Int32) (x4 : Int32) (x5 : Int32) (k0 : Int32) (σ : Dt) (o : ((Int32 × Dt) ⊕ Dt)) (h : f_X3_findWatch_172 a0 x2 x3 x4 x5 k0 σ = some o) (K : kon (P_X3_findWatch_132 M a0 x2 x3) (E_X3_findWatch_132 M a0 x2 x3) o) : G M 0 0 172 [(0, vA (some a0)), (2, vI x2), (3, vI x3), (4, vI x4), (5, vI x5)] [vI k0] SX σ := by
  unfold f_X3_findWatch_172 at h
  refine g_istore (lv' := [(6, vI k0), (0, vA (some a0)), (2, vI x2), (3, vI x3), (4, vI x4), (5, vI x5)]) O dX3_findWatch_172 7 hn (by decide) rfl ?_
  refine g_iload O dX3_findWatch_174 0 rfl ?_
  refine g_if_eq O dX3_findWatch_176 rfl (fun c1 => ?_) (fun c1 => ?_)
  · replace h := (if_pos c1).symm.trans h
    refine g_sub [1, 2, 3, 4] (lv' := [(0, vA (some a0)), (2, vI x2), (3, vI x3), (4, vI x4)]) rfl ?_
    exact t_X3_findWatch_200 O R0 N hn a0 x2 x3 x4 σ o h K
  · replace h := (if_neg c1).symm.trans h
    refine g_iload O dX3_findWatch_179 5 rfl ?_
    refine g_aload_n O dX3_findWatch_181 rfl 1 rfl ?_
    obtain ⟨v2, e3, h⟩ := bo_some h
    refine g_getI O dX3_findWatch_182 fl_X3_97 rfl e3 ?_
    refine g_icmp_ge O dX3_findWatch_185 rfl (fun c4 => ?_) (fun c4 => ?_)
    · replace h := (if_pos c4).symm.trans h
      refine g_sub [1, 2, 3, 4] (lv' := [(0, vA (some a0)), (2, vI x2), (3, vI x3), (4, vI x4)]) rfl ?_
      exact t_X3_findWatch_200 O R0 N hn a0 x2 x3 x4 σ o h K
    · replace h := (if_neg c4).symm.trans h
      refine g_aload_n O dX3_findWatch_188 rfl 1 rfl ?_
      refine g_iload O dX3_findWatch_189 5 rfl ?_
      obtain ⟨σ5, e6, h⟩ := bo_some h
      refine g_putI O dX3_findWatch_191 fl_X3_97 (Or.inl rfl) rfl e6 ?_
      refine g_aload_n O dX3_findWatch_194 rfl 1 rfl ?_
      refine g_iload O dX3_findWatch_195 4 rfl ?_
      obtain ⟨σ7, e8, h⟩ := bo_some h
      refine g_putI O dX3_findWatch_197 fl_X3_100 (Or.inl rfl) rfl e8 ?_
      refine g_sub [1, 2, 3, 4] (lv' := [(0, vA (some a0)), (2, vI x2), (3, vI x3), (4, vI x4)]) rfl ?_
      exact t_X3_findWatch_200 O R0 N hn a0 x2 x3 x4 σ7 o h K
def f_X3_findWatch_171 (a0 : Nat) (x2 : Int32) (x3 : Int32) (x4 : Int32) (x5 : Int32) (σ : Dt) : Option ((Int32 × Dt) ⊕ Dt) := f_X3_findWatch_172 a0 x2 x3 x4 x5 (0 : Int32) σ
theorem t_X3_findWatch_171 {M : Mx} {l0 : Launch} (O : Ok M cX3_findWatch yX3_findWatch) (R0 : Rm M l0 4 122 0 0) (N : Ma M = false) (hn : Mn M = 7)  (a0 : Nat) (x2 : Int32) (x3 : Int32) (x4 : Int32) (x5 : Int32) (σ : Dt) (o : ((Int32 × Dt) ⊕ Dt)) (h : f_X3_findWatch_171 a0 x2 x3 x4 x5 σ = some o) (K : kon (P_X3_findWatch_132 M a0 x2 x3) (E_X3_findWatch_132 M a0 x2 x3) o) : G M 0 0 171 [(0, vA (some a0)), (2, vI x2), (3, vI x3), (4, vI x4), (5, vI x5)] [] SX σ := by
  unfold f_X3_findWatch_171 at h
  refine g_iconst (v := (0 : Int32)) O dX3_findWatch_171 rfl ?_
  exact t_X3_findWatch_172 O R0 N hn a0 x2 x3 x4 x5 (0 : Int32) σ o h K
def f_X3_findWatch_L132 (a0 : Nat) (x2 : Int32) (x3 : Int32) (x4 : Int32) (σ : Dt) : Option ((Int32 × Dt) ⊕ Dt) := if (1024 : Int32) ≤ x4 then some (.inr σ) else bo (f_J6_bitCount_0f7a4 x4 σ) fun v2 => if (x4 &&& (x2 ^^^ (-1 : Int32))) = 0 then bo (xgr SX 3 4 (some a0) σ) fun v5 => bo (xai SX v5 x4 σ) fun v7 => if v7 = x3 then f_X3_findWatch_172 a0 x2 x3 x4 v2 (1 : Int32) σ else f_X3_findWatch_171 a0 x2 x3 x4 v2 σ else f_X3_findWatch_171 a0 x2 x3 x4 v2 σ
theorem t_X3_findWatch_L132 {M : Mx} {l0 : Launch} (O : Ok M cX3_findWatch yX3_findWatch) (R0 : Rm M l0 4 122 0 0) (N : Ma M = false) (hn : Mn M = 7) (a0 : Nat) (x2 : Int32) (x3 : Int32) (x4 : Int32) (σ : Dt) (o : ((Int32 × Dt) ⊕ Dt)) (h : f_X3_findWatch_L132 a0 x2 x3 x4 σ = some o) (K : kon (P_X3_findWatch_132 M a0 x2 x3) (E_X3_findWatch_132 M a0 x2 x3) o) : G M 0 0 132 [(0, vA (some a0)), (2, vI x2), (3, vI x3), (4, vI x4)] [] SX σ := by
  unfold f_X3_findWatch_L132 at h
  refine g_iload O dX3_findWatch_132 3 rfl ?_
  refine g_sipush (v := (1024 : Int32)) O dX3_findWatch_134 rfl ?_
  refine g_icmp_ge O dX3_findWatch_137 rfl (fun c1 => ?_) (fun c1 => ?_)
  · replace h := (if_pos c1).symm.trans h
    refine g_sub [] (lv' := []) rfl ?_
    cases h
    exact K
  · replace h := (if_neg c1).symm.trans h
    refine g_iload O dX3_findWatch_140 3 rfl ?_
    obtain ⟨v2, e3, h⟩ := bo_some h
    refine g_cS1 O R0 N dX3_findWatch_142 vl_X3_106 w831 [vI x4] rfl rfl rfl ⟨Nat.le_of_ble_eq_true rfl, Nat.le_of_ble_eq_true rfl⟩ (c_J6_bitCount_0f7a4 l0 x4 σ v2 e3) ?_
    refine g_istore (lv' := [(5, vI v2), (0, vA (some a0)), (2, vI x2), (3, vI x3), (4, vI x4)]) O dX3_findWatch_145 7 hn (by decide) rfl ?_
    refine g_iload O dX3_findWatch_147 4 rfl ?_
    refine g_iload_n O dX3_findWatch_149 rfl 2 rfl ?_
    refine g_iconst (v := (-1 : Int32)) O dX3_findWatch_150 rfl ?_
    refine g_ixor O dX3_findWatch_151 ?_
    refine g_iand O dX3_findWatch_152 ?_
    refine g_if_ne O dX3_findWatch_153 rfl (fun c4 => ?_) (fun c4 => ?_)
    · replace h := (if_pos c4).symm.trans h
      refine g_aload_n O dX3_findWatch_156 rfl 1 rfl ?_
      obtain ⟨v5, e6, h⟩ := bo_some h
      refine g_getR O dX3_findWatch_157 fl_X3_23 rfl e6 ?_
      refine g_iload O dX3_findWatch_160 4 rfl ?_
      obtain ⟨v7, e8, h⟩ := bo_some h
      refine g_iaload O dX3_findWatch_162 e8 ?_
      refine g_iload_n O dX3_findWatch_163 rfl 3 rfl ?_
      refine g_icmp_ne O dX3_findWatch_164 rfl (fun c9 => ?_) (fun c9 => ?_)
      · replace h := (if_pos c9).symm.trans h
        refine g_iconst (v := (1 : Int32)) O dX3_findWatch_167 rfl ?_
        refine g_goto O dX3_findWatch_168 rfl ?_
        refine g_sub [1, 2, 3, 4, 0] (lv' := [(0, vA (some a0)), (2, vI x2), (3, vI x3), (4, vI x4), (5, vI v2)]) rfl ?_
        exact t_X3_findWatch_172 O R0 N hn a0 x2 x3 x4 v2 (1 : Int32) σ o h K
      · replace h := (if_neg c9).symm.trans h
        refine g_sub [1, 2, 3, 4, 0] (lv' := [(0, vA (some a0)), (2, vI x2), (3, vI x3), (4, vI x4), (5, vI v2)]) rfl ?_
        exact t_X3_findWatch_171 O R0 N hn a0 x2 x3 x4 v2 σ o h K
    · replace h := (if_neg c4).symm.trans h
      refine g_sub [1, 2, 3, 4, 0] (lv' := [(0, vA (some a0)), (2, vI x2), (3, vI x3), (4, vI x4), (5, vI v2)]) rfl ?_
      exact t_X3_findWatch_171 O R0 N hn a0 x2 x3 x4 v2 σ o h K
def f_X3_findWatch_55 (a0 : Nat) (r1 : Option Nat) (x2 : Int32) (x3 : Int32) (σ : Dt) : Option (Unit × Dt) := bo (xgr SX 3 4 (some a0) σ) fun v1 => bo (xsi SX v1 (0 : Int32) (0 : Int32) σ) fun σ3 => bo (iter FU (fun s => f_X3_findWatch_L65 a0 r1 x2 x3 s.1 s.2) ((0 : Int32), σ3)) fun w5 => bo (xpi SX 3 6 (some a0) (11 : Int32) w5) fun σ7 => bo (iter FU (fun s => f_X3_findWatch_L132 a0 x2 x3 s.1 s.2) ((0 : Int32), σ7)) fun w9 => some ((), w9)
theorem t_X3_findWatch_55 {M : Mx} {l0 : Launch} (O : Ok M cX3_findWatch yX3_findWatch) (R0 : Rm M l0 4 122 0 0) (N : Ma M = false) (hn : Mn M = 7)  (a0 : Nat) (r1 : Option Nat) (x2 : Int32) (x3 : Int32) (σ : Dt) (o : (Unit × Dt)) (h : f_X3_findWatch_55 a0 r1 x2 x3 σ = some o) (K : Fin' M (none) 0 0 SX o.2 (none)) : G M 0 0 55 [(0, vA (some a0)), (1, vA r1), (2, vI x2), (3, vI x3)] [] SX σ := by
  unfold f_X3_findWatch_55 at h
  refine g_aload_n O dX3_findWatch_55 rfl 0 rfl ?_
  obtain ⟨v1, e2, h⟩ := bo_some h
  refine g_getR O dX3_findWatch_56 fl_X3_23 rfl e2 ?_
  refine g_iconst (v := (0 : Int32)) O dX3_findWatch_59 rfl ?_
  refine g_iconst (v := (0 : Int32)) O dX3_findWatch_60 rfl ?_
  obtain ⟨σ3, e4, h⟩ := bo_some h
  refine g_iastore O dX3_findWatch_61 e4 ?_
  refine g_iconst (v := (0 : Int32)) O dX3_findWatch_62 rfl ?_
  refine g_istore (lv' := [(4, vI (0 : Int32)), (0, vA (some a0)), (1, vA r1), (2, vI x2), (3, vI x3)]) O dX3_findWatch_63 7 hn (by decide) rfl ?_
  refine g_sub [1, 2, 3, 4, 0] (lv' := [(0, vA (some a0)), (1, vA r1), (2, vI x2), (3, vI x3), (4, vI (0 : Int32))]) rfl ?_
  obtain ⟨w5, e6, h⟩ := bo_some h
  refine iter_G (P := P_X3_findWatch_65 M a0 r1 x2 x3) (E := E_X3_findWatch_65 M a0 r1 x2 x3) (fun s o hb hk => t_X3_findWatch_L65 O R0 N hn a0 r1 x2 x3 s.1 s.2 o hb hk) FU ((0 : Int32), σ3) w5 e6 ?_
  show G M 0 0 123 [(0, vA (some a0)), (2, vI x2), (3, vI x3)] [] SX w5
  refine g_aload_n O dX3_findWatch_123 rfl 0 rfl ?_
  refine g_bipush (v := (11 : Int32)) O dX3_findWatch_124 rfl ?_
  obtain ⟨σ7, e8, h⟩ := bo_some h
  refine g_putI O dX3_findWatch_126 fl_X3_97 (Or.inl rfl) rfl e8 ?_
  refine g_iconst (v := (0 : Int32)) O dX3_findWatch_129 rfl ?_
  refine g_istore (lv' := [(4, vI (0 : Int32)), (0, vA (some a0)), (2, vI x2), (3, vI x3)]) O dX3_findWatch_130 7 hn (by decide) rfl ?_
  refine g_sub [1, 2, 3, 0] (lv' := [(0, vA (some a0)), (2, vI x2), (3, vI x3), (4, vI (0 : Int32))]) rfl ?_
  obtain ⟨w9, e10, h⟩ := bo_some h
  refine iter_G (P := P_X3_findWatch_132 M a0 x2 x3) (E := E_X3_findWatch_132 M a0 x2 x3) (fun s o hb hk => t_X3_findWatch_L132 O R0 N hn a0 x2 x3 s.1 s.2 o hb hk) FU ((0 : Int32), σ7) w9 e10 ?_
  show G M 0 0 206 [] [] SX w9
  cases h
  exact g_return O K dX3_findWatch_206
def f_X3_findWatch (a0 : Nat) (r1 : Option Nat) (σ : Dt) : Option (Unit × Dt) := bo (iter FU (fun s => f_X3_findWatch_L7 a0 r1 s.1 s.2.1 s.2.2 σ) ((0 : Int32), (0 : Int32), (0 : Int32))) fun w1 => f_X3_findWatch_55 a0 r1 w1.1 w1.2 σ
theorem t_X3_findWatch {M : Mx} {l0 : Launch} (O : Ok M cX3_findWatch yX3_findWatch) (R0 : Rm M l0 4 122 0 0) (N : Ma M = false) (hn : Mn M = 7) (a0 : Nat) (r1 : Option Nat) (σ : Dt) (o : (Unit × Dt)) (h : f_X3_findWatch a0 r1 σ = some o) (K : Fin' M (none) 0 0 SX o.2 (none)) : G M 0 0 0 [(0, vA (some a0)), (1, vA r1)] [] SX σ := by
  unfold f_X3_findWatch at h
  refine g_iconst (v := (0 : Int32)) O dX3_findWatch_0 rfl ?_
  refine g_istore_n (lv' := [(2, vI (0 : Int32)), (0, vA (some a0)), (1, vA r1)]) O dX3_findWatch_1 rfl 7 hn (by decide) rfl ?_
  refine g_iconst (v := (0 : Int32)) O dX3_findWatch_2 rfl ?_
  refine g_istore_n (lv' := [(3, vI (0 : Int32)), (2, vI (0 : Int32)), (0, vA (some a0)), (1, vA r1)]) O dX3_findWatch_3 rfl 7 hn (by decide) rfl ?_
  refine g_iconst (v := (0 : Int32)) O dX3_findWatch_4 rfl ?_
  refine g_istore (lv' := [(4, vI (0 : Int32)), (3, vI (0 : Int32)), (2, vI (0 : Int32)), (0, vA (some a0)), (1, vA r1)]) O dX3_findWatch_5 7 hn (by decide) rfl ?_
  refine g_sub [3, 4, 2, 1, 0] (lv' := [(0, vA (some a0)), (1, vA r1), (2, vI (0 : Int32)), (3, vI (0 : Int32)), (4, vI (0 : Int32))]) rfl ?_
  obtain ⟨w1, e2, h⟩ := bo_some h
  refine iter_G (P := P_X3_findWatch_7 M a0 r1 σ) (E := E_X3_findWatch_7 M a0 r1 σ) (fun s o hb hk => t_X3_findWatch_L7 O R0 N hn a0 r1 s.1 s.2.1 s.2.2 σ o hb hk) FU ((0 : Int32), (0 : Int32), (0 : Int32)) w1 e2 ?_
  show G M 0 0 55 [(0, vA (some a0)), (1, vA r1), (2, vI w1.1), (3, vI w1.2)] [] SX σ
  exact t_X3_findWatch_55 O R0 N hn a0 r1 w1.1 w1.2 σ o h K
theorem c_X3_findWatch (l0 : Launch) (a0 : Nat) (r1 : Option Nat) (σ : Dt) (r : Unit) (σ' : Dt) (h : f_X3_findWatch a0 r1 σ = some (r, σ')) : Ctr l0 yX3_findWatch cX3_findWatch 7 (none) false 4 122 0 0 [vA (some a0), vA r1] SX σ SX σ' (none) := ctr_of (by decide) (Nat.le_of_ble_eq_true rfl) (fun M O F R0 N hn => t_X3_findWatch O R0 N hn a0 r1 σ (r, σ') h F)
def f_X3_look (a0 : Nat) (r1 : Option Nat) (x2 : Int32) (σ : Dt) : Option (Int32 × Dt) := if r1 = none then some ((-2 : Int32), σ) else if x2 = (0 : Int32) then bo (f_X3_manyHouses r1 σ) fun v3 => some (v3, σ) else if x2 = (1 : Int32) then bo (f_X3_largestHouse r1 σ) fun v6 => some (v6, σ) else if x2 = (2 : Int32) then bo (f_X3_roots r1 σ) fun v9 => some (v9, σ) else if x2 = (3 : Int32) then bo (f_X3_orphans r1 σ) fun v12 => some (v12, σ) else if x2 = (4 : Int32) then bo (f_X3_cousins r1 σ) fun v15 => some (v15, σ) else if x2 = (5 : Int32) then bo (f_X3_mostBurdened r1 σ) fun v18 => some (v18, σ) else if x2 = (6 : Int32) then bo (f_X3_mostBurdened r1 σ) fun v21 => bo (f_X3_childrenBinding r1 v21 σ) fun v23 => some (v23, σ) else if x2 = (7 : Int32) then bo (xrc SX 3 (some a0)) fun a26 => bd (f_X3_findWatch a26 r1 σ) fun v28 σ29 => bo (xgi SX 3 6 (some a0) σ29) fun v31 => some (v31, σ29) else if x2 = (8 : Int32) then bo (xrc SX 3 (some a0)) fun a34 => bd (f_X3_findWatch a34 r1 σ) fun v36 σ37 => bo (xgi SX 3 5 (some a0) σ37) fun v39 => some (v39, σ37) else some ((-2 : Int32), σ)
theorem t_X3_look {M : Mx} {l0 : Launch} (O : Ok M cX3_look yX3_look) (R0 : Rm M l0 6 170 0 0) (N : Ma M = false) (hn : Mn M = 3) (a0 : Nat) (r1 : Option Nat) (x2 : Int32) (σ : Dt) (o : (Int32 × Dt)) (h : f_X3_look a0 r1 x2 σ = some o) (K : Fin' M (some .int) 0 0 SX o.2 (some (vI o.1))) : G M 0 0 0 [(0, vA (some a0)), (1, vA r1), (2, vI x2)] [] SX σ := by
  unfold f_X3_look at h
  refine g_aload_n O dX3_look_0 rfl 1 rfl ?_
  refine g_ifnonnull O dX3_look_1 rfl (fun c1 => ?_) (fun c1 => ?_)
  · replace h := (if_neg c1).symm.trans h
    refine g_iload_n O dX3_look_7 rfl 2 rfl ?_
    by_cases c2 : x2 = (0 : Int32)
    · replace h := (if_pos c2).symm.trans h
      refine g_tabIn O dX3_look_8 (by rw [c2]; decide) (by rw [c2]; decide) (by rw [c2]; rfl) rfl ?_
      refine g_aload_n O dX3_look_60 rfl 1 rfl ?_
      obtain ⟨v3, e4, h⟩ := bo_some h
      refine g_cS1 O R0 N dX3_look_61 vl_X3_71 w1319 [vA r1] rfl rfl rfl ⟨Nat.le_of_ble_eq_true rfl, Nat.le_of_ble_eq_true rfl⟩ (c_X3_manyHouses l0 r1 σ v3 e4) ?_
      cases h
      exact g_ireturn O K dX3_look_64
    replace h := (if_neg c2).symm.trans h
    by_cases c5 : x2 = (1 : Int32)
    · replace h := (if_pos c5).symm.trans h
      refine g_tabIn O dX3_look_8 (by rw [c5]; decide) (by rw [c5]; decide) (by rw [c5]; rfl) rfl ?_
      refine g_aload_n O dX3_look_65 rfl 1 rfl ?_
      obtain ⟨v6, e7, h⟩ := bo_some h
      refine g_cS1 O R0 N dX3_look_66 vl_X3_75 w1325 [vA r1] rfl rfl rfl ⟨Nat.le_of_ble_eq_true rfl, Nat.le_of_ble_eq_true rfl⟩ (c_X3_largestHouse l0 r1 σ v6 e7) ?_
      cases h
      exact g_ireturn O K dX3_look_69
    replace h := (if_neg c5).symm.trans h
    by_cases c8 : x2 = (2 : Int32)
    · replace h := (if_pos c8).symm.trans h
      refine g_tabIn O dX3_look_8 (by rw [c8]; decide) (by rw [c8]; decide) (by rw [c8]; rfl) rfl ?_
      refine g_aload_n O dX3_look_70 rfl 1 rfl ?_
      obtain ⟨v9, e10, h⟩ := bo_some h
      refine g_cS1 O R0 N dX3_look_71 vl_X3_78 w1329 [vA r1] rfl rfl rfl ⟨Nat.le_of_ble_eq_true rfl, Nat.le_of_ble_eq_true rfl⟩ (c_X3_roots l0 r1 σ v9 e10) ?_
      cases h
      exact g_ireturn O K dX3_look_74
    replace h := (if_neg c8).symm.trans h
    by_cases c11 : x2 = (3 : Int32)
    · replace h := (if_pos c11).symm.trans h
      refine g_tabIn O dX3_look_8 (by rw [c11]; decide) (by rw [c11]; decide) (by rw [c11]; rfl) rfl ?_
      refine g_aload_n O dX3_look_75 rfl 1 rfl ?_
      obtain ⟨v12, e13, h⟩ := bo_some h
      refine g_cS1 O R0 N dX3_look_76 vl_X3_81 w1332 [vA r1] rfl rfl rfl ⟨Nat.le_of_ble_eq_true rfl, Nat.le_of_ble_eq_true rfl⟩ (c_X3_orphans l0 r1 σ v12 e13) ?_
      cases h
      exact g_ireturn O K dX3_look_79
    replace h := (if_neg c11).symm.trans h
    by_cases c14 : x2 = (4 : Int32)
    · replace h := (if_pos c14).symm.trans h
      refine g_tabIn O dX3_look_8 (by rw [c14]; decide) (by rw [c14]; decide) (by rw [c14]; rfl) rfl ?_
      refine g_aload_n O dX3_look_80 rfl 1 rfl ?_
      obtain ⟨v15, e16, h⟩ := bo_some h
      refine g_cS1 O R0 N dX3_look_81 vl_X3_84 w1336 [vA r1] rfl rfl rfl ⟨Nat.le_of_ble_eq_true rfl, Nat.le_of_ble_eq_true rfl⟩ (c_X3_cousins l0 r1 σ v15 e16) ?_
      cases h
      exact g_ireturn O K dX3_look_84
    replace h := (if_neg c14).symm.trans h
    by_cases c17 : x2 = (5 : Int32)
    · replace h := (if_pos c17).symm.trans h
      refine g_tabIn O dX3_look_8 (by rw [c17]; decide) (by rw [c17]; decide) (by rw [c17]; rfl) rfl ?_
      refine g_aload_n O dX3_look_85 rfl 1 rfl ?_
      obtain ⟨v18, e19, h⟩ := bo_some h
      refine g_cS1 O R0 N dX3_look_86 vl_X3_87 w1339 [vA r1] rfl rfl rfl ⟨Nat.le_of_ble_eq_true rfl, Nat.le_of_ble_eq_true rfl⟩ (c_X3_mostBurdened l0 r1 σ v18 e19) ?_
      cases h
      exact g_ireturn O K dX3_look_89
    replace h := (if_neg c17).symm.trans h
    by_cases c20 : x2 = (6 : Int32)
    · replace h := (if_pos c20).symm.trans h
      refine g_tabIn O dX3_look_8 (by rw [c20]; decide) (by rw [c20]; decide) (by rw [c20]; rfl) rfl ?_
      refine g_aload_n O dX3_look_90 rfl 1 rfl ?_
      refine g_aload_n O dX3_look_91 rfl 1 rfl ?_
      obtain ⟨v21, e22, h⟩ := bo_some h
      refine g_cS1 O R0 N dX3_look_92 vl_X3_87 w1339 [vA r1] rfl rfl rfl ⟨Nat.le_of_ble_eq_true rfl, Nat.le_of_ble_eq_true rfl⟩ (c_X3_mostBurdened l0 r1 σ v21 e22) ?_
      obtain ⟨v23, e24, h⟩ := bo_some h
      refine g_cS1 O R0 N dX3_look_95 vl_X3_90 w1342 [vA r1, vI v21] rfl rfl rfl ⟨Nat.le_of_ble_eq_true rfl, Nat.le_of_ble_eq_true rfl⟩ (c_X3_childrenBinding l0 r1 v21 σ v23 e24) ?_
      cases h
      exact g_ireturn O K dX3_look_98
    replace h := (if_neg c20).symm.trans h
    by_cases c25 : x2 = (7 : Int32)
    · replace h := (if_pos c25).symm.trans h
      refine g_tabIn O dX3_look_8 (by rw [c25]; decide) (by rw [c25]; decide) (by rw [c25]; rfl) rfl ?_
      refine g_aload_n O dX3_look_99 rfl 0 rfl ?_
      refine g_aload_n O dX3_look_100 rfl 1 rfl ?_
      obtain ⟨a26, e27, h⟩ := bo_some h
      obtain ⟨v28, σ29, e30, h⟩ := bd_some h
      refine g_cV0 O R0 N dX3_look_101 vl_X3_93 vv_X3_findWatch e27 [vA r1] rfl rfl rfl ⟨Nat.le_of_ble_eq_true rfl, Nat.le_of_ble_eq_true rfl⟩ (c_X3_findWatch l0 a26 r1 σ v28 σ29 e30) ?_
      refine g_aload_n O dX3_look_104 rfl 0 rfl ?_
      obtain ⟨v31, e32, h⟩ := bo_some h
      refine g_getI O dX3_look_105 fl_X3_97 rfl e32 ?_
      cases h
      exact g_ireturn O K dX3_look_108
    replace h := (if_neg c25).symm.trans h
    by_cases c33 : x2 = (8 : Int32)
    · replace h := (if_pos c33).symm.trans h
      refine g_tabIn O dX3_look_8 (by rw [c33]; decide) (by rw [c33]; decide) (by rw [c33]; rfl) rfl ?_
      refine g_aload_n O dX3_look_109 rfl 0 rfl ?_
      refine g_aload_n O dX3_look_110 rfl 1 rfl ?_
      obtain ⟨a34, e35, h⟩ := bo_some h
      obtain ⟨v36, σ37, e38, h⟩ := bd_some h
      refine g_cV0 O R0 N dX3_look_111 vl_X3_93 vv_X3_findWatch e35 [vA r1] rfl rfl rfl ⟨Nat.le_of_ble_eq_true rfl, Nat.le_of_ble_eq_true rfl⟩ (c_X3_findWatch l0 a34 r1 σ v36 σ37 e38) ?_
      refine g_aload_n O dX3_look_114 rfl 0 rfl ?_
      obtain ⟨v39, e40, h⟩ := bo_some h
      refine g_getI O dX3_look_115 fl_X3_100 rfl e40 ?_
      cases h
      exact g_ireturn O K dX3_look_118
    replace h := (if_neg c33).symm.trans h
    refine g_tabOut O dX3_look_8 (tab_out [(0 : Int32), (1 : Int32), (2 : Int32), (3 : Int32), (4 : Int32), (5 : Int32), (6 : Int32), (7 : Int32), (8 : Int32)] (fun z h1 h2 => ?_) (fun c hc => ?_)) rfl ?_
    · have hz : z = 0 ∨ z = 1 ∨ z = 2 ∨ z = 3 ∨ z = 4 ∨ z = 5 ∨ z = 6 ∨ z = 7 ∨ z = 8 := by omega
      rcases hz with rfl | rfl | rfl | rfl | rfl | rfl | rfl | rfl | rfl
      · exact ⟨(0 : Int32), by simp, rfl⟩
      · exact ⟨(1 : Int32), by simp, rfl⟩
      · exact ⟨(2 : Int32), by simp, rfl⟩
      · exact ⟨(3 : Int32), by simp, rfl⟩
      · exact ⟨(4 : Int32), by simp, rfl⟩
      · exact ⟨(5 : Int32), by simp, rfl⟩
      · exact ⟨(6 : Int32), by simp, rfl⟩
      · exact ⟨(7 : Int32), by simp, rfl⟩
      · exact ⟨(8 : Int32), by simp, rfl⟩
    · simp only [List.mem_cons, List.not_mem_nil, or_false] at hc
      rcases hc with rfl | rfl | rfl | rfl | rfl | rfl | rfl | rfl | rfl <;> assumption
    refine g_bipush (v := (-2 : Int32)) O dX3_look_119 rfl ?_
    cases h
    exact g_ireturn O K dX3_look_121
  · replace h := (if_pos c1).symm.trans h
    refine g_bipush (v := (-2 : Int32)) O dX3_look_4 rfl ?_
    cases h
    exact g_ireturn O K dX3_look_6
theorem c_X3_look (l0 : Launch) (a0 : Nat) (r1 : Option Nat) (x2 : Int32) (σ : Dt) (r : Int32) (σ' : Dt) (h : f_X3_look a0 r1 x2 σ = some (r, σ')) : Ctr l0 yX3_look cX3_look 3 (some .int) false 6 170 0 0 [vA (some a0), vA r1, vI x2] SX σ SX σ' (some (vI r)) := ctr_of (by decide) (Nat.le_of_ble_eq_true rfl) (fun M O F R0 N hn => t_X3_look O R0 N hn a0 r1 x2 σ (r, σ') h F)
def f_X11_houses (a0 : Nat) (x1 : Int32) (x2 : Int32) (σ : Dt) : Option (Int32 × Dt) := bo (xgr SX 11 0 (some a0) σ) fun v1 => bo (xrc SX 8 v1) fun a3 => bo (f_X8_valleyAt a3 x1 σ) fun v5 => if v5 = none then some ((-2 : Int32), σ) else bo (xgr SX 11 8 (some a0) σ) fun v8 => bo (xrc SX 3 v8) fun a10 => bd (f_X3_look a10 v5 x2 σ) fun v12 σ13 => some (v12, σ13)
theorem t_X11_houses {M : Mx} {l0 : Launch} (O : Ok M cX11_houses yX11_houses) (R0 : Rm M l0 7 192 0 0) (N : Ma M = false) (hn : Mn M = 4) (a0 : Nat) (x1 : Int32) (x2 : Int32) (σ : Dt) (o : (Int32 × Dt)) (h : f_X11_houses a0 x1 x2 σ = some o) (K : Fin' M (some .int) 0 0 SX o.2 (some (vI o.1))) : G M 0 0 0 [(0, vA (some a0)), (1, vI x1), (2, vI x2)] [] SX σ := by
  unfold f_X11_houses at h
  refine g_aload_n O dX11_houses_0 rfl 0 rfl ?_
  obtain ⟨v1, e2, h⟩ := bo_some h
  refine g_getR O dX11_houses_1 fl_X11_12 rfl e2 ?_
  refine g_iload_n O dX11_houses_4 rfl 1 rfl ?_
  obtain ⟨a3, e4, h⟩ := bo_some h
  obtain ⟨v5, e6, h⟩ := bo_some h
  refine g_cV1 O R0 N dX11_houses_5 vl_X11_105 vv_X8_valleyAt e4 [vI x1] rfl rfl rfl ⟨Nat.le_of_ble_eq_true rfl, Nat.le_of_ble_eq_true rfl⟩ (c_X8_valleyAt l0 a3 x1 σ v5 e6) ?_
  refine g_astore_n (lv' := [(3, vA v5), (0, vA (some a0)), (1, vI x1), (2, vI x2)]) O dX11_houses_8 rfl 4 hn (by decide) rfl ?_
  refine g_aload_n O dX11_houses_9 rfl 0 rfl ?_
  refine g_ifnonnull O dX11_houses_10 rfl (fun c7 => ?_) (fun c7 => ?_)
  · replace h := (if_neg c7).symm.trans h
    refine g_aload_n O dX11_houses_18 rfl 1 rfl ?_
    obtain ⟨v8, e9, h⟩ := bo_some h
    refine g_getR O dX11_houses_19 fl_X11_62 rfl e9 ?_
    refine g_aload_n O dX11_houses_22 rfl 0 rfl ?_
    refine g_iload_n O dX11_houses_23 rfl 3 rfl ?_
    obtain ⟨a10, e11, h⟩ := bo_some h
    obtain ⟨v12, σ13, e14, h⟩ := bd_some h
    refine g_cV1 O R0 N dX11_houses_24 vl_X11_246 vv_X3_look e11 [vA v5, vI x2] rfl rfl rfl ⟨Nat.le_of_ble_eq_true rfl, Nat.le_of_ble_eq_true rfl⟩ (c_X3_look l0 a10 v5 x2 σ v12 σ13 e14) ?_
    cases h
    exact g_ireturn O K dX11_houses_27
  · replace h := (if_pos c7).symm.trans h
    refine g_bipush (v := (-2 : Int32)) O dX11_houses_13 rfl ?_
    refine g_goto O dX11_houses_15 rfl ?_
    cases h
    exact g_ireturn O K dX11_houses_27
theorem c_X11_houses (l0 : Launch) (a0 : Nat) (x1 : Int32) (x2 : Int32) (σ : Dt) (r : Int32) (σ' : Dt) (h : f_X11_houses a0 x1 x2 σ = some (r, σ')) : Ctr l0 yX11_houses cX11_houses 4 (some .int) false 7 192 0 0 [vA (some a0), vI x1, vI x2] SX σ SX σ' (some (vI r)) := ctr_of (by decide) (Nat.le_of_ble_eq_true rfl) (fun M O F R0 N hn => t_X11_houses O R0 N hn a0 x1 x2 σ (r, σ') h F)
