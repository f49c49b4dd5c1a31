def P_X7_firstTake_32 (M : Mx) (a0 : Nat) (r1 : Option Nat) (x2 : Int32) (σ : Dt) (s : (Int32 × Int32 × Int32)) : Prop := G M 0 0 32 [(0, vA (some a0)), (1, vA r1), (2, vI x2), (3, vI s.1), (4, vI s.2.1), (5, vI s.2.2)] [] SX σ
def E_X7_firstTake_32 (M : Mx) (a0 : Nat) (r1 : Option Nat) (x2 : Int32) (σ : Dt) : Int32 → Prop := (fun w => G M 0 0 121 [(3, vI w)] [] SX σ)
def f_X7_firstTake_115 (a0 : Nat) (r1 : Option Nat) (x2 : Int32) (x3 : Int32) (x4 : Int32) (x5 : Int32) (σ : Dt) : Option ((Int32 × Int32 × Int32) ⊕ Int32) := some (.inl (x3, x4, (x5 + (-1 : Int32))))
theorem t_X7_firstTake_115 {M : Mx} {l0 : Launch} (O : Ok M cX7_firstTake yX7_firstTake) (R0 : Rm M l0 15 1429 0 0) (N : Ma M = false) (hn : Mn M = 8)  (a0 : Nat) (r1 : Option Nat) (x2 : Int32) (x3 : Int32) (x4 : Int32) (x5 : Int32) (σ : Dt) (o : ((Int32 × Int32 × Int32) ⊕ Int32)) (h : f_X7_firstTake_115 a0 r1 x2 x3 x4 x5 σ = some o) (K : kon (P_X7_firstTake_32 M a0 r1 x2 σ) (E_X7_firstTake_32 M a0 r1 x2 σ) o) : G M 0 0 115 [(0, vA (some a0)), (1, vA r1), (2, vI x2), (3, vI x3), (4, vI x4), (5, vI x5)] [] SX σ := by
  unfold f_X7_firstTake_115 at h
  refine g_iinc (v := (x5 + (-1 : Int32))) (lv' := [(5, vI (x5 + (-1 : Int32))), (0, vA (some a0)), (1, vA r1), (2, vI x2), (3, vI x3), (4, vI x4)]) O dX7_firstTake_115 8 hn (by decide) 5 rfl rfl rfl ?_
  refine g_goto O dX7_firstTake_118 rfl ?_
  refine g_sub [1, 2, 3, 4, 5, 0] (lv' := [(0, vA (some a0)), (1, vA r1), (2, vI x2), (3, vI x3), (4, vI x4), (5, vI (x5 + (-1 : Int32)))]) rfl ?_
  cases h
  exact K
def f_X7_firstTake_L32 (a0 : Nat) (r1 : Option Nat) (x2 : Int32) (x3 : Int32) (x4 : Int32) (x5 : Int32) (σ : Dt) : Option ((Int32 × Int32 × Int32) ⊕ Int32) := if x5 < 0 then some (.inr x3) else bo (xrc SX 9 r1) fun a2 => bo (f_X9_hasWork a2 x5 σ) fun v4 => if v4 = 0 then f_X7_firstTake_115 a0 r1 x2 x3 x4 x5 σ else bo (xgr SX 7 0 (some a0) σ) fun v7 => bo (xai SX v7 x5 σ) fun v9 => if v9 = 0 then f_X7_firstTake_115 a0 r1 x2 x3 x4 x5 σ else bo (xgr SX 7 0 (some a0) σ) fun v12 => bo (xai SX v12 x5 σ) fun v14 => bo (xgr SX 7 0 (some a0) σ) fun v16 => bo (xai SX v16 x5 σ) fun v18 => bo (xgr SX 9 9 r1 σ) fun v20 => bo (xai SX v20 x5 σ) fun v22 => bo (xgr SX 7 0 (some a0) σ) fun v24 => bo (f_X7_lead 12 r1 v24 (x2 - (1 : Int32)) ((1 : Int32) <<< (x5 &&& 31)) (v14 &&& (-v18)) σ) fun v26 => if (v22 - v26) < x4 then f_X7_firstTake_115 a0 r1 x2 x3 x4 x5 σ else f_X7_firstTake_115 a0 r1 x2 x5 (v22 - v26) x5 σ
theorem t_X7_firstTake_L32 {M : Mx} {l0 : Launch} (O : Ok M cX7_firstTake yX7_firstTake) (R0 : Rm M l0 15 1429 0 0) (N : Ma M = false) (hn : Mn M = 8) (a0 : Nat) (r1 : Option Nat) (x2 : Int32) (x3 : Int32) (x4 : Int32) (x5 : Int32) (σ : Dt) (o : ((Int32 × Int32 × Int32) ⊕ Int32)) (h : f_X7_firstTake_L32 a0 r1 x2 x3 x4 x5 σ = some o) (K : kon (P_X7_firstTake_32 M a0 r1 x2 σ) (E_X7_firstTake_32 M a0 r1 x2 σ) o) : G M 0 0 32 [(0, vA (some a0)), (1, vA r1), (2, vI x2), (3, vI x3), (4, vI x4), (5, vI x5)] [] SX σ := by
  unfold f_X7_firstTake_L32 at h
  refine g_iload O dX7_firstTake_32 5 rfl ?_
  refine g_if_lt O dX7_firstTake_34 rfl (fun c1 => ?_) (fun c1 => ?_)
  · replace h := (if_pos c1).symm.trans h
    refine g_sub [3] (lv' := [(3, vI x3)]) rfl ?_
    cases h
    exact K
  · replace h := (if_neg c1).symm.trans h
    refine g_aload_n O dX7_firstTake_37 rfl 1 rfl ?_
    refine g_iload O dX7_firstTake_38 5 rfl ?_
    obtain ⟨a2, e3, h⟩ := bo_some h
    obtain ⟨v4, e5, h⟩ := bo_some h
    refine g_cV1 O R0 N dX7_firstTake_40 vl_X7_42 vv_X9_hasWork e3 [vI x5] rfl rfl rfl ⟨Nat.le_of_ble_eq_true rfl, Nat.le_of_ble_eq_true rfl⟩ (c_X9_hasWork l0 a2 x5 σ v4 e5) ?_
    refine g_if_eq O dX7_firstTake_43 rfl (fun c6 => ?_) (fun c6 => ?_)
    · replace h := (if_pos c6).symm.trans h
      exact t_X7_firstTake_115 O R0 N hn a0 r1 x2 x3 x4 x5 σ o h K
    · replace h := (if_neg c6).symm.trans h
      refine g_aload_n O dX7_firstTake_46 rfl 0 rfl ?_
      obtain ⟨v7, e8, h⟩ := bo_some h
      refine g_getR O dX7_firstTake_47 fl_X7_9 rfl e8 ?_
      refine g_iload O dX7_firstTake_50 5 rfl ?_
      obtain ⟨v9, e10, h⟩ := bo_some h
      refine g_iaload O dX7_firstTake_52 e10 ?_
      refine g_if_eq O dX7_firstTake_53 rfl (fun c11 => ?_) (fun c11 => ?_)
      · replace h := (if_pos c11).symm.trans h
        exact t_X7_firstTake_115 O R0 N hn a0 r1 x2 x3 x4 x5 σ o h K
      · replace h := (if_neg c11).symm.trans h
        refine g_aload_n O dX7_firstTake_56 rfl 0 rfl ?_
        obtain ⟨v12, e13, h⟩ := bo_some h
        refine g_getR O dX7_firstTake_57 fl_X7_9 rfl e13 ?_
        refine g_iload O dX7_firstTake_60 5 rfl ?_
        obtain ⟨v14, e15, h⟩ := bo_some h
        refine g_iaload O dX7_firstTake_62 e15 ?_
        refine g_aload_n O dX7_firstTake_63 rfl 0 rfl ?_
        obtain ⟨v16, e17, h⟩ := bo_some h
        refine g_getR O dX7_firstTake_64 fl_X7_9 rfl e17 ?_
        refine g_iload O dX7_firstTake_67 5 rfl ?_
        obtain ⟨v18, e19, h⟩ := bo_some h
        refine g_iaload O dX7_firstTake_69 e19 ?_
        refine g_ineg O dX7_firstTake_70 ?_
        refine g_iand O dX7_firstTake_71 ?_
        refine g_istore (lv' := [(6, vI (v14 &&& (-v18))), (0, vA (some a0)), (1, vA r1), (2, vI x2), (3, vI x3), (4, vI x4), (5, vI x5)]) O dX7_firstTake_72 8 hn (by decide) rfl ?_
        refine g_aload_n O dX7_firstTake_74 rfl 2 rfl ?_
        obtain ⟨v20, e21, h⟩ := bo_some h
        refine g_getR O dX7_firstTake_75 fl_X7_53 rfl e21 ?_
        refine g_iload O dX7_firstTake_78 6 rfl ?_
        obtain ⟨v22, e23, h⟩ := bo_some h
        refine g_iaload O dX7_firstTake_80 e23 ?_
        refine g_aload_n O dX7_firstTake_81 rfl 2 rfl ?_
        refine g_aload_n O dX7_firstTake_82 rfl 1 rfl ?_
        obtain ⟨v24, e25, h⟩ := bo_some h
        refine g_getR O dX7_firstTake_83 fl_X7_9 rfl e25 ?_
        refine g_iload_n O dX7_firstTake_86 rfl 3 rfl ?_
        refine g_iconst (v := (1 : Int32)) O dX7_firstTake_87 rfl ?_
        refine g_isub O dX7_firstTake_88 ?_
        refine g_iconst (v := (1 : Int32)) O dX7_firstTake_89 rfl ?_
        refine g_iload O dX7_firstTake_90 6 rfl ?_
        refine g_ishl O dX7_firstTake_92 ?_
        refine g_iload O dX7_firstTake_93 0 rfl ?_
        obtain ⟨v26, e27, h⟩ := bo_some h
        refine g_cS1 O R0 N dX7_firstTake_95 vl_X7_56 w1062 [vA r1, vA v24, vI (x2 - (1 : Int32)), vI ((1 : Int32) <<< (x5 &&& 31)), vI (v14 &&& (-v18))] rfl rfl rfl ⟨Nat.le_of_ble_eq_true rfl, Nat.le_of_ble_eq_true rfl⟩ (c_X7_lead l0 12 r1 v24 (x2 - (1 : Int32)) ((1 : Int32) <<< (x5 &&& 31)) (v14 &&& (-v18)) σ v26 e27) ?_
        refine g_isub O dX7_firstTake_98 ?_
        refine g_istore (lv' := [(7, vI (v22 - v26)), (6, vI (v14 &&& (-v18))), (0, vA (some a0)), (1, vA r1), (2, vI x2), (3, vI x3), (4, vI x4), (5, vI x5)]) O dX7_firstTake_99 8 hn (by decide) rfl ?_
        refine g_iload O dX7_firstTake_101 0 rfl ?_
        refine g_iload O dX7_firstTake_103 6 rfl ?_
        refine g_icmp_lt O dX7_firstTake_105 rfl (fun c28 => ?_) (fun c28 => ?_)
        · replace h := (if_pos c28).symm.trans h
          refine g_sub [2, 3, 4, 5, 6, 7] (lv' := [(0, vA (some a0)), (1, vA r1), (2, vI x2), (3, vI x3), (4, vI x4), (5, vI x5)]) rfl ?_
          exact t_X7_firstTake_115 O R0 N hn a0 r1 x2 x3 x4 x5 σ o h K
        · replace h := (if_neg c28).symm.trans h
          refine g_iload O dX7_firstTake_108 0 rfl ?_
          refine g_istore (lv' := [(4, vI (v22 - v26)), (7, vI (v22 - v26)), (6, vI (v14 &&& (-v18))), (0, vA (some a0)), (1, vA r1), (2, vI x2), (3, vI x3), (5, vI x5)]) O dX7_firstTake_110 8 hn (by decide) rfl ?_
          refine g_iload O dX7_firstTake_112 7 rfl ?_
          refine g_istore_n (lv' := [(3, vI x5), (4, vI (v22 - v26)), (7, vI (v22 - v26)), (6, vI (v14 &&& (-v18))), (0, vA (some a0)), (1, vA r1), (2, vI x2), (5, vI x5)]) O dX7_firstTake_114 rfl 8 hn (by decide) rfl ?_
          refine g_sub [4, 5, 6, 0, 1, 7] (lv' := [(0, vA (some a0)), (1, vA r1), (2, vI x2), (3, vI x5), (4, vI (v22 - v26)), (5, vI x5)]) rfl ?_
          exact t_X7_firstTake_115 O R0 N hn a0 r1 x2 x5 (v22 - v26) x5 σ o h K
def f_X7_firstTake (a0 : Nat) (r1 : Option Nat) (x2 : Int32) (σ : Dt) : Option Int32 := if r1 = none then some (-1 : Int32) else if 0 < x2 then bo (xgr SX 7 0 (some a0) σ) fun v3 => bo (f_X7_lead 12 r1 v3 (x2 - (1 : Int32)) (0 : Int32) (0 : Int32) σ) fun v5 => bo (iter FU (fun s => f_X7_firstTake_L32 a0 r1 x2 s.1 s.2.1 s.2.2 σ) ((6 : Int32), (-v5), (5 : Int32))) fun w7 => some w7 else some (-1 : Int32)
theorem t_X7_firstTake {M : Mx} {l0 : Launch} (O : Ok M cX7_firstTake yX7_firstTake) (R0 : Rm M l0 15 1429 0 0) (N : Ma M = false) (hn : Mn M = 8) (a0 : Nat) (r1 : Option Nat) (x2 : Int32) (σ : Dt) (o : Int32) (h : f_X7_firstTake a0 r1 x2 σ = some o) (K : Fin' M (some .int) 0 0 SX σ (some (vI o))) : G M 0 0 0 [(0, vA (some a0)), (1, vA r1), (2, vI x2)] [] SX σ := by
  unfold f_X7_firstTake at h
  refine g_aload_n O dX7_firstTake_0 rfl 1 rfl ?_
  refine g_ifnull O dX7_firstTake_1 rfl (fun c1 => ?_) (fun c1 => ?_)
  · replace h := (if_pos c1).symm.trans h
    refine g_iconst (v := (-1 : Int32)) O dX7_firstTake_8 rfl ?_
    cases h
    exact g_ireturn O K dX7_firstTake_9
  · replace h := (if_neg c1).symm.trans h
    refine g_iload_n O dX7_firstTake_4 rfl 2 rfl ?_
    refine g_if_gt O dX7_firstTake_5 rfl (fun c2 => ?_) (fun c2 => ?_)
    · replace h := (if_pos c2).symm.trans h
      refine g_bipush (v := (6 : Int32)) O dX7_firstTake_10 rfl ?_
      refine g_istore_n (lv' := [(3, vI (6 : Int32)), (0, vA (some a0)), (1, vA r1), (2, vI x2)]) O dX7_firstTake_12 rfl 8 hn (by decide) rfl ?_
      refine g_aload_n O dX7_firstTake_13 rfl 2 rfl ?_
      refine g_aload_n O dX7_firstTake_14 rfl 1 rfl ?_
      obtain ⟨v3, e4, h⟩ := bo_some h
      refine g_getR O dX7_firstTake_15 fl_X7_9 rfl e4 ?_
      refine g_iload_n O dX7_firstTake_18 rfl 3 rfl ?_
      refine g_iconst (v := (1 : Int32)) O dX7_firstTake_19 rfl ?_
      refine g_isub O dX7_firstTake_20 ?_
      refine g_iconst (v := (0 : Int32)) O dX7_firstTake_21 rfl ?_
      refine g_iconst (v := (0 : Int32)) O dX7_firstTake_22 rfl ?_
      obtain ⟨v5, e6, h⟩ := bo_some h
      refine g_cS1 O R0 N dX7_firstTake_23 vl_X7_56 w1062 [vA r1, vA v3, vI (x2 - (1 : Int32)), vI (0 : Int32), vI (0 : Int32)] rfl rfl rfl ⟨Nat.le_of_ble_eq_true rfl, Nat.le_of_ble_eq_true rfl⟩ (c_X7_lead l0 12 r1 v3 (x2 - (1 : Int32)) (0 : Int32) (0 : Int32) σ v5 e6) ?_
      refine g_ineg O dX7_firstTake_26 ?_
      refine g_istore (lv' := [(4, vI (-v5)), (3, vI (6 : Int32)), (0, vA (some a0)), (1, vA r1), (2, vI x2)]) O dX7_firstTake_27 8 hn (by decide) rfl ?_
      refine g_iconst (v := (5 : Int32)) O dX7_firstTake_29 rfl ?_
      refine g_istore (lv' := [(5, vI (5 : Int32)), (4, vI (-v5)), (3, vI (6 : Int32)), (0, vA (some a0)), (1, vA r1), (2, vI x2)]) O dX7_firstTake_30 8 hn (by decide) rfl ?_
      refine g_sub [3, 4, 5, 2, 1, 0] (lv' := [(0, vA (some a0)), (1, vA r1), (2, vI x2), (3, vI (6 : Int32)), (4, vI (-v5)), (5, vI (5 : Int32))]) rfl ?_
      obtain ⟨w7, e8, h⟩ := bo_some h
      refine iter_G (P := P_X7_firstTake_32 M a0 r1 x2 σ) (E := E_X7_firstTake_32 M a0 r1 x2 σ) (fun s o hb hk => t_X7_firstTake_L32 O R0 N hn a0 r1 x2 s.1 s.2.1 s.2.2 σ o hb hk) FU ((6 : Int32), (-v5), (5 : Int32)) w7 e8 ?_
      show G M 0 0 121 [(3, vI w7)] [] SX σ
      refine g_iload_n O dX7_firstTake_121 rfl 0 rfl ?_
      cases h
      exact g_ireturn O K dX7_firstTake_122
    · replace h := (if_neg c2).symm.trans h
      refine g_iconst (v := (-1 : Int32)) O dX7_firstTake_8 rfl ?_
      cases h
      exact g_ireturn O K dX7_firstTake_9
theorem c_X7_firstTake (l0 : Launch) (a0 : Nat) (r1 : Option Nat) (x2 : Int32) (σ : Dt) (r : Int32) (h : f_X7_firstTake a0 r1 x2 σ = some r) : Ctr l0 yX7_firstTake cX7_firstTake 8 (some .int) false 15 1429 0 0 [vA (some a0), vA r1, vI x2] SX σ SX σ (some (vI r)) := ctr_of (by decide) (Nat.le_of_ble_eq_true rfl) (fun M O F R0 N hn => t_X7_firstTake O R0 N hn a0 r1 x2 σ r h F)
def f_X7_leadOf (a0 : Nat) (r1 : Option Nat) (x2 : Int32) (σ : Dt) : Option Int32 := bo (xgr SX 7 0 (some a0) σ) fun v1 => bo (f_X7_lead 12 r1 v1 x2 (0 : Int32) (0 : Int32) σ) fun v3 => some v3
theorem t_X7_leadOf {M : Mx} {l0 : Launch} (O : Ok M cX7_leadOf yX7_leadOf) (R0 : Rm M l0 15 1429 0 0) (N : Ma M = false) (hn : Mn M = 3) (a0 : Nat) (r1 : Option Nat) (x2 : Int32) (σ : Dt) (o : Int32) (h : f_X7_leadOf a0 r1 x2 σ = some o) (K : Fin' M (some .int) 0 0 SX σ (some (vI o))) : G M 0 0 0 [(0, vA (some a0)), (1, vA r1), (2, vI x2)] [] SX σ := by
  unfold f_X7_leadOf at h
  refine g_aload_n O dX7_leadOf_0 rfl 1 rfl ?_
  refine g_aload_n O dX7_leadOf_1 rfl 0 rfl ?_
  obtain ⟨v1, e2, h⟩ := bo_some h
  refine g_getR O dX7_leadOf_2 fl_X7_9 rfl e2 ?_
  refine g_iload_n O dX7_leadOf_5 rfl 2 rfl ?_
  refine g_iconst (v := (0 : Int32)) O dX7_leadOf_6 rfl ?_
  refine g_iconst (v := (0 : Int32)) O dX7_leadOf_7 rfl ?_
  obtain ⟨v3, e4, h⟩ := bo_some h
  refine g_cS1 O R0 N dX7_leadOf_8 vl_X7_56 w1062 [vA r1, vA v1, vI x2, vI (0 : Int32), vI (0 : Int32)] rfl rfl rfl ⟨Nat.le_of_ble_eq_true rfl, Nat.le_of_ble_eq_true rfl⟩ (c_X7_lead l0 12 r1 v1 x2 (0 : Int32) (0 : Int32) σ v3 e4) ?_
  cases h
  exact g_ireturn O K dX7_leadOf_11
theorem c_X7_leadOf (l0 : Launch) (a0 : Nat) (r1 : Option Nat) (x2 : Int32) (σ : Dt) (r : Int32) (h : f_X7_leadOf a0 r1 x2 σ = some r) : Ctr l0 yX7_leadOf cX7_leadOf 3 (some .int) false 15 1429 0 0 [vA (some a0), vA r1, vI x2] SX σ SX σ (some (vI r)) := ctr_of (by decide) (Nat.le_of_ble_eq_true rfl) (fun M O F R0 N hn => t_X7_leadOf O R0 N hn a0 r1 x2 σ r h F)
def f_X11_dare (a0 : Nat) (x1 : Int32) (x2 : Int32) (x3 : Int32) (σ : Dt) : Option (Int32 × Dt) := bo (xgr SX 11 0 (some a0) σ) fun v1 => bo (xrc SX 8 v1) fun a3 => bo (f_X8_valleyAt a3 x1 σ) fun v5 => if v5 = none then some ((-999 : Int32), σ) else if x2 < 0 then some ((-999 : Int32), σ) else if x2 ≤ (4 : Int32) then bo (xgr SX 11 6 (some a0) σ) fun v10 => bo (xrc SX 7 v10) fun a12 => bd (f_X7_hear a12 v5 (9 : Int32) σ) fun v14 σ15 => if x3 = 0 then bo (xgr SX 11 6 (some a0) σ15) fun v18 => bo (xrc SX 7 v18) fun a20 => bo (f_X7_leadOf a20 v5 x2 σ15) fun v22 => some (v22, σ15) else bo (xgr SX 11 6 (some a0) σ15) fun v24 => bo (xrc SX 7 v24) fun a26 => bo (f_X7_firstTake a26 v5 x2 σ15) fun v28 => some (v28, σ15) else some ((-999 : Int32), σ)
theorem t_X11_dare {M : Mx} {l0 : Launch} (O : Ok M cX11_dare yX11_dare) (R0 : Rm M l0 16 1456 0 0) (N : Ma M = false) (hn : Mn M = 5) (a0 : Nat) (x1 : Int32) (x2 : Int32) (x3 : Int32) (σ : Dt) (o : (Int32 × Dt)) (h : f_X11_dare a0 x1 x2 x3 σ = some o) (K : Fin' M (some .int) 0 0 SX o.2 (some (vI o.1))) : G M 0 0 0 [(0, vA (some a0)), (1, vI x1), (2, vI x2), (3, vI x3)] [] SX σ := by
  unfold f_X11_dare at h
  refine g_aload_n O dX11_dare_0 rfl 0 rfl ?_
  obtain ⟨v1, e2, h⟩ := bo_some h
  refine g_getR O dX11_dare_1 fl_X11_12 rfl e2 ?_
  refine g_iload_n O dX11_dare_4 rfl 1 rfl ?_
  obtain ⟨a3, e4, h⟩ := bo_some h
  obtain ⟨v5, e6, h⟩ := bo_some h
  refine g_cV1 O R0 N dX11_dare_5 vl_X11_105 vv_X8_valleyAt e4 [vI x1] rfl rfl rfl ⟨Nat.le_of_ble_eq_true rfl, Nat.le_of_ble_eq_true rfl⟩ (c_X8_valleyAt l0 a3 x1 σ v5 e6) ?_
  refine g_astore (lv' := [(4, vA v5), (0, vA (some a0)), (1, vI x1), (2, vI x2), (3, vI x3)]) O dX11_dare_8 5 hn (by decide) rfl ?_
  refine g_aload O dX11_dare_10 0 rfl ?_
  refine g_ifnull O dX11_dare_12 rfl (fun c7 => ?_) (fun c7 => ?_)
  · replace h := (if_pos c7).symm.trans h
    refine g_sipush (v := (-999 : Int32)) O dX11_dare_24 rfl ?_
    cases h
    exact g_ireturn O K dX11_dare_27
  · replace h := (if_neg c7).symm.trans h
    refine g_iload_n O dX11_dare_15 rfl 3 rfl ?_
    refine g_if_lt O dX11_dare_16 rfl (fun c8 => ?_) (fun c8 => ?_)
    · replace h := (if_pos c8).symm.trans h
      refine g_sipush (v := (-999 : Int32)) O dX11_dare_24 rfl ?_
      cases h
      exact g_ireturn O K dX11_dare_27
    · replace h := (if_neg c8).symm.trans h
      refine g_iload_n O dX11_dare_19 rfl 3 rfl ?_
      refine g_iconst (v := (4 : Int32)) O dX11_dare_20 rfl ?_
      refine g_icmp_le O dX11_dare_21 rfl (fun c9 => ?_) (fun c9 => ?_)
      · replace h := (if_pos c9).symm.trans h
        refine g_aload_n O dX11_dare_28 rfl 1 rfl ?_
        obtain ⟨v10, e11, h⟩ := bo_some h
        refine g_getR O dX11_dare_29 fl_X11_48 rfl e11 ?_
        refine g_aload O dX11_dare_32 0 rfl ?_
        refine g_bipush (v := (9 : Int32)) O dX11_dare_34 rfl ?_
        obtain ⟨a12, e13, h⟩ := bo_some h
        obtain ⟨v14, σ15, e16, h⟩ := bd_some h
        refine g_cV0 O R0 N dX11_dare_36 vl_X11_146 vv_X7_hear e13 [vA v5, vI (9 : Int32)] rfl rfl rfl ⟨Nat.le_of_ble_eq_true rfl, Nat.le_of_ble_eq_true rfl⟩ (c_X7_hear l0 a12 v5 (9 : Int32) σ v14 σ15 e16) ?_
        refine g_iload_n O dX11_dare_39 rfl 4 rfl ?_
        refine g_if_eq O dX11_dare_40 rfl (fun c17 => ?_) (fun c17 => ?_)
        · replace h := (if_pos c17).symm.trans h
          refine g_aload_n O dX11_dare_56 rfl 1 rfl ?_
          obtain ⟨v18, e19, h⟩ := bo_some h
          refine g_getR O dX11_dare_57 fl_X11_48 rfl e19 ?_
          refine g_aload O dX11_dare_60 0 rfl ?_
          refine g_iload_n O dX11_dare_62 rfl 3 rfl ?_
          obtain ⟨a20, e21, h⟩ := bo_some h
          obtain ⟨v22, e23, h⟩ := bo_some h
          refine g_cV1 O R0 N dX11_dare_63 vl_X11_166 vv_X7_leadOf e21 [vA v5, vI x2] rfl rfl rfl ⟨Nat.le_of_ble_eq_true rfl, Nat.le_of_ble_eq_true rfl⟩ (c_X7_leadOf l0 a20 v5 x2 σ15 v22 e23) ?_
          cases h
          exact g_ireturn O K dX11_dare_66
        · replace h := (if_neg c17).symm.trans h
          refine g_aload_n O dX11_dare_43 rfl 1 rfl ?_
          obtain ⟨v24, e25, h⟩ := bo_some h
          refine g_getR O dX11_dare_44 fl_X11_48 rfl e25 ?_
          refine g_aload O dX11_dare_47 0 rfl ?_
          refine g_iload_n O dX11_dare_49 rfl 3 rfl ?_
          obtain ⟨a26, e27, h⟩ := bo_some h
          obtain ⟨v28, e29, h⟩ := bo_some h
          refine g_cV1 O R0 N dX11_dare_50 vl_X11_162 vv_X7_firstTake e27 [vA v5, vI x2] rfl rfl rfl ⟨Nat.le_of_ble_eq_true rfl, Nat.le_of_ble_eq_true rfl⟩ (c_X7_firstTake l0 a26 v5 x2 σ15 v28 e29) ?_
          refine g_goto O dX11_dare_53 rfl ?_
          cases h
          exact g_ireturn O K dX11_dare_66
      · replace h := (if_neg c9).symm.trans h
        refine g_sipush (v := (-999 : Int32)) O dX11_dare_24 rfl ?_
        cases h
        exact g_ireturn O K dX11_dare_27
theorem c_X11_dare (l0 : Launch) (a0 : Nat) (x1 : Int32) (x2 : Int32) (x3 : Int32) (σ : Dt) (r : Int32) (σ' : Dt) (h : f_X11_dare a0 x1 x2 x3 σ = some (r, σ')) : Ctr l0 yX11_dare cX11_dare 5 (some .int) false 16 1456 0 0 [vA (some a0), vI x1, vI x2, vI x3] SX σ SX σ' (some (vI r)) := ctr_of (by decide) (Nat.le_of_ble_eq_true rfl) (fun M O F R0 N hn => t_X11_dare O R0 N hn a0 x1 x2 x3 σ (r, σ') h F)
def P_X1_handsAlone_30 (M : Mx) (r0 : Option Nat) (x2 : Int32) (x3 : Int32) (x4 : Int32) (σ : Dt) (s : (Int32 × Int32 × Int32)) : Prop := G M 0 0 30 [(0, vA r0), (2, vI x2), (3, vI x3), (4, vI x4), (5, vI s.1), (6, vI s.2.1), (7, vI s.2.2)] [] SX σ
def E_X1_handsAlone_30 (M : Mx) (r0 : Option Nat) (x2 : Int32) (x3 : Int32) (x4 : Int32) (σ : Dt) : (Int32 × Int32) → Prop := (fun w => G M 0 0 86 [(0, vA r0), (2, vI x2), (3, vI x3), (4, vI x4), (5, vI w.1), (6, vI w.2)] [] SX σ)
def f_X1_handsAlone_80 (r0 : Option Nat) (x2 : Int32) (x3 : Int32) (x4 : Int32) (x5 : Int32) (x6 : Int32) (x7 : Int32) (σ : Dt) : Option ((Int32 × Int32 × Int32) ⊕ (Int32 × Int32)) := some (.inl (x5, x6, (x7 + (1 : Int32))))
theorem t_X1_handsAlone_80 {M : Mx} {l0 : Launch} (O : Ok M cX1_handsAlone yX1_handsAlone) (R0 : Rm M l0 2 80 0 0) (N : Ma M = false) (hn : Mn M = 8)  (r0 : Option Nat) (x2 : Int32) (x3 : Int32) (x4 : Int32) (x5 : Int32) (x6 : Int32) (x7 : Int32) (σ : Dt) (o : ((Int32 × Int32 × Int32) ⊕ (Int32 × Int32))) (h : f_X1_handsAlone_80 r0 x2 x3 x4 x5 x6 x7 σ = some o) (K : kon (P_X1_handsAlone_30 M r0 x2 x3 x4 σ) (E_X1_handsAlone_30 M r0 x2 x3 x4 σ) o) : G M 0 0 80 [(0, vA r0), (2, vI x2), (3, vI x3), (4, vI x4), (5, vI x5), (6, vI x6), (7, vI x7)] [] SX σ := by
  unfold f_X1_handsAlone_80 at h
  refine g_iinc (v := (x7 + (1 : Int32))) (lv' := [(7, vI (x7 + (1 : Int32))), (0, vA r0), (2, vI x2), (3, vI x3), (4, vI x4), (5, vI x5), (6, vI x6)]) O dX1_handsAlone_80 8 hn (by decide) 6 rfl rfl rfl ?_
  refine g_goto O dX1_handsAlone_83 rfl ?_
  refine g_sub [1, 2, 3, 4, 5, 6, 0] (lv' := [(0, vA r0), (2, vI x2), (3, vI x3), (4, vI x4), (5, vI x5), (6, vI x6), (7, vI (x7 + (1 : Int32)))]) rfl ?_
  cases h
  exact K
def f_X1_handsAlone_L30 (r0 : Option Nat) (x2 : Int32) (x3 : Int32) (x4 : Int32) (x5 : Int32) (x6 : Int32) (x7 : Int32) (σ : Dt) : Option ((Int32 × Int32 × Int32) ⊕ (Int32 × Int32)) := bo (xgi SX 9 0 r0 σ) fun v1 => if v1 ≤ x7 then some (.inr (x5, x6)) else if (10 : Int32) ≤ x7 then some (.inr (x5, x6)) else if ((x3 >>> (x7 &&& 31)) &&& (1 : Int32)) = 0 then bo (xgr SX 9 4 r0 σ) fun v6 => bo (xai SX v6 x7 σ) fun v8 => if v8 ≤ x6 then f_X1_handsAlone_80 r0 x2 x3 x4 x5 x6 x7 σ else bo (xgr SX 9 4 r0 σ) fun v11 => bo (xai SX v11 x7 σ) fun v13 => f_X1_handsAlone_80 r0 x2 x3 x4 x7 v13 x7 σ else f_X1_handsAlone_80 r0 x2 x3 x4 x5 x6 x7 σ
theorem t_X1_handsAlone_L30 {M : Mx} {l0 : Launch} (O : Ok M cX1_handsAlone yX1_handsAlone) (R0 : Rm M l0 2 80 0 0) (N : Ma M = false) (hn : Mn M = 8) (r0 : Option Nat) (x2 : Int32) (x3 : Int32) (x4 : Int32) (x5 : Int32) (x6 : Int32) (x7 : Int32) (σ : Dt) (o : ((Int32 × Int32 × Int32) ⊕ (Int32 × Int32))) (h : f_X1_handsAlone_L30 r0 x2 x3 x4 x5 x6 x7 σ = some o) (K : kon (P_X1_handsAlone_30 M r0 x2 x3 x4 σ) (E_X1_handsAlone_30 M r0 x2 x3 x4 σ) o) : G M 0 0 30 [(0, vA r0), (2, vI x2), (3, vI x3), (4, vI x4), (5, vI x5), (6, vI x6), (7, vI x7)] [] SX σ := by
  unfold f_X1_handsAlone_L30 at h
  refine g_iload O dX1_handsAlone_30 6 rfl ?_
  refine g_aload_n O dX1_handsAlone_32 rfl 0 rfl ?_
  obtain ⟨v1, e2, h⟩ := bo_some h
  refine g_getI O dX1_handsAlone_33 fl_X1_96 rfl e2 ?_
  refine g_icmp_ge O dX1_handsAlone_36 rfl (fun c3 => ?_) (fun c3 => ?_)
  · replace h := (if_pos c3).symm.trans h
    refine g_sub [0, 1, 2, 3, 4, 5] (lv' := [(0, vA r0), (2, vI x2), (3, vI x3), (4, vI x4), (5, vI x5), (6, vI x6)]) rfl ?_
    cases h
    exact K
  · replace h := (if_neg c3).symm.trans h
    refine g_iload O dX1_handsAlone_39 6 rfl ?_
    refine g_bipush (v := (10 : Int32)) O dX1_handsAlone_41 rfl ?_
    refine g_icmp_ge O dX1_handsAlone_43 rfl (fun c4 => ?_) (fun c4 => ?_)
    · replace h := (if_pos c4).symm.trans h
      refine g_sub [0, 1, 2, 3, 4, 5] (lv' := [(0, vA r0), (2, vI x2), (3, vI x3), (4, vI x4), (5, vI x5), (6, vI x6)]) rfl ?_
      cases h
      exact K
    · replace h := (if_neg c4).symm.trans h
      refine g_iload_n O dX1_handsAlone_46 rfl 2 rfl ?_
      refine g_iload O dX1_handsAlone_47 6 rfl ?_
      refine g_ishr O dX1_handsAlone_49 ?_
      refine g_iconst (v := (1 : Int32)) O dX1_handsAlone_50 rfl ?_
      refine g_iand O dX1_handsAlone_51 ?_
      refine g_if_ne O dX1_handsAlone_52 rfl (fun c5 => ?_) (fun c5 => ?_)
      · replace h := (if_pos c5).symm.trans h
        refine g_aload_n O dX1_handsAlone_55 rfl 0 rfl ?_
        obtain ⟨v6, e7, h⟩ := bo_some h
        refine g_getR O dX1_handsAlone_56 fl_X1_99 rfl e7 ?_
        refine g_iload O dX1_handsAlone_59 6 rfl ?_
        obtain ⟨v8, e9, h⟩ := bo_some h
        refine g_iaload O dX1_handsAlone_61 e9 ?_
        refine g_iload O dX1_handsAlone_62 5 rfl ?_
        refine g_icmp_le O dX1_handsAlone_64 rfl (fun c10 => ?_) (fun c10 => ?_)
        · replace h := (if_pos c10).symm.trans h
          exact t_X1_handsAlone_80 O R0 N hn r0 x2 x3 x4 x5 x6 x7 σ o h K
        · replace h := (if_neg c10).symm.trans h
          refine g_aload_n O dX1_handsAlone_67 rfl 0 rfl ?_
          obtain ⟨v11, e12, h⟩ := bo_some h
          refine g_getR O dX1_handsAlone_68 fl_X1_99 rfl e12 ?_
          refine g_iload O dX1_handsAlone_71 6 rfl ?_
          obtain ⟨v13, e14, h⟩ := bo_some h
          refine g_iaload O dX1_handsAlone_73 e14 ?_
          refine g_istore (lv' := [(6, vI v13), (0, vA r0), (2, vI x2), (3, vI x3), (4, vI x4), (5, vI x5), (7, vI x7)]) O dX1_handsAlone_74 8 hn (by decide) rfl ?_
          refine g_iload O dX1_handsAlone_76 6 rfl ?_
          refine g_istore (lv' := [(5, vI x7), (6, vI v13), (0, vA r0), (2, vI x2), (3, vI x3), (4, vI x4), (7, vI x7)]) O dX1_handsAlone_78 8 hn (by decide) rfl ?_
          refine g_sub [2, 3, 4, 5, 0, 1, 6] (lv' := [(0, vA r0), (2, vI x2), (3, vI x3), (4, vI x4), (5, vI x7), (6, vI v13), (7, vI x7)]) rfl ?_
          exact t_X1_handsAlone_80 O R0 N hn r0 x2 x3 x4 x7 v13 x7 σ o h K
      · replace h := (if_neg c5).symm.trans h
        exact t_X1_handsAlone_80 O R0 N hn r0 x2 x3 x4 x5 x6 x7 σ o h K
def P_X1_handsAlone_7 (M : Mx) (r0 : Option Nat) (σ : Dt) (s : (Int32 × Int32 × Int32)) : Prop := G M 0 0 7 [(0, vA r0), (2, vI s.1), (3, vI s.2.1), (4, vI s.2.2)] [] SX σ
def E_X1_handsAlone_7 (M : Mx) (r0 : Option Nat) (σ : Dt) : (Int32 ⊕ Unit) → Prop := (el (fun w => G M 0 0 18 [(4, vI w)] [] SX σ) (fun w => G M 0 0 114 [] [] SX σ))
def f_X1_handsAlone_101 (r0 : Option Nat) (x2 : Int32) (x4 : Int32) (x6 : Int32) (k0 : Int32) (k1 : Int32) (σ : Dt) : Option ((Int32 × Int32 × Int32) ⊕ (Int32 ⊕ Unit)) := some (.inl ((x2 - x6), (k0 ||| k1), (x4 + (1 : Int32))))
theorem t_X1_handsAlone_101 {M : Mx} {l0 : Launch} (O : Ok M cX1_handsAlone yX1_handsAlone) (R0 : Rm M l0 2 80 0 0) (N : Ma M = false) (hn : Mn M = 8)  (r0 : Option Nat) (x2 : Int32) (x4 : Int32) (x6 : Int32) (k0 : Int32) (k1 : Int32) (σ : Dt) (o : ((Int32 × Int32 × Int32) ⊕ (Int32 ⊕ Unit))) (h : f_X1_handsAlone_101 r0 x2 x4 x6 k0 k1 σ = some o) (K : kon (P_X1_handsAlone_7 M r0 σ) (E_X1_handsAlone_7 M r0 σ) o) : G M 0 0 101 [(0, vA r0), (2, vI x2), (4, vI x4), (6, vI x6)] [vI k1, vI k0] SX σ := by
  unfold f_X1_handsAlone_101 at h
  refine g_ior O dX1_handsAlone_101 ?_
  refine g_istore_n (lv' := [(3, vI (k0 ||| k1)), (0, vA r0), (2, vI x2), (4, vI x4), (6, vI x6)]) O dX1_handsAlone_102 rfl 8 hn (by decide) rfl ?_
  refine g_iload_n O dX1_handsAlone_103 rfl 2 rfl ?_
  refine g_iload O dX1_handsAlone_104 4 rfl ?_
  refine g_isub O dX1_handsAlone_106 ?_
  refine g_istore_n (lv' := [(2, vI (x2 - x6)), (3, vI (k0 ||| k1)), (0, vA r0), (4, vI x4), (6, vI x6)]) O dX1_handsAlone_107 rfl 8 hn (by decide) rfl ?_
  refine g_iinc (v := (x4 + (1 : Int32))) (lv' := [(4, vI (x4 + (1 : Int32))), (2, vI (x2 - x6)), (3, vI (k0 ||| k1)), (0, vA r0), (6, vI x6)]) O dX1_handsAlone_108 8 hn (by decide) 3 rfl rfl rfl ?_
  refine g_goto O dX1_handsAlone_111 rfl ?_
  refine g_sub [3, 1, 2, 0] (lv' := [(0, vA r0), (2, vI (x2 - x6)), (3, vI (k0 ||| k1)), (4, vI (x4 + (1 : Int32)))]) rfl ?_
  cases h
  exact K
def f_X1_handsAlone_86 (r0 : Option Nat) (x2 : Int32) (x3 : Int32) (x4 : Int32) (x5 : Int32) (x6 : Int32) (σ : Dt) : Option ((Int32 × Int32 × Int32) ⊕ (Int32 ⊕ Unit)) := if x5 = (-1 : Int32) then f_X1_handsAlone_101 r0 x2 x4 x6 x3 (0 : Int32) σ else f_X1_handsAlone_101 r0 x2 x4 x6 x3 ((1 : Int32) <<< (x5 &&& 31)) σ
theorem t_X1_handsAlone_86 {M : Mx} {l0 : Launch} (O : Ok M cX1_handsAlone yX1_handsAlone) (R0 : Rm M l0 2 80 0 0) (N : Ma M = false) (hn : Mn M = 8)  (r0 : Option Nat) (x2 : Int32) (x3 : Int32) (x4 : Int32) (x5 : Int32) (x6 : Int32) (σ : Dt) (o : ((Int32 × Int32 × Int32) ⊕ (Int32 ⊕ Unit))) (h : f_X1_handsAlone_86 r0 x2 x3 x4 x5 x6 σ = some o) (K : kon (P_X1_handsAlone_7 M r0 σ) (E_X1_handsAlone_7 M r0 σ) o) : G M 0 0 86 [(0, vA r0), (2, vI x2), (3, vI x3), (4, vI x4), (5, vI x5), (6, vI x6)] [] SX σ := by
  unfold f_X1_handsAlone_86 at h
  refine g_iload_n O dX1_handsAlone_86 rfl 2 rfl ?_
  refine g_iload O dX1_handsAlone_87 4 rfl ?_
  refine g_iconst (v := (-1 : Int32)) O dX1_handsAlone_89 rfl ?_
  refine g_icmp_ne O dX1_handsAlone_90 rfl (fun c1 => ?_) (fun c1 => ?_)
  · replace h := (if_pos c1).symm.trans h
    refine g_iconst (v := (0 : Int32)) O dX1_handsAlone_93 rfl ?_
    refine g_goto O dX1_handsAlone_94 rfl ?_
    refine g_sub [0, 1, 3, 5] (lv' := [(0, vA r0), (2, vI x2), (4, vI x4), (6, vI x6)]) rfl ?_
    exact t_X1_handsAlone_101 O R0 N hn r0 x2 x4 x6 x3 (0 : Int32) σ o h K
  · replace h := (if_neg c1).symm.trans h
    refine g_iconst (v := (1 : Int32)) O dX1_handsAlone_97 rfl ?_
    refine g_iload O dX1_handsAlone_98 4 rfl ?_
    refine g_ishl O dX1_handsAlone_100 ?_
    refine g_sub [0, 1, 3, 5] (lv' := [(0, vA r0), (2, vI x2), (4, vI x4), (6, vI x6)]) rfl ?_
    exact t_X1_handsAlone_101 O R0 N hn r0 x2 x4 x6 x3 ((1 : Int32) <<< (x5 &&& 31)) σ o h K
def f_X1_handsAlone_L7 (r0 : Option Nat) (x2 : Int32) (x3 : Int32) (x4 : Int32) (σ : Dt) : Option ((Int32 × Int32 × Int32) ⊕ (Int32 ⊕ Unit)) := if (10 : Int32) < x4 then some (.inr (.inr ())) else if 0 < x2 then bo (iter FU (fun s => f_X1_handsAlone_L30 r0 x2 x3 x4 s.1 s.2.1 s.2.2 σ) ((-1 : Int32), (0 : Int32), (0 : Int32))) fun w3 => f_X1_handsAlone_86 r0 x2 x3 x4 w3.1 w3.2 σ else some (.inr (.inl x4))
theorem t_X1_handsAlone_L7 {M : Mx} {l0 : Launch} (O : Ok M cX1_handsAlone yX1_handsAlone) (R0 : Rm M l0 2 80 0 0) (N : Ma M = false) (hn : Mn M = 8) (r0 : Option Nat) (x2 : Int32) (x3 : Int32) (x4 : Int32) (σ : Dt) (o : ((Int32 × Int32 × Int32) ⊕ (Int32 ⊕ Unit))) (h : f_X1_handsAlone_L7 r0 x2 x3 x4 σ = some o) (K : kon (P_X1_handsAlone_7 M r0 σ) (E_X1_handsAlone_7 M r0 σ) o) : G M 0 0 7 [(0, vA r0), (2, vI x2), (3, vI x3), (4, vI x4)] [] SX σ := by
  unfold f_X1_handsAlone_L7 at h
  refine g_iload O dX1_handsAlone_7 3 rfl ?_
  refine g_bipush (v := (10 : Int32)) O dX1_handsAlone_9 rfl ?_
  refine g_icmp_gt O dX1_handsAlone_11 rfl (fun c1 => ?_) (fun c1 => ?_)
  · replace h := (if_pos c1).symm.trans h
    refine g_sub [] (lv' := []) rfl ?_
    cases h
    exact K
  · replace h := (if_neg c1).symm.trans h
    refine g_iload_n O dX1_handsAlone_14 rfl 1 rfl ?_
    refine g_if_gt O dX1_handsAlone_15 rfl (fun c2 => ?_) (fun c2 => ?_)
    · replace h := (if_pos c2).symm.trans h
      refine g_iconst (v := (-1 : Int32)) O dX1_handsAlone_21 rfl ?_
      refine g_istore (lv' := [(5, vI (-1 : Int32)), (0, vA r0), (2, vI x2), (3, vI x3), (4, vI x4)]) O dX1_handsAlone_22 8 hn (by decide) rfl ?_
      refine g_iconst (v := (0 : Int32)) O dX1_handsAlone_24 rfl ?_
      refine g_istore (lv' := [(6, vI (0 : Int32)), (5, vI (-1 : Int32)), (0, vA r0), (2, vI x2), (3, vI x3), (4, vI x4)]) O dX1_handsAlone_25 8 hn (by decide) rfl ?_
      refine g_iconst (v := (0 : Int32)) O dX1_handsAlone_27 rfl ?_
      refine g_istore (lv' := [(7, vI (0 : Int32)), (6, vI (0 : Int32)), (5, vI (-1 : Int32)), (0, vA r0), (2, vI x2), (3, vI x3), (4, vI x4)]) O dX1_handsAlone_28 8 hn (by decide) rfl ?_
      refine g_sub [3, 4, 5, 6, 2, 1, 0] (lv' := [(0, vA r0), (2, vI x2), (3, vI x3), (4, vI x4), (5, vI (-1 : Int32)), (6, vI (0 : Int32)), (7, vI (0 : Int32))]) rfl ?_
      obtain ⟨w3, e4, h⟩ := bo_some h
      refine iter_G (P := P_X1_handsAlone_30 M r0 x2 x3 x4 σ) (E := E_X1_handsAlone_30 M r0 x2 x3 x4 σ) (fun s o hb hk => t_X1_handsAlone_L30 O R0 N hn r0 x2 x3 x4 s.1 s.2.1 s.2.2 σ o hb hk) FU ((-1 : Int32), (0 : Int32), (0 : Int32)) w3 e4 ?_
      show G M 0 0 86 [(0, vA r0), (2, vI x2), (3, vI x3), (4, vI x4), (5, vI w3.1), (6, vI w3.2)] [] SX σ
      exact t_X1_handsAlone_86 O R0 N hn r0 x2 x3 x4 w3.1 w3.2 σ o h K
    · replace h := (if_neg c2).symm.trans h
      refine g_sub [3] (lv' := [(4, vI x4)]) rfl ?_
      cases h
      exact K
def f_X1_handsAlone (r0 : Option Nat) (x1 : Int32) (σ : Dt) : Option Int32 := bo (iter FU (fun s => f_X1_handsAlone_L7 r0 s.1 s.2.1 s.2.2 σ) (x1, (0 : Int32), (0 : Int32))) fun w1 => el (fun w3 => some w3) (fun w3 => some (11 : Int32)) w1
theorem t_X1_handsAlone {M : Mx} {l0 : Launch} (O : Ok M cX1_handsAlone yX1_handsAlone) (R0 : Rm M l0 2 80 0 0) (N : Ma M = false) (hn : Mn M = 8) (r0 : Option Nat) (x1 : Int32) (σ : Dt) (o : Int32) (h : f_X1_handsAlone r0 x1 σ = some o) (K : Fin' M (some .int) 0 0 SX σ (some (vI o))) : G M 0 0 0 [(0, vA r0), (1, vI x1)] [] SX σ := by
  unfold f_X1_handsAlone at h
  refine g_iload_n O dX1_handsAlone_0 rfl 1 rfl ?_
  refine g_istore_n (lv' := [(2, vI x1), (0, vA r0), (1, vI x1)]) O dX1_handsAlone_1 rfl 8 hn (by decide) rfl ?_
  refine g_iconst (v := (0 : Int32)) O dX1_handsAlone_2 rfl ?_
  refine g_istore_n (lv' := [(3, vI (0 : Int32)), (2, vI x1), (0, vA r0), (1, vI x1)]) O dX1_handsAlone_3 rfl 8 hn (by decide) rfl ?_
  refine g_iconst (v := (0 : Int32)) O dX1_handsAlone_4 rfl ?_
  refine g_istore (lv' := [(4, vI (0 : Int32)), (3, vI (0 : Int32)), (2, vI x1), (0, vA r0), (1, vI x1)]) O dX1_handsAlone_5 8 hn (by decide) rfl ?_
  refine g_sub [3, 2, 1, 0] (lv' := [(0, vA r0), (2, vI x1), (3, vI (0 : Int32)), (4, vI (0 : Int32))]) rfl ?_
  obtain ⟨w1, e2, h⟩ := bo_some h
  refine iter_G (P := P_X1_handsAlone_7 M r0 σ) (E := E_X1_handsAlone_7 M r0 σ) (fun s o hb hk => t_X1_handsAlone_L7 O R0 N hn r0 s.1 s.2.1 s.2.2 σ o hb hk) FU (x1, (0 : Int32), (0 : Int32)) w1 e2 ?_
  rcases w1 with w3 | w3
  · replace h := el_l h
    show G M 0 0 18 [(4, vI w3)] [] SX σ
    refine g_iload O dX1_handsAlone_18 0 rfl ?_
    cases h
    exact g_ireturn O K dX1_handsAlone_20
  · replace h := el_r h
    show G M 0 0 114 [] [] SX σ
    refine g_bipush (v := (11 : Int32)) O dX1_handsAlone_114 rfl ?_
    cases h
    exact g_ireturn O K dX1_handsAlone_116
theorem c_X1_handsAlone (l0 : Launch) (r0 : Option Nat) (x1 : Int32) (σ : Dt) (r : Int32) (h : f_X1_handsAlone r0 x1 σ = some r) : Ctr l0 yX1_handsAlone cX1_handsAlone 8 (some .int) false 2 80 0 0 [vA r0, vI x1] SX σ SX σ (some (vI r)) := ctr_of (by decide) (Nat.le_of_ble_eq_true rfl) (fun M O F R0 N hn => t_X1_handsAlone O R0 N hn r0 x1 σ r h F)
def P_X1_sumUp_28 (M : Mx) (r0 : Option Nat) (r1 : Option Nat) (r2 : Option Nat) (x3 : Int32) (s : (Int32 × Dt)) : Prop := G M 0 0 28 [(0, vA r0), (1, vA r1), (2, vA r2), (3, vI x3), (4, vI s.1)] [] SX s.2
def E_X1_sumUp_28 (M : Mx) (r0 : Option Nat) (r1 : Option Nat) (r2 : Option Nat) (x3 : Int32) : Dt → Prop := (fun w => G M 0 0 73 [(0, vA r0), (1, vA r1), (2, vA r2), (3, vI x3)] [] SX w)
def f_X1_sumUp_65 (r0 : Option Nat) (r1 : Option Nat) (r2 : Option Nat) (x3 : Int32) (x4 : Int32) (k0 : Option Nat) (k1 : Int32) (k2 : Int32) (k3 : Int32) (σ : Dt) : Option ((Int32 × Dt) ⊕ Dt) := bo (xsi SX k0 k1 (k2 + k3) σ) fun σ1 => some (.inl ((x4 + (1 : Int32)), σ1))
theorem t_X1_sumUp_65 {M : Mx} {l0 : Launch} (O : Ok M cX1_sumUp yX1_sumUp) (R0 : Rm M l0 2 80 0 0) (N : Ma M = false) (hn : Mn M = 5)  (r0 : Option Nat) (r1 : Option Nat) (r2 : Option Nat) (x3 : Int32) (x4 : Int32) (k0 : Option Nat) (k1 : Int32) (k2 : Int32) (k3 : Int32) (σ : Dt) (o : ((Int32 × Dt) ⊕ Dt)) (h : f_X1_sumUp_65 r0 r1 r2 x3 x4 k0 k1 k2 k3 σ = some o) (K : kon (P_X1_sumUp_28 M r0 r1 r2 x3) (E_X1_sumUp_28 M r0 r1 r2 x3) o) : G M 0 0 65 [(0, vA r0), (1, vA r1), (2, vA r2), (3, vI x3), (4, vI x4)] [vI k3, vI k2, vI k1, vA k0] SX σ := by
  unfold f_X1_sumUp_65 at h
  refine g_iadd O dX1_sumUp_65 ?_
  obtain ⟨σ1, e2, h⟩ := bo_some h
  refine g_iastore O dX1_sumUp_66 e2 ?_
  refine g_iinc (v := (x4 + (1 : Int32))) (lv' := [(4, vI (x4 + (1 : Int32))), (0, vA r0), (1, vA r1), (2, vA r2), (3, vI x3)]) O dX1_sumUp_67 5 hn (by decide) 4 rfl rfl rfl ?_
  refine g_goto O dX1_sumUp_70 rfl ?_
  refine g_sub [1, 2, 3, 4, 0] (lv' := [(0, vA r0), (1, vA r1), (2, vA r2), (3, vI x3), (4, vI (x4 + (1 : Int32)))]) rfl ?_
  cases h
  exact K
def f_X1_sumUp_L28 (r0 : Option Nat) (r1 : Option Nat) (r2 : Option Nat) (x3 : Int32) (x4 : Int32) (σ : Dt) : Option ((Int32 × Dt) ⊕ Dt) := bo (xgi SX 9 1 r0 σ) fun v1 => if v1 ≤ x4 then some (.inr σ) else bo (xln SX r1) fun v4 => if v4 ≤ x4 then some (.inr σ) else bo (xai SX r2 x3 σ) fun v7 => if ((x3 >>> (x4 &&& 31)) &&& (1 : Int32)) = 0 then f_X1_sumUp_65 r0 r1 r2 x3 x4 r2 x3 v7 (0 : Int32) σ else bo (xai SX r1 x4 σ) fun v10 => f_X1_sumUp_65 r0 r1 r2 x3 x4 r2 x3 v7 v10 σ
theorem t_X1_sumUp_L28 {M : Mx} {l0 : Launch} (O : Ok M cX1_sumUp yX1_sumUp) (R0 : Rm M l0 2 80 0 0) (N : Ma M = false) (hn : Mn M = 5) (r0 : Option Nat) (r1 : Option Nat) (r2 : Option Nat) (x3 : Int32) (x4 : Int32) (σ : Dt) (o : ((Int32 × Dt) ⊕ Dt)) (h : f_X1_sumUp_L28 r0 r1 r2 x3 x4 σ = some o) (K : kon (P_X1_sumUp_28 M r0 r1 r2 x3) (E_X1_sumUp_28 M r0 r1 r2 x3) o) : G M 0 0 28 [(0, vA r0), (1, vA r1), (2, vA r2), (3, vI x3), (4, vI x4)] [] SX σ := by
  unfold f_X1_sumUp_L28 at h
  refine g_iload O dX1_sumUp_28 4 rfl ?_
  refine g_aload_n O dX1_sumUp_30 rfl 0 rfl ?_
  obtain ⟨v1, e2, h⟩ := bo_some h
  refine g_getI O dX1_sumUp_31 fl_X1_36 rfl e2 ?_
  refine g_icmp_ge O dX1_sumUp_34 rfl (fun c3 => ?_) (fun c3 => ?_)
  · replace h := (if_pos c3).symm.trans h
    refine g_sub [0, 1, 2, 3] (lv' := [(0, vA r0), (1, vA r1), (2, vA r2), (3, vI x3)]) rfl ?_
    cases h
    exact K
  · replace h := (if_neg c3).symm.trans h
    refine g_iload O dX1_sumUp_37 4 rfl ?_
    refine g_aload_n O dX1_sumUp_39 rfl 1 rfl ?_
    obtain ⟨v4, e5, h⟩ := bo_some h
    refine g_alen O dX1_sumUp_40 e5 ?_
    refine g_icmp_ge O dX1_sumUp_41 rfl (fun c6 => ?_) (fun c6 => ?_)
    · replace h := (if_pos c6).symm.trans h
      refine g_sub [0, 1, 2, 3] (lv' := [(0, vA r0), (1, vA r1), (2, vA r2), (3, vI x3)]) rfl ?_
      cases h
      exact K
    · replace h := (if_neg c6).symm.trans h
      refine g_aload_n O dX1_sumUp_44 rfl 2 rfl ?_
      refine g_iload_n O dX1_sumUp_45 rfl 3 rfl ?_
      refine g_dup2 O dX1_sumUp_46 rfl rfl ?_
      obtain ⟨v7, e8, h⟩ := bo_some h
      refine g_iaload O dX1_sumUp_47 e8 ?_
      refine g_iload_n O dX1_sumUp_48 rfl 3 rfl ?_
      refine g_iload O dX1_sumUp_49 4 rfl ?_
      refine g_ishr O dX1_sumUp_51 ?_
      refine g_iconst (v := (1 : Int32)) O dX1_sumUp_52 rfl ?_
      refine g_iand O dX1_sumUp_53 ?_
      refine g_if_eq O dX1_sumUp_54 rfl (fun c9 => ?_) (fun c9 => ?_)
      · replace h := (if_pos c9).symm.trans h
        refine g_iconst (v := (0 : Int32)) O dX1_sumUp_64 rfl ?_
        exact t_X1_sumUp_65 O R0 N hn r0 r1 r2 x3 x4 r2 x3 v7 (0 : Int32) σ o h K
      · replace h := (if_neg c9).symm.trans h
        refine g_aload_n O dX1_sumUp_57 rfl 1 rfl ?_
        refine g_iload O dX1_sumUp_58 4 rfl ?_
        obtain ⟨v10, e11, h⟩ := bo_some h
        refine g_iaload O dX1_sumUp_60 e11 ?_
        refine g_goto O dX1_sumUp_61 rfl ?_
        exact t_X1_sumUp_65 O R0 N hn r0 r1 r2 x3 x4 r2 x3 v7 v10 σ o h K
def P_X1_sumUp_15 (M : Mx) (r0 : Option Nat) (r1 : Option Nat) (r2 : Option Nat) (s : (Int32 × Dt)) : Prop := G M 0 0 15 [(0, vA r0), (1, vA r1), (2, vA r2), (3, vI s.1)] [] SX s.2
def E_X1_sumUp_15 (M : Mx) (r0 : Option Nat) (r1 : Option Nat) (r2 : Option Nat) : Dt → Prop := (fun w => G M 0 0 79 [] [] SX w)
def f_X1_sumUp_73 (r0 : Option Nat) (r1 : Option Nat) (r2 : Option Nat) (x3 : Int32) (σ : Dt) : Option ((Int32 × Dt) ⊕ Dt) := some (.inl ((x3 + (1 : Int32)), σ))
theorem t_X1_sumUp_73 {M : Mx} {l0 : Launch} (O : Ok M cX1_sumUp yX1_sumUp) (R0 : Rm M l0 2 80 0 0) (N : Ma M = false) (hn : Mn M = 5)  (r0 : Option Nat) (r1 : Option Nat) (r2 : Option Nat) (x3 : Int32) (σ : Dt) (o : ((Int32 × Dt) ⊕ Dt)) (h : f_X1_sumUp_73 r0 r1 r2 x3 σ = some o) (K : kon (P_X1_sumUp_15 M r0 r1 r2) (E_X1_sumUp_15 M r0 r1 r2) o) : G M 0 0 73 [(0, vA r0), (1, vA r1), (2, vA r2), (3, vI x3)] [] SX σ := by
  unfold f_X1_sumUp_73 at h
  refine g_iinc (v := (x3 + (1 : Int32))) (lv' := [(3, vI (x3 + (1 : Int32))), (0, vA r0), (1, vA r1), (2, vA r2)]) O dX1_sumUp_73 5 hn (by decide) 3 rfl rfl rfl ?_
  refine g_goto O dX1_sumUp_76 rfl ?_
  refine g_sub [1, 2, 3, 0] (lv' := [(0, vA r0), (1, vA r1), (2, vA r2), (3, vI (x3 + (1 : Int32)))]) rfl ?_
  cases h
  exact K
def f_X1_sumUp_L15 (r0 : Option Nat) (r1 : Option Nat) (r2 : Option Nat) (x3 : Int32) (σ : Dt) : Option ((Int32 × Dt) ⊕ Dt) := bo (xln SX r2) fun v1 => if v1 ≤ x3 then some (.inr σ) else bo (xsi SX r2 x3 (0 : Int32) σ) fun σ4 => bo (iter FU (fun s => f_X1_sumUp_L28 r0 r1 r2 x3 s.1 s.2) ((0 : Int32), σ4)) fun w6 => f_X1_sumUp_73 r0 r1 r2 x3 w6
theorem t_X1_sumUp_L15 {M : Mx} {l0 : Launch} (O : Ok M cX1_sumUp yX1_sumUp) (R0 : Rm M l0 2 80 0 0) (N : Ma M = false) (hn : Mn M = 5) (r0 : Option Nat) (r1 : Option Nat) (r2 : Option Nat) (x3 : Int32) (σ : Dt) (o : ((Int32 × Dt) ⊕ Dt)) (h : f_X1_sumUp_L15 r0 r1 r2 x3 σ = some o) (K : kon (P_X1_sumUp_15 M r0 r1 r2) (E_X1_sumUp_15 M r0 r1 r2) o) : G M 0 0 15 [(0, vA r0), (1, vA r1), (2, vA r2), (3, vI x3)] [] SX σ := by
  unfold f_X1_sumUp_L15 at h
  refine g_iload_n O dX1_sumUp_15 rfl 3 rfl ?_
  refine g_aload_n O dX1_sumUp_16 rfl 2 rfl ?_
  obtain ⟨v1, e2, h⟩ := bo_some h
  refine g_alen O dX1_sumUp_17 e2 ?_
  refine g_icmp_ge O dX1_sumUp_18 rfl (fun c3 => ?_) (fun c3 => ?_)
  · replace h := (if_pos c3).symm.trans h
    refine g_sub [] (lv' := []) rfl ?_
    cases h
    exact K
  · replace h := (if_neg c3).symm.trans h
    refine g_aload_n O dX1_sumUp_21 rfl 2 rfl ?_
    refine g_iload_n O dX1_sumUp_22 rfl 3 rfl ?_
    refine g_iconst (v := (0 : Int32)) O dX1_sumUp_23 rfl ?_
    obtain ⟨σ4, e5, h⟩ := bo_some h
    refine g_iastore O dX1_sumUp_24 e5 ?_
    refine g_iconst (v := (0 : Int32)) O dX1_sumUp_25 rfl ?_
    refine g_istore (lv' := [(4, vI (0 : Int32)), (0, vA r0), (1, vA r1), (2, vA r2), (3, vI x3)]) O dX1_sumUp_26 5 hn (by decide) rfl ?_
    refine g_sub [1, 2, 3, 4, 0] (lv' := [(0, vA r0), (1, vA r1), (2, vA r2), (3, vI x3), (4, vI (0 : Int32))]) rfl ?_
    obtain ⟨w6, e7, h⟩ := bo_some h
    refine iter_G (P := P_X1_sumUp_28 M r0 r1 r2 x3) (E := E_X1_sumUp_28 M r0 r1 r2 x3) (fun s o hb hk => t_X1_sumUp_L28 O R0 N hn r0 r1 r2 x3 s.1 s.2 o hb hk) FU ((0 : Int32), σ4) w6 e7 ?_
    show G M 0 0 73 [(0, vA r0), (1, vA r1), (2, vA r2), (3, vI x3)] [] SX w6
    exact t_X1_sumUp_73 O R0 N hn r0 r1 r2 x3 w6 o h K
def f_X1_sumUp (r0 : Option Nat) (r1 : Option Nat) (r2 : Option Nat) (σ : Dt) : Option (Unit × Dt) := if r0 = none then some ((), σ) else if r1 = none then some ((), σ) else if r2 = none then some ((), σ) else bo (iter FU (fun s => f_X1_sumUp_L15 r0 r1 r2 s.1 s.2) ((0 : Int32), σ)) fun w4 => some ((), w4)
theorem t_X1_sumUp {M : Mx} {l0 : Launch} (O : Ok M cX1_sumUp yX1_sumUp) (R0 : Rm M l0 2 80 0 0) (N : Ma M = false) (hn : Mn M = 5) (r0 : Option Nat) (r1 : Option Nat) (r2 : Option Nat) (σ : Dt) (o : (Unit × Dt)) (h : f_X1_sumUp r0 r1 r2 σ = some o) (K : Fin' M (none) 0 0 SX o.2 (none)) : G M 0 0 0 [(0, vA r0), (1, vA r1), (2, vA r2)] [] SX σ := by
  unfold f_X1_sumUp at h
  refine g_aload_n O dX1_sumUp_0 rfl 0 rfl ?_
  refine g_ifnull O dX1_sumUp_1 rfl (fun c1 => ?_) (fun c1 => ?_)
  · replace h := (if_pos c1).symm.trans h
    cases h
    exact g_return O K dX1_sumUp_12
  · replace h := (if_neg c1).symm.trans h
    refine g_aload_n O dX1_sumUp_4 rfl 1 rfl ?_
    refine g_ifnull O dX1_sumUp_5 rfl (fun c2 => ?_) (fun c2 => ?_)
    · replace h := (if_pos c2).symm.trans h
      cases h
      exact g_return O K dX1_sumUp_12
    · replace h := (if_neg c2).symm.trans h
      refine g_aload_n O dX1_sumUp_8 rfl 2 rfl ?_
      refine g_ifnonnull O dX1_sumUp_9 rfl (fun c3 => ?_) (fun c3 => ?_)
      · replace h := (if_neg c3).symm.trans h
        refine g_iconst (v := (0 : Int32)) O dX1_sumUp_13 rfl ?_
        refine g_istore_n (lv' := [(3, vI (0 : Int32)), (0, vA r0), (1, vA r1), (2, vA r2)]) O dX1_sumUp_14 rfl 5 hn (by decide) rfl ?_
        refine g_sub [1, 2, 3, 0] (lv' := [(0, vA r0), (1, vA r1), (2, vA r2), (3, vI (0 : Int32))]) rfl ?_
        obtain ⟨w4, e5, h⟩ := bo_some h
        refine iter_G (P := P_X1_sumUp_15 M r0 r1 r2) (E := E_X1_sumUp_15 M r0 r1 r2) (fun s o hb hk => t_X1_sumUp_L15 O R0 N hn r0 r1 r2 s.1 s.2 o hb hk) FU ((0 : Int32), σ) w4 e5 ?_
        show G M 0 0 79 [] [] SX w4
        cases h
        exact g_return O K dX1_sumUp_79
      · replace h := (if_pos c3).symm.trans h
        cases h
        exact g_return O K dX1_sumUp_12
theorem c_X1_sumUp (l0 : Launch) (r0 : Option Nat) (r1 : Option Nat) (r2 : Option Nat) (σ : Dt) (r : Unit) (σ' : Dt) (h : f_X1_sumUp r0 r1 r2 σ = some (r, σ')) : Ctr l0 yX1_sumUp cX1_sumUp 5 (none) false 2 80 0 0 [vA r0, vA r1, vA r2] SX σ SX σ' (none) := ctr_of (by decide) (Nat.le_of_ble_eq_true rfl) (fun M O F R0 N hn => t_X1_sumUp O R0 N hn r0 r1 r2 σ (r, σ') h F)
def P_X9_totalStrength_4 (M : Mx) (a0 : Nat) (σ : Dt) (s : (Int32 × Int32)) : Prop := G M 0 0 4 [(0, vA (some a0)), (1, vI s.1), (2, vI s.2)] [] SX σ
def E_X9_totalStrength_4 (M : Mx) (a0 : Nat) (σ : Dt) : Int32 → Prop := (fun w => G M 0 0 33 [(1, vI w)] [] SX σ)
def f_X9_totalStrength_L4 (a0 : Nat) (x1 : Int32) (x2 : Int32) (σ : Dt) : Option ((Int32 × Int32) ⊕ Int32) := bo (xgi SX 9 0 (some a0) σ) fun v1 => if v1 ≤ x2 then some (.inr x1) else if (10 : Int32) ≤ x2 then some (.inr x1) else bo (xgr SX 9 4 (some a0) σ) fun v5 => bo (xai SX v5 x2 σ) fun v7 => some (.inl ((x1 + v7), (x2 + (1 : Int32))))
theorem t_X9_totalStrength_L4 {M : Mx} {l0 : Launch} (O : Ok M cX9_totalStrength yX9_totalStrength) (R0 : Rm M l0 2 80 0 0) (N : Ma M = false) (hn : Mn M = 3) (a0 : Nat) (x1 : Int32) (x2 : Int32) (σ : Dt) (o : ((Int32 × Int32) ⊕ Int32)) (h : f_X9_totalStrength_L4 a0 x1 x2 σ = some o) (K : kon (P_X9_totalStrength_4 M a0 σ) (E_X9_totalStrength_4 M a0 σ) o) : G M 0 0 4 [(0, vA (some a0)), (1, vI x1), (2, vI x2)] [] SX σ := by
  unfold f_X9_totalStrength_L4 at h
  refine g_iload_n O dX9_totalStrength_4 rfl 2 rfl ?_
  refine g_aload_n O dX9_totalStrength_5 rfl 0 rfl ?_
  obtain ⟨v1, e2, h⟩ := bo_some h
  refine g_getI O dX9_totalStrength_6 fl_X9_33 rfl e2 ?_
  refine g_icmp_ge O dX9_totalStrength_9 rfl (fun c3 => ?_) (fun c3 => ?_)
  · replace h := (if_pos c3).symm.trans h
    refine g_sub [1] (lv' := [(1, vI x1)]) rfl ?_
    cases h
    exact K
  · replace h := (if_neg c3).symm.trans h
    refine g_iload_n O dX9_totalStrength_12 rfl 2 rfl ?_
    refine g_bipush (v := (10 : Int32)) O dX9_totalStrength_13 rfl ?_
    refine g_icmp_ge O dX9_totalStrength_15 rfl (fun c4 => ?_) (fun c4 => ?_)
    · replace h := (if_pos c4).symm.trans h
      refine g_sub [1] (lv' := [(1, vI x1)]) rfl ?_
      cases h
      exact K
    · replace h := (if_neg c4).symm.trans h
      refine g_iload_n O dX9_totalStrength_18 rfl 1 rfl ?_
      refine g_aload_n O dX9_totalStrength_19 rfl 0 rfl ?_
      obtain ⟨v5, e6, h⟩ := bo_some h
      refine g_getR O dX9_totalStrength_20 fl_X9_15 rfl e6 ?_
      refine g_iload_n O dX9_totalStrength_23 rfl 2 rfl ?_
      obtain ⟨v7, e8, h⟩ := bo_some h
      refine g_iaload O dX9_totalStrength_24 e8 ?_
      refine g_iadd O dX9_totalStrength_25 ?_
      refine g_istore_n (lv' := [(1, vI (x1 + v7)), (0, vA (some a0)), (2, vI x2)]) O dX9_totalStrength_26 rfl 3 hn (by decide) rfl ?_
      refine g_iinc (v := (x2 + (1 : Int32))) (lv' := [(2, vI (x2 + (1 : Int32))), (1, vI (x1 + v7)), (0, vA (some a0))]) O dX9_totalStrength_27 3 hn (by decide) 2 rfl rfl rfl ?_
      refine g_goto O dX9_totalStrength_30 rfl ?_
      refine g_sub [2, 1, 0] (lv' := [(0, vA (some a0)), (1, vI (x1 + v7)), (2, vI (x2 + (1 : Int32)))]) rfl ?_
      cases h
      exact K
def f_X9_totalStrength (a0 : Nat) (σ : Dt) : Option Int32 := bo (iter FU (fun s => f_X9_totalStrength_L4 a0 s.1 s.2 σ) ((0 : Int32), (0 : Int32))) fun w1 => some w1
theorem t_X9_totalStrength {M : Mx} {l0 : Launch} (O : Ok M cX9_totalStrength yX9_totalStrength) (R0 : Rm M l0 2 80 0 0) (N : Ma M = false) (hn : Mn M = 3) (a0 : Nat) (σ : Dt) (o : Int32) (h : f_X9_totalStrength a0 σ = some o) (K : Fin' M (some .int) 0 0 SX σ (some (vI o))) : G M 0 0 0 [(0, vA (some a0))] [] SX σ := by
  unfold f_X9_totalStrength at h
  refine g_iconst (v := (0 : Int32)) O dX9_totalStrength_0 rfl ?_
  refine g_istore_n (lv' := [(1, vI (0 : Int32)), (0, vA (some a0))]) O dX9_totalStrength_1 rfl 3 hn (by decide) rfl ?_
  refine g_iconst (v := (0 : Int32)) O dX9_totalStrength_2 rfl ?_
  refine g_istore_n (lv' := [(2, vI (0 : Int32)), (1, vI (0 : Int32)), (0, vA (some a0))]) O dX9_totalStrength_3 rfl 3 hn (by decide) rfl ?_
  refine g_sub [2, 1, 0] (lv' := [(0, vA (some a0)), (1, vI (0 : Int32)), (2, vI (0 : Int32))]) rfl ?_
  obtain ⟨w1, e2, h⟩ := bo_some h
  refine iter_G (P := P_X9_totalStrength_4 M a0 σ) (E := E_X9_totalStrength_4 M a0 σ) (fun s o hb hk => t_X9_totalStrength_L4 O R0 N hn a0 s.1 s.2 σ o hb hk) FU ((0 : Int32), (0 : Int32)) w1 e2 ?_
  show G M 0 0 33 [(1, vI w1)] [] SX σ
  refine g_iload_n O dX9_totalStrength_33 rfl 0 rfl ?_
  cases h
  exact g_ireturn O K dX9_totalStrength_34
theorem c_X9_totalStrength (l0 : Launch) (a0 : Nat) (σ : Dt) (r : Int32) (h : f_X9_totalStrength a0 σ = some r) : Ctr l0 yX9_totalStrength cX9_totalStrength 3 (some .int) false 2 80 0 0 [vA (some a0)] SX σ SX σ (some (vI r)) := ctr_of (by decide) (Nat.le_of_ble_eq_true rfl) (fun M O F R0 N hn => t_X9_totalStrength O R0 N hn a0 σ r h F)
def P_X1_strikeHopeless_7 (M : Mx) (a0 : Nat) (r1 : Option Nat) (x2 : Int32) (s : (Int32 × Dt)) : Prop := G M 0 0 7 [(0, vA (some a0)), (1, vA r1), (2, vI x2), (3, vI s.1)] [] SX s.2
def E_X1_strikeHopeless_7 (M : Mx) (a0 : Nat) (r1 : Option Nat) (x2 : Int32) : Dt → Prop := (fun w => G M 0 0 69 [] [] SX w)
def f_X1_strikeHopeless_63 (a0 : Nat) (r1 : Option Nat) (x2 : Int32) (x3 : Int32) (σ : Dt) : Option ((Int32 × Dt) ⊕ Dt) := some (.inl ((x3 + (1 : Int32)), σ))
theorem t_X1_strikeHopeless_63 {M : Mx} {l0 : Launch} (O : Ok M cX1_strikeHopeless yX1_strikeHopeless) (R0 : Rm M l0 3 102 0 0) (N : Ma M = false) (hn : Mn M = 5)  (a0 : Nat) (r1 : Option Nat) (x2 : Int32) (x3 : Int32) (σ : Dt) (o : ((Int32 × Dt) ⊕ Dt)) (h : f_X1_strikeHopeless_63 a0 r1 x2 x3 σ = some o) (K : kon (P_X1_strikeHopeless_7 M a0 r1 x2) (E_X1_strikeHopeless_7 M a0 r1 x2) o) : G M 0 0 63 [(0, vA (some a0)), (1, vA r1), (2, vI x2), (3, vI x3)] [] SX σ := by
  unfold f_X1_strikeHopeless_63 at h
  refine g_iinc (v := (x3 + (1 : Int32))) (lv' := [(3, vI (x3 + (1 : Int32))), (0, vA (some a0)), (1, vA r1), (2, vI x2)]) O dX1_strikeHopeless_63 5 hn (by decide) 3 rfl rfl rfl ?_
  refine g_goto O dX1_strikeHopeless_66 rfl ?_
  refine g_sub [1, 2, 3, 0] (lv' := [(0, vA (some a0)), (1, vA r1), (2, vI x2), (3, vI (x3 + (1 : Int32)))]) rfl ?_
  cases h
  exact K
def f_X1_strikeHopeless_56 (a0 : Nat) (r1 : Option Nat) (x2 : Int32) (x3 : Int32) (σ : Dt) : Option ((Int32 × Dt) ⊕ Dt) := bo (xgr SX 1 4 (some a0) σ) fun v1 => bo (xsi SX v1 x3 (-1 : Int32) σ) fun σ3 => f_X1_strikeHopeless_63 a0 r1 x2 x3 σ3
theorem t_X1_strikeHopeless_56 {M : Mx} {l0 : Launch} (O : Ok M cX1_strikeHopeless yX1_strikeHopeless) (R0 : Rm M l0 3 102 0 0) (N : Ma M = false) (hn : Mn M = 5)  (a0 : Nat) (r1 : Option Nat) (x2 : Int32) (x3 : Int32) (σ : Dt) (o : ((Int32 × Dt) ⊕ Dt)) (h : f_X1_strikeHopeless_56 a0 r1 x2 x3 σ = some o) (K : kon (P_X1_strikeHopeless_7 M a0 r1 x2) (E_X1_strikeHopeless_7 M a0 r1 x2) o) : G M 0 0 56 [(0, vA (some a0)), (1, vA r1), (2, vI x2), (3, vI x3)] [] SX σ := by
  unfold f_X1_strikeHopeless_56 at h
  refine g_aload_n O dX1_strikeHopeless_56 rfl 0 rfl ?_
  obtain ⟨v1, e2, h⟩ := bo_some h
  refine g_getR O dX1_strikeHopeless_57 fl_X1_15 rfl e2 ?_
  refine g_iload_n O dX1_strikeHopeless_60 rfl 3 rfl ?_
  refine g_iconst (v := (-1 : Int32)) O dX1_strikeHopeless_61 rfl ?_
  obtain ⟨σ3, e4, h⟩ := bo_some h
  refine g_iastore O dX1_strikeHopeless_62 e4 ?_
  exact t_X1_strikeHopeless_63 O R0 N hn a0 r1 x2 x3 σ3 o h K
def f_X1_strikeHopeless_26 (a0 : Nat) (r1 : Option Nat) (x2 : Int32) (x3 : Int32) (k0 : Int32) (σ : Dt) : Option ((Int32 × Dt) ⊕ Dt) := if k0 = 0 then f_X1_strikeHopeless_56 a0 r1 x2 x3 σ else bo (xgr SX 1 6 (some a0) σ) fun v2 => bo (xai SX v2 x3 σ) fun v4 => if x2 < v4 then f_X1_strikeHopeless_56 a0 r1 x2 x3 σ else bo (xgr SX 1 8 (some a0) σ) fun v7 => bo (xai SX v7 x3 σ) fun v9 => bo (xgi SX 9 0 r1 σ) fun v11 => if v9 ≤ v11 then f_X1_strikeHopeless_63 a0 r1 x2 x3 σ else f_X1_strikeHopeless_56 a0 r1 x2 x3 σ
theorem t_X1_strikeHopeless_26 {M : Mx} {l0 : Launch} (O : Ok M cX1_strikeHopeless yX1_strikeHopeless) (R0 : Rm M l0 3 102 0 0) (N : Ma M = false) (hn : Mn M = 5)  (a0 : Nat) (r1 : Option Nat) (x2 : Int32) (x3 : Int32) (k0 : Int32) (σ : Dt) (o : ((Int32 × Dt) ⊕ Dt)) (h : f_X1_strikeHopeless_26 a0 r1 x2 x3 k0 σ = some o) (K : kon (P_X1_strikeHopeless_7 M a0 r1 x2) (E_X1_strikeHopeless_7 M a0 r1 x2) o) : G M 0 0 26 [(0, vA (some a0)), (1, vA r1), (2, vI x2), (3, vI x3)] [vI k0] SX σ := by
  unfold f_X1_strikeHopeless_26 at h
  refine g_istore (lv' := [(4, vI k0), (0, vA (some a0)), (1, vA r1), (2, vI x2), (3, vI x3)]) O dX1_strikeHopeless_26 5 hn (by decide) rfl ?_
  refine g_iload O dX1_strikeHopeless_28 0 rfl ?_
  refine g_if_eq O dX1_strikeHopeless_30 rfl (fun c1 => ?_) (fun c1 => ?_)
  · replace h := (if_pos c1).symm.trans h
    refine g_sub [1, 2, 3, 4] (lv' := [(0, vA (some a0)), (1, vA r1), (2, vI x2), (3, vI x3)]) rfl ?_
    exact t_X1_strikeHopeless_56 O R0 N hn a0 r1 x2 x3 σ o h K
  · replace h := (if_neg c1).symm.trans h
    refine g_aload_n O dX1_strikeHopeless_33 rfl 1 rfl ?_
    obtain ⟨v2, e3, h⟩ := bo_some h
    refine g_getR O dX1_strikeHopeless_34 fl_X1_21 rfl e3 ?_
    refine g_iload_n O dX1_strikeHopeless_37 rfl 4 rfl ?_
    obtain ⟨v4, e5, h⟩ := bo_some h
    refine g_iaload O dX1_strikeHopeless_38 e5 ?_
    refine g_iload_n O dX1_strikeHopeless_39 rfl 3 rfl ?_
    refine g_icmp_gt O dX1_strikeHopeless_40 rfl (fun c6 => ?_) (fun c6 => ?_)
    · replace h := (if_pos c6).symm.trans h
      refine g_sub [1, 2, 3, 4] (lv' := [(0, vA (some a0)), (1, vA r1), (2, vI x2), (3, vI x3)]) rfl ?_
      exact t_X1_strikeHopeless_56 O R0 N hn a0 r1 x2 x3 σ o h K
    · replace h := (if_neg c6).symm.trans h
      refine g_aload_n O dX1_strikeHopeless_43 rfl 1 rfl ?_
      obtain ⟨v7, e8, h⟩ := bo_some h
      refine g_getR O dX1_strikeHopeless_44 fl_X1_27 rfl e8 ?_
      refine g_iload_n O dX1_strikeHopeless_47 rfl 4 rfl ?_
      obtain ⟨v9, e10, h⟩ := bo_some h
      refine g_iaload O dX1_strikeHopeless_48 e10 ?_
      refine g_aload_n O dX1_strikeHopeless_49 rfl 2 rfl ?_
      obtain ⟨v11, e12, h⟩ := bo_some h
      refine g_getI O dX1_strikeHopeless_50 fl_X1_96 rfl e12 ?_
      refine g_icmp_le O dX1_strikeHopeless_53 rfl (fun c13 => ?_) (fun c13 => ?_)
      · replace h := (if_pos c13).symm.trans h
        refine g_sub [1, 2, 3, 4] (lv' := [(0, vA (some a0)), (1, vA r1), (2, vI x2), (3, vI x3)]) rfl ?_
        exact t_X1_strikeHopeless_63 O R0 N hn a0 r1 x2 x3 σ o h K
      · replace h := (if_neg c13).symm.trans h
        refine g_sub [1, 2, 3, 4] (lv' := [(0, vA (some a0)), (1, vA r1), (2, vI x2), (3, vI x3)]) rfl ?_
        exact t_X1_strikeHopeless_56 O R0 N hn a0 r1 x2 x3 σ o h K
def f_X1_strikeHopeless_L7 (a0 : Nat) (r1 : Option Nat) (x2 : Int32) (x3 : Int32) (σ : Dt) : Option ((Int32 × Dt) ⊕ Dt) := if (64 : Int32) ≤ x3 then some (.inr σ) else bo (xrc SX 9 r1) fun a2 => bo (f_X9_allWorks a2 σ) fun v4 => if v4 < x3 then f_X1_strikeHopeless_26 a0 r1 x2 x3 (0 : Int32) σ else f_X1_strikeHopeless_26 a0 r1 x2 x3 (1 : Int32) σ
theorem t_X1_strikeHopeless_L7 {M : Mx} {l0 : Launch} (O : Ok M cX1_strikeHopeless yX1_strikeHopeless) (R0 : Rm M l0 3 102 0 0) (N : Ma M = false) (hn : Mn M = 5) (a0 : Nat) (r1 : Option Nat) (x2 : Int32) (x3 : Int32) (σ : Dt) (o : ((Int32 × Dt) ⊕ Dt)) (h : f_X1_strikeHopeless_L7 a0 r1 x2 x3 σ = some o) (K : kon (P_X1_strikeHopeless_7 M a0 r1 x2) (E_X1_strikeHopeless_7 M a0 r1 x2) o) : G M 0 0 7 [(0, vA (some a0)), (1, vA r1), (2, vI x2), (3, vI x3)] [] SX σ := by
  unfold f_X1_strikeHopeless_L7 at h
  refine g_iload_n O dX1_strikeHopeless_7 rfl 3 rfl ?_
  refine g_bipush (v := (64 : Int32)) O dX1_strikeHopeless_8 rfl ?_
  refine g_icmp_ge O dX1_strikeHopeless_10 rfl (fun c1 => ?_) (fun c1 => ?_)
  · replace h := (if_pos c1).symm.trans h
    refine g_sub [] (lv' := []) rfl ?_
    cases h
    exact K
  · replace h := (if_neg c1).symm.trans h
    refine g_iload_n O dX1_strikeHopeless_13 rfl 3 rfl ?_
    refine g_aload_n O dX1_strikeHopeless_14 rfl 1 rfl ?_
    obtain ⟨a2, e3, h⟩ := bo_some h
    obtain ⟨v4, e5, h⟩ := bo_some h
    refine g_cV1 O R0 N dX1_strikeHopeless_15 vl_X1_52 vv_X9_allWorks e3 [] rfl rfl rfl ⟨Nat.le_of_ble_eq_true rfl, Nat.le_of_ble_eq_true rfl⟩ (c_X9_allWorks l0 a2 σ v4 e5) ?_
    refine g_icmp_gt O dX1_strikeHopeless_18 rfl (fun c6 => ?_) (fun c6 => ?_)
    · replace h := (if_pos c6).symm.trans h
      refine g_iconst (v := (0 : Int32)) O dX1_strikeHopeless_25 rfl ?_
      exact t_X1_strikeHopeless_26 O R0 N hn a0 r1 x2 x3 (0 : Int32) σ o h K
    · replace h := (if_neg c6).symm.trans h
      refine g_iconst (v := (1 : Int32)) O dX1_strikeHopeless_21 rfl ?_
      refine g_goto O dX1_strikeHopeless_22 rfl ?_
      exact t_X1_strikeHopeless_26 O R0 N hn a0 r1 x2 x3 (1 : Int32) σ o h K
def f_X1_strikeHopeless (a0 : Nat) (r1 : Option Nat) (σ : Dt) : Option (Unit × Dt) := bo (xrc SX 9 r1) fun a1 => bo (f_X9_totalStrength a1 σ) fun v3 => bo (iter FU (fun s => f_X1_strikeHopeless_L7 a0 r1 v3 s.1 s.2) ((0 : Int32), σ)) fun w5 => some ((), w5)
theorem t_X1_strikeHopeless {M : Mx} {l0 : Launch} (O : Ok M cX1_strikeHopeless yX1_strikeHopeless) (R0 : Rm M l0 3 102 0 0) (N : Ma M = false) (hn : Mn M = 5) (a0 : Nat) (r1 : Option Nat) (σ : Dt) (o : (Unit × Dt)) (h : f_X1_strikeHopeless a0 r1 σ = some o) (K : Fin' M (none) 0 0 SX o.2 (none)) : G M 0 0 0 [(0, vA (some a0)), (1, vA r1)] [] SX σ := by
  unfold f_X1_strikeHopeless at h
  refine g_aload_n O dX1_strikeHopeless_0 rfl 1 rfl ?_
  obtain ⟨a1, e2, h⟩ := bo_some h
  obtain ⟨v3, e4, h⟩ := bo_some h
  refine g_cV1 O R0 N dX1_strikeHopeless_1 vl_X1_66 vv_X9_totalStrength e2 [] rfl rfl rfl ⟨Nat.le_of_ble_eq_true rfl, Nat.le_of_ble_eq_true rfl⟩ (c_X9_totalStrength l0 a1 σ v3 e4) ?_
  refine g_istore_n (lv' := [(2, vI v3), (0, vA (some a0)), (1, vA r1)]) O dX1_strikeHopeless_4 rfl 5 hn (by decide) rfl ?_
  refine g_iconst (v := (0 : Int32)) O dX1_strikeHopeless_5 rfl ?_
  refine g_istore_n (lv' := [(3, vI (0 : Int32)), (2, vI v3), (0, vA (some a0)), (1, vA r1)]) O dX1_strikeHopeless_6 rfl 5 hn (by decide) rfl ?_
  refine g_sub [2, 3, 1, 0] (lv' := [(0, vA (some a0)), (1, vA r1), (2, vI v3), (3, vI (0 : Int32))]) rfl ?_
  obtain ⟨w5, e6, h⟩ := bo_some h
  refine iter_G (P := P_X1_strikeHopeless_7 M a0 r1 v3) (E := E_X1_strikeHopeless_7 M a0 r1 v3) (fun s o hb hk => t_X1_strikeHopeless_L7 O R0 N hn a0 r1 v3 s.1 s.2 o hb hk) FU ((0 : Int32), σ) w5 e6 ?_
  show G M 0 0 69 [] [] SX w5
  cases h
  exact g_return O K dX1_strikeHopeless_69
theorem c_X1_strikeHopeless (l0 : Launch) (a0 : Nat) (r1 : Option Nat) (σ : Dt) (r : Unit) (σ' : Dt) (h : f_X1_strikeHopeless a0 r1 σ = some (r, σ')) : Ctr l0 yX1_strikeHopeless cX1_strikeHopeless 5 (none) false 3 102 0 0 [vA (some a0), vA r1] SX σ SX σ' (none) := ctr_of (by decide) (Nat.le_of_ble_eq_true rfl) (fun M O F R0 N hn => t_X1_strikeHopeless O R0 N hn a0 r1 σ (r, σ') h F)
def P_X1_bestUnstruck_4 (M : Mx) (a0 : Nat) (σ : Dt) (s : (Int32 × Int32)) : Prop := G M 0 0 4 [(0, vA (some a0)), (1, vI s.1), (2, vI s.2)] [] SX σ
def E_X1_bestUnstruck_4 (M : Mx) (a0 : Nat) (σ : Dt) : Int32 → Prop := (fun w => G M 0 0 33 [(1, vI w)] [] SX σ)
def f_X1_bestUnstruck_27 (a0 : Nat) (x1 : Int32) (x2 : Int32) (σ : Dt) : Option ((Int32 × Int32) ⊕ Int32) := some (.inl (x1, (x2 + (1 : Int32))))
theorem t_X1_bestUnstruck_27 {M : Mx} {l0 : Launch} (O : Ok M cX1_bestUnstruck yX1_bestUnstruck) (R0 : Rm M l0 2 80 0 0) (N : Ma M = false) (hn : Mn M = 3)  (a0 : Nat) (x1 : Int32) (x2 : Int32) (σ : Dt) (o : ((Int32 × Int32) ⊕ Int32)) (h : f_X1_bestUnstruck_27 a0 x1 x2 σ = some o) (K : kon (P_X1_bestUnstruck_4 M a0 σ) (E_X1_bestUnstruck_4 M a0 σ) o) : G M 0 0 27 [(0, vA (some a0)), (1, vI x1), (2, vI x2)] [] SX σ := by
  unfold f_X1_bestUnstruck_27 at h
  refine g_iinc (v := (x2 + (1 : Int32))) (lv' := [(2, vI (x2 + (1 : Int32))), (0, vA (some a0)), (1, vI x1)]) O dX1_bestUnstruck_27 3 hn (by decide) 2 rfl rfl rfl ?_
  refine g_goto O dX1_bestUnstruck_30 rfl ?_
  refine g_sub [1, 2, 0] (lv' := [(0, vA (some a0)), (1, vI x1), (2, vI (x2 + (1 : Int32)))]) rfl ?_
  cases h
  exact K
def f_X1_bestUnstruck_L4 (a0 : Nat) (x1 : Int32) (x2 : Int32) (σ : Dt) : Option ((Int32 × Int32) ⊕ Int32) := if (64 : Int32) ≤ x2 then some (.inr x1) else bo (xgr SX 1 4 (some a0) σ) fun v2 => bo (xai SX v2 x2 σ) fun v4 => bo (xgr SX 1 4 (some a0) σ) fun v6 => bo (xai SX v6 x1 σ) fun v8 => if v4 ≤ v8 then f_X1_bestUnstruck_27 a0 x1 x2 σ else f_X1_bestUnstruck_27 a0 x2 x2 σ
theorem t_X1_bestUnstruck_L4 {M : Mx} {l0 : Launch} (O : Ok M cX1_bestUnstruck yX1_bestUnstruck) (R0 : Rm M l0 2 80 0 0) (N : Ma M = false) (hn : Mn M = 3) (a0 : Nat) (x1 : Int32) (x2 : Int32) (σ : Dt) (o : ((Int32 × Int32) ⊕ Int32)) (h : f_X1_bestUnstruck_L4 a0 x1 x2 σ = some o) (K : kon (P_X1_bestUnstruck_4 M a0 σ) (E_X1_bestUnstruck_4 M a0 σ) o) : G M 0 0 4 [(0, vA (some a0)), (1, vI x1), (2, vI x2)] [] SX σ := by
  unfold f_X1_bestUnstruck_L4 at h
  refine g_iload_n O dX1_bestUnstruck_4 rfl 2 rfl ?_
  refine g_bipush (v := (64 : Int32)) O dX1_bestUnstruck_5 rfl ?_
  refine g_icmp_ge O dX1_bestUnstruck_7 rfl (fun c1 => ?_) (fun c1 => ?_)
  · replace h := (if_pos c1).symm.trans h
    refine g_sub [1] (lv' := [(1, vI x1)]) rfl ?_
    cases h
    exact K
  · replace h := (if_neg c1).symm.trans h
    refine g_aload_n O dX1_bestUnstruck_10 rfl 0 rfl ?_
    obtain ⟨v2, e3, h⟩ := bo_some h
    refine g_getR O dX1_bestUnstruck_11 fl_X1_15 rfl e3 ?_
    refine g_iload_n O dX1_bestUnstruck_14 rfl 2 rfl ?_
    obtain ⟨v4, e5, h⟩ := bo_some h
    refine g_iaload O dX1_bestUnstruck_15 e5 ?_
    refine g_aload_n O dX1_bestUnstruck_16 rfl 0 rfl ?_
    obtain ⟨v6, e7, h⟩ := bo_some h
    refine g_getR O dX1_bestUnstruck_17 fl_X1_15 rfl e7 ?_
    refine g_iload_n O dX1_bestUnstruck_20 rfl 1 rfl ?_
    obtain ⟨v8, e9, h⟩ := bo_some h
    refine g_iaload O dX1_bestUnstruck_21 e9 ?_
    refine g_icmp_le O dX1_bestUnstruck_22 rfl (fun c10 => ?_) (fun c10 => ?_)
    · replace h := (if_pos c10).symm.trans h
      exact t_X1_bestUnstruck_27 O R0 N hn a0 x1 x2 σ o h K
    · replace h := (if_neg c10).symm.trans h
      refine g_iload_n O dX1_bestUnstruck_25 rfl 2 rfl ?_
      refine g_istore_n (lv' := [(1, vI x2), (0, vA (some a0)), (2, vI x2)]) O dX1_bestUnstruck_26 rfl 3 hn (by decide) rfl ?_
      refine g_sub [1, 0, 2] (lv' := [(0, vA (some a0)), (1, vI x2), (2, vI x2)]) rfl ?_
      exact t_X1_bestUnstruck_27 O R0 N hn a0 x2 x2 σ o h K
def f_X1_bestUnstruck (a0 : Nat) (σ : Dt) : Option Int32 := bo (iter FU (fun s => f_X1_bestUnstruck_L4 a0 s.1 s.2 σ) ((0 : Int32), (0 : Int32))) fun w1 => some w1
theorem t_X1_bestUnstruck {M : Mx} {l0 : Launch} (O : Ok M cX1_bestUnstruck yX1_bestUnstruck) (R0 : Rm M l0 2 80 0 0) (N : Ma M = false) (hn : Mn M = 3) (a0 : Nat) (σ : Dt) (o : Int32) (h : f_X1_bestUnstruck a0 σ = some o) (K : Fin' M (some .int) 0 0 SX σ (some (vI o))) : G M 0 0 0 [(0, vA (some a0))] [] SX σ := by
  unfold f_X1_bestUnstruck at h
  refine g_iconst (v := (0 : Int32)) O dX1_bestUnstruck_0 rfl ?_
  refine g_istore_n (lv' := [(1, vI (0 : Int32)), (0, vA (some a0))]) O dX1_bestUnstruck_1 rfl 3 hn (by decide) rfl ?_
  refine g_iconst (v := (0 : Int32)) O dX1_bestUnstruck_2 rfl ?_
  refine g_istore_n (lv' := [(2, vI (0 : Int32)), (1, vI (0 : Int32)), (0, vA (some a0))]) O dX1_bestUnstruck_3 rfl 3 hn (by decide) rfl ?_
  refine g_sub [2, 1, 0] (lv' := [(0, vA (some a0)), (1, vI (0 : Int32)), (2, vI (0 : Int32))]) rfl ?_
  obtain ⟨w1, e2, h⟩ := bo_some h
  refine iter_G (P := P_X1_bestUnstruck_4 M a0 σ) (E := E_X1_bestUnstruck_4 M a0 σ) (fun s o hb hk => t_X1_bestUnstruck_L4 O R0 N hn a0 s.1 s.2 σ o hb hk) FU ((0 : Int32), (0 : Int32)) w1 e2 ?_
  show G M 0 0 33 [(1, vI w1)] [] SX σ
  refine g_iload_n O dX1_bestUnstruck_33 rfl 0 rfl ?_
  cases h
  exact g_ireturn O K dX1_bestUnstruck_34
theorem c_X1_bestUnstruck (l0 : Launch) (a0 : Nat) (σ : Dt) (r : Int32) (h : f_X1_bestUnstruck a0 σ = some r) : Ctr l0 yX1_bestUnstruck cX1_bestUnstruck 3 (some .int) false 2 80 0 0 [vA (some a0)] SX σ SX σ (some (vI r)) := ctr_of (by decide) (Nat.le_of_ble_eq_true rfl) (fun M O F R0 N hn => t_X1_bestUnstruck O R0 N hn a0 σ r h F)
def P_X1_wantWorks_7 (M : Mx) (a0 : Nat) (x1 : Int32) (s : (Int32 × Dt)) : Prop := G M 0 0 7 [(0, vA (some a0)), (1, vI x1), (2, vI s.1)] [] SX s.2
def E_X1_wantWorks_7 (M : Mx) (a0 : Nat) (x1 : Int32) : Dt → Prop := (fun w => G M 0 0 61 [] [] SX w)
def f_X1_wantWorks_55 (a0 : Nat) (x1 : Int32) (x2 : Int32) (σ : Dt) : Option ((Int32 × Dt) ⊕ Dt) := some (.inl ((x2 + (1 : Int32)), σ))
theorem t_X1_wantWorks_55 {M : Mx} {l0 : Launch} (O : Ok M cX1_wantWorks yX1_wantWorks) (R0 : Rm M l0 2 80 0 0) (N : Ma M = false) (hn : Mn M = 3)  (a0 : Nat) (x1 : Int32) (x2 : Int32) (σ : Dt) (o : ((Int32 × Dt) ⊕ Dt)) (h : f_X1_wantWorks_55 a0 x1 x2 σ = some o) (K : kon (P_X1_wantWorks_7 M a0 x1) (E_X1_wantWorks_7 M a0 x1) o) : G M 0 0 55 [(0, vA (some a0)), (1, vI x1), (2, vI x2)] [] SX σ := by
  unfold f_X1_wantWorks_55 at h
  refine g_iinc (v := (x2 + (1 : Int32))) (lv' := [(2, vI (x2 + (1 : Int32))), (0, vA (some a0)), (1, vI x1)]) O dX1_wantWorks_55 3 hn (by decide) 2 rfl rfl rfl ?_
  refine g_goto O dX1_wantWorks_58 rfl ?_
  refine g_sub [1, 2, 0] (lv' := [(0, vA (some a0)), (1, vI x1), (2, vI (x2 + (1 : Int32)))]) rfl ?_
  cases h
  exact K
def f_X1_wantWorks_L7 (a0 : Nat) (x1 : Int32) (x2 : Int32) (σ : Dt) : Option ((Int32 × Dt) ⊕ Dt) := if (6 : Int32) ≤ x2 then some (.inr σ) else if ((x1 >>> (x2 &&& 31)) &&& (1 : Int32)) = 0 then f_X1_wantWorks_55 a0 x1 x2 σ else bo (xgi SX 1 10 (some a0) σ) fun v3 => if (6 : Int32) ≤ v3 then f_X1_wantWorks_55 a0 x1 x2 σ else bo (xgr SX 1 9 (some a0) σ) fun v6 => bo (xgi SX 1 10 (some a0) σ) fun v8 => bo (xgr SX 1 5 (some a0) σ) fun v10 => bo (xai SX v10 x2 σ) fun v12 => bo (xsi SX v6 v8 v12 σ) fun σ14 => bo (xgi SX 1 10 (some a0) σ14) fun v16 => bo (xpi SX 1 10 (some a0) (v16 + (1 : Int32)) σ14) fun σ18 => f_X1_wantWorks_55 a0 x1 x2 σ18
theorem t_X1_wantWorks_L7 {M : Mx} {l0 : Launch} (O : Ok M cX1_wantWorks yX1_wantWorks) (R0 : Rm M l0 2 80 0 0) (N : Ma M = false) (hn : Mn M = 3) (a0 : Nat) (x1 : Int32) (x2 : Int32) (σ : Dt) (o : ((Int32 × Dt) ⊕ Dt)) (h : f_X1_wantWorks_L7 a0 x1 x2 σ = some o) (K : kon (P_X1_wantWorks_7 M a0 x1) (E_X1_wantWorks_7 M a0 x1) o) : G M 0 0 7 [(0, vA (some a0)), (1, vI x1), (2, vI x2)] [] SX σ := by
  unfold f_X1_wantWorks_L7 at h
  refine g_iload_n O dX1_wantWorks_7 rfl 2 rfl ?_
  refine g_bipush (v := (6 : Int32)) O dX1_wantWorks_8 rfl ?_
  refine g_icmp_ge O dX1_wantWorks_10 rfl (fun c1 => ?_) (fun c1 => ?_)
  · replace h := (if_pos c1).symm.trans h
    refine g_sub [] (lv' := []) rfl ?_
    cases h
    exact K
  · replace h := (if_neg c1).symm.trans h
    refine g_iload_n O dX1_wantWorks_13 rfl 1 rfl ?_
    refine g_iload_n O dX1_wantWorks_14 rfl 2 rfl ?_
    refine g_ishr O dX1_wantWorks_15 ?_
    refine g_iconst (v := (1 : Int32)) O dX1_wantWorks_16 rfl ?_
    refine g_iand O dX1_wantWorks_17 ?_
    refine g_if_eq O dX1_wantWorks_18 rfl (fun c2 => ?_) (fun c2 => ?_)
    · replace h := (if_pos c2).symm.trans h
      exact t_X1_wantWorks_55 O R0 N hn a0 x1 x2 σ o h K
    · replace h := (if_neg c2).symm.trans h
      refine g_aload_n O dX1_wantWorks_21 rfl 0 rfl ?_
      obtain ⟨v3, e4, h⟩ := bo_some h
      refine g_getI O dX1_wantWorks_22 fl_X1_106 rfl e4 ?_
      refine g_bipush (v := (6 : Int32)) O dX1_wantWorks_25 rfl ?_
      refine g_icmp_ge O dX1_wantWorks_27 rfl (fun c5 => ?_) (fun c5 => ?_)
      · replace h := (if_pos c5).symm.trans h
        exact t_X1_wantWorks_55 O R0 N hn a0 x1 x2 σ o h K
      · replace h := (if_neg c5).symm.trans h
        refine g_aload_n O dX1_wantWorks_30 rfl 0 rfl ?_
        obtain ⟨v6, e7, h⟩ := bo_some h
        refine g_getR O dX1_wantWorks_31 fl_X1_30 rfl e7 ?_
        refine g_aload_n O dX1_wantWorks_34 rfl 0 rfl ?_
        obtain ⟨v8, e9, h⟩ := bo_some h
        refine g_getI O dX1_wantWorks_35 fl_X1_106 rfl e9 ?_
        refine g_aload_n O dX1_wantWorks_38 rfl 0 rfl ?_
        obtain ⟨v10, e11, h⟩ := bo_some h
        refine g_getR O dX1_wantWorks_39 fl_X1_18 rfl e11 ?_
        refine g_iload_n O dX1_wantWorks_42 rfl 2 rfl ?_
        obtain ⟨v12, e13, h⟩ := bo_some h
        refine g_iaload O dX1_wantWorks_43 e13 ?_
        obtain ⟨σ14, e15, h⟩ := bo_some h
        refine g_iastore O dX1_wantWorks_44 e15 ?_
        refine g_aload_n O dX1_wantWorks_45 rfl 0 rfl ?_
        refine g_dup O dX1_wantWorks_46 rfl ?_
        obtain ⟨v16, e17, h⟩ := bo_some h
        refine g_getI O dX1_wantWorks_47 fl_X1_106 rfl e17 ?_
        refine g_iconst (v := (1 : Int32)) O dX1_wantWorks_50 rfl ?_
        refine g_iadd O dX1_wantWorks_51 ?_
        obtain ⟨σ18, e19, h⟩ := bo_some h
        refine g_putI O dX1_wantWorks_52 fl_X1_106 (Or.inl rfl) rfl e19 ?_
        exact t_X1_wantWorks_55 O R0 N hn a0 x1 x2 σ18 o h K
def f_X1_wantWorks (a0 : Nat) (x1 : Int32) (σ : Dt) : Option (Unit × Dt) := bo (xpi SX 1 10 (some a0) (0 : Int32) σ) fun σ1 => bo (iter FU (fun s => f_X1_wantWorks_L7 a0 x1 s.1 s.2) ((0 : Int32), σ1)) fun w3 => some ((), w3)
theorem t_X1_wantWorks {M : Mx} {l0 : Launch} (O : Ok M cX1_wantWorks yX1_wantWorks) (R0 : Rm M l0 2 80 0 0) (N : Ma M = false) (hn : Mn M = 3) (a0 : Nat) (x1 : Int32) (σ : Dt) (o : (Unit × Dt)) (h : f_X1_wantWorks a0 x1 σ = some o) (K : Fin' M (none) 0 0 SX o.2 (none)) : G M 0 0 0 [(0, vA (some a0)), (1, vI x1)] [] SX σ := by
  unfold f_X1_wantWorks at h
  refine g_aload_n O dX1_wantWorks_0 rfl 0 rfl ?_
  refine g_iconst (v := (0 : Int32)) O dX1_wantWorks_1 rfl ?_
  obtain ⟨σ1, e2, h⟩ := bo_some h
  refine g_putI O dX1_wantWorks_2 fl_X1_106 (Or.inl rfl) rfl e2 ?_
  refine g_iconst (v := (0 : Int32)) O dX1_wantWorks_5 rfl ?_
  refine g_istore_n (lv' := [(2, vI (0 : Int32)), (0, vA (some a0)), (1, vI x1)]) O dX1_wantWorks_6 rfl 3 hn (by decide) rfl ?_
  refine g_sub [1, 2, 0] (lv' := [(0, vA (some a0)), (1, vI x1), (2, vI (0 : Int32))]) rfl ?_
  obtain ⟨w3, e4, h⟩ := bo_some h
  refine iter_G (P := P_X1_wantWorks_7 M a0 x1) (E := E_X1_wantWorks_7 M a0 x1) (fun s o hb hk => t_X1_wantWorks_L7 O R0 N hn a0 x1 s.1 s.2 o hb hk) FU ((0 : Int32), σ1) w3 e4 ?_
  show G M 0 0 61 [] [] SX w3
  cases h
  exact g_return O K dX1_wantWorks_61
theorem c_X1_wantWorks (l0 : Launch) (a0 : Nat) (x1 : Int32) (σ : Dt) (r : Unit) (σ' : Dt) (h : f_X1_wantWorks a0 x1 σ = some (r, σ')) : Ctr l0 yX1_wantWorks cX1_wantWorks 3 (none) false 2 80 0 0 [vA (some a0), vI x1] SX σ SX σ' (none) := ctr_of (by decide) (Nat.le_of_ble_eq_true rfl) (fun M O F R0 N hn => t_X1_wantWorks O R0 N hn a0 x1 σ (r, σ') h F)
def f_X1_digOn (a0 : Nat) (x1 : Int32) (x2 : Int32) (σ : Dt) : Option Int32 := if (x1 / (64 : Int32)) < 0 then some x1 else bo (xgi SX 1 10 (some a0) σ) fun v2 => if v2 ≤ (x1 / (64 : Int32)) then some x1 else if (x1 / (64 : Int32)) < (6 : Int32) then bo (some ((x1 - x1 / (64 : Int32) * (64 : Int32)) + x2)) fun v6 => bo (xgr SX 1 9 (some a0) σ) fun v8 => bo (xai SX v8 (x1 / (64 : Int32)) σ) fun v10 => if v6 < v10 then some (((x1 / (64 : Int32)) * (64 : Int32)) + v6) else some (((x1 / (64 : Int32)) + (1 : Int32)) * (64 : Int32)) else some x1
theorem t_X1_digOn {M : Mx} {l0 : Launch} (O : Ok M cX1_digOn yX1_digOn) (R0 : Rm M l0 2 80 0 0) (N : Ma M = false) (hn : Mn M = 5) (a0 : Nat) (x1 : Int32) (x2 : Int32) (σ : Dt) (o : Int32) (h : f_X1_digOn a0 x1 x2 σ = some o) (K : Fin' M (some .int) 0 0 SX σ (some (vI o))) : G M 0 0 0 [(0, vA (some a0)), (1, vI x1), (2, vI x2)] [] SX σ := by
  unfold f_X1_digOn at h
  refine g_iload_n O dX1_digOn_0 rfl 1 rfl ?_
  refine g_bipush (v := (64 : Int32)) O dX1_digOn_1 rfl ?_
  refine g_idiv O dX1_digOn_3 (by decide) ?_
  refine g_istore_n (lv' := [(3, vI (x1 / (64 : Int32))), (0, vA (some a0)), (1, vI x1), (2, vI x2)]) O dX1_digOn_4 rfl 5 hn (by decide) rfl ?_
  refine g_iload_n O dX1_digOn_5 rfl 0 rfl ?_
  refine g_if_lt O dX1_digOn_6 rfl (fun c1 => ?_) (fun c1 => ?_)
  · replace h := (if_pos c1).symm.trans h
    refine g_iload_n O dX1_digOn_23 rfl 2 rfl ?_
    cases h
    exact g_ireturn O K dX1_digOn_24
  · replace h := (if_neg c1).symm.trans h
    refine g_iload_n O dX1_digOn_9 rfl 0 rfl ?_
    refine g_aload_n O dX1_digOn_10 rfl 1 rfl ?_
    obtain ⟨v2, e3, h⟩ := bo_some h
    refine g_getI O dX1_digOn_11 fl_X1_106 rfl e3 ?_
    refine g_icmp_ge O dX1_digOn_14 rfl (fun c4 => ?_) (fun c4 => ?_)
    · replace h := (if_pos c4).symm.trans h
      refine g_iload_n O dX1_digOn_23 rfl 2 rfl ?_
      cases h
      exact g_ireturn O K dX1_digOn_24
    · replace h := (if_neg c4).symm.trans h
      refine g_iload_n O dX1_digOn_17 rfl 0 rfl ?_
      refine g_bipush (v := (6 : Int32)) O dX1_digOn_18 rfl ?_
      refine g_icmp_lt O dX1_digOn_20 rfl (fun c5 => ?_) (fun c5 => ?_)
      · replace h := (if_pos c5).symm.trans h
        refine g_iload_n O dX1_digOn_25 rfl 2 rfl ?_
        refine g_bipush (v := (64 : Int32)) O dX1_digOn_26 rfl ?_
        refine g_irem O dX1_digOn_28 (by decide) ?_
        refine g_iload_n O dX1_digOn_29 rfl 3 rfl ?_
        refine g_iadd O dX1_digOn_30 ?_
        obtain ⟨v6, e7, h⟩ := bo_some h
        rw [Option.some.inj e7]
        refine g_istore (lv' := [(4, vI v6), (3, vI (x1 / (64 : Int32))), (0, vA (some a0)), (1, vI x1), (2, vI x2)]) O dX1_digOn_31 5 hn (by decide) rfl ?_
        refine g_iload O dX1_digOn_33 0 rfl ?_
        refine g_aload_n O dX1_digOn_35 rfl 2 rfl ?_
        obtain ⟨v8, e9, h⟩ := bo_some h
        refine g_getR O dX1_digOn_36 fl_X1_30 rfl e9 ?_
        refine g_iload_n O dX1_digOn_39 rfl 1 rfl ?_
        obtain ⟨v10, e11, h⟩ := bo_some h
        refine g_iaload O dX1_digOn_40 e11 ?_
        refine g_icmp_lt O dX1_digOn_41 rfl (fun c12 => ?_) (fun c12 => ?_)
        · replace h := (if_pos c12).symm.trans h
          refine g_iload_n O dX1_digOn_53 rfl 1 rfl ?_
          refine g_bipush (v := (64 : Int32)) O dX1_digOn_54 rfl ?_
          refine g_imul O dX1_digOn_56 ?_
          refine g_iload O dX1_digOn_57 0 rfl ?_
          refine g_iadd O dX1_digOn_59 ?_
          cases h
          exact g_ireturn O K dX1_digOn_60
        · replace h := (if_neg c12).symm.trans h
          refine g_iload_n O dX1_digOn_44 rfl 1 rfl ?_
          refine g_iconst (v := (1 : Int32)) O dX1_digOn_45 rfl ?_
          refine g_iadd O dX1_digOn_46 ?_
          refine g_bipush (v := (64 : Int32)) O dX1_digOn_47 rfl ?_
          refine g_imul O dX1_digOn_49 ?_
          refine g_goto O dX1_digOn_50 rfl ?_
          cases h
          exact g_ireturn O K dX1_digOn_60
      · replace h := (if_neg c5).symm.trans h
        refine g_iload_n O dX1_digOn_23 rfl 2 rfl ?_
        cases h
        exact g_ireturn O K dX1_digOn_24
theorem c_X1_digOn (l0 : Launch) (a0 : Nat) (x1 : Int32) (x2 : Int32) (σ : Dt) (r : Int32) (h : f_X1_digOn a0 x1 x2 σ = some r) : Ctr l0 yX1_digOn cX1_digOn 5 (some .int) false 2 80 0 0 [vA (some a0), vI x1, vI x2] SX σ SX σ (some (vI r)) := ctr_of (by decide) (Nat.le_of_ble_eq_true rfl) (fun M O F R0 N hn => t_X1_digOn O R0 N hn a0 x1 x2 σ r h F)
def P_X1_fewestHands_55 (M : Mx) (a0 : Nat) (r1 : Option Nat) (x3 : Int32) (x4 : Int32) (x5 : Int32) (σ : Dt) (s : (Int32 × Int32)) : Prop := G M 0 0 55 [(0, vA (some a0)), (1, vA r1), (3, vI x3), (4, vI x4), (5, vI x5), (6, vI s.1), (7, vI s.2)] [] SX σ
def E_X1_fewestHands_55 (M : Mx) (a0 : Nat) (r1 : Option Nat) (x3 : Int32) (x4 : Int32) (x5 : Int32) (σ : Dt) : Int32 → Prop := (fun w => G M 0 0 119 [(0, vA (some a0)), (1, vA r1), (3, vI x3), (4, vI x4), (5, vI x5), (6, vI w)] [] SX σ)
def f_X1_fewestHands_113 (a0 : Nat) (r1 : Option Nat) (x3 : Int32) (x4 : Int32) (x5 : Int32) (x6 : Int32) (x7 : Int32) (σ : Dt) : Option ((Int32 × Int32) ⊕ Int32) := some (.inl (x6, (x7 + (1 : Int32))))
theorem t_X1_fewestHands_113 {M : Mx} {l0 : Launch} (O : Ok M cX1_fewestHands yX1_fewestHands) (R0 : Rm M l0 3 104 0 0) (N : Ma M = false) (hn : Mn M = 8)  (a0 : Nat) (r1 : Option Nat) (x3 : Int32) (x4 : Int32) (x5 : Int32) (x6 : Int32) (x7 : Int32) (σ : Dt) (o : ((Int32 × Int32) ⊕ Int32)) (h : f_X1_fewestHands_113 a0 r1 x3 x4 x5 x6 x7 σ = some o) (K : kon (P_X1_fewestHands_55 M a0 r1 x3 x4 x5 σ) (E_X1_fewestHands_55 M a0 r1 x3 x4 x5 σ) o) : G M 0 0 113 [(0, vA (some a0)), (1, vA r1), (3, vI x3), (4, vI x4), (5, vI x5), (6, vI x6), (7, vI x7)] [] SX σ := by
  unfold f_X1_fewestHands_113 at h
  refine g_iinc (v := (x7 + (1 : Int32))) (lv' := [(7, vI (x7 + (1 : Int32))), (0, vA (some a0)), (1, vA r1), (3, vI x3), (4, vI x4), (5, vI x5), (6, vI x6)]) O dX1_fewestHands_113 8 hn (by decide) 6 rfl rfl rfl ?_
  refine g_goto O dX1_fewestHands_116 rfl ?_
  refine g_sub [1, 2, 3, 4, 5, 6, 0] (lv' := [(0, vA (some a0)), (1, vA r1), (3, vI x3), (4, vI x4), (5, vI x5), (6, vI x6), (7, vI (x7 + (1 : Int32)))]) rfl ?_
  cases h
  exact K
def f_X1_fewestHands_L55 (a0 : Nat) (r1 : Option Nat) (x3 : Int32) (x4 : Int32) (x5 : Int32) (x6 : Int32) (x7 : Int32) (σ : Dt) : Option ((Int32 × Int32) ⊕ Int32) := bo (xgi SX 9 0 r1 σ) fun v1 => if v1 ≤ x7 then some (.inr x6) else if (10 : Int32) ≤ x7 then some (.inr x6) else if ((x5 >>> (x7 &&& 31)) &&& (1 : Int32)) = 0 then f_X1_fewestHands_113 a0 r1 x3 x4 x5 x6 x7 σ else bo (xgr SX 1 11 (some a0) σ) fun v6 => bo (xai SX v6 (x5 &&& (((1 : Int32) <<< (x7 &&& 31)) ^^^ (-1 : Int32))) σ) fun v8 => bo (xgr SX 9 4 r1 σ) fun v10 => bo (xai SX v10 x7 σ) fun v12 => bo (xrc SX 1 (some a0)) fun a14 => bo (f_X1_digOn a14 v8 v12 σ) fun v16 => f_X1_fewestHands_113 a0 r1 x3 x4 x5 (mmax x6 v16) x7 σ
theorem t_X1_fewestHands_L55 {M : Mx} {l0 : Launch} (O : Ok M cX1_fewestHands yX1_fewestHands) (R0 : Rm M l0 3 104 0 0) (N : Ma M = false) (hn : Mn M = 8) (a0 : Nat) (r1 : Option Nat) (x3 : Int32) (x4 : Int32) (x5 : Int32) (x6 : Int32) (x7 : Int32) (σ : Dt) (o : ((Int32 × Int32) ⊕ Int32)) (h : f_X1_fewestHands_L55 a0 r1 x3 x4 x5 x6 x7 σ = some o) (K : kon (P_X1_fewestHands_55 M a0 r1 x3 x4 x5 σ) (E_X1_fewestHands_55 M a0 r1 x3 x4 x5 σ) o) : G M 0 0 55 [(0, vA (some a0)), (1, vA r1), (3, vI x3), (4, vI x4), (5, vI x5), (6, vI x6), (7, vI x7)] [] SX σ := by
  unfold f_X1_fewestHands_L55 at h
  refine g_iload O dX1_fewestHands_55 6 rfl ?_
  refine g_aload_n O dX1_fewestHands_57 rfl 1 rfl ?_
  obtain ⟨v1, e2, h⟩ := bo_some h
  refine g_getI O dX1_fewestHands_58 fl_X1_96 rfl e2 ?_
  refine g_icmp_ge O dX1_fewestHands_61 rfl (fun c3 => ?_) (fun c3 => ?_)
  · replace h := (if_pos c3).symm.trans h
    refine g_sub [0, 1, 2, 3, 4, 5] (lv' := [(0, vA (some a0)), (1, vA r1), (3, vI x3), (4, vI x4), (5, vI x5), (6, vI x6)]) rfl ?_
    cases h
    exact K
  · replace h := (if_neg c3).symm.trans h
    refine g_iload O dX1_fewestHands_64 6 rfl ?_
    refine g_bipush (v := (10 : Int32)) O dX1_fewestHands_66 rfl ?_
    refine g_icmp_ge O dX1_fewestHands_68 rfl (fun c4 => ?_) (fun c4 => ?_)
    · replace h := (if_pos c4).symm.trans h
      refine g_sub [0, 1, 2, 3, 4, 5] (lv' := [(0, vA (some a0)), (1, vA r1), (3, vI x3), (4, vI x4), (5, vI x5), (6, vI x6)]) rfl ?_
      cases h
      exact K
    · replace h := (if_neg c4).symm.trans h
      refine g_iload O dX1_fewestHands_71 4 rfl ?_
      refine g_iload O dX1_fewestHands_73 6 rfl ?_
      refine g_ishr O dX1_fewestHands_75 ?_
      refine g_iconst (v := (1 : Int32)) O dX1_fewestHands_76 rfl ?_
      refine g_iand O dX1_fewestHands_77 ?_
      refine g_if_eq O dX1_fewestHands_78 rfl (fun c5 => ?_) (fun c5 => ?_)
      · replace h := (if_pos c5).symm.trans h
        exact t_X1_fewestHands_113 O R0 N hn a0 r1 x3 x4 x5 x6 x7 σ o h K
      · replace h := (if_neg c5).symm.trans h
        refine g_iload O dX1_fewestHands_81 5 rfl ?_
        refine g_aload_n O dX1_fewestHands_83 rfl 0 rfl ?_
        refine g_aload_n O dX1_fewestHands_84 rfl 0 rfl ?_
        obtain ⟨v6, e7, h⟩ := bo_some h
        refine g_getR O dX1_fewestHands_85 fl_X1_33 rfl e7 ?_
        refine g_iload O dX1_fewestHands_88 4 rfl ?_
        refine g_iconst (v := (1 : Int32)) O dX1_fewestHands_90 rfl ?_
        refine g_iload O dX1_fewestHands_91 6 rfl ?_
        refine g_ishl O dX1_fewestHands_93 ?_
        refine g_iconst (v := (-1 : Int32)) O dX1_fewestHands_94 rfl ?_
        refine g_ixor O dX1_fewestHands_95 ?_
        refine g_iand O dX1_fewestHands_96 ?_
        obtain ⟨v8, e9, h⟩ := bo_some h
        refine g_iaload O dX1_fewestHands_97 e9 ?_
        refine g_aload_n O dX1_fewestHands_98 rfl 1 rfl ?_
        obtain ⟨v10, e11, h⟩ := bo_some h
        refine g_getR O dX1_fewestHands_99 fl_X1_99 rfl e11 ?_
        refine g_iload O dX1_fewestHands_102 6 rfl ?_
        obtain ⟨v12, e13, h⟩ := bo_some h
        refine g_iaload O dX1_fewestHands_104 e13 ?_
        obtain ⟨a14, e15, h⟩ := bo_some h
        obtain ⟨v16, e17, h⟩ := bo_some h
        refine g_cV1 O R0 N dX1_fewestHands_105 vl_X1_109 vv_X1_digOn e15 [vI v8, vI v12] rfl rfl rfl ⟨Nat.le_of_ble_eq_true rfl, Nat.le_of_ble_eq_true rfl⟩ (c_X1_digOn l0 a14 v8 v12 σ v16 e17) ?_
        refine g_mmax O R0 dX1_fewestHands_108 w1110 ⟨Nat.le_of_ble_eq_true rfl, Nat.le_of_ble_eq_true rfl⟩ ?_
        refine g_istore (lv' := [(6, vI (mmax x6 v16)), (0, vA (some a0)), (1, vA r1), (3, vI x3), (4, vI x4), (5, vI x5), (7, vI x7)]) O dX1_fewestHands_111 8 hn (by decide) rfl ?_
        refine g_sub [1, 2, 3, 4, 5, 0, 6] (lv' := [(0, vA (some a0)), (1, vA r1), (3, vI x3), (4, vI x4), (5, vI x5), (6, vI (mmax x6 v16)), (7, vI x7)]) rfl ?_
        exact t_X1_fewestHands_113 O R0 N hn a0 r1 x3 x4 x5 (mmax x6 v16) x7 σ o h K
def P_X1_fewestHands_34 (M : Mx) (a0 : Nat) (r1 : Option Nat) (x4 : Int32) (s : (Int32 × Int32 × Dt)) : Prop := G M 0 0 34 [(0, vA (some a0)), (1, vA r1), (3, vI s.1), (4, vI x4), (5, vI s.2.1)] [] SX s.2.2
def E_X1_fewestHands_34 (M : Mx) (a0 : Nat) (r1 : Option Nat) (x4 : Int32) : (Int32 × Dt) → Prop := (fun w => G M 0 0 167 [(3, vI w.1)] [] SX w.2)
def f_X1_fewestHands_161 (a0 : Nat) (r1 : Option Nat) (x3 : Int32) (x4 : Int32) (x5 : Int32) (σ : Dt) : Option ((Int32 × Int32 × Dt) ⊕ (Int32 × Dt)) := some (.inl (x3, (x5 + (1 : Int32)), σ))
theorem t_X1_fewestHands_161 {M : Mx} {l0 : Launch} (O : Ok M cX1_fewestHands yX1_fewestHands) (R0 : Rm M l0 3 104 0 0) (N : Ma M = false) (hn : Mn M = 8)  (a0 : Nat) (r1 : Option Nat) (x3 : Int32) (x4 : Int32) (x5 : Int32) (σ : Dt) (o : ((Int32 × Int32 × Dt) ⊕ (Int32 × Dt))) (h : f_X1_fewestHands_161 a0 r1 x3 x4 x5 σ = some o) (K : kon (P_X1_fewestHands_34 M a0 r1 x4) (E_X1_fewestHands_34 M a0 r1 x4) o) : G M 0 0 161 [(0, vA (some a0)), (1, vA r1), (3, vI x3), (4, vI x4), (5, vI x5)] [] SX σ := by
  unfold f_X1_fewestHands_161 at h
  refine g_iinc (v := (x5 + (1 : Int32))) (lv' := [(5, vI (x5 + (1 : Int32))), (0, vA (some a0)), (1, vA r1), (3, vI x3), (4, vI x4)]) O dX1_fewestHands_161 8 hn (by decide) 4 rfl rfl rfl ?_
  refine g_goto O dX1_fewestHands_164 rfl ?_
  refine g_sub [1, 2, 3, 4, 0] (lv' := [(0, vA (some a0)), (1, vA r1), (3, vI x3), (4, vI x4), (5, vI (x5 + (1 : Int32)))]) rfl ?_
  cases h
  exact K
def f_X1_fewestHands_158 (a0 : Nat) (r1 : Option Nat) (x4 : Int32) (x5 : Int32) (x7 : Int32) (σ : Dt) : Option ((Int32 × Int32 × Dt) ⊕ (Int32 × Dt)) := f_X1_fewestHands_161 a0 r1 x7 x4 x5 σ
theorem t_X1_fewestHands_158 {M : Mx} {l0 : Launch} (O : Ok M cX1_fewestHands yX1_fewestHands) (R0 : Rm M l0 3 104 0 0) (N : Ma M = false) (hn : Mn M = 8)  (a0 : Nat) (r1 : Option Nat) (x4 : Int32) (x5 : Int32) (x7 : Int32) (σ : Dt) (o : ((Int32 × Int32 × Dt) ⊕ (Int32 × Dt))) (h : f_X1_fewestHands_158 a0 r1 x4 x5 x7 σ = some o) (K : kon (P_X1_fewestHands_34 M a0 r1 x4) (E_X1_fewestHands_34 M a0 r1 x4) o) : G M 0 0 158 [(0, vA (some a0)), (1, vA r1), (4, vI x4), (5, vI x5), (7, vI x7)] [] SX σ := by
  unfold f_X1_fewestHands_158 at h
  refine g_iload O dX1_fewestHands_158 4 rfl ?_
  refine g_istore_n (lv' := [(3, vI x7), (0, vA (some a0)), (1, vA r1), (4, vI x4), (5, vI x5), (7, vI x7)]) O dX1_fewestHands_160 rfl 8 hn (by decide) rfl ?_
  refine g_sub [1, 2, 0, 3, 4] (lv' := [(0, vA (some a0)), (1, vA r1), (3, vI x7), (4, vI x4), (5, vI x5)]) rfl ?_
  exact t_X1_fewestHands_161 O R0 N hn a0 r1 x7 x4 x5 σ o h K
def f_X1_fewestHands_119 (a0 : Nat) (r1 : Option Nat) (x3 : Int32) (x4 : Int32) (x5 : Int32) (x6 : Int32) (σ : Dt) : Option ((Int32 × Int32 × Dt) ⊕ (Int32 × Dt)) := bo (xgr SX 1 11 (some a0) σ) fun v1 => bo (xsi SX v1 x5 x6 σ) fun σ3 => bo (f_J6_bitCount_0f7a4 x5 σ3) fun v5 => bo (xgi SX 1 10 (some a0) σ3) fun v7 => if x6 < (v7 * (64 : Int32)) then f_X1_fewestHands_161 a0 r1 x3 x4 x5 σ3 else if x3 = (-1 : Int32) then f_X1_fewestHands_158 a0 r1 x4 x5 v5 σ3 else if x3 ≤ v5 then f_X1_fewestHands_161 a0 r1 x3 x4 x5 σ3 else f_X1_fewestHands_158 a0 r1 x4 x5 v5 σ3
theorem t_X1_fewestHands_119 {M : Mx} {l0 : Launch} (O : Ok M cX1_fewestHands yX1_fewestHands) (R0 : Rm M l0 3 104 0 0) (N : Ma M = false) (hn : Mn M = 8)  (a0 : Nat) (r1 : Option Nat) (x3 : Int32) (x4 : Int32) (x5 : Int32) (x6 : Int32) (σ : Dt) (o : ((Int32 × Int32 × Dt) ⊕ (Int32 × Dt))) (h : f_X1_fewestHands_119 a0 r1 x3 x4 x5 x6 σ = some o) (K : kon (P_X1_fewestHands_34 M a0 r1 x4) (E_X1_fewestHands_34 M a0 r1 x4) o) : G M 0 0 119 [(0, vA (some a0)), (1, vA r1), (3, vI x3), (4, vI x4), (5, vI x5), (6, vI x6)] [] SX σ := by
  unfold f_X1_fewestHands_119 at h
  refine g_aload_n O dX1_fewestHands_119 rfl 0 rfl ?_
  obtain ⟨v1, e2, h⟩ := bo_some h
  refine g_getR O dX1_fewestHands_120 fl_X1_33 rfl e2 ?_
  refine g_iload O dX1_fewestHands_123 4 rfl ?_
  refine g_iload O dX1_fewestHands_125 5 rfl ?_
  obtain ⟨σ3, e4, h⟩ := bo_some h
  refine g_iastore O dX1_fewestHands_127 e4 ?_
  refine g_iload O dX1_fewestHands_128 4 rfl ?_
  obtain ⟨v5, e6, h⟩ := bo_some h
  refine g_cS1 O R0 N dX1_fewestHands_130 vl_X1_115 w831 [vI x5] rfl rfl rfl ⟨Nat.le_of_ble_eq_true rfl, Nat.le_of_ble_eq_true rfl⟩ (c_J6_bitCount_0f7a4 l0 x5 σ3 v5 e6) ?_
  refine g_istore (lv' := [(7, vI v5), (0, vA (some a0)), (1, vA r1), (3, vI x3), (4, vI x4), (5, vI x5), (6, vI x6)]) O dX1_fewestHands_133 8 hn (by decide) rfl ?_
  refine g_iload O dX1_fewestHands_135 6 rfl ?_
  refine g_aload_n O dX1_fewestHands_137 rfl 1 rfl ?_
  obtain ⟨v7, e8, h⟩ := bo_some h
  refine g_getI O dX1_fewestHands_138 fl_X1_106 rfl e8 ?_
  refine g_bipush (v := (64 : Int32)) O dX1_fewestHands_141 rfl ?_
  refine g_imul O dX1_fewestHands_143 ?_
  refine g_icmp_lt O dX1_fewestHands_144 rfl (fun c9 => ?_) (fun c9 => ?_)
  · replace h := (if_pos c9).symm.trans h
    refine g_sub [1, 2, 3, 4, 5] (lv' := [(0, vA (some a0)), (1, vA r1), (3, vI x3), (4, vI x4), (5, vI x5)]) rfl ?_
    exact t_X1_fewestHands_161 O R0 N hn a0 r1 x3 x4 x5 σ3 o h K
  · replace h := (if_neg c9).symm.trans h
    refine g_iload_n O dX1_fewestHands_147 rfl 3 rfl ?_
    refine g_iconst (v := (-1 : Int32)) O dX1_fewestHands_148 rfl ?_
    refine g_icmp_eq O dX1_fewestHands_149 rfl (fun c10 => ?_) (fun c10 => ?_)
    · replace h := (if_pos c10).symm.trans h
      refine g_sub [1, 2, 4, 5, 0] (lv' := [(0, vA (some a0)), (1, vA r1), (4, vI x4), (5, vI x5), (7, vI v5)]) rfl ?_
      exact t_X1_fewestHands_158 O R0 N hn a0 r1 x4 x5 v5 σ3 o h K
    · replace h := (if_neg c10).symm.trans h
      refine g_iload O dX1_fewestHands_152 0 rfl ?_
      refine g_iload_n O dX1_fewestHands_154 rfl 3 rfl ?_
      refine g_icmp_ge O dX1_fewestHands_155 rfl (fun c11 => ?_) (fun c11 => ?_)
      · replace h := (if_pos c11).symm.trans h
        refine g_sub [1, 2, 3, 4, 5] (lv' := [(0, vA (some a0)), (1, vA r1), (3, vI x3), (4, vI x4), (5, vI x5)]) rfl ?_
        exact t_X1_fewestHands_161 O R0 N hn a0 r1 x3 x4 x5 σ3 o h K
      · replace h := (if_neg c11).symm.trans h
        refine g_sub [1, 2, 4, 5, 0] (lv' := [(0, vA (some a0)), (1, vA r1), (4, vI x4), (5, vI x5), (7, vI v5)]) rfl ?_
        exact t_X1_fewestHands_158 O R0 N hn a0 r1 x4 x5 v5 σ3 o h K
def f_X1_fewestHands_L34 (a0 : Nat) (r1 : Option Nat) (x4 : Int32) (x3 : Int32) (x5 : Int32) (σ : Dt) : Option ((Int32 × Int32 × Dt) ⊕ (Int32 × Dt)) := if x4 ≤ x5 then some (.inr (x3, σ)) else if (1024 : Int32) ≤ x5 then some (.inr (x3, σ)) else bo (iter FU (fun s => f_X1_fewestHands_L55 a0 r1 x3 x4 x5 s.1 s.2 σ) ((0 : Int32), (0 : Int32))) fun w3 => f_X1_fewestHands_119 a0 r1 x3 x4 x5 w3 σ
theorem t_X1_fewestHands_L34 {M : Mx} {l0 : Launch} (O : Ok M cX1_fewestHands yX1_fewestHands) (R0 : Rm M l0 3 104 0 0) (N : Ma M = false) (hn : Mn M = 8) (a0 : Nat) (r1 : Option Nat) (x4 : Int32) (x3 : Int32) (x5 : Int32) (σ : Dt) (o : ((Int32 × Int32 × Dt) ⊕ (Int32 × Dt))) (h : f_X1_fewestHands_L34 a0 r1 x4 x3 x5 σ = some o) (K : kon (P_X1_fewestHands_34 M a0 r1 x4) (E_X1_fewestHands_34 M a0 r1 x4) o) : G M 0 0 34 [(0, vA (some a0)), (1, vA r1), (3, vI x3), (4, vI x4), (5, vI x5)] [] SX σ := by
  unfold f_X1_fewestHands_L34 at h
  refine g_iload O dX1_fewestHands_34 4 rfl ?_
  refine g_iload O dX1_fewestHands_36 3 rfl ?_
  refine g_icmp_ge O dX1_fewestHands_38 rfl (fun c1 => ?_) (fun c1 => ?_)
  · replace h := (if_pos c1).symm.trans h
    refine g_sub [2] (lv' := [(3, vI x3)]) rfl ?_
    cases h
    exact K
  · replace h := (if_neg c1).symm.trans h
    refine g_iload O dX1_fewestHands_41 4 rfl ?_
    refine g_sipush (v := (1024 : Int32)) O dX1_fewestHands_43 rfl ?_
    refine g_icmp_ge O dX1_fewestHands_46 rfl (fun c2 => ?_) (fun c2 => ?_)
    · replace h := (if_pos c2).symm.trans h
      refine g_sub [2] (lv' := [(3, vI x3)]) rfl ?_
      cases h
      exact K
    · replace h := (if_neg c2).symm.trans h
      refine g_iconst (v := (0 : Int32)) O dX1_fewestHands_49 rfl ?_
      refine g_istore (lv' := [(6, vI (0 : Int32)), (0, vA (some a0)), (1, vA r1), (3, vI x3), (4, vI x4), (5, vI x5)]) O dX1_fewestHands_50 8 hn (by decide) rfl ?_
      refine g_iconst (v := (0 : Int32)) O dX1_fewestHands_52 rfl ?_
      refine g_istore (lv' := [(7, vI (0 : Int32)), (6, vI (0 : Int32)), (0, vA (some a0)), (1, vA r1), (3, vI x3), (4, vI x4), (5, vI x5)]) O dX1_fewestHands_53 8 hn (by decide) rfl ?_
      refine g_sub [2, 3, 4, 5, 6, 1, 0] (lv' := [(0, vA (some a0)), (1, vA r1), (3, vI x3), (4, vI x4), (5, vI x5), (6, vI (0 : Int32)), (7, vI (0 : Int32))]) rfl ?_
      obtain ⟨w3, e4, h⟩ := bo_some h
      refine iter_G (P := P_X1_fewestHands_55 M a0 r1 x3 x4 x5 σ) (E := E_X1_fewestHands_55 M a0 r1 x3 x4 x5 σ) (fun s o hb hk => t_X1_fewestHands_L55 O R0 N hn a0 r1 x3 x4 x5 s.1 s.2 σ o hb hk) FU ((0 : Int32), (0 : Int32)) w3 e4 ?_
      show G M 0 0 119 [(0, vA (some a0)), (1, vA r1), (3, vI x3), (4, vI x4), (5, vI x5), (6, vI w3)] [] SX σ
      exact t_X1_fewestHands_119 O R0 N hn a0 r1 x3 x4 x5 w3 σ o h K
def f_X1_fewestHands (a0 : Nat) (r1 : Option Nat) (x2 : Int32) (σ : Dt) : Option (Int32 × Dt) := bo (xrc SX 1 (some a0)) fun a1 => bd (f_X1_wantWorks a1 x2 σ) fun v3 σ4 => bo (xgi SX 1 10 (some a0) σ4) fun v6 => if v6 = 0 then some ((0 : Int32), σ4) else bo (xgi SX 9 0 r1 σ4) fun v9 => bo (xgr SX 1 11 (some a0) σ4) fun v11 => bo (xsi SX v11 (0 : Int32) (0 : Int32) σ4) fun σ13 => bo (iter FU (fun s => f_X1_fewestHands_L34 a0 r1 ((1 : Int32) <<< (v9 &&& 31)) s.1 s.2.1 s.2.2) ((-1 : Int32), (1 : Int32), σ13)) fun w15 => some (w15.1, w15.2)
theorem t_X1_fewestHands {M : Mx} {l0 : Launch} (O : Ok M cX1_fewestHands yX1_fewestHands) (R0 : Rm M l0 3 104 0 0) (N : Ma M = false) (hn : Mn M = 8) (a0 : Nat) (r1 : Option Nat) (x2 : Int32) (σ : Dt) (o : (Int32 × Dt)) (h : f_X1_fewestHands a0 r1 x2 σ = some o) (K : Fin' M (some .int) 0 0 SX o.2 (some (vI o.1))) : G M 0 0 0 [(0, vA (some a0)), (1, vA r1), (2, vI x2)] [] SX σ := by
  unfold f_X1_fewestHands at h
  refine g_aload_n O dX1_fewestHands_0 rfl 0 rfl ?_
  refine g_iload_n O dX1_fewestHands_1 rfl 2 rfl ?_
  obtain ⟨a1, e2, h⟩ := bo_some h
  obtain ⟨v3, σ4, e5, h⟩ := bd_some h
  refine g_cV0 O R0 N dX1_fewestHands_2 vl_X1_102 vv_X1_wantWorks e2 [vI x2] rfl rfl rfl ⟨Nat.le_of_ble_eq_true rfl, Nat.le_of_ble_eq_true rfl⟩ (c_X1_wantWorks l0 a1 x2 σ v3 σ4 e5) ?_
  refine g_aload_n O dX1_fewestHands_5 rfl 0 rfl ?_
  obtain ⟨v6, e7, h⟩ := bo_some h
  refine g_getI O dX1_fewestHands_6 fl_X1_106 rfl e7 ?_
  refine g_if_ne O dX1_fewestHands_9 rfl (fun c8 => ?_) (fun c8 => ?_)
  · replace h := (if_pos c8).symm.trans h
    refine g_iconst (v := (0 : Int32)) O dX1_fewestHands_12 rfl ?_
    cases h
    exact g_ireturn O K dX1_fewestHands_13
  · replace h := (if_neg c8).symm.trans h
    refine g_iconst (v := (-1 : Int32)) O dX1_fewestHands_14 rfl ?_
    refine g_istore_n (lv' := [(3, vI (-1 : Int32)), (0, vA (some a0)), (1, vA r1), (2, vI x2)]) O dX1_fewestHands_15 rfl 8 hn (by decide) rfl ?_
    refine g_iconst (v := (1 : Int32)) O dX1_fewestHands_16 rfl ?_
    refine g_aload_n O dX1_fewestHands_17 rfl 2 rfl ?_
    obtain ⟨v9, e10, h⟩ := bo_some h
    refine g_getI O dX1_fewestHands_18 fl_X1_96 rfl e10 ?_
    refine g_ishl O dX1_fewestHands_21 ?_
    refine g_istore (lv' := [(4, vI ((1 : Int32) <<< (v9 &&& 31))), (3, vI (-1 : Int32)), (0, vA (some a0)), (1, vA r1), (2, vI x2)]) O dX1_fewestHands_22 8 hn (by decide) rfl ?_
    refine g_aload_n O dX1_fewestHands_24 rfl 2 rfl ?_
    obtain ⟨v11, e12, h⟩ := bo_some h
    refine g_getR O dX1_fewestHands_25 fl_X1_33 rfl e12 ?_
    refine g_iconst (v := (0 : Int32)) O dX1_fewestHands_28 rfl ?_
    refine g_iconst (v := (0 : Int32)) O dX1_fewestHands_29 rfl ?_
    obtain ⟨σ13, e14, h⟩ := bo_some h
    refine g_iastore O dX1_fewestHands_30 e14 ?_
    refine g_iconst (v := (1 : Int32)) O dX1_fewestHands_31 rfl ?_
    refine g_istore (lv' := [(5, vI (1 : Int32)), (4, vI ((1 : Int32) <<< (v9 &&& 31))), (3, vI (-1 : Int32)), (0, vA (some a0)), (1, vA r1), (2, vI x2)]) O dX1_fewestHands_32 8 hn (by decide) rfl ?_
    refine g_sub [3, 4, 2, 1, 0] (lv' := [(0, vA (some a0)), (1, vA r1), (3, vI (-1 : Int32)), (4, vI ((1 : Int32) <<< (v9 &&& 31))), (5, vI (1 : Int32))]) rfl ?_
    obtain ⟨w15, e16, h⟩ := bo_some h
    refine iter_G (P := P_X1_fewestHands_34 M a0 r1 ((1 : Int32) <<< (v9 &&& 31))) (E := E_X1_fewestHands_34 M a0 r1 ((1 : Int32) <<< (v9 &&& 31))) (fun s o hb hk => t_X1_fewestHands_L34 O R0 N hn a0 r1 ((1 : Int32) <<< (v9 &&& 31)) s.1 s.2.1 s.2.2 o hb hk) FU ((-1 : Int32), (1 : Int32), σ13) w15 e16 ?_
    show G M 0 0 167 [(3, vI w15.1)] [] SX w15.2
    refine g_iload_n O dX1_fewestHands_167 rfl 0 rfl ?_
    cases h
    exact g_ireturn O K dX1_fewestHands_168
theorem c_X1_fewestHands (l0 : Launch) (a0 : Nat) (r1 : Option Nat) (x2 : Int32) (σ : Dt) (r : Int32) (σ' : Dt) (h : f_X1_fewestHands a0 r1 x2 σ = some (r, σ')) : Ctr l0 yX1_fewestHands cX1_fewestHands 8 (some .int) false 3 104 0 0 [vA (some a0), vA r1, vI x2] SX σ SX σ' (some (vI r)) := ctr_of (by decide) (Nat.le_of_ble_eq_true rfl) (fun M O F R0 N hn => t_X1_fewestHands O R0 N hn a0 r1 x2 σ (r, σ') h F)
