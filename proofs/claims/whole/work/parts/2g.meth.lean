def P_X1_makePlan_127 (M : Mx) (a0 : Nat) (r1 : Option Nat) (s : (Int32 × Dt)) : Prop := G M 0 0 127 [(0, vA (some a0)), (1, vA r1), (3, vI s.1)] [] SX s.2
def E_X1_makePlan_127 (M : Mx) (a0 : Nat) (r1 : Option Nat) : ((Int32 × Int32 × Dt) ⊕ Dt) → Prop := (el (fun w => G M 0 0 154 [(0, vA (some a0)), (4, vI w.1), (5, vI w.2.1)] [] SX w.2.2) (fun w => G M 0 0 192 [] [] SX w))
def f_X1_makePlan_L127 (a0 : Nat) (r1 : Option Nat) (x3 : Int32) (σ : Dt) : Option ((Int32 × Dt) ⊕ ((Int32 × Int32 × Dt) ⊕ Dt)) := if (64 : Int32) ≤ x3 then some (.inr (.inr σ)) else bo (xrc SX 1 (some a0)) fun a2 => bo (f_X1_bestUnstruck a2 σ) fun v4 => bo (xrc SX 1 (some a0)) fun a6 => bd (f_X1_fewestHands a6 r1 v4 σ) fun v8 σ9 => if v8 = (-1 : Int32) then bo (xgr SX 1 4 (some a0) σ9) fun v12 => bo (xsi SX v12 v4 (-1 : Int32) σ9) fun σ14 => some (.inl ((x3 + (1 : Int32)), σ14)) else some (.inr (.inl (v4, v8, σ9)))
theorem t_X1_makePlan_L127 {M : Mx} {l0 : Launch} (O : Ok M cX1_makePlan yX1_makePlan) (R0 : Rm M l0 4 131 0 0) (N : Ma M = false) (hn : Mn M = 6) (a0 : Nat) (r1 : Option Nat) (x3 : Int32) (σ : Dt) (o : ((Int32 × Dt) ⊕ ((Int32 × Int32 × Dt) ⊕ Dt))) (h : f_X1_makePlan_L127 a0 r1 x3 σ = some o) (K : kon (P_X1_makePlan_127 M a0 r1) (E_X1_makePlan_127 M a0 r1) o) : G M 0 0 127 [(0, vA (some a0)), (1, vA r1), (3, vI x3)] [] SX σ := by
  unfold f_X1_makePlan_L127 at h
  refine g_iload_n O dX1_makePlan_127 rfl 2 rfl ?_
  refine g_bipush (v := (64 : Int32)) O dX1_makePlan_128 rfl ?_
  refine g_icmp_ge O dX1_makePlan_130 rfl (fun c1 => ?_) (fun c1 => ?_)
  · replace h := (if_pos c1).symm.trans h
    refine g_sub [] (lv' := []) rfl ?_
    cases h
    exact K
  · replace h := (if_neg c1).symm.trans h
    refine g_aload_n O dX1_makePlan_133 rfl 0 rfl ?_
    obtain ⟨a2, e3, h⟩ := bo_some h
    obtain ⟨v4, e5, h⟩ := bo_some h
    refine g_cV1 O R0 N dX1_makePlan_134 vl_X1_90 vv_X1_bestUnstruck e3 [] rfl rfl rfl ⟨Nat.le_of_ble_eq_true rfl, Nat.le_of_ble_eq_true rfl⟩ (c_X1_bestUnstruck l0 a2 σ v4 e5) ?_
    refine g_istore (lv' := [(4, vI v4), (0, vA (some a0)), (1, vA r1), (3, vI x3)]) O dX1_makePlan_137 6 hn (by decide) rfl ?_
    refine g_aload_n O dX1_makePlan_139 rfl 1 rfl ?_
    refine g_aload_n O dX1_makePlan_140 rfl 2 rfl ?_
    refine g_iload O dX1_makePlan_141 0 rfl ?_
    obtain ⟨a6, e7, h⟩ := bo_some h
    obtain ⟨v8, σ9, e10, h⟩ := bd_some h
    refine g_cV1 O R0 N dX1_makePlan_143 vl_X1_93 vv_X1_fewestHands e7 [vA r1, vI v4] rfl rfl rfl ⟨Nat.le_of_ble_eq_true rfl, Nat.le_of_ble_eq_true rfl⟩ (c_X1_fewestHands l0 a6 r1 v4 σ v8 σ9 e10) ?_
    refine g_istore (lv' := [(5, vI v8), (4, vI v4), (0, vA (some a0)), (1, vA r1), (3, vI x3)]) O dX1_makePlan_146 6 hn (by decide) rfl ?_
    refine g_iload O dX1_makePlan_148 0 rfl ?_
    refine g_iconst (v := (-1 : Int32)) O dX1_makePlan_150 rfl ?_
    refine g_icmp_eq O dX1_makePlan_151 rfl (fun c11 => ?_) (fun c11 => ?_)
    · replace h := (if_pos c11).symm.trans h
      refine g_aload_n O dX1_makePlan_178 rfl 2 rfl ?_
      obtain ⟨v12, e13, h⟩ := bo_some h
      refine g_getR O dX1_makePlan_179 fl_X1_15 rfl e13 ?_
      refine g_iload O dX1_makePlan_182 1 rfl ?_
      refine g_iconst (v := (-1 : Int32)) O dX1_makePlan_184 rfl ?_
      obtain ⟨σ14, e15, h⟩ := bo_some h
      refine g_iastore O dX1_makePlan_185 e15 ?_
      refine g_iinc (v := (x3 + (1 : Int32))) (lv' := [(3, vI (x3 + (1 : Int32))), (5, vI v8), (4, vI v4), (0, vA (some a0)), (1, vA r1)]) O dX1_makePlan_186 6 hn (by decide) 4 rfl rfl rfl ?_
      refine g_goto O dX1_makePlan_189 rfl ?_
      refine g_sub [3, 4, 0] (lv' := [(0, vA (some a0)), (1, vA r1), (3, vI (x3 + (1 : Int32)))]) rfl ?_
      cases h
      exact K
    · replace h := (if_neg c11).symm.trans h
      refine g_sub [2, 1, 0] (lv' := [(0, vA (some a0)), (4, vI v4), (5, vI v8)]) rfl ?_
      cases h
      exact K
def P_X1_makePlan_26 (M : Mx) (a0 : Nat) (r1 : Option Nat) (x2 : Int32) (s : (Int32 × Dt)) : Prop := G M 0 0 26 [(0, vA (some a0)), (1, vA r1), (2, vI x2), (3, vI s.1)] [] SX s.2
def E_X1_makePlan_26 (M : Mx) (a0 : Nat) (r1 : Option Nat) (x2 : Int32) : Dt → Prop := (fun w => G M 0 0 84 [(0, vA (some a0)), (1, vA r1)] [] SX w)
def f_X1_makePlan_61 (a0 : Nat) (r1 : Option Nat) (x2 : Int32) (x3 : Int32) (k0 : Option Nat) (k1 : Int32) (k2 : Int32) (σ : Dt) : Option ((Int32 × Dt) ⊕ Dt) := bo (xsi SX k0 k1 k2 σ) fun σ1 => bo (xgr SX 1 7 (some a0) σ1) fun v3 => bo (xgr SX 1 5 (some a0) σ1) fun v5 => bo (xai SX v5 x3 σ1) fun v7 => bo (f_X1_handsAlone r1 v7 σ1) fun v9 => bo (xsi SX v3 x3 v9 σ1) fun σ11 => some (.inl ((x3 + (1 : Int32)), σ11))
theorem t_X1_makePlan_61 {M : Mx} {l0 : Launch} (O : Ok M cX1_makePlan yX1_makePlan) (R0 : Rm M l0 4 131 0 0) (N : Ma M = false) (hn : Mn M = 6)  (a0 : Nat) (r1 : Option Nat) (x2 : Int32) (x3 : Int32) (k0 : Option Nat) (k1 : Int32) (k2 : Int32) (σ : Dt) (o : ((Int32 × Dt) ⊕ Dt)) (h : f_X1_makePlan_61 a0 r1 x2 x3 k0 k1 k2 σ = some o) (K : kon (P_X1_makePlan_26 M a0 r1 x2) (E_X1_makePlan_26 M a0 r1 x2) o) : G M 0 0 61 [(0, vA (some a0)), (1, vA r1), (2, vI x2), (3, vI x3)] [vI k2, vI k1, vA k0] SX σ := by
  unfold f_X1_makePlan_61 at h
  obtain ⟨σ1, e2, h⟩ := bo_some h
  refine g_iastore O dX1_makePlan_61 e2 ?_
  refine g_aload_n O dX1_makePlan_62 rfl 0 rfl ?_
  obtain ⟨v3, e4, h⟩ := bo_some h
  refine g_getR O dX1_makePlan_63 fl_X1_24 rfl e4 ?_
  refine g_iload_n O dX1_makePlan_66 rfl 3 rfl ?_
  refine g_aload_n O dX1_makePlan_67 rfl 1 rfl ?_
  refine g_aload_n O dX1_makePlan_68 rfl 0 rfl ?_
  obtain ⟨v5, e6, h⟩ := bo_some h
  refine g_getR O dX1_makePlan_69 fl_X1_18 rfl e6 ?_
  refine g_iload_n O dX1_makePlan_72 rfl 3 rfl ?_
  obtain ⟨v7, e8, h⟩ := bo_some h
  refine g_iaload O dX1_makePlan_73 e8 ?_
  obtain ⟨v9, e10, h⟩ := bo_some h
  refine g_cS1 O R0 N dX1_makePlan_74 vl_X1_82 w1080 [vA r1, vI v7] rfl rfl rfl ⟨Nat.le_of_ble_eq_true rfl, Nat.le_of_ble_eq_true rfl⟩ (c_X1_handsAlone l0 r1 v7 σ1 v9 e10) ?_
  obtain ⟨σ11, e12, h⟩ := bo_some h
  refine g_iastore O dX1_makePlan_77 e12 ?_
  refine g_iinc (v := (x3 + (1 : Int32))) (lv' := [(3, vI (x3 + (1 : Int32))), (0, vA (some a0)), (1, vA r1), (2, vI x2)]) O dX1_makePlan_78 6 hn (by decide) 3 rfl rfl rfl ?_
  refine g_goto O dX1_makePlan_81 rfl ?_
  refine g_sub [1, 2, 3, 0] (lv' := [(0, vA (some a0)), (1, vA r1), (2, vI x2), (3, vI (x3 + (1 : Int32)))]) rfl ?_
  cases h
  exact K
def f_X1_makePlan_L26 (a0 : Nat) (r1 : Option Nat) (x2 : Int32) (x3 : Int32) (σ : Dt) : Option ((Int32 × Dt) ⊕ Dt) := if (6 : Int32) ≤ x3 then some (.inr σ) else bo (xgr SX 1 5 (some a0) σ) fun v2 => bo (xrc SX 9 r1) fun a4 => bo (f_X9_hasWork a4 x3 σ) fun v6 => if v6 = 0 then f_X1_makePlan_61 a0 r1 x2 x3 v2 x3 (0 : Int32) σ else bo (xgr SX 9 8 r1 σ) fun v9 => bo (xai SX v9 x3 σ) fun v11 => if x2 = 0 then none else f_X1_makePlan_61 a0 r1 x2 x3 v2 x3 (((v11 + x2) - (1 : Int32)) / x2) σ
theorem t_X1_makePlan_L26 {M : Mx} {l0 : Launch} (O : Ok M cX1_makePlan yX1_makePlan) (R0 : Rm M l0 4 131 0 0) (N : Ma M = false) (hn : Mn M = 6) (a0 : Nat) (r1 : Option Nat) (x2 : Int32) (x3 : Int32) (σ : Dt) (o : ((Int32 × Dt) ⊕ Dt)) (h : f_X1_makePlan_L26 a0 r1 x2 x3 σ = some o) (K : kon (P_X1_makePlan_26 M a0 r1 x2) (E_X1_makePlan_26 M a0 r1 x2) o) : G M 0 0 26 [(0, vA (some a0)), (1, vA r1), (2, vI x2), (3, vI x3)] [] SX σ := by
  unfold f_X1_makePlan_L26 at h
  refine g_iload_n O dX1_makePlan_26 rfl 3 rfl ?_
  refine g_bipush (v := (6 : Int32)) O dX1_makePlan_27 rfl ?_
  refine g_icmp_ge O dX1_makePlan_29 rfl (fun c1 => ?_) (fun c1 => ?_)
  · replace h := (if_pos c1).symm.trans h
    refine g_sub [0, 1] (lv' := [(0, vA (some a0)), (1, vA r1)]) rfl ?_
    cases h
    exact K
  · replace h := (if_neg c1).symm.trans h
    refine g_aload_n O dX1_makePlan_32 rfl 0 rfl ?_
    obtain ⟨v2, e3, h⟩ := bo_some h
    refine g_getR O dX1_makePlan_33 fl_X1_18 rfl e3 ?_
    refine g_iload_n O dX1_makePlan_36 rfl 3 rfl ?_
    refine g_aload_n O dX1_makePlan_37 rfl 1 rfl ?_
    refine g_iload_n O dX1_makePlan_38 rfl 3 rfl ?_
    obtain ⟨a4, e5, h⟩ := bo_some h
    obtain ⟨v6, e7, h⟩ := bo_some h
    refine g_cV1 O R0 N dX1_makePlan_39 vl_X1_78 vv_X9_hasWork e5 [vI x3] rfl rfl rfl ⟨Nat.le_of_ble_eq_true rfl, Nat.le_of_ble_eq_true rfl⟩ (c_X9_hasWork l0 a4 x3 σ v6 e7) ?_
    refine g_if_eq O dX1_makePlan_42 rfl (fun c8 => ?_) (fun c8 => ?_)
    · replace h := (if_pos c8).symm.trans h
      refine g_iconst (v := (0 : Int32)) O dX1_makePlan_60 rfl ?_
      exact t_X1_makePlan_61 O R0 N hn a0 r1 x2 x3 v2 x3 (0 : Int32) σ o h K
    · replace h := (if_neg c8).symm.trans h
      refine g_aload_n O dX1_makePlan_45 rfl 1 rfl ?_
      obtain ⟨v9, e10, h⟩ := bo_some h
      refine g_getR O dX1_makePlan_46 fl_X1_42 rfl e10 ?_
      refine g_iload_n O dX1_makePlan_49 rfl 3 rfl ?_
      obtain ⟨v11, e12, h⟩ := bo_some h
      refine g_iaload O dX1_makePlan_50 e12 ?_
      refine g_iload_n O dX1_makePlan_51 rfl 2 rfl ?_
      refine g_iadd O dX1_makePlan_52 ?_
      refine g_iconst (v := (1 : Int32)) O dX1_makePlan_53 rfl ?_
      refine g_isub O dX1_makePlan_54 ?_
      refine g_iload_n O dX1_makePlan_55 rfl 2 rfl ?_
      by_cases c13 : x2 = 0
      · rw [if_pos c13] at h; cases h
      replace h := (if_neg c13).symm.trans h
      refine g_idiv O dX1_makePlan_56 c13 ?_
      refine g_goto O dX1_makePlan_57 rfl ?_
      exact t_X1_makePlan_61 O R0 N hn a0 r1 x2 x3 v2 x3 (((v11 + x2) - (1 : Int32)) / x2) σ o h K
def f_X1_makePlan (a0 : Nat) (r1 : Option Nat) (x2 : Int32) (σ : Dt) : Option (Unit × Dt) := bo (xpi SX 1 0 (some a0) (0 : Int32) σ) fun σ1 => bo (xpi SX 1 1 (some a0) (0 : Int32) σ1) fun σ3 => bo (xpi SX 1 2 (some a0) (0 : Int32) σ3) fun σ5 => if r1 = none then some ((), σ5) else if 0 < x2 then bo (iter FU (fun s => f_X1_makePlan_L26 a0 r1 x2 s.1 s.2) ((0 : Int32), σ5)) fun w9 => bo (xgr SX 9 9 r1 w9) fun v11 => bo (xgr SX 1 4 (some a0) w9) fun v13 => bd (f_X1_sumUp r1 v11 v13 w9) fun v15 σ16 => bo (xgr SX 1 5 (some a0) σ16) fun v18 => bo (xgr SX 1 6 (some a0) σ16) fun v20 => bd (f_X1_sumUp r1 v18 v20 σ16) fun v22 σ23 => bo (xgr SX 1 7 (some a0) σ23) fun v25 => bo (xgr SX 1 8 (some a0) σ23) fun v27 => bd (f_X1_sumUp r1 v25 v27 σ23) fun v29 σ30 => bo (xrc SX 1 (some a0)) fun a32 => bd (f_X1_strikeHopeless a32 r1 σ30) fun v34 σ35 => bo (iter FU (fun s => f_X1_makePlan_L127 a0 r1 s.1 s.2) ((0 : Int32), σ35)) fun w37 => el (fun w39 => bo (xgr SX 1 4 (some a0) w39.2.2) fun v40 => bo (xai SX v40 w39.1 w39.2.2) fun v42 => bo (xpi SX 1 0 (some a0) v42 w39.2.2) fun σ44 => bo (xpi SX 1 1 (some a0) w39.1 σ44) fun σ46 => bo (xpi SX 1 2 (some a0) w39.2.1 σ46) fun σ48 => some ((), σ48)) (fun w39 => some ((), w39)) w37 else some ((), σ5)
theorem t_X1_makePlan {M : Mx} {l0 : Launch} (O : Ok M cX1_makePlan yX1_makePlan) (R0 : Rm M l0 4 131 0 0) (N : Ma M = false) (hn : Mn M = 6) (a0 : Nat) (r1 : Option Nat) (x2 : Int32) (σ : Dt) (o : (Unit × Dt)) (h : f_X1_makePlan a0 r1 x2 σ = some o) (K : Fin' M (none) 0 0 SX o.2 (none)) : G M 0 0 0 [(0, vA (some a0)), (1, vA r1), (2, vI x2)] [] SX σ := by
  unfold f_X1_makePlan at h
  refine g_aload_n O dX1_makePlan_0 rfl 0 rfl ?_
  refine g_iconst (v := (0 : Int32)) O dX1_makePlan_1 rfl ?_
  obtain ⟨σ1, e2, h⟩ := bo_some h
  refine g_putI O dX1_makePlan_2 fl_X1_69 (Or.inl rfl) rfl e2 ?_
  refine g_aload_n O dX1_makePlan_5 rfl 0 rfl ?_
  refine g_iconst (v := (0 : Int32)) O dX1_makePlan_6 rfl ?_
  obtain ⟨σ3, e4, h⟩ := bo_some h
  refine g_putI O dX1_makePlan_7 fl_X1_72 (Or.inl rfl) rfl e4 ?_
  refine g_aload_n O dX1_makePlan_10 rfl 0 rfl ?_
  refine g_iconst (v := (0 : Int32)) O dX1_makePlan_11 rfl ?_
  obtain ⟨σ5, e6, h⟩ := bo_some h
  refine g_putI O dX1_makePlan_12 fl_X1_75 (Or.inl rfl) rfl e6 ?_
  refine g_aload_n O dX1_makePlan_15 rfl 1 rfl ?_
  refine g_ifnull O dX1_makePlan_16 rfl (fun c7 => ?_) (fun c7 => ?_)
  · replace h := (if_pos c7).symm.trans h
    cases h
    exact g_return O K dX1_makePlan_23
  · replace h := (if_neg c7).symm.trans h
    refine g_iload_n O dX1_makePlan_19 rfl 2 rfl ?_
    refine g_if_gt O dX1_makePlan_20 rfl (fun c8 => ?_) (fun c8 => ?_)
    · replace h := (if_pos c8).symm.trans h
      refine g_iconst (v := (0 : Int32)) O dX1_makePlan_24 rfl ?_
      refine g_istore_n (lv' := [(3, vI (0 : Int32)), (0, vA (some a0)), (1, vA r1), (2, vI x2)]) O dX1_makePlan_25 rfl 6 hn (by decide) rfl ?_
      refine g_sub [1, 2, 3, 0] (lv' := [(0, vA (some a0)), (1, vA r1), (2, vI x2), (3, vI (0 : Int32))]) rfl ?_
      obtain ⟨w9, e10, h⟩ := bo_some h
      refine iter_G (P := P_X1_makePlan_26 M a0 r1 x2) (E := E_X1_makePlan_26 M a0 r1 x2) (fun s o hb hk => t_X1_makePlan_L26 O R0 N hn a0 r1 x2 s.1 s.2 o hb hk) FU ((0 : Int32), σ5) w9 e10 ?_
      show G M 0 0 84 [(0, vA (some a0)), (1, vA r1)] [] SX w9
      refine g_aload_n O dX1_makePlan_84 rfl 1 rfl ?_
      refine g_aload_n O dX1_makePlan_85 rfl 1 rfl ?_
      obtain ⟨v11, e12, h⟩ := bo_some h
      refine g_getR O dX1_makePlan_86 fl_X1_49 rfl e12 ?_
      refine g_aload_n O dX1_makePlan_89 rfl 0 rfl ?_
      obtain ⟨v13, e14, h⟩ := bo_some h
      refine g_getR O dX1_makePlan_90 fl_X1_15 rfl e14 ?_
      obtain ⟨v15, σ16, e17, h⟩ := bd_some h
      refine g_cS0 O R0 N dX1_makePlan_93 vl_X1_45 w1083 [vA r1, vA v11, vA v13] rfl rfl rfl ⟨Nat.le_of_ble_eq_true rfl, Nat.le_of_ble_eq_true rfl⟩ (c_X1_sumUp l0 r1 v11 v13 w9 v15 σ16 e17) ?_
      refine g_aload_n O dX1_makePlan_96 rfl 1 rfl ?_
      refine g_aload_n O dX1_makePlan_97 rfl 0 rfl ?_
      obtain ⟨v18, e19, h⟩ := bo_some h
      refine g_getR O dX1_makePlan_98 fl_X1_18 rfl e19 ?_
      refine g_aload_n O dX1_makePlan_101 rfl 0 rfl ?_
      obtain ⟨v20, e21, h⟩ := bo_some h
      refine g_getR O dX1_makePlan_102 fl_X1_21 rfl e21 ?_
      obtain ⟨v22, σ23, e24, h⟩ := bd_some h
      refine g_cS0 O R0 N dX1_makePlan_105 vl_X1_45 w1083 [vA r1, vA v18, vA v20] rfl rfl rfl ⟨Nat.le_of_ble_eq_true rfl, Nat.le_of_ble_eq_true rfl⟩ (c_X1_sumUp l0 r1 v18 v20 σ16 v22 σ23 e24) ?_
      refine g_aload_n O dX1_makePlan_108 rfl 1 rfl ?_
      refine g_aload_n O dX1_makePlan_109 rfl 0 rfl ?_
      obtain ⟨v25, e26, h⟩ := bo_some h
      refine g_getR O dX1_makePlan_110 fl_X1_24 rfl e26 ?_
      refine g_aload_n O dX1_makePlan_113 rfl 0 rfl ?_
      obtain ⟨v27, e28, h⟩ := bo_some h
      refine g_getR O dX1_makePlan_114 fl_X1_27 rfl e28 ?_
      obtain ⟨v29, σ30, e31, h⟩ := bd_some h
      refine g_cS0 O R0 N dX1_makePlan_117 vl_X1_45 w1083 [vA r1, vA v25, vA v27] rfl rfl rfl ⟨Nat.le_of_ble_eq_true rfl, Nat.le_of_ble_eq_true rfl⟩ (c_X1_sumUp l0 r1 v25 v27 σ23 v29 σ30 e31) ?_
      refine g_aload_n O dX1_makePlan_120 rfl 0 rfl ?_
      refine g_aload_n O dX1_makePlan_121 rfl 1 rfl ?_
      obtain ⟨a32, e33, h⟩ := bo_some h
      obtain ⟨v34, σ35, e36, h⟩ := bd_some h
      refine g_cV0 O R0 N dX1_makePlan_122 vl_X1_86 vv_X1_strikeHopeless e33 [vA r1] rfl rfl rfl ⟨Nat.le_of_ble_eq_true rfl, Nat.le_of_ble_eq_true rfl⟩ (c_X1_strikeHopeless l0 a32 r1 σ30 v34 σ35 e36) ?_
      refine g_iconst (v := (0 : Int32)) O dX1_makePlan_125 rfl ?_
      refine g_istore_n (lv' := [(3, vI (0 : Int32)), (0, vA (some a0)), (1, vA r1)]) O dX1_makePlan_126 rfl 6 hn (by decide) rfl ?_
      refine g_sub [1, 2, 0] (lv' := [(0, vA (some a0)), (1, vA r1), (3, vI (0 : Int32))]) rfl ?_
      obtain ⟨w37, e38, h⟩ := bo_some h
      refine iter_G (P := P_X1_makePlan_127 M a0 r1) (E := E_X1_makePlan_127 M a0 r1) (fun s o hb hk => t_X1_makePlan_L127 O R0 N hn a0 r1 s.1 s.2 o hb hk) FU ((0 : Int32), σ35) w37 e38 ?_
      rcases w37 with w39 | w39
      · replace h := el_l h
        show G M 0 0 154 [(0, vA (some a0)), (4, vI w39.1), (5, vI w39.2.1)] [] SX w39.2.2
        refine g_aload_n O dX1_makePlan_154 rfl 0 rfl ?_
        refine g_aload_n O dX1_makePlan_155 rfl 0 rfl ?_
        obtain ⟨v40, e41, h⟩ := bo_some h
        refine g_getR O dX1_makePlan_156 fl_X1_15 rfl e41 ?_
        refine g_iload O dX1_makePlan_159 1 rfl ?_
        obtain ⟨v42, e43, h⟩ := bo_some h
        refine g_iaload O dX1_makePlan_161 e43 ?_
        obtain ⟨σ44, e45, h⟩ := bo_some h
        refine g_putI O dX1_makePlan_162 fl_X1_69 (Or.inl rfl) rfl e45 ?_
        refine g_aload_n O dX1_makePlan_165 rfl 0 rfl ?_
        refine g_iload O dX1_makePlan_166 1 rfl ?_
        obtain ⟨σ46, e47, h⟩ := bo_some h
        refine g_putI O dX1_makePlan_168 fl_X1_72 (Or.inl rfl) rfl e47 ?_
        refine g_aload_n O dX1_makePlan_171 rfl 0 rfl ?_
        refine g_iload O dX1_makePlan_172 2 rfl ?_
        obtain ⟨σ48, e49, h⟩ := bo_some h
        refine g_putI O dX1_makePlan_174 fl_X1_75 (Or.inl rfl) rfl e49 ?_
        cases h
        exact g_return O K dX1_makePlan_177
      · replace h := el_r h
        show G M 0 0 192 [] [] SX w39
        cases h
        exact g_return O K dX1_makePlan_192
    · replace h := (if_neg c8).symm.trans h
      cases h
      exact g_return O K dX1_makePlan_23
theorem c_X1_makePlan (l0 : Launch) (a0 : Nat) (r1 : Option Nat) (x2 : Int32) (σ : Dt) (r : Unit) (σ' : Dt) (h : f_X1_makePlan a0 r1 x2 σ = some (r, σ')) : Ctr l0 yX1_makePlan cX1_makePlan 6 (none) false 4 131 0 0 [vA (some a0), vA r1, vI x2] SX σ SX σ' (none) := ctr_of (by decide) (Nat.le_of_ble_eq_true rfl) (fun M O F R0 N hn => t_X1_makePlan O R0 N hn a0 r1 x2 σ (r, σ') h F)
def f_X11_plan (a0 : Nat) (x1 : Int32) (x2 : Int32) (x3 : Int32) (σ : Dt) : Option (Int32 × Dt) := bo (xgr SX 11 0 (some a0) σ) fun v1 => bo (xrc SX 8 v1) fun a3 => bo (f_X8_valleyAt a3 x1 σ) fun v5 => if v5 = none then some ((-1 : Int32), σ) else bo (f_X11_isSpan x2 σ) fun v8 => if v8 = 0 then some ((-1 : Int32), σ) else if x3 < 0 then some ((-1 : Int32), σ) else if x3 ≤ (2 : Int32) then bo (xgr SX 11 7 (some a0) σ) fun v13 => bo (xrc SX 1 v13) fun a15 => bd (f_X1_makePlan a15 v5 x2 σ) fun v17 σ18 => if x3 = 0 then bo (xgr SX 11 7 (some a0) σ18) fun v21 => bo (xgi SX 1 0 v21 σ18) fun v23 => some (v23, σ18) else if x3 = (1 : Int32) then bo (xgr SX 11 7 (some a0) σ18) fun v26 => bo (xgi SX 1 1 v26 σ18) fun v28 => some (v28, σ18) else bo (xgr SX 11 7 (some a0) σ18) fun v30 => bo (xgi SX 1 2 v30 σ18) fun v32 => some (v32, σ18) else some ((-1 : Int32), σ)
theorem t_X11_plan {M : Mx} {l0 : Launch} (O : Ok M cX11_plan yX11_plan) (R0 : Rm M l0 5 156 0 0) (N : Ma M = false) (hn : Mn M = 5) (a0 : Nat) (x1 : Int32) (x2 : Int32) (x3 : Int32) (σ : Dt) (o : (Int32 × Dt)) (h : f_X11_plan a0 x1 x2 x3 σ = some o) (K : Fin' M (some .int) 0 0 SX o.2 (some (vI o.1))) : G M 0 0 0 [(0, vA (some a0)), (1, vI x1), (2, vI x2), (3, vI x3)] [] SX σ := by
  unfold f_X11_plan at h
  refine g_aload_n O dX11_plan_0 rfl 0 rfl ?_
  obtain ⟨v1, e2, h⟩ := bo_some h
  refine g_getR O dX11_plan_1 fl_X11_12 rfl e2 ?_
  refine g_iload_n O dX11_plan_4 rfl 1 rfl ?_
  obtain ⟨a3, e4, h⟩ := bo_some h
  obtain ⟨v5, e6, h⟩ := bo_some h
  refine g_cV1 O R0 N dX11_plan_5 vl_X11_105 vv_X8_valleyAt e4 [vI x1] rfl rfl rfl ⟨Nat.le_of_ble_eq_true rfl, Nat.le_of_ble_eq_true rfl⟩ (c_X8_valleyAt l0 a3 x1 σ v5 e6) ?_
  refine g_astore (lv' := [(4, vA v5), (0, vA (some a0)), (1, vI x1), (2, vI x2), (3, vI x3)]) O dX11_plan_8 5 hn (by decide) rfl ?_
  refine g_aload O dX11_plan_10 0 rfl ?_
  refine g_ifnull O dX11_plan_12 rfl (fun c7 => ?_) (fun c7 => ?_)
  · replace h := (if_pos c7).symm.trans h
    refine g_iconst (v := (-1 : Int32)) O dX11_plan_31 rfl ?_
    cases h
    exact g_ireturn O K dX11_plan_32
  · replace h := (if_neg c7).symm.trans h
    refine g_iload_n O dX11_plan_15 rfl 3 rfl ?_
    obtain ⟨v8, e9, h⟩ := bo_some h
    refine g_cS1 O R0 N dX11_plan_16 vl_X11_138 w1027 [vI x2] rfl rfl rfl ⟨Nat.le_of_ble_eq_true rfl, Nat.le_of_ble_eq_true rfl⟩ (c_X11_isSpan l0 x2 σ v8 e9) ?_
    refine g_if_eq O dX11_plan_19 rfl (fun c10 => ?_) (fun c10 => ?_)
    · replace h := (if_pos c10).symm.trans h
      refine g_iconst (v := (-1 : Int32)) O dX11_plan_31 rfl ?_
      cases h
      exact g_ireturn O K dX11_plan_32
    · replace h := (if_neg c10).symm.trans h
      refine g_iload_n O dX11_plan_22 rfl 4 rfl ?_
      refine g_if_lt O dX11_plan_23 rfl (fun c11 => ?_) (fun c11 => ?_)
      · replace h := (if_pos c11).symm.trans h
        refine g_iconst (v := (-1 : Int32)) O dX11_plan_31 rfl ?_
        cases h
        exact g_ireturn O K dX11_plan_32
      · replace h := (if_neg c11).symm.trans h
        refine g_iload_n O dX11_plan_26 rfl 4 rfl ?_
        refine g_iconst (v := (2 : Int32)) O dX11_plan_27 rfl ?_
        refine g_icmp_le O dX11_plan_28 rfl (fun c12 => ?_) (fun c12 => ?_)
        · replace h := (if_pos c12).symm.trans h
          refine g_aload_n O dX11_plan_33 rfl 1 rfl ?_
          obtain ⟨v13, e14, h⟩ := bo_some h
          refine g_getR O dX11_plan_34 fl_X11_55 rfl e14 ?_
          refine g_aload O dX11_plan_37 0 rfl ?_
          refine g_iload_n O dX11_plan_39 rfl 3 rfl ?_
          obtain ⟨a15, e16, h⟩ := bo_some h
          obtain ⟨v17, σ18, e19, h⟩ := bd_some h
          refine g_cV0 O R0 N dX11_plan_40 vl_X11_169 vv_X1_makePlan e16 [vA v5, vI x2] rfl rfl rfl ⟨Nat.le_of_ble_eq_true rfl, Nat.le_of_ble_eq_true rfl⟩ (c_X1_makePlan l0 a15 v5 x2 σ v17 σ18 e19) ?_
          refine g_iload_n O dX11_plan_43 rfl 4 rfl ?_
          refine g_if_ne O dX11_plan_44 rfl (fun c20 => ?_) (fun c20 => ?_)
          · replace h := (if_pos c20).symm.trans h
            refine g_aload_n O dX11_plan_47 rfl 1 rfl ?_
            obtain ⟨v21, e22, h⟩ := bo_some h
            refine g_getR O dX11_plan_48 fl_X11_55 rfl e22 ?_
            obtain ⟨v23, e24, h⟩ := bo_some h
            refine g_getI O dX11_plan_51 fl_X11_172 rfl e24 ?_
            cases h
            exact g_ireturn O K dX11_plan_54
          · replace h := (if_neg c20).symm.trans h
            refine g_iload_n O dX11_plan_55 rfl 4 rfl ?_
            refine g_iconst (v := (1 : Int32)) O dX11_plan_56 rfl ?_
            refine g_icmp_ne O dX11_plan_57 rfl (fun c25 => ?_) (fun c25 => ?_)
            · replace h := (if_pos c25).symm.trans h
              refine g_aload_n O dX11_plan_60 rfl 1 rfl ?_
              obtain ⟨v26, e27, h⟩ := bo_some h
              refine g_getR O dX11_plan_61 fl_X11_55 rfl e27 ?_
              obtain ⟨v28, e29, h⟩ := bo_some h
              refine g_getI O dX11_plan_64 fl_X11_175 rfl e29 ?_
              refine g_goto O dX11_plan_67 rfl ?_
              cases h
              exact g_ireturn O K dX11_plan_77
            · replace h := (if_neg c25).symm.trans h
              refine g_aload_n O dX11_plan_70 rfl 1 rfl ?_
              obtain ⟨v30, e31, h⟩ := bo_some h
              refine g_getR O dX11_plan_71 fl_X11_55 rfl e31 ?_
              obtain ⟨v32, e33, h⟩ := bo_some h
              refine g_getI O dX11_plan_74 fl_X11_178 rfl e33 ?_
              cases h
              exact g_ireturn O K dX11_plan_77
        · replace h := (if_neg c12).symm.trans h
          refine g_iconst (v := (-1 : Int32)) O dX11_plan_31 rfl ?_
          cases h
          exact g_ireturn O K dX11_plan_32
theorem c_X11_plan (l0 : Launch) (a0 : Nat) (x1 : Int32) (x2 : Int32) (x3 : Int32) (σ : Dt) (r : Int32) (σ' : Dt) (h : f_X11_plan a0 x1 x2 x3 σ = some (r, σ')) : Ctr l0 yX11_plan cX11_plan 5 (some .int) false 5 156 0 0 [vA (some a0), vI x1, vI x2, vI x3] SX σ SX σ' (some (vI r)) := ctr_of (by decide) (Nat.le_of_ble_eq_true rfl) (fun M O F R0 N hn => t_X11_plan O R0 N hn a0 x1 x2 x3 σ (r, σ') h F)
def f_X9_isGrandparent_33  (σ : Dt) : Option Int32 := some (0 : Int32)
theorem t_X9_isGrandparent_33 {M : Mx} {l0 : Launch} (O : Ok M cX9_isGrandparent yX9_isGrandparent) (R0 : Rm M l0 3 101 0 0) (N : Ma M = false) (hn : Mn M = 3)   (σ : Dt) (o : Int32) (h : f_X9_isGrandparent_33 σ = some o) (K : Fin' M (some .boolean) 0 0 SX σ (some (vI o))) : G M 0 0 33 [] [] SX σ := by
  unfold f_X9_isGrandparent_33 at h
  refine g_iconst (v := (0 : Int32)) O dX9_isGrandparent_33 rfl ?_
  cases h
  exact g_zreturn O (by decide) K dX9_isGrandparent_34
def f_X9_isGrandparent (a0 : Nat) (x1 : Int32) (x2 : Int32) (σ : Dt) : Option Int32 := bo (xrc SX 9 (some a0)) fun a1 => bo (f_X9_hasFolk a1 x1 σ) fun v3 => if v3 = 0 then f_X9_isGrandparent_33 σ else bo (xrc SX 9 (some a0)) fun a6 => bo (f_X9_hasFolk a6 x2 σ) fun v8 => if v8 = 0 then f_X9_isGrandparent_33 σ else bo (xgr SX 9 6 (some a0) σ) fun v11 => bo (xai SX v11 x2 σ) fun v13 => if ((v13 >>> (x1 &&& 31)) &&& (1 : Int32)) = 0 then f_X9_isGrandparent_33 σ else some (1 : Int32)
theorem t_X9_isGrandparent {M : Mx} {l0 : Launch} (O : Ok M cX9_isGrandparent yX9_isGrandparent) (R0 : Rm M l0 3 101 0 0) (N : Ma M = false) (hn : Mn M = 3) (a0 : Nat) (x1 : Int32) (x2 : Int32) (σ : Dt) (o : Int32) (h : f_X9_isGrandparent a0 x1 x2 σ = some o) (K : Fin' M (some .boolean) 0 0 SX σ (some (vI o))) : G M 0 0 0 [(0, vA (some a0)), (1, vI x1), (2, vI x2)] [] SX σ := by
  unfold f_X9_isGrandparent at h
  refine g_aload_n O dX9_isGrandparent_0 rfl 0 rfl ?_
  refine g_iload_n O dX9_isGrandparent_1 rfl 1 rfl ?_
  obtain ⟨a1, e2, h⟩ := bo_some h
  obtain ⟨v3, e4, h⟩ := bo_some h
  refine g_cV1 O R0 N dX9_isGrandparent_2 vl_X9_49 vv_X9_hasFolk e2 [vI x1] rfl rfl rfl ⟨Nat.le_of_ble_eq_true rfl, Nat.le_of_ble_eq_true rfl⟩ (c_X9_hasFolk l0 a1 x1 σ v3 e4) ?_
  refine g_if_eq O dX9_isGrandparent_5 rfl (fun c5 => ?_) (fun c5 => ?_)
  · replace h := (if_pos c5).symm.trans h
    refine g_sub [] (lv' := []) rfl ?_
    exact t_X9_isGrandparent_33 O R0 N hn σ o h K
  · replace h := (if_neg c5).symm.trans h
    refine g_aload_n O dX9_isGrandparent_8 rfl 0 rfl ?_
    refine g_iload_n O dX9_isGrandparent_9 rfl 2 rfl ?_
    obtain ⟨a6, e7, h⟩ := bo_some h
    obtain ⟨v8, e9, h⟩ := bo_some h
    refine g_cV1 O R0 N dX9_isGrandparent_10 vl_X9_49 vv_X9_hasFolk e7 [vI x2] rfl rfl rfl ⟨Nat.le_of_ble_eq_true rfl, Nat.le_of_ble_eq_true rfl⟩ (c_X9_hasFolk l0 a6 x2 σ v8 e9) ?_
    refine g_if_eq O dX9_isGrandparent_13 rfl (fun c10 => ?_) (fun c10 => ?_)
    · replace h := (if_pos c10).symm.trans h
      refine g_sub [] (lv' := []) rfl ?_
      exact t_X9_isGrandparent_33 O R0 N hn σ o h K
    · replace h := (if_neg c10).symm.trans h
      refine g_aload_n O dX9_isGrandparent_16 rfl 0 rfl ?_
      obtain ⟨v11, e12, h⟩ := bo_some h
      refine g_getR O dX9_isGrandparent_17 fl_X9_21 rfl e12 ?_
      refine g_iload_n O dX9_isGrandparent_20 rfl 2 rfl ?_
      obtain ⟨v13, e14, h⟩ := bo_some h
      refine g_iaload O dX9_isGrandparent_21 e14 ?_
      refine g_iload_n O dX9_isGrandparent_22 rfl 1 rfl ?_
      refine g_ishr O dX9_isGrandparent_23 ?_
      refine g_iconst (v := (1 : Int32)) O dX9_isGrandparent_24 rfl ?_
      refine g_iand O dX9_isGrandparent_25 ?_
      refine g_if_eq O dX9_isGrandparent_26 rfl (fun c15 => ?_) (fun c15 => ?_)
      · replace h := (if_pos c15).symm.trans h
        refine g_sub [] (lv' := []) rfl ?_
        exact t_X9_isGrandparent_33 O R0 N hn σ o h K
      · replace h := (if_neg c15).symm.trans h
        refine g_iconst (v := (1 : Int32)) O dX9_isGrandparent_29 rfl ?_
        refine g_goto O dX9_isGrandparent_30 rfl ?_
        cases h
        exact g_zreturn O (by decide) K dX9_isGrandparent_34
theorem c_X9_isGrandparent (l0 : Launch) (a0 : Nat) (x1 : Int32) (x2 : Int32) (σ : Dt) (r : Int32) (h : f_X9_isGrandparent a0 x1 x2 σ = some r) : Ctr l0 yX9_isGrandparent cX9_isGrandparent 3 (some .boolean) false 3 101 0 0 [vA (some a0), vI x1, vI x2] SX σ SX σ (some (vI r)) := ctr_of (by decide) (Nat.le_of_ble_eq_true rfl) (fun M O F R0 N hn => t_X9_isGrandparent O R0 N hn a0 x1 x2 σ r h F)
def P_X0_gather_7 (M : Mx) (a0 : Nat) (r1 : Option Nat) (x2 : Int32) (s : (Int32 × Dt)) : Prop := G M 0 0 7 [(0, vA (some a0)), (1, vA r1), (2, vI x2), (3, vI s.1)] [] SX s.2
def E_X0_gather_7 (M : Mx) (a0 : Nat) (r1 : Option Nat) (x2 : Int32) : Dt → Prop := (fun w => G M 0 0 101 [] [] SX w)
def f_X0_gather_95 (a0 : Nat) (r1 : Option Nat) (x2 : Int32) (x3 : Int32) (σ : Dt) : Option ((Int32 × Dt) ⊕ Dt) := some (.inl ((x3 + (1 : Int32)), σ))
theorem t_X0_gather_95 {M : Mx} {l0 : Launch} (O : Ok M cX0_gather yX0_gather) (R0 : Rm M l0 4 123 0 0) (N : Ma M = false) (hn : Mn M = 4)  (a0 : Nat) (r1 : Option Nat) (x2 : Int32) (x3 : Int32) (σ : Dt) (o : ((Int32 × Dt) ⊕ Dt)) (h : f_X0_gather_95 a0 r1 x2 x3 σ = some o) (K : kon (P_X0_gather_7 M a0 r1 x2) (E_X0_gather_7 M a0 r1 x2) o) : G M 0 0 95 [(0, vA (some a0)), (1, vA r1), (2, vI x2), (3, vI x3)] [] SX σ := by
  unfold f_X0_gather_95 at h
  refine g_iinc (v := (x3 + (1 : Int32))) (lv' := [(3, vI (x3 + (1 : Int32))), (0, vA (some a0)), (1, vA r1), (2, vI x2)]) O dX0_gather_95 4 hn (by decide) 3 rfl rfl rfl ?_
  refine g_goto O dX0_gather_98 rfl ?_
  refine g_sub [1, 2, 3, 0] (lv' := [(0, vA (some a0)), (1, vA r1), (2, vI x2), (3, vI (x3 + (1 : Int32)))]) rfl ?_
  cases h
  exact K
def f_X0_gather_L7 (a0 : Nat) (r1 : Option Nat) (x2 : Int32) (x3 : Int32) (σ : Dt) : Option ((Int32 × Dt) ⊕ Dt) := bo (xgi SX 9 0 r1 σ) fun v1 => if v1 ≤ x3 then some (.inr σ) else if (10 : Int32) ≤ x3 then some (.inr σ) else bo (xrc SX 9 r1) fun a5 => bo (f_X9_isGrandparent a5 x3 x2 σ) fun v7 => if v7 = 0 then f_X0_gather_95 a0 r1 x2 x3 σ else bo (xgi SX 0 2 (some a0) σ) fun v10 => if (10 : Int32) ≤ v10 then f_X0_gather_95 a0 r1 x2 x3 σ else bo (xgr SX 0 3 (some a0) σ) fun v13 => bo (xgi SX 0 2 (some a0) σ) fun v15 => bo (xsi SX v13 v15 x3 σ) fun σ17 => bo (xgr SX 0 4 (some a0) σ17) fun v19 => bo (xgi SX 0 2 (some a0) σ17) fun v21 => bo (xgr SX 9 4 r1 σ17) fun v23 => bo (xai SX v23 x3 σ17) fun v25 => bo (xsi SX v19 v21 v25 σ17) fun σ27 => bo (xgr SX 0 5 (some a0) σ27) fun v29 => bo (xgi SX 0 2 (some a0) σ27) fun v31 => bo (xgr SX 9 3 r1 σ27) fun v33 => bo (xai SX v33 x3 σ27) fun v35 => bo (xsi SX v29 v31 ((10 : Int32) - (v35 / (10 : Int32))) σ27) fun σ37 => bo (xgi SX 0 2 (some a0) σ37) fun v39 => bo (xpi SX 0 2 (some a0) (v39 + (1 : Int32)) σ37) fun σ41 => f_X0_gather_95 a0 r1 x2 x3 σ41
theorem t_X0_gather_L7 {M : Mx} {l0 : Launch} (O : Ok M cX0_gather yX0_gather) (R0 : Rm M l0 4 123 0 0) (N : Ma M = false) (hn : Mn M = 4) (a0 : Nat) (r1 : Option Nat) (x2 : Int32) (x3 : Int32) (σ : Dt) (o : ((Int32 × Dt) ⊕ Dt)) (h : f_X0_gather_L7 a0 r1 x2 x3 σ = some o) (K : kon (P_X0_gather_7 M a0 r1 x2) (E_X0_gather_7 M a0 r1 x2) o) : G M 0 0 7 [(0, vA (some a0)), (1, vA r1), (2, vI x2), (3, vI x3)] [] SX σ := by
  unfold f_X0_gather_L7 at h
  refine g_iload_n O dX0_gather_7 rfl 3 rfl ?_
  refine g_aload_n O dX0_gather_8 rfl 1 rfl ?_
  obtain ⟨v1, e2, h⟩ := bo_some h
  refine g_getI O dX0_gather_9 fl_X0_32 rfl e2 ?_
  refine g_icmp_ge O dX0_gather_12 rfl (fun c3 => ?_) (fun c3 => ?_)
  · replace h := (if_pos c3).symm.trans h
    refine g_sub [] (lv' := []) rfl ?_
    cases h
    exact K
  · replace h := (if_neg c3).symm.trans h
    refine g_iload_n O dX0_gather_15 rfl 3 rfl ?_
    refine g_bipush (v := (10 : Int32)) O dX0_gather_16 rfl ?_
    refine g_icmp_ge O dX0_gather_18 rfl (fun c4 => ?_) (fun c4 => ?_)
    · replace h := (if_pos c4).symm.trans h
      refine g_sub [] (lv' := []) rfl ?_
      cases h
      exact K
    · replace h := (if_neg c4).symm.trans h
      refine g_aload_n O dX0_gather_21 rfl 1 rfl ?_
      refine g_iload_n O dX0_gather_22 rfl 3 rfl ?_
      refine g_iload_n O dX0_gather_23 rfl 2 rfl ?_
      obtain ⟨a5, e6, h⟩ := bo_some h
      obtain ⟨v7, e8, h⟩ := bo_some h
      refine g_cV1 O R0 N dX0_gather_24 vl_X0_37 vv_X9_isGrandparent e6 [vI x3, vI x2] rfl rfl rfl ⟨Nat.le_of_ble_eq_true rfl, Nat.le_of_ble_eq_true rfl⟩ (c_X9_isGrandparent l0 a5 x3 x2 σ v7 e8) ?_
      refine g_if_eq O dX0_gather_27 rfl (fun c9 => ?_) (fun c9 => ?_)
      · replace h := (if_pos c9).symm.trans h
        exact t_X0_gather_95 O R0 N hn a0 r1 x2 x3 σ o h K
      · replace h := (if_neg c9).symm.trans h
        refine g_aload_n O dX0_gather_30 rfl 0 rfl ?_
        obtain ⟨v10, e11, h⟩ := bo_some h
        refine g_getI O dX0_gather_31 fl_X0_28 rfl e11 ?_
        refine g_bipush (v := (10 : Int32)) O dX0_gather_34 rfl ?_
        refine g_icmp_ge O dX0_gather_36 rfl (fun c12 => ?_) (fun c12 => ?_)
        · replace h := (if_pos c12).symm.trans h
          exact t_X0_gather_95 O R0 N hn a0 r1 x2 x3 σ o h K
        · replace h := (if_neg c12).symm.trans h
          refine g_aload_n O dX0_gather_39 rfl 0 rfl ?_
          obtain ⟨v13, e14, h⟩ := bo_some h
          refine g_getR O dX0_gather_40 fl_X0_18 rfl e14 ?_
          refine g_aload_n O dX0_gather_43 rfl 0 rfl ?_
          obtain ⟨v15, e16, h⟩ := bo_some h
          refine g_getI O dX0_gather_44 fl_X0_28 rfl e16 ?_
          refine g_iload_n O dX0_gather_47 rfl 3 rfl ?_
          obtain ⟨σ17, e18, h⟩ := bo_some h
          refine g_iastore O dX0_gather_48 e18 ?_
          refine g_aload_n O dX0_gather_49 rfl 0 rfl ?_
          obtain ⟨v19, e20, h⟩ := bo_some h
          refine g_getR O dX0_gather_50 fl_X0_22 rfl e20 ?_
          refine g_aload_n O dX0_gather_53 rfl 0 rfl ?_
          obtain ⟨v21, e22, h⟩ := bo_some h
          refine g_getI O dX0_gather_54 fl_X0_28 rfl e22 ?_
          refine g_aload_n O dX0_gather_57 rfl 1 rfl ?_
          obtain ⟨v23, e24, h⟩ := bo_some h
          refine g_getR O dX0_gather_58 fl_X0_41 rfl e24 ?_
          refine g_iload_n O dX0_gather_61 rfl 3 rfl ?_
          obtain ⟨v25, e26, h⟩ := bo_some h
          refine g_iaload O dX0_gather_62 e26 ?_
          obtain ⟨σ27, e28, h⟩ := bo_some h
          refine g_iastore O dX0_gather_63 e28 ?_
          refine g_aload_n O dX0_gather_64 rfl 0 rfl ?_
          obtain ⟨v29, e30, h⟩ := bo_some h
          refine g_getR O dX0_gather_65 fl_X0_25 rfl e30 ?_
          refine g_aload_n O dX0_gather_68 rfl 0 rfl ?_
          obtain ⟨v31, e32, h⟩ := bo_some h
          refine g_getI O dX0_gather_69 fl_X0_28 rfl e32 ?_
          refine g_bipush (v := (10 : Int32)) O dX0_gather_72 rfl ?_
          refine g_aload_n O dX0_gather_74 rfl 1 rfl ?_
          obtain ⟨v33, e34, h⟩ := bo_some h
          refine g_getR O dX0_gather_75 fl_X0_42 rfl e34 ?_
          refine g_iload_n O dX0_gather_78 rfl 3 rfl ?_
          obtain ⟨v35, e36, h⟩ := bo_some h
          refine g_iaload O dX0_gather_79 e36 ?_
          refine g_bipush (v := (10 : Int32)) O dX0_gather_80 rfl ?_
          refine g_idiv O dX0_gather_82 (by decide) ?_
          refine g_isub O dX0_gather_83 ?_
          obtain ⟨σ37, e38, h⟩ := bo_some h
          refine g_iastore O dX0_gather_84 e38 ?_
          refine g_aload_n O dX0_gather_85 rfl 0 rfl ?_
          refine g_dup O dX0_gather_86 rfl ?_
          obtain ⟨v39, e40, h⟩ := bo_some h
          refine g_getI O dX0_gather_87 fl_X0_28 rfl e40 ?_
          refine g_iconst (v := (1 : Int32)) O dX0_gather_90 rfl ?_
          refine g_iadd O dX0_gather_91 ?_
          obtain ⟨σ41, e42, h⟩ := bo_some h
          refine g_putI O dX0_gather_92 fl_X0_28 (Or.inl rfl) rfl e42 ?_
          exact t_X0_gather_95 O R0 N hn a0 r1 x2 x3 σ41 o h K
def f_X0_gather (a0 : Nat) (r1 : Option Nat) (x2 : Int32) (σ : Dt) : Option (Unit × Dt) := bo (xpi SX 0 2 (some a0) (0 : Int32) σ) fun σ1 => bo (iter FU (fun s => f_X0_gather_L7 a0 r1 x2 s.1 s.2) ((0 : Int32), σ1)) fun w3 => some ((), w3)
theorem t_X0_gather {M : Mx} {l0 : Launch} (O : Ok M cX0_gather yX0_gather) (R0 : Rm M l0 4 123 0 0) (N : Ma M = false) (hn : Mn M = 4) (a0 : Nat) (r1 : Option Nat) (x2 : Int32) (σ : Dt) (o : (Unit × Dt)) (h : f_X0_gather a0 r1 x2 σ = some o) (K : Fin' M (none) 0 0 SX o.2 (none)) : G M 0 0 0 [(0, vA (some a0)), (1, vA r1), (2, vI x2)] [] SX σ := by
  unfold f_X0_gather at h
  refine g_aload_n O dX0_gather_0 rfl 0 rfl ?_
  refine g_iconst (v := (0 : Int32)) O dX0_gather_1 rfl ?_
  obtain ⟨σ1, e2, h⟩ := bo_some h
  refine g_putI O dX0_gather_2 fl_X0_28 (Or.inl rfl) rfl e2 ?_
  refine g_iconst (v := (0 : Int32)) O dX0_gather_5 rfl ?_
  refine g_istore_n (lv' := [(3, vI (0 : Int32)), (0, vA (some a0)), (1, vA r1), (2, vI x2)]) O dX0_gather_6 rfl 4 hn (by decide) rfl ?_
  refine g_sub [1, 2, 3, 0] (lv' := [(0, vA (some a0)), (1, vA r1), (2, vI x2), (3, vI (0 : Int32))]) rfl ?_
  obtain ⟨w3, e4, h⟩ := bo_some h
  refine iter_G (P := P_X0_gather_7 M a0 r1 x2) (E := E_X0_gather_7 M a0 r1 x2) (fun s o hb hk => t_X0_gather_L7 O R0 N hn a0 r1 x2 s.1 s.2 o hb hk) FU ((0 : Int32), σ1) w3 e4 ?_
  show G M 0 0 101 [] [] SX w3
  cases h
  exact g_return O K dX0_gather_101
theorem c_X0_gather (l0 : Launch) (a0 : Nat) (r1 : Option Nat) (x2 : Int32) (σ : Dt) (r : Unit) (σ' : Dt) (h : f_X0_gather a0 r1 x2 σ = some (r, σ')) : Ctr l0 yX0_gather cX0_gather 4 (none) false 4 123 0 0 [vA (some a0), vA r1, vI x2] SX σ SX σ' (none) := ctr_of (by decide) (Nat.le_of_ble_eq_true rfl) (fun M O F R0 N hn => t_X0_gather O R0 N hn a0 r1 x2 σ (r, σ') h F)
def P_X0_waysToLive_5 (M : Mx) (a0 : Nat) (x1 : Int32) (σ : Dt) (s : (Int64 × Int32)) : Prop := G M 0 0 5 [(0, vA (some a0)), (1, vI x1), (2, vJ s.1), (4, vI s.2)] [] SX σ
def E_X0_waysToLive_5 (M : Mx) (a0 : Nat) (x1 : Int32) (σ : Dt) : Int64 → Prop := (fun w => G M 0 0 61 [(2, vJ w)] [] SX σ)
def f_X0_waysToLive_53 (a0 : Nat) (x1 : Int32) (x4 : Int32) (k0 : Int64) (k1 : Int64) (σ : Dt) : Option ((Int64 × Int32) ⊕ Int64) := some (.inl ((k0 * k1), (x4 + (1 : Int32))))
theorem t_X0_waysToLive_53 {M : Mx} {l0 : Launch} (O : Ok M cX0_waysToLive yX0_waysToLive) (R0 : Rm M l0 2 80 0 0) (N : Ma M = false) (hn : Mn M = 5)  (a0 : Nat) (x1 : Int32) (x4 : Int32) (k0 : Int64) (k1 : Int64) (σ : Dt) (o : ((Int64 × Int32) ⊕ Int64)) (h : f_X0_waysToLive_53 a0 x1 x4 k0 k1 σ = some o) (K : kon (P_X0_waysToLive_5 M a0 x1 σ) (E_X0_waysToLive_5 M a0 x1 σ) o) : G M 0 0 53 [(0, vA (some a0)), (1, vI x1), (4, vI x4)] [vJ k1, vJ k0] SX σ := by
  unfold f_X0_waysToLive_53 at h
  refine g_lmul O dX0_waysToLive_53 ?_
  refine g_lstore_n (lv' := [(2, vJ (k0 * k1)), (0, vA (some a0)), (1, vI x1), (4, vI x4)]) O dX0_waysToLive_54 rfl 5 hn (by decide) rfl ?_
  refine g_iinc (v := (x4 + (1 : Int32))) (lv' := [(4, vI (x4 + (1 : Int32))), (2, vJ (k0 * k1)), (0, vA (some a0)), (1, vI x1)]) O dX0_waysToLive_55 5 hn (by decide) 3 rfl rfl rfl ?_
  refine g_goto O dX0_waysToLive_58 rfl ?_
  refine g_sub [2, 3, 1, 0] (lv' := [(0, vA (some a0)), (1, vI x1), (2, vJ (k0 * k1)), (4, vI (x4 + (1 : Int32)))]) rfl ?_
  cases h
  exact K
def f_X0_waysToLive_L5 (a0 : Nat) (x1 : Int32) (y2 : Int64) (x4 : Int32) (σ : Dt) : Option ((Int64 × Int32) ⊕ Int64) := bo (xgi SX 0 2 (some a0) σ) fun v1 => if v1 ≤ x4 then some (.inr y2) else if (10 : Int32) ≤ x4 then some (.inr y2) else if ((x1 >>> (x4 &&& 31)) &&& (1 : Int32)) = 0 then bo (xgr SX 0 5 (some a0) σ) fun v6 => bo (xai SX v6 x4 σ) fun v8 => f_X0_waysToLive_53 a0 x1 x4 y2 (Int32.toInt64 ((10 : Int32) - v8)) σ else bo (xgr SX 0 5 (some a0) σ) fun v10 => bo (xai SX v10 x4 σ) fun v12 => f_X0_waysToLive_53 a0 x1 x4 y2 (Int32.toInt64 v12) σ
theorem t_X0_waysToLive_L5 {M : Mx} {l0 : Launch} (O : Ok M cX0_waysToLive yX0_waysToLive) (R0 : Rm M l0 2 80 0 0) (N : Ma M = false) (hn : Mn M = 5) (a0 : Nat) (x1 : Int32) (y2 : Int64) (x4 : Int32) (σ : Dt) (o : ((Int64 × Int32) ⊕ Int64)) (h : f_X0_waysToLive_L5 a0 x1 y2 x4 σ = some o) (K : kon (P_X0_waysToLive_5 M a0 x1 σ) (E_X0_waysToLive_5 M a0 x1 σ) o) : G M 0 0 5 [(0, vA (some a0)), (1, vI x1), (2, vJ y2), (4, vI x4)] [] SX σ := by
  unfold f_X0_waysToLive_L5 at h
  refine g_iload O dX0_waysToLive_5 3 rfl ?_
  refine g_aload_n O dX0_waysToLive_7 rfl 0 rfl ?_
  obtain ⟨v1, e2, h⟩ := bo_some h
  refine g_getI O dX0_waysToLive_8 fl_X0_28 rfl e2 ?_
  refine g_icmp_ge O dX0_waysToLive_11 rfl (fun c3 => ?_) (fun c3 => ?_)
  · replace h := (if_pos c3).symm.trans h
    refine g_sub [2] (lv' := [(2, vJ y2)]) rfl ?_
    cases h
    exact K
  · replace h := (if_neg c3).symm.trans h
    refine g_iload O dX0_waysToLive_14 3 rfl ?_
    refine g_bipush (v := (10 : Int32)) O dX0_waysToLive_16 rfl ?_
    refine g_icmp_ge O dX0_waysToLive_18 rfl (fun c4 => ?_) (fun c4 => ?_)
    · replace h := (if_pos c4).symm.trans h
      refine g_sub [2] (lv' := [(2, vJ y2)]) rfl ?_
      cases h
      exact K
    · replace h := (if_neg c4).symm.trans h
      refine g_lload_n O dX0_waysToLive_21 rfl 2 rfl ?_
      refine g_iload_n O dX0_waysToLive_22 rfl 1 rfl ?_
      refine g_iload O dX0_waysToLive_23 3 rfl ?_
      refine g_ishr O dX0_waysToLive_25 ?_
      refine g_iconst (v := (1 : Int32)) O dX0_waysToLive_26 rfl ?_
      refine g_iand O dX0_waysToLive_27 ?_
      refine g_if_eq O dX0_waysToLive_28 rfl (fun c5 => ?_) (fun c5 => ?_)
      · replace h := (if_pos c5).symm.trans h
        refine g_bipush (v := (10 : Int32)) O dX0_waysToLive_42 rfl ?_
        refine g_aload_n O dX0_waysToLive_44 rfl 0 rfl ?_
        obtain ⟨v6, e7, h⟩ := bo_some h
        refine g_getR O dX0_waysToLive_45 fl_X0_25 rfl e7 ?_
        refine g_iload O dX0_waysToLive_48 3 rfl ?_
        obtain ⟨v8, e9, h⟩ := bo_some h
        refine g_iaload O dX0_waysToLive_50 e9 ?_
        refine g_isub O dX0_waysToLive_51 ?_
        refine g_i2l O dX0_waysToLive_52 ?_
        refine g_sub [0, 1, 3] (lv' := [(0, vA (some a0)), (1, vI x1), (4, vI x4)]) rfl ?_
        exact t_X0_waysToLive_53 O R0 N hn a0 x1 x4 y2 (Int32.toInt64 ((10 : Int32) - v8)) σ o h K
      · replace h := (if_neg c5).symm.trans h
        refine g_aload_n O dX0_waysToLive_31 rfl 0 rfl ?_
        obtain ⟨v10, e11, h⟩ := bo_some h
        refine g_getR O dX0_waysToLive_32 fl_X0_25 rfl e11 ?_
        refine g_iload O dX0_waysToLive_35 3 rfl ?_
        obtain ⟨v12, e13, h⟩ := bo_some h
        refine g_iaload O dX0_waysToLive_37 e13 ?_
        refine g_i2l O dX0_waysToLive_38 ?_
        refine g_goto O dX0_waysToLive_39 rfl ?_
        refine g_sub [0, 1, 3] (lv' := [(0, vA (some a0)), (1, vI x1), (4, vI x4)]) rfl ?_
        exact t_X0_waysToLive_53 O R0 N hn a0 x1 x4 y2 (Int32.toInt64 v12) σ o h K
def f_X0_waysToLive (a0 : Nat) (x1 : Int32) (σ : Dt) : Option Int64 := bo (iter FU (fun s => f_X0_waysToLive_L5 a0 x1 s.1 s.2 σ) ((1 : Int64), (0 : Int32))) fun w1 => some w1
theorem t_X0_waysToLive {M : Mx} {l0 : Launch} (O : Ok M cX0_waysToLive yX0_waysToLive) (R0 : Rm M l0 2 80 0 0) (N : Ma M = false) (hn : Mn M = 5) (a0 : Nat) (x1 : Int32) (σ : Dt) (o : Int64) (h : f_X0_waysToLive a0 x1 σ = some o) (K : Fin' M (some .long) 0 0 SX σ (some (vJ o))) : G M 0 0 0 [(0, vA (some a0)), (1, vI x1)] [] SX σ := by
  unfold f_X0_waysToLive at h
  refine g_lconst (v := (1 : Int64)) O dX0_waysToLive_0 rfl ?_
  refine g_lstore_n (lv' := [(2, vJ (1 : Int64)), (0, vA (some a0)), (1, vI x1)]) O dX0_waysToLive_1 rfl 5 hn (by decide) rfl ?_
  refine g_iconst (v := (0 : Int32)) O dX0_waysToLive_2 rfl ?_
  refine g_istore (lv' := [(4, vI (0 : Int32)), (2, vJ (1 : Int64)), (0, vA (some a0)), (1, vI x1)]) O dX0_waysToLive_3 5 hn (by decide) rfl ?_
  refine g_sub [2, 3, 1, 0] (lv' := [(0, vA (some a0)), (1, vI x1), (2, vJ (1 : Int64)), (4, vI (0 : Int32))]) rfl ?_
  obtain ⟨w1, e2, h⟩ := bo_some h
  refine iter_G (P := P_X0_waysToLive_5 M a0 x1 σ) (E := E_X0_waysToLive_5 M a0 x1 σ) (fun s o hb hk => t_X0_waysToLive_L5 O R0 N hn a0 x1 s.1 s.2 σ o hb hk) FU ((1 : Int64), (0 : Int32)) w1 e2 ?_
  show G M 0 0 61 [(2, vJ w1)] [] SX σ
  refine g_lload_n O dX0_waysToLive_61 rfl 0 rfl ?_
  cases h
  exact g_lreturn O K dX0_waysToLive_62
theorem c_X0_waysToLive (l0 : Launch) (a0 : Nat) (x1 : Int32) (σ : Dt) (r : Int64) (h : f_X0_waysToLive a0 x1 σ = some r) : Ctr l0 yX0_waysToLive cX0_waysToLive 5 (some .long) false 2 80 0 0 [vA (some a0), vI x1] SX σ SX σ (some (vJ r)) := ctr_of (by decide) (Nat.le_of_ble_eq_true rfl) (fun M O F R0 N hn => t_X0_waysToLive O R0 N hn a0 x1 σ r h F)
def P_X0_strengthOf_4 (M : Mx) (a0 : Nat) (x1 : Int32) (σ : Dt) (s : (Int32 × Int32)) : Prop := G M 0 0 4 [(0, vA (some a0)), (1, vI x1), (2, vI s.1), (3, vI s.2)] [] SX σ
def E_X0_strengthOf_4 (M : Mx) (a0 : Nat) (x1 : Int32) (σ : Dt) : Int32 → Prop := (fun w => G M 0 0 45 [(2, vI w)] [] SX σ)
def f_X0_strengthOf_37 (a0 : Nat) (x1 : Int32) (x3 : Int32) (k0 : Int32) (k1 : Int32) (σ : Dt) : Option ((Int32 × Int32) ⊕ Int32) := some (.inl ((k0 + k1), (x3 + (1 : Int32))))
theorem t_X0_strengthOf_37 {M : Mx} {l0 : Launch} (O : Ok M cX0_strengthOf yX0_strengthOf) (R0 : Rm M l0 2 80 0 0) (N : Ma M = false) (hn : Mn M = 4)  (a0 : Nat) (x1 : Int32) (x3 : Int32) (k0 : Int32) (k1 : Int32) (σ : Dt) (o : ((Int32 × Int32) ⊕ Int32)) (h : f_X0_strengthOf_37 a0 x1 x3 k0 k1 σ = some o) (K : kon (P_X0_strengthOf_4 M a0 x1 σ) (E_X0_strengthOf_4 M a0 x1 σ) o) : G M 0 0 37 [(0, vA (some a0)), (1, vI x1), (3, vI x3)] [vI k1, vI k0] SX σ := by
  unfold f_X0_strengthOf_37 at h
  refine g_iadd O dX0_strengthOf_37 ?_
  refine g_istore_n (lv' := [(2, vI (k0 + k1)), (0, vA (some a0)), (1, vI x1), (3, vI x3)]) O dX0_strengthOf_38 rfl 4 hn (by decide) rfl ?_
  refine g_iinc (v := (x3 + (1 : Int32))) (lv' := [(3, vI (x3 + (1 : Int32))), (2, vI (k0 + k1)), (0, vA (some a0)), (1, vI x1)]) O dX0_strengthOf_39 4 hn (by decide) 3 rfl rfl rfl ?_
  refine g_goto O dX0_strengthOf_42 rfl ?_
  refine g_sub [2, 3, 1, 0] (lv' := [(0, vA (some a0)), (1, vI x1), (2, vI (k0 + k1)), (3, vI (x3 + (1 : Int32)))]) rfl ?_
  cases h
  exact K
def f_X0_strengthOf_L4 (a0 : Nat) (x1 : Int32) (x2 : Int32) (x3 : Int32) (σ : Dt) : Option ((Int32 × Int32) ⊕ Int32) := bo (xgi SX 0 2 (some a0) σ) fun v1 => if v1 ≤ x3 then some (.inr x2) else if (10 : Int32) ≤ x3 then some (.inr x2) else if ((x1 >>> (x3 &&& 31)) &&& (1 : Int32)) = 0 then f_X0_strengthOf_37 a0 x1 x3 x2 (0 : Int32) σ else bo (xgr SX 0 4 (some a0) σ) fun v6 => bo (xai SX v6 x3 σ) fun v8 => f_X0_strengthOf_37 a0 x1 x3 x2 v8 σ
theorem t_X0_strengthOf_L4 {M : Mx} {l0 : Launch} (O : Ok M cX0_strengthOf yX0_strengthOf) (R0 : Rm M l0 2 80 0 0) (N : Ma M = false) (hn : Mn M = 4) (a0 : Nat) (x1 : Int32) (x2 : Int32) (x3 : Int32) (σ : Dt) (o : ((Int32 × Int32) ⊕ Int32)) (h : f_X0_strengthOf_L4 a0 x1 x2 x3 σ = some o) (K : kon (P_X0_strengthOf_4 M a0 x1 σ) (E_X0_strengthOf_4 M a0 x1 σ) o) : G M 0 0 4 [(0, vA (some a0)), (1, vI x1), (2, vI x2), (3, vI x3)] [] SX σ := by
  unfold f_X0_strengthOf_L4 at h
  refine g_iload_n O dX0_strengthOf_4 rfl 3 rfl ?_
  refine g_aload_n O dX0_strengthOf_5 rfl 0 rfl ?_
  obtain ⟨v1, e2, h⟩ := bo_some h
  refine g_getI O dX0_strengthOf_6 fl_X0_28 rfl e2 ?_
  refine g_icmp_ge O dX0_strengthOf_9 rfl (fun c3 => ?_) (fun c3 => ?_)
  · replace h := (if_pos c3).symm.trans h
    refine g_sub [2] (lv' := [(2, vI x2)]) rfl ?_
    cases h
    exact K
  · replace h := (if_neg c3).symm.trans h
    refine g_iload_n O dX0_strengthOf_12 rfl 3 rfl ?_
    refine g_bipush (v := (10 : Int32)) O dX0_strengthOf_13 rfl ?_
    refine g_icmp_ge O dX0_strengthOf_15 rfl (fun c4 => ?_) (fun c4 => ?_)
    · replace h := (if_pos c4).symm.trans h
      refine g_sub [2] (lv' := [(2, vI x2)]) rfl ?_
      cases h
      exact K
    · replace h := (if_neg c4).symm.trans h
      refine g_iload_n O dX0_strengthOf_18 rfl 2 rfl ?_
      refine g_iload_n O dX0_strengthOf_19 rfl 1 rfl ?_
      refine g_iload_n O dX0_strengthOf_20 rfl 3 rfl ?_
      refine g_ishr O dX0_strengthOf_21 ?_
      refine g_iconst (v := (1 : Int32)) O dX0_strengthOf_22 rfl ?_
      refine g_iand O dX0_strengthOf_23 ?_
      refine g_if_eq O dX0_strengthOf_24 rfl (fun c5 => ?_) (fun c5 => ?_)
      · replace h := (if_pos c5).symm.trans h
        refine g_iconst (v := (0 : Int32)) O dX0_strengthOf_36 rfl ?_
        refine g_sub [0, 1, 3] (lv' := [(0, vA (some a0)), (1, vI x1), (3, vI x3)]) rfl ?_
        exact t_X0_strengthOf_37 O R0 N hn a0 x1 x3 x2 (0 : Int32) σ o h K
      · replace h := (if_neg c5).symm.trans h
        refine g_aload_n O dX0_strengthOf_27 rfl 0 rfl ?_
        obtain ⟨v6, e7, h⟩ := bo_some h
        refine g_getR O dX0_strengthOf_28 fl_X0_22 rfl e7 ?_
        refine g_iload_n O dX0_strengthOf_31 rfl 3 rfl ?_
        obtain ⟨v8, e9, h⟩ := bo_some h
        refine g_iaload O dX0_strengthOf_32 e9 ?_
        refine g_goto O dX0_strengthOf_33 rfl ?_
        refine g_sub [0, 1, 3] (lv' := [(0, vA (some a0)), (1, vI x1), (3, vI x3)]) rfl ?_
        exact t_X0_strengthOf_37 O R0 N hn a0 x1 x3 x2 v8 σ o h K
def f_X0_strengthOf (a0 : Nat) (x1 : Int32) (σ : Dt) : Option Int32 := bo (iter FU (fun s => f_X0_strengthOf_L4 a0 x1 s.1 s.2 σ) ((0 : Int32), (0 : Int32))) fun w1 => some w1
theorem t_X0_strengthOf {M : Mx} {l0 : Launch} (O : Ok M cX0_strengthOf yX0_strengthOf) (R0 : Rm M l0 2 80 0 0) (N : Ma M = false) (hn : Mn M = 4) (a0 : Nat) (x1 : Int32) (σ : Dt) (o : Int32) (h : f_X0_strengthOf a0 x1 σ = some o) (K : Fin' M (some .int) 0 0 SX σ (some (vI o))) : G M 0 0 0 [(0, vA (some a0)), (1, vI x1)] [] SX σ := by
  unfold f_X0_strengthOf at h
  refine g_iconst (v := (0 : Int32)) O dX0_strengthOf_0 rfl ?_
  refine g_istore_n (lv' := [(2, vI (0 : Int32)), (0, vA (some a0)), (1, vI x1)]) O dX0_strengthOf_1 rfl 4 hn (by decide) rfl ?_
  refine g_iconst (v := (0 : Int32)) O dX0_strengthOf_2 rfl ?_
  refine g_istore_n (lv' := [(3, vI (0 : Int32)), (2, vI (0 : Int32)), (0, vA (some a0)), (1, vI x1)]) O dX0_strengthOf_3 rfl 4 hn (by decide) rfl ?_
  refine g_sub [2, 3, 1, 0] (lv' := [(0, vA (some a0)), (1, vI x1), (2, vI (0 : Int32)), (3, vI (0 : Int32))]) rfl ?_
  obtain ⟨w1, e2, h⟩ := bo_some h
  refine iter_G (P := P_X0_strengthOf_4 M a0 x1 σ) (E := E_X0_strengthOf_4 M a0 x1 σ) (fun s o hb hk => t_X0_strengthOf_L4 O R0 N hn a0 x1 s.1 s.2 σ o hb hk) FU ((0 : Int32), (0 : Int32)) w1 e2 ?_
  show G M 0 0 45 [(2, vI w1)] [] SX σ
  refine g_iload_n O dX0_strengthOf_45 rfl 0 rfl ?_
  cases h
  exact g_ireturn O K dX0_strengthOf_46
theorem c_X0_strengthOf (l0 : Launch) (a0 : Nat) (x1 : Int32) (σ : Dt) (r : Int32) (h : f_X0_strengthOf a0 x1 σ = some r) : Ctr l0 yX0_strengthOf cX0_strengthOf 4 (some .int) false 2 80 0 0 [vA (some a0), vI x1] SX σ SX σ (some (vI r)) := ctr_of (by decide) (Nat.le_of_ble_eq_true rfl) (fun M O F R0 N hn => t_X0_strengthOf O R0 N hn a0 x1 σ r h F)
def P_X0_reduce_9 (M : Mx) (a0 : Nat) (y1 : Int64) (y3 : Int64) (σ : Dt) (s : (Int64 × Int64 × Int32)) : Prop := G M 0 0 9 [(0, vA (some a0)), (1, vJ y1), (3, vJ y3), (5, vJ s.1), (7, vJ s.2.1), (9, vI s.2.2)] [] SX σ
def E_X0_reduce_9 (M : Mx) (a0 : Nat) (y1 : Int64) (y3 : Int64) (σ : Dt) : Int64 → Prop := (fun w => G M 0 0 45 [(0, vA (some a0)), (1, vJ y1), (3, vJ y3), (5, vJ w)] [] SX σ)
def f_X0_reduce_L9 (a0 : Nat) (y1 : Int64) (y3 : Int64) (y5 : Int64) (y7 : Int64) (x9 : Int32) (σ : Dt) : Option ((Int64 × Int64 × Int32) ⊕ Int64) := if (200 : Int32) ≤ x9 then some (.inr y5) else if (lg_cmp y7 (0 : Int64)) = 0 then some (.inr y5) else if y7 = 0 then none else some (.inl (y7, (y5 - y5 / y7 * y7), (x9 + (1 : Int32))))
theorem t_X0_reduce_L9 {M : Mx} {l0 : Launch} (O : Ok M cX0_reduce yX0_reduce) (R0 : Rm M l0 2 80 0 0) (N : Ma M = false) (hn : Mn M = 12) (a0 : Nat) (y1 : Int64) (y3 : Int64) (y5 : Int64) (y7 : Int64) (x9 : Int32) (σ : Dt) (o : ((Int64 × Int64 × Int32) ⊕ Int64)) (h : f_X0_reduce_L9 a0 y1 y3 y5 y7 x9 σ = some o) (K : kon (P_X0_reduce_9 M a0 y1 y3 σ) (E_X0_reduce_9 M a0 y1 y3 σ) o) : G M 0 0 9 [(0, vA (some a0)), (1, vJ y1), (3, vJ y3), (5, vJ y5), (7, vJ y7), (9, vI x9)] [] SX σ := by
  unfold f_X0_reduce_L9 at h
  refine g_iload O dX0_reduce_9 5 rfl ?_
  refine g_sipush (v := (200 : Int32)) O dX0_reduce_11 rfl ?_
  refine g_icmp_ge O dX0_reduce_14 rfl (fun c1 => ?_) (fun c1 => ?_)
  · replace h := (if_pos c1).symm.trans h
    refine g_sub [0, 1, 2, 3] (lv' := [(0, vA (some a0)), (1, vJ y1), (3, vJ y3), (5, vJ y5)]) rfl ?_
    cases h
    exact K
  · replace h := (if_neg c1).symm.trans h
    refine g_lload O dX0_reduce_17 4 rfl ?_
    refine g_lconst (v := (0 : Int64)) O dX0_reduce_19 rfl ?_
    refine g_lcmp O dX0_reduce_20 ?_
    refine g_if_eq O dX0_reduce_21 rfl (fun c2 => ?_) (fun c2 => ?_)
    · replace h := (if_pos c2).symm.trans h
      refine g_sub [0, 1, 2, 3] (lv' := [(0, vA (some a0)), (1, vJ y1), (3, vJ y3), (5, vJ y5)]) rfl ?_
      cases h
      exact K
    · replace h := (if_neg c2).symm.trans h
      refine g_lload O dX0_reduce_24 3 rfl ?_
      refine g_lload O dX0_reduce_26 4 rfl ?_
      by_cases c3 : y7 = 0
      · rw [if_pos c3] at h; cases h
      replace h := (if_neg c3).symm.trans h
      refine g_lrem O dX0_reduce_28 c3 ?_
      refine g_lstore (lv' := [(10, vJ (y5 - y5 / y7 * y7)), (0, vA (some a0)), (1, vJ y1), (3, vJ y3), (5, vJ y5), (7, vJ y7), (9, vI x9)]) O dX0_reduce_29 12 hn (by decide) rfl ?_
      refine g_lload O dX0_reduce_31 5 rfl ?_
      refine g_lstore (lv' := [(5, vJ y7), (10, vJ (y5 - y5 / y7 * y7)), (0, vA (some a0)), (1, vJ y1), (3, vJ y3), (7, vJ y7), (9, vI x9)]) O dX0_reduce_33 12 hn (by decide) rfl ?_
      refine g_lload O dX0_reduce_35 1 rfl ?_
      refine g_lstore (lv' := [(7, vJ (y5 - y5 / y7 * y7)), (5, vJ y7), (10, vJ (y5 - y5 / y7 * y7)), (0, vA (some a0)), (1, vJ y1), (3, vJ y3), (9, vI x9)]) O dX0_reduce_37 12 hn (by decide) rfl ?_
      refine g_iinc (v := (x9 + (1 : Int32))) (lv' := [(9, vI (x9 + (1 : Int32))), (7, vJ (y5 - y5 / y7 * y7)), (5, vJ y7), (10, vJ (y5 - y5 / y7 * y7)), (0, vA (some a0)), (1, vJ y1), (3, vJ y3)]) O dX0_reduce_39 12 hn (by decide) 6 rfl rfl rfl ?_
      refine g_goto O dX0_reduce_42 rfl ?_
      refine g_sub [4, 5, 6, 2, 1, 0] (lv' := [(0, vA (some a0)), (1, vJ y1), (3, vJ y3), (5, vJ y7), (7, vJ (y5 - y5 / y7 * y7)), (9, vI (x9 + (1 : Int32)))]) rfl ?_
      cases h
      exact K
def f_X0_reduce_61 (a0 : Nat) (y3 : Int64) (y5 : Int64) (k0 : Option Nat) (k1 : Int64) (σ : Dt) : Option (Unit × Dt) := bo (xpl SX 0 0 k0 k1 σ) fun σ1 => if (lg_cmp y5 (0 : Int64)) = 0 then bo (xpl SX 0 1 (some a0) (1 : Int64) σ1) fun σ4 => some ((), σ4) else if y5 = 0 then none else bo (xpl SX 0 1 (some a0) (y3 / y5) σ1) fun σ7 => some ((), σ7)
theorem t_X0_reduce_61 {M : Mx} {l0 : Launch} (O : Ok M cX0_reduce yX0_reduce) (R0 : Rm M l0 2 80 0 0) (N : Ma M = false) (hn : Mn M = 12)  (a0 : Nat) (y3 : Int64) (y5 : Int64) (k0 : Option Nat) (k1 : Int64) (σ : Dt) (o : (Unit × Dt)) (h : f_X0_reduce_61 a0 y3 y5 k0 k1 σ = some o) (K : Fin' M (none) 0 0 SX o.2 (none)) : G M 0 0 61 [(0, vA (some a0)), (3, vJ y3), (5, vJ y5)] [vJ k1, vA k0] SX σ := by
  unfold f_X0_reduce_61 at h
  obtain ⟨σ1, e2, h⟩ := bo_some h
  refine g_putL O dX0_reduce_61 fl_X0_9 (Or.inl rfl) rfl e2 ?_
  refine g_aload_n O dX0_reduce_64 rfl 0 rfl ?_
  refine g_lload O dX0_reduce_65 2 rfl ?_
  refine g_lconst (v := (0 : Int64)) O dX0_reduce_67 rfl ?_
  refine g_lcmp O dX0_reduce_68 ?_
  refine g_if_ne O dX0_reduce_69 rfl (fun c3 => ?_) (fun c3 => ?_)
  · replace h := (if_pos c3).symm.trans h
    refine g_lconst (v := (1 : Int64)) O dX0_reduce_72 rfl ?_
    refine g_goto O dX0_reduce_73 rfl ?_
    obtain ⟨σ4, e5, h⟩ := bo_some h
    refine g_putL O dX0_reduce_80 fl_X0_15 (Or.inl rfl) rfl e5 ?_
    cases h
    exact g_return O K dX0_reduce_83
  · replace h := (if_neg c3).symm.trans h
    refine g_lload_n O dX0_reduce_76 rfl 1 rfl ?_
    refine g_lload O dX0_reduce_77 2 rfl ?_
    by_cases c6 : y5 = 0
    · rw [if_pos c6] at h; cases h
    replace h := (if_neg c6).symm.trans h
    refine g_ldiv O dX0_reduce_79 c6 ?_
    obtain ⟨σ7, e8, h⟩ := bo_some h
    refine g_putL O dX0_reduce_80 fl_X0_15 (Or.inl rfl) rfl e8 ?_
    cases h
    exact g_return O K dX0_reduce_83
def f_X0_reduce_45 (a0 : Nat) (y1 : Int64) (y3 : Int64) (y5 : Int64) (σ : Dt) : Option (Unit × Dt) := if (lg_cmp y5 (0 : Int64)) = 0 then f_X0_reduce_61 a0 y3 y5 (some a0) (0 : Int64) σ else if y5 = 0 then none else f_X0_reduce_61 a0 y3 y5 (some a0) (y1 / y5) σ
theorem t_X0_reduce_45 {M : Mx} {l0 : Launch} (O : Ok M cX0_reduce yX0_reduce) (R0 : Rm M l0 2 80 0 0) (N : Ma M = false) (hn : Mn M = 12)  (a0 : Nat) (y1 : Int64) (y3 : Int64) (y5 : Int64) (σ : Dt) (o : (Unit × Dt)) (h : f_X0_reduce_45 a0 y1 y3 y5 σ = some o) (K : Fin' M (none) 0 0 SX o.2 (none)) : G M 0 0 45 [(0, vA (some a0)), (1, vJ y1), (3, vJ y3), (5, vJ y5)] [] SX σ := by
  unfold f_X0_reduce_45 at h
  refine g_aload_n O dX0_reduce_45 rfl 0 rfl ?_
  refine g_lload O dX0_reduce_46 3 rfl ?_
  refine g_lconst (v := (0 : Int64)) O dX0_reduce_48 rfl ?_
  refine g_lcmp O dX0_reduce_49 ?_
  refine g_if_ne O dX0_reduce_50 rfl (fun c1 => ?_) (fun c1 => ?_)
  · replace h := (if_pos c1).symm.trans h
    refine g_lconst (v := (0 : Int64)) O dX0_reduce_53 rfl ?_
    refine g_goto O dX0_reduce_54 rfl ?_
    refine g_sub [0, 2, 3] (lv' := [(0, vA (some a0)), (3, vJ y3), (5, vJ y5)]) rfl ?_
    exact t_X0_reduce_61 O R0 N hn a0 y3 y5 (some a0) (0 : Int64) σ o h K
  · replace h := (if_neg c1).symm.trans h
    refine g_lload_n O dX0_reduce_57 rfl 1 rfl ?_
    refine g_lload O dX0_reduce_58 3 rfl ?_
    by_cases c2 : y5 = 0
    · rw [if_pos c2] at h; cases h
    replace h := (if_neg c2).symm.trans h
    refine g_ldiv O dX0_reduce_60 c2 ?_
    refine g_sub [0, 2, 3] (lv' := [(0, vA (some a0)), (3, vJ y3), (5, vJ y5)]) rfl ?_
    exact t_X0_reduce_61 O R0 N hn a0 y3 y5 (some a0) (y1 / y5) σ o h K
def f_X0_reduce (a0 : Nat) (y1 : Int64) (y3 : Int64) (σ : Dt) : Option (Unit × Dt) := bo (iter FU (fun s => f_X0_reduce_L9 a0 y1 y3 s.1 s.2.1 s.2.2 σ) (y1, y3, (0 : Int32))) fun w1 => f_X0_reduce_45 a0 y1 y3 w1 σ
theorem t_X0_reduce {M : Mx} {l0 : Launch} (O : Ok M cX0_reduce yX0_reduce) (R0 : Rm M l0 2 80 0 0) (N : Ma M = false) (hn : Mn M = 12) (a0 : Nat) (y1 : Int64) (y3 : Int64) (σ : Dt) (o : (Unit × Dt)) (h : f_X0_reduce a0 y1 y3 σ = some o) (K : Fin' M (none) 0 0 SX o.2 (none)) : G M 0 0 0 [(0, vA (some a0)), (1, vJ y1), (3, vJ y3)] [] SX σ := by
  unfold f_X0_reduce at h
  refine g_lload_n O dX0_reduce_0 rfl 1 rfl ?_
  refine g_lstore (lv' := [(5, vJ y1), (0, vA (some a0)), (1, vJ y1), (3, vJ y3)]) O dX0_reduce_1 12 hn (by decide) rfl ?_
  refine g_lload_n O dX0_reduce_3 rfl 3 rfl ?_
  refine g_lstore (lv' := [(7, vJ y3), (5, vJ y1), (0, vA (some a0)), (1, vJ y1), (3, vJ y3)]) O dX0_reduce_4 12 hn (by decide) rfl ?_
  refine g_iconst (v := (0 : Int32)) O dX0_reduce_6 rfl ?_
  refine g_istore (lv' := [(9, vI (0 : Int32)), (7, vJ y3), (5, vJ y1), (0, vA (some a0)), (1, vJ y1), (3, vJ y3)]) O dX0_reduce_7 12 hn (by decide) rfl ?_
  refine g_sub [3, 4, 5, 2, 1, 0] (lv' := [(0, vA (some a0)), (1, vJ y1), (3, vJ y3), (5, vJ y1), (7, vJ y3), (9, vI (0 : Int32))]) rfl ?_
  obtain ⟨w1, e2, h⟩ := bo_some h
  refine iter_G (P := P_X0_reduce_9 M a0 y1 y3 σ) (E := E_X0_reduce_9 M a0 y1 y3 σ) (fun s o hb hk => t_X0_reduce_L9 O R0 N hn a0 y1 y3 s.1 s.2.1 s.2.2 σ o hb hk) FU (y1, y3, (0 : Int32)) w1 e2 ?_
  show G M 0 0 45 [(0, vA (some a0)), (1, vJ y1), (3, vJ y3), (5, vJ w1)] [] SX σ
  exact t_X0_reduce_45 O R0 N hn a0 y1 y3 w1 σ o h K
theorem c_X0_reduce (l0 : Launch) (a0 : Nat) (y1 : Int64) (y3 : Int64) (σ : Dt) (r : Unit) (σ' : Dt) (h : f_X0_reduce a0 y1 y3 σ = some (r, σ')) : Ctr l0 yX0_reduce cX0_reduce 12 (none) false 2 80 0 0 [vA (some a0), vJ y1, vJ y3] SX σ SX σ' (none) := ctr_of (by decide) (Nat.le_of_ble_eq_true rfl) (fun M O F R0 N hn => t_X0_reduce O R0 N hn a0 y1 y3 σ (r, σ') h F)
def P_X0_thatTheyLive_28 (M : Mx) (a0 : Nat) (r1 : Option Nat) (x3 : Int32) (x4 : Int32) (σ : Dt) (s : (Int64 × Int64 × Int32)) : Prop := G M 0 0 28 [(0, vA (some a0)), (1, vA r1), (3, vI x3), (4, vI x4), (5, vJ s.1), (7, vJ s.2.1), (9, vI s.2.2)] [] SX σ
def E_X0_thatTheyLive_28 (M : Mx) (a0 : Nat) (r1 : Option Nat) (x3 : Int32) (x4 : Int32) (σ : Dt) : (Int64 × Int64) → Prop := (fun w => G M 0 0 85 [(0, vA (some a0)), (5, vJ w.1), (7, vJ w.2)] [] SX σ)
def f_X0_thatTheyLive_79 (a0 : Nat) (r1 : Option Nat) (x3 : Int32) (x4 : Int32) (y5 : Int64) (y7 : Int64) (x9 : Int32) (σ : Dt) : Option ((Int64 × Int64 × Int32) ⊕ (Int64 × Int64)) := some (.inl (y5, y7, (x9 + (1 : Int32))))
theorem t_X0_thatTheyLive_79 {M : Mx} {l0 : Launch} (O : Ok M cX0_thatTheyLive yX0_thatTheyLive) (R0 : Rm M l0 5 146 0 0) (N : Ma M = false) (hn : Mn M = 12)  (a0 : Nat) (r1 : Option Nat) (x3 : Int32) (x4 : Int32) (y5 : Int64) (y7 : Int64) (x9 : Int32) (σ : Dt) (o : ((Int64 × Int64 × Int32) ⊕ (Int64 × Int64))) (h : f_X0_thatTheyLive_79 a0 r1 x3 x4 y5 y7 x9 σ = some o) (K : kon (P_X0_thatTheyLive_28 M a0 r1 x3 x4 σ) (E_X0_thatTheyLive_28 M a0 r1 x3 x4 σ) o) : G M 0 0 79 [(0, vA (some a0)), (1, vA r1), (3, vI x3), (4, vI x4), (5, vJ y5), (7, vJ y7), (9, vI x9)] [] SX σ := by
  unfold f_X0_thatTheyLive_79 at h
  refine g_iinc (v := (x9 + (1 : Int32))) (lv' := [(9, vI (x9 + (1 : Int32))), (0, vA (some a0)), (1, vA r1), (3, vI x3), (4, vI x4), (5, vJ y5), (7, vJ y7)]) O dX0_thatTheyLive_79 12 hn (by decide) 6 rfl rfl rfl ?_
  refine g_goto O dX0_thatTheyLive_82 rfl ?_
  refine g_sub [1, 2, 3, 4, 5, 6, 0] (lv' := [(0, vA (some a0)), (1, vA r1), (3, vI x3), (4, vI x4), (5, vJ y5), (7, vJ y7), (9, vI (x9 + (1 : Int32)))]) rfl ?_
  cases h
  exact K
def f_X0_thatTheyLive_L28 (a0 : Nat) (r1 : Option Nat) (x3 : Int32) (x4 : Int32) (y5 : Int64) (y7 : Int64) (x9 : Int32) (σ : Dt) : Option ((Int64 × Int64 × Int32) ⊕ (Int64 × Int64)) := bo (xgi SX 0 2 (some a0) σ) fun v1 => if ((1 : Int32) <<< (v1 &&& 31)) ≤ x9 then some (.inr (y5, y7)) else bo (xrc SX 0 (some a0)) fun a4 => bo (f_X0_waysToLive a4 x9 σ) fun v6 => bo (xrc SX 0 (some a0)) fun a8 => bo (f_X0_strengthOf a8 x9 σ) fun v10 => bo (xgr SX 9 8 r1 σ) fun v12 => bo (xai SX v12 x3 σ) fun v14 => if (x4 * v10) < v14 then f_X0_thatTheyLive_79 a0 r1 x3 x4 y5 (y7 + v6) x9 σ else f_X0_thatTheyLive_79 a0 r1 x3 x4 (y5 + v6) (y7 + v6) x9 σ
theorem t_X0_thatTheyLive_L28 {M : Mx} {l0 : Launch} (O : Ok M cX0_thatTheyLive yX0_thatTheyLive) (R0 : Rm M l0 5 146 0 0) (N : Ma M = false) (hn : Mn M = 12) (a0 : Nat) (r1 : Option Nat) (x3 : Int32) (x4 : Int32) (y5 : Int64) (y7 : Int64) (x9 : Int32) (σ : Dt) (o : ((Int64 × Int64 × Int32) ⊕ (Int64 × Int64))) (h : f_X0_thatTheyLive_L28 a0 r1 x3 x4 y5 y7 x9 σ = some o) (K : kon (P_X0_thatTheyLive_28 M a0 r1 x3 x4 σ) (E_X0_thatTheyLive_28 M a0 r1 x3 x4 σ) o) : G M 0 0 28 [(0, vA (some a0)), (1, vA r1), (3, vI x3), (4, vI x4), (5, vJ y5), (7, vJ y7), (9, vI x9)] [] SX σ := by
  unfold f_X0_thatTheyLive_L28 at h
  refine g_iload O dX0_thatTheyLive_28 6 rfl ?_
  refine g_iconst (v := (1 : Int32)) O dX0_thatTheyLive_30 rfl ?_
  refine g_aload_n O dX0_thatTheyLive_31 rfl 0 rfl ?_
  obtain ⟨v1, e2, h⟩ := bo_some h
  refine g_getI O dX0_thatTheyLive_32 fl_X0_28 rfl e2 ?_
  refine g_ishl O dX0_thatTheyLive_35 ?_
  refine g_icmp_ge O dX0_thatTheyLive_36 rfl (fun c3 => ?_) (fun c3 => ?_)
  · replace h := (if_pos c3).symm.trans h
    refine g_sub [0, 4, 5] (lv' := [(0, vA (some a0)), (5, vJ y5), (7, vJ y7)]) rfl ?_
    cases h
    exact K
  · replace h := (if_neg c3).symm.trans h
    refine g_aload_n O dX0_thatTheyLive_39 rfl 0 rfl ?_
    refine g_iload O dX0_thatTheyLive_40 6 rfl ?_
    obtain ⟨a4, e5, h⟩ := bo_some h
    obtain ⟨v6, e7, h⟩ := bo_some h
    refine g_cV1 O R0 N dX0_thatTheyLive_42 vl_X0_53 vv_X0_waysToLive e5 [vI x9] rfl rfl rfl ⟨Nat.le_of_ble_eq_true rfl, Nat.le_of_ble_eq_true rfl⟩ (c_X0_waysToLive l0 a4 x9 σ v6 e7) ?_
    refine g_lstore (lv' := [(10, vJ v6), (0, vA (some a0)), (1, vA r1), (3, vI x3), (4, vI x4), (5, vJ y5), (7, vJ y7), (9, vI x9)]) O dX0_thatTheyLive_45 12 hn (by decide) rfl ?_
    refine g_lload O dX0_thatTheyLive_47 6 rfl ?_
    refine g_lload O dX0_thatTheyLive_49 0 rfl ?_
    refine g_ladd O dX0_thatTheyLive_51 ?_
    refine g_lstore (lv' := [(7, vJ (y7 + v6)), (10, vJ v6), (0, vA (some a0)), (1, vA r1), (3, vI x3), (4, vI x4), (5, vJ y5), (9, vI x9)]) O dX0_thatTheyLive_52 12 hn (by decide) rfl ?_
    refine g_iload O dX0_thatTheyLive_54 5 rfl ?_
    refine g_aload_n O dX0_thatTheyLive_56 rfl 2 rfl ?_
    refine g_iload O dX0_thatTheyLive_57 7 rfl ?_
    obtain ⟨a8, e9, h⟩ := bo_some h
    obtain ⟨v10, e11, h⟩ := bo_some h
    refine g_cV1 O R0 N dX0_thatTheyLive_59 vl_X0_57 vv_X0_strengthOf e9 [vI x9] rfl rfl rfl ⟨Nat.le_of_ble_eq_true rfl, Nat.le_of_ble_eq_true rfl⟩ (c_X0_strengthOf l0 a8 x9 σ v10 e11) ?_
    refine g_imul O dX0_thatTheyLive_62 ?_
    refine g_aload_n O dX0_thatTheyLive_63 rfl 3 rfl ?_
    obtain ⟨v12, e13, h⟩ := bo_some h
    refine g_getR O dX0_thatTheyLive_64 fl_X0_61 rfl e13 ?_
    refine g_iload_n O dX0_thatTheyLive_67 rfl 4 rfl ?_
    obtain ⟨v14, e15, h⟩ := bo_some h
    refine g_iaload O dX0_thatTheyLive_68 e15 ?_
    refine g_icmp_lt O dX0_thatTheyLive_69 rfl (fun c16 => ?_) (fun c16 => ?_)
    · replace h := (if_pos c16).symm.trans h
      refine g_sub [2, 3, 4, 5, 6, 0, 7] (lv' := [(0, vA (some a0)), (1, vA r1), (3, vI x3), (4, vI x4), (5, vJ y5), (7, vJ (y7 + v6)), (9, vI x9)]) rfl ?_
      exact t_X0_thatTheyLive_79 O R0 N hn a0 r1 x3 x4 y5 (y7 + v6) x9 σ o h K
    · replace h := (if_neg c16).symm.trans h
      refine g_lload O dX0_thatTheyLive_72 6 rfl ?_
      refine g_lload O dX0_thatTheyLive_74 1 rfl ?_
      refine g_ladd O dX0_thatTheyLive_76 ?_
      refine g_lstore (lv' := [(5, vJ (y5 + v6)), (7, vJ (y7 + v6)), (10, vJ v6), (0, vA (some a0)), (1, vA r1), (3, vI x3), (4, vI x4), (9, vI x9)]) O dX0_thatTheyLive_77 12 hn (by decide) rfl ?_
      refine g_sub [3, 4, 5, 6, 0, 1, 7] (lv' := [(0, vA (some a0)), (1, vA r1), (3, vI x3), (4, vI x4), (5, vJ (y5 + v6)), (7, vJ (y7 + v6)), (9, vI x9)]) rfl ?_
      exact t_X0_thatTheyLive_79 O R0 N hn a0 r1 x3 x4 (y5 + v6) (y7 + v6) x9 σ o h K
def f_X0_thatTheyLive (a0 : Nat) (r1 : Option Nat) (x2 : Int32) (x3 : Int32) (x4 : Int32) (σ : Dt) : Option (Unit × Dt) := if r1 = none then some ((), σ) else bo (xrc SX 9 r1) fun a2 => bo (f_X9_hasWork a2 x3 σ) fun v4 => if v4 = 0 then some ((), σ) else bo (xrc SX 0 (some a0)) fun a7 => bd (f_X0_gather a7 r1 x2 σ) fun v9 σ10 => bo (iter FU (fun s => f_X0_thatTheyLive_L28 a0 r1 x3 x4 s.1 s.2.1 s.2.2 σ10) ((0 : Int64), (0 : Int64), (0 : Int32))) fun w12 => bo (xrc SX 0 (some a0)) fun a14 => bd (f_X0_reduce a14 w12.1 w12.2 σ10) fun v16 σ17 => some ((), σ17)
theorem t_X0_thatTheyLive {M : Mx} {l0 : Launch} (O : Ok M cX0_thatTheyLive yX0_thatTheyLive) (R0 : Rm M l0 5 146 0 0) (N : Ma M = false) (hn : Mn M = 12) (a0 : Nat) (r1 : Option Nat) (x2 : Int32) (x3 : Int32) (x4 : Int32) (σ : Dt) (o : (Unit × Dt)) (h : f_X0_thatTheyLive a0 r1 x2 x3 x4 σ = some o) (K : Fin' M (none) 0 0 SX o.2 (none)) : G M 0 0 0 [(0, vA (some a0)), (1, vA r1), (2, vI x2), (3, vI x3), (4, vI x4)] [] SX σ := by
  unfold f_X0_thatTheyLive at h
  refine g_aload_n O dX0_thatTheyLive_0 rfl 1 rfl ?_
  refine g_ifnull O dX0_thatTheyLive_1 rfl (fun c1 => ?_) (fun c1 => ?_)
  · replace h := (if_pos c1).symm.trans h
    cases h
    exact g_return O K dX0_thatTheyLive_12
  · replace h := (if_neg c1).symm.trans h
    refine g_aload_n O dX0_thatTheyLive_4 rfl 1 rfl ?_
    refine g_iload_n O dX0_thatTheyLive_5 rfl 3 rfl ?_
    obtain ⟨a2, e3, h⟩ := bo_some h
    obtain ⟨v4, e5, h⟩ := bo_some h
    refine g_cV1 O R0 N dX0_thatTheyLive_6 vl_X0_45 vv_X9_hasWork e3 [vI x3] rfl rfl rfl ⟨Nat.le_of_ble_eq_true rfl, Nat.le_of_ble_eq_true rfl⟩ (c_X9_hasWork l0 a2 x3 σ v4 e5) ?_
    refine g_if_ne O dX0_thatTheyLive_9 rfl (fun c6 => ?_) (fun c6 => ?_)
    · replace h := (if_pos c6).symm.trans h
      cases h
      exact g_return O K dX0_thatTheyLive_12
    · replace h := (if_neg c6).symm.trans h
      refine g_aload_n O dX0_thatTheyLive_13 rfl 0 rfl ?_
      refine g_aload_n O dX0_thatTheyLive_14 rfl 1 rfl ?_
      refine g_iload_n O dX0_thatTheyLive_15 rfl 2 rfl ?_
      obtain ⟨a7, e8, h⟩ := bo_some h
      obtain ⟨v9, σ10, e11, h⟩ := bd_some h
      refine g_cV0 O R0 N dX0_thatTheyLive_16 vl_X0_49 vv_X0_gather e8 [vA r1, vI x2] rfl rfl rfl ⟨Nat.le_of_ble_eq_true rfl, Nat.le_of_ble_eq_true rfl⟩ (c_X0_gather l0 a7 r1 x2 σ v9 σ10 e11) ?_
      refine g_lconst (v := (0 : Int64)) O dX0_thatTheyLive_19 rfl ?_
      refine g_lstore (lv' := [(5, vJ (0 : Int64)), (0, vA (some a0)), (1, vA r1), (2, vI x2), (3, vI x3), (4, vI x4)]) O dX0_thatTheyLive_20 12 hn (by decide) rfl ?_
      refine g_lconst (v := (0 : Int64)) O dX0_thatTheyLive_22 rfl ?_
      refine g_lstore (lv' := [(7, vJ (0 : Int64)), (5, vJ (0 : Int64)), (0, vA (some a0)), (1, vA r1), (2, vI x2), (3, vI x3), (4, vI x4)]) O dX0_thatTheyLive_23 12 hn (by decide) rfl ?_
      refine g_iconst (v := (0 : Int32)) O dX0_thatTheyLive_25 rfl ?_
      refine g_istore (lv' := [(9, vI (0 : Int32)), (7, vJ (0 : Int64)), (5, vJ (0 : Int64)), (0, vA (some a0)), (1, vA r1), (2, vI x2), (3, vI x3), (4, vI x4)]) O dX0_thatTheyLive_26 12 hn (by decide) rfl ?_
      refine g_sub [3, 4, 6, 7, 2, 1, 0] (lv' := [(0, vA (some a0)), (1, vA r1), (3, vI x3), (4, vI x4), (5, vJ (0 : Int64)), (7, vJ (0 : Int64)), (9, vI (0 : Int32))]) rfl ?_
      obtain ⟨w12, e13, h⟩ := bo_some h
      refine iter_G (P := P_X0_thatTheyLive_28 M a0 r1 x3 x4 σ10) (E := E_X0_thatTheyLive_28 M a0 r1 x3 x4 σ10) (fun s o hb hk => t_X0_thatTheyLive_L28 O R0 N hn a0 r1 x3 x4 s.1 s.2.1 s.2.2 σ10 o hb hk) FU ((0 : Int64), (0 : Int64), (0 : Int32)) w12 e13 ?_
      show G M 0 0 85 [(0, vA (some a0)), (5, vJ w12.1), (7, vJ w12.2)] [] SX σ10
      refine g_aload_n O dX0_thatTheyLive_85 rfl 0 rfl ?_
      refine g_lload O dX0_thatTheyLive_86 1 rfl ?_
      refine g_lload O dX0_thatTheyLive_88 2 rfl ?_
      obtain ⟨a14, e15, h⟩ := bo_some h
      obtain ⟨v16, σ17, e18, h⟩ := bd_some h
      refine g_cV0 O R0 N dX0_thatTheyLive_90 vl_X0_64 vv_X0_reduce e15 [vJ w12.1, vJ w12.2] rfl rfl rfl ⟨Nat.le_of_ble_eq_true rfl, Nat.le_of_ble_eq_true rfl⟩ (c_X0_reduce l0 a14 w12.1 w12.2 σ10 v16 σ17 e18) ?_
      cases h
      exact g_return O K dX0_thatTheyLive_93
theorem c_X0_thatTheyLive (l0 : Launch) (a0 : Nat) (r1 : Option Nat) (x2 : Int32) (x3 : Int32) (x4 : Int32) (σ : Dt) (r : Unit) (σ' : Dt) (h : f_X0_thatTheyLive a0 r1 x2 x3 x4 σ = some (r, σ')) : Ctr l0 yX0_thatTheyLive cX0_thatTheyLive 12 (none) false 5 146 0 0 [vA (some a0), vA r1, vI x2, vI x3, vI x4] SX σ SX σ' (none) := ctr_of (by decide) (Nat.le_of_ble_eq_true rfl) (fun M O F R0 N hn => t_X0_thatTheyLive O R0 N hn a0 r1 x2 x3 x4 σ (r, σ') h F)
def f_X0_part (a0 : Nat) (x1 : Int32) (σ : Dt) : Option Int64 := if x1 = 0 then bo (xgl SX 0 0 (some a0) σ) fun v2 => some v2 else bo (xgl SX 0 1 (some a0) σ) fun v4 => some v4
theorem t_X0_part {M : Mx} {l0 : Launch} (O : Ok M cX0_part yX0_part) (R0 : Rm M l0 2 80 0 0) (N : Ma M = false) (hn : Mn M = 2) (a0 : Nat) (x1 : Int32) (σ : Dt) (o : Int64) (h : f_X0_part a0 x1 σ = some o) (K : Fin' M (some .long) 0 0 SX σ (some (vJ o))) : G M 0 0 0 [(0, vA (some a0)), (1, vI x1)] [] SX σ := by
  unfold f_X0_part at h
  refine g_iload_n O dX0_part_0 rfl 1 rfl ?_
  refine g_if_eq O dX0_part_1 rfl (fun c1 => ?_) (fun c1 => ?_)
  · replace h := (if_pos c1).symm.trans h
    refine g_aload_n O dX0_part_11 rfl 0 rfl ?_
    obtain ⟨v2, e3, h⟩ := bo_some h
    refine g_getL O dX0_part_12 fl_X0_9 rfl e3 ?_
    cases h
    exact g_lreturn O K dX0_part_15
  · replace h := (if_neg c1).symm.trans h
    refine g_aload_n O dX0_part_4 rfl 0 rfl ?_
    obtain ⟨v4, e5, h⟩ := bo_some h
    refine g_getL O dX0_part_5 fl_X0_15 rfl e5 ?_
    refine g_goto O dX0_part_8 rfl ?_
    cases h
    exact g_lreturn O K dX0_part_15
theorem c_X0_part (l0 : Launch) (a0 : Nat) (x1 : Int32) (σ : Dt) (r : Int64) (h : f_X0_part a0 x1 σ = some r) : Ctr l0 yX0_part cX0_part 2 (some .long) false 2 80 0 0 [vA (some a0), vI x1] SX σ SX σ (some (vJ r)) := ctr_of (by decide) (Nat.le_of_ble_eq_true rfl) (fun M O F R0 N hn => t_X0_part O R0 N hn a0 x1 σ r h F)
def f_X11_odds (a0 : Nat) (x1 : Int32) (x2 : Int32) (x3 : Int32) (x4 : Int32) (x5 : Int32) (σ : Dt) : Option (Int64 × Dt) := bo (xgr SX 11 0 (some a0) σ) fun v1 => bo (xrc SX 8 v1) fun a3 => bo (f_X8_valleyAt a3 x1 σ) fun v5 => if v5 = none then some ((-1 : Int64), σ) else bo (xrc SX 9 v5) fun a8 => bo (f_X9_mayAskKeep a8 x2 x3 x4 σ) fun v10 => if v10 = 0 then some ((-1 : Int64), σ) else bo (xgr SX 11 9 (some a0) σ) fun v13 => bo (xrc SX 0 v13) fun a15 => bd (f_X0_thatTheyLive a15 v5 x2 x3 x4 σ) fun v17 σ18 => bo (xgr SX 11 9 (some a0) σ18) fun v20 => bo (xrc SX 0 v20) fun a22 => bo (f_X0_part a22 x5 σ18) fun v24 => some (v24, σ18)
theorem t_X11_odds {M : Mx} {l0 : Launch} (O : Ok M cX11_odds yX11_odds) (R0 : Rm M l0 6 177 0 0) (N : Ma M = false) (hn : Mn M = 7) (a0 : Nat) (x1 : Int32) (x2 : Int32) (x3 : Int32) (x4 : Int32) (x5 : Int32) (σ : Dt) (o : (Int64 × Dt)) (h : f_X11_odds a0 x1 x2 x3 x4 x5 σ = some o) (K : Fin' M (some .long) 0 0 SX o.2 (some (vJ o.1))) : G M 0 0 0 [(0, vA (some a0)), (1, vI x1), (2, vI x2), (3, vI x3), (4, vI x4), (5, vI x5)] [] SX σ := by
  unfold f_X11_odds at h
  refine g_aload_n O dX11_odds_0 rfl 0 rfl ?_
  obtain ⟨v1, e2, h⟩ := bo_some h
  refine g_getR O dX11_odds_1 fl_X11_12 rfl e2 ?_
  refine g_iload_n O dX11_odds_4 rfl 1 rfl ?_
  obtain ⟨a3, e4, h⟩ := bo_some h
  obtain ⟨v5, e6, h⟩ := bo_some h
  refine g_cV1 O R0 N dX11_odds_5 vl_X11_105 vv_X8_valleyAt e4 [vI x1] rfl rfl rfl ⟨Nat.le_of_ble_eq_true rfl, Nat.le_of_ble_eq_true rfl⟩ (c_X8_valleyAt l0 a3 x1 σ v5 e6) ?_
  refine g_astore (lv' := [(6, vA v5), (0, vA (some a0)), (1, vI x1), (2, vI x2), (3, vI x3), (4, vI x4), (5, vI x5)]) O dX11_odds_8 7 hn (by decide) rfl ?_
  refine g_aload O dX11_odds_10 0 rfl ?_
  refine g_ifnull O dX11_odds_12 rfl (fun c7 => ?_) (fun c7 => ?_)
  · replace h := (if_pos c7).symm.trans h
    refine g_ldc2 O dX11_odds_27 w1116 ?_
    cases h
    exact g_lreturn O K dX11_odds_30
  · replace h := (if_neg c7).symm.trans h
    refine g_aload O dX11_odds_15 0 rfl ?_
    refine g_iload_n O dX11_odds_17 rfl 3 rfl ?_
    refine g_iload_n O dX11_odds_18 rfl 4 rfl ?_
    refine g_iload O dX11_odds_19 5 rfl ?_
    obtain ⟨a8, e9, h⟩ := bo_some h
    obtain ⟨v10, e11, h⟩ := bo_some h
    refine g_cV1 O R0 N dX11_odds_21 vl_X11_131 vv_X9_mayAskKeep e9 [vI x2, vI x3, vI x4] rfl rfl rfl ⟨Nat.le_of_ble_eq_true rfl, Nat.le_of_ble_eq_true rfl⟩ (c_X9_mayAskKeep l0 a8 x2 x3 x4 σ v10 e11) ?_
    refine g_if_ne O dX11_odds_24 rfl (fun c12 => ?_) (fun c12 => ?_)
    · replace h := (if_pos c12).symm.trans h
      refine g_ldc2 O dX11_odds_27 w1116 ?_
      cases h
      exact g_lreturn O K dX11_odds_30
    · replace h := (if_neg c12).symm.trans h
      refine g_aload_n O dX11_odds_31 rfl 1 rfl ?_
      obtain ⟨v13, e14, h⟩ := bo_some h
      refine g_getR O dX11_odds_32 fl_X11_69 rfl e14 ?_
      refine g_aload O dX11_odds_35 0 rfl ?_
      refine g_iload_n O dX11_odds_37 rfl 3 rfl ?_
      refine g_iload_n O dX11_odds_38 rfl 4 rfl ?_
      refine g_iload O dX11_odds_39 5 rfl ?_
      obtain ⟨a15, e16, h⟩ := bo_some h
      obtain ⟨v17, σ18, e19, h⟩ := bd_some h
      refine g_cV0 O R0 N dX11_odds_41 vl_X11_183 vv_X0_thatTheyLive e16 [vA v5, vI x2, vI x3, vI x4] rfl rfl rfl ⟨Nat.le_of_ble_eq_true rfl, Nat.le_of_ble_eq_true rfl⟩ (c_X0_thatTheyLive l0 a15 v5 x2 x3 x4 σ v17 σ18 e19) ?_
      refine g_aload_n O dX11_odds_44 rfl 1 rfl ?_
      obtain ⟨v20, e21, h⟩ := bo_some h
      refine g_getR O dX11_odds_45 fl_X11_69 rfl e21 ?_
      refine g_iload O dX11_odds_48 6 rfl ?_
      obtain ⟨a22, e23, h⟩ := bo_some h
      obtain ⟨v24, e25, h⟩ := bo_some h
      refine g_cV1 O R0 N dX11_odds_50 vl_X11_187 vv_X0_part e23 [vI x5] rfl rfl rfl ⟨Nat.le_of_ble_eq_true rfl, Nat.le_of_ble_eq_true rfl⟩ (c_X0_part l0 a22 x5 σ18 v24 e25) ?_
      cases h
      exact g_lreturn O K dX11_odds_53
theorem c_X11_odds (l0 : Launch) (a0 : Nat) (x1 : Int32) (x2 : Int32) (x3 : Int32) (x4 : Int32) (x5 : Int32) (σ : Dt) (r : Int64) (σ' : Dt) (h : f_X11_odds a0 x1 x2 x3 x4 x5 σ = some (r, σ')) : Ctr l0 yX11_odds cX11_odds 7 (some .long) false 6 177 0 0 [vA (some a0), vI x1, vI x2, vI x3, vI x4, vI x5] SX σ SX σ' (some (vJ r)) := ctr_of (by decide) (Nat.le_of_ble_eq_true rfl) (fun M O F R0 N hn => t_X11_odds O R0 N hn a0 x1 x2 x3 x4 x5 σ (r, σ') h F)
def P_X0_rowsOf_4 (M : Mx) (x0 : Int32) (σ : Dt) (s : (Int64 × Int32)) : Prop := G M 0 0 4 [(0, vI x0), (1, vJ s.1), (3, vI s.2)] [] SX σ
def E_X0_rowsOf_4 (M : Mx) (x0 : Int32) (σ : Dt) : Int64 → Prop := (fun w => G M 0 0 26 [(1, vJ w)] [] SX σ)
def f_X0_rowsOf_L4 (x0 : Int32) (y1 : Int64) (x3 : Int32) (σ : Dt) : Option ((Int64 × Int32) ⊕ Int64) := if x0 < x3 then some (.inr y1) else if (10 : Int32) < x3 then some (.inr y1) else some (.inl ((y1 * (Int32.toInt64 x3)), (x3 + (1 : Int32))))
theorem t_X0_rowsOf_L4 {M : Mx} {l0 : Launch} (O : Ok M cX0_rowsOf yX0_rowsOf) (R0 : Rm M l0 2 80 0 0) (N : Ma M = false) (hn : Mn M = 4) (x0 : Int32) (y1 : Int64) (x3 : Int32) (σ : Dt) (o : ((Int64 × Int32) ⊕ Int64)) (h : f_X0_rowsOf_L4 x0 y1 x3 σ = some o) (K : kon (P_X0_rowsOf_4 M x0 σ) (E_X0_rowsOf_4 M x0 σ) o) : G M 0 0 4 [(0, vI x0), (1, vJ y1), (3, vI x3)] [] SX σ := by
  unfold f_X0_rowsOf_L4 at h
  refine g_iload_n O dX0_rowsOf_4 rfl 2 rfl ?_
  refine g_iload_n O dX0_rowsOf_5 rfl 0 rfl ?_
  refine g_icmp_gt O dX0_rowsOf_6 rfl (fun c1 => ?_) (fun c1 => ?_)
  · replace h := (if_pos c1).symm.trans h
    refine g_sub [1] (lv' := [(1, vJ y1)]) rfl ?_
    cases h
    exact K
  · replace h := (if_neg c1).symm.trans h
    refine g_iload_n O dX0_rowsOf_9 rfl 2 rfl ?_
    refine g_bipush (v := (10 : Int32)) O dX0_rowsOf_10 rfl ?_
    refine g_icmp_gt O dX0_rowsOf_12 rfl (fun c2 => ?_) (fun c2 => ?_)
    · replace h := (if_pos c2).symm.trans h
      refine g_sub [1] (lv' := [(1, vJ y1)]) rfl ?_
      cases h
      exact K
    · replace h := (if_neg c2).symm.trans h
      refine g_lload_n O dX0_rowsOf_15 rfl 1 rfl ?_
      refine g_iload_n O dX0_rowsOf_16 rfl 2 rfl ?_
      refine g_i2l O dX0_rowsOf_17 ?_
      refine g_lmul O dX0_rowsOf_18 ?_
      refine g_lstore_n (lv' := [(1, vJ (y1 * (Int32.toInt64 x3))), (0, vI x0), (3, vI x3)]) O dX0_rowsOf_19 rfl 4 hn (by decide) rfl ?_
      refine g_iinc (v := (x3 + (1 : Int32))) (lv' := [(3, vI (x3 + (1 : Int32))), (1, vJ (y1 * (Int32.toInt64 x3))), (0, vI x0)]) O dX0_rowsOf_20 4 hn (by decide) 2 rfl rfl rfl ?_
      refine g_goto O dX0_rowsOf_23 rfl ?_
      refine g_sub [2, 1, 0] (lv' := [(0, vI x0), (1, vJ (y1 * (Int32.toInt64 x3))), (3, vI (x3 + (1 : Int32)))]) rfl ?_
      cases h
      exact K
def f_X0_rowsOf (x0 : Int32) (σ : Dt) : Option Int64 := bo (iter FU (fun s => f_X0_rowsOf_L4 x0 s.1 s.2 σ) ((1 : Int64), (2 : Int32))) fun w1 => some w1
theorem t_X0_rowsOf {M : Mx} {l0 : Launch} (O : Ok M cX0_rowsOf yX0_rowsOf) (R0 : Rm M l0 2 80 0 0) (N : Ma M = false) (hn : Mn M = 4) (x0 : Int32) (σ : Dt) (o : Int64) (h : f_X0_rowsOf x0 σ = some o) (K : Fin' M (some .long) 0 0 SX σ (some (vJ o))) : G M 0 0 0 [(0, vI x0)] [] SX σ := by
  unfold f_X0_rowsOf at h
  refine g_lconst (v := (1 : Int64)) O dX0_rowsOf_0 rfl ?_
  refine g_lstore_n (lv' := [(1, vJ (1 : Int64)), (0, vI x0)]) O dX0_rowsOf_1 rfl 4 hn (by decide) rfl ?_
  refine g_iconst (v := (2 : Int32)) O dX0_rowsOf_2 rfl ?_
  refine g_istore_n (lv' := [(3, vI (2 : Int32)), (1, vJ (1 : Int64)), (0, vI x0)]) O dX0_rowsOf_3 rfl 4 hn (by decide) rfl ?_
  refine g_sub [2, 1, 0] (lv' := [(0, vI x0), (1, vJ (1 : Int64)), (3, vI (2 : Int32))]) rfl ?_
  obtain ⟨w1, e2, h⟩ := bo_some h
  refine iter_G (P := P_X0_rowsOf_4 M x0 σ) (E := E_X0_rowsOf_4 M x0 σ) (fun s o hb hk => t_X0_rowsOf_L4 O R0 N hn x0 s.1 s.2 σ o hb hk) FU ((1 : Int64), (2 : Int32)) w1 e2 ?_
  show G M 0 0 26 [(1, vJ w1)] [] SX σ
  refine g_lload_n O dX0_rowsOf_26 rfl 0 rfl ?_
  cases h
  exact g_lreturn O K dX0_rowsOf_27
theorem c_X0_rowsOf (l0 : Launch) (x0 : Int32) (σ : Dt) (r : Int64) (h : f_X0_rowsOf x0 σ = some r) : Ctr l0 yX0_rowsOf cX0_rowsOf 4 (some .long) false 2 80 0 0 [vI x0] SX σ SX σ (some (vJ r)) := ctr_of (by decide) (Nat.le_of_ble_eq_true rfl) (fun M O F R0 N hn => t_X0_rowsOf O R0 N hn x0 σ r h F)
def P_X0_thatHeTurnsIt_44 (M : Mx) (a0 : Nat) (r1 : Option Nat) (x3 : Int32) (x4 : Int32) (x5 : Int32) (x8 : Int32) (σ : Dt) (s : (Int64 × Int32)) : Prop := G M 0 0 44 [(0, vA (some a0)), (1, vA r1), (3, vI x3), (4, vI x4), (5, vI x5), (6, vJ s.1), (8, vI x8), (9, vI s.2)] [] SX σ
def E_X0_thatHeTurnsIt_44 (M : Mx) (a0 : Nat) (r1 : Option Nat) (x3 : Int32) (x4 : Int32) (x5 : Int32) (x8 : Int32) (σ : Dt) : Int64 → Prop := (fun w => G M 0 0 190 [(0, vA (some a0)), (1, vA r1), (3, vI x3), (4, vI x4), (5, vI x5), (6, vJ w), (8, vI x8)] [] SX σ)
def f_X0_thatHeTurnsIt_184 (a0 : Nat) (r1 : Option Nat) (x3 : Int32) (x4 : Int32) (x5 : Int32) (y6 : Int64) (x8 : Int32) (x9 : Int32) (σ : Dt) : Option ((Int64 × Int32) ⊕ Int64) := some (.inl (y6, (x9 + (1 : Int32))))
theorem t_X0_thatHeTurnsIt_184 {M : Mx} {l0 : Launch} (O : Ok M cX0_thatHeTurnsIt yX0_thatHeTurnsIt) (R0 : Rm M l0 5 146 0 0) (N : Ma M = false) (hn : Mn M = 14)  (a0 : Nat) (r1 : Option Nat) (x3 : Int32) (x4 : Int32) (x5 : Int32) (y6 : Int64) (x8 : Int32) (x9 : Int32) (σ : Dt) (o : ((Int64 × Int32) ⊕ Int64)) (h : f_X0_thatHeTurnsIt_184 a0 r1 x3 x4 x5 y6 x8 x9 σ = some o) (K : kon (P_X0_thatHeTurnsIt_44 M a0 r1 x3 x4 x5 x8 σ) (E_X0_thatHeTurnsIt_44 M a0 r1 x3 x4 x5 x8 σ) o) : G M 0 0 184 [(0, vA (some a0)), (1, vA r1), (3, vI x3), (4, vI x4), (5, vI x5), (6, vJ y6), (8, vI x8), (9, vI x9)] [] SX σ := by
  unfold f_X0_thatHeTurnsIt_184 at h
  refine g_iinc (v := (x9 + (1 : Int32))) (lv' := [(9, vI (x9 + (1 : Int32))), (0, vA (some a0)), (1, vA r1), (3, vI x3), (4, vI x4), (5, vI x5), (6, vJ y6), (8, vI x8)]) O dX0_thatHeTurnsIt_184 14 hn (by decide) 7 rfl rfl rfl ?_
  refine g_goto O dX0_thatHeTurnsIt_187 rfl ?_
  refine g_sub [1, 2, 3, 4, 5, 6, 7, 0] (lv' := [(0, vA (some a0)), (1, vA r1), (3, vI x3), (4, vI x4), (5, vI x5), (6, vJ y6), (8, vI x8), (9, vI (x9 + (1 : Int32)))]) rfl ?_
  cases h
  exact K
def f_X0_thatHeTurnsIt_137 (a0 : Nat) (r1 : Option Nat) (x3 : Int32) (x4 : Int32) (x5 : Int32) (y6 : Int64) (x8 : Int32) (x9 : Int32) (x10 : Int32) (x11 : Int32) (k0 : Int32) (σ : Dt) : Option ((Int64 × Int32) ⊕ Int64) := if x10 = 0 then f_X0_thatHeTurnsIt_184 a0 r1 x3 x4 x5 y6 x8 x9 σ else if x11 = 0 then if k0 = 0 then f_X0_thatHeTurnsIt_184 a0 r1 x3 x4 x5 y6 x8 x9 σ else bo (f_J6_bitCount_0f7a4 x9 σ) fun v4 => bo (f_X0_rowsOf v4 σ) fun v6 => bo (xgi SX 0 2 (some a0) σ) fun v8 => bo (f_X0_rowsOf ((v8 - (1 : Int32)) - v4) σ) fun v10 => f_X0_thatHeTurnsIt_184 a0 r1 x3 x4 x5 (y6 + (v6 * v10)) x8 x9 σ else f_X0_thatHeTurnsIt_184 a0 r1 x3 x4 x5 y6 x8 x9 σ
theorem t_X0_thatHeTurnsIt_137 {M : Mx} {l0 : Launch} (O : Ok M cX0_thatHeTurnsIt yX0_thatHeTurnsIt) (R0 : Rm M l0 5 146 0 0) (N : Ma M = false) (hn : Mn M = 14)  (a0 : Nat) (r1 : Option Nat) (x3 : Int32) (x4 : Int32) (x5 : Int32) (y6 : Int64) (x8 : Int32) (x9 : Int32) (x10 : Int32) (x11 : Int32) (k0 : Int32) (σ : Dt) (o : ((Int64 × Int32) ⊕ Int64)) (h : f_X0_thatHeTurnsIt_137 a0 r1 x3 x4 x5 y6 x8 x9 x10 x11 k0 σ = some o) (K : kon (P_X0_thatHeTurnsIt_44 M a0 r1 x3 x4 x5 x8 σ) (E_X0_thatHeTurnsIt_44 M a0 r1 x3 x4 x5 x8 σ) o) : G M 0 0 137 [(0, vA (some a0)), (1, vA r1), (3, vI x3), (4, vI x4), (5, vI x5), (6, vJ y6), (8, vI x8), (9, vI x9), (10, vI x10), (11, vI x11)] [vI k0] SX σ := by
  unfold f_X0_thatHeTurnsIt_137 at h
  refine g_istore (lv' := [(12, vI k0), (0, vA (some a0)), (1, vA r1), (3, vI x3), (4, vI x4), (5, vI x5), (6, vJ y6), (8, vI x8), (9, vI x9), (10, vI x10), (11, vI x11)]) O dX0_thatHeTurnsIt_137 14 hn (by decide) rfl ?_
  refine g_iload O dX0_thatHeTurnsIt_139 9 rfl ?_
  refine g_if_eq O dX0_thatHeTurnsIt_141 rfl (fun c1 => ?_) (fun c1 => ?_)
  · replace h := (if_pos c1).symm.trans h
    refine g_sub [1, 2, 3, 4, 5, 6, 7, 8] (lv' := [(0, vA (some a0)), (1, vA r1), (3, vI x3), (4, vI x4), (5, vI x5), (6, vJ y6), (8, vI x8), (9, vI x9)]) rfl ?_
    exact t_X0_thatHeTurnsIt_184 O R0 N hn a0 r1 x3 x4 x5 y6 x8 x9 σ o h K
  · replace h := (if_neg c1).symm.trans h
    refine g_iload O dX0_thatHeTurnsIt_144 10 rfl ?_
    refine g_if_ne O dX0_thatHeTurnsIt_146 rfl (fun c2 => ?_) (fun c2 => ?_)
    · replace h := (if_pos c2).symm.trans h
      refine g_iload O dX0_thatHeTurnsIt_149 0 rfl ?_
      refine g_if_eq O dX0_thatHeTurnsIt_151 rfl (fun c3 => ?_) (fun c3 => ?_)
      · replace h := (if_pos c3).symm.trans h
        refine g_sub [1, 2, 3, 4, 5, 6, 7, 8] (lv' := [(0, vA (some a0)), (1, vA r1), (3, vI x3), (4, vI x4), (5, vI x5), (6, vJ y6), (8, vI x8), (9, vI x9)]) rfl ?_
        exact t_X0_thatHeTurnsIt_184 O R0 N hn a0 r1 x3 x4 x5 y6 x8 x9 σ o h K
      · replace h := (if_neg c3).symm.trans h
        refine g_iload O dX0_thatHeTurnsIt_154 8 rfl ?_
        obtain ⟨v4, e5, h⟩ := bo_some h
        refine g_cS1 O R0 N dX0_thatHeTurnsIt_156 vl_X0_68 w831 [vI x9] rfl rfl rfl ⟨Nat.le_of_ble_eq_true rfl, Nat.le_of_ble_eq_true rfl⟩ (c_J6_bitCount_0f7a4 l0 x9 σ v4 e5) ?_
        refine g_istore (lv' := [(13, vI v4), (12, vI k0), (0, vA (some a0)), (1, vA r1), (3, vI x3), (4, vI x4), (5, vI x5), (6, vJ y6), (8, vI x8), (9, vI x9), (10, vI x10), (11, vI x11)]) O dX0_thatHeTurnsIt_159 14 hn (by decide) rfl ?_
        refine g_lload O dX0_thatHeTurnsIt_161 7 rfl ?_
        refine g_iload O dX0_thatHeTurnsIt_163 0 rfl ?_
        obtain ⟨v6, e7, h⟩ := bo_some h
        refine g_cS1 O R0 N dX0_thatHeTurnsIt_165 vl_X0_73 w1157 [vI v4] rfl rfl rfl ⟨Nat.le_of_ble_eq_true rfl, Nat.le_of_ble_eq_true rfl⟩ (c_X0_rowsOf l0 v4 σ v6 e7) ?_
        refine g_aload_n O dX0_thatHeTurnsIt_168 rfl 2 rfl ?_
        obtain ⟨v8, e9, h⟩ := bo_some h
        refine g_getI O dX0_thatHeTurnsIt_169 fl_X0_28 rfl e9 ?_
        refine g_iconst (v := (1 : Int32)) O dX0_thatHeTurnsIt_172 rfl ?_
        refine g_isub O dX0_thatHeTurnsIt_173 ?_
        refine g_iload O dX0_thatHeTurnsIt_174 0 rfl ?_
        refine g_isub O dX0_thatHeTurnsIt_176 ?_
        obtain ⟨v10, e11, h⟩ := bo_some h
        refine g_cS1 O R0 N dX0_thatHeTurnsIt_177 vl_X0_73 w1157 [vI ((v8 - (1 : Int32)) - v4)] rfl rfl rfl ⟨Nat.le_of_ble_eq_true rfl, Nat.le_of_ble_eq_true rfl⟩ (c_X0_rowsOf l0 ((v8 - (1 : Int32)) - v4) σ v10 e11) ?_
        refine g_lmul O dX0_thatHeTurnsIt_180 ?_
        refine g_ladd O dX0_thatHeTurnsIt_181 ?_
        refine g_lstore (lv' := [(6, vJ (y6 + (v6 * v10))), (13, vI v4), (12, vI k0), (0, vA (some a0)), (1, vA r1), (3, vI x3), (4, vI x4), (5, vI x5), (8, vI x8), (9, vI x9), (10, vI x10), (11, vI x11)]) O dX0_thatHeTurnsIt_182 14 hn (by decide) rfl ?_
        refine g_sub [3, 4, 5, 6, 7, 0, 8, 9] (lv' := [(0, vA (some a0)), (1, vA r1), (3, vI x3), (4, vI x4), (5, vI x5), (6, vJ (y6 + (v6 * v10))), (8, vI x8), (9, vI x9)]) rfl ?_
        exact t_X0_thatHeTurnsIt_184 O R0 N hn a0 r1 x3 x4 x5 (y6 + (v6 * v10)) x8 x9 σ o h K
    · replace h := (if_neg c2).symm.trans h
      refine g_sub [1, 2, 3, 4, 5, 6, 7, 8] (lv' := [(0, vA (some a0)), (1, vA r1), (3, vI x3), (4, vI x4), (5, vI x5), (6, vJ y6), (8, vI x8), (9, vI x9)]) rfl ?_
      exact t_X0_thatHeTurnsIt_184 O R0 N hn a0 r1 x3 x4 x5 y6 x8 x9 σ o h K
def f_X0_thatHeTurnsIt_107 (a0 : Nat) (r1 : Option Nat) (x3 : Int32) (x4 : Int32) (x5 : Int32) (y6 : Int64) (x8 : Int32) (x9 : Int32) (x10 : Int32) (k0 : Int32) (σ : Dt) : Option ((Int64 × Int32) ⊕ Int64) := bo (xrc SX 0 (some a0)) fun a1 => bo (f_X0_strengthOf a1 (x9 ||| ((1 : Int32) <<< (x8 &&& 31))) σ) fun v3 => bo (xgr SX 9 8 r1 σ) fun v5 => bo (xai SX v5 x3 σ) fun v7 => if (x4 * v3) < v7 then f_X0_thatHeTurnsIt_137 a0 r1 x3 x4 x5 y6 x8 x9 x10 k0 (0 : Int32) σ else f_X0_thatHeTurnsIt_137 a0 r1 x3 x4 x5 y6 x8 x9 x10 k0 (1 : Int32) σ
theorem t_X0_thatHeTurnsIt_107 {M : Mx} {l0 : Launch} (O : Ok M cX0_thatHeTurnsIt yX0_thatHeTurnsIt) (R0 : Rm M l0 5 146 0 0) (N : Ma M = false) (hn : Mn M = 14)  (a0 : Nat) (r1 : Option Nat) (x3 : Int32) (x4 : Int32) (x5 : Int32) (y6 : Int64) (x8 : Int32) (x9 : Int32) (x10 : Int32) (k0 : Int32) (σ : Dt) (o : ((Int64 × Int32) ⊕ Int64)) (h : f_X0_thatHeTurnsIt_107 a0 r1 x3 x4 x5 y6 x8 x9 x10 k0 σ = some o) (K : kon (P_X0_thatHeTurnsIt_44 M a0 r1 x3 x4 x5 x8 σ) (E_X0_thatHeTurnsIt_44 M a0 r1 x3 x4 x5 x8 σ) o) : G M 0 0 107 [(0, vA (some a0)), (1, vA r1), (3, vI x3), (4, vI x4), (5, vI x5), (6, vJ y6), (8, vI x8), (9, vI x9), (10, vI x10)] [vI k0] SX σ := by
  unfold f_X0_thatHeTurnsIt_107 at h
  refine g_istore (lv' := [(11, vI k0), (0, vA (some a0)), (1, vA r1), (3, vI x3), (4, vI x4), (5, vI x5), (6, vJ y6), (8, vI x8), (9, vI x9), (10, vI x10)]) O dX0_thatHeTurnsIt_107 14 hn (by decide) rfl ?_
  refine g_iload O dX0_thatHeTurnsIt_109 4 rfl ?_
  refine g_aload_n O dX0_thatHeTurnsIt_111 rfl 1 rfl ?_
  refine g_iload O dX0_thatHeTurnsIt_112 8 rfl ?_
  refine g_iconst (v := (1 : Int32)) O dX0_thatHeTurnsIt_114 rfl ?_
  refine g_iload O dX0_thatHeTurnsIt_115 7 rfl ?_
  refine g_ishl O dX0_thatHeTurnsIt_117 ?_
  refine g_ior O dX0_thatHeTurnsIt_118 ?_
  obtain ⟨a1, e2, h⟩ := bo_some h
  obtain ⟨v3, e4, h⟩ := bo_some h
  refine g_cV1 O R0 N dX0_thatHeTurnsIt_119 vl_X0_57 vv_X0_strengthOf e2 [vI (x9 ||| ((1 : Int32) <<< (x8 &&& 31)))] rfl rfl rfl ⟨Nat.le_of_ble_eq_true rfl, Nat.le_of_ble_eq_true rfl⟩ (c_X0_strengthOf l0 a1 (x9 ||| ((1 : Int32) <<< (x8 &&& 31))) σ v3 e4) ?_
  refine g_imul O dX0_thatHeTurnsIt_122 ?_
  refine g_aload_n O dX0_thatHeTurnsIt_123 rfl 2 rfl ?_
  obtain ⟨v5, e6, h⟩ := bo_some h
  refine g_getR O dX0_thatHeTurnsIt_124 fl_X0_61 rfl e6 ?_
  refine g_iload_n O dX0_thatHeTurnsIt_127 rfl 3 rfl ?_
  obtain ⟨v7, e8, h⟩ := bo_some h
  refine g_iaload O dX0_thatHeTurnsIt_128 e8 ?_
  refine g_icmp_lt O dX0_thatHeTurnsIt_129 rfl (fun c9 => ?_) (fun c9 => ?_)
  · replace h := (if_pos c9).symm.trans h
    refine g_iconst (v := (0 : Int32)) O dX0_thatHeTurnsIt_136 rfl ?_
    refine g_sub [1, 2, 3, 4, 5, 6, 7, 8, 9, 0] (lv' := [(0, vA (some a0)), (1, vA r1), (3, vI x3), (4, vI x4), (5, vI x5), (6, vJ y6), (8, vI x8), (9, vI x9), (10, vI x10), (11, vI k0)]) rfl ?_
    exact t_X0_thatHeTurnsIt_137 O R0 N hn a0 r1 x3 x4 x5 y6 x8 x9 x10 k0 (0 : Int32) σ o h K
  · replace h := (if_neg c9).symm.trans h
    refine g_iconst (v := (1 : Int32)) O dX0_thatHeTurnsIt_132 rfl ?_
    refine g_goto O dX0_thatHeTurnsIt_133 rfl ?_
    refine g_sub [1, 2, 3, 4, 5, 6, 7, 8, 9, 0] (lv' := [(0, vA (some a0)), (1, vA r1), (3, vI x3), (4, vI x4), (5, vI x5), (6, vJ y6), (8, vI x8), (9, vI x9), (10, vI x10), (11, vI k0)]) rfl ?_
    exact t_X0_thatHeTurnsIt_137 O R0 N hn a0 r1 x3 x4 x5 y6 x8 x9 x10 k0 (1 : Int32) σ o h K
def f_X0_thatHeTurnsIt_82 (a0 : Nat) (r1 : Option Nat) (x3 : Int32) (x4 : Int32) (x5 : Int32) (y6 : Int64) (x8 : Int32) (x9 : Int32) (k0 : Int32) (σ : Dt) : Option ((Int64 × Int32) ⊕ Int64) := bo (xrc SX 0 (some a0)) fun a1 => bo (f_X0_strengthOf a1 x9 σ) fun v3 => bo (xgr SX 9 8 r1 σ) fun v5 => bo (xai SX v5 x3 σ) fun v7 => if (x4 * v3) < v7 then f_X0_thatHeTurnsIt_107 a0 r1 x3 x4 x5 y6 x8 x9 k0 (0 : Int32) σ else f_X0_thatHeTurnsIt_107 a0 r1 x3 x4 x5 y6 x8 x9 k0 (1 : Int32) σ
theorem t_X0_thatHeTurnsIt_82 {M : Mx} {l0 : Launch} (O : Ok M cX0_thatHeTurnsIt yX0_thatHeTurnsIt) (R0 : Rm M l0 5 146 0 0) (N : Ma M = false) (hn : Mn M = 14)  (a0 : Nat) (r1 : Option Nat) (x3 : Int32) (x4 : Int32) (x5 : Int32) (y6 : Int64) (x8 : Int32) (x9 : Int32) (k0 : Int32) (σ : Dt) (o : ((Int64 × Int32) ⊕ Int64)) (h : f_X0_thatHeTurnsIt_82 a0 r1 x3 x4 x5 y6 x8 x9 k0 σ = some o) (K : kon (P_X0_thatHeTurnsIt_44 M a0 r1 x3 x4 x5 x8 σ) (E_X0_thatHeTurnsIt_44 M a0 r1 x3 x4 x5 x8 σ) o) : G M 0 0 82 [(0, vA (some a0)), (1, vA r1), (3, vI x3), (4, vI x4), (5, vI x5), (6, vJ y6), (8, vI x8), (9, vI x9)] [vI k0] SX σ := by
  unfold f_X0_thatHeTurnsIt_82 at h
  refine g_istore (lv' := [(10, vI k0), (0, vA (some a0)), (1, vA r1), (3, vI x3), (4, vI x4), (5, vI x5), (6, vJ y6), (8, vI x8), (9, vI x9)]) O dX0_thatHeTurnsIt_82 14 hn (by decide) rfl ?_
  refine g_iload O dX0_thatHeTurnsIt_84 4 rfl ?_
  refine g_aload_n O dX0_thatHeTurnsIt_86 rfl 1 rfl ?_
  refine g_iload O dX0_thatHeTurnsIt_87 8 rfl ?_
  obtain ⟨a1, e2, h⟩ := bo_some h
  obtain ⟨v3, e4, h⟩ := bo_some h
  refine g_cV1 O R0 N dX0_thatHeTurnsIt_89 vl_X0_57 vv_X0_strengthOf e2 [vI x9] rfl rfl rfl ⟨Nat.le_of_ble_eq_true rfl, Nat.le_of_ble_eq_true rfl⟩ (c_X0_strengthOf l0 a1 x9 σ v3 e4) ?_
  refine g_imul O dX0_thatHeTurnsIt_92 ?_
  refine g_aload_n O dX0_thatHeTurnsIt_93 rfl 2 rfl ?_
  obtain ⟨v5, e6, h⟩ := bo_some h
  refine g_getR O dX0_thatHeTurnsIt_94 fl_X0_61 rfl e6 ?_
  refine g_iload_n O dX0_thatHeTurnsIt_97 rfl 3 rfl ?_
  obtain ⟨v7, e8, h⟩ := bo_some h
  refine g_iaload O dX0_thatHeTurnsIt_98 e8 ?_
  refine g_icmp_lt O dX0_thatHeTurnsIt_99 rfl (fun c9 => ?_) (fun c9 => ?_)
  · replace h := (if_pos c9).symm.trans h
    refine g_iconst (v := (0 : Int32)) O dX0_thatHeTurnsIt_106 rfl ?_
    refine g_sub [1, 2, 3, 4, 5, 6, 7, 8, 0] (lv' := [(0, vA (some a0)), (1, vA r1), (3, vI x3), (4, vI x4), (5, vI x5), (6, vJ y6), (8, vI x8), (9, vI x9), (10, vI k0)]) rfl ?_
    exact t_X0_thatHeTurnsIt_107 O R0 N hn a0 r1 x3 x4 x5 y6 x8 x9 k0 (0 : Int32) σ o h K
  · replace h := (if_neg c9).symm.trans h
    refine g_iconst (v := (1 : Int32)) O dX0_thatHeTurnsIt_102 rfl ?_
    refine g_goto O dX0_thatHeTurnsIt_103 rfl ?_
    refine g_sub [1, 2, 3, 4, 5, 6, 7, 8, 0] (lv' := [(0, vA (some a0)), (1, vA r1), (3, vI x3), (4, vI x4), (5, vI x5), (6, vJ y6), (8, vI x8), (9, vI x9), (10, vI k0)]) rfl ?_
    exact t_X0_thatHeTurnsIt_107 O R0 N hn a0 r1 x3 x4 x5 y6 x8 x9 k0 (1 : Int32) σ o h K
def f_X0_thatHeTurnsIt_L44 (a0 : Nat) (r1 : Option Nat) (x3 : Int32) (x4 : Int32) (x5 : Int32) (x8 : Int32) (y6 : Int64) (x9 : Int32) (σ : Dt) : Option ((Int64 × Int32) ⊕ Int64) := bo (xgr SX 0 3 (some a0) σ) fun v1 => bo (xai SX v1 x8 σ) fun v3 => if v3 = x5 then bo (xgi SX 0 2 (some a0) σ) fun v6 => if ((1 : Int32) <<< (v6 &&& 31)) ≤ x9 then some (.inr y6) else if ((x9 >>> (x8 &&& 31)) &&& (1 : Int32)) = 0 then f_X0_thatHeTurnsIt_82 a0 r1 x3 x4 x5 y6 x8 x9 (1 : Int32) σ else f_X0_thatHeTurnsIt_82 a0 r1 x3 x4 x5 y6 x8 x9 (0 : Int32) σ else some (.inr y6)
theorem t_X0_thatHeTurnsIt_L44 {M : Mx} {l0 : Launch} (O : Ok M cX0_thatHeTurnsIt yX0_thatHeTurnsIt) (R0 : Rm M l0 5 146 0 0) (N : Ma M = false) (hn : Mn M = 14) (a0 : Nat) (r1 : Option Nat) (x3 : Int32) (x4 : Int32) (x5 : Int32) (x8 : Int32) (y6 : Int64) (x9 : Int32) (σ : Dt) (o : ((Int64 × Int32) ⊕ Int64)) (h : f_X0_thatHeTurnsIt_L44 a0 r1 x3 x4 x5 x8 y6 x9 σ = some o) (K : kon (P_X0_thatHeTurnsIt_44 M a0 r1 x3 x4 x5 x8 σ) (E_X0_thatHeTurnsIt_44 M a0 r1 x3 x4 x5 x8 σ) o) : G M 0 0 44 [(0, vA (some a0)), (1, vA r1), (3, vI x3), (4, vI x4), (5, vI x5), (6, vJ y6), (8, vI x8), (9, vI x9)] [] SX σ := by
  unfold f_X0_thatHeTurnsIt_L44 at h
  refine g_aload_n O dX0_thatHeTurnsIt_44 rfl 0 rfl ?_
  obtain ⟨v1, e2, h⟩ := bo_some h
  refine g_getR O dX0_thatHeTurnsIt_45 fl_X0_18 rfl e2 ?_
  refine g_iload O dX0_thatHeTurnsIt_48 6 rfl ?_
  obtain ⟨v3, e4, h⟩ := bo_some h
  refine g_iaload O dX0_thatHeTurnsIt_50 e4 ?_
  refine g_iload O dX0_thatHeTurnsIt_51 4 rfl ?_
  refine g_icmp_ne O dX0_thatHeTurnsIt_53 rfl (fun c5 => ?_) (fun c5 => ?_)
  · replace h := (if_pos c5).symm.trans h
    refine g_iload O dX0_thatHeTurnsIt_56 7 rfl ?_
    refine g_iconst (v := (1 : Int32)) O dX0_thatHeTurnsIt_58 rfl ?_
    refine g_aload_n O dX0_thatHeTurnsIt_59 rfl 0 rfl ?_
    obtain ⟨v6, e7, h⟩ := bo_some h
    refine g_getI O dX0_thatHeTurnsIt_60 fl_X0_28 rfl e7 ?_
    refine g_ishl O dX0_thatHeTurnsIt_63 ?_
    refine g_icmp_ge O dX0_thatHeTurnsIt_64 rfl (fun c8 => ?_) (fun c8 => ?_)
    · replace h := (if_pos c8).symm.trans h
      refine g_sub [0, 1, 2, 3, 4, 5, 6] (lv' := [(0, vA (some a0)), (1, vA r1), (3, vI x3), (4, vI x4), (5, vI x5), (6, vJ y6), (8, vI x8)]) rfl ?_
      cases h
      exact K
    · replace h := (if_neg c8).symm.trans h
      refine g_iload O dX0_thatHeTurnsIt_67 7 rfl ?_
      refine g_iload O dX0_thatHeTurnsIt_69 6 rfl ?_
      refine g_ishr O dX0_thatHeTurnsIt_71 ?_
      refine g_iconst (v := (1 : Int32)) O dX0_thatHeTurnsIt_72 rfl ?_
      refine g_iand O dX0_thatHeTurnsIt_73 ?_
      refine g_if_ne O dX0_thatHeTurnsIt_74 rfl (fun c9 => ?_) (fun c9 => ?_)
      · replace h := (if_pos c9).symm.trans h
        refine g_iconst (v := (1 : Int32)) O dX0_thatHeTurnsIt_77 rfl ?_
        refine g_goto O dX0_thatHeTurnsIt_78 rfl ?_
        exact t_X0_thatHeTurnsIt_82 O R0 N hn a0 r1 x3 x4 x5 y6 x8 x9 (1 : Int32) σ o h K
      · replace h := (if_neg c9).symm.trans h
        refine g_iconst (v := (0 : Int32)) O dX0_thatHeTurnsIt_81 rfl ?_
        exact t_X0_thatHeTurnsIt_82 O R0 N hn a0 r1 x3 x4 x5 y6 x8 x9 (0 : Int32) σ o h K
  · replace h := (if_neg c5).symm.trans h
    refine g_sub [0, 1, 2, 3, 4, 5, 6] (lv' := [(0, vA (some a0)), (1, vA r1), (3, vI x3), (4, vI x4), (5, vI x5), (6, vJ y6), (8, vI x8)]) rfl ?_
    cases h
    exact K
def P_X0_thatHeTurnsIt_25 (M : Mx) (a0 : Nat) (r1 : Option Nat) (x3 : Int32) (x4 : Int32) (x5 : Int32) (σ : Dt) (s : (Int64 × Int32)) : Prop := G M 0 0 25 [(0, vA (some a0)), (1, vA r1), (3, vI x3), (4, vI x4), (5, vI x5), (6, vJ s.1), (8, vI s.2)] [] SX σ
def E_X0_thatHeTurnsIt_25 (M : Mx) (a0 : Nat) (r1 : Option Nat) (x3 : Int32) (x4 : Int32) (x5 : Int32) (σ : Dt) : Int64 → Prop := (fun w => G M 0 0 196 [(0, vA (some a0)), (6, vJ w)] [] SX σ)
def f_X0_thatHeTurnsIt_190 (a0 : Nat) (r1 : Option Nat) (x3 : Int32) (x4 : Int32) (x5 : Int32) (y6 : Int64) (x8 : Int32) (σ : Dt) : Option ((Int64 × Int32) ⊕ Int64) := some (.inl (y6, (x8 + (1 : Int32))))
theorem t_X0_thatHeTurnsIt_190 {M : Mx} {l0 : Launch} (O : Ok M cX0_thatHeTurnsIt yX0_thatHeTurnsIt) (R0 : Rm M l0 5 146 0 0) (N : Ma M = false) (hn : Mn M = 14)  (a0 : Nat) (r1 : Option Nat) (x3 : Int32) (x4 : Int32) (x5 : Int32) (y6 : Int64) (x8 : Int32) (σ : Dt) (o : ((Int64 × Int32) ⊕ Int64)) (h : f_X0_thatHeTurnsIt_190 a0 r1 x3 x4 x5 y6 x8 σ = some o) (K : kon (P_X0_thatHeTurnsIt_25 M a0 r1 x3 x4 x5 σ) (E_X0_thatHeTurnsIt_25 M a0 r1 x3 x4 x5 σ) o) : G M 0 0 190 [(0, vA (some a0)), (1, vA r1), (3, vI x3), (4, vI x4), (5, vI x5), (6, vJ y6), (8, vI x8)] [] SX σ := by
  unfold f_X0_thatHeTurnsIt_190 at h
  refine g_iinc (v := (x8 + (1 : Int32))) (lv' := [(8, vI (x8 + (1 : Int32))), (0, vA (some a0)), (1, vA r1), (3, vI x3), (4, vI x4), (5, vI x5), (6, vJ y6)]) O dX0_thatHeTurnsIt_190 14 hn (by decide) 6 rfl rfl rfl ?_
  refine g_goto O dX0_thatHeTurnsIt_193 rfl ?_
  refine g_sub [1, 2, 3, 4, 5, 6, 0] (lv' := [(0, vA (some a0)), (1, vA r1), (3, vI x3), (4, vI x4), (5, vI x5), (6, vJ y6), (8, vI (x8 + (1 : Int32)))]) rfl ?_
  cases h
  exact K
def f_X0_thatHeTurnsIt_L25 (a0 : Nat) (r1 : Option Nat) (x3 : Int32) (x4 : Int32) (x5 : Int32) (y6 : Int64) (x8 : Int32) (σ : Dt) : Option ((Int64 × Int32) ⊕ Int64) := bo (xgi SX 0 2 (some a0) σ) fun v1 => if v1 ≤ x8 then some (.inr y6) else if (10 : Int32) ≤ x8 then some (.inr y6) else bo (iter FU (fun s => f_X0_thatHeTurnsIt_L44 a0 r1 x3 x4 x5 x8 s.1 s.2 σ) (y6, (0 : Int32))) fun w5 => f_X0_thatHeTurnsIt_190 a0 r1 x3 x4 x5 w5 x8 σ
theorem t_X0_thatHeTurnsIt_L25 {M : Mx} {l0 : Launch} (O : Ok M cX0_thatHeTurnsIt yX0_thatHeTurnsIt) (R0 : Rm M l0 5 146 0 0) (N : Ma M = false) (hn : Mn M = 14) (a0 : Nat) (r1 : Option Nat) (x3 : Int32) (x4 : Int32) (x5 : Int32) (y6 : Int64) (x8 : Int32) (σ : Dt) (o : ((Int64 × Int32) ⊕ Int64)) (h : f_X0_thatHeTurnsIt_L25 a0 r1 x3 x4 x5 y6 x8 σ = some o) (K : kon (P_X0_thatHeTurnsIt_25 M a0 r1 x3 x4 x5 σ) (E_X0_thatHeTurnsIt_25 M a0 r1 x3 x4 x5 σ) o) : G M 0 0 25 [(0, vA (some a0)), (1, vA r1), (3, vI x3), (4, vI x4), (5, vI x5), (6, vJ y6), (8, vI x8)] [] SX σ := by
  unfold f_X0_thatHeTurnsIt_L25 at h
  refine g_iload O dX0_thatHeTurnsIt_25 6 rfl ?_
  refine g_aload_n O dX0_thatHeTurnsIt_27 rfl 0 rfl ?_
  obtain ⟨v1, e2, h⟩ := bo_some h
  refine g_getI O dX0_thatHeTurnsIt_28 fl_X0_28 rfl e2 ?_
  refine g_icmp_ge O dX0_thatHeTurnsIt_31 rfl (fun c3 => ?_) (fun c3 => ?_)
  · replace h := (if_pos c3).symm.trans h
    refine g_sub [0, 5] (lv' := [(0, vA (some a0)), (6, vJ y6)]) rfl ?_
    cases h
    exact K
  · replace h := (if_neg c3).symm.trans h
    refine g_iload O dX0_thatHeTurnsIt_34 6 rfl ?_
    refine g_bipush (v := (10 : Int32)) O dX0_thatHeTurnsIt_36 rfl ?_
    refine g_icmp_ge O dX0_thatHeTurnsIt_38 rfl (fun c4 => ?_) (fun c4 => ?_)
    · replace h := (if_pos c4).symm.trans h
      refine g_sub [0, 5] (lv' := [(0, vA (some a0)), (6, vJ y6)]) rfl ?_
      cases h
      exact K
    · replace h := (if_neg c4).symm.trans h
      refine g_iconst (v := (0 : Int32)) O dX0_thatHeTurnsIt_41 rfl ?_
      refine g_istore (lv' := [(9, vI (0 : Int32)), (0, vA (some a0)), (1, vA r1), (3, vI x3), (4, vI x4), (5, vI x5), (6, vJ y6), (8, vI x8)]) O dX0_thatHeTurnsIt_42 14 hn (by decide) rfl ?_
      refine g_sub [1, 2, 3, 4, 5, 6, 7, 0] (lv' := [(0, vA (some a0)), (1, vA r1), (3, vI x3), (4, vI x4), (5, vI x5), (6, vJ y6), (8, vI x8), (9, vI (0 : Int32))]) rfl ?_
      obtain ⟨w5, e6, h⟩ := bo_some h
      refine iter_G (P := P_X0_thatHeTurnsIt_44 M a0 r1 x3 x4 x5 x8 σ) (E := E_X0_thatHeTurnsIt_44 M a0 r1 x3 x4 x5 x8 σ) (fun s o hb hk => t_X0_thatHeTurnsIt_L44 O R0 N hn a0 r1 x3 x4 x5 x8 s.1 s.2 σ o hb hk) FU (y6, (0 : Int32)) w5 e6 ?_
      show G M 0 0 190 [(0, vA (some a0)), (1, vA r1), (3, vI x3), (4, vI x4), (5, vI x5), (6, vJ w5), (8, vI x8)] [] SX σ
      exact t_X0_thatHeTurnsIt_190 O R0 N hn a0 r1 x3 x4 x5 w5 x8 σ o h K
def f_X0_thatHeTurnsIt_196 (a0 : Nat) (y6 : Int64) (σ : Dt) : Option (Unit × Dt) := bo (xgi SX 0 2 (some a0) σ) fun v1 => bo (f_X0_rowsOf v1 σ) fun v3 => bo (xrc SX 0 (some a0)) fun a5 => bd (f_X0_reduce a5 y6 v3 σ) fun v7 σ8 => some ((), σ8)
theorem t_X0_thatHeTurnsIt_196 {M : Mx} {l0 : Launch} (O : Ok M cX0_thatHeTurnsIt yX0_thatHeTurnsIt) (R0 : Rm M l0 5 146 0 0) (N : Ma M = false) (hn : Mn M = 14)  (a0 : Nat) (y6 : Int64) (σ : Dt) (o : (Unit × Dt)) (h : f_X0_thatHeTurnsIt_196 a0 y6 σ = some o) (K : Fin' M (none) 0 0 SX o.2 (none)) : G M 0 0 196 [(0, vA (some a0)), (6, vJ y6)] [] SX σ := by
  unfold f_X0_thatHeTurnsIt_196 at h
  refine g_aload_n O dX0_thatHeTurnsIt_196 rfl 0 rfl ?_
  refine g_lload O dX0_thatHeTurnsIt_197 1 rfl ?_
  refine g_aload_n O dX0_thatHeTurnsIt_199 rfl 0 rfl ?_
  obtain ⟨v1, e2, h⟩ := bo_some h
  refine g_getI O dX0_thatHeTurnsIt_200 fl_X0_28 rfl e2 ?_
  obtain ⟨v3, e4, h⟩ := bo_some h
  refine g_cS1 O R0 N dX0_thatHeTurnsIt_203 vl_X0_73 w1157 [vI v1] rfl rfl rfl ⟨Nat.le_of_ble_eq_true rfl, Nat.le_of_ble_eq_true rfl⟩ (c_X0_rowsOf l0 v1 σ v3 e4) ?_
  obtain ⟨a5, e6, h⟩ := bo_some h
  obtain ⟨v7, σ8, e9, h⟩ := bd_some h
  refine g_cV0 O R0 N dX0_thatHeTurnsIt_206 vl_X0_64 vv_X0_reduce e6 [vJ y6, vJ v3] rfl rfl rfl ⟨Nat.le_of_ble_eq_true rfl, Nat.le_of_ble_eq_true rfl⟩ (c_X0_reduce l0 a5 y6 v3 σ v7 σ8 e9) ?_
  cases h
  exact g_return O K dX0_thatHeTurnsIt_209
def f_X0_thatHeTurnsIt (a0 : Nat) (r1 : Option Nat) (x2 : Int32) (x3 : Int32) (x4 : Int32) (x5 : Int32) (σ : Dt) : Option (Unit × Dt) := if r1 = none then some ((), σ) else bo (xrc SX 9 r1) fun a2 => bo (f_X9_hasWork a2 x3 σ) fun v4 => if v4 = 0 then some ((), σ) else bo (xrc SX 0 (some a0)) fun a7 => bd (f_X0_gather a7 r1 x2 σ) fun v9 σ10 => bo (iter FU (fun s => f_X0_thatHeTurnsIt_L25 a0 r1 x3 x4 x5 s.1 s.2 σ10) ((0 : Int64), (0 : Int32))) fun w12 => f_X0_thatHeTurnsIt_196 a0 w12 σ10
theorem t_X0_thatHeTurnsIt {M : Mx} {l0 : Launch} (O : Ok M cX0_thatHeTurnsIt yX0_thatHeTurnsIt) (R0 : Rm M l0 5 146 0 0) (N : Ma M = false) (hn : Mn M = 14) (a0 : Nat) (r1 : Option Nat) (x2 : Int32) (x3 : Int32) (x4 : Int32) (x5 : Int32) (σ : Dt) (o : (Unit × Dt)) (h : f_X0_thatHeTurnsIt a0 r1 x2 x3 x4 x5 σ = some o) (K : Fin' M (none) 0 0 SX o.2 (none)) : G M 0 0 0 [(0, vA (some a0)), (1, vA r1), (2, vI x2), (3, vI x3), (4, vI x4), (5, vI x5)] [] SX σ := by
  unfold f_X0_thatHeTurnsIt at h
  refine g_aload_n O dX0_thatHeTurnsIt_0 rfl 1 rfl ?_
  refine g_ifnull O dX0_thatHeTurnsIt_1 rfl (fun c1 => ?_) (fun c1 => ?_)
  · replace h := (if_pos c1).symm.trans h
    cases h
    exact g_return O K dX0_thatHeTurnsIt_12
  · replace h := (if_neg c1).symm.trans h
    refine g_aload_n O dX0_thatHeTurnsIt_4 rfl 1 rfl ?_
    refine g_iload_n O dX0_thatHeTurnsIt_5 rfl 3 rfl ?_
    obtain ⟨a2, e3, h⟩ := bo_some h
    obtain ⟨v4, e5, h⟩ := bo_some h
    refine g_cV1 O R0 N dX0_thatHeTurnsIt_6 vl_X0_45 vv_X9_hasWork e3 [vI x3] rfl rfl rfl ⟨Nat.le_of_ble_eq_true rfl, Nat.le_of_ble_eq_true rfl⟩ (c_X9_hasWork l0 a2 x3 σ v4 e5) ?_
    refine g_if_ne O dX0_thatHeTurnsIt_9 rfl (fun c6 => ?_) (fun c6 => ?_)
    · replace h := (if_pos c6).symm.trans h
      cases h
      exact g_return O K dX0_thatHeTurnsIt_12
    · replace h := (if_neg c6).symm.trans h
      refine g_aload_n O dX0_thatHeTurnsIt_13 rfl 0 rfl ?_
      refine g_aload_n O dX0_thatHeTurnsIt_14 rfl 1 rfl ?_
      refine g_iload_n O dX0_thatHeTurnsIt_15 rfl 2 rfl ?_
      obtain ⟨a7, e8, h⟩ := bo_some h
      obtain ⟨v9, σ10, e11, h⟩ := bd_some h
      refine g_cV0 O R0 N dX0_thatHeTurnsIt_16 vl_X0_49 vv_X0_gather e8 [vA r1, vI x2] rfl rfl rfl ⟨Nat.le_of_ble_eq_true rfl, Nat.le_of_ble_eq_true rfl⟩ (c_X0_gather l0 a7 r1 x2 σ v9 σ10 e11) ?_
      refine g_lconst (v := (0 : Int64)) O dX0_thatHeTurnsIt_19 rfl ?_
      refine g_lstore (lv' := [(6, vJ (0 : Int64)), (0, vA (some a0)), (1, vA r1), (2, vI x2), (3, vI x3), (4, vI x4), (5, vI x5)]) O dX0_thatHeTurnsIt_20 14 hn (by decide) rfl ?_
      refine g_iconst (v := (0 : Int32)) O dX0_thatHeTurnsIt_22 rfl ?_
      refine g_istore (lv' := [(8, vI (0 : Int32)), (6, vJ (0 : Int64)), (0, vA (some a0)), (1, vA r1), (2, vI x2), (3, vI x3), (4, vI x4), (5, vI x5)]) O dX0_thatHeTurnsIt_23 14 hn (by decide) rfl ?_
      refine g_sub [2, 3, 5, 6, 7, 1, 0] (lv' := [(0, vA (some a0)), (1, vA r1), (3, vI x3), (4, vI x4), (5, vI x5), (6, vJ (0 : Int64)), (8, vI (0 : Int32))]) rfl ?_
      obtain ⟨w12, e13, h⟩ := bo_some h
      refine iter_G (P := P_X0_thatHeTurnsIt_25 M a0 r1 x3 x4 x5 σ10) (E := E_X0_thatHeTurnsIt_25 M a0 r1 x3 x4 x5 σ10) (fun s o hb hk => t_X0_thatHeTurnsIt_L25 O R0 N hn a0 r1 x3 x4 x5 s.1 s.2 σ10 o hb hk) FU ((0 : Int64), (0 : Int32)) w12 e13 ?_
      show G M 0 0 196 [(0, vA (some a0)), (6, vJ w12)] [] SX σ10
      exact t_X0_thatHeTurnsIt_196 O R0 N hn a0 w12 σ10 o h K
theorem c_X0_thatHeTurnsIt (l0 : Launch) (a0 : Nat) (r1 : Option Nat) (x2 : Int32) (x3 : Int32) (x4 : Int32) (x5 : Int32) (σ : Dt) (r : Unit) (σ' : Dt) (h : f_X0_thatHeTurnsIt a0 r1 x2 x3 x4 x5 σ = some (r, σ')) : Ctr l0 yX0_thatHeTurnsIt cX0_thatHeTurnsIt 14 (none) false 5 146 0 0 [vA (some a0), vA r1, vI x2, vI x3, vI x4, vI x5] SX σ SX σ' (none) := ctr_of (by decide) (Nat.le_of_ble_eq_true rfl) (fun M O F R0 N hn => t_X0_thatHeTurnsIt O R0 N hn a0 r1 x2 x3 x4 x5 σ (r, σ') h F)
