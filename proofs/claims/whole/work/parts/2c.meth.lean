def f_X8_take_77 (a0 : Nat) (x1 : Int32) (x2 : Int32) (σ : Dt) : Option (Unit × Dt) := bo (xgr SX 8 7 (some a0) σ) fun v1 => bo (xai SX v1 x1 σ) fun v3 => if x2 < v3 then some ((), σ) else bo (xgr SX 8 7 (some a0) σ) fun v6 => bo (xsi SX v6 x1 (x2 + (1 : Int32)) σ) fun σ8 => some ((), σ8)
theorem t_X8_take_77 {M : Mx} {l0 : Launch} (O : Ok M cX8_take yX8_take) (R0 : Rm M l0 3 101 0 0) (N : Ma M = false) (hn : Mn M = 4)  (a0 : Nat) (x1 : Int32) (x2 : Int32) (σ : Dt) (o : (Unit × Dt)) (h : f_X8_take_77 a0 x1 x2 σ = some o) (K : Fin' M (none) 0 0 SX o.2 (none)) : G M 0 0 77 [(0, vA (some a0)), (1, vI x1), (2, vI x2)] [] SX σ := by
  unfold f_X8_take_77 at h
  refine g_iload_n O dX8_take_77 rfl 2 rfl ?_
  refine g_aload_n O dX8_take_78 rfl 0 rfl ?_
  obtain ⟨v1, e2, h⟩ := bo_some h
  refine g_getR O dX8_take_79 fl_X8_46 rfl e2 ?_
  refine g_iload_n O dX8_take_82 rfl 1 rfl ?_
  obtain ⟨v3, e4, h⟩ := bo_some h
  refine g_iaload O dX8_take_83 e4 ?_
  refine g_icmp_lt O dX8_take_84 rfl (fun c5 => ?_) (fun c5 => ?_)
  · replace h := (if_pos c5).symm.trans h
    cases h
    exact g_return O K dX8_take_96
  · replace h := (if_neg c5).symm.trans h
    refine g_aload_n O dX8_take_87 rfl 0 rfl ?_
    obtain ⟨v6, e7, h⟩ := bo_some h
    refine g_getR O dX8_take_88 fl_X8_46 rfl e7 ?_
    refine g_iload_n O dX8_take_91 rfl 1 rfl ?_
    refine g_iload_n O dX8_take_92 rfl 2 rfl ?_
    refine g_iconst (v := (1 : Int32)) O dX8_take_93 rfl ?_
    refine g_iadd O dX8_take_94 ?_
    obtain ⟨σ8, e9, h⟩ := bo_some h
    refine g_iastore O dX8_take_95 e9 ?_
    cases h
    exact g_return O K dX8_take_96
def f_X8_take (a0 : Nat) (x1 : Int32) (x2 : Int32) (r3 : Option Nat) (σ : Dt) : Option (Unit × Dt) := if r3 = none then some ((), σ) else if x2 < 0 then some ((), σ) else if (2 : Int32) ≤ x2 then some ((), σ) else if x1 < 0 then some ((), σ) else if x1 < (3 : Int32) then if x1 = 0 then bo (xgr SX 8 4 (some a0) σ) fun v7 => bo (xar SX 19 v7 x2 σ) fun v9 => bo (xgr SX 5 0 r3 σ) fun v11 => bo (xrc SX 9 v9) fun a13 => bd (f_X9_copyFrom a13 v11 σ) fun v15 σ16 => f_X8_take_77 a0 x1 x2 σ16 else if x1 = (1 : Int32) then bo (xgr SX 8 5 (some a0) σ) fun v19 => bo (xar SX 16 v19 x2 σ) fun v21 => bo (xgr SX 5 1 r3 σ) fun v23 => bo (xrc SX 4 v21) fun a25 => bd (f_X4_copyFrom a25 v23 σ) fun v27 σ28 => f_X8_take_77 a0 x1 x2 σ28 else bo (xgr SX 8 6 (some a0) σ) fun v30 => bo (xar SX 17 v30 x2 σ) fun v32 => bo (xgr SX 5 2 r3 σ) fun v34 => bo (xrc SX 6 v32) fun a36 => bd (f_X6_copyFrom a36 v34 σ) fun v38 σ39 => f_X8_take_77 a0 x1 x2 σ39 else some ((), σ)
theorem t_X8_take {M : Mx} {l0 : Launch} (O : Ok M cX8_take yX8_take) (R0 : Rm M l0 3 101 0 0) (N : Ma M = false) (hn : Mn M = 4) (a0 : Nat) (x1 : Int32) (x2 : Int32) (r3 : Option Nat) (σ : Dt) (o : (Unit × Dt)) (h : f_X8_take a0 x1 x2 r3 σ = some o) (K : Fin' M (none) 0 0 SX o.2 (none)) : G M 0 0 0 [(0, vA (some a0)), (1, vI x1), (2, vI x2), (3, vA r3)] [] SX σ := by
  unfold f_X8_take at h
  refine g_aload_n O dX8_take_0 rfl 3 rfl ?_
  refine g_ifnull O dX8_take_1 rfl (fun c1 => ?_) (fun c1 => ?_)
  · replace h := (if_pos c1).symm.trans h
    cases h
    exact g_return O K dX8_take_22
  · replace h := (if_neg c1).symm.trans h
    refine g_iload_n O dX8_take_4 rfl 2 rfl ?_
    refine g_if_lt O dX8_take_5 rfl (fun c2 => ?_) (fun c2 => ?_)
    · replace h := (if_pos c2).symm.trans h
      cases h
      exact g_return O K dX8_take_22
    · replace h := (if_neg c2).symm.trans h
      refine g_iload_n O dX8_take_8 rfl 2 rfl ?_
      refine g_iconst (v := (2 : Int32)) O dX8_take_9 rfl ?_
      refine g_icmp_ge O dX8_take_10 rfl (fun c3 => ?_) (fun c3 => ?_)
      · replace h := (if_pos c3).symm.trans h
        cases h
        exact g_return O K dX8_take_22
      · replace h := (if_neg c3).symm.trans h
        refine g_iload_n O dX8_take_13 rfl 1 rfl ?_
        refine g_if_lt O dX8_take_14 rfl (fun c4 => ?_) (fun c4 => ?_)
        · replace h := (if_pos c4).symm.trans h
          cases h
          exact g_return O K dX8_take_22
        · replace h := (if_neg c4).symm.trans h
          refine g_iload_n O dX8_take_17 rfl 1 rfl ?_
          refine g_iconst (v := (3 : Int32)) O dX8_take_18 rfl ?_
          refine g_icmp_lt O dX8_take_19 rfl (fun c5 => ?_) (fun c5 => ?_)
          · replace h := (if_pos c5).symm.trans h
            refine g_iload_n O dX8_take_23 rfl 1 rfl ?_
            refine g_if_ne O dX8_take_24 rfl (fun c6 => ?_) (fun c6 => ?_)
            · replace h := (if_pos c6).symm.trans h
              refine g_aload_n O dX8_take_27 rfl 0 rfl ?_
              obtain ⟨v7, e8, h⟩ := bo_some h
              refine g_getR O dX8_take_28 fl_X8_27 rfl e8 ?_
              refine g_iload_n O dX8_take_31 rfl 2 rfl ?_
              obtain ⟨v9, e10, h⟩ := bo_some h
              refine g_aaload (kd := 19) O dX8_take_32 (by decide) (by decide) e10 ?_
              refine g_aload_n O dX8_take_33 rfl 3 rfl ?_
              obtain ⟨v11, e12, h⟩ := bo_some h
              refine g_getR O dX8_take_34 fl_X8_73 rfl e12 ?_
              obtain ⟨a13, e14, h⟩ := bo_some h
              obtain ⟨v15, σ16, e17, h⟩ := bd_some h
              refine g_cV0 O R0 N dX8_take_37 vl_X8_55 vv_X9_copyFrom e14 [vA v11] rfl rfl rfl ⟨Nat.le_of_ble_eq_true rfl, Nat.le_of_ble_eq_true rfl⟩ (c_X9_copyFrom l0 a13 v11 σ v15 σ16 e17) ?_
              refine g_goto O dX8_take_40 rfl ?_
              refine g_sub [0, 1, 2] (lv' := [(0, vA (some a0)), (1, vI x1), (2, vI x2)]) rfl ?_
              exact t_X8_take_77 O R0 N hn a0 x1 x2 σ16 o h K
            · replace h := (if_neg c6).symm.trans h
              refine g_iload_n O dX8_take_43 rfl 1 rfl ?_
              refine g_iconst (v := (1 : Int32)) O dX8_take_44 rfl ?_
              refine g_icmp_ne O dX8_take_45 rfl (fun c18 => ?_) (fun c18 => ?_)
              · replace h := (if_pos c18).symm.trans h
                refine g_aload_n O dX8_take_48 rfl 0 rfl ?_
                obtain ⟨v19, e20, h⟩ := bo_some h
                refine g_getR O dX8_take_49 fl_X8_33 rfl e20 ?_
                refine g_iload_n O dX8_take_52 rfl 2 rfl ?_
                obtain ⟨v21, e22, h⟩ := bo_some h
                refine g_aaload (kd := 16) O dX8_take_53 (by decide) (by decide) e22 ?_
                refine g_aload_n O dX8_take_54 rfl 3 rfl ?_
                obtain ⟨v23, e24, h⟩ := bo_some h
                refine g_getR O dX8_take_55 fl_X8_79 rfl e24 ?_
                obtain ⟨a25, e26, h⟩ := bo_some h
                obtain ⟨v27, σ28, e29, h⟩ := bd_some h
                refine g_cV0 O R0 N dX8_take_58 vl_X8_59 vv_X4_copyFrom e26 [vA v23] rfl rfl rfl ⟨Nat.le_of_ble_eq_true rfl, Nat.le_of_ble_eq_true rfl⟩ (c_X4_copyFrom l0 a25 v23 σ v27 σ28 e29) ?_
                refine g_goto O dX8_take_61 rfl ?_
                refine g_sub [0, 1, 2] (lv' := [(0, vA (some a0)), (1, vI x1), (2, vI x2)]) rfl ?_
                exact t_X8_take_77 O R0 N hn a0 x1 x2 σ28 o h K
              · replace h := (if_neg c18).symm.trans h
                refine g_aload_n O dX8_take_64 rfl 0 rfl ?_
                obtain ⟨v30, e31, h⟩ := bo_some h
                refine g_getR O dX8_take_65 fl_X8_39 rfl e31 ?_
                refine g_iload_n O dX8_take_68 rfl 2 rfl ?_
                obtain ⟨v32, e33, h⟩ := bo_some h
                refine g_aaload (kd := 17) O dX8_take_69 (by decide) (by decide) e33 ?_
                refine g_aload_n O dX8_take_70 rfl 3 rfl ?_
                obtain ⟨v34, e35, h⟩ := bo_some h
                refine g_getR O dX8_take_71 fl_X8_83 rfl e35 ?_
                obtain ⟨a36, e37, h⟩ := bo_some h
                obtain ⟨v38, σ39, e40, h⟩ := bd_some h
                refine g_cV0 O R0 N dX8_take_74 vl_X8_62 vv_X6_copyFrom e37 [vA v34] rfl rfl rfl ⟨Nat.le_of_ble_eq_true rfl, Nat.le_of_ble_eq_true rfl⟩ (c_X6_copyFrom l0 a36 v34 σ v38 σ39 e40) ?_
                refine g_sub [0, 1, 2] (lv' := [(0, vA (some a0)), (1, vI x1), (2, vI x2)]) rfl ?_
                exact t_X8_take_77 O R0 N hn a0 x1 x2 σ39 o h K
          · replace h := (if_neg c5).symm.trans h
            cases h
            exact g_return O K dX8_take_22
theorem c_X8_take (l0 : Launch) (a0 : Nat) (x1 : Int32) (x2 : Int32) (r3 : Option Nat) (σ : Dt) (r : Unit) (σ' : Dt) (h : f_X8_take a0 x1 x2 r3 σ = some (r, σ')) : Ctr l0 yX8_take cX8_take 4 (none) false 3 101 0 0 [vA (some a0), vI x1, vI x2, vA r3] SX σ SX σ' (none) := ctr_of (by decide) (Nat.le_of_ble_eq_true rfl) (fun M O F R0 N hn => t_X8_take O R0 N hn a0 x1 x2 r3 σ (r, σ') h F)
def f_X11_text_160 (a0 : Nat) (x1 : Int32) (k0 : Int32) (σ : Dt) : Option (Int32 × Dt) := bo (xgr SX 11 0 (some a0) σ) fun v1 => bo (xgr SX 11 3 (some a0) σ) fun v3 => bo (xrc SX 8 v1) fun a5 => bd (f_X8_take a5 x1 k0 v3 σ) fun v7 σ8 => some (k0, σ8)
theorem t_X11_text_160 {M : Mx} {l0 : Launch} (O : Ok M cX11_text yX11_text) (R0 : Rm M l0 11 342 0 0) (N : Ma M = false) (hn : Mn M = 7)  (a0 : Nat) (x1 : Int32) (k0 : Int32) (σ : Dt) (o : (Int32 × Dt)) (h : f_X11_text_160 a0 x1 k0 σ = some o) (K : Fin' M (some .int) 0 0 SX o.2 (some (vI o.1))) : G M 0 0 160 [(0, vA (some a0)), (1, vI x1)] [vI k0] SX σ := by
  unfold f_X11_text_160 at h
  refine g_istore (lv' := [(6, vI k0), (0, vA (some a0)), (1, vI x1)]) O dX11_text_160 7 hn (by decide) rfl ?_
  refine g_aload_n O dX11_text_162 rfl 1 rfl ?_
  obtain ⟨v1, e2, h⟩ := bo_some h
  refine g_getR O dX11_text_163 fl_X11_12 rfl e2 ?_
  refine g_iload_n O dX11_text_166 rfl 2 rfl ?_
  refine g_iload O dX11_text_167 0 rfl ?_
  refine g_aload_n O dX11_text_169 rfl 1 rfl ?_
  obtain ⟨v3, e4, h⟩ := bo_some h
  refine g_getR O dX11_text_170 fl_X11_27 rfl e4 ?_
  obtain ⟨a5, e6, h⟩ := bo_some h
  obtain ⟨v7, σ8, e9, h⟩ := bd_some h
  refine g_cV0 O R0 N dX11_text_173 vl_X11_101 vv_X8_take e6 [vI x1, vI k0, vA v3] rfl rfl rfl ⟨Nat.le_of_ble_eq_true rfl, Nat.le_of_ble_eq_true rfl⟩ (c_X8_take l0 a5 x1 k0 v3 σ v7 σ8 e9) ?_
  refine g_iload O dX11_text_176 0 rfl ?_
  cases h
  exact g_ireturn O K dX11_text_178
def f_X11_text_93 (a0 : Nat) (x1 : Int32) (x2 : Int32) (x3 : Int32) (x4 : Int32) (x5 : Int32) (σ : Dt) : Option (Int32 × Dt) := bo (xgr SX 11 3 (some a0) σ) fun v1 => bo (xgr SX 11 0 (some a0) σ) fun v3 => bo (xgr SX 8 0 v3 σ) fun v5 => bo (xrc SX 5 v1) fun a7 => bd (f_X5_read a7 v5 x3 x1 σ) fun v9 σ10 => bo (xgr SX 11 0 (some a0) σ10) fun v12 => bo (xgr SX 11 3 (some a0) σ10) fun v14 => bo (xgi SX 5 3 v14 σ10) fun v16 => bo (xpi SX 8 2 v12 v16 σ10) fun σ18 => bo (xgr SX 11 0 (some a0) σ18) fun v20 => bo (xgr SX 11 3 (some a0) σ18) fun v22 => bo (xgi SX 5 4 v22 σ18) fun v24 => bo (xpi SX 8 3 v20 v24 σ18) fun σ26 => bo (xgr SX 11 3 (some a0) σ26) fun v28 => bo (xgi SX 5 3 v28 σ26) fun v30 => if v30 = 0 then if x5 = 0 then f_X11_text_160 a0 x1 x2 σ26 else f_X11_text_160 a0 x1 x4 σ26 else some ((-1 : Int32), σ26)
theorem t_X11_text_93 {M : Mx} {l0 : Launch} (O : Ok M cX11_text yX11_text) (R0 : Rm M l0 11 342 0 0) (N : Ma M = false) (hn : Mn M = 7)  (a0 : Nat) (x1 : Int32) (x2 : Int32) (x3 : Int32) (x4 : Int32) (x5 : Int32) (σ : Dt) (o : (Int32 × Dt)) (h : f_X11_text_93 a0 x1 x2 x3 x4 x5 σ = some o) (K : Fin' M (some .int) 0 0 SX o.2 (some (vI o.1))) : G M 0 0 93 [(0, vA (some a0)), (1, vI x1), (2, vI x2), (3, vI x3), (4, vI x4), (5, vI x5)] [] SX σ := by
  unfold f_X11_text_93 at h
  refine g_aload_n O dX11_text_93 rfl 0 rfl ?_
  obtain ⟨v1, e2, h⟩ := bo_some h
  refine g_getR O dX11_text_94 fl_X11_27 rfl e2 ?_
  refine g_aload_n O dX11_text_97 rfl 0 rfl ?_
  obtain ⟨v3, e4, h⟩ := bo_some h
  refine g_getR O dX11_text_98 fl_X11_12 rfl e4 ?_
  obtain ⟨v5, e6, h⟩ := bo_some h
  refine g_getR O dX11_text_101 fl_X11_91 rfl e6 ?_
  refine g_iload_n O dX11_text_104 rfl 3 rfl ?_
  refine g_iload_n O dX11_text_105 rfl 1 rfl ?_
  obtain ⟨a7, e8, h⟩ := bo_some h
  obtain ⟨v9, σ10, e11, h⟩ := bd_some h
  refine g_cV0 O R0 N dX11_text_106 vl_X11_95 vv_X5_read e8 [vA v5, vI x3, vI x1] rfl rfl rfl ⟨Nat.le_of_ble_eq_true rfl, Nat.le_of_ble_eq_true rfl⟩ (c_X5_read l0 a7 v5 x3 x1 σ v9 σ10 e11) ?_
  refine g_aload_n O dX11_text_109 rfl 0 rfl ?_
  obtain ⟨v12, e13, h⟩ := bo_some h
  refine g_getR O dX11_text_110 fl_X11_12 rfl e13 ?_
  refine g_aload_n O dX11_text_113 rfl 0 rfl ?_
  obtain ⟨v14, e15, h⟩ := bo_some h
  refine g_getR O dX11_text_114 fl_X11_27 rfl e15 ?_
  obtain ⟨v16, e17, h⟩ := bo_some h
  refine g_getI O dX11_text_117 fl_X11_99 rfl e17 ?_
  obtain ⟨σ18, e19, h⟩ := bo_some h
  refine g_putI O dX11_text_120 fl_X11_81 (Or.inl rfl) rfl e19 ?_
  refine g_aload_n O dX11_text_123 rfl 0 rfl ?_
  obtain ⟨v20, e21, h⟩ := bo_some h
  refine g_getR O dX11_text_124 fl_X11_12 rfl e21 ?_
  refine g_aload_n O dX11_text_127 rfl 0 rfl ?_
  obtain ⟨v22, e23, h⟩ := bo_some h
  refine g_getR O dX11_text_128 fl_X11_27 rfl e23 ?_
  obtain ⟨v24, e25, h⟩ := bo_some h
  refine g_getI O dX11_text_131 fl_X11_100 rfl e25 ?_
  obtain ⟨σ26, e27, h⟩ := bo_some h
  refine g_putI O dX11_text_134 fl_X11_84 (Or.inl rfl) rfl e27 ?_
  refine g_aload_n O dX11_text_137 rfl 0 rfl ?_
  obtain ⟨v28, e29, h⟩ := bo_some h
  refine g_getR O dX11_text_138 fl_X11_27 rfl e29 ?_
  obtain ⟨v30, e31, h⟩ := bo_some h
  refine g_getI O dX11_text_141 fl_X11_99 rfl e31 ?_
  refine g_if_eq O dX11_text_144 rfl (fun c32 => ?_) (fun c32 => ?_)
  · replace h := (if_pos c32).symm.trans h
    refine g_iload O dX11_text_149 5 rfl ?_
    refine g_if_eq O dX11_text_151 rfl (fun c33 => ?_) (fun c33 => ?_)
    · replace h := (if_pos c33).symm.trans h
      refine g_iload_n O dX11_text_159 rfl 2 rfl ?_
      refine g_sub [0, 1] (lv' := [(0, vA (some a0)), (1, vI x1)]) rfl ?_
      exact t_X11_text_160 O R0 N hn a0 x1 x2 σ26 o h K
    · replace h := (if_neg c33).symm.trans h
      refine g_iload O dX11_text_154 4 rfl ?_
      refine g_goto O dX11_text_156 rfl ?_
      refine g_sub [0, 1] (lv' := [(0, vA (some a0)), (1, vI x1)]) rfl ?_
      exact t_X11_text_160 O R0 N hn a0 x1 x4 σ26 o h K
  · replace h := (if_neg c32).symm.trans h
    refine g_iconst (v := (-1 : Int32)) O dX11_text_147 rfl ?_
    cases h
    exact g_ireturn O K dX11_text_148
def f_X11_text_75 (a0 : Nat) (x1 : Int32) (x2 : Int32) (x3 : Int32) (x4 : Int32) (x5 : Int32) (σ : Dt) : Option (Int32 × Dt) := if x5 = 0 then if x2 < 0 then some ((-2 : Int32), σ) else if x2 < x4 then f_X11_text_93 a0 x1 x2 x3 x4 x5 σ else some ((-2 : Int32), σ) else f_X11_text_93 a0 x1 x2 x3 x4 x5 σ
theorem t_X11_text_75 {M : Mx} {l0 : Launch} (O : Ok M cX11_text yX11_text) (R0 : Rm M l0 11 342 0 0) (N : Ma M = false) (hn : Mn M = 7)  (a0 : Nat) (x1 : Int32) (x2 : Int32) (x3 : Int32) (x4 : Int32) (x5 : Int32) (σ : Dt) (o : (Int32 × Dt)) (h : f_X11_text_75 a0 x1 x2 x3 x4 x5 σ = some o) (K : Fin' M (some .int) 0 0 SX o.2 (some (vI o.1))) : G M 0 0 75 [(0, vA (some a0)), (1, vI x1), (2, vI x2), (3, vI x3), (4, vI x4), (5, vI x5)] [] SX σ := by
  unfold f_X11_text_75 at h
  refine g_iload O dX11_text_75 5 rfl ?_
  refine g_if_ne O dX11_text_77 rfl (fun c1 => ?_) (fun c1 => ?_)
  · replace h := (if_pos c1).symm.trans h
    refine g_iload_n O dX11_text_80 rfl 2 rfl ?_
    refine g_if_lt O dX11_text_81 rfl (fun c2 => ?_) (fun c2 => ?_)
    · replace h := (if_pos c2).symm.trans h
      refine g_bipush (v := (-2 : Int32)) O dX11_text_90 rfl ?_
      cases h
      exact g_ireturn O K dX11_text_92
    · replace h := (if_neg c2).symm.trans h
      refine g_iload_n O dX11_text_84 rfl 2 rfl ?_
      refine g_iload O dX11_text_85 4 rfl ?_
      refine g_icmp_lt O dX11_text_87 rfl (fun c3 => ?_) (fun c3 => ?_)
      · replace h := (if_pos c3).symm.trans h
        exact t_X11_text_93 O R0 N hn a0 x1 x2 x3 x4 x5 σ o h K
      · replace h := (if_neg c3).symm.trans h
        refine g_bipush (v := (-2 : Int32)) O dX11_text_90 rfl ?_
        cases h
        exact g_ireturn O K dX11_text_92
  · replace h := (if_neg c1).symm.trans h
    exact t_X11_text_93 O R0 N hn a0 x1 x2 x3 x4 x5 σ o h K
def f_X11_text_52 (a0 : Nat) (x1 : Int32) (x2 : Int32) (x3 : Int32) (x4 : Int32) (k0 : Int32) (σ : Dt) : Option (Int32 × Dt) := if x4 = (-2 : Int32) then some ((-2 : Int32), σ) else if k0 = 0 then f_X11_text_75 a0 x1 x2 x3 x4 k0 σ else if x4 < (2 : Int32) then f_X11_text_75 a0 x1 x2 x3 x4 k0 σ else some ((-2 : Int32), σ)
theorem t_X11_text_52 {M : Mx} {l0 : Launch} (O : Ok M cX11_text yX11_text) (R0 : Rm M l0 11 342 0 0) (N : Ma M = false) (hn : Mn M = 7)  (a0 : Nat) (x1 : Int32) (x2 : Int32) (x3 : Int32) (x4 : Int32) (k0 : Int32) (σ : Dt) (o : (Int32 × Dt)) (h : f_X11_text_52 a0 x1 x2 x3 x4 k0 σ = some o) (K : Fin' M (some .int) 0 0 SX o.2 (some (vI o.1))) : G M 0 0 52 [(0, vA (some a0)), (1, vI x1), (2, vI x2), (3, vI x3), (4, vI x4)] [vI k0] SX σ := by
  unfold f_X11_text_52 at h
  refine g_istore (lv' := [(5, vI k0), (0, vA (some a0)), (1, vI x1), (2, vI x2), (3, vI x3), (4, vI x4)]) O dX11_text_52 7 hn (by decide) rfl ?_
  refine g_iload O dX11_text_54 5 rfl ?_
  refine g_bipush (v := (-2 : Int32)) O dX11_text_56 rfl ?_
  refine g_icmp_eq O dX11_text_58 rfl (fun c1 => ?_) (fun c1 => ?_)
  · replace h := (if_pos c1).symm.trans h
    refine g_bipush (v := (-2 : Int32)) O dX11_text_72 rfl ?_
    cases h
    exact g_ireturn O K dX11_text_74
  · replace h := (if_neg c1).symm.trans h
    refine g_iload O dX11_text_61 0 rfl ?_
    refine g_if_eq O dX11_text_63 rfl (fun c2 => ?_) (fun c2 => ?_)
    · replace h := (if_pos c2).symm.trans h
      refine g_sub [1, 2, 3, 4, 5, 0] (lv' := [(0, vA (some a0)), (1, vI x1), (2, vI x2), (3, vI x3), (4, vI x4), (5, vI k0)]) rfl ?_
      exact t_X11_text_75 O R0 N hn a0 x1 x2 x3 x4 k0 σ o h K
    · replace h := (if_neg c2).symm.trans h
      refine g_iload O dX11_text_66 5 rfl ?_
      refine g_iconst (v := (2 : Int32)) O dX11_text_68 rfl ?_
      refine g_icmp_lt O dX11_text_69 rfl (fun c3 => ?_) (fun c3 => ?_)
      · replace h := (if_pos c3).symm.trans h
        refine g_sub [1, 2, 3, 4, 5, 0] (lv' := [(0, vA (some a0)), (1, vI x1), (2, vI x2), (3, vI x3), (4, vI x4), (5, vI k0)]) rfl ?_
        exact t_X11_text_75 O R0 N hn a0 x1 x2 x3 x4 k0 σ o h K
      · replace h := (if_neg c3).symm.trans h
        refine g_bipush (v := (-2 : Int32)) O dX11_text_72 rfl ?_
        cases h
        exact g_ireturn O K dX11_text_74
def f_X11_text (a0 : Nat) (x1 : Int32) (x2 : Int32) (σ : Dt) : Option (Int32 × Dt) := bo (xgr SX 11 0 (some a0) σ) fun v1 => bo (xgi SX 8 1 v1 σ) fun v3 => bo (xgr SX 11 0 (some a0) σ) fun v5 => bo (xpi SX 8 1 v5 (0 : Int32) σ) fun σ7 => bo (xgr SX 11 0 (some a0) σ7) fun v9 => bo (xpi SX 8 2 v9 (0 : Int32) σ7) fun σ11 => bo (xgr SX 11 0 (some a0) σ11) fun v13 => bo (xpi SX 8 3 v13 (-1 : Int32) σ11) fun σ15 => bo (xgr SX 11 0 (some a0) σ15) fun v17 => bo (xrc SX 8 v17) fun a19 => bo (f_X8_howMany a19 x1 σ15) fun v21 => if x2 = (-1 : Int32) then f_X11_text_52 a0 x1 x2 v3 v21 (1 : Int32) σ15 else f_X11_text_52 a0 x1 x2 v3 v21 (0 : Int32) σ15
theorem t_X11_text {M : Mx} {l0 : Launch} (O : Ok M cX11_text yX11_text) (R0 : Rm M l0 11 342 0 0) (N : Ma M = false) (hn : Mn M = 7) (a0 : Nat) (x1 : Int32) (x2 : Int32) (σ : Dt) (o : (Int32 × Dt)) (h : f_X11_text a0 x1 x2 σ = some o) (K : Fin' M (some .int) 0 0 SX o.2 (some (vI o.1))) : G M 0 0 0 [(0, vA (some a0)), (1, vI x1), (2, vI x2)] [] SX σ := by
  unfold f_X11_text at h
  refine g_aload_n O dX11_text_0 rfl 0 rfl ?_
  obtain ⟨v1, e2, h⟩ := bo_some h
  refine g_getR O dX11_text_1 fl_X11_12 rfl e2 ?_
  obtain ⟨v3, e4, h⟩ := bo_some h
  refine g_getI O dX11_text_4 fl_X11_73 rfl e4 ?_
  refine g_istore_n (lv' := [(3, vI v3), (0, vA (some a0)), (1, vI x1), (2, vI x2)]) O dX11_text_7 rfl 7 hn (by decide) rfl ?_
  refine g_aload_n O dX11_text_8 rfl 1 rfl ?_
  obtain ⟨v5, e6, h⟩ := bo_some h
  refine g_getR O dX11_text_9 fl_X11_12 rfl e6 ?_
  refine g_iconst (v := (0 : Int32)) O dX11_text_12 rfl ?_
  obtain ⟨σ7, e8, h⟩ := bo_some h
  refine g_putI O dX11_text_13 fl_X11_73 (Or.inl rfl) rfl e8 ?_
  refine g_aload_n O dX11_text_16 rfl 1 rfl ?_
  obtain ⟨v9, e10, h⟩ := bo_some h
  refine g_getR O dX11_text_17 fl_X11_12 rfl e10 ?_
  refine g_iconst (v := (0 : Int32)) O dX11_text_20 rfl ?_
  obtain ⟨σ11, e12, h⟩ := bo_some h
  refine g_putI O dX11_text_21 fl_X11_81 (Or.inl rfl) rfl e12 ?_
  refine g_aload_n O dX11_text_24 rfl 1 rfl ?_
  obtain ⟨v13, e14, h⟩ := bo_some h
  refine g_getR O dX11_text_25 fl_X11_12 rfl e14 ?_
  refine g_iconst (v := (-1 : Int32)) O dX11_text_28 rfl ?_
  obtain ⟨σ15, e16, h⟩ := bo_some h
  refine g_putI O dX11_text_29 fl_X11_84 (Or.inl rfl) rfl e16 ?_
  refine g_aload_n O dX11_text_32 rfl 1 rfl ?_
  obtain ⟨v17, e18, h⟩ := bo_some h
  refine g_getR O dX11_text_33 fl_X11_12 rfl e18 ?_
  refine g_iload_n O dX11_text_36 rfl 2 rfl ?_
  obtain ⟨a19, e20, h⟩ := bo_some h
  obtain ⟨v21, e22, h⟩ := bo_some h
  refine g_cV1 O R0 N dX11_text_37 vl_X11_87 vv_X8_howMany e20 [vI x1] rfl rfl rfl ⟨Nat.le_of_ble_eq_true rfl, Nat.le_of_ble_eq_true rfl⟩ (c_X8_howMany l0 a19 x1 σ15 v21 e22) ?_
  refine g_istore (lv' := [(4, vI v21), (3, vI v3), (0, vA (some a0)), (1, vI x1), (2, vI x2)]) O dX11_text_40 7 hn (by decide) rfl ?_
  refine g_iload_n O dX11_text_42 rfl 4 rfl ?_
  refine g_iconst (v := (-1 : Int32)) O dX11_text_43 rfl ?_
  refine g_icmp_ne O dX11_text_44 rfl (fun c23 => ?_) (fun c23 => ?_)
  · replace h := (if_pos c23).symm.trans h
    refine g_iconst (v := (1 : Int32)) O dX11_text_47 rfl ?_
    refine g_goto O dX11_text_48 rfl ?_
    refine g_sub [2, 3, 4, 1, 0] (lv' := [(0, vA (some a0)), (1, vI x1), (2, vI x2), (3, vI v3), (4, vI v21)]) rfl ?_
    exact t_X11_text_52 O R0 N hn a0 x1 x2 v3 v21 (1 : Int32) σ15 o h K
  · replace h := (if_neg c23).symm.trans h
    refine g_iconst (v := (0 : Int32)) O dX11_text_51 rfl ?_
    refine g_sub [2, 3, 4, 1, 0] (lv' := [(0, vA (some a0)), (1, vI x1), (2, vI x2), (3, vI v3), (4, vI v21)]) rfl ?_
    exact t_X11_text_52 O R0 N hn a0 x1 x2 v3 v21 (0 : Int32) σ15 o h K
theorem c_X11_text (l0 : Launch) (a0 : Nat) (x1 : Int32) (x2 : Int32) (σ : Dt) (r : Int32) (σ' : Dt) (h : f_X11_text a0 x1 x2 σ = some (r, σ')) : Ctr l0 yX11_text cX11_text 7 (some .int) false 11 342 0 0 [vA (some a0), vI x1, vI x2] SX σ SX σ' (some (vI r)) := ctr_of (by decide) (Nat.le_of_ble_eq_true rfl) (fun M O F R0 N hn => t_X11_text O R0 N hn a0 x1 x2 σ (r, σ') h F)
def f_X11_fault (a0 : Nat) (x1 : Int32) (σ : Dt) : Option Int32 := if x1 = 0 then bo (xgr SX 11 0 (some a0) σ) fun v2 => bo (xgi SX 8 2 v2 σ) fun v4 => some v4 else if x1 = (1 : Int32) then bo (xgr SX 11 0 (some a0) σ) fun v7 => bo (xgi SX 8 3 v7 σ) fun v9 => some v9 else some (-1 : Int32)
theorem t_X11_fault {M : Mx} {l0 : Launch} (O : Ok M cX11_fault yX11_fault) (R0 : Rm M l0 2 80 0 0) (N : Ma M = false) (hn : Mn M = 2) (a0 : Nat) (x1 : Int32) (σ : Dt) (o : Int32) (h : f_X11_fault a0 x1 σ = some o) (K : Fin' M (some .int) 0 0 SX σ (some (vI o))) : G M 0 0 0 [(0, vA (some a0)), (1, vI x1)] [] SX σ := by
  unfold f_X11_fault at h
  refine g_iload_n O dX11_fault_0 rfl 1 rfl ?_
  refine g_if_ne O dX11_fault_1 rfl (fun c1 => ?_) (fun c1 => ?_)
  · replace h := (if_pos c1).symm.trans h
    refine g_aload_n O dX11_fault_4 rfl 0 rfl ?_
    obtain ⟨v2, e3, h⟩ := bo_some h
    refine g_getR O dX11_fault_5 fl_X11_12 rfl e3 ?_
    obtain ⟨v4, e5, h⟩ := bo_some h
    refine g_getI O dX11_fault_8 fl_X11_81 rfl e5 ?_
    cases h
    exact g_ireturn O K dX11_fault_11
  · replace h := (if_neg c1).symm.trans h
    refine g_iload_n O dX11_fault_12 rfl 1 rfl ?_
    refine g_iconst (v := (1 : Int32)) O dX11_fault_13 rfl ?_
    refine g_icmp_ne O dX11_fault_14 rfl (fun c6 => ?_) (fun c6 => ?_)
    · replace h := (if_pos c6).symm.trans h
      refine g_aload_n O dX11_fault_17 rfl 0 rfl ?_
      obtain ⟨v7, e8, h⟩ := bo_some h
      refine g_getR O dX11_fault_18 fl_X11_12 rfl e8 ?_
      obtain ⟨v9, e10, h⟩ := bo_some h
      refine g_getI O dX11_fault_21 fl_X11_84 rfl e10 ?_
      refine g_goto O dX11_fault_24 rfl ?_
      cases h
      exact g_ireturn O K dX11_fault_28
    · replace h := (if_neg c6).symm.trans h
      refine g_iconst (v := (-1 : Int32)) O dX11_fault_27 rfl ?_
      cases h
      exact g_ireturn O K dX11_fault_28
theorem c_X11_fault (l0 : Launch) (a0 : Nat) (x1 : Int32) (σ : Dt) (r : Int32) (h : f_X11_fault a0 x1 σ = some r) : Ctr l0 yX11_fault cX11_fault 2 (some .int) false 2 80 0 0 [vA (some a0), vI x1] SX σ SX σ (some (vI r)) := ctr_of (by decide) (Nat.le_of_ble_eq_true rfl) (fun M O F R0 N hn => t_X11_fault O R0 N hn a0 x1 σ r h F)
def f_X8_has_22  (σ : Dt) : Option Int32 := some (0 : Int32)
theorem t_X8_has_22 {M : Mx} {l0 : Launch} (O : Ok M cX8_has yX8_has) (R0 : Rm M l0 3 101 0 0) (N : Ma M = false) (hn : Mn M = 3)   (σ : Dt) (o : Int32) (h : f_X8_has_22 σ = some o) (K : Fin' M (some .boolean) 0 0 SX σ (some (vI o))) : G M 0 0 22 [] [] SX σ := by
  unfold f_X8_has_22 at h
  refine g_iconst (v := (0 : Int32)) O dX8_has_22 rfl ?_
  cases h
  exact g_zreturn O (by decide) K dX8_has_23
def f_X8_has (a0 : Nat) (x1 : Int32) (x2 : Int32) (σ : Dt) : Option Int32 := if x2 < 0 then f_X8_has_22 σ else if (2 : Int32) ≤ x2 then f_X8_has_22 σ else bo (xrc SX 8 (some a0)) fun a3 => bo (f_X8_howMany a3 x1 σ) fun v5 => if v5 ≤ x2 then f_X8_has_22 σ else some (1 : Int32)
theorem t_X8_has {M : Mx} {l0 : Launch} (O : Ok M cX8_has yX8_has) (R0 : Rm M l0 3 101 0 0) (N : Ma M = false) (hn : Mn M = 3) (a0 : Nat) (x1 : Int32) (x2 : Int32) (σ : Dt) (o : Int32) (h : f_X8_has a0 x1 x2 σ = some o) (K : Fin' M (some .boolean) 0 0 SX σ (some (vI o))) : G M 0 0 0 [(0, vA (some a0)), (1, vI x1), (2, vI x2)] [] SX σ := by
  unfold f_X8_has at h
  refine g_iload_n O dX8_has_0 rfl 2 rfl ?_
  refine g_if_lt O dX8_has_1 rfl (fun c1 => ?_) (fun c1 => ?_)
  · replace h := (if_pos c1).symm.trans h
    refine g_sub [] (lv' := []) rfl ?_
    exact t_X8_has_22 O R0 N hn σ o h K
  · replace h := (if_neg c1).symm.trans h
    refine g_iload_n O dX8_has_4 rfl 2 rfl ?_
    refine g_iconst (v := (2 : Int32)) O dX8_has_5 rfl ?_
    refine g_icmp_ge O dX8_has_6 rfl (fun c2 => ?_) (fun c2 => ?_)
    · replace h := (if_pos c2).symm.trans h
      refine g_sub [] (lv' := []) rfl ?_
      exact t_X8_has_22 O R0 N hn σ o h K
    · replace h := (if_neg c2).symm.trans h
      refine g_iload_n O dX8_has_9 rfl 2 rfl ?_
      refine g_aload_n O dX8_has_10 rfl 0 rfl ?_
      refine g_iload_n O dX8_has_11 rfl 1 rfl ?_
      obtain ⟨a3, e4, h⟩ := bo_some h
      obtain ⟨v5, e6, h⟩ := bo_some h
      refine g_cV1 O R0 N dX8_has_12 vl_X8_65 vv_X8_howMany e4 [vI x1] rfl rfl rfl ⟨Nat.le_of_ble_eq_true rfl, Nat.le_of_ble_eq_true rfl⟩ (c_X8_howMany l0 a3 x1 σ v5 e6) ?_
      refine g_icmp_ge O dX8_has_15 rfl (fun c7 => ?_) (fun c7 => ?_)
      · replace h := (if_pos c7).symm.trans h
        refine g_sub [] (lv' := []) rfl ?_
        exact t_X8_has_22 O R0 N hn σ o h K
      · replace h := (if_neg c7).symm.trans h
        refine g_iconst (v := (1 : Int32)) O dX8_has_18 rfl ?_
        refine g_goto O dX8_has_19 rfl ?_
        cases h
        exact g_zreturn O (by decide) K dX8_has_23
theorem c_X8_has (l0 : Launch) (a0 : Nat) (x1 : Int32) (x2 : Int32) (σ : Dt) (r : Int32) (h : f_X8_has a0 x1 x2 σ = some r) : Ctr l0 yX8_has cX8_has 3 (some .boolean) false 3 101 0 0 [vA (some a0), vI x1, vI x2] SX σ SX σ (some (vI r)) := ctr_of (by decide) (Nat.le_of_ble_eq_true rfl) (fun M O F R0 N hn => t_X8_has O R0 N hn a0 x1 x2 σ r h F)
def f_X8_valleyAt (a0 : Nat) (x1 : Int32) (σ : Dt) : Option (Option Nat) := bo (xrc SX 8 (some a0)) fun a1 => bo (f_X8_has a1 (0 : Int32) x1 σ) fun v3 => if v3 = 0 then some none else bo (xgr SX 8 4 (some a0) σ) fun v6 => bo (xar SX 19 v6 x1 σ) fun v8 => some v8
theorem t_X8_valleyAt {M : Mx} {l0 : Launch} (O : Ok M cX8_valleyAt yX8_valleyAt) (R0 : Rm M l0 4 123 0 0) (N : Ma M = false) (hn : Mn M = 2) (a0 : Nat) (x1 : Int32) (σ : Dt) (o : (Option Nat)) (h : f_X8_valleyAt a0 x1 σ = some o) (K : Fin' M (some (.object "PromiseValley$Valley")) 0 0 SX σ (some (vA o))) : G M 0 0 0 [(0, vA (some a0)), (1, vI x1)] [] SX σ := by
  unfold f_X8_valleyAt at h
  refine g_aload_n O dX8_valleyAt_0 rfl 0 rfl ?_
  refine g_iconst (v := (0 : Int32)) O dX8_valleyAt_1 rfl ?_
  refine g_iload_n O dX8_valleyAt_2 rfl 1 rfl ?_
  obtain ⟨a1, e2, h⟩ := bo_some h
  obtain ⟨v3, e4, h⟩ := bo_some h
  refine g_cV1 O R0 N dX8_valleyAt_3 vl_X8_69 vv_X8_has e2 [vI (0 : Int32), vI x1] rfl rfl rfl ⟨Nat.le_of_ble_eq_true rfl, Nat.le_of_ble_eq_true rfl⟩ (c_X8_has l0 a1 (0 : Int32) x1 σ v3 e4) ?_
  refine g_if_eq O dX8_valleyAt_6 rfl (fun c5 => ?_) (fun c5 => ?_)
  · replace h := (if_pos c5).symm.trans h
    refine g_null O dX8_valleyAt_18 ?_
    cases h
    exact g_areturn O (by first | exact Or.inl ⟨_, rfl⟩ | exact Or.inr ⟨_, rfl⟩) K dX8_valleyAt_19
  · replace h := (if_neg c5).symm.trans h
    refine g_aload_n O dX8_valleyAt_9 rfl 0 rfl ?_
    obtain ⟨v6, e7, h⟩ := bo_some h
    refine g_getR O dX8_valleyAt_10 fl_X8_27 rfl e7 ?_
    refine g_iload_n O dX8_valleyAt_13 rfl 1 rfl ?_
    obtain ⟨v8, e9, h⟩ := bo_some h
    refine g_aaload (kd := 19) O dX8_valleyAt_14 (by decide) (by decide) e9 ?_
    refine g_goto O dX8_valleyAt_15 rfl ?_
    cases h
    exact g_areturn O (by first | exact Or.inl ⟨_, rfl⟩ | exact Or.inr ⟨_, rfl⟩) K dX8_valleyAt_19
theorem c_X8_valleyAt (l0 : Launch) (a0 : Nat) (x1 : Int32) (σ : Dt) (r : (Option Nat)) (h : f_X8_valleyAt a0 x1 σ = some r) : Ctr l0 yX8_valleyAt cX8_valleyAt 2 (some (.object "PromiseValley$Valley")) false 4 123 0 0 [vA (some a0), vI x1] SX σ SX σ (some (vA r)) := ctr_of (by decide) (Nat.le_of_ble_eq_true rfl) (fun M O F R0 N hn => t_X8_valleyAt O R0 N hn a0 x1 σ r h F)
def f_X9_hasFolk_22  (σ : Dt) : Option Int32 := some (0 : Int32)
theorem t_X9_hasFolk_22 {M : Mx} {l0 : Launch} (O : Ok M cX9_hasFolk yX9_hasFolk) (R0 : Rm M l0 2 80 0 0) (N : Ma M = false) (hn : Mn M = 2)   (σ : Dt) (o : Int32) (h : f_X9_hasFolk_22 σ = some o) (K : Fin' M (some .boolean) 0 0 SX σ (some (vI o))) : G M 0 0 22 [] [] SX σ := by
  unfold f_X9_hasFolk_22 at h
  refine g_iconst (v := (0 : Int32)) O dX9_hasFolk_22 rfl ?_
  cases h
  exact g_zreturn O (by decide) K dX9_hasFolk_23
def f_X9_hasFolk (a0 : Nat) (x1 : Int32) (σ : Dt) : Option Int32 := if x1 < 0 then f_X9_hasFolk_22 σ else bo (xgi SX 9 0 (some a0) σ) fun v2 => if v2 ≤ x1 then f_X9_hasFolk_22 σ else if (10 : Int32) ≤ x1 then f_X9_hasFolk_22 σ else some (1 : Int32)
theorem t_X9_hasFolk {M : Mx} {l0 : Launch} (O : Ok M cX9_hasFolk yX9_hasFolk) (R0 : Rm M l0 2 80 0 0) (N : Ma M = false) (hn : Mn M = 2) (a0 : Nat) (x1 : Int32) (σ : Dt) (o : Int32) (h : f_X9_hasFolk a0 x1 σ = some o) (K : Fin' M (some .boolean) 0 0 SX σ (some (vI o))) : G M 0 0 0 [(0, vA (some a0)), (1, vI x1)] [] SX σ := by
  unfold f_X9_hasFolk at h
  refine g_iload_n O dX9_hasFolk_0 rfl 1 rfl ?_
  refine g_if_lt O dX9_hasFolk_1 rfl (fun c1 => ?_) (fun c1 => ?_)
  · replace h := (if_pos c1).symm.trans h
    refine g_sub [] (lv' := []) rfl ?_
    exact t_X9_hasFolk_22 O R0 N hn σ o h K
  · replace h := (if_neg c1).symm.trans h
    refine g_iload_n O dX9_hasFolk_4 rfl 1 rfl ?_
    refine g_aload_n O dX9_hasFolk_5 rfl 0 rfl ?_
    obtain ⟨v2, e3, h⟩ := bo_some h
    refine g_getI O dX9_hasFolk_6 fl_X9_33 rfl e3 ?_
    refine g_icmp_ge O dX9_hasFolk_9 rfl (fun c4 => ?_) (fun c4 => ?_)
    · replace h := (if_pos c4).symm.trans h
      refine g_sub [] (lv' := []) rfl ?_
      exact t_X9_hasFolk_22 O R0 N hn σ o h K
    · replace h := (if_neg c4).symm.trans h
      refine g_iload_n O dX9_hasFolk_12 rfl 1 rfl ?_
      refine g_bipush (v := (10 : Int32)) O dX9_hasFolk_13 rfl ?_
      refine g_icmp_ge O dX9_hasFolk_15 rfl (fun c5 => ?_) (fun c5 => ?_)
      · replace h := (if_pos c5).symm.trans h
        refine g_sub [] (lv' := []) rfl ?_
        exact t_X9_hasFolk_22 O R0 N hn σ o h K
      · replace h := (if_neg c5).symm.trans h
        refine g_iconst (v := (1 : Int32)) O dX9_hasFolk_18 rfl ?_
        refine g_goto O dX9_hasFolk_19 rfl ?_
        cases h
        exact g_zreturn O (by decide) K dX9_hasFolk_23
theorem c_X9_hasFolk (l0 : Launch) (a0 : Nat) (x1 : Int32) (σ : Dt) (r : Int32) (h : f_X9_hasFolk a0 x1 σ = some r) : Ctr l0 yX9_hasFolk cX9_hasFolk 2 (some .boolean) false 2 80 0 0 [vA (some a0), vI x1] SX σ SX σ (some (vI r)) := ctr_of (by decide) (Nat.le_of_ble_eq_true rfl) (fun M O F R0 N hn => t_X9_hasFolk O R0 N hn a0 x1 σ r h F)
def f_X9_hasWork_22  (σ : Dt) : Option Int32 := some (0 : Int32)
theorem t_X9_hasWork_22 {M : Mx} {l0 : Launch} (O : Ok M cX9_hasWork yX9_hasWork) (R0 : Rm M l0 2 80 0 0) (N : Ma M = false) (hn : Mn M = 2)   (σ : Dt) (o : Int32) (h : f_X9_hasWork_22 σ = some o) (K : Fin' M (some .boolean) 0 0 SX σ (some (vI o))) : G M 0 0 22 [] [] SX σ := by
  unfold f_X9_hasWork_22 at h
  refine g_iconst (v := (0 : Int32)) O dX9_hasWork_22 rfl ?_
  cases h
  exact g_zreturn O (by decide) K dX9_hasWork_23
def f_X9_hasWork (a0 : Nat) (x1 : Int32) (σ : Dt) : Option Int32 := if x1 < 0 then f_X9_hasWork_22 σ else bo (xgi SX 9 1 (some a0) σ) fun v2 => if v2 ≤ x1 then f_X9_hasWork_22 σ else if (6 : Int32) ≤ x1 then f_X9_hasWork_22 σ else some (1 : Int32)
theorem t_X9_hasWork {M : Mx} {l0 : Launch} (O : Ok M cX9_hasWork yX9_hasWork) (R0 : Rm M l0 2 80 0 0) (N : Ma M = false) (hn : Mn M = 2) (a0 : Nat) (x1 : Int32) (σ : Dt) (o : Int32) (h : f_X9_hasWork a0 x1 σ = some o) (K : Fin' M (some .boolean) 0 0 SX σ (some (vI o))) : G M 0 0 0 [(0, vA (some a0)), (1, vI x1)] [] SX σ := by
  unfold f_X9_hasWork at h
  refine g_iload_n O dX9_hasWork_0 rfl 1 rfl ?_
  refine g_if_lt O dX9_hasWork_1 rfl (fun c1 => ?_) (fun c1 => ?_)
  · replace h := (if_pos c1).symm.trans h
    refine g_sub [] (lv' := []) rfl ?_
    exact t_X9_hasWork_22 O R0 N hn σ o h K
  · replace h := (if_neg c1).symm.trans h
    refine g_iload_n O dX9_hasWork_4 rfl 1 rfl ?_
    refine g_aload_n O dX9_hasWork_5 rfl 0 rfl ?_
    obtain ⟨v2, e3, h⟩ := bo_some h
    refine g_getI O dX9_hasWork_6 fl_X9_37 rfl e3 ?_
    refine g_icmp_ge O dX9_hasWork_9 rfl (fun c4 => ?_) (fun c4 => ?_)
    · replace h := (if_pos c4).symm.trans h
      refine g_sub [] (lv' := []) rfl ?_
      exact t_X9_hasWork_22 O R0 N hn σ o h K
    · replace h := (if_neg c4).symm.trans h
      refine g_iload_n O dX9_hasWork_12 rfl 1 rfl ?_
      refine g_bipush (v := (6 : Int32)) O dX9_hasWork_13 rfl ?_
      refine g_icmp_ge O dX9_hasWork_15 rfl (fun c5 => ?_) (fun c5 => ?_)
      · replace h := (if_pos c5).symm.trans h
        refine g_sub [] (lv' := []) rfl ?_
        exact t_X9_hasWork_22 O R0 N hn σ o h K
      · replace h := (if_neg c5).symm.trans h
        refine g_iconst (v := (1 : Int32)) O dX9_hasWork_18 rfl ?_
        refine g_goto O dX9_hasWork_19 rfl ?_
        cases h
        exact g_zreturn O (by decide) K dX9_hasWork_23
theorem c_X9_hasWork (l0 : Launch) (a0 : Nat) (x1 : Int32) (σ : Dt) (r : Int32) (h : f_X9_hasWork a0 x1 σ = some r) : Ctr l0 yX9_hasWork cX9_hasWork 2 (some .boolean) false 2 80 0 0 [vA (some a0), vI x1] SX σ SX σ (some (vI r)) := ctr_of (by decide) (Nat.le_of_ble_eq_true rfl) (fun M O F R0 N hn => t_X9_hasWork O R0 N hn a0 x1 σ r h F)
def f_X9_look (a0 : Nat) (x1 : Int32) (σ : Dt) : Option Int32 := if x1 = 0 then bo (xgi SX 9 0 (some a0) σ) fun v2 => some v2 else if x1 = (1 : Int32) then bo (xgi SX 9 1 (some a0) σ) fun v5 => some v5 else if x1 = (2 : Int32) then bo (xgi SX 9 2 (some a0) σ) fun v8 => some v8 else bo (xrc SX 9 (some a0)) fun a10 => bo (f_X9_hasFolk a10 (x1 - (10 : Int32)) σ) fun v12 => if v12 = 0 then bo (xrc SX 9 (some a0)) fun a15 => bo (f_X9_hasFolk a15 (x1 - (20 : Int32)) σ) fun v17 => if v17 = 0 then bo (xrc SX 9 (some a0)) fun a20 => bo (f_X9_hasFolk a20 (x1 - (30 : Int32)) σ) fun v22 => if v22 = 0 then bo (xrc SX 9 (some a0)) fun a25 => bo (f_X9_hasFolk a25 (x1 - (40 : Int32)) σ) fun v27 => if v27 = 0 then bo (xrc SX 9 (some a0)) fun a30 => bo (f_X9_hasWork a30 (x1 - (50 : Int32)) σ) fun v32 => if v32 = 0 then bo (xrc SX 9 (some a0)) fun a35 => bo (f_X9_hasWork a35 (x1 - (60 : Int32)) σ) fun v37 => if v37 = 0 then some (-1 : Int32) else bo (xgr SX 9 9 (some a0) σ) fun v40 => bo (xai SX v40 (x1 - (60 : Int32)) σ) fun v42 => some v42 else bo (xgr SX 9 8 (some a0) σ) fun v44 => bo (xai SX v44 (x1 - (50 : Int32)) σ) fun v46 => some v46 else bo (xgr SX 9 6 (some a0) σ) fun v48 => bo (xai SX v48 (x1 - (40 : Int32)) σ) fun v50 => some v50 else bo (xgr SX 9 5 (some a0) σ) fun v52 => bo (xai SX v52 (x1 - (30 : Int32)) σ) fun v54 => some v54 else bo (xgr SX 9 4 (some a0) σ) fun v56 => bo (xai SX v56 (x1 - (20 : Int32)) σ) fun v58 => some v58 else bo (xgr SX 9 3 (some a0) σ) fun v60 => bo (xai SX v60 (x1 - (10 : Int32)) σ) fun v62 => some v62
theorem t_X9_look {M : Mx} {l0 : Launch} (O : Ok M cX9_look yX9_look) (R0 : Rm M l0 3 101 0 0) (N : Ma M = false) (hn : Mn M = 2) (a0 : Nat) (x1 : Int32) (σ : Dt) (o : Int32) (h : f_X9_look a0 x1 σ = some o) (K : Fin' M (some .int) 0 0 SX σ (some (vI o))) : G M 0 0 0 [(0, vA (some a0)), (1, vI x1)] [] SX σ := by
  unfold f_X9_look at h
  refine g_iload_n O dX9_look_0 rfl 1 rfl ?_
  refine g_if_ne O dX9_look_1 rfl (fun c1 => ?_) (fun c1 => ?_)
  · replace h := (if_pos c1).symm.trans h
    refine g_aload_n O dX9_look_4 rfl 0 rfl ?_
    obtain ⟨v2, e3, h⟩ := bo_some h
    refine g_getI O dX9_look_5 fl_X9_33 rfl e3 ?_
    cases h
    exact g_ireturn O K dX9_look_8
  · replace h := (if_neg c1).symm.trans h
    refine g_iload_n O dX9_look_9 rfl 1 rfl ?_
    refine g_iconst (v := (1 : Int32)) O dX9_look_10 rfl ?_
    refine g_icmp_ne O dX9_look_11 rfl (fun c4 => ?_) (fun c4 => ?_)
    · replace h := (if_pos c4).symm.trans h
      refine g_aload_n O dX9_look_14 rfl 0 rfl ?_
      obtain ⟨v5, e6, h⟩ := bo_some h
      refine g_getI O dX9_look_15 fl_X9_37 rfl e6 ?_
      cases h
      exact g_ireturn O K dX9_look_18
    · replace h := (if_neg c4).symm.trans h
      refine g_iload_n O dX9_look_19 rfl 1 rfl ?_
      refine g_iconst (v := (2 : Int32)) O dX9_look_20 rfl ?_
      refine g_icmp_ne O dX9_look_21 rfl (fun c7 => ?_) (fun c7 => ?_)
      · replace h := (if_pos c7).symm.trans h
        refine g_aload_n O dX9_look_24 rfl 0 rfl ?_
        obtain ⟨v8, e9, h⟩ := bo_some h
        refine g_getI O dX9_look_25 fl_X9_40 rfl e9 ?_
        cases h
        exact g_ireturn O K dX9_look_28
      · replace h := (if_neg c7).symm.trans h
        refine g_aload_n O dX9_look_29 rfl 0 rfl ?_
        refine g_iload_n O dX9_look_30 rfl 1 rfl ?_
        refine g_bipush (v := (10 : Int32)) O dX9_look_31 rfl ?_
        refine g_isub O dX9_look_33 ?_
        obtain ⟨a10, e11, h⟩ := bo_some h
        obtain ⟨v12, e13, h⟩ := bo_some h
        refine g_cV1 O R0 N dX9_look_34 vl_X9_49 vv_X9_hasFolk e11 [vI (x1 - (10 : Int32))] rfl rfl rfl ⟨Nat.le_of_ble_eq_true rfl, Nat.le_of_ble_eq_true rfl⟩ (c_X9_hasFolk l0 a10 (x1 - (10 : Int32)) σ v12 e13) ?_
        refine g_if_eq O dX9_look_37 rfl (fun c14 => ?_) (fun c14 => ?_)
        · replace h := (if_pos c14).symm.trans h
          refine g_aload_n O dX9_look_50 rfl 0 rfl ?_
          refine g_iload_n O dX9_look_51 rfl 1 rfl ?_
          refine g_bipush (v := (20 : Int32)) O dX9_look_52 rfl ?_
          refine g_isub O dX9_look_54 ?_
          obtain ⟨a15, e16, h⟩ := bo_some h
          obtain ⟨v17, e18, h⟩ := bo_some h
          refine g_cV1 O R0 N dX9_look_55 vl_X9_49 vv_X9_hasFolk e16 [vI (x1 - (20 : Int32))] rfl rfl rfl ⟨Nat.le_of_ble_eq_true rfl, Nat.le_of_ble_eq_true rfl⟩ (c_X9_hasFolk l0 a15 (x1 - (20 : Int32)) σ v17 e18) ?_
          refine g_if_eq O dX9_look_58 rfl (fun c19 => ?_) (fun c19 => ?_)
          · replace h := (if_pos c19).symm.trans h
            refine g_aload_n O dX9_look_71 rfl 0 rfl ?_
            refine g_iload_n O dX9_look_72 rfl 1 rfl ?_
            refine g_bipush (v := (30 : Int32)) O dX9_look_73 rfl ?_
            refine g_isub O dX9_look_75 ?_
            obtain ⟨a20, e21, h⟩ := bo_some h
            obtain ⟨v22, e23, h⟩ := bo_some h
            refine g_cV1 O R0 N dX9_look_76 vl_X9_49 vv_X9_hasFolk e21 [vI (x1 - (30 : Int32))] rfl rfl rfl ⟨Nat.le_of_ble_eq_true rfl, Nat.le_of_ble_eq_true rfl⟩ (c_X9_hasFolk l0 a20 (x1 - (30 : Int32)) σ v22 e23) ?_
            refine g_if_eq O dX9_look_79 rfl (fun c24 => ?_) (fun c24 => ?_)
            · replace h := (if_pos c24).symm.trans h
              refine g_aload_n O dX9_look_92 rfl 0 rfl ?_
              refine g_iload_n O dX9_look_93 rfl 1 rfl ?_
              refine g_bipush (v := (40 : Int32)) O dX9_look_94 rfl ?_
              refine g_isub O dX9_look_96 ?_
              obtain ⟨a25, e26, h⟩ := bo_some h
              obtain ⟨v27, e28, h⟩ := bo_some h
              refine g_cV1 O R0 N dX9_look_97 vl_X9_49 vv_X9_hasFolk e26 [vI (x1 - (40 : Int32))] rfl rfl rfl ⟨Nat.le_of_ble_eq_true rfl, Nat.le_of_ble_eq_true rfl⟩ (c_X9_hasFolk l0 a25 (x1 - (40 : Int32)) σ v27 e28) ?_
              refine g_if_eq O dX9_look_100 rfl (fun c29 => ?_) (fun c29 => ?_)
              · replace h := (if_pos c29).symm.trans h
                refine g_aload_n O dX9_look_113 rfl 0 rfl ?_
                refine g_iload_n O dX9_look_114 rfl 1 rfl ?_
                refine g_bipush (v := (50 : Int32)) O dX9_look_115 rfl ?_
                refine g_isub O dX9_look_117 ?_
                obtain ⟨a30, e31, h⟩ := bo_some h
                obtain ⟨v32, e33, h⟩ := bo_some h
                refine g_cV1 O R0 N dX9_look_118 vl_X9_56 vv_X9_hasWork e31 [vI (x1 - (50 : Int32))] rfl rfl rfl ⟨Nat.le_of_ble_eq_true rfl, Nat.le_of_ble_eq_true rfl⟩ (c_X9_hasWork l0 a30 (x1 - (50 : Int32)) σ v32 e33) ?_
                refine g_if_eq O dX9_look_121 rfl (fun c34 => ?_) (fun c34 => ?_)
                · replace h := (if_pos c34).symm.trans h
                  refine g_aload_n O dX9_look_134 rfl 0 rfl ?_
                  refine g_iload_n O dX9_look_135 rfl 1 rfl ?_
                  refine g_bipush (v := (60 : Int32)) O dX9_look_136 rfl ?_
                  refine g_isub O dX9_look_138 ?_
                  obtain ⟨a35, e36, h⟩ := bo_some h
                  obtain ⟨v37, e38, h⟩ := bo_some h
                  refine g_cV1 O R0 N dX9_look_139 vl_X9_56 vv_X9_hasWork e36 [vI (x1 - (60 : Int32))] rfl rfl rfl ⟨Nat.le_of_ble_eq_true rfl, Nat.le_of_ble_eq_true rfl⟩ (c_X9_hasWork l0 a35 (x1 - (60 : Int32)) σ v37 e38) ?_
                  refine g_if_eq O dX9_look_142 rfl (fun c39 => ?_) (fun c39 => ?_)
                  · replace h := (if_pos c39).symm.trans h
                    refine g_iconst (v := (-1 : Int32)) O dX9_look_157 rfl ?_
                    cases h
                    exact g_ireturn O K dX9_look_158
                  · replace h := (if_neg c39).symm.trans h
                    refine g_aload_n O dX9_look_145 rfl 0 rfl ?_
                    obtain ⟨v40, e41, h⟩ := bo_some h
                    refine g_getR O dX9_look_146 fl_X9_30 rfl e41 ?_
                    refine g_iload_n O dX9_look_149 rfl 1 rfl ?_
                    refine g_bipush (v := (60 : Int32)) O dX9_look_150 rfl ?_
                    refine g_isub O dX9_look_152 ?_
                    obtain ⟨v42, e43, h⟩ := bo_some h
                    refine g_iaload O dX9_look_153 e43 ?_
                    refine g_goto O dX9_look_154 rfl ?_
                    cases h
                    exact g_ireturn O K dX9_look_158
                · replace h := (if_neg c34).symm.trans h
                  refine g_aload_n O dX9_look_124 rfl 0 rfl ?_
                  obtain ⟨v44, e45, h⟩ := bo_some h
                  refine g_getR O dX9_look_125 fl_X9_27 rfl e45 ?_
                  refine g_iload_n O dX9_look_128 rfl 1 rfl ?_
                  refine g_bipush (v := (50 : Int32)) O dX9_look_129 rfl ?_
                  refine g_isub O dX9_look_131 ?_
                  obtain ⟨v46, e47, h⟩ := bo_some h
                  refine g_iaload O dX9_look_132 e47 ?_
                  cases h
                  exact g_ireturn O K dX9_look_133
              · replace h := (if_neg c29).symm.trans h
                refine g_aload_n O dX9_look_103 rfl 0 rfl ?_
                obtain ⟨v48, e49, h⟩ := bo_some h
                refine g_getR O dX9_look_104 fl_X9_21 rfl e49 ?_
                refine g_iload_n O dX9_look_107 rfl 1 rfl ?_
                refine g_bipush (v := (40 : Int32)) O dX9_look_108 rfl ?_
                refine g_isub O dX9_look_110 ?_
                obtain ⟨v50, e51, h⟩ := bo_some h
                refine g_iaload O dX9_look_111 e51 ?_
                cases h
                exact g_ireturn O K dX9_look_112
            · replace h := (if_neg c24).symm.trans h
              refine g_aload_n O dX9_look_82 rfl 0 rfl ?_
              obtain ⟨v52, e53, h⟩ := bo_some h
              refine g_getR O dX9_look_83 fl_X9_18 rfl e53 ?_
              refine g_iload_n O dX9_look_86 rfl 1 rfl ?_
              refine g_bipush (v := (30 : Int32)) O dX9_look_87 rfl ?_
              refine g_isub O dX9_look_89 ?_
              obtain ⟨v54, e55, h⟩ := bo_some h
              refine g_iaload O dX9_look_90 e55 ?_
              cases h
              exact g_ireturn O K dX9_look_91
          · replace h := (if_neg c19).symm.trans h
            refine g_aload_n O dX9_look_61 rfl 0 rfl ?_
            obtain ⟨v56, e57, h⟩ := bo_some h
            refine g_getR O dX9_look_62 fl_X9_15 rfl e57 ?_
            refine g_iload_n O dX9_look_65 rfl 1 rfl ?_
            refine g_bipush (v := (20 : Int32)) O dX9_look_66 rfl ?_
            refine g_isub O dX9_look_68 ?_
            obtain ⟨v58, e59, h⟩ := bo_some h
            refine g_iaload O dX9_look_69 e59 ?_
            cases h
            exact g_ireturn O K dX9_look_70
        · replace h := (if_neg c14).symm.trans h
          refine g_aload_n O dX9_look_40 rfl 0 rfl ?_
          obtain ⟨v60, e61, h⟩ := bo_some h
          refine g_getR O dX9_look_41 fl_X9_9 rfl e61 ?_
          refine g_iload_n O dX9_look_44 rfl 1 rfl ?_
          refine g_bipush (v := (10 : Int32)) O dX9_look_45 rfl ?_
          refine g_isub O dX9_look_47 ?_
          obtain ⟨v62, e63, h⟩ := bo_some h
          refine g_iaload O dX9_look_48 e63 ?_
          cases h
          exact g_ireturn O K dX9_look_49
theorem c_X9_look (l0 : Launch) (a0 : Nat) (x1 : Int32) (σ : Dt) (r : Int32) (h : f_X9_look a0 x1 σ = some r) : Ctr l0 yX9_look cX9_look 2 (some .int) false 3 101 0 0 [vA (some a0), vI x1] SX σ SX σ (some (vI r)) := ctr_of (by decide) (Nat.le_of_ble_eq_true rfl) (fun M O F R0 N hn => t_X9_look O R0 N hn a0 x1 σ r h F)
def f_X11_valley (a0 : Nat) (x1 : Int32) (x2 : Int32) (σ : Dt) : Option Int32 := bo (xgr SX 11 0 (some a0) σ) fun v1 => bo (xrc SX 8 v1) fun a3 => bo (f_X8_valleyAt a3 x1 σ) fun v5 => if v5 = none then some (-1 : Int32) else bo (xrc SX 9 v5) fun a8 => bo (f_X9_look a8 x2 σ) fun v10 => some v10
theorem t_X11_valley {M : Mx} {l0 : Launch} (O : Ok M cX11_valley yX11_valley) (R0 : Rm M l0 5 144 0 0) (N : Ma M = false) (hn : Mn M = 4) (a0 : Nat) (x1 : Int32) (x2 : Int32) (σ : Dt) (o : Int32) (h : f_X11_valley a0 x1 x2 σ = some o) (K : Fin' M (some .int) 0 0 SX σ (some (vI o))) : G M 0 0 0 [(0, vA (some a0)), (1, vI x1), (2, vI x2)] [] SX σ := by
  unfold f_X11_valley at h
  refine g_aload_n O dX11_valley_0 rfl 0 rfl ?_
  obtain ⟨v1, e2, h⟩ := bo_some h
  refine g_getR O dX11_valley_1 fl_X11_12 rfl e2 ?_
  refine g_iload_n O dX11_valley_4 rfl 1 rfl ?_
  obtain ⟨a3, e4, h⟩ := bo_some h
  obtain ⟨v5, e6, h⟩ := bo_some h
  refine g_cV1 O R0 N dX11_valley_5 vl_X11_105 vv_X8_valleyAt e4 [vI x1] rfl rfl rfl ⟨Nat.le_of_ble_eq_true rfl, Nat.le_of_ble_eq_true rfl⟩ (c_X8_valleyAt l0 a3 x1 σ v5 e6) ?_
  refine g_astore_n (lv' := [(3, vA v5), (0, vA (some a0)), (1, vI x1), (2, vI x2)]) O dX11_valley_8 rfl 4 hn (by decide) rfl ?_
  refine g_aload_n O dX11_valley_9 rfl 0 rfl ?_
  refine g_ifnonnull O dX11_valley_10 rfl (fun c7 => ?_) (fun c7 => ?_)
  · replace h := (if_neg c7).symm.trans h
    refine g_aload_n O dX11_valley_17 rfl 0 rfl ?_
    refine g_iload_n O dX11_valley_18 rfl 3 rfl ?_
    obtain ⟨a8, e9, h⟩ := bo_some h
    obtain ⟨v10, e11, h⟩ := bo_some h
    refine g_cV1 O R0 N dX11_valley_19 vl_X11_109 vv_X9_look e9 [vI x2] rfl rfl rfl ⟨Nat.le_of_ble_eq_true rfl, Nat.le_of_ble_eq_true rfl⟩ (c_X9_look l0 a8 x2 σ v10 e11) ?_
    cases h
    exact g_ireturn O K dX11_valley_22
  · replace h := (if_pos c7).symm.trans h
    refine g_iconst (v := (-1 : Int32)) O dX11_valley_13 rfl ?_
    refine g_goto O dX11_valley_14 rfl ?_
    cases h
    exact g_ireturn O K dX11_valley_22
theorem c_X11_valley (l0 : Launch) (a0 : Nat) (x1 : Int32) (x2 : Int32) (σ : Dt) (r : Int32) (h : f_X11_valley a0 x1 x2 σ = some r) : Ctr l0 yX11_valley cX11_valley 4 (some .int) false 5 144 0 0 [vA (some a0), vI x1, vI x2] SX σ SX σ (some (vI r)) := ctr_of (by decide) (Nat.le_of_ble_eq_true rfl) (fun M O F R0 N hn => t_X11_valley O R0 N hn a0 x1 x2 σ r h F)
def f_X8_lifeAt (a0 : Nat) (x1 : Int32) (σ : Dt) : Option (Option Nat) := bo (xrc SX 8 (some a0)) fun a1 => bo (f_X8_has a1 (1 : Int32) x1 σ) fun v3 => if v3 = 0 then some none else bo (xgr SX 8 5 (some a0) σ) fun v6 => bo (xar SX 16 v6 x1 σ) fun v8 => some v8
theorem t_X8_lifeAt {M : Mx} {l0 : Launch} (O : Ok M cX8_lifeAt yX8_lifeAt) (R0 : Rm M l0 4 123 0 0) (N : Ma M = false) (hn : Mn M = 2) (a0 : Nat) (x1 : Int32) (σ : Dt) (o : (Option Nat)) (h : f_X8_lifeAt a0 x1 σ = some o) (K : Fin' M (some (.object "PromiseValley$Life")) 0 0 SX σ (some (vA o))) : G M 0 0 0 [(0, vA (some a0)), (1, vI x1)] [] SX σ := by
  unfold f_X8_lifeAt at h
  refine g_aload_n O dX8_lifeAt_0 rfl 0 rfl ?_
  refine g_iconst (v := (1 : Int32)) O dX8_lifeAt_1 rfl ?_
  refine g_iload_n O dX8_lifeAt_2 rfl 1 rfl ?_
  obtain ⟨a1, e2, h⟩ := bo_some h
  obtain ⟨v3, e4, h⟩ := bo_some h
  refine g_cV1 O R0 N dX8_lifeAt_3 vl_X8_69 vv_X8_has e2 [vI (1 : Int32), vI x1] rfl rfl rfl ⟨Nat.le_of_ble_eq_true rfl, Nat.le_of_ble_eq_true rfl⟩ (c_X8_has l0 a1 (1 : Int32) x1 σ v3 e4) ?_
  refine g_if_eq O dX8_lifeAt_6 rfl (fun c5 => ?_) (fun c5 => ?_)
  · replace h := (if_pos c5).symm.trans h
    refine g_null O dX8_lifeAt_18 ?_
    cases h
    exact g_areturn O (by first | exact Or.inl ⟨_, rfl⟩ | exact Or.inr ⟨_, rfl⟩) K dX8_lifeAt_19
  · replace h := (if_neg c5).symm.trans h
    refine g_aload_n O dX8_lifeAt_9 rfl 0 rfl ?_
    obtain ⟨v6, e7, h⟩ := bo_some h
    refine g_getR O dX8_lifeAt_10 fl_X8_33 rfl e7 ?_
    refine g_iload_n O dX8_lifeAt_13 rfl 1 rfl ?_
    obtain ⟨v8, e9, h⟩ := bo_some h
    refine g_aaload (kd := 16) O dX8_lifeAt_14 (by decide) (by decide) e9 ?_
    refine g_goto O dX8_lifeAt_15 rfl ?_
    cases h
    exact g_areturn O (by first | exact Or.inl ⟨_, rfl⟩ | exact Or.inr ⟨_, rfl⟩) K dX8_lifeAt_19
theorem c_X8_lifeAt (l0 : Launch) (a0 : Nat) (x1 : Int32) (σ : Dt) (r : (Option Nat)) (h : f_X8_lifeAt a0 x1 σ = some r) : Ctr l0 yX8_lifeAt cX8_lifeAt 2 (some (.object "PromiseValley$Life")) false 4 123 0 0 [vA (some a0), vI x1] SX σ SX σ (some (vA r)) := ctr_of (by decide) (Nat.le_of_ble_eq_true rfl) (fun M O F R0 N hn => t_X8_lifeAt O R0 N hn a0 x1 σ r h F)
def f_X4_hasDeed_22  (σ : Dt) : Option Int32 := some (0 : Int32)
theorem t_X4_hasDeed_22 {M : Mx} {l0 : Launch} (O : Ok M cX4_hasDeed yX4_hasDeed) (R0 : Rm M l0 2 80 0 0) (N : Ma M = false) (hn : Mn M = 2)   (σ : Dt) (o : Int32) (h : f_X4_hasDeed_22 σ = some o) (K : Fin' M (some .boolean) 0 0 SX σ (some (vI o))) : G M 0 0 22 [] [] SX σ := by
  unfold f_X4_hasDeed_22 at h
  refine g_iconst (v := (0 : Int32)) O dX4_hasDeed_22 rfl ?_
  cases h
  exact g_zreturn O (by decide) K dX4_hasDeed_23
def f_X4_hasDeed (a0 : Nat) (x1 : Int32) (σ : Dt) : Option Int32 := if x1 < 0 then f_X4_hasDeed_22 σ else bo (xgi SX 4 0 (some a0) σ) fun v2 => if v2 ≤ x1 then f_X4_hasDeed_22 σ else if (40 : Int32) ≤ x1 then f_X4_hasDeed_22 σ else some (1 : Int32)
theorem t_X4_hasDeed {M : Mx} {l0 : Launch} (O : Ok M cX4_hasDeed yX4_hasDeed) (R0 : Rm M l0 2 80 0 0) (N : Ma M = false) (hn : Mn M = 2) (a0 : Nat) (x1 : Int32) (σ : Dt) (o : Int32) (h : f_X4_hasDeed a0 x1 σ = some o) (K : Fin' M (some .boolean) 0 0 SX σ (some (vI o))) : G M 0 0 0 [(0, vA (some a0)), (1, vI x1)] [] SX σ := by
  unfold f_X4_hasDeed at h
  refine g_iload_n O dX4_hasDeed_0 rfl 1 rfl ?_
  refine g_if_lt O dX4_hasDeed_1 rfl (fun c1 => ?_) (fun c1 => ?_)
  · replace h := (if_pos c1).symm.trans h
    refine g_sub [] (lv' := []) rfl ?_
    exact t_X4_hasDeed_22 O R0 N hn σ o h K
  · replace h := (if_neg c1).symm.trans h
    refine g_iload_n O dX4_hasDeed_4 rfl 1 rfl ?_
    refine g_aload_n O dX4_hasDeed_5 rfl 0 rfl ?_
    obtain ⟨v2, e3, h⟩ := bo_some h
    refine g_getI O dX4_hasDeed_6 fl_X4_24 rfl e3 ?_
    refine g_icmp_ge O dX4_hasDeed_9 rfl (fun c4 => ?_) (fun c4 => ?_)
    · replace h := (if_pos c4).symm.trans h
      refine g_sub [] (lv' := []) rfl ?_
      exact t_X4_hasDeed_22 O R0 N hn σ o h K
    · replace h := (if_neg c4).symm.trans h
      refine g_iload_n O dX4_hasDeed_12 rfl 1 rfl ?_
      refine g_bipush (v := (40 : Int32)) O dX4_hasDeed_13 rfl ?_
      refine g_icmp_ge O dX4_hasDeed_15 rfl (fun c5 => ?_) (fun c5 => ?_)
      · replace h := (if_pos c5).symm.trans h
        refine g_sub [] (lv' := []) rfl ?_
        exact t_X4_hasDeed_22 O R0 N hn σ o h K
      · replace h := (if_neg c5).symm.trans h
        refine g_iconst (v := (1 : Int32)) O dX4_hasDeed_18 rfl ?_
        refine g_goto O dX4_hasDeed_19 rfl ?_
        cases h
        exact g_zreturn O (by decide) K dX4_hasDeed_23
theorem c_X4_hasDeed (l0 : Launch) (a0 : Nat) (x1 : Int32) (σ : Dt) (r : Int32) (h : f_X4_hasDeed a0 x1 σ = some r) : Ctr l0 yX4_hasDeed cX4_hasDeed 2 (some .boolean) false 2 80 0 0 [vA (some a0), vI x1] SX σ SX σ (some (vI r)) := ctr_of (by decide) (Nat.le_of_ble_eq_true rfl) (fun M O F R0 N hn => t_X4_hasDeed O R0 N hn a0 x1 σ r h F)
def f_X4_look_14 (a0 : Nat) (x1 : Int32) (x2 : Int32) (σ : Dt) : Option Int32 := bo (xrc SX 4 (some a0)) fun a1 => bo (f_X4_hasDeed a1 x1 σ) fun v3 => if v3 = 0 then some (-2 : Int32) else if x2 < 0 then some (-2 : Int32) else if x2 ≤ (3 : Int32) then if x2 = 0 then bo (xgr SX 4 1 (some a0) σ) fun v9 => bo (xai SX v9 x1 σ) fun v11 => some v11 else if x2 = (1 : Int32) then bo (xgr SX 4 2 (some a0) σ) fun v14 => bo (xai SX v14 x1 σ) fun v16 => some v16 else if x2 = (2 : Int32) then bo (xgr SX 4 3 (some a0) σ) fun v19 => bo (xai SX v19 x1 σ) fun v21 => some v21 else bo (xgr SX 4 4 (some a0) σ) fun v23 => bo (xai SX v23 x1 σ) fun v25 => some v25 else some (-2 : Int32)
theorem t_X4_look_14 {M : Mx} {l0 : Launch} (O : Ok M cX4_look yX4_look) (R0 : Rm M l0 3 101 0 0) (N : Ma M = false) (hn : Mn M = 3)  (a0 : Nat) (x1 : Int32) (x2 : Int32) (σ : Dt) (o : Int32) (h : f_X4_look_14 a0 x1 x2 σ = some o) (K : Fin' M (some .int) 0 0 SX σ (some (vI o))) : G M 0 0 14 [(0, vA (some a0)), (1, vI x1), (2, vI x2)] [] SX σ := by
  unfold f_X4_look_14 at h
  refine g_aload_n O dX4_look_14 rfl 0 rfl ?_
  refine g_iload_n O dX4_look_15 rfl 1 rfl ?_
  obtain ⟨a1, e2, h⟩ := bo_some h
  obtain ⟨v3, e4, h⟩ := bo_some h
  refine g_cV1 O R0 N dX4_look_16 vl_X4_34 vv_X4_hasDeed e2 [vI x1] rfl rfl rfl ⟨Nat.le_of_ble_eq_true rfl, Nat.le_of_ble_eq_true rfl⟩ (c_X4_hasDeed l0 a1 x1 σ v3 e4) ?_
  refine g_if_eq O dX4_look_19 rfl (fun c5 => ?_) (fun c5 => ?_)
  · replace h := (if_pos c5).symm.trans h
    refine g_bipush (v := (-2 : Int32)) O dX4_look_31 rfl ?_
    cases h
    exact g_ireturn O K dX4_look_33
  · replace h := (if_neg c5).symm.trans h
    refine g_iload_n O dX4_look_22 rfl 2 rfl ?_
    refine g_if_lt O dX4_look_23 rfl (fun c6 => ?_) (fun c6 => ?_)
    · replace h := (if_pos c6).symm.trans h
      refine g_bipush (v := (-2 : Int32)) O dX4_look_31 rfl ?_
      cases h
      exact g_ireturn O K dX4_look_33
    · replace h := (if_neg c6).symm.trans h
      refine g_iload_n O dX4_look_26 rfl 2 rfl ?_
      refine g_iconst (v := (3 : Int32)) O dX4_look_27 rfl ?_
      refine g_icmp_le O dX4_look_28 rfl (fun c7 => ?_) (fun c7 => ?_)
      · replace h := (if_pos c7).symm.trans h
        refine g_iload_n O dX4_look_34 rfl 2 rfl ?_
        refine g_if_ne O dX4_look_35 rfl (fun c8 => ?_) (fun c8 => ?_)
        · replace h := (if_pos c8).symm.trans h
          refine g_aload_n O dX4_look_38 rfl 0 rfl ?_
          obtain ⟨v9, e10, h⟩ := bo_some h
          refine g_getR O dX4_look_39 fl_X4_9 rfl e10 ?_
          refine g_iload_n O dX4_look_42 rfl 1 rfl ?_
          obtain ⟨v11, e12, h⟩ := bo_some h
          refine g_iaload O dX4_look_43 e12 ?_
          cases h
          exact g_ireturn O K dX4_look_44
        · replace h := (if_neg c8).symm.trans h
          refine g_iload_n O dX4_look_45 rfl 2 rfl ?_
          refine g_iconst (v := (1 : Int32)) O dX4_look_46 rfl ?_
          refine g_icmp_ne O dX4_look_47 rfl (fun c13 => ?_) (fun c13 => ?_)
          · replace h := (if_pos c13).symm.trans h
            refine g_aload_n O dX4_look_50 rfl 0 rfl ?_
            obtain ⟨v14, e15, h⟩ := bo_some h
            refine g_getR O dX4_look_51 fl_X4_15 rfl e15 ?_
            refine g_iload_n O dX4_look_54 rfl 1 rfl ?_
            obtain ⟨v16, e17, h⟩ := bo_some h
            refine g_iaload O dX4_look_55 e17 ?_
            cases h
            exact g_ireturn O K dX4_look_56
          · replace h := (if_neg c13).symm.trans h
            refine g_iload_n O dX4_look_57 rfl 2 rfl ?_
            refine g_iconst (v := (2 : Int32)) O dX4_look_58 rfl ?_
            refine g_icmp_ne O dX4_look_59 rfl (fun c18 => ?_) (fun c18 => ?_)
            · replace h := (if_pos c18).symm.trans h
              refine g_aload_n O dX4_look_62 rfl 0 rfl ?_
              obtain ⟨v19, e20, h⟩ := bo_some h
              refine g_getR O dX4_look_63 fl_X4_18 rfl e20 ?_
              refine g_iload_n O dX4_look_66 rfl 1 rfl ?_
              obtain ⟨v21, e22, h⟩ := bo_some h
              refine g_iaload O dX4_look_67 e22 ?_
              refine g_goto O dX4_look_68 rfl ?_
              cases h
              exact g_ireturn O K dX4_look_77
            · replace h := (if_neg c18).symm.trans h
              refine g_aload_n O dX4_look_71 rfl 0 rfl ?_
              obtain ⟨v23, e24, h⟩ := bo_some h
              refine g_getR O dX4_look_72 fl_X4_21 rfl e24 ?_
              refine g_iload_n O dX4_look_75 rfl 1 rfl ?_
              obtain ⟨v25, e26, h⟩ := bo_some h
              refine g_iaload O dX4_look_76 e26 ?_
              cases h
              exact g_ireturn O K dX4_look_77
      · replace h := (if_neg c7).symm.trans h
        refine g_bipush (v := (-2 : Int32)) O dX4_look_31 rfl ?_
        cases h
        exact g_ireturn O K dX4_look_33
def f_X4_look (a0 : Nat) (x1 : Int32) (x2 : Int32) (σ : Dt) : Option Int32 := if x1 = (-1 : Int32) then if x2 = 0 then bo (xgi SX 4 0 (some a0) σ) fun v3 => some v3 else f_X4_look_14 a0 x1 x2 σ else f_X4_look_14 a0 x1 x2 σ
theorem t_X4_look {M : Mx} {l0 : Launch} (O : Ok M cX4_look yX4_look) (R0 : Rm M l0 3 101 0 0) (N : Ma M = false) (hn : Mn M = 3) (a0 : Nat) (x1 : Int32) (x2 : Int32) (σ : Dt) (o : Int32) (h : f_X4_look a0 x1 x2 σ = some o) (K : Fin' M (some .int) 0 0 SX σ (some (vI o))) : G M 0 0 0 [(0, vA (some a0)), (1, vI x1), (2, vI x2)] [] SX σ := by
  unfold f_X4_look at h
  refine g_iload_n O dX4_look_0 rfl 1 rfl ?_
  refine g_iconst (v := (-1 : Int32)) O dX4_look_1 rfl ?_
  refine g_icmp_ne O dX4_look_2 rfl (fun c1 => ?_) (fun c1 => ?_)
  · replace h := (if_pos c1).symm.trans h
    refine g_iload_n O dX4_look_5 rfl 2 rfl ?_
    refine g_if_ne O dX4_look_6 rfl (fun c2 => ?_) (fun c2 => ?_)
    · replace h := (if_pos c2).symm.trans h
      refine g_aload_n O dX4_look_9 rfl 0 rfl ?_
      obtain ⟨v3, e4, h⟩ := bo_some h
      refine g_getI O dX4_look_10 fl_X4_24 rfl e4 ?_
      cases h
      exact g_ireturn O K dX4_look_13
    · replace h := (if_neg c2).symm.trans h
      exact t_X4_look_14 O R0 N hn a0 x1 x2 σ o h K
  · replace h := (if_neg c1).symm.trans h
    exact t_X4_look_14 O R0 N hn a0 x1 x2 σ o h K
theorem c_X4_look (l0 : Launch) (a0 : Nat) (x1 : Int32) (x2 : Int32) (σ : Dt) (r : Int32) (h : f_X4_look a0 x1 x2 σ = some r) : Ctr l0 yX4_look cX4_look 3 (some .int) false 3 101 0 0 [vA (some a0), vI x1, vI x2] SX σ SX σ (some (vI r)) := ctr_of (by decide) (Nat.le_of_ble_eq_true rfl) (fun M O F R0 N hn => t_X4_look O R0 N hn a0 x1 x2 σ r h F)
def f_X11_deed (a0 : Nat) (x1 : Int32) (x2 : Int32) (x3 : Int32) (σ : Dt) : Option Int32 := bo (xgr SX 11 0 (some a0) σ) fun v1 => bo (xrc SX 8 v1) fun a3 => bo (f_X8_lifeAt a3 x1 σ) fun v5 => if v5 = none then some (-2 : Int32) else bo (xrc SX 4 v5) fun a8 => bo (f_X4_look a8 x2 x3 σ) fun v10 => some v10
theorem t_X11_deed {M : Mx} {l0 : Launch} (O : Ok M cX11_deed yX11_deed) (R0 : Rm M l0 5 144 0 0) (N : Ma M = false) (hn : Mn M = 5) (a0 : Nat) (x1 : Int32) (x2 : Int32) (x3 : Int32) (σ : Dt) (o : Int32) (h : f_X11_deed a0 x1 x2 x3 σ = some o) (K : Fin' M (some .int) 0 0 SX σ (some (vI o))) : G M 0 0 0 [(0, vA (some a0)), (1, vI x1), (2, vI x2), (3, vI x3)] [] SX σ := by
  unfold f_X11_deed at h
  refine g_aload_n O dX11_deed_0 rfl 0 rfl ?_
  obtain ⟨v1, e2, h⟩ := bo_some h
  refine g_getR O dX11_deed_1 fl_X11_12 rfl e2 ?_
  refine g_iload_n O dX11_deed_4 rfl 1 rfl ?_
  obtain ⟨a3, e4, h⟩ := bo_some h
  obtain ⟨v5, e6, h⟩ := bo_some h
  refine g_cV1 O R0 N dX11_deed_5 vl_X11_114 vv_X8_lifeAt e4 [vI x1] rfl rfl rfl ⟨Nat.le_of_ble_eq_true rfl, Nat.le_of_ble_eq_true rfl⟩ (c_X8_lifeAt l0 a3 x1 σ v5 e6) ?_
  refine g_astore (lv' := [(4, vA v5), (0, vA (some a0)), (1, vI x1), (2, vI x2), (3, vI x3)]) O dX11_deed_8 5 hn (by decide) rfl ?_
  refine g_aload O dX11_deed_10 0 rfl ?_
  refine g_ifnonnull O dX11_deed_12 rfl (fun c7 => ?_) (fun c7 => ?_)
  · replace h := (if_neg c7).symm.trans h
    refine g_aload O dX11_deed_20 0 rfl ?_
    refine g_iload_n O dX11_deed_22 rfl 3 rfl ?_
    refine g_iload_n O dX11_deed_23 rfl 4 rfl ?_
    obtain ⟨a8, e9, h⟩ := bo_some h
    obtain ⟨v10, e11, h⟩ := bo_some h
    refine g_cV1 O R0 N dX11_deed_24 vl_X11_118 vv_X4_look e9 [vI x2, vI x3] rfl rfl rfl ⟨Nat.le_of_ble_eq_true rfl, Nat.le_of_ble_eq_true rfl⟩ (c_X4_look l0 a8 x2 x3 σ v10 e11) ?_
    cases h
    exact g_ireturn O K dX11_deed_27
  · replace h := (if_pos c7).symm.trans h
    refine g_bipush (v := (-2 : Int32)) O dX11_deed_15 rfl ?_
    refine g_goto O dX11_deed_17 rfl ?_
    cases h
    exact g_ireturn O K dX11_deed_27
theorem c_X11_deed (l0 : Launch) (a0 : Nat) (x1 : Int32) (x2 : Int32) (x3 : Int32) (σ : Dt) (r : Int32) (h : f_X11_deed a0 x1 x2 x3 σ = some r) : Ctr l0 yX11_deed cX11_deed 5 (some .int) false 5 144 0 0 [vA (some a0), vI x1, vI x2, vI x3] SX σ SX σ (some (vI r)) := ctr_of (by decide) (Nat.le_of_ble_eq_true rfl) (fun M O F R0 N hn => t_X11_deed O R0 N hn a0 x1 x2 x3 σ r h F)
def P_X10_begin_156 (M : Mx) (a0 : Nat) (s : (Int32 × Dt)) : Prop := G M 0 0 156 [(0, vA (some a0)), (2, vI s.1)] [] SX s.2
def E_X10_begin_156 (M : Mx) (a0 : Nat) : Dt → Prop := (fun w => G M 0 0 175 [(0, vA (some a0))] [] SX w)
def f_X10_begin_L156 (a0 : Nat) (x2 : Int32) (σ : Dt) : Option ((Int32 × Dt) ⊕ Dt) := if (10 : Int32) ≤ x2 then some (.inr σ) else bo (xgr SX 10 13 (some a0) σ) fun v2 => bo (xsi SX v2 x2 (0 : Int32) σ) fun σ4 => some (.inl ((x2 + (1 : Int32)), σ4))
theorem t_X10_begin_L156 {M : Mx} {l0 : Launch} (O : Ok M cX10_begin yX10_begin) (R0 : Rm M l0 2 80 0 0) (N : Ma M = false) (hn : Mn M = 3) (a0 : Nat) (x2 : Int32) (σ : Dt) (o : ((Int32 × Dt) ⊕ Dt)) (h : f_X10_begin_L156 a0 x2 σ = some o) (K : kon (P_X10_begin_156 M a0) (E_X10_begin_156 M a0) o) : G M 0 0 156 [(0, vA (some a0)), (2, vI x2)] [] SX σ := by
  unfold f_X10_begin_L156 at h
  refine g_iload_n O dX10_begin_156 rfl 1 rfl ?_
  refine g_bipush (v := (10 : Int32)) O dX10_begin_157 rfl ?_
  refine g_icmp_ge O dX10_begin_159 rfl (fun c1 => ?_) (fun c1 => ?_)
  · replace h := (if_pos c1).symm.trans h
    refine g_sub [0] (lv' := [(0, vA (some a0))]) rfl ?_
    cases h
    exact K
  · replace h := (if_neg c1).symm.trans h
    refine g_aload_n O dX10_begin_162 rfl 0 rfl ?_
    obtain ⟨v2, e3, h⟩ := bo_some h
    refine g_getR O dX10_begin_163 fl_X10_24 rfl e3 ?_
    refine g_iload_n O dX10_begin_166 rfl 1 rfl ?_
    refine g_iconst (v := (0 : Int32)) O dX10_begin_167 rfl ?_
    obtain ⟨σ4, e5, h⟩ := bo_some h
    refine g_iastore O dX10_begin_168 e5 ?_
    refine g_iinc (v := (x2 + (1 : Int32))) (lv' := [(2, vI (x2 + (1 : Int32))), (0, vA (some a0))]) O dX10_begin_169 3 hn (by decide) 1 rfl rfl rfl ?_
    refine g_goto O dX10_begin_172 rfl ?_
    refine g_sub [1, 0] (lv' := [(0, vA (some a0)), (2, vI (x2 + (1 : Int32)))]) rfl ?_
    cases h
    exact K
def P_X10_begin_177 (M : Mx) (a0 : Nat) (s : (Int32 × Dt)) : Prop := G M 0 0 177 [(0, vA (some a0)), (2, vI s.1)] [] SX s.2
def E_X10_begin_177 (M : Mx) (a0 : Nat) : Dt → Prop := (fun w => G M 0 0 196 [] [] SX w)
def f_X10_begin_L177 (a0 : Nat) (x2 : Int32) (σ : Dt) : Option ((Int32 × Dt) ⊕ Dt) := if (6 : Int32) ≤ x2 then some (.inr σ) else bo (xgr SX 10 15 (some a0) σ) fun v2 => bo (xsi SX v2 x2 (0 : Int32) σ) fun σ4 => some (.inl ((x2 + (1 : Int32)), σ4))
theorem t_X10_begin_L177 {M : Mx} {l0 : Launch} (O : Ok M cX10_begin yX10_begin) (R0 : Rm M l0 2 80 0 0) (N : Ma M = false) (hn : Mn M = 3) (a0 : Nat) (x2 : Int32) (σ : Dt) (o : ((Int32 × Dt) ⊕ Dt)) (h : f_X10_begin_L177 a0 x2 σ = some o) (K : kon (P_X10_begin_177 M a0) (E_X10_begin_177 M a0) o) : G M 0 0 177 [(0, vA (some a0)), (2, vI x2)] [] SX σ := by
  unfold f_X10_begin_L177 at h
  refine g_iload_n O dX10_begin_177 rfl 1 rfl ?_
  refine g_bipush (v := (6 : Int32)) O dX10_begin_178 rfl ?_
  refine g_icmp_ge O dX10_begin_180 rfl (fun c1 => ?_) (fun c1 => ?_)
  · replace h := (if_pos c1).symm.trans h
    refine g_sub [] (lv' := []) rfl ?_
    cases h
    exact K
  · replace h := (if_neg c1).symm.trans h
    refine g_aload_n O dX10_begin_183 rfl 0 rfl ?_
    obtain ⟨v2, e3, h⟩ := bo_some h
    refine g_getR O dX10_begin_184 fl_X10_30 rfl e3 ?_
    refine g_iload_n O dX10_begin_187 rfl 1 rfl ?_
    refine g_iconst (v := (0 : Int32)) O dX10_begin_188 rfl ?_
    obtain ⟨σ4, e5, h⟩ := bo_some h
    refine g_iastore O dX10_begin_189 e5 ?_
    refine g_iinc (v := (x2 + (1 : Int32))) (lv' := [(2, vI (x2 + (1 : Int32))), (0, vA (some a0))]) O dX10_begin_190 3 hn (by decide) 1 rfl rfl rfl ?_
    refine g_goto O dX10_begin_193 rfl ?_
    refine g_sub [1, 0] (lv' := [(0, vA (some a0)), (2, vI (x2 + (1 : Int32)))]) rfl ?_
    cases h
    exact K
def f_X10_begin (a0 : Nat) (r1 : Option Nat) (σ : Dt) : Option (Unit × Dt) := if r1 = none then some ((), σ) else bo (xpi SX 10 0 (some a0) (0 : Int32) σ) fun σ2 => bo (xgi SX 9 0 r1 σ2) fun v4 => bo (xpi SX 10 1 (some a0) (mmax (0 : Int32) (mmin v4 (10 : Int32))) σ2) fun σ6 => bo (xgi SX 9 1 r1 σ6) fun v8 => bo (xpi SX 10 2 (some a0) (mmax (0 : Int32) (mmin v8 (6 : Int32))) σ6) fun σ10 => bo (xgi SX 9 2 r1 σ10) fun v12 => bo (xpi SX 10 3 (some a0) v12 σ10) fun σ14 => bo (xgi SX 10 1 (some a0) σ14) fun v16 => bo (xpi SX 10 4 (some a0) (((1 : Int32) <<< (v16 &&& 31)) - (1 : Int32)) σ14) fun σ18 => bo (xpi SX 10 5 (some a0) (0 : Int32) σ18) fun σ20 => bo (xpi SX 10 6 (some a0) (0 : Int32) σ20) fun σ22 => bo (xpi SX 10 7 (some a0) (-1 : Int32) σ22) fun σ24 => bo (xgr SX 9 3 r1 σ24) fun v26 => bo (xgr SX 10 9 (some a0) σ24) fun v28 => bo (xcp SX v26 (0 : Int32) v28 (0 : Int32) (10 : Int32) σ24) fun σ30 => bo (xgr SX 9 4 r1 σ30) fun v32 => bo (xgr SX 10 10 (some a0) σ30) fun v34 => bo (xcp SX v32 (0 : Int32) v34 (0 : Int32) (10 : Int32) σ30) fun σ36 => bo (xgr SX 9 5 r1 σ36) fun v38 => bo (xgr SX 10 11 (some a0) σ36) fun v40 => bo (xcp SX v38 (0 : Int32) v40 (0 : Int32) (10 : Int32) σ36) fun σ42 => bo (xgr SX 9 6 r1 σ42) fun v44 => bo (xgr SX 10 12 (some a0) σ42) fun v46 => bo (xcp SX v44 (0 : Int32) v46 (0 : Int32) (10 : Int32) σ42) fun σ48 => bo (xgr SX 9 8 r1 σ48) fun v50 => bo (xgr SX 10 14 (some a0) σ48) fun v52 => bo (xcp SX v50 (0 : Int32) v52 (0 : Int32) (6 : Int32) σ48) fun σ54 => bo (iter FU (fun s => f_X10_begin_L156 a0 s.1 s.2) ((0 : Int32), σ54)) fun w56 => bo (iter FU (fun s => f_X10_begin_L177 a0 s.1 s.2) ((0 : Int32), w56)) fun w58 => some ((), w58)
theorem t_X10_begin {M : Mx} {l0 : Launch} (O : Ok M cX10_begin yX10_begin) (R0 : Rm M l0 2 80 0 0) (N : Ma M = false) (hn : Mn M = 3) (a0 : Nat) (r1 : Option Nat) (σ : Dt) (o : (Unit × Dt)) (h : f_X10_begin a0 r1 σ = some o) (K : Fin' M (none) 0 0 SX o.2 (none)) : G M 0 0 0 [(0, vA (some a0)), (1, vA r1)] [] SX σ := by
  unfold f_X10_begin at h
  refine g_aload_n O dX10_begin_0 rfl 1 rfl ?_
  refine g_ifnonnull O dX10_begin_1 rfl (fun c1 => ?_) (fun c1 => ?_)
  · replace h := (if_neg c1).symm.trans h
    refine g_aload_n O dX10_begin_5 rfl 0 rfl ?_
    refine g_iconst (v := (0 : Int32)) O dX10_begin_6 rfl ?_
    obtain ⟨σ2, e3, h⟩ := bo_some h
    refine g_putI O dX10_begin_7 fl_X10_45 (Or.inl rfl) rfl e3 ?_
    refine g_aload_n O dX10_begin_10 rfl 0 rfl ?_
    refine g_iconst (v := (0 : Int32)) O dX10_begin_11 rfl ?_
    refine g_aload_n O dX10_begin_12 rfl 1 rfl ?_
    obtain ⟨v4, e5, h⟩ := bo_some h
    refine g_getI O dX10_begin_13 fl_X10_49 rfl e5 ?_
    refine g_bipush (v := (10 : Int32)) O dX10_begin_16 rfl ?_
    refine g_mmin O R0 dX10_begin_18 w919 ⟨Nat.le_of_ble_eq_true rfl, Nat.le_of_ble_eq_true rfl⟩ ?_
    refine g_mmax O R0 dX10_begin_21 w920 ⟨Nat.le_of_ble_eq_true rfl, Nat.le_of_ble_eq_true rfl⟩ ?_
    obtain ⟨σ6, e7, h⟩ := bo_some h
    refine g_putI O dX10_begin_24 fl_X10_63 (Or.inl rfl) rfl e7 ?_
    refine g_aload_n O dX10_begin_27 rfl 0 rfl ?_
    refine g_iconst (v := (0 : Int32)) O dX10_begin_28 rfl ?_
    refine g_aload_n O dX10_begin_29 rfl 1 rfl ?_
    obtain ⟨v8, e9, h⟩ := bo_some h
    refine g_getI O dX10_begin_30 fl_X10_64 rfl e9 ?_
    refine g_bipush (v := (6 : Int32)) O dX10_begin_33 rfl ?_
    refine g_mmin O R0 dX10_begin_35 w919 ⟨Nat.le_of_ble_eq_true rfl, Nat.le_of_ble_eq_true rfl⟩ ?_
    refine g_mmax O R0 dX10_begin_38 w920 ⟨Nat.le_of_ble_eq_true rfl, Nat.le_of_ble_eq_true rfl⟩ ?_
    obtain ⟨σ10, e11, h⟩ := bo_some h
    refine g_putI O dX10_begin_41 fl_X10_67 (Or.inl rfl) rfl e11 ?_
    refine g_aload_n O dX10_begin_44 rfl 0 rfl ?_
    refine g_aload_n O dX10_begin_45 rfl 1 rfl ?_
    obtain ⟨v12, e13, h⟩ := bo_some h
    refine g_getI O dX10_begin_46 fl_X10_68 rfl e13 ?_
    obtain ⟨σ14, e15, h⟩ := bo_some h
    refine g_putI O dX10_begin_49 fl_X10_71 (Or.inl rfl) rfl e15 ?_
    refine g_aload_n O dX10_begin_52 rfl 0 rfl ?_
    refine g_iconst (v := (1 : Int32)) O dX10_begin_53 rfl ?_
    refine g_aload_n O dX10_begin_54 rfl 0 rfl ?_
    obtain ⟨v16, e17, h⟩ := bo_some h
    refine g_getI O dX10_begin_55 fl_X10_63 rfl e17 ?_
    refine g_ishl O dX10_begin_58 ?_
    refine g_iconst (v := (1 : Int32)) O dX10_begin_59 rfl ?_
    refine g_isub O dX10_begin_60 ?_
    obtain ⟨σ18, e19, h⟩ := bo_some h
    refine g_putI O dX10_begin_61 fl_X10_72 (Or.inl rfl) rfl e19 ?_
    refine g_aload_n O dX10_begin_64 rfl 0 rfl ?_
    refine g_iconst (v := (0 : Int32)) O dX10_begin_65 rfl ?_
    obtain ⟨σ20, e21, h⟩ := bo_some h
    refine g_putI O dX10_begin_66 fl_X10_75 (Or.inl rfl) rfl e21 ?_
    refine g_aload_n O dX10_begin_69 rfl 0 rfl ?_
    refine g_iconst (v := (0 : Int32)) O dX10_begin_70 rfl ?_
    obtain ⟨σ22, e23, h⟩ := bo_some h
    refine g_putI O dX10_begin_71 fl_X10_78 (Or.inl rfl) rfl e23 ?_
    refine g_aload_n O dX10_begin_74 rfl 0 rfl ?_
    refine g_iconst (v := (-1 : Int32)) O dX10_begin_75 rfl ?_
    obtain ⟨σ24, e25, h⟩ := bo_some h
    refine g_putI O dX10_begin_76 fl_X10_81 (Or.inl rfl) rfl e25 ?_
    refine g_aload_n O dX10_begin_79 rfl 1 rfl ?_
    obtain ⟨v26, e27, h⟩ := bo_some h
    refine g_getR O dX10_begin_80 fl_X10_84 rfl e27 ?_
    refine g_iconst (v := (0 : Int32)) O dX10_begin_83 rfl ?_
    refine g_aload_n O dX10_begin_84 rfl 0 rfl ?_
    obtain ⟨v28, e29, h⟩ := bo_some h
    refine g_getR O dX10_begin_85 fl_X10_9 rfl e29 ?_
    refine g_iconst (v := (0 : Int32)) O dX10_begin_88 rfl ?_
    refine g_bipush (v := (10 : Int32)) O dX10_begin_89 rfl ?_
    obtain ⟨σ30, e31, h⟩ := bo_some h
    refine g_copy O R0 N dX10_begin_91 w921 wcopy ⟨Nat.le_of_ble_eq_true rfl, Nat.le_of_ble_eq_true rfl⟩ e31 ?_
    refine g_aload_n O dX10_begin_94 rfl 1 rfl ?_
    obtain ⟨v32, e33, h⟩ := bo_some h
    refine g_getR O dX10_begin_95 fl_X10_91 rfl e33 ?_
    refine g_iconst (v := (0 : Int32)) O dX10_begin_98 rfl ?_
    refine g_aload_n O dX10_begin_99 rfl 0 rfl ?_
    obtain ⟨v34, e35, h⟩ := bo_some h
    refine g_getR O dX10_begin_100 fl_X10_15 rfl e35 ?_
    refine g_iconst (v := (0 : Int32)) O dX10_begin_103 rfl ?_
    refine g_bipush (v := (10 : Int32)) O dX10_begin_104 rfl ?_
    obtain ⟨σ36, e37, h⟩ := bo_some h
    refine g_copy O R0 N dX10_begin_106 w921 wcopy ⟨Nat.le_of_ble_eq_true rfl, Nat.le_of_ble_eq_true rfl⟩ e37 ?_
    refine g_aload_n O dX10_begin_109 rfl 1 rfl ?_
    obtain ⟨v38, e39, h⟩ := bo_some h
    refine g_getR O dX10_begin_110 fl_X10_92 rfl e39 ?_
    refine g_iconst (v := (0 : Int32)) O dX10_begin_113 rfl ?_
    refine g_aload_n O dX10_begin_114 rfl 0 rfl ?_
    obtain ⟨v40, e41, h⟩ := bo_some h
    refine g_getR O dX10_begin_115 fl_X10_18 rfl e41 ?_
    refine g_iconst (v := (0 : Int32)) O dX10_begin_118 rfl ?_
    refine g_bipush (v := (10 : Int32)) O dX10_begin_119 rfl ?_
    obtain ⟨σ42, e43, h⟩ := bo_some h
    refine g_copy O R0 N dX10_begin_121 w921 wcopy ⟨Nat.le_of_ble_eq_true rfl, Nat.le_of_ble_eq_true rfl⟩ e43 ?_
    refine g_aload_n O dX10_begin_124 rfl 1 rfl ?_
    obtain ⟨v44, e45, h⟩ := bo_some h
    refine g_getR O dX10_begin_125 fl_X10_93 rfl e45 ?_
    refine g_iconst (v := (0 : Int32)) O dX10_begin_128 rfl ?_
    refine g_aload_n O dX10_begin_129 rfl 0 rfl ?_
    obtain ⟨v46, e47, h⟩ := bo_some h
    refine g_getR O dX10_begin_130 fl_X10_21 rfl e47 ?_
    refine g_iconst (v := (0 : Int32)) O dX10_begin_133 rfl ?_
    refine g_bipush (v := (10 : Int32)) O dX10_begin_134 rfl ?_
    obtain ⟨σ48, e49, h⟩ := bo_some h
    refine g_copy O R0 N dX10_begin_136 w921 wcopy ⟨Nat.le_of_ble_eq_true rfl, Nat.le_of_ble_eq_true rfl⟩ e49 ?_
    refine g_aload_n O dX10_begin_139 rfl 1 rfl ?_
    obtain ⟨v50, e51, h⟩ := bo_some h
    refine g_getR O dX10_begin_140 fl_X10_94 rfl e51 ?_
    refine g_iconst (v := (0 : Int32)) O dX10_begin_143 rfl ?_
    refine g_aload_n O dX10_begin_144 rfl 0 rfl ?_
    obtain ⟨v52, e53, h⟩ := bo_some h
    refine g_getR O dX10_begin_145 fl_X10_27 rfl e53 ?_
    refine g_iconst (v := (0 : Int32)) O dX10_begin_148 rfl ?_
    refine g_bipush (v := (6 : Int32)) O dX10_begin_149 rfl ?_
    obtain ⟨σ54, e55, h⟩ := bo_some h
    refine g_copy O R0 N dX10_begin_151 w921 wcopy ⟨Nat.le_of_ble_eq_true rfl, Nat.le_of_ble_eq_true rfl⟩ e55 ?_
    refine g_iconst (v := (0 : Int32)) O dX10_begin_154 rfl ?_
    refine g_istore_n (lv' := [(2, vI (0 : Int32)), (0, vA (some a0)), (1, vA r1)]) O dX10_begin_155 rfl 3 hn (by decide) rfl ?_
    refine g_sub [1, 0] (lv' := [(0, vA (some a0)), (2, vI (0 : Int32))]) rfl ?_
    obtain ⟨w56, e57, h⟩ := bo_some h
    refine iter_G (P := P_X10_begin_156 M a0) (E := E_X10_begin_156 M a0) (fun s o hb hk => t_X10_begin_L156 O R0 N hn a0 s.1 s.2 o hb hk) FU ((0 : Int32), σ54) w56 e57 ?_
    show G M 0 0 175 [(0, vA (some a0))] [] SX w56
    refine g_iconst (v := (0 : Int32)) O dX10_begin_175 rfl ?_
    refine g_istore_n (lv' := [(2, vI (0 : Int32)), (0, vA (some a0))]) O dX10_begin_176 rfl 3 hn (by decide) rfl ?_
    refine g_sub [1, 0] (lv' := [(0, vA (some a0)), (2, vI (0 : Int32))]) rfl ?_
    obtain ⟨w58, e59, h⟩ := bo_some h
    refine iter_G (P := P_X10_begin_177 M a0) (E := E_X10_begin_177 M a0) (fun s o hb hk => t_X10_begin_L177 O R0 N hn a0 s.1 s.2 o hb hk) FU ((0 : Int32), w56) w58 e59 ?_
    show G M 0 0 196 [] [] SX w58
    cases h
    exact g_return O K dX10_begin_196
  · replace h := (if_pos c1).symm.trans h
    cases h
    exact g_return O K dX10_begin_4
theorem c_X10_begin (l0 : Launch) (a0 : Nat) (r1 : Option Nat) (σ : Dt) (r : Unit) (σ' : Dt) (h : f_X10_begin a0 r1 σ = some (r, σ')) : Ctr l0 yX10_begin cX10_begin 3 (none) false 2 80 0 0 [vA (some a0), vA r1] SX σ SX σ' (none) := ctr_of (by decide) (Nat.le_of_ble_eq_true rfl) (fun M O F R0 N hn => t_X10_begin O R0 N hn a0 r1 σ (r, σ') h F)
def f_X10_hasFolk_22  (σ : Dt) : Option Int32 := some (0 : Int32)
theorem t_X10_hasFolk_22 {M : Mx} {l0 : Launch} (O : Ok M cX10_hasFolk yX10_hasFolk) (R0 : Rm M l0 2 80 0 0) (N : Ma M = false) (hn : Mn M = 2)   (σ : Dt) (o : Int32) (h : f_X10_hasFolk_22 σ = some o) (K : Fin' M (some .boolean) 0 0 SX σ (some (vI o))) : G M 0 0 22 [] [] SX σ := by
  unfold f_X10_hasFolk_22 at h
  refine g_iconst (v := (0 : Int32)) O dX10_hasFolk_22 rfl ?_
  cases h
  exact g_zreturn O (by decide) K dX10_hasFolk_23
def f_X10_hasFolk (a0 : Nat) (x1 : Int32) (σ : Dt) : Option Int32 := if x1 < 0 then f_X10_hasFolk_22 σ else bo (xgi SX 10 1 (some a0) σ) fun v2 => if v2 ≤ x1 then f_X10_hasFolk_22 σ else if (10 : Int32) ≤ x1 then f_X10_hasFolk_22 σ else some (1 : Int32)
theorem t_X10_hasFolk {M : Mx} {l0 : Launch} (O : Ok M cX10_hasFolk yX10_hasFolk) (R0 : Rm M l0 2 80 0 0) (N : Ma M = false) (hn : Mn M = 2) (a0 : Nat) (x1 : Int32) (σ : Dt) (o : Int32) (h : f_X10_hasFolk a0 x1 σ = some o) (K : Fin' M (some .boolean) 0 0 SX σ (some (vI o))) : G M 0 0 0 [(0, vA (some a0)), (1, vI x1)] [] SX σ := by
  unfold f_X10_hasFolk at h
  refine g_iload_n O dX10_hasFolk_0 rfl 1 rfl ?_
  refine g_if_lt O dX10_hasFolk_1 rfl (fun c1 => ?_) (fun c1 => ?_)
  · replace h := (if_pos c1).symm.trans h
    refine g_sub [] (lv' := []) rfl ?_
    exact t_X10_hasFolk_22 O R0 N hn σ o h K
  · replace h := (if_neg c1).symm.trans h
    refine g_iload_n O dX10_hasFolk_4 rfl 1 rfl ?_
    refine g_aload_n O dX10_hasFolk_5 rfl 0 rfl ?_
    obtain ⟨v2, e3, h⟩ := bo_some h
    refine g_getI O dX10_hasFolk_6 fl_X10_63 rfl e3 ?_
    refine g_icmp_ge O dX10_hasFolk_9 rfl (fun c4 => ?_) (fun c4 => ?_)
    · replace h := (if_pos c4).symm.trans h
      refine g_sub [] (lv' := []) rfl ?_
      exact t_X10_hasFolk_22 O R0 N hn σ o h K
    · replace h := (if_neg c4).symm.trans h
      refine g_iload_n O dX10_hasFolk_12 rfl 1 rfl ?_
      refine g_bipush (v := (10 : Int32)) O dX10_hasFolk_13 rfl ?_
      refine g_icmp_ge O dX10_hasFolk_15 rfl (fun c5 => ?_) (fun c5 => ?_)
      · replace h := (if_pos c5).symm.trans h
        refine g_sub [] (lv' := []) rfl ?_
        exact t_X10_hasFolk_22 O R0 N hn σ o h K
      · replace h := (if_neg c5).symm.trans h
        refine g_iconst (v := (1 : Int32)) O dX10_hasFolk_18 rfl ?_
        refine g_goto O dX10_hasFolk_19 rfl ?_
        cases h
        exact g_zreturn O (by decide) K dX10_hasFolk_23
theorem c_X10_hasFolk (l0 : Launch) (a0 : Nat) (x1 : Int32) (σ : Dt) (r : Int32) (h : f_X10_hasFolk a0 x1 σ = some r) : Ctr l0 yX10_hasFolk cX10_hasFolk 2 (some .boolean) false 2 80 0 0 [vA (some a0), vI x1] SX σ SX σ (some (vI r)) := ctr_of (by decide) (Nat.le_of_ble_eq_true rfl) (fun M O F R0 N hn => t_X10_hasFolk O R0 N hn a0 x1 σ r h F)
def f_X10_lives_23  (σ : Dt) : Option Int32 := some (0 : Int32)
theorem t_X10_lives_23 {M : Mx} {l0 : Launch} (O : Ok M cX10_lives yX10_lives) (R0 : Rm M l0 3 101 0 0) (N : Ma M = false) (hn : Mn M = 2)   (σ : Dt) (o : Int32) (h : f_X10_lives_23 σ = some o) (K : Fin' M (some .boolean) 0 0 SX σ (some (vI o))) : G M 0 0 23 [] [] SX σ := by
  unfold f_X10_lives_23 at h
  refine g_iconst (v := (0 : Int32)) O dX10_lives_23 rfl ?_
  cases h
  exact g_zreturn O (by decide) K dX10_lives_24
def f_X10_lives (a0 : Nat) (x1 : Int32) (σ : Dt) : Option Int32 := bo (xrc SX 10 (some a0)) fun a1 => bo (f_X10_hasFolk a1 x1 σ) fun v3 => if v3 = 0 then f_X10_lives_23 σ else bo (xgi SX 10 4 (some a0) σ) fun v6 => if ((v6 >>> (x1 &&& 31)) &&& (1 : Int32)) = 0 then f_X10_lives_23 σ else some (1 : Int32)
theorem t_X10_lives {M : Mx} {l0 : Launch} (O : Ok M cX10_lives yX10_lives) (R0 : Rm M l0 3 101 0 0) (N : Ma M = false) (hn : Mn M = 2) (a0 : Nat) (x1 : Int32) (σ : Dt) (o : Int32) (h : f_X10_lives a0 x1 σ = some o) (K : Fin' M (some .boolean) 0 0 SX σ (some (vI o))) : G M 0 0 0 [(0, vA (some a0)), (1, vI x1)] [] SX σ := by
  unfold f_X10_lives at h
  refine g_aload_n O dX10_lives_0 rfl 0 rfl ?_
  refine g_iload_n O dX10_lives_1 rfl 1 rfl ?_
  obtain ⟨a1, e2, h⟩ := bo_some h
  obtain ⟨v3, e4, h⟩ := bo_some h
  refine g_cV1 O R0 N dX10_lives_2 vl_X10_153 vv_X10_hasFolk e2 [vI x1] rfl rfl rfl ⟨Nat.le_of_ble_eq_true rfl, Nat.le_of_ble_eq_true rfl⟩ (c_X10_hasFolk l0 a1 x1 σ v3 e4) ?_
  refine g_if_eq O dX10_lives_5 rfl (fun c5 => ?_) (fun c5 => ?_)
  · replace h := (if_pos c5).symm.trans h
    refine g_sub [] (lv' := []) rfl ?_
    exact t_X10_lives_23 O R0 N hn σ o h K
  · replace h := (if_neg c5).symm.trans h
    refine g_aload_n O dX10_lives_8 rfl 0 rfl ?_
    obtain ⟨v6, e7, h⟩ := bo_some h
    refine g_getI O dX10_lives_9 fl_X10_72 rfl e7 ?_
    refine g_iload_n O dX10_lives_12 rfl 1 rfl ?_
    refine g_ishr O dX10_lives_13 ?_
    refine g_iconst (v := (1 : Int32)) O dX10_lives_14 rfl ?_
    refine g_iand O dX10_lives_15 ?_
    refine g_if_eq O dX10_lives_16 rfl (fun c8 => ?_) (fun c8 => ?_)
    · replace h := (if_pos c8).symm.trans h
      refine g_sub [] (lv' := []) rfl ?_
      exact t_X10_lives_23 O R0 N hn σ o h K
    · replace h := (if_neg c8).symm.trans h
      refine g_iconst (v := (1 : Int32)) O dX10_lives_19 rfl ?_
      refine g_goto O dX10_lives_20 rfl ?_
      cases h
      exact g_zreturn O (by decide) K dX10_lives_24
theorem c_X10_lives (l0 : Launch) (a0 : Nat) (x1 : Int32) (σ : Dt) (r : Int32) (h : f_X10_lives a0 x1 σ = some r) : Ctr l0 yX10_lives cX10_lives 2 (some .boolean) false 3 101 0 0 [vA (some a0), vI x1] SX σ SX σ (some (vI r)) := ctr_of (by decide) (Nat.le_of_ble_eq_true rfl) (fun M O F R0 N hn => t_X10_lives O R0 N hn a0 x1 σ r h F)
def f_X10_hasWork_22  (σ : Dt) : Option Int32 := some (0 : Int32)
theorem t_X10_hasWork_22 {M : Mx} {l0 : Launch} (O : Ok M cX10_hasWork yX10_hasWork) (R0 : Rm M l0 2 80 0 0) (N : Ma M = false) (hn : Mn M = 2)   (σ : Dt) (o : Int32) (h : f_X10_hasWork_22 σ = some o) (K : Fin' M (some .boolean) 0 0 SX σ (some (vI o))) : G M 0 0 22 [] [] SX σ := by
  unfold f_X10_hasWork_22 at h
  refine g_iconst (v := (0 : Int32)) O dX10_hasWork_22 rfl ?_
  cases h
  exact g_zreturn O (by decide) K dX10_hasWork_23
def f_X10_hasWork (a0 : Nat) (x1 : Int32) (σ : Dt) : Option Int32 := if x1 < 0 then f_X10_hasWork_22 σ else bo (xgi SX 10 2 (some a0) σ) fun v2 => if v2 ≤ x1 then f_X10_hasWork_22 σ else if (6 : Int32) ≤ x1 then f_X10_hasWork_22 σ else some (1 : Int32)
theorem t_X10_hasWork {M : Mx} {l0 : Launch} (O : Ok M cX10_hasWork yX10_hasWork) (R0 : Rm M l0 2 80 0 0) (N : Ma M = false) (hn : Mn M = 2) (a0 : Nat) (x1 : Int32) (σ : Dt) (o : Int32) (h : f_X10_hasWork a0 x1 σ = some o) (K : Fin' M (some .boolean) 0 0 SX σ (some (vI o))) : G M 0 0 0 [(0, vA (some a0)), (1, vI x1)] [] SX σ := by
  unfold f_X10_hasWork at h
  refine g_iload_n O dX10_hasWork_0 rfl 1 rfl ?_
  refine g_if_lt O dX10_hasWork_1 rfl (fun c1 => ?_) (fun c1 => ?_)
  · replace h := (if_pos c1).symm.trans h
    refine g_sub [] (lv' := []) rfl ?_
    exact t_X10_hasWork_22 O R0 N hn σ o h K
  · replace h := (if_neg c1).symm.trans h
    refine g_iload_n O dX10_hasWork_4 rfl 1 rfl ?_
    refine g_aload_n O dX10_hasWork_5 rfl 0 rfl ?_
    obtain ⟨v2, e3, h⟩ := bo_some h
    refine g_getI O dX10_hasWork_6 fl_X10_67 rfl e3 ?_
    refine g_icmp_ge O dX10_hasWork_9 rfl (fun c4 => ?_) (fun c4 => ?_)
    · replace h := (if_pos c4).symm.trans h
      refine g_sub [] (lv' := []) rfl ?_
      exact t_X10_hasWork_22 O R0 N hn σ o h K
    · replace h := (if_neg c4).symm.trans h
      refine g_iload_n O dX10_hasWork_12 rfl 1 rfl ?_
      refine g_bipush (v := (6 : Int32)) O dX10_hasWork_13 rfl ?_
      refine g_icmp_ge O dX10_hasWork_15 rfl (fun c5 => ?_) (fun c5 => ?_)
      · replace h := (if_pos c5).symm.trans h
        refine g_sub [] (lv' := []) rfl ?_
        exact t_X10_hasWork_22 O R0 N hn σ o h K
      · replace h := (if_neg c5).symm.trans h
        refine g_iconst (v := (1 : Int32)) O dX10_hasWork_18 rfl ?_
        refine g_goto O dX10_hasWork_19 rfl ?_
        cases h
        exact g_zreturn O (by decide) K dX10_hasWork_23
theorem c_X10_hasWork (l0 : Launch) (a0 : Nat) (x1 : Int32) (σ : Dt) (r : Int32) (h : f_X10_hasWork a0 x1 σ = some r) : Ctr l0 yX10_hasWork cX10_hasWork 2 (some .boolean) false 2 80 0 0 [vA (some a0), vI x1] SX σ SX σ (some (vI r)) := ctr_of (by decide) (Nat.le_of_ble_eq_true rfl) (fun M O F R0 N hn => t_X10_hasWork O R0 N hn a0 x1 σ r h F)
def f_X10_isDone_27  (σ : Dt) : Option Int32 := some (0 : Int32)
theorem t_X10_isDone_27 {M : Mx} {l0 : Launch} (O : Ok M cX10_isDone yX10_isDone) (R0 : Rm M l0 3 101 0 0) (N : Ma M = false) (hn : Mn M = 2)   (σ : Dt) (o : Int32) (h : f_X10_isDone_27 σ = some o) (K : Fin' M (some .boolean) 0 0 SX σ (some (vI o))) : G M 0 0 27 [] [] SX σ := by
  unfold f_X10_isDone_27 at h
  refine g_iconst (v := (0 : Int32)) O dX10_isDone_27 rfl ?_
  cases h
  exact g_zreturn O (by decide) K dX10_isDone_28
def f_X10_isDone (a0 : Nat) (x1 : Int32) (σ : Dt) : Option Int32 := bo (xrc SX 10 (some a0)) fun a1 => bo (f_X10_hasWork a1 x1 σ) fun v3 => if v3 = 0 then f_X10_isDone_27 σ else bo (xgr SX 10 15 (some a0) σ) fun v6 => bo (xai SX v6 x1 σ) fun v8 => bo (xgr SX 10 14 (some a0) σ) fun v10 => bo (xai SX v10 x1 σ) fun v12 => if v8 < v12 then f_X10_isDone_27 σ else some (1 : Int32)
theorem t_X10_isDone {M : Mx} {l0 : Launch} (O : Ok M cX10_isDone yX10_isDone) (R0 : Rm M l0 3 101 0 0) (N : Ma M = false) (hn : Mn M = 2) (a0 : Nat) (x1 : Int32) (σ : Dt) (o : Int32) (h : f_X10_isDone a0 x1 σ = some o) (K : Fin' M (some .boolean) 0 0 SX σ (some (vI o))) : G M 0 0 0 [(0, vA (some a0)), (1, vI x1)] [] SX σ := by
  unfold f_X10_isDone at h
  refine g_aload_n O dX10_isDone_0 rfl 0 rfl ?_
  refine g_iload_n O dX10_isDone_1 rfl 1 rfl ?_
  obtain ⟨a1, e2, h⟩ := bo_some h
  obtain ⟨v3, e4, h⟩ := bo_some h
  refine g_cV1 O R0 N dX10_isDone_2 vl_X10_156 vv_X10_hasWork e2 [vI x1] rfl rfl rfl ⟨Nat.le_of_ble_eq_true rfl, Nat.le_of_ble_eq_true rfl⟩ (c_X10_hasWork l0 a1 x1 σ v3 e4) ?_
  refine g_if_eq O dX10_isDone_5 rfl (fun c5 => ?_) (fun c5 => ?_)
  · replace h := (if_pos c5).symm.trans h
    refine g_sub [] (lv' := []) rfl ?_
    exact t_X10_isDone_27 O R0 N hn σ o h K
  · replace h := (if_neg c5).symm.trans h
    refine g_aload_n O dX10_isDone_8 rfl 0 rfl ?_
    obtain ⟨v6, e7, h⟩ := bo_some h
    refine g_getR O dX10_isDone_9 fl_X10_30 rfl e7 ?_
    refine g_iload_n O dX10_isDone_12 rfl 1 rfl ?_
    obtain ⟨v8, e9, h⟩ := bo_some h
    refine g_iaload O dX10_isDone_13 e9 ?_
    refine g_aload_n O dX10_isDone_14 rfl 0 rfl ?_
    obtain ⟨v10, e11, h⟩ := bo_some h
    refine g_getR O dX10_isDone_15 fl_X10_27 rfl e11 ?_
    refine g_iload_n O dX10_isDone_18 rfl 1 rfl ?_
    obtain ⟨v12, e13, h⟩ := bo_some h
    refine g_iaload O dX10_isDone_19 e13 ?_
    refine g_icmp_lt O dX10_isDone_20 rfl (fun c14 => ?_) (fun c14 => ?_)
    · replace h := (if_pos c14).symm.trans h
      refine g_sub [] (lv' := []) rfl ?_
      exact t_X10_isDone_27 O R0 N hn σ o h K
    · replace h := (if_neg c14).symm.trans h
      refine g_iconst (v := (1 : Int32)) O dX10_isDone_23 rfl ?_
      refine g_goto O dX10_isDone_24 rfl ?_
      cases h
      exact g_zreturn O (by decide) K dX10_isDone_28
theorem c_X10_isDone (l0 : Launch) (a0 : Nat) (x1 : Int32) (σ : Dt) (r : Int32) (h : f_X10_isDone a0 x1 σ = some r) : Ctr l0 yX10_isDone cX10_isDone 2 (some .boolean) false 3 101 0 0 [vA (some a0), vI x1] SX σ SX σ (some (vI r)) := ctr_of (by decide) (Nat.le_of_ble_eq_true rfl) (fun M O F R0 N hn => t_X10_isDone O R0 N hn a0 x1 σ r h F)
def f_X10_makePromise_128 (a0 : Nat) (k0 : Option Nat) (k1 : Int32) (k2 : Int32) (σ : Dt) : Option (Int32 × Dt) := bo (xsi SX k0 k1 k2 σ) fun σ1 => bo (xgi SX 10 6 (some a0) σ1) fun v3 => bo (xpi SX 10 6 (some a0) (v3 + (1 : Int32)) σ1) fun σ5 => some ((1 : Int32), σ5)
theorem t_X10_makePromise_128 {M : Mx} {l0 : Launch} (O : Ok M cX10_makePromise yX10_makePromise) (R0 : Rm M l0 4 122 0 0) (N : Ma M = false) (hn : Mn M = 4)  (a0 : Nat) (k0 : Option Nat) (k1 : Int32) (k2 : Int32) (σ : Dt) (o : (Int32 × Dt)) (h : f_X10_makePromise_128 a0 k0 k1 k2 σ = some o) (K : Fin' M (some .boolean) 0 0 SX o.2 (some (vI o.1))) : G M 0 0 128 [(0, vA (some a0))] [vI k2, vI k1, vA k0] SX σ := by
  unfold f_X10_makePromise_128 at h
  obtain ⟨σ1, e2, h⟩ := bo_some h
  refine g_iastore O dX10_makePromise_128 e2 ?_
  refine g_aload_n O dX10_makePromise_129 rfl 0 rfl ?_
  refine g_dup O dX10_makePromise_130 rfl ?_
  obtain ⟨v3, e4, h⟩ := bo_some h
  refine g_getI O dX10_makePromise_131 fl_X10_78 rfl e4 ?_
  refine g_iconst (v := (1 : Int32)) O dX10_makePromise_134 rfl ?_
  refine g_iadd O dX10_makePromise_135 ?_
  obtain ⟨σ5, e6, h⟩ := bo_some h
  refine g_putI O dX10_makePromise_136 fl_X10_78 (Or.inl rfl) rfl e6 ?_
  refine g_iconst (v := (1 : Int32)) O dX10_makePromise_139 rfl ?_
  cases h
  exact g_zreturn O (by decide) K dX10_makePromise_140
def f_X10_makePromise (a0 : Nat) (x1 : Int32) (x2 : Int32) (x3 : Int32) (σ : Dt) : Option (Int32 × Dt) := bo (xrc SX 10 (some a0)) fun a1 => bo (f_X10_lives a1 x1 σ) fun v3 => if v3 = 0 then some ((0 : Int32), σ) else bo (xgr SX 10 9 (some a0) σ) fun v6 => bo (xai SX v6 x1 σ) fun v8 => if (10 : Int32) ≤ v8 then some ((0 : Int32), σ) else bo (xgi SX 10 5 (some a0) σ) fun v11 => if ((v11 >>> (x1 &&& 31)) &&& (1 : Int32)) = 0 then bo (xrc SX 10 (some a0)) fun a14 => bo (f_X10_hasWork a14 x2 σ) fun v16 => if v16 = 0 then some ((0 : Int32), σ) else bo (xrc SX 10 (some a0)) fun a19 => bo (f_X10_isDone a19 x2 σ) fun v21 => if v21 = 0 then bo (xgi SX 10 6 (some a0) σ) fun v24 => if v24 < 0 then some ((0 : Int32), σ) else bo (xgi SX 10 6 (some a0) σ) fun v27 => if v27 < (12 : Int32) then bo (xgr SX 10 16 (some a0) σ) fun v30 => bo (xgi SX 10 6 (some a0) σ) fun v32 => bo (xsi SX v30 v32 x1 σ) fun σ34 => bo (xgr SX 10 17 (some a0) σ34) fun v36 => bo (xgi SX 10 6 (some a0) σ34) fun v38 => bo (xsi SX v36 v38 x2 σ34) fun σ40 => bo (xgr SX 10 18 (some a0) σ40) fun v42 => bo (xgi SX 10 6 (some a0) σ40) fun v44 => bo (xgi SX 10 0 (some a0) σ40) fun v46 => bo (xsi SX v42 v44 (v46 + x3) σ40) fun σ48 => bo (xgr SX 10 19 (some a0) σ48) fun v50 => bo (xgi SX 10 6 (some a0) σ48) fun v52 => bo (xgr SX 10 12 (some a0) σ48) fun v54 => bo (xai SX v54 x1 σ48) fun v56 => bo (xgi SX 10 4 (some a0) σ48) fun v58 => if (v56 &&& v58) = 0 then f_X10_makePromise_128 a0 v50 v52 (4 : Int32) σ48 else f_X10_makePromise_128 a0 v50 v52 (0 : Int32) σ48 else some ((0 : Int32), σ) else some ((0 : Int32), σ) else some ((0 : Int32), σ)
theorem t_X10_makePromise {M : Mx} {l0 : Launch} (O : Ok M cX10_makePromise yX10_makePromise) (R0 : Rm M l0 4 122 0 0) (N : Ma M = false) (hn : Mn M = 4) (a0 : Nat) (x1 : Int32) (x2 : Int32) (x3 : Int32) (σ : Dt) (o : (Int32 × Dt)) (h : f_X10_makePromise a0 x1 x2 x3 σ = some o) (K : Fin' M (some .boolean) 0 0 SX o.2 (some (vI o.1))) : G M 0 0 0 [(0, vA (some a0)), (1, vI x1), (2, vI x2), (3, vI x3)] [] SX σ := by
  unfold f_X10_makePromise at h
  refine g_aload_n O dX10_makePromise_0 rfl 0 rfl ?_
  refine g_iload_n O dX10_makePromise_1 rfl 1 rfl ?_
  obtain ⟨a1, e2, h⟩ := bo_some h
  obtain ⟨v3, e4, h⟩ := bo_some h
  refine g_cV1 O R0 N dX10_makePromise_2 vl_X10_159 vv_X10_lives e2 [vI x1] rfl rfl rfl ⟨Nat.le_of_ble_eq_true rfl, Nat.le_of_ble_eq_true rfl⟩ (c_X10_lives l0 a1 x1 σ v3 e4) ?_
  refine g_if_eq O dX10_makePromise_5 rfl (fun c5 => ?_) (fun c5 => ?_)
  · replace h := (if_pos c5).symm.trans h
    refine g_iconst (v := (0 : Int32)) O dX10_makePromise_30 rfl ?_
    cases h
    exact g_zreturn O (by decide) K dX10_makePromise_31
  · replace h := (if_neg c5).symm.trans h
    refine g_aload_n O dX10_makePromise_8 rfl 0 rfl ?_
    obtain ⟨v6, e7, h⟩ := bo_some h
    refine g_getR O dX10_makePromise_9 fl_X10_9 rfl e7 ?_
    refine g_iload_n O dX10_makePromise_12 rfl 1 rfl ?_
    obtain ⟨v8, e9, h⟩ := bo_some h
    refine g_iaload O dX10_makePromise_13 e9 ?_
    refine g_bipush (v := (10 : Int32)) O dX10_makePromise_14 rfl ?_
    refine g_icmp_ge O dX10_makePromise_16 rfl (fun c10 => ?_) (fun c10 => ?_)
    · replace h := (if_pos c10).symm.trans h
      refine g_iconst (v := (0 : Int32)) O dX10_makePromise_30 rfl ?_
      cases h
      exact g_zreturn O (by decide) K dX10_makePromise_31
    · replace h := (if_neg c10).symm.trans h
      refine g_aload_n O dX10_makePromise_19 rfl 0 rfl ?_
      obtain ⟨v11, e12, h⟩ := bo_some h
      refine g_getI O dX10_makePromise_20 fl_X10_75 rfl e12 ?_
      refine g_iload_n O dX10_makePromise_23 rfl 1 rfl ?_
      refine g_ishr O dX10_makePromise_24 ?_
      refine g_iconst (v := (1 : Int32)) O dX10_makePromise_25 rfl ?_
      refine g_iand O dX10_makePromise_26 ?_
      refine g_if_eq O dX10_makePromise_27 rfl (fun c13 => ?_) (fun c13 => ?_)
      · replace h := (if_pos c13).symm.trans h
        refine g_aload_n O dX10_makePromise_32 rfl 0 rfl ?_
        refine g_iload_n O dX10_makePromise_33 rfl 2 rfl ?_
        obtain ⟨a14, e15, h⟩ := bo_some h
        obtain ⟨v16, e17, h⟩ := bo_some h
        refine g_cV1 O R0 N dX10_makePromise_34 vl_X10_156 vv_X10_hasWork e15 [vI x2] rfl rfl rfl ⟨Nat.le_of_ble_eq_true rfl, Nat.le_of_ble_eq_true rfl⟩ (c_X10_hasWork l0 a14 x2 σ v16 e17) ?_
        refine g_if_eq O dX10_makePromise_37 rfl (fun c18 => ?_) (fun c18 => ?_)
        · replace h := (if_pos c18).symm.trans h
          refine g_iconst (v := (0 : Int32)) O dX10_makePromise_64 rfl ?_
          cases h
          exact g_zreturn O (by decide) K dX10_makePromise_65
        · replace h := (if_neg c18).symm.trans h
          refine g_aload_n O dX10_makePromise_40 rfl 0 rfl ?_
          refine g_iload_n O dX10_makePromise_41 rfl 2 rfl ?_
          obtain ⟨a19, e20, h⟩ := bo_some h
          obtain ⟨v21, e22, h⟩ := bo_some h
          refine g_cV1 O R0 N dX10_makePromise_42 vl_X10_162 vv_X10_isDone e20 [vI x2] rfl rfl rfl ⟨Nat.le_of_ble_eq_true rfl, Nat.le_of_ble_eq_true rfl⟩ (c_X10_isDone l0 a19 x2 σ v21 e22) ?_
          refine g_if_ne O dX10_makePromise_45 rfl (fun c23 => ?_) (fun c23 => ?_)
          · replace h := (if_pos c23).symm.trans h
            refine g_aload_n O dX10_makePromise_48 rfl 0 rfl ?_
            obtain ⟨v24, e25, h⟩ := bo_some h
            refine g_getI O dX10_makePromise_49 fl_X10_78 rfl e25 ?_
            refine g_if_lt O dX10_makePromise_52 rfl (fun c26 => ?_) (fun c26 => ?_)
            · replace h := (if_pos c26).symm.trans h
              refine g_iconst (v := (0 : Int32)) O dX10_makePromise_64 rfl ?_
              cases h
              exact g_zreturn O (by decide) K dX10_makePromise_65
            · replace h := (if_neg c26).symm.trans h
              refine g_aload_n O dX10_makePromise_55 rfl 0 rfl ?_
              obtain ⟨v27, e28, h⟩ := bo_some h
              refine g_getI O dX10_makePromise_56 fl_X10_78 rfl e28 ?_
              refine g_bipush (v := (12 : Int32)) O dX10_makePromise_59 rfl ?_
              refine g_icmp_lt O dX10_makePromise_61 rfl (fun c29 => ?_) (fun c29 => ?_)
              · replace h := (if_pos c29).symm.trans h
                refine g_aload_n O dX10_makePromise_66 rfl 0 rfl ?_
                obtain ⟨v30, e31, h⟩ := bo_some h
                refine g_getR O dX10_makePromise_67 fl_X10_33 rfl e31 ?_
                refine g_aload_n O dX10_makePromise_70 rfl 0 rfl ?_
                obtain ⟨v32, e33, h⟩ := bo_some h
                refine g_getI O dX10_makePromise_71 fl_X10_78 rfl e33 ?_
                refine g_iload_n O dX10_makePromise_74 rfl 1 rfl ?_
                obtain ⟨σ34, e35, h⟩ := bo_some h
                refine g_iastore O dX10_makePromise_75 e35 ?_
                refine g_aload_n O dX10_makePromise_76 rfl 0 rfl ?_
                obtain ⟨v36, e37, h⟩ := bo_some h
                refine g_getR O dX10_makePromise_77 fl_X10_36 rfl e37 ?_
                refine g_aload_n O dX10_makePromise_80 rfl 0 rfl ?_
                obtain ⟨v38, e39, h⟩ := bo_some h
                refine g_getI O dX10_makePromise_81 fl_X10_78 rfl e39 ?_
                refine g_iload_n O dX10_makePromise_84 rfl 2 rfl ?_
                obtain ⟨σ40, e41, h⟩ := bo_some h
                refine g_iastore O dX10_makePromise_85 e41 ?_
                refine g_aload_n O dX10_makePromise_86 rfl 0 rfl ?_
                obtain ⟨v42, e43, h⟩ := bo_some h
                refine g_getR O dX10_makePromise_87 fl_X10_39 rfl e43 ?_
                refine g_aload_n O dX10_makePromise_90 rfl 0 rfl ?_
                obtain ⟨v44, e45, h⟩ := bo_some h
                refine g_getI O dX10_makePromise_91 fl_X10_78 rfl e45 ?_
                refine g_aload_n O dX10_makePromise_94 rfl 0 rfl ?_
                obtain ⟨v46, e47, h⟩ := bo_some h
                refine g_getI O dX10_makePromise_95 fl_X10_45 rfl e47 ?_
                refine g_iload_n O dX10_makePromise_98 rfl 3 rfl ?_
                refine g_iadd O dX10_makePromise_99 ?_
                obtain ⟨σ48, e49, h⟩ := bo_some h
                refine g_iastore O dX10_makePromise_100 e49 ?_
                refine g_aload_n O dX10_makePromise_101 rfl 0 rfl ?_
                obtain ⟨v50, e51, h⟩ := bo_some h
                refine g_getR O dX10_makePromise_102 fl_X10_42 rfl e51 ?_
                refine g_aload_n O dX10_makePromise_105 rfl 0 rfl ?_
                obtain ⟨v52, e53, h⟩ := bo_some h
                refine g_getI O dX10_makePromise_106 fl_X10_78 rfl e53 ?_
                refine g_aload_n O dX10_makePromise_109 rfl 0 rfl ?_
                obtain ⟨v54, e55, h⟩ := bo_some h
                refine g_getR O dX10_makePromise_110 fl_X10_21 rfl e55 ?_
                refine g_iload_n O dX10_makePromise_113 rfl 1 rfl ?_
                obtain ⟨v56, e57, h⟩ := bo_some h
                refine g_iaload O dX10_makePromise_114 e57 ?_
                refine g_aload_n O dX10_makePromise_115 rfl 0 rfl ?_
                obtain ⟨v58, e59, h⟩ := bo_some h
                refine g_getI O dX10_makePromise_116 fl_X10_72 rfl e59 ?_
                refine g_iand O dX10_makePromise_119 ?_
                refine g_if_ne O dX10_makePromise_120 rfl (fun c60 => ?_) (fun c60 => ?_)
                · replace h := (if_pos c60).symm.trans h
                  refine g_iconst (v := (4 : Int32)) O dX10_makePromise_123 rfl ?_
                  refine g_goto O dX10_makePromise_124 rfl ?_
                  refine g_sub [0] (lv' := [(0, vA (some a0))]) rfl ?_
                  exact t_X10_makePromise_128 O R0 N hn a0 v50 v52 (4 : Int32) σ48 o h K
                · replace h := (if_neg c60).symm.trans h
                  refine g_iconst (v := (0 : Int32)) O dX10_makePromise_127 rfl ?_
                  refine g_sub [0] (lv' := [(0, vA (some a0))]) rfl ?_
                  exact t_X10_makePromise_128 O R0 N hn a0 v50 v52 (0 : Int32) σ48 o h K
              · replace h := (if_neg c29).symm.trans h
                refine g_iconst (v := (0 : Int32)) O dX10_makePromise_64 rfl ?_
                cases h
                exact g_zreturn O (by decide) K dX10_makePromise_65
          · replace h := (if_neg c23).symm.trans h
            refine g_iconst (v := (0 : Int32)) O dX10_makePromise_64 rfl ?_
            cases h
            exact g_zreturn O (by decide) K dX10_makePromise_65
      · replace h := (if_neg c13).symm.trans h
        refine g_iconst (v := (0 : Int32)) O dX10_makePromise_30 rfl ?_
        cases h
        exact g_zreturn O (by decide) K dX10_makePromise_31
theorem c_X10_makePromise (l0 : Launch) (a0 : Nat) (x1 : Int32) (x2 : Int32) (x3 : Int32) (σ : Dt) (r : Int32) (σ' : Dt) (h : f_X10_makePromise a0 x1 x2 x3 σ = some (r, σ')) : Ctr l0 yX10_makePromise cX10_makePromise 4 (some .boolean) false 4 122 0 0 [vA (some a0), vI x1, vI x2, vI x3] SX σ SX σ' (some (vI r)) := ctr_of (by decide) (Nat.le_of_ble_eq_true rfl) (fun M O F R0 N hn => t_X10_makePromise O R0 N hn a0 x1 x2 x3 σ (r, σ') h F)
def f_X10_bear (a0 : Nat) (x1 : Int32) (x2 : Int32) (σ : Dt) : Option (Int32 × Dt) := bo (xrc SX 10 (some a0)) fun a1 => bo (f_X10_lives a1 x1 σ) fun v3 => if v3 = 0 then some ((0 : Int32), σ) else bo (xgr SX 10 9 (some a0) σ) fun v6 => bo (xai SX v6 x1 σ) fun v8 => if v8 < (16 : Int32) then some ((0 : Int32), σ) else bo (xgi SX 10 1 (some a0) σ) fun v11 => if v11 < (10 : Int32) then bo (xgr SX 10 9 (some a0) σ) fun v14 => bo (xgi SX 10 1 (some a0) σ) fun v16 => bo (xsi SX v14 v16 (0 : Int32) σ) fun σ18 => bo (xgr SX 10 10 (some a0) σ18) fun v20 => bo (xgi SX 10 1 (some a0) σ18) fun v22 => bo (xsi SX v20 v22 x2 σ18) fun σ24 => bo (xgr SX 10 11 (some a0) σ24) fun v26 => bo (xgi SX 10 1 (some a0) σ24) fun v28 => bo (xsi SX v26 v28 ((1 : Int32) <<< (x1 &&& 31)) σ24) fun σ30 => bo (xgr SX 10 12 (some a0) σ30) fun v32 => bo (xgi SX 10 1 (some a0) σ30) fun v34 => bo (xgr SX 10 11 (some a0) σ30) fun v36 => bo (xai SX v36 x1 σ30) fun v38 => bo (xsi SX v32 v34 v38 σ30) fun σ40 => bo (xgi SX 10 4 (some a0) σ40) fun v42 => bo (xgi SX 10 1 (some a0) σ40) fun v44 => bo (xpi SX 10 4 (some a0) (v42 ||| ((1 : Int32) <<< (v44 &&& 31))) σ40) fun σ46 => bo (xgi SX 10 1 (some a0) σ46) fun v48 => bo (xpi SX 10 1 (some a0) (v48 + (1 : Int32)) σ46) fun σ50 => some ((1 : Int32), σ50) else some ((0 : Int32), σ)
theorem t_X10_bear {M : Mx} {l0 : Launch} (O : Ok M cX10_bear yX10_bear) (R0 : Rm M l0 4 122 0 0) (N : Ma M = false) (hn : Mn M = 3) (a0 : Nat) (x1 : Int32) (x2 : Int32) (σ : Dt) (o : (Int32 × Dt)) (h : f_X10_bear a0 x1 x2 σ = some o) (K : Fin' M (some .boolean) 0 0 SX o.2 (some (vI o.1))) : G M 0 0 0 [(0, vA (some a0)), (1, vI x1), (2, vI x2)] [] SX σ := by
  unfold f_X10_bear at h
  refine g_aload_n O dX10_bear_0 rfl 0 rfl ?_
  refine g_iload_n O dX10_bear_1 rfl 1 rfl ?_
  obtain ⟨a1, e2, h⟩ := bo_some h
  obtain ⟨v3, e4, h⟩ := bo_some h
  refine g_cV1 O R0 N dX10_bear_2 vl_X10_159 vv_X10_lives e2 [vI x1] rfl rfl rfl ⟨Nat.le_of_ble_eq_true rfl, Nat.le_of_ble_eq_true rfl⟩ (c_X10_lives l0 a1 x1 σ v3 e4) ?_
  refine g_if_eq O dX10_bear_5 rfl (fun c5 => ?_) (fun c5 => ?_)
  · replace h := (if_pos c5).symm.trans h
    refine g_iconst (v := (0 : Int32)) O dX10_bear_28 rfl ?_
    cases h
    exact g_zreturn O (by decide) K dX10_bear_29
  · replace h := (if_neg c5).symm.trans h
    refine g_aload_n O dX10_bear_8 rfl 0 rfl ?_
    obtain ⟨v6, e7, h⟩ := bo_some h
    refine g_getR O dX10_bear_9 fl_X10_9 rfl e7 ?_
    refine g_iload_n O dX10_bear_12 rfl 1 rfl ?_
    obtain ⟨v8, e9, h⟩ := bo_some h
    refine g_iaload O dX10_bear_13 e9 ?_
    refine g_bipush (v := (16 : Int32)) O dX10_bear_14 rfl ?_
    refine g_icmp_lt O dX10_bear_16 rfl (fun c10 => ?_) (fun c10 => ?_)
    · replace h := (if_pos c10).symm.trans h
      refine g_iconst (v := (0 : Int32)) O dX10_bear_28 rfl ?_
      cases h
      exact g_zreturn O (by decide) K dX10_bear_29
    · replace h := (if_neg c10).symm.trans h
      refine g_aload_n O dX10_bear_19 rfl 0 rfl ?_
      obtain ⟨v11, e12, h⟩ := bo_some h
      refine g_getI O dX10_bear_20 fl_X10_63 rfl e12 ?_
      refine g_bipush (v := (10 : Int32)) O dX10_bear_23 rfl ?_
      refine g_icmp_lt O dX10_bear_25 rfl (fun c13 => ?_) (fun c13 => ?_)
      · replace h := (if_pos c13).symm.trans h
        refine g_aload_n O dX10_bear_30 rfl 0 rfl ?_
        obtain ⟨v14, e15, h⟩ := bo_some h
        refine g_getR O dX10_bear_31 fl_X10_9 rfl e15 ?_
        refine g_aload_n O dX10_bear_34 rfl 0 rfl ?_
        obtain ⟨v16, e17, h⟩ := bo_some h
        refine g_getI O dX10_bear_35 fl_X10_63 rfl e17 ?_
        refine g_iconst (v := (0 : Int32)) O dX10_bear_38 rfl ?_
        obtain ⟨σ18, e19, h⟩ := bo_some h
        refine g_iastore O dX10_bear_39 e19 ?_
        refine g_aload_n O dX10_bear_40 rfl 0 rfl ?_
        obtain ⟨v20, e21, h⟩ := bo_some h
        refine g_getR O dX10_bear_41 fl_X10_15 rfl e21 ?_
        refine g_aload_n O dX10_bear_44 rfl 0 rfl ?_
        obtain ⟨v22, e23, h⟩ := bo_some h
        refine g_getI O dX10_bear_45 fl_X10_63 rfl e23 ?_
        refine g_iload_n O dX10_bear_48 rfl 2 rfl ?_
        obtain ⟨σ24, e25, h⟩ := bo_some h
        refine g_iastore O dX10_bear_49 e25 ?_
        refine g_aload_n O dX10_bear_50 rfl 0 rfl ?_
        obtain ⟨v26, e27, h⟩ := bo_some h
        refine g_getR O dX10_bear_51 fl_X10_18 rfl e27 ?_
        refine g_aload_n O dX10_bear_54 rfl 0 rfl ?_
        obtain ⟨v28, e29, h⟩ := bo_some h
        refine g_getI O dX10_bear_55 fl_X10_63 rfl e29 ?_
        refine g_iconst (v := (1 : Int32)) O dX10_bear_58 rfl ?_
        refine g_iload_n O dX10_bear_59 rfl 1 rfl ?_
        refine g_ishl O dX10_bear_60 ?_
        obtain ⟨σ30, e31, h⟩ := bo_some h
        refine g_iastore O dX10_bear_61 e31 ?_
        refine g_aload_n O dX10_bear_62 rfl 0 rfl ?_
        obtain ⟨v32, e33, h⟩ := bo_some h
        refine g_getR O dX10_bear_63 fl_X10_21 rfl e33 ?_
        refine g_aload_n O dX10_bear_66 rfl 0 rfl ?_
        obtain ⟨v34, e35, h⟩ := bo_some h
        refine g_getI O dX10_bear_67 fl_X10_63 rfl e35 ?_
        refine g_aload_n O dX10_bear_70 rfl 0 rfl ?_
        obtain ⟨v36, e37, h⟩ := bo_some h
        refine g_getR O dX10_bear_71 fl_X10_18 rfl e37 ?_
        refine g_iload_n O dX10_bear_74 rfl 1 rfl ?_
        obtain ⟨v38, e39, h⟩ := bo_some h
        refine g_iaload O dX10_bear_75 e39 ?_
        obtain ⟨σ40, e41, h⟩ := bo_some h
        refine g_iastore O dX10_bear_76 e41 ?_
        refine g_aload_n O dX10_bear_77 rfl 0 rfl ?_
        refine g_dup O dX10_bear_78 rfl ?_
        obtain ⟨v42, e43, h⟩ := bo_some h
        refine g_getI O dX10_bear_79 fl_X10_72 rfl e43 ?_
        refine g_iconst (v := (1 : Int32)) O dX10_bear_82 rfl ?_
        refine g_aload_n O dX10_bear_83 rfl 0 rfl ?_
        obtain ⟨v44, e45, h⟩ := bo_some h
        refine g_getI O dX10_bear_84 fl_X10_63 rfl e45 ?_
        refine g_ishl O dX10_bear_87 ?_
        refine g_ior O dX10_bear_88 ?_
        obtain ⟨σ46, e47, h⟩ := bo_some h
        refine g_putI O dX10_bear_89 fl_X10_72 (Or.inl rfl) rfl e47 ?_
        refine g_aload_n O dX10_bear_92 rfl 0 rfl ?_
        refine g_dup O dX10_bear_93 rfl ?_
        obtain ⟨v48, e49, h⟩ := bo_some h
        refine g_getI O dX10_bear_94 fl_X10_63 rfl e49 ?_
        refine g_iconst (v := (1 : Int32)) O dX10_bear_97 rfl ?_
        refine g_iadd O dX10_bear_98 ?_
        obtain ⟨σ50, e51, h⟩ := bo_some h
        refine g_putI O dX10_bear_99 fl_X10_63 (Or.inl rfl) rfl e51 ?_
        refine g_iconst (v := (1 : Int32)) O dX10_bear_102 rfl ?_
        cases h
        exact g_zreturn O (by decide) K dX10_bear_103
      · replace h := (if_neg c13).symm.trans h
        refine g_iconst (v := (0 : Int32)) O dX10_bear_28 rfl ?_
        cases h
        exact g_zreturn O (by decide) K dX10_bear_29
theorem c_X10_bear (l0 : Launch) (a0 : Nat) (x1 : Int32) (x2 : Int32) (σ : Dt) (r : Int32) (σ' : Dt) (h : f_X10_bear a0 x1 x2 σ = some (r, σ')) : Ctr l0 yX10_bear cX10_bear 3 (some .boolean) false 4 122 0 0 [vA (some a0), vI x1, vI x2] SX σ SX σ' (some (vI r)) := ctr_of (by decide) (Nat.le_of_ble_eq_true rfl) (fun M O F R0 N hn => t_X10_bear O R0 N hn a0 x1 x2 σ (r, σ') h F)
def f_X10_coverMouth (a0 : Nat) (x1 : Int32) (σ : Dt) : Option (Int32 × Dt) := bo (xrc SX 10 (some a0)) fun a1 => bo (f_X10_lives a1 x1 σ) fun v3 => if v3 = 0 then some ((0 : Int32), σ) else bo (xgr SX 10 9 (some a0) σ) fun v6 => bo (xai SX v6 x1 σ) fun v8 => if v8 < (10 : Int32) then bo (xgi SX 10 5 (some a0) σ) fun v11 => bo (xpi SX 10 5 (some a0) (v11 ||| ((1 : Int32) <<< (x1 &&& 31))) σ) fun σ13 => some ((1 : Int32), σ13) else some ((0 : Int32), σ)
theorem t_X10_coverMouth {M : Mx} {l0 : Launch} (O : Ok M cX10_coverMouth yX10_coverMouth) (R0 : Rm M l0 4 122 0 0) (N : Ma M = false) (hn : Mn M = 2) (a0 : Nat) (x1 : Int32) (σ : Dt) (o : (Int32 × Dt)) (h : f_X10_coverMouth a0 x1 σ = some o) (K : Fin' M (some .boolean) 0 0 SX o.2 (some (vI o.1))) : G M 0 0 0 [(0, vA (some a0)), (1, vI x1)] [] SX σ := by
  unfold f_X10_coverMouth at h
  refine g_aload_n O dX10_coverMouth_0 rfl 0 rfl ?_
  refine g_iload_n O dX10_coverMouth_1 rfl 1 rfl ?_
  obtain ⟨a1, e2, h⟩ := bo_some h
  obtain ⟨v3, e4, h⟩ := bo_some h
  refine g_cV1 O R0 N dX10_coverMouth_2 vl_X10_159 vv_X10_lives e2 [vI x1] rfl rfl rfl ⟨Nat.le_of_ble_eq_true rfl, Nat.le_of_ble_eq_true rfl⟩ (c_X10_lives l0 a1 x1 σ v3 e4) ?_
  refine g_if_eq O dX10_coverMouth_5 rfl (fun c5 => ?_) (fun c5 => ?_)
  · replace h := (if_pos c5).symm.trans h
    refine g_iconst (v := (0 : Int32)) O dX10_coverMouth_19 rfl ?_
    cases h
    exact g_zreturn O (by decide) K dX10_coverMouth_20
  · replace h := (if_neg c5).symm.trans h
    refine g_aload_n O dX10_coverMouth_8 rfl 0 rfl ?_
    obtain ⟨v6, e7, h⟩ := bo_some h
    refine g_getR O dX10_coverMouth_9 fl_X10_9 rfl e7 ?_
    refine g_iload_n O dX10_coverMouth_12 rfl 1 rfl ?_
    obtain ⟨v8, e9, h⟩ := bo_some h
    refine g_iaload O dX10_coverMouth_13 e9 ?_
    refine g_bipush (v := (10 : Int32)) O dX10_coverMouth_14 rfl ?_
    refine g_icmp_lt O dX10_coverMouth_16 rfl (fun c10 => ?_) (fun c10 => ?_)
    · replace h := (if_pos c10).symm.trans h
      refine g_aload_n O dX10_coverMouth_21 rfl 0 rfl ?_
      refine g_dup O dX10_coverMouth_22 rfl ?_
      obtain ⟨v11, e12, h⟩ := bo_some h
      refine g_getI O dX10_coverMouth_23 fl_X10_75 rfl e12 ?_
      refine g_iconst (v := (1 : Int32)) O dX10_coverMouth_26 rfl ?_
      refine g_iload_n O dX10_coverMouth_27 rfl 1 rfl ?_
      refine g_ishl O dX10_coverMouth_28 ?_
      refine g_ior O dX10_coverMouth_29 ?_
      obtain ⟨σ13, e14, h⟩ := bo_some h
      refine g_putI O dX10_coverMouth_30 fl_X10_75 (Or.inl rfl) rfl e14 ?_
      refine g_iconst (v := (1 : Int32)) O dX10_coverMouth_33 rfl ?_
      cases h
      exact g_zreturn O (by decide) K dX10_coverMouth_34
    · replace h := (if_neg c10).symm.trans h
      refine g_iconst (v := (0 : Int32)) O dX10_coverMouth_19 rfl ?_
      cases h
      exact g_zreturn O (by decide) K dX10_coverMouth_20
theorem c_X10_coverMouth (l0 : Launch) (a0 : Nat) (x1 : Int32) (σ : Dt) (r : Int32) (σ' : Dt) (h : f_X10_coverMouth a0 x1 σ = some (r, σ')) : Ctr l0 yX10_coverMouth cX10_coverMouth 2 (some .boolean) false 4 122 0 0 [vA (some a0), vI x1] SX σ SX σ' (some (vI r)) := ctr_of (by decide) (Nat.le_of_ble_eq_true rfl) (fun M O F R0 N hn => t_X10_coverMouth O R0 N hn a0 x1 σ (r, σ') h F)
