def f_X12_sightLine_140 (a0 : Nat) (σ : Dt) : Option (Unit × Dt) := bo (xrc SM 12 (some a0)) fun a1 => bd (f_X12_endsLine a1 σ) fun v3 σ4 => some ((), σ4)
theorem t_X12_sightLine_140 {M : Mx} {l0 : Launch} (O : Ok M cX12_sightLine yX12_sightLine) (R0 : Rm M l0 7 197 0 0) (N : Ma M = false) (hn : Mn M = 5)  (a0 : Nat) (σ : Dt) (o : (Unit × Dt)) (h : f_X12_sightLine_140 a0 σ = some o) (K : Fin' M (none) 0 0 SM o.2 (none)) : G M 0 0 140 [(0, vA (some a0))] [] SM σ := by
  unfold f_X12_sightLine_140 at h
  refine g_aload_n O dX12_sightLine_140 rfl 0 rfl ?_
  obtain ⟨a1, e2, h⟩ := bo_some h
  obtain ⟨v3, σ4, e5, h⟩ := bd_some h
  refine g_cV0 O R0 N dX12_sightLine_141 vl_X12_180 vv_X12_endsLine e2 [] rfl rfl rfl ⟨Nat.le_of_ble_eq_true rfl, Nat.le_of_ble_eq_true rfl⟩ (c_X12_endsLine l0 a1 σ v3 σ4 e5) ?_
  cases h
  exact g_return O K dX12_sightLine_144
def f_X12_sightLine_70 (a0 : Nat) (σ : Dt) : Option (Unit × Dt) := bo (xrc SM 12 (some a0)) fun a1 => bd (f_X12_numbered a1 (0 : Int32) (5 : Int32) σ) fun v3 σ4 => bo (xrc SM 12 (some a0)) fun a6 => bd (f_X12_numbered a6 (0 : Int32) (30 : Int32) σ4) fun v8 σ9 => bo (xgr SM 12 10 (some a0) σ9) fun v11 => bo (xai SM v11 (1 : Int32) σ9) fun v13 => if (8 : Int32) ≤ v13 then f_X12_sightLine_140 a0 σ9 else bo (xgr SM 12 10 (some a0) σ9) fun v16 => bo (xgr SM 12 10 (some a0) σ9) fun v18 => bo (xai SM v18 (1 : Int32) σ9) fun v20 => bo (xsi SM v16 ((2 : Int32) + ((2 : Int32) * v20)) v3 σ9) fun σ22 => bo (xgr SM 12 10 (some a0) σ22) fun v24 => bo (xgr SM 12 10 (some a0) σ22) fun v26 => bo (xai SM v26 (1 : Int32) σ22) fun v28 => bo (xsi SM v24 ((3 : Int32) + ((2 : Int32) * v28)) v8 σ22) fun σ30 => bo (xgr SM 12 10 (some a0) σ30) fun v32 => bo (xai SM v32 (1 : Int32) σ30) fun v34 => bo (xsi SM v32 (1 : Int32) (v34 + (1 : Int32)) σ30) fun σ36 => f_X12_sightLine_140 a0 σ36
theorem t_X12_sightLine_70 {M : Mx} {l0 : Launch} (O : Ok M cX12_sightLine yX12_sightLine) (R0 : Rm M l0 7 197 0 0) (N : Ma M = false) (hn : Mn M = 5)  (a0 : Nat) (σ : Dt) (o : (Unit × Dt)) (h : f_X12_sightLine_70 a0 σ = some o) (K : Fin' M (none) 0 0 SM o.2 (none)) : G M 0 0 70 [(0, vA (some a0))] [] SM σ := by
  unfold f_X12_sightLine_70 at h
  refine g_aload_n O dX12_sightLine_70 rfl 0 rfl ?_
  refine g_iconst (v := (0 : Int32)) O dX12_sightLine_71 rfl ?_
  refine g_iconst (v := (5 : Int32)) O dX12_sightLine_72 rfl ?_
  obtain ⟨a1, e2, h⟩ := bo_some h
  obtain ⟨v3, σ4, e5, h⟩ := bd_some h
  refine g_cV1 O R0 N dX12_sightLine_73 vl_X12_157 vv_X12_numbered e2 [vI (0 : Int32), vI (5 : Int32)] rfl rfl rfl ⟨Nat.le_of_ble_eq_true rfl, Nat.le_of_ble_eq_true rfl⟩ (c_X12_numbered l0 a1 (0 : Int32) (5 : Int32) σ v3 σ4 e5) ?_
  refine g_istore_n (lv' := [(3, vI v3), (0, vA (some a0))]) O dX12_sightLine_76 rfl 5 hn (by decide) rfl ?_
  refine g_aload_n O dX12_sightLine_77 rfl 1 rfl ?_
  refine g_iconst (v := (0 : Int32)) O dX12_sightLine_78 rfl ?_
  refine g_bipush (v := (30 : Int32)) O dX12_sightLine_79 rfl ?_
  obtain ⟨a6, e7, h⟩ := bo_some h
  obtain ⟨v8, σ9, e10, h⟩ := bd_some h
  refine g_cV1 O R0 N dX12_sightLine_81 vl_X12_157 vv_X12_numbered e7 [vI (0 : Int32), vI (30 : Int32)] rfl rfl rfl ⟨Nat.le_of_ble_eq_true rfl, Nat.le_of_ble_eq_true rfl⟩ (c_X12_numbered l0 a6 (0 : Int32) (30 : Int32) σ4 v8 σ9 e10) ?_
  refine g_istore (lv' := [(4, vI v8), (3, vI v3), (0, vA (some a0))]) O dX12_sightLine_84 5 hn (by decide) rfl ?_
  refine g_aload_n O dX12_sightLine_86 rfl 2 rfl ?_
  obtain ⟨v11, e12, h⟩ := bo_some h
  refine g_getR O dX12_sightLine_87 fl_X12_17 rfl e12 ?_
  refine g_iconst (v := (1 : Int32)) O dX12_sightLine_90 rfl ?_
  obtain ⟨v13, e14, h⟩ := bo_some h
  refine g_iaload O dX12_sightLine_91 e14 ?_
  refine g_bipush (v := (8 : Int32)) O dX12_sightLine_92 rfl ?_
  refine g_icmp_ge O dX12_sightLine_94 rfl (fun c15 => ?_) (fun c15 => ?_)
  · replace h := (if_pos c15).symm.trans h
    refine g_sub [2] (lv' := [(0, vA (some a0))]) rfl ?_
    exact t_X12_sightLine_140 O R0 N hn a0 σ9 o h K
  · replace h := (if_neg c15).symm.trans h
    refine g_aload_n O dX12_sightLine_97 rfl 2 rfl ?_
    obtain ⟨v16, e17, h⟩ := bo_some h
    refine g_getR O dX12_sightLine_98 fl_X12_17 rfl e17 ?_
    refine g_iconst (v := (2 : Int32)) O dX12_sightLine_101 rfl ?_
    refine g_iconst (v := (2 : Int32)) O dX12_sightLine_102 rfl ?_
    refine g_aload_n O dX12_sightLine_103 rfl 2 rfl ?_
    obtain ⟨v18, e19, h⟩ := bo_some h
    refine g_getR O dX12_sightLine_104 fl_X12_17 rfl e19 ?_
    refine g_iconst (v := (1 : Int32)) O dX12_sightLine_107 rfl ?_
    obtain ⟨v20, e21, h⟩ := bo_some h
    refine g_iaload O dX12_sightLine_108 e21 ?_
    refine g_imul O dX12_sightLine_109 ?_
    refine g_iadd O dX12_sightLine_110 ?_
    refine g_iload_n O dX12_sightLine_111 rfl 1 rfl ?_
    obtain ⟨σ22, e23, h⟩ := bo_some h
    refine g_iastore O dX12_sightLine_112 e23 ?_
    refine g_aload_n O dX12_sightLine_113 rfl 2 rfl ?_
    obtain ⟨v24, e25, h⟩ := bo_some h
    refine g_getR O dX12_sightLine_114 fl_X12_17 rfl e25 ?_
    refine g_iconst (v := (3 : Int32)) O dX12_sightLine_117 rfl ?_
    refine g_iconst (v := (2 : Int32)) O dX12_sightLine_118 rfl ?_
    refine g_aload_n O dX12_sightLine_119 rfl 2 rfl ?_
    obtain ⟨v26, e27, h⟩ := bo_some h
    refine g_getR O dX12_sightLine_120 fl_X12_17 rfl e27 ?_
    refine g_iconst (v := (1 : Int32)) O dX12_sightLine_123 rfl ?_
    obtain ⟨v28, e29, h⟩ := bo_some h
    refine g_iaload O dX12_sightLine_124 e29 ?_
    refine g_imul O dX12_sightLine_125 ?_
    refine g_iadd O dX12_sightLine_126 ?_
    refine g_iload O dX12_sightLine_127 0 rfl ?_
    obtain ⟨σ30, e31, h⟩ := bo_some h
    refine g_iastore O dX12_sightLine_129 e31 ?_
    refine g_aload_n O dX12_sightLine_130 rfl 2 rfl ?_
    obtain ⟨v32, e33, h⟩ := bo_some h
    refine g_getR O dX12_sightLine_131 fl_X12_17 rfl e33 ?_
    refine g_iconst (v := (1 : Int32)) O dX12_sightLine_134 rfl ?_
    refine g_dup2 O dX12_sightLine_135 rfl rfl ?_
    obtain ⟨v34, e35, h⟩ := bo_some h
    refine g_iaload O dX12_sightLine_136 e35 ?_
    refine g_iconst (v := (1 : Int32)) O dX12_sightLine_137 rfl ?_
    refine g_iadd O dX12_sightLine_138 ?_
    obtain ⟨σ36, e37, h⟩ := bo_some h
    refine g_iastore O dX12_sightLine_139 e37 ?_
    refine g_sub [2] (lv' := [(0, vA (some a0))]) rfl ?_
    exact t_X12_sightLine_140 O R0 N hn a0 σ36 o h K
def f_X12_sightLine_23 (a0 : Nat) (x1 : Int32) (k0 : Int32) (σ : Dt) : Option (Unit × Dt) := if k0 = 0 then bo (xgi SM 12 8 (some a0) σ) fun v2 => if v2 = 0 then bo (xgr SM 12 10 (some a0) σ) fun v5 => bo (xai SM v5 (1 : Int32) σ) fun v7 => if v7 < (8 : Int32) then f_X12_sightLine_70 a0 σ else bo (xrc SM 12 (some a0)) fun a10 => bd (f_X12_also a10 (3 : Int32) x1 σ) fun v12 σ13 => f_X12_sightLine_70 a0 σ13 else f_X12_sightLine_70 a0 σ else bo (xgr SM 12 10 (some a0) σ) fun v15 => bo (xrc SM 12 (some a0)) fun a17 => bd (f_X12_numbered a17 (1 : Int32) (9 : Int32) σ) fun v19 σ20 => bo (xsi SM v15 (0 : Int32) v19 σ20) fun σ22 => bo (xrc SM 12 (some a0)) fun a24 => bd (f_X12_endsLine a24 σ22) fun v26 σ27 => some ((), σ27)
theorem t_X12_sightLine_23 {M : Mx} {l0 : Launch} (O : Ok M cX12_sightLine yX12_sightLine) (R0 : Rm M l0 7 197 0 0) (N : Ma M = false) (hn : Mn M = 5)  (a0 : Nat) (x1 : Int32) (k0 : Int32) (σ : Dt) (o : (Unit × Dt)) (h : f_X12_sightLine_23 a0 x1 k0 σ = some o) (K : Fin' M (none) 0 0 SM o.2 (none)) : G M 0 0 23 [(0, vA (some a0)), (1, vI x1)] [vI k0] SM σ := by
  unfold f_X12_sightLine_23 at h
  refine g_istore_n (lv' := [(2, vI k0), (0, vA (some a0)), (1, vI x1)]) O dX12_sightLine_23 rfl 5 hn (by decide) rfl ?_
  refine g_iload_n O dX12_sightLine_24 rfl 0 rfl ?_
  refine g_if_eq O dX12_sightLine_25 rfl (fun c1 => ?_) (fun c1 => ?_)
  · replace h := (if_pos c1).symm.trans h
    refine g_aload_n O dX12_sightLine_46 rfl 1 rfl ?_
    obtain ⟨v2, e3, h⟩ := bo_some h
    refine g_getI O dX12_sightLine_47 fl_X12_139 rfl e3 ?_
    refine g_if_ne O dX12_sightLine_50 rfl (fun c4 => ?_) (fun c4 => ?_)
    · replace h := (if_pos c4).symm.trans h
      refine g_aload_n O dX12_sightLine_53 rfl 1 rfl ?_
      obtain ⟨v5, e6, h⟩ := bo_some h
      refine g_getR O dX12_sightLine_54 fl_X12_17 rfl e6 ?_
      refine g_iconst (v := (1 : Int32)) O dX12_sightLine_57 rfl ?_
      obtain ⟨v7, e8, h⟩ := bo_some h
      refine g_iaload O dX12_sightLine_58 e8 ?_
      refine g_bipush (v := (8 : Int32)) O dX12_sightLine_59 rfl ?_
      refine g_icmp_lt O dX12_sightLine_61 rfl (fun c9 => ?_) (fun c9 => ?_)
      · replace h := (if_pos c9).symm.trans h
        refine g_sub [1] (lv' := [(0, vA (some a0))]) rfl ?_
        exact t_X12_sightLine_70 O R0 N hn a0 σ o h K
      · replace h := (if_neg c9).symm.trans h
        refine g_aload_n O dX12_sightLine_64 rfl 1 rfl ?_
        refine g_iconst (v := (3 : Int32)) O dX12_sightLine_65 rfl ?_
        refine g_iload_n O dX12_sightLine_66 rfl 2 rfl ?_
        obtain ⟨a10, e11, h⟩ := bo_some h
        obtain ⟨v12, σ13, e14, h⟩ := bd_some h
        refine g_cV0 O R0 N dX12_sightLine_67 vl_X12_150 vv_X12_also e11 [vI (3 : Int32), vI x1] rfl rfl rfl ⟨Nat.le_of_ble_eq_true rfl, Nat.le_of_ble_eq_true rfl⟩ (c_X12_also l0 a10 (3 : Int32) x1 σ v12 σ13 e14) ?_
        refine g_sub [1] (lv' := [(0, vA (some a0))]) rfl ?_
        exact t_X12_sightLine_70 O R0 N hn a0 σ13 o h K
    · replace h := (if_neg c4).symm.trans h
      refine g_sub [1] (lv' := [(0, vA (some a0))]) rfl ?_
      exact t_X12_sightLine_70 O R0 N hn a0 σ o h K
  · replace h := (if_neg c1).symm.trans h
    refine g_aload_n O dX12_sightLine_28 rfl 1 rfl ?_
    obtain ⟨v15, e16, h⟩ := bo_some h
    refine g_getR O dX12_sightLine_29 fl_X12_17 rfl e16 ?_
    refine g_iconst (v := (0 : Int32)) O dX12_sightLine_32 rfl ?_
    refine g_aload_n O dX12_sightLine_33 rfl 1 rfl ?_
    refine g_iconst (v := (1 : Int32)) O dX12_sightLine_34 rfl ?_
    refine g_bipush (v := (9 : Int32)) O dX12_sightLine_35 rfl ?_
    obtain ⟨a17, e18, h⟩ := bo_some h
    obtain ⟨v19, σ20, e21, h⟩ := bd_some h
    refine g_cV1 O R0 N dX12_sightLine_37 vl_X12_157 vv_X12_numbered e18 [vI (1 : Int32), vI (9 : Int32)] rfl rfl rfl ⟨Nat.le_of_ble_eq_true rfl, Nat.le_of_ble_eq_true rfl⟩ (c_X12_numbered l0 a17 (1 : Int32) (9 : Int32) σ v19 σ20 e21) ?_
    obtain ⟨σ22, e23, h⟩ := bo_some h
    refine g_iastore O dX12_sightLine_40 e23 ?_
    refine g_aload_n O dX12_sightLine_41 rfl 1 rfl ?_
    obtain ⟨a24, e25, h⟩ := bo_some h
    obtain ⟨v26, σ27, e28, h⟩ := bd_some h
    refine g_cV0 O R0 N dX12_sightLine_42 vl_X12_180 vv_X12_endsLine e25 [] rfl rfl rfl ⟨Nat.le_of_ble_eq_true rfl, Nat.le_of_ble_eq_true rfl⟩ (c_X12_endsLine l0 a24 σ22 v26 σ27 e28) ?_
    cases h
    exact g_return O K dX12_sightLine_45
def f_X12_sightLine (a0 : Nat) (σ : Dt) : Option (Unit × Dt) := bo (xgi SM 12 4 (some a0) σ) fun v1 => bo (xrc SM 12 (some a0)) fun a3 => bd (f_X12_wordIn a3 (10 : Int32) (11 : Int32) σ) fun v5 σ6 => if v5 = (10 : Int32) then f_X12_sightLine_23 a0 v1 (1 : Int32) σ6 else f_X12_sightLine_23 a0 v1 (0 : Int32) σ6
theorem t_X12_sightLine {M : Mx} {l0 : Launch} (O : Ok M cX12_sightLine yX12_sightLine) (R0 : Rm M l0 7 197 0 0) (N : Ma M = false) (hn : Mn M = 5) (a0 : Nat) (σ : Dt) (o : (Unit × Dt)) (h : f_X12_sightLine a0 σ = some o) (K : Fin' M (none) 0 0 SM o.2 (none)) : G M 0 0 0 [(0, vA (some a0))] [] SM σ := by
  unfold f_X12_sightLine at h
  refine g_aload_n O dX12_sightLine_0 rfl 0 rfl ?_
  obtain ⟨v1, e2, h⟩ := bo_some h
  refine g_getI O dX12_sightLine_1 fl_X12_112 rfl e2 ?_
  refine g_istore_n (lv' := [(1, vI v1), (0, vA (some a0))]) O dX12_sightLine_4 rfl 5 hn (by decide) rfl ?_
  refine g_aload_n O dX12_sightLine_5 rfl 1 rfl ?_
  refine g_bipush (v := (10 : Int32)) O dX12_sightLine_6 rfl ?_
  refine g_bipush (v := (11 : Int32)) O dX12_sightLine_8 rfl ?_
  obtain ⟨a3, e4, h⟩ := bo_some h
  obtain ⟨v5, σ6, e7, h⟩ := bd_some h
  refine g_cV1 O R0 N dX12_sightLine_10 vl_X12_167 vv_X12_wordIn e4 [vI (10 : Int32), vI (11 : Int32)] rfl rfl rfl ⟨Nat.le_of_ble_eq_true rfl, Nat.le_of_ble_eq_true rfl⟩ (c_X12_wordIn l0 a3 (10 : Int32) (11 : Int32) σ v5 σ6 e7) ?_
  refine g_bipush (v := (10 : Int32)) O dX12_sightLine_13 rfl ?_
  refine g_icmp_ne O dX12_sightLine_15 rfl (fun c8 => ?_) (fun c8 => ?_)
  · replace h := (if_pos c8).symm.trans h
    refine g_iconst (v := (1 : Int32)) O dX12_sightLine_18 rfl ?_
    refine g_goto O dX12_sightLine_19 rfl ?_
    refine g_sub [1, 0] (lv' := [(0, vA (some a0)), (1, vI v1)]) rfl ?_
    exact t_X12_sightLine_23 O R0 N hn a0 v1 (1 : Int32) σ6 o h K
  · replace h := (if_neg c8).symm.trans h
    refine g_iconst (v := (0 : Int32)) O dX12_sightLine_22 rfl ?_
    refine g_sub [1, 0] (lv' := [(0, vA (some a0)), (1, vI v1)]) rfl ?_
    exact t_X12_sightLine_23 O R0 N hn a0 v1 (0 : Int32) σ6 o h K
theorem c_X12_sightLine (l0 : Launch) (a0 : Nat) (σ : Dt) (r : Unit) (σ' : Dt) (h : f_X12_sightLine a0 σ = some (r, σ')) : Ctr l0 yX12_sightLine cX12_sightLine 5 (none) false 7 197 0 0 [vA (some a0)] SM σ SM σ' (none) := ctr_of (by decide) (Nat.le_of_ble_eq_true rfl) (fun M O F R0 N hn => t_X12_sightLine O R0 N hn a0 σ (r, σ') h F)
def P_X12_bitsOf_4 (M : Mx) (x0 : Int32) (σ : Dt) (s : (Int32 × Int32)) : Prop := G M 0 0 4 [(0, vI x0), (1, vI s.1), (2, vI s.2)] [] SM σ
def E_X12_bitsOf_4 (M : Mx) (x0 : Int32) (σ : Dt) : Int32 → Prop := (fun w => G M 0 0 24 [(1, vI w)] [] SM σ)
def f_X12_bitsOf_L4 (x0 : Int32) (x1 : Int32) (x2 : Int32) (σ : Dt) : Option ((Int32 × Int32) ⊕ Int32) := if (12 : Int32) ≤ x2 then some (.inr x1) else bo (some (x1 + ((x0 >>> (x2 &&& 31)) &&& (1 : Int32)))) fun v2 => some (.inl (v2, (x2 + (1 : Int32))))
theorem t_X12_bitsOf_L4 {M : Mx} {l0 : Launch} (O : Ok M cX12_bitsOf yX12_bitsOf) (R0 : Rm M l0 2 80 0 0) (N : Ma M = false) (hn : Mn M = 3) (x0 : Int32) (x1 : Int32) (x2 : Int32) (σ : Dt) (o : ((Int32 × Int32) ⊕ Int32)) (h : f_X12_bitsOf_L4 x0 x1 x2 σ = some o) (K : kon (P_X12_bitsOf_4 M x0 σ) (E_X12_bitsOf_4 M x0 σ) o) : G M 0 0 4 [(0, vI x0), (1, vI x1), (2, vI x2)] [] SM σ := by
  unfold f_X12_bitsOf_L4 at h
  refine g_iload_n O dX12_bitsOf_4 rfl 2 rfl ?_
  refine g_bipush (v := (12 : Int32)) O dX12_bitsOf_5 rfl ?_
  refine g_icmp_ge O dX12_bitsOf_7 rfl (fun c1 => ?_) (fun c1 => ?_)
  · replace h := (if_pos c1).symm.trans h
    refine g_sub [1] (lv' := [(1, vI x1)]) rfl ?_
    cases h
    exact K
  · replace h := (if_neg c1).symm.trans h
    refine g_iload_n O dX12_bitsOf_10 rfl 1 rfl ?_
    refine g_iload_n O dX12_bitsOf_11 rfl 0 rfl ?_
    refine g_iload_n O dX12_bitsOf_12 rfl 2 rfl ?_
    refine g_ishr O dX12_bitsOf_13 ?_
    refine g_iconst (v := (1 : Int32)) O dX12_bitsOf_14 rfl ?_
    refine g_iand O dX12_bitsOf_15 ?_
    refine g_iadd O dX12_bitsOf_16 ?_
    obtain ⟨v2, e3, h⟩ := bo_some h
    rw [Option.some.inj e3]
    refine g_istore_n (lv' := [(1, vI v2), (0, vI x0), (2, vI x2)]) O dX12_bitsOf_17 rfl 3 hn (by decide) rfl ?_
    refine g_iinc (v := (x2 + (1 : Int32))) (lv' := [(2, vI (x2 + (1 : Int32))), (1, vI v2), (0, vI x0)]) O dX12_bitsOf_18 3 hn (by decide) 2 rfl rfl rfl ?_
    refine g_goto O dX12_bitsOf_21 rfl ?_
    refine g_sub [2, 1, 0] (lv' := [(0, vI x0), (1, vI v2), (2, vI (x2 + (1 : Int32)))]) rfl ?_
    cases h
    exact K
def f_X12_bitsOf (x0 : Int32) (σ : Dt) : Option Int32 := bo (iter FU (fun s => f_X12_bitsOf_L4 x0 s.1 s.2 σ) ((0 : Int32), (0 : Int32))) fun w1 => some w1
theorem t_X12_bitsOf {M : Mx} {l0 : Launch} (O : Ok M cX12_bitsOf yX12_bitsOf) (R0 : Rm M l0 2 80 0 0) (N : Ma M = false) (hn : Mn M = 3) (x0 : Int32) (σ : Dt) (o : Int32) (h : f_X12_bitsOf x0 σ = some o) (K : Fin' M (some .int) 0 0 SM σ (some (vI o))) : G M 0 0 0 [(0, vI x0)] [] SM σ := by
  unfold f_X12_bitsOf at h
  refine g_iconst (v := (0 : Int32)) O dX12_bitsOf_0 rfl ?_
  refine g_istore_n (lv' := [(1, vI (0 : Int32)), (0, vI x0)]) O dX12_bitsOf_1 rfl 3 hn (by decide) rfl ?_
  refine g_iconst (v := (0 : Int32)) O dX12_bitsOf_2 rfl ?_
  refine g_istore_n (lv' := [(2, vI (0 : Int32)), (1, vI (0 : Int32)), (0, vI x0)]) O dX12_bitsOf_3 rfl 3 hn (by decide) rfl ?_
  refine g_sub [2, 1, 0] (lv' := [(0, vI x0), (1, vI (0 : Int32)), (2, vI (0 : Int32))]) rfl ?_
  obtain ⟨w1, e2, h⟩ := bo_some h
  refine iter_G (P := P_X12_bitsOf_4 M x0 σ) (E := E_X12_bitsOf_4 M x0 σ) (fun s o hb hk => t_X12_bitsOf_L4 O R0 N hn x0 s.1 s.2 σ o hb hk) FU ((0 : Int32), (0 : Int32)) w1 e2 ?_
  show G M 0 0 24 [(1, vI w1)] [] SM σ
  refine g_iload_n O dX12_bitsOf_24 rfl 0 rfl ?_
  cases h
  exact g_ireturn O K dX12_bitsOf_25
theorem c_X12_bitsOf (l0 : Launch) (x0 : Int32) (σ : Dt) (r : Int32) (h : f_X12_bitsOf x0 σ = some r) : Ctr l0 yX12_bitsOf cX12_bitsOf 3 (some .int) false 2 80 0 0 [vI x0] SM σ SM σ (some (vI r)) := ctr_of (by decide) (Nat.le_of_ble_eq_true rfl) (fun M O F R0 N hn => t_X12_bitsOf O R0 N hn x0 σ r h F)
def P_X12_endsValley_4 (M : Mx) (a0 : Nat) (σ : Dt) (s : (Int32 × Int32)) : Prop := G M 0 0 4 [(0, vA (some a0)), (1, vI s.1), (2, vI s.2)] [] SM σ
def E_X12_endsValley_4 (M : Mx) (a0 : Nat) (σ : Dt) : Int32 → Prop := (fun w => G M 0 0 51 [(0, vA (some a0)), (1, vI w)] [] SM σ)
def f_X12_endsValley_44 (a0 : Nat) (x2 : Int32) (k0 : Int32) (σ : Dt) : Option ((Int32 × Int32) ⊕ Int32) := some (.inl (k0, (x2 + (1 : Int32))))
theorem t_X12_endsValley_44 {M : Mx} {l0 : Launch} (O : Ok M cX12_endsValley yX12_endsValley) (R0 : Rm M l0 3 102 0 0) (N : Ma M = false) (hn : Mn M = 5)  (a0 : Nat) (x2 : Int32) (k0 : Int32) (σ : Dt) (o : ((Int32 × Int32) ⊕ Int32)) (h : f_X12_endsValley_44 a0 x2 k0 σ = some o) (K : kon (P_X12_endsValley_4 M a0 σ) (E_X12_endsValley_4 M a0 σ) o) : G M 0 0 44 [(0, vA (some a0)), (2, vI x2)] [vI k0] SM σ := by
  unfold f_X12_endsValley_44 at h
  refine g_istore_n (lv' := [(1, vI k0), (0, vA (some a0)), (2, vI x2)]) O dX12_endsValley_44 rfl 5 hn (by decide) rfl ?_
  refine g_iinc (v := (x2 + (1 : Int32))) (lv' := [(2, vI (x2 + (1 : Int32))), (1, vI k0), (0, vA (some a0))]) O dX12_endsValley_45 5 hn (by decide) 2 rfl rfl rfl ?_
  refine g_goto O dX12_endsValley_48 rfl ?_
  refine g_sub [2, 1, 0] (lv' := [(0, vA (some a0)), (1, vI k0), (2, vI (x2 + (1 : Int32)))]) rfl ?_
  cases h
  exact K
def f_X12_endsValley_L4 (a0 : Nat) (x1 : Int32) (x2 : Int32) (σ : Dt) : Option ((Int32 × Int32) ⊕ Int32) := if (10 : Int32) ≤ x2 then some (.inr x1) else bo (xgr SM 12 10 (some a0) σ) fun v2 => bo (xai SM v2 ((5 : Int32) + ((4 : Int32) * x2)) σ) fun v4 => bo (f_X12_bitsOf v4 σ) fun v6 => if v6 ≤ x1 then f_X12_endsValley_44 a0 x2 x1 σ else bo (xgr SM 12 10 (some a0) σ) fun v9 => bo (xai SM v9 ((5 : Int32) + ((4 : Int32) * x2)) σ) fun v11 => bo (f_X12_bitsOf v11 σ) fun v13 => f_X12_endsValley_44 a0 x2 v13 σ
theorem t_X12_endsValley_L4 {M : Mx} {l0 : Launch} (O : Ok M cX12_endsValley yX12_endsValley) (R0 : Rm M l0 3 102 0 0) (N : Ma M = false) (hn : Mn M = 5) (a0 : Nat) (x1 : Int32) (x2 : Int32) (σ : Dt) (o : ((Int32 × Int32) ⊕ Int32)) (h : f_X12_endsValley_L4 a0 x1 x2 σ = some o) (K : kon (P_X12_endsValley_4 M a0 σ) (E_X12_endsValley_4 M a0 σ) o) : G M 0 0 4 [(0, vA (some a0)), (1, vI x1), (2, vI x2)] [] SM σ := by
  unfold f_X12_endsValley_L4 at h
  refine g_iload_n O dX12_endsValley_4 rfl 2 rfl ?_
  refine g_bipush (v := (10 : Int32)) O dX12_endsValley_5 rfl ?_
  refine g_icmp_ge O dX12_endsValley_7 rfl (fun c1 => ?_) (fun c1 => ?_)
  · replace h := (if_pos c1).symm.trans h
    refine g_sub [0, 1] (lv' := [(0, vA (some a0)), (1, vI x1)]) rfl ?_
    cases h
    exact K
  · replace h := (if_neg c1).symm.trans h
    refine g_aload_n O dX12_endsValley_10 rfl 0 rfl ?_
    obtain ⟨v2, e3, h⟩ := bo_some h
    refine g_getR O dX12_endsValley_11 fl_X12_17 rfl e3 ?_
    refine g_iconst (v := (5 : Int32)) O dX12_endsValley_14 rfl ?_
    refine g_iconst (v := (4 : Int32)) O dX12_endsValley_15 rfl ?_
    refine g_iload_n O dX12_endsValley_16 rfl 2 rfl ?_
    refine g_imul O dX12_endsValley_17 ?_
    refine g_iadd O dX12_endsValley_18 ?_
    obtain ⟨v4, e5, h⟩ := bo_some h
    refine g_iaload O dX12_endsValley_19 e5 ?_
    obtain ⟨v6, e7, h⟩ := bo_some h
    refine g_cS1 O R0 N dX12_endsValley_20 vl_X12_183 w1701 [vI v4] rfl rfl rfl ⟨Nat.le_of_ble_eq_true rfl, Nat.le_of_ble_eq_true rfl⟩ (c_X12_bitsOf l0 v4 σ v6 e7) ?_
    refine g_iload_n O dX12_endsValley_23 rfl 1 rfl ?_
    refine g_icmp_le O dX12_endsValley_24 rfl (fun c8 => ?_) (fun c8 => ?_)
    · replace h := (if_pos c8).symm.trans h
      refine g_iload_n O dX12_endsValley_43 rfl 1 rfl ?_
      refine g_sub [0, 2] (lv' := [(0, vA (some a0)), (2, vI x2)]) rfl ?_
      exact t_X12_endsValley_44 O R0 N hn a0 x2 x1 σ o h K
    · replace h := (if_neg c8).symm.trans h
      refine g_aload_n O dX12_endsValley_27 rfl 0 rfl ?_
      obtain ⟨v9, e10, h⟩ := bo_some h
      refine g_getR O dX12_endsValley_28 fl_X12_17 rfl e10 ?_
      refine g_iconst (v := (5 : Int32)) O dX12_endsValley_31 rfl ?_
      refine g_iconst (v := (4 : Int32)) O dX12_endsValley_32 rfl ?_
      refine g_iload_n O dX12_endsValley_33 rfl 2 rfl ?_
      refine g_imul O dX12_endsValley_34 ?_
      refine g_iadd O dX12_endsValley_35 ?_
      obtain ⟨v11, e12, h⟩ := bo_some h
      refine g_iaload O dX12_endsValley_36 e12 ?_
      obtain ⟨v13, e14, h⟩ := bo_some h
      refine g_cS1 O R0 N dX12_endsValley_37 vl_X12_183 w1701 [vI v11] rfl rfl rfl ⟨Nat.le_of_ble_eq_true rfl, Nat.le_of_ble_eq_true rfl⟩ (c_X12_bitsOf l0 v11 σ v13 e14) ?_
      refine g_goto O dX12_endsValley_40 rfl ?_
      refine g_sub [0, 2] (lv' := [(0, vA (some a0)), (2, vI x2)]) rfl ?_
      exact t_X12_endsValley_44 O R0 N hn a0 x2 v13 σ o h K
def P_X12_endsValley_118 (M : Mx) (a0 : Nat) (x2 : Int32) (σ : Dt) (s : (Int32 × Int32)) : Prop := G M 0 0 118 [(0, vA (some a0)), (2, vI x2), (3, vI s.1), (4, vI s.2)] [] SM σ
def E_X12_endsValley_118 (M : Mx) (a0 : Nat) (x2 : Int32) (σ : Dt) : Int32 → Prop := (fun w => G M 0 0 168 [(0, vA (some a0)), (2, vI x2), (3, vI w)] [] SM σ)
def f_X12_endsValley_160 (a0 : Nat) (x2 : Int32) (x4 : Int32) (k0 : Int32) (k1 : Int32) (σ : Dt) : Option ((Int32 × Int32) ⊕ Int32) := some (.inl ((k0 ||| k1), (x4 + (1 : Int32))))
theorem t_X12_endsValley_160 {M : Mx} {l0 : Launch} (O : Ok M cX12_endsValley yX12_endsValley) (R0 : Rm M l0 3 102 0 0) (N : Ma M = false) (hn : Mn M = 5)  (a0 : Nat) (x2 : Int32) (x4 : Int32) (k0 : Int32) (k1 : Int32) (σ : Dt) (o : ((Int32 × Int32) ⊕ Int32)) (h : f_X12_endsValley_160 a0 x2 x4 k0 k1 σ = some o) (K : kon (P_X12_endsValley_118 M a0 x2 σ) (E_X12_endsValley_118 M a0 x2 σ) o) : G M 0 0 160 [(0, vA (some a0)), (2, vI x2), (4, vI x4)] [vI k1, vI k0] SM σ := by
  unfold f_X12_endsValley_160 at h
  refine g_ior O dX12_endsValley_160 ?_
  refine g_istore_n (lv' := [(3, vI (k0 ||| k1)), (0, vA (some a0)), (2, vI x2), (4, vI x4)]) O dX12_endsValley_161 rfl 5 hn (by decide) rfl ?_
  refine g_iinc (v := (x4 + (1 : Int32))) (lv' := [(4, vI (x4 + (1 : Int32))), (3, vI (k0 ||| k1)), (0, vA (some a0)), (2, vI x2)]) O dX12_endsValley_162 5 hn (by decide) 3 rfl rfl rfl ?_
  refine g_goto O dX12_endsValley_165 rfl ?_
  refine g_sub [2, 3, 1, 0] (lv' := [(0, vA (some a0)), (2, vI x2), (3, vI (k0 ||| k1)), (4, vI (x4 + (1 : Int32)))]) rfl ?_
  cases h
  exact K
def f_X12_endsValley_L118 (a0 : Nat) (x2 : Int32) (x3 : Int32) (x4 : Int32) (σ : Dt) : Option ((Int32 × Int32) ⊕ Int32) := if (10 : Int32) ≤ x4 then some (.inr x3) else bo (xgr SM 12 10 (some a0) σ) fun v2 => bo (xai SM v2 ((5 : Int32) + ((4 : Int32) * x2)) σ) fun v4 => if ((v4 >>> (x4 &&& 31)) &&& (1 : Int32)) = (1 : Int32) then bo (xgr SM 12 10 (some a0) σ) fun v7 => bo (xai SM v7 ((5 : Int32) + ((4 : Int32) * x4)) σ) fun v9 => f_X12_endsValley_160 a0 x2 x4 x3 v9 σ else f_X12_endsValley_160 a0 x2 x4 x3 (0 : Int32) σ
theorem t_X12_endsValley_L118 {M : Mx} {l0 : Launch} (O : Ok M cX12_endsValley yX12_endsValley) (R0 : Rm M l0 3 102 0 0) (N : Ma M = false) (hn : Mn M = 5) (a0 : Nat) (x2 : Int32) (x3 : Int32) (x4 : Int32) (σ : Dt) (o : ((Int32 × Int32) ⊕ Int32)) (h : f_X12_endsValley_L118 a0 x2 x3 x4 σ = some o) (K : kon (P_X12_endsValley_118 M a0 x2 σ) (E_X12_endsValley_118 M a0 x2 σ) o) : G M 0 0 118 [(0, vA (some a0)), (2, vI x2), (3, vI x3), (4, vI x4)] [] SM σ := by
  unfold f_X12_endsValley_L118 at h
  refine g_iload O dX12_endsValley_118 3 rfl ?_
  refine g_bipush (v := (10 : Int32)) O dX12_endsValley_120 rfl ?_
  refine g_icmp_ge O dX12_endsValley_122 rfl (fun c1 => ?_) (fun c1 => ?_)
  · replace h := (if_pos c1).symm.trans h
    refine g_sub [0, 1, 2] (lv' := [(0, vA (some a0)), (2, vI x2), (3, vI x3)]) rfl ?_
    cases h
    exact K
  · replace h := (if_neg c1).symm.trans h
    refine g_iload_n O dX12_endsValley_125 rfl 2 rfl ?_
    refine g_aload_n O dX12_endsValley_126 rfl 0 rfl ?_
    obtain ⟨v2, e3, h⟩ := bo_some h
    refine g_getR O dX12_endsValley_127 fl_X12_17 rfl e3 ?_
    refine g_iconst (v := (5 : Int32)) O dX12_endsValley_130 rfl ?_
    refine g_iconst (v := (4 : Int32)) O dX12_endsValley_131 rfl ?_
    refine g_iload_n O dX12_endsValley_132 rfl 1 rfl ?_
    refine g_imul O dX12_endsValley_133 ?_
    refine g_iadd O dX12_endsValley_134 ?_
    obtain ⟨v4, e5, h⟩ := bo_some h
    refine g_iaload O dX12_endsValley_135 e5 ?_
    refine g_iload O dX12_endsValley_136 3 rfl ?_
    refine g_ishr O dX12_endsValley_138 ?_
    refine g_iconst (v := (1 : Int32)) O dX12_endsValley_139 rfl ?_
    refine g_iand O dX12_endsValley_140 ?_
    refine g_iconst (v := (1 : Int32)) O dX12_endsValley_141 rfl ?_
    refine g_icmp_ne O dX12_endsValley_142 rfl (fun c6 => ?_) (fun c6 => ?_)
    · replace h := (if_pos c6).symm.trans h
      refine g_aload_n O dX12_endsValley_145 rfl 0 rfl ?_
      obtain ⟨v7, e8, h⟩ := bo_some h
      refine g_getR O dX12_endsValley_146 fl_X12_17 rfl e8 ?_
      refine g_iconst (v := (5 : Int32)) O dX12_endsValley_149 rfl ?_
      refine g_iconst (v := (4 : Int32)) O dX12_endsValley_150 rfl ?_
      refine g_iload O dX12_endsValley_151 3 rfl ?_
      refine g_imul O dX12_endsValley_153 ?_
      refine g_iadd O dX12_endsValley_154 ?_
      obtain ⟨v9, e10, h⟩ := bo_some h
      refine g_iaload O dX12_endsValley_155 e10 ?_
      refine g_goto O dX12_endsValley_156 rfl ?_
      refine g_sub [0, 1, 3] (lv' := [(0, vA (some a0)), (2, vI x2), (4, vI x4)]) rfl ?_
      exact t_X12_endsValley_160 O R0 N hn a0 x2 x4 x3 v9 σ o h K
    · replace h := (if_neg c6).symm.trans h
      refine g_iconst (v := (0 : Int32)) O dX12_endsValley_159 rfl ?_
      refine g_sub [0, 1, 3] (lv' := [(0, vA (some a0)), (2, vI x2), (4, vI x4)]) rfl ?_
      exact t_X12_endsValley_160 O R0 N hn a0 x2 x4 x3 (0 : Int32) σ o h K
def P_X12_endsValley_107 (M : Mx) (a0 : Nat) (s : (Int32 × Dt)) : Prop := G M 0 0 107 [(0, vA (some a0)), (2, vI s.1)] [] SM s.2
def E_X12_endsValley_107 (M : Mx) (a0 : Nat) : Dt → Prop := (fun w => G M 0 0 186 [] [] SM w)
def f_X12_endsValley_L107 (a0 : Nat) (x2 : Int32) (σ : Dt) : Option ((Int32 × Dt) ⊕ Dt) := if (10 : Int32) ≤ x2 then some (.inr σ) else bo (iter FU (fun s => f_X12_endsValley_L118 a0 x2 s.1 s.2 σ) ((0 : Int32), (0 : Int32))) fun w2 => bo (xgr SM 12 10 (some a0) σ) fun v4 => bo (xsi SM v4 ((6 : Int32) + ((4 : Int32) * x2)) w2 σ) fun σ6 => some (.inl ((x2 + (1 : Int32)), σ6))
theorem t_X12_endsValley_L107 {M : Mx} {l0 : Launch} (O : Ok M cX12_endsValley yX12_endsValley) (R0 : Rm M l0 3 102 0 0) (N : Ma M = false) (hn : Mn M = 5) (a0 : Nat) (x2 : Int32) (σ : Dt) (o : ((Int32 × Dt) ⊕ Dt)) (h : f_X12_endsValley_L107 a0 x2 σ = some o) (K : kon (P_X12_endsValley_107 M a0) (E_X12_endsValley_107 M a0) o) : G M 0 0 107 [(0, vA (some a0)), (2, vI x2)] [] SM σ := by
  unfold f_X12_endsValley_L107 at h
  refine g_iload_n O dX12_endsValley_107 rfl 1 rfl ?_
  refine g_bipush (v := (10 : Int32)) O dX12_endsValley_108 rfl ?_
  refine g_icmp_ge O dX12_endsValley_110 rfl (fun c1 => ?_) (fun c1 => ?_)
  · replace h := (if_pos c1).symm.trans h
    refine g_sub [] (lv' := []) rfl ?_
    cases h
    exact K
  · replace h := (if_neg c1).symm.trans h
    refine g_iconst (v := (0 : Int32)) O dX12_endsValley_113 rfl ?_
    refine g_istore_n (lv' := [(3, vI (0 : Int32)), (0, vA (some a0)), (2, vI x2)]) O dX12_endsValley_114 rfl 5 hn (by decide) rfl ?_
    refine g_iconst (v := (0 : Int32)) O dX12_endsValley_115 rfl ?_
    refine g_istore (lv' := [(4, vI (0 : Int32)), (3, vI (0 : Int32)), (0, vA (some a0)), (2, vI x2)]) O dX12_endsValley_116 5 hn (by decide) rfl ?_
    refine g_sub [2, 3, 1, 0] (lv' := [(0, vA (some a0)), (2, vI x2), (3, vI (0 : Int32)), (4, vI (0 : Int32))]) rfl ?_
    obtain ⟨w2, e3, h⟩ := bo_some h
    refine iter_G (P := P_X12_endsValley_118 M a0 x2 σ) (E := E_X12_endsValley_118 M a0 x2 σ) (fun s o hb hk => t_X12_endsValley_L118 O R0 N hn a0 x2 s.1 s.2 σ o hb hk) FU ((0 : Int32), (0 : Int32)) w2 e3 ?_
    show G M 0 0 168 [(0, vA (some a0)), (2, vI x2), (3, vI w2)] [] SM σ
    refine g_aload_n O dX12_endsValley_168 rfl 0 rfl ?_
    obtain ⟨v4, e5, h⟩ := bo_some h
    refine g_getR O dX12_endsValley_169 fl_X12_17 rfl e5 ?_
    refine g_bipush (v := (6 : Int32)) O dX12_endsValley_172 rfl ?_
    refine g_iconst (v := (4 : Int32)) O dX12_endsValley_174 rfl ?_
    refine g_iload_n O dX12_endsValley_175 rfl 1 rfl ?_
    refine g_imul O dX12_endsValley_176 ?_
    refine g_iadd O dX12_endsValley_177 ?_
    refine g_iload_n O dX12_endsValley_178 rfl 2 rfl ?_
    obtain ⟨σ6, e7, h⟩ := bo_some h
    refine g_iastore O dX12_endsValley_179 e7 ?_
    refine g_iinc (v := (x2 + (1 : Int32))) (lv' := [(2, vI (x2 + (1 : Int32))), (0, vA (some a0)), (3, vI w2)]) O dX12_endsValley_180 5 hn (by decide) 1 rfl rfl rfl ?_
    refine g_goto O dX12_endsValley_183 rfl ?_
    refine g_sub [1, 0] (lv' := [(0, vA (some a0)), (2, vI (x2 + (1 : Int32)))]) rfl ?_
    cases h
    exact K
def f_X12_endsValley_105 (a0 : Nat) (σ : Dt) : Option (Unit × Dt) := bo (iter FU (fun s => f_X12_endsValley_L107 a0 s.1 s.2) ((0 : Int32), σ)) fun w1 => some ((), w1)
theorem t_X12_endsValley_105 {M : Mx} {l0 : Launch} (O : Ok M cX12_endsValley yX12_endsValley) (R0 : Rm M l0 3 102 0 0) (N : Ma M = false) (hn : Mn M = 5)  (a0 : Nat) (σ : Dt) (o : (Unit × Dt)) (h : f_X12_endsValley_105 a0 σ = some o) (K : Fin' M (none) 0 0 SM o.2 (none)) : G M 0 0 105 [(0, vA (some a0))] [] SM σ := by
  unfold f_X12_endsValley_105 at h
  refine g_iconst (v := (0 : Int32)) O dX12_endsValley_105 rfl ?_
  refine g_istore_n (lv' := [(2, vI (0 : Int32)), (0, vA (some a0))]) O dX12_endsValley_106 rfl 5 hn (by decide) rfl ?_
  refine g_sub [1, 0] (lv' := [(0, vA (some a0)), (2, vI (0 : Int32))]) rfl ?_
  obtain ⟨w1, e2, h⟩ := bo_some h
  refine iter_G (P := P_X12_endsValley_107 M a0) (E := E_X12_endsValley_107 M a0) (fun s o hb hk => t_X12_endsValley_L107 O R0 N hn a0 s.1 s.2 o hb hk) FU ((0 : Int32), σ) w1 e2 ?_
  show G M 0 0 186 [] [] SM w1
  cases h
  exact g_return O K dX12_endsValley_186
def f_X12_endsValley_82 (a0 : Nat) (x1 : Int32) (σ : Dt) : Option (Unit × Dt) := bo (xgr SM 12 0 (some a0) σ) fun v1 => bo (xai SM v1 (5 : Int32) σ) fun v3 => if v3 = 0 then if x1 ≤ (2 : Int32) then f_X12_endsValley_105 a0 σ else bo (xgi SM 12 4 (some a0) σ) fun v7 => bo (xrc SM 12 (some a0)) fun a9 => bd (f_X12_also a9 (5 : Int32) v7 σ) fun v11 σ12 => f_X12_endsValley_105 a0 σ12 else f_X12_endsValley_105 a0 σ
theorem t_X12_endsValley_82 {M : Mx} {l0 : Launch} (O : Ok M cX12_endsValley yX12_endsValley) (R0 : Rm M l0 3 102 0 0) (N : Ma M = false) (hn : Mn M = 5)  (a0 : Nat) (x1 : Int32) (σ : Dt) (o : (Unit × Dt)) (h : f_X12_endsValley_82 a0 x1 σ = some o) (K : Fin' M (none) 0 0 SM o.2 (none)) : G M 0 0 82 [(0, vA (some a0)), (1, vI x1)] [] SM σ := by
  unfold f_X12_endsValley_82 at h
  refine g_aload_n O dX12_endsValley_82 rfl 0 rfl ?_
  obtain ⟨v1, e2, h⟩ := bo_some h
  refine g_getR O dX12_endsValley_83 fl_X12_7 rfl e2 ?_
  refine g_iconst (v := (5 : Int32)) O dX12_endsValley_86 rfl ?_
  obtain ⟨v3, e4, h⟩ := bo_some h
  refine g_iaload O dX12_endsValley_87 e4 ?_
  refine g_if_ne O dX12_endsValley_88 rfl (fun c5 => ?_) (fun c5 => ?_)
  · replace h := (if_pos c5).symm.trans h
    refine g_iload_n O dX12_endsValley_91 rfl 1 rfl ?_
    refine g_iconst (v := (2 : Int32)) O dX12_endsValley_92 rfl ?_
    refine g_icmp_le O dX12_endsValley_93 rfl (fun c6 => ?_) (fun c6 => ?_)
    · replace h := (if_pos c6).symm.trans h
      refine g_sub [0] (lv' := [(0, vA (some a0))]) rfl ?_
      exact t_X12_endsValley_105 O R0 N hn a0 σ o h K
    · replace h := (if_neg c6).symm.trans h
      refine g_aload_n O dX12_endsValley_96 rfl 0 rfl ?_
      refine g_iconst (v := (5 : Int32)) O dX12_endsValley_97 rfl ?_
      refine g_aload_n O dX12_endsValley_98 rfl 0 rfl ?_
      obtain ⟨v7, e8, h⟩ := bo_some h
      refine g_getI O dX12_endsValley_99 fl_X12_112 rfl e8 ?_
      obtain ⟨a9, e10, h⟩ := bo_some h
      obtain ⟨v11, σ12, e13, h⟩ := bd_some h
      refine g_cV0 O R0 N dX12_endsValley_102 vl_X12_150 vv_X12_also e10 [vI (5 : Int32), vI v7] rfl rfl rfl ⟨Nat.le_of_ble_eq_true rfl, Nat.le_of_ble_eq_true rfl⟩ (c_X12_also l0 a9 (5 : Int32) v7 σ v11 σ12 e13) ?_
      refine g_sub [0] (lv' := [(0, vA (some a0))]) rfl ?_
      exact t_X12_endsValley_105 O R0 N hn a0 σ12 o h K
  · replace h := (if_neg c5).symm.trans h
    refine g_sub [0] (lv' := [(0, vA (some a0))]) rfl ?_
    exact t_X12_endsValley_105 O R0 N hn a0 σ o h K
def f_X12_endsValley (a0 : Nat) (σ : Dt) : Option (Unit × Dt) := bo (iter FU (fun s => f_X12_endsValley_L4 a0 s.1 s.2 σ) ((0 : Int32), (0 : Int32))) fun w1 => bo (xgr SM 12 0 (some a0) σ) fun v3 => bo (xai SM v3 (5 : Int32) σ) fun v5 => if v5 = 0 then bo (xgi SM 12 9 (some a0) σ) fun v8 => bo (xgr SM 12 10 (some a0) σ) fun v10 => bo (xai SM v10 (0 : Int32) σ) fun v12 => if v8 < v12 then f_X12_endsValley_82 a0 w1 σ else bo (xgi SM 12 4 (some a0) σ) fun v15 => bo (xrc SM 12 (some a0)) fun a17 => bd (f_X12_also a17 (4 : Int32) v15 σ) fun v19 σ20 => f_X12_endsValley_82 a0 w1 σ20 else f_X12_endsValley_82 a0 w1 σ
theorem t_X12_endsValley {M : Mx} {l0 : Launch} (O : Ok M cX12_endsValley yX12_endsValley) (R0 : Rm M l0 3 102 0 0) (N : Ma M = false) (hn : Mn M = 5) (a0 : Nat) (σ : Dt) (o : (Unit × Dt)) (h : f_X12_endsValley a0 σ = some o) (K : Fin' M (none) 0 0 SM o.2 (none)) : G M 0 0 0 [(0, vA (some a0))] [] SM σ := by
  unfold f_X12_endsValley at h
  refine g_iconst (v := (0 : Int32)) O dX12_endsValley_0 rfl ?_
  refine g_istore_n (lv' := [(1, vI (0 : Int32)), (0, vA (some a0))]) O dX12_endsValley_1 rfl 5 hn (by decide) rfl ?_
  refine g_iconst (v := (0 : Int32)) O dX12_endsValley_2 rfl ?_
  refine g_istore_n (lv' := [(2, vI (0 : Int32)), (1, vI (0 : Int32)), (0, vA (some a0))]) O dX12_endsValley_3 rfl 5 hn (by decide) rfl ?_
  refine g_sub [2, 1, 0] (lv' := [(0, vA (some a0)), (1, vI (0 : Int32)), (2, vI (0 : Int32))]) rfl ?_
  obtain ⟨w1, e2, h⟩ := bo_some h
  refine iter_G (P := P_X12_endsValley_4 M a0 σ) (E := E_X12_endsValley_4 M a0 σ) (fun s o hb hk => t_X12_endsValley_L4 O R0 N hn a0 s.1 s.2 σ o hb hk) FU ((0 : Int32), (0 : Int32)) w1 e2 ?_
  show G M 0 0 51 [(0, vA (some a0)), (1, vI w1)] [] SM σ
  refine g_aload_n O dX12_endsValley_51 rfl 0 rfl ?_
  obtain ⟨v3, e4, h⟩ := bo_some h
  refine g_getR O dX12_endsValley_52 fl_X12_7 rfl e4 ?_
  refine g_iconst (v := (5 : Int32)) O dX12_endsValley_55 rfl ?_
  obtain ⟨v5, e6, h⟩ := bo_some h
  refine g_iaload O dX12_endsValley_56 e6 ?_
  refine g_if_ne O dX12_endsValley_57 rfl (fun c7 => ?_) (fun c7 => ?_)
  · replace h := (if_pos c7).symm.trans h
    refine g_aload_n O dX12_endsValley_60 rfl 0 rfl ?_
    obtain ⟨v8, e9, h⟩ := bo_some h
    refine g_getI O dX12_endsValley_61 fl_X12_161 rfl e9 ?_
    refine g_aload_n O dX12_endsValley_64 rfl 0 rfl ?_
    obtain ⟨v10, e11, h⟩ := bo_some h
    refine g_getR O dX12_endsValley_65 fl_X12_17 rfl e11 ?_
    refine g_iconst (v := (0 : Int32)) O dX12_endsValley_68 rfl ?_
    obtain ⟨v12, e13, h⟩ := bo_some h
    refine g_iaload O dX12_endsValley_69 e13 ?_
    refine g_icmp_lt O dX12_endsValley_70 rfl (fun c14 => ?_) (fun c14 => ?_)
    · replace h := (if_pos c14).symm.trans h
      exact t_X12_endsValley_82 O R0 N hn a0 w1 σ o h K
    · replace h := (if_neg c14).symm.trans h
      refine g_aload_n O dX12_endsValley_73 rfl 0 rfl ?_
      refine g_iconst (v := (4 : Int32)) O dX12_endsValley_74 rfl ?_
      refine g_aload_n O dX12_endsValley_75 rfl 0 rfl ?_
      obtain ⟨v15, e16, h⟩ := bo_some h
      refine g_getI O dX12_endsValley_76 fl_X12_112 rfl e16 ?_
      obtain ⟨a17, e18, h⟩ := bo_some h
      obtain ⟨v19, σ20, e21, h⟩ := bd_some h
      refine g_cV0 O R0 N dX12_endsValley_79 vl_X12_150 vv_X12_also e18 [vI (4 : Int32), vI v15] rfl rfl rfl ⟨Nat.le_of_ble_eq_true rfl, Nat.le_of_ble_eq_true rfl⟩ (c_X12_also l0 a17 (4 : Int32) v15 σ v19 σ20 e21) ?_
      exact t_X12_endsValley_82 O R0 N hn a0 w1 σ20 o h K
  · replace h := (if_neg c7).symm.trans h
    exact t_X12_endsValley_82 O R0 N hn a0 w1 σ o h K
theorem c_X12_endsValley (l0 : Launch) (a0 : Nat) (σ : Dt) (r : Unit) (σ' : Dt) (h : f_X12_endsValley a0 σ = some (r, σ')) : Ctr l0 yX12_endsValley cX12_endsValley 5 (none) false 3 102 0 0 [vA (some a0)] SM σ SM σ' (none) := ctr_of (by decide) (Nat.le_of_ble_eq_true rfl) (fun M O F R0 N hn => t_X12_endsValley O R0 N hn a0 σ (r, σ') h F)
def f_X12_placeOf (x0 : Int32) (x1 : Int32) (σ : Dt) : Option Int32 := if x0 = 0 then some ((610 : Int32) + ((55 : Int32) * x1)) else if x0 = (1 : Int32) then some ((720 : Int32) + ((161 : Int32) * x1)) else some ((1042 : Int32) + ((18 : Int32) * x1))
theorem t_X12_placeOf {M : Mx} {l0 : Launch} (O : Ok M cX12_placeOf yX12_placeOf) (R0 : Rm M l0 2 80 0 0) (N : Ma M = false) (hn : Mn M = 2) (x0 : Int32) (x1 : Int32) (σ : Dt) (o : Int32) (h : f_X12_placeOf x0 x1 σ = some o) (K : Fin' M (some .int) 0 0 SM σ (some (vI o))) : G M 0 0 0 [(0, vI x0), (1, vI x1)] [] SM σ := by
  unfold f_X12_placeOf at h
  refine g_iload_n O dX12_placeOf_0 rfl 0 rfl ?_
  refine g_if_ne O dX12_placeOf_1 rfl (fun c1 => ?_) (fun c1 => ?_)
  · replace h := (if_pos c1).symm.trans h
    refine g_sipush (v := (610 : Int32)) O dX12_placeOf_4 rfl ?_
    refine g_bipush (v := (55 : Int32)) O dX12_placeOf_7 rfl ?_
    refine g_iload_n O dX12_placeOf_9 rfl 1 rfl ?_
    refine g_imul O dX12_placeOf_10 ?_
    refine g_iadd O dX12_placeOf_11 ?_
    refine g_goto O dX12_placeOf_12 rfl ?_
    cases h
    exact g_ireturn O K dX12_placeOf_40
  · replace h := (if_neg c1).symm.trans h
    refine g_iload_n O dX12_placeOf_15 rfl 0 rfl ?_
    refine g_iconst (v := (1 : Int32)) O dX12_placeOf_16 rfl ?_
    refine g_icmp_ne O dX12_placeOf_17 rfl (fun c2 => ?_) (fun c2 => ?_)
    · replace h := (if_pos c2).symm.trans h
      refine g_sipush (v := (720 : Int32)) O dX12_placeOf_20 rfl ?_
      refine g_sipush (v := (161 : Int32)) O dX12_placeOf_23 rfl ?_
      refine g_iload_n O dX12_placeOf_26 rfl 1 rfl ?_
      refine g_imul O dX12_placeOf_27 ?_
      refine g_iadd O dX12_placeOf_28 ?_
      refine g_goto O dX12_placeOf_29 rfl ?_
      cases h
      exact g_ireturn O K dX12_placeOf_40
    · replace h := (if_neg c2).symm.trans h
      refine g_sipush (v := (1042 : Int32)) O dX12_placeOf_32 rfl ?_
      refine g_bipush (v := (18 : Int32)) O dX12_placeOf_35 rfl ?_
      refine g_iload_n O dX12_placeOf_37 rfl 1 rfl ?_
      refine g_imul O dX12_placeOf_38 ?_
      refine g_iadd O dX12_placeOf_39 ?_
      cases h
      exact g_ireturn O K dX12_placeOf_40
theorem c_X12_placeOf (l0 : Launch) (x0 : Int32) (x1 : Int32) (σ : Dt) (r : Int32) (h : f_X12_placeOf x0 x1 σ = some r) : Ctr l0 yX12_placeOf cX12_placeOf 2 (some .int) false 2 80 0 0 [vI x0, vI x1] SM σ SM σ (some (vI r)) := ctr_of (by decide) (Nat.le_of_ble_eq_true rfl) (fun M O F R0 N hn => t_X12_placeOf O R0 N hn x0 x1 σ r h F)
def f_X12_sizeOf (x0 : Int32) (σ : Dt) : Option Int32 := if x0 = 0 then some (55 : Int32) else if x0 = (1 : Int32) then some (161 : Int32) else some (18 : Int32)
theorem t_X12_sizeOf {M : Mx} {l0 : Launch} (O : Ok M cX12_sizeOf yX12_sizeOf) (R0 : Rm M l0 2 80 0 0) (N : Ma M = false) (hn : Mn M = 1) (x0 : Int32) (σ : Dt) (o : Int32) (h : f_X12_sizeOf x0 σ = some o) (K : Fin' M (some .int) 0 0 SM σ (some (vI o))) : G M 0 0 0 [(0, vI x0)] [] SM σ := by
  unfold f_X12_sizeOf at h
  refine g_iload_n O dX12_sizeOf_0 rfl 0 rfl ?_
  refine g_if_ne O dX12_sizeOf_1 rfl (fun c1 => ?_) (fun c1 => ?_)
  · replace h := (if_pos c1).symm.trans h
    refine g_bipush (v := (55 : Int32)) O dX12_sizeOf_4 rfl ?_
    refine g_goto O dX12_sizeOf_6 rfl ?_
    cases h
    exact g_ireturn O K dX12_sizeOf_22
  · replace h := (if_neg c1).symm.trans h
    refine g_iload_n O dX12_sizeOf_9 rfl 0 rfl ?_
    refine g_iconst (v := (1 : Int32)) O dX12_sizeOf_10 rfl ?_
    refine g_icmp_ne O dX12_sizeOf_11 rfl (fun c2 => ?_) (fun c2 => ?_)
    · replace h := (if_pos c2).symm.trans h
      refine g_sipush (v := (161 : Int32)) O dX12_sizeOf_14 rfl ?_
      refine g_goto O dX12_sizeOf_17 rfl ?_
      cases h
      exact g_ireturn O K dX12_sizeOf_22
    · replace h := (if_neg c2).symm.trans h
      refine g_bipush (v := (18 : Int32)) O dX12_sizeOf_20 rfl ?_
      cases h
      exact g_ireturn O K dX12_sizeOf_22
theorem c_X12_sizeOf (l0 : Launch) (x0 : Int32) (σ : Dt) (r : Int32) (h : f_X12_sizeOf x0 σ = some r) : Ctr l0 yX12_sizeOf cX12_sizeOf 1 (some .int) false 2 80 0 0 [vI x0] SM σ SM σ (some (vI r)) := ctr_of (by decide) (Nat.le_of_ble_eq_true rfl) (fun M O F R0 N hn => t_X12_sizeOf O R0 N hn x0 σ r h F)
def f_X12_isOf (a0 : Nat) (x1 : Int32) (x2 : Int32) (σ : Dt) : Option Int32 := bo (xgr SM 12 0 (some a0) σ) fun v1 => bo (xai SM v1 x1 σ) fun v3 => bo (f_X12_isIn x2 (0 : Int32) (v3 - (1 : Int32)) σ) fun v5 => if v5 = 0 ∨ v5 = 1 then some v5 else none
theorem t_X12_isOf {M : Mx} {l0 : Launch} (O : Ok M cX12_isOf yX12_isOf) (R0 : Rm M l0 3 102 0 0) (N : Ma M = false) (hn : Mn M = 3) (a0 : Nat) (x1 : Int32) (x2 : Int32) (σ : Dt) (o : Int32) (h : f_X12_isOf a0 x1 x2 σ = some o) (K : Fin' M (some .boolean) 0 0 SM σ (some (vI o))) : G M 0 0 0 [(0, vA (some a0)), (1, vI x1), (2, vI x2)] [] SM σ := by
  unfold f_X12_isOf at h
  refine g_iload_n O dX12_isOf_0 rfl 2 rfl ?_
  refine g_iconst (v := (0 : Int32)) O dX12_isOf_1 rfl ?_
  refine g_aload_n O dX12_isOf_2 rfl 0 rfl ?_
  obtain ⟨v1, e2, h⟩ := bo_some h
  refine g_getR O dX12_isOf_3 fl_X12_7 rfl e2 ?_
  refine g_iload_n O dX12_isOf_6 rfl 1 rfl ?_
  obtain ⟨v3, e4, h⟩ := bo_some h
  refine g_iaload O dX12_isOf_7 e4 ?_
  refine g_iconst (v := (1 : Int32)) O dX12_isOf_8 rfl ?_
  refine g_isub O dX12_isOf_9 ?_
  obtain ⟨v5, e6, h⟩ := bo_some h
  refine g_cS1 O R0 N dX12_isOf_10 vl_X12_146 w1616 [vI x2, vI (0 : Int32), vI (v3 - (1 : Int32))] rfl rfl rfl ⟨Nat.le_of_ble_eq_true rfl, Nat.le_of_ble_eq_true rfl⟩ (c_X12_isIn l0 x2 (0 : Int32) (v3 - (1 : Int32)) σ v5 e6) ?_
  by_cases c7 : v5 = 0 ∨ v5 = 1
  · replace h := (if_pos c7).symm.trans h
    cases h
    exact g_zreturn O c7 K dX12_isOf_13
  · rw [if_neg c7] at h; cases h
theorem c_X12_isOf (l0 : Launch) (a0 : Nat) (x1 : Int32) (x2 : Int32) (σ : Dt) (r : Int32) (h : f_X12_isOf a0 x1 x2 σ = some r) : Ctr l0 yX12_isOf cX12_isOf 3 (some .boolean) false 3 102 0 0 [vA (some a0), vI x1, vI x2] SM σ SM σ (some (vI r)) := ctr_of (by decide) (Nat.le_of_ble_eq_true rfl) (fun M O F R0 N hn => t_X12_isOf O R0 N hn a0 x1 x2 σ r h F)
def P_X12_text_88 (M : Mx) (a0 : Nat) (x1 : Int32) (x2 : Int32) (s : (Int32 × Dt)) : Prop := G M 0 0 88 [(0, vA (some a0)), (1, vI x1), (2, vI x2), (3, vI s.1)] [] SM s.2
def E_X12_text_88 (M : Mx) (a0 : Nat) (x1 : Int32) (x2 : Int32) : Dt → Prop := (fun w => G M 0 0 108 [(0, vA (some a0)), (1, vI x1), (2, vI x2)] [] SM w)
def f_X12_text_L88 (a0 : Nat) (x1 : Int32) (x2 : Int32) (x3 : Int32) (σ : Dt) : Option ((Int32 × Dt) ⊕ Dt) := if (161 : Int32) ≤ x3 then some (.inr σ) else bo (xgr SM 12 10 (some a0) σ) fun v2 => bo (xsi SM v2 x3 (0 : Int32) σ) fun σ4 => some (.inl ((x3 + (1 : Int32)), σ4))
theorem t_X12_text_L88 {M : Mx} {l0 : Launch} (O : Ok M cX12_text yX12_text) (R0 : Rm M l0 10 266 0 0) (N : Ma M = false) (hn : Mn M = 5) (a0 : Nat) (x1 : Int32) (x2 : Int32) (x3 : Int32) (σ : Dt) (o : ((Int32 × Dt) ⊕ Dt)) (h : f_X12_text_L88 a0 x1 x2 x3 σ = some o) (K : kon (P_X12_text_88 M a0 x1 x2) (E_X12_text_88 M a0 x1 x2) o) : G M 0 0 88 [(0, vA (some a0)), (1, vI x1), (2, vI x2), (3, vI x3)] [] SM σ := by
  unfold f_X12_text_L88 at h
  refine g_iload_n O dX12_text_88 rfl 3 rfl ?_
  refine g_sipush (v := (161 : Int32)) O dX12_text_89 rfl ?_
  refine g_icmp_ge O dX12_text_92 rfl (fun c1 => ?_) (fun c1 => ?_)
  · replace h := (if_pos c1).symm.trans h
    refine g_sub [0, 1, 2] (lv' := [(0, vA (some a0)), (1, vI x1), (2, vI x2)]) rfl ?_
    cases h
    exact K
  · replace h := (if_neg c1).symm.trans h
    refine g_aload_n O dX12_text_95 rfl 0 rfl ?_
    obtain ⟨v2, e3, h⟩ := bo_some h
    refine g_getR O dX12_text_96 fl_X12_17 rfl e3 ?_
    refine g_iload_n O dX12_text_99 rfl 3 rfl ?_
    refine g_iconst (v := (0 : Int32)) O dX12_text_100 rfl ?_
    obtain ⟨σ4, e5, h⟩ := bo_some h
    refine g_iastore O dX12_text_101 e5 ?_
    refine g_iinc (v := (x3 + (1 : Int32))) (lv' := [(3, vI (x3 + (1 : Int32))), (0, vA (some a0)), (1, vI x1), (2, vI x2)]) O dX12_text_102 5 hn (by decide) 3 rfl rfl rfl ?_
    refine g_goto O dX12_text_105 rfl ?_
    refine g_sub [1, 2, 3, 0] (lv' := [(0, vA (some a0)), (1, vI x1), (2, vI x2), (3, vI (x3 + (1 : Int32)))]) rfl ?_
    cases h
    exact K
def P_X12_text_250 (M : Mx) (a0 : Nat) (x1 : Int32) (x3 : Int32) (s : (Int32 × Dt)) : Prop := G M 0 0 250 [(0, vA (some a0)), (1, vI x1), (3, vI x3), (4, vI s.1)] [] SM s.2
def E_X12_text_250 (M : Mx) (a0 : Nat) (x1 : Int32) (x3 : Int32) : Dt → Prop := (fun w => G M 0 0 285 [(3, vI x3)] [] SM w)
def f_X12_text_L250 (a0 : Nat) (x1 : Int32) (x3 : Int32) (x4 : Int32) (σ : Dt) : Option ((Int32 × Dt) ⊕ Dt) := bo (f_X12_sizeOf x1 σ) fun v1 => if v1 ≤ x4 then some (.inr σ) else bo (xgr SM 12 0 (some a0) σ) fun v4 => bo (f_X12_placeOf x1 x3 σ) fun v6 => bo (xgr SM 12 10 (some a0) σ) fun v8 => bo (xai SM v8 x4 σ) fun v10 => bo (xsi SM v4 (v6 + x4) v10 σ) fun σ12 => some (.inl ((x4 + (1 : Int32)), σ12))
theorem t_X12_text_L250 {M : Mx} {l0 : Launch} (O : Ok M cX12_text yX12_text) (R0 : Rm M l0 10 266 0 0) (N : Ma M = false) (hn : Mn M = 5) (a0 : Nat) (x1 : Int32) (x3 : Int32) (x4 : Int32) (σ : Dt) (o : ((Int32 × Dt) ⊕ Dt)) (h : f_X12_text_L250 a0 x1 x3 x4 σ = some o) (K : kon (P_X12_text_250 M a0 x1 x3) (E_X12_text_250 M a0 x1 x3) o) : G M 0 0 250 [(0, vA (some a0)), (1, vI x1), (3, vI x3), (4, vI x4)] [] SM σ := by
  unfold f_X12_text_L250 at h
  refine g_iload O dX12_text_250 3 rfl ?_
  refine g_iload_n O dX12_text_252 rfl 1 rfl ?_
  obtain ⟨v1, e2, h⟩ := bo_some h
  refine g_cS1 O R0 N dX12_text_253 vl_X12_202 w1704 [vI x1] rfl rfl rfl ⟨Nat.le_of_ble_eq_true rfl, Nat.le_of_ble_eq_true rfl⟩ (c_X12_sizeOf l0 x1 σ v1 e2) ?_
  refine g_icmp_ge O dX12_text_256 rfl (fun c3 => ?_) (fun c3 => ?_)
  · replace h := (if_pos c3).symm.trans h
    refine g_sub [2] (lv' := [(3, vI x3)]) rfl ?_
    cases h
    exact K
  · replace h := (if_neg c3).symm.trans h
    refine g_aload_n O dX12_text_259 rfl 0 rfl ?_
    obtain ⟨v4, e5, h⟩ := bo_some h
    refine g_getR O dX12_text_260 fl_X12_7 rfl e5 ?_
    refine g_iload_n O dX12_text_263 rfl 1 rfl ?_
    refine g_iload_n O dX12_text_264 rfl 2 rfl ?_
    obtain ⟨v6, e7, h⟩ := bo_some h
    refine g_cS1 O R0 N dX12_text_265 vl_X12_205 w1707 [vI x1, vI x3] rfl rfl rfl ⟨Nat.le_of_ble_eq_true rfl, Nat.le_of_ble_eq_true rfl⟩ (c_X12_placeOf l0 x1 x3 σ v6 e7) ?_
    refine g_iload O dX12_text_268 3 rfl ?_
    refine g_iadd O dX12_text_270 ?_
    refine g_aload_n O dX12_text_271 rfl 0 rfl ?_
    obtain ⟨v8, e9, h⟩ := bo_some h
    refine g_getR O dX12_text_272 fl_X12_17 rfl e9 ?_
    refine g_iload O dX12_text_275 3 rfl ?_
    obtain ⟨v10, e11, h⟩ := bo_some h
    refine g_iaload O dX12_text_277 e11 ?_
    obtain ⟨σ12, e13, h⟩ := bo_some h
    refine g_iastore O dX12_text_278 e13 ?_
    refine g_iinc (v := (x4 + (1 : Int32))) (lv' := [(4, vI (x4 + (1 : Int32))), (0, vA (some a0)), (1, vI x1), (3, vI x3)]) O dX12_text_279 5 hn (by decide) 3 rfl rfl rfl ?_
    refine g_goto O dX12_text_282 rfl ?_
    refine g_sub [1, 2, 3, 0] (lv' := [(0, vA (some a0)), (1, vI x1), (3, vI x3), (4, vI (x4 + (1 : Int32)))]) rfl ?_
    cases h
    exact K
def P_X12_text_136 (M : Mx) (a0 : Nat) (x1 : Int32) (x2 : Int32) (s : Dt) : Prop := G M 0 0 136 [(0, vA (some a0)), (1, vI x1), (2, vI x2)] [] SM s
def E_X12_text_136 (M : Mx) (a0 : Nat) (x1 : Int32) (x2 : Int32) : Dt → Prop := (fun w => G M 0 0 197 [(0, vA (some a0)), (1, vI x1), (2, vI x2)] [] SM w)
def f_X12_text_L136 (a0 : Nat) (x1 : Int32) (x2 : Int32) (σ : Dt) : Option (Dt ⊕ Dt) := bo (xgi SM 12 8 (some a0) σ) fun v1 => if v1 = 0 then bo (xgi SM 12 5 (some a0) σ) fun v4 => if v4 = 0 then some (.inr σ) else if x1 = (0 : Int32) then bo (xrc SM 12 (some a0)) fun a8 => bd (f_X12_valleyLine a8 σ) fun v10 σ11 => some (.inl σ11) else if x1 = (1 : Int32) then bo (xrc SM 12 (some a0)) fun a14 => bd (f_X12_lifeLine a14 σ) fun v16 σ17 => some (.inl σ17) else bo (xrc SM 12 (some a0)) fun a19 => bd (f_X12_sightLine a19 σ) fun v21 σ22 => some (.inl σ22) else some (.inr σ)
theorem t_X12_text_L136 {M : Mx} {l0 : Launch} (O : Ok M cX12_text yX12_text) (R0 : Rm M l0 10 266 0 0) (N : Ma M = false) (hn : Mn M = 5) (a0 : Nat) (x1 : Int32) (x2 : Int32) (σ : Dt) (o : (Dt ⊕ Dt)) (h : f_X12_text_L136 a0 x1 x2 σ = some o) (K : kon (P_X12_text_136 M a0 x1 x2) (E_X12_text_136 M a0 x1 x2) o) : G M 0 0 136 [(0, vA (some a0)), (1, vI x1), (2, vI x2)] [] SM σ := by
  unfold f_X12_text_L136 at h
  refine g_aload_n O dX12_text_136 rfl 0 rfl ?_
  obtain ⟨v1, e2, h⟩ := bo_some h
  refine g_getI O dX12_text_137 fl_X12_139 rfl e2 ?_
  refine g_if_ne O dX12_text_140 rfl (fun c3 => ?_) (fun c3 => ?_)
  · replace h := (if_pos c3).symm.trans h
    refine g_aload_n O dX12_text_143 rfl 0 rfl ?_
    obtain ⟨v4, e5, h⟩ := bo_some h
    refine g_getI O dX12_text_144 fl_X12_115 rfl e5 ?_
    refine g_if_eq O dX12_text_147 rfl (fun c6 => ?_) (fun c6 => ?_)
    · replace h := (if_pos c6).symm.trans h
      cases h
      exact K
    · replace h := (if_neg c6).symm.trans h
      refine g_iload_n O dX12_text_150 rfl 1 rfl ?_
      by_cases c7 : x1 = (0 : Int32)
      · replace h := (if_pos c7).symm.trans h
        refine g_look O dX12_text_151 (by decide) (by first | (rw [c7]; done) | (rw [c7]; rfl)) rfl ?_
        refine g_aload_n O dX12_text_176 rfl 0 rfl ?_
        obtain ⟨a8, e9, h⟩ := bo_some h
        obtain ⟨v10, σ11, e12, h⟩ := bd_some h
        refine g_cV0 O R0 N dX12_text_177 vl_X12_190 vv_X12_valleyLine e9 [] rfl rfl rfl ⟨Nat.le_of_ble_eq_true rfl, Nat.le_of_ble_eq_true rfl⟩ (c_X12_valleyLine l0 a8 σ v10 σ11 e12) ?_
        refine g_goto O dX12_text_180 rfl ?_
        cases h
        exact K
      replace h := (if_neg c7).symm.trans h
      by_cases c13 : x1 = (1 : Int32)
      · replace h := (if_pos c13).symm.trans h
        refine g_look O dX12_text_151 (by decide) (by first | (rw [c13]; done) | (rw [c13]; rfl)) rfl ?_
        refine g_aload_n O dX12_text_183 rfl 0 rfl ?_
        obtain ⟨a14, e15, h⟩ := bo_some h
        obtain ⟨v16, σ17, e18, h⟩ := bd_some h
        refine g_cV0 O R0 N dX12_text_184 vl_X12_193 vv_X12_lifeLine e15 [] rfl rfl rfl ⟨Nat.le_of_ble_eq_true rfl, Nat.le_of_ble_eq_true rfl⟩ (c_X12_lifeLine l0 a14 σ v16 σ17 e18) ?_
        refine g_goto O dX12_text_187 rfl ?_
        cases h
        exact K
      replace h := (if_neg c13).symm.trans h
      refine g_look O dX12_text_151 (by decide) (by show Op.lookupswitch.offset [(0, _), (1, _)] _ _ = _; rw [Op.lookupswitch.offset_cons, if_neg (fun e => c7 (Int32.toInt_inj.mp (e.symm.trans (show (0 : Int) = (0 : Int32).toInt from rfl)))), Op.lookupswitch.offset_cons, if_neg (fun e => c13 (Int32.toInt_inj.mp (e.symm.trans (show (1 : Int) = (1 : Int32).toInt from rfl)))), Op.lookupswitch.offset_nil]; first | done | rfl) rfl ?_
      refine g_aload_n O dX12_text_190 rfl 0 rfl ?_
      obtain ⟨a19, e20, h⟩ := bo_some h
      obtain ⟨v21, σ22, e23, h⟩ := bd_some h
      refine g_cV0 O R0 N dX12_text_191 vl_X12_196 vv_X12_sightLine e20 [] rfl rfl rfl ⟨Nat.le_of_ble_eq_true rfl, Nat.le_of_ble_eq_true rfl⟩ (c_X12_sightLine l0 a19 σ v21 σ22 e23) ?_
      refine g_goto O dX12_text_194 rfl ?_
      cases h
      exact K
  · replace h := (if_neg c3).symm.trans h
    cases h
    exact K
def f_X12_text_247 (a0 : Nat) (x1 : Int32) (x3 : Int32) (σ : Dt) : Option (Int32 × Dt) := bo (iter FU (fun s => f_X12_text_L250 a0 x1 x3 s.1 s.2) ((0 : Int32), σ)) fun w1 => some (x3, w1)
theorem t_X12_text_247 {M : Mx} {l0 : Launch} (O : Ok M cX12_text yX12_text) (R0 : Rm M l0 10 266 0 0) (N : Ma M = false) (hn : Mn M = 5)  (a0 : Nat) (x1 : Int32) (x3 : Int32) (σ : Dt) (o : (Int32 × Dt)) (h : f_X12_text_247 a0 x1 x3 σ = some o) (K : Fin' M (some .int) 0 0 SM o.2 (some (vI o.1))) : G M 0 0 247 [(0, vA (some a0)), (1, vI x1), (3, vI x3)] [] SM σ := by
  unfold f_X12_text_247 at h
  refine g_iconst (v := (0 : Int32)) O dX12_text_247 rfl ?_
  refine g_istore (lv' := [(4, vI (0 : Int32)), (0, vA (some a0)), (1, vI x1), (3, vI x3)]) O dX12_text_248 5 hn (by decide) rfl ?_
  refine g_sub [1, 2, 3, 0] (lv' := [(0, vA (some a0)), (1, vI x1), (3, vI x3), (4, vI (0 : Int32))]) rfl ?_
  obtain ⟨w1, e2, h⟩ := bo_some h
  refine iter_G (P := P_X12_text_250 M a0 x1 x3) (E := E_X12_text_250 M a0 x1 x3) (fun s o hb hk => t_X12_text_L250 O R0 N hn a0 x1 x3 s.1 s.2 o hb hk) FU ((0 : Int32), σ) w1 e2 ?_
  show G M 0 0 285 [(3, vI x3)] [] SM w1
  refine g_iload_n O dX12_text_285 rfl 0 rfl ?_
  cases h
  exact g_ireturn O K dX12_text_286
def f_X12_text_231 (a0 : Nat) (x1 : Int32) (x2 : Int32) (k0 : Int32) (σ : Dt) : Option (Int32 × Dt) := if x2 = (-1 : Int32) then bo (xgr SM 12 0 (some a0) σ) fun v2 => bo (xai SM v2 x1 σ) fun v4 => bo (xsi SM v2 x1 (v4 + (1 : Int32)) σ) fun σ6 => f_X12_text_247 a0 x1 k0 σ6 else f_X12_text_247 a0 x1 k0 σ
theorem t_X12_text_231 {M : Mx} {l0 : Launch} (O : Ok M cX12_text yX12_text) (R0 : Rm M l0 10 266 0 0) (N : Ma M = false) (hn : Mn M = 5)  (a0 : Nat) (x1 : Int32) (x2 : Int32) (k0 : Int32) (σ : Dt) (o : (Int32 × Dt)) (h : f_X12_text_231 a0 x1 x2 k0 σ = some o) (K : Fin' M (some .int) 0 0 SM o.2 (some (vI o.1))) : G M 0 0 231 [(0, vA (some a0)), (1, vI x1), (2, vI x2)] [vI k0] SM σ := by
  unfold f_X12_text_231 at h
  refine g_istore_n (lv' := [(3, vI k0), (0, vA (some a0)), (1, vI x1), (2, vI x2)]) O dX12_text_231 rfl 5 hn (by decide) rfl ?_
  refine g_iload_n O dX12_text_232 rfl 3 rfl ?_
  refine g_iconst (v := (-1 : Int32)) O dX12_text_233 rfl ?_
  refine g_icmp_ne O dX12_text_234 rfl (fun c1 => ?_) (fun c1 => ?_)
  · replace h := (if_pos c1).symm.trans h
    refine g_aload_n O dX12_text_237 rfl 1 rfl ?_
    obtain ⟨v2, e3, h⟩ := bo_some h
    refine g_getR O dX12_text_238 fl_X12_7 rfl e3 ?_
    refine g_iload_n O dX12_text_241 rfl 2 rfl ?_
    refine g_dup2 O dX12_text_242 rfl rfl ?_
    obtain ⟨v4, e5, h⟩ := bo_some h
    refine g_iaload O dX12_text_243 e5 ?_
    refine g_iconst (v := (1 : Int32)) O dX12_text_244 rfl ?_
    refine g_iadd O dX12_text_245 ?_
    obtain ⟨σ6, e7, h⟩ := bo_some h
    refine g_iastore O dX12_text_246 e7 ?_
    refine g_sub [1, 2, 0] (lv' := [(0, vA (some a0)), (1, vI x1), (3, vI k0)]) rfl ?_
    exact t_X12_text_247 O R0 N hn a0 x1 k0 σ6 o h K
  · replace h := (if_neg c1).symm.trans h
    refine g_sub [1, 2, 0] (lv' := [(0, vA (some a0)), (1, vI x1), (3, vI k0)]) rfl ?_
    exact t_X12_text_247 O R0 N hn a0 x1 k0 σ o h K
def f_X12_text_205 (a0 : Nat) (x1 : Int32) (x2 : Int32) (σ : Dt) : Option (Int32 × Dt) := bo (xgr SM 12 0 (some a0) σ) fun v1 => bo (xai SM v1 (5 : Int32) σ) fun v3 => if v3 = 0 then if x2 = (-1 : Int32) then bo (xgr SM 12 0 (some a0) σ) fun v7 => bo (xai SM v7 x1 σ) fun v9 => f_X12_text_231 a0 x1 x2 v9 σ else f_X12_text_231 a0 x1 x2 x2 σ else some ((-1 : Int32), σ)
theorem t_X12_text_205 {M : Mx} {l0 : Launch} (O : Ok M cX12_text yX12_text) (R0 : Rm M l0 10 266 0 0) (N : Ma M = false) (hn : Mn M = 5)  (a0 : Nat) (x1 : Int32) (x2 : Int32) (σ : Dt) (o : (Int32 × Dt)) (h : f_X12_text_205 a0 x1 x2 σ = some o) (K : Fin' M (some .int) 0 0 SM o.2 (some (vI o.1))) : G M 0 0 205 [(0, vA (some a0)), (1, vI x1), (2, vI x2)] [] SM σ := by
  unfold f_X12_text_205 at h
  refine g_aload_n O dX12_text_205 rfl 0 rfl ?_
  obtain ⟨v1, e2, h⟩ := bo_some h
  refine g_getR O dX12_text_206 fl_X12_7 rfl e2 ?_
  refine g_iconst (v := (5 : Int32)) O dX12_text_209 rfl ?_
  obtain ⟨v3, e4, h⟩ := bo_some h
  refine g_iaload O dX12_text_210 e4 ?_
  refine g_if_eq O dX12_text_211 rfl (fun c5 => ?_) (fun c5 => ?_)
  · replace h := (if_pos c5).symm.trans h
    refine g_iload_n O dX12_text_216 rfl 2 rfl ?_
    refine g_iconst (v := (-1 : Int32)) O dX12_text_217 rfl ?_
    refine g_icmp_ne O dX12_text_218 rfl (fun c6 => ?_) (fun c6 => ?_)
    · replace h := (if_pos c6).symm.trans h
      refine g_aload_n O dX12_text_221 rfl 0 rfl ?_
      obtain ⟨v7, e8, h⟩ := bo_some h
      refine g_getR O dX12_text_222 fl_X12_7 rfl e8 ?_
      refine g_iload_n O dX12_text_225 rfl 1 rfl ?_
      obtain ⟨v9, e10, h⟩ := bo_some h
      refine g_iaload O dX12_text_226 e10 ?_
      refine g_goto O dX12_text_227 rfl ?_
      exact t_X12_text_231 O R0 N hn a0 x1 x2 v9 σ o h K
    · replace h := (if_neg c6).symm.trans h
      refine g_iload_n O dX12_text_230 rfl 2 rfl ?_
      exact t_X12_text_231 O R0 N hn a0 x1 x2 x2 σ o h K
  · replace h := (if_neg c5).symm.trans h
    refine g_iconst (v := (-1 : Int32)) O dX12_text_214 rfl ?_
    cases h
    exact g_ireturn O K dX12_text_215
def f_X12_text_197 (a0 : Nat) (x1 : Int32) (x2 : Int32) (σ : Dt) : Option (Int32 × Dt) := if x1 = 0 then bo (xrc SM 12 (some a0)) fun a2 => bd (f_X12_endsValley a2 σ) fun v4 σ5 => f_X12_text_205 a0 x1 x2 σ5 else f_X12_text_205 a0 x1 x2 σ
theorem t_X12_text_197 {M : Mx} {l0 : Launch} (O : Ok M cX12_text yX12_text) (R0 : Rm M l0 10 266 0 0) (N : Ma M = false) (hn : Mn M = 5)  (a0 : Nat) (x1 : Int32) (x2 : Int32) (σ : Dt) (o : (Int32 × Dt)) (h : f_X12_text_197 a0 x1 x2 σ = some o) (K : Fin' M (some .int) 0 0 SM o.2 (some (vI o.1))) : G M 0 0 197 [(0, vA (some a0)), (1, vI x1), (2, vI x2)] [] SM σ := by
  unfold f_X12_text_197 at h
  refine g_iload_n O dX12_text_197 rfl 1 rfl ?_
  refine g_if_ne O dX12_text_198 rfl (fun c1 => ?_) (fun c1 => ?_)
  · replace h := (if_pos c1).symm.trans h
    refine g_aload_n O dX12_text_201 rfl 0 rfl ?_
    obtain ⟨a2, e3, h⟩ := bo_some h
    obtain ⟨v4, σ5, e6, h⟩ := bd_some h
    refine g_cV0 O R0 N dX12_text_202 vl_X12_199 vv_X12_endsValley e3 [] rfl rfl rfl ⟨Nat.le_of_ble_eq_true rfl, Nat.le_of_ble_eq_true rfl⟩ (c_X12_endsValley l0 a2 σ v4 σ5 e6) ?_
    exact t_X12_text_205 O R0 N hn a0 x1 x2 σ5 o h K
  · replace h := (if_neg c1).symm.trans h
    exact t_X12_text_205 O R0 N hn a0 x1 x2 σ o h K
def f_X12_text_132 (a0 : Nat) (x1 : Int32) (x2 : Int32) (σ : Dt) : Option (Int32 × Dt) := bo (xrc SM 12 (some a0)) fun a1 => bd (f_X12_advance a1 σ) fun v3 σ4 => bo (iter FU (fun s => f_X12_text_L136 a0 x1 x2 s) σ4) fun w6 => f_X12_text_197 a0 x1 x2 w6
theorem t_X12_text_132 {M : Mx} {l0 : Launch} (O : Ok M cX12_text yX12_text) (R0 : Rm M l0 10 266 0 0) (N : Ma M = false) (hn : Mn M = 5)  (a0 : Nat) (x1 : Int32) (x2 : Int32) (σ : Dt) (o : (Int32 × Dt)) (h : f_X12_text_132 a0 x1 x2 σ = some o) (K : Fin' M (some .int) 0 0 SM o.2 (some (vI o.1))) : G M 0 0 132 [(0, vA (some a0)), (1, vI x1), (2, vI x2)] [] SM σ := by
  unfold f_X12_text_132 at h
  refine g_aload_n O dX12_text_132 rfl 0 rfl ?_
  obtain ⟨a1, e2, h⟩ := bo_some h
  obtain ⟨v3, σ4, e5, h⟩ := bd_some h
  refine g_cV0 O R0 N dX12_text_133 vl_X12_154 vv_X12_advance e2 [] rfl rfl rfl ⟨Nat.le_of_ble_eq_true rfl, Nat.le_of_ble_eq_true rfl⟩ (c_X12_advance l0 a1 σ v3 σ4 e5) ?_
  obtain ⟨w6, e7, h⟩ := bo_some h
  refine iter_G (P := P_X12_text_136 M a0 x1 x2) (E := E_X12_text_136 M a0 x1 x2) (fun s o hb hk => t_X12_text_L136 O R0 N hn a0 x1 x2 s o hb hk) FU σ4 w6 e7 ?_
  show G M 0 0 197 [(0, vA (some a0)), (1, vI x1), (2, vI x2)] [] SM w6
  exact t_X12_text_197 O R0 N hn a0 x1 x2 w6 o h K
def f_X12_text_120 (a0 : Nat) (x1 : Int32) (x2 : Int32) (σ : Dt) : Option (Int32 × Dt) := if x1 = (2 : Int32) then bo (xgr SM 12 10 (some a0) σ) fun v2 => bo (xsi SM v2 (0 : Int32) (1 : Int32) σ) fun σ4 => f_X12_text_132 a0 x1 x2 σ4 else f_X12_text_132 a0 x1 x2 σ
theorem t_X12_text_120 {M : Mx} {l0 : Launch} (O : Ok M cX12_text yX12_text) (R0 : Rm M l0 10 266 0 0) (N : Ma M = false) (hn : Mn M = 5)  (a0 : Nat) (x1 : Int32) (x2 : Int32) (σ : Dt) (o : (Int32 × Dt)) (h : f_X12_text_120 a0 x1 x2 σ = some o) (K : Fin' M (some .int) 0 0 SM o.2 (some (vI o.1))) : G M 0 0 120 [(0, vA (some a0)), (1, vI x1), (2, vI x2)] [] SM σ := by
  unfold f_X12_text_120 at h
  refine g_iload_n O dX12_text_120 rfl 1 rfl ?_
  refine g_iconst (v := (2 : Int32)) O dX12_text_121 rfl ?_
  refine g_icmp_ne O dX12_text_122 rfl (fun c1 => ?_) (fun c1 => ?_)
  · replace h := (if_pos c1).symm.trans h
    refine g_aload_n O dX12_text_125 rfl 0 rfl ?_
    obtain ⟨v2, e3, h⟩ := bo_some h
    refine g_getR O dX12_text_126 fl_X12_17 rfl e3 ?_
    refine g_iconst (v := (0 : Int32)) O dX12_text_129 rfl ?_
    refine g_iconst (v := (1 : Int32)) O dX12_text_130 rfl ?_
    obtain ⟨σ4, e5, h⟩ := bo_some h
    refine g_iastore O dX12_text_131 e5 ?_
    exact t_X12_text_132 O R0 N hn a0 x1 x2 σ4 o h K
  · replace h := (if_neg c1).symm.trans h
    exact t_X12_text_132 O R0 N hn a0 x1 x2 σ o h K
def f_X12_text_71 (a0 : Nat) (x1 : Int32) (x2 : Int32) (σ : Dt) : Option (Int32 × Dt) := bo (xpi SM 12 3 (some a0) (0 : Int32) σ) fun σ1 => bo (xpz SM 12 8 (some a0) (0 : Int32) σ1) fun σ3 => bo (xpi SM 12 9 (some a0) (-1 : Int32) σ3) fun σ5 => bo (iter FU (fun s => f_X12_text_L88 a0 x1 x2 s.1 s.2) ((0 : Int32), σ5)) fun w7 => if x1 = 0 then bo (xgr SM 12 10 (some a0) w7) fun v10 => bo (xsi SM v10 (2 : Int32) (20 : Int32) w7) fun σ12 => f_X12_text_120 a0 x1 x2 σ12 else f_X12_text_120 a0 x1 x2 w7
theorem t_X12_text_71 {M : Mx} {l0 : Launch} (O : Ok M cX12_text yX12_text) (R0 : Rm M l0 10 266 0 0) (N : Ma M = false) (hn : Mn M = 5)  (a0 : Nat) (x1 : Int32) (x2 : Int32) (σ : Dt) (o : (Int32 × Dt)) (h : f_X12_text_71 a0 x1 x2 σ = some o) (K : Fin' M (some .int) 0 0 SM o.2 (some (vI o.1))) : G M 0 0 71 [(0, vA (some a0)), (1, vI x1), (2, vI x2)] [] SM σ := by
  unfold f_X12_text_71 at h
  refine g_aload_n O dX12_text_71 rfl 0 rfl ?_
  refine g_iconst (v := (0 : Int32)) O dX12_text_72 rfl ?_
  obtain ⟨σ1, e2, h⟩ := bo_some h
  refine g_putI O dX12_text_73 fl_X12_105 (Or.inl rfl) rfl e2 ?_
  refine g_aload_n O dX12_text_76 rfl 0 rfl ?_
  refine g_iconst (v := (0 : Int32)) O dX12_text_77 rfl ?_
  obtain ⟨σ3, e4, h⟩ := bo_some h
  refine g_putZ O dX12_text_78 fl_X12_139 (Or.inl rfl) rfl e4 ?_
  refine g_aload_n O dX12_text_81 rfl 0 rfl ?_
  refine g_iconst (v := (-1 : Int32)) O dX12_text_82 rfl ?_
  obtain ⟨σ5, e6, h⟩ := bo_some h
  refine g_putI O dX12_text_83 fl_X12_161 (Or.inl rfl) rfl e6 ?_
  refine g_iconst (v := (0 : Int32)) O dX12_text_86 rfl ?_
  refine g_istore_n (lv' := [(3, vI (0 : Int32)), (0, vA (some a0)), (1, vI x1), (2, vI x2)]) O dX12_text_87 rfl 5 hn (by decide) rfl ?_
  refine g_sub [1, 2, 3, 0] (lv' := [(0, vA (some a0)), (1, vI x1), (2, vI x2), (3, vI (0 : Int32))]) rfl ?_
  obtain ⟨w7, e8, h⟩ := bo_some h
  refine iter_G (P := P_X12_text_88 M a0 x1 x2) (E := E_X12_text_88 M a0 x1 x2) (fun s o hb hk => t_X12_text_L88 O R0 N hn a0 x1 x2 s.1 s.2 o hb hk) FU ((0 : Int32), σ5) w7 e8 ?_
  show G M 0 0 108 [(0, vA (some a0)), (1, vI x1), (2, vI x2)] [] SM w7
  refine g_iload_n O dX12_text_108 rfl 1 rfl ?_
  refine g_if_ne O dX12_text_109 rfl (fun c9 => ?_) (fun c9 => ?_)
  · replace h := (if_pos c9).symm.trans h
    refine g_aload_n O dX12_text_112 rfl 0 rfl ?_
    obtain ⟨v10, e11, h⟩ := bo_some h
    refine g_getR O dX12_text_113 fl_X12_17 rfl e11 ?_
    refine g_iconst (v := (2 : Int32)) O dX12_text_116 rfl ?_
    refine g_bipush (v := (20 : Int32)) O dX12_text_117 rfl ?_
    obtain ⟨σ12, e13, h⟩ := bo_some h
    refine g_iastore O dX12_text_119 e13 ?_
    exact t_X12_text_120 O R0 N hn a0 x1 x2 σ12 o h K
  · replace h := (if_neg c9).symm.trans h
    exact t_X12_text_120 O R0 N hn a0 x1 x2 w7 o h K
def f_X12_text (a0 : Nat) (x1 : Int32) (x2 : Int32) (σ : Dt) : Option (Int32 × Dt) := bo (xgr SM 12 0 (some a0) σ) fun v1 => bo (xai SM v1 (4 : Int32) σ) fun v3 => bo (xpi SM 12 2 (some a0) v3 σ) fun σ5 => bo (xgr SM 12 0 (some a0) σ5) fun v7 => bo (xsi SM v7 (4 : Int32) (0 : Int32) σ5) fun σ9 => bo (xgr SM 12 0 (some a0) σ9) fun v11 => bo (xsi SM v11 (5 : Int32) (0 : Int32) σ9) fun σ13 => bo (xgr SM 12 0 (some a0) σ13) fun v15 => bo (xsi SM v15 (6 : Int32) (-1 : Int32) σ13) fun σ17 => bo (f_X12_isIn x1 (0 : Int32) (2 : Int32) σ17) fun v19 => if v19 = 0 then some ((-2 : Int32), σ17) else if x2 = (-1 : Int32) then bo (xgr SM 12 0 (some a0) σ17) fun v23 => bo (xai SM v23 x1 σ17) fun v25 => if v25 < (2 : Int32) then f_X12_text_71 a0 x1 x2 σ17 else some ((-2 : Int32), σ17) else bo (xrc SM 12 (some a0)) fun a28 => bo (f_X12_isOf a28 x1 x2 σ17) fun v30 => if v30 = 0 then some ((-2 : Int32), σ17) else f_X12_text_71 a0 x1 x2 σ17
theorem t_X12_text {M : Mx} {l0 : Launch} (O : Ok M cX12_text yX12_text) (R0 : Rm M l0 10 266 0 0) (N : Ma M = false) (hn : Mn M = 5) (a0 : Nat) (x1 : Int32) (x2 : Int32) (σ : Dt) (o : (Int32 × Dt)) (h : f_X12_text a0 x1 x2 σ = some o) (K : Fin' M (some .int) 0 0 SM o.2 (some (vI o.1))) : G M 0 0 0 [(0, vA (some a0)), (1, vI x1), (2, vI x2)] [] SM σ := by
  unfold f_X12_text at h
  refine g_aload_n O dX12_text_0 rfl 0 rfl ?_
  refine g_aload_n O dX12_text_1 rfl 0 rfl ?_
  obtain ⟨v1, e2, h⟩ := bo_some h
  refine g_getR O dX12_text_2 fl_X12_7 rfl e2 ?_
  refine g_iconst (v := (4 : Int32)) O dX12_text_5 rfl ?_
  obtain ⟨v3, e4, h⟩ := bo_some h
  refine g_iaload O dX12_text_6 e4 ?_
  obtain ⟨σ5, e6, h⟩ := bo_some h
  refine g_putI O dX12_text_7 fl_X12_91 (Or.inl rfl) rfl e6 ?_
  refine g_aload_n O dX12_text_10 rfl 0 rfl ?_
  obtain ⟨v7, e8, h⟩ := bo_some h
  refine g_getR O dX12_text_11 fl_X12_7 rfl e8 ?_
  refine g_iconst (v := (4 : Int32)) O dX12_text_14 rfl ?_
  refine g_iconst (v := (0 : Int32)) O dX12_text_15 rfl ?_
  obtain ⟨σ9, e10, h⟩ := bo_some h
  refine g_iastore O dX12_text_16 e10 ?_
  refine g_aload_n O dX12_text_17 rfl 0 rfl ?_
  obtain ⟨v11, e12, h⟩ := bo_some h
  refine g_getR O dX12_text_18 fl_X12_7 rfl e12 ?_
  refine g_iconst (v := (5 : Int32)) O dX12_text_21 rfl ?_
  refine g_iconst (v := (0 : Int32)) O dX12_text_22 rfl ?_
  obtain ⟨σ13, e14, h⟩ := bo_some h
  refine g_iastore O dX12_text_23 e14 ?_
  refine g_aload_n O dX12_text_24 rfl 0 rfl ?_
  obtain ⟨v15, e16, h⟩ := bo_some h
  refine g_getR O dX12_text_25 fl_X12_7 rfl e16 ?_
  refine g_bipush (v := (6 : Int32)) O dX12_text_28 rfl ?_
  refine g_iconst (v := (-1 : Int32)) O dX12_text_30 rfl ?_
  obtain ⟨σ17, e18, h⟩ := bo_some h
  refine g_iastore O dX12_text_31 e18 ?_
  refine g_iload_n O dX12_text_32 rfl 1 rfl ?_
  refine g_iconst (v := (0 : Int32)) O dX12_text_33 rfl ?_
  refine g_iconst (v := (2 : Int32)) O dX12_text_34 rfl ?_
  obtain ⟨v19, e20, h⟩ := bo_some h
  refine g_cS1 O R0 N dX12_text_35 vl_X12_146 w1616 [vI x1, vI (0 : Int32), vI (2 : Int32)] rfl rfl rfl ⟨Nat.le_of_ble_eq_true rfl, Nat.le_of_ble_eq_true rfl⟩ (c_X12_isIn l0 x1 (0 : Int32) (2 : Int32) σ17 v19 e20) ?_
  refine g_if_eq O dX12_text_38 rfl (fun c21 => ?_) (fun c21 => ?_)
  · replace h := (if_pos c21).symm.trans h
    refine g_bipush (v := (-2 : Int32)) O dX12_text_68 rfl ?_
    cases h
    exact g_ireturn O K dX12_text_70
  · replace h := (if_neg c21).symm.trans h
    refine g_iload_n O dX12_text_41 rfl 2 rfl ?_
    refine g_iconst (v := (-1 : Int32)) O dX12_text_42 rfl ?_
    refine g_icmp_ne O dX12_text_43 rfl (fun c22 => ?_) (fun c22 => ?_)
    · replace h := (if_pos c22).symm.trans h
      refine g_aload_n O dX12_text_46 rfl 0 rfl ?_
      obtain ⟨v23, e24, h⟩ := bo_some h
      refine g_getR O dX12_text_47 fl_X12_7 rfl e24 ?_
      refine g_iload_n O dX12_text_50 rfl 1 rfl ?_
      obtain ⟨v25, e26, h⟩ := bo_some h
      refine g_iaload O dX12_text_51 e26 ?_
      refine g_iconst (v := (2 : Int32)) O dX12_text_52 rfl ?_
      refine g_icmp_lt O dX12_text_53 rfl (fun c27 => ?_) (fun c27 => ?_)
      · replace h := (if_pos c27).symm.trans h
        exact t_X12_text_71 O R0 N hn a0 x1 x2 σ17 o h K
      · replace h := (if_neg c27).symm.trans h
        refine g_goto O dX12_text_56 rfl ?_
        refine g_bipush (v := (-2 : Int32)) O dX12_text_68 rfl ?_
        cases h
        exact g_ireturn O K dX12_text_70
    · replace h := (if_neg c22).symm.trans h
      refine g_aload_n O dX12_text_59 rfl 0 rfl ?_
      refine g_iload_n O dX12_text_60 rfl 1 rfl ?_
      refine g_iload_n O dX12_text_61 rfl 2 rfl ?_
      obtain ⟨a28, e29, h⟩ := bo_some h
      obtain ⟨v30, e31, h⟩ := bo_some h
      refine g_cV1 O R0 N dX12_text_62 vl_X12_186 vv_X12_isOf e29 [vI x1, vI x2] rfl rfl rfl ⟨Nat.le_of_ble_eq_true rfl, Nat.le_of_ble_eq_true rfl⟩ (c_X12_isOf l0 a28 x1 x2 σ17 v30 e31) ?_
      refine g_if_ne O dX12_text_65 rfl (fun c32 => ?_) (fun c32 => ?_)
      · replace h := (if_pos c32).symm.trans h
        refine g_bipush (v := (-2 : Int32)) O dX12_text_68 rfl ?_
        cases h
        exact g_ireturn O K dX12_text_70
      · replace h := (if_neg c32).symm.trans h
        exact t_X12_text_71 O R0 N hn a0 x1 x2 σ17 o h K
theorem c_X12_text (l0 : Launch) (a0 : Nat) (x1 : Int32) (x2 : Int32) (σ : Dt) (r : Int32) (σ' : Dt) (h : f_X12_text a0 x1 x2 σ = some (r, σ')) : Ctr l0 yX12_text cX12_text 5 (some .int) false 10 266 0 0 [vA (some a0), vI x1, vI x2] SM σ SM σ' (some (vI r)) := ctr_of (by decide) (Nat.le_of_ble_eq_true rfl) (fun M O F R0 N hn => t_X12_text O R0 N hn a0 x1 x2 σ (r, σ') h F)
def f_X12_fault (a0 : Nat) (x1 : Int32) (σ : Dt) : Option Int32 := if x1 = 0 then bo (xgr SM 12 0 (some a0) σ) fun v2 => bo (xai SM v2 (5 : Int32) σ) fun v4 => some v4 else if x1 = (1 : Int32) then bo (xgr SM 12 0 (some a0) σ) fun v7 => bo (xai SM v7 (6 : Int32) σ) fun v9 => some v9 else some (-1 : Int32)
theorem t_X12_fault {M : Mx} {l0 : Launch} (O : Ok M cX12_fault yX12_fault) (R0 : Rm M l0 2 80 0 0) (N : Ma M = false) (hn : Mn M = 2) (a0 : Nat) (x1 : Int32) (σ : Dt) (o : Int32) (h : f_X12_fault a0 x1 σ = some o) (K : Fin' M (some .int) 0 0 SM σ (some (vI o))) : G M 0 0 0 [(0, vA (some a0)), (1, vI x1)] [] SM σ := by
  unfold f_X12_fault at h
  refine g_iload_n O dX12_fault_0 rfl 1 rfl ?_
  refine g_if_ne O dX12_fault_1 rfl (fun c1 => ?_) (fun c1 => ?_)
  · replace h := (if_pos c1).symm.trans h
    refine g_aload_n O dX12_fault_4 rfl 0 rfl ?_
    obtain ⟨v2, e3, h⟩ := bo_some h
    refine g_getR O dX12_fault_5 fl_X12_7 rfl e3 ?_
    refine g_iconst (v := (5 : Int32)) O dX12_fault_8 rfl ?_
    obtain ⟨v4, e5, h⟩ := bo_some h
    refine g_iaload O dX12_fault_9 e5 ?_
    refine g_goto O dX12_fault_10 rfl ?_
    cases h
    exact g_ireturn O K dX12_fault_29
  · replace h := (if_neg c1).symm.trans h
    refine g_iload_n O dX12_fault_13 rfl 1 rfl ?_
    refine g_iconst (v := (1 : Int32)) O dX12_fault_14 rfl ?_
    refine g_icmp_ne O dX12_fault_15 rfl (fun c6 => ?_) (fun c6 => ?_)
    · replace h := (if_pos c6).symm.trans h
      refine g_aload_n O dX12_fault_18 rfl 0 rfl ?_
      obtain ⟨v7, e8, h⟩ := bo_some h
      refine g_getR O dX12_fault_19 fl_X12_7 rfl e8 ?_
      refine g_bipush (v := (6 : Int32)) O dX12_fault_22 rfl ?_
      obtain ⟨v9, e10, h⟩ := bo_some h
      refine g_iaload O dX12_fault_24 e10 ?_
      refine g_goto O dX12_fault_25 rfl ?_
      cases h
      exact g_ireturn O K dX12_fault_29
    · replace h := (if_neg c6).symm.trans h
      refine g_iconst (v := (-1 : Int32)) O dX12_fault_28 rfl ?_
      cases h
      exact g_ireturn O K dX12_fault_29
theorem c_X12_fault (l0 : Launch) (a0 : Nat) (x1 : Int32) (σ : Dt) (r : Int32) (h : f_X12_fault a0 x1 σ = some r) : Ctr l0 yX12_fault cX12_fault 2 (some .int) false 2 80 0 0 [vA (some a0), vI x1] SM σ SM σ (some (vI r)) := ctr_of (by decide) (Nat.le_of_ble_eq_true rfl) (fun M O F R0 N hn => t_X12_fault O R0 N hn a0 x1 σ r h F)
def f_X12_isValley (a0 : Nat) (x1 : Int32) (σ : Dt) : Option (Int32 × Dt) := bo (xrc SM 12 (some a0)) fun a1 => bo (f_X12_isOf a1 (0 : Int32) x1 σ) fun v3 => if v3 = 0 then some ((0 : Int32), σ) else bo (f_X12_placeOf (0 : Int32) x1 σ) fun v6 => bo (xpi SM 12 11 (some a0) v6 σ) fun σ8 => bo (xgr SM 12 0 (some a0) σ8) fun v10 => bo (xgi SM 12 11 (some a0) σ8) fun v12 => bo (xai SM v10 v12 σ8) fun v14 => bo (xpi SM 12 12 (some a0) v14 σ8) fun σ16 => bo (xgr SM 12 0 (some a0) σ16) fun v18 => bo (xgi SM 12 11 (some a0) σ16) fun v20 => bo (xai SM v18 (v20 + (1 : Int32)) σ16) fun v22 => bo (xpi SM 12 13 (some a0) v22 σ16) fun σ24 => some ((1 : Int32), σ24)
theorem t_X12_isValley {M : Mx} {l0 : Launch} (O : Ok M cX12_isValley yX12_isValley) (R0 : Rm M l0 4 124 0 0) (N : Ma M = false) (hn : Mn M = 2) (a0 : Nat) (x1 : Int32) (σ : Dt) (o : (Int32 × Dt)) (h : f_X12_isValley a0 x1 σ = some o) (K : Fin' M (some .boolean) 0 0 SM o.2 (some (vI o.1))) : G M 0 0 0 [(0, vA (some a0)), (1, vI x1)] [] SM σ := by
  unfold f_X12_isValley at h
  refine g_aload_n O dX12_isValley_0 rfl 0 rfl ?_
  refine g_iconst (v := (0 : Int32)) O dX12_isValley_1 rfl ?_
  refine g_iload_n O dX12_isValley_2 rfl 1 rfl ?_
  obtain ⟨a1, e2, h⟩ := bo_some h
  obtain ⟨v3, e4, h⟩ := bo_some h
  refine g_cV1 O R0 N dX12_isValley_3 vl_X12_186 vv_X12_isOf e2 [vI (0 : Int32), vI x1] rfl rfl rfl ⟨Nat.le_of_ble_eq_true rfl, Nat.le_of_ble_eq_true rfl⟩ (c_X12_isOf l0 a1 (0 : Int32) x1 σ v3 e4) ?_
  refine g_if_ne O dX12_isValley_6 rfl (fun c5 => ?_) (fun c5 => ?_)
  · replace h := (if_pos c5).symm.trans h
    refine g_iconst (v := (0 : Int32)) O dX12_isValley_9 rfl ?_
    cases h
    exact g_zreturn O (by decide) K dX12_isValley_10
  · replace h := (if_neg c5).symm.trans h
    refine g_aload_n O dX12_isValley_11 rfl 0 rfl ?_
    refine g_iconst (v := (0 : Int32)) O dX12_isValley_12 rfl ?_
    refine g_iload_n O dX12_isValley_13 rfl 1 rfl ?_
    obtain ⟨v6, e7, h⟩ := bo_some h
    refine g_cS1 O R0 N dX12_isValley_14 vl_X12_205 w1707 [vI (0 : Int32), vI x1] rfl rfl rfl ⟨Nat.le_of_ble_eq_true rfl, Nat.le_of_ble_eq_true rfl⟩ (c_X12_placeOf l0 (0 : Int32) x1 σ v6 e7) ?_
    obtain ⟨σ8, e9, h⟩ := bo_some h
    refine g_putI O dX12_isValley_17 fl_X12_208 (Or.inl rfl) rfl e9 ?_
    refine g_aload_n O dX12_isValley_20 rfl 0 rfl ?_
    refine g_aload_n O dX12_isValley_21 rfl 0 rfl ?_
    obtain ⟨v10, e11, h⟩ := bo_some h
    refine g_getR O dX12_isValley_22 fl_X12_7 rfl e11 ?_
    refine g_aload_n O dX12_isValley_25 rfl 0 rfl ?_
    obtain ⟨v12, e13, h⟩ := bo_some h
    refine g_getI O dX12_isValley_26 fl_X12_208 rfl e13 ?_
    obtain ⟨v14, e15, h⟩ := bo_some h
    refine g_iaload O dX12_isValley_29 e15 ?_
    obtain ⟨σ16, e17, h⟩ := bo_some h
    refine g_putI O dX12_isValley_30 fl_X12_211 (Or.inl rfl) rfl e17 ?_
    refine g_aload_n O dX12_isValley_33 rfl 0 rfl ?_
    refine g_aload_n O dX12_isValley_34 rfl 0 rfl ?_
    obtain ⟨v18, e19, h⟩ := bo_some h
    refine g_getR O dX12_isValley_35 fl_X12_7 rfl e19 ?_
    refine g_aload_n O dX12_isValley_38 rfl 0 rfl ?_
    obtain ⟨v20, e21, h⟩ := bo_some h
    refine g_getI O dX12_isValley_39 fl_X12_208 rfl e21 ?_
    refine g_iconst (v := (1 : Int32)) O dX12_isValley_42 rfl ?_
    refine g_iadd O dX12_isValley_43 ?_
    obtain ⟨v22, e23, h⟩ := bo_some h
    refine g_iaload O dX12_isValley_44 e23 ?_
    obtain ⟨σ24, e25, h⟩ := bo_some h
    refine g_putI O dX12_isValley_45 fl_X12_214 (Or.inl rfl) rfl e25 ?_
    refine g_iconst (v := (1 : Int32)) O dX12_isValley_48 rfl ?_
    cases h
    exact g_zreturn O (by decide) K dX12_isValley_49
theorem c_X12_isValley (l0 : Launch) (a0 : Nat) (x1 : Int32) (σ : Dt) (r : Int32) (σ' : Dt) (h : f_X12_isValley a0 x1 σ = some (r, σ')) : Ctr l0 yX12_isValley cX12_isValley 2 (some .boolean) false 4 124 0 0 [vA (some a0), vI x1] SM σ SM σ' (some (vI r)) := ctr_of (by decide) (Nat.le_of_ble_eq_true rfl) (fun M O F R0 N hn => t_X12_isValley O R0 N hn a0 x1 σ (r, σ') h F)
def f_X12_isFolk (a0 : Nat) (x1 : Int32) (σ : Dt) : Option Int32 := bo (xgi SM 12 12 (some a0) σ) fun v1 => bo (f_X12_isIn x1 (0 : Int32) (v1 - (1 : Int32)) σ) fun v3 => if v3 = 0 ∨ v3 = 1 then some v3 else none
theorem t_X12_isFolk {M : Mx} {l0 : Launch} (O : Ok M cX12_isFolk yX12_isFolk) (R0 : Rm M l0 3 102 0 0) (N : Ma M = false) (hn : Mn M = 2) (a0 : Nat) (x1 : Int32) (σ : Dt) (o : Int32) (h : f_X12_isFolk a0 x1 σ = some o) (K : Fin' M (some .boolean) 0 0 SM σ (some (vI o))) : G M 0 0 0 [(0, vA (some a0)), (1, vI x1)] [] SM σ := by
  unfold f_X12_isFolk at h
  refine g_iload_n O dX12_isFolk_0 rfl 1 rfl ?_
  refine g_iconst (v := (0 : Int32)) O dX12_isFolk_1 rfl ?_
  refine g_aload_n O dX12_isFolk_2 rfl 0 rfl ?_
  obtain ⟨v1, e2, h⟩ := bo_some h
  refine g_getI O dX12_isFolk_3 fl_X12_211 rfl e2 ?_
  refine g_iconst (v := (1 : Int32)) O dX12_isFolk_6 rfl ?_
  refine g_isub O dX12_isFolk_7 ?_
  obtain ⟨v3, e4, h⟩ := bo_some h
  refine g_cS1 O R0 N dX12_isFolk_8 vl_X12_146 w1616 [vI x1, vI (0 : Int32), vI (v1 - (1 : Int32))] rfl rfl rfl ⟨Nat.le_of_ble_eq_true rfl, Nat.le_of_ble_eq_true rfl⟩ (c_X12_isIn l0 x1 (0 : Int32) (v1 - (1 : Int32)) σ v3 e4) ?_
  by_cases c5 : v3 = 0 ∨ v3 = 1
  · replace h := (if_pos c5).symm.trans h
    cases h
    exact g_zreturn O c5 K dX12_isFolk_11
  · rw [if_neg c5] at h; cases h
theorem c_X12_isFolk (l0 : Launch) (a0 : Nat) (x1 : Int32) (σ : Dt) (r : Int32) (h : f_X12_isFolk a0 x1 σ = some r) : Ctr l0 yX12_isFolk cX12_isFolk 2 (some .boolean) false 3 102 0 0 [vA (some a0), vI x1] SM σ SM σ (some (vI r)) := ctr_of (by decide) (Nat.le_of_ble_eq_true rfl) (fun M O F R0 N hn => t_X12_isFolk O R0 N hn a0 x1 σ r h F)
def f_X12_isWork (a0 : Nat) (x1 : Int32) (σ : Dt) : Option Int32 := bo (xgi SM 12 13 (some a0) σ) fun v1 => bo (f_X12_isIn x1 (0 : Int32) (v1 - (1 : Int32)) σ) fun v3 => if v3 = 0 ∨ v3 = 1 then some v3 else none
theorem t_X12_isWork {M : Mx} {l0 : Launch} (O : Ok M cX12_isWork yX12_isWork) (R0 : Rm M l0 3 102 0 0) (N : Ma M = false) (hn : Mn M = 2) (a0 : Nat) (x1 : Int32) (σ : Dt) (o : Int32) (h : f_X12_isWork a0 x1 σ = some o) (K : Fin' M (some .boolean) 0 0 SM σ (some (vI o))) : G M 0 0 0 [(0, vA (some a0)), (1, vI x1)] [] SM σ := by
  unfold f_X12_isWork at h
  refine g_iload_n O dX12_isWork_0 rfl 1 rfl ?_
  refine g_iconst (v := (0 : Int32)) O dX12_isWork_1 rfl ?_
  refine g_aload_n O dX12_isWork_2 rfl 0 rfl ?_
  obtain ⟨v1, e2, h⟩ := bo_some h
  refine g_getI O dX12_isWork_3 fl_X12_214 rfl e2 ?_
  refine g_iconst (v := (1 : Int32)) O dX12_isWork_6 rfl ?_
  refine g_isub O dX12_isWork_7 ?_
  obtain ⟨v3, e4, h⟩ := bo_some h
  refine g_cS1 O R0 N dX12_isWork_8 vl_X12_146 w1616 [vI x1, vI (0 : Int32), vI (v1 - (1 : Int32))] rfl rfl rfl ⟨Nat.le_of_ble_eq_true rfl, Nat.le_of_ble_eq_true rfl⟩ (c_X12_isIn l0 x1 (0 : Int32) (v1 - (1 : Int32)) σ v3 e4) ?_
  by_cases c5 : v3 = 0 ∨ v3 = 1
  · replace h := (if_pos c5).symm.trans h
    cases h
    exact g_zreturn O c5 K dX12_isWork_11
  · rw [if_neg c5] at h; cases h
theorem c_X12_isWork (l0 : Launch) (a0 : Nat) (x1 : Int32) (σ : Dt) (r : Int32) (h : f_X12_isWork a0 x1 σ = some r) : Ctr l0 yX12_isWork cX12_isWork 2 (some .boolean) false 3 102 0 0 [vA (some a0), vI x1] SM σ SM σ (some (vI r)) := ctr_of (by decide) (Nat.le_of_ble_eq_true rfl) (fun M O F R0 N hn => t_X12_isWork O R0 N hn a0 x1 σ r h F)
def f_X12_ageOf (a0 : Nat) (x1 : Int32) (σ : Dt) : Option Int32 := bo (xgr SM 12 0 (some a0) σ) fun v1 => bo (xgi SM 12 11 (some a0) σ) fun v3 => bo (xai SM v1 ((v3 + (3 : Int32)) + ((4 : Int32) * x1)) σ) fun v5 => some v5
theorem t_X12_ageOf {M : Mx} {l0 : Launch} (O : Ok M cX12_ageOf yX12_ageOf) (R0 : Rm M l0 2 80 0 0) (N : Ma M = false) (hn : Mn M = 2) (a0 : Nat) (x1 : Int32) (σ : Dt) (o : Int32) (h : f_X12_ageOf a0 x1 σ = some o) (K : Fin' M (some .int) 0 0 SM σ (some (vI o))) : G M 0 0 0 [(0, vA (some a0)), (1, vI x1)] [] SM σ := by
  unfold f_X12_ageOf at h
  refine g_aload_n O dX12_ageOf_0 rfl 0 rfl ?_
  obtain ⟨v1, e2, h⟩ := bo_some h
  refine g_getR O dX12_ageOf_1 fl_X12_7 rfl e2 ?_
  refine g_aload_n O dX12_ageOf_4 rfl 0 rfl ?_
  obtain ⟨v3, e4, h⟩ := bo_some h
  refine g_getI O dX12_ageOf_5 fl_X12_208 rfl e4 ?_
  refine g_iconst (v := (3 : Int32)) O dX12_ageOf_8 rfl ?_
  refine g_iadd O dX12_ageOf_9 ?_
  refine g_iconst (v := (4 : Int32)) O dX12_ageOf_10 rfl ?_
  refine g_iload_n O dX12_ageOf_11 rfl 1 rfl ?_
  refine g_imul O dX12_ageOf_12 ?_
  refine g_iadd O dX12_ageOf_13 ?_
  obtain ⟨v5, e6, h⟩ := bo_some h
  refine g_iaload O dX12_ageOf_14 e6 ?_
  cases h
  exact g_ireturn O K dX12_ageOf_15
theorem c_X12_ageOf (l0 : Launch) (a0 : Nat) (x1 : Int32) (σ : Dt) (r : Int32) (h : f_X12_ageOf a0 x1 σ = some r) : Ctr l0 yX12_ageOf cX12_ageOf 2 (some .int) false 2 80 0 0 [vA (some a0), vI x1] SM σ SM σ (some (vI r)) := ctr_of (by decide) (Nat.le_of_ble_eq_true rfl) (fun M O F R0 N hn => t_X12_ageOf O R0 N hn a0 x1 σ r h F)
def f_X12_strengthOf (a0 : Nat) (x1 : Int32) (σ : Dt) : Option Int32 := bo (xgr SM 12 0 (some a0) σ) fun v1 => bo (xgi SM 12 11 (some a0) σ) fun v3 => bo (xai SM v1 (((v3 + (3 : Int32)) + (1 : Int32)) + ((4 : Int32) * x1)) σ) fun v5 => some v5
theorem t_X12_strengthOf {M : Mx} {l0 : Launch} (O : Ok M cX12_strengthOf yX12_strengthOf) (R0 : Rm M l0 2 80 0 0) (N : Ma M = false) (hn : Mn M = 2) (a0 : Nat) (x1 : Int32) (σ : Dt) (o : Int32) (h : f_X12_strengthOf a0 x1 σ = some o) (K : Fin' M (some .int) 0 0 SM σ (some (vI o))) : G M 0 0 0 [(0, vA (some a0)), (1, vI x1)] [] SM σ := by
  unfold f_X12_strengthOf at h
  refine g_aload_n O dX12_strengthOf_0 rfl 0 rfl ?_
  obtain ⟨v1, e2, h⟩ := bo_some h
  refine g_getR O dX12_strengthOf_1 fl_X12_7 rfl e2 ?_
  refine g_aload_n O dX12_strengthOf_4 rfl 0 rfl ?_
  obtain ⟨v3, e4, h⟩ := bo_some h
  refine g_getI O dX12_strengthOf_5 fl_X12_208 rfl e4 ?_
  refine g_iconst (v := (3 : Int32)) O dX12_strengthOf_8 rfl ?_
  refine g_iadd O dX12_strengthOf_9 ?_
  refine g_iconst (v := (1 : Int32)) O dX12_strengthOf_10 rfl ?_
  refine g_iadd O dX12_strengthOf_11 ?_
  refine g_iconst (v := (4 : Int32)) O dX12_strengthOf_12 rfl ?_
  refine g_iload_n O dX12_strengthOf_13 rfl 1 rfl ?_
  refine g_imul O dX12_strengthOf_14 ?_
  refine g_iadd O dX12_strengthOf_15 ?_
  obtain ⟨v5, e6, h⟩ := bo_some h
  refine g_iaload O dX12_strengthOf_16 e6 ?_
  cases h
  exact g_ireturn O K dX12_strengthOf_17
theorem c_X12_strengthOf (l0 : Launch) (a0 : Nat) (x1 : Int32) (σ : Dt) (r : Int32) (h : f_X12_strengthOf a0 x1 σ = some r) : Ctr l0 yX12_strengthOf cX12_strengthOf 2 (some .int) false 2 80 0 0 [vA (some a0), vI x1] SM σ SM σ (some (vI r)) := ctr_of (by decide) (Nat.le_of_ble_eq_true rfl) (fun M O F R0 N hn => t_X12_strengthOf O R0 N hn a0 x1 σ r h F)
def f_X12_parentsOf (a0 : Nat) (x1 : Int32) (σ : Dt) : Option Int32 := bo (xgr SM 12 0 (some a0) σ) fun v1 => bo (xgi SM 12 11 (some a0) σ) fun v3 => bo (xai SM v1 (((v3 + (3 : Int32)) + (2 : Int32)) + ((4 : Int32) * x1)) σ) fun v5 => some v5
theorem t_X12_parentsOf {M : Mx} {l0 : Launch} (O : Ok M cX12_parentsOf yX12_parentsOf) (R0 : Rm M l0 2 80 0 0) (N : Ma M = false) (hn : Mn M = 2) (a0 : Nat) (x1 : Int32) (σ : Dt) (o : Int32) (h : f_X12_parentsOf a0 x1 σ = some o) (K : Fin' M (some .int) 0 0 SM σ (some (vI o))) : G M 0 0 0 [(0, vA (some a0)), (1, vI x1)] [] SM σ := by
  unfold f_X12_parentsOf at h
  refine g_aload_n O dX12_parentsOf_0 rfl 0 rfl ?_
  obtain ⟨v1, e2, h⟩ := bo_some h
  refine g_getR O dX12_parentsOf_1 fl_X12_7 rfl e2 ?_
  refine g_aload_n O dX12_parentsOf_4 rfl 0 rfl ?_
  obtain ⟨v3, e4, h⟩ := bo_some h
  refine g_getI O dX12_parentsOf_5 fl_X12_208 rfl e4 ?_
  refine g_iconst (v := (3 : Int32)) O dX12_parentsOf_8 rfl ?_
  refine g_iadd O dX12_parentsOf_9 ?_
  refine g_iconst (v := (2 : Int32)) O dX12_parentsOf_10 rfl ?_
  refine g_iadd O dX12_parentsOf_11 ?_
  refine g_iconst (v := (4 : Int32)) O dX12_parentsOf_12 rfl ?_
  refine g_iload_n O dX12_parentsOf_13 rfl 1 rfl ?_
  refine g_imul O dX12_parentsOf_14 ?_
  refine g_iadd O dX12_parentsOf_15 ?_
  obtain ⟨v5, e6, h⟩ := bo_some h
  refine g_iaload O dX12_parentsOf_16 e6 ?_
  cases h
  exact g_ireturn O K dX12_parentsOf_17
theorem c_X12_parentsOf (l0 : Launch) (a0 : Nat) (x1 : Int32) (σ : Dt) (r : Int32) (h : f_X12_parentsOf a0 x1 σ = some r) : Ctr l0 yX12_parentsOf cX12_parentsOf 2 (some .int) false 2 80 0 0 [vA (some a0), vI x1] SM σ SM σ (some (vI r)) := ctr_of (by decide) (Nat.le_of_ble_eq_true rfl) (fun M O F R0 N hn => t_X12_parentsOf O R0 N hn a0 x1 σ r h F)
def f_X12_elderOf (a0 : Nat) (x1 : Int32) (σ : Dt) : Option Int32 := bo (xgr SM 12 0 (some a0) σ) fun v1 => bo (xgi SM 12 11 (some a0) σ) fun v3 => bo (xai SM v1 (((v3 + (3 : Int32)) + (3 : Int32)) + ((4 : Int32) * x1)) σ) fun v5 => some v5
theorem t_X12_elderOf {M : Mx} {l0 : Launch} (O : Ok M cX12_elderOf yX12_elderOf) (R0 : Rm M l0 2 80 0 0) (N : Ma M = false) (hn : Mn M = 2) (a0 : Nat) (x1 : Int32) (σ : Dt) (o : Int32) (h : f_X12_elderOf a0 x1 σ = some o) (K : Fin' M (some .int) 0 0 SM σ (some (vI o))) : G M 0 0 0 [(0, vA (some a0)), (1, vI x1)] [] SM σ := by
  unfold f_X12_elderOf at h
  refine g_aload_n O dX12_elderOf_0 rfl 0 rfl ?_
  obtain ⟨v1, e2, h⟩ := bo_some h
  refine g_getR O dX12_elderOf_1 fl_X12_7 rfl e2 ?_
  refine g_aload_n O dX12_elderOf_4 rfl 0 rfl ?_
  obtain ⟨v3, e4, h⟩ := bo_some h
  refine g_getI O dX12_elderOf_5 fl_X12_208 rfl e4 ?_
  refine g_iconst (v := (3 : Int32)) O dX12_elderOf_8 rfl ?_
  refine g_iadd O dX12_elderOf_9 ?_
  refine g_iconst (v := (3 : Int32)) O dX12_elderOf_10 rfl ?_
  refine g_iadd O dX12_elderOf_11 ?_
  refine g_iconst (v := (4 : Int32)) O dX12_elderOf_12 rfl ?_
  refine g_iload_n O dX12_elderOf_13 rfl 1 rfl ?_
  refine g_imul O dX12_elderOf_14 ?_
  refine g_iadd O dX12_elderOf_15 ?_
  obtain ⟨v5, e6, h⟩ := bo_some h
  refine g_iaload O dX12_elderOf_16 e6 ?_
  cases h
  exact g_ireturn O K dX12_elderOf_17
theorem c_X12_elderOf (l0 : Launch) (a0 : Nat) (x1 : Int32) (σ : Dt) (r : Int32) (h : f_X12_elderOf a0 x1 σ = some r) : Ctr l0 yX12_elderOf cX12_elderOf 2 (some .int) false 2 80 0 0 [vA (some a0), vI x1] SM σ SM σ (some (vI r)) := ctr_of (by decide) (Nat.le_of_ble_eq_true rfl) (fun M O F R0 N hn => t_X12_elderOf O R0 N hn a0 x1 σ r h F)
def f_X12_muchOf (a0 : Nat) (x1 : Int32) (σ : Dt) : Option Int32 := bo (xgr SM 12 0 (some a0) σ) fun v1 => bo (xgi SM 12 11 (some a0) σ) fun v3 => bo (xai SM v1 ((v3 + (43 : Int32)) + ((2 : Int32) * x1)) σ) fun v5 => some v5
theorem t_X12_muchOf {M : Mx} {l0 : Launch} (O : Ok M cX12_muchOf yX12_muchOf) (R0 : Rm M l0 2 80 0 0) (N : Ma M = false) (hn : Mn M = 2) (a0 : Nat) (x1 : Int32) (σ : Dt) (o : Int32) (h : f_X12_muchOf a0 x1 σ = some o) (K : Fin' M (some .int) 0 0 SM σ (some (vI o))) : G M 0 0 0 [(0, vA (some a0)), (1, vI x1)] [] SM σ := by
  unfold f_X12_muchOf at h
  refine g_aload_n O dX12_muchOf_0 rfl 0 rfl ?_
  obtain ⟨v1, e2, h⟩ := bo_some h
  refine g_getR O dX12_muchOf_1 fl_X12_7 rfl e2 ?_
  refine g_aload_n O dX12_muchOf_4 rfl 0 rfl ?_
  obtain ⟨v3, e4, h⟩ := bo_some h
  refine g_getI O dX12_muchOf_5 fl_X12_208 rfl e4 ?_
  refine g_bipush (v := (43 : Int32)) O dX12_muchOf_8 rfl ?_
  refine g_iadd O dX12_muchOf_10 ?_
  refine g_iconst (v := (2 : Int32)) O dX12_muchOf_11 rfl ?_
  refine g_iload_n O dX12_muchOf_12 rfl 1 rfl ?_
  refine g_imul O dX12_muchOf_13 ?_
  refine g_iadd O dX12_muchOf_14 ?_
  obtain ⟨v5, e6, h⟩ := bo_some h
  refine g_iaload O dX12_muchOf_15 e6 ?_
  cases h
  exact g_ireturn O K dX12_muchOf_16
theorem c_X12_muchOf (l0 : Launch) (a0 : Nat) (x1 : Int32) (σ : Dt) (r : Int32) (h : f_X12_muchOf a0 x1 σ = some r) : Ctr l0 yX12_muchOf cX12_muchOf 2 (some .int) false 2 80 0 0 [vA (some a0), vI x1] SM σ SM σ (some (vI r)) := ctr_of (by decide) (Nat.le_of_ble_eq_true rfl) (fun M O F R0 N hn => t_X12_muchOf O R0 N hn a0 x1 σ r h F)
def f_X12_worthOf (a0 : Nat) (x1 : Int32) (σ : Dt) : Option Int32 := bo (xgr SM 12 0 (some a0) σ) fun v1 => bo (xgi SM 12 11 (some a0) σ) fun v3 => bo (xai SM v1 (((v3 + (43 : Int32)) + (1 : Int32)) + ((2 : Int32) * x1)) σ) fun v5 => some v5
theorem t_X12_worthOf {M : Mx} {l0 : Launch} (O : Ok M cX12_worthOf yX12_worthOf) (R0 : Rm M l0 2 80 0 0) (N : Ma M = false) (hn : Mn M = 2) (a0 : Nat) (x1 : Int32) (σ : Dt) (o : Int32) (h : f_X12_worthOf a0 x1 σ = some o) (K : Fin' M (some .int) 0 0 SM σ (some (vI o))) : G M 0 0 0 [(0, vA (some a0)), (1, vI x1)] [] SM σ := by
  unfold f_X12_worthOf at h
  refine g_aload_n O dX12_worthOf_0 rfl 0 rfl ?_
  obtain ⟨v1, e2, h⟩ := bo_some h
  refine g_getR O dX12_worthOf_1 fl_X12_7 rfl e2 ?_
  refine g_aload_n O dX12_worthOf_4 rfl 0 rfl ?_
  obtain ⟨v3, e4, h⟩ := bo_some h
  refine g_getI O dX12_worthOf_5 fl_X12_208 rfl e4 ?_
  refine g_bipush (v := (43 : Int32)) O dX12_worthOf_8 rfl ?_
  refine g_iadd O dX12_worthOf_10 ?_
  refine g_iconst (v := (1 : Int32)) O dX12_worthOf_11 rfl ?_
  refine g_iadd O dX12_worthOf_12 ?_
  refine g_iconst (v := (2 : Int32)) O dX12_worthOf_13 rfl ?_
  refine g_iload_n O dX12_worthOf_14 rfl 1 rfl ?_
  refine g_imul O dX12_worthOf_15 ?_
  refine g_iadd O dX12_worthOf_16 ?_
  obtain ⟨v5, e6, h⟩ := bo_some h
  refine g_iaload O dX12_worthOf_17 e6 ?_
  cases h
  exact g_ireturn O K dX12_worthOf_18
theorem c_X12_worthOf (l0 : Launch) (a0 : Nat) (x1 : Int32) (σ : Dt) (r : Int32) (h : f_X12_worthOf a0 x1 σ = some r) : Ctr l0 yX12_worthOf cX12_worthOf 2 (some .int) false 2 80 0 0 [vA (some a0), vI x1] SM σ SM σ (some (vI r)) := ctr_of (by decide) (Nat.le_of_ble_eq_true rfl) (fun M O F R0 N hn => t_X12_worthOf O R0 N hn a0 x1 σ r h F)
def f_X12_isSmall (a0 : Nat) (x1 : Int32) (σ : Dt) : Option Int32 := bo (xrc SM 12 (some a0)) fun a1 => bo (f_X12_ageOf a1 x1 σ) fun v3 => if (10 : Int32) ≤ v3 then some (0 : Int32) else some (1 : Int32)
theorem t_X12_isSmall {M : Mx} {l0 : Launch} (O : Ok M cX12_isSmall yX12_isSmall) (R0 : Rm M l0 3 101 0 0) (N : Ma M = false) (hn : Mn M = 2) (a0 : Nat) (x1 : Int32) (σ : Dt) (o : Int32) (h : f_X12_isSmall a0 x1 σ = some o) (K : Fin' M (some .boolean) 0 0 SM σ (some (vI o))) : G M 0 0 0 [(0, vA (some a0)), (1, vI x1)] [] SM σ := by
  unfold f_X12_isSmall at h
  refine g_aload_n O dX12_isSmall_0 rfl 0 rfl ?_
  refine g_iload_n O dX12_isSmall_1 rfl 1 rfl ?_
  obtain ⟨a1, e2, h⟩ := bo_some h
  obtain ⟨v3, e4, h⟩ := bo_some h
  refine g_cV1 O R0 N dX12_isSmall_2 vl_X12_217 vv_X12_ageOf e2 [vI x1] rfl rfl rfl ⟨Nat.le_of_ble_eq_true rfl, Nat.le_of_ble_eq_true rfl⟩ (c_X12_ageOf l0 a1 x1 σ v3 e4) ?_
  refine g_bipush (v := (10 : Int32)) O dX12_isSmall_5 rfl ?_
  refine g_icmp_ge O dX12_isSmall_7 rfl (fun c5 => ?_) (fun c5 => ?_)
  · replace h := (if_pos c5).symm.trans h
    refine g_iconst (v := (0 : Int32)) O dX12_isSmall_14 rfl ?_
    cases h
    exact g_zreturn O (by decide) K dX12_isSmall_15
  · replace h := (if_neg c5).symm.trans h
    refine g_iconst (v := (1 : Int32)) O dX12_isSmall_10 rfl ?_
    refine g_goto O dX12_isSmall_11 rfl ?_
    cases h
    exact g_zreturn O (by decide) K dX12_isSmall_15
theorem c_X12_isSmall (l0 : Launch) (a0 : Nat) (x1 : Int32) (σ : Dt) (r : Int32) (h : f_X12_isSmall a0 x1 σ = some r) : Ctr l0 yX12_isSmall cX12_isSmall 2 (some .boolean) false 3 101 0 0 [vA (some a0), vI x1] SM σ SM σ (some (vI r)) := ctr_of (by decide) (Nat.le_of_ble_eq_true rfl) (fun M O F R0 N hn => t_X12_isSmall O R0 N hn a0 x1 σ r h F)
def f_X12_isAmong (x0 : Int32) (x1 : Int32) (σ : Dt) : Option Int32 := if ((x0 >>> (x1 &&& 31)) &&& (1 : Int32)) = (1 : Int32) then some (1 : Int32) else some (0 : Int32)
theorem t_X12_isAmong {M : Mx} {l0 : Launch} (O : Ok M cX12_isAmong yX12_isAmong) (R0 : Rm M l0 2 80 0 0) (N : Ma M = false) (hn : Mn M = 2) (x0 : Int32) (x1 : Int32) (σ : Dt) (o : Int32) (h : f_X12_isAmong x0 x1 σ = some o) (K : Fin' M (some .boolean) 0 0 SM σ (some (vI o))) : G M 0 0 0 [(0, vI x0), (1, vI x1)] [] SM σ := by
  unfold f_X12_isAmong at h
  refine g_iload_n O dX12_isAmong_0 rfl 0 rfl ?_
  refine g_iload_n O dX12_isAmong_1 rfl 1 rfl ?_
  refine g_ishr O dX12_isAmong_2 ?_
  refine g_iconst (v := (1 : Int32)) O dX12_isAmong_3 rfl ?_
  refine g_iand O dX12_isAmong_4 ?_
  refine g_iconst (v := (1 : Int32)) O dX12_isAmong_5 rfl ?_
  refine g_icmp_ne O dX12_isAmong_6 rfl (fun c1 => ?_) (fun c1 => ?_)
  · replace h := (if_pos c1).symm.trans h
    refine g_iconst (v := (1 : Int32)) O dX12_isAmong_9 rfl ?_
    refine g_goto O dX12_isAmong_10 rfl ?_
    cases h
    exact g_zreturn O (by decide) K dX12_isAmong_14
  · replace h := (if_neg c1).symm.trans h
    refine g_iconst (v := (0 : Int32)) O dX12_isAmong_13 rfl ?_
    cases h
    exact g_zreturn O (by decide) K dX12_isAmong_14
theorem c_X12_isAmong (l0 : Launch) (x0 : Int32) (x1 : Int32) (σ : Dt) (r : Int32) (h : f_X12_isAmong x0 x1 σ = some r) : Ctr l0 yX12_isAmong cX12_isAmong 2 (some .boolean) false 2 80 0 0 [vI x0, vI x1] SM σ SM σ (some (vI r)) := ctr_of (by decide) (Nat.le_of_ble_eq_true rfl) (fun M O F R0 N hn => t_X12_isAmong O R0 N hn x0 x1 σ r h F)
def f_X12_valley_80 (a0 : Nat) (x2 : Int32) (x3 : Int32) (σ : Dt) : Option (Int32 × Dt) := bo (xrc SM 12 (some a0)) fun a1 => bo (f_X12_isFolk a1 x3 σ) fun v3 => if v3 = 0 then some ((-1 : Int32), σ) else bo (xgr SM 12 0 (some a0) σ) fun v6 => bo (xgi SM 12 11 (some a0) σ) fun v8 => bo (xai SM v6 ((((v8 + (3 : Int32)) + ((4 : Int32) * x3)) + (x2 / (10 : Int32))) - (1 : Int32)) σ) fun v10 => some (v10, σ)
theorem t_X12_valley_80 {M : Mx} {l0 : Launch} (O : Ok M cX12_valley yX12_valley) (R0 : Rm M l0 5 145 0 0) (N : Ma M = false) (hn : Mn M = 4)  (a0 : Nat) (x2 : Int32) (x3 : Int32) (σ : Dt) (o : (Int32 × Dt)) (h : f_X12_valley_80 a0 x2 x3 σ = some o) (K : Fin' M (some .int) 0 0 SM o.2 (some (vI o.1))) : G M 0 0 80 [(0, vA (some a0)), (2, vI x2), (3, vI x3)] [] SM σ := by
  unfold f_X12_valley_80 at h
  refine g_aload_n O dX12_valley_80 rfl 0 rfl ?_
  refine g_iload_n O dX12_valley_81 rfl 2 rfl ?_
  obtain ⟨a1, e2, h⟩ := bo_some h
  obtain ⟨v3, e4, h⟩ := bo_some h
  refine g_cV1 O R0 N dX12_valley_82 vl_X12_223 vv_X12_isFolk e2 [vI x3] rfl rfl rfl ⟨Nat.le_of_ble_eq_true rfl, Nat.le_of_ble_eq_true rfl⟩ (c_X12_isFolk l0 a1 x3 σ v3 e4) ?_
  refine g_if_eq O dX12_valley_85 rfl (fun c5 => ?_) (fun c5 => ?_)
  · replace h := (if_pos c5).symm.trans h
    refine g_iconst (v := (-1 : Int32)) O dX12_valley_113 rfl ?_
    cases h
    exact g_ireturn O K dX12_valley_114
  · replace h := (if_neg c5).symm.trans h
    refine g_aload_n O dX12_valley_88 rfl 0 rfl ?_
    obtain ⟨v6, e7, h⟩ := bo_some h
    refine g_getR O dX12_valley_89 fl_X12_7 rfl e7 ?_
    refine g_aload_n O dX12_valley_92 rfl 0 rfl ?_
    obtain ⟨v8, e9, h⟩ := bo_some h
    refine g_getI O dX12_valley_93 fl_X12_208 rfl e9 ?_
    refine g_iconst (v := (3 : Int32)) O dX12_valley_96 rfl ?_
    refine g_iadd O dX12_valley_97 ?_
    refine g_iconst (v := (4 : Int32)) O dX12_valley_98 rfl ?_
    refine g_iload_n O dX12_valley_99 rfl 2 rfl ?_
    refine g_imul O dX12_valley_100 ?_
    refine g_iadd O dX12_valley_101 ?_
    refine g_iload_n O dX12_valley_102 rfl 1 rfl ?_
    refine g_bipush (v := (10 : Int32)) O dX12_valley_103 rfl ?_
    refine g_idiv O dX12_valley_105 (by decide) ?_
    refine g_iadd O dX12_valley_106 ?_
    refine g_iconst (v := (1 : Int32)) O dX12_valley_107 rfl ?_
    refine g_isub O dX12_valley_108 ?_
    obtain ⟨v10, e11, h⟩ := bo_some h
    refine g_iaload O dX12_valley_109 e11 ?_
    refine g_goto O dX12_valley_110 rfl ?_
    cases h
    exact g_ireturn O K dX12_valley_114
def f_X12_valley (a0 : Nat) (x1 : Int32) (x2 : Int32) (σ : Dt) : Option (Int32 × Dt) := bo (xrc SM 12 (some a0)) fun a1 => bd (f_X12_isValley a1 x1 σ) fun v3 σ4 => if v3 = 0 then some ((-1 : Int32), σ4) else bo (f_X12_isIn x2 (0 : Int32) (2 : Int32) σ4) fun v7 => if v7 = 0 then if (x2 / (10 : Int32)) = (1 : Int32) then f_X12_valley_80 a0 x2 (x2 - x2 / (10 : Int32) * (10 : Int32)) σ4 else if (x2 / (10 : Int32)) = (2 : Int32) then f_X12_valley_80 a0 x2 (x2 - x2 / (10 : Int32) * (10 : Int32)) σ4 else if (x2 / (10 : Int32)) = (3 : Int32) then f_X12_valley_80 a0 x2 (x2 - x2 / (10 : Int32) * (10 : Int32)) σ4 else if (x2 / (10 : Int32)) = (4 : Int32) then f_X12_valley_80 a0 x2 (x2 - x2 / (10 : Int32) * (10 : Int32)) σ4 else if (x2 / (10 : Int32)) = (5 : Int32) then bo (xrc SM 12 (some a0)) fun a15 => bo (f_X12_isWork a15 (x2 - x2 / (10 : Int32) * (10 : Int32)) σ4) fun v17 => if v17 = 0 then some ((-1 : Int32), σ4) else bo (xrc SM 12 (some a0)) fun a20 => bo (f_X12_muchOf a20 (x2 - x2 / (10 : Int32) * (10 : Int32)) σ4) fun v22 => some (v22, σ4) else if (x2 / (10 : Int32)) = (6 : Int32) then bo (xrc SM 12 (some a0)) fun a25 => bo (f_X12_isWork a25 (x2 - x2 / (10 : Int32) * (10 : Int32)) σ4) fun v27 => if v27 = 0 then some ((-1 : Int32), σ4) else bo (xrc SM 12 (some a0)) fun a30 => bo (f_X12_worthOf a30 (x2 - x2 / (10 : Int32) * (10 : Int32)) σ4) fun v32 => some (v32, σ4) else some ((-1 : Int32), σ4) else bo (xgr SM 12 0 (some a0) σ4) fun v34 => bo (xgi SM 12 11 (some a0) σ4) fun v36 => bo (xai SM v34 (v36 + x2) σ4) fun v38 => some (v38, σ4)
theorem t_X12_valley {M : Mx} {l0 : Launch} (O : Ok M cX12_valley yX12_valley) (R0 : Rm M l0 5 145 0 0) (N : Ma M = false) (hn : Mn M = 4) (a0 : Nat) (x1 : Int32) (x2 : Int32) (σ : Dt) (o : (Int32 × Dt)) (h : f_X12_valley a0 x1 x2 σ = some o) (K : Fin' M (some .int) 0 0 SM o.2 (some (vI o.1))) : G M 0 0 0 [(0, vA (some a0)), (1, vI x1), (2, vI x2)] [] SM σ := by
  unfold f_X12_valley at h
  refine g_aload_n O dX12_valley_0 rfl 0 rfl ?_
  refine g_iload_n O dX12_valley_1 rfl 1 rfl ?_
  obtain ⟨a1, e2, h⟩ := bo_some h
  obtain ⟨v3, σ4, e5, h⟩ := bd_some h
  refine g_cV1 O R0 N dX12_valley_2 vl_X12_220 vv_X12_isValley e2 [vI x1] rfl rfl rfl ⟨Nat.le_of_ble_eq_true rfl, Nat.le_of_ble_eq_true rfl⟩ (c_X12_isValley l0 a1 x1 σ v3 σ4 e5) ?_
  refine g_if_ne O dX12_valley_5 rfl (fun c6 => ?_) (fun c6 => ?_)
  · replace h := (if_pos c6).symm.trans h
    refine g_iconst (v := (-1 : Int32)) O dX12_valley_8 rfl ?_
    cases h
    exact g_ireturn O K dX12_valley_9
  · replace h := (if_neg c6).symm.trans h
    refine g_iload_n O dX12_valley_10 rfl 2 rfl ?_
    refine g_iconst (v := (0 : Int32)) O dX12_valley_11 rfl ?_
    refine g_iconst (v := (2 : Int32)) O dX12_valley_12 rfl ?_
    obtain ⟨v7, e8, h⟩ := bo_some h
    refine g_cS1 O R0 N dX12_valley_13 vl_X12_146 w1616 [vI x2, vI (0 : Int32), vI (2 : Int32)] rfl rfl rfl ⟨Nat.le_of_ble_eq_true rfl, Nat.le_of_ble_eq_true rfl⟩ (c_X12_isIn l0 x2 (0 : Int32) (2 : Int32) σ4 v7 e8) ?_
    refine g_if_eq O dX12_valley_16 rfl (fun c9 => ?_) (fun c9 => ?_)
    · replace h := (if_pos c9).symm.trans h
      refine g_iload_n O dX12_valley_31 rfl 2 rfl ?_
      refine g_bipush (v := (10 : Int32)) O dX12_valley_32 rfl ?_
      refine g_irem O dX12_valley_34 (by decide) ?_
      refine g_istore_n (lv' := [(3, vI (x2 - x2 / (10 : Int32) * (10 : Int32))), (0, vA (some a0)), (1, vI x1), (2, vI x2)]) O dX12_valley_35 rfl 4 hn (by decide) rfl ?_
      refine g_iload_n O dX12_valley_36 rfl 3 rfl ?_
      refine g_bipush (v := (10 : Int32)) O dX12_valley_37 rfl ?_
      refine g_idiv O dX12_valley_39 (by decide) ?_
      by_cases c10 : (x2 / (10 : Int32)) = (1 : Int32)
      · replace h := (if_pos c10).symm.trans h
        refine g_tabIn O dX12_valley_40 (by rw [c10]; decide) (by rw [c10]; decide) (by rw [c10]; rfl) rfl ?_
        refine g_sub [1, 3, 0] (lv' := [(0, vA (some a0)), (2, vI x2), (3, vI (x2 - x2 / (10 : Int32) * (10 : Int32)))]) rfl ?_
        exact t_X12_valley_80 O R0 N hn a0 x2 (x2 - x2 / (10 : Int32) * (10 : Int32)) σ4 o h K
      replace h := (if_neg c10).symm.trans h
      by_cases c11 : (x2 / (10 : Int32)) = (2 : Int32)
      · replace h := (if_pos c11).symm.trans h
        refine g_tabIn O dX12_valley_40 (by rw [c11]; decide) (by rw [c11]; decide) (by rw [c11]; rfl) rfl ?_
        refine g_sub [1, 3, 0] (lv' := [(0, vA (some a0)), (2, vI x2), (3, vI (x2 - x2 / (10 : Int32) * (10 : Int32)))]) rfl ?_
        exact t_X12_valley_80 O R0 N hn a0 x2 (x2 - x2 / (10 : Int32) * (10 : Int32)) σ4 o h K
      replace h := (if_neg c11).symm.trans h
      by_cases c12 : (x2 / (10 : Int32)) = (3 : Int32)
      · replace h := (if_pos c12).symm.trans h
        refine g_tabIn O dX12_valley_40 (by rw [c12]; decide) (by rw [c12]; decide) (by rw [c12]; rfl) rfl ?_
        refine g_sub [1, 3, 0] (lv' := [(0, vA (some a0)), (2, vI x2), (3, vI (x2 - x2 / (10 : Int32) * (10 : Int32)))]) rfl ?_
        exact t_X12_valley_80 O R0 N hn a0 x2 (x2 - x2 / (10 : Int32) * (10 : Int32)) σ4 o h K
      replace h := (if_neg c12).symm.trans h
      by_cases c13 : (x2 / (10 : Int32)) = (4 : Int32)
      · replace h := (if_pos c13).symm.trans h
        refine g_tabIn O dX12_valley_40 (by rw [c13]; decide) (by rw [c13]; decide) (by rw [c13]; rfl) rfl ?_
        refine g_sub [1, 3, 0] (lv' := [(0, vA (some a0)), (2, vI x2), (3, vI (x2 - x2 / (10 : Int32) * (10 : Int32)))]) rfl ?_
        exact t_X12_valley_80 O R0 N hn a0 x2 (x2 - x2 / (10 : Int32) * (10 : Int32)) σ4 o h K
      replace h := (if_neg c13).symm.trans h
      by_cases c14 : (x2 / (10 : Int32)) = (5 : Int32)
      · replace h := (if_pos c14).symm.trans h
        refine g_tabIn O dX12_valley_40 (by rw [c14]; decide) (by rw [c14]; decide) (by rw [c14]; rfl) rfl ?_
        refine g_aload_n O dX12_valley_115 rfl 1 rfl ?_
        refine g_iload_n O dX12_valley_116 rfl 0 rfl ?_
        obtain ⟨a15, e16, h⟩ := bo_some h
        obtain ⟨v17, e18, h⟩ := bo_some h
        refine g_cV1 O R0 N dX12_valley_117 vl_X12_226 vv_X12_isWork e16 [vI (x2 - x2 / (10 : Int32) * (10 : Int32))] rfl rfl rfl ⟨Nat.le_of_ble_eq_true rfl, Nat.le_of_ble_eq_true rfl⟩ (c_X12_isWork l0 a15 (x2 - x2 / (10 : Int32) * (10 : Int32)) σ4 v17 e18) ?_
        refine g_if_eq O dX12_valley_120 rfl (fun c19 => ?_) (fun c19 => ?_)
        · replace h := (if_pos c19).symm.trans h
          refine g_iconst (v := (-1 : Int32)) O dX12_valley_131 rfl ?_
          cases h
          exact g_ireturn O K dX12_valley_132
        · replace h := (if_neg c19).symm.trans h
          refine g_aload_n O dX12_valley_123 rfl 1 rfl ?_
          refine g_iload_n O dX12_valley_124 rfl 0 rfl ?_
          obtain ⟨a20, e21, h⟩ := bo_some h
          obtain ⟨v22, e23, h⟩ := bo_some h
          refine g_cV1 O R0 N dX12_valley_125 vl_X12_229 vv_X12_muchOf e21 [vI (x2 - x2 / (10 : Int32) * (10 : Int32))] rfl rfl rfl ⟨Nat.le_of_ble_eq_true rfl, Nat.le_of_ble_eq_true rfl⟩ (c_X12_muchOf l0 a20 (x2 - x2 / (10 : Int32) * (10 : Int32)) σ4 v22 e23) ?_
          refine g_goto O dX12_valley_128 rfl ?_
          cases h
          exact g_ireturn O K dX12_valley_132
      replace h := (if_neg c14).symm.trans h
      by_cases c24 : (x2 / (10 : Int32)) = (6 : Int32)
      · replace h := (if_pos c24).symm.trans h
        refine g_tabIn O dX12_valley_40 (by rw [c24]; decide) (by rw [c24]; decide) (by rw [c24]; rfl) rfl ?_
        refine g_aload_n O dX12_valley_133 rfl 1 rfl ?_
        refine g_iload_n O dX12_valley_134 rfl 0 rfl ?_
        obtain ⟨a25, e26, h⟩ := bo_some h
        obtain ⟨v27, e28, h⟩ := bo_some h
        refine g_cV1 O R0 N dX12_valley_135 vl_X12_226 vv_X12_isWork e26 [vI (x2 - x2 / (10 : Int32) * (10 : Int32))] rfl rfl rfl ⟨Nat.le_of_ble_eq_true rfl, Nat.le_of_ble_eq_true rfl⟩ (c_X12_isWork l0 a25 (x2 - x2 / (10 : Int32) * (10 : Int32)) σ4 v27 e28) ?_
        refine g_if_eq O dX12_valley_138 rfl (fun c29 => ?_) (fun c29 => ?_)
        · replace h := (if_pos c29).symm.trans h
          refine g_iconst (v := (-1 : Int32)) O dX12_valley_149 rfl ?_
          cases h
          exact g_ireturn O K dX12_valley_150
        · replace h := (if_neg c29).symm.trans h
          refine g_aload_n O dX12_valley_141 rfl 1 rfl ?_
          refine g_iload_n O dX12_valley_142 rfl 0 rfl ?_
          obtain ⟨a30, e31, h⟩ := bo_some h
          obtain ⟨v32, e33, h⟩ := bo_some h
          refine g_cV1 O R0 N dX12_valley_143 vl_X12_232 vv_X12_worthOf e31 [vI (x2 - x2 / (10 : Int32) * (10 : Int32))] rfl rfl rfl ⟨Nat.le_of_ble_eq_true rfl, Nat.le_of_ble_eq_true rfl⟩ (c_X12_worthOf l0 a30 (x2 - x2 / (10 : Int32) * (10 : Int32)) σ4 v32 e33) ?_
          refine g_goto O dX12_valley_146 rfl ?_
          cases h
          exact g_ireturn O K dX12_valley_150
      replace h := (if_neg c24).symm.trans h
      refine g_tabOut O dX12_valley_40 (tab_out [(1 : Int32), (2 : Int32), (3 : Int32), (4 : Int32), (5 : Int32), (6 : Int32)] (fun z h1 h2 => ?_) (fun c hc => ?_)) rfl ?_
      · have hz : z = 1 ∨ z = 2 ∨ z = 3 ∨ z = 4 ∨ z = 5 ∨ z = 6 := by omega
        rcases hz with rfl | rfl | rfl | rfl | rfl | rfl
        · exact ⟨(1 : Int32), by simp, rfl⟩
        · exact ⟨(2 : Int32), by simp, rfl⟩
        · exact ⟨(3 : Int32), by simp, rfl⟩
        · exact ⟨(4 : Int32), by simp, rfl⟩
        · exact ⟨(5 : Int32), by simp, rfl⟩
        · exact ⟨(6 : Int32), by simp, rfl⟩
      · simp only [List.mem_cons, List.not_mem_nil, or_false] at hc
        rcases hc with rfl | rfl | rfl | rfl | rfl | rfl <;> assumption
      refine g_iconst (v := (-1 : Int32)) O dX12_valley_151 rfl ?_
      cases h
      exact g_ireturn O K dX12_valley_152
    · replace h := (if_neg c9).symm.trans h
      refine g_aload_n O dX12_valley_19 rfl 0 rfl ?_
      obtain ⟨v34, e35, h⟩ := bo_some h
      refine g_getR O dX12_valley_20 fl_X12_7 rfl e35 ?_
      refine g_aload_n O dX12_valley_23 rfl 0 rfl ?_
      obtain ⟨v36, e37, h⟩ := bo_some h
      refine g_getI O dX12_valley_24 fl_X12_208 rfl e37 ?_
      refine g_iload_n O dX12_valley_27 rfl 2 rfl ?_
      refine g_iadd O dX12_valley_28 ?_
      obtain ⟨v38, e39, h⟩ := bo_some h
      refine g_iaload O dX12_valley_29 e39 ?_
      cases h
      exact g_ireturn O K dX12_valley_30
theorem c_X12_valley (l0 : Launch) (a0 : Nat) (x1 : Int32) (x2 : Int32) (σ : Dt) (r : Int32) (σ' : Dt) (h : f_X12_valley a0 x1 x2 σ = some (r, σ')) : Ctr l0 yX12_valley cX12_valley 4 (some .int) false 5 145 0 0 [vA (some a0), vI x1, vI x2] SM σ SM σ' (some (vI r)) := ctr_of (by decide) (Nat.le_of_ble_eq_true rfl) (fun M O F R0 N hn => t_X12_valley O R0 N hn a0 x1 x2 σ (r, σ') h F)
