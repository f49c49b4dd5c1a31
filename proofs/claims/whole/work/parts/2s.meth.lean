def P_X12_most_50 (M : Mx) (a0 : Nat) (x3 : Int32) (σ : Dt) (s : (Int32 × Int32)) : Prop := G M 0 0 50 [(0, vA (some a0)), (3, vI x3), (4, vI s.1), (5, vI s.2)] [] SM σ
def E_X12_most_50 (M : Mx) (a0 : Nat) (x3 : Int32) (σ : Dt) : Int32 → Prop := (fun w => G M 0 0 114 [(4, vI w)] [] SM σ)
def f_X12_most_106 (a0 : Nat) (x3 : Int32) (x5 : Int32) (k0 : Int32) (σ : Dt) : Option ((Int32 × Int32) ⊕ Int32) := some (.inl (k0, (x5 + (1 : Int32))))
theorem t_X12_most_106 {M : Mx} {l0 : Launch} (O : Ok M cX12_most yX12_most) (R0 : Rm M l0 6 173 0 0) (N : Ma M = false) (hn : Mn M = 7)  (a0 : Nat) (x3 : Int32) (x5 : Int32) (k0 : Int32) (σ : Dt) (o : ((Int32 × Int32) ⊕ Int32)) (h : f_X12_most_106 a0 x3 x5 k0 σ = some o) (K : kon (P_X12_most_50 M a0 x3 σ) (E_X12_most_50 M a0 x3 σ) o) : G M 0 0 106 [(0, vA (some a0)), (3, vI x3), (5, vI x5)] [vI k0] SM σ := by
  unfold f_X12_most_106 at h
  refine g_istore (lv' := [(4, vI k0), (0, vA (some a0)), (3, vI x3), (5, vI x5)]) O dX12_most_106 7 hn (by decide) rfl ?_
  refine g_iinc (v := (x5 + (1 : Int32))) (lv' := [(5, vI (x5 + (1 : Int32))), (4, vI k0), (0, vA (some a0)), (3, vI x3)]) O dX12_most_108 7 hn (by decide) 3 rfl rfl rfl ?_
  refine g_goto O dX12_most_111 rfl ?_
  refine g_sub [2, 3, 1, 0] (lv' := [(0, vA (some a0)), (3, vI x3), (4, vI k0), (5, vI (x5 + (1 : Int32)))]) rfl ?_
  cases h
  exact K
def f_X12_most_104 (a0 : Nat) (x3 : Int32) (x4 : Int32) (x5 : Int32) (σ : Dt) : Option ((Int32 × Int32) ⊕ Int32) := f_X12_most_106 a0 x3 x5 x4 σ
theorem t_X12_most_104 {M : Mx} {l0 : Launch} (O : Ok M cX12_most yX12_most) (R0 : Rm M l0 6 173 0 0) (N : Ma M = false) (hn : Mn M = 7)  (a0 : Nat) (x3 : Int32) (x4 : Int32) (x5 : Int32) (σ : Dt) (o : ((Int32 × Int32) ⊕ Int32)) (h : f_X12_most_104 a0 x3 x4 x5 σ = some o) (K : kon (P_X12_most_50 M a0 x3 σ) (E_X12_most_50 M a0 x3 σ) o) : G M 0 0 104 [(0, vA (some a0)), (3, vI x3), (4, vI x4), (5, vI x5)] [] SM σ := by
  unfold f_X12_most_104 at h
  refine g_iload O dX12_most_104 2 rfl ?_
  refine g_sub [0, 1, 3] (lv' := [(0, vA (some a0)), (3, vI x3), (5, vI x5)]) rfl ?_
  exact t_X12_most_106 O R0 N hn a0 x3 x5 x4 σ o h K
def f_X12_most_80 (a0 : Nat) (x3 : Int32) (x4 : Int32) (x5 : Int32) (k0 : Int32) (σ : Dt) : Option ((Int32 × Int32) ⊕ Int32) := bo (xgr SM 12 25 (some a0) σ) fun v1 => bo (xaz SM v1 x5 σ) fun v3 => if v3 = 0 then f_X12_most_104 a0 x3 x4 x5 σ else if k0 ≤ x4 then f_X12_most_104 a0 x3 x4 x5 σ else f_X12_most_106 a0 x3 x5 k0 σ
theorem t_X12_most_80 {M : Mx} {l0 : Launch} (O : Ok M cX12_most yX12_most) (R0 : Rm M l0 6 173 0 0) (N : Ma M = false) (hn : Mn M = 7)  (a0 : Nat) (x3 : Int32) (x4 : Int32) (x5 : Int32) (k0 : Int32) (σ : Dt) (o : ((Int32 × Int32) ⊕ Int32)) (h : f_X12_most_80 a0 x3 x4 x5 k0 σ = some o) (K : kon (P_X12_most_50 M a0 x3 σ) (E_X12_most_50 M a0 x3 σ) o) : G M 0 0 80 [(0, vA (some a0)), (3, vI x3), (4, vI x4), (5, vI x5)] [vI k0] SM σ := by
  unfold f_X12_most_80 at h
  refine g_istore (lv' := [(6, vI k0), (0, vA (some a0)), (3, vI x3), (4, vI x4), (5, vI x5)]) O dX12_most_80 7 hn (by decide) rfl ?_
  refine g_aload_n O dX12_most_82 rfl 1 rfl ?_
  obtain ⟨v1, e2, h⟩ := bo_some h
  refine g_getR O dX12_most_83 fl_X12_52 rfl e2 ?_
  refine g_iload O dX12_most_86 4 rfl ?_
  obtain ⟨v3, e4, h⟩ := bo_some h
  refine g_baload O dX12_most_88 e4 ?_
  refine g_if_eq O dX12_most_89 rfl (fun c5 => ?_) (fun c5 => ?_)
  · replace h := (if_pos c5).symm.trans h
    refine g_sub [1, 2, 3, 4] (lv' := [(0, vA (some a0)), (3, vI x3), (4, vI x4), (5, vI x5)]) rfl ?_
    exact t_X12_most_104 O R0 N hn a0 x3 x4 x5 σ o h K
  · replace h := (if_neg c5).symm.trans h
    refine g_iload O dX12_most_92 0 rfl ?_
    refine g_iload O dX12_most_94 3 rfl ?_
    refine g_icmp_le O dX12_most_96 rfl (fun c6 => ?_) (fun c6 => ?_)
    · replace h := (if_pos c6).symm.trans h
      refine g_sub [1, 2, 3, 4] (lv' := [(0, vA (some a0)), (3, vI x3), (4, vI x4), (5, vI x5)]) rfl ?_
      exact t_X12_most_104 O R0 N hn a0 x3 x4 x5 σ o h K
    · replace h := (if_neg c6).symm.trans h
      refine g_iload O dX12_most_99 0 rfl ?_
      refine g_goto O dX12_most_101 rfl ?_
      refine g_sub [1, 2, 4] (lv' := [(0, vA (some a0)), (3, vI x3), (5, vI x5)]) rfl ?_
      exact t_X12_most_106 O R0 N hn a0 x3 x5 k0 σ o h K
def f_X12_most_L50 (a0 : Nat) (x3 : Int32) (x4 : Int32) (x5 : Int32) (σ : Dt) : Option ((Int32 × Int32) ⊕ Int32) := bo (xgi SM 12 13 (some a0) σ) fun v1 => if ((1 : Int32) <<< (v1 &&& 31)) ≤ x5 then some (.inr x4) else if x3 = (1 : Int32) then bo (f_X12_bitsOf x5 σ) fun v5 => f_X12_most_80 a0 x3 x4 x5 v5 σ else bo (xrc SM 12 (some a0)) fun a7 => bo (f_X12_worths a7 x5 σ) fun v9 => f_X12_most_80 a0 x3 x4 x5 v9 σ
theorem t_X12_most_L50 {M : Mx} {l0 : Launch} (O : Ok M cX12_most yX12_most) (R0 : Rm M l0 6 173 0 0) (N : Ma M = false) (hn : Mn M = 7) (a0 : Nat) (x3 : Int32) (x4 : Int32) (x5 : Int32) (σ : Dt) (o : ((Int32 × Int32) ⊕ Int32)) (h : f_X12_most_L50 a0 x3 x4 x5 σ = some o) (K : kon (P_X12_most_50 M a0 x3 σ) (E_X12_most_50 M a0 x3 σ) o) : G M 0 0 50 [(0, vA (some a0)), (3, vI x3), (4, vI x4), (5, vI x5)] [] SM σ := by
  unfold f_X12_most_L50 at h
  refine g_iload O dX12_most_50 3 rfl ?_
  refine g_iconst (v := (1 : Int32)) O dX12_most_52 rfl ?_
  refine g_aload_n O dX12_most_53 rfl 0 rfl ?_
  obtain ⟨v1, e2, h⟩ := bo_some h
  refine g_getI O dX12_most_54 fl_X12_214 rfl e2 ?_
  refine g_ishl O dX12_most_57 ?_
  refine g_icmp_ge O dX12_most_58 rfl (fun c3 => ?_) (fun c3 => ?_)
  · replace h := (if_pos c3).symm.trans h
    refine g_sub [2] (lv' := [(4, vI x4)]) rfl ?_
    cases h
    exact K
  · replace h := (if_neg c3).symm.trans h
    refine g_iload_n O dX12_most_61 rfl 1 rfl ?_
    refine g_iconst (v := (1 : Int32)) O dX12_most_62 rfl ?_
    refine g_icmp_ne O dX12_most_63 rfl (fun c4 => ?_) (fun c4 => ?_)
    · replace h := (if_pos c4).symm.trans h
      refine g_iload O dX12_most_66 3 rfl ?_
      obtain ⟨v5, e6, h⟩ := bo_some h
      refine g_cS1 O R0 N dX12_most_68 vl_X12_183 w1701 [vI x5] rfl rfl rfl ⟨Nat.le_of_ble_eq_true rfl, Nat.le_of_ble_eq_true rfl⟩ (c_X12_bitsOf l0 x5 σ v5 e6) ?_
      refine g_goto O dX12_most_71 rfl ?_
      exact t_X12_most_80 O R0 N hn a0 x3 x4 x5 v5 σ o h K
    · replace h := (if_neg c4).symm.trans h
      refine g_aload_n O dX12_most_74 rfl 0 rfl ?_
      refine g_iload O dX12_most_75 3 rfl ?_
      obtain ⟨a7, e8, h⟩ := bo_some h
      obtain ⟨v9, e10, h⟩ := bo_some h
      refine g_cV1 O R0 N dX12_most_77 vl_X12_294 vv_X12_worths e8 [vI x5] rfl rfl rfl ⟨Nat.le_of_ble_eq_true rfl, Nat.le_of_ble_eq_true rfl⟩ (c_X12_worths l0 a7 x5 σ v9 e10) ?_
      exact t_X12_most_80 O R0 N hn a0 x3 x4 x5 v9 σ o h K
def f_X12_most (a0 : Nat) (x1 : Int32) (x2 : Int32) (x3 : Int32) (σ : Dt) : Option (Int32 × Dt) := bo (xrc SM 12 (some a0)) fun a1 => bd (f_X12_isValley a1 x1 σ) fun v3 σ4 => if v3 = 0 then some ((-1 : Int32), σ4) else bo (f_X12_isIn x2 (1 : Int32) (9 : Int32) σ4) fun v7 => if v7 = 0 then some ((-1 : Int32), σ4) else bo (f_X12_isIn x3 (0 : Int32) (2 : Int32) σ4) fun v10 => if v10 = 0 then some ((-1 : Int32), σ4) else if x3 = 0 then bo (xrc SM 12 (some a0)) fun a14 => bo (f_X12_neverOf a14 x2 σ4) fun v16 => some (v16, σ4) else bo (xrc SM 12 (some a0)) fun a18 => bd (f_X12_laysKept a18 x2 σ4) fun v20 σ21 => bo (iter FU (fun s => f_X12_most_L50 a0 x3 s.1 s.2 σ21) ((0 : Int32), (0 : Int32))) fun w23 => some (w23, σ21)
theorem t_X12_most {M : Mx} {l0 : Launch} (O : Ok M cX12_most yX12_most) (R0 : Rm M l0 6 173 0 0) (N : Ma M = false) (hn : Mn M = 7) (a0 : Nat) (x1 : Int32) (x2 : Int32) (x3 : Int32) (σ : Dt) (o : (Int32 × Dt)) (h : f_X12_most a0 x1 x2 x3 σ = some o) (K : Fin' M (some .int) 0 0 SM o.2 (some (vI o.1))) : G M 0 0 0 [(0, vA (some a0)), (1, vI x1), (2, vI x2), (3, vI x3)] [] SM σ := by
  unfold f_X12_most at h
  refine g_aload_n O dX12_most_0 rfl 0 rfl ?_
  refine g_iload_n O dX12_most_1 rfl 1 rfl ?_
  obtain ⟨a1, e2, h⟩ := bo_some h
  obtain ⟨v3, σ4, e5, h⟩ := bd_some h
  refine g_cV1 O R0 N dX12_most_2 vl_X12_220 vv_X12_isValley e2 [vI x1] rfl rfl rfl ⟨Nat.le_of_ble_eq_true rfl, Nat.le_of_ble_eq_true rfl⟩ (c_X12_isValley l0 a1 x1 σ v3 σ4 e5) ?_
  refine g_if_eq O dX12_most_5 rfl (fun c6 => ?_) (fun c6 => ?_)
  · replace h := (if_pos c6).symm.trans h
    refine g_iconst (v := (-1 : Int32)) O dX12_most_27 rfl ?_
    cases h
    exact g_ireturn O K dX12_most_28
  · replace h := (if_neg c6).symm.trans h
    refine g_iload_n O dX12_most_8 rfl 2 rfl ?_
    refine g_iconst (v := (1 : Int32)) O dX12_most_9 rfl ?_
    refine g_bipush (v := (9 : Int32)) O dX12_most_10 rfl ?_
    obtain ⟨v7, e8, h⟩ := bo_some h
    refine g_cS1 O R0 N dX12_most_12 vl_X12_146 w1616 [vI x2, vI (1 : Int32), vI (9 : Int32)] rfl rfl rfl ⟨Nat.le_of_ble_eq_true rfl, Nat.le_of_ble_eq_true rfl⟩ (c_X12_isIn l0 x2 (1 : Int32) (9 : Int32) σ4 v7 e8) ?_
    refine g_if_eq O dX12_most_15 rfl (fun c9 => ?_) (fun c9 => ?_)
    · replace h := (if_pos c9).symm.trans h
      refine g_iconst (v := (-1 : Int32)) O dX12_most_27 rfl ?_
      cases h
      exact g_ireturn O K dX12_most_28
    · replace h := (if_neg c9).symm.trans h
      refine g_iload_n O dX12_most_18 rfl 3 rfl ?_
      refine g_iconst (v := (0 : Int32)) O dX12_most_19 rfl ?_
      refine g_iconst (v := (2 : Int32)) O dX12_most_20 rfl ?_
      obtain ⟨v10, e11, h⟩ := bo_some h
      refine g_cS1 O R0 N dX12_most_21 vl_X12_146 w1616 [vI x3, vI (0 : Int32), vI (2 : Int32)] rfl rfl rfl ⟨Nat.le_of_ble_eq_true rfl, Nat.le_of_ble_eq_true rfl⟩ (c_X12_isIn l0 x3 (0 : Int32) (2 : Int32) σ4 v10 e11) ?_
      refine g_if_ne O dX12_most_24 rfl (fun c12 => ?_) (fun c12 => ?_)
      · replace h := (if_pos c12).symm.trans h
        refine g_iconst (v := (-1 : Int32)) O dX12_most_27 rfl ?_
        cases h
        exact g_ireturn O K dX12_most_28
      · replace h := (if_neg c12).symm.trans h
        refine g_iload_n O dX12_most_29 rfl 3 rfl ?_
        refine g_if_ne O dX12_most_30 rfl (fun c13 => ?_) (fun c13 => ?_)
        · replace h := (if_pos c13).symm.trans h
          refine g_aload_n O dX12_most_33 rfl 0 rfl ?_
          refine g_iload_n O dX12_most_34 rfl 2 rfl ?_
          obtain ⟨a14, e15, h⟩ := bo_some h
          obtain ⟨v16, e17, h⟩ := bo_some h
          refine g_cV1 O R0 N dX12_most_35 vl_X12_368 vv_X12_neverOf e15 [vI x2] rfl rfl rfl ⟨Nat.le_of_ble_eq_true rfl, Nat.le_of_ble_eq_true rfl⟩ (c_X12_neverOf l0 a14 x2 σ4 v16 e17) ?_
          cases h
          exact g_ireturn O K dX12_most_38
        · replace h := (if_neg c13).symm.trans h
          refine g_aload_n O dX12_most_39 rfl 0 rfl ?_
          refine g_iload_n O dX12_most_40 rfl 2 rfl ?_
          obtain ⟨a18, e19, h⟩ := bo_some h
          obtain ⟨v20, σ21, e22, h⟩ := bd_some h
          refine g_cV0 O R0 N dX12_most_41 vl_X12_371 vv_X12_laysKept e19 [vI x2] rfl rfl rfl ⟨Nat.le_of_ble_eq_true rfl, Nat.le_of_ble_eq_true rfl⟩ (c_X12_laysKept l0 a18 x2 σ4 v20 σ21 e22) ?_
          refine g_iconst (v := (0 : Int32)) O dX12_most_44 rfl ?_
          refine g_istore (lv' := [(4, vI (0 : Int32)), (0, vA (some a0)), (1, vI x1), (2, vI x2), (3, vI x3)]) O dX12_most_45 7 hn (by decide) rfl ?_
          refine g_iconst (v := (0 : Int32)) O dX12_most_47 rfl ?_
          refine g_istore (lv' := [(5, vI (0 : Int32)), (4, vI (0 : Int32)), (0, vA (some a0)), (1, vI x1), (2, vI x2), (3, vI x3)]) O dX12_most_48 7 hn (by decide) rfl ?_
          refine g_sub [2, 5, 1, 0] (lv' := [(0, vA (some a0)), (3, vI x3), (4, vI (0 : Int32)), (5, vI (0 : Int32))]) rfl ?_
          obtain ⟨w23, e24, h⟩ := bo_some h
          refine iter_G (P := P_X12_most_50 M a0 x3 σ21) (E := E_X12_most_50 M a0 x3 σ21) (fun s o hb hk => t_X12_most_L50 O R0 N hn a0 x3 s.1 s.2 σ21 o hb hk) FU ((0 : Int32), (0 : Int32)) w23 e24 ?_
          show G M 0 0 114 [(4, vI w23)] [] SM σ21
          refine g_iload O dX12_most_114 0 rfl ?_
          cases h
          exact g_ireturn O K dX12_most_116
theorem c_X12_most (l0 : Launch) (a0 : Nat) (x1 : Int32) (x2 : Int32) (x3 : Int32) (σ : Dt) (r : Int32) (σ' : Dt) (h : f_X12_most a0 x1 x2 x3 σ = some (r, σ')) : Ctr l0 yX12_most cX12_most 7 (some .int) false 6 173 0 0 [vA (some a0), vI x1, vI x2, vI x3] SM σ SM σ' (some (vI r)) := ctr_of (by decide) (Nat.le_of_ble_eq_true rfl) (fun M O F R0 N hn => t_X12_most O R0 N hn a0 x1 x2 x3 σ (r, σ') h F)
def P_X12_sizesOf_4 (M : Mx) (a0 : Nat) (x1 : Int32) (σ : Dt) (s : (Int32 × Int32)) : Prop := G M 0 0 4 [(0, vA (some a0)), (1, vI x1), (2, vI s.1), (3, vI s.2)] [] SM σ
def E_X12_sizesOf_4 (M : Mx) (a0 : Nat) (x1 : Int32) (σ : Dt) : Int32 → Prop := (fun w => G M 0 0 38 [(2, vI w)] [] SM σ)
def f_X12_sizesOf_30 (a0 : Nat) (x1 : Int32) (x3 : Int32) (k0 : Int32) (k1 : Int32) (σ : Dt) : Option ((Int32 × Int32) ⊕ Int32) := some (.inl ((k0 + k1), (x3 + (1 : Int32))))
theorem t_X12_sizesOf_30 {M : Mx} {l0 : Launch} (O : Ok M cX12_sizesOf yX12_sizesOf) (R0 : Rm M l0 3 101 0 0) (N : Ma M = false) (hn : Mn M = 4)  (a0 : Nat) (x1 : Int32) (x3 : Int32) (k0 : Int32) (k1 : Int32) (σ : Dt) (o : ((Int32 × Int32) ⊕ Int32)) (h : f_X12_sizesOf_30 a0 x1 x3 k0 k1 σ = some o) (K : kon (P_X12_sizesOf_4 M a0 x1 σ) (E_X12_sizesOf_4 M a0 x1 σ) o) : G M 0 0 30 [(0, vA (some a0)), (1, vI x1), (3, vI x3)] [vI k1, vI k0] SM σ := by
  unfold f_X12_sizesOf_30 at h
  refine g_iadd O dX12_sizesOf_30 ?_
  refine g_istore_n (lv' := [(2, vI (k0 + k1)), (0, vA (some a0)), (1, vI x1), (3, vI x3)]) O dX12_sizesOf_31 rfl 4 hn (by decide) rfl ?_
  refine g_iinc (v := (x3 + (1 : Int32))) (lv' := [(3, vI (x3 + (1 : Int32))), (2, vI (k0 + k1)), (0, vA (some a0)), (1, vI x1)]) O dX12_sizesOf_32 4 hn (by decide) 3 rfl rfl rfl ?_
  refine g_goto O dX12_sizesOf_35 rfl ?_
  refine g_sub [2, 3, 1, 0] (lv' := [(0, vA (some a0)), (1, vI x1), (2, vI (k0 + k1)), (3, vI (x3 + (1 : Int32)))]) rfl ?_
  cases h
  exact K
def f_X12_sizesOf_L4 (a0 : Nat) (x1 : Int32) (x2 : Int32) (x3 : Int32) (σ : Dt) : Option ((Int32 × Int32) ⊕ Int32) := bo (xgi SM 12 13 (some a0) σ) fun v1 => if v1 ≤ x3 then some (.inr x2) else bo (f_X12_isAmong x1 x3 σ) fun v4 => if v4 = 0 then f_X12_sizesOf_30 a0 x1 x3 x2 (0 : Int32) σ else bo (xrc SM 12 (some a0)) fun a7 => bo (f_X12_muchOf a7 x3 σ) fun v9 => f_X12_sizesOf_30 a0 x1 x3 x2 v9 σ
theorem t_X12_sizesOf_L4 {M : Mx} {l0 : Launch} (O : Ok M cX12_sizesOf yX12_sizesOf) (R0 : Rm M l0 3 101 0 0) (N : Ma M = false) (hn : Mn M = 4) (a0 : Nat) (x1 : Int32) (x2 : Int32) (x3 : Int32) (σ : Dt) (o : ((Int32 × Int32) ⊕ Int32)) (h : f_X12_sizesOf_L4 a0 x1 x2 x3 σ = some o) (K : kon (P_X12_sizesOf_4 M a0 x1 σ) (E_X12_sizesOf_4 M a0 x1 σ) o) : G M 0 0 4 [(0, vA (some a0)), (1, vI x1), (2, vI x2), (3, vI x3)] [] SM σ := by
  unfold f_X12_sizesOf_L4 at h
  refine g_iload_n O dX12_sizesOf_4 rfl 3 rfl ?_
  refine g_aload_n O dX12_sizesOf_5 rfl 0 rfl ?_
  obtain ⟨v1, e2, h⟩ := bo_some h
  refine g_getI O dX12_sizesOf_6 fl_X12_214 rfl e2 ?_
  refine g_icmp_ge O dX12_sizesOf_9 rfl (fun c3 => ?_) (fun c3 => ?_)
  · replace h := (if_pos c3).symm.trans h
    refine g_sub [2] (lv' := [(2, vI x2)]) rfl ?_
    cases h
    exact K
  · replace h := (if_neg c3).symm.trans h
    refine g_iload_n O dX12_sizesOf_12 rfl 2 rfl ?_
    refine g_iload_n O dX12_sizesOf_13 rfl 1 rfl ?_
    refine g_iload_n O dX12_sizesOf_14 rfl 3 rfl ?_
    obtain ⟨v4, e5, h⟩ := bo_some h
    refine g_cS1 O R0 N dX12_sizesOf_15 vl_X12_235 w1766 [vI x1, vI x3] rfl rfl rfl ⟨Nat.le_of_ble_eq_true rfl, Nat.le_of_ble_eq_true rfl⟩ (c_X12_isAmong l0 x1 x3 σ v4 e5) ?_
    refine g_if_eq O dX12_sizesOf_18 rfl (fun c6 => ?_) (fun c6 => ?_)
    · replace h := (if_pos c6).symm.trans h
      refine g_iconst (v := (0 : Int32)) O dX12_sizesOf_29 rfl ?_
      refine g_sub [0, 1, 3] (lv' := [(0, vA (some a0)), (1, vI x1), (3, vI x3)]) rfl ?_
      exact t_X12_sizesOf_30 O R0 N hn a0 x1 x3 x2 (0 : Int32) σ o h K
    · replace h := (if_neg c6).symm.trans h
      refine g_aload_n O dX12_sizesOf_21 rfl 0 rfl ?_
      refine g_iload_n O dX12_sizesOf_22 rfl 3 rfl ?_
      obtain ⟨a7, e8, h⟩ := bo_some h
      obtain ⟨v9, e10, h⟩ := bo_some h
      refine g_cV1 O R0 N dX12_sizesOf_23 vl_X12_229 vv_X12_muchOf e8 [vI x3] rfl rfl rfl ⟨Nat.le_of_ble_eq_true rfl, Nat.le_of_ble_eq_true rfl⟩ (c_X12_muchOf l0 a7 x3 σ v9 e10) ?_
      refine g_goto O dX12_sizesOf_26 rfl ?_
      refine g_sub [0, 1, 3] (lv' := [(0, vA (some a0)), (1, vI x1), (3, vI x3)]) rfl ?_
      exact t_X12_sizesOf_30 O R0 N hn a0 x1 x3 x2 v9 σ o h K
def f_X12_sizesOf (a0 : Nat) (x1 : Int32) (σ : Dt) : Option Int32 := bo (iter FU (fun s => f_X12_sizesOf_L4 a0 x1 s.1 s.2 σ) ((0 : Int32), (0 : Int32))) fun w1 => some w1
theorem t_X12_sizesOf {M : Mx} {l0 : Launch} (O : Ok M cX12_sizesOf yX12_sizesOf) (R0 : Rm M l0 3 101 0 0) (N : Ma M = false) (hn : Mn M = 4) (a0 : Nat) (x1 : Int32) (σ : Dt) (o : Int32) (h : f_X12_sizesOf a0 x1 σ = some o) (K : Fin' M (some .int) 0 0 SM σ (some (vI o))) : G M 0 0 0 [(0, vA (some a0)), (1, vI x1)] [] SM σ := by
  unfold f_X12_sizesOf at h
  refine g_iconst (v := (0 : Int32)) O dX12_sizesOf_0 rfl ?_
  refine g_istore_n (lv' := [(2, vI (0 : Int32)), (0, vA (some a0)), (1, vI x1)]) O dX12_sizesOf_1 rfl 4 hn (by decide) rfl ?_
  refine g_iconst (v := (0 : Int32)) O dX12_sizesOf_2 rfl ?_
  refine g_istore_n (lv' := [(3, vI (0 : Int32)), (2, vI (0 : Int32)), (0, vA (some a0)), (1, vI x1)]) O dX12_sizesOf_3 rfl 4 hn (by decide) rfl ?_
  refine g_sub [2, 3, 1, 0] (lv' := [(0, vA (some a0)), (1, vI x1), (2, vI (0 : Int32)), (3, vI (0 : Int32))]) rfl ?_
  obtain ⟨w1, e2, h⟩ := bo_some h
  refine iter_G (P := P_X12_sizesOf_4 M a0 x1 σ) (E := E_X12_sizesOf_4 M a0 x1 σ) (fun s o hb hk => t_X12_sizesOf_L4 O R0 N hn a0 x1 s.1 s.2 σ o hb hk) FU ((0 : Int32), (0 : Int32)) w1 e2 ?_
  show G M 0 0 38 [(2, vI w1)] [] SM σ
  refine g_iload_n O dX12_sizesOf_38 rfl 0 rfl ?_
  cases h
  exact g_ireturn O K dX12_sizesOf_39
theorem c_X12_sizesOf (l0 : Launch) (a0 : Nat) (x1 : Int32) (σ : Dt) (r : Int32) (h : f_X12_sizesOf a0 x1 σ = some r) : Ctr l0 yX12_sizesOf cX12_sizesOf 4 (some .int) false 3 101 0 0 [vA (some a0), vI x1] SM σ SM σ (some (vI r)) := ctr_of (by decide) (Nat.le_of_ble_eq_true rfl) (fun M O F R0 N hn => t_X12_sizesOf O R0 N hn a0 x1 σ r h F)
def P_X12_lot_26 (M : Mx) (a0 : Nat) (x2 : Int32) (x3 : Int32) (σ : Dt) (s : (Int32 × Int32)) : Prop := G M 0 0 26 [(0, vA (some a0)), (2, vI x2), (3, vI x3), (4, vI s.1), (5, vI s.2)] [] SM σ
def E_X12_lot_26 (M : Mx) (a0 : Nat) (x2 : Int32) (x3 : Int32) (σ : Dt) : Int32 → Prop := (fun w => G M 0 0 72 [(0, vA (some a0)), (3, vI x3), (4, vI w)] [] SM σ)
def f_X12_lot_66 (a0 : Nat) (x2 : Int32) (x3 : Int32) (x4 : Int32) (x5 : Int32) (σ : Dt) : Option ((Int32 × Int32) ⊕ Int32) := some (.inl (x4, (x5 + (1 : Int32))))
theorem t_X12_lot_66 {M : Mx} {l0 : Launch} (O : Ok M cX12_lot yX12_lot) (R0 : Rm M l0 5 145 0 0) (N : Ma M = false) (hn : Mn M = 6)  (a0 : Nat) (x2 : Int32) (x3 : Int32) (x4 : Int32) (x5 : Int32) (σ : Dt) (o : ((Int32 × Int32) ⊕ Int32)) (h : f_X12_lot_66 a0 x2 x3 x4 x5 σ = some o) (K : kon (P_X12_lot_26 M a0 x2 x3 σ) (E_X12_lot_26 M a0 x2 x3 σ) o) : G M 0 0 66 [(0, vA (some a0)), (2, vI x2), (3, vI x3), (4, vI x4), (5, vI x5)] [] SM σ := by
  unfold f_X12_lot_66 at h
  refine g_iinc (v := (x5 + (1 : Int32))) (lv' := [(5, vI (x5 + (1 : Int32))), (0, vA (some a0)), (2, vI x2), (3, vI x3), (4, vI x4)]) O dX12_lot_66 6 hn (by decide) 4 rfl rfl rfl ?_
  refine g_goto O dX12_lot_69 rfl ?_
  refine g_sub [1, 2, 3, 4, 0] (lv' := [(0, vA (some a0)), (2, vI x2), (3, vI x3), (4, vI x4), (5, vI (x5 + (1 : Int32)))]) rfl ?_
  cases h
  exact K
def f_X12_lot_L26 (a0 : Nat) (x2 : Int32) (x3 : Int32) (x4 : Int32) (x5 : Int32) (σ : Dt) : Option ((Int32 × Int32) ⊕ Int32) := bo (xgi SM 12 13 (some a0) σ) fun v1 => if ((1 : Int32) <<< (v1 &&& 31)) ≤ x5 then some (.inr x4) else bo (xrc SM 12 (some a0)) fun a4 => bo (f_X12_sizesOf a4 x5 σ) fun v6 => if x2 < v6 then f_X12_lot_66 a0 x2 x3 x4 x5 σ else bo (xrc SM 12 (some a0)) fun a9 => bo (f_X12_worths a9 x5 σ) fun v11 => bo (xrc SM 12 (some a0)) fun a13 => bo (f_X12_worths a13 x4 σ) fun v15 => if v11 ≤ v15 then f_X12_lot_66 a0 x2 x3 x4 x5 σ else f_X12_lot_66 a0 x2 x3 x5 x5 σ
theorem t_X12_lot_L26 {M : Mx} {l0 : Launch} (O : Ok M cX12_lot yX12_lot) (R0 : Rm M l0 5 145 0 0) (N : Ma M = false) (hn : Mn M = 6) (a0 : Nat) (x2 : Int32) (x3 : Int32) (x4 : Int32) (x5 : Int32) (σ : Dt) (o : ((Int32 × Int32) ⊕ Int32)) (h : f_X12_lot_L26 a0 x2 x3 x4 x5 σ = some o) (K : kon (P_X12_lot_26 M a0 x2 x3 σ) (E_X12_lot_26 M a0 x2 x3 σ) o) : G M 0 0 26 [(0, vA (some a0)), (2, vI x2), (3, vI x3), (4, vI x4), (5, vI x5)] [] SM σ := by
  unfold f_X12_lot_L26 at h
  refine g_iload O dX12_lot_26 4 rfl ?_
  refine g_iconst (v := (1 : Int32)) O dX12_lot_28 rfl ?_
  refine g_aload_n O dX12_lot_29 rfl 0 rfl ?_
  obtain ⟨v1, e2, h⟩ := bo_some h
  refine g_getI O dX12_lot_30 fl_X12_214 rfl e2 ?_
  refine g_ishl O dX12_lot_33 ?_
  refine g_icmp_ge O dX12_lot_34 rfl (fun c3 => ?_) (fun c3 => ?_)
  · replace h := (if_pos c3).symm.trans h
    refine g_sub [0, 2, 3] (lv' := [(0, vA (some a0)), (3, vI x3), (4, vI x4)]) rfl ?_
    cases h
    exact K
  · replace h := (if_neg c3).symm.trans h
    refine g_aload_n O dX12_lot_37 rfl 0 rfl ?_
    refine g_iload O dX12_lot_38 4 rfl ?_
    obtain ⟨a4, e5, h⟩ := bo_some h
    obtain ⟨v6, e7, h⟩ := bo_some h
    refine g_cV1 O R0 N dX12_lot_40 vl_X12_374 vv_X12_sizesOf e5 [vI x5] rfl rfl rfl ⟨Nat.le_of_ble_eq_true rfl, Nat.le_of_ble_eq_true rfl⟩ (c_X12_sizesOf l0 a4 x5 σ v6 e7) ?_
    refine g_iload_n O dX12_lot_43 rfl 1 rfl ?_
    refine g_icmp_gt O dX12_lot_44 rfl (fun c8 => ?_) (fun c8 => ?_)
    · replace h := (if_pos c8).symm.trans h
      exact t_X12_lot_66 O R0 N hn a0 x2 x3 x4 x5 σ o h K
    · replace h := (if_neg c8).symm.trans h
      refine g_aload_n O dX12_lot_47 rfl 0 rfl ?_
      refine g_iload O dX12_lot_48 4 rfl ?_
      obtain ⟨a9, e10, h⟩ := bo_some h
      obtain ⟨v11, e12, h⟩ := bo_some h
      refine g_cV1 O R0 N dX12_lot_50 vl_X12_294 vv_X12_worths e10 [vI x5] rfl rfl rfl ⟨Nat.le_of_ble_eq_true rfl, Nat.le_of_ble_eq_true rfl⟩ (c_X12_worths l0 a9 x5 σ v11 e12) ?_
      refine g_aload_n O dX12_lot_53 rfl 0 rfl ?_
      refine g_iload O dX12_lot_54 3 rfl ?_
      obtain ⟨a13, e14, h⟩ := bo_some h
      obtain ⟨v15, e16, h⟩ := bo_some h
      refine g_cV1 O R0 N dX12_lot_56 vl_X12_294 vv_X12_worths e14 [vI x4] rfl rfl rfl ⟨Nat.le_of_ble_eq_true rfl, Nat.le_of_ble_eq_true rfl⟩ (c_X12_worths l0 a13 x4 σ v15 e16) ?_
      refine g_icmp_le O dX12_lot_59 rfl (fun c17 => ?_) (fun c17 => ?_)
      · replace h := (if_pos c17).symm.trans h
        exact t_X12_lot_66 O R0 N hn a0 x2 x3 x4 x5 σ o h K
      · replace h := (if_neg c17).symm.trans h
        refine g_iload O dX12_lot_62 4 rfl ?_
        refine g_istore (lv' := [(4, vI x5), (0, vA (some a0)), (2, vI x2), (3, vI x3), (5, vI x5)]) O dX12_lot_64 6 hn (by decide) rfl ?_
        refine g_sub [1, 2, 3, 0, 4] (lv' := [(0, vA (some a0)), (2, vI x2), (3, vI x3), (4, vI x5), (5, vI x5)]) rfl ?_
        exact t_X12_lot_66 O R0 N hn a0 x2 x3 x5 x5 σ o h K
def f_X12_lot (a0 : Nat) (x1 : Int32) (x2 : Int32) (x3 : Int32) (σ : Dt) : Option (Int32 × Dt) := bo (xrc SM 12 (some a0)) fun a1 => bd (f_X12_isValley a1 x1 σ) fun v3 σ4 => if v3 = 0 then some ((-1 : Int32), σ4) else bo (f_X12_isIn x2 (0 : Int32) (99 : Int32) σ4) fun v7 => if v7 = 0 then some ((-1 : Int32), σ4) else bo (iter FU (fun s => f_X12_lot_L26 a0 x2 x3 s.1 s.2 σ4) ((0 : Int32), (1 : Int32))) fun w10 => if x3 = 0 then bo (xrc SM 12 (some a0)) fun a13 => bo (f_X12_worths a13 w10 σ4) fun v15 => some (v15, σ4) else some (w10, σ4)
theorem t_X12_lot {M : Mx} {l0 : Launch} (O : Ok M cX12_lot yX12_lot) (R0 : Rm M l0 5 145 0 0) (N : Ma M = false) (hn : Mn M = 6) (a0 : Nat) (x1 : Int32) (x2 : Int32) (x3 : Int32) (σ : Dt) (o : (Int32 × Dt)) (h : f_X12_lot a0 x1 x2 x3 σ = some o) (K : Fin' M (some .int) 0 0 SM o.2 (some (vI o.1))) : G M 0 0 0 [(0, vA (some a0)), (1, vI x1), (2, vI x2), (3, vI x3)] [] SM σ := by
  unfold f_X12_lot at h
  refine g_aload_n O dX12_lot_0 rfl 0 rfl ?_
  refine g_iload_n O dX12_lot_1 rfl 1 rfl ?_
  obtain ⟨a1, e2, h⟩ := bo_some h
  obtain ⟨v3, σ4, e5, h⟩ := bd_some h
  refine g_cV1 O R0 N dX12_lot_2 vl_X12_220 vv_X12_isValley e2 [vI x1] rfl rfl rfl ⟨Nat.le_of_ble_eq_true rfl, Nat.le_of_ble_eq_true rfl⟩ (c_X12_isValley l0 a1 x1 σ v3 σ4 e5) ?_
  refine g_if_eq O dX12_lot_5 rfl (fun c6 => ?_) (fun c6 => ?_)
  · replace h := (if_pos c6).symm.trans h
    refine g_iconst (v := (-1 : Int32)) O dX12_lot_18 rfl ?_
    cases h
    exact g_ireturn O K dX12_lot_19
  · replace h := (if_neg c6).symm.trans h
    refine g_iload_n O dX12_lot_8 rfl 2 rfl ?_
    refine g_iconst (v := (0 : Int32)) O dX12_lot_9 rfl ?_
    refine g_bipush (v := (99 : Int32)) O dX12_lot_10 rfl ?_
    obtain ⟨v7, e8, h⟩ := bo_some h
    refine g_cS1 O R0 N dX12_lot_12 vl_X12_146 w1616 [vI x2, vI (0 : Int32), vI (99 : Int32)] rfl rfl rfl ⟨Nat.le_of_ble_eq_true rfl, Nat.le_of_ble_eq_true rfl⟩ (c_X12_isIn l0 x2 (0 : Int32) (99 : Int32) σ4 v7 e8) ?_
    refine g_if_ne O dX12_lot_15 rfl (fun c9 => ?_) (fun c9 => ?_)
    · replace h := (if_pos c9).symm.trans h
      refine g_iconst (v := (-1 : Int32)) O dX12_lot_18 rfl ?_
      cases h
      exact g_ireturn O K dX12_lot_19
    · replace h := (if_neg c9).symm.trans h
      refine g_iconst (v := (0 : Int32)) O dX12_lot_20 rfl ?_
      refine g_istore (lv' := [(4, vI (0 : Int32)), (0, vA (some a0)), (1, vI x1), (2, vI x2), (3, vI x3)]) O dX12_lot_21 6 hn (by decide) rfl ?_
      refine g_iconst (v := (1 : Int32)) O dX12_lot_23 rfl ?_
      refine g_istore (lv' := [(5, vI (1 : Int32)), (4, vI (0 : Int32)), (0, vA (some a0)), (1, vI x1), (2, vI x2), (3, vI x3)]) O dX12_lot_24 6 hn (by decide) rfl ?_
      refine g_sub [2, 4, 5, 1, 0] (lv' := [(0, vA (some a0)), (2, vI x2), (3, vI x3), (4, vI (0 : Int32)), (5, vI (1 : Int32))]) rfl ?_
      obtain ⟨w10, e11, h⟩ := bo_some h
      refine iter_G (P := P_X12_lot_26 M a0 x2 x3 σ4) (E := E_X12_lot_26 M a0 x2 x3 σ4) (fun s o hb hk => t_X12_lot_L26 O R0 N hn a0 x2 x3 s.1 s.2 σ4 o hb hk) FU ((0 : Int32), (1 : Int32)) w10 e11 ?_
      show G M 0 0 72 [(0, vA (some a0)), (3, vI x3), (4, vI w10)] [] SM σ4
      refine g_iload_n O dX12_lot_72 rfl 1 rfl ?_
      refine g_if_eq O dX12_lot_73 rfl (fun c12 => ?_) (fun c12 => ?_)
      · replace h := (if_pos c12).symm.trans h
        refine g_aload_n O dX12_lot_81 rfl 0 rfl ?_
        refine g_iload O dX12_lot_82 2 rfl ?_
        obtain ⟨a13, e14, h⟩ := bo_some h
        obtain ⟨v15, e16, h⟩ := bo_some h
        refine g_cV1 O R0 N dX12_lot_84 vl_X12_294 vv_X12_worths e14 [vI w10] rfl rfl rfl ⟨Nat.le_of_ble_eq_true rfl, Nat.le_of_ble_eq_true rfl⟩ (c_X12_worths l0 a13 w10 σ4 v15 e16) ?_
        cases h
        exact g_ireturn O K dX12_lot_87
      · replace h := (if_neg c12).symm.trans h
        refine g_iload O dX12_lot_76 2 rfl ?_
        refine g_goto O dX12_lot_78 rfl ?_
        cases h
        exact g_ireturn O K dX12_lot_87
theorem c_X12_lot (l0 : Launch) (a0 : Nat) (x1 : Int32) (x2 : Int32) (x3 : Int32) (σ : Dt) (r : Int32) (σ' : Dt) (h : f_X12_lot a0 x1 x2 x3 σ = some (r, σ')) : Ctr l0 yX12_lot cX12_lot 6 (some .int) false 5 145 0 0 [vA (some a0), vI x1, vI x2, vI x3] SM σ SM σ' (some (vI r)) := ctr_of (by decide) (Nat.le_of_ble_eq_true rfl) (fun M O F R0 N hn => t_X12_lot O R0 N hn a0 x1 x2 x3 σ (r, σ') h F)
def P_X12_heaps_83 (M : Mx) (a0 : Nat) (x3 : Int32) (σ : Dt) (s : Int32) : Prop := G M 0 0 83 [(0, vA (some a0)), (3, vI x3), (5, vI s)] [] SM σ
def E_X12_heaps_83 (M : Mx) (a0 : Nat) (x3 : Int32) (σ : Dt) : Int32 → Prop := (fun w => G M 0 0 109 [(5, vI w)] [] SM σ)
def f_X12_heaps_L83 (a0 : Nat) (x3 : Int32) (x5 : Int32) (σ : Dt) : Option (Int32 ⊕ Int32) := if (100 : Int32) ≤ x5 then some (.inr x5) else bo (xrc SM 12 (some a0)) fun a2 => bo (f_X12_strengths a2 (-1 : Int32) (-1 : Int32) σ) fun v4 => if x3 ≤ (x5 * v4) then some (.inr x5) else some (.inl (x5 + (1 : Int32)))
theorem t_X12_heaps_L83 {M : Mx} {l0 : Launch} (O : Ok M cX12_heaps yX12_heaps) (R0 : Rm M l0 5 145 0 0) (N : Ma M = false) (hn : Mn M = 7) (a0 : Nat) (x3 : Int32) (x5 : Int32) (σ : Dt) (o : (Int32 ⊕ Int32)) (h : f_X12_heaps_L83 a0 x3 x5 σ = some o) (K : kon (P_X12_heaps_83 M a0 x3 σ) (E_X12_heaps_83 M a0 x3 σ) o) : G M 0 0 83 [(0, vA (some a0)), (3, vI x3), (5, vI x5)] [] SM σ := by
  unfold f_X12_heaps_L83 at h
  refine g_iload O dX12_heaps_83 2 rfl ?_
  refine g_bipush (v := (100 : Int32)) O dX12_heaps_85 rfl ?_
  refine g_icmp_ge O dX12_heaps_87 rfl (fun c1 => ?_) (fun c1 => ?_)
  · replace h := (if_pos c1).symm.trans h
    refine g_sub [2] (lv' := [(5, vI x5)]) rfl ?_
    cases h
    exact K
  · replace h := (if_neg c1).symm.trans h
    refine g_iload O dX12_heaps_90 2 rfl ?_
    refine g_aload_n O dX12_heaps_92 rfl 0 rfl ?_
    refine g_iconst (v := (-1 : Int32)) O dX12_heaps_93 rfl ?_
    refine g_iconst (v := (-1 : Int32)) O dX12_heaps_94 rfl ?_
    obtain ⟨a2, e3, h⟩ := bo_some h
    obtain ⟨v4, e5, h⟩ := bo_some h
    refine g_cV1 O R0 N dX12_heaps_95 vl_X12_247 vv_X12_strengths e3 [vI (-1 : Int32), vI (-1 : Int32)] rfl rfl rfl ⟨Nat.le_of_ble_eq_true rfl, Nat.le_of_ble_eq_true rfl⟩ (c_X12_strengths l0 a2 (-1 : Int32) (-1 : Int32) σ v4 e5) ?_
    refine g_imul O dX12_heaps_98 ?_
    refine g_iload_n O dX12_heaps_99 rfl 1 rfl ?_
    refine g_icmp_ge O dX12_heaps_100 rfl (fun c6 => ?_) (fun c6 => ?_)
    · replace h := (if_pos c6).symm.trans h
      refine g_sub [2] (lv' := [(5, vI x5)]) rfl ?_
      cases h
      exact K
    · replace h := (if_neg c6).symm.trans h
      refine g_iinc (v := (x5 + (1 : Int32))) (lv' := [(5, vI (x5 + (1 : Int32))), (0, vA (some a0)), (3, vI x3)]) O dX12_heaps_103 7 hn (by decide) 2 rfl rfl rfl ?_
      refine g_goto O dX12_heaps_106 rfl ?_
      refine g_sub [1, 2, 0] (lv' := [(0, vA (some a0)), (3, vI x3), (5, vI (x5 + (1 : Int32)))]) rfl ?_
      cases h
      exact K
def P_X12_heaps_23 (M : Mx) (a0 : Nat) (x2 : Int32) (x3 : Int32) (σ : Dt) (s : (Int32 × Int32)) : Prop := G M 0 0 23 [(0, vA (some a0)), (2, vI x2), (3, vI x3), (4, vI s.1), (5, vI s.2)] [] SM σ
def E_X12_heaps_23 (M : Mx) (a0 : Nat) (x2 : Int32) (x3 : Int32) (σ : Dt) : Int32 → Prop := (fun w => G M 0 0 73 [(0, vA (some a0)), (2, vI x2), (3, vI x3), (4, vI w)] [] SM σ)
def f_X12_heaps_65 (a0 : Nat) (x2 : Int32) (x3 : Int32) (x5 : Int32) (k0 : Int32) (σ : Dt) : Option ((Int32 × Int32) ⊕ Int32) := some (.inl (k0, (x5 + (1 : Int32))))
theorem t_X12_heaps_65 {M : Mx} {l0 : Launch} (O : Ok M cX12_heaps yX12_heaps) (R0 : Rm M l0 5 145 0 0) (N : Ma M = false) (hn : Mn M = 7)  (a0 : Nat) (x2 : Int32) (x3 : Int32) (x5 : Int32) (k0 : Int32) (σ : Dt) (o : ((Int32 × Int32) ⊕ Int32)) (h : f_X12_heaps_65 a0 x2 x3 x5 k0 σ = some o) (K : kon (P_X12_heaps_23 M a0 x2 x3 σ) (E_X12_heaps_23 M a0 x2 x3 σ) o) : G M 0 0 65 [(0, vA (some a0)), (2, vI x2), (3, vI x3), (5, vI x5)] [vI k0] SM σ := by
  unfold f_X12_heaps_65 at h
  refine g_istore (lv' := [(4, vI k0), (0, vA (some a0)), (2, vI x2), (3, vI x3), (5, vI x5)]) O dX12_heaps_65 7 hn (by decide) rfl ?_
  refine g_iinc (v := (x5 + (1 : Int32))) (lv' := [(5, vI (x5 + (1 : Int32))), (4, vI k0), (0, vA (some a0)), (2, vI x2), (3, vI x3)]) O dX12_heaps_67 7 hn (by decide) 4 rfl rfl rfl ?_
  refine g_goto O dX12_heaps_70 rfl ?_
  refine g_sub [2, 3, 4, 1, 0] (lv' := [(0, vA (some a0)), (2, vI x2), (3, vI x3), (4, vI k0), (5, vI (x5 + (1 : Int32)))]) rfl ?_
  cases h
  exact K
def f_X12_heaps_63 (a0 : Nat) (x2 : Int32) (x3 : Int32) (x4 : Int32) (x5 : Int32) (σ : Dt) : Option ((Int32 × Int32) ⊕ Int32) := f_X12_heaps_65 a0 x2 x3 x5 x4 σ
theorem t_X12_heaps_63 {M : Mx} {l0 : Launch} (O : Ok M cX12_heaps yX12_heaps) (R0 : Rm M l0 5 145 0 0) (N : Ma M = false) (hn : Mn M = 7)  (a0 : Nat) (x2 : Int32) (x3 : Int32) (x4 : Int32) (x5 : Int32) (σ : Dt) (o : ((Int32 × Int32) ⊕ Int32)) (h : f_X12_heaps_63 a0 x2 x3 x4 x5 σ = some o) (K : kon (P_X12_heaps_23 M a0 x2 x3 σ) (E_X12_heaps_23 M a0 x2 x3 σ) o) : G M 0 0 63 [(0, vA (some a0)), (2, vI x2), (3, vI x3), (4, vI x4), (5, vI x5)] [] SM σ := by
  unfold f_X12_heaps_63 at h
  refine g_iload O dX12_heaps_63 3 rfl ?_
  refine g_sub [0, 1, 2, 4] (lv' := [(0, vA (some a0)), (2, vI x2), (3, vI x3), (5, vI x5)]) rfl ?_
  exact t_X12_heaps_65 O R0 N hn a0 x2 x3 x5 x4 σ o h K
def f_X12_heaps_L23 (a0 : Nat) (x2 : Int32) (x3 : Int32) (x4 : Int32) (x5 : Int32) (σ : Dt) : Option ((Int32 × Int32) ⊕ Int32) := bo (xgi SM 12 13 (some a0) σ) fun v1 => if ((1 : Int32) <<< (v1 &&& 31)) ≤ x5 then some (.inr x4) else bo (xrc SM 12 (some a0)) fun a4 => bo (f_X12_sizesOf a4 x5 σ) fun v6 => if (((2 : Int32) * v6) - x3) < 0 then f_X12_heaps_63 a0 x2 x3 x4 x5 σ else if x4 ≤ (((2 : Int32) * v6) - x3) then f_X12_heaps_63 a0 x2 x3 x4 x5 σ else f_X12_heaps_65 a0 x2 x3 x5 (((2 : Int32) * v6) - x3) σ
theorem t_X12_heaps_L23 {M : Mx} {l0 : Launch} (O : Ok M cX12_heaps yX12_heaps) (R0 : Rm M l0 5 145 0 0) (N : Ma M = false) (hn : Mn M = 7) (a0 : Nat) (x2 : Int32) (x3 : Int32) (x4 : Int32) (x5 : Int32) (σ : Dt) (o : ((Int32 × Int32) ⊕ Int32)) (h : f_X12_heaps_L23 a0 x2 x3 x4 x5 σ = some o) (K : kon (P_X12_heaps_23 M a0 x2 x3 σ) (E_X12_heaps_23 M a0 x2 x3 σ) o) : G M 0 0 23 [(0, vA (some a0)), (2, vI x2), (3, vI x3), (4, vI x4), (5, vI x5)] [] SM σ := by
  unfold f_X12_heaps_L23 at h
  refine g_iload O dX12_heaps_23 4 rfl ?_
  refine g_iconst (v := (1 : Int32)) O dX12_heaps_25 rfl ?_
  refine g_aload_n O dX12_heaps_26 rfl 0 rfl ?_
  obtain ⟨v1, e2, h⟩ := bo_some h
  refine g_getI O dX12_heaps_27 fl_X12_214 rfl e2 ?_
  refine g_ishl O dX12_heaps_30 ?_
  refine g_icmp_ge O dX12_heaps_31 rfl (fun c3 => ?_) (fun c3 => ?_)
  · replace h := (if_pos c3).symm.trans h
    refine g_sub [0, 1, 2, 3] (lv' := [(0, vA (some a0)), (2, vI x2), (3, vI x3), (4, vI x4)]) rfl ?_
    cases h
    exact K
  · replace h := (if_neg c3).symm.trans h
    refine g_iconst (v := (2 : Int32)) O dX12_heaps_34 rfl ?_
    refine g_aload_n O dX12_heaps_35 rfl 0 rfl ?_
    refine g_iload O dX12_heaps_36 4 rfl ?_
    obtain ⟨a4, e5, h⟩ := bo_some h
    obtain ⟨v6, e7, h⟩ := bo_some h
    refine g_cV1 O R0 N dX12_heaps_38 vl_X12_374 vv_X12_sizesOf e5 [vI x5] rfl rfl rfl ⟨Nat.le_of_ble_eq_true rfl, Nat.le_of_ble_eq_true rfl⟩ (c_X12_sizesOf l0 a4 x5 σ v6 e7) ?_
    refine g_imul O dX12_heaps_41 ?_
    refine g_iload_n O dX12_heaps_42 rfl 2 rfl ?_
    refine g_isub O dX12_heaps_43 ?_
    refine g_istore (lv' := [(6, vI (((2 : Int32) * v6) - x3)), (0, vA (some a0)), (2, vI x2), (3, vI x3), (4, vI x4), (5, vI x5)]) O dX12_heaps_44 7 hn (by decide) rfl ?_
    refine g_iload O dX12_heaps_46 0 rfl ?_
    refine g_if_lt O dX12_heaps_48 rfl (fun c8 => ?_) (fun c8 => ?_)
    · replace h := (if_pos c8).symm.trans h
      refine g_sub [1, 2, 3, 4, 5] (lv' := [(0, vA (some a0)), (2, vI x2), (3, vI x3), (4, vI x4), (5, vI x5)]) rfl ?_
      exact t_X12_heaps_63 O R0 N hn a0 x2 x3 x4 x5 σ o h K
    · replace h := (if_neg c8).symm.trans h
      refine g_iload O dX12_heaps_51 0 rfl ?_
      refine g_iload O dX12_heaps_53 4 rfl ?_
      refine g_icmp_ge O dX12_heaps_55 rfl (fun c9 => ?_) (fun c9 => ?_)
      · replace h := (if_pos c9).symm.trans h
        refine g_sub [1, 2, 3, 4, 5] (lv' := [(0, vA (some a0)), (2, vI x2), (3, vI x3), (4, vI x4), (5, vI x5)]) rfl ?_
        exact t_X12_heaps_63 O R0 N hn a0 x2 x3 x4 x5 σ o h K
      · replace h := (if_neg c9).symm.trans h
        refine g_iload O dX12_heaps_58 0 rfl ?_
        refine g_goto O dX12_heaps_60 rfl ?_
        refine g_sub [1, 2, 3, 5] (lv' := [(0, vA (some a0)), (2, vI x2), (3, vI x3), (5, vI x5)]) rfl ?_
        exact t_X12_heaps_65 O R0 N hn a0 x2 x3 x5 (((2 : Int32) * v6) - x3) σ o h K
def f_X12_heaps_109 (x5 : Int32) (σ : Dt) : Option (Int32 × Dt) := if (100 : Int32) ≤ x5 then some ((-1 : Int32), σ) else some (x5, σ)
theorem t_X12_heaps_109 {M : Mx} {l0 : Launch} (O : Ok M cX12_heaps yX12_heaps) (R0 : Rm M l0 5 145 0 0) (N : Ma M = false) (hn : Mn M = 7)  (x5 : Int32) (σ : Dt) (o : (Int32 × Dt)) (h : f_X12_heaps_109 x5 σ = some o) (K : Fin' M (some .int) 0 0 SM o.2 (some (vI o.1))) : G M 0 0 109 [(5, vI x5)] [] SM σ := by
  unfold f_X12_heaps_109 at h
  refine g_iload O dX12_heaps_109 0 rfl ?_
  refine g_bipush (v := (100 : Int32)) O dX12_heaps_111 rfl ?_
  refine g_icmp_ge O dX12_heaps_113 rfl (fun c1 => ?_) (fun c1 => ?_)
  · replace h := (if_pos c1).symm.trans h
    refine g_iconst (v := (-1 : Int32)) O dX12_heaps_121 rfl ?_
    cases h
    exact g_ireturn O K dX12_heaps_122
  · replace h := (if_neg c1).symm.trans h
    refine g_iload O dX12_heaps_116 0 rfl ?_
    refine g_goto O dX12_heaps_118 rfl ?_
    cases h
    exact g_ireturn O K dX12_heaps_122
def f_X12_heaps (a0 : Nat) (x1 : Int32) (x2 : Int32) (σ : Dt) : Option (Int32 × Dt) := bo (xrc SM 12 (some a0)) fun a1 => bd (f_X12_isValley a1 x1 σ) fun v3 σ4 => if v3 = 0 then some ((-2 : Int32), σ4) else bo (xrc SM 12 (some a0)) fun a7 => bo (f_X12_sizesOf a7 (-1 : Int32) σ4) fun v9 => bo (iter FU (fun s => f_X12_heaps_L23 a0 x2 v9 s.1 s.2 σ4) (v9, (0 : Int32))) fun w11 => if x2 = 0 then bo (iter FU (fun s => f_X12_heaps_L83 a0 v9 s σ4) (0 : Int32)) fun w14 => f_X12_heaps_109 w14 σ4 else some (w11, σ4)
theorem t_X12_heaps {M : Mx} {l0 : Launch} (O : Ok M cX12_heaps yX12_heaps) (R0 : Rm M l0 5 145 0 0) (N : Ma M = false) (hn : Mn M = 7) (a0 : Nat) (x1 : Int32) (x2 : Int32) (σ : Dt) (o : (Int32 × Dt)) (h : f_X12_heaps a0 x1 x2 σ = some o) (K : Fin' M (some .int) 0 0 SM o.2 (some (vI o.1))) : G M 0 0 0 [(0, vA (some a0)), (1, vI x1), (2, vI x2)] [] SM σ := by
  unfold f_X12_heaps at h
  refine g_aload_n O dX12_heaps_0 rfl 0 rfl ?_
  refine g_iload_n O dX12_heaps_1 rfl 1 rfl ?_
  obtain ⟨a1, e2, h⟩ := bo_some h
  obtain ⟨v3, σ4, e5, h⟩ := bd_some h
  refine g_cV1 O R0 N dX12_heaps_2 vl_X12_220 vv_X12_isValley e2 [vI x1] rfl rfl rfl ⟨Nat.le_of_ble_eq_true rfl, Nat.le_of_ble_eq_true rfl⟩ (c_X12_isValley l0 a1 x1 σ v3 σ4 e5) ?_
  refine g_if_ne O dX12_heaps_5 rfl (fun c6 => ?_) (fun c6 => ?_)
  · replace h := (if_pos c6).symm.trans h
    refine g_bipush (v := (-2 : Int32)) O dX12_heaps_8 rfl ?_
    cases h
    exact g_ireturn O K dX12_heaps_10
  · replace h := (if_neg c6).symm.trans h
    refine g_aload_n O dX12_heaps_11 rfl 0 rfl ?_
    refine g_iconst (v := (-1 : Int32)) O dX12_heaps_12 rfl ?_
    obtain ⟨a7, e8, h⟩ := bo_some h
    obtain ⟨v9, e10, h⟩ := bo_some h
    refine g_cV1 O R0 N dX12_heaps_13 vl_X12_374 vv_X12_sizesOf e8 [vI (-1 : Int32)] rfl rfl rfl ⟨Nat.le_of_ble_eq_true rfl, Nat.le_of_ble_eq_true rfl⟩ (c_X12_sizesOf l0 a7 (-1 : Int32) σ4 v9 e10) ?_
    refine g_istore_n (lv' := [(3, vI v9), (0, vA (some a0)), (1, vI x1), (2, vI x2)]) O dX12_heaps_16 rfl 7 hn (by decide) rfl ?_
    refine g_iload_n O dX12_heaps_17 rfl 0 rfl ?_
    refine g_istore (lv' := [(4, vI v9), (3, vI v9), (0, vA (some a0)), (1, vI x1), (2, vI x2)]) O dX12_heaps_18 7 hn (by decide) rfl ?_
    refine g_iconst (v := (0 : Int32)) O dX12_heaps_20 rfl ?_
    refine g_istore (lv' := [(5, vI (0 : Int32)), (4, vI v9), (3, vI v9), (0, vA (some a0)), (1, vI x1), (2, vI x2)]) O dX12_heaps_21 7 hn (by decide) rfl ?_
    refine g_sub [3, 5, 2, 1, 0] (lv' := [(0, vA (some a0)), (2, vI x2), (3, vI v9), (4, vI v9), (5, vI (0 : Int32))]) rfl ?_
    obtain ⟨w11, e12, h⟩ := bo_some h
    refine iter_G (P := P_X12_heaps_23 M a0 x2 v9 σ4) (E := E_X12_heaps_23 M a0 x2 v9 σ4) (fun s o hb hk => t_X12_heaps_L23 O R0 N hn a0 x2 v9 s.1 s.2 σ4 o hb hk) FU (v9, (0 : Int32)) w11 e12 ?_
    show G M 0 0 73 [(0, vA (some a0)), (2, vI x2), (3, vI v9), (4, vI w11)] [] SM σ4
    refine g_iload_n O dX12_heaps_73 rfl 1 rfl ?_
    refine g_if_eq O dX12_heaps_74 rfl (fun c13 => ?_) (fun c13 => ?_)
    · replace h := (if_pos c13).symm.trans h
      refine g_iconst (v := (0 : Int32)) O dX12_heaps_80 rfl ?_
      refine g_istore (lv' := [(5, vI (0 : Int32)), (0, vA (some a0)), (2, vI x2), (3, vI v9), (4, vI w11)]) O dX12_heaps_81 7 hn (by decide) rfl ?_
      refine g_sub [1, 3, 0] (lv' := [(0, vA (some a0)), (3, vI v9), (5, vI (0 : Int32))]) rfl ?_
      obtain ⟨w14, e15, h⟩ := bo_some h
      refine iter_G (P := P_X12_heaps_83 M a0 v9 σ4) (E := E_X12_heaps_83 M a0 v9 σ4) (fun s o hb hk => t_X12_heaps_L83 O R0 N hn a0 v9 s σ4 o hb hk) FU (0 : Int32) w14 e15 ?_
      show G M 0 0 109 [(5, vI w14)] [] SM σ4
      exact t_X12_heaps_109 O R0 N hn w14 σ4 o h K
    · replace h := (if_neg c13).symm.trans h
      refine g_iload O dX12_heaps_77 3 rfl ?_
      cases h
      exact g_ireturn O K dX12_heaps_79
theorem c_X12_heaps (l0 : Launch) (a0 : Nat) (x1 : Int32) (x2 : Int32) (σ : Dt) (r : Int32) (σ' : Dt) (h : f_X12_heaps a0 x1 x2 σ = some (r, σ')) : Ctr l0 yX12_heaps cX12_heaps 7 (some .int) false 5 145 0 0 [vA (some a0), vI x1, vI x2] SM σ SM σ' (some (vI r)) := ctr_of (by decide) (Nat.le_of_ble_eq_true rfl) (fun M O F R0 N hn => t_X12_heaps O R0 N hn a0 x1 x2 σ (r, σ') h F)
def P_X12_loss_46 (M : Mx) (a0 : Nat) (x2 : Int32) (x3 : Int32) (x5 : Int32) (σ : Dt) (s : (Int32 × Int32)) : Prop := G M 0 0 46 [(0, vA (some a0)), (2, vI x2), (3, vI x3), (4, vI s.1), (5, vI x5), (6, vI s.2)] [] SM σ
def E_X12_loss_46 (M : Mx) (a0 : Nat) (x2 : Int32) (x3 : Int32) (x5 : Int32) (σ : Dt) : Int32 → Prop := (fun w => G M 0 0 105 [(0, vA (some a0)), (2, vI x2), (3, vI x3), (4, vI w), (5, vI x5)] [] SM σ)
def f_X12_loss_96 (a0 : Nat) (x2 : Int32) (x3 : Int32) (x5 : Int32) (x6 : Int32) (k0 : Int32) (k1 : Int32) (σ : Dt) : Option ((Int32 × Int32) ⊕ Int32) := some (.inl ((k0 + k1), (x6 + (1 : Int32))))
theorem t_X12_loss_96 {M : Mx} {l0 : Launch} (O : Ok M cX12_loss yX12_loss) (R0 : Rm M l0 5 148 0 0) (N : Ma M = false) (hn : Mn M = 7)  (a0 : Nat) (x2 : Int32) (x3 : Int32) (x5 : Int32) (x6 : Int32) (k0 : Int32) (k1 : Int32) (σ : Dt) (o : ((Int32 × Int32) ⊕ Int32)) (h : f_X12_loss_96 a0 x2 x3 x5 x6 k0 k1 σ = some o) (K : kon (P_X12_loss_46 M a0 x2 x3 x5 σ) (E_X12_loss_46 M a0 x2 x3 x5 σ) o) : G M 0 0 96 [(0, vA (some a0)), (2, vI x2), (3, vI x3), (5, vI x5), (6, vI x6)] [vI k1, vI k0] SM σ := by
  unfold f_X12_loss_96 at h
  refine g_iadd O dX12_loss_96 ?_
  refine g_istore (lv' := [(4, vI (k0 + k1)), (0, vA (some a0)), (2, vI x2), (3, vI x3), (5, vI x5), (6, vI x6)]) O dX12_loss_97 7 hn (by decide) rfl ?_
  refine g_iinc (v := (x6 + (1 : Int32))) (lv' := [(6, vI (x6 + (1 : Int32))), (4, vI (k0 + k1)), (0, vA (some a0)), (2, vI x2), (3, vI x3), (5, vI x5)]) O dX12_loss_99 7 hn (by decide) 5 rfl rfl rfl ?_
  refine g_goto O dX12_loss_102 rfl ?_
  refine g_sub [2, 3, 4, 1, 5, 0] (lv' := [(0, vA (some a0)), (2, vI x2), (3, vI x3), (4, vI (k0 + k1)), (5, vI x5), (6, vI (x6 + (1 : Int32)))]) rfl ?_
  cases h
  exact K
def f_X12_loss_95 (a0 : Nat) (x2 : Int32) (x3 : Int32) (x5 : Int32) (x6 : Int32) (k0 : Int32) (σ : Dt) : Option ((Int32 × Int32) ⊕ Int32) := f_X12_loss_96 a0 x2 x3 x5 x6 k0 (0 : Int32) σ
theorem t_X12_loss_95 {M : Mx} {l0 : Launch} (O : Ok M cX12_loss yX12_loss) (R0 : Rm M l0 5 148 0 0) (N : Ma M = false) (hn : Mn M = 7)  (a0 : Nat) (x2 : Int32) (x3 : Int32) (x5 : Int32) (x6 : Int32) (k0 : Int32) (σ : Dt) (o : ((Int32 × Int32) ⊕ Int32)) (h : f_X12_loss_95 a0 x2 x3 x5 x6 k0 σ = some o) (K : kon (P_X12_loss_46 M a0 x2 x3 x5 σ) (E_X12_loss_46 M a0 x2 x3 x5 σ) o) : G M 0 0 95 [(0, vA (some a0)), (2, vI x2), (3, vI x3), (5, vI x5), (6, vI x6)] [vI k0] SM σ := by
  unfold f_X12_loss_95 at h
  refine g_iconst (v := (0 : Int32)) O dX12_loss_95 rfl ?_
  exact t_X12_loss_96 O R0 N hn a0 x2 x3 x5 x6 k0 (0 : Int32) σ o h K
def f_X12_loss_L46 (a0 : Nat) (x2 : Int32) (x3 : Int32) (x5 : Int32) (x4 : Int32) (x6 : Int32) (σ : Dt) : Option ((Int32 × Int32) ⊕ Int32) := bo (xgi SM 12 13 (some a0) σ) fun v1 => if v1 ≤ x6 then some (.inr x4) else bo (xrc SM 12 (some a0)) fun a4 => bo (f_X12_keeps a4 x5 x6 x3 σ) fun v6 => if v6 = 0 then f_X12_loss_95 a0 x2 x3 x5 x6 x4 σ else bo (xrc SM 12 (some a0)) fun a9 => bo (f_X12_elderOf a9 x5 σ) fun v11 => bo (xrc SM 12 (some a0)) fun a13 => bo (f_X12_strengths a13 v11 x2 σ) fun v15 => bo (xrc SM 12 (some a0)) fun a17 => bo (f_X12_muchOf a17 x6 σ) fun v19 => if v19 ≤ (x3 * v15) then f_X12_loss_95 a0 x2 x3 x5 x6 x4 σ else f_X12_loss_96 a0 x2 x3 x5 x6 x4 (1 : Int32) σ
theorem t_X12_loss_L46 {M : Mx} {l0 : Launch} (O : Ok M cX12_loss yX12_loss) (R0 : Rm M l0 5 148 0 0) (N : Ma M = false) (hn : Mn M = 7) (a0 : Nat) (x2 : Int32) (x3 : Int32) (x5 : Int32) (x4 : Int32) (x6 : Int32) (σ : Dt) (o : ((Int32 × Int32) ⊕ Int32)) (h : f_X12_loss_L46 a0 x2 x3 x5 x4 x6 σ = some o) (K : kon (P_X12_loss_46 M a0 x2 x3 x5 σ) (E_X12_loss_46 M a0 x2 x3 x5 σ) o) : G M 0 0 46 [(0, vA (some a0)), (2, vI x2), (3, vI x3), (4, vI x4), (5, vI x5), (6, vI x6)] [] SM σ := by
  unfold f_X12_loss_L46 at h
  refine g_iload O dX12_loss_46 5 rfl ?_
  refine g_aload_n O dX12_loss_48 rfl 0 rfl ?_
  obtain ⟨v1, e2, h⟩ := bo_some h
  refine g_getI O dX12_loss_49 fl_X12_214 rfl e2 ?_
  refine g_icmp_ge O dX12_loss_52 rfl (fun c3 => ?_) (fun c3 => ?_)
  · replace h := (if_pos c3).symm.trans h
    refine g_sub [0, 1, 2, 3, 4] (lv' := [(0, vA (some a0)), (2, vI x2), (3, vI x3), (4, vI x4), (5, vI x5)]) rfl ?_
    cases h
    exact K
  · replace h := (if_neg c3).symm.trans h
    refine g_iload O dX12_loss_55 3 rfl ?_
    refine g_aload_n O dX12_loss_57 rfl 0 rfl ?_
    refine g_iload O dX12_loss_58 4 rfl ?_
    refine g_iload O dX12_loss_60 5 rfl ?_
    refine g_iload_n O dX12_loss_62 rfl 2 rfl ?_
    obtain ⟨a4, e5, h⟩ := bo_some h
    obtain ⟨v6, e7, h⟩ := bo_some h
    refine g_cV1 O R0 N dX12_loss_63 vl_X12_254 vv_X12_keeps e5 [vI x5, vI x6, vI x3] rfl rfl rfl ⟨Nat.le_of_ble_eq_true rfl, Nat.le_of_ble_eq_true rfl⟩ (c_X12_keeps l0 a4 x5 x6 x3 σ v6 e7) ?_
    refine g_if_eq O dX12_loss_66 rfl (fun c8 => ?_) (fun c8 => ?_)
    · replace h := (if_pos c8).symm.trans h
      refine g_sub [0, 1, 2, 4, 5] (lv' := [(0, vA (some a0)), (2, vI x2), (3, vI x3), (5, vI x5), (6, vI x6)]) rfl ?_
      exact t_X12_loss_95 O R0 N hn a0 x2 x3 x5 x6 x4 σ o h K
    · replace h := (if_neg c8).symm.trans h
      refine g_iload_n O dX12_loss_69 rfl 2 rfl ?_
      refine g_aload_n O dX12_loss_70 rfl 0 rfl ?_
      refine g_aload_n O dX12_loss_71 rfl 0 rfl ?_
      refine g_iload O dX12_loss_72 4 rfl ?_
      obtain ⟨a9, e10, h⟩ := bo_some h
      obtain ⟨v11, e12, h⟩ := bo_some h
      refine g_cV1 O R0 N dX12_loss_74 vl_X12_244 vv_X12_elderOf e10 [vI x5] rfl rfl rfl ⟨Nat.le_of_ble_eq_true rfl, Nat.le_of_ble_eq_true rfl⟩ (c_X12_elderOf l0 a9 x5 σ v11 e12) ?_
      refine g_iload_n O dX12_loss_77 rfl 1 rfl ?_
      obtain ⟨a13, e14, h⟩ := bo_some h
      obtain ⟨v15, e16, h⟩ := bo_some h
      refine g_cV1 O R0 N dX12_loss_78 vl_X12_247 vv_X12_strengths e14 [vI v11, vI x2] rfl rfl rfl ⟨Nat.le_of_ble_eq_true rfl, Nat.le_of_ble_eq_true rfl⟩ (c_X12_strengths l0 a13 v11 x2 σ v15 e16) ?_
      refine g_imul O dX12_loss_81 ?_
      refine g_aload_n O dX12_loss_82 rfl 0 rfl ?_
      refine g_iload O dX12_loss_83 5 rfl ?_
      obtain ⟨a17, e18, h⟩ := bo_some h
      obtain ⟨v19, e20, h⟩ := bo_some h
      refine g_cV1 O R0 N dX12_loss_85 vl_X12_229 vv_X12_muchOf e18 [vI x6] rfl rfl rfl ⟨Nat.le_of_ble_eq_true rfl, Nat.le_of_ble_eq_true rfl⟩ (c_X12_muchOf l0 a17 x6 σ v19 e20) ?_
      refine g_icmp_ge O dX12_loss_88 rfl (fun c21 => ?_) (fun c21 => ?_)
      · replace h := (if_pos c21).symm.trans h
        refine g_sub [0, 1, 2, 4, 5] (lv' := [(0, vA (some a0)), (2, vI x2), (3, vI x3), (5, vI x5), (6, vI x6)]) rfl ?_
        exact t_X12_loss_95 O R0 N hn a0 x2 x3 x5 x6 x4 σ o h K
      · replace h := (if_neg c21).symm.trans h
        refine g_iconst (v := (1 : Int32)) O dX12_loss_91 rfl ?_
        refine g_goto O dX12_loss_92 rfl ?_
        refine g_sub [0, 1, 2, 4, 5] (lv' := [(0, vA (some a0)), (2, vI x2), (3, vI x3), (5, vI x5), (6, vI x6)]) rfl ?_
        exact t_X12_loss_96 O R0 N hn a0 x2 x3 x5 x6 x4 (1 : Int32) σ o h K
def P_X12_loss_34 (M : Mx) (a0 : Nat) (x2 : Int32) (x3 : Int32) (σ : Dt) (s : (Int32 × Int32)) : Prop := G M 0 0 34 [(0, vA (some a0)), (2, vI x2), (3, vI x3), (4, vI s.1), (5, vI s.2)] [] SM σ
def E_X12_loss_34 (M : Mx) (a0 : Nat) (x2 : Int32) (x3 : Int32) (σ : Dt) : Int32 → Prop := (fun w => G M 0 0 111 [(4, vI w)] [] SM σ)
def f_X12_loss_L34 (a0 : Nat) (x2 : Int32) (x3 : Int32) (x4 : Int32) (x5 : Int32) (σ : Dt) : Option ((Int32 × Int32) ⊕ Int32) := bo (xgi SM 12 12 (some a0) σ) fun v1 => if v1 ≤ x5 then some (.inr x4) else bo (iter FU (fun s => f_X12_loss_L46 a0 x2 x3 x5 s.1 s.2 σ) (x4, (0 : Int32))) fun w4 => some (.inl (w4, (x5 + (1 : Int32))))
theorem t_X12_loss_L34 {M : Mx} {l0 : Launch} (O : Ok M cX12_loss yX12_loss) (R0 : Rm M l0 5 148 0 0) (N : Ma M = false) (hn : Mn M = 7) (a0 : Nat) (x2 : Int32) (x3 : Int32) (x4 : Int32) (x5 : Int32) (σ : Dt) (o : ((Int32 × Int32) ⊕ Int32)) (h : f_X12_loss_L34 a0 x2 x3 x4 x5 σ = some o) (K : kon (P_X12_loss_34 M a0 x2 x3 σ) (E_X12_loss_34 M a0 x2 x3 σ) o) : G M 0 0 34 [(0, vA (some a0)), (2, vI x2), (3, vI x3), (4, vI x4), (5, vI x5)] [] SM σ := by
  unfold f_X12_loss_L34 at h
  refine g_iload O dX12_loss_34 4 rfl ?_
  refine g_aload_n O dX12_loss_36 rfl 0 rfl ?_
  obtain ⟨v1, e2, h⟩ := bo_some h
  refine g_getI O dX12_loss_37 fl_X12_211 rfl e2 ?_
  refine g_icmp_ge O dX12_loss_40 rfl (fun c3 => ?_) (fun c3 => ?_)
  · replace h := (if_pos c3).symm.trans h
    refine g_sub [3] (lv' := [(4, vI x4)]) rfl ?_
    cases h
    exact K
  · replace h := (if_neg c3).symm.trans h
    refine g_iconst (v := (0 : Int32)) O dX12_loss_43 rfl ?_
    refine g_istore (lv' := [(6, vI (0 : Int32)), (0, vA (some a0)), (2, vI x2), (3, vI x3), (4, vI x4), (5, vI x5)]) O dX12_loss_44 7 hn (by decide) rfl ?_
    refine g_sub [1, 2, 3, 4, 5, 0] (lv' := [(0, vA (some a0)), (2, vI x2), (3, vI x3), (4, vI x4), (5, vI x5), (6, vI (0 : Int32))]) rfl ?_
    obtain ⟨w4, e5, h⟩ := bo_some h
    refine iter_G (P := P_X12_loss_46 M a0 x2 x3 x5 σ) (E := E_X12_loss_46 M a0 x2 x3 x5 σ) (fun s o hb hk => t_X12_loss_L46 O R0 N hn a0 x2 x3 x5 s.1 s.2 σ o hb hk) FU (x4, (0 : Int32)) w4 e5 ?_
    show G M 0 0 105 [(0, vA (some a0)), (2, vI x2), (3, vI x3), (4, vI w4), (5, vI x5)] [] SM σ
    refine g_iinc (v := (x5 + (1 : Int32))) (lv' := [(5, vI (x5 + (1 : Int32))), (0, vA (some a0)), (2, vI x2), (3, vI x3), (4, vI w4)]) O dX12_loss_105 7 hn (by decide) 4 rfl rfl rfl ?_
    refine g_goto O dX12_loss_108 rfl ?_
    refine g_sub [1, 2, 3, 4, 0] (lv' := [(0, vA (some a0)), (2, vI x2), (3, vI x3), (4, vI w4), (5, vI (x5 + (1 : Int32)))]) rfl ?_
    cases h
    exact K
def f_X12_loss (a0 : Nat) (x1 : Int32) (x2 : Int32) (x3 : Int32) (σ : Dt) : Option (Int32 × Dt) := bo (xrc SM 12 (some a0)) fun a1 => bd (f_X12_isValley a1 x1 σ) fun v3 σ4 => if v3 = 0 then some ((-1 : Int32), σ4) else bo (xrc SM 12 (some a0)) fun a7 => bo (f_X12_isFolk a7 x2 σ4) fun v9 => if v9 = 0 then some ((-1 : Int32), σ4) else bo (f_X12_isIn x3 (1 : Int32) (9 : Int32) σ4) fun v12 => if v12 = 0 then some ((-1 : Int32), σ4) else bo (iter FU (fun s => f_X12_loss_L34 a0 x2 x3 s.1 s.2 σ4) ((0 : Int32), (0 : Int32))) fun w15 => some (w15, σ4)
theorem t_X12_loss {M : Mx} {l0 : Launch} (O : Ok M cX12_loss yX12_loss) (R0 : Rm M l0 5 148 0 0) (N : Ma M = false) (hn : Mn M = 7) (a0 : Nat) (x1 : Int32) (x2 : Int32) (x3 : Int32) (σ : Dt) (o : (Int32 × Dt)) (h : f_X12_loss a0 x1 x2 x3 σ = some o) (K : Fin' M (some .int) 0 0 SM o.2 (some (vI o.1))) : G M 0 0 0 [(0, vA (some a0)), (1, vI x1), (2, vI x2), (3, vI x3)] [] SM σ := by
  unfold f_X12_loss at h
  refine g_aload_n O dX12_loss_0 rfl 0 rfl ?_
  refine g_iload_n O dX12_loss_1 rfl 1 rfl ?_
  obtain ⟨a1, e2, h⟩ := bo_some h
  obtain ⟨v3, σ4, e5, h⟩ := bd_some h
  refine g_cV1 O R0 N dX12_loss_2 vl_X12_220 vv_X12_isValley e2 [vI x1] rfl rfl rfl ⟨Nat.le_of_ble_eq_true rfl, Nat.le_of_ble_eq_true rfl⟩ (c_X12_isValley l0 a1 x1 σ v3 σ4 e5) ?_
  refine g_if_eq O dX12_loss_5 rfl (fun c6 => ?_) (fun c6 => ?_)
  · replace h := (if_pos c6).symm.trans h
    refine g_iconst (v := (-1 : Int32)) O dX12_loss_26 rfl ?_
    cases h
    exact g_ireturn O K dX12_loss_27
  · replace h := (if_neg c6).symm.trans h
    refine g_aload_n O dX12_loss_8 rfl 0 rfl ?_
    refine g_iload_n O dX12_loss_9 rfl 2 rfl ?_
    obtain ⟨a7, e8, h⟩ := bo_some h
    obtain ⟨v9, e10, h⟩ := bo_some h
    refine g_cV1 O R0 N dX12_loss_10 vl_X12_223 vv_X12_isFolk e8 [vI x2] rfl rfl rfl ⟨Nat.le_of_ble_eq_true rfl, Nat.le_of_ble_eq_true rfl⟩ (c_X12_isFolk l0 a7 x2 σ4 v9 e10) ?_
    refine g_if_eq O dX12_loss_13 rfl (fun c11 => ?_) (fun c11 => ?_)
    · replace h := (if_pos c11).symm.trans h
      refine g_iconst (v := (-1 : Int32)) O dX12_loss_26 rfl ?_
      cases h
      exact g_ireturn O K dX12_loss_27
    · replace h := (if_neg c11).symm.trans h
      refine g_iload_n O dX12_loss_16 rfl 3 rfl ?_
      refine g_iconst (v := (1 : Int32)) O dX12_loss_17 rfl ?_
      refine g_bipush (v := (9 : Int32)) O dX12_loss_18 rfl ?_
      obtain ⟨v12, e13, h⟩ := bo_some h
      refine g_cS1 O R0 N dX12_loss_20 vl_X12_146 w1616 [vI x3, vI (1 : Int32), vI (9 : Int32)] rfl rfl rfl ⟨Nat.le_of_ble_eq_true rfl, Nat.le_of_ble_eq_true rfl⟩ (c_X12_isIn l0 x3 (1 : Int32) (9 : Int32) σ4 v12 e13) ?_
      refine g_if_ne O dX12_loss_23 rfl (fun c14 => ?_) (fun c14 => ?_)
      · replace h := (if_pos c14).symm.trans h
        refine g_iconst (v := (-1 : Int32)) O dX12_loss_26 rfl ?_
        cases h
        exact g_ireturn O K dX12_loss_27
      · replace h := (if_neg c14).symm.trans h
        refine g_iconst (v := (0 : Int32)) O dX12_loss_28 rfl ?_
        refine g_istore (lv' := [(4, vI (0 : Int32)), (0, vA (some a0)), (1, vI x1), (2, vI x2), (3, vI x3)]) O dX12_loss_29 7 hn (by decide) rfl ?_
        refine g_iconst (v := (0 : Int32)) O dX12_loss_31 rfl ?_
        refine g_istore (lv' := [(5, vI (0 : Int32)), (4, vI (0 : Int32)), (0, vA (some a0)), (1, vI x1), (2, vI x2), (3, vI x3)]) O dX12_loss_32 7 hn (by decide) rfl ?_
        refine g_sub [2, 4, 5, 1, 0] (lv' := [(0, vA (some a0)), (2, vI x2), (3, vI x3), (4, vI (0 : Int32)), (5, vI (0 : Int32))]) rfl ?_
        obtain ⟨w15, e16, h⟩ := bo_some h
        refine iter_G (P := P_X12_loss_34 M a0 x2 x3 σ4) (E := E_X12_loss_34 M a0 x2 x3 σ4) (fun s o hb hk => t_X12_loss_L34 O R0 N hn a0 x2 x3 s.1 s.2 σ4 o hb hk) FU ((0 : Int32), (0 : Int32)) w15 e16 ?_
        show G M 0 0 111 [(4, vI w15)] [] SM σ4
        refine g_iload O dX12_loss_111 0 rfl ?_
        cases h
        exact g_ireturn O K dX12_loss_113
theorem c_X12_loss (l0 : Launch) (a0 : Nat) (x1 : Int32) (x2 : Int32) (x3 : Int32) (σ : Dt) (r : Int32) (σ' : Dt) (h : f_X12_loss a0 x1 x2 x3 σ = some (r, σ')) : Ctr l0 yX12_loss cX12_loss 7 (some .int) false 5 148 0 0 [vA (some a0), vI x1, vI x2, vI x3] SM σ SM σ' (some (vI r)) := ctr_of (by decide) (Nat.le_of_ble_eq_true rfl) (fun M O F R0 N hn => t_X12_loss O R0 N hn a0 x1 x2 x3 σ (r, σ') h F)
def f_X12_isLife (a0 : Nat) (x1 : Int32) (σ : Dt) : Option (Int32 × Dt) := bo (xrc SM 12 (some a0)) fun a1 => bo (f_X12_isOf a1 (1 : Int32) x1 σ) fun v3 => if v3 = 0 then some ((0 : Int32), σ) else bo (f_X12_placeOf (1 : Int32) x1 σ) fun v6 => bo (xpi SM 12 26 (some a0) v6 σ) fun σ8 => some ((1 : Int32), σ8)
theorem t_X12_isLife {M : Mx} {l0 : Launch} (O : Ok M cX12_isLife yX12_isLife) (R0 : Rm M l0 4 124 0 0) (N : Ma M = false) (hn : Mn M = 2) (a0 : Nat) (x1 : Int32) (σ : Dt) (o : (Int32 × Dt)) (h : f_X12_isLife a0 x1 σ = some o) (K : Fin' M (some .boolean) 0 0 SM o.2 (some (vI o.1))) : G M 0 0 0 [(0, vA (some a0)), (1, vI x1)] [] SM σ := by
  unfold f_X12_isLife at h
  refine g_aload_n O dX12_isLife_0 rfl 0 rfl ?_
  refine g_iconst (v := (1 : Int32)) O dX12_isLife_1 rfl ?_
  refine g_iload_n O dX12_isLife_2 rfl 1 rfl ?_
  obtain ⟨a1, e2, h⟩ := bo_some h
  obtain ⟨v3, e4, h⟩ := bo_some h
  refine g_cV1 O R0 N dX12_isLife_3 vl_X12_186 vv_X12_isOf e2 [vI (1 : Int32), vI x1] rfl rfl rfl ⟨Nat.le_of_ble_eq_true rfl, Nat.le_of_ble_eq_true rfl⟩ (c_X12_isOf l0 a1 (1 : Int32) x1 σ v3 e4) ?_
  refine g_if_ne O dX12_isLife_6 rfl (fun c5 => ?_) (fun c5 => ?_)
  · replace h := (if_pos c5).symm.trans h
    refine g_iconst (v := (0 : Int32)) O dX12_isLife_9 rfl ?_
    cases h
    exact g_zreturn O (by decide) K dX12_isLife_10
  · replace h := (if_neg c5).symm.trans h
    refine g_aload_n O dX12_isLife_11 rfl 0 rfl ?_
    refine g_iconst (v := (1 : Int32)) O dX12_isLife_12 rfl ?_
    refine g_iload_n O dX12_isLife_13 rfl 1 rfl ?_
    obtain ⟨v6, e7, h⟩ := bo_some h
    refine g_cS1 O R0 N dX12_isLife_14 vl_X12_205 w1707 [vI (1 : Int32), vI x1] rfl rfl rfl ⟨Nat.le_of_ble_eq_true rfl, Nat.le_of_ble_eq_true rfl⟩ (c_X12_placeOf l0 (1 : Int32) x1 σ v6 e7) ?_
    obtain ⟨σ8, e9, h⟩ := bo_some h
    refine g_putI O dX12_isLife_17 fl_X12_377 (Or.inl rfl) rfl e9 ?_
    refine g_iconst (v := (1 : Int32)) O dX12_isLife_20 rfl ?_
    cases h
    exact g_zreturn O (by decide) K dX12_isLife_21
theorem c_X12_isLife (l0 : Launch) (a0 : Nat) (x1 : Int32) (σ : Dt) (r : Int32) (σ' : Dt) (h : f_X12_isLife a0 x1 σ = some (r, σ')) : Ctr l0 yX12_isLife cX12_isLife 2 (some .boolean) false 4 124 0 0 [vA (some a0), vI x1] SM σ SM σ' (some (vI r)) := ctr_of (by decide) (Nat.le_of_ble_eq_true rfl) (fun M O F R0 N hn => t_X12_isLife O R0 N hn a0 x1 σ (r, σ') h F)
def f_X12_deed_83  (σ : Dt) : Option (Int32 × Dt) := some ((-2 : Int32), σ)
theorem t_X12_deed_83 {M : Mx} {l0 : Launch} (O : Ok M cX12_deed yX12_deed) (R0 : Rm M l0 5 145 0 0) (N : Ma M = false) (hn : Mn M = 4)   (σ : Dt) (o : (Int32 × Dt)) (h : f_X12_deed_83 σ = some o) (K : Fin' M (some .int) 0 0 SM o.2 (some (vI o.1))) : G M 0 0 83 [] [] SM σ := by
  unfold f_X12_deed_83 at h
  refine g_bipush (v := (-2 : Int32)) O dX12_deed_83 rfl ?_
  cases h
  exact g_ireturn O K dX12_deed_85
def f_X12_deed (a0 : Nat) (x1 : Int32) (x2 : Int32) (x3 : Int32) (σ : Dt) : Option (Int32 × Dt) := bo (xrc SM 12 (some a0)) fun a1 => bd (f_X12_isLife a1 x1 σ) fun v3 σ4 => if v3 = 0 then some ((-2 : Int32), σ4) else if x2 = (-1 : Int32) then if x3 = 0 then bo (xgr SM 12 0 (some a0) σ4) fun v9 => bo (xgi SM 12 26 (some a0) σ4) fun v11 => bo (xai SM v9 v11 σ4) fun v13 => some (v13, σ4) else some ((-2 : Int32), σ4) else bo (xgr SM 12 0 (some a0) σ4) fun v15 => bo (xgi SM 12 26 (some a0) σ4) fun v17 => bo (xai SM v15 v17 σ4) fun v19 => bo (f_X12_isIn x2 (0 : Int32) (v19 - (1 : Int32)) σ4) fun v21 => if v21 = 0 then f_X12_deed_83 σ4 else bo (f_X12_isIn x3 (0 : Int32) (3 : Int32) σ4) fun v24 => if v24 = 0 then f_X12_deed_83 σ4 else bo (xgr SM 12 0 (some a0) σ4) fun v27 => bo (xgi SM 12 26 (some a0) σ4) fun v29 => bo (xai SM v27 (((v29 + (1 : Int32)) + ((4 : Int32) * x2)) + x3) σ4) fun v31 => some (v31, σ4)
theorem t_X12_deed {M : Mx} {l0 : Launch} (O : Ok M cX12_deed yX12_deed) (R0 : Rm M l0 5 145 0 0) (N : Ma M = false) (hn : Mn M = 4) (a0 : Nat) (x1 : Int32) (x2 : Int32) (x3 : Int32) (σ : Dt) (o : (Int32 × Dt)) (h : f_X12_deed a0 x1 x2 x3 σ = some o) (K : Fin' M (some .int) 0 0 SM o.2 (some (vI o.1))) : G M 0 0 0 [(0, vA (some a0)), (1, vI x1), (2, vI x2), (3, vI x3)] [] SM σ := by
  unfold f_X12_deed at h
  refine g_aload_n O dX12_deed_0 rfl 0 rfl ?_
  refine g_iload_n O dX12_deed_1 rfl 1 rfl ?_
  obtain ⟨a1, e2, h⟩ := bo_some h
  obtain ⟨v3, σ4, e5, h⟩ := bd_some h
  refine g_cV1 O R0 N dX12_deed_2 vl_X12_380 vv_X12_isLife e2 [vI x1] rfl rfl rfl ⟨Nat.le_of_ble_eq_true rfl, Nat.le_of_ble_eq_true rfl⟩ (c_X12_isLife l0 a1 x1 σ v3 σ4 e5) ?_
  refine g_if_ne O dX12_deed_5 rfl (fun c6 => ?_) (fun c6 => ?_)
  · replace h := (if_pos c6).symm.trans h
    refine g_bipush (v := (-2 : Int32)) O dX12_deed_8 rfl ?_
    cases h
    exact g_ireturn O K dX12_deed_10
  · replace h := (if_neg c6).symm.trans h
    refine g_iload_n O dX12_deed_11 rfl 2 rfl ?_
    refine g_iconst (v := (-1 : Int32)) O dX12_deed_12 rfl ?_
    refine g_icmp_ne O dX12_deed_13 rfl (fun c7 => ?_) (fun c7 => ?_)
    · replace h := (if_pos c7).symm.trans h
      refine g_iload_n O dX12_deed_16 rfl 3 rfl ?_
      refine g_if_ne O dX12_deed_17 rfl (fun c8 => ?_) (fun c8 => ?_)
      · replace h := (if_pos c8).symm.trans h
        refine g_aload_n O dX12_deed_20 rfl 0 rfl ?_
        obtain ⟨v9, e10, h⟩ := bo_some h
        refine g_getR O dX12_deed_21 fl_X12_7 rfl e10 ?_
        refine g_aload_n O dX12_deed_24 rfl 0 rfl ?_
        obtain ⟨v11, e12, h⟩ := bo_some h
        refine g_getI O dX12_deed_25 fl_X12_377 rfl e12 ?_
        obtain ⟨v13, e14, h⟩ := bo_some h
        refine g_iaload O dX12_deed_28 e14 ?_
        refine g_goto O dX12_deed_29 rfl ?_
        cases h
        exact g_ireturn O K dX12_deed_34
      · replace h := (if_neg c8).symm.trans h
        refine g_bipush (v := (-2 : Int32)) O dX12_deed_32 rfl ?_
        cases h
        exact g_ireturn O K dX12_deed_34
    · replace h := (if_neg c7).symm.trans h
      refine g_iload_n O dX12_deed_35 rfl 2 rfl ?_
      refine g_iconst (v := (0 : Int32)) O dX12_deed_36 rfl ?_
      refine g_aload_n O dX12_deed_37 rfl 0 rfl ?_
      obtain ⟨v15, e16, h⟩ := bo_some h
      refine g_getR O dX12_deed_38 fl_X12_7 rfl e16 ?_
      refine g_aload_n O dX12_deed_41 rfl 0 rfl ?_
      obtain ⟨v17, e18, h⟩ := bo_some h
      refine g_getI O dX12_deed_42 fl_X12_377 rfl e18 ?_
      obtain ⟨v19, e20, h⟩ := bo_some h
      refine g_iaload O dX12_deed_45 e20 ?_
      refine g_iconst (v := (1 : Int32)) O dX12_deed_46 rfl ?_
      refine g_isub O dX12_deed_47 ?_
      obtain ⟨v21, e22, h⟩ := bo_some h
      refine g_cS1 O R0 N dX12_deed_48 vl_X12_146 w1616 [vI x2, vI (0 : Int32), vI (v19 - (1 : Int32))] rfl rfl rfl ⟨Nat.le_of_ble_eq_true rfl, Nat.le_of_ble_eq_true rfl⟩ (c_X12_isIn l0 x2 (0 : Int32) (v19 - (1 : Int32)) σ4 v21 e22) ?_
      refine g_if_eq O dX12_deed_51 rfl (fun c23 => ?_) (fun c23 => ?_)
      · replace h := (if_pos c23).symm.trans h
        refine g_sub [] (lv' := []) rfl ?_
        exact t_X12_deed_83 O R0 N hn σ4 o h K
      · replace h := (if_neg c23).symm.trans h
        refine g_iload_n O dX12_deed_54 rfl 3 rfl ?_
        refine g_iconst (v := (0 : Int32)) O dX12_deed_55 rfl ?_
        refine g_iconst (v := (3 : Int32)) O dX12_deed_56 rfl ?_
        obtain ⟨v24, e25, h⟩ := bo_some h
        refine g_cS1 O R0 N dX12_deed_57 vl_X12_146 w1616 [vI x3, vI (0 : Int32), vI (3 : Int32)] rfl rfl rfl ⟨Nat.le_of_ble_eq_true rfl, Nat.le_of_ble_eq_true rfl⟩ (c_X12_isIn l0 x3 (0 : Int32) (3 : Int32) σ4 v24 e25) ?_
        refine g_if_eq O dX12_deed_60 rfl (fun c26 => ?_) (fun c26 => ?_)
        · replace h := (if_pos c26).symm.trans h
          refine g_sub [] (lv' := []) rfl ?_
          exact t_X12_deed_83 O R0 N hn σ4 o h K
        · replace h := (if_neg c26).symm.trans h
          refine g_aload_n O dX12_deed_63 rfl 0 rfl ?_
          obtain ⟨v27, e28, h⟩ := bo_some h
          refine g_getR O dX12_deed_64 fl_X12_7 rfl e28 ?_
          refine g_aload_n O dX12_deed_67 rfl 0 rfl ?_
          obtain ⟨v29, e30, h⟩ := bo_some h
          refine g_getI O dX12_deed_68 fl_X12_377 rfl e30 ?_
          refine g_iconst (v := (1 : Int32)) O dX12_deed_71 rfl ?_
          refine g_iadd O dX12_deed_72 ?_
          refine g_iconst (v := (4 : Int32)) O dX12_deed_73 rfl ?_
          refine g_iload_n O dX12_deed_74 rfl 2 rfl ?_
          refine g_imul O dX12_deed_75 ?_
          refine g_iadd O dX12_deed_76 ?_
          refine g_iload_n O dX12_deed_77 rfl 3 rfl ?_
          refine g_iadd O dX12_deed_78 ?_
          obtain ⟨v31, e32, h⟩ := bo_some h
          refine g_iaload O dX12_deed_79 e32 ?_
          refine g_goto O dX12_deed_80 rfl ?_
          cases h
          exact g_ireturn O K dX12_deed_85
theorem c_X12_deed (l0 : Launch) (a0 : Nat) (x1 : Int32) (x2 : Int32) (x3 : Int32) (σ : Dt) (r : Int32) (σ' : Dt) (h : f_X12_deed a0 x1 x2 x3 σ = some (r, σ')) : Ctr l0 yX12_deed cX12_deed 4 (some .int) false 5 145 0 0 [vA (some a0), vI x1, vI x2, vI x3] SM σ SM σ' (some (vI r)) := ctr_of (by decide) (Nat.le_of_ble_eq_true rfl) (fun M O F R0 N hn => t_X12_deed O R0 N hn a0 x1 x2 x3 σ (r, σ') h F)
def P_X12_begins_167 (M : Mx) (a0 : Nat) (s : (Int32 × Dt)) : Prop := G M 0 0 167 [(0, vA (some a0)), (1, vI s.1)] [] SM s.2
def E_X12_begins_167 (M : Mx) (a0 : Nat) : Dt → Prop := (fun w => G M 0 0 186 [] [] SM w)
def f_X12_begins_L167 (a0 : Nat) (x1 : Int32) (σ : Dt) : Option ((Int32 × Dt) ⊕ Dt) := if (6 : Int32) ≤ x1 then some (.inr σ) else bo (xgr SM 12 40 (some a0) σ) fun v2 => bo (xsi SM v2 x1 (0 : Int32) σ) fun σ4 => some (.inl ((x1 + (1 : Int32)), σ4))
theorem t_X12_begins_L167 {M : Mx} {l0 : Launch} (O : Ok M cX12_begins yX12_begins) (R0 : Rm M l0 3 101 0 0) (N : Ma M = false) (hn : Mn M = 2) (a0 : Nat) (x1 : Int32) (σ : Dt) (o : ((Int32 × Dt) ⊕ Dt)) (h : f_X12_begins_L167 a0 x1 σ = some o) (K : kon (P_X12_begins_167 M a0) (E_X12_begins_167 M a0) o) : G M 0 0 167 [(0, vA (some a0)), (1, vI x1)] [] SM σ := by
  unfold f_X12_begins_L167 at h
  refine g_iload_n O dX12_begins_167 rfl 1 rfl ?_
  refine g_bipush (v := (6 : Int32)) O dX12_begins_168 rfl ?_
  refine g_icmp_ge O dX12_begins_170 rfl (fun c1 => ?_) (fun c1 => ?_)
  · replace h := (if_pos c1).symm.trans h
    refine g_sub [] (lv' := []) rfl ?_
    cases h
    exact K
  · replace h := (if_neg c1).symm.trans h
    refine g_aload_n O dX12_begins_173 rfl 0 rfl ?_
    obtain ⟨v2, e3, h⟩ := bo_some h
    refine g_getR O dX12_begins_174 fl_X12_73 rfl e3 ?_
    refine g_iload_n O dX12_begins_177 rfl 1 rfl ?_
    refine g_iconst (v := (0 : Int32)) O dX12_begins_178 rfl ?_
    obtain ⟨σ4, e5, h⟩ := bo_some h
    refine g_iastore O dX12_begins_179 e5 ?_
    refine g_iinc (v := (x1 + (1 : Int32))) (lv' := [(1, vI (x1 + (1 : Int32))), (0, vA (some a0))]) O dX12_begins_180 2 hn (by decide) 1 rfl rfl rfl ?_
    refine g_goto O dX12_begins_183 rfl ?_
    refine g_sub [1, 0] (lv' := [(0, vA (some a0)), (1, vI (x1 + (1 : Int32)))]) rfl ?_
    cases h
    exact K
def P_X12_begins_47 (M : Mx) (a0 : Nat) (s : (Int32 × Dt)) : Prop := G M 0 0 47 [(0, vA (some a0)), (1, vI s.1)] [] SM s.2
def E_X12_begins_47 (M : Mx) (a0 : Nat) : Dt → Prop := (fun w => G M 0 0 165 [(0, vA (some a0))] [] SM w)
def f_X12_begins_144 (a0 : Nat) (x1 : Int32) (k0 : Option Nat) (k1 : Int32) (k2 : Int32) (σ : Dt) : Option ((Int32 × Dt) ⊕ Dt) := bo (xsi SM k0 k1 k2 σ) fun σ1 => bo (xgr SM 12 38 (some a0) σ1) fun v3 => bo (xsi SM v3 x1 (0 : Int32) σ1) fun σ5 => bo (xgr SM 12 39 (some a0) σ5) fun v7 => bo (xsi SM v7 x1 (0 : Int32) σ5) fun σ9 => some (.inl ((x1 + (1 : Int32)), σ9))
theorem t_X12_begins_144 {M : Mx} {l0 : Launch} (O : Ok M cX12_begins yX12_begins) (R0 : Rm M l0 3 101 0 0) (N : Ma M = false) (hn : Mn M = 2)  (a0 : Nat) (x1 : Int32) (k0 : Option Nat) (k1 : Int32) (k2 : Int32) (σ : Dt) (o : ((Int32 × Dt) ⊕ Dt)) (h : f_X12_begins_144 a0 x1 k0 k1 k2 σ = some o) (K : kon (P_X12_begins_47 M a0) (E_X12_begins_47 M a0) o) : G M 0 0 144 [(0, vA (some a0)), (1, vI x1)] [vI k2, vI k1, vA k0] SM σ := by
  unfold f_X12_begins_144 at h
  obtain ⟨σ1, e2, h⟩ := bo_some h
  refine g_iastore O dX12_begins_144 e2 ?_
  refine g_aload_n O dX12_begins_145 rfl 0 rfl ?_
  obtain ⟨v3, e4, h⟩ := bo_some h
  refine g_getR O dX12_begins_146 fl_X12_67 rfl e4 ?_
  refine g_iload_n O dX12_begins_149 rfl 1 rfl ?_
  refine g_iconst (v := (0 : Int32)) O dX12_begins_150 rfl ?_
  obtain ⟨σ5, e6, h⟩ := bo_some h
  refine g_iastore O dX12_begins_151 e6 ?_
  refine g_aload_n O dX12_begins_152 rfl 0 rfl ?_
  obtain ⟨v7, e8, h⟩ := bo_some h
  refine g_getR O dX12_begins_153 fl_X12_70 rfl e8 ?_
  refine g_iload_n O dX12_begins_156 rfl 1 rfl ?_
  refine g_iconst (v := (0 : Int32)) O dX12_begins_157 rfl ?_
  obtain ⟨σ9, e10, h⟩ := bo_some h
  refine g_iastore O dX12_begins_158 e10 ?_
  refine g_iinc (v := (x1 + (1 : Int32))) (lv' := [(1, vI (x1 + (1 : Int32))), (0, vA (some a0))]) O dX12_begins_159 2 hn (by decide) 1 rfl rfl rfl ?_
  refine g_goto O dX12_begins_162 rfl ?_
  refine g_sub [1, 0] (lv' := [(0, vA (some a0)), (1, vI (x1 + (1 : Int32)))]) rfl ?_
  cases h
  exact K
def f_X12_begins_121 (a0 : Nat) (x1 : Int32) (k0 : Option Nat) (k1 : Int32) (k2 : Int32) (σ : Dt) : Option ((Int32 × Dt) ⊕ Dt) := bo (xsi SM k0 k1 k2 σ) fun σ1 => bo (xgr SM 12 37 (some a0) σ1) fun v3 => bo (xgi SM 12 12 (some a0) σ1) fun v5 => if v5 ≤ x1 then f_X12_begins_144 a0 x1 v3 x1 (0 : Int32) σ1 else bo (xrc SM 12 (some a0)) fun a8 => bo (f_X12_elderOf a8 x1 σ1) fun v10 => f_X12_begins_144 a0 x1 v3 x1 v10 σ1
theorem t_X12_begins_121 {M : Mx} {l0 : Launch} (O : Ok M cX12_begins yX12_begins) (R0 : Rm M l0 3 101 0 0) (N : Ma M = false) (hn : Mn M = 2)  (a0 : Nat) (x1 : Int32) (k0 : Option Nat) (k1 : Int32) (k2 : Int32) (σ : Dt) (o : ((Int32 × Dt) ⊕ Dt)) (h : f_X12_begins_121 a0 x1 k0 k1 k2 σ = some o) (K : kon (P_X12_begins_47 M a0) (E_X12_begins_47 M a0) o) : G M 0 0 121 [(0, vA (some a0)), (1, vI x1)] [vI k2, vI k1, vA k0] SM σ := by
  unfold f_X12_begins_121 at h
  obtain ⟨σ1, e2, h⟩ := bo_some h
  refine g_iastore O dX12_begins_121 e2 ?_
  refine g_aload_n O dX12_begins_122 rfl 0 rfl ?_
  obtain ⟨v3, e4, h⟩ := bo_some h
  refine g_getR O dX12_begins_123 fl_X12_64 rfl e4 ?_
  refine g_iload_n O dX12_begins_126 rfl 1 rfl ?_
  refine g_iload_n O dX12_begins_127 rfl 1 rfl ?_
  refine g_aload_n O dX12_begins_128 rfl 0 rfl ?_
  obtain ⟨v5, e6, h⟩ := bo_some h
  refine g_getI O dX12_begins_129 fl_X12_211 rfl e6 ?_
  refine g_icmp_ge O dX12_begins_132 rfl (fun c7 => ?_) (fun c7 => ?_)
  · replace h := (if_pos c7).symm.trans h
    refine g_iconst (v := (0 : Int32)) O dX12_begins_143 rfl ?_
    exact t_X12_begins_144 O R0 N hn a0 x1 v3 x1 (0 : Int32) σ1 o h K
  · replace h := (if_neg c7).symm.trans h
    refine g_aload_n O dX12_begins_135 rfl 0 rfl ?_
    refine g_iload_n O dX12_begins_136 rfl 1 rfl ?_
    obtain ⟨a8, e9, h⟩ := bo_some h
    obtain ⟨v10, e11, h⟩ := bo_some h
    refine g_cV1 O R0 N dX12_begins_137 vl_X12_244 vv_X12_elderOf e9 [vI x1] rfl rfl rfl ⟨Nat.le_of_ble_eq_true rfl, Nat.le_of_ble_eq_true rfl⟩ (c_X12_elderOf l0 a8 x1 σ1 v10 e11) ?_
    refine g_goto O dX12_begins_140 rfl ?_
    exact t_X12_begins_144 O R0 N hn a0 x1 v3 x1 v10 σ1 o h K
def f_X12_begins_98 (a0 : Nat) (x1 : Int32) (k0 : Option Nat) (k1 : Int32) (k2 : Int32) (σ : Dt) : Option ((Int32 × Dt) ⊕ Dt) := bo (xsi SM k0 k1 k2 σ) fun σ1 => bo (xgr SM 12 36 (some a0) σ1) fun v3 => bo (xgi SM 12 12 (some a0) σ1) fun v5 => if v5 ≤ x1 then f_X12_begins_121 a0 x1 v3 x1 (0 : Int32) σ1 else bo (xrc SM 12 (some a0)) fun a8 => bo (f_X12_parentsOf a8 x1 σ1) fun v10 => f_X12_begins_121 a0 x1 v3 x1 v10 σ1
theorem t_X12_begins_98 {M : Mx} {l0 : Launch} (O : Ok M cX12_begins yX12_begins) (R0 : Rm M l0 3 101 0 0) (N : Ma M = false) (hn : Mn M = 2)  (a0 : Nat) (x1 : Int32) (k0 : Option Nat) (k1 : Int32) (k2 : Int32) (σ : Dt) (o : ((Int32 × Dt) ⊕ Dt)) (h : f_X12_begins_98 a0 x1 k0 k1 k2 σ = some o) (K : kon (P_X12_begins_47 M a0) (E_X12_begins_47 M a0) o) : G M 0 0 98 [(0, vA (some a0)), (1, vI x1)] [vI k2, vI k1, vA k0] SM σ := by
  unfold f_X12_begins_98 at h
  obtain ⟨σ1, e2, h⟩ := bo_some h
  refine g_iastore O dX12_begins_98 e2 ?_
  refine g_aload_n O dX12_begins_99 rfl 0 rfl ?_
  obtain ⟨v3, e4, h⟩ := bo_some h
  refine g_getR O dX12_begins_100 fl_X12_61 rfl e4 ?_
  refine g_iload_n O dX12_begins_103 rfl 1 rfl ?_
  refine g_iload_n O dX12_begins_104 rfl 1 rfl ?_
  refine g_aload_n O dX12_begins_105 rfl 0 rfl ?_
  obtain ⟨v5, e6, h⟩ := bo_some h
  refine g_getI O dX12_begins_106 fl_X12_211 rfl e6 ?_
  refine g_icmp_ge O dX12_begins_109 rfl (fun c7 => ?_) (fun c7 => ?_)
  · replace h := (if_pos c7).symm.trans h
    refine g_iconst (v := (0 : Int32)) O dX12_begins_120 rfl ?_
    exact t_X12_begins_121 O R0 N hn a0 x1 v3 x1 (0 : Int32) σ1 o h K
  · replace h := (if_neg c7).symm.trans h
    refine g_aload_n O dX12_begins_112 rfl 0 rfl ?_
    refine g_iload_n O dX12_begins_113 rfl 1 rfl ?_
    obtain ⟨a8, e9, h⟩ := bo_some h
    obtain ⟨v10, e11, h⟩ := bo_some h
    refine g_cV1 O R0 N dX12_begins_114 vl_X12_319 vv_X12_parentsOf e9 [vI x1] rfl rfl rfl ⟨Nat.le_of_ble_eq_true rfl, Nat.le_of_ble_eq_true rfl⟩ (c_X12_parentsOf l0 a8 x1 σ1 v10 e11) ?_
    refine g_goto O dX12_begins_117 rfl ?_
    exact t_X12_begins_121 O R0 N hn a0 x1 v3 x1 v10 σ1 o h K
def f_X12_begins_75 (a0 : Nat) (x1 : Int32) (k0 : Option Nat) (k1 : Int32) (k2 : Int32) (σ : Dt) : Option ((Int32 × Dt) ⊕ Dt) := bo (xsi SM k0 k1 k2 σ) fun σ1 => bo (xgr SM 12 35 (some a0) σ1) fun v3 => bo (xgi SM 12 12 (some a0) σ1) fun v5 => if v5 ≤ x1 then f_X12_begins_98 a0 x1 v3 x1 (0 : Int32) σ1 else bo (xrc SM 12 (some a0)) fun a8 => bo (f_X12_strengthOf a8 x1 σ1) fun v10 => f_X12_begins_98 a0 x1 v3 x1 v10 σ1
theorem t_X12_begins_75 {M : Mx} {l0 : Launch} (O : Ok M cX12_begins yX12_begins) (R0 : Rm M l0 3 101 0 0) (N : Ma M = false) (hn : Mn M = 2)  (a0 : Nat) (x1 : Int32) (k0 : Option Nat) (k1 : Int32) (k2 : Int32) (σ : Dt) (o : ((Int32 × Dt) ⊕ Dt)) (h : f_X12_begins_75 a0 x1 k0 k1 k2 σ = some o) (K : kon (P_X12_begins_47 M a0) (E_X12_begins_47 M a0) o) : G M 0 0 75 [(0, vA (some a0)), (1, vI x1)] [vI k2, vI k1, vA k0] SM σ := by
  unfold f_X12_begins_75 at h
  obtain ⟨σ1, e2, h⟩ := bo_some h
  refine g_iastore O dX12_begins_75 e2 ?_
  refine g_aload_n O dX12_begins_76 rfl 0 rfl ?_
  obtain ⟨v3, e4, h⟩ := bo_some h
  refine g_getR O dX12_begins_77 fl_X12_58 rfl e4 ?_
  refine g_iload_n O dX12_begins_80 rfl 1 rfl ?_
  refine g_iload_n O dX12_begins_81 rfl 1 rfl ?_
  refine g_aload_n O dX12_begins_82 rfl 0 rfl ?_
  obtain ⟨v5, e6, h⟩ := bo_some h
  refine g_getI O dX12_begins_83 fl_X12_211 rfl e6 ?_
  refine g_icmp_ge O dX12_begins_86 rfl (fun c7 => ?_) (fun c7 => ?_)
  · replace h := (if_pos c7).symm.trans h
    refine g_iconst (v := (0 : Int32)) O dX12_begins_97 rfl ?_
    exact t_X12_begins_98 O R0 N hn a0 x1 v3 x1 (0 : Int32) σ1 o h K
  · replace h := (if_neg c7).symm.trans h
    refine g_aload_n O dX12_begins_89 rfl 0 rfl ?_
    refine g_iload_n O dX12_begins_90 rfl 1 rfl ?_
    obtain ⟨a8, e9, h⟩ := bo_some h
    obtain ⟨v10, e11, h⟩ := bo_some h
    refine g_cV1 O R0 N dX12_begins_91 vl_X12_238 vv_X12_strengthOf e9 [vI x1] rfl rfl rfl ⟨Nat.le_of_ble_eq_true rfl, Nat.le_of_ble_eq_true rfl⟩ (c_X12_strengthOf l0 a8 x1 σ1 v10 e11) ?_
    refine g_goto O dX12_begins_94 rfl ?_
    exact t_X12_begins_98 O R0 N hn a0 x1 v3 x1 v10 σ1 o h K
def f_X12_begins_L47 (a0 : Nat) (x1 : Int32) (σ : Dt) : Option ((Int32 × Dt) ⊕ Dt) := if (10 : Int32) ≤ x1 then some (.inr σ) else bo (xgr SM 12 34 (some a0) σ) fun v2 => bo (xgi SM 12 12 (some a0) σ) fun v4 => if v4 ≤ x1 then f_X12_begins_75 a0 x1 v2 x1 (0 : Int32) σ else bo (xrc SM 12 (some a0)) fun a7 => bo (f_X12_ageOf a7 x1 σ) fun v9 => f_X12_begins_75 a0 x1 v2 x1 v9 σ
theorem t_X12_begins_L47 {M : Mx} {l0 : Launch} (O : Ok M cX12_begins yX12_begins) (R0 : Rm M l0 3 101 0 0) (N : Ma M = false) (hn : Mn M = 2) (a0 : Nat) (x1 : Int32) (σ : Dt) (o : ((Int32 × Dt) ⊕ Dt)) (h : f_X12_begins_L47 a0 x1 σ = some o) (K : kon (P_X12_begins_47 M a0) (E_X12_begins_47 M a0) o) : G M 0 0 47 [(0, vA (some a0)), (1, vI x1)] [] SM σ := by
  unfold f_X12_begins_L47 at h
  refine g_iload_n O dX12_begins_47 rfl 1 rfl ?_
  refine g_bipush (v := (10 : Int32)) O dX12_begins_48 rfl ?_
  refine g_icmp_ge O dX12_begins_50 rfl (fun c1 => ?_) (fun c1 => ?_)
  · replace h := (if_pos c1).symm.trans h
    refine g_sub [0] (lv' := [(0, vA (some a0))]) rfl ?_
    cases h
    exact K
  · replace h := (if_neg c1).symm.trans h
    refine g_aload_n O dX12_begins_53 rfl 0 rfl ?_
    obtain ⟨v2, e3, h⟩ := bo_some h
    refine g_getR O dX12_begins_54 fl_X12_55 rfl e3 ?_
    refine g_iload_n O dX12_begins_57 rfl 1 rfl ?_
    refine g_iload_n O dX12_begins_58 rfl 1 rfl ?_
    refine g_aload_n O dX12_begins_59 rfl 0 rfl ?_
    obtain ⟨v4, e5, h⟩ := bo_some h
    refine g_getI O dX12_begins_60 fl_X12_211 rfl e5 ?_
    refine g_icmp_ge O dX12_begins_63 rfl (fun c6 => ?_) (fun c6 => ?_)
    · replace h := (if_pos c6).symm.trans h
      refine g_iconst (v := (0 : Int32)) O dX12_begins_74 rfl ?_
      exact t_X12_begins_75 O R0 N hn a0 x1 v2 x1 (0 : Int32) σ o h K
    · replace h := (if_neg c6).symm.trans h
      refine g_aload_n O dX12_begins_66 rfl 0 rfl ?_
      refine g_iload_n O dX12_begins_67 rfl 1 rfl ?_
      obtain ⟨a7, e8, h⟩ := bo_some h
      obtain ⟨v9, e10, h⟩ := bo_some h
      refine g_cV1 O R0 N dX12_begins_68 vl_X12_217 vv_X12_ageOf e8 [vI x1] rfl rfl rfl ⟨Nat.le_of_ble_eq_true rfl, Nat.le_of_ble_eq_true rfl⟩ (c_X12_ageOf l0 a7 x1 σ v9 e10) ?_
      refine g_goto O dX12_begins_71 rfl ?_
      exact t_X12_begins_75 O R0 N hn a0 x1 v2 x1 v9 σ o h K
def f_X12_begins (a0 : Nat) (σ : Dt) : Option (Unit × Dt) := bo (xpi SM 12 27 (some a0) (0 : Int32) σ) fun σ1 => bo (xgi SM 12 12 (some a0) σ1) fun v3 => bo (xpi SM 12 28 (some a0) v3 σ1) fun σ5 => bo (xgi SM 12 12 (some a0) σ5) fun v7 => bo (xpi SM 12 29 (some a0) (((1 : Int32) <<< (v7 &&& 31)) - (1 : Int32)) σ5) fun σ9 => bo (xpi SM 12 30 (some a0) (0 : Int32) σ9) fun σ11 => bo (xpi SM 12 31 (some a0) (0 : Int32) σ11) fun σ13 => bo (xpi SM 12 32 (some a0) (0 : Int32) σ13) fun σ15 => bo (xpi SM 12 33 (some a0) (0 : Int32) σ15) fun σ17 => bo (iter FU (fun s => f_X12_begins_L47 a0 s.1 s.2) ((0 : Int32), σ17)) fun w19 => bo (iter FU (fun s => f_X12_begins_L167 a0 s.1 s.2) ((0 : Int32), w19)) fun w21 => some ((), w21)
theorem t_X12_begins {M : Mx} {l0 : Launch} (O : Ok M cX12_begins yX12_begins) (R0 : Rm M l0 3 101 0 0) (N : Ma M = false) (hn : Mn M = 2) (a0 : Nat) (σ : Dt) (o : (Unit × Dt)) (h : f_X12_begins a0 σ = some o) (K : Fin' M (none) 0 0 SM o.2 (none)) : G M 0 0 0 [(0, vA (some a0))] [] SM σ := by
  unfold f_X12_begins at h
  refine g_aload_n O dX12_begins_0 rfl 0 rfl ?_
  refine g_iconst (v := (0 : Int32)) O dX12_begins_1 rfl ?_
  obtain ⟨σ1, e2, h⟩ := bo_some h
  refine g_putI O dX12_begins_2 fl_X12_383 (Or.inl rfl) rfl e2 ?_
  refine g_aload_n O dX12_begins_5 rfl 0 rfl ?_
  refine g_aload_n O dX12_begins_6 rfl 0 rfl ?_
  obtain ⟨v3, e4, h⟩ := bo_some h
  refine g_getI O dX12_begins_7 fl_X12_211 rfl e4 ?_
  obtain ⟨σ5, e6, h⟩ := bo_some h
  refine g_putI O dX12_begins_10 fl_X12_386 (Or.inl rfl) rfl e6 ?_
  refine g_aload_n O dX12_begins_13 rfl 0 rfl ?_
  refine g_iconst (v := (1 : Int32)) O dX12_begins_14 rfl ?_
  refine g_aload_n O dX12_begins_15 rfl 0 rfl ?_
  obtain ⟨v7, e8, h⟩ := bo_some h
  refine g_getI O dX12_begins_16 fl_X12_211 rfl e8 ?_
  refine g_ishl O dX12_begins_19 ?_
  refine g_iconst (v := (1 : Int32)) O dX12_begins_20 rfl ?_
  refine g_isub O dX12_begins_21 ?_
  obtain ⟨σ9, e10, h⟩ := bo_some h
  refine g_putI O dX12_begins_22 fl_X12_389 (Or.inl rfl) rfl e10 ?_
  refine g_aload_n O dX12_begins_25 rfl 0 rfl ?_
  refine g_iconst (v := (0 : Int32)) O dX12_begins_26 rfl ?_
  obtain ⟨σ11, e12, h⟩ := bo_some h
  refine g_putI O dX12_begins_27 fl_X12_392 (Or.inl rfl) rfl e12 ?_
  refine g_aload_n O dX12_begins_30 rfl 0 rfl ?_
  refine g_iconst (v := (0 : Int32)) O dX12_begins_31 rfl ?_
  obtain ⟨σ13, e14, h⟩ := bo_some h
  refine g_putI O dX12_begins_32 fl_X12_395 (Or.inl rfl) rfl e14 ?_
  refine g_aload_n O dX12_begins_35 rfl 0 rfl ?_
  refine g_iconst (v := (0 : Int32)) O dX12_begins_36 rfl ?_
  obtain ⟨σ15, e16, h⟩ := bo_some h
  refine g_putI O dX12_begins_37 fl_X12_398 (Or.inl rfl) rfl e16 ?_
  refine g_aload_n O dX12_begins_40 rfl 0 rfl ?_
  refine g_iconst (v := (0 : Int32)) O dX12_begins_41 rfl ?_
  obtain ⟨σ17, e18, h⟩ := bo_some h
  refine g_putI O dX12_begins_42 fl_X12_401 (Or.inl rfl) rfl e18 ?_
  refine g_iconst (v := (0 : Int32)) O dX12_begins_45 rfl ?_
  refine g_istore_n (lv' := [(1, vI (0 : Int32)), (0, vA (some a0))]) O dX12_begins_46 rfl 2 hn (by decide) rfl ?_
  refine g_sub [1, 0] (lv' := [(0, vA (some a0)), (1, vI (0 : Int32))]) rfl ?_
  obtain ⟨w19, e20, h⟩ := bo_some h
  refine iter_G (P := P_X12_begins_47 M a0) (E := E_X12_begins_47 M a0) (fun s o hb hk => t_X12_begins_L47 O R0 N hn a0 s.1 s.2 o hb hk) FU ((0 : Int32), σ17) w19 e20 ?_
  show G M 0 0 165 [(0, vA (some a0))] [] SM w19
  refine g_iconst (v := (0 : Int32)) O dX12_begins_165 rfl ?_
  refine g_istore_n (lv' := [(1, vI (0 : Int32)), (0, vA (some a0))]) O dX12_begins_166 rfl 2 hn (by decide) rfl ?_
  refine g_sub [1, 0] (lv' := [(0, vA (some a0)), (1, vI (0 : Int32))]) rfl ?_
  obtain ⟨w21, e22, h⟩ := bo_some h
  refine iter_G (P := P_X12_begins_167 M a0) (E := E_X12_begins_167 M a0) (fun s o hb hk => t_X12_begins_L167 O R0 N hn a0 s.1 s.2 o hb hk) FU ((0 : Int32), w19) w21 e22 ?_
  show G M 0 0 186 [] [] SM w21
  cases h
  exact g_return O K dX12_begins_186
theorem c_X12_begins (l0 : Launch) (a0 : Nat) (σ : Dt) (r : Unit) (σ' : Dt) (h : f_X12_begins a0 σ = some (r, σ')) : Ctr l0 yX12_begins cX12_begins 2 (none) false 3 101 0 0 [vA (some a0)] SM σ SM σ' (none) := ctr_of (by decide) (Nat.le_of_ble_eq_true rfl) (fun M O F R0 N hn => t_X12_begins O R0 N hn a0 σ (r, σ') h F)
def f_X12_lives_29  (σ : Dt) : Option Int32 := some (0 : Int32)
theorem t_X12_lives_29 {M : Mx} {l0 : Launch} (O : Ok M cX12_lives yX12_lives) (R0 : Rm M l0 3 102 0 0) (N : Ma M = false) (hn : Mn M = 2)   (σ : Dt) (o : Int32) (h : f_X12_lives_29 σ = some o) (K : Fin' M (some .boolean) 0 0 SM σ (some (vI o))) : G M 0 0 29 [] [] SM σ := by
  unfold f_X12_lives_29 at h
  refine g_iconst (v := (0 : Int32)) O dX12_lives_29 rfl ?_
  cases h
  exact g_zreturn O (by decide) K dX12_lives_30
def f_X12_lives (a0 : Nat) (x1 : Int32) (σ : Dt) : Option Int32 := bo (xgi SM 12 28 (some a0) σ) fun v1 => bo (f_X12_isIn x1 (0 : Int32) (v1 - (1 : Int32)) σ) fun v3 => if v3 = 0 then f_X12_lives_29 σ else bo (xgi SM 12 29 (some a0) σ) fun v6 => bo (f_X12_isAmong v6 x1 σ) fun v8 => if v8 = 0 then f_X12_lives_29 σ else some (1 : Int32)
theorem t_X12_lives {M : Mx} {l0 : Launch} (O : Ok M cX12_lives yX12_lives) (R0 : Rm M l0 3 102 0 0) (N : Ma M = false) (hn : Mn M = 2) (a0 : Nat) (x1 : Int32) (σ : Dt) (o : Int32) (h : f_X12_lives a0 x1 σ = some o) (K : Fin' M (some .boolean) 0 0 SM σ (some (vI o))) : G M 0 0 0 [(0, vA (some a0)), (1, vI x1)] [] SM σ := by
  unfold f_X12_lives at h
  refine g_iload_n O dX12_lives_0 rfl 1 rfl ?_
  refine g_iconst (v := (0 : Int32)) O dX12_lives_1 rfl ?_
  refine g_aload_n O dX12_lives_2 rfl 0 rfl ?_
  obtain ⟨v1, e2, h⟩ := bo_some h
  refine g_getI O dX12_lives_3 fl_X12_386 rfl e2 ?_
  refine g_iconst (v := (1 : Int32)) O dX12_lives_6 rfl ?_
  refine g_isub O dX12_lives_7 ?_
  obtain ⟨v3, e4, h⟩ := bo_some h
  refine g_cS1 O R0 N dX12_lives_8 vl_X12_146 w1616 [vI x1, vI (0 : Int32), vI (v1 - (1 : Int32))] rfl rfl rfl ⟨Nat.le_of_ble_eq_true rfl, Nat.le_of_ble_eq_true rfl⟩ (c_X12_isIn l0 x1 (0 : Int32) (v1 - (1 : Int32)) σ v3 e4) ?_
  refine g_if_eq O dX12_lives_11 rfl (fun c5 => ?_) (fun c5 => ?_)
  · replace h := (if_pos c5).symm.trans h
    refine g_sub [] (lv' := []) rfl ?_
    exact t_X12_lives_29 O R0 N hn σ o h K
  · replace h := (if_neg c5).symm.trans h
    refine g_aload_n O dX12_lives_14 rfl 0 rfl ?_
    obtain ⟨v6, e7, h⟩ := bo_some h
    refine g_getI O dX12_lives_15 fl_X12_389 rfl e7 ?_
    refine g_iload_n O dX12_lives_18 rfl 1 rfl ?_
    obtain ⟨v8, e9, h⟩ := bo_some h
    refine g_cS1 O R0 N dX12_lives_19 vl_X12_235 w1766 [vI v6, vI x1] rfl rfl rfl ⟨Nat.le_of_ble_eq_true rfl, Nat.le_of_ble_eq_true rfl⟩ (c_X12_isAmong l0 v6 x1 σ v8 e9) ?_
    refine g_if_eq O dX12_lives_22 rfl (fun c10 => ?_) (fun c10 => ?_)
    · replace h := (if_pos c10).symm.trans h
      refine g_sub [] (lv' := []) rfl ?_
      exact t_X12_lives_29 O R0 N hn σ o h K
    · replace h := (if_neg c10).symm.trans h
      refine g_iconst (v := (1 : Int32)) O dX12_lives_25 rfl ?_
      refine g_goto O dX12_lives_26 rfl ?_
      cases h
      exact g_zreturn O (by decide) K dX12_lives_30
theorem c_X12_lives (l0 : Launch) (a0 : Nat) (x1 : Int32) (σ : Dt) (r : Int32) (h : f_X12_lives a0 x1 σ = some r) : Ctr l0 yX12_lives cX12_lives 2 (some .boolean) false 3 102 0 0 [vA (some a0), vI x1] SM σ SM σ (some (vI r)) := ctr_of (by decide) (Nat.le_of_ble_eq_true rfl) (fun M O F R0 N hn => t_X12_lives O R0 N hn a0 x1 σ r h F)
def f_X12_isDone (a0 : Nat) (x1 : Int32) (σ : Dt) : Option Int32 := bo (xgr SM 12 40 (some a0) σ) fun v1 => bo (xai SM v1 x1 σ) fun v3 => bo (xrc SM 12 (some a0)) fun a5 => bo (f_X12_muchOf a5 x1 σ) fun v7 => if v3 = v7 then some (1 : Int32) else some (0 : Int32)
theorem t_X12_isDone {M : Mx} {l0 : Launch} (O : Ok M cX12_isDone yX12_isDone) (R0 : Rm M l0 3 101 0 0) (N : Ma M = false) (hn : Mn M = 2) (a0 : Nat) (x1 : Int32) (σ : Dt) (o : Int32) (h : f_X12_isDone a0 x1 σ = some o) (K : Fin' M (some .boolean) 0 0 SM σ (some (vI o))) : G M 0 0 0 [(0, vA (some a0)), (1, vI x1)] [] SM σ := by
  unfold f_X12_isDone at h
  refine g_aload_n O dX12_isDone_0 rfl 0 rfl ?_
  obtain ⟨v1, e2, h⟩ := bo_some h
  refine g_getR O dX12_isDone_1 fl_X12_73 rfl e2 ?_
  refine g_iload_n O dX12_isDone_4 rfl 1 rfl ?_
  obtain ⟨v3, e4, h⟩ := bo_some h
  refine g_iaload O dX12_isDone_5 e4 ?_
  refine g_aload_n O dX12_isDone_6 rfl 0 rfl ?_
  refine g_iload_n O dX12_isDone_7 rfl 1 rfl ?_
  obtain ⟨a5, e6, h⟩ := bo_some h
  obtain ⟨v7, e8, h⟩ := bo_some h
  refine g_cV1 O R0 N dX12_isDone_8 vl_X12_229 vv_X12_muchOf e6 [vI x1] rfl rfl rfl ⟨Nat.le_of_ble_eq_true rfl, Nat.le_of_ble_eq_true rfl⟩ (c_X12_muchOf l0 a5 x1 σ v7 e8) ?_
  refine g_icmp_ne O dX12_isDone_11 rfl (fun c9 => ?_) (fun c9 => ?_)
  · replace h := (if_pos c9).symm.trans h
    refine g_iconst (v := (1 : Int32)) O dX12_isDone_14 rfl ?_
    refine g_goto O dX12_isDone_15 rfl ?_
    cases h
    exact g_zreturn O (by decide) K dX12_isDone_19
  · replace h := (if_neg c9).symm.trans h
    refine g_iconst (v := (0 : Int32)) O dX12_isDone_18 rfl ?_
    cases h
    exact g_zreturn O (by decide) K dX12_isDone_19
theorem c_X12_isDone (l0 : Launch) (a0 : Nat) (x1 : Int32) (σ : Dt) (r : Int32) (h : f_X12_isDone a0 x1 σ = some r) : Ctr l0 yX12_isDone cX12_isDone 2 (some .boolean) false 3 101 0 0 [vA (some a0), vI x1] SM σ SM σ (some (vI r)) := ctr_of (by decide) (Nat.le_of_ble_eq_true rfl) (fun M O F R0 N hn => t_X12_isDone O R0 N hn a0 x1 σ r h F)
def f_X12_promises_119 (a0 : Nat) (x1 : Int32) (k0 : Option Nat) (k1 : Int32) (k2 : Int32) (σ : Dt) : Option (Int32 × Dt) := bo (xsi SM k0 k1 k2 σ) fun σ1 => bo (xgi SM 12 32 (some a0) σ1) fun v3 => bo (xpi SM 12 32 (some a0) (v3 + (1 : Int32)) σ1) fun σ5 => bo (xgr SM 12 39 (some a0) σ5) fun v7 => bo (xai SM v7 x1 σ5) fun v9 => bo (xsi SM v7 x1 (v9 + (1 : Int32)) σ5) fun σ11 => some ((1 : Int32), σ11)
theorem t_X12_promises_119 {M : Mx} {l0 : Launch} (O : Ok M cX12_promises yX12_promises) (R0 : Rm M l0 4 123 0 0) (N : Ma M = false) (hn : Mn M = 4)  (a0 : Nat) (x1 : Int32) (k0 : Option Nat) (k1 : Int32) (k2 : Int32) (σ : Dt) (o : (Int32 × Dt)) (h : f_X12_promises_119 a0 x1 k0 k1 k2 σ = some o) (K : Fin' M (some .boolean) 0 0 SM o.2 (some (vI o.1))) : G M 0 0 119 [(0, vA (some a0)), (1, vI x1)] [vI k2, vI k1, vA k0] SM σ := by
  unfold f_X12_promises_119 at h
  obtain ⟨σ1, e2, h⟩ := bo_some h
  refine g_iastore O dX12_promises_119 e2 ?_
  refine g_aload_n O dX12_promises_120 rfl 0 rfl ?_
  refine g_dup O dX12_promises_121 rfl ?_
  obtain ⟨v3, e4, h⟩ := bo_some h
  refine g_getI O dX12_promises_122 fl_X12_398 rfl e4 ?_
  refine g_iconst (v := (1 : Int32)) O dX12_promises_125 rfl ?_
  refine g_iadd O dX12_promises_126 ?_
  obtain ⟨σ5, e6, h⟩ := bo_some h
  refine g_putI O dX12_promises_127 fl_X12_398 (Or.inl rfl) rfl e6 ?_
  refine g_aload_n O dX12_promises_130 rfl 0 rfl ?_
  obtain ⟨v7, e8, h⟩ := bo_some h
  refine g_getR O dX12_promises_131 fl_X12_70 rfl e8 ?_
  refine g_iload_n O dX12_promises_134 rfl 1 rfl ?_
  refine g_dup2 O dX12_promises_135 rfl rfl ?_
  obtain ⟨v9, e10, h⟩ := bo_some h
  refine g_iaload O dX12_promises_136 e10 ?_
  refine g_iconst (v := (1 : Int32)) O dX12_promises_137 rfl ?_
  refine g_iadd O dX12_promises_138 ?_
  obtain ⟨σ11, e12, h⟩ := bo_some h
  refine g_iastore O dX12_promises_139 e12 ?_
  refine g_iconst (v := (1 : Int32)) O dX12_promises_140 rfl ?_
  cases h
  exact g_zreturn O (by decide) K dX12_promises_141
def f_X12_promises (a0 : Nat) (x1 : Int32) (x2 : Int32) (x3 : Int32) (σ : Dt) : Option (Int32 × Dt) := bo (xrc SM 12 (some a0)) fun a1 => bo (f_X12_lives a1 x1 σ) fun v3 => if v3 = 0 then some ((0 : Int32), σ) else bo (xgr SM 12 34 (some a0) σ) fun v6 => bo (xai SM v6 x1 σ) fun v8 => if (10 : Int32) ≤ v8 then some ((0 : Int32), σ) else bo (xgi SM 12 30 (some a0) σ) fun v11 => bo (f_X12_isAmong v11 x1 σ) fun v13 => if v13 = 0 then bo (xrc SM 12 (some a0)) fun a16 => bo (f_X12_isWork a16 x2 σ) fun v18 => if v18 = 0 then some ((0 : Int32), σ) else bo (xrc SM 12 (some a0)) fun a21 => bo (f_X12_isDone a21 x2 σ) fun v23 => if v23 = 0 then bo (xgi SM 12 32 (some a0) σ) fun v26 => if v26 = (12 : Int32) then some ((0 : Int32), σ) else bo (xgr SM 12 41 (some a0) σ) fun v29 => bo (xgi SM 12 32 (some a0) σ) fun v31 => bo (xsi SM v29 v31 x1 σ) fun σ33 => bo (xgr SM 12 42 (some a0) σ33) fun v35 => bo (xgi SM 12 32 (some a0) σ33) fun v37 => bo (xsi SM v35 v37 x2 σ33) fun σ39 => bo (xgr SM 12 43 (some a0) σ39) fun v41 => bo (xgi SM 12 32 (some a0) σ39) fun v43 => bo (xgi SM 12 27 (some a0) σ39) fun v45 => bo (xsi SM v41 v43 (v45 + x3) σ39) fun σ47 => bo (xgr SM 12 44 (some a0) σ47) fun v49 => bo (xgi SM 12 32 (some a0) σ47) fun v51 => bo (xgr SM 12 37 (some a0) σ47) fun v53 => bo (xai SM v53 x1 σ47) fun v55 => bo (xgi SM 12 29 (some a0) σ47) fun v57 => if (v55 &&& v57) = 0 then f_X12_promises_119 a0 x1 v49 v51 (4 : Int32) σ47 else f_X12_promises_119 a0 x1 v49 v51 (0 : Int32) σ47 else some ((0 : Int32), σ) else some ((0 : Int32), σ)
theorem t_X12_promises {M : Mx} {l0 : Launch} (O : Ok M cX12_promises yX12_promises) (R0 : Rm M l0 4 123 0 0) (N : Ma M = false) (hn : Mn M = 4) (a0 : Nat) (x1 : Int32) (x2 : Int32) (x3 : Int32) (σ : Dt) (o : (Int32 × Dt)) (h : f_X12_promises a0 x1 x2 x3 σ = some o) (K : Fin' M (some .boolean) 0 0 SM o.2 (some (vI o.1))) : G M 0 0 0 [(0, vA (some a0)), (1, vI x1), (2, vI x2), (3, vI x3)] [] SM σ := by
  unfold f_X12_promises at h
  refine g_aload_n O dX12_promises_0 rfl 0 rfl ?_
  refine g_iload_n O dX12_promises_1 rfl 1 rfl ?_
  obtain ⟨a1, e2, h⟩ := bo_some h
  obtain ⟨v3, e4, h⟩ := bo_some h
  refine g_cV1 O R0 N dX12_promises_2 vl_X12_404 vv_X12_lives e2 [vI x1] rfl rfl rfl ⟨Nat.le_of_ble_eq_true rfl, Nat.le_of_ble_eq_true rfl⟩ (c_X12_lives l0 a1 x1 σ v3 e4) ?_
  refine g_if_eq O dX12_promises_5 rfl (fun c5 => ?_) (fun c5 => ?_)
  · replace h := (if_pos c5).symm.trans h
    refine g_iconst (v := (0 : Int32)) O dX12_promises_55 rfl ?_
    cases h
    exact g_zreturn O (by decide) K dX12_promises_56
  · replace h := (if_neg c5).symm.trans h
    refine g_aload_n O dX12_promises_8 rfl 0 rfl ?_
    obtain ⟨v6, e7, h⟩ := bo_some h
    refine g_getR O dX12_promises_9 fl_X12_55 rfl e7 ?_
    refine g_iload_n O dX12_promises_12 rfl 1 rfl ?_
    obtain ⟨v8, e9, h⟩ := bo_some h
    refine g_iaload O dX12_promises_13 e9 ?_
    refine g_bipush (v := (10 : Int32)) O dX12_promises_14 rfl ?_
    refine g_icmp_ge O dX12_promises_16 rfl (fun c10 => ?_) (fun c10 => ?_)
    · replace h := (if_pos c10).symm.trans h
      refine g_iconst (v := (0 : Int32)) O dX12_promises_55 rfl ?_
      cases h
      exact g_zreturn O (by decide) K dX12_promises_56
    · replace h := (if_neg c10).symm.trans h
      refine g_aload_n O dX12_promises_19 rfl 0 rfl ?_
      obtain ⟨v11, e12, h⟩ := bo_some h
      refine g_getI O dX12_promises_20 fl_X12_392 rfl e12 ?_
      refine g_iload_n O dX12_promises_23 rfl 1 rfl ?_
      obtain ⟨v13, e14, h⟩ := bo_some h
      refine g_cS1 O R0 N dX12_promises_24 vl_X12_235 w1766 [vI v11, vI x1] rfl rfl rfl ⟨Nat.le_of_ble_eq_true rfl, Nat.le_of_ble_eq_true rfl⟩ (c_X12_isAmong l0 v11 x1 σ v13 e14) ?_
      refine g_if_ne O dX12_promises_27 rfl (fun c15 => ?_) (fun c15 => ?_)
      · replace h := (if_pos c15).symm.trans h
        refine g_aload_n O dX12_promises_30 rfl 0 rfl ?_
        refine g_iload_n O dX12_promises_31 rfl 2 rfl ?_
        obtain ⟨a16, e17, h⟩ := bo_some h
        obtain ⟨v18, e19, h⟩ := bo_some h
        refine g_cV1 O R0 N dX12_promises_32 vl_X12_226 vv_X12_isWork e17 [vI x2] rfl rfl rfl ⟨Nat.le_of_ble_eq_true rfl, Nat.le_of_ble_eq_true rfl⟩ (c_X12_isWork l0 a16 x2 σ v18 e19) ?_
        refine g_if_eq O dX12_promises_35 rfl (fun c20 => ?_) (fun c20 => ?_)
        · replace h := (if_pos c20).symm.trans h
          refine g_iconst (v := (0 : Int32)) O dX12_promises_55 rfl ?_
          cases h
          exact g_zreturn O (by decide) K dX12_promises_56
        · replace h := (if_neg c20).symm.trans h
          refine g_aload_n O dX12_promises_38 rfl 0 rfl ?_
          refine g_iload_n O dX12_promises_39 rfl 2 rfl ?_
          obtain ⟨a21, e22, h⟩ := bo_some h
          obtain ⟨v23, e24, h⟩ := bo_some h
          refine g_cV1 O R0 N dX12_promises_40 vl_X12_407 vv_X12_isDone e22 [vI x2] rfl rfl rfl ⟨Nat.le_of_ble_eq_true rfl, Nat.le_of_ble_eq_true rfl⟩ (c_X12_isDone l0 a21 x2 σ v23 e24) ?_
          refine g_if_ne O dX12_promises_43 rfl (fun c25 => ?_) (fun c25 => ?_)
          · replace h := (if_pos c25).symm.trans h
            refine g_aload_n O dX12_promises_46 rfl 0 rfl ?_
            obtain ⟨v26, e27, h⟩ := bo_some h
            refine g_getI O dX12_promises_47 fl_X12_398 rfl e27 ?_
            refine g_bipush (v := (12 : Int32)) O dX12_promises_50 rfl ?_
            refine g_icmp_ne O dX12_promises_52 rfl (fun c28 => ?_) (fun c28 => ?_)
            · replace h := (if_pos c28).symm.trans h
              refine g_iconst (v := (0 : Int32)) O dX12_promises_55 rfl ?_
              cases h
              exact g_zreturn O (by decide) K dX12_promises_56
            · replace h := (if_neg c28).symm.trans h
              refine g_aload_n O dX12_promises_57 rfl 0 rfl ?_
              obtain ⟨v29, e30, h⟩ := bo_some h
              refine g_getR O dX12_promises_58 fl_X12_76 rfl e30 ?_
              refine g_aload_n O dX12_promises_61 rfl 0 rfl ?_
              obtain ⟨v31, e32, h⟩ := bo_some h
              refine g_getI O dX12_promises_62 fl_X12_398 rfl e32 ?_
              refine g_iload_n O dX12_promises_65 rfl 1 rfl ?_
              obtain ⟨σ33, e34, h⟩ := bo_some h
              refine g_iastore O dX12_promises_66 e34 ?_
              refine g_aload_n O dX12_promises_67 rfl 0 rfl ?_
              obtain ⟨v35, e36, h⟩ := bo_some h
              refine g_getR O dX12_promises_68 fl_X12_79 rfl e36 ?_
              refine g_aload_n O dX12_promises_71 rfl 0 rfl ?_
              obtain ⟨v37, e38, h⟩ := bo_some h
              refine g_getI O dX12_promises_72 fl_X12_398 rfl e38 ?_
              refine g_iload_n O dX12_promises_75 rfl 2 rfl ?_
              obtain ⟨σ39, e40, h⟩ := bo_some h
              refine g_iastore O dX12_promises_76 e40 ?_
              refine g_aload_n O dX12_promises_77 rfl 0 rfl ?_
              obtain ⟨v41, e42, h⟩ := bo_some h
              refine g_getR O dX12_promises_78 fl_X12_82 rfl e42 ?_
              refine g_aload_n O dX12_promises_81 rfl 0 rfl ?_
              obtain ⟨v43, e44, h⟩ := bo_some h
              refine g_getI O dX12_promises_82 fl_X12_398 rfl e44 ?_
              refine g_aload_n O dX12_promises_85 rfl 0 rfl ?_
              obtain ⟨v45, e46, h⟩ := bo_some h
              refine g_getI O dX12_promises_86 fl_X12_383 rfl e46 ?_
              refine g_iload_n O dX12_promises_89 rfl 3 rfl ?_
              refine g_iadd O dX12_promises_90 ?_
              obtain ⟨σ47, e48, h⟩ := bo_some h
              refine g_iastore O dX12_promises_91 e48 ?_
              refine g_aload_n O dX12_promises_92 rfl 0 rfl ?_
              obtain ⟨v49, e50, h⟩ := bo_some h
              refine g_getR O dX12_promises_93 fl_X12_85 rfl e50 ?_
              refine g_aload_n O dX12_promises_96 rfl 0 rfl ?_
              obtain ⟨v51, e52, h⟩ := bo_some h
              refine g_getI O dX12_promises_97 fl_X12_398 rfl e52 ?_
              refine g_aload_n O dX12_promises_100 rfl 0 rfl ?_
              obtain ⟨v53, e54, h⟩ := bo_some h
              refine g_getR O dX12_promises_101 fl_X12_64 rfl e54 ?_
              refine g_iload_n O dX12_promises_104 rfl 1 rfl ?_
              obtain ⟨v55, e56, h⟩ := bo_some h
              refine g_iaload O dX12_promises_105 e56 ?_
              refine g_aload_n O dX12_promises_106 rfl 0 rfl ?_
              obtain ⟨v57, e58, h⟩ := bo_some h
              refine g_getI O dX12_promises_107 fl_X12_389 rfl e58 ?_
              refine g_iand O dX12_promises_110 ?_
              refine g_if_ne O dX12_promises_111 rfl (fun c59 => ?_) (fun c59 => ?_)
              · replace h := (if_pos c59).symm.trans h
                refine g_iconst (v := (4 : Int32)) O dX12_promises_114 rfl ?_
                refine g_goto O dX12_promises_115 rfl ?_
                refine g_sub [0, 1] (lv' := [(0, vA (some a0)), (1, vI x1)]) rfl ?_
                exact t_X12_promises_119 O R0 N hn a0 x1 v49 v51 (4 : Int32) σ47 o h K
              · replace h := (if_neg c59).symm.trans h
                refine g_iconst (v := (0 : Int32)) O dX12_promises_118 rfl ?_
                refine g_sub [0, 1] (lv' := [(0, vA (some a0)), (1, vI x1)]) rfl ?_
                exact t_X12_promises_119 O R0 N hn a0 x1 v49 v51 (0 : Int32) σ47 o h K
          · replace h := (if_neg c25).symm.trans h
            refine g_iconst (v := (0 : Int32)) O dX12_promises_55 rfl ?_
            cases h
            exact g_zreturn O (by decide) K dX12_promises_56
      · replace h := (if_neg c15).symm.trans h
        refine g_iconst (v := (0 : Int32)) O dX12_promises_55 rfl ?_
        cases h
        exact g_zreturn O (by decide) K dX12_promises_56
theorem c_X12_promises (l0 : Launch) (a0 : Nat) (x1 : Int32) (x2 : Int32) (x3 : Int32) (σ : Dt) (r : Int32) (σ' : Dt) (h : f_X12_promises a0 x1 x2 x3 σ = some (r, σ')) : Ctr l0 yX12_promises cX12_promises 4 (some .boolean) false 4 123 0 0 [vA (some a0), vI x1, vI x2, vI x3] SM σ SM σ' (some (vI r)) := ctr_of (by decide) (Nat.le_of_ble_eq_true rfl) (fun M O F R0 N hn => t_X12_promises O R0 N hn a0 x1 x2 x3 σ (r, σ') h F)
def f_X12_isBorn (a0 : Nat) (x1 : Int32) (x2 : Int32) (σ : Dt) : Option (Int32 × Dt) := bo (xrc SM 12 (some a0)) fun a1 => bo (f_X12_lives a1 x1 σ) fun v3 => if v3 = 0 then some ((0 : Int32), σ) else bo (xgr SM 12 34 (some a0) σ) fun v6 => bo (xai SM v6 x1 σ) fun v8 => if v8 < (16 : Int32) then some ((0 : Int32), σ) else bo (xgi SM 12 28 (some a0) σ) fun v11 => if v11 = (10 : Int32) then some ((0 : Int32), σ) else bo (xgr SM 12 34 (some a0) σ) fun v14 => bo (xgi SM 12 28 (some a0) σ) fun v16 => bo (xsi SM v14 v16 (0 : Int32) σ) fun σ18 => bo (xgr SM 12 35 (some a0) σ18) fun v20 => bo (xgi SM 12 28 (some a0) σ18) fun v22 => bo (xsi SM v20 v22 x2 σ18) fun σ24 => bo (xgr SM 12 36 (some a0) σ24) fun v26 => bo (xgi SM 12 28 (some a0) σ24) fun v28 => bo (xsi SM v26 v28 ((1 : Int32) <<< (x1 &&& 31)) σ24) fun σ30 => bo (xgr SM 12 37 (some a0) σ30) fun v32 => bo (xgi SM 12 28 (some a0) σ30) fun v34 => bo (xgr SM 12 36 (some a0) σ30) fun v36 => bo (xai SM v36 x1 σ30) fun v38 => bo (xsi SM v32 v34 v38 σ30) fun σ40 => bo (xgi SM 12 29 (some a0) σ40) fun v42 => bo (xgi SM 12 28 (some a0) σ40) fun v44 => bo (xpi SM 12 29 (some a0) (v42 ||| ((1 : Int32) <<< (v44 &&& 31))) σ40) fun σ46 => bo (xgi SM 12 28 (some a0) σ46) fun v48 => bo (xpi SM 12 28 (some a0) (v48 + (1 : Int32)) σ46) fun σ50 => some ((1 : Int32), σ50)
theorem t_X12_isBorn {M : Mx} {l0 : Launch} (O : Ok M cX12_isBorn yX12_isBorn) (R0 : Rm M l0 4 123 0 0) (N : Ma M = false) (hn : Mn M = 3) (a0 : Nat) (x1 : Int32) (x2 : Int32) (σ : Dt) (o : (Int32 × Dt)) (h : f_X12_isBorn a0 x1 x2 σ = some o) (K : Fin' M (some .boolean) 0 0 SM o.2 (some (vI o.1))) : G M 0 0 0 [(0, vA (some a0)), (1, vI x1), (2, vI x2)] [] SM σ := by
  unfold f_X12_isBorn at h
  refine g_aload_n O dX12_isBorn_0 rfl 0 rfl ?_
  refine g_iload_n O dX12_isBorn_1 rfl 1 rfl ?_
  obtain ⟨a1, e2, h⟩ := bo_some h
  obtain ⟨v3, e4, h⟩ := bo_some h
  refine g_cV1 O R0 N dX12_isBorn_2 vl_X12_404 vv_X12_lives e2 [vI x1] rfl rfl rfl ⟨Nat.le_of_ble_eq_true rfl, Nat.le_of_ble_eq_true rfl⟩ (c_X12_lives l0 a1 x1 σ v3 e4) ?_
  refine g_if_eq O dX12_isBorn_5 rfl (fun c5 => ?_) (fun c5 => ?_)
  · replace h := (if_pos c5).symm.trans h
    refine g_iconst (v := (0 : Int32)) O dX12_isBorn_28 rfl ?_
    cases h
    exact g_zreturn O (by decide) K dX12_isBorn_29
  · replace h := (if_neg c5).symm.trans h
    refine g_aload_n O dX12_isBorn_8 rfl 0 rfl ?_
    obtain ⟨v6, e7, h⟩ := bo_some h
    refine g_getR O dX12_isBorn_9 fl_X12_55 rfl e7 ?_
    refine g_iload_n O dX12_isBorn_12 rfl 1 rfl ?_
    obtain ⟨v8, e9, h⟩ := bo_some h
    refine g_iaload O dX12_isBorn_13 e9 ?_
    refine g_bipush (v := (16 : Int32)) O dX12_isBorn_14 rfl ?_
    refine g_icmp_lt O dX12_isBorn_16 rfl (fun c10 => ?_) (fun c10 => ?_)
    · replace h := (if_pos c10).symm.trans h
      refine g_iconst (v := (0 : Int32)) O dX12_isBorn_28 rfl ?_
      cases h
      exact g_zreturn O (by decide) K dX12_isBorn_29
    · replace h := (if_neg c10).symm.trans h
      refine g_aload_n O dX12_isBorn_19 rfl 0 rfl ?_
      obtain ⟨v11, e12, h⟩ := bo_some h
      refine g_getI O dX12_isBorn_20 fl_X12_386 rfl e12 ?_
      refine g_bipush (v := (10 : Int32)) O dX12_isBorn_23 rfl ?_
      refine g_icmp_ne O dX12_isBorn_25 rfl (fun c13 => ?_) (fun c13 => ?_)
      · replace h := (if_pos c13).symm.trans h
        refine g_iconst (v := (0 : Int32)) O dX12_isBorn_28 rfl ?_
        cases h
        exact g_zreturn O (by decide) K dX12_isBorn_29
      · replace h := (if_neg c13).symm.trans h
        refine g_aload_n O dX12_isBorn_30 rfl 0 rfl ?_
        obtain ⟨v14, e15, h⟩ := bo_some h
        refine g_getR O dX12_isBorn_31 fl_X12_55 rfl e15 ?_
        refine g_aload_n O dX12_isBorn_34 rfl 0 rfl ?_
        obtain ⟨v16, e17, h⟩ := bo_some h
        refine g_getI O dX12_isBorn_35 fl_X12_386 rfl e17 ?_
        refine g_iconst (v := (0 : Int32)) O dX12_isBorn_38 rfl ?_
        obtain ⟨σ18, e19, h⟩ := bo_some h
        refine g_iastore O dX12_isBorn_39 e19 ?_
        refine g_aload_n O dX12_isBorn_40 rfl 0 rfl ?_
        obtain ⟨v20, e21, h⟩ := bo_some h
        refine g_getR O dX12_isBorn_41 fl_X12_58 rfl e21 ?_
        refine g_aload_n O dX12_isBorn_44 rfl 0 rfl ?_
        obtain ⟨v22, e23, h⟩ := bo_some h
        refine g_getI O dX12_isBorn_45 fl_X12_386 rfl e23 ?_
        refine g_iload_n O dX12_isBorn_48 rfl 2 rfl ?_
        obtain ⟨σ24, e25, h⟩ := bo_some h
        refine g_iastore O dX12_isBorn_49 e25 ?_
        refine g_aload_n O dX12_isBorn_50 rfl 0 rfl ?_
        obtain ⟨v26, e27, h⟩ := bo_some h
        refine g_getR O dX12_isBorn_51 fl_X12_61 rfl e27 ?_
        refine g_aload_n O dX12_isBorn_54 rfl 0 rfl ?_
        obtain ⟨v28, e29, h⟩ := bo_some h
        refine g_getI O dX12_isBorn_55 fl_X12_386 rfl e29 ?_
        refine g_iconst (v := (1 : Int32)) O dX12_isBorn_58 rfl ?_
        refine g_iload_n O dX12_isBorn_59 rfl 1 rfl ?_
        refine g_ishl O dX12_isBorn_60 ?_
        obtain ⟨σ30, e31, h⟩ := bo_some h
        refine g_iastore O dX12_isBorn_61 e31 ?_
        refine g_aload_n O dX12_isBorn_62 rfl 0 rfl ?_
        obtain ⟨v32, e33, h⟩ := bo_some h
        refine g_getR O dX12_isBorn_63 fl_X12_64 rfl e33 ?_
        refine g_aload_n O dX12_isBorn_66 rfl 0 rfl ?_
        obtain ⟨v34, e35, h⟩ := bo_some h
        refine g_getI O dX12_isBorn_67 fl_X12_386 rfl e35 ?_
        refine g_aload_n O dX12_isBorn_70 rfl 0 rfl ?_
        obtain ⟨v36, e37, h⟩ := bo_some h
        refine g_getR O dX12_isBorn_71 fl_X12_61 rfl e37 ?_
        refine g_iload_n O dX12_isBorn_74 rfl 1 rfl ?_
        obtain ⟨v38, e39, h⟩ := bo_some h
        refine g_iaload O dX12_isBorn_75 e39 ?_
        obtain ⟨σ40, e41, h⟩ := bo_some h
        refine g_iastore O dX12_isBorn_76 e41 ?_
        refine g_aload_n O dX12_isBorn_77 rfl 0 rfl ?_
        refine g_dup O dX12_isBorn_78 rfl ?_
        obtain ⟨v42, e43, h⟩ := bo_some h
        refine g_getI O dX12_isBorn_79 fl_X12_389 rfl e43 ?_
        refine g_iconst (v := (1 : Int32)) O dX12_isBorn_82 rfl ?_
        refine g_aload_n O dX12_isBorn_83 rfl 0 rfl ?_
        obtain ⟨v44, e45, h⟩ := bo_some h
        refine g_getI O dX12_isBorn_84 fl_X12_386 rfl e45 ?_
        refine g_ishl O dX12_isBorn_87 ?_
        refine g_ior O dX12_isBorn_88 ?_
        obtain ⟨σ46, e47, h⟩ := bo_some h
        refine g_putI O dX12_isBorn_89 fl_X12_389 (Or.inl rfl) rfl e47 ?_
        refine g_aload_n O dX12_isBorn_92 rfl 0 rfl ?_
        refine g_dup O dX12_isBorn_93 rfl ?_
        obtain ⟨v48, e49, h⟩ := bo_some h
        refine g_getI O dX12_isBorn_94 fl_X12_386 rfl e49 ?_
        refine g_iconst (v := (1 : Int32)) O dX12_isBorn_97 rfl ?_
        refine g_iadd O dX12_isBorn_98 ?_
        obtain ⟨σ50, e51, h⟩ := bo_some h
        refine g_putI O dX12_isBorn_99 fl_X12_386 (Or.inl rfl) rfl e51 ?_
        refine g_iconst (v := (1 : Int32)) O dX12_isBorn_102 rfl ?_
        cases h
        exact g_zreturn O (by decide) K dX12_isBorn_103
theorem c_X12_isBorn (l0 : Launch) (a0 : Nat) (x1 : Int32) (x2 : Int32) (σ : Dt) (r : Int32) (σ' : Dt) (h : f_X12_isBorn a0 x1 x2 σ = some (r, σ')) : Ctr l0 yX12_isBorn cX12_isBorn 3 (some .boolean) false 4 123 0 0 [vA (some a0), vI x1, vI x2] SM σ SM σ' (some (vI r)) := ctr_of (by decide) (Nat.le_of_ble_eq_true rfl) (fun M O F R0 N hn => t_X12_isBorn O R0 N hn a0 x1 x2 σ (r, σ') h F)
def f_X12_covers (a0 : Nat) (x1 : Int32) (σ : Dt) : Option (Int32 × Dt) := bo (xrc SM 12 (some a0)) fun a1 => bo (f_X12_lives a1 x1 σ) fun v3 => if v3 = 0 then some ((0 : Int32), σ) else bo (xgr SM 12 34 (some a0) σ) fun v6 => bo (xai SM v6 x1 σ) fun v8 => if v8 < (10 : Int32) then bo (xgi SM 12 30 (some a0) σ) fun v11 => bo (xpi SM 12 30 (some a0) (v11 ||| ((1 : Int32) <<< (x1 &&& 31))) σ) fun σ13 => some ((1 : Int32), σ13) else some ((0 : Int32), σ)
theorem t_X12_covers {M : Mx} {l0 : Launch} (O : Ok M cX12_covers yX12_covers) (R0 : Rm M l0 4 123 0 0) (N : Ma M = false) (hn : Mn M = 2) (a0 : Nat) (x1 : Int32) (σ : Dt) (o : (Int32 × Dt)) (h : f_X12_covers a0 x1 σ = some o) (K : Fin' M (some .boolean) 0 0 SM o.2 (some (vI o.1))) : G M 0 0 0 [(0, vA (some a0)), (1, vI x1)] [] SM σ := by
  unfold f_X12_covers at h
  refine g_aload_n O dX12_covers_0 rfl 0 rfl ?_
  refine g_iload_n O dX12_covers_1 rfl 1 rfl ?_
  obtain ⟨a1, e2, h⟩ := bo_some h
  obtain ⟨v3, e4, h⟩ := bo_some h
  refine g_cV1 O R0 N dX12_covers_2 vl_X12_404 vv_X12_lives e2 [vI x1] rfl rfl rfl ⟨Nat.le_of_ble_eq_true rfl, Nat.le_of_ble_eq_true rfl⟩ (c_X12_lives l0 a1 x1 σ v3 e4) ?_
  refine g_if_eq O dX12_covers_5 rfl (fun c5 => ?_) (fun c5 => ?_)
  · replace h := (if_pos c5).symm.trans h
    refine g_iconst (v := (0 : Int32)) O dX12_covers_19 rfl ?_
    cases h
    exact g_zreturn O (by decide) K dX12_covers_20
  · replace h := (if_neg c5).symm.trans h
    refine g_aload_n O dX12_covers_8 rfl 0 rfl ?_
    obtain ⟨v6, e7, h⟩ := bo_some h
    refine g_getR O dX12_covers_9 fl_X12_55 rfl e7 ?_
    refine g_iload_n O dX12_covers_12 rfl 1 rfl ?_
    obtain ⟨v8, e9, h⟩ := bo_some h
    refine g_iaload O dX12_covers_13 e9 ?_
    refine g_bipush (v := (10 : Int32)) O dX12_covers_14 rfl ?_
    refine g_icmp_lt O dX12_covers_16 rfl (fun c10 => ?_) (fun c10 => ?_)
    · replace h := (if_pos c10).symm.trans h
      refine g_aload_n O dX12_covers_21 rfl 0 rfl ?_
      refine g_dup O dX12_covers_22 rfl ?_
      obtain ⟨v11, e12, h⟩ := bo_some h
      refine g_getI O dX12_covers_23 fl_X12_392 rfl e12 ?_
      refine g_iconst (v := (1 : Int32)) O dX12_covers_26 rfl ?_
      refine g_iload_n O dX12_covers_27 rfl 1 rfl ?_
      refine g_ishl O dX12_covers_28 ?_
      refine g_ior O dX12_covers_29 ?_
      obtain ⟨σ13, e14, h⟩ := bo_some h
      refine g_putI O dX12_covers_30 fl_X12_392 (Or.inl rfl) rfl e14 ?_
      refine g_iconst (v := (1 : Int32)) O dX12_covers_33 rfl ?_
      cases h
      exact g_zreturn O (by decide) K dX12_covers_34
    · replace h := (if_neg c10).symm.trans h
      refine g_iconst (v := (0 : Int32)) O dX12_covers_19 rfl ?_
      cases h
      exact g_zreturn O (by decide) K dX12_covers_20
theorem c_X12_covers (l0 : Launch) (a0 : Nat) (x1 : Int32) (σ : Dt) (r : Int32) (σ' : Dt) (h : f_X12_covers a0 x1 σ = some (r, σ')) : Ctr l0 yX12_covers cX12_covers 2 (some .boolean) false 4 123 0 0 [vA (some a0), vI x1] SM σ SM σ' (some (vI r)) := ctr_of (by decide) (Nat.le_of_ble_eq_true rfl) (fun M O F R0 N hn => t_X12_covers O R0 N hn a0 x1 σ (r, σ') h F)
