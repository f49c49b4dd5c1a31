def P_X12_share_52 (M : Mx) (a0 : Nat) (x3 : Int32) (x4 : Int32) (y5 : Int64) (s : (Int64 × Int32 × Dt)) : Prop := G M 0 0 52 [(0, vA (some a0)), (3, vI x3), (4, vI x4), (5, vJ y5), (7, vJ s.1), (9, vI s.2.1)] [] SM s.2.2
def E_X12_share_52 (M : Mx) (a0 : Nat) (x3 : Int32) (x4 : Int32) (y5 : Int64) : (Int64 × Dt) → Prop := (fun w => G M 0 0 88 [(4, vI x4), (5, vJ y5), (7, vJ w.1)] [] SM w.2)
def f_X12_share_74 (a0 : Nat) (x3 : Int32) (x4 : Int32) (y5 : Int64) (x9 : Int32) (k0 : Int64) (k1 : Int64) (σ : Dt) : Option ((Int64 × Int32 × Dt) ⊕ (Int64 × Dt)) := bo (xrc SM 12 (some a0)) fun a1 => bd (f_X12_nextFit a1 x9 σ) fun v3 σ4 => some (.inl ((k0 + k1), v3, σ4))
theorem t_X12_share_74 {M : Mx} {l0 : Launch} (O : Ok M cX12_share yX12_share) (R0 : Rm M l0 11 285 0 0) (N : Ma M = false) (hn : Mn M = 10)  (a0 : Nat) (x3 : Int32) (x4 : Int32) (y5 : Int64) (x9 : Int32) (k0 : Int64) (k1 : Int64) (σ : Dt) (o : ((Int64 × Int32 × Dt) ⊕ (Int64 × Dt))) (h : f_X12_share_74 a0 x3 x4 y5 x9 k0 k1 σ = some o) (K : kon (P_X12_share_52 M a0 x3 x4 y5) (E_X12_share_52 M a0 x3 x4 y5) o) : G M 0 0 74 [(0, vA (some a0)), (3, vI x3), (4, vI x4), (5, vJ y5), (9, vI x9)] [vJ k1, vJ k0] SM σ := by
  unfold f_X12_share_74 at h
  refine g_ladd O dX12_share_74 ?_
  refine g_lstore (lv' := [(7, vJ (k0 + k1)), (0, vA (some a0)), (3, vI x3), (4, vI x4), (5, vJ y5), (9, vI x9)]) O dX12_share_75 10 hn (by decide) rfl ?_
  refine g_aload_n O dX12_share_77 rfl 1 rfl ?_
  refine g_iload O dX12_share_78 5 rfl ?_
  obtain ⟨a1, e2, h⟩ := bo_some h
  obtain ⟨v3, σ4, e5, h⟩ := bd_some h
  refine g_cV1 O R0 N dX12_share_80 vl_X12_472 vv_X12_nextFit e2 [vI x9] rfl rfl rfl ⟨Nat.le_of_ble_eq_true rfl, Nat.le_of_ble_eq_true rfl⟩ (c_X12_nextFit l0 a1 x9 σ v3 σ4 e5) ?_
  refine g_istore (lv' := [(9, vI v3), (7, vJ (k0 + k1)), (0, vA (some a0)), (3, vI x3), (4, vI x4), (5, vJ y5)]) O dX12_share_83 10 hn (by decide) rfl ?_
  refine g_goto O dX12_share_85 rfl ?_
  refine g_sub [2, 3, 4, 5, 1, 0] (lv' := [(0, vA (some a0)), (3, vI x3), (4, vI x4), (5, vJ y5), (7, vJ (k0 + k1)), (9, vI v3)]) rfl ?_
  cases h
  exact K
def f_X12_share_L52 (a0 : Nat) (x3 : Int32) (x4 : Int32) (y5 : Int64) (y7 : Int64) (x9 : Int32) (σ : Dt) : Option ((Int64 × Int32 × Dt) ⊕ (Int64 × Dt)) := if x9 = (-1 : Int32) then some (.inr (y7, σ)) else if (x9 / (10 : Int32)) = x3 then f_X12_share_74 a0 x3 x4 y5 x9 y7 (1 : Int64) σ else f_X12_share_74 a0 x3 x4 y5 x9 y7 (0 : Int64) σ
theorem t_X12_share_L52 {M : Mx} {l0 : Launch} (O : Ok M cX12_share yX12_share) (R0 : Rm M l0 11 285 0 0) (N : Ma M = false) (hn : Mn M = 10) (a0 : Nat) (x3 : Int32) (x4 : Int32) (y5 : Int64) (y7 : Int64) (x9 : Int32) (σ : Dt) (o : ((Int64 × Int32 × Dt) ⊕ (Int64 × Dt))) (h : f_X12_share_L52 a0 x3 x4 y5 y7 x9 σ = some o) (K : kon (P_X12_share_52 M a0 x3 x4 y5) (E_X12_share_52 M a0 x3 x4 y5) o) : G M 0 0 52 [(0, vA (some a0)), (3, vI x3), (4, vI x4), (5, vJ y5), (7, vJ y7), (9, vI x9)] [] SM σ := by
  unfold f_X12_share_L52 at h
  refine g_iload O dX12_share_52 5 rfl ?_
  refine g_iconst (v := (-1 : Int32)) O dX12_share_54 rfl ?_
  refine g_icmp_eq O dX12_share_55 rfl (fun c1 => ?_) (fun c1 => ?_)
  · replace h := (if_pos c1).symm.trans h
    refine g_sub [2, 3, 4] (lv' := [(4, vI x4), (5, vJ y5), (7, vJ y7)]) rfl ?_
    cases h
    exact K
  · replace h := (if_neg c1).symm.trans h
    refine g_lload O dX12_share_58 4 rfl ?_
    refine g_iload O dX12_share_60 5 rfl ?_
    refine g_bipush (v := (10 : Int32)) O dX12_share_62 rfl ?_
    refine g_idiv O dX12_share_64 (by decide) ?_
    refine g_iload_n O dX12_share_65 rfl 1 rfl ?_
    refine g_icmp_ne O dX12_share_66 rfl (fun c2 => ?_) (fun c2 => ?_)
    · replace h := (if_pos c2).symm.trans h
      refine g_lconst (v := (1 : Int64)) O dX12_share_69 rfl ?_
      refine g_goto O dX12_share_70 rfl ?_
      refine g_sub [0, 1, 2, 3, 5] (lv' := [(0, vA (some a0)), (3, vI x3), (4, vI x4), (5, vJ y5), (9, vI x9)]) rfl ?_
      exact t_X12_share_74 O R0 N hn a0 x3 x4 y5 x9 y7 (1 : Int64) σ o h K
    · replace h := (if_neg c2).symm.trans h
      refine g_lconst (v := (0 : Int64)) O dX12_share_73 rfl ?_
      refine g_sub [0, 1, 2, 3, 5] (lv' := [(0, vA (some a0)), (3, vI x3), (4, vI x4), (5, vJ y5), (9, vI x9)]) rfl ?_
      exact t_X12_share_74 O R0 N hn a0 x3 x4 y5 x9 y7 (0 : Int64) σ o h K
def f_X12_share (a0 : Nat) (x1 : Int32) (x2 : Int32) (x3 : Int32) (x4 : Int32) (σ : Dt) : Option (Int64 × Dt) := bo (xrc SM 12 (some a0)) fun a1 => bd (f_X12_isValley a1 x1 σ) fun v3 σ4 => if v3 = 0 then some ((-1 : Int64), σ4) else bo (xrc SM 12 (some a0)) fun a7 => bd (f_X12_isSight a7 x2 σ4) fun v9 σ10 => if v9 = 0 then some ((-1 : Int64), σ10) else bo (xrc SM 12 (some a0)) fun a13 => bo (f_X12_areWorks a13 σ10) fun v15 => if v15 = 0 then some ((-1 : Int64), σ10) else bo (xrc SM 12 (some a0)) fun a18 => bo (f_X12_isFolk a18 x3 σ10) fun v20 => if v20 = 0 then some ((-1 : Int64), σ10) else bo (xrc SM 12 (some a0)) fun a23 => bd (f_X12_manyFit a23 σ10) fun v25 σ26 => bo (xrc SM 12 (some a0)) fun a28 => bd (f_X12_nextFit a28 (-1 : Int32) σ26) fun v30 σ31 => bo (iter FU (fun s => f_X12_share_L52 a0 x3 x4 (Int32.toInt64 v25) s.1 s.2.1 s.2.2) ((0 : Int64), v30, σ31)) fun w33 => if (lg_cmp (Int32.toInt64 v25) (0 : Int64)) = 0 then some ((-1 : Int64), w33.2) else bo (f_X12_parted w33.1 (Int32.toInt64 v25) x4 w33.2) fun v36 => some (v36, w33.2)
theorem t_X12_share {M : Mx} {l0 : Launch} (O : Ok M cX12_share yX12_share) (R0 : Rm M l0 11 285 0 0) (N : Ma M = false) (hn : Mn M = 10) (a0 : Nat) (x1 : Int32) (x2 : Int32) (x3 : Int32) (x4 : Int32) (σ : Dt) (o : (Int64 × Dt)) (h : f_X12_share a0 x1 x2 x3 x4 σ = some o) (K : Fin' M (some .long) 0 0 SM o.2 (some (vJ o.1))) : G M 0 0 0 [(0, vA (some a0)), (1, vI x1), (2, vI x2), (3, vI x3), (4, vI x4)] [] SM σ := by
  unfold f_X12_share at h
  refine g_aload_n O dX12_share_0 rfl 0 rfl ?_
  refine g_iload_n O dX12_share_1 rfl 1 rfl ?_
  obtain ⟨a1, e2, h⟩ := bo_some h
  obtain ⟨v3, σ4, e5, h⟩ := bd_some h
  refine g_cV1 O R0 N dX12_share_2 vl_X12_220 vv_X12_isValley e2 [vI x1] rfl rfl rfl ⟨Nat.le_of_ble_eq_true rfl, Nat.le_of_ble_eq_true rfl⟩ (c_X12_isValley l0 a1 x1 σ v3 σ4 e5) ?_
  refine g_if_eq O dX12_share_5 rfl (fun c6 => ?_) (fun c6 => ?_)
  · replace h := (if_pos c6).symm.trans h
    refine g_ldc2 O dX12_share_31 w1844 ?_
    cases h
    exact g_lreturn O K dX12_share_34
  · replace h := (if_neg c6).symm.trans h
    refine g_aload_n O dX12_share_8 rfl 0 rfl ?_
    refine g_iload_n O dX12_share_9 rfl 2 rfl ?_
    obtain ⟨a7, e8, h⟩ := bo_some h
    obtain ⟨v9, σ10, e11, h⟩ := bd_some h
    refine g_cV1 O R0 N dX12_share_10 vl_X12_463 vv_X12_isSight e8 [vI x2] rfl rfl rfl ⟨Nat.le_of_ble_eq_true rfl, Nat.le_of_ble_eq_true rfl⟩ (c_X12_isSight l0 a7 x2 σ4 v9 σ10 e11) ?_
    refine g_if_eq O dX12_share_13 rfl (fun c12 => ?_) (fun c12 => ?_)
    · replace h := (if_pos c12).symm.trans h
      refine g_ldc2 O dX12_share_31 w1844 ?_
      cases h
      exact g_lreturn O K dX12_share_34
    · replace h := (if_neg c12).symm.trans h
      refine g_aload_n O dX12_share_16 rfl 0 rfl ?_
      obtain ⟨a13, e14, h⟩ := bo_some h
      obtain ⟨v15, e16, h⟩ := bo_some h
      refine g_cV1 O R0 N dX12_share_17 vl_X12_478 vv_X12_areWorks e14 [] rfl rfl rfl ⟨Nat.le_of_ble_eq_true rfl, Nat.le_of_ble_eq_true rfl⟩ (c_X12_areWorks l0 a13 σ10 v15 e16) ?_
      refine g_if_eq O dX12_share_20 rfl (fun c17 => ?_) (fun c17 => ?_)
      · replace h := (if_pos c17).symm.trans h
        refine g_ldc2 O dX12_share_31 w1844 ?_
        cases h
        exact g_lreturn O K dX12_share_34
      · replace h := (if_neg c17).symm.trans h
        refine g_aload_n O dX12_share_23 rfl 0 rfl ?_
        refine g_iload_n O dX12_share_24 rfl 3 rfl ?_
        obtain ⟨a18, e19, h⟩ := bo_some h
        obtain ⟨v20, e21, h⟩ := bo_some h
        refine g_cV1 O R0 N dX12_share_25 vl_X12_223 vv_X12_isFolk e19 [vI x3] rfl rfl rfl ⟨Nat.le_of_ble_eq_true rfl, Nat.le_of_ble_eq_true rfl⟩ (c_X12_isFolk l0 a18 x3 σ10 v20 e21) ?_
        refine g_if_ne O dX12_share_28 rfl (fun c22 => ?_) (fun c22 => ?_)
        · replace h := (if_pos c22).symm.trans h
          refine g_ldc2 O dX12_share_31 w1844 ?_
          cases h
          exact g_lreturn O K dX12_share_34
        · replace h := (if_neg c22).symm.trans h
          refine g_aload_n O dX12_share_35 rfl 0 rfl ?_
          obtain ⟨a23, e24, h⟩ := bo_some h
          obtain ⟨v25, σ26, e27, h⟩ := bd_some h
          refine g_cV1 O R0 N dX12_share_36 vl_X12_481 vv_X12_manyFit e24 [] rfl rfl rfl ⟨Nat.le_of_ble_eq_true rfl, Nat.le_of_ble_eq_true rfl⟩ (c_X12_manyFit l0 a23 σ10 v25 σ26 e27) ?_
          refine g_i2l O dX12_share_39 ?_
          refine g_lstore (lv' := [(5, vJ (Int32.toInt64 v25)), (0, vA (some a0)), (1, vI x1), (2, vI x2), (3, vI x3), (4, vI x4)]) O dX12_share_40 10 hn (by decide) rfl ?_
          refine g_lconst (v := (0 : Int64)) O dX12_share_42 rfl ?_
          refine g_lstore (lv' := [(7, vJ (0 : Int64)), (5, vJ (Int32.toInt64 v25)), (0, vA (some a0)), (1, vI x1), (2, vI x2), (3, vI x3), (4, vI x4)]) O dX12_share_43 10 hn (by decide) rfl ?_
          refine g_aload_n O dX12_share_45 rfl 2 rfl ?_
          refine g_iconst (v := (-1 : Int32)) O dX12_share_46 rfl ?_
          obtain ⟨a28, e29, h⟩ := bo_some h
          obtain ⟨v30, σ31, e32, h⟩ := bd_some h
          refine g_cV1 O R0 N dX12_share_47 vl_X12_472 vv_X12_nextFit e29 [vI (-1 : Int32)] rfl rfl rfl ⟨Nat.le_of_ble_eq_true rfl, Nat.le_of_ble_eq_true rfl⟩ (c_X12_nextFit l0 a28 (-1 : Int32) σ26 v30 σ31 e32) ?_
          refine g_istore (lv' := [(9, vI v30), (7, vJ (0 : Int64)), (5, vJ (Int32.toInt64 v25)), (0, vA (some a0)), (1, vI x1), (2, vI x2), (3, vI x3), (4, vI x4)]) O dX12_share_50 10 hn (by decide) rfl ?_
          refine g_sub [3, 6, 7, 2, 1, 0] (lv' := [(0, vA (some a0)), (3, vI x3), (4, vI x4), (5, vJ (Int32.toInt64 v25)), (7, vJ (0 : Int64)), (9, vI v30)]) rfl ?_
          obtain ⟨w33, e34, h⟩ := bo_some h
          refine iter_G (P := P_X12_share_52 M a0 x3 x4 (Int32.toInt64 v25)) (E := E_X12_share_52 M a0 x3 x4 (Int32.toInt64 v25)) (fun s o hb hk => t_X12_share_L52 O R0 N hn a0 x3 x4 (Int32.toInt64 v25) s.1 s.2.1 s.2.2 o hb hk) FU ((0 : Int64), v30, σ31) w33 e34 ?_
          show G M 0 0 88 [(4, vI x4), (5, vJ (Int32.toInt64 v25)), (7, vJ w33.1)] [] SM w33.2
          refine g_lload O dX12_share_88 1 rfl ?_
          refine g_lconst (v := (0 : Int64)) O dX12_share_90 rfl ?_
          refine g_lcmp O dX12_share_91 ?_
          refine g_if_ne O dX12_share_92 rfl (fun c35 => ?_) (fun c35 => ?_)
          · replace h := (if_pos c35).symm.trans h
            refine g_ldc2 O dX12_share_95 w1844 ?_
            refine g_goto O dX12_share_98 rfl ?_
            cases h
            exact g_lreturn O K dX12_share_110
          · replace h := (if_neg c35).symm.trans h
            refine g_lload O dX12_share_101 2 rfl ?_
            refine g_lload O dX12_share_103 1 rfl ?_
            refine g_iload O dX12_share_105 0 rfl ?_
            obtain ⟨v36, e37, h⟩ := bo_some h
            refine g_cS1 O R0 N dX12_share_107 vl_X12_312 w1850 [vJ w33.1, vJ (Int32.toInt64 v25), vI x4] rfl rfl rfl ⟨Nat.le_of_ble_eq_true rfl, Nat.le_of_ble_eq_true rfl⟩ (c_X12_parted l0 w33.1 (Int32.toInt64 v25) x4 w33.2 v36 e37) ?_
            cases h
            exact g_lreturn O K dX12_share_110
theorem c_X12_share (l0 : Launch) (a0 : Nat) (x1 : Int32) (x2 : Int32) (x3 : Int32) (x4 : Int32) (σ : Dt) (r : Int64) (σ' : Dt) (h : f_X12_share a0 x1 x2 x3 x4 σ = some (r, σ')) : Ctr l0 yX12_share cX12_share 10 (some .long) false 11 285 0 0 [vA (some a0), vI x1, vI x2, vI x3, vI x4] SM σ SM σ' (some (vJ r)) := ctr_of (by decide) (Nat.le_of_ble_eq_true rfl) (fun M O F R0 N hn => t_X12_share O R0 N hn a0 x1 x2 x3 x4 σ (r, σ') h F)
def P_X12_later_35 (M : Mx) (a0 : Nat) (s : (Int32 × Int32 × Dt)) : Prop := G M 0 0 35 [(0, vA (some a0)), (3, vI s.1), (4, vI s.2.1)] [] SM s.2.2
def E_X12_later_35 (M : Mx) (a0 : Nat) : (Int32 × Dt) → Prop := (fun w => G M 0 0 88 [(3, vI w.1)] [] SM w.2)
def f_X12_later_75 (a0 : Nat) (x4 : Int32) (k0 : Int32) (k1 : Int32) (σ : Dt) : Option ((Int32 × Int32 × Dt) ⊕ (Int32 × Dt)) := bo (xrc SM 12 (some a0)) fun a1 => bd (f_X12_nextFit a1 x4 σ) fun v3 σ4 => some (.inl ((k0 + k1), v3, σ4))
theorem t_X12_later_75 {M : Mx} {l0 : Launch} (O : Ok M cX12_later yX12_later) (R0 : Rm M l0 10 263 0 0) (N : Ma M = false) (hn : Mn M = 5)  (a0 : Nat) (x4 : Int32) (k0 : Int32) (k1 : Int32) (σ : Dt) (o : ((Int32 × Int32 × Dt) ⊕ (Int32 × Dt))) (h : f_X12_later_75 a0 x4 k0 k1 σ = some o) (K : kon (P_X12_later_35 M a0) (E_X12_later_35 M a0) o) : G M 0 0 75 [(0, vA (some a0)), (4, vI x4)] [vI k1, vI k0] SM σ := by
  unfold f_X12_later_75 at h
  refine g_iadd O dX12_later_75 ?_
  refine g_istore_n (lv' := [(3, vI (k0 + k1)), (0, vA (some a0)), (4, vI x4)]) O dX12_later_76 rfl 5 hn (by decide) rfl ?_
  refine g_aload_n O dX12_later_77 rfl 1 rfl ?_
  refine g_iload O dX12_later_78 2 rfl ?_
  obtain ⟨a1, e2, h⟩ := bo_some h
  obtain ⟨v3, σ4, e5, h⟩ := bd_some h
  refine g_cV1 O R0 N dX12_later_80 vl_X12_472 vv_X12_nextFit e2 [vI x4] rfl rfl rfl ⟨Nat.le_of_ble_eq_true rfl, Nat.le_of_ble_eq_true rfl⟩ (c_X12_nextFit l0 a1 x4 σ v3 σ4 e5) ?_
  refine g_istore (lv' := [(4, vI v3), (3, vI (k0 + k1)), (0, vA (some a0))]) O dX12_later_83 5 hn (by decide) rfl ?_
  refine g_goto O dX12_later_85 rfl ?_
  refine g_sub [2, 1, 0] (lv' := [(0, vA (some a0)), (3, vI (k0 + k1)), (4, vI v3)]) rfl ?_
  cases h
  exact K
def f_X12_later_L35 (a0 : Nat) (x3 : Int32) (x4 : Int32) (σ : Dt) : Option ((Int32 × Int32 × Dt) ⊕ (Int32 × Dt)) := if x4 = (-1 : Int32) then some (.inr (x3, σ)) else bo (xrc SM 12 (some a0)) fun a2 => bd (f_X12_lasts a2 (x4 / (10 : Int32)) (x4 - x4 / (10 : Int32) * (10 : Int32)) (9 : Int32) σ) fun v4 σ5 => bo (xrc SM 12 (some a0)) fun a7 => bo (f_X12_isDone a7 (x4 - x4 / (10 : Int32) * (10 : Int32)) σ5) fun v9 => if v9 = 0 then f_X12_later_75 a0 x4 x3 (0 : Int32) σ5 else f_X12_later_75 a0 x4 x3 (1 : Int32) σ5
theorem t_X12_later_L35 {M : Mx} {l0 : Launch} (O : Ok M cX12_later yX12_later) (R0 : Rm M l0 10 263 0 0) (N : Ma M = false) (hn : Mn M = 5) (a0 : Nat) (x3 : Int32) (x4 : Int32) (σ : Dt) (o : ((Int32 × Int32 × Dt) ⊕ (Int32 × Dt))) (h : f_X12_later_L35 a0 x3 x4 σ = some o) (K : kon (P_X12_later_35 M a0) (E_X12_later_35 M a0) o) : G M 0 0 35 [(0, vA (some a0)), (3, vI x3), (4, vI x4)] [] SM σ := by
  unfold f_X12_later_L35 at h
  refine g_iload O dX12_later_35 2 rfl ?_
  refine g_iconst (v := (-1 : Int32)) O dX12_later_37 rfl ?_
  refine g_icmp_eq O dX12_later_38 rfl (fun c1 => ?_) (fun c1 => ?_)
  · replace h := (if_pos c1).symm.trans h
    refine g_sub [1] (lv' := [(3, vI x3)]) rfl ?_
    cases h
    exact K
  · replace h := (if_neg c1).symm.trans h
    refine g_aload_n O dX12_later_41 rfl 0 rfl ?_
    refine g_iload O dX12_later_42 2 rfl ?_
    refine g_bipush (v := (10 : Int32)) O dX12_later_44 rfl ?_
    refine g_idiv O dX12_later_46 (by decide) ?_
    refine g_iload O dX12_later_47 2 rfl ?_
    refine g_bipush (v := (10 : Int32)) O dX12_later_49 rfl ?_
    refine g_irem O dX12_later_51 (by decide) ?_
    refine g_bipush (v := (9 : Int32)) O dX12_later_52 rfl ?_
    obtain ⟨a2, e3, h⟩ := bo_some h
    obtain ⟨v4, σ5, e6, h⟩ := bd_some h
    refine g_cV0 O R0 N dX12_later_54 vl_X12_466 vv_X12_lasts e3 [vI (x4 / (10 : Int32)), vI (x4 - x4 / (10 : Int32) * (10 : Int32)), vI (9 : Int32)] rfl rfl rfl ⟨Nat.le_of_ble_eq_true rfl, Nat.le_of_ble_eq_true rfl⟩ (c_X12_lasts l0 a2 (x4 / (10 : Int32)) (x4 - x4 / (10 : Int32) * (10 : Int32)) (9 : Int32) σ v4 σ5 e6) ?_
    refine g_iload_n O dX12_later_57 rfl 1 rfl ?_
    refine g_aload_n O dX12_later_58 rfl 0 rfl ?_
    refine g_iload O dX12_later_59 2 rfl ?_
    refine g_bipush (v := (10 : Int32)) O dX12_later_61 rfl ?_
    refine g_irem O dX12_later_63 (by decide) ?_
    obtain ⟨a7, e8, h⟩ := bo_some h
    obtain ⟨v9, e10, h⟩ := bo_some h
    refine g_cV1 O R0 N dX12_later_64 vl_X12_407 vv_X12_isDone e8 [vI (x4 - x4 / (10 : Int32) * (10 : Int32))] rfl rfl rfl ⟨Nat.le_of_ble_eq_true rfl, Nat.le_of_ble_eq_true rfl⟩ (c_X12_isDone l0 a7 (x4 - x4 / (10 : Int32) * (10 : Int32)) σ5 v9 e10) ?_
    refine g_if_eq O dX12_later_67 rfl (fun c11 => ?_) (fun c11 => ?_)
    · replace h := (if_pos c11).symm.trans h
      refine g_iconst (v := (0 : Int32)) O dX12_later_74 rfl ?_
      refine g_sub [0, 2] (lv' := [(0, vA (some a0)), (4, vI x4)]) rfl ?_
      exact t_X12_later_75 O R0 N hn a0 x4 x3 (0 : Int32) σ5 o h K
    · replace h := (if_neg c11).symm.trans h
      refine g_iconst (v := (1 : Int32)) O dX12_later_70 rfl ?_
      refine g_goto O dX12_later_71 rfl ?_
      refine g_sub [0, 2] (lv' := [(0, vA (some a0)), (4, vI x4)]) rfl ?_
      exact t_X12_later_75 O R0 N hn a0 x4 x3 (1 : Int32) σ5 o h K
def f_X12_later (a0 : Nat) (x1 : Int32) (x2 : Int32) (σ : Dt) : Option (Int32 × Dt) := bo (xrc SM 12 (some a0)) fun a1 => bd (f_X12_isValley a1 x1 σ) fun v3 σ4 => if v3 = 0 then some ((-2 : Int32), σ4) else bo (xrc SM 12 (some a0)) fun a7 => bd (f_X12_isSight a7 x2 σ4) fun v9 σ10 => if v9 = 0 then some ((-2 : Int32), σ10) else bo (xrc SM 12 (some a0)) fun a13 => bo (f_X12_areWorks a13 σ10) fun v15 => if v15 = 0 then some ((-2 : Int32), σ10) else bo (xrc SM 12 (some a0)) fun a18 => bd (f_X12_nextFit a18 (-1 : Int32) σ10) fun v20 σ21 => bo (iter FU (fun s => f_X12_later_L35 a0 s.1 s.2.1 s.2.2) ((0 : Int32), v20, σ21)) fun w23 => some (w23.1, w23.2)
theorem t_X12_later {M : Mx} {l0 : Launch} (O : Ok M cX12_later yX12_later) (R0 : Rm M l0 10 263 0 0) (N : Ma M = false) (hn : Mn M = 5) (a0 : Nat) (x1 : Int32) (x2 : Int32) (σ : Dt) (o : (Int32 × Dt)) (h : f_X12_later a0 x1 x2 σ = some o) (K : Fin' M (some .int) 0 0 SM o.2 (some (vI o.1))) : G M 0 0 0 [(0, vA (some a0)), (1, vI x1), (2, vI x2)] [] SM σ := by
  unfold f_X12_later at h
  refine g_aload_n O dX12_later_0 rfl 0 rfl ?_
  refine g_iload_n O dX12_later_1 rfl 1 rfl ?_
  obtain ⟨a1, e2, h⟩ := bo_some h
  obtain ⟨v3, σ4, e5, h⟩ := bd_some h
  refine g_cV1 O R0 N dX12_later_2 vl_X12_220 vv_X12_isValley e2 [vI x1] rfl rfl rfl ⟨Nat.le_of_ble_eq_true rfl, Nat.le_of_ble_eq_true rfl⟩ (c_X12_isValley l0 a1 x1 σ v3 σ4 e5) ?_
  refine g_if_eq O dX12_later_5 rfl (fun c6 => ?_) (fun c6 => ?_)
  · replace h := (if_pos c6).symm.trans h
    refine g_bipush (v := (-2 : Int32)) O dX12_later_23 rfl ?_
    cases h
    exact g_ireturn O K dX12_later_25
  · replace h := (if_neg c6).symm.trans h
    refine g_aload_n O dX12_later_8 rfl 0 rfl ?_
    refine g_iload_n O dX12_later_9 rfl 2 rfl ?_
    obtain ⟨a7, e8, h⟩ := bo_some h
    obtain ⟨v9, σ10, e11, h⟩ := bd_some h
    refine g_cV1 O R0 N dX12_later_10 vl_X12_463 vv_X12_isSight e8 [vI x2] rfl rfl rfl ⟨Nat.le_of_ble_eq_true rfl, Nat.le_of_ble_eq_true rfl⟩ (c_X12_isSight l0 a7 x2 σ4 v9 σ10 e11) ?_
    refine g_if_eq O dX12_later_13 rfl (fun c12 => ?_) (fun c12 => ?_)
    · replace h := (if_pos c12).symm.trans h
      refine g_bipush (v := (-2 : Int32)) O dX12_later_23 rfl ?_
      cases h
      exact g_ireturn O K dX12_later_25
    · replace h := (if_neg c12).symm.trans h
      refine g_aload_n O dX12_later_16 rfl 0 rfl ?_
      obtain ⟨a13, e14, h⟩ := bo_some h
      obtain ⟨v15, e16, h⟩ := bo_some h
      refine g_cV1 O R0 N dX12_later_17 vl_X12_478 vv_X12_areWorks e14 [] rfl rfl rfl ⟨Nat.le_of_ble_eq_true rfl, Nat.le_of_ble_eq_true rfl⟩ (c_X12_areWorks l0 a13 σ10 v15 e16) ?_
      refine g_if_ne O dX12_later_20 rfl (fun c17 => ?_) (fun c17 => ?_)
      · replace h := (if_pos c17).symm.trans h
        refine g_bipush (v := (-2 : Int32)) O dX12_later_23 rfl ?_
        cases h
        exact g_ireturn O K dX12_later_25
      · replace h := (if_neg c17).symm.trans h
        refine g_iconst (v := (0 : Int32)) O dX12_later_26 rfl ?_
        refine g_istore_n (lv' := [(3, vI (0 : Int32)), (0, vA (some a0)), (1, vI x1), (2, vI x2)]) O dX12_later_27 rfl 5 hn (by decide) rfl ?_
        refine g_aload_n O dX12_later_28 rfl 1 rfl ?_
        refine g_iconst (v := (-1 : Int32)) O dX12_later_29 rfl ?_
        obtain ⟨a18, e19, h⟩ := bo_some h
        obtain ⟨v20, σ21, e22, h⟩ := bd_some h
        refine g_cV1 O R0 N dX12_later_30 vl_X12_472 vv_X12_nextFit e19 [vI (-1 : Int32)] rfl rfl rfl ⟨Nat.le_of_ble_eq_true rfl, Nat.le_of_ble_eq_true rfl⟩ (c_X12_nextFit l0 a18 (-1 : Int32) σ10 v20 σ21 e22) ?_
        refine g_istore (lv' := [(4, vI v20), (3, vI (0 : Int32)), (0, vA (some a0)), (1, vI x1), (2, vI x2)]) O dX12_later_33 5 hn (by decide) rfl ?_
        refine g_sub [2, 1, 0] (lv' := [(0, vA (some a0)), (3, vI (0 : Int32)), (4, vI v20)]) rfl ?_
        obtain ⟨w23, e24, h⟩ := bo_some h
        refine iter_G (P := P_X12_later_35 M a0) (E := E_X12_later_35 M a0) (fun s o hb hk => t_X12_later_L35 O R0 N hn a0 s.1 s.2.1 s.2.2 o hb hk) FU ((0 : Int32), v20, σ21) w23 e24 ?_
        show G M 0 0 88 [(3, vI w23.1)] [] SM w23.2
        refine g_iload_n O dX12_later_88 rfl 0 rfl ?_
        cases h
        exact g_ireturn O K dX12_later_89
theorem c_X12_later (l0 : Launch) (a0 : Nat) (x1 : Int32) (x2 : Int32) (σ : Dt) (r : Int32) (σ' : Dt) (h : f_X12_later a0 x1 x2 σ = some (r, σ')) : Ctr l0 yX12_later cX12_later 5 (some .int) false 10 263 0 0 [vA (some a0), vI x1, vI x2] SM σ SM σ' (some (vI r)) := ctr_of (by decide) (Nat.le_of_ble_eq_true rfl) (fun M O F R0 N hn => t_X12_later O R0 N hn a0 x1 x2 σ (r, σ') h F)
def f_X12_below (a0 : Nat) (x1 : Int32) (σ : Dt) : Option (Int32 × Dt) := bo (xgi SM 12 47 (some a0) σ) fun v1 => bo (xpi SM 12 47 (some a0) ((v1 * (1103515245 : Int32)) + (12345 : Int32)) σ) fun σ3 => bo (xgi SM 12 47 (some a0) σ3) fun v5 => if x1 = 0 then none else some ((((Int32.toUInt32 v5 >>> (Int32.toUInt32 (16 : Int32) &&& Int32.toUInt32 31)).toInt32) - ((Int32.toUInt32 v5 >>> (Int32.toUInt32 (16 : Int32) &&& Int32.toUInt32 31)).toInt32) / x1 * x1), σ3)
theorem t_X12_below {M : Mx} {l0 : Launch} (O : Ok M cX12_below yX12_below) (R0 : Rm M l0 2 80 0 0) (N : Ma M = false) (hn : Mn M = 2) (a0 : Nat) (x1 : Int32) (σ : Dt) (o : (Int32 × Dt)) (h : f_X12_below a0 x1 σ = some o) (K : Fin' M (some .int) 0 0 SM o.2 (some (vI o.1))) : G M 0 0 0 [(0, vA (some a0)), (1, vI x1)] [] SM σ := by
  unfold f_X12_below at h
  refine g_aload_n O dX12_below_0 rfl 0 rfl ?_
  refine g_aload_n O dX12_below_1 rfl 0 rfl ?_
  obtain ⟨v1, e2, h⟩ := bo_some h
  refine g_getI O dX12_below_2 fl_X12_490 rfl e2 ?_
  refine g_ldcw O dX12_below_5 w2126 ?_
  refine g_imul O dX12_below_8 ?_
  refine g_sipush (v := (12345 : Int32)) O dX12_below_9 rfl ?_
  refine g_iadd O dX12_below_12 ?_
  obtain ⟨σ3, e4, h⟩ := bo_some h
  refine g_putI O dX12_below_13 fl_X12_490 (Or.inl rfl) rfl e4 ?_
  refine g_aload_n O dX12_below_16 rfl 0 rfl ?_
  obtain ⟨v5, e6, h⟩ := bo_some h
  refine g_getI O dX12_below_17 fl_X12_490 rfl e6 ?_
  refine g_bipush (v := (16 : Int32)) O dX12_below_20 rfl ?_
  refine g_iushr O dX12_below_22 ?_
  refine g_iload_n O dX12_below_23 rfl 1 rfl ?_
  by_cases c7 : x1 = 0
  · rw [if_pos c7] at h; cases h
  replace h := (if_neg c7).symm.trans h
  refine g_irem O dX12_below_24 c7 ?_
  cases h
  exact g_ireturn O K dX12_below_25
theorem c_X12_below (l0 : Launch) (a0 : Nat) (x1 : Int32) (σ : Dt) (r : Int32) (σ' : Dt) (h : f_X12_below a0 x1 σ = some (r, σ')) : Ctr l0 yX12_below cX12_below 2 (some .int) false 2 80 0 0 [vA (some a0), vI x1] SM σ SM σ' (some (vI r)) := ctr_of (by decide) (Nat.le_of_ble_eq_true rfl) (fun M O F R0 N hn => t_X12_below O R0 N hn a0 x1 σ (r, σ') h F)
def f_X12_draws_80 (a0 : Nat) (x2 : Int32) (σ : Dt) : Option (Unit × Dt) := bo (xgi SM 12 13 (some a0) σ) fun v1 => bo (xrc SM 12 (some a0)) fun a3 => bd (f_X12_below a3 v1 σ) fun v5 σ6 => bo (xrc SM 12 (some a0)) fun a8 => bd (f_X12_below a8 (9 : Int32) σ6) fun v10 σ11 => bo (xrc SM 12 (some a0)) fun a13 => bd (f_X12_promises a13 x2 v5 ((1 : Int32) + v10) σ11) fun v15 σ16 => some ((), σ16)
theorem t_X12_draws_80 {M : Mx} {l0 : Launch} (O : Ok M cX12_draws yX12_draws) (R0 : Rm M l0 7 193 0 0) (N : Ma M = false) (hn : Mn M = 4)  (a0 : Nat) (x2 : Int32) (σ : Dt) (o : (Unit × Dt)) (h : f_X12_draws_80 a0 x2 σ = some o) (K : Fin' M (none) 0 0 SM o.2 (none)) : G M 0 0 80 [(0, vA (some a0)), (2, vI x2)] [] SM σ := by
  unfold f_X12_draws_80 at h
  refine g_aload_n O dX12_draws_80 rfl 0 rfl ?_
  refine g_aload_n O dX12_draws_81 rfl 0 rfl ?_
  obtain ⟨v1, e2, h⟩ := bo_some h
  refine g_getI O dX12_draws_82 fl_X12_214 rfl e2 ?_
  obtain ⟨a3, e4, h⟩ := bo_some h
  obtain ⟨v5, σ6, e7, h⟩ := bd_some h
  refine g_cV1 O R0 N dX12_draws_85 vl_X12_494 vv_X12_below e4 [vI v1] rfl rfl rfl ⟨Nat.le_of_ble_eq_true rfl, Nat.le_of_ble_eq_true rfl⟩ (c_X12_below l0 a3 v1 σ v5 σ6 e7) ?_
  refine g_istore_n (lv' := [(3, vI v5), (0, vA (some a0)), (2, vI x2)]) O dX12_draws_88 rfl 4 hn (by decide) rfl ?_
  refine g_aload_n O dX12_draws_89 rfl 1 rfl ?_
  refine g_iload_n O dX12_draws_90 rfl 2 rfl ?_
  refine g_iload_n O dX12_draws_91 rfl 0 rfl ?_
  refine g_iconst (v := (1 : Int32)) O dX12_draws_92 rfl ?_
  refine g_aload_n O dX12_draws_93 rfl 1 rfl ?_
  refine g_bipush (v := (9 : Int32)) O dX12_draws_94 rfl ?_
  obtain ⟨a8, e9, h⟩ := bo_some h
  obtain ⟨v10, σ11, e12, h⟩ := bd_some h
  refine g_cV1 O R0 N dX12_draws_96 vl_X12_494 vv_X12_below e9 [vI (9 : Int32)] rfl rfl rfl ⟨Nat.le_of_ble_eq_true rfl, Nat.le_of_ble_eq_true rfl⟩ (c_X12_below l0 a8 (9 : Int32) σ6 v10 σ11 e12) ?_
  refine g_iadd O dX12_draws_99 ?_
  obtain ⟨a13, e14, h⟩ := bo_some h
  obtain ⟨v15, σ16, e17, h⟩ := bd_some h
  refine g_cV1 O R0 N dX12_draws_100 vl_X12_420 vv_X12_promises e14 [vI x2, vI v5, vI ((1 : Int32) + v10)] rfl rfl rfl ⟨Nat.le_of_ble_eq_true rfl, Nat.le_of_ble_eq_true rfl⟩ (c_X12_promises l0 a13 x2 v5 ((1 : Int32) + v10) σ11 v15 σ16 e17) ?_
  refine g_pop O dX12_draws_103 rfl ?_
  refine g_goto O dX12_draws_104 rfl ?_
  cases h
  exact g_return O K dX12_draws_137
def f_X12_draws_38 (a0 : Nat) (x1 : Int32) (σ : Dt) : Option (Unit × Dt) := bo (xgi SM 12 28 (some a0) σ) fun v1 => bo (xrc SM 12 (some a0)) fun a3 => bd (f_X12_below a3 v1 σ) fun v5 σ6 => if x1 = (0 : Int32) then f_X12_draws_80 a0 v5 σ6 else if x1 = (1 : Int32) then f_X12_draws_80 a0 v5 σ6 else if x1 = (2 : Int32) then bo (xrc SM 12 (some a0)) fun a11 => bd (f_X12_covers a11 v5 σ6) fun v13 σ14 => some ((), σ14) else if x1 = (3 : Int32) then bo (xrc SM 12 (some a0)) fun a17 => bd (f_X12_dies a17 v5 σ6) fun v19 σ20 => some ((), σ20) else bo (xrc SM 12 (some a0)) fun a22 => bd (f_X12_below a22 (10 : Int32) σ6) fun v24 σ25 => bo (xrc SM 12 (some a0)) fun a27 => bd (f_X12_isBorn a27 v5 v24 σ25) fun v29 σ30 => some ((), σ30)
theorem t_X12_draws_38 {M : Mx} {l0 : Launch} (O : Ok M cX12_draws yX12_draws) (R0 : Rm M l0 7 193 0 0) (N : Ma M = false) (hn : Mn M = 4)  (a0 : Nat) (x1 : Int32) (σ : Dt) (o : (Unit × Dt)) (h : f_X12_draws_38 a0 x1 σ = some o) (K : Fin' M (none) 0 0 SM o.2 (none)) : G M 0 0 38 [(0, vA (some a0)), (1, vI x1)] [] SM σ := by
  unfold f_X12_draws_38 at h
  refine g_aload_n O dX12_draws_38 rfl 0 rfl ?_
  refine g_aload_n O dX12_draws_39 rfl 0 rfl ?_
  obtain ⟨v1, e2, h⟩ := bo_some h
  refine g_getI O dX12_draws_40 fl_X12_386 rfl e2 ?_
  obtain ⟨a3, e4, h⟩ := bo_some h
  obtain ⟨v5, σ6, e7, h⟩ := bd_some h
  refine g_cV1 O R0 N dX12_draws_43 vl_X12_494 vv_X12_below e4 [vI v1] rfl rfl rfl ⟨Nat.le_of_ble_eq_true rfl, Nat.le_of_ble_eq_true rfl⟩ (c_X12_below l0 a3 v1 σ v5 σ6 e7) ?_
  refine g_istore_n (lv' := [(2, vI v5), (0, vA (some a0)), (1, vI x1)]) O dX12_draws_46 rfl 4 hn (by decide) rfl ?_
  refine g_iload_n O dX12_draws_47 rfl 2 rfl ?_
  by_cases c8 : x1 = (0 : Int32)
  · replace h := (if_pos c8).symm.trans h
    refine g_tabIn O dX12_draws_48 (by rw [c8]; decide) (by rw [c8]; decide) (by rw [c8]; rfl) rfl ?_
    refine g_sub [1, 0] (lv' := [(0, vA (some a0)), (2, vI v5)]) rfl ?_
    exact t_X12_draws_80 O R0 N hn a0 v5 σ6 o h K
  replace h := (if_neg c8).symm.trans h
  by_cases c9 : x1 = (1 : Int32)
  · replace h := (if_pos c9).symm.trans h
    refine g_tabIn O dX12_draws_48 (by rw [c9]; decide) (by rw [c9]; decide) (by rw [c9]; rfl) rfl ?_
    refine g_sub [1, 0] (lv' := [(0, vA (some a0)), (2, vI v5)]) rfl ?_
    exact t_X12_draws_80 O R0 N hn a0 v5 σ6 o h K
  replace h := (if_neg c9).symm.trans h
  by_cases c10 : x1 = (2 : Int32)
  · replace h := (if_pos c10).symm.trans h
    refine g_tabIn O dX12_draws_48 (by rw [c10]; decide) (by rw [c10]; decide) (by rw [c10]; rfl) rfl ?_
    refine g_aload_n O dX12_draws_107 rfl 1 rfl ?_
    refine g_iload_n O dX12_draws_108 rfl 0 rfl ?_
    obtain ⟨a11, e12, h⟩ := bo_some h
    obtain ⟨v13, σ14, e15, h⟩ := bd_some h
    refine g_cV1 O R0 N dX12_draws_109 vl_X12_426 vv_X12_covers e12 [vI v5] rfl rfl rfl ⟨Nat.le_of_ble_eq_true rfl, Nat.le_of_ble_eq_true rfl⟩ (c_X12_covers l0 a11 v5 σ6 v13 σ14 e15) ?_
    refine g_pop O dX12_draws_112 rfl ?_
    refine g_goto O dX12_draws_113 rfl ?_
    cases h
    exact g_return O K dX12_draws_137
  replace h := (if_neg c10).symm.trans h
  by_cases c16 : x1 = (3 : Int32)
  · replace h := (if_pos c16).symm.trans h
    refine g_tabIn O dX12_draws_48 (by rw [c16]; decide) (by rw [c16]; decide) (by rw [c16]; rfl) rfl ?_
    refine g_aload_n O dX12_draws_116 rfl 1 rfl ?_
    refine g_iload_n O dX12_draws_117 rfl 0 rfl ?_
    obtain ⟨a17, e18, h⟩ := bo_some h
    obtain ⟨v19, σ20, e21, h⟩ := bd_some h
    refine g_cV1 O R0 N dX12_draws_118 vl_X12_429 vv_X12_dies e18 [vI v5] rfl rfl rfl ⟨Nat.le_of_ble_eq_true rfl, Nat.le_of_ble_eq_true rfl⟩ (c_X12_dies l0 a17 v5 σ6 v19 σ20 e21) ?_
    refine g_pop O dX12_draws_121 rfl ?_
    refine g_goto O dX12_draws_122 rfl ?_
    cases h
    exact g_return O K dX12_draws_137
  replace h := (if_neg c16).symm.trans h
  refine g_tabOut O dX12_draws_48 (tab_out [(0 : Int32), (1 : Int32), (2 : Int32), (3 : Int32)] (fun z h1 h2 => ?_) (fun c hc => ?_)) rfl ?_
  · have hz : z = 0 ∨ z = 1 ∨ z = 2 ∨ z = 3 := by omega
    rcases hz with rfl | rfl | rfl | rfl
    · exact ⟨(0 : Int32), by simp, rfl⟩
    · exact ⟨(1 : Int32), by simp, rfl⟩
    · exact ⟨(2 : Int32), by simp, rfl⟩
    · exact ⟨(3 : Int32), by simp, rfl⟩
  · simp only [List.mem_cons, List.not_mem_nil, or_false] at hc
    rcases hc with rfl | rfl | rfl | rfl <;> assumption
  refine g_aload_n O dX12_draws_125 rfl 1 rfl ?_
  refine g_iload_n O dX12_draws_126 rfl 0 rfl ?_
  refine g_aload_n O dX12_draws_127 rfl 1 rfl ?_
  refine g_bipush (v := (10 : Int32)) O dX12_draws_128 rfl ?_
  obtain ⟨a22, e23, h⟩ := bo_some h
  obtain ⟨v24, σ25, e26, h⟩ := bd_some h
  refine g_cV1 O R0 N dX12_draws_130 vl_X12_494 vv_X12_below e23 [vI (10 : Int32)] rfl rfl rfl ⟨Nat.le_of_ble_eq_true rfl, Nat.le_of_ble_eq_true rfl⟩ (c_X12_below l0 a22 (10 : Int32) σ6 v24 σ25 e26) ?_
  obtain ⟨a27, e28, h⟩ := bo_some h
  obtain ⟨v29, σ30, e31, h⟩ := bd_some h
  refine g_cV1 O R0 N dX12_draws_133 vl_X12_423 vv_X12_isBorn e28 [vI v5, vI v24] rfl rfl rfl ⟨Nat.le_of_ble_eq_true rfl, Nat.le_of_ble_eq_true rfl⟩ (c_X12_isBorn l0 a27 v5 v24 σ25 v29 σ30 e31) ?_
  refine g_pop O dX12_draws_136 rfl ?_
  cases h
  exact g_return O K dX12_draws_137
def f_X12_draws (a0 : Nat) (σ : Dt) : Option (Unit × Dt) := bo (xrc SM 12 (some a0)) fun a1 => bd (f_X12_below a1 (8 : Int32) σ) fun v3 σ4 => if v3 ≤ (4 : Int32) then bo (xgi SM 12 28 (some a0) σ4) fun v7 => if v7 = 0 then some ((), σ4) else if (2 : Int32) ≤ v3 then f_X12_draws_38 a0 v3 σ4 else bo (xgi SM 12 13 (some a0) σ4) fun v11 => if v11 = 0 then some ((), σ4) else f_X12_draws_38 a0 v3 σ4 else bo (xrc SM 12 (some a0)) fun a14 => bd (f_X12_yearGoes a14 σ4) fun v16 σ17 => some ((), σ17)
theorem t_X12_draws {M : Mx} {l0 : Launch} (O : Ok M cX12_draws yX12_draws) (R0 : Rm M l0 7 193 0 0) (N : Ma M = false) (hn : Mn M = 4) (a0 : Nat) (σ : Dt) (o : (Unit × Dt)) (h : f_X12_draws a0 σ = some o) (K : Fin' M (none) 0 0 SM o.2 (none)) : G M 0 0 0 [(0, vA (some a0))] [] SM σ := by
  unfold f_X12_draws at h
  refine g_aload_n O dX12_draws_0 rfl 0 rfl ?_
  refine g_bipush (v := (8 : Int32)) O dX12_draws_1 rfl ?_
  obtain ⟨a1, e2, h⟩ := bo_some h
  obtain ⟨v3, σ4, e5, h⟩ := bd_some h
  refine g_cV1 O R0 N dX12_draws_3 vl_X12_494 vv_X12_below e2 [vI (8 : Int32)] rfl rfl rfl ⟨Nat.le_of_ble_eq_true rfl, Nat.le_of_ble_eq_true rfl⟩ (c_X12_below l0 a1 (8 : Int32) σ v3 σ4 e5) ?_
  refine g_istore_n (lv' := [(1, vI v3), (0, vA (some a0))]) O dX12_draws_6 rfl 4 hn (by decide) rfl ?_
  refine g_iload_n O dX12_draws_7 rfl 0 rfl ?_
  refine g_iconst (v := (4 : Int32)) O dX12_draws_8 rfl ?_
  refine g_icmp_le O dX12_draws_9 rfl (fun c6 => ?_) (fun c6 => ?_)
  · replace h := (if_pos c6).symm.trans h
    refine g_aload_n O dX12_draws_18 rfl 1 rfl ?_
    obtain ⟨v7, e8, h⟩ := bo_some h
    refine g_getI O dX12_draws_19 fl_X12_386 rfl e8 ?_
    refine g_if_eq O dX12_draws_22 rfl (fun c9 => ?_) (fun c9 => ?_)
    · replace h := (if_pos c9).symm.trans h
      cases h
      exact g_return O K dX12_draws_37
    · replace h := (if_neg c9).symm.trans h
      refine g_iload_n O dX12_draws_25 rfl 0 rfl ?_
      refine g_iconst (v := (2 : Int32)) O dX12_draws_26 rfl ?_
      refine g_icmp_ge O dX12_draws_27 rfl (fun c10 => ?_) (fun c10 => ?_)
      · replace h := (if_pos c10).symm.trans h
        refine g_sub [1, 0] (lv' := [(0, vA (some a0)), (1, vI v3)]) rfl ?_
        exact t_X12_draws_38 O R0 N hn a0 v3 σ4 o h K
      · replace h := (if_neg c10).symm.trans h
        refine g_aload_n O dX12_draws_30 rfl 1 rfl ?_
        obtain ⟨v11, e12, h⟩ := bo_some h
        refine g_getI O dX12_draws_31 fl_X12_214 rfl e12 ?_
        refine g_if_ne O dX12_draws_34 rfl (fun c13 => ?_) (fun c13 => ?_)
        · replace h := (if_pos c13).symm.trans h
          cases h
          exact g_return O K dX12_draws_37
        · replace h := (if_neg c13).symm.trans h
          refine g_sub [1, 0] (lv' := [(0, vA (some a0)), (1, vI v3)]) rfl ?_
          exact t_X12_draws_38 O R0 N hn a0 v3 σ4 o h K
  · replace h := (if_neg c6).symm.trans h
    refine g_aload_n O dX12_draws_12 rfl 1 rfl ?_
    obtain ⟨a14, e15, h⟩ := bo_some h
    obtain ⟨v16, σ17, e18, h⟩ := bd_some h
    refine g_cV1 O R0 N dX12_draws_13 vl_X12_432 vv_X12_yearGoes e15 [] rfl rfl rfl ⟨Nat.le_of_ble_eq_true rfl, Nat.le_of_ble_eq_true rfl⟩ (c_X12_yearGoes l0 a14 σ4 v16 σ17 e18) ?_
    refine g_pop O dX12_draws_16 rfl ?_
    cases h
    exact g_return O K dX12_draws_17
theorem c_X12_draws (l0 : Launch) (a0 : Nat) (σ : Dt) (r : Unit) (σ' : Dt) (h : f_X12_draws a0 σ = some (r, σ')) : Ctr l0 yX12_draws cX12_draws 4 (none) false 7 193 0 0 [vA (some a0)] SM σ SM σ' (none) := ctr_of (by decide) (Nat.le_of_ble_eq_true rfl) (fun M O F R0 N hn => t_X12_draws O R0 N hn a0 σ (r, σ') h F)
def P_X12_drawn_33 (M : Mx) (a0 : Nat) (x3 : Int32) (x4 : Int32) (s : (Int32 × Dt)) : Prop := G M 0 0 33 [(0, vA (some a0)), (3, vI x3), (4, vI x4), (5, vI s.1)] [] SM s.2
def E_X12_drawn_33 (M : Mx) (a0 : Nat) (x3 : Int32) (x4 : Int32) : Dt → Prop := (fun w => G M 0 0 49 [(0, vA (some a0)), (4, vI x4)] [] SM w)
def f_X12_drawn_L33 (a0 : Nat) (x3 : Int32) (x4 : Int32) (x5 : Int32) (σ : Dt) : Option ((Int32 × Dt) ⊕ Dt) := if x3 ≤ x5 then some (.inr σ) else bo (xrc SM 12 (some a0)) fun a2 => bd (f_X12_draws a2 σ) fun v4 σ5 => some (.inl ((x5 + (1 : Int32)), σ5))
theorem t_X12_drawn_L33 {M : Mx} {l0 : Launch} (O : Ok M cX12_drawn yX12_drawn) (R0 : Rm M l0 8 216 0 0) (N : Ma M = false) (hn : Mn M = 6) (a0 : Nat) (x3 : Int32) (x4 : Int32) (x5 : Int32) (σ : Dt) (o : ((Int32 × Dt) ⊕ Dt)) (h : f_X12_drawn_L33 a0 x3 x4 x5 σ = some o) (K : kon (P_X12_drawn_33 M a0 x3 x4) (E_X12_drawn_33 M a0 x3 x4) o) : G M 0 0 33 [(0, vA (some a0)), (3, vI x3), (4, vI x4), (5, vI x5)] [] SM σ := by
  unfold f_X12_drawn_L33 at h
  refine g_iload O dX12_drawn_33 3 rfl ?_
  refine g_iload_n O dX12_drawn_35 rfl 1 rfl ?_
  refine g_icmp_ge O dX12_drawn_36 rfl (fun c1 => ?_) (fun c1 => ?_)
  · replace h := (if_pos c1).symm.trans h
    refine g_sub [0, 2] (lv' := [(0, vA (some a0)), (4, vI x4)]) rfl ?_
    cases h
    exact K
  · replace h := (if_neg c1).symm.trans h
    refine g_aload_n O dX12_drawn_39 rfl 0 rfl ?_
    obtain ⟨a2, e3, h⟩ := bo_some h
    obtain ⟨v4, σ5, e6, h⟩ := bd_some h
    refine g_cV0 O R0 N dX12_drawn_40 vl_X12_497 vv_X12_draws e3 [] rfl rfl rfl ⟨Nat.le_of_ble_eq_true rfl, Nat.le_of_ble_eq_true rfl⟩ (c_X12_draws l0 a2 σ v4 σ5 e6) ?_
    refine g_iinc (v := (x5 + (1 : Int32))) (lv' := [(5, vI (x5 + (1 : Int32))), (0, vA (some a0)), (3, vI x3), (4, vI x4)]) O dX12_drawn_43 6 hn (by decide) 3 rfl rfl rfl ?_
    refine g_goto O dX12_drawn_46 rfl ?_
    refine g_sub [1, 2, 3, 0] (lv' := [(0, vA (some a0)), (3, vI x3), (4, vI x4), (5, vI (x5 + (1 : Int32)))]) rfl ?_
    cases h
    exact K
def f_X12_drawn (a0 : Nat) (x1 : Int32) (x2 : Int32) (x3 : Int32) (x4 : Int32) (σ : Dt) : Option (Int32 × Dt) := bo (xrc SM 12 (some a0)) fun a1 => bd (f_X12_isValley a1 x1 σ) fun v3 σ4 => if v3 = 0 then some ((-2 : Int32), σ4) else bo (f_X12_isIn x3 (0 : Int32) (60 : Int32) σ4) fun v7 => if v7 = 0 then some ((-2 : Int32), σ4) else bo (xpi SM 12 47 (some a0) x2 σ4) fun σ10 => bo (xrc SM 12 (some a0)) fun a12 => bd (f_X12_begins a12 σ10) fun v14 σ15 => bo (iter FU (fun s => f_X12_drawn_L33 a0 x3 x4 s.1 s.2) ((0 : Int32), σ15)) fun w17 => bo (xrc SM 12 (some a0)) fun a19 => bo (f_X12_nowOf a19 x4 w17) fun v21 => some (v21, w17)
theorem t_X12_drawn {M : Mx} {l0 : Launch} (O : Ok M cX12_drawn yX12_drawn) (R0 : Rm M l0 8 216 0 0) (N : Ma M = false) (hn : Mn M = 6) (a0 : Nat) (x1 : Int32) (x2 : Int32) (x3 : Int32) (x4 : Int32) (σ : Dt) (o : (Int32 × Dt)) (h : f_X12_drawn a0 x1 x2 x3 x4 σ = some o) (K : Fin' M (some .int) 0 0 SM o.2 (some (vI o.1))) : G M 0 0 0 [(0, vA (some a0)), (1, vI x1), (2, vI x2), (3, vI x3), (4, vI x4)] [] SM σ := by
  unfold f_X12_drawn at h
  refine g_aload_n O dX12_drawn_0 rfl 0 rfl ?_
  refine g_iload_n O dX12_drawn_1 rfl 1 rfl ?_
  obtain ⟨a1, e2, h⟩ := bo_some h
  obtain ⟨v3, σ4, e5, h⟩ := bd_some h
  refine g_cV1 O R0 N dX12_drawn_2 vl_X12_220 vv_X12_isValley e2 [vI x1] rfl rfl rfl ⟨Nat.le_of_ble_eq_true rfl, Nat.le_of_ble_eq_true rfl⟩ (c_X12_isValley l0 a1 x1 σ v3 σ4 e5) ?_
  refine g_if_eq O dX12_drawn_5 rfl (fun c6 => ?_) (fun c6 => ?_)
  · replace h := (if_pos c6).symm.trans h
    refine g_bipush (v := (-2 : Int32)) O dX12_drawn_18 rfl ?_
    cases h
    exact g_ireturn O K dX12_drawn_20
  · replace h := (if_neg c6).symm.trans h
    refine g_iload_n O dX12_drawn_8 rfl 3 rfl ?_
    refine g_iconst (v := (0 : Int32)) O dX12_drawn_9 rfl ?_
    refine g_bipush (v := (60 : Int32)) O dX12_drawn_10 rfl ?_
    obtain ⟨v7, e8, h⟩ := bo_some h
    refine g_cS1 O R0 N dX12_drawn_12 vl_X12_146 w1616 [vI x3, vI (0 : Int32), vI (60 : Int32)] rfl rfl rfl ⟨Nat.le_of_ble_eq_true rfl, Nat.le_of_ble_eq_true rfl⟩ (c_X12_isIn l0 x3 (0 : Int32) (60 : Int32) σ4 v7 e8) ?_
    refine g_if_ne O dX12_drawn_15 rfl (fun c9 => ?_) (fun c9 => ?_)
    · replace h := (if_pos c9).symm.trans h
      refine g_bipush (v := (-2 : Int32)) O dX12_drawn_18 rfl ?_
      cases h
      exact g_ireturn O K dX12_drawn_20
    · replace h := (if_neg c9).symm.trans h
      refine g_aload_n O dX12_drawn_21 rfl 0 rfl ?_
      refine g_iload_n O dX12_drawn_22 rfl 2 rfl ?_
      obtain ⟨σ10, e11, h⟩ := bo_some h
      refine g_putI O dX12_drawn_23 fl_X12_490 (Or.inl rfl) rfl e11 ?_
      refine g_aload_n O dX12_drawn_26 rfl 0 rfl ?_
      obtain ⟨a12, e13, h⟩ := bo_some h
      obtain ⟨v14, σ15, e16, h⟩ := bd_some h
      refine g_cV0 O R0 N dX12_drawn_27 vl_X12_439 vv_X12_begins e13 [] rfl rfl rfl ⟨Nat.le_of_ble_eq_true rfl, Nat.le_of_ble_eq_true rfl⟩ (c_X12_begins l0 a12 σ10 v14 σ15 e16) ?_
      refine g_iconst (v := (0 : Int32)) O dX12_drawn_30 rfl ?_
      refine g_istore (lv' := [(5, vI (0 : Int32)), (0, vA (some a0)), (1, vI x1), (2, vI x2), (3, vI x3), (4, vI x4)]) O dX12_drawn_31 6 hn (by decide) rfl ?_
      refine g_sub [1, 4, 5, 0] (lv' := [(0, vA (some a0)), (3, vI x3), (4, vI x4), (5, vI (0 : Int32))]) rfl ?_
      obtain ⟨w17, e18, h⟩ := bo_some h
      refine iter_G (P := P_X12_drawn_33 M a0 x3 x4) (E := E_X12_drawn_33 M a0 x3 x4) (fun s o hb hk => t_X12_drawn_L33 O R0 N hn a0 x3 x4 s.1 s.2 o hb hk) FU ((0 : Int32), σ15) w17 e18 ?_
      show G M 0 0 49 [(0, vA (some a0)), (4, vI x4)] [] SM w17
      refine g_aload_n O dX12_drawn_49 rfl 0 rfl ?_
      refine g_iload O dX12_drawn_50 1 rfl ?_
      obtain ⟨a19, e20, h⟩ := bo_some h
      obtain ⟨v21, e22, h⟩ := bo_some h
      refine g_cV1 O R0 N dX12_drawn_52 vl_X12_451 vv_X12_nowOf e20 [vI x4] rfl rfl rfl ⟨Nat.le_of_ble_eq_true rfl, Nat.le_of_ble_eq_true rfl⟩ (c_X12_nowOf l0 a19 x4 w17 v21 e22) ?_
      cases h
      exact g_ireturn O K dX12_drawn_55
theorem c_X12_drawn (l0 : Launch) (a0 : Nat) (x1 : Int32) (x2 : Int32) (x3 : Int32) (x4 : Int32) (σ : Dt) (r : Int32) (σ' : Dt) (h : f_X12_drawn a0 x1 x2 x3 x4 σ = some (r, σ')) : Ctr l0 yX12_drawn cX12_drawn 6 (some .int) false 8 216 0 0 [vA (some a0), vI x1, vI x2, vI x3, vI x4] SM σ SM σ' (some (vI r)) := ctr_of (by decide) (Nat.le_of_ble_eq_true rfl) (fun M O F R0 N hn => t_X12_drawn O R0 N hn a0 x1 x2 x3 x4 σ (r, σ') h F)
def f_X12_count (a0 : Nat) (x1 : Int32) (σ : Dt) : Option Int32 := bo (f_X12_isIn x1 (0 : Int32) (2 : Int32) σ) fun v1 => if v1 = 0 then some (-2 : Int32) else bo (xgr SM 12 0 (some a0) σ) fun v4 => bo (xai SM v4 x1 σ) fun v6 => some v6
theorem t_X12_count {M : Mx} {l0 : Launch} (O : Ok M cX12_count yX12_count) (R0 : Rm M l0 3 102 0 0) (N : Ma M = false) (hn : Mn M = 2) (a0 : Nat) (x1 : Int32) (σ : Dt) (o : Int32) (h : f_X12_count a0 x1 σ = some o) (K : Fin' M (some .int) 0 0 SM σ (some (vI o))) : G M 0 0 0 [(0, vA (some a0)), (1, vI x1)] [] SM σ := by
  unfold f_X12_count at h
  refine g_iload_n O dX12_count_0 rfl 1 rfl ?_
  refine g_iconst (v := (0 : Int32)) O dX12_count_1 rfl ?_
  refine g_iconst (v := (2 : Int32)) O dX12_count_2 rfl ?_
  obtain ⟨v1, e2, h⟩ := bo_some h
  refine g_cS1 O R0 N dX12_count_3 vl_X12_146 w1616 [vI x1, vI (0 : Int32), vI (2 : Int32)] rfl rfl rfl ⟨Nat.le_of_ble_eq_true rfl, Nat.le_of_ble_eq_true rfl⟩ (c_X12_isIn l0 x1 (0 : Int32) (2 : Int32) σ v1 e2) ?_
  refine g_if_eq O dX12_count_6 rfl (fun c3 => ?_) (fun c3 => ?_)
  · replace h := (if_pos c3).symm.trans h
    refine g_bipush (v := (-2 : Int32)) O dX12_count_18 rfl ?_
    cases h
    exact g_ireturn O K dX12_count_20
  · replace h := (if_neg c3).symm.trans h
    refine g_aload_n O dX12_count_9 rfl 0 rfl ?_
    obtain ⟨v4, e5, h⟩ := bo_some h
    refine g_getR O dX12_count_10 fl_X12_7 rfl e5 ?_
    refine g_iload_n O dX12_count_13 rfl 1 rfl ?_
    obtain ⟨v6, e7, h⟩ := bo_some h
    refine g_iaload O dX12_count_14 e7 ?_
    refine g_goto O dX12_count_15 rfl ?_
    cases h
    exact g_ireturn O K dX12_count_20
theorem c_X12_count (l0 : Launch) (a0 : Nat) (x1 : Int32) (σ : Dt) (r : Int32) (h : f_X12_count a0 x1 σ = some r) : Ctr l0 yX12_count cX12_count 2 (some .int) false 3 102 0 0 [vA (some a0), vI x1] SM σ SM σ (some (vI r)) := ctr_of (by decide) (Nat.le_of_ble_eq_true rfl) (fun M O F R0 N hn => t_X12_count O R0 N hn a0 x1 σ r h F)
def P_X12_image_20 (M : Mx) (a0 : Nat) (x1 : Int32) (s : (Int32 × Dt)) : Prop := G M 0 0 20 [(0, vA (some a0)), (1, vI x1), (2, vI s.1)] [] SM s.2
def E_X12_image_20 (M : Mx) (a0 : Nat) (x1 : Int32) : Dt → Prop := (fun w => G M 0 0 53 [] [] SM w)
def f_X12_image_L20 (a0 : Nat) (x1 : Int32) (x2 : Int32) (σ : Dt) : Option ((Int32 × Dt) ⊕ Dt) := if (1078 : Int32) ≤ x2 then some (.inr σ) else bo (xgr SM 12 0 (some a0) σ) fun v2 => bo (xgr SM 12 0 (some a0) σ) fun v4 => bo (xai SM v4 x2 σ) fun v6 => bo (xsi SM v2 (((1078 : Int32) * (x1 + (1 : Int32))) + x2) v6 σ) fun σ8 => some (.inl ((x2 + (1 : Int32)), σ8))
theorem t_X12_image_L20 {M : Mx} {l0 : Launch} (O : Ok M cX12_image yX12_image) (R0 : Rm M l0 3 102 0 0) (N : Ma M = false) (hn : Mn M = 3) (a0 : Nat) (x1 : Int32) (x2 : Int32) (σ : Dt) (o : ((Int32 × Dt) ⊕ Dt)) (h : f_X12_image_L20 a0 x1 x2 σ = some o) (K : kon (P_X12_image_20 M a0 x1) (E_X12_image_20 M a0 x1) o) : G M 0 0 20 [(0, vA (some a0)), (1, vI x1), (2, vI x2)] [] SM σ := by
  unfold f_X12_image_L20 at h
  refine g_iload_n O dX12_image_20 rfl 2 rfl ?_
  refine g_sipush (v := (1078 : Int32)) O dX12_image_21 rfl ?_
  refine g_icmp_ge O dX12_image_24 rfl (fun c1 => ?_) (fun c1 => ?_)
  · replace h := (if_pos c1).symm.trans h
    refine g_sub [] (lv' := []) rfl ?_
    cases h
    exact K
  · replace h := (if_neg c1).symm.trans h
    refine g_aload_n O dX12_image_27 rfl 0 rfl ?_
    obtain ⟨v2, e3, h⟩ := bo_some h
    refine g_getR O dX12_image_28 fl_X12_7 rfl e3 ?_
    refine g_sipush (v := (1078 : Int32)) O dX12_image_31 rfl ?_
    refine g_iload_n O dX12_image_34 rfl 1 rfl ?_
    refine g_iconst (v := (1 : Int32)) O dX12_image_35 rfl ?_
    refine g_iadd O dX12_image_36 ?_
    refine g_imul O dX12_image_37 ?_
    refine g_iload_n O dX12_image_38 rfl 2 rfl ?_
    refine g_iadd O dX12_image_39 ?_
    refine g_aload_n O dX12_image_40 rfl 0 rfl ?_
    obtain ⟨v4, e5, h⟩ := bo_some h
    refine g_getR O dX12_image_41 fl_X12_7 rfl e5 ?_
    refine g_iload_n O dX12_image_44 rfl 2 rfl ?_
    obtain ⟨v6, e7, h⟩ := bo_some h
    refine g_iaload O dX12_image_45 e7 ?_
    obtain ⟨σ8, e9, h⟩ := bo_some h
    refine g_iastore O dX12_image_46 e9 ?_
    refine g_iinc (v := (x2 + (1 : Int32))) (lv' := [(2, vI (x2 + (1 : Int32))), (0, vA (some a0)), (1, vI x1)]) O dX12_image_47 3 hn (by decide) 2 rfl rfl rfl ?_
    refine g_goto O dX12_image_50 rfl ?_
    refine g_sub [1, 2, 0] (lv' := [(0, vA (some a0)), (1, vI x1), (2, vI (x2 + (1 : Int32)))]) rfl ?_
    cases h
    exact K
def f_X12_image (a0 : Nat) (x1 : Int32) (σ : Dt) : Option (Int32 × Dt) := bo (f_X12_isIn x1 (0 : Int32) (2 : Int32) σ) fun v1 => if v1 = 0 then some ((0 : Int32), σ) else bo (xgr SM 12 1 (some a0) σ) fun v4 => bo (xsz SM v4 x1 (1 : Int32) σ) fun σ6 => bo (iter FU (fun s => f_X12_image_L20 a0 x1 s.1 s.2) ((0 : Int32), σ6)) fun w8 => some ((1 : Int32), w8)
theorem t_X12_image {M : Mx} {l0 : Launch} (O : Ok M cX12_image yX12_image) (R0 : Rm M l0 3 102 0 0) (N : Ma M = false) (hn : Mn M = 3) (a0 : Nat) (x1 : Int32) (σ : Dt) (o : (Int32 × Dt)) (h : f_X12_image a0 x1 σ = some o) (K : Fin' M (some .boolean) 0 0 SM o.2 (some (vI o.1))) : G M 0 0 0 [(0, vA (some a0)), (1, vI x1)] [] SM σ := by
  unfold f_X12_image at h
  refine g_iload_n O dX12_image_0 rfl 1 rfl ?_
  refine g_iconst (v := (0 : Int32)) O dX12_image_1 rfl ?_
  refine g_iconst (v := (2 : Int32)) O dX12_image_2 rfl ?_
  obtain ⟨v1, e2, h⟩ := bo_some h
  refine g_cS1 O R0 N dX12_image_3 vl_X12_146 w1616 [vI x1, vI (0 : Int32), vI (2 : Int32)] rfl rfl rfl ⟨Nat.le_of_ble_eq_true rfl, Nat.le_of_ble_eq_true rfl⟩ (c_X12_isIn l0 x1 (0 : Int32) (2 : Int32) σ v1 e2) ?_
  refine g_if_ne O dX12_image_6 rfl (fun c3 => ?_) (fun c3 => ?_)
  · replace h := (if_pos c3).symm.trans h
    refine g_iconst (v := (0 : Int32)) O dX12_image_9 rfl ?_
    cases h
    exact g_zreturn O (by decide) K dX12_image_10
  · replace h := (if_neg c3).symm.trans h
    refine g_aload_n O dX12_image_11 rfl 0 rfl ?_
    obtain ⟨v4, e5, h⟩ := bo_some h
    refine g_getR O dX12_image_12 fl_X12_13 rfl e5 ?_
    refine g_iload_n O dX12_image_15 rfl 1 rfl ?_
    refine g_iconst (v := (1 : Int32)) O dX12_image_16 rfl ?_
    obtain ⟨σ6, e7, h⟩ := bo_some h
    refine g_bastore O N dX12_image_17 e7 ?_
    refine g_iconst (v := (0 : Int32)) O dX12_image_18 rfl ?_
    refine g_istore_n (lv' := [(2, vI (0 : Int32)), (0, vA (some a0)), (1, vI x1)]) O dX12_image_19 rfl 3 hn (by decide) rfl ?_
    refine g_sub [1, 2, 0] (lv' := [(0, vA (some a0)), (1, vI x1), (2, vI (0 : Int32))]) rfl ?_
    obtain ⟨w8, e9, h⟩ := bo_some h
    refine iter_G (P := P_X12_image_20 M a0 x1) (E := E_X12_image_20 M a0 x1) (fun s o hb hk => t_X12_image_L20 O R0 N hn a0 x1 s.1 s.2 o hb hk) FU ((0 : Int32), σ6) w8 e9 ?_
    show G M 0 0 53 [] [] SM w8
    refine g_iconst (v := (1 : Int32)) O dX12_image_53 rfl ?_
    cases h
    exact g_zreturn O (by decide) K dX12_image_54
theorem c_X12_image (l0 : Launch) (a0 : Nat) (x1 : Int32) (σ : Dt) (r : Int32) (σ' : Dt) (h : f_X12_image a0 x1 σ = some (r, σ')) : Ctr l0 yX12_image cX12_image 3 (some .boolean) false 3 102 0 0 [vA (some a0), vI x1] SM σ SM σ' (some (vI r)) := ctr_of (by decide) (Nat.le_of_ble_eq_true rfl) (fun M O F R0 N hn => t_X12_image O R0 N hn a0 x1 σ (r, σ') h F)
def P_X12_again_22 (M : Mx) (a0 : Nat) (x1 : Int32) (s : (Int32 × Dt)) : Prop := G M 0 0 22 [(0, vA (some a0)), (1, vI x1), (2, vI s.1)] [] SM s.2
def E_X12_again_22 (M : Mx) (a0 : Nat) (x1 : Int32) : Dt → Prop := (fun w => G M 0 0 55 [] [] SM w)
def f_X12_again_L22 (a0 : Nat) (x1 : Int32) (x2 : Int32) (σ : Dt) : Option ((Int32 × Dt) ⊕ Dt) := if (1078 : Int32) ≤ x2 then some (.inr σ) else bo (xgr SM 12 0 (some a0) σ) fun v2 => bo (xgr SM 12 0 (some a0) σ) fun v4 => bo (xai SM v4 (((1078 : Int32) * (x1 + (1 : Int32))) + x2) σ) fun v6 => bo (xsi SM v2 x2 v6 σ) fun σ8 => some (.inl ((x2 + (1 : Int32)), σ8))
theorem t_X12_again_L22 {M : Mx} {l0 : Launch} (O : Ok M cX12_again yX12_again) (R0 : Rm M l0 3 102 0 0) (N : Ma M = false) (hn : Mn M = 3) (a0 : Nat) (x1 : Int32) (x2 : Int32) (σ : Dt) (o : ((Int32 × Dt) ⊕ Dt)) (h : f_X12_again_L22 a0 x1 x2 σ = some o) (K : kon (P_X12_again_22 M a0 x1) (E_X12_again_22 M a0 x1) o) : G M 0 0 22 [(0, vA (some a0)), (1, vI x1), (2, vI x2)] [] SM σ := by
  unfold f_X12_again_L22 at h
  refine g_iload_n O dX12_again_22 rfl 2 rfl ?_
  refine g_sipush (v := (1078 : Int32)) O dX12_again_23 rfl ?_
  refine g_icmp_ge O dX12_again_26 rfl (fun c1 => ?_) (fun c1 => ?_)
  · replace h := (if_pos c1).symm.trans h
    refine g_sub [] (lv' := []) rfl ?_
    cases h
    exact K
  · replace h := (if_neg c1).symm.trans h
    refine g_aload_n O dX12_again_29 rfl 0 rfl ?_
    obtain ⟨v2, e3, h⟩ := bo_some h
    refine g_getR O dX12_again_30 fl_X12_7 rfl e3 ?_
    refine g_iload_n O dX12_again_33 rfl 2 rfl ?_
    refine g_aload_n O dX12_again_34 rfl 0 rfl ?_
    obtain ⟨v4, e5, h⟩ := bo_some h
    refine g_getR O dX12_again_35 fl_X12_7 rfl e5 ?_
    refine g_sipush (v := (1078 : Int32)) O dX12_again_38 rfl ?_
    refine g_iload_n O dX12_again_41 rfl 1 rfl ?_
    refine g_iconst (v := (1 : Int32)) O dX12_again_42 rfl ?_
    refine g_iadd O dX12_again_43 ?_
    refine g_imul O dX12_again_44 ?_
    refine g_iload_n O dX12_again_45 rfl 2 rfl ?_
    refine g_iadd O dX12_again_46 ?_
    obtain ⟨v6, e7, h⟩ := bo_some h
    refine g_iaload O dX12_again_47 e7 ?_
    obtain ⟨σ8, e9, h⟩ := bo_some h
    refine g_iastore O dX12_again_48 e9 ?_
    refine g_iinc (v := (x2 + (1 : Int32))) (lv' := [(2, vI (x2 + (1 : Int32))), (0, vA (some a0)), (1, vI x1)]) O dX12_again_49 3 hn (by decide) 2 rfl rfl rfl ?_
    refine g_goto O dX12_again_52 rfl ?_
    refine g_sub [1, 2, 0] (lv' := [(0, vA (some a0)), (1, vI x1), (2, vI (x2 + (1 : Int32)))]) rfl ?_
    cases h
    exact K
def f_X12_again (a0 : Nat) (x1 : Int32) (σ : Dt) : Option (Int32 × Dt) := bo (f_X12_isIn x1 (0 : Int32) (2 : Int32) σ) fun v1 => if v1 = 0 then some ((0 : Int32), σ) else bo (xgr SM 12 1 (some a0) σ) fun v4 => bo (xaz SM v4 x1 σ) fun v6 => if v6 = 0 then some ((0 : Int32), σ) else bo (iter FU (fun s => f_X12_again_L22 a0 x1 s.1 s.2) ((0 : Int32), σ)) fun w9 => some ((1 : Int32), w9)
theorem t_X12_again {M : Mx} {l0 : Launch} (O : Ok M cX12_again yX12_again) (R0 : Rm M l0 3 102 0 0) (N : Ma M = false) (hn : Mn M = 3) (a0 : Nat) (x1 : Int32) (σ : Dt) (o : (Int32 × Dt)) (h : f_X12_again a0 x1 σ = some o) (K : Fin' M (some .boolean) 0 0 SM o.2 (some (vI o.1))) : G M 0 0 0 [(0, vA (some a0)), (1, vI x1)] [] SM σ := by
  unfold f_X12_again at h
  refine g_iload_n O dX12_again_0 rfl 1 rfl ?_
  refine g_iconst (v := (0 : Int32)) O dX12_again_1 rfl ?_
  refine g_iconst (v := (2 : Int32)) O dX12_again_2 rfl ?_
  obtain ⟨v1, e2, h⟩ := bo_some h
  refine g_cS1 O R0 N dX12_again_3 vl_X12_146 w1616 [vI x1, vI (0 : Int32), vI (2 : Int32)] rfl rfl rfl ⟨Nat.le_of_ble_eq_true rfl, Nat.le_of_ble_eq_true rfl⟩ (c_X12_isIn l0 x1 (0 : Int32) (2 : Int32) σ v1 e2) ?_
  refine g_if_eq O dX12_again_6 rfl (fun c3 => ?_) (fun c3 => ?_)
  · replace h := (if_pos c3).symm.trans h
    refine g_iconst (v := (0 : Int32)) O dX12_again_18 rfl ?_
    cases h
    exact g_zreturn O (by decide) K dX12_again_19
  · replace h := (if_neg c3).symm.trans h
    refine g_aload_n O dX12_again_9 rfl 0 rfl ?_
    obtain ⟨v4, e5, h⟩ := bo_some h
    refine g_getR O dX12_again_10 fl_X12_13 rfl e5 ?_
    refine g_iload_n O dX12_again_13 rfl 1 rfl ?_
    obtain ⟨v6, e7, h⟩ := bo_some h
    refine g_baload O dX12_again_14 e7 ?_
    refine g_if_ne O dX12_again_15 rfl (fun c8 => ?_) (fun c8 => ?_)
    · replace h := (if_pos c8).symm.trans h
      refine g_iconst (v := (0 : Int32)) O dX12_again_18 rfl ?_
      cases h
      exact g_zreturn O (by decide) K dX12_again_19
    · replace h := (if_neg c8).symm.trans h
      refine g_iconst (v := (0 : Int32)) O dX12_again_20 rfl ?_
      refine g_istore_n (lv' := [(2, vI (0 : Int32)), (0, vA (some a0)), (1, vI x1)]) O dX12_again_21 rfl 3 hn (by decide) rfl ?_
      refine g_sub [1, 2, 0] (lv' := [(0, vA (some a0)), (1, vI x1), (2, vI (0 : Int32))]) rfl ?_
      obtain ⟨w9, e10, h⟩ := bo_some h
      refine iter_G (P := P_X12_again_22 M a0 x1) (E := E_X12_again_22 M a0 x1) (fun s o hb hk => t_X12_again_L22 O R0 N hn a0 x1 s.1 s.2 o hb hk) FU ((0 : Int32), σ) w9 e10 ?_
      show G M 0 0 55 [] [] SM w9
      refine g_iconst (v := (1 : Int32)) O dX12_again_55 rfl ?_
      cases h
      exact g_zreturn O (by decide) K dX12_again_56
theorem c_X12_again (l0 : Launch) (a0 : Nat) (x1 : Int32) (σ : Dt) (r : Int32) (σ' : Dt) (h : f_X12_again a0 x1 σ = some (r, σ')) : Ctr l0 yX12_again cX12_again 3 (some .boolean) false 3 102 0 0 [vA (some a0), vI x1] SM σ SM σ' (some (vI r)) := ctr_of (by decide) (Nat.le_of_ble_eq_true rfl) (fun M O F R0 N hn => t_X12_again O R0 N hn a0 x1 σ (r, σ') h F)
