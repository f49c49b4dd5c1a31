def P_X12_becomes_3 (M : Mx) (a0 : Nat) (x1 : Int32) (x2 : Int32) (x3 : Int32) (s : (Int32 × Dt)) : Prop := G M 0 0 3 [(0, vA (some a0)), (1, vI x1), (2, vI x2), (3, vI x3), (4, vI s.1)] [] SM s.2
def E_X12_becomes_3 (M : Mx) (a0 : Nat) (x1 : Int32) (x2 : Int32) (x3 : Int32) : Dt → Prop := (fun w => G M 0 0 90 [] [] SM w)
def f_X12_becomes_84 (a0 : Nat) (x1 : Int32) (x2 : Int32) (x3 : Int32) (x4 : Int32) (σ : Dt) : Option ((Int32 × Dt) ⊕ Dt) := some (.inl ((x4 + (1 : Int32)), σ))
theorem t_X12_becomes_84 {M : Mx} {l0 : Launch} (O : Ok M cX12_becomes yX12_becomes) (R0 : Rm M l0 2 80 0 0) (N : Ma M = false) (hn : Mn M = 5)  (a0 : Nat) (x1 : Int32) (x2 : Int32) (x3 : Int32) (x4 : Int32) (σ : Dt) (o : ((Int32 × Dt) ⊕ Dt)) (h : f_X12_becomes_84 a0 x1 x2 x3 x4 σ = some o) (K : kon (P_X12_becomes_3 M a0 x1 x2 x3) (E_X12_becomes_3 M a0 x1 x2 x3) o) : G M 0 0 84 [(0, vA (some a0)), (1, vI x1), (2, vI x2), (3, vI x3), (4, vI x4)] [] SM σ := by
  unfold f_X12_becomes_84 at h
  refine g_iinc (v := (x4 + (1 : Int32))) (lv' := [(4, vI (x4 + (1 : Int32))), (0, vA (some a0)), (1, vI x1), (2, vI x2), (3, vI x3)]) O dX12_becomes_84 5 hn (by decide) 4 rfl rfl rfl ?_
  refine g_goto O dX12_becomes_87 rfl ?_
  refine g_sub [1, 2, 3, 4, 0] (lv' := [(0, vA (some a0)), (1, vI x1), (2, vI x2), (3, vI x3), (4, vI (x4 + (1 : Int32)))]) rfl ?_
  cases h
  exact K
def f_X12_becomes_80 (a0 : Nat) (x1 : Int32) (x2 : Int32) (x3 : Int32) (x4 : Int32) (k0 : Option Nat) (k1 : Int32) (k2 : Int32) (σ : Dt) : Option ((Int32 × Dt) ⊕ Dt) := bo (xpi SM 12 33 k0 (k1 + k2) σ) fun σ1 => f_X12_becomes_84 a0 x1 x2 x3 x4 σ1
theorem t_X12_becomes_80 {M : Mx} {l0 : Launch} (O : Ok M cX12_becomes yX12_becomes) (R0 : Rm M l0 2 80 0 0) (N : Ma M = false) (hn : Mn M = 5)  (a0 : Nat) (x1 : Int32) (x2 : Int32) (x3 : Int32) (x4 : Int32) (k0 : Option Nat) (k1 : Int32) (k2 : Int32) (σ : Dt) (o : ((Int32 × Dt) ⊕ Dt)) (h : f_X12_becomes_80 a0 x1 x2 x3 x4 k0 k1 k2 σ = some o) (K : kon (P_X12_becomes_3 M a0 x1 x2 x3) (E_X12_becomes_3 M a0 x1 x2 x3) o) : G M 0 0 80 [(0, vA (some a0)), (1, vI x1), (2, vI x2), (3, vI x3), (4, vI x4)] [vI k2, vI k1, vA k0] SM σ := by
  unfold f_X12_becomes_80 at h
  refine g_iadd O dX12_becomes_80 ?_
  obtain ⟨σ1, e2, h⟩ := bo_some h
  refine g_putI O dX12_becomes_81 fl_X12_401 (Or.inl rfl) rfl e2 ?_
  exact t_X12_becomes_84 O R0 N hn a0 x1 x2 x3 x4 σ1 o h K
def f_X12_becomes_57 (a0 : Nat) (x1 : Int32) (x2 : Int32) (x3 : Int32) (x4 : Int32) (σ : Dt) : Option ((Int32 × Dt) ⊕ Dt) := bo (xgr SM 12 44 (some a0) σ) fun v1 => bo (xsi SM v1 x4 x3 σ) fun σ3 => bo (xgi SM 12 33 (some a0) σ3) fun v5 => if x3 = (1 : Int32) then f_X12_becomes_80 a0 x1 x2 x3 x4 (some a0) v5 (1 : Int32) σ3 else f_X12_becomes_80 a0 x1 x2 x3 x4 (some a0) v5 (0 : Int32) σ3
theorem t_X12_becomes_57 {M : Mx} {l0 : Launch} (O : Ok M cX12_becomes yX12_becomes) (R0 : Rm M l0 2 80 0 0) (N : Ma M = false) (hn : Mn M = 5)  (a0 : Nat) (x1 : Int32) (x2 : Int32) (x3 : Int32) (x4 : Int32) (σ : Dt) (o : ((Int32 × Dt) ⊕ Dt)) (h : f_X12_becomes_57 a0 x1 x2 x3 x4 σ = some o) (K : kon (P_X12_becomes_3 M a0 x1 x2 x3) (E_X12_becomes_3 M a0 x1 x2 x3) o) : G M 0 0 57 [(0, vA (some a0)), (1, vI x1), (2, vI x2), (3, vI x3), (4, vI x4)] [] SM σ := by
  unfold f_X12_becomes_57 at h
  refine g_aload_n O dX12_becomes_57 rfl 0 rfl ?_
  obtain ⟨v1, e2, h⟩ := bo_some h
  refine g_getR O dX12_becomes_58 fl_X12_85 rfl e2 ?_
  refine g_iload O dX12_becomes_61 4 rfl ?_
  refine g_iload_n O dX12_becomes_63 rfl 3 rfl ?_
  obtain ⟨σ3, e4, h⟩ := bo_some h
  refine g_iastore O dX12_becomes_64 e4 ?_
  refine g_aload_n O dX12_becomes_65 rfl 0 rfl ?_
  refine g_dup O dX12_becomes_66 rfl ?_
  obtain ⟨v5, e6, h⟩ := bo_some h
  refine g_getI O dX12_becomes_67 fl_X12_401 rfl e6 ?_
  refine g_iload_n O dX12_becomes_70 rfl 3 rfl ?_
  refine g_iconst (v := (1 : Int32)) O dX12_becomes_71 rfl ?_
  refine g_icmp_ne O dX12_becomes_72 rfl (fun c7 => ?_) (fun c7 => ?_)
  · replace h := (if_pos c7).symm.trans h
    refine g_iconst (v := (1 : Int32)) O dX12_becomes_75 rfl ?_
    refine g_goto O dX12_becomes_76 rfl ?_
    exact t_X12_becomes_80 O R0 N hn a0 x1 x2 x3 x4 (some a0) v5 (1 : Int32) σ3 o h K
  · replace h := (if_neg c7).symm.trans h
    refine g_iconst (v := (0 : Int32)) O dX12_becomes_79 rfl ?_
    exact t_X12_becomes_80 O R0 N hn a0 x1 x2 x3 x4 (some a0) v5 (0 : Int32) σ3 o h K
def f_X12_becomes_38 (a0 : Nat) (x1 : Int32) (x2 : Int32) (x3 : Int32) (x4 : Int32) (σ : Dt) : Option ((Int32 × Dt) ⊕ Dt) := if x2 = (-1 : Int32) then f_X12_becomes_57 a0 x1 x2 x3 x4 σ else bo (xgr SM 12 42 (some a0) σ) fun v2 => bo (xai SM v2 x4 σ) fun v4 => if v4 = x2 then f_X12_becomes_57 a0 x1 x2 x3 x4 σ else f_X12_becomes_84 a0 x1 x2 x3 x4 σ
theorem t_X12_becomes_38 {M : Mx} {l0 : Launch} (O : Ok M cX12_becomes yX12_becomes) (R0 : Rm M l0 2 80 0 0) (N : Ma M = false) (hn : Mn M = 5)  (a0 : Nat) (x1 : Int32) (x2 : Int32) (x3 : Int32) (x4 : Int32) (σ : Dt) (o : ((Int32 × Dt) ⊕ Dt)) (h : f_X12_becomes_38 a0 x1 x2 x3 x4 σ = some o) (K : kon (P_X12_becomes_3 M a0 x1 x2 x3) (E_X12_becomes_3 M a0 x1 x2 x3) o) : G M 0 0 38 [(0, vA (some a0)), (1, vI x1), (2, vI x2), (3, vI x3), (4, vI x4)] [] SM σ := by
  unfold f_X12_becomes_38 at h
  refine g_iload_n O dX12_becomes_38 rfl 2 rfl ?_
  refine g_iconst (v := (-1 : Int32)) O dX12_becomes_39 rfl ?_
  refine g_icmp_eq O dX12_becomes_40 rfl (fun c1 => ?_) (fun c1 => ?_)
  · replace h := (if_pos c1).symm.trans h
    exact t_X12_becomes_57 O R0 N hn a0 x1 x2 x3 x4 σ o h K
  · replace h := (if_neg c1).symm.trans h
    refine g_aload_n O dX12_becomes_43 rfl 0 rfl ?_
    obtain ⟨v2, e3, h⟩ := bo_some h
    refine g_getR O dX12_becomes_44 fl_X12_79 rfl e3 ?_
    refine g_iload O dX12_becomes_47 4 rfl ?_
    obtain ⟨v4, e5, h⟩ := bo_some h
    refine g_iaload O dX12_becomes_49 e5 ?_
    refine g_iload_n O dX12_becomes_50 rfl 2 rfl ?_
    refine g_icmp_eq O dX12_becomes_51 rfl (fun c6 => ?_) (fun c6 => ?_)
    · replace h := (if_pos c6).symm.trans h
      exact t_X12_becomes_57 O R0 N hn a0 x1 x2 x3 x4 σ o h K
    · replace h := (if_neg c6).symm.trans h
      refine g_goto O dX12_becomes_54 rfl ?_
      exact t_X12_becomes_84 O R0 N hn a0 x1 x2 x3 x4 σ o h K
def f_X12_becomes_L3 (a0 : Nat) (x1 : Int32) (x2 : Int32) (x3 : Int32) (x4 : Int32) (σ : Dt) : Option ((Int32 × Dt) ⊕ Dt) := bo (xgi SM 12 32 (some a0) σ) fun v1 => if v1 ≤ x4 then some (.inr σ) else bo (xgr SM 12 44 (some a0) σ) fun v4 => bo (xai SM v4 x4 σ) fun v6 => if v6 = 0 then if x1 = (-1 : Int32) then f_X12_becomes_38 a0 x1 x2 x3 x4 σ else bo (xgr SM 12 41 (some a0) σ) fun v10 => bo (xai SM v10 x4 σ) fun v12 => if v12 = x1 then f_X12_becomes_38 a0 x1 x2 x3 x4 σ else f_X12_becomes_84 a0 x1 x2 x3 x4 σ else f_X12_becomes_84 a0 x1 x2 x3 x4 σ
theorem t_X12_becomes_L3 {M : Mx} {l0 : Launch} (O : Ok M cX12_becomes yX12_becomes) (R0 : Rm M l0 2 80 0 0) (N : Ma M = false) (hn : Mn M = 5) (a0 : Nat) (x1 : Int32) (x2 : Int32) (x3 : Int32) (x4 : Int32) (σ : Dt) (o : ((Int32 × Dt) ⊕ Dt)) (h : f_X12_becomes_L3 a0 x1 x2 x3 x4 σ = some o) (K : kon (P_X12_becomes_3 M a0 x1 x2 x3) (E_X12_becomes_3 M a0 x1 x2 x3) o) : G M 0 0 3 [(0, vA (some a0)), (1, vI x1), (2, vI x2), (3, vI x3), (4, vI x4)] [] SM σ := by
  unfold f_X12_becomes_L3 at h
  refine g_iload O dX12_becomes_3 4 rfl ?_
  refine g_aload_n O dX12_becomes_5 rfl 0 rfl ?_
  obtain ⟨v1, e2, h⟩ := bo_some h
  refine g_getI O dX12_becomes_6 fl_X12_398 rfl e2 ?_
  refine g_icmp_ge O dX12_becomes_9 rfl (fun c3 => ?_) (fun c3 => ?_)
  · replace h := (if_pos c3).symm.trans h
    refine g_sub [] (lv' := []) rfl ?_
    cases h
    exact K
  · replace h := (if_neg c3).symm.trans h
    refine g_aload_n O dX12_becomes_12 rfl 0 rfl ?_
    obtain ⟨v4, e5, h⟩ := bo_some h
    refine g_getR O dX12_becomes_13 fl_X12_85 rfl e5 ?_
    refine g_iload O dX12_becomes_16 4 rfl ?_
    obtain ⟨v6, e7, h⟩ := bo_some h
    refine g_iaload O dX12_becomes_18 e7 ?_
    refine g_if_ne O dX12_becomes_19 rfl (fun c8 => ?_) (fun c8 => ?_)
    · replace h := (if_pos c8).symm.trans h
      refine g_iload_n O dX12_becomes_22 rfl 1 rfl ?_
      refine g_iconst (v := (-1 : Int32)) O dX12_becomes_23 rfl ?_
      refine g_icmp_eq O dX12_becomes_24 rfl (fun c9 => ?_) (fun c9 => ?_)
      · replace h := (if_pos c9).symm.trans h
        exact t_X12_becomes_38 O R0 N hn a0 x1 x2 x3 x4 σ o h K
      · replace h := (if_neg c9).symm.trans h
        refine g_aload_n O dX12_becomes_27 rfl 0 rfl ?_
        obtain ⟨v10, e11, h⟩ := bo_some h
        refine g_getR O dX12_becomes_28 fl_X12_76 rfl e11 ?_
        refine g_iload O dX12_becomes_31 4 rfl ?_
        obtain ⟨v12, e13, h⟩ := bo_some h
        refine g_iaload O dX12_becomes_33 e13 ?_
        refine g_iload_n O dX12_becomes_34 rfl 1 rfl ?_
        refine g_icmp_ne O dX12_becomes_35 rfl (fun c14 => ?_) (fun c14 => ?_)
        · replace h := (if_pos c14).symm.trans h
          exact t_X12_becomes_38 O R0 N hn a0 x1 x2 x3 x4 σ o h K
        · replace h := (if_neg c14).symm.trans h
          exact t_X12_becomes_84 O R0 N hn a0 x1 x2 x3 x4 σ o h K
    · replace h := (if_neg c8).symm.trans h
      exact t_X12_becomes_84 O R0 N hn a0 x1 x2 x3 x4 σ o h K
def f_X12_becomes (a0 : Nat) (x1 : Int32) (x2 : Int32) (x3 : Int32) (σ : Dt) : Option (Unit × Dt) := bo (iter FU (fun s => f_X12_becomes_L3 a0 x1 x2 x3 s.1 s.2) ((0 : Int32), σ)) fun w1 => some ((), w1)
theorem t_X12_becomes {M : Mx} {l0 : Launch} (O : Ok M cX12_becomes yX12_becomes) (R0 : Rm M l0 2 80 0 0) (N : Ma M = false) (hn : Mn M = 5) (a0 : Nat) (x1 : Int32) (x2 : Int32) (x3 : Int32) (σ : Dt) (o : (Unit × Dt)) (h : f_X12_becomes a0 x1 x2 x3 σ = some o) (K : Fin' M (none) 0 0 SM o.2 (none)) : G M 0 0 0 [(0, vA (some a0)), (1, vI x1), (2, vI x2), (3, vI x3)] [] SM σ := by
  unfold f_X12_becomes at h
  refine g_iconst (v := (0 : Int32)) O dX12_becomes_0 rfl ?_
  refine g_istore (lv' := [(4, vI (0 : Int32)), (0, vA (some a0)), (1, vI x1), (2, vI x2), (3, vI x3)]) O dX12_becomes_1 5 hn (by decide) rfl ?_
  refine g_sub [1, 2, 3, 4, 0] (lv' := [(0, vA (some a0)), (1, vI x1), (2, vI x2), (3, vI x3), (4, vI (0 : Int32))]) rfl ?_
  obtain ⟨w1, e2, h⟩ := bo_some h
  refine iter_G (P := P_X12_becomes_3 M a0 x1 x2 x3) (E := E_X12_becomes_3 M a0 x1 x2 x3) (fun s o hb hk => t_X12_becomes_L3 O R0 N hn a0 x1 x2 x3 s.1 s.2 o hb hk) FU ((0 : Int32), σ) w1 e2 ?_
  show G M 0 0 90 [] [] SM w1
  cases h
  exact g_return O K dX12_becomes_90
theorem c_X12_becomes (l0 : Launch) (a0 : Nat) (x1 : Int32) (x2 : Int32) (x3 : Int32) (σ : Dt) (r : Unit) (σ' : Dt) (h : f_X12_becomes a0 x1 x2 x3 σ = some (r, σ')) : Ctr l0 yX12_becomes cX12_becomes 5 (none) false 2 80 0 0 [vA (some a0), vI x1, vI x2, vI x3] SM σ SM σ' (none) := ctr_of (by decide) (Nat.le_of_ble_eq_true rfl) (fun M O F R0 N hn => t_X12_becomes O R0 N hn a0 x1 x2 x3 σ (r, σ') h F)
def f_X12_dies (a0 : Nat) (x1 : Int32) (σ : Dt) : Option (Int32 × Dt) := bo (xrc SM 12 (some a0)) fun a1 => bo (f_X12_lives a1 x1 σ) fun v3 => if v3 = 0 then some ((0 : Int32), σ) else bo (xgi SM 12 29 (some a0) σ) fun v6 => bo (xpi SM 12 29 (some a0) (v6 &&& (((1 : Int32) <<< (x1 &&& 31)) ^^^ (-1 : Int32))) σ) fun σ8 => bo (xrc SM 12 (some a0)) fun a10 => bd (f_X12_becomes a10 x1 (-1 : Int32) (2 : Int32) σ8) fun v12 σ13 => some ((1 : Int32), σ13)
theorem t_X12_dies {M : Mx} {l0 : Launch} (O : Ok M cX12_dies yX12_dies) (R0 : Rm M l0 4 123 0 0) (N : Ma M = false) (hn : Mn M = 2) (a0 : Nat) (x1 : Int32) (σ : Dt) (o : (Int32 × Dt)) (h : f_X12_dies a0 x1 σ = some o) (K : Fin' M (some .boolean) 0 0 SM o.2 (some (vI o.1))) : G M 0 0 0 [(0, vA (some a0)), (1, vI x1)] [] SM σ := by
  unfold f_X12_dies at h
  refine g_aload_n O dX12_dies_0 rfl 0 rfl ?_
  refine g_iload_n O dX12_dies_1 rfl 1 rfl ?_
  obtain ⟨a1, e2, h⟩ := bo_some h
  obtain ⟨v3, e4, h⟩ := bo_some h
  refine g_cV1 O R0 N dX12_dies_2 vl_X12_404 vv_X12_lives e2 [vI x1] rfl rfl rfl ⟨Nat.le_of_ble_eq_true rfl, Nat.le_of_ble_eq_true rfl⟩ (c_X12_lives l0 a1 x1 σ v3 e4) ?_
  refine g_if_ne O dX12_dies_5 rfl (fun c5 => ?_) (fun c5 => ?_)
  · replace h := (if_pos c5).symm.trans h
    refine g_iconst (v := (0 : Int32)) O dX12_dies_8 rfl ?_
    cases h
    exact g_zreturn O (by decide) K dX12_dies_9
  · replace h := (if_neg c5).symm.trans h
    refine g_aload_n O dX12_dies_10 rfl 0 rfl ?_
    refine g_dup O dX12_dies_11 rfl ?_
    obtain ⟨v6, e7, h⟩ := bo_some h
    refine g_getI O dX12_dies_12 fl_X12_389 rfl e7 ?_
    refine g_iconst (v := (1 : Int32)) O dX12_dies_15 rfl ?_
    refine g_iload_n O dX12_dies_16 rfl 1 rfl ?_
    refine g_ishl O dX12_dies_17 ?_
    refine g_iconst (v := (-1 : Int32)) O dX12_dies_18 rfl ?_
    refine g_ixor O dX12_dies_19 ?_
    refine g_iand O dX12_dies_20 ?_
    obtain ⟨σ8, e9, h⟩ := bo_some h
    refine g_putI O dX12_dies_21 fl_X12_389 (Or.inl rfl) rfl e9 ?_
    refine g_aload_n O dX12_dies_24 rfl 0 rfl ?_
    refine g_iload_n O dX12_dies_25 rfl 1 rfl ?_
    refine g_iconst (v := (-1 : Int32)) O dX12_dies_26 rfl ?_
    refine g_iconst (v := (2 : Int32)) O dX12_dies_27 rfl ?_
    obtain ⟨a10, e11, h⟩ := bo_some h
    obtain ⟨v12, σ13, e14, h⟩ := bd_some h
    refine g_cV0 O R0 N dX12_dies_28 vl_X12_410 vv_X12_becomes e11 [vI x1, vI (-1 : Int32), vI (2 : Int32)] rfl rfl rfl ⟨Nat.le_of_ble_eq_true rfl, Nat.le_of_ble_eq_true rfl⟩ (c_X12_becomes l0 a10 x1 (-1 : Int32) (2 : Int32) σ8 v12 σ13 e14) ?_
    refine g_iconst (v := (1 : Int32)) O dX12_dies_31 rfl ?_
    cases h
    exact g_zreturn O (by decide) K dX12_dies_32
theorem c_X12_dies (l0 : Launch) (a0 : Nat) (x1 : Int32) (σ : Dt) (r : Int32) (σ' : Dt) (h : f_X12_dies a0 x1 σ = some (r, σ')) : Ctr l0 yX12_dies cX12_dies 2 (some .boolean) false 4 123 0 0 [vA (some a0), vI x1] SM σ SM σ' (some (vI r)) := ctr_of (by decide) (Nat.le_of_ble_eq_true rfl) (fun M O F R0 N hn => t_X12_dies O R0 N hn a0 x1 σ (r, σ') h F)
def P_X12_owesOf_4 (M : Mx) (a0 : Nat) (x1 : Int32) (σ : Dt) (s : (Int32 × Int32)) : Prop := G M 0 0 4 [(0, vA (some a0)), (1, vI x1), (2, vI s.1), (3, vI s.2)] [] SM σ
def E_X12_owesOf_4 (M : Mx) (a0 : Nat) (x1 : Int32) (σ : Dt) : Int32 → Prop := (fun w => G M 0 0 63 [(2, vI w)] [] SM σ)
def f_X12_owesOf_55 (a0 : Nat) (x1 : Int32) (x3 : Int32) (k0 : Int32) (k1 : Int32) (σ : Dt) : Option ((Int32 × Int32) ⊕ Int32) := some (.inl ((k0 ||| k1), (x3 + (1 : Int32))))
theorem t_X12_owesOf_55 {M : Mx} {l0 : Launch} (O : Ok M cX12_owesOf yX12_owesOf) (R0 : Rm M l0 4 123 0 0) (N : Ma M = false) (hn : Mn M = 4)  (a0 : Nat) (x1 : Int32) (x3 : Int32) (k0 : Int32) (k1 : Int32) (σ : Dt) (o : ((Int32 × Int32) ⊕ Int32)) (h : f_X12_owesOf_55 a0 x1 x3 k0 k1 σ = some o) (K : kon (P_X12_owesOf_4 M a0 x1 σ) (E_X12_owesOf_4 M a0 x1 σ) o) : G M 0 0 55 [(0, vA (some a0)), (1, vI x1), (3, vI x3)] [vI k1, vI k0] SM σ := by
  unfold f_X12_owesOf_55 at h
  refine g_ior O dX12_owesOf_55 ?_
  refine g_istore_n (lv' := [(2, vI (k0 ||| k1)), (0, vA (some a0)), (1, vI x1), (3, vI x3)]) O dX12_owesOf_56 rfl 4 hn (by decide) rfl ?_
  refine g_iinc (v := (x3 + (1 : Int32))) (lv' := [(3, vI (x3 + (1 : Int32))), (2, vI (k0 ||| k1)), (0, vA (some a0)), (1, vI x1)]) O dX12_owesOf_57 4 hn (by decide) 3 rfl rfl rfl ?_
  refine g_goto O dX12_owesOf_60 rfl ?_
  refine g_sub [2, 3, 1, 0] (lv' := [(0, vA (some a0)), (1, vI x1), (2, vI (k0 ||| k1)), (3, vI (x3 + (1 : Int32)))]) rfl ?_
  cases h
  exact K
def f_X12_owesOf_54 (a0 : Nat) (x1 : Int32) (x3 : Int32) (k0 : Int32) (σ : Dt) : Option ((Int32 × Int32) ⊕ Int32) := f_X12_owesOf_55 a0 x1 x3 k0 (0 : Int32) σ
theorem t_X12_owesOf_54 {M : Mx} {l0 : Launch} (O : Ok M cX12_owesOf yX12_owesOf) (R0 : Rm M l0 4 123 0 0) (N : Ma M = false) (hn : Mn M = 4)  (a0 : Nat) (x1 : Int32) (x3 : Int32) (k0 : Int32) (σ : Dt) (o : ((Int32 × Int32) ⊕ Int32)) (h : f_X12_owesOf_54 a0 x1 x3 k0 σ = some o) (K : kon (P_X12_owesOf_4 M a0 x1 σ) (E_X12_owesOf_4 M a0 x1 σ) o) : G M 0 0 54 [(0, vA (some a0)), (1, vI x1), (3, vI x3)] [vI k0] SM σ := by
  unfold f_X12_owesOf_54 at h
  refine g_iconst (v := (0 : Int32)) O dX12_owesOf_54 rfl ?_
  exact t_X12_owesOf_55 O R0 N hn a0 x1 x3 k0 (0 : Int32) σ o h K
def f_X12_owesOf_L4 (a0 : Nat) (x1 : Int32) (x2 : Int32) (x3 : Int32) (σ : Dt) : Option ((Int32 × Int32) ⊕ Int32) := bo (xgi SM 12 32 (some a0) σ) fun v1 => if v1 ≤ x3 then some (.inr x2) else bo (xrc SM 12 (some a0)) fun a4 => bo (f_X12_lives a4 x1 σ) fun v6 => if v6 = 0 then f_X12_owesOf_54 a0 x1 x3 x2 σ else bo (xgr SM 12 44 (some a0) σ) fun v9 => bo (xai SM v9 x3 σ) fun v11 => if v11 = 0 then bo (xgr SM 12 37 (some a0) σ) fun v14 => bo (xgr SM 12 41 (some a0) σ) fun v16 => bo (xai SM v16 x3 σ) fun v18 => bo (xai SM v14 v18 σ) fun v20 => bo (f_X12_isAmong v20 x1 σ) fun v22 => if v22 = 0 then f_X12_owesOf_54 a0 x1 x3 x2 σ else f_X12_owesOf_55 a0 x1 x3 x2 ((1 : Int32) <<< (x3 &&& 31)) σ else f_X12_owesOf_54 a0 x1 x3 x2 σ
theorem t_X12_owesOf_L4 {M : Mx} {l0 : Launch} (O : Ok M cX12_owesOf yX12_owesOf) (R0 : Rm M l0 4 123 0 0) (N : Ma M = false) (hn : Mn M = 4) (a0 : Nat) (x1 : Int32) (x2 : Int32) (x3 : Int32) (σ : Dt) (o : ((Int32 × Int32) ⊕ Int32)) (h : f_X12_owesOf_L4 a0 x1 x2 x3 σ = some o) (K : kon (P_X12_owesOf_4 M a0 x1 σ) (E_X12_owesOf_4 M a0 x1 σ) o) : G M 0 0 4 [(0, vA (some a0)), (1, vI x1), (2, vI x2), (3, vI x3)] [] SM σ := by
  unfold f_X12_owesOf_L4 at h
  refine g_iload_n O dX12_owesOf_4 rfl 3 rfl ?_
  refine g_aload_n O dX12_owesOf_5 rfl 0 rfl ?_
  obtain ⟨v1, e2, h⟩ := bo_some h
  refine g_getI O dX12_owesOf_6 fl_X12_398 rfl e2 ?_
  refine g_icmp_ge O dX12_owesOf_9 rfl (fun c3 => ?_) (fun c3 => ?_)
  · replace h := (if_pos c3).symm.trans h
    refine g_sub [2] (lv' := [(2, vI x2)]) rfl ?_
    cases h
    exact K
  · replace h := (if_neg c3).symm.trans h
    refine g_iload_n O dX12_owesOf_12 rfl 2 rfl ?_
    refine g_aload_n O dX12_owesOf_13 rfl 0 rfl ?_
    refine g_iload_n O dX12_owesOf_14 rfl 1 rfl ?_
    obtain ⟨a4, e5, h⟩ := bo_some h
    obtain ⟨v6, e7, h⟩ := bo_some h
    refine g_cV1 O R0 N dX12_owesOf_15 vl_X12_404 vv_X12_lives e5 [vI x1] rfl rfl rfl ⟨Nat.le_of_ble_eq_true rfl, Nat.le_of_ble_eq_true rfl⟩ (c_X12_lives l0 a4 x1 σ v6 e7) ?_
    refine g_if_eq O dX12_owesOf_18 rfl (fun c8 => ?_) (fun c8 => ?_)
    · replace h := (if_pos c8).symm.trans h
      refine g_sub [0, 1, 3] (lv' := [(0, vA (some a0)), (1, vI x1), (3, vI x3)]) rfl ?_
      exact t_X12_owesOf_54 O R0 N hn a0 x1 x3 x2 σ o h K
    · replace h := (if_neg c8).symm.trans h
      refine g_aload_n O dX12_owesOf_21 rfl 0 rfl ?_
      obtain ⟨v9, e10, h⟩ := bo_some h
      refine g_getR O dX12_owesOf_22 fl_X12_85 rfl e10 ?_
      refine g_iload_n O dX12_owesOf_25 rfl 3 rfl ?_
      obtain ⟨v11, e12, h⟩ := bo_some h
      refine g_iaload O dX12_owesOf_26 e12 ?_
      refine g_if_ne O dX12_owesOf_27 rfl (fun c13 => ?_) (fun c13 => ?_)
      · replace h := (if_pos c13).symm.trans h
        refine g_aload_n O dX12_owesOf_30 rfl 0 rfl ?_
        obtain ⟨v14, e15, h⟩ := bo_some h
        refine g_getR O dX12_owesOf_31 fl_X12_64 rfl e15 ?_
        refine g_aload_n O dX12_owesOf_34 rfl 0 rfl ?_
        obtain ⟨v16, e17, h⟩ := bo_some h
        refine g_getR O dX12_owesOf_35 fl_X12_76 rfl e17 ?_
        refine g_iload_n O dX12_owesOf_38 rfl 3 rfl ?_
        obtain ⟨v18, e19, h⟩ := bo_some h
        refine g_iaload O dX12_owesOf_39 e19 ?_
        obtain ⟨v20, e21, h⟩ := bo_some h
        refine g_iaload O dX12_owesOf_40 e21 ?_
        refine g_iload_n O dX12_owesOf_41 rfl 1 rfl ?_
        obtain ⟨v22, e23, h⟩ := bo_some h
        refine g_cS1 O R0 N dX12_owesOf_42 vl_X12_235 w1766 [vI v20, vI x1] rfl rfl rfl ⟨Nat.le_of_ble_eq_true rfl, Nat.le_of_ble_eq_true rfl⟩ (c_X12_isAmong l0 v20 x1 σ v22 e23) ?_
        refine g_if_eq O dX12_owesOf_45 rfl (fun c24 => ?_) (fun c24 => ?_)
        · replace h := (if_pos c24).symm.trans h
          refine g_sub [0, 1, 3] (lv' := [(0, vA (some a0)), (1, vI x1), (3, vI x3)]) rfl ?_
          exact t_X12_owesOf_54 O R0 N hn a0 x1 x3 x2 σ o h K
        · replace h := (if_neg c24).symm.trans h
          refine g_iconst (v := (1 : Int32)) O dX12_owesOf_48 rfl ?_
          refine g_iload_n O dX12_owesOf_49 rfl 3 rfl ?_
          refine g_ishl O dX12_owesOf_50 ?_
          refine g_goto O dX12_owesOf_51 rfl ?_
          refine g_sub [0, 1, 3] (lv' := [(0, vA (some a0)), (1, vI x1), (3, vI x3)]) rfl ?_
          exact t_X12_owesOf_55 O R0 N hn a0 x1 x3 x2 ((1 : Int32) <<< (x3 &&& 31)) σ o h K
      · replace h := (if_neg c13).symm.trans h
        refine g_sub [0, 1, 3] (lv' := [(0, vA (some a0)), (1, vI x1), (3, vI x3)]) rfl ?_
        exact t_X12_owesOf_54 O R0 N hn a0 x1 x3 x2 σ o h K
def f_X12_owesOf (a0 : Nat) (x1 : Int32) (σ : Dt) : Option Int32 := bo (iter FU (fun s => f_X12_owesOf_L4 a0 x1 s.1 s.2 σ) ((0 : Int32), (0 : Int32))) fun w1 => some w1
theorem t_X12_owesOf {M : Mx} {l0 : Launch} (O : Ok M cX12_owesOf yX12_owesOf) (R0 : Rm M l0 4 123 0 0) (N : Ma M = false) (hn : Mn M = 4) (a0 : Nat) (x1 : Int32) (σ : Dt) (o : Int32) (h : f_X12_owesOf a0 x1 σ = some o) (K : Fin' M (some .int) 0 0 SM σ (some (vI o))) : G M 0 0 0 [(0, vA (some a0)), (1, vI x1)] [] SM σ := by
  unfold f_X12_owesOf at h
  refine g_iconst (v := (0 : Int32)) O dX12_owesOf_0 rfl ?_
  refine g_istore_n (lv' := [(2, vI (0 : Int32)), (0, vA (some a0)), (1, vI x1)]) O dX12_owesOf_1 rfl 4 hn (by decide) rfl ?_
  refine g_iconst (v := (0 : Int32)) O dX12_owesOf_2 rfl ?_
  refine g_istore_n (lv' := [(3, vI (0 : Int32)), (2, vI (0 : Int32)), (0, vA (some a0)), (1, vI x1)]) O dX12_owesOf_3 rfl 4 hn (by decide) rfl ?_
  refine g_sub [2, 3, 1, 0] (lv' := [(0, vA (some a0)), (1, vI x1), (2, vI (0 : Int32)), (3, vI (0 : Int32))]) rfl ?_
  obtain ⟨w1, e2, h⟩ := bo_some h
  refine iter_G (P := P_X12_owesOf_4 M a0 x1 σ) (E := E_X12_owesOf_4 M a0 x1 σ) (fun s o hb hk => t_X12_owesOf_L4 O R0 N hn a0 x1 s.1 s.2 σ o hb hk) FU ((0 : Int32), (0 : Int32)) w1 e2 ?_
  show G M 0 0 63 [(2, vI w1)] [] SM σ
  refine g_iload_n O dX12_owesOf_63 rfl 0 rfl ?_
  cases h
  exact g_ireturn O K dX12_owesOf_64
theorem c_X12_owesOf (l0 : Launch) (a0 : Nat) (x1 : Int32) (σ : Dt) (r : Int32) (h : f_X12_owesOf a0 x1 σ = some r) : Ctr l0 yX12_owesOf cX12_owesOf 4 (some .int) false 4 123 0 0 [vA (some a0), vI x1] SM σ SM σ (some (vI r)) := ctr_of (by decide) (Nat.le_of_ble_eq_true rfl) (fun M O F R0 N hn => t_X12_owesOf O R0 N hn a0 x1 σ r h F)
def P_X12_works0_11 (M : Mx) (a0 : Nat) (x1 : Int32) (x2 : Int32) (σ : Dt) (s : (Int32 × Int32)) : Prop := G M 0 0 11 [(0, vA (some a0)), (1, vI x1), (2, vI x2), (3, vI s.1), (4, vI s.2)] [] SM σ
def E_X12_works0_11 (M : Mx) (a0 : Nat) (x1 : Int32) (x2 : Int32) (σ : Dt) : Int32 → Prop := (fun w => G M 0 0 59 [(0, vA (some a0)), (1, vI x1), (3, vI w)] [] SM σ)
def f_X12_works0_53 (a0 : Nat) (x1 : Int32) (x2 : Int32) (x3 : Int32) (x4 : Int32) (σ : Dt) : Option ((Int32 × Int32) ⊕ Int32) := some (.inl (x3, (x4 + (1 : Int32))))
theorem t_X12_works0_53 {M : Mx} {l0 : Launch} (O : Ok M cX12_works0 yX12_works0) (R0 : Rm M l0 5 146 0 0) (N : Ma M = false) (hn : Mn M = 6)  (a0 : Nat) (x1 : Int32) (x2 : Int32) (x3 : Int32) (x4 : Int32) (σ : Dt) (o : ((Int32 × Int32) ⊕ Int32)) (h : f_X12_works0_53 a0 x1 x2 x3 x4 σ = some o) (K : kon (P_X12_works0_11 M a0 x1 x2 σ) (E_X12_works0_11 M a0 x1 x2 σ) o) : G M 0 0 53 [(0, vA (some a0)), (1, vI x1), (2, vI x2), (3, vI x3), (4, vI x4)] [] SM σ := by
  unfold f_X12_works0_53 at h
  refine g_iinc (v := (x4 + (1 : Int32))) (lv' := [(4, vI (x4 + (1 : Int32))), (0, vA (some a0)), (1, vI x1), (2, vI x2), (3, vI x3)]) O dX12_works0_53 6 hn (by decide) 4 rfl rfl rfl ?_
  refine g_goto O dX12_works0_56 rfl ?_
  refine g_sub [1, 2, 3, 4, 0] (lv' := [(0, vA (some a0)), (1, vI x1), (2, vI x2), (3, vI x3), (4, vI (x4 + (1 : Int32)))]) rfl ?_
  cases h
  exact K
def f_X12_works0_50 (a0 : Nat) (x1 : Int32) (x2 : Int32) (x4 : Int32) (σ : Dt) : Option ((Int32 × Int32) ⊕ Int32) := f_X12_works0_53 a0 x1 x2 x4 x4 σ
theorem t_X12_works0_50 {M : Mx} {l0 : Launch} (O : Ok M cX12_works0 yX12_works0) (R0 : Rm M l0 5 146 0 0) (N : Ma M = false) (hn : Mn M = 6)  (a0 : Nat) (x1 : Int32) (x2 : Int32) (x4 : Int32) (σ : Dt) (o : ((Int32 × Int32) ⊕ Int32)) (h : f_X12_works0_50 a0 x1 x2 x4 σ = some o) (K : kon (P_X12_works0_11 M a0 x1 x2 σ) (E_X12_works0_11 M a0 x1 x2 σ) o) : G M 0 0 50 [(0, vA (some a0)), (1, vI x1), (2, vI x2), (4, vI x4)] [] SM σ := by
  unfold f_X12_works0_50 at h
  refine g_iload O dX12_works0_50 3 rfl ?_
  refine g_istore_n (lv' := [(3, vI x4), (0, vA (some a0)), (1, vI x1), (2, vI x2), (4, vI x4)]) O dX12_works0_52 rfl 6 hn (by decide) rfl ?_
  refine g_sub [1, 2, 3, 0, 4] (lv' := [(0, vA (some a0)), (1, vI x1), (2, vI x2), (3, vI x4), (4, vI x4)]) rfl ?_
  exact t_X12_works0_53 O R0 N hn a0 x1 x2 x4 x4 σ o h K
def f_X12_works0_L11 (a0 : Nat) (x1 : Int32) (x2 : Int32) (x3 : Int32) (x4 : Int32) (σ : Dt) : Option ((Int32 × Int32) ⊕ Int32) := bo (xgi SM 12 32 (some a0) σ) fun v1 => if v1 ≤ x4 then some (.inr x3) else bo (f_X12_isAmong x2 x4 σ) fun v4 => if v4 = 0 then f_X12_works0_53 a0 x1 x2 x3 x4 σ else if x3 = (-1 : Int32) then f_X12_works0_50 a0 x1 x2 x4 σ else bo (xgr SM 12 43 (some a0) σ) fun v8 => bo (xai SM v8 x4 σ) fun v10 => bo (xgr SM 12 43 (some a0) σ) fun v12 => bo (xai SM v12 x3 σ) fun v14 => if v14 ≤ v10 then f_X12_works0_53 a0 x1 x2 x3 x4 σ else f_X12_works0_50 a0 x1 x2 x4 σ
theorem t_X12_works0_L11 {M : Mx} {l0 : Launch} (O : Ok M cX12_works0 yX12_works0) (R0 : Rm M l0 5 146 0 0) (N : Ma M = false) (hn : Mn M = 6) (a0 : Nat) (x1 : Int32) (x2 : Int32) (x3 : Int32) (x4 : Int32) (σ : Dt) (o : ((Int32 × Int32) ⊕ Int32)) (h : f_X12_works0_L11 a0 x1 x2 x3 x4 σ = some o) (K : kon (P_X12_works0_11 M a0 x1 x2 σ) (E_X12_works0_11 M a0 x1 x2 σ) o) : G M 0 0 11 [(0, vA (some a0)), (1, vI x1), (2, vI x2), (3, vI x3), (4, vI x4)] [] SM σ := by
  unfold f_X12_works0_L11 at h
  refine g_iload O dX12_works0_11 4 rfl ?_
  refine g_aload_n O dX12_works0_13 rfl 0 rfl ?_
  obtain ⟨v1, e2, h⟩ := bo_some h
  refine g_getI O dX12_works0_14 fl_X12_398 rfl e2 ?_
  refine g_icmp_ge O dX12_works0_17 rfl (fun c3 => ?_) (fun c3 => ?_)
  · replace h := (if_pos c3).symm.trans h
    refine g_sub [0, 1, 3] (lv' := [(0, vA (some a0)), (1, vI x1), (3, vI x3)]) rfl ?_
    cases h
    exact K
  · replace h := (if_neg c3).symm.trans h
    refine g_iload_n O dX12_works0_20 rfl 2 rfl ?_
    refine g_iload O dX12_works0_21 4 rfl ?_
    obtain ⟨v4, e5, h⟩ := bo_some h
    refine g_cS1 O R0 N dX12_works0_23 vl_X12_235 w1766 [vI x2, vI x4] rfl rfl rfl ⟨Nat.le_of_ble_eq_true rfl, Nat.le_of_ble_eq_true rfl⟩ (c_X12_isAmong l0 x2 x4 σ v4 e5) ?_
    refine g_if_eq O dX12_works0_26 rfl (fun c6 => ?_) (fun c6 => ?_)
    · replace h := (if_pos c6).symm.trans h
      exact t_X12_works0_53 O R0 N hn a0 x1 x2 x3 x4 σ o h K
    · replace h := (if_neg c6).symm.trans h
      refine g_iload_n O dX12_works0_29 rfl 3 rfl ?_
      refine g_iconst (v := (-1 : Int32)) O dX12_works0_30 rfl ?_
      refine g_icmp_eq O dX12_works0_31 rfl (fun c7 => ?_) (fun c7 => ?_)
      · replace h := (if_pos c7).symm.trans h
        refine g_sub [0, 1, 2, 4] (lv' := [(0, vA (some a0)), (1, vI x1), (2, vI x2), (4, vI x4)]) rfl ?_
        exact t_X12_works0_50 O R0 N hn a0 x1 x2 x4 σ o h K
      · replace h := (if_neg c7).symm.trans h
        refine g_aload_n O dX12_works0_34 rfl 0 rfl ?_
        obtain ⟨v8, e9, h⟩ := bo_some h
        refine g_getR O dX12_works0_35 fl_X12_82 rfl e9 ?_
        refine g_iload O dX12_works0_38 4 rfl ?_
        obtain ⟨v10, e11, h⟩ := bo_some h
        refine g_iaload O dX12_works0_40 e11 ?_
        refine g_aload_n O dX12_works0_41 rfl 0 rfl ?_
        obtain ⟨v12, e13, h⟩ := bo_some h
        refine g_getR O dX12_works0_42 fl_X12_82 rfl e13 ?_
        refine g_iload_n O dX12_works0_45 rfl 3 rfl ?_
        obtain ⟨v14, e15, h⟩ := bo_some h
        refine g_iaload O dX12_works0_46 e15 ?_
        refine g_icmp_ge O dX12_works0_47 rfl (fun c16 => ?_) (fun c16 => ?_)
        · replace h := (if_pos c16).symm.trans h
          exact t_X12_works0_53 O R0 N hn a0 x1 x2 x3 x4 σ o h K
        · replace h := (if_neg c16).symm.trans h
          refine g_sub [0, 1, 2, 4] (lv' := [(0, vA (some a0)), (1, vI x1), (2, vI x2), (4, vI x4)]) rfl ?_
          exact t_X12_works0_50 O R0 N hn a0 x1 x2 x4 σ o h K
def f_X12_works0_111 (a0 : Nat) (x1 : Int32) (x4 : Int32) (k0 : Int32) (σ : Dt) : Option (Unit × Dt) := bo (xgr SM 12 40 (some a0) σ) fun v1 => bo (xai SM v1 x4 σ) fun v3 => bo (xsi SM v1 x4 (v3 + k0) σ) fun σ5 => bo (xgr SM 12 38 (some a0) σ5) fun v7 => bo (xai SM v7 x1 σ5) fun v9 => bo (xsi SM v7 x1 (v9 + k0) σ5) fun σ11 => bo (xrc SM 12 (some a0)) fun a13 => bo (f_X12_isDone a13 x4 σ11) fun v15 => if v15 = 0 then some ((), σ11) else bo (xrc SM 12 (some a0)) fun a18 => bd (f_X12_becomes a18 (-1 : Int32) x4 (1 : Int32) σ11) fun v20 σ21 => some ((), σ21)
theorem t_X12_works0_111 {M : Mx} {l0 : Launch} (O : Ok M cX12_works0 yX12_works0) (R0 : Rm M l0 5 146 0 0) (N : Ma M = false) (hn : Mn M = 6)  (a0 : Nat) (x1 : Int32) (x4 : Int32) (k0 : Int32) (σ : Dt) (o : (Unit × Dt)) (h : f_X12_works0_111 a0 x1 x4 k0 σ = some o) (K : Fin' M (none) 0 0 SM o.2 (none)) : G M 0 0 111 [(0, vA (some a0)), (1, vI x1), (4, vI x4)] [vI k0] SM σ := by
  unfold f_X12_works0_111 at h
  refine g_istore (lv' := [(5, vI k0), (0, vA (some a0)), (1, vI x1), (4, vI x4)]) O dX12_works0_111 6 hn (by decide) rfl ?_
  refine g_aload_n O dX12_works0_113 rfl 1 rfl ?_
  obtain ⟨v1, e2, h⟩ := bo_some h
  refine g_getR O dX12_works0_114 fl_X12_73 rfl e2 ?_
  refine g_iload O dX12_works0_117 3 rfl ?_
  refine g_dup2 O dX12_works0_119 rfl rfl ?_
  obtain ⟨v3, e4, h⟩ := bo_some h
  refine g_iaload O dX12_works0_120 e4 ?_
  refine g_iload O dX12_works0_121 0 rfl ?_
  refine g_iadd O dX12_works0_123 ?_
  obtain ⟨σ5, e6, h⟩ := bo_some h
  refine g_iastore O dX12_works0_124 e6 ?_
  refine g_aload_n O dX12_works0_125 rfl 1 rfl ?_
  obtain ⟨v7, e8, h⟩ := bo_some h
  refine g_getR O dX12_works0_126 fl_X12_67 rfl e8 ?_
  refine g_iload_n O dX12_works0_129 rfl 2 rfl ?_
  refine g_dup2 O dX12_works0_130 rfl rfl ?_
  obtain ⟨v9, e10, h⟩ := bo_some h
  refine g_iaload O dX12_works0_131 e10 ?_
  refine g_iload O dX12_works0_132 0 rfl ?_
  refine g_iadd O dX12_works0_134 ?_
  obtain ⟨σ11, e12, h⟩ := bo_some h
  refine g_iastore O dX12_works0_135 e12 ?_
  refine g_aload_n O dX12_works0_136 rfl 1 rfl ?_
  refine g_iload O dX12_works0_137 3 rfl ?_
  obtain ⟨a13, e14, h⟩ := bo_some h
  obtain ⟨v15, e16, h⟩ := bo_some h
  refine g_cV1 O R0 N dX12_works0_139 vl_X12_407 vv_X12_isDone e14 [vI x4] rfl rfl rfl ⟨Nat.le_of_ble_eq_true rfl, Nat.le_of_ble_eq_true rfl⟩ (c_X12_isDone l0 a13 x4 σ11 v15 e16) ?_
  refine g_if_eq O dX12_works0_142 rfl (fun c17 => ?_) (fun c17 => ?_)
  · replace h := (if_pos c17).symm.trans h
    cases h
    exact g_return O K dX12_works0_153
  · replace h := (if_neg c17).symm.trans h
    refine g_aload_n O dX12_works0_145 rfl 1 rfl ?_
    refine g_iconst (v := (-1 : Int32)) O dX12_works0_146 rfl ?_
    refine g_iload O dX12_works0_147 3 rfl ?_
    refine g_iconst (v := (1 : Int32)) O dX12_works0_149 rfl ?_
    obtain ⟨a18, e19, h⟩ := bo_some h
    obtain ⟨v20, σ21, e22, h⟩ := bd_some h
    refine g_cV0 O R0 N dX12_works0_150 vl_X12_410 vv_X12_becomes e19 [vI (-1 : Int32), vI x4, vI (1 : Int32)] rfl rfl rfl ⟨Nat.le_of_ble_eq_true rfl, Nat.le_of_ble_eq_true rfl⟩ (c_X12_becomes l0 a18 (-1 : Int32) x4 (1 : Int32) σ11 v20 σ21 e22) ?_
    cases h
    exact g_return O K dX12_works0_153
def f_X12_works0 (a0 : Nat) (x1 : Int32) (σ : Dt) : Option (Unit × Dt) := bo (xrc SM 12 (some a0)) fun a1 => bo (f_X12_owesOf a1 x1 σ) fun v3 => bo (iter FU (fun s => f_X12_works0_L11 a0 x1 v3 s.1 s.2 σ) ((-1 : Int32), (0 : Int32))) fun w5 => if w5 = (-1 : Int32) then some ((), σ) else bo (xgr SM 12 42 (some a0) σ) fun v8 => bo (xai SM v8 w5 σ) fun v10 => bo (xrc SM 12 (some a0)) fun a12 => bo (f_X12_muchOf a12 v10 σ) fun v14 => bo (xgr SM 12 40 (some a0) σ) fun v16 => bo (xai SM v16 v10 σ) fun v18 => bo (xgr SM 12 35 (some a0) σ) fun v20 => bo (xai SM v20 x1 σ) fun v22 => if (v14 - v18) ≤ v22 then f_X12_works0_111 a0 x1 v10 (v14 - v18) σ else bo (xgr SM 12 35 (some a0) σ) fun v25 => bo (xai SM v25 x1 σ) fun v27 => f_X12_works0_111 a0 x1 v10 v27 σ
theorem t_X12_works0 {M : Mx} {l0 : Launch} (O : Ok M cX12_works0 yX12_works0) (R0 : Rm M l0 5 146 0 0) (N : Ma M = false) (hn : Mn M = 6) (a0 : Nat) (x1 : Int32) (σ : Dt) (o : (Unit × Dt)) (h : f_X12_works0 a0 x1 σ = some o) (K : Fin' M (none) 0 0 SM o.2 (none)) : G M 0 0 0 [(0, vA (some a0)), (1, vI x1)] [] SM σ := by
  unfold f_X12_works0 at h
  refine g_aload_n O dX12_works0_0 rfl 0 rfl ?_
  refine g_iload_n O dX12_works0_1 rfl 1 rfl ?_
  obtain ⟨a1, e2, h⟩ := bo_some h
  obtain ⟨v3, e4, h⟩ := bo_some h
  refine g_cV1 O R0 N dX12_works0_2 vl_X12_414 vv_X12_owesOf e2 [vI x1] rfl rfl rfl ⟨Nat.le_of_ble_eq_true rfl, Nat.le_of_ble_eq_true rfl⟩ (c_X12_owesOf l0 a1 x1 σ v3 e4) ?_
  refine g_istore_n (lv' := [(2, vI v3), (0, vA (some a0)), (1, vI x1)]) O dX12_works0_5 rfl 6 hn (by decide) rfl ?_
  refine g_iconst (v := (-1 : Int32)) O dX12_works0_6 rfl ?_
  refine g_istore_n (lv' := [(3, vI (-1 : Int32)), (2, vI v3), (0, vA (some a0)), (1, vI x1)]) O dX12_works0_7 rfl 6 hn (by decide) rfl ?_
  refine g_iconst (v := (0 : Int32)) O dX12_works0_8 rfl ?_
  refine g_istore (lv' := [(4, vI (0 : Int32)), (3, vI (-1 : Int32)), (2, vI v3), (0, vA (some a0)), (1, vI x1)]) O dX12_works0_9 6 hn (by decide) rfl ?_
  refine g_sub [3, 4, 2, 1, 0] (lv' := [(0, vA (some a0)), (1, vI x1), (2, vI v3), (3, vI (-1 : Int32)), (4, vI (0 : Int32))]) rfl ?_
  obtain ⟨w5, e6, h⟩ := bo_some h
  refine iter_G (P := P_X12_works0_11 M a0 x1 v3 σ) (E := E_X12_works0_11 M a0 x1 v3 σ) (fun s o hb hk => t_X12_works0_L11 O R0 N hn a0 x1 v3 s.1 s.2 σ o hb hk) FU ((-1 : Int32), (0 : Int32)) w5 e6 ?_
  show G M 0 0 59 [(0, vA (some a0)), (1, vI x1), (3, vI w5)] [] SM σ
  refine g_iload_n O dX12_works0_59 rfl 2 rfl ?_
  refine g_iconst (v := (-1 : Int32)) O dX12_works0_60 rfl ?_
  refine g_icmp_ne O dX12_works0_61 rfl (fun c7 => ?_) (fun c7 => ?_)
  · replace h := (if_pos c7).symm.trans h
    cases h
    exact g_return O K dX12_works0_64
  · replace h := (if_neg c7).symm.trans h
    refine g_aload_n O dX12_works0_65 rfl 0 rfl ?_
    obtain ⟨v8, e9, h⟩ := bo_some h
    refine g_getR O dX12_works0_66 fl_X12_79 rfl e9 ?_
    refine g_iload_n O dX12_works0_69 rfl 2 rfl ?_
    obtain ⟨v10, e11, h⟩ := bo_some h
    refine g_iaload O dX12_works0_70 e11 ?_
    refine g_istore (lv' := [(4, vI v10), (0, vA (some a0)), (1, vI x1), (3, vI w5)]) O dX12_works0_71 6 hn (by decide) rfl ?_
    refine g_aload_n O dX12_works0_73 rfl 1 rfl ?_
    refine g_iload O dX12_works0_74 0 rfl ?_
    obtain ⟨a12, e13, h⟩ := bo_some h
    obtain ⟨v14, e15, h⟩ := bo_some h
    refine g_cV1 O R0 N dX12_works0_76 vl_X12_229 vv_X12_muchOf e13 [vI v10] rfl rfl rfl ⟨Nat.le_of_ble_eq_true rfl, Nat.le_of_ble_eq_true rfl⟩ (c_X12_muchOf l0 a12 v10 σ v14 e15) ?_
    refine g_aload_n O dX12_works0_79 rfl 1 rfl ?_
    obtain ⟨v16, e17, h⟩ := bo_some h
    refine g_getR O dX12_works0_80 fl_X12_73 rfl e17 ?_
    refine g_iload O dX12_works0_83 0 rfl ?_
    obtain ⟨v18, e19, h⟩ := bo_some h
    refine g_iaload O dX12_works0_85 e19 ?_
    refine g_isub O dX12_works0_86 ?_
    refine g_istore (lv' := [(5, vI (v14 - v18)), (4, vI v10), (0, vA (some a0)), (1, vI x1), (3, vI w5)]) O dX12_works0_87 6 hn (by decide) rfl ?_
    refine g_aload_n O dX12_works0_89 rfl 2 rfl ?_
    obtain ⟨v20, e21, h⟩ := bo_some h
    refine g_getR O dX12_works0_90 fl_X12_58 rfl e21 ?_
    refine g_iload_n O dX12_works0_93 rfl 3 rfl ?_
    obtain ⟨v22, e23, h⟩ := bo_some h
    refine g_iaload O dX12_works0_94 e23 ?_
    refine g_iload O dX12_works0_95 0 rfl ?_
    refine g_icmp_ge O dX12_works0_97 rfl (fun c24 => ?_) (fun c24 => ?_)
    · replace h := (if_pos c24).symm.trans h
      refine g_iload O dX12_works0_109 0 rfl ?_
      refine g_sub [2, 3, 1] (lv' := [(0, vA (some a0)), (1, vI x1), (4, vI v10)]) rfl ?_
      exact t_X12_works0_111 O R0 N hn a0 x1 v10 (v14 - v18) σ o h K
    · replace h := (if_neg c24).symm.trans h
      refine g_aload_n O dX12_works0_100 rfl 2 rfl ?_
      obtain ⟨v25, e26, h⟩ := bo_some h
      refine g_getR O dX12_works0_101 fl_X12_58 rfl e26 ?_
      refine g_iload_n O dX12_works0_104 rfl 3 rfl ?_
      obtain ⟨v27, e28, h⟩ := bo_some h
      refine g_iaload O dX12_works0_105 e28 ?_
      refine g_goto O dX12_works0_106 rfl ?_
      refine g_sub [2, 3, 1] (lv' := [(0, vA (some a0)), (1, vI x1), (4, vI v10)]) rfl ?_
      exact t_X12_works0_111 O R0 N hn a0 x1 v10 v27 σ o h K
theorem c_X12_works0 (l0 : Launch) (a0 : Nat) (x1 : Int32) (σ : Dt) (r : Unit) (σ' : Dt) (h : f_X12_works0 a0 x1 σ = some (r, σ')) : Ctr l0 yX12_works0 cX12_works0 6 (none) false 5 146 0 0 [vA (some a0), vI x1] SM σ SM σ' (none) := ctr_of (by decide) (Nat.le_of_ble_eq_true rfl) (fun M O F R0 N hn => t_X12_works0 O R0 N hn a0 x1 σ (r, σ') h F)
def P_X12_yearGoes_13 (M : Mx) (a0 : Nat) (s : (Int32 × Dt)) : Prop := G M 0 0 13 [(0, vA (some a0)), (1, vI s.1)] [] SM s.2
def E_X12_yearGoes_13 (M : Mx) (a0 : Nat) : Dt → Prop := (fun w => G M 0 0 32 [(0, vA (some a0))] [] SM w)
def f_X12_yearGoes_L13 (a0 : Nat) (x1 : Int32) (σ : Dt) : Option ((Int32 × Dt) ⊕ Dt) := bo (xgi SM 12 28 (some a0) σ) fun v1 => if v1 ≤ x1 then some (.inr σ) else bo (xrc SM 12 (some a0)) fun a4 => bd (f_X12_works0 a4 x1 σ) fun v6 σ7 => some (.inl ((x1 + (1 : Int32)), σ7))
theorem t_X12_yearGoes_L13 {M : Mx} {l0 : Launch} (O : Ok M cX12_yearGoes yX12_yearGoes) (R0 : Rm M l0 6 171 0 0) (N : Ma M = false) (hn : Mn M = 3) (a0 : Nat) (x1 : Int32) (σ : Dt) (o : ((Int32 × Dt) ⊕ Dt)) (h : f_X12_yearGoes_L13 a0 x1 σ = some o) (K : kon (P_X12_yearGoes_13 M a0) (E_X12_yearGoes_13 M a0) o) : G M 0 0 13 [(0, vA (some a0)), (1, vI x1)] [] SM σ := by
  unfold f_X12_yearGoes_L13 at h
  refine g_iload_n O dX12_yearGoes_13 rfl 1 rfl ?_
  refine g_aload_n O dX12_yearGoes_14 rfl 0 rfl ?_
  obtain ⟨v1, e2, h⟩ := bo_some h
  refine g_getI O dX12_yearGoes_15 fl_X12_386 rfl e2 ?_
  refine g_icmp_ge O dX12_yearGoes_18 rfl (fun c3 => ?_) (fun c3 => ?_)
  · replace h := (if_pos c3).symm.trans h
    refine g_sub [0] (lv' := [(0, vA (some a0))]) rfl ?_
    cases h
    exact K
  · replace h := (if_neg c3).symm.trans h
    refine g_aload_n O dX12_yearGoes_21 rfl 0 rfl ?_
    refine g_iload_n O dX12_yearGoes_22 rfl 1 rfl ?_
    obtain ⟨a4, e5, h⟩ := bo_some h
    obtain ⟨v6, σ7, e8, h⟩ := bd_some h
    refine g_cV0 O R0 N dX12_yearGoes_23 vl_X12_417 vv_X12_works0 e5 [vI x1] rfl rfl rfl ⟨Nat.le_of_ble_eq_true rfl, Nat.le_of_ble_eq_true rfl⟩ (c_X12_works0 l0 a4 x1 σ v6 σ7 e8) ?_
    refine g_iinc (v := (x1 + (1 : Int32))) (lv' := [(1, vI (x1 + (1 : Int32))), (0, vA (some a0))]) O dX12_yearGoes_26 3 hn (by decide) 1 rfl rfl rfl ?_
    refine g_goto O dX12_yearGoes_29 rfl ?_
    refine g_sub [1, 0] (lv' := [(0, vA (some a0)), (1, vI (x1 + (1 : Int32)))]) rfl ?_
    cases h
    exact K
def P_X12_yearGoes_34 (M : Mx) (a0 : Nat) (s : (Int32 × Dt)) : Prop := G M 0 0 34 [(0, vA (some a0)), (1, vI s.1)] [] SM s.2
def E_X12_yearGoes_34 (M : Mx) (a0 : Nat) : Dt → Prop := (fun w => G M 0 0 81 [(0, vA (some a0))] [] SM w)
def f_X12_yearGoes_73 (a0 : Nat) (x1 : Int32) (k0 : Option Nat) (k1 : Int32) (k2 : Int32) (k3 : Int32) (σ : Dt) : Option ((Int32 × Dt) ⊕ Dt) := bo (xsi SM k0 k1 (k2 + k3) σ) fun σ1 => some (.inl ((x1 + (1 : Int32)), σ1))
theorem t_X12_yearGoes_73 {M : Mx} {l0 : Launch} (O : Ok M cX12_yearGoes yX12_yearGoes) (R0 : Rm M l0 6 171 0 0) (N : Ma M = false) (hn : Mn M = 3)  (a0 : Nat) (x1 : Int32) (k0 : Option Nat) (k1 : Int32) (k2 : Int32) (k3 : Int32) (σ : Dt) (o : ((Int32 × Dt) ⊕ Dt)) (h : f_X12_yearGoes_73 a0 x1 k0 k1 k2 k3 σ = some o) (K : kon (P_X12_yearGoes_34 M a0) (E_X12_yearGoes_34 M a0) o) : G M 0 0 73 [(0, vA (some a0)), (1, vI x1)] [vI k3, vI k2, vI k1, vA k0] SM σ := by
  unfold f_X12_yearGoes_73 at h
  refine g_iadd O dX12_yearGoes_73 ?_
  obtain ⟨σ1, e2, h⟩ := bo_some h
  refine g_iastore O dX12_yearGoes_74 e2 ?_
  refine g_iinc (v := (x1 + (1 : Int32))) (lv' := [(1, vI (x1 + (1 : Int32))), (0, vA (some a0))]) O dX12_yearGoes_75 3 hn (by decide) 1 rfl rfl rfl ?_
  refine g_goto O dX12_yearGoes_78 rfl ?_
  refine g_sub [1, 0] (lv' := [(0, vA (some a0)), (1, vI (x1 + (1 : Int32)))]) rfl ?_
  cases h
  exact K
def f_X12_yearGoes_72 (a0 : Nat) (x1 : Int32) (k0 : Option Nat) (k1 : Int32) (k2 : Int32) (σ : Dt) : Option ((Int32 × Dt) ⊕ Dt) := f_X12_yearGoes_73 a0 x1 k0 k1 k2 (0 : Int32) σ
theorem t_X12_yearGoes_72 {M : Mx} {l0 : Launch} (O : Ok M cX12_yearGoes yX12_yearGoes) (R0 : Rm M l0 6 171 0 0) (N : Ma M = false) (hn : Mn M = 3)  (a0 : Nat) (x1 : Int32) (k0 : Option Nat) (k1 : Int32) (k2 : Int32) (σ : Dt) (o : ((Int32 × Dt) ⊕ Dt)) (h : f_X12_yearGoes_72 a0 x1 k0 k1 k2 σ = some o) (K : kon (P_X12_yearGoes_34 M a0) (E_X12_yearGoes_34 M a0) o) : G M 0 0 72 [(0, vA (some a0)), (1, vI x1)] [vI k2, vI k1, vA k0] SM σ := by
  unfold f_X12_yearGoes_72 at h
  refine g_iconst (v := (0 : Int32)) O dX12_yearGoes_72 rfl ?_
  exact t_X12_yearGoes_73 O R0 N hn a0 x1 k0 k1 k2 (0 : Int32) σ o h K
def f_X12_yearGoes_L34 (a0 : Nat) (x1 : Int32) (σ : Dt) : Option ((Int32 × Dt) ⊕ Dt) := bo (xgi SM 12 28 (some a0) σ) fun v1 => if v1 ≤ x1 then some (.inr σ) else bo (xgr SM 12 34 (some a0) σ) fun v4 => bo (xai SM v4 x1 σ) fun v6 => bo (xrc SM 12 (some a0)) fun a8 => bo (f_X12_lives a8 x1 σ) fun v10 => if v10 = 0 then f_X12_yearGoes_72 a0 x1 v4 x1 v6 σ else bo (xgr SM 12 34 (some a0) σ) fun v13 => bo (xai SM v13 x1 σ) fun v15 => if (99 : Int32) ≤ v15 then f_X12_yearGoes_72 a0 x1 v4 x1 v6 σ else f_X12_yearGoes_73 a0 x1 v4 x1 v6 (1 : Int32) σ
theorem t_X12_yearGoes_L34 {M : Mx} {l0 : Launch} (O : Ok M cX12_yearGoes yX12_yearGoes) (R0 : Rm M l0 6 171 0 0) (N : Ma M = false) (hn : Mn M = 3) (a0 : Nat) (x1 : Int32) (σ : Dt) (o : ((Int32 × Dt) ⊕ Dt)) (h : f_X12_yearGoes_L34 a0 x1 σ = some o) (K : kon (P_X12_yearGoes_34 M a0) (E_X12_yearGoes_34 M a0) o) : G M 0 0 34 [(0, vA (some a0)), (1, vI x1)] [] SM σ := by
  unfold f_X12_yearGoes_L34 at h
  refine g_iload_n O dX12_yearGoes_34 rfl 1 rfl ?_
  refine g_aload_n O dX12_yearGoes_35 rfl 0 rfl ?_
  obtain ⟨v1, e2, h⟩ := bo_some h
  refine g_getI O dX12_yearGoes_36 fl_X12_386 rfl e2 ?_
  refine g_icmp_ge O dX12_yearGoes_39 rfl (fun c3 => ?_) (fun c3 => ?_)
  · replace h := (if_pos c3).symm.trans h
    refine g_sub [0] (lv' := [(0, vA (some a0))]) rfl ?_
    cases h
    exact K
  · replace h := (if_neg c3).symm.trans h
    refine g_aload_n O dX12_yearGoes_42 rfl 0 rfl ?_
    obtain ⟨v4, e5, h⟩ := bo_some h
    refine g_getR O dX12_yearGoes_43 fl_X12_55 rfl e5 ?_
    refine g_iload_n O dX12_yearGoes_46 rfl 1 rfl ?_
    refine g_dup2 O dX12_yearGoes_47 rfl rfl ?_
    obtain ⟨v6, e7, h⟩ := bo_some h
    refine g_iaload O dX12_yearGoes_48 e7 ?_
    refine g_aload_n O dX12_yearGoes_49 rfl 0 rfl ?_
    refine g_iload_n O dX12_yearGoes_50 rfl 1 rfl ?_
    obtain ⟨a8, e9, h⟩ := bo_some h
    obtain ⟨v10, e11, h⟩ := bo_some h
    refine g_cV1 O R0 N dX12_yearGoes_51 vl_X12_404 vv_X12_lives e9 [vI x1] rfl rfl rfl ⟨Nat.le_of_ble_eq_true rfl, Nat.le_of_ble_eq_true rfl⟩ (c_X12_lives l0 a8 x1 σ v10 e11) ?_
    refine g_if_eq O dX12_yearGoes_54 rfl (fun c12 => ?_) (fun c12 => ?_)
    · replace h := (if_pos c12).symm.trans h
      exact t_X12_yearGoes_72 O R0 N hn a0 x1 v4 x1 v6 σ o h K
    · replace h := (if_neg c12).symm.trans h
      refine g_aload_n O dX12_yearGoes_57 rfl 0 rfl ?_
      obtain ⟨v13, e14, h⟩ := bo_some h
      refine g_getR O dX12_yearGoes_58 fl_X12_55 rfl e14 ?_
      refine g_iload_n O dX12_yearGoes_61 rfl 1 rfl ?_
      obtain ⟨v15, e16, h⟩ := bo_some h
      refine g_iaload O dX12_yearGoes_62 e16 ?_
      refine g_bipush (v := (99 : Int32)) O dX12_yearGoes_63 rfl ?_
      refine g_icmp_ge O dX12_yearGoes_65 rfl (fun c17 => ?_) (fun c17 => ?_)
      · replace h := (if_pos c17).symm.trans h
        exact t_X12_yearGoes_72 O R0 N hn a0 x1 v4 x1 v6 σ o h K
      · replace h := (if_neg c17).symm.trans h
        refine g_iconst (v := (1 : Int32)) O dX12_yearGoes_68 rfl ?_
        refine g_goto O dX12_yearGoes_69 rfl ?_
        exact t_X12_yearGoes_73 O R0 N hn a0 x1 v4 x1 v6 (1 : Int32) σ o h K
def P_X12_yearGoes_98 (M : Mx) (a0 : Nat) (s : (Int32 × Dt)) : Prop := G M 0 0 98 [(0, vA (some a0)), (1, vI s.1)] [] SM s.2
def E_X12_yearGoes_98 (M : Mx) (a0 : Nat) : Dt → Prop := (fun w => G M 0 0 202 [] [] SM w)
def f_X12_yearGoes_196 (a0 : Nat) (x1 : Int32) (σ : Dt) : Option ((Int32 × Dt) ⊕ Dt) := some (.inl ((x1 + (1 : Int32)), σ))
theorem t_X12_yearGoes_196 {M : Mx} {l0 : Launch} (O : Ok M cX12_yearGoes yX12_yearGoes) (R0 : Rm M l0 6 171 0 0) (N : Ma M = false) (hn : Mn M = 3)  (a0 : Nat) (x1 : Int32) (σ : Dt) (o : ((Int32 × Dt) ⊕ Dt)) (h : f_X12_yearGoes_196 a0 x1 σ = some o) (K : kon (P_X12_yearGoes_98 M a0) (E_X12_yearGoes_98 M a0) o) : G M 0 0 196 [(0, vA (some a0)), (1, vI x1)] [] SM σ := by
  unfold f_X12_yearGoes_196 at h
  refine g_iinc (v := (x1 + (1 : Int32))) (lv' := [(1, vI (x1 + (1 : Int32))), (0, vA (some a0))]) O dX12_yearGoes_196 3 hn (by decide) 1 rfl rfl rfl ?_
  refine g_goto O dX12_yearGoes_199 rfl ?_
  refine g_sub [1, 0] (lv' := [(0, vA (some a0)), (1, vI (x1 + (1 : Int32)))]) rfl ?_
  cases h
  exact K
def f_X12_yearGoes_195 (a0 : Nat) (x1 : Int32) (k0 : Option Nat) (k1 : Int32) (k2 : Int32) (σ : Dt) : Option ((Int32 × Dt) ⊕ Dt) := bo (xsi SM k0 k1 k2 σ) fun σ1 => f_X12_yearGoes_196 a0 x1 σ1
theorem t_X12_yearGoes_195 {M : Mx} {l0 : Launch} (O : Ok M cX12_yearGoes yX12_yearGoes) (R0 : Rm M l0 6 171 0 0) (N : Ma M = false) (hn : Mn M = 3)  (a0 : Nat) (x1 : Int32) (k0 : Option Nat) (k1 : Int32) (k2 : Int32) (σ : Dt) (o : ((Int32 × Dt) ⊕ Dt)) (h : f_X12_yearGoes_195 a0 x1 k0 k1 k2 σ = some o) (K : kon (P_X12_yearGoes_98 M a0) (E_X12_yearGoes_98 M a0) o) : G M 0 0 195 [(0, vA (some a0)), (1, vI x1)] [vI k2, vI k1, vA k0] SM σ := by
  unfold f_X12_yearGoes_195 at h
  obtain ⟨σ1, e2, h⟩ := bo_some h
  refine g_iastore O dX12_yearGoes_195 e2 ?_
  exact t_X12_yearGoes_196 O R0 N hn a0 x1 σ1 o h K
def f_X12_yearGoes_163 (a0 : Nat) (x1 : Int32) (k0 : Int32) (σ : Dt) : Option ((Int32 × Dt) ⊕ Dt) := bo (xgr SM 12 44 (some a0) σ) fun v1 => if k0 = 0 then bo (xgr SM 12 43 (some a0) σ) fun v4 => bo (xai SM v4 x1 σ) fun v6 => bo (xgi SM 12 27 (some a0) σ) fun v8 => if v8 < v6 then f_X12_yearGoes_195 a0 x1 v1 x1 (0 : Int32) σ else f_X12_yearGoes_195 a0 x1 v1 x1 (3 : Int32) σ else f_X12_yearGoes_195 a0 x1 v1 x1 (2 : Int32) σ
theorem t_X12_yearGoes_163 {M : Mx} {l0 : Launch} (O : Ok M cX12_yearGoes yX12_yearGoes) (R0 : Rm M l0 6 171 0 0) (N : Ma M = false) (hn : Mn M = 3)  (a0 : Nat) (x1 : Int32) (k0 : Int32) (σ : Dt) (o : ((Int32 × Dt) ⊕ Dt)) (h : f_X12_yearGoes_163 a0 x1 k0 σ = some o) (K : kon (P_X12_yearGoes_98 M a0) (E_X12_yearGoes_98 M a0) o) : G M 0 0 163 [(0, vA (some a0)), (1, vI x1)] [vI k0] SM σ := by
  unfold f_X12_yearGoes_163 at h
  refine g_istore_n (lv' := [(2, vI k0), (0, vA (some a0)), (1, vI x1)]) O dX12_yearGoes_163 rfl 3 hn (by decide) rfl ?_
  refine g_aload_n O dX12_yearGoes_164 rfl 1 rfl ?_
  obtain ⟨v1, e2, h⟩ := bo_some h
  refine g_getR O dX12_yearGoes_165 fl_X12_85 rfl e2 ?_
  refine g_iload_n O dX12_yearGoes_168 rfl 2 rfl ?_
  refine g_iload_n O dX12_yearGoes_169 rfl 0 rfl ?_
  refine g_if_eq O dX12_yearGoes_170 rfl (fun c3 => ?_) (fun c3 => ?_)
  · replace h := (if_pos c3).symm.trans h
    refine g_aload_n O dX12_yearGoes_177 rfl 1 rfl ?_
    obtain ⟨v4, e5, h⟩ := bo_some h
    refine g_getR O dX12_yearGoes_178 fl_X12_82 rfl e5 ?_
    refine g_iload_n O dX12_yearGoes_181 rfl 2 rfl ?_
    obtain ⟨v6, e7, h⟩ := bo_some h
    refine g_iaload O dX12_yearGoes_182 e7 ?_
    refine g_aload_n O dX12_yearGoes_183 rfl 1 rfl ?_
    obtain ⟨v8, e9, h⟩ := bo_some h
    refine g_getI O dX12_yearGoes_184 fl_X12_383 rfl e9 ?_
    refine g_icmp_gt O dX12_yearGoes_187 rfl (fun c10 => ?_) (fun c10 => ?_)
    · replace h := (if_pos c10).symm.trans h
      refine g_iconst (v := (0 : Int32)) O dX12_yearGoes_194 rfl ?_
      refine g_sub [1, 2] (lv' := [(0, vA (some a0)), (1, vI x1)]) rfl ?_
      exact t_X12_yearGoes_195 O R0 N hn a0 x1 v1 x1 (0 : Int32) σ o h K
    · replace h := (if_neg c10).symm.trans h
      refine g_iconst (v := (3 : Int32)) O dX12_yearGoes_190 rfl ?_
      refine g_goto O dX12_yearGoes_191 rfl ?_
      refine g_sub [1, 2] (lv' := [(0, vA (some a0)), (1, vI x1)]) rfl ?_
      exact t_X12_yearGoes_195 O R0 N hn a0 x1 v1 x1 (3 : Int32) σ o h K
  · replace h := (if_neg c3).symm.trans h
    refine g_iconst (v := (2 : Int32)) O dX12_yearGoes_173 rfl ?_
    refine g_goto O dX12_yearGoes_174 rfl ?_
    refine g_sub [1, 2] (lv' := [(0, vA (some a0)), (1, vI x1)]) rfl ?_
    exact t_X12_yearGoes_195 O R0 N hn a0 x1 v1 x1 (2 : Int32) σ o h K
def f_X12_yearGoes_162 (a0 : Nat) (x1 : Int32) (σ : Dt) : Option ((Int32 × Dt) ⊕ Dt) := f_X12_yearGoes_163 a0 x1 (0 : Int32) σ
theorem t_X12_yearGoes_162 {M : Mx} {l0 : Launch} (O : Ok M cX12_yearGoes yX12_yearGoes) (R0 : Rm M l0 6 171 0 0) (N : Ma M = false) (hn : Mn M = 3)  (a0 : Nat) (x1 : Int32) (σ : Dt) (o : ((Int32 × Dt) ⊕ Dt)) (h : f_X12_yearGoes_162 a0 x1 σ = some o) (K : kon (P_X12_yearGoes_98 M a0) (E_X12_yearGoes_98 M a0) o) : G M 0 0 162 [(0, vA (some a0)), (1, vI x1)] [] SM σ := by
  unfold f_X12_yearGoes_162 at h
  refine g_iconst (v := (0 : Int32)) O dX12_yearGoes_162 rfl ?_
  exact t_X12_yearGoes_163 O R0 N hn a0 x1 (0 : Int32) σ o h K
def f_X12_yearGoes_L98 (a0 : Nat) (x1 : Int32) (σ : Dt) : Option ((Int32 × Dt) ⊕ Dt) := bo (xgi SM 12 32 (some a0) σ) fun v1 => if v1 ≤ x1 then some (.inr σ) else bo (xgr SM 12 44 (some a0) σ) fun v4 => bo (xai SM v4 x1 σ) fun v6 => if v6 = 0 then bo (xgr SM 12 34 (some a0) σ) fun v9 => bo (xgr SM 12 41 (some a0) σ) fun v11 => bo (xai SM v11 x1 σ) fun v13 => bo (xai SM v9 v13 σ) fun v15 => if v15 < (10 : Int32) then f_X12_yearGoes_162 a0 x1 σ else bo (xgr SM 12 42 (some a0) σ) fun v18 => bo (xai SM v18 x1 σ) fun v20 => bo (xrc SM 12 (some a0)) fun a22 => bo (f_X12_muchOf a22 v20 σ) fun v24 => bo (xgr SM 12 0 (some a0) σ) fun v26 => bo (xgi SM 12 11 (some a0) σ) fun v28 => bo (xai SM v26 (v28 + (2 : Int32)) σ) fun v30 => if v30 ≤ v24 then f_X12_yearGoes_162 a0 x1 σ else f_X12_yearGoes_163 a0 x1 (1 : Int32) σ else f_X12_yearGoes_196 a0 x1 σ
theorem t_X12_yearGoes_L98 {M : Mx} {l0 : Launch} (O : Ok M cX12_yearGoes yX12_yearGoes) (R0 : Rm M l0 6 171 0 0) (N : Ma M = false) (hn : Mn M = 3) (a0 : Nat) (x1 : Int32) (σ : Dt) (o : ((Int32 × Dt) ⊕ Dt)) (h : f_X12_yearGoes_L98 a0 x1 σ = some o) (K : kon (P_X12_yearGoes_98 M a0) (E_X12_yearGoes_98 M a0) o) : G M 0 0 98 [(0, vA (some a0)), (1, vI x1)] [] SM σ := by
  unfold f_X12_yearGoes_L98 at h
  refine g_iload_n O dX12_yearGoes_98 rfl 1 rfl ?_
  refine g_aload_n O dX12_yearGoes_99 rfl 0 rfl ?_
  obtain ⟨v1, e2, h⟩ := bo_some h
  refine g_getI O dX12_yearGoes_100 fl_X12_398 rfl e2 ?_
  refine g_icmp_ge O dX12_yearGoes_103 rfl (fun c3 => ?_) (fun c3 => ?_)
  · replace h := (if_pos c3).symm.trans h
    refine g_sub [] (lv' := []) rfl ?_
    cases h
    exact K
  · replace h := (if_neg c3).symm.trans h
    refine g_aload_n O dX12_yearGoes_106 rfl 0 rfl ?_
    obtain ⟨v4, e5, h⟩ := bo_some h
    refine g_getR O dX12_yearGoes_107 fl_X12_85 rfl e5 ?_
    refine g_iload_n O dX12_yearGoes_110 rfl 1 rfl ?_
    obtain ⟨v6, e7, h⟩ := bo_some h
    refine g_iaload O dX12_yearGoes_111 e7 ?_
    refine g_if_eq O dX12_yearGoes_112 rfl (fun c8 => ?_) (fun c8 => ?_)
    · replace h := (if_pos c8).symm.trans h
      refine g_aload_n O dX12_yearGoes_118 rfl 0 rfl ?_
      obtain ⟨v9, e10, h⟩ := bo_some h
      refine g_getR O dX12_yearGoes_119 fl_X12_55 rfl e10 ?_
      refine g_aload_n O dX12_yearGoes_122 rfl 0 rfl ?_
      obtain ⟨v11, e12, h⟩ := bo_some h
      refine g_getR O dX12_yearGoes_123 fl_X12_76 rfl e12 ?_
      refine g_iload_n O dX12_yearGoes_126 rfl 1 rfl ?_
      obtain ⟨v13, e14, h⟩ := bo_some h
      refine g_iaload O dX12_yearGoes_127 e14 ?_
      obtain ⟨v15, e16, h⟩ := bo_some h
      refine g_iaload O dX12_yearGoes_128 e16 ?_
      refine g_bipush (v := (10 : Int32)) O dX12_yearGoes_129 rfl ?_
      refine g_icmp_lt O dX12_yearGoes_131 rfl (fun c17 => ?_) (fun c17 => ?_)
      · replace h := (if_pos c17).symm.trans h
        exact t_X12_yearGoes_162 O R0 N hn a0 x1 σ o h K
      · replace h := (if_neg c17).symm.trans h
        refine g_aload_n O dX12_yearGoes_134 rfl 0 rfl ?_
        refine g_aload_n O dX12_yearGoes_135 rfl 0 rfl ?_
        obtain ⟨v18, e19, h⟩ := bo_some h
        refine g_getR O dX12_yearGoes_136 fl_X12_79 rfl e19 ?_
        refine g_iload_n O dX12_yearGoes_139 rfl 1 rfl ?_
        obtain ⟨v20, e21, h⟩ := bo_some h
        refine g_iaload O dX12_yearGoes_140 e21 ?_
        obtain ⟨a22, e23, h⟩ := bo_some h
        obtain ⟨v24, e25, h⟩ := bo_some h
        refine g_cV1 O R0 N dX12_yearGoes_141 vl_X12_229 vv_X12_muchOf e23 [vI v20] rfl rfl rfl ⟨Nat.le_of_ble_eq_true rfl, Nat.le_of_ble_eq_true rfl⟩ (c_X12_muchOf l0 a22 v20 σ v24 e25) ?_
        refine g_aload_n O dX12_yearGoes_144 rfl 0 rfl ?_
        obtain ⟨v26, e27, h⟩ := bo_some h
        refine g_getR O dX12_yearGoes_145 fl_X12_7 rfl e27 ?_
        refine g_aload_n O dX12_yearGoes_148 rfl 0 rfl ?_
        obtain ⟨v28, e29, h⟩ := bo_some h
        refine g_getI O dX12_yearGoes_149 fl_X12_208 rfl e29 ?_
        refine g_iconst (v := (2 : Int32)) O dX12_yearGoes_152 rfl ?_
        refine g_iadd O dX12_yearGoes_153 ?_
        obtain ⟨v30, e31, h⟩ := bo_some h
        refine g_iaload O dX12_yearGoes_154 e31 ?_
        refine g_icmp_ge O dX12_yearGoes_155 rfl (fun c32 => ?_) (fun c32 => ?_)
        · replace h := (if_pos c32).symm.trans h
          exact t_X12_yearGoes_162 O R0 N hn a0 x1 σ o h K
        · replace h := (if_neg c32).symm.trans h
          refine g_iconst (v := (1 : Int32)) O dX12_yearGoes_158 rfl ?_
          refine g_goto O dX12_yearGoes_159 rfl ?_
          exact t_X12_yearGoes_163 O R0 N hn a0 x1 (1 : Int32) σ o h K
    · replace h := (if_neg c8).symm.trans h
      refine g_goto O dX12_yearGoes_115 rfl ?_
      exact t_X12_yearGoes_196 O R0 N hn a0 x1 σ o h K
def f_X12_yearGoes (a0 : Nat) (σ : Dt) : Option (Int32 × Dt) := bo (xgi SM 12 27 (some a0) σ) fun v1 => if v1 = (99 : Int32) then some ((0 : Int32), σ) else bo (iter FU (fun s => f_X12_yearGoes_L13 a0 s.1 s.2) ((0 : Int32), σ)) fun w4 => bo (iter FU (fun s => f_X12_yearGoes_L34 a0 s.1 s.2) ((0 : Int32), w4)) fun w6 => bo (xgi SM 12 27 (some a0) w6) fun v8 => bo (xpi SM 12 27 (some a0) (v8 + (1 : Int32)) w6) fun σ10 => bo (xpi SM 12 30 (some a0) (0 : Int32) σ10) fun σ12 => bo (iter FU (fun s => f_X12_yearGoes_L98 a0 s.1 s.2) ((0 : Int32), σ12)) fun w14 => some ((1 : Int32), w14)
theorem t_X12_yearGoes {M : Mx} {l0 : Launch} (O : Ok M cX12_yearGoes yX12_yearGoes) (R0 : Rm M l0 6 171 0 0) (N : Ma M = false) (hn : Mn M = 3) (a0 : Nat) (σ : Dt) (o : (Int32 × Dt)) (h : f_X12_yearGoes a0 σ = some o) (K : Fin' M (some .boolean) 0 0 SM o.2 (some (vI o.1))) : G M 0 0 0 [(0, vA (some a0))] [] SM σ := by
  unfold f_X12_yearGoes at h
  refine g_aload_n O dX12_yearGoes_0 rfl 0 rfl ?_
  obtain ⟨v1, e2, h⟩ := bo_some h
  refine g_getI O dX12_yearGoes_1 fl_X12_383 rfl e2 ?_
  refine g_bipush (v := (99 : Int32)) O dX12_yearGoes_4 rfl ?_
  refine g_icmp_ne O dX12_yearGoes_6 rfl (fun c3 => ?_) (fun c3 => ?_)
  · replace h := (if_pos c3).symm.trans h
    refine g_iconst (v := (0 : Int32)) O dX12_yearGoes_9 rfl ?_
    cases h
    exact g_zreturn O (by decide) K dX12_yearGoes_10
  · replace h := (if_neg c3).symm.trans h
    refine g_iconst (v := (0 : Int32)) O dX12_yearGoes_11 rfl ?_
    refine g_istore_n (lv' := [(1, vI (0 : Int32)), (0, vA (some a0))]) O dX12_yearGoes_12 rfl 3 hn (by decide) rfl ?_
    refine g_sub [1, 0] (lv' := [(0, vA (some a0)), (1, vI (0 : Int32))]) rfl ?_
    obtain ⟨w4, e5, h⟩ := bo_some h
    refine iter_G (P := P_X12_yearGoes_13 M a0) (E := E_X12_yearGoes_13 M a0) (fun s o hb hk => t_X12_yearGoes_L13 O R0 N hn a0 s.1 s.2 o hb hk) FU ((0 : Int32), σ) w4 e5 ?_
    show G M 0 0 32 [(0, vA (some a0))] [] SM w4
    refine g_iconst (v := (0 : Int32)) O dX12_yearGoes_32 rfl ?_
    refine g_istore_n (lv' := [(1, vI (0 : Int32)), (0, vA (some a0))]) O dX12_yearGoes_33 rfl 3 hn (by decide) rfl ?_
    refine g_sub [1, 0] (lv' := [(0, vA (some a0)), (1, vI (0 : Int32))]) rfl ?_
    obtain ⟨w6, e7, h⟩ := bo_some h
    refine iter_G (P := P_X12_yearGoes_34 M a0) (E := E_X12_yearGoes_34 M a0) (fun s o hb hk => t_X12_yearGoes_L34 O R0 N hn a0 s.1 s.2 o hb hk) FU ((0 : Int32), w4) w6 e7 ?_
    show G M 0 0 81 [(0, vA (some a0))] [] SM w6
    refine g_aload_n O dX12_yearGoes_81 rfl 0 rfl ?_
    refine g_dup O dX12_yearGoes_82 rfl ?_
    obtain ⟨v8, e9, h⟩ := bo_some h
    refine g_getI O dX12_yearGoes_83 fl_X12_383 rfl e9 ?_
    refine g_iconst (v := (1 : Int32)) O dX12_yearGoes_86 rfl ?_
    refine g_iadd O dX12_yearGoes_87 ?_
    obtain ⟨σ10, e11, h⟩ := bo_some h
    refine g_putI O dX12_yearGoes_88 fl_X12_383 (Or.inl rfl) rfl e11 ?_
    refine g_aload_n O dX12_yearGoes_91 rfl 0 rfl ?_
    refine g_iconst (v := (0 : Int32)) O dX12_yearGoes_92 rfl ?_
    obtain ⟨σ12, e13, h⟩ := bo_some h
    refine g_putI O dX12_yearGoes_93 fl_X12_392 (Or.inl rfl) rfl e13 ?_
    refine g_iconst (v := (0 : Int32)) O dX12_yearGoes_96 rfl ?_
    refine g_istore_n (lv' := [(1, vI (0 : Int32)), (0, vA (some a0))]) O dX12_yearGoes_97 rfl 3 hn (by decide) rfl ?_
    refine g_sub [1, 0] (lv' := [(0, vA (some a0)), (1, vI (0 : Int32))]) rfl ?_
    obtain ⟨w14, e15, h⟩ := bo_some h
    refine iter_G (P := P_X12_yearGoes_98 M a0) (E := E_X12_yearGoes_98 M a0) (fun s o hb hk => t_X12_yearGoes_L98 O R0 N hn a0 s.1 s.2 o hb hk) FU ((0 : Int32), σ12) w14 e15 ?_
    show G M 0 0 202 [] [] SM w14
    refine g_iconst (v := (1 : Int32)) O dX12_yearGoes_202 rfl ?_
    cases h
    exact g_zreturn O (by decide) K dX12_yearGoes_203
theorem c_X12_yearGoes (l0 : Launch) (a0 : Nat) (σ : Dt) (r : Int32) (σ' : Dt) (h : f_X12_yearGoes a0 σ = some (r, σ')) : Ctr l0 yX12_yearGoes cX12_yearGoes 3 (some .boolean) false 6 171 0 0 [vA (some a0)] SM σ SM σ' (some (vI r)) := ctr_of (by decide) (Nat.le_of_ble_eq_true rfl) (fun M O F R0 N hn => t_X12_yearGoes O R0 N hn a0 σ (r, σ') h F)
def f_X12_does (a0 : Nat) (x1 : Int32) (x2 : Int32) (x3 : Int32) (x4 : Int32) (σ : Dt) : Option (Int32 × Dt) := if x1 = (0 : Int32) then bo (xrc SM 12 (some a0)) fun a2 => bd (f_X12_promises a2 x2 x3 x4 σ) fun v4 σ5 => if v4 = 0 ∨ v4 = 1 then some (v4, σ5) else none else if x1 = (1 : Int32) then bo (xrc SM 12 (some a0)) fun a9 => bd (f_X12_isBorn a9 x2 x3 σ) fun v11 σ12 => if v11 = 0 ∨ v11 = 1 then some (v11, σ12) else none else if x1 = (2 : Int32) then bo (xrc SM 12 (some a0)) fun a16 => bd (f_X12_covers a16 x2 σ) fun v18 σ19 => if v18 = 0 ∨ v18 = 1 then some (v18, σ19) else none else if x1 = (3 : Int32) then bo (xrc SM 12 (some a0)) fun a23 => bd (f_X12_dies a23 x2 σ) fun v25 σ26 => if v25 = 0 ∨ v25 = 1 then some (v25, σ26) else none else bo (xrc SM 12 (some a0)) fun a29 => bd (f_X12_yearGoes a29 σ) fun v31 σ32 => if v31 = 0 ∨ v31 = 1 then some (v31, σ32) else none
theorem t_X12_does {M : Mx} {l0 : Launch} (O : Ok M cX12_does yX12_does) (R0 : Rm M l0 7 193 0 0) (N : Ma M = false) (hn : Mn M = 5) (a0 : Nat) (x1 : Int32) (x2 : Int32) (x3 : Int32) (x4 : Int32) (σ : Dt) (o : (Int32 × Dt)) (h : f_X12_does a0 x1 x2 x3 x4 σ = some o) (K : Fin' M (some .boolean) 0 0 SM o.2 (some (vI o.1))) : G M 0 0 0 [(0, vA (some a0)), (1, vI x1), (2, vI x2), (3, vI x3), (4, vI x4)] [] SM σ := by
  unfold f_X12_does at h
  refine g_iload_n O dX12_does_0 rfl 1 rfl ?_
  by_cases c1 : x1 = (0 : Int32)
  · replace h := (if_pos c1).symm.trans h
    refine g_tabIn O dX12_does_1 (by rw [c1]; decide) (by rw [c1]; decide) (by rw [c1]; rfl) rfl ?_
    refine g_aload_n O dX12_does_32 rfl 0 rfl ?_
    refine g_iload_n O dX12_does_33 rfl 2 rfl ?_
    refine g_iload_n O dX12_does_34 rfl 3 rfl ?_
    refine g_iload O dX12_does_35 4 rfl ?_
    obtain ⟨a2, e3, h⟩ := bo_some h
    obtain ⟨v4, σ5, e6, h⟩ := bd_some h
    refine g_cV1 O R0 N dX12_does_37 vl_X12_420 vv_X12_promises e3 [vI x2, vI x3, vI x4] rfl rfl rfl ⟨Nat.le_of_ble_eq_true rfl, Nat.le_of_ble_eq_true rfl⟩ (c_X12_promises l0 a2 x2 x3 x4 σ v4 σ5 e6) ?_
    by_cases c7 : v4 = 0 ∨ v4 = 1
    · replace h := (if_pos c7).symm.trans h
      cases h
      exact g_zreturn O c7 K dX12_does_40
    · rw [if_neg c7] at h; cases h
  replace h := (if_neg c1).symm.trans h
  by_cases c8 : x1 = (1 : Int32)
  · replace h := (if_pos c8).symm.trans h
    refine g_tabIn O dX12_does_1 (by rw [c8]; decide) (by rw [c8]; decide) (by rw [c8]; rfl) rfl ?_
    refine g_aload_n O dX12_does_41 rfl 0 rfl ?_
    refine g_iload_n O dX12_does_42 rfl 2 rfl ?_
    refine g_iload_n O dX12_does_43 rfl 3 rfl ?_
    obtain ⟨a9, e10, h⟩ := bo_some h
    obtain ⟨v11, σ12, e13, h⟩ := bd_some h
    refine g_cV1 O R0 N dX12_does_44 vl_X12_423 vv_X12_isBorn e10 [vI x2, vI x3] rfl rfl rfl ⟨Nat.le_of_ble_eq_true rfl, Nat.le_of_ble_eq_true rfl⟩ (c_X12_isBorn l0 a9 x2 x3 σ v11 σ12 e13) ?_
    by_cases c14 : v11 = 0 ∨ v11 = 1
    · replace h := (if_pos c14).symm.trans h
      cases h
      exact g_zreturn O c14 K dX12_does_47
    · rw [if_neg c14] at h; cases h
  replace h := (if_neg c8).symm.trans h
  by_cases c15 : x1 = (2 : Int32)
  · replace h := (if_pos c15).symm.trans h
    refine g_tabIn O dX12_does_1 (by rw [c15]; decide) (by rw [c15]; decide) (by rw [c15]; rfl) rfl ?_
    refine g_aload_n O dX12_does_48 rfl 0 rfl ?_
    refine g_iload_n O dX12_does_49 rfl 2 rfl ?_
    obtain ⟨a16, e17, h⟩ := bo_some h
    obtain ⟨v18, σ19, e20, h⟩ := bd_some h
    refine g_cV1 O R0 N dX12_does_50 vl_X12_426 vv_X12_covers e17 [vI x2] rfl rfl rfl ⟨Nat.le_of_ble_eq_true rfl, Nat.le_of_ble_eq_true rfl⟩ (c_X12_covers l0 a16 x2 σ v18 σ19 e20) ?_
    by_cases c21 : v18 = 0 ∨ v18 = 1
    · replace h := (if_pos c21).symm.trans h
      cases h
      exact g_zreturn O c21 K dX12_does_53
    · rw [if_neg c21] at h; cases h
  replace h := (if_neg c15).symm.trans h
  by_cases c22 : x1 = (3 : Int32)
  · replace h := (if_pos c22).symm.trans h
    refine g_tabIn O dX12_does_1 (by rw [c22]; decide) (by rw [c22]; decide) (by rw [c22]; rfl) rfl ?_
    refine g_aload_n O dX12_does_54 rfl 0 rfl ?_
    refine g_iload_n O dX12_does_55 rfl 2 rfl ?_
    obtain ⟨a23, e24, h⟩ := bo_some h
    obtain ⟨v25, σ26, e27, h⟩ := bd_some h
    refine g_cV1 O R0 N dX12_does_56 vl_X12_429 vv_X12_dies e24 [vI x2] rfl rfl rfl ⟨Nat.le_of_ble_eq_true rfl, Nat.le_of_ble_eq_true rfl⟩ (c_X12_dies l0 a23 x2 σ v25 σ26 e27) ?_
    by_cases c28 : v25 = 0 ∨ v25 = 1
    · replace h := (if_pos c28).symm.trans h
      cases h
      exact g_zreturn O c28 K dX12_does_59
    · rw [if_neg c28] at h; cases h
  replace h := (if_neg c22).symm.trans h
  refine g_tabOut O dX12_does_1 (tab_out [(0 : Int32), (1 : Int32), (2 : Int32), (3 : Int32)] (fun z h1 h2 => ?_) (fun c hc => ?_)) rfl ?_
  · have hz : z = 0 ∨ z = 1 ∨ z = 2 ∨ z = 3 := by omega
    rcases hz with rfl | rfl | rfl | rfl
    · exact ⟨(0 : Int32), by simp, rfl⟩
    · exact ⟨(1 : Int32), by simp, rfl⟩
    · exact ⟨(2 : Int32), by simp, rfl⟩
    · exact ⟨(3 : Int32), by simp, rfl⟩
  · simp only [List.mem_cons, List.not_mem_nil, or_false] at hc
    rcases hc with rfl | rfl | rfl | rfl <;> assumption
  refine g_aload_n O dX12_does_60 rfl 0 rfl ?_
  obtain ⟨a29, e30, h⟩ := bo_some h
  obtain ⟨v31, σ32, e33, h⟩ := bd_some h
  refine g_cV1 O R0 N dX12_does_61 vl_X12_432 vv_X12_yearGoes e30 [] rfl rfl rfl ⟨Nat.le_of_ble_eq_true rfl, Nat.le_of_ble_eq_true rfl⟩ (c_X12_yearGoes l0 a29 σ v31 σ32 e33) ?_
  by_cases c34 : v31 = 0 ∨ v31 = 1
  · replace h := (if_pos c34).symm.trans h
    cases h
    exact g_zreturn O c34 K dX12_does_64
  · rw [if_neg c34] at h; cases h
theorem c_X12_does (l0 : Launch) (a0 : Nat) (x1 : Int32) (x2 : Int32) (x3 : Int32) (x4 : Int32) (σ : Dt) (r : Int32) (σ' : Dt) (h : f_X12_does a0 x1 x2 x3 x4 σ = some (r, σ')) : Ctr l0 yX12_does cX12_does 5 (some .boolean) false 7 193 0 0 [vA (some a0), vI x1, vI x2, vI x3, vI x4] SM σ SM σ' (some (vI r)) := ctr_of (by decide) (Nat.le_of_ble_eq_true rfl) (fun M O F R0 N hn => t_X12_does O R0 N hn a0 x1 x2 x3 x4 σ (r, σ') h F)
def f_X12_doesTold (a0 : Nat) (x1 : Int32) (σ : Dt) : Option (Int32 × Dt) := bo (xgi SM 12 26 (some a0) σ) fun v1 => bo (xgr SM 12 0 (some a0) σ) fun v3 => bo (xai SM v3 ((v1 + (1 : Int32)) + ((4 : Int32) * x1)) σ) fun v5 => bo (xgr SM 12 0 (some a0) σ) fun v7 => bo (xai SM v7 (((v1 + (1 : Int32)) + ((4 : Int32) * x1)) + (1 : Int32)) σ) fun v9 => bo (xgr SM 12 0 (some a0) σ) fun v11 => bo (xai SM v11 (((v1 + (1 : Int32)) + ((4 : Int32) * x1)) + (2 : Int32)) σ) fun v13 => bo (xgr SM 12 0 (some a0) σ) fun v15 => bo (xai SM v15 (((v1 + (1 : Int32)) + ((4 : Int32) * x1)) + (3 : Int32)) σ) fun v17 => bo (xrc SM 12 (some a0)) fun a19 => bd (f_X12_does a19 v5 v9 v13 v17 σ) fun v21 σ22 => if v21 = 0 ∨ v21 = 1 then some (v21, σ22) else none
theorem t_X12_doesTold {M : Mx} {l0 : Launch} (O : Ok M cX12_doesTold yX12_doesTold) (R0 : Rm M l0 8 217 0 0) (N : Ma M = false) (hn : Mn M = 3) (a0 : Nat) (x1 : Int32) (σ : Dt) (o : (Int32 × Dt)) (h : f_X12_doesTold a0 x1 σ = some o) (K : Fin' M (some .boolean) 0 0 SM o.2 (some (vI o.1))) : G M 0 0 0 [(0, vA (some a0)), (1, vI x1)] [] SM σ := by
  unfold f_X12_doesTold at h
  refine g_aload_n O dX12_doesTold_0 rfl 0 rfl ?_
  obtain ⟨v1, e2, h⟩ := bo_some h
  refine g_getI O dX12_doesTold_1 fl_X12_377 rfl e2 ?_
  refine g_iconst (v := (1 : Int32)) O dX12_doesTold_4 rfl ?_
  refine g_iadd O dX12_doesTold_5 ?_
  refine g_iconst (v := (4 : Int32)) O dX12_doesTold_6 rfl ?_
  refine g_iload_n O dX12_doesTold_7 rfl 1 rfl ?_
  refine g_imul O dX12_doesTold_8 ?_
  refine g_iadd O dX12_doesTold_9 ?_
  refine g_istore_n (lv' := [(2, vI ((v1 + (1 : Int32)) + ((4 : Int32) * x1))), (0, vA (some a0)), (1, vI x1)]) O dX12_doesTold_10 rfl 3 hn (by decide) rfl ?_
  refine g_aload_n O dX12_doesTold_11 rfl 1 rfl ?_
  refine g_aload_n O dX12_doesTold_12 rfl 1 rfl ?_
  obtain ⟨v3, e4, h⟩ := bo_some h
  refine g_getR O dX12_doesTold_13 fl_X12_7 rfl e4 ?_
  refine g_iload_n O dX12_doesTold_16 rfl 0 rfl ?_
  obtain ⟨v5, e6, h⟩ := bo_some h
  refine g_iaload O dX12_doesTold_17 e6 ?_
  refine g_aload_n O dX12_doesTold_18 rfl 1 rfl ?_
  obtain ⟨v7, e8, h⟩ := bo_some h
  refine g_getR O dX12_doesTold_19 fl_X12_7 rfl e8 ?_
  refine g_iload_n O dX12_doesTold_22 rfl 0 rfl ?_
  refine g_iconst (v := (1 : Int32)) O dX12_doesTold_23 rfl ?_
  refine g_iadd O dX12_doesTold_24 ?_
  obtain ⟨v9, e10, h⟩ := bo_some h
  refine g_iaload O dX12_doesTold_25 e10 ?_
  refine g_aload_n O dX12_doesTold_26 rfl 1 rfl ?_
  obtain ⟨v11, e12, h⟩ := bo_some h
  refine g_getR O dX12_doesTold_27 fl_X12_7 rfl e12 ?_
  refine g_iload_n O dX12_doesTold_30 rfl 0 rfl ?_
  refine g_iconst (v := (2 : Int32)) O dX12_doesTold_31 rfl ?_
  refine g_iadd O dX12_doesTold_32 ?_
  obtain ⟨v13, e14, h⟩ := bo_some h
  refine g_iaload O dX12_doesTold_33 e14 ?_
  refine g_aload_n O dX12_doesTold_34 rfl 1 rfl ?_
  obtain ⟨v15, e16, h⟩ := bo_some h
  refine g_getR O dX12_doesTold_35 fl_X12_7 rfl e16 ?_
  refine g_iload_n O dX12_doesTold_38 rfl 0 rfl ?_
  refine g_iconst (v := (3 : Int32)) O dX12_doesTold_39 rfl ?_
  refine g_iadd O dX12_doesTold_40 ?_
  obtain ⟨v17, e18, h⟩ := bo_some h
  refine g_iaload O dX12_doesTold_41 e18 ?_
  obtain ⟨a19, e20, h⟩ := bo_some h
  obtain ⟨v21, σ22, e23, h⟩ := bd_some h
  refine g_cV1 O R0 N dX12_doesTold_42 vl_X12_436 vv_X12_does e20 [vI v5, vI v9, vI v13, vI v17] rfl rfl rfl ⟨Nat.le_of_ble_eq_true rfl, Nat.le_of_ble_eq_true rfl⟩ (c_X12_does l0 a19 v5 v9 v13 v17 σ v21 σ22 e23) ?_
  by_cases c24 : v21 = 0 ∨ v21 = 1
  · replace h := (if_pos c24).symm.trans h
    cases h
    exact g_zreturn O c24 K dX12_doesTold_45
  · rw [if_neg c24] at h; cases h
theorem c_X12_doesTold (l0 : Launch) (a0 : Nat) (x1 : Int32) (σ : Dt) (r : Int32) (σ' : Dt) (h : f_X12_doesTold a0 x1 σ = some (r, σ')) : Ctr l0 yX12_doesTold cX12_doesTold 3 (some .boolean) false 8 217 0 0 [vA (some a0), vI x1] SM σ SM σ' (some (vI r)) := ctr_of (by decide) (Nat.le_of_ble_eq_true rfl) (fun M O F R0 N hn => t_X12_doesTold O R0 N hn a0 x1 σ (r, σ') h F)
def P_X12_runs_4 (M : Mx) (a0 : Nat) (x1 : Int32) (s : Dt) : Prop := G M 0 0 4 [(0, vA (some a0)), (1, vI x1)] [] SM s
def E_X12_runs_4 (M : Mx) (a0 : Nat) (x1 : Int32) : Dt → Prop := (fun w => G M 0 0 52 [] [] SM w)
def f_X12_runs_L4 (a0 : Nat) (x1 : Int32) (σ : Dt) : Option (Dt ⊕ Dt) := bo (xgi SM 12 31 (some a0) σ) fun v1 => if x1 ≤ v1 then some (.inr σ) else bo (xgi SM 12 31 (some a0) σ) fun v4 => bo (xgr SM 12 0 (some a0) σ) fun v6 => bo (xgi SM 12 26 (some a0) σ) fun v8 => bo (xai SM v6 v8 σ) fun v10 => if v10 ≤ v4 then some (.inr σ) else bo (xgi SM 12 31 (some a0) σ) fun v13 => bo (xrc SM 12 (some a0)) fun a15 => bd (f_X12_doesTold a15 v13 σ) fun v17 σ18 => if v17 = 0 then some (.inr σ18) else bo (xgi SM 12 31 (some a0) σ18) fun v21 => bo (xpi SM 12 31 (some a0) (v21 + (1 : Int32)) σ18) fun σ23 => some (.inl σ23)
theorem t_X12_runs_L4 {M : Mx} {l0 : Launch} (O : Ok M cX12_runs yX12_runs) (R0 : Rm M l0 9 239 0 0) (N : Ma M = false) (hn : Mn M = 2) (a0 : Nat) (x1 : Int32) (σ : Dt) (o : (Dt ⊕ Dt)) (h : f_X12_runs_L4 a0 x1 σ = some o) (K : kon (P_X12_runs_4 M a0 x1) (E_X12_runs_4 M a0 x1) o) : G M 0 0 4 [(0, vA (some a0)), (1, vI x1)] [] SM σ := by
  unfold f_X12_runs_L4 at h
  refine g_aload_n O dX12_runs_4 rfl 0 rfl ?_
  obtain ⟨v1, e2, h⟩ := bo_some h
  refine g_getI O dX12_runs_5 fl_X12_395 rfl e2 ?_
  refine g_iload_n O dX12_runs_8 rfl 1 rfl ?_
  refine g_icmp_ge O dX12_runs_9 rfl (fun c3 => ?_) (fun c3 => ?_)
  · replace h := (if_pos c3).symm.trans h
    refine g_sub [] (lv' := []) rfl ?_
    cases h
    exact K
  · replace h := (if_neg c3).symm.trans h
    refine g_aload_n O dX12_runs_12 rfl 0 rfl ?_
    obtain ⟨v4, e5, h⟩ := bo_some h
    refine g_getI O dX12_runs_13 fl_X12_395 rfl e5 ?_
    refine g_aload_n O dX12_runs_16 rfl 0 rfl ?_
    obtain ⟨v6, e7, h⟩ := bo_some h
    refine g_getR O dX12_runs_17 fl_X12_7 rfl e7 ?_
    refine g_aload_n O dX12_runs_20 rfl 0 rfl ?_
    obtain ⟨v8, e9, h⟩ := bo_some h
    refine g_getI O dX12_runs_21 fl_X12_377 rfl e9 ?_
    obtain ⟨v10, e11, h⟩ := bo_some h
    refine g_iaload O dX12_runs_24 e11 ?_
    refine g_icmp_ge O dX12_runs_25 rfl (fun c12 => ?_) (fun c12 => ?_)
    · replace h := (if_pos c12).symm.trans h
      refine g_sub [] (lv' := []) rfl ?_
      cases h
      exact K
    · replace h := (if_neg c12).symm.trans h
      refine g_aload_n O dX12_runs_28 rfl 0 rfl ?_
      refine g_aload_n O dX12_runs_29 rfl 0 rfl ?_
      obtain ⟨v13, e14, h⟩ := bo_some h
      refine g_getI O dX12_runs_30 fl_X12_395 rfl e14 ?_
      obtain ⟨a15, e16, h⟩ := bo_some h
      obtain ⟨v17, σ18, e19, h⟩ := bd_some h
      refine g_cV1 O R0 N dX12_runs_33 vl_X12_442 vv_X12_doesTold e16 [vI v13] rfl rfl rfl ⟨Nat.le_of_ble_eq_true rfl, Nat.le_of_ble_eq_true rfl⟩ (c_X12_doesTold l0 a15 v13 σ v17 σ18 e19) ?_
      refine g_if_eq O dX12_runs_36 rfl (fun c20 => ?_) (fun c20 => ?_)
      · replace h := (if_pos c20).symm.trans h
        refine g_sub [] (lv' := []) rfl ?_
        cases h
        exact K
      · replace h := (if_neg c20).symm.trans h
        refine g_aload_n O dX12_runs_39 rfl 0 rfl ?_
        refine g_dup O dX12_runs_40 rfl ?_
        obtain ⟨v21, e22, h⟩ := bo_some h
        refine g_getI O dX12_runs_41 fl_X12_395 rfl e22 ?_
        refine g_iconst (v := (1 : Int32)) O dX12_runs_44 rfl ?_
        refine g_iadd O dX12_runs_45 ?_
        obtain ⟨σ23, e24, h⟩ := bo_some h
        refine g_putI O dX12_runs_46 fl_X12_395 (Or.inl rfl) rfl e24 ?_
        refine g_goto O dX12_runs_49 rfl ?_
        cases h
        exact K
def f_X12_runs (a0 : Nat) (x1 : Int32) (σ : Dt) : Option (Unit × Dt) := bo (xrc SM 12 (some a0)) fun a1 => bd (f_X12_begins a1 σ) fun v3 σ4 => bo (iter FU (fun s => f_X12_runs_L4 a0 x1 s) σ4) fun w6 => some ((), w6)
theorem t_X12_runs {M : Mx} {l0 : Launch} (O : Ok M cX12_runs yX12_runs) (R0 : Rm M l0 9 239 0 0) (N : Ma M = false) (hn : Mn M = 2) (a0 : Nat) (x1 : Int32) (σ : Dt) (o : (Unit × Dt)) (h : f_X12_runs a0 x1 σ = some o) (K : Fin' M (none) 0 0 SM o.2 (none)) : G M 0 0 0 [(0, vA (some a0)), (1, vI x1)] [] SM σ := by
  unfold f_X12_runs at h
  refine g_aload_n O dX12_runs_0 rfl 0 rfl ?_
  obtain ⟨a1, e2, h⟩ := bo_some h
  obtain ⟨v3, σ4, e5, h⟩ := bd_some h
  refine g_cV0 O R0 N dX12_runs_1 vl_X12_439 vv_X12_begins e2 [] rfl rfl rfl ⟨Nat.le_of_ble_eq_true rfl, Nat.le_of_ble_eq_true rfl⟩ (c_X12_begins l0 a1 σ v3 σ4 e5) ?_
  obtain ⟨w6, e7, h⟩ := bo_some h
  refine iter_G (P := P_X12_runs_4 M a0 x1) (E := E_X12_runs_4 M a0 x1) (fun s o hb hk => t_X12_runs_L4 O R0 N hn a0 x1 s o hb hk) FU σ4 w6 e7 ?_
  show G M 0 0 52 [] [] SM w6
  cases h
  exact g_return O K dX12_runs_52
theorem c_X12_runs (l0 : Launch) (a0 : Nat) (x1 : Int32) (σ : Dt) (r : Unit) (σ' : Dt) (h : f_X12_runs a0 x1 σ = some (r, σ')) : Ctr l0 yX12_runs cX12_runs 2 (none) false 9 239 0 0 [vA (some a0), vI x1] SM σ SM σ' (none) := ctr_of (by decide) (Nat.le_of_ble_eq_true rfl) (fun M O F R0 N hn => t_X12_runs O R0 N hn a0 x1 σ (r, σ') h F)
def f_X12_stop (a0 : Nat) (x1 : Int32) (x2 : Int32) (σ : Dt) : Option (Int32 × Dt) := bo (xrc SM 12 (some a0)) fun a1 => bd (f_X12_isValley a1 x1 σ) fun v3 σ4 => if v3 = 0 then some ((-1 : Int32), σ4) else bo (xrc SM 12 (some a0)) fun a7 => bd (f_X12_isLife a7 x2 σ4) fun v9 σ10 => if v9 = 0 then some ((-1 : Int32), σ10) else bo (xrc SM 12 (some a0)) fun a13 => bd (f_X12_runs a13 (40 : Int32) σ10) fun v15 σ16 => bo (xgi SM 12 31 (some a0) σ16) fun v18 => some (v18, σ16)
theorem t_X12_stop {M : Mx} {l0 : Launch} (O : Ok M cX12_stop yX12_stop) (R0 : Rm M l0 10 260 0 0) (N : Ma M = false) (hn : Mn M = 3) (a0 : Nat) (x1 : Int32) (x2 : Int32) (σ : Dt) (o : (Int32 × Dt)) (h : f_X12_stop a0 x1 x2 σ = some o) (K : Fin' M (some .int) 0 0 SM o.2 (some (vI o.1))) : G M 0 0 0 [(0, vA (some a0)), (1, vI x1), (2, vI x2)] [] SM σ := by
  unfold f_X12_stop at h
  refine g_aload_n O dX12_stop_0 rfl 0 rfl ?_
  refine g_iload_n O dX12_stop_1 rfl 1 rfl ?_
  obtain ⟨a1, e2, h⟩ := bo_some h
  obtain ⟨v3, σ4, e5, h⟩ := bd_some h
  refine g_cV1 O R0 N dX12_stop_2 vl_X12_220 vv_X12_isValley e2 [vI x1] rfl rfl rfl ⟨Nat.le_of_ble_eq_true rfl, Nat.le_of_ble_eq_true rfl⟩ (c_X12_isValley l0 a1 x1 σ v3 σ4 e5) ?_
  refine g_if_eq O dX12_stop_5 rfl (fun c6 => ?_) (fun c6 => ?_)
  · replace h := (if_pos c6).symm.trans h
    refine g_iconst (v := (-1 : Int32)) O dX12_stop_16 rfl ?_
    cases h
    exact g_ireturn O K dX12_stop_17
  · replace h := (if_neg c6).symm.trans h
    refine g_aload_n O dX12_stop_8 rfl 0 rfl ?_
    refine g_iload_n O dX12_stop_9 rfl 2 rfl ?_
    obtain ⟨a7, e8, h⟩ := bo_some h
    obtain ⟨v9, σ10, e11, h⟩ := bd_some h
    refine g_cV1 O R0 N dX12_stop_10 vl_X12_380 vv_X12_isLife e8 [vI x2] rfl rfl rfl ⟨Nat.le_of_ble_eq_true rfl, Nat.le_of_ble_eq_true rfl⟩ (c_X12_isLife l0 a7 x2 σ4 v9 σ10 e11) ?_
    refine g_if_ne O dX12_stop_13 rfl (fun c12 => ?_) (fun c12 => ?_)
    · replace h := (if_pos c12).symm.trans h
      refine g_iconst (v := (-1 : Int32)) O dX12_stop_16 rfl ?_
      cases h
      exact g_ireturn O K dX12_stop_17
    · replace h := (if_neg c12).symm.trans h
      refine g_aload_n O dX12_stop_18 rfl 0 rfl ?_
      refine g_bipush (v := (40 : Int32)) O dX12_stop_19 rfl ?_
      obtain ⟨a13, e14, h⟩ := bo_some h
      obtain ⟨v15, σ16, e17, h⟩ := bd_some h
      refine g_cV0 O R0 N dX12_stop_21 vl_X12_445 vv_X12_runs e14 [vI (40 : Int32)] rfl rfl rfl ⟨Nat.le_of_ble_eq_true rfl, Nat.le_of_ble_eq_true rfl⟩ (c_X12_runs l0 a13 (40 : Int32) σ10 v15 σ16 e17) ?_
      refine g_aload_n O dX12_stop_24 rfl 0 rfl ?_
      obtain ⟨v18, e19, h⟩ := bo_some h
      refine g_getI O dX12_stop_25 fl_X12_395 rfl e19 ?_
      cases h
      exact g_ireturn O K dX12_stop_28
theorem c_X12_stop (l0 : Launch) (a0 : Nat) (x1 : Int32) (x2 : Int32) (σ : Dt) (r : Int32) (σ' : Dt) (h : f_X12_stop a0 x1 x2 σ = some (r, σ')) : Ctr l0 yX12_stop cX12_stop 3 (some .int) false 10 260 0 0 [vA (some a0), vI x1, vI x2] SM σ SM σ' (some (vI r)) := ctr_of (by decide) (Nat.le_of_ble_eq_true rfl) (fun M O F R0 N hn => t_X12_stop O R0 N hn a0 x1 x2 σ (r, σ') h F)
def P_X12_doneWorks_4 (M : Mx) (a0 : Nat) (σ : Dt) (s : (Int32 × Int32)) : Prop := G M 0 0 4 [(0, vA (some a0)), (1, vI s.1), (2, vI s.2)] [] SM σ
def E_X12_doneWorks_4 (M : Mx) (a0 : Nat) (σ : Dt) : Int32 → Prop := (fun w => G M 0 0 36 [(1, vI w)] [] SM σ)
def f_X12_doneWorks_28 (a0 : Nat) (x2 : Int32) (k0 : Int32) (k1 : Int32) (σ : Dt) : Option ((Int32 × Int32) ⊕ Int32) := some (.inl ((k0 ||| k1), (x2 + (1 : Int32))))
theorem t_X12_doneWorks_28 {M : Mx} {l0 : Launch} (O : Ok M cX12_doneWorks yX12_doneWorks) (R0 : Rm M l0 4 122 0 0) (N : Ma M = false) (hn : Mn M = 3)  (a0 : Nat) (x2 : Int32) (k0 : Int32) (k1 : Int32) (σ : Dt) (o : ((Int32 × Int32) ⊕ Int32)) (h : f_X12_doneWorks_28 a0 x2 k0 k1 σ = some o) (K : kon (P_X12_doneWorks_4 M a0 σ) (E_X12_doneWorks_4 M a0 σ) o) : G M 0 0 28 [(0, vA (some a0)), (2, vI x2)] [vI k1, vI k0] SM σ := by
  unfold f_X12_doneWorks_28 at h
  refine g_ior O dX12_doneWorks_28 ?_
  refine g_istore_n (lv' := [(1, vI (k0 ||| k1)), (0, vA (some a0)), (2, vI x2)]) O dX12_doneWorks_29 rfl 3 hn (by decide) rfl ?_
  refine g_iinc (v := (x2 + (1 : Int32))) (lv' := [(2, vI (x2 + (1 : Int32))), (1, vI (k0 ||| k1)), (0, vA (some a0))]) O dX12_doneWorks_30 3 hn (by decide) 2 rfl rfl rfl ?_
  refine g_goto O dX12_doneWorks_33 rfl ?_
  refine g_sub [2, 1, 0] (lv' := [(0, vA (some a0)), (1, vI (k0 ||| k1)), (2, vI (x2 + (1 : Int32)))]) rfl ?_
  cases h
  exact K
def f_X12_doneWorks_L4 (a0 : Nat) (x1 : Int32) (x2 : Int32) (σ : Dt) : Option ((Int32 × Int32) ⊕ Int32) := bo (xgi SM 12 13 (some a0) σ) fun v1 => if v1 ≤ x2 then some (.inr x1) else bo (xrc SM 12 (some a0)) fun a4 => bo (f_X12_isDone a4 x2 σ) fun v6 => if v6 = 0 then f_X12_doneWorks_28 a0 x2 x1 (0 : Int32) σ else f_X12_doneWorks_28 a0 x2 x1 ((1 : Int32) <<< (x2 &&& 31)) σ
theorem t_X12_doneWorks_L4 {M : Mx} {l0 : Launch} (O : Ok M cX12_doneWorks yX12_doneWorks) (R0 : Rm M l0 4 122 0 0) (N : Ma M = false) (hn : Mn M = 3) (a0 : Nat) (x1 : Int32) (x2 : Int32) (σ : Dt) (o : ((Int32 × Int32) ⊕ Int32)) (h : f_X12_doneWorks_L4 a0 x1 x2 σ = some o) (K : kon (P_X12_doneWorks_4 M a0 σ) (E_X12_doneWorks_4 M a0 σ) o) : G M 0 0 4 [(0, vA (some a0)), (1, vI x1), (2, vI x2)] [] SM σ := by
  unfold f_X12_doneWorks_L4 at h
  refine g_iload_n O dX12_doneWorks_4 rfl 2 rfl ?_
  refine g_aload_n O dX12_doneWorks_5 rfl 0 rfl ?_
  obtain ⟨v1, e2, h⟩ := bo_some h
  refine g_getI O dX12_doneWorks_6 fl_X12_214 rfl e2 ?_
  refine g_icmp_ge O dX12_doneWorks_9 rfl (fun c3 => ?_) (fun c3 => ?_)
  · replace h := (if_pos c3).symm.trans h
    refine g_sub [1] (lv' := [(1, vI x1)]) rfl ?_
    cases h
    exact K
  · replace h := (if_neg c3).symm.trans h
    refine g_iload_n O dX12_doneWorks_12 rfl 1 rfl ?_
    refine g_aload_n O dX12_doneWorks_13 rfl 0 rfl ?_
    refine g_iload_n O dX12_doneWorks_14 rfl 2 rfl ?_
    obtain ⟨a4, e5, h⟩ := bo_some h
    obtain ⟨v6, e7, h⟩ := bo_some h
    refine g_cV1 O R0 N dX12_doneWorks_15 vl_X12_407 vv_X12_isDone e5 [vI x2] rfl rfl rfl ⟨Nat.le_of_ble_eq_true rfl, Nat.le_of_ble_eq_true rfl⟩ (c_X12_isDone l0 a4 x2 σ v6 e7) ?_
    refine g_if_eq O dX12_doneWorks_18 rfl (fun c8 => ?_) (fun c8 => ?_)
    · replace h := (if_pos c8).symm.trans h
      refine g_iconst (v := (0 : Int32)) O dX12_doneWorks_27 rfl ?_
      refine g_sub [0, 2] (lv' := [(0, vA (some a0)), (2, vI x2)]) rfl ?_
      exact t_X12_doneWorks_28 O R0 N hn a0 x2 x1 (0 : Int32) σ o h K
    · replace h := (if_neg c8).symm.trans h
      refine g_iconst (v := (1 : Int32)) O dX12_doneWorks_21 rfl ?_
      refine g_iload_n O dX12_doneWorks_22 rfl 2 rfl ?_
      refine g_ishl O dX12_doneWorks_23 ?_
      refine g_goto O dX12_doneWorks_24 rfl ?_
      refine g_sub [0, 2] (lv' := [(0, vA (some a0)), (2, vI x2)]) rfl ?_
      exact t_X12_doneWorks_28 O R0 N hn a0 x2 x1 ((1 : Int32) <<< (x2 &&& 31)) σ o h K
def f_X12_doneWorks (a0 : Nat) (σ : Dt) : Option Int32 := bo (iter FU (fun s => f_X12_doneWorks_L4 a0 s.1 s.2 σ) ((0 : Int32), (0 : Int32))) fun w1 => some w1
theorem t_X12_doneWorks {M : Mx} {l0 : Launch} (O : Ok M cX12_doneWorks yX12_doneWorks) (R0 : Rm M l0 4 122 0 0) (N : Ma M = false) (hn : Mn M = 3) (a0 : Nat) (σ : Dt) (o : Int32) (h : f_X12_doneWorks a0 σ = some o) (K : Fin' M (some .int) 0 0 SM σ (some (vI o))) : G M 0 0 0 [(0, vA (some a0))] [] SM σ := by
  unfold f_X12_doneWorks at h
  refine g_iconst (v := (0 : Int32)) O dX12_doneWorks_0 rfl ?_
  refine g_istore_n (lv' := [(1, vI (0 : Int32)), (0, vA (some a0))]) O dX12_doneWorks_1 rfl 3 hn (by decide) rfl ?_
  refine g_iconst (v := (0 : Int32)) O dX12_doneWorks_2 rfl ?_
  refine g_istore_n (lv' := [(2, vI (0 : Int32)), (1, vI (0 : Int32)), (0, vA (some a0))]) O dX12_doneWorks_3 rfl 3 hn (by decide) rfl ?_
  refine g_sub [2, 1, 0] (lv' := [(0, vA (some a0)), (1, vI (0 : Int32)), (2, vI (0 : Int32))]) rfl ?_
  obtain ⟨w1, e2, h⟩ := bo_some h
  refine iter_G (P := P_X12_doneWorks_4 M a0 σ) (E := E_X12_doneWorks_4 M a0 σ) (fun s o hb hk => t_X12_doneWorks_L4 O R0 N hn a0 s.1 s.2 σ o hb hk) FU ((0 : Int32), (0 : Int32)) w1 e2 ?_
  show G M 0 0 36 [(1, vI w1)] [] SM σ
  refine g_iload_n O dX12_doneWorks_36 rfl 0 rfl ?_
  cases h
  exact g_ireturn O K dX12_doneWorks_37
theorem c_X12_doneWorks (l0 : Launch) (a0 : Nat) (σ : Dt) (r : Int32) (h : f_X12_doneWorks a0 σ = some r) : Ctr l0 yX12_doneWorks cX12_doneWorks 3 (some .int) false 4 122 0 0 [vA (some a0)] SM σ SM σ (some (vI r)) := ctr_of (by decide) (Nat.le_of_ble_eq_true rfl) (fun M O F R0 N hn => t_X12_doneWorks O R0 N hn a0 σ r h F)
def f_X12_nowOf_222  (σ : Dt) : Option Int32 := some (-2 : Int32)
theorem t_X12_nowOf_222 {M : Mx} {l0 : Launch} (O : Ok M cX12_nowOf yX12_nowOf) (R0 : Rm M l0 5 146 0 0) (N : Ma M = false) (hn : Mn M = 3)   (σ : Dt) (o : Int32) (h : f_X12_nowOf_222 σ = some o) (K : Fin' M (some .int) 0 0 SM σ (some (vI o))) : G M 0 0 222 [] [] SM σ := by
  unfold f_X12_nowOf_222 at h
  refine g_bipush (v := (-2 : Int32)) O dX12_nowOf_222 rfl ?_
  cases h
  exact g_ireturn O K dX12_nowOf_224
def f_X12_nowOf (a0 : Nat) (x1 : Int32) (σ : Dt) : Option Int32 := if x1 = (0 : Int32) then bo (xgi SM 12 27 (some a0) σ) fun v2 => some v2 else if x1 = (1 : Int32) then bo (xgi SM 12 28 (some a0) σ) fun v5 => some v5 else if x1 = (2 : Int32) then bo (xgi SM 12 29 (some a0) σ) fun v8 => some v8 else if x1 = (3 : Int32) then bo (xgi SM 12 30 (some a0) σ) fun v11 => some v11 else if x1 = (4 : Int32) then bo (xgi SM 12 32 (some a0) σ) fun v14 => some v14 else if x1 = (5 : Int32) then bo (xrc SM 12 (some a0)) fun a17 => bo (f_X12_doneWorks a17 σ) fun v19 => some v19 else bo (f_X12_isIn x1 (40 : Int32) (51 : Int32) σ) fun v21 => if v21 = 0 then bo (f_X12_isIn x1 (60 : Int32) (71 : Int32) σ) fun v24 => if v24 = 0 then bo (f_X12_isIn x1 (30 : Int32) (39 : Int32) σ) fun v27 => if v27 = 0 then bo (f_X12_isIn x1 (10 : Int32) (29 : Int32) σ) fun v30 => if v30 = 0 then f_X12_nowOf_222 σ else bo (xgi SM 12 28 (some a0) σ) fun v33 => if v33 ≤ (x1 - x1 / (10 : Int32) * (10 : Int32)) then f_X12_nowOf_222 σ else if (20 : Int32) ≤ x1 then bo (xrc SM 12 (some a0)) fun a37 => bo (f_X12_owesOf a37 (x1 - x1 / (10 : Int32) * (10 : Int32)) σ) fun v39 => some v39 else bo (xgr SM 12 34 (some a0) σ) fun v41 => bo (xai SM v41 (x1 - x1 / (10 : Int32) * (10 : Int32)) σ) fun v43 => some v43 else bo (xrc SM 12 (some a0)) fun a45 => bo (f_X12_isWork a45 (x1 - x1 / (10 : Int32) * (10 : Int32)) σ) fun v47 => if v47 = 0 then some (-2 : Int32) else bo (xgr SM 12 40 (some a0) σ) fun v50 => bo (xai SM v50 (x1 - x1 / (10 : Int32) * (10 : Int32)) σ) fun v52 => some v52 else bo (xgi SM 12 32 (some a0) σ) fun v54 => if v54 ≤ (x1 - (60 : Int32)) then some (-2 : Int32) else bo (xgr SM 12 43 (some a0) σ) fun v57 => bo (xai SM v57 (x1 - (60 : Int32)) σ) fun v59 => some v59 else bo (xgi SM 12 32 (some a0) σ) fun v61 => if v61 ≤ (x1 - (40 : Int32)) then some (-2 : Int32) else bo (xgr SM 12 44 (some a0) σ) fun v64 => bo (xai SM v64 (x1 - (40 : Int32)) σ) fun v66 => some v66
theorem t_X12_nowOf {M : Mx} {l0 : Launch} (O : Ok M cX12_nowOf yX12_nowOf) (R0 : Rm M l0 5 146 0 0) (N : Ma M = false) (hn : Mn M = 3) (a0 : Nat) (x1 : Int32) (σ : Dt) (o : Int32) (h : f_X12_nowOf a0 x1 σ = some o) (K : Fin' M (some .int) 0 0 SM σ (some (vI o))) : G M 0 0 0 [(0, vA (some a0)), (1, vI x1)] [] SM σ := by
  unfold f_X12_nowOf at h
  refine g_iload_n O dX12_nowOf_0 rfl 1 rfl ?_
  by_cases c1 : x1 = (0 : Int32)
  · replace h := (if_pos c1).symm.trans h
    refine g_tabIn O dX12_nowOf_1 (by rw [c1]; decide) (by rw [c1]; decide) (by rw [c1]; rfl) rfl ?_
    refine g_aload_n O dX12_nowOf_40 rfl 0 rfl ?_
    obtain ⟨v2, e3, h⟩ := bo_some h
    refine g_getI O dX12_nowOf_41 fl_X12_383 rfl e3 ?_
    cases h
    exact g_ireturn O K dX12_nowOf_44
  replace h := (if_neg c1).symm.trans h
  by_cases c4 : x1 = (1 : Int32)
  · replace h := (if_pos c4).symm.trans h
    refine g_tabIn O dX12_nowOf_1 (by rw [c4]; decide) (by rw [c4]; decide) (by rw [c4]; rfl) rfl ?_
    refine g_aload_n O dX12_nowOf_45 rfl 0 rfl ?_
    obtain ⟨v5, e6, h⟩ := bo_some h
    refine g_getI O dX12_nowOf_46 fl_X12_386 rfl e6 ?_
    cases h
    exact g_ireturn O K dX12_nowOf_49
  replace h := (if_neg c4).symm.trans h
  by_cases c7 : x1 = (2 : Int32)
  · replace h := (if_pos c7).symm.trans h
    refine g_tabIn O dX12_nowOf_1 (by rw [c7]; decide) (by rw [c7]; decide) (by rw [c7]; rfl) rfl ?_
    refine g_aload_n O dX12_nowOf_50 rfl 0 rfl ?_
    obtain ⟨v8, e9, h⟩ := bo_some h
    refine g_getI O dX12_nowOf_51 fl_X12_389 rfl e9 ?_
    cases h
    exact g_ireturn O K dX12_nowOf_54
  replace h := (if_neg c7).symm.trans h
  by_cases c10 : x1 = (3 : Int32)
  · replace h := (if_pos c10).symm.trans h
    refine g_tabIn O dX12_nowOf_1 (by rw [c10]; decide) (by rw [c10]; decide) (by rw [c10]; rfl) rfl ?_
    refine g_aload_n O dX12_nowOf_55 rfl 0 rfl ?_
    obtain ⟨v11, e12, h⟩ := bo_some h
    refine g_getI O dX12_nowOf_56 fl_X12_392 rfl e12 ?_
    cases h
    exact g_ireturn O K dX12_nowOf_59
  replace h := (if_neg c10).symm.trans h
  by_cases c13 : x1 = (4 : Int32)
  · replace h := (if_pos c13).symm.trans h
    refine g_tabIn O dX12_nowOf_1 (by rw [c13]; decide) (by rw [c13]; decide) (by rw [c13]; rfl) rfl ?_
    refine g_aload_n O dX12_nowOf_60 rfl 0 rfl ?_
    obtain ⟨v14, e15, h⟩ := bo_some h
    refine g_getI O dX12_nowOf_61 fl_X12_398 rfl e15 ?_
    cases h
    exact g_ireturn O K dX12_nowOf_64
  replace h := (if_neg c13).symm.trans h
  by_cases c16 : x1 = (5 : Int32)
  · replace h := (if_pos c16).symm.trans h
    refine g_tabIn O dX12_nowOf_1 (by rw [c16]; decide) (by rw [c16]; decide) (by rw [c16]; rfl) rfl ?_
    refine g_aload_n O dX12_nowOf_65 rfl 0 rfl ?_
    obtain ⟨a17, e18, h⟩ := bo_some h
    obtain ⟨v19, e20, h⟩ := bo_some h
    refine g_cV1 O R0 N dX12_nowOf_66 vl_X12_448 vv_X12_doneWorks e18 [] rfl rfl rfl ⟨Nat.le_of_ble_eq_true rfl, Nat.le_of_ble_eq_true rfl⟩ (c_X12_doneWorks l0 a17 σ v19 e20) ?_
    cases h
    exact g_ireturn O K dX12_nowOf_69
  replace h := (if_neg c16).symm.trans h
  refine g_tabOut O dX12_nowOf_1 (tab_out [(0 : Int32), (1 : Int32), (2 : Int32), (3 : Int32), (4 : Int32), (5 : Int32)] (fun z h1 h2 => ?_) (fun c hc => ?_)) rfl ?_
  · have hz : z = 0 ∨ z = 1 ∨ z = 2 ∨ z = 3 ∨ z = 4 ∨ z = 5 := by omega
    rcases hz with rfl | rfl | rfl | rfl | rfl | rfl
    · exact ⟨(0 : Int32), by simp, rfl⟩
    · exact ⟨(1 : Int32), by simp, rfl⟩
    · exact ⟨(2 : Int32), by simp, rfl⟩
    · exact ⟨(3 : Int32), by simp, rfl⟩
    · exact ⟨(4 : Int32), by simp, rfl⟩
    · exact ⟨(5 : Int32), by simp, rfl⟩
  · simp only [List.mem_cons, List.not_mem_nil, or_false] at hc
    rcases hc with rfl | rfl | rfl | rfl | rfl | rfl <;> assumption
  refine g_iload_n O dX12_nowOf_70 rfl 1 rfl ?_
  refine g_bipush (v := (40 : Int32)) O dX12_nowOf_71 rfl ?_
  refine g_bipush (v := (51 : Int32)) O dX12_nowOf_73 rfl ?_
  obtain ⟨v21, e22, h⟩ := bo_some h
  refine g_cS1 O R0 N dX12_nowOf_75 vl_X12_146 w1616 [vI x1, vI (40 : Int32), vI (51 : Int32)] rfl rfl rfl ⟨Nat.le_of_ble_eq_true rfl, Nat.le_of_ble_eq_true rfl⟩ (c_X12_isIn l0 x1 (40 : Int32) (51 : Int32) σ v21 e22) ?_
  refine g_if_eq O dX12_nowOf_78 rfl (fun c23 => ?_) (fun c23 => ?_)
  · replace h := (if_pos c23).symm.trans h
    refine g_iload_n O dX12_nowOf_107 rfl 1 rfl ?_
    refine g_bipush (v := (60 : Int32)) O dX12_nowOf_108 rfl ?_
    refine g_bipush (v := (71 : Int32)) O dX12_nowOf_110 rfl ?_
    obtain ⟨v24, e25, h⟩ := bo_some h
    refine g_cS1 O R0 N dX12_nowOf_112 vl_X12_146 w1616 [vI x1, vI (60 : Int32), vI (71 : Int32)] rfl rfl rfl ⟨Nat.le_of_ble_eq_true rfl, Nat.le_of_ble_eq_true rfl⟩ (c_X12_isIn l0 x1 (60 : Int32) (71 : Int32) σ v24 e25) ?_
    refine g_if_eq O dX12_nowOf_115 rfl (fun c26 => ?_) (fun c26 => ?_)
    · replace h := (if_pos c26).symm.trans h
      refine g_iload_n O dX12_nowOf_144 rfl 1 rfl ?_
      refine g_bipush (v := (10 : Int32)) O dX12_nowOf_145 rfl ?_
      refine g_irem O dX12_nowOf_147 (by decide) ?_
      refine g_istore_n (lv' := [(2, vI (x1 - x1 / (10 : Int32) * (10 : Int32))), (0, vA (some a0)), (1, vI x1)]) O dX12_nowOf_148 rfl 3 hn (by decide) rfl ?_
      refine g_iload_n O dX12_nowOf_149 rfl 2 rfl ?_
      refine g_bipush (v := (30 : Int32)) O dX12_nowOf_150 rfl ?_
      refine g_bipush (v := (39 : Int32)) O dX12_nowOf_152 rfl ?_
      obtain ⟨v27, e28, h⟩ := bo_some h
      refine g_cS1 O R0 N dX12_nowOf_154 vl_X12_146 w1616 [vI x1, vI (30 : Int32), vI (39 : Int32)] rfl rfl rfl ⟨Nat.le_of_ble_eq_true rfl, Nat.le_of_ble_eq_true rfl⟩ (c_X12_isIn l0 x1 (30 : Int32) (39 : Int32) σ v27 e28) ?_
      refine g_if_eq O dX12_nowOf_157 rfl (fun c29 => ?_) (fun c29 => ?_)
      · replace h := (if_pos c29).symm.trans h
        refine g_iload_n O dX12_nowOf_180 rfl 2 rfl ?_
        refine g_bipush (v := (10 : Int32)) O dX12_nowOf_181 rfl ?_
        refine g_bipush (v := (29 : Int32)) O dX12_nowOf_183 rfl ?_
        obtain ⟨v30, e31, h⟩ := bo_some h
        refine g_cS1 O R0 N dX12_nowOf_185 vl_X12_146 w1616 [vI x1, vI (10 : Int32), vI (29 : Int32)] rfl rfl rfl ⟨Nat.le_of_ble_eq_true rfl, Nat.le_of_ble_eq_true rfl⟩ (c_X12_isIn l0 x1 (10 : Int32) (29 : Int32) σ v30 e31) ?_
        refine g_if_eq O dX12_nowOf_188 rfl (fun c32 => ?_) (fun c32 => ?_)
        · replace h := (if_pos c32).symm.trans h
          refine g_sub [] (lv' := []) rfl ?_
          exact t_X12_nowOf_222 O R0 N hn σ o h K
        · replace h := (if_neg c32).symm.trans h
          refine g_iload_n O dX12_nowOf_191 rfl 0 rfl ?_
          refine g_aload_n O dX12_nowOf_192 rfl 1 rfl ?_
          obtain ⟨v33, e34, h⟩ := bo_some h
          refine g_getI O dX12_nowOf_193 fl_X12_386 rfl e34 ?_
          refine g_icmp_ge O dX12_nowOf_196 rfl (fun c35 => ?_) (fun c35 => ?_)
          · replace h := (if_pos c35).symm.trans h
            refine g_sub [] (lv' := []) rfl ?_
            exact t_X12_nowOf_222 O R0 N hn σ o h K
          · replace h := (if_neg c35).symm.trans h
            refine g_iload_n O dX12_nowOf_199 rfl 2 rfl ?_
            refine g_bipush (v := (20 : Int32)) O dX12_nowOf_200 rfl ?_
            refine g_icmp_ge O dX12_nowOf_202 rfl (fun c36 => ?_) (fun c36 => ?_)
            · replace h := (if_pos c36).symm.trans h
              refine g_aload_n O dX12_nowOf_214 rfl 1 rfl ?_
              refine g_iload_n O dX12_nowOf_215 rfl 0 rfl ?_
              obtain ⟨a37, e38, h⟩ := bo_some h
              obtain ⟨v39, e40, h⟩ := bo_some h
              refine g_cV1 O R0 N dX12_nowOf_216 vl_X12_414 vv_X12_owesOf e38 [vI (x1 - x1 / (10 : Int32) * (10 : Int32))] rfl rfl rfl ⟨Nat.le_of_ble_eq_true rfl, Nat.le_of_ble_eq_true rfl⟩ (c_X12_owesOf l0 a37 (x1 - x1 / (10 : Int32) * (10 : Int32)) σ v39 e40) ?_
              refine g_goto O dX12_nowOf_219 rfl ?_
              cases h
              exact g_ireturn O K dX12_nowOf_224
            · replace h := (if_neg c36).symm.trans h
              refine g_aload_n O dX12_nowOf_205 rfl 1 rfl ?_
              obtain ⟨v41, e42, h⟩ := bo_some h
              refine g_getR O dX12_nowOf_206 fl_X12_55 rfl e42 ?_
              refine g_iload_n O dX12_nowOf_209 rfl 0 rfl ?_
              obtain ⟨v43, e44, h⟩ := bo_some h
              refine g_iaload O dX12_nowOf_210 e44 ?_
              refine g_goto O dX12_nowOf_211 rfl ?_
              cases h
              exact g_ireturn O K dX12_nowOf_224
      · replace h := (if_neg c29).symm.trans h
        refine g_aload_n O dX12_nowOf_160 rfl 1 rfl ?_
        refine g_iload_n O dX12_nowOf_161 rfl 0 rfl ?_
        obtain ⟨a45, e46, h⟩ := bo_some h
        obtain ⟨v47, e48, h⟩ := bo_some h
        refine g_cV1 O R0 N dX12_nowOf_162 vl_X12_226 vv_X12_isWork e46 [vI (x1 - x1 / (10 : Int32) * (10 : Int32))] rfl rfl rfl ⟨Nat.le_of_ble_eq_true rfl, Nat.le_of_ble_eq_true rfl⟩ (c_X12_isWork l0 a45 (x1 - x1 / (10 : Int32) * (10 : Int32)) σ v47 e48) ?_
        refine g_if_eq O dX12_nowOf_165 rfl (fun c49 => ?_) (fun c49 => ?_)
        · replace h := (if_pos c49).symm.trans h
          refine g_bipush (v := (-2 : Int32)) O dX12_nowOf_177 rfl ?_
          cases h
          exact g_ireturn O K dX12_nowOf_179
        · replace h := (if_neg c49).symm.trans h
          refine g_aload_n O dX12_nowOf_168 rfl 1 rfl ?_
          obtain ⟨v50, e51, h⟩ := bo_some h
          refine g_getR O dX12_nowOf_169 fl_X12_73 rfl e51 ?_
          refine g_iload_n O dX12_nowOf_172 rfl 0 rfl ?_
          obtain ⟨v52, e53, h⟩ := bo_some h
          refine g_iaload O dX12_nowOf_173 e53 ?_
          refine g_goto O dX12_nowOf_174 rfl ?_
          cases h
          exact g_ireturn O K dX12_nowOf_179
    · replace h := (if_neg c26).symm.trans h
      refine g_iload_n O dX12_nowOf_118 rfl 1 rfl ?_
      refine g_bipush (v := (60 : Int32)) O dX12_nowOf_119 rfl ?_
      refine g_isub O dX12_nowOf_121 ?_
      refine g_aload_n O dX12_nowOf_122 rfl 0 rfl ?_
      obtain ⟨v54, e55, h⟩ := bo_some h
      refine g_getI O dX12_nowOf_123 fl_X12_398 rfl e55 ?_
      refine g_icmp_ge O dX12_nowOf_126 rfl (fun c56 => ?_) (fun c56 => ?_)
      · replace h := (if_pos c56).symm.trans h
        refine g_bipush (v := (-2 : Int32)) O dX12_nowOf_141 rfl ?_
        cases h
        exact g_ireturn O K dX12_nowOf_143
      · replace h := (if_neg c56).symm.trans h
        refine g_aload_n O dX12_nowOf_129 rfl 0 rfl ?_
        obtain ⟨v57, e58, h⟩ := bo_some h
        refine g_getR O dX12_nowOf_130 fl_X12_82 rfl e58 ?_
        refine g_iload_n O dX12_nowOf_133 rfl 1 rfl ?_
        refine g_bipush (v := (60 : Int32)) O dX12_nowOf_134 rfl ?_
        refine g_isub O dX12_nowOf_136 ?_
        obtain ⟨v59, e60, h⟩ := bo_some h
        refine g_iaload O dX12_nowOf_137 e60 ?_
        refine g_goto O dX12_nowOf_138 rfl ?_
        cases h
        exact g_ireturn O K dX12_nowOf_143
  · replace h := (if_neg c23).symm.trans h
    refine g_iload_n O dX12_nowOf_81 rfl 1 rfl ?_
    refine g_bipush (v := (40 : Int32)) O dX12_nowOf_82 rfl ?_
    refine g_isub O dX12_nowOf_84 ?_
    refine g_aload_n O dX12_nowOf_85 rfl 0 rfl ?_
    obtain ⟨v61, e62, h⟩ := bo_some h
    refine g_getI O dX12_nowOf_86 fl_X12_398 rfl e62 ?_
    refine g_icmp_ge O dX12_nowOf_89 rfl (fun c63 => ?_) (fun c63 => ?_)
    · replace h := (if_pos c63).symm.trans h
      refine g_bipush (v := (-2 : Int32)) O dX12_nowOf_104 rfl ?_
      cases h
      exact g_ireturn O K dX12_nowOf_106
    · replace h := (if_neg c63).symm.trans h
      refine g_aload_n O dX12_nowOf_92 rfl 0 rfl ?_
      obtain ⟨v64, e65, h⟩ := bo_some h
      refine g_getR O dX12_nowOf_93 fl_X12_85 rfl e65 ?_
      refine g_iload_n O dX12_nowOf_96 rfl 1 rfl ?_
      refine g_bipush (v := (40 : Int32)) O dX12_nowOf_97 rfl ?_
      refine g_isub O dX12_nowOf_99 ?_
      obtain ⟨v66, e67, h⟩ := bo_some h
      refine g_iaload O dX12_nowOf_100 e67 ?_
      refine g_goto O dX12_nowOf_101 rfl ?_
      cases h
      exact g_ireturn O K dX12_nowOf_106
theorem c_X12_nowOf (l0 : Launch) (a0 : Nat) (x1 : Int32) (σ : Dt) (r : Int32) (h : f_X12_nowOf a0 x1 σ = some r) : Ctr l0 yX12_nowOf cX12_nowOf 3 (some .int) false 5 146 0 0 [vA (some a0), vI x1] SM σ SM σ (some (vI r)) := ctr_of (by decide) (Nat.le_of_ble_eq_true rfl) (fun M O F R0 N hn => t_X12_nowOf O R0 N hn a0 x1 σ r h F)
def f_X12_state (a0 : Nat) (x1 : Int32) (x2 : Int32) (x3 : Int32) (x4 : Int32) (σ : Dt) : Option (Int32 × Dt) := bo (xrc SM 12 (some a0)) fun a1 => bd (f_X12_isValley a1 x1 σ) fun v3 σ4 => if v3 = 0 then some ((-2 : Int32), σ4) else bo (xrc SM 12 (some a0)) fun a7 => bd (f_X12_isLife a7 x2 σ4) fun v9 σ10 => if v9 = 0 then some ((-2 : Int32), σ10) else if 0 ≤ x3 then bo (xrc SM 12 (some a0)) fun a14 => bd (f_X12_runs a14 x3 σ10) fun v16 σ17 => bo (xgi SM 12 31 (some a0) σ17) fun v19 => if v19 = x3 then bo (xrc SM 12 (some a0)) fun a22 => bo (f_X12_nowOf a22 x4 σ17) fun v24 => some (v24, σ17) else some ((-2 : Int32), σ17) else some ((-2 : Int32), σ10)
theorem t_X12_state {M : Mx} {l0 : Launch} (O : Ok M cX12_state yX12_state) (R0 : Rm M l0 10 260 0 0) (N : Ma M = false) (hn : Mn M = 5) (a0 : Nat) (x1 : Int32) (x2 : Int32) (x3 : Int32) (x4 : Int32) (σ : Dt) (o : (Int32 × Dt)) (h : f_X12_state a0 x1 x2 x3 x4 σ = some o) (K : Fin' M (some .int) 0 0 SM o.2 (some (vI o.1))) : G M 0 0 0 [(0, vA (some a0)), (1, vI x1), (2, vI x2), (3, vI x3), (4, vI x4)] [] SM σ := by
  unfold f_X12_state at h
  refine g_aload_n O dX12_state_0 rfl 0 rfl ?_
  refine g_iload_n O dX12_state_1 rfl 1 rfl ?_
  obtain ⟨a1, e2, h⟩ := bo_some h
  obtain ⟨v3, σ4, e5, h⟩ := bd_some h
  refine g_cV1 O R0 N dX12_state_2 vl_X12_220 vv_X12_isValley e2 [vI x1] rfl rfl rfl ⟨Nat.le_of_ble_eq_true rfl, Nat.le_of_ble_eq_true rfl⟩ (c_X12_isValley l0 a1 x1 σ v3 σ4 e5) ?_
  refine g_if_eq O dX12_state_5 rfl (fun c6 => ?_) (fun c6 => ?_)
  · replace h := (if_pos c6).symm.trans h
    refine g_bipush (v := (-2 : Int32)) O dX12_state_20 rfl ?_
    cases h
    exact g_ireturn O K dX12_state_22
  · replace h := (if_neg c6).symm.trans h
    refine g_aload_n O dX12_state_8 rfl 0 rfl ?_
    refine g_iload_n O dX12_state_9 rfl 2 rfl ?_
    obtain ⟨a7, e8, h⟩ := bo_some h
    obtain ⟨v9, σ10, e11, h⟩ := bd_some h
    refine g_cV1 O R0 N dX12_state_10 vl_X12_380 vv_X12_isLife e8 [vI x2] rfl rfl rfl ⟨Nat.le_of_ble_eq_true rfl, Nat.le_of_ble_eq_true rfl⟩ (c_X12_isLife l0 a7 x2 σ4 v9 σ10 e11) ?_
    refine g_if_eq O dX12_state_13 rfl (fun c12 => ?_) (fun c12 => ?_)
    · replace h := (if_pos c12).symm.trans h
      refine g_bipush (v := (-2 : Int32)) O dX12_state_20 rfl ?_
      cases h
      exact g_ireturn O K dX12_state_22
    · replace h := (if_neg c12).symm.trans h
      refine g_iload_n O dX12_state_16 rfl 3 rfl ?_
      refine g_if_ge O dX12_state_17 rfl (fun c13 => ?_) (fun c13 => ?_)
      · replace h := (if_pos c13).symm.trans h
        refine g_aload_n O dX12_state_23 rfl 0 rfl ?_
        refine g_iload_n O dX12_state_24 rfl 3 rfl ?_
        obtain ⟨a14, e15, h⟩ := bo_some h
        obtain ⟨v16, σ17, e18, h⟩ := bd_some h
        refine g_cV0 O R0 N dX12_state_25 vl_X12_445 vv_X12_runs e15 [vI x3] rfl rfl rfl ⟨Nat.le_of_ble_eq_true rfl, Nat.le_of_ble_eq_true rfl⟩ (c_X12_runs l0 a14 x3 σ10 v16 σ17 e18) ?_
        refine g_aload_n O dX12_state_28 rfl 0 rfl ?_
        obtain ⟨v19, e20, h⟩ := bo_some h
        refine g_getI O dX12_state_29 fl_X12_395 rfl e20 ?_
        refine g_iload_n O dX12_state_32 rfl 3 rfl ?_
        refine g_icmp_ne O dX12_state_33 rfl (fun c21 => ?_) (fun c21 => ?_)
        · replace h := (if_pos c21).symm.trans h
          refine g_aload_n O dX12_state_36 rfl 0 rfl ?_
          refine g_iload O dX12_state_37 4 rfl ?_
          obtain ⟨a22, e23, h⟩ := bo_some h
          obtain ⟨v24, e25, h⟩ := bo_some h
          refine g_cV1 O R0 N dX12_state_39 vl_X12_451 vv_X12_nowOf e23 [vI x4] rfl rfl rfl ⟨Nat.le_of_ble_eq_true rfl, Nat.le_of_ble_eq_true rfl⟩ (c_X12_nowOf l0 a22 x4 σ17 v24 e25) ?_
          refine g_goto O dX12_state_42 rfl ?_
          cases h
          exact g_ireturn O K dX12_state_47
        · replace h := (if_neg c21).symm.trans h
          refine g_bipush (v := (-2 : Int32)) O dX12_state_45 rfl ?_
          cases h
          exact g_ireturn O K dX12_state_47
      · replace h := (if_neg c13).symm.trans h
        refine g_bipush (v := (-2 : Int32)) O dX12_state_20 rfl ?_
        cases h
        exact g_ireturn O K dX12_state_22
theorem c_X12_state (l0 : Launch) (a0 : Nat) (x1 : Int32) (x2 : Int32) (x3 : Int32) (x4 : Int32) (σ : Dt) (r : Int32) (σ' : Dt) (h : f_X12_state a0 x1 x2 x3 x4 σ = some (r, σ')) : Ctr l0 yX12_state cX12_state 5 (some .int) false 10 260 0 0 [vA (some a0), vI x1, vI x2, vI x3, vI x4] SM σ SM σ' (some (vI r)) := ctr_of (by decide) (Nat.le_of_ble_eq_true rfl) (fun M O F R0 N hn => t_X12_state O R0 N hn a0 x1 x2 x3 x4 σ (r, σ') h F)
def P_X12_mostDug_4 (M : Mx) (a0 : Nat) (σ : Dt) (s : (Int32 × Int32)) : Prop := G M 0 0 4 [(0, vA (some a0)), (1, vI s.1), (2, vI s.2)] [] SM σ
def E_X12_mostDug_4 (M : Mx) (a0 : Nat) (σ : Dt) : Int32 → Prop := (fun w => G M 0 0 44 [(1, vI w)] [] SM σ)
def f_X12_mostDug_38 (a0 : Nat) (x1 : Int32) (x2 : Int32) (σ : Dt) : Option ((Int32 × Int32) ⊕ Int32) := some (.inl (x1, (x2 + (1 : Int32))))
theorem t_X12_mostDug_38 {M : Mx} {l0 : Launch} (O : Ok M cX12_mostDug yX12_mostDug) (R0 : Rm M l0 2 80 0 0) (N : Ma M = false) (hn : Mn M = 3)  (a0 : Nat) (x1 : Int32) (x2 : Int32) (σ : Dt) (o : ((Int32 × Int32) ⊕ Int32)) (h : f_X12_mostDug_38 a0 x1 x2 σ = some o) (K : kon (P_X12_mostDug_4 M a0 σ) (E_X12_mostDug_4 M a0 σ) o) : G M 0 0 38 [(0, vA (some a0)), (1, vI x1), (2, vI x2)] [] SM σ := by
  unfold f_X12_mostDug_38 at h
  refine g_iinc (v := (x2 + (1 : Int32))) (lv' := [(2, vI (x2 + (1 : Int32))), (0, vA (some a0)), (1, vI x1)]) O dX12_mostDug_38 3 hn (by decide) 2 rfl rfl rfl ?_
  refine g_goto O dX12_mostDug_41 rfl ?_
  refine g_sub [1, 2, 0] (lv' := [(0, vA (some a0)), (1, vI x1), (2, vI (x2 + (1 : Int32)))]) rfl ?_
  cases h
  exact K
def f_X12_mostDug_33 (a0 : Nat) (x1 : Int32) (x2 : Int32) (k0 : Int32) (k1 : Int32) (σ : Dt) : Option ((Int32 × Int32) ⊕ Int32) := if k0 ≤ k1 then f_X12_mostDug_38 a0 x1 x2 σ else f_X12_mostDug_38 a0 x2 x2 σ
theorem t_X12_mostDug_33 {M : Mx} {l0 : Launch} (O : Ok M cX12_mostDug yX12_mostDug) (R0 : Rm M l0 2 80 0 0) (N : Ma M = false) (hn : Mn M = 3)  (a0 : Nat) (x1 : Int32) (x2 : Int32) (k0 : Int32) (k1 : Int32) (σ : Dt) (o : ((Int32 × Int32) ⊕ Int32)) (h : f_X12_mostDug_33 a0 x1 x2 k0 k1 σ = some o) (K : kon (P_X12_mostDug_4 M a0 σ) (E_X12_mostDug_4 M a0 σ) o) : G M 0 0 33 [(0, vA (some a0)), (1, vI x1), (2, vI x2)] [vI k1, vI k0] SM σ := by
  unfold f_X12_mostDug_33 at h
  refine g_icmp_le O dX12_mostDug_33 rfl (fun c1 => ?_) (fun c1 => ?_)
  · replace h := (if_pos c1).symm.trans h
    exact t_X12_mostDug_38 O R0 N hn a0 x1 x2 σ o h K
  · replace h := (if_neg c1).symm.trans h
    refine g_iload_n O dX12_mostDug_36 rfl 2 rfl ?_
    refine g_istore_n (lv' := [(1, vI x2), (0, vA (some a0)), (2, vI x2)]) O dX12_mostDug_37 rfl 3 hn (by decide) rfl ?_
    refine g_sub [1, 0, 2] (lv' := [(0, vA (some a0)), (1, vI x2), (2, vI x2)]) rfl ?_
    exact t_X12_mostDug_38 O R0 N hn a0 x2 x2 σ o h K
def f_X12_mostDug_L4 (a0 : Nat) (x1 : Int32) (x2 : Int32) (σ : Dt) : Option ((Int32 × Int32) ⊕ Int32) := bo (xgi SM 12 28 (some a0) σ) fun v1 => if v1 ≤ x2 then some (.inr x1) else bo (xgr SM 12 38 (some a0) σ) fun v4 => bo (xai SM v4 x2 σ) fun v6 => if x1 = (-1 : Int32) then f_X12_mostDug_33 a0 x1 x2 v6 (0 : Int32) σ else bo (xgr SM 12 38 (some a0) σ) fun v9 => bo (xai SM v9 x1 σ) fun v11 => f_X12_mostDug_33 a0 x1 x2 v6 v11 σ
theorem t_X12_mostDug_L4 {M : Mx} {l0 : Launch} (O : Ok M cX12_mostDug yX12_mostDug) (R0 : Rm M l0 2 80 0 0) (N : Ma M = false) (hn : Mn M = 3) (a0 : Nat) (x1 : Int32) (x2 : Int32) (σ : Dt) (o : ((Int32 × Int32) ⊕ Int32)) (h : f_X12_mostDug_L4 a0 x1 x2 σ = some o) (K : kon (P_X12_mostDug_4 M a0 σ) (E_X12_mostDug_4 M a0 σ) o) : G M 0 0 4 [(0, vA (some a0)), (1, vI x1), (2, vI x2)] [] SM σ := by
  unfold f_X12_mostDug_L4 at h
  refine g_iload_n O dX12_mostDug_4 rfl 2 rfl ?_
  refine g_aload_n O dX12_mostDug_5 rfl 0 rfl ?_
  obtain ⟨v1, e2, h⟩ := bo_some h
  refine g_getI O dX12_mostDug_6 fl_X12_386 rfl e2 ?_
  refine g_icmp_ge O dX12_mostDug_9 rfl (fun c3 => ?_) (fun c3 => ?_)
  · replace h := (if_pos c3).symm.trans h
    refine g_sub [1] (lv' := [(1, vI x1)]) rfl ?_
    cases h
    exact K
  · replace h := (if_neg c3).symm.trans h
    refine g_aload_n O dX12_mostDug_12 rfl 0 rfl ?_
    obtain ⟨v4, e5, h⟩ := bo_some h
    refine g_getR O dX12_mostDug_13 fl_X12_67 rfl e5 ?_
    refine g_iload_n O dX12_mostDug_16 rfl 2 rfl ?_
    obtain ⟨v6, e7, h⟩ := bo_some h
    refine g_iaload O dX12_mostDug_17 e7 ?_
    refine g_iload_n O dX12_mostDug_18 rfl 1 rfl ?_
    refine g_iconst (v := (-1 : Int32)) O dX12_mostDug_19 rfl ?_
    refine g_icmp_ne O dX12_mostDug_20 rfl (fun c8 => ?_) (fun c8 => ?_)
    · replace h := (if_pos c8).symm.trans h
      refine g_iconst (v := (0 : Int32)) O dX12_mostDug_23 rfl ?_
      refine g_goto O dX12_mostDug_24 rfl ?_
      exact t_X12_mostDug_33 O R0 N hn a0 x1 x2 v6 (0 : Int32) σ o h K
    · replace h := (if_neg c8).symm.trans h
      refine g_aload_n O dX12_mostDug_27 rfl 0 rfl ?_
      obtain ⟨v9, e10, h⟩ := bo_some h
      refine g_getR O dX12_mostDug_28 fl_X12_67 rfl e10 ?_
      refine g_iload_n O dX12_mostDug_31 rfl 1 rfl ?_
      obtain ⟨v11, e12, h⟩ := bo_some h
      refine g_iaload O dX12_mostDug_32 e12 ?_
      exact t_X12_mostDug_33 O R0 N hn a0 x1 x2 v6 v11 σ o h K
def f_X12_mostDug (a0 : Nat) (σ : Dt) : Option Int32 := bo (iter FU (fun s => f_X12_mostDug_L4 a0 s.1 s.2 σ) ((-1 : Int32), (0 : Int32))) fun w1 => some w1
theorem t_X12_mostDug {M : Mx} {l0 : Launch} (O : Ok M cX12_mostDug yX12_mostDug) (R0 : Rm M l0 2 80 0 0) (N : Ma M = false) (hn : Mn M = 3) (a0 : Nat) (σ : Dt) (o : Int32) (h : f_X12_mostDug a0 σ = some o) (K : Fin' M (some .int) 0 0 SM σ (some (vI o))) : G M 0 0 0 [(0, vA (some a0))] [] SM σ := by
  unfold f_X12_mostDug at h
  refine g_iconst (v := (-1 : Int32)) O dX12_mostDug_0 rfl ?_
  refine g_istore_n (lv' := [(1, vI (-1 : Int32)), (0, vA (some a0))]) O dX12_mostDug_1 rfl 3 hn (by decide) rfl ?_
  refine g_iconst (v := (0 : Int32)) O dX12_mostDug_2 rfl ?_
  refine g_istore_n (lv' := [(2, vI (0 : Int32)), (1, vI (-1 : Int32)), (0, vA (some a0))]) O dX12_mostDug_3 rfl 3 hn (by decide) rfl ?_
  refine g_sub [2, 1, 0] (lv' := [(0, vA (some a0)), (1, vI (-1 : Int32)), (2, vI (0 : Int32))]) rfl ?_
  obtain ⟨w1, e2, h⟩ := bo_some h
  refine iter_G (P := P_X12_mostDug_4 M a0 σ) (E := E_X12_mostDug_4 M a0 σ) (fun s o hb hk => t_X12_mostDug_L4 O R0 N hn a0 s.1 s.2 σ o hb hk) FU ((-1 : Int32), (0 : Int32)) w1 e2 ?_
  show G M 0 0 44 [(1, vI w1)] [] SM σ
  refine g_iload_n O dX12_mostDug_44 rfl 0 rfl ?_
  cases h
  exact g_ireturn O K dX12_mostDug_45
theorem c_X12_mostDug (l0 : Launch) (a0 : Nat) (σ : Dt) (r : Int32) (h : f_X12_mostDug a0 σ = some r) : Ctr l0 yX12_mostDug cX12_mostDug 3 (some .int) false 2 80 0 0 [vA (some a0)] SM σ SM σ (some (vI r)) := ctr_of (by decide) (Nat.le_of_ble_eq_true rfl) (fun M O F R0 N hn => t_X12_mostDug O R0 N hn a0 σ r h F)
