def P_X12_housesOf_7 (M : Mx) (a0 : Nat) (x1 : Int32) (σ : Dt) (s : (Int32 × Int32 × Int32)) : Prop := G M 0 0 7 [(0, vA (some a0)), (1, vI x1), (2, vI s.1), (3, vI s.2.1), (4, vI s.2.2)] [] SM σ
def E_X12_housesOf_7 (M : Mx) (a0 : Nat) (x1 : Int32) (σ : Dt) : (Int32 × Int32) → Prop := (fun w => G M 0 0 69 [(1, vI x1), (2, vI w.1), (3, vI w.2)] [] SM σ)
def f_X12_housesOf_62 (a0 : Nat) (x1 : Int32) (x2 : Int32) (x4 : Int32) (k0 : Int32) (σ : Dt) : Option ((Int32 × Int32 × Int32) ⊕ (Int32 × Int32)) := some (.inl (x2, k0, (x4 + (1 : Int32))))
theorem t_X12_housesOf_62 {M : Mx} {l0 : Launch} (O : Ok M cX12_housesOf yX12_housesOf) (R0 : Rm M l0 5 147 0 0) (N : Ma M = false) (hn : Mn M = 6)  (a0 : Nat) (x1 : Int32) (x2 : Int32) (x4 : Int32) (k0 : Int32) (σ : Dt) (o : ((Int32 × Int32 × Int32) ⊕ (Int32 × Int32))) (h : f_X12_housesOf_62 a0 x1 x2 x4 k0 σ = some o) (K : kon (P_X12_housesOf_7 M a0 x1 σ) (E_X12_housesOf_7 M a0 x1 σ) o) : G M 0 0 62 [(0, vA (some a0)), (1, vI x1), (2, vI x2), (4, vI x4)] [vI k0] SM σ := by
  unfold f_X12_housesOf_62 at h
  refine g_istore_n (lv' := [(3, vI k0), (0, vA (some a0)), (1, vI x1), (2, vI x2), (4, vI x4)]) O dX12_housesOf_62 rfl 6 hn (by decide) rfl ?_
  refine g_iinc (v := (x4 + (1 : Int32))) (lv' := [(4, vI (x4 + (1 : Int32))), (3, vI k0), (0, vA (some a0)), (1, vI x1), (2, vI x2)]) O dX12_housesOf_63 6 hn (by decide) 4 rfl rfl rfl ?_
  refine g_goto O dX12_housesOf_66 rfl ?_
  refine g_sub [2, 3, 4, 1, 0] (lv' := [(0, vA (some a0)), (1, vI x1), (2, vI x2), (3, vI k0), (4, vI (x4 + (1 : Int32)))]) rfl ?_
  cases h
  exact K
def f_X12_housesOf_42 (a0 : Nat) (x1 : Int32) (x3 : Int32) (x4 : Int32) (x5 : Int32) (k0 : Int32) (k1 : Int32) (σ : Dt) : Option ((Int32 × Int32 × Int32) ⊕ (Int32 × Int32)) := bo (f_X12_bitsOf x5 σ) fun v1 => if v1 ≤ x3 then f_X12_housesOf_62 a0 x1 (k0 + k1) x4 x3 σ else bo (f_X12_bitsOf x5 σ) fun v4 => f_X12_housesOf_62 a0 x1 (k0 + k1) x4 v4 σ
theorem t_X12_housesOf_42 {M : Mx} {l0 : Launch} (O : Ok M cX12_housesOf yX12_housesOf) (R0 : Rm M l0 5 147 0 0) (N : Ma M = false) (hn : Mn M = 6)  (a0 : Nat) (x1 : Int32) (x3 : Int32) (x4 : Int32) (x5 : Int32) (k0 : Int32) (k1 : Int32) (σ : Dt) (o : ((Int32 × Int32 × Int32) ⊕ (Int32 × Int32))) (h : f_X12_housesOf_42 a0 x1 x3 x4 x5 k0 k1 σ = some o) (K : kon (P_X12_housesOf_7 M a0 x1 σ) (E_X12_housesOf_7 M a0 x1 σ) o) : G M 0 0 42 [(0, vA (some a0)), (1, vI x1), (3, vI x3), (4, vI x4), (5, vI x5)] [vI k1, vI k0] SM σ := by
  unfold f_X12_housesOf_42 at h
  refine g_iadd O dX12_housesOf_42 ?_
  refine g_istore_n (lv' := [(2, vI (k0 + k1)), (0, vA (some a0)), (1, vI x1), (3, vI x3), (4, vI x4), (5, vI x5)]) O dX12_housesOf_43 rfl 6 hn (by decide) rfl ?_
  refine g_iload O dX12_housesOf_44 5 rfl ?_
  obtain ⟨v1, e2, h⟩ := bo_some h
  refine g_cS1 O R0 N dX12_housesOf_46 vl_X12_183 w1701 [vI x5] rfl rfl rfl ⟨Nat.le_of_ble_eq_true rfl, Nat.le_of_ble_eq_true rfl⟩ (c_X12_bitsOf l0 x5 σ v1 e2) ?_
  refine g_iload_n O dX12_housesOf_49 rfl 3 rfl ?_
  refine g_icmp_le O dX12_housesOf_50 rfl (fun c3 => ?_) (fun c3 => ?_)
  · replace h := (if_pos c3).symm.trans h
    refine g_iload_n O dX12_housesOf_61 rfl 3 rfl ?_
    refine g_sub [1, 2, 0, 4] (lv' := [(0, vA (some a0)), (1, vI x1), (2, vI (k0 + k1)), (4, vI x4)]) rfl ?_
    exact t_X12_housesOf_62 O R0 N hn a0 x1 (k0 + k1) x4 x3 σ o h K
  · replace h := (if_neg c3).symm.trans h
    refine g_iload O dX12_housesOf_53 5 rfl ?_
    obtain ⟨v4, e5, h⟩ := bo_some h
    refine g_cS1 O R0 N dX12_housesOf_55 vl_X12_183 w1701 [vI x5] rfl rfl rfl ⟨Nat.le_of_ble_eq_true rfl, Nat.le_of_ble_eq_true rfl⟩ (c_X12_bitsOf l0 x5 σ v4 e5) ?_
    refine g_goto O dX12_housesOf_58 rfl ?_
    refine g_sub [1, 2, 0, 4] (lv' := [(0, vA (some a0)), (1, vI x1), (2, vI (k0 + k1)), (4, vI x4)]) rfl ?_
    exact t_X12_housesOf_62 O R0 N hn a0 x1 (k0 + k1) x4 v4 σ o h K
def f_X12_housesOf_L7 (a0 : Nat) (x1 : Int32) (x2 : Int32) (x3 : Int32) (x4 : Int32) (σ : Dt) : Option ((Int32 × Int32 × Int32) ⊕ (Int32 × Int32)) := bo (xgi SM 12 12 (some a0) σ) fun v1 => if v1 ≤ x4 then some (.inr (x2, x3)) else bo (xrc SM 12 (some a0)) fun a4 => bo (f_X12_houseOf a4 x4 σ) fun v6 => if (v6 &&& (((1 : Int32) <<< (x4 &&& 31)) - (1 : Int32))) = 0 then f_X12_housesOf_42 a0 x1 x3 x4 v6 x2 (1 : Int32) σ else f_X12_housesOf_42 a0 x1 x3 x4 v6 x2 (0 : Int32) σ
theorem t_X12_housesOf_L7 {M : Mx} {l0 : Launch} (O : Ok M cX12_housesOf yX12_housesOf) (R0 : Rm M l0 5 147 0 0) (N : Ma M = false) (hn : Mn M = 6) (a0 : Nat) (x1 : Int32) (x2 : Int32) (x3 : Int32) (x4 : Int32) (σ : Dt) (o : ((Int32 × Int32 × Int32) ⊕ (Int32 × Int32))) (h : f_X12_housesOf_L7 a0 x1 x2 x3 x4 σ = some o) (K : kon (P_X12_housesOf_7 M a0 x1 σ) (E_X12_housesOf_7 M a0 x1 σ) o) : G M 0 0 7 [(0, vA (some a0)), (1, vI x1), (2, vI x2), (3, vI x3), (4, vI x4)] [] SM σ := by
  unfold f_X12_housesOf_L7 at h
  refine g_iload O dX12_housesOf_7 4 rfl ?_
  refine g_aload_n O dX12_housesOf_9 rfl 0 rfl ?_
  obtain ⟨v1, e2, h⟩ := bo_some h
  refine g_getI O dX12_housesOf_10 fl_X12_211 rfl e2 ?_
  refine g_icmp_ge O dX12_housesOf_13 rfl (fun c3 => ?_) (fun c3 => ?_)
  · replace h := (if_pos c3).symm.trans h
    refine g_sub [1, 2, 3] (lv' := [(1, vI x1), (2, vI x2), (3, vI x3)]) rfl ?_
    cases h
    exact K
  · replace h := (if_neg c3).symm.trans h
    refine g_aload_n O dX12_housesOf_16 rfl 0 rfl ?_
    refine g_iload O dX12_housesOf_17 4 rfl ?_
    obtain ⟨a4, e5, h⟩ := bo_some h
    obtain ⟨v6, e7, h⟩ := bo_some h
    refine g_cV1 O R0 N dX12_housesOf_19 vl_X12_343 vv_X12_houseOf e5 [vI x4] rfl rfl rfl ⟨Nat.le_of_ble_eq_true rfl, Nat.le_of_ble_eq_true rfl⟩ (c_X12_houseOf l0 a4 x4 σ v6 e7) ?_
    refine g_istore (lv' := [(5, vI v6), (0, vA (some a0)), (1, vI x1), (2, vI x2), (3, vI x3), (4, vI x4)]) O dX12_housesOf_22 6 hn (by decide) rfl ?_
    refine g_iload_n O dX12_housesOf_24 rfl 3 rfl ?_
    refine g_iload O dX12_housesOf_25 0 rfl ?_
    refine g_iconst (v := (1 : Int32)) O dX12_housesOf_27 rfl ?_
    refine g_iload O dX12_housesOf_28 5 rfl ?_
    refine g_ishl O dX12_housesOf_30 ?_
    refine g_iconst (v := (1 : Int32)) O dX12_housesOf_31 rfl ?_
    refine g_isub O dX12_housesOf_32 ?_
    refine g_iand O dX12_housesOf_33 ?_
    refine g_if_ne O dX12_housesOf_34 rfl (fun c8 => ?_) (fun c8 => ?_)
    · replace h := (if_pos c8).symm.trans h
      refine g_iconst (v := (1 : Int32)) O dX12_housesOf_37 rfl ?_
      refine g_goto O dX12_housesOf_38 rfl ?_
      refine g_sub [1, 2, 4, 5, 0] (lv' := [(0, vA (some a0)), (1, vI x1), (3, vI x3), (4, vI x4), (5, vI v6)]) rfl ?_
      exact t_X12_housesOf_42 O R0 N hn a0 x1 x3 x4 v6 x2 (1 : Int32) σ o h K
    · replace h := (if_neg c8).symm.trans h
      refine g_iconst (v := (0 : Int32)) O dX12_housesOf_41 rfl ?_
      refine g_sub [1, 2, 4, 5, 0] (lv' := [(0, vA (some a0)), (1, vI x1), (3, vI x3), (4, vI x4), (5, vI v6)]) rfl ?_
      exact t_X12_housesOf_42 O R0 N hn a0 x1 x3 x4 v6 x2 (0 : Int32) σ o h K
def f_X12_housesOf (a0 : Nat) (x1 : Int32) (σ : Dt) : Option Int32 := bo (iter FU (fun s => f_X12_housesOf_L7 a0 x1 s.1 s.2.1 s.2.2 σ) ((0 : Int32), (0 : Int32), (0 : Int32))) fun w1 => if x1 = 0 then some w1.1 else some w1.2
theorem t_X12_housesOf {M : Mx} {l0 : Launch} (O : Ok M cX12_housesOf yX12_housesOf) (R0 : Rm M l0 5 147 0 0) (N : Ma M = false) (hn : Mn M = 6) (a0 : Nat) (x1 : Int32) (σ : Dt) (o : Int32) (h : f_X12_housesOf a0 x1 σ = some o) (K : Fin' M (some .int) 0 0 SM σ (some (vI o))) : G M 0 0 0 [(0, vA (some a0)), (1, vI x1)] [] SM σ := by
  unfold f_X12_housesOf at h
  refine g_iconst (v := (0 : Int32)) O dX12_housesOf_0 rfl ?_
  refine g_istore_n (lv' := [(2, vI (0 : Int32)), (0, vA (some a0)), (1, vI x1)]) O dX12_housesOf_1 rfl 6 hn (by decide) rfl ?_
  refine g_iconst (v := (0 : Int32)) O dX12_housesOf_2 rfl ?_
  refine g_istore_n (lv' := [(3, vI (0 : Int32)), (2, vI (0 : Int32)), (0, vA (some a0)), (1, vI x1)]) O dX12_housesOf_3 rfl 6 hn (by decide) rfl ?_
  refine g_iconst (v := (0 : Int32)) O dX12_housesOf_4 rfl ?_
  refine g_istore (lv' := [(4, vI (0 : Int32)), (3, vI (0 : Int32)), (2, vI (0 : Int32)), (0, vA (some a0)), (1, vI x1)]) O dX12_housesOf_5 6 hn (by decide) rfl ?_
  refine g_sub [3, 4, 2, 1, 0] (lv' := [(0, vA (some a0)), (1, vI x1), (2, vI (0 : Int32)), (3, vI (0 : Int32)), (4, vI (0 : Int32))]) rfl ?_
  obtain ⟨w1, e2, h⟩ := bo_some h
  refine iter_G (P := P_X12_housesOf_7 M a0 x1 σ) (E := E_X12_housesOf_7 M a0 x1 σ) (fun s o hb hk => t_X12_housesOf_L7 O R0 N hn a0 x1 s.1 s.2.1 s.2.2 σ o hb hk) FU ((0 : Int32), (0 : Int32), (0 : Int32)) w1 e2 ?_
  show G M 0 0 69 [(1, vI x1), (2, vI w1.1), (3, vI w1.2)] [] SM σ
  refine g_iload_n O dX12_housesOf_69 rfl 0 rfl ?_
  refine g_if_eq O dX12_housesOf_70 rfl (fun c3 => ?_) (fun c3 => ?_)
  · replace h := (if_pos c3).symm.trans h
    refine g_iload_n O dX12_housesOf_77 rfl 1 rfl ?_
    cases h
    exact g_ireturn O K dX12_housesOf_78
  · replace h := (if_neg c3).symm.trans h
    refine g_iload_n O dX12_housesOf_73 rfl 2 rfl ?_
    refine g_goto O dX12_housesOf_74 rfl ?_
    cases h
    exact g_ireturn O K dX12_housesOf_78
theorem c_X12_housesOf (l0 : Launch) (a0 : Nat) (x1 : Int32) (σ : Dt) (r : Int32) (h : f_X12_housesOf a0 x1 σ = some r) : Ctr l0 yX12_housesOf cX12_housesOf 6 (some .int) false 5 147 0 0 [vA (some a0), vI x1] SM σ SM σ (some (vI r)) := ctr_of (by decide) (Nat.le_of_ble_eq_true rfl) (fun M O F R0 N hn => t_X12_housesOf O R0 N hn a0 x1 σ r h F)
def P_X12_rootsOf_4 (M : Mx) (a0 : Nat) (x1 : Int32) (σ : Dt) (s : (Int32 × Int32)) : Prop := G M 0 0 4 [(0, vA (some a0)), (1, vI x1), (2, vI s.1), (3, vI s.2)] [] SM σ
def E_X12_rootsOf_4 (M : Mx) (a0 : Nat) (x1 : Int32) (σ : Dt) : Int32 → Prop := (fun w => G M 0 0 59 [(2, vI w)] [] SM σ)
def f_X12_rootsOf_51 (a0 : Nat) (x1 : Int32) (x3 : Int32) (k0 : Int32) (k1 : Int32) (σ : Dt) : Option ((Int32 × Int32) ⊕ Int32) := some (.inl ((k0 ||| k1), (x3 + (1 : Int32))))
theorem t_X12_rootsOf_51 {M : Mx} {l0 : Launch} (O : Ok M cX12_rootsOf yX12_rootsOf) (R0 : Rm M l0 4 122 0 0) (N : Ma M = false) (hn : Mn M = 4)  (a0 : Nat) (x1 : Int32) (x3 : Int32) (k0 : Int32) (k1 : Int32) (σ : Dt) (o : ((Int32 × Int32) ⊕ Int32)) (h : f_X12_rootsOf_51 a0 x1 x3 k0 k1 σ = some o) (K : kon (P_X12_rootsOf_4 M a0 x1 σ) (E_X12_rootsOf_4 M a0 x1 σ) o) : G M 0 0 51 [(0, vA (some a0)), (1, vI x1), (3, vI x3)] [vI k1, vI k0] SM σ := by
  unfold f_X12_rootsOf_51 at h
  refine g_ior O dX12_rootsOf_51 ?_
  refine g_istore_n (lv' := [(2, vI (k0 ||| k1)), (0, vA (some a0)), (1, vI x1), (3, vI x3)]) O dX12_rootsOf_52 rfl 4 hn (by decide) rfl ?_
  refine g_iinc (v := (x3 + (1 : Int32))) (lv' := [(3, vI (x3 + (1 : Int32))), (2, vI (k0 ||| k1)), (0, vA (some a0)), (1, vI x1)]) O dX12_rootsOf_53 4 hn (by decide) 3 rfl rfl rfl ?_
  refine g_goto O dX12_rootsOf_56 rfl ?_
  refine g_sub [2, 3, 1, 0] (lv' := [(0, vA (some a0)), (1, vI x1), (2, vI (k0 ||| k1)), (3, vI (x3 + (1 : Int32)))]) rfl ?_
  cases h
  exact K
def f_X12_rootsOf_50 (a0 : Nat) (x1 : Int32) (x3 : Int32) (k0 : Int32) (σ : Dt) : Option ((Int32 × Int32) ⊕ Int32) := f_X12_rootsOf_51 a0 x1 x3 k0 (0 : Int32) σ
theorem t_X12_rootsOf_50 {M : Mx} {l0 : Launch} (O : Ok M cX12_rootsOf yX12_rootsOf) (R0 : Rm M l0 4 122 0 0) (N : Ma M = false) (hn : Mn M = 4)  (a0 : Nat) (x1 : Int32) (x3 : Int32) (k0 : Int32) (σ : Dt) (o : ((Int32 × Int32) ⊕ Int32)) (h : f_X12_rootsOf_50 a0 x1 x3 k0 σ = some o) (K : kon (P_X12_rootsOf_4 M a0 x1 σ) (E_X12_rootsOf_4 M a0 x1 σ) o) : G M 0 0 50 [(0, vA (some a0)), (1, vI x1), (3, vI x3)] [vI k0] SM σ := by
  unfold f_X12_rootsOf_50 at h
  refine g_iconst (v := (0 : Int32)) O dX12_rootsOf_50 rfl ?_
  exact t_X12_rootsOf_51 O R0 N hn a0 x1 x3 k0 (0 : Int32) σ o h K
def f_X12_rootsOf_44 (a0 : Nat) (x1 : Int32) (x3 : Int32) (k0 : Int32) (σ : Dt) : Option ((Int32 × Int32) ⊕ Int32) := f_X12_rootsOf_51 a0 x1 x3 k0 ((1 : Int32) <<< (x3 &&& 31)) σ
theorem t_X12_rootsOf_44 {M : Mx} {l0 : Launch} (O : Ok M cX12_rootsOf yX12_rootsOf) (R0 : Rm M l0 4 122 0 0) (N : Ma M = false) (hn : Mn M = 4)  (a0 : Nat) (x1 : Int32) (x3 : Int32) (k0 : Int32) (σ : Dt) (o : ((Int32 × Int32) ⊕ Int32)) (h : f_X12_rootsOf_44 a0 x1 x3 k0 σ = some o) (K : kon (P_X12_rootsOf_4 M a0 x1 σ) (E_X12_rootsOf_4 M a0 x1 σ) o) : G M 0 0 44 [(0, vA (some a0)), (1, vI x1), (3, vI x3)] [vI k0] SM σ := by
  unfold f_X12_rootsOf_44 at h
  refine g_iconst (v := (1 : Int32)) O dX12_rootsOf_44 rfl ?_
  refine g_iload_n O dX12_rootsOf_45 rfl 2 rfl ?_
  refine g_ishl O dX12_rootsOf_46 ?_
  refine g_goto O dX12_rootsOf_47 rfl ?_
  exact t_X12_rootsOf_51 O R0 N hn a0 x1 x3 k0 ((1 : Int32) <<< (x3 &&& 31)) σ o h K
def f_X12_rootsOf_L4 (a0 : Nat) (x1 : Int32) (x2 : Int32) (x3 : Int32) (σ : Dt) : Option ((Int32 × Int32) ⊕ Int32) := bo (xgi SM 12 12 (some a0) σ) fun v1 => if v1 ≤ x3 then some (.inr x2) else if x1 = 0 then bo (xrc SM 12 (some a0)) fun a5 => bo (f_X12_parentsOf a5 x3 σ) fun v7 => if v7 = 0 then f_X12_rootsOf_44 a0 x1 x3 x2 σ else f_X12_rootsOf_50 a0 x1 x3 x2 σ else bo (xrc SM 12 (some a0)) fun a10 => bo (f_X12_isSmall a10 x3 σ) fun v12 => if v12 = 0 then f_X12_rootsOf_50 a0 x1 x3 x2 σ else bo (xrc SM 12 (some a0)) fun a15 => bo (f_X12_elderOf a15 x3 σ) fun v17 => if v17 = 0 then f_X12_rootsOf_44 a0 x1 x3 x2 σ else f_X12_rootsOf_50 a0 x1 x3 x2 σ
theorem t_X12_rootsOf_L4 {M : Mx} {l0 : Launch} (O : Ok M cX12_rootsOf yX12_rootsOf) (R0 : Rm M l0 4 122 0 0) (N : Ma M = false) (hn : Mn M = 4) (a0 : Nat) (x1 : Int32) (x2 : Int32) (x3 : Int32) (σ : Dt) (o : ((Int32 × Int32) ⊕ Int32)) (h : f_X12_rootsOf_L4 a0 x1 x2 x3 σ = some o) (K : kon (P_X12_rootsOf_4 M a0 x1 σ) (E_X12_rootsOf_4 M a0 x1 σ) o) : G M 0 0 4 [(0, vA (some a0)), (1, vI x1), (2, vI x2), (3, vI x3)] [] SM σ := by
  unfold f_X12_rootsOf_L4 at h
  refine g_iload_n O dX12_rootsOf_4 rfl 3 rfl ?_
  refine g_aload_n O dX12_rootsOf_5 rfl 0 rfl ?_
  obtain ⟨v1, e2, h⟩ := bo_some h
  refine g_getI O dX12_rootsOf_6 fl_X12_211 rfl e2 ?_
  refine g_icmp_ge O dX12_rootsOf_9 rfl (fun c3 => ?_) (fun c3 => ?_)
  · replace h := (if_pos c3).symm.trans h
    refine g_sub [2] (lv' := [(2, vI x2)]) rfl ?_
    cases h
    exact K
  · replace h := (if_neg c3).symm.trans h
    refine g_iload_n O dX12_rootsOf_12 rfl 2 rfl ?_
    refine g_iload_n O dX12_rootsOf_13 rfl 1 rfl ?_
    refine g_if_eq O dX12_rootsOf_14 rfl (fun c4 => ?_) (fun c4 => ?_)
    · replace h := (if_pos c4).symm.trans h
      refine g_aload_n O dX12_rootsOf_36 rfl 0 rfl ?_
      refine g_iload_n O dX12_rootsOf_37 rfl 3 rfl ?_
      obtain ⟨a5, e6, h⟩ := bo_some h
      obtain ⟨v7, e8, h⟩ := bo_some h
      refine g_cV1 O R0 N dX12_rootsOf_38 vl_X12_319 vv_X12_parentsOf e6 [vI x3] rfl rfl rfl ⟨Nat.le_of_ble_eq_true rfl, Nat.le_of_ble_eq_true rfl⟩ (c_X12_parentsOf l0 a5 x3 σ v7 e8) ?_
      refine g_if_ne O dX12_rootsOf_41 rfl (fun c9 => ?_) (fun c9 => ?_)
      · replace h := (if_pos c9).symm.trans h
        refine g_sub [0, 1, 3] (lv' := [(0, vA (some a0)), (1, vI x1), (3, vI x3)]) rfl ?_
        exact t_X12_rootsOf_44 O R0 N hn a0 x1 x3 x2 σ o h K
      · replace h := (if_neg c9).symm.trans h
        refine g_sub [0, 1, 3] (lv' := [(0, vA (some a0)), (1, vI x1), (3, vI x3)]) rfl ?_
        exact t_X12_rootsOf_50 O R0 N hn a0 x1 x3 x2 σ o h K
    · replace h := (if_neg c4).symm.trans h
      refine g_aload_n O dX12_rootsOf_17 rfl 0 rfl ?_
      refine g_iload_n O dX12_rootsOf_18 rfl 3 rfl ?_
      obtain ⟨a10, e11, h⟩ := bo_some h
      obtain ⟨v12, e13, h⟩ := bo_some h
      refine g_cV1 O R0 N dX12_rootsOf_19 vl_X12_241 vv_X12_isSmall e11 [vI x3] rfl rfl rfl ⟨Nat.le_of_ble_eq_true rfl, Nat.le_of_ble_eq_true rfl⟩ (c_X12_isSmall l0 a10 x3 σ v12 e13) ?_
      refine g_if_eq O dX12_rootsOf_22 rfl (fun c14 => ?_) (fun c14 => ?_)
      · replace h := (if_pos c14).symm.trans h
        refine g_sub [0, 1, 3] (lv' := [(0, vA (some a0)), (1, vI x1), (3, vI x3)]) rfl ?_
        exact t_X12_rootsOf_50 O R0 N hn a0 x1 x3 x2 σ o h K
      · replace h := (if_neg c14).symm.trans h
        refine g_aload_n O dX12_rootsOf_25 rfl 0 rfl ?_
        refine g_iload_n O dX12_rootsOf_26 rfl 3 rfl ?_
        obtain ⟨a15, e16, h⟩ := bo_some h
        obtain ⟨v17, e18, h⟩ := bo_some h
        refine g_cV1 O R0 N dX12_rootsOf_27 vl_X12_244 vv_X12_elderOf e16 [vI x3] rfl rfl rfl ⟨Nat.le_of_ble_eq_true rfl, Nat.le_of_ble_eq_true rfl⟩ (c_X12_elderOf l0 a15 x3 σ v17 e18) ?_
        refine g_if_ne O dX12_rootsOf_30 rfl (fun c19 => ?_) (fun c19 => ?_)
        · replace h := (if_pos c19).symm.trans h
          refine g_goto O dX12_rootsOf_33 rfl ?_
          refine g_sub [0, 1, 3] (lv' := [(0, vA (some a0)), (1, vI x1), (3, vI x3)]) rfl ?_
          exact t_X12_rootsOf_44 O R0 N hn a0 x1 x3 x2 σ o h K
        · replace h := (if_neg c19).symm.trans h
          refine g_sub [0, 1, 3] (lv' := [(0, vA (some a0)), (1, vI x1), (3, vI x3)]) rfl ?_
          exact t_X12_rootsOf_50 O R0 N hn a0 x1 x3 x2 σ o h K
def f_X12_rootsOf (a0 : Nat) (x1 : Int32) (σ : Dt) : Option Int32 := bo (iter FU (fun s => f_X12_rootsOf_L4 a0 x1 s.1 s.2 σ) ((0 : Int32), (0 : Int32))) fun w1 => some w1
theorem t_X12_rootsOf {M : Mx} {l0 : Launch} (O : Ok M cX12_rootsOf yX12_rootsOf) (R0 : Rm M l0 4 122 0 0) (N : Ma M = false) (hn : Mn M = 4) (a0 : Nat) (x1 : Int32) (σ : Dt) (o : Int32) (h : f_X12_rootsOf a0 x1 σ = some o) (K : Fin' M (some .int) 0 0 SM σ (some (vI o))) : G M 0 0 0 [(0, vA (some a0)), (1, vI x1)] [] SM σ := by
  unfold f_X12_rootsOf at h
  refine g_iconst (v := (0 : Int32)) O dX12_rootsOf_0 rfl ?_
  refine g_istore_n (lv' := [(2, vI (0 : Int32)), (0, vA (some a0)), (1, vI x1)]) O dX12_rootsOf_1 rfl 4 hn (by decide) rfl ?_
  refine g_iconst (v := (0 : Int32)) O dX12_rootsOf_2 rfl ?_
  refine g_istore_n (lv' := [(3, vI (0 : Int32)), (2, vI (0 : Int32)), (0, vA (some a0)), (1, vI x1)]) O dX12_rootsOf_3 rfl 4 hn (by decide) rfl ?_
  refine g_sub [2, 3, 1, 0] (lv' := [(0, vA (some a0)), (1, vI x1), (2, vI (0 : Int32)), (3, vI (0 : Int32))]) rfl ?_
  obtain ⟨w1, e2, h⟩ := bo_some h
  refine iter_G (P := P_X12_rootsOf_4 M a0 x1 σ) (E := E_X12_rootsOf_4 M a0 x1 σ) (fun s o hb hk => t_X12_rootsOf_L4 O R0 N hn a0 x1 s.1 s.2 σ o hb hk) FU ((0 : Int32), (0 : Int32)) w1 e2 ?_
  show G M 0 0 59 [(2, vI w1)] [] SM σ
  refine g_iload_n O dX12_rootsOf_59 rfl 0 rfl ?_
  cases h
  exact g_ireturn O K dX12_rootsOf_60
theorem c_X12_rootsOf (l0 : Launch) (a0 : Nat) (x1 : Int32) (σ : Dt) (r : Int32) (h : f_X12_rootsOf a0 x1 σ = some r) : Ctr l0 yX12_rootsOf cX12_rootsOf 4 (some .int) false 4 122 0 0 [vA (some a0), vI x1] SM σ SM σ (some (vI r)) := ctr_of (by decide) (Nat.le_of_ble_eq_true rfl) (fun M O F R0 N hn => t_X12_rootsOf O R0 N hn a0 x1 σ r h F)
def P_X12_cousinsOf_14 (M : Mx) (a0 : Nat) (x2 : Int32) (σ : Dt) (s : (Int32 × Int32)) : Prop := G M 0 0 14 [(0, vA (some a0)), (1, vI s.1), (2, vI x2), (3, vI s.2)] [] SM σ
def E_X12_cousinsOf_14 (M : Mx) (a0 : Nat) (x2 : Int32) (σ : Dt) : Int32 → Prop := (fun w => G M 0 0 61 [(0, vA (some a0)), (1, vI w), (2, vI x2)] [] SM σ)
def f_X12_cousinsOf_53 (a0 : Nat) (x2 : Int32) (x3 : Int32) (k0 : Int32) (k1 : Int32) (σ : Dt) : Option ((Int32 × Int32) ⊕ Int32) := some (.inl ((k0 + k1), (x3 + (1 : Int32))))
theorem t_X12_cousinsOf_53 {M : Mx} {l0 : Launch} (O : Ok M cX12_cousinsOf yX12_cousinsOf) (R0 : Rm M l0 3 101 0 0) (N : Ma M = false) (hn : Mn M = 4)  (a0 : Nat) (x2 : Int32) (x3 : Int32) (k0 : Int32) (k1 : Int32) (σ : Dt) (o : ((Int32 × Int32) ⊕ Int32)) (h : f_X12_cousinsOf_53 a0 x2 x3 k0 k1 σ = some o) (K : kon (P_X12_cousinsOf_14 M a0 x2 σ) (E_X12_cousinsOf_14 M a0 x2 σ) o) : G M 0 0 53 [(0, vA (some a0)), (2, vI x2), (3, vI x3)] [vI k1, vI k0] SM σ := by
  unfold f_X12_cousinsOf_53 at h
  refine g_iadd O dX12_cousinsOf_53 ?_
  refine g_istore_n (lv' := [(1, vI (k0 + k1)), (0, vA (some a0)), (2, vI x2), (3, vI x3)]) O dX12_cousinsOf_54 rfl 4 hn (by decide) rfl ?_
  refine g_iinc (v := (x3 + (1 : Int32))) (lv' := [(3, vI (x3 + (1 : Int32))), (1, vI (k0 + k1)), (0, vA (some a0)), (2, vI x2)]) O dX12_cousinsOf_55 4 hn (by decide) 3 rfl rfl rfl ?_
  refine g_goto O dX12_cousinsOf_58 rfl ?_
  refine g_sub [2, 1, 3, 0] (lv' := [(0, vA (some a0)), (1, vI (k0 + k1)), (2, vI x2), (3, vI (x3 + (1 : Int32)))]) rfl ?_
  cases h
  exact K
def f_X12_cousinsOf_52 (a0 : Nat) (x2 : Int32) (x3 : Int32) (k0 : Int32) (σ : Dt) : Option ((Int32 × Int32) ⊕ Int32) := f_X12_cousinsOf_53 a0 x2 x3 k0 (0 : Int32) σ
theorem t_X12_cousinsOf_52 {M : Mx} {l0 : Launch} (O : Ok M cX12_cousinsOf yX12_cousinsOf) (R0 : Rm M l0 3 101 0 0) (N : Ma M = false) (hn : Mn M = 4)  (a0 : Nat) (x2 : Int32) (x3 : Int32) (k0 : Int32) (σ : Dt) (o : ((Int32 × Int32) ⊕ Int32)) (h : f_X12_cousinsOf_52 a0 x2 x3 k0 σ = some o) (K : kon (P_X12_cousinsOf_14 M a0 x2 σ) (E_X12_cousinsOf_14 M a0 x2 σ) o) : G M 0 0 52 [(0, vA (some a0)), (2, vI x2), (3, vI x3)] [vI k0] SM σ := by
  unfold f_X12_cousinsOf_52 at h
  refine g_iconst (v := (0 : Int32)) O dX12_cousinsOf_52 rfl ?_
  exact t_X12_cousinsOf_53 O R0 N hn a0 x2 x3 k0 (0 : Int32) σ o h K
def f_X12_cousinsOf_L14 (a0 : Nat) (x2 : Int32) (x1 : Int32) (x3 : Int32) (σ : Dt) : Option ((Int32 × Int32) ⊕ Int32) := if x2 ≤ x3 then some (.inr x1) else bo (xrc SM 12 (some a0)) fun a2 => bo (f_X12_elderOf a2 x2 σ) fun v4 => bo (xrc SM 12 (some a0)) fun a6 => bo (f_X12_elderOf a6 x3 σ) fun v8 => if (v4 &&& v8) = 0 then f_X12_cousinsOf_52 a0 x2 x3 x1 σ else bo (xrc SM 12 (some a0)) fun a11 => bo (f_X12_parentsOf a11 x2 σ) fun v13 => bo (xrc SM 12 (some a0)) fun a15 => bo (f_X12_parentsOf a15 x3 σ) fun v17 => if (v13 &&& v17) = 0 then f_X12_cousinsOf_53 a0 x2 x3 x1 (1 : Int32) σ else f_X12_cousinsOf_52 a0 x2 x3 x1 σ
theorem t_X12_cousinsOf_L14 {M : Mx} {l0 : Launch} (O : Ok M cX12_cousinsOf yX12_cousinsOf) (R0 : Rm M l0 3 101 0 0) (N : Ma M = false) (hn : Mn M = 4) (a0 : Nat) (x2 : Int32) (x1 : Int32) (x3 : Int32) (σ : Dt) (o : ((Int32 × Int32) ⊕ Int32)) (h : f_X12_cousinsOf_L14 a0 x2 x1 x3 σ = some o) (K : kon (P_X12_cousinsOf_14 M a0 x2 σ) (E_X12_cousinsOf_14 M a0 x2 σ) o) : G M 0 0 14 [(0, vA (some a0)), (1, vI x1), (2, vI x2), (3, vI x3)] [] SM σ := by
  unfold f_X12_cousinsOf_L14 at h
  refine g_iload_n O dX12_cousinsOf_14 rfl 3 rfl ?_
  refine g_iload_n O dX12_cousinsOf_15 rfl 2 rfl ?_
  refine g_icmp_ge O dX12_cousinsOf_16 rfl (fun c1 => ?_) (fun c1 => ?_)
  · replace h := (if_pos c1).symm.trans h
    refine g_sub [0, 1, 2] (lv' := [(0, vA (some a0)), (1, vI x1), (2, vI x2)]) rfl ?_
    cases h
    exact K
  · replace h := (if_neg c1).symm.trans h
    refine g_iload_n O dX12_cousinsOf_19 rfl 1 rfl ?_
    refine g_aload_n O dX12_cousinsOf_20 rfl 0 rfl ?_
    refine g_iload_n O dX12_cousinsOf_21 rfl 2 rfl ?_
    obtain ⟨a2, e3, h⟩ := bo_some h
    obtain ⟨v4, e5, h⟩ := bo_some h
    refine g_cV1 O R0 N dX12_cousinsOf_22 vl_X12_244 vv_X12_elderOf e3 [vI x2] rfl rfl rfl ⟨Nat.le_of_ble_eq_true rfl, Nat.le_of_ble_eq_true rfl⟩ (c_X12_elderOf l0 a2 x2 σ v4 e5) ?_
    refine g_aload_n O dX12_cousinsOf_25 rfl 0 rfl ?_
    refine g_iload_n O dX12_cousinsOf_26 rfl 3 rfl ?_
    obtain ⟨a6, e7, h⟩ := bo_some h
    obtain ⟨v8, e9, h⟩ := bo_some h
    refine g_cV1 O R0 N dX12_cousinsOf_27 vl_X12_244 vv_X12_elderOf e7 [vI x3] rfl rfl rfl ⟨Nat.le_of_ble_eq_true rfl, Nat.le_of_ble_eq_true rfl⟩ (c_X12_elderOf l0 a6 x3 σ v8 e9) ?_
    refine g_iand O dX12_cousinsOf_30 ?_
    refine g_if_eq O dX12_cousinsOf_31 rfl (fun c10 => ?_) (fun c10 => ?_)
    · replace h := (if_pos c10).symm.trans h
      refine g_sub [0, 2, 3] (lv' := [(0, vA (some a0)), (2, vI x2), (3, vI x3)]) rfl ?_
      exact t_X12_cousinsOf_52 O R0 N hn a0 x2 x3 x1 σ o h K
    · replace h := (if_neg c10).symm.trans h
      refine g_aload_n O dX12_cousinsOf_34 rfl 0 rfl ?_
      refine g_iload_n O dX12_cousinsOf_35 rfl 2 rfl ?_
      obtain ⟨a11, e12, h⟩ := bo_some h
      obtain ⟨v13, e14, h⟩ := bo_some h
      refine g_cV1 O R0 N dX12_cousinsOf_36 vl_X12_319 vv_X12_parentsOf e12 [vI x2] rfl rfl rfl ⟨Nat.le_of_ble_eq_true rfl, Nat.le_of_ble_eq_true rfl⟩ (c_X12_parentsOf l0 a11 x2 σ v13 e14) ?_
      refine g_aload_n O dX12_cousinsOf_39 rfl 0 rfl ?_
      refine g_iload_n O dX12_cousinsOf_40 rfl 3 rfl ?_
      obtain ⟨a15, e16, h⟩ := bo_some h
      obtain ⟨v17, e18, h⟩ := bo_some h
      refine g_cV1 O R0 N dX12_cousinsOf_41 vl_X12_319 vv_X12_parentsOf e16 [vI x3] rfl rfl rfl ⟨Nat.le_of_ble_eq_true rfl, Nat.le_of_ble_eq_true rfl⟩ (c_X12_parentsOf l0 a15 x3 σ v17 e18) ?_
      refine g_iand O dX12_cousinsOf_44 ?_
      refine g_if_ne O dX12_cousinsOf_45 rfl (fun c19 => ?_) (fun c19 => ?_)
      · replace h := (if_pos c19).symm.trans h
        refine g_iconst (v := (1 : Int32)) O dX12_cousinsOf_48 rfl ?_
        refine g_goto O dX12_cousinsOf_49 rfl ?_
        refine g_sub [0, 2, 3] (lv' := [(0, vA (some a0)), (2, vI x2), (3, vI x3)]) rfl ?_
        exact t_X12_cousinsOf_53 O R0 N hn a0 x2 x3 x1 (1 : Int32) σ o h K
      · replace h := (if_neg c19).symm.trans h
        refine g_sub [0, 2, 3] (lv' := [(0, vA (some a0)), (2, vI x2), (3, vI x3)]) rfl ?_
        exact t_X12_cousinsOf_52 O R0 N hn a0 x2 x3 x1 σ o h K
def P_X12_cousinsOf_4 (M : Mx) (a0 : Nat) (σ : Dt) (s : (Int32 × Int32)) : Prop := G M 0 0 4 [(0, vA (some a0)), (1, vI s.1), (2, vI s.2)] [] SM σ
def E_X12_cousinsOf_4 (M : Mx) (a0 : Nat) (σ : Dt) : Int32 → Prop := (fun w => G M 0 0 67 [(1, vI w)] [] SM σ)
def f_X12_cousinsOf_L4 (a0 : Nat) (x1 : Int32) (x2 : Int32) (σ : Dt) : Option ((Int32 × Int32) ⊕ Int32) := bo (xgi SM 12 12 (some a0) σ) fun v1 => if v1 ≤ x2 then some (.inr x1) else bo (iter FU (fun s => f_X12_cousinsOf_L14 a0 x2 s.1 s.2 σ) (x1, (0 : Int32))) fun w4 => some (.inl (w4, (x2 + (1 : Int32))))
theorem t_X12_cousinsOf_L4 {M : Mx} {l0 : Launch} (O : Ok M cX12_cousinsOf yX12_cousinsOf) (R0 : Rm M l0 3 101 0 0) (N : Ma M = false) (hn : Mn M = 4) (a0 : Nat) (x1 : Int32) (x2 : Int32) (σ : Dt) (o : ((Int32 × Int32) ⊕ Int32)) (h : f_X12_cousinsOf_L4 a0 x1 x2 σ = some o) (K : kon (P_X12_cousinsOf_4 M a0 σ) (E_X12_cousinsOf_4 M a0 σ) o) : G M 0 0 4 [(0, vA (some a0)), (1, vI x1), (2, vI x2)] [] SM σ := by
  unfold f_X12_cousinsOf_L4 at h
  refine g_iload_n O dX12_cousinsOf_4 rfl 2 rfl ?_
  refine g_aload_n O dX12_cousinsOf_5 rfl 0 rfl ?_
  obtain ⟨v1, e2, h⟩ := bo_some h
  refine g_getI O dX12_cousinsOf_6 fl_X12_211 rfl e2 ?_
  refine g_icmp_ge O dX12_cousinsOf_9 rfl (fun c3 => ?_) (fun c3 => ?_)
  · replace h := (if_pos c3).symm.trans h
    refine g_sub [1] (lv' := [(1, vI x1)]) rfl ?_
    cases h
    exact K
  · replace h := (if_neg c3).symm.trans h
    refine g_iconst (v := (0 : Int32)) O dX12_cousinsOf_12 rfl ?_
    refine g_istore_n (lv' := [(3, vI (0 : Int32)), (0, vA (some a0)), (1, vI x1), (2, vI x2)]) O dX12_cousinsOf_13 rfl 4 hn (by decide) rfl ?_
    refine g_sub [1, 2, 3, 0] (lv' := [(0, vA (some a0)), (1, vI x1), (2, vI x2), (3, vI (0 : Int32))]) rfl ?_
    obtain ⟨w4, e5, h⟩ := bo_some h
    refine iter_G (P := P_X12_cousinsOf_14 M a0 x2 σ) (E := E_X12_cousinsOf_14 M a0 x2 σ) (fun s o hb hk => t_X12_cousinsOf_L14 O R0 N hn a0 x2 s.1 s.2 σ o hb hk) FU (x1, (0 : Int32)) w4 e5 ?_
    show G M 0 0 61 [(0, vA (some a0)), (1, vI w4), (2, vI x2)] [] SM σ
    refine g_iinc (v := (x2 + (1 : Int32))) (lv' := [(2, vI (x2 + (1 : Int32))), (0, vA (some a0)), (1, vI w4)]) O dX12_cousinsOf_61 4 hn (by decide) 2 rfl rfl rfl ?_
    refine g_goto O dX12_cousinsOf_64 rfl ?_
    refine g_sub [1, 2, 0] (lv' := [(0, vA (some a0)), (1, vI w4), (2, vI (x2 + (1 : Int32)))]) rfl ?_
    cases h
    exact K
def f_X12_cousinsOf (a0 : Nat) (σ : Dt) : Option Int32 := bo (iter FU (fun s => f_X12_cousinsOf_L4 a0 s.1 s.2 σ) ((0 : Int32), (0 : Int32))) fun w1 => some w1
theorem t_X12_cousinsOf {M : Mx} {l0 : Launch} (O : Ok M cX12_cousinsOf yX12_cousinsOf) (R0 : Rm M l0 3 101 0 0) (N : Ma M = false) (hn : Mn M = 4) (a0 : Nat) (σ : Dt) (o : Int32) (h : f_X12_cousinsOf a0 σ = some o) (K : Fin' M (some .int) 0 0 SM σ (some (vI o))) : G M 0 0 0 [(0, vA (some a0))] [] SM σ := by
  unfold f_X12_cousinsOf at h
  refine g_iconst (v := (0 : Int32)) O dX12_cousinsOf_0 rfl ?_
  refine g_istore_n (lv' := [(1, vI (0 : Int32)), (0, vA (some a0))]) O dX12_cousinsOf_1 rfl 4 hn (by decide) rfl ?_
  refine g_iconst (v := (0 : Int32)) O dX12_cousinsOf_2 rfl ?_
  refine g_istore_n (lv' := [(2, vI (0 : Int32)), (1, vI (0 : Int32)), (0, vA (some a0))]) O dX12_cousinsOf_3 rfl 4 hn (by decide) rfl ?_
  refine g_sub [2, 1, 0] (lv' := [(0, vA (some a0)), (1, vI (0 : Int32)), (2, vI (0 : Int32))]) rfl ?_
  obtain ⟨w1, e2, h⟩ := bo_some h
  refine iter_G (P := P_X12_cousinsOf_4 M a0 σ) (E := E_X12_cousinsOf_4 M a0 σ) (fun s o hb hk => t_X12_cousinsOf_L4 O R0 N hn a0 s.1 s.2 σ o hb hk) FU ((0 : Int32), (0 : Int32)) w1 e2 ?_
  show G M 0 0 67 [(1, vI w1)] [] SM σ
  refine g_iload_n O dX12_cousinsOf_67 rfl 0 rfl ?_
  cases h
  exact g_ireturn O K dX12_cousinsOf_68
theorem c_X12_cousinsOf (l0 : Launch) (a0 : Nat) (σ : Dt) (r : Int32) (h : f_X12_cousinsOf a0 σ = some r) : Ctr l0 yX12_cousinsOf cX12_cousinsOf 4 (some .int) false 3 101 0 0 [vA (some a0)] SM σ SM σ (some (vI r)) := ctr_of (by decide) (Nat.le_of_ble_eq_true rfl) (fun M O F R0 N hn => t_X12_cousinsOf O R0 N hn a0 σ r h F)
def P_X12_weighsOn_4 (M : Mx) (a0 : Nat) (x1 : Int32) (σ : Dt) (s : (Int32 × Int32)) : Prop := G M 0 0 4 [(0, vA (some a0)), (1, vI x1), (2, vI s.1), (3, vI s.2)] [] SM σ
def E_X12_weighsOn_4 (M : Mx) (a0 : Nat) (x1 : Int32) (σ : Dt) : Int32 → Prop := (fun w => G M 0 0 46 [(2, vI w)] [] SM σ)
def f_X12_weighsOn_38 (a0 : Nat) (x1 : Int32) (x3 : Int32) (k0 : Int32) (k1 : Int32) (σ : Dt) : Option ((Int32 × Int32) ⊕ Int32) := some (.inl ((k0 + k1), (x3 + (1 : Int32))))
theorem t_X12_weighsOn_38 {M : Mx} {l0 : Launch} (O : Ok M cX12_weighsOn yX12_weighsOn) (R0 : Rm M l0 4 122 0 0) (N : Ma M = false) (hn : Mn M = 4)  (a0 : Nat) (x1 : Int32) (x3 : Int32) (k0 : Int32) (k1 : Int32) (σ : Dt) (o : ((Int32 × Int32) ⊕ Int32)) (h : f_X12_weighsOn_38 a0 x1 x3 k0 k1 σ = some o) (K : kon (P_X12_weighsOn_4 M a0 x1 σ) (E_X12_weighsOn_4 M a0 x1 σ) o) : G M 0 0 38 [(0, vA (some a0)), (1, vI x1), (3, vI x3)] [vI k1, vI k0] SM σ := by
  unfold f_X12_weighsOn_38 at h
  refine g_iadd O dX12_weighsOn_38 ?_
  refine g_istore_n (lv' := [(2, vI (k0 + k1)), (0, vA (some a0)), (1, vI x1), (3, vI x3)]) O dX12_weighsOn_39 rfl 4 hn (by decide) rfl ?_
  refine g_iinc (v := (x3 + (1 : Int32))) (lv' := [(3, vI (x3 + (1 : Int32))), (2, vI (k0 + k1)), (0, vA (some a0)), (1, vI x1)]) O dX12_weighsOn_40 4 hn (by decide) 3 rfl rfl rfl ?_
  refine g_goto O dX12_weighsOn_43 rfl ?_
  refine g_sub [2, 3, 1, 0] (lv' := [(0, vA (some a0)), (1, vI x1), (2, vI (k0 + k1)), (3, vI (x3 + (1 : Int32)))]) rfl ?_
  cases h
  exact K
def f_X12_weighsOn_37 (a0 : Nat) (x1 : Int32) (x3 : Int32) (k0 : Int32) (σ : Dt) : Option ((Int32 × Int32) ⊕ Int32) := f_X12_weighsOn_38 a0 x1 x3 k0 (0 : Int32) σ
theorem t_X12_weighsOn_37 {M : Mx} {l0 : Launch} (O : Ok M cX12_weighsOn yX12_weighsOn) (R0 : Rm M l0 4 122 0 0) (N : Ma M = false) (hn : Mn M = 4)  (a0 : Nat) (x1 : Int32) (x3 : Int32) (k0 : Int32) (σ : Dt) (o : ((Int32 × Int32) ⊕ Int32)) (h : f_X12_weighsOn_37 a0 x1 x3 k0 σ = some o) (K : kon (P_X12_weighsOn_4 M a0 x1 σ) (E_X12_weighsOn_4 M a0 x1 σ) o) : G M 0 0 37 [(0, vA (some a0)), (1, vI x1), (3, vI x3)] [vI k0] SM σ := by
  unfold f_X12_weighsOn_37 at h
  refine g_iconst (v := (0 : Int32)) O dX12_weighsOn_37 rfl ?_
  exact t_X12_weighsOn_38 O R0 N hn a0 x1 x3 k0 (0 : Int32) σ o h K
def f_X12_weighsOn_L4 (a0 : Nat) (x1 : Int32) (x2 : Int32) (x3 : Int32) (σ : Dt) : Option ((Int32 × Int32) ⊕ Int32) := bo (xgi SM 12 12 (some a0) σ) fun v1 => if v1 ≤ x3 then some (.inr x2) else bo (xrc SM 12 (some a0)) fun a4 => bo (f_X12_isSmall a4 x3 σ) fun v6 => if v6 = 0 then f_X12_weighsOn_37 a0 x1 x3 x2 σ else bo (xrc SM 12 (some a0)) fun a9 => bo (f_X12_elderOf a9 x3 σ) fun v11 => bo (f_X12_isAmong v11 x1 σ) fun v13 => if v13 = 0 then f_X12_weighsOn_37 a0 x1 x3 x2 σ else f_X12_weighsOn_38 a0 x1 x3 x2 (1 : Int32) σ
theorem t_X12_weighsOn_L4 {M : Mx} {l0 : Launch} (O : Ok M cX12_weighsOn yX12_weighsOn) (R0 : Rm M l0 4 122 0 0) (N : Ma M = false) (hn : Mn M = 4) (a0 : Nat) (x1 : Int32) (x2 : Int32) (x3 : Int32) (σ : Dt) (o : ((Int32 × Int32) ⊕ Int32)) (h : f_X12_weighsOn_L4 a0 x1 x2 x3 σ = some o) (K : kon (P_X12_weighsOn_4 M a0 x1 σ) (E_X12_weighsOn_4 M a0 x1 σ) o) : G M 0 0 4 [(0, vA (some a0)), (1, vI x1), (2, vI x2), (3, vI x3)] [] SM σ := by
  unfold f_X12_weighsOn_L4 at h
  refine g_iload_n O dX12_weighsOn_4 rfl 3 rfl ?_
  refine g_aload_n O dX12_weighsOn_5 rfl 0 rfl ?_
  obtain ⟨v1, e2, h⟩ := bo_some h
  refine g_getI O dX12_weighsOn_6 fl_X12_211 rfl e2 ?_
  refine g_icmp_ge O dX12_weighsOn_9 rfl (fun c3 => ?_) (fun c3 => ?_)
  · replace h := (if_pos c3).symm.trans h
    refine g_sub [2] (lv' := [(2, vI x2)]) rfl ?_
    cases h
    exact K
  · replace h := (if_neg c3).symm.trans h
    refine g_iload_n O dX12_weighsOn_12 rfl 2 rfl ?_
    refine g_aload_n O dX12_weighsOn_13 rfl 0 rfl ?_
    refine g_iload_n O dX12_weighsOn_14 rfl 3 rfl ?_
    obtain ⟨a4, e5, h⟩ := bo_some h
    obtain ⟨v6, e7, h⟩ := bo_some h
    refine g_cV1 O R0 N dX12_weighsOn_15 vl_X12_241 vv_X12_isSmall e5 [vI x3] rfl rfl rfl ⟨Nat.le_of_ble_eq_true rfl, Nat.le_of_ble_eq_true rfl⟩ (c_X12_isSmall l0 a4 x3 σ v6 e7) ?_
    refine g_if_eq O dX12_weighsOn_18 rfl (fun c8 => ?_) (fun c8 => ?_)
    · replace h := (if_pos c8).symm.trans h
      refine g_sub [0, 1, 3] (lv' := [(0, vA (some a0)), (1, vI x1), (3, vI x3)]) rfl ?_
      exact t_X12_weighsOn_37 O R0 N hn a0 x1 x3 x2 σ o h K
    · replace h := (if_neg c8).symm.trans h
      refine g_aload_n O dX12_weighsOn_21 rfl 0 rfl ?_
      refine g_iload_n O dX12_weighsOn_22 rfl 3 rfl ?_
      obtain ⟨a9, e10, h⟩ := bo_some h
      obtain ⟨v11, e12, h⟩ := bo_some h
      refine g_cV1 O R0 N dX12_weighsOn_23 vl_X12_244 vv_X12_elderOf e10 [vI x3] rfl rfl rfl ⟨Nat.le_of_ble_eq_true rfl, Nat.le_of_ble_eq_true rfl⟩ (c_X12_elderOf l0 a9 x3 σ v11 e12) ?_
      refine g_iload_n O dX12_weighsOn_26 rfl 1 rfl ?_
      obtain ⟨v13, e14, h⟩ := bo_some h
      refine g_cS1 O R0 N dX12_weighsOn_27 vl_X12_235 w1766 [vI v11, vI x1] rfl rfl rfl ⟨Nat.le_of_ble_eq_true rfl, Nat.le_of_ble_eq_true rfl⟩ (c_X12_isAmong l0 v11 x1 σ v13 e14) ?_
      refine g_if_eq O dX12_weighsOn_30 rfl (fun c15 => ?_) (fun c15 => ?_)
      · replace h := (if_pos c15).symm.trans h
        refine g_sub [0, 1, 3] (lv' := [(0, vA (some a0)), (1, vI x1), (3, vI x3)]) rfl ?_
        exact t_X12_weighsOn_37 O R0 N hn a0 x1 x3 x2 σ o h K
      · replace h := (if_neg c15).symm.trans h
        refine g_iconst (v := (1 : Int32)) O dX12_weighsOn_33 rfl ?_
        refine g_goto O dX12_weighsOn_34 rfl ?_
        refine g_sub [0, 1, 3] (lv' := [(0, vA (some a0)), (1, vI x1), (3, vI x3)]) rfl ?_
        exact t_X12_weighsOn_38 O R0 N hn a0 x1 x3 x2 (1 : Int32) σ o h K
def f_X12_weighsOn (a0 : Nat) (x1 : Int32) (σ : Dt) : Option Int32 := bo (iter FU (fun s => f_X12_weighsOn_L4 a0 x1 s.1 s.2 σ) ((0 : Int32), (0 : Int32))) fun w1 => some w1
theorem t_X12_weighsOn {M : Mx} {l0 : Launch} (O : Ok M cX12_weighsOn yX12_weighsOn) (R0 : Rm M l0 4 122 0 0) (N : Ma M = false) (hn : Mn M = 4) (a0 : Nat) (x1 : Int32) (σ : Dt) (o : Int32) (h : f_X12_weighsOn a0 x1 σ = some o) (K : Fin' M (some .int) 0 0 SM σ (some (vI o))) : G M 0 0 0 [(0, vA (some a0)), (1, vI x1)] [] SM σ := by
  unfold f_X12_weighsOn at h
  refine g_iconst (v := (0 : Int32)) O dX12_weighsOn_0 rfl ?_
  refine g_istore_n (lv' := [(2, vI (0 : Int32)), (0, vA (some a0)), (1, vI x1)]) O dX12_weighsOn_1 rfl 4 hn (by decide) rfl ?_
  refine g_iconst (v := (0 : Int32)) O dX12_weighsOn_2 rfl ?_
  refine g_istore_n (lv' := [(3, vI (0 : Int32)), (2, vI (0 : Int32)), (0, vA (some a0)), (1, vI x1)]) O dX12_weighsOn_3 rfl 4 hn (by decide) rfl ?_
  refine g_sub [2, 3, 1, 0] (lv' := [(0, vA (some a0)), (1, vI x1), (2, vI (0 : Int32)), (3, vI (0 : Int32))]) rfl ?_
  obtain ⟨w1, e2, h⟩ := bo_some h
  refine iter_G (P := P_X12_weighsOn_4 M a0 x1 σ) (E := E_X12_weighsOn_4 M a0 x1 σ) (fun s o hb hk => t_X12_weighsOn_L4 O R0 N hn a0 x1 s.1 s.2 σ o hb hk) FU ((0 : Int32), (0 : Int32)) w1 e2 ?_
  show G M 0 0 46 [(2, vI w1)] [] SM σ
  refine g_iload_n O dX12_weighsOn_46 rfl 0 rfl ?_
  cases h
  exact g_ireturn O K dX12_weighsOn_47
theorem c_X12_weighsOn (l0 : Launch) (a0 : Nat) (x1 : Int32) (σ : Dt) (r : Int32) (h : f_X12_weighsOn a0 x1 σ = some r) : Ctr l0 yX12_weighsOn cX12_weighsOn 4 (some .int) false 4 122 0 0 [vA (some a0), vI x1] SM σ SM σ (some (vI r)) := ctr_of (by decide) (Nat.le_of_ble_eq_true rfl) (fun M O F R0 N hn => t_X12_weighsOn O R0 N hn a0 x1 σ r h F)
def P_X12_burdenOf_6 (M : Mx) (a0 : Nat) (σ : Dt) (s : (Int32 × Int32 × Int32)) : Prop := G M 0 0 6 [(0, vA (some a0)), (1, vI s.1), (2, vI s.2.1), (3, vI s.2.2)] [] SM σ
def E_X12_burdenOf_6 (M : Mx) (a0 : Nat) (σ : Dt) : Int32 → Prop := (fun w => G M 0 0 40 [(1, vI w)] [] SM σ)
def f_X12_burdenOf_34 (a0 : Nat) (x1 : Int32) (x2 : Int32) (x3 : Int32) (σ : Dt) : Option ((Int32 × Int32 × Int32) ⊕ Int32) := some (.inl (x1, x2, (x3 + (1 : Int32))))
theorem t_X12_burdenOf_34 {M : Mx} {l0 : Launch} (O : Ok M cX12_burdenOf yX12_burdenOf) (R0 : Rm M l0 5 145 0 0) (N : Ma M = false) (hn : Mn M = 4)  (a0 : Nat) (x1 : Int32) (x2 : Int32) (x3 : Int32) (σ : Dt) (o : ((Int32 × Int32 × Int32) ⊕ Int32)) (h : f_X12_burdenOf_34 a0 x1 x2 x3 σ = some o) (K : kon (P_X12_burdenOf_6 M a0 σ) (E_X12_burdenOf_6 M a0 σ) o) : G M 0 0 34 [(0, vA (some a0)), (1, vI x1), (2, vI x2), (3, vI x3)] [] SM σ := by
  unfold f_X12_burdenOf_34 at h
  refine g_iinc (v := (x3 + (1 : Int32))) (lv' := [(3, vI (x3 + (1 : Int32))), (0, vA (some a0)), (1, vI x1), (2, vI x2)]) O dX12_burdenOf_34 4 hn (by decide) 3 rfl rfl rfl ?_
  refine g_goto O dX12_burdenOf_37 rfl ?_
  refine g_sub [1, 2, 3, 0] (lv' := [(0, vA (some a0)), (1, vI x1), (2, vI x2), (3, vI (x3 + (1 : Int32)))]) rfl ?_
  cases h
  exact K
def f_X12_burdenOf_L6 (a0 : Nat) (x1 : Int32) (x2 : Int32) (x3 : Int32) (σ : Dt) : Option ((Int32 × Int32 × Int32) ⊕ Int32) := bo (xgi SM 12 12 (some a0) σ) fun v1 => if v1 ≤ x3 then some (.inr x1) else bo (xrc SM 12 (some a0)) fun a4 => bo (f_X12_weighsOn a4 x3 σ) fun v6 => if x2 < v6 then bo (xrc SM 12 (some a0)) fun a9 => bo (f_X12_weighsOn a9 x3 σ) fun v11 => f_X12_burdenOf_34 a0 x3 v11 x3 σ else f_X12_burdenOf_34 a0 x1 x2 x3 σ
theorem t_X12_burdenOf_L6 {M : Mx} {l0 : Launch} (O : Ok M cX12_burdenOf yX12_burdenOf) (R0 : Rm M l0 5 145 0 0) (N : Ma M = false) (hn : Mn M = 4) (a0 : Nat) (x1 : Int32) (x2 : Int32) (x3 : Int32) (σ : Dt) (o : ((Int32 × Int32 × Int32) ⊕ Int32)) (h : f_X12_burdenOf_L6 a0 x1 x2 x3 σ = some o) (K : kon (P_X12_burdenOf_6 M a0 σ) (E_X12_burdenOf_6 M a0 σ) o) : G M 0 0 6 [(0, vA (some a0)), (1, vI x1), (2, vI x2), (3, vI x3)] [] SM σ := by
  unfold f_X12_burdenOf_L6 at h
  refine g_iload_n O dX12_burdenOf_6 rfl 3 rfl ?_
  refine g_aload_n O dX12_burdenOf_7 rfl 0 rfl ?_
  obtain ⟨v1, e2, h⟩ := bo_some h
  refine g_getI O dX12_burdenOf_8 fl_X12_211 rfl e2 ?_
  refine g_icmp_ge O dX12_burdenOf_11 rfl (fun c3 => ?_) (fun c3 => ?_)
  · replace h := (if_pos c3).symm.trans h
    refine g_sub [1] (lv' := [(1, vI x1)]) rfl ?_
    cases h
    exact K
  · replace h := (if_neg c3).symm.trans h
    refine g_aload_n O dX12_burdenOf_14 rfl 0 rfl ?_
    refine g_iload_n O dX12_burdenOf_15 rfl 3 rfl ?_
    obtain ⟨a4, e5, h⟩ := bo_some h
    obtain ⟨v6, e7, h⟩ := bo_some h
    refine g_cV1 O R0 N dX12_burdenOf_16 vl_X12_346 vv_X12_weighsOn e5 [vI x3] rfl rfl rfl ⟨Nat.le_of_ble_eq_true rfl, Nat.le_of_ble_eq_true rfl⟩ (c_X12_weighsOn l0 a4 x3 σ v6 e7) ?_
    refine g_iload_n O dX12_burdenOf_19 rfl 2 rfl ?_
    refine g_icmp_gt O dX12_burdenOf_20 rfl (fun c8 => ?_) (fun c8 => ?_)
    · replace h := (if_pos c8).symm.trans h
      refine g_iload_n O dX12_burdenOf_26 rfl 3 rfl ?_
      refine g_istore_n (lv' := [(1, vI x3), (0, vA (some a0)), (2, vI x2), (3, vI x3)]) O dX12_burdenOf_27 rfl 4 hn (by decide) rfl ?_
      refine g_aload_n O dX12_burdenOf_28 rfl 1 rfl ?_
      refine g_iload_n O dX12_burdenOf_29 rfl 3 rfl ?_
      obtain ⟨a9, e10, h⟩ := bo_some h
      obtain ⟨v11, e12, h⟩ := bo_some h
      refine g_cV1 O R0 N dX12_burdenOf_30 vl_X12_346 vv_X12_weighsOn e10 [vI x3] rfl rfl rfl ⟨Nat.le_of_ble_eq_true rfl, Nat.le_of_ble_eq_true rfl⟩ (c_X12_weighsOn l0 a9 x3 σ v11 e12) ?_
      refine g_istore_n (lv' := [(2, vI v11), (1, vI x3), (0, vA (some a0)), (3, vI x3)]) O dX12_burdenOf_33 rfl 4 hn (by decide) rfl ?_
      refine g_sub [2, 1, 0, 3] (lv' := [(0, vA (some a0)), (1, vI x3), (2, vI v11), (3, vI x3)]) rfl ?_
      exact t_X12_burdenOf_34 O R0 N hn a0 x3 v11 x3 σ o h K
    · replace h := (if_neg c8).symm.trans h
      refine g_goto O dX12_burdenOf_23 rfl ?_
      exact t_X12_burdenOf_34 O R0 N hn a0 x1 x2 x3 σ o h K
def f_X12_burdenOf (a0 : Nat) (σ : Dt) : Option Int32 := bo (iter FU (fun s => f_X12_burdenOf_L6 a0 s.1 s.2.1 s.2.2 σ) ((-1 : Int32), (0 : Int32), (0 : Int32))) fun w1 => some w1
theorem t_X12_burdenOf {M : Mx} {l0 : Launch} (O : Ok M cX12_burdenOf yX12_burdenOf) (R0 : Rm M l0 5 145 0 0) (N : Ma M = false) (hn : Mn M = 4) (a0 : Nat) (σ : Dt) (o : Int32) (h : f_X12_burdenOf a0 σ = some o) (K : Fin' M (some .int) 0 0 SM σ (some (vI o))) : G M 0 0 0 [(0, vA (some a0))] [] SM σ := by
  unfold f_X12_burdenOf at h
  refine g_iconst (v := (-1 : Int32)) O dX12_burdenOf_0 rfl ?_
  refine g_istore_n (lv' := [(1, vI (-1 : Int32)), (0, vA (some a0))]) O dX12_burdenOf_1 rfl 4 hn (by decide) rfl ?_
  refine g_iconst (v := (0 : Int32)) O dX12_burdenOf_2 rfl ?_
  refine g_istore_n (lv' := [(2, vI (0 : Int32)), (1, vI (-1 : Int32)), (0, vA (some a0))]) O dX12_burdenOf_3 rfl 4 hn (by decide) rfl ?_
  refine g_iconst (v := (0 : Int32)) O dX12_burdenOf_4 rfl ?_
  refine g_istore_n (lv' := [(3, vI (0 : Int32)), (2, vI (0 : Int32)), (1, vI (-1 : Int32)), (0, vA (some a0))]) O dX12_burdenOf_5 rfl 4 hn (by decide) rfl ?_
  refine g_sub [3, 2, 1, 0] (lv' := [(0, vA (some a0)), (1, vI (-1 : Int32)), (2, vI (0 : Int32)), (3, vI (0 : Int32))]) rfl ?_
  obtain ⟨w1, e2, h⟩ := bo_some h
  refine iter_G (P := P_X12_burdenOf_6 M a0 σ) (E := E_X12_burdenOf_6 M a0 σ) (fun s o hb hk => t_X12_burdenOf_L6 O R0 N hn a0 s.1 s.2.1 s.2.2 σ o hb hk) FU ((-1 : Int32), (0 : Int32), (0 : Int32)) w1 e2 ?_
  show G M 0 0 40 [(1, vI w1)] [] SM σ
  refine g_iload_n O dX12_burdenOf_40 rfl 0 rfl ?_
  cases h
  exact g_ireturn O K dX12_burdenOf_41
theorem c_X12_burdenOf (l0 : Launch) (a0 : Nat) (σ : Dt) (r : Int32) (h : f_X12_burdenOf a0 σ = some r) : Ctr l0 yX12_burdenOf cX12_burdenOf 4 (some .int) false 5 145 0 0 [vA (some a0)] SM σ SM σ (some (vI r)) := ctr_of (by decide) (Nat.le_of_ble_eq_true rfl) (fun M O F R0 N hn => t_X12_burdenOf O R0 N hn a0 σ r h F)
def P_X12_watched_4 (M : Mx) (a0 : Nat) (x1 : Int32) (σ : Dt) (s : (Int32 × Int32)) : Prop := G M 0 0 4 [(0, vA (some a0)), (1, vI x1), (2, vI s.1), (3, vI s.2)] [] SM σ
def E_X12_watched_4 (M : Mx) (a0 : Nat) (x1 : Int32) (σ : Dt) : Int32 → Prop := (fun w => G M 0 0 46 [(2, vI w)] [] SM σ)
def f_X12_watched_38 (a0 : Nat) (x1 : Int32) (x3 : Int32) (k0 : Int32) (k1 : Int32) (σ : Dt) : Option ((Int32 × Int32) ⊕ Int32) := some (.inl ((k0 ||| k1), (x3 + (1 : Int32))))
theorem t_X12_watched_38 {M : Mx} {l0 : Launch} (O : Ok M cX12_watched yX12_watched) (R0 : Rm M l0 4 122 0 0) (N : Ma M = false) (hn : Mn M = 4)  (a0 : Nat) (x1 : Int32) (x3 : Int32) (k0 : Int32) (k1 : Int32) (σ : Dt) (o : ((Int32 × Int32) ⊕ Int32)) (h : f_X12_watched_38 a0 x1 x3 k0 k1 σ = some o) (K : kon (P_X12_watched_4 M a0 x1 σ) (E_X12_watched_4 M a0 x1 σ) o) : G M 0 0 38 [(0, vA (some a0)), (1, vI x1), (3, vI x3)] [vI k1, vI k0] SM σ := by
  unfold f_X12_watched_38 at h
  refine g_ior O dX12_watched_38 ?_
  refine g_istore_n (lv' := [(2, vI (k0 ||| k1)), (0, vA (some a0)), (1, vI x1), (3, vI x3)]) O dX12_watched_39 rfl 4 hn (by decide) rfl ?_
  refine g_iinc (v := (x3 + (1 : Int32))) (lv' := [(3, vI (x3 + (1 : Int32))), (2, vI (k0 ||| k1)), (0, vA (some a0)), (1, vI x1)]) O dX12_watched_40 4 hn (by decide) 3 rfl rfl rfl ?_
  refine g_goto O dX12_watched_43 rfl ?_
  refine g_sub [2, 3, 1, 0] (lv' := [(0, vA (some a0)), (1, vI x1), (2, vI (k0 ||| k1)), (3, vI (x3 + (1 : Int32)))]) rfl ?_
  cases h
  exact K
def f_X12_watched_37 (a0 : Nat) (x1 : Int32) (x3 : Int32) (k0 : Int32) (σ : Dt) : Option ((Int32 × Int32) ⊕ Int32) := f_X12_watched_38 a0 x1 x3 k0 (0 : Int32) σ
theorem t_X12_watched_37 {M : Mx} {l0 : Launch} (O : Ok M cX12_watched yX12_watched) (R0 : Rm M l0 4 122 0 0) (N : Ma M = false) (hn : Mn M = 4)  (a0 : Nat) (x1 : Int32) (x3 : Int32) (k0 : Int32) (σ : Dt) (o : ((Int32 × Int32) ⊕ Int32)) (h : f_X12_watched_37 a0 x1 x3 k0 σ = some o) (K : kon (P_X12_watched_4 M a0 x1 σ) (E_X12_watched_4 M a0 x1 σ) o) : G M 0 0 37 [(0, vA (some a0)), (1, vI x1), (3, vI x3)] [vI k0] SM σ := by
  unfold f_X12_watched_37 at h
  refine g_iconst (v := (0 : Int32)) O dX12_watched_37 rfl ?_
  exact t_X12_watched_38 O R0 N hn a0 x1 x3 k0 (0 : Int32) σ o h K
def f_X12_watched_L4 (a0 : Nat) (x1 : Int32) (x2 : Int32) (x3 : Int32) (σ : Dt) : Option ((Int32 × Int32) ⊕ Int32) := bo (xgi SM 12 12 (some a0) σ) fun v1 => if v1 ≤ x3 then some (.inr x2) else bo (f_X12_isAmong x1 x3 σ) fun v4 => if v4 = 0 then f_X12_watched_37 a0 x1 x3 x2 σ else bo (xrc SM 12 (some a0)) fun a7 => bo (f_X12_isSmall a7 x3 σ) fun v9 => if v9 = 0 then f_X12_watched_37 a0 x1 x3 x2 σ else bo (xrc SM 12 (some a0)) fun a12 => bo (f_X12_elderOf a12 x3 σ) fun v14 => f_X12_watched_38 a0 x1 x3 x2 v14 σ
theorem t_X12_watched_L4 {M : Mx} {l0 : Launch} (O : Ok M cX12_watched yX12_watched) (R0 : Rm M l0 4 122 0 0) (N : Ma M = false) (hn : Mn M = 4) (a0 : Nat) (x1 : Int32) (x2 : Int32) (x3 : Int32) (σ : Dt) (o : ((Int32 × Int32) ⊕ Int32)) (h : f_X12_watched_L4 a0 x1 x2 x3 σ = some o) (K : kon (P_X12_watched_4 M a0 x1 σ) (E_X12_watched_4 M a0 x1 σ) o) : G M 0 0 4 [(0, vA (some a0)), (1, vI x1), (2, vI x2), (3, vI x3)] [] SM σ := by
  unfold f_X12_watched_L4 at h
  refine g_iload_n O dX12_watched_4 rfl 3 rfl ?_
  refine g_aload_n O dX12_watched_5 rfl 0 rfl ?_
  obtain ⟨v1, e2, h⟩ := bo_some h
  refine g_getI O dX12_watched_6 fl_X12_211 rfl e2 ?_
  refine g_icmp_ge O dX12_watched_9 rfl (fun c3 => ?_) (fun c3 => ?_)
  · replace h := (if_pos c3).symm.trans h
    refine g_sub [2] (lv' := [(2, vI x2)]) rfl ?_
    cases h
    exact K
  · replace h := (if_neg c3).symm.trans h
    refine g_iload_n O dX12_watched_12 rfl 2 rfl ?_
    refine g_iload_n O dX12_watched_13 rfl 1 rfl ?_
    refine g_iload_n O dX12_watched_14 rfl 3 rfl ?_
    obtain ⟨v4, e5, h⟩ := bo_some h
    refine g_cS1 O R0 N dX12_watched_15 vl_X12_235 w1766 [vI x1, vI x3] rfl rfl rfl ⟨Nat.le_of_ble_eq_true rfl, Nat.le_of_ble_eq_true rfl⟩ (c_X12_isAmong l0 x1 x3 σ v4 e5) ?_
    refine g_if_eq O dX12_watched_18 rfl (fun c6 => ?_) (fun c6 => ?_)
    · replace h := (if_pos c6).symm.trans h
      refine g_sub [0, 1, 3] (lv' := [(0, vA (some a0)), (1, vI x1), (3, vI x3)]) rfl ?_
      exact t_X12_watched_37 O R0 N hn a0 x1 x3 x2 σ o h K
    · replace h := (if_neg c6).symm.trans h
      refine g_aload_n O dX12_watched_21 rfl 0 rfl ?_
      refine g_iload_n O dX12_watched_22 rfl 3 rfl ?_
      obtain ⟨a7, e8, h⟩ := bo_some h
      obtain ⟨v9, e10, h⟩ := bo_some h
      refine g_cV1 O R0 N dX12_watched_23 vl_X12_241 vv_X12_isSmall e8 [vI x3] rfl rfl rfl ⟨Nat.le_of_ble_eq_true rfl, Nat.le_of_ble_eq_true rfl⟩ (c_X12_isSmall l0 a7 x3 σ v9 e10) ?_
      refine g_if_eq O dX12_watched_26 rfl (fun c11 => ?_) (fun c11 => ?_)
      · replace h := (if_pos c11).symm.trans h
        refine g_sub [0, 1, 3] (lv' := [(0, vA (some a0)), (1, vI x1), (3, vI x3)]) rfl ?_
        exact t_X12_watched_37 O R0 N hn a0 x1 x3 x2 σ o h K
      · replace h := (if_neg c11).symm.trans h
        refine g_aload_n O dX12_watched_29 rfl 0 rfl ?_
        refine g_iload_n O dX12_watched_30 rfl 3 rfl ?_
        obtain ⟨a12, e13, h⟩ := bo_some h
        obtain ⟨v14, e15, h⟩ := bo_some h
        refine g_cV1 O R0 N dX12_watched_31 vl_X12_244 vv_X12_elderOf e13 [vI x3] rfl rfl rfl ⟨Nat.le_of_ble_eq_true rfl, Nat.le_of_ble_eq_true rfl⟩ (c_X12_elderOf l0 a12 x3 σ v14 e15) ?_
        refine g_goto O dX12_watched_34 rfl ?_
        refine g_sub [0, 1, 3] (lv' := [(0, vA (some a0)), (1, vI x1), (3, vI x3)]) rfl ?_
        exact t_X12_watched_38 O R0 N hn a0 x1 x3 x2 v14 σ o h K
def f_X12_watched (a0 : Nat) (x1 : Int32) (σ : Dt) : Option Int32 := bo (iter FU (fun s => f_X12_watched_L4 a0 x1 s.1 s.2 σ) ((0 : Int32), (0 : Int32))) fun w1 => some w1
theorem t_X12_watched {M : Mx} {l0 : Launch} (O : Ok M cX12_watched yX12_watched) (R0 : Rm M l0 4 122 0 0) (N : Ma M = false) (hn : Mn M = 4) (a0 : Nat) (x1 : Int32) (σ : Dt) (o : Int32) (h : f_X12_watched a0 x1 σ = some o) (K : Fin' M (some .int) 0 0 SM σ (some (vI o))) : G M 0 0 0 [(0, vA (some a0)), (1, vI x1)] [] SM σ := by
  unfold f_X12_watched at h
  refine g_iconst (v := (0 : Int32)) O dX12_watched_0 rfl ?_
  refine g_istore_n (lv' := [(2, vI (0 : Int32)), (0, vA (some a0)), (1, vI x1)]) O dX12_watched_1 rfl 4 hn (by decide) rfl ?_
  refine g_iconst (v := (0 : Int32)) O dX12_watched_2 rfl ?_
  refine g_istore_n (lv' := [(3, vI (0 : Int32)), (2, vI (0 : Int32)), (0, vA (some a0)), (1, vI x1)]) O dX12_watched_3 rfl 4 hn (by decide) rfl ?_
  refine g_sub [2, 3, 1, 0] (lv' := [(0, vA (some a0)), (1, vI x1), (2, vI (0 : Int32)), (3, vI (0 : Int32))]) rfl ?_
  obtain ⟨w1, e2, h⟩ := bo_some h
  refine iter_G (P := P_X12_watched_4 M a0 x1 σ) (E := E_X12_watched_4 M a0 x1 σ) (fun s o hb hk => t_X12_watched_L4 O R0 N hn a0 x1 s.1 s.2 σ o hb hk) FU ((0 : Int32), (0 : Int32)) w1 e2 ?_
  show G M 0 0 46 [(2, vI w1)] [] SM σ
  refine g_iload_n O dX12_watched_46 rfl 0 rfl ?_
  cases h
  exact g_ireturn O K dX12_watched_47
theorem c_X12_watched (l0 : Launch) (a0 : Nat) (x1 : Int32) (σ : Dt) (r : Int32) (h : f_X12_watched a0 x1 σ = some r) : Ctr l0 yX12_watched cX12_watched 4 (some .int) false 4 122 0 0 [vA (some a0), vI x1] SM σ SM σ (some (vI r)) := ctr_of (by decide) (Nat.le_of_ble_eq_true rfl) (fun M O F R0 N hn => t_X12_watched O R0 N hn a0 x1 σ r h F)
def P_X12_watchOf_4 (M : Mx) (a0 : Nat) (σ : Dt) (s : (Int32 × Int32)) : Prop := G M 0 0 4 [(0, vA (some a0)), (1, vI s.1), (2, vI s.2)] [] SM σ
def E_X12_watchOf_4 (M : Mx) (a0 : Nat) (σ : Dt) : Int32 → Prop := (fun w => G M 0 0 36 [(0, vA (some a0)), (1, vI w)] [] SM σ)
def f_X12_watchOf_28 (a0 : Nat) (x2 : Int32) (k0 : Int32) (k1 : Int32) (σ : Dt) : Option ((Int32 × Int32) ⊕ Int32) := some (.inl ((k0 ||| k1), (x2 + (1 : Int32))))
theorem t_X12_watchOf_28 {M : Mx} {l0 : Launch} (O : Ok M cX12_watchOf yX12_watchOf) (R0 : Rm M l0 5 145 0 0) (N : Ma M = false) (hn : Mn M = 4)  (a0 : Nat) (x2 : Int32) (k0 : Int32) (k1 : Int32) (σ : Dt) (o : ((Int32 × Int32) ⊕ Int32)) (h : f_X12_watchOf_28 a0 x2 k0 k1 σ = some o) (K : kon (P_X12_watchOf_4 M a0 σ) (E_X12_watchOf_4 M a0 σ) o) : G M 0 0 28 [(0, vA (some a0)), (2, vI x2)] [vI k1, vI k0] SM σ := by
  unfold f_X12_watchOf_28 at h
  refine g_ior O dX12_watchOf_28 ?_
  refine g_istore_n (lv' := [(1, vI (k0 ||| k1)), (0, vA (some a0)), (2, vI x2)]) O dX12_watchOf_29 rfl 4 hn (by decide) rfl ?_
  refine g_iinc (v := (x2 + (1 : Int32))) (lv' := [(2, vI (x2 + (1 : Int32))), (1, vI (k0 ||| k1)), (0, vA (some a0))]) O dX12_watchOf_30 4 hn (by decide) 2 rfl rfl rfl ?_
  refine g_goto O dX12_watchOf_33 rfl ?_
  refine g_sub [2, 1, 0] (lv' := [(0, vA (some a0)), (1, vI (k0 ||| k1)), (2, vI (x2 + (1 : Int32)))]) rfl ?_
  cases h
  exact K
def f_X12_watchOf_L4 (a0 : Nat) (x1 : Int32) (x2 : Int32) (σ : Dt) : Option ((Int32 × Int32) ⊕ Int32) := bo (xgi SM 12 12 (some a0) σ) fun v1 => if v1 ≤ x2 then some (.inr x1) else bo (xrc SM 12 (some a0)) fun a4 => bo (f_X12_isSmall a4 x2 σ) fun v6 => if v6 = 0 then f_X12_watchOf_28 a0 x2 x1 (0 : Int32) σ else f_X12_watchOf_28 a0 x2 x1 ((1 : Int32) <<< (x2 &&& 31)) σ
theorem t_X12_watchOf_L4 {M : Mx} {l0 : Launch} (O : Ok M cX12_watchOf yX12_watchOf) (R0 : Rm M l0 5 145 0 0) (N : Ma M = false) (hn : Mn M = 4) (a0 : Nat) (x1 : Int32) (x2 : Int32) (σ : Dt) (o : ((Int32 × Int32) ⊕ Int32)) (h : f_X12_watchOf_L4 a0 x1 x2 σ = some o) (K : kon (P_X12_watchOf_4 M a0 σ) (E_X12_watchOf_4 M a0 σ) o) : G M 0 0 4 [(0, vA (some a0)), (1, vI x1), (2, vI x2)] [] SM σ := by
  unfold f_X12_watchOf_L4 at h
  refine g_iload_n O dX12_watchOf_4 rfl 2 rfl ?_
  refine g_aload_n O dX12_watchOf_5 rfl 0 rfl ?_
  obtain ⟨v1, e2, h⟩ := bo_some h
  refine g_getI O dX12_watchOf_6 fl_X12_211 rfl e2 ?_
  refine g_icmp_ge O dX12_watchOf_9 rfl (fun c3 => ?_) (fun c3 => ?_)
  · replace h := (if_pos c3).symm.trans h
    refine g_sub [0, 1] (lv' := [(0, vA (some a0)), (1, vI x1)]) rfl ?_
    cases h
    exact K
  · replace h := (if_neg c3).symm.trans h
    refine g_iload_n O dX12_watchOf_12 rfl 1 rfl ?_
    refine g_aload_n O dX12_watchOf_13 rfl 0 rfl ?_
    refine g_iload_n O dX12_watchOf_14 rfl 2 rfl ?_
    obtain ⟨a4, e5, h⟩ := bo_some h
    obtain ⟨v6, e7, h⟩ := bo_some h
    refine g_cV1 O R0 N dX12_watchOf_15 vl_X12_241 vv_X12_isSmall e5 [vI x2] rfl rfl rfl ⟨Nat.le_of_ble_eq_true rfl, Nat.le_of_ble_eq_true rfl⟩ (c_X12_isSmall l0 a4 x2 σ v6 e7) ?_
    refine g_if_eq O dX12_watchOf_18 rfl (fun c8 => ?_) (fun c8 => ?_)
    · replace h := (if_pos c8).symm.trans h
      refine g_iconst (v := (0 : Int32)) O dX12_watchOf_27 rfl ?_
      refine g_sub [0, 2] (lv' := [(0, vA (some a0)), (2, vI x2)]) rfl ?_
      exact t_X12_watchOf_28 O R0 N hn a0 x2 x1 (0 : Int32) σ o h K
    · replace h := (if_neg c8).symm.trans h
      refine g_iconst (v := (1 : Int32)) O dX12_watchOf_21 rfl ?_
      refine g_iload_n O dX12_watchOf_22 rfl 2 rfl ?_
      refine g_ishl O dX12_watchOf_23 ?_
      refine g_goto O dX12_watchOf_24 rfl ?_
      refine g_sub [0, 2] (lv' := [(0, vA (some a0)), (2, vI x2)]) rfl ?_
      exact t_X12_watchOf_28 O R0 N hn a0 x2 x1 ((1 : Int32) <<< (x2 &&& 31)) σ o h K
def P_X12_watchOf_40 (M : Mx) (a0 : Nat) (x1 : Int32) (σ : Dt) (s : (Int32 × Int32)) : Prop := G M 0 0 40 [(0, vA (some a0)), (1, vI x1), (2, vI s.1), (3, vI s.2)] [] SM σ
def E_X12_watchOf_40 (M : Mx) (a0 : Nat) (x1 : Int32) (σ : Dt) : Int32 → Prop := (fun w => G M 0 0 84 [(2, vI w)] [] SM σ)
def f_X12_watchOf_78 (a0 : Nat) (x1 : Int32) (x2 : Int32) (x3 : Int32) (σ : Dt) : Option ((Int32 × Int32) ⊕ Int32) := some (.inl (x2, (x3 + (-1 : Int32))))
theorem t_X12_watchOf_78 {M : Mx} {l0 : Launch} (O : Ok M cX12_watchOf yX12_watchOf) (R0 : Rm M l0 5 145 0 0) (N : Ma M = false) (hn : Mn M = 4)  (a0 : Nat) (x1 : Int32) (x2 : Int32) (x3 : Int32) (σ : Dt) (o : ((Int32 × Int32) ⊕ Int32)) (h : f_X12_watchOf_78 a0 x1 x2 x3 σ = some o) (K : kon (P_X12_watchOf_40 M a0 x1 σ) (E_X12_watchOf_40 M a0 x1 σ) o) : G M 0 0 78 [(0, vA (some a0)), (1, vI x1), (2, vI x2), (3, vI x3)] [] SM σ := by
  unfold f_X12_watchOf_78 at h
  refine g_iinc (v := (x3 + (-1 : Int32))) (lv' := [(3, vI (x3 + (-1 : Int32))), (0, vA (some a0)), (1, vI x1), (2, vI x2)]) O dX12_watchOf_78 4 hn (by decide) 3 rfl rfl rfl ?_
  refine g_goto O dX12_watchOf_81 rfl ?_
  refine g_sub [1, 2, 3, 0] (lv' := [(0, vA (some a0)), (1, vI x1), (2, vI x2), (3, vI (x3 + (-1 : Int32)))]) rfl ?_
  cases h
  exact K
def f_X12_watchOf_L40 (a0 : Nat) (x1 : Int32) (x2 : Int32) (x3 : Int32) (σ : Dt) : Option ((Int32 × Int32) ⊕ Int32) := if x3 < 0 then some (.inr x2) else if (x3 &&& (x1 ^^^ (-1 : Int32))) = 0 then bo (f_X12_bitsOf x3 σ) fun v3 => bo (f_X12_bitsOf x2 σ) fun v5 => if v5 < v3 then f_X12_watchOf_78 a0 x1 x2 x3 σ else bo (xrc SM 12 (some a0)) fun a8 => bo (f_X12_watched a8 x3 σ) fun v10 => bo (xrc SM 12 (some a0)) fun a12 => bo (f_X12_watched a12 x1 σ) fun v14 => if v10 = v14 then f_X12_watchOf_78 a0 x1 x3 x3 σ else f_X12_watchOf_78 a0 x1 x2 x3 σ else f_X12_watchOf_78 a0 x1 x2 x3 σ
theorem t_X12_watchOf_L40 {M : Mx} {l0 : Launch} (O : Ok M cX12_watchOf yX12_watchOf) (R0 : Rm M l0 5 145 0 0) (N : Ma M = false) (hn : Mn M = 4) (a0 : Nat) (x1 : Int32) (x2 : Int32) (x3 : Int32) (σ : Dt) (o : ((Int32 × Int32) ⊕ Int32)) (h : f_X12_watchOf_L40 a0 x1 x2 x3 σ = some o) (K : kon (P_X12_watchOf_40 M a0 x1 σ) (E_X12_watchOf_40 M a0 x1 σ) o) : G M 0 0 40 [(0, vA (some a0)), (1, vI x1), (2, vI x2), (3, vI x3)] [] SM σ := by
  unfold f_X12_watchOf_L40 at h
  refine g_iload_n O dX12_watchOf_40 rfl 3 rfl ?_
  refine g_if_lt O dX12_watchOf_41 rfl (fun c1 => ?_) (fun c1 => ?_)
  · replace h := (if_pos c1).symm.trans h
    refine g_sub [2] (lv' := [(2, vI x2)]) rfl ?_
    cases h
    exact K
  · replace h := (if_neg c1).symm.trans h
    refine g_iload_n O dX12_watchOf_44 rfl 3 rfl ?_
    refine g_iload_n O dX12_watchOf_45 rfl 1 rfl ?_
    refine g_iconst (v := (-1 : Int32)) O dX12_watchOf_46 rfl ?_
    refine g_ixor O dX12_watchOf_47 ?_
    refine g_iand O dX12_watchOf_48 ?_
    refine g_if_ne O dX12_watchOf_49 rfl (fun c2 => ?_) (fun c2 => ?_)
    · replace h := (if_pos c2).symm.trans h
      refine g_iload_n O dX12_watchOf_52 rfl 3 rfl ?_
      obtain ⟨v3, e4, h⟩ := bo_some h
      refine g_cS1 O R0 N dX12_watchOf_53 vl_X12_183 w1701 [vI x3] rfl rfl rfl ⟨Nat.le_of_ble_eq_true rfl, Nat.le_of_ble_eq_true rfl⟩ (c_X12_bitsOf l0 x3 σ v3 e4) ?_
      refine g_iload_n O dX12_watchOf_56 rfl 2 rfl ?_
      obtain ⟨v5, e6, h⟩ := bo_some h
      refine g_cS1 O R0 N dX12_watchOf_57 vl_X12_183 w1701 [vI x2] rfl rfl rfl ⟨Nat.le_of_ble_eq_true rfl, Nat.le_of_ble_eq_true rfl⟩ (c_X12_bitsOf l0 x2 σ v5 e6) ?_
      refine g_icmp_gt O dX12_watchOf_60 rfl (fun c7 => ?_) (fun c7 => ?_)
      · replace h := (if_pos c7).symm.trans h
        exact t_X12_watchOf_78 O R0 N hn a0 x1 x2 x3 σ o h K
      · replace h := (if_neg c7).symm.trans h
        refine g_aload_n O dX12_watchOf_63 rfl 0 rfl ?_
        refine g_iload_n O dX12_watchOf_64 rfl 3 rfl ?_
        obtain ⟨a8, e9, h⟩ := bo_some h
        obtain ⟨v10, e11, h⟩ := bo_some h
        refine g_cV1 O R0 N dX12_watchOf_65 vl_X12_349 vv_X12_watched e9 [vI x3] rfl rfl rfl ⟨Nat.le_of_ble_eq_true rfl, Nat.le_of_ble_eq_true rfl⟩ (c_X12_watched l0 a8 x3 σ v10 e11) ?_
        refine g_aload_n O dX12_watchOf_68 rfl 0 rfl ?_
        refine g_iload_n O dX12_watchOf_69 rfl 1 rfl ?_
        obtain ⟨a12, e13, h⟩ := bo_some h
        obtain ⟨v14, e15, h⟩ := bo_some h
        refine g_cV1 O R0 N dX12_watchOf_70 vl_X12_349 vv_X12_watched e13 [vI x1] rfl rfl rfl ⟨Nat.le_of_ble_eq_true rfl, Nat.le_of_ble_eq_true rfl⟩ (c_X12_watched l0 a12 x1 σ v14 e15) ?_
        refine g_icmp_ne O dX12_watchOf_73 rfl (fun c16 => ?_) (fun c16 => ?_)
        · replace h := (if_pos c16).symm.trans h
          refine g_iload_n O dX12_watchOf_76 rfl 3 rfl ?_
          refine g_istore_n (lv' := [(2, vI x3), (0, vA (some a0)), (1, vI x1), (3, vI x3)]) O dX12_watchOf_77 rfl 4 hn (by decide) rfl ?_
          refine g_sub [1, 2, 0, 3] (lv' := [(0, vA (some a0)), (1, vI x1), (2, vI x3), (3, vI x3)]) rfl ?_
          exact t_X12_watchOf_78 O R0 N hn a0 x1 x3 x3 σ o h K
        · replace h := (if_neg c16).symm.trans h
          exact t_X12_watchOf_78 O R0 N hn a0 x1 x2 x3 σ o h K
    · replace h := (if_neg c2).symm.trans h
      exact t_X12_watchOf_78 O R0 N hn a0 x1 x2 x3 σ o h K
def f_X12_watchOf (a0 : Nat) (σ : Dt) : Option Int32 := bo (iter FU (fun s => f_X12_watchOf_L4 a0 s.1 s.2 σ) ((0 : Int32), (0 : Int32))) fun w1 => bo (iter FU (fun s => f_X12_watchOf_L40 a0 w1 s.1 s.2 σ) (w1, w1)) fun w3 => some w3
theorem t_X12_watchOf {M : Mx} {l0 : Launch} (O : Ok M cX12_watchOf yX12_watchOf) (R0 : Rm M l0 5 145 0 0) (N : Ma M = false) (hn : Mn M = 4) (a0 : Nat) (σ : Dt) (o : Int32) (h : f_X12_watchOf a0 σ = some o) (K : Fin' M (some .int) 0 0 SM σ (some (vI o))) : G M 0 0 0 [(0, vA (some a0))] [] SM σ := by
  unfold f_X12_watchOf at h
  refine g_iconst (v := (0 : Int32)) O dX12_watchOf_0 rfl ?_
  refine g_istore_n (lv' := [(1, vI (0 : Int32)), (0, vA (some a0))]) O dX12_watchOf_1 rfl 4 hn (by decide) rfl ?_
  refine g_iconst (v := (0 : Int32)) O dX12_watchOf_2 rfl ?_
  refine g_istore_n (lv' := [(2, vI (0 : Int32)), (1, vI (0 : Int32)), (0, vA (some a0))]) O dX12_watchOf_3 rfl 4 hn (by decide) rfl ?_
  refine g_sub [2, 1, 0] (lv' := [(0, vA (some a0)), (1, vI (0 : Int32)), (2, vI (0 : Int32))]) rfl ?_
  obtain ⟨w1, e2, h⟩ := bo_some h
  refine iter_G (P := P_X12_watchOf_4 M a0 σ) (E := E_X12_watchOf_4 M a0 σ) (fun s o hb hk => t_X12_watchOf_L4 O R0 N hn a0 s.1 s.2 σ o hb hk) FU ((0 : Int32), (0 : Int32)) w1 e2 ?_
  show G M 0 0 36 [(0, vA (some a0)), (1, vI w1)] [] SM σ
  refine g_iload_n O dX12_watchOf_36 rfl 1 rfl ?_
  refine g_istore_n (lv' := [(2, vI w1), (0, vA (some a0)), (1, vI w1)]) O dX12_watchOf_37 rfl 4 hn (by decide) rfl ?_
  refine g_iload_n O dX12_watchOf_38 rfl 2 rfl ?_
  refine g_istore_n (lv' := [(3, vI w1), (2, vI w1), (0, vA (some a0)), (1, vI w1)]) O dX12_watchOf_39 rfl 4 hn (by decide) rfl ?_
  refine g_sub [2, 3, 1, 0] (lv' := [(0, vA (some a0)), (1, vI w1), (2, vI w1), (3, vI w1)]) rfl ?_
  obtain ⟨w3, e4, h⟩ := bo_some h
  refine iter_G (P := P_X12_watchOf_40 M a0 w1 σ) (E := E_X12_watchOf_40 M a0 w1 σ) (fun s o hb hk => t_X12_watchOf_L40 O R0 N hn a0 w1 s.1 s.2 σ o hb hk) FU (w1, w1) w3 e4 ?_
  show G M 0 0 84 [(2, vI w3)] [] SM σ
  refine g_iload_n O dX12_watchOf_84 rfl 0 rfl ?_
  cases h
  exact g_ireturn O K dX12_watchOf_85
theorem c_X12_watchOf (l0 : Launch) (a0 : Nat) (σ : Dt) (r : Int32) (h : f_X12_watchOf a0 σ = some r) : Ctr l0 yX12_watchOf cX12_watchOf 4 (some .int) false 5 145 0 0 [vA (some a0)] SM σ SM σ (some (vI r)) := ctr_of (by decide) (Nat.le_of_ble_eq_true rfl) (fun M O F R0 N hn => t_X12_watchOf O R0 N hn a0 σ r h F)
def f_X12_houses_90 (k0 : Option Nat) (k1 : Int32) (σ : Dt) : Option (Int32 × Dt) := bo (xrc SM 12 k0) fun a1 => bo (f_X12_rootsOf a1 k1 σ) fun v3 => some (v3, σ)
theorem t_X12_houses_90 {M : Mx} {l0 : Launch} (O : Ok M cX12_houses yX12_houses) (R0 : Rm M l0 6 172 0 0) (N : Ma M = false) (hn : Mn M = 3)  (k0 : Option Nat) (k1 : Int32) (σ : Dt) (o : (Int32 × Dt)) (h : f_X12_houses_90 k0 k1 σ = some o) (K : Fin' M (some .int) 0 0 SM o.2 (some (vI o.1))) : G M 0 0 90 [] [vI k1, vA k0] SM σ := by
  unfold f_X12_houses_90 at h
  obtain ⟨a1, e2, h⟩ := bo_some h
  obtain ⟨v3, e4, h⟩ := bo_some h
  refine g_cV1 O R0 N dX12_houses_90 vl_X12_356 vv_X12_rootsOf e2 [vI k1] rfl rfl rfl ⟨Nat.le_of_ble_eq_true rfl, Nat.le_of_ble_eq_true rfl⟩ (c_X12_rootsOf l0 a1 k1 σ v3 e4) ?_
  cases h
  exact g_ireturn O K dX12_houses_93
def f_X12_houses_79 (a0 : Nat) (x2 : Int32) (σ : Dt) : Option (Int32 × Dt) := if x2 = (3 : Int32) then f_X12_houses_90 (some a0) (1 : Int32) σ else f_X12_houses_90 (some a0) (0 : Int32) σ
theorem t_X12_houses_79 {M : Mx} {l0 : Launch} (O : Ok M cX12_houses yX12_houses) (R0 : Rm M l0 6 172 0 0) (N : Ma M = false) (hn : Mn M = 3)  (a0 : Nat) (x2 : Int32) (σ : Dt) (o : (Int32 × Dt)) (h : f_X12_houses_79 a0 x2 σ = some o) (K : Fin' M (some .int) 0 0 SM o.2 (some (vI o.1))) : G M 0 0 79 [(0, vA (some a0)), (2, vI x2)] [] SM σ := by
  unfold f_X12_houses_79 at h
  refine g_aload_n O dX12_houses_79 rfl 0 rfl ?_
  refine g_iload_n O dX12_houses_80 rfl 1 rfl ?_
  refine g_iconst (v := (3 : Int32)) O dX12_houses_81 rfl ?_
  refine g_icmp_ne O dX12_houses_82 rfl (fun c1 => ?_) (fun c1 => ?_)
  · replace h := (if_pos c1).symm.trans h
    refine g_iconst (v := (1 : Int32)) O dX12_houses_85 rfl ?_
    refine g_goto O dX12_houses_86 rfl ?_
    refine g_sub [] (lv' := []) rfl ?_
    exact t_X12_houses_90 O R0 N hn (some a0) (1 : Int32) σ o h K
  · replace h := (if_neg c1).symm.trans h
    refine g_iconst (v := (0 : Int32)) O dX12_houses_89 rfl ?_
    refine g_sub [] (lv' := []) rfl ?_
    exact t_X12_houses_90 O R0 N hn (some a0) (0 : Int32) σ o h K
def f_X12_houses_75 (k0 : Option Nat) (k1 : Int32) (σ : Dt) : Option (Int32 × Dt) := bo (xrc SM 12 k0) fun a1 => bo (f_X12_housesOf a1 k1 σ) fun v3 => some (v3, σ)
theorem t_X12_houses_75 {M : Mx} {l0 : Launch} (O : Ok M cX12_houses yX12_houses) (R0 : Rm M l0 6 172 0 0) (N : Ma M = false) (hn : Mn M = 3)  (k0 : Option Nat) (k1 : Int32) (σ : Dt) (o : (Int32 × Dt)) (h : f_X12_houses_75 k0 k1 σ = some o) (K : Fin' M (some .int) 0 0 SM o.2 (some (vI o.1))) : G M 0 0 75 [] [vI k1, vA k0] SM σ := by
  unfold f_X12_houses_75 at h
  obtain ⟨a1, e2, h⟩ := bo_some h
  obtain ⟨v3, e4, h⟩ := bo_some h
  refine g_cV1 O R0 N dX12_houses_75 vl_X12_352 vv_X12_housesOf e2 [vI k1] rfl rfl rfl ⟨Nat.le_of_ble_eq_true rfl, Nat.le_of_ble_eq_true rfl⟩ (c_X12_housesOf l0 a1 k1 σ v3 e4) ?_
  cases h
  exact g_ireturn O K dX12_houses_78
def f_X12_houses_64 (a0 : Nat) (x2 : Int32) (σ : Dt) : Option (Int32 × Dt) := if x2 = (1 : Int32) then f_X12_houses_75 (some a0) (1 : Int32) σ else f_X12_houses_75 (some a0) (0 : Int32) σ
theorem t_X12_houses_64 {M : Mx} {l0 : Launch} (O : Ok M cX12_houses yX12_houses) (R0 : Rm M l0 6 172 0 0) (N : Ma M = false) (hn : Mn M = 3)  (a0 : Nat) (x2 : Int32) (σ : Dt) (o : (Int32 × Dt)) (h : f_X12_houses_64 a0 x2 σ = some o) (K : Fin' M (some .int) 0 0 SM o.2 (some (vI o.1))) : G M 0 0 64 [(0, vA (some a0)), (2, vI x2)] [] SM σ := by
  unfold f_X12_houses_64 at h
  refine g_aload_n O dX12_houses_64 rfl 0 rfl ?_
  refine g_iload_n O dX12_houses_65 rfl 1 rfl ?_
  refine g_iconst (v := (1 : Int32)) O dX12_houses_66 rfl ?_
  refine g_icmp_ne O dX12_houses_67 rfl (fun c1 => ?_) (fun c1 => ?_)
  · replace h := (if_pos c1).symm.trans h
    refine g_iconst (v := (1 : Int32)) O dX12_houses_70 rfl ?_
    refine g_goto O dX12_houses_71 rfl ?_
    refine g_sub [] (lv' := []) rfl ?_
    exact t_X12_houses_75 O R0 N hn (some a0) (1 : Int32) σ o h K
  · replace h := (if_neg c1).symm.trans h
    refine g_iconst (v := (0 : Int32)) O dX12_houses_74 rfl ?_
    refine g_sub [] (lv' := []) rfl ?_
    exact t_X12_houses_75 O R0 N hn (some a0) (0 : Int32) σ o h K
def f_X12_houses (a0 : Nat) (x1 : Int32) (x2 : Int32) (σ : Dt) : Option (Int32 × Dt) := bo (xrc SM 12 (some a0)) fun a1 => bd (f_X12_isValley a1 x1 σ) fun v3 σ4 => if v3 = 0 then some ((-2 : Int32), σ4) else if x2 = (0 : Int32) then f_X12_houses_64 a0 x2 σ4 else if x2 = (1 : Int32) then f_X12_houses_64 a0 x2 σ4 else if x2 = (2 : Int32) then f_X12_houses_79 a0 x2 σ4 else if x2 = (3 : Int32) then f_X12_houses_79 a0 x2 σ4 else if x2 = (4 : Int32) then bo (xrc SM 12 (some a0)) fun a12 => bo (f_X12_cousinsOf a12 σ4) fun v14 => some (v14, σ4) else if x2 = (5 : Int32) then bo (xrc SM 12 (some a0)) fun a17 => bo (f_X12_burdenOf a17 σ4) fun v19 => some (v19, σ4) else if x2 = (6 : Int32) then bo (xrc SM 12 (some a0)) fun a22 => bo (f_X12_burdenOf a22 σ4) fun v24 => if v24 = (-1 : Int32) then some ((0 : Int32), σ4) else bo (xrc SM 12 (some a0)) fun a27 => bo (f_X12_burdenOf a27 σ4) fun v29 => bo (xrc SM 12 (some a0)) fun a31 => bo (f_X12_weighsOn a31 v29 σ4) fun v33 => some (v33, σ4) else if x2 = (7 : Int32) then bo (xrc SM 12 (some a0)) fun a36 => bo (f_X12_watchOf a36 σ4) fun v38 => bo (f_X12_bitsOf v38 σ4) fun v40 => some (v40, σ4) else if x2 = (8 : Int32) then bo (xrc SM 12 (some a0)) fun a43 => bo (f_X12_watchOf a43 σ4) fun v45 => some (v45, σ4) else some ((-2 : Int32), σ4)
theorem t_X12_houses {M : Mx} {l0 : Launch} (O : Ok M cX12_houses yX12_houses) (R0 : Rm M l0 6 172 0 0) (N : Ma M = false) (hn : Mn M = 3) (a0 : Nat) (x1 : Int32) (x2 : Int32) (σ : Dt) (o : (Int32 × Dt)) (h : f_X12_houses a0 x1 x2 σ = some o) (K : Fin' M (some .int) 0 0 SM o.2 (some (vI o.1))) : G M 0 0 0 [(0, vA (some a0)), (1, vI x1), (2, vI x2)] [] SM σ := by
  unfold f_X12_houses at h
  refine g_aload_n O dX12_houses_0 rfl 0 rfl ?_
  refine g_iload_n O dX12_houses_1 rfl 1 rfl ?_
  obtain ⟨a1, e2, h⟩ := bo_some h
  obtain ⟨v3, σ4, e5, h⟩ := bd_some h
  refine g_cV1 O R0 N dX12_houses_2 vl_X12_220 vv_X12_isValley e2 [vI x1] rfl rfl rfl ⟨Nat.le_of_ble_eq_true rfl, Nat.le_of_ble_eq_true rfl⟩ (c_X12_isValley l0 a1 x1 σ v3 σ4 e5) ?_
  refine g_if_ne O dX12_houses_5 rfl (fun c6 => ?_) (fun c6 => ?_)
  · replace h := (if_pos c6).symm.trans h
    refine g_bipush (v := (-2 : Int32)) O dX12_houses_8 rfl ?_
    cases h
    exact g_ireturn O K dX12_houses_10
  · replace h := (if_neg c6).symm.trans h
    refine g_iload_n O dX12_houses_11 rfl 2 rfl ?_
    by_cases c7 : x2 = (0 : Int32)
    · replace h := (if_pos c7).symm.trans h
      refine g_tabIn O dX12_houses_12 (by rw [c7]; decide) (by rw [c7]; decide) (by rw [c7]; rfl) rfl ?_
      refine g_sub [0, 2] (lv' := [(0, vA (some a0)), (2, vI x2)]) rfl ?_
      exact t_X12_houses_64 O R0 N hn a0 x2 σ4 o h K
    replace h := (if_neg c7).symm.trans h
    by_cases c8 : x2 = (1 : Int32)
    · replace h := (if_pos c8).symm.trans h
      refine g_tabIn O dX12_houses_12 (by rw [c8]; decide) (by rw [c8]; decide) (by rw [c8]; rfl) rfl ?_
      refine g_sub [0, 2] (lv' := [(0, vA (some a0)), (2, vI x2)]) rfl ?_
      exact t_X12_houses_64 O R0 N hn a0 x2 σ4 o h K
    replace h := (if_neg c8).symm.trans h
    by_cases c9 : x2 = (2 : Int32)
    · replace h := (if_pos c9).symm.trans h
      refine g_tabIn O dX12_houses_12 (by rw [c9]; decide) (by rw [c9]; decide) (by rw [c9]; rfl) rfl ?_
      refine g_sub [0, 2] (lv' := [(0, vA (some a0)), (2, vI x2)]) rfl ?_
      exact t_X12_houses_79 O R0 N hn a0 x2 σ4 o h K
    replace h := (if_neg c9).symm.trans h
    by_cases c10 : x2 = (3 : Int32)
    · replace h := (if_pos c10).symm.trans h
      refine g_tabIn O dX12_houses_12 (by rw [c10]; decide) (by rw [c10]; decide) (by rw [c10]; rfl) rfl ?_
      refine g_sub [0, 2] (lv' := [(0, vA (some a0)), (2, vI x2)]) rfl ?_
      exact t_X12_houses_79 O R0 N hn a0 x2 σ4 o h K
    replace h := (if_neg c10).symm.trans h
    by_cases c11 : x2 = (4 : Int32)
    · replace h := (if_pos c11).symm.trans h
      refine g_tabIn O dX12_houses_12 (by rw [c11]; decide) (by rw [c11]; decide) (by rw [c11]; rfl) rfl ?_
      refine g_aload_n O dX12_houses_94 rfl 0 rfl ?_
      obtain ⟨a12, e13, h⟩ := bo_some h
      obtain ⟨v14, e15, h⟩ := bo_some h
      refine g_cV1 O R0 N dX12_houses_95 vl_X12_359 vv_X12_cousinsOf e13 [] rfl rfl rfl ⟨Nat.le_of_ble_eq_true rfl, Nat.le_of_ble_eq_true rfl⟩ (c_X12_cousinsOf l0 a12 σ4 v14 e15) ?_
      cases h
      exact g_ireturn O K dX12_houses_98
    replace h := (if_neg c11).symm.trans h
    by_cases c16 : x2 = (5 : Int32)
    · replace h := (if_pos c16).symm.trans h
      refine g_tabIn O dX12_houses_12 (by rw [c16]; decide) (by rw [c16]; decide) (by rw [c16]; rfl) rfl ?_
      refine g_aload_n O dX12_houses_99 rfl 0 rfl ?_
      obtain ⟨a17, e18, h⟩ := bo_some h
      obtain ⟨v19, e20, h⟩ := bo_some h
      refine g_cV1 O R0 N dX12_houses_100 vl_X12_362 vv_X12_burdenOf e18 [] rfl rfl rfl ⟨Nat.le_of_ble_eq_true rfl, Nat.le_of_ble_eq_true rfl⟩ (c_X12_burdenOf l0 a17 σ4 v19 e20) ?_
      cases h
      exact g_ireturn O K dX12_houses_103
    replace h := (if_neg c16).symm.trans h
    by_cases c21 : x2 = (6 : Int32)
    · replace h := (if_pos c21).symm.trans h
      refine g_tabIn O dX12_houses_12 (by rw [c21]; decide) (by rw [c21]; decide) (by rw [c21]; rfl) rfl ?_
      refine g_aload_n O dX12_houses_104 rfl 0 rfl ?_
      obtain ⟨a22, e23, h⟩ := bo_some h
      obtain ⟨v24, e25, h⟩ := bo_some h
      refine g_cV1 O R0 N dX12_houses_105 vl_X12_362 vv_X12_burdenOf e23 [] rfl rfl rfl ⟨Nat.le_of_ble_eq_true rfl, Nat.le_of_ble_eq_true rfl⟩ (c_X12_burdenOf l0 a22 σ4 v24 e25) ?_
      refine g_iconst (v := (-1 : Int32)) O dX12_houses_108 rfl ?_
      refine g_icmp_ne O dX12_houses_109 rfl (fun c26 => ?_) (fun c26 => ?_)
      · replace h := (if_pos c26).symm.trans h
        refine g_iconst (v := (0 : Int32)) O dX12_houses_112 rfl ?_
        refine g_goto O dX12_houses_113 rfl ?_
        cases h
        exact g_ireturn O K dX12_houses_124
      · replace h := (if_neg c26).symm.trans h
        refine g_aload_n O dX12_houses_116 rfl 0 rfl ?_
        refine g_aload_n O dX12_houses_117 rfl 0 rfl ?_
        obtain ⟨a27, e28, h⟩ := bo_some h
        obtain ⟨v29, e30, h⟩ := bo_some h
        refine g_cV1 O R0 N dX12_houses_118 vl_X12_362 vv_X12_burdenOf e28 [] rfl rfl rfl ⟨Nat.le_of_ble_eq_true rfl, Nat.le_of_ble_eq_true rfl⟩ (c_X12_burdenOf l0 a27 σ4 v29 e30) ?_
        obtain ⟨a31, e32, h⟩ := bo_some h
        obtain ⟨v33, e34, h⟩ := bo_some h
        refine g_cV1 O R0 N dX12_houses_121 vl_X12_346 vv_X12_weighsOn e32 [vI v29] rfl rfl rfl ⟨Nat.le_of_ble_eq_true rfl, Nat.le_of_ble_eq_true rfl⟩ (c_X12_weighsOn l0 a31 v29 σ4 v33 e34) ?_
        cases h
        exact g_ireturn O K dX12_houses_124
    replace h := (if_neg c21).symm.trans h
    by_cases c35 : x2 = (7 : Int32)
    · replace h := (if_pos c35).symm.trans h
      refine g_tabIn O dX12_houses_12 (by rw [c35]; decide) (by rw [c35]; decide) (by rw [c35]; rfl) rfl ?_
      refine g_aload_n O dX12_houses_125 rfl 0 rfl ?_
      obtain ⟨a36, e37, h⟩ := bo_some h
      obtain ⟨v38, e39, h⟩ := bo_some h
      refine g_cV1 O R0 N dX12_houses_126 vl_X12_365 vv_X12_watchOf e37 [] rfl rfl rfl ⟨Nat.le_of_ble_eq_true rfl, Nat.le_of_ble_eq_true rfl⟩ (c_X12_watchOf l0 a36 σ4 v38 e39) ?_
      obtain ⟨v40, e41, h⟩ := bo_some h
      refine g_cS1 O R0 N dX12_houses_129 vl_X12_183 w1701 [vI v38] rfl rfl rfl ⟨Nat.le_of_ble_eq_true rfl, Nat.le_of_ble_eq_true rfl⟩ (c_X12_bitsOf l0 v38 σ4 v40 e41) ?_
      cases h
      exact g_ireturn O K dX12_houses_132
    replace h := (if_neg c35).symm.trans h
    by_cases c42 : x2 = (8 : Int32)
    · replace h := (if_pos c42).symm.trans h
      refine g_tabIn O dX12_houses_12 (by rw [c42]; decide) (by rw [c42]; decide) (by rw [c42]; rfl) rfl ?_
      refine g_aload_n O dX12_houses_133 rfl 0 rfl ?_
      obtain ⟨a43, e44, h⟩ := bo_some h
      obtain ⟨v45, e46, h⟩ := bo_some h
      refine g_cV1 O R0 N dX12_houses_134 vl_X12_365 vv_X12_watchOf e44 [] rfl rfl rfl ⟨Nat.le_of_ble_eq_true rfl, Nat.le_of_ble_eq_true rfl⟩ (c_X12_watchOf l0 a43 σ4 v45 e46) ?_
      cases h
      exact g_ireturn O K dX12_houses_137
    replace h := (if_neg c42).symm.trans h
    refine g_tabOut O dX12_houses_12 (tab_out [(0 : Int32), (1 : Int32), (2 : Int32), (3 : Int32), (4 : Int32), (5 : Int32), (6 : Int32), (7 : Int32), (8 : Int32)] (fun z h1 h2 => ?_) (fun c hc => ?_)) rfl ?_
    · have hz : z = 0 ∨ z = 1 ∨ z = 2 ∨ z = 3 ∨ z = 4 ∨ z = 5 ∨ z = 6 ∨ z = 7 ∨ z = 8 := by omega
      rcases hz with rfl | rfl | rfl | rfl | rfl | rfl | rfl | rfl | rfl
      · exact ⟨(0 : Int32), by simp, rfl⟩
      · exact ⟨(1 : Int32), by simp, rfl⟩
      · exact ⟨(2 : Int32), by simp, rfl⟩
      · exact ⟨(3 : Int32), by simp, rfl⟩
      · exact ⟨(4 : Int32), by simp, rfl⟩
      · exact ⟨(5 : Int32), by simp, rfl⟩
      · exact ⟨(6 : Int32), by simp, rfl⟩
      · exact ⟨(7 : Int32), by simp, rfl⟩
      · exact ⟨(8 : Int32), by simp, rfl⟩
    · simp only [List.mem_cons, List.not_mem_nil, or_false] at hc
      rcases hc with rfl | rfl | rfl | rfl | rfl | rfl | rfl | rfl | rfl <;> assumption
    refine g_bipush (v := (-2 : Int32)) O dX12_houses_138 rfl ?_
    cases h
    exact g_ireturn O K dX12_houses_140
theorem c_X12_houses (l0 : Launch) (a0 : Nat) (x1 : Int32) (x2 : Int32) (σ : Dt) (r : Int32) (σ' : Dt) (h : f_X12_houses a0 x1 x2 σ = some (r, σ')) : Ctr l0 yX12_houses cX12_houses 3 (some .int) false 6 172 0 0 [vA (some a0), vI x1, vI x2] SM σ SM σ' (some (vI r)) := ctr_of (by decide) (Nat.le_of_ble_eq_true rfl) (fun M O F R0 N hn => t_X12_houses O R0 N hn a0 x1 x2 σ (r, σ') h F)
def P_X12_neverOf_18 (M : Mx) (a0 : Nat) (x1 : Int32) (x2 : Int32) (x3 : Int32) (σ : Dt) (s : (Int32 × Int32)) : Prop := G M 0 0 18 [(0, vA (some a0)), (1, vI x1), (2, vI x2), (3, vI x3), (4, vI s.1), (5, vI s.2)] [] SM σ
def E_X12_neverOf_18 (M : Mx) (a0 : Nat) (x1 : Int32) (x2 : Int32) (x3 : Int32) (σ : Dt) : Int32 → Prop := (fun w => G M 0 0 56 [(0, vA (some a0)), (1, vI x1), (2, vI x2), (3, vI x3), (4, vI w)] [] SM σ)
def f_X12_neverOf_48 (a0 : Nat) (x1 : Int32) (x2 : Int32) (x3 : Int32) (x5 : Int32) (k0 : Int32) (σ : Dt) : Option ((Int32 × Int32) ⊕ Int32) := some (.inl (k0, (x5 + (1 : Int32))))
theorem t_X12_neverOf_48 {M : Mx} {l0 : Launch} (O : Ok M cX12_neverOf yX12_neverOf) (R0 : Rm M l0 5 148 0 0) (N : Ma M = false) (hn : Mn M = 6)  (a0 : Nat) (x1 : Int32) (x2 : Int32) (x3 : Int32) (x5 : Int32) (k0 : Int32) (σ : Dt) (o : ((Int32 × Int32) ⊕ Int32)) (h : f_X12_neverOf_48 a0 x1 x2 x3 x5 k0 σ = some o) (K : kon (P_X12_neverOf_18 M a0 x1 x2 x3 σ) (E_X12_neverOf_18 M a0 x1 x2 x3 σ) o) : G M 0 0 48 [(0, vA (some a0)), (1, vI x1), (2, vI x2), (3, vI x3), (5, vI x5)] [vI k0] SM σ := by
  unfold f_X12_neverOf_48 at h
  refine g_istore (lv' := [(4, vI k0), (0, vA (some a0)), (1, vI x1), (2, vI x2), (3, vI x3), (5, vI x5)]) O dX12_neverOf_48 6 hn (by decide) rfl ?_
  refine g_iinc (v := (x5 + (1 : Int32))) (lv' := [(5, vI (x5 + (1 : Int32))), (4, vI k0), (0, vA (some a0)), (1, vI x1), (2, vI x2), (3, vI x3)]) O dX12_neverOf_50 6 hn (by decide) 5 rfl rfl rfl ?_
  refine g_goto O dX12_neverOf_53 rfl ?_
  refine g_sub [2, 3, 4, 5, 1, 0] (lv' := [(0, vA (some a0)), (1, vI x1), (2, vI x2), (3, vI x3), (4, vI k0), (5, vI (x5 + (1 : Int32)))]) rfl ?_
  cases h
  exact K
def f_X12_neverOf_43 (a0 : Nat) (x1 : Int32) (x2 : Int32) (x3 : Int32) (x5 : Int32) (σ : Dt) : Option ((Int32 × Int32) ⊕ Int32) := f_X12_neverOf_48 a0 x1 x2 x3 x5 (1 : Int32) σ
theorem t_X12_neverOf_43 {M : Mx} {l0 : Launch} (O : Ok M cX12_neverOf yX12_neverOf) (R0 : Rm M l0 5 148 0 0) (N : Ma M = false) (hn : Mn M = 6)  (a0 : Nat) (x1 : Int32) (x2 : Int32) (x3 : Int32) (x5 : Int32) (σ : Dt) (o : ((Int32 × Int32) ⊕ Int32)) (h : f_X12_neverOf_43 a0 x1 x2 x3 x5 σ = some o) (K : kon (P_X12_neverOf_18 M a0 x1 x2 x3 σ) (E_X12_neverOf_18 M a0 x1 x2 x3 σ) o) : G M 0 0 43 [(0, vA (some a0)), (1, vI x1), (2, vI x2), (3, vI x3), (5, vI x5)] [] SM σ := by
  unfold f_X12_neverOf_43 at h
  refine g_iconst (v := (1 : Int32)) O dX12_neverOf_43 rfl ?_
  refine g_goto O dX12_neverOf_44 rfl ?_
  exact t_X12_neverOf_48 O R0 N hn a0 x1 x2 x3 x5 (1 : Int32) σ o h K
def f_X12_neverOf_L18 (a0 : Nat) (x1 : Int32) (x2 : Int32) (x3 : Int32) (x4 : Int32) (x5 : Int32) (σ : Dt) : Option ((Int32 × Int32) ⊕ Int32) := bo (xgi SM 12 12 (some a0) σ) fun v1 => if v1 ≤ x5 then some (.inr x4) else if x4 = 0 then bo (xrc SM 12 (some a0)) fun a5 => bo (f_X12_keeps a5 x5 x3 x1 σ) fun v7 => if v7 = 0 then f_X12_neverOf_48 a0 x1 x2 x3 x5 (0 : Int32) σ else f_X12_neverOf_43 a0 x1 x2 x3 x5 σ else f_X12_neverOf_43 a0 x1 x2 x3 x5 σ
theorem t_X12_neverOf_L18 {M : Mx} {l0 : Launch} (O : Ok M cX12_neverOf yX12_neverOf) (R0 : Rm M l0 5 148 0 0) (N : Ma M = false) (hn : Mn M = 6) (a0 : Nat) (x1 : Int32) (x2 : Int32) (x3 : Int32) (x4 : Int32) (x5 : Int32) (σ : Dt) (o : ((Int32 × Int32) ⊕ Int32)) (h : f_X12_neverOf_L18 a0 x1 x2 x3 x4 x5 σ = some o) (K : kon (P_X12_neverOf_18 M a0 x1 x2 x3 σ) (E_X12_neverOf_18 M a0 x1 x2 x3 σ) o) : G M 0 0 18 [(0, vA (some a0)), (1, vI x1), (2, vI x2), (3, vI x3), (4, vI x4), (5, vI x5)] [] SM σ := by
  unfold f_X12_neverOf_L18 at h
  refine g_iload O dX12_neverOf_18 5 rfl ?_
  refine g_aload_n O dX12_neverOf_20 rfl 0 rfl ?_
  obtain ⟨v1, e2, h⟩ := bo_some h
  refine g_getI O dX12_neverOf_21 fl_X12_211 rfl e2 ?_
  refine g_icmp_ge O dX12_neverOf_24 rfl (fun c3 => ?_) (fun c3 => ?_)
  · replace h := (if_pos c3).symm.trans h
    refine g_sub [0, 1, 2, 3, 4] (lv' := [(0, vA (some a0)), (1, vI x1), (2, vI x2), (3, vI x3), (4, vI x4)]) rfl ?_
    cases h
    exact K
  · replace h := (if_neg c3).symm.trans h
    refine g_iload O dX12_neverOf_27 4 rfl ?_
    refine g_if_ne O dX12_neverOf_29 rfl (fun c4 => ?_) (fun c4 => ?_)
    · replace h := (if_pos c4).symm.trans h
      refine g_aload_n O dX12_neverOf_32 rfl 0 rfl ?_
      refine g_iload O dX12_neverOf_33 5 rfl ?_
      refine g_iload_n O dX12_neverOf_35 rfl 3 rfl ?_
      refine g_iload_n O dX12_neverOf_36 rfl 1 rfl ?_
      obtain ⟨a5, e6, h⟩ := bo_some h
      obtain ⟨v7, e8, h⟩ := bo_some h
      refine g_cV1 O R0 N dX12_neverOf_37 vl_X12_254 vv_X12_keeps e6 [vI x5, vI x3, vI x1] rfl rfl rfl ⟨Nat.le_of_ble_eq_true rfl, Nat.le_of_ble_eq_true rfl⟩ (c_X12_keeps l0 a5 x5 x3 x1 σ v7 e8) ?_
      refine g_if_eq O dX12_neverOf_40 rfl (fun c9 => ?_) (fun c9 => ?_)
      · replace h := (if_pos c9).symm.trans h
        refine g_iconst (v := (0 : Int32)) O dX12_neverOf_47 rfl ?_
        refine g_sub [0, 1, 2, 3, 5] (lv' := [(0, vA (some a0)), (1, vI x1), (2, vI x2), (3, vI x3), (5, vI x5)]) rfl ?_
        exact t_X12_neverOf_48 O R0 N hn a0 x1 x2 x3 x5 (0 : Int32) σ o h K
      · replace h := (if_neg c9).symm.trans h
        refine g_sub [0, 1, 2, 3, 5] (lv' := [(0, vA (some a0)), (1, vI x1), (2, vI x2), (3, vI x3), (5, vI x5)]) rfl ?_
        exact t_X12_neverOf_43 O R0 N hn a0 x1 x2 x3 x5 σ o h K
    · replace h := (if_neg c4).symm.trans h
      refine g_sub [0, 1, 2, 3, 5] (lv' := [(0, vA (some a0)), (1, vI x1), (2, vI x2), (3, vI x3), (5, vI x5)]) rfl ?_
      exact t_X12_neverOf_43 O R0 N hn a0 x1 x2 x3 x5 σ o h K
def P_X12_neverOf_4 (M : Mx) (a0 : Nat) (x1 : Int32) (σ : Dt) (s : (Int32 × Int32)) : Prop := G M 0 0 4 [(0, vA (some a0)), (1, vI x1), (2, vI s.1), (3, vI s.2)] [] SM σ
def E_X12_neverOf_4 (M : Mx) (a0 : Nat) (x1 : Int32) (σ : Dt) : Int32 → Prop := (fun w => G M 0 0 77 [(2, vI w)] [] SM σ)
def f_X12_neverOf_69 (a0 : Nat) (x1 : Int32) (x3 : Int32) (k0 : Int32) (k1 : Int32) (σ : Dt) : Option ((Int32 × Int32) ⊕ Int32) := some (.inl ((k0 ||| k1), (x3 + (1 : Int32))))
theorem t_X12_neverOf_69 {M : Mx} {l0 : Launch} (O : Ok M cX12_neverOf yX12_neverOf) (R0 : Rm M l0 5 148 0 0) (N : Ma M = false) (hn : Mn M = 6)  (a0 : Nat) (x1 : Int32) (x3 : Int32) (k0 : Int32) (k1 : Int32) (σ : Dt) (o : ((Int32 × Int32) ⊕ Int32)) (h : f_X12_neverOf_69 a0 x1 x3 k0 k1 σ = some o) (K : kon (P_X12_neverOf_4 M a0 x1 σ) (E_X12_neverOf_4 M a0 x1 σ) o) : G M 0 0 69 [(0, vA (some a0)), (1, vI x1), (3, vI x3)] [vI k1, vI k0] SM σ := by
  unfold f_X12_neverOf_69 at h
  refine g_ior O dX12_neverOf_69 ?_
  refine g_istore_n (lv' := [(2, vI (k0 ||| k1)), (0, vA (some a0)), (1, vI x1), (3, vI x3)]) O dX12_neverOf_70 rfl 6 hn (by decide) rfl ?_
  refine g_iinc (v := (x3 + (1 : Int32))) (lv' := [(3, vI (x3 + (1 : Int32))), (2, vI (k0 ||| k1)), (0, vA (some a0)), (1, vI x1)]) O dX12_neverOf_71 6 hn (by decide) 3 rfl rfl rfl ?_
  refine g_goto O dX12_neverOf_74 rfl ?_
  refine g_sub [2, 3, 1, 0] (lv' := [(0, vA (some a0)), (1, vI x1), (2, vI (k0 ||| k1)), (3, vI (x3 + (1 : Int32)))]) rfl ?_
  cases h
  exact K
def f_X12_neverOf_L4 (a0 : Nat) (x1 : Int32) (x2 : Int32) (x3 : Int32) (σ : Dt) : Option ((Int32 × Int32) ⊕ Int32) := bo (xgi SM 12 13 (some a0) σ) fun v1 => if v1 ≤ x3 then some (.inr x2) else bo (iter FU (fun s => f_X12_neverOf_L18 a0 x1 x2 x3 s.1 s.2 σ) ((0 : Int32), (0 : Int32))) fun w4 => if w4 = 0 then f_X12_neverOf_69 a0 x1 x3 x2 ((1 : Int32) <<< (x3 &&& 31)) σ else f_X12_neverOf_69 a0 x1 x3 x2 (0 : Int32) σ
theorem t_X12_neverOf_L4 {M : Mx} {l0 : Launch} (O : Ok M cX12_neverOf yX12_neverOf) (R0 : Rm M l0 5 148 0 0) (N : Ma M = false) (hn : Mn M = 6) (a0 : Nat) (x1 : Int32) (x2 : Int32) (x3 : Int32) (σ : Dt) (o : ((Int32 × Int32) ⊕ Int32)) (h : f_X12_neverOf_L4 a0 x1 x2 x3 σ = some o) (K : kon (P_X12_neverOf_4 M a0 x1 σ) (E_X12_neverOf_4 M a0 x1 σ) o) : G M 0 0 4 [(0, vA (some a0)), (1, vI x1), (2, vI x2), (3, vI x3)] [] SM σ := by
  unfold f_X12_neverOf_L4 at h
  refine g_iload_n O dX12_neverOf_4 rfl 3 rfl ?_
  refine g_aload_n O dX12_neverOf_5 rfl 0 rfl ?_
  obtain ⟨v1, e2, h⟩ := bo_some h
  refine g_getI O dX12_neverOf_6 fl_X12_214 rfl e2 ?_
  refine g_icmp_ge O dX12_neverOf_9 rfl (fun c3 => ?_) (fun c3 => ?_)
  · replace h := (if_pos c3).symm.trans h
    refine g_sub [2] (lv' := [(2, vI x2)]) rfl ?_
    cases h
    exact K
  · replace h := (if_neg c3).symm.trans h
    refine g_iconst (v := (0 : Int32)) O dX12_neverOf_12 rfl ?_
    refine g_istore (lv' := [(4, vI (0 : Int32)), (0, vA (some a0)), (1, vI x1), (2, vI x2), (3, vI x3)]) O dX12_neverOf_13 6 hn (by decide) rfl ?_
    refine g_iconst (v := (0 : Int32)) O dX12_neverOf_15 rfl ?_
    refine g_istore (lv' := [(5, vI (0 : Int32)), (4, vI (0 : Int32)), (0, vA (some a0)), (1, vI x1), (2, vI x2), (3, vI x3)]) O dX12_neverOf_16 6 hn (by decide) rfl ?_
    refine g_sub [2, 3, 4, 5, 1, 0] (lv' := [(0, vA (some a0)), (1, vI x1), (2, vI x2), (3, vI x3), (4, vI (0 : Int32)), (5, vI (0 : Int32))]) rfl ?_
    obtain ⟨w4, e5, h⟩ := bo_some h
    refine iter_G (P := P_X12_neverOf_18 M a0 x1 x2 x3 σ) (E := E_X12_neverOf_18 M a0 x1 x2 x3 σ) (fun s o hb hk => t_X12_neverOf_L18 O R0 N hn a0 x1 x2 x3 s.1 s.2 σ o hb hk) FU ((0 : Int32), (0 : Int32)) w4 e5 ?_
    show G M 0 0 56 [(0, vA (some a0)), (1, vI x1), (2, vI x2), (3, vI x3), (4, vI w4)] [] SM σ
    refine g_iload_n O dX12_neverOf_56 rfl 2 rfl ?_
    refine g_iload O dX12_neverOf_57 4 rfl ?_
    refine g_if_eq O dX12_neverOf_59 rfl (fun c6 => ?_) (fun c6 => ?_)
    · replace h := (if_pos c6).symm.trans h
      refine g_iconst (v := (1 : Int32)) O dX12_neverOf_66 rfl ?_
      refine g_iload_n O dX12_neverOf_67 rfl 3 rfl ?_
      refine g_ishl O dX12_neverOf_68 ?_
      refine g_sub [0, 1, 3] (lv' := [(0, vA (some a0)), (1, vI x1), (3, vI x3)]) rfl ?_
      exact t_X12_neverOf_69 O R0 N hn a0 x1 x3 x2 ((1 : Int32) <<< (x3 &&& 31)) σ o h K
    · replace h := (if_neg c6).symm.trans h
      refine g_iconst (v := (0 : Int32)) O dX12_neverOf_62 rfl ?_
      refine g_goto O dX12_neverOf_63 rfl ?_
      refine g_sub [0, 1, 3] (lv' := [(0, vA (some a0)), (1, vI x1), (3, vI x3)]) rfl ?_
      exact t_X12_neverOf_69 O R0 N hn a0 x1 x3 x2 (0 : Int32) σ o h K
def f_X12_neverOf (a0 : Nat) (x1 : Int32) (σ : Dt) : Option Int32 := bo (iter FU (fun s => f_X12_neverOf_L4 a0 x1 s.1 s.2 σ) ((0 : Int32), (0 : Int32))) fun w1 => some w1
theorem t_X12_neverOf {M : Mx} {l0 : Launch} (O : Ok M cX12_neverOf yX12_neverOf) (R0 : Rm M l0 5 148 0 0) (N : Ma M = false) (hn : Mn M = 6) (a0 : Nat) (x1 : Int32) (σ : Dt) (o : Int32) (h : f_X12_neverOf a0 x1 σ = some o) (K : Fin' M (some .int) 0 0 SM σ (some (vI o))) : G M 0 0 0 [(0, vA (some a0)), (1, vI x1)] [] SM σ := by
  unfold f_X12_neverOf at h
  refine g_iconst (v := (0 : Int32)) O dX12_neverOf_0 rfl ?_
  refine g_istore_n (lv' := [(2, vI (0 : Int32)), (0, vA (some a0)), (1, vI x1)]) O dX12_neverOf_1 rfl 6 hn (by decide) rfl ?_
  refine g_iconst (v := (0 : Int32)) O dX12_neverOf_2 rfl ?_
  refine g_istore_n (lv' := [(3, vI (0 : Int32)), (2, vI (0 : Int32)), (0, vA (some a0)), (1, vI x1)]) O dX12_neverOf_3 rfl 6 hn (by decide) rfl ?_
  refine g_sub [2, 3, 1, 0] (lv' := [(0, vA (some a0)), (1, vI x1), (2, vI (0 : Int32)), (3, vI (0 : Int32))]) rfl ?_
  obtain ⟨w1, e2, h⟩ := bo_some h
  refine iter_G (P := P_X12_neverOf_4 M a0 x1 σ) (E := E_X12_neverOf_4 M a0 x1 σ) (fun s o hb hk => t_X12_neverOf_L4 O R0 N hn a0 x1 s.1 s.2 σ o hb hk) FU ((0 : Int32), (0 : Int32)) w1 e2 ?_
  show G M 0 0 77 [(2, vI w1)] [] SM σ
  refine g_iload_n O dX12_neverOf_77 rfl 0 rfl ?_
  cases h
  exact g_ireturn O K dX12_neverOf_78
theorem c_X12_neverOf (l0 : Launch) (a0 : Nat) (x1 : Int32) (σ : Dt) (r : Int32) (h : f_X12_neverOf a0 x1 σ = some r) : Ctr l0 yX12_neverOf cX12_neverOf 6 (some .int) false 5 148 0 0 [vA (some a0), vI x1] SM σ SM σ (some (vI r)) := ctr_of (by decide) (Nat.le_of_ble_eq_true rfl) (fun M O F R0 N hn => t_X12_neverOf O R0 N hn a0 x1 σ r h F)
def P_X12_laysKept_2 (M : Mx) (a0 : Nat) (x1 : Int32) (s : (Int32 × Dt)) : Prop := G M 0 0 2 [(0, vA (some a0)), (1, vI x1), (2, vI s.1)] [] SM s.2
def E_X12_laysKept_2 (M : Mx) (a0 : Nat) (x1 : Int32) : Dt → Prop := (fun w => G M 0 0 29 [(0, vA (some a0)), (1, vI x1)] [] SM w)
def f_X12_laysKept_22 (a0 : Nat) (x1 : Int32) (x2 : Int32) (k0 : Option Nat) (k1 : Int32) (k2 : Int32) (σ : Dt) : Option ((Int32 × Dt) ⊕ Dt) := bo (xsz SM k0 k1 k2 σ) fun σ1 => some (.inl ((x2 + (1 : Int32)), σ1))
theorem t_X12_laysKept_22 {M : Mx} {l0 : Launch} (O : Ok M cX12_laysKept yX12_laysKept) (R0 : Rm M l0 5 148 0 0) (N : Ma M = false) (hn : Mn M = 5)  (a0 : Nat) (x1 : Int32) (x2 : Int32) (k0 : Option Nat) (k1 : Int32) (k2 : Int32) (σ : Dt) (o : ((Int32 × Dt) ⊕ Dt)) (h : f_X12_laysKept_22 a0 x1 x2 k0 k1 k2 σ = some o) (K : kon (P_X12_laysKept_2 M a0 x1) (E_X12_laysKept_2 M a0 x1) o) : G M 0 0 22 [(0, vA (some a0)), (1, vI x1), (2, vI x2)] [vI k2, vI k1, vA k0] SM σ := by
  unfold f_X12_laysKept_22 at h
  obtain ⟨σ1, e2, h⟩ := bo_some h
  refine g_bastore O N dX12_laysKept_22 e2 ?_
  refine g_iinc (v := (x2 + (1 : Int32))) (lv' := [(2, vI (x2 + (1 : Int32))), (0, vA (some a0)), (1, vI x1)]) O dX12_laysKept_23 5 hn (by decide) 2 rfl rfl rfl ?_
  refine g_goto O dX12_laysKept_26 rfl ?_
  refine g_sub [1, 2, 0] (lv' := [(0, vA (some a0)), (1, vI x1), (2, vI (x2 + (1 : Int32)))]) rfl ?_
  cases h
  exact K
def f_X12_laysKept_L2 (a0 : Nat) (x1 : Int32) (x2 : Int32) (σ : Dt) : Option ((Int32 × Dt) ⊕ Dt) := if (64 : Int32) ≤ x2 then some (.inr σ) else bo (xgr SM 12 25 (some a0) σ) fun v2 => if x2 = 0 then f_X12_laysKept_22 a0 x1 x2 v2 x2 (1 : Int32) σ else f_X12_laysKept_22 a0 x1 x2 v2 x2 (0 : Int32) σ
theorem t_X12_laysKept_L2 {M : Mx} {l0 : Launch} (O : Ok M cX12_laysKept yX12_laysKept) (R0 : Rm M l0 5 148 0 0) (N : Ma M = false) (hn : Mn M = 5) (a0 : Nat) (x1 : Int32) (x2 : Int32) (σ : Dt) (o : ((Int32 × Dt) ⊕ Dt)) (h : f_X12_laysKept_L2 a0 x1 x2 σ = some o) (K : kon (P_X12_laysKept_2 M a0 x1) (E_X12_laysKept_2 M a0 x1) o) : G M 0 0 2 [(0, vA (some a0)), (1, vI x1), (2, vI x2)] [] SM σ := by
  unfold f_X12_laysKept_L2 at h
  refine g_iload_n O dX12_laysKept_2 rfl 2 rfl ?_
  refine g_bipush (v := (64 : Int32)) O dX12_laysKept_3 rfl ?_
  refine g_icmp_ge O dX12_laysKept_5 rfl (fun c1 => ?_) (fun c1 => ?_)
  · replace h := (if_pos c1).symm.trans h
    refine g_sub [0, 1] (lv' := [(0, vA (some a0)), (1, vI x1)]) rfl ?_
    cases h
    exact K
  · replace h := (if_neg c1).symm.trans h
    refine g_aload_n O dX12_laysKept_8 rfl 0 rfl ?_
    obtain ⟨v2, e3, h⟩ := bo_some h
    refine g_getR O dX12_laysKept_9 fl_X12_52 rfl e3 ?_
    refine g_iload_n O dX12_laysKept_12 rfl 2 rfl ?_
    refine g_iload_n O dX12_laysKept_13 rfl 2 rfl ?_
    refine g_if_ne O dX12_laysKept_14 rfl (fun c4 => ?_) (fun c4 => ?_)
    · replace h := (if_pos c4).symm.trans h
      refine g_iconst (v := (1 : Int32)) O dX12_laysKept_17 rfl ?_
      refine g_goto O dX12_laysKept_18 rfl ?_
      exact t_X12_laysKept_22 O R0 N hn a0 x1 x2 v2 x2 (1 : Int32) σ o h K
    · replace h := (if_neg c4).symm.trans h
      refine g_iconst (v := (0 : Int32)) O dX12_laysKept_21 rfl ?_
      exact t_X12_laysKept_22 O R0 N hn a0 x1 x2 v2 x2 (0 : Int32) σ o h K
def P_X12_laysKept_49 (M : Mx) (a0 : Nat) (x1 : Int32) (x2 : Int32) (x3 : Int32) (s : (Int32 × Dt)) : Prop := G M 0 0 49 [(0, vA (some a0)), (1, vI x1), (2, vI x2), (3, vI x3), (4, vI s.1)] [] SM s.2
def E_X12_laysKept_49 (M : Mx) (a0 : Nat) (x1 : Int32) (x2 : Int32) (x3 : Int32) : Dt → Prop := (fun w => G M 0 0 120 [(0, vA (some a0)), (1, vI x1), (2, vI x2), (3, vI x3)] [] SM w)
def f_X12_laysKept_113 (a0 : Nat) (x1 : Int32) (x2 : Int32) (x3 : Int32) (x4 : Int32) (k0 : Option Nat) (k1 : Int32) (k2 : Int32) (σ : Dt) : Option ((Int32 × Dt) ⊕ Dt) := bo (xsz SM k0 k1 k2 σ) fun σ1 => some (.inl ((x4 + (1 : Int32)), σ1))
theorem t_X12_laysKept_113 {M : Mx} {l0 : Launch} (O : Ok M cX12_laysKept yX12_laysKept) (R0 : Rm M l0 5 148 0 0) (N : Ma M = false) (hn : Mn M = 5)  (a0 : Nat) (x1 : Int32) (x2 : Int32) (x3 : Int32) (x4 : Int32) (k0 : Option Nat) (k1 : Int32) (k2 : Int32) (σ : Dt) (o : ((Int32 × Dt) ⊕ Dt)) (h : f_X12_laysKept_113 a0 x1 x2 x3 x4 k0 k1 k2 σ = some o) (K : kon (P_X12_laysKept_49 M a0 x1 x2 x3) (E_X12_laysKept_49 M a0 x1 x2 x3) o) : G M 0 0 113 [(0, vA (some a0)), (1, vI x1), (2, vI x2), (3, vI x3), (4, vI x4)] [vI k2, vI k1, vA k0] SM σ := by
  unfold f_X12_laysKept_113 at h
  obtain ⟨σ1, e2, h⟩ := bo_some h
  refine g_bastore O N dX12_laysKept_113 e2 ?_
  refine g_iinc (v := (x4 + (1 : Int32))) (lv' := [(4, vI (x4 + (1 : Int32))), (0, vA (some a0)), (1, vI x1), (2, vI x2), (3, vI x3)]) O dX12_laysKept_114 5 hn (by decide) 4 rfl rfl rfl ?_
  refine g_goto O dX12_laysKept_117 rfl ?_
  refine g_sub [1, 2, 3, 4, 0] (lv' := [(0, vA (some a0)), (1, vI x1), (2, vI x2), (3, vI x3), (4, vI (x4 + (1 : Int32)))]) rfl ?_
  cases h
  exact K
def f_X12_laysKept_112 (a0 : Nat) (x1 : Int32) (x2 : Int32) (x3 : Int32) (x4 : Int32) (k0 : Option Nat) (k1 : Int32) (σ : Dt) : Option ((Int32 × Dt) ⊕ Dt) := f_X12_laysKept_113 a0 x1 x2 x3 x4 k0 k1 (0 : Int32) σ
theorem t_X12_laysKept_112 {M : Mx} {l0 : Launch} (O : Ok M cX12_laysKept yX12_laysKept) (R0 : Rm M l0 5 148 0 0) (N : Ma M = false) (hn : Mn M = 5)  (a0 : Nat) (x1 : Int32) (x2 : Int32) (x3 : Int32) (x4 : Int32) (k0 : Option Nat) (k1 : Int32) (σ : Dt) (o : ((Int32 × Dt) ⊕ Dt)) (h : f_X12_laysKept_112 a0 x1 x2 x3 x4 k0 k1 σ = some o) (K : kon (P_X12_laysKept_49 M a0 x1 x2 x3) (E_X12_laysKept_49 M a0 x1 x2 x3) o) : G M 0 0 112 [(0, vA (some a0)), (1, vI x1), (2, vI x2), (3, vI x3), (4, vI x4)] [vI k1, vA k0] SM σ := by
  unfold f_X12_laysKept_112 at h
  refine g_iconst (v := (0 : Int32)) O dX12_laysKept_112 rfl ?_
  exact t_X12_laysKept_113 O R0 N hn a0 x1 x2 x3 x4 k0 k1 (0 : Int32) σ o h K
def f_X12_laysKept_108 (a0 : Nat) (x1 : Int32) (x2 : Int32) (x3 : Int32) (x4 : Int32) (k0 : Option Nat) (k1 : Int32) (σ : Dt) : Option ((Int32 × Dt) ⊕ Dt) := f_X12_laysKept_113 a0 x1 x2 x3 x4 k0 k1 (1 : Int32) σ
theorem t_X12_laysKept_108 {M : Mx} {l0 : Launch} (O : Ok M cX12_laysKept yX12_laysKept) (R0 : Rm M l0 5 148 0 0) (N : Ma M = false) (hn : Mn M = 5)  (a0 : Nat) (x1 : Int32) (x2 : Int32) (x3 : Int32) (x4 : Int32) (k0 : Option Nat) (k1 : Int32) (σ : Dt) (o : ((Int32 × Dt) ⊕ Dt)) (h : f_X12_laysKept_108 a0 x1 x2 x3 x4 k0 k1 σ = some o) (K : kon (P_X12_laysKept_49 M a0 x1 x2 x3) (E_X12_laysKept_49 M a0 x1 x2 x3) o) : G M 0 0 108 [(0, vA (some a0)), (1, vI x1), (2, vI x2), (3, vI x3), (4, vI x4)] [vI k1, vA k0] SM σ := by
  unfold f_X12_laysKept_108 at h
  refine g_iconst (v := (1 : Int32)) O dX12_laysKept_108 rfl ?_
  refine g_goto O dX12_laysKept_109 rfl ?_
  exact t_X12_laysKept_113 O R0 N hn a0 x1 x2 x3 x4 k0 k1 (1 : Int32) σ o h K
def f_X12_laysKept_L49 (a0 : Nat) (x1 : Int32) (x2 : Int32) (x3 : Int32) (x4 : Int32) (σ : Dt) : Option ((Int32 × Dt) ⊕ Dt) := bo (xgi SM 12 13 (some a0) σ) fun v1 => if v1 ≤ x4 then some (.inr σ) else bo (xgr SM 12 25 (some a0) σ) fun v4 => bo (xgr SM 12 25 (some a0) σ) fun v6 => bo (xaz SM v6 x3 σ) fun v8 => if v8 = 0 then bo (f_X12_isAmong x3 x4 σ) fun v11 => if v11 = 0 then f_X12_laysKept_112 a0 x1 x2 x3 x4 v4 x3 σ else bo (xgr SM 12 25 (some a0) σ) fun v14 => bo (xaz SM v14 (x3 &&& (((1 : Int32) <<< (x4 &&& 31)) ^^^ (-1 : Int32))) σ) fun v16 => if v16 = 0 then f_X12_laysKept_112 a0 x1 x2 x3 x4 v4 x3 σ else bo (xrc SM 12 (some a0)) fun a19 => bo (f_X12_keeps a19 x2 x4 x1 σ) fun v21 => if v21 = 0 then f_X12_laysKept_112 a0 x1 x2 x3 x4 v4 x3 σ else f_X12_laysKept_108 a0 x1 x2 x3 x4 v4 x3 σ else f_X12_laysKept_108 a0 x1 x2 x3 x4 v4 x3 σ
theorem t_X12_laysKept_L49 {M : Mx} {l0 : Launch} (O : Ok M cX12_laysKept yX12_laysKept) (R0 : Rm M l0 5 148 0 0) (N : Ma M = false) (hn : Mn M = 5) (a0 : Nat) (x1 : Int32) (x2 : Int32) (x3 : Int32) (x4 : Int32) (σ : Dt) (o : ((Int32 × Dt) ⊕ Dt)) (h : f_X12_laysKept_L49 a0 x1 x2 x3 x4 σ = some o) (K : kon (P_X12_laysKept_49 M a0 x1 x2 x3) (E_X12_laysKept_49 M a0 x1 x2 x3) o) : G M 0 0 49 [(0, vA (some a0)), (1, vI x1), (2, vI x2), (3, vI x3), (4, vI x4)] [] SM σ := by
  unfold f_X12_laysKept_L49 at h
  refine g_iload O dX12_laysKept_49 4 rfl ?_
  refine g_aload_n O dX12_laysKept_51 rfl 0 rfl ?_
  obtain ⟨v1, e2, h⟩ := bo_some h
  refine g_getI O dX12_laysKept_52 fl_X12_214 rfl e2 ?_
  refine g_icmp_ge O dX12_laysKept_55 rfl (fun c3 => ?_) (fun c3 => ?_)
  · replace h := (if_pos c3).symm.trans h
    refine g_sub [0, 1, 2, 3] (lv' := [(0, vA (some a0)), (1, vI x1), (2, vI x2), (3, vI x3)]) rfl ?_
    cases h
    exact K
  · replace h := (if_neg c3).symm.trans h
    refine g_aload_n O dX12_laysKept_58 rfl 0 rfl ?_
    obtain ⟨v4, e5, h⟩ := bo_some h
    refine g_getR O dX12_laysKept_59 fl_X12_52 rfl e5 ?_
    refine g_iload_n O dX12_laysKept_62 rfl 3 rfl ?_
    refine g_aload_n O dX12_laysKept_63 rfl 0 rfl ?_
    obtain ⟨v6, e7, h⟩ := bo_some h
    refine g_getR O dX12_laysKept_64 fl_X12_52 rfl e7 ?_
    refine g_iload_n O dX12_laysKept_67 rfl 3 rfl ?_
    obtain ⟨v8, e9, h⟩ := bo_some h
    refine g_baload O dX12_laysKept_68 e9 ?_
    refine g_if_ne O dX12_laysKept_69 rfl (fun c10 => ?_) (fun c10 => ?_)
    · replace h := (if_pos c10).symm.trans h
      refine g_iload_n O dX12_laysKept_72 rfl 3 rfl ?_
      refine g_iload O dX12_laysKept_73 4 rfl ?_
      obtain ⟨v11, e12, h⟩ := bo_some h
      refine g_cS1 O R0 N dX12_laysKept_75 vl_X12_235 w1766 [vI x3, vI x4] rfl rfl rfl ⟨Nat.le_of_ble_eq_true rfl, Nat.le_of_ble_eq_true rfl⟩ (c_X12_isAmong l0 x3 x4 σ v11 e12) ?_
      refine g_if_eq O dX12_laysKept_78 rfl (fun c13 => ?_) (fun c13 => ?_)
      · replace h := (if_pos c13).symm.trans h
        exact t_X12_laysKept_112 O R0 N hn a0 x1 x2 x3 x4 v4 x3 σ o h K
      · replace h := (if_neg c13).symm.trans h
        refine g_aload_n O dX12_laysKept_81 rfl 0 rfl ?_
        obtain ⟨v14, e15, h⟩ := bo_some h
        refine g_getR O dX12_laysKept_82 fl_X12_52 rfl e15 ?_
        refine g_iload_n O dX12_laysKept_85 rfl 3 rfl ?_
        refine g_iconst (v := (1 : Int32)) O dX12_laysKept_86 rfl ?_
        refine g_iload O dX12_laysKept_87 4 rfl ?_
        refine g_ishl O dX12_laysKept_89 ?_
        refine g_iconst (v := (-1 : Int32)) O dX12_laysKept_90 rfl ?_
        refine g_ixor O dX12_laysKept_91 ?_
        refine g_iand O dX12_laysKept_92 ?_
        obtain ⟨v16, e17, h⟩ := bo_some h
        refine g_baload O dX12_laysKept_93 e17 ?_
        refine g_if_eq O dX12_laysKept_94 rfl (fun c18 => ?_) (fun c18 => ?_)
        · replace h := (if_pos c18).symm.trans h
          exact t_X12_laysKept_112 O R0 N hn a0 x1 x2 x3 x4 v4 x3 σ o h K
        · replace h := (if_neg c18).symm.trans h
          refine g_aload_n O dX12_laysKept_97 rfl 0 rfl ?_
          refine g_iload_n O dX12_laysKept_98 rfl 2 rfl ?_
          refine g_iload O dX12_laysKept_99 4 rfl ?_
          refine g_iload_n O dX12_laysKept_101 rfl 1 rfl ?_
          obtain ⟨a19, e20, h⟩ := bo_some h
          obtain ⟨v21, e22, h⟩ := bo_some h
          refine g_cV1 O R0 N dX12_laysKept_102 vl_X12_254 vv_X12_keeps e20 [vI x2, vI x4, vI x1] rfl rfl rfl ⟨Nat.le_of_ble_eq_true rfl, Nat.le_of_ble_eq_true rfl⟩ (c_X12_keeps l0 a19 x2 x4 x1 σ v21 e22) ?_
          refine g_if_eq O dX12_laysKept_105 rfl (fun c23 => ?_) (fun c23 => ?_)
          · replace h := (if_pos c23).symm.trans h
            exact t_X12_laysKept_112 O R0 N hn a0 x1 x2 x3 x4 v4 x3 σ o h K
          · replace h := (if_neg c23).symm.trans h
            exact t_X12_laysKept_108 O R0 N hn a0 x1 x2 x3 x4 v4 x3 σ o h K
    · replace h := (if_neg c10).symm.trans h
      exact t_X12_laysKept_108 O R0 N hn a0 x1 x2 x3 x4 v4 x3 σ o h K
def P_X12_laysKept_42 (M : Mx) (a0 : Nat) (x1 : Int32) (x2 : Int32) (s : (Int32 × Dt)) : Prop := G M 0 0 42 [(0, vA (some a0)), (1, vI x1), (2, vI x2), (3, vI s.1)] [] SM s.2
def E_X12_laysKept_42 (M : Mx) (a0 : Nat) (x1 : Int32) (x2 : Int32) : Dt → Prop := (fun w => G M 0 0 126 [(0, vA (some a0)), (1, vI x1), (2, vI x2)] [] SM w)
def f_X12_laysKept_L42 (a0 : Nat) (x1 : Int32) (x2 : Int32) (x3 : Int32) (σ : Dt) : Option ((Int32 × Dt) ⊕ Dt) := if x3 ≤ 0 then some (.inr σ) else bo (iter FU (fun s => f_X12_laysKept_L49 a0 x1 x2 x3 s.1 s.2) ((0 : Int32), σ)) fun w2 => some (.inl ((x3 + (-1 : Int32)), w2))
theorem t_X12_laysKept_L42 {M : Mx} {l0 : Launch} (O : Ok M cX12_laysKept yX12_laysKept) (R0 : Rm M l0 5 148 0 0) (N : Ma M = false) (hn : Mn M = 5) (a0 : Nat) (x1 : Int32) (x2 : Int32) (x3 : Int32) (σ : Dt) (o : ((Int32 × Dt) ⊕ Dt)) (h : f_X12_laysKept_L42 a0 x1 x2 x3 σ = some o) (K : kon (P_X12_laysKept_42 M a0 x1 x2) (E_X12_laysKept_42 M a0 x1 x2) o) : G M 0 0 42 [(0, vA (some a0)), (1, vI x1), (2, vI x2), (3, vI x3)] [] SM σ := by
  unfold f_X12_laysKept_L42 at h
  refine g_iload_n O dX12_laysKept_42 rfl 3 rfl ?_
  refine g_if_le O dX12_laysKept_43 rfl (fun c1 => ?_) (fun c1 => ?_)
  · replace h := (if_pos c1).symm.trans h
    refine g_sub [0, 1, 2] (lv' := [(0, vA (some a0)), (1, vI x1), (2, vI x2)]) rfl ?_
    cases h
    exact K
  · replace h := (if_neg c1).symm.trans h
    refine g_iconst (v := (0 : Int32)) O dX12_laysKept_46 rfl ?_
    refine g_istore (lv' := [(4, vI (0 : Int32)), (0, vA (some a0)), (1, vI x1), (2, vI x2), (3, vI x3)]) O dX12_laysKept_47 5 hn (by decide) rfl ?_
    refine g_sub [1, 2, 3, 4, 0] (lv' := [(0, vA (some a0)), (1, vI x1), (2, vI x2), (3, vI x3), (4, vI (0 : Int32))]) rfl ?_
    obtain ⟨w2, e3, h⟩ := bo_some h
    refine iter_G (P := P_X12_laysKept_49 M a0 x1 x2 x3) (E := E_X12_laysKept_49 M a0 x1 x2 x3) (fun s o hb hk => t_X12_laysKept_L49 O R0 N hn a0 x1 x2 x3 s.1 s.2 o hb hk) FU ((0 : Int32), σ) w2 e3 ?_
    show G M 0 0 120 [(0, vA (some a0)), (1, vI x1), (2, vI x2), (3, vI x3)] [] SM w2
    refine g_iinc (v := (x3 + (-1 : Int32))) (lv' := [(3, vI (x3 + (-1 : Int32))), (0, vA (some a0)), (1, vI x1), (2, vI x2)]) O dX12_laysKept_120 5 hn (by decide) 3 rfl rfl rfl ?_
    refine g_goto O dX12_laysKept_123 rfl ?_
    refine g_sub [1, 2, 3, 0] (lv' := [(0, vA (some a0)), (1, vI x1), (2, vI x2), (3, vI (x3 + (-1 : Int32)))]) rfl ?_
    cases h
    exact K
def P_X12_laysKept_31 (M : Mx) (a0 : Nat) (x1 : Int32) (s : (Int32 × Dt)) : Prop := G M 0 0 31 [(0, vA (some a0)), (1, vI x1), (2, vI s.1)] [] SM s.2
def E_X12_laysKept_31 (M : Mx) (a0 : Nat) (x1 : Int32) : Dt → Prop := (fun w => G M 0 0 132 [] [] SM w)
def f_X12_laysKept_L31 (a0 : Nat) (x1 : Int32) (x2 : Int32) (σ : Dt) : Option ((Int32 × Dt) ⊕ Dt) := bo (xgi SM 12 12 (some a0) σ) fun v1 => if v1 ≤ x2 then some (.inr σ) else bo (iter FU (fun s => f_X12_laysKept_L42 a0 x1 x2 s.1 s.2) ((63 : Int32), σ)) fun w4 => some (.inl ((x2 + (1 : Int32)), w4))
theorem t_X12_laysKept_L31 {M : Mx} {l0 : Launch} (O : Ok M cX12_laysKept yX12_laysKept) (R0 : Rm M l0 5 148 0 0) (N : Ma M = false) (hn : Mn M = 5) (a0 : Nat) (x1 : Int32) (x2 : Int32) (σ : Dt) (o : ((Int32 × Dt) ⊕ Dt)) (h : f_X12_laysKept_L31 a0 x1 x2 σ = some o) (K : kon (P_X12_laysKept_31 M a0 x1) (E_X12_laysKept_31 M a0 x1) o) : G M 0 0 31 [(0, vA (some a0)), (1, vI x1), (2, vI x2)] [] SM σ := by
  unfold f_X12_laysKept_L31 at h
  refine g_iload_n O dX12_laysKept_31 rfl 2 rfl ?_
  refine g_aload_n O dX12_laysKept_32 rfl 0 rfl ?_
  obtain ⟨v1, e2, h⟩ := bo_some h
  refine g_getI O dX12_laysKept_33 fl_X12_211 rfl e2 ?_
  refine g_icmp_ge O dX12_laysKept_36 rfl (fun c3 => ?_) (fun c3 => ?_)
  · replace h := (if_pos c3).symm.trans h
    refine g_sub [] (lv' := []) rfl ?_
    cases h
    exact K
  · replace h := (if_neg c3).symm.trans h
    refine g_bipush (v := (63 : Int32)) O dX12_laysKept_39 rfl ?_
    refine g_istore_n (lv' := [(3, vI (63 : Int32)), (0, vA (some a0)), (1, vI x1), (2, vI x2)]) O dX12_laysKept_41 rfl 5 hn (by decide) rfl ?_
    refine g_sub [1, 2, 3, 0] (lv' := [(0, vA (some a0)), (1, vI x1), (2, vI x2), (3, vI (63 : Int32))]) rfl ?_
    obtain ⟨w4, e5, h⟩ := bo_some h
    refine iter_G (P := P_X12_laysKept_42 M a0 x1 x2) (E := E_X12_laysKept_42 M a0 x1 x2) (fun s o hb hk => t_X12_laysKept_L42 O R0 N hn a0 x1 x2 s.1 s.2 o hb hk) FU ((63 : Int32), σ) w4 e5 ?_
    show G M 0 0 126 [(0, vA (some a0)), (1, vI x1), (2, vI x2)] [] SM w4
    refine g_iinc (v := (x2 + (1 : Int32))) (lv' := [(2, vI (x2 + (1 : Int32))), (0, vA (some a0)), (1, vI x1)]) O dX12_laysKept_126 5 hn (by decide) 2 rfl rfl rfl ?_
    refine g_goto O dX12_laysKept_129 rfl ?_
    refine g_sub [1, 2, 0] (lv' := [(0, vA (some a0)), (1, vI x1), (2, vI (x2 + (1 : Int32)))]) rfl ?_
    cases h
    exact K
def f_X12_laysKept (a0 : Nat) (x1 : Int32) (σ : Dt) : Option (Unit × Dt) := bo (iter FU (fun s => f_X12_laysKept_L2 a0 x1 s.1 s.2) ((0 : Int32), σ)) fun w1 => bo (iter FU (fun s => f_X12_laysKept_L31 a0 x1 s.1 s.2) ((0 : Int32), w1)) fun w3 => some ((), w3)
theorem t_X12_laysKept {M : Mx} {l0 : Launch} (O : Ok M cX12_laysKept yX12_laysKept) (R0 : Rm M l0 5 148 0 0) (N : Ma M = false) (hn : Mn M = 5) (a0 : Nat) (x1 : Int32) (σ : Dt) (o : (Unit × Dt)) (h : f_X12_laysKept a0 x1 σ = some o) (K : Fin' M (none) 0 0 SM o.2 (none)) : G M 0 0 0 [(0, vA (some a0)), (1, vI x1)] [] SM σ := by
  unfold f_X12_laysKept at h
  refine g_iconst (v := (0 : Int32)) O dX12_laysKept_0 rfl ?_
  refine g_istore_n (lv' := [(2, vI (0 : Int32)), (0, vA (some a0)), (1, vI x1)]) O dX12_laysKept_1 rfl 5 hn (by decide) rfl ?_
  refine g_sub [1, 2, 0] (lv' := [(0, vA (some a0)), (1, vI x1), (2, vI (0 : Int32))]) rfl ?_
  obtain ⟨w1, e2, h⟩ := bo_some h
  refine iter_G (P := P_X12_laysKept_2 M a0 x1) (E := E_X12_laysKept_2 M a0 x1) (fun s o hb hk => t_X12_laysKept_L2 O R0 N hn a0 x1 s.1 s.2 o hb hk) FU ((0 : Int32), σ) w1 e2 ?_
  show G M 0 0 29 [(0, vA (some a0)), (1, vI x1)] [] SM w1
  refine g_iconst (v := (0 : Int32)) O dX12_laysKept_29 rfl ?_
  refine g_istore_n (lv' := [(2, vI (0 : Int32)), (0, vA (some a0)), (1, vI x1)]) O dX12_laysKept_30 rfl 5 hn (by decide) rfl ?_
  refine g_sub [1, 2, 0] (lv' := [(0, vA (some a0)), (1, vI x1), (2, vI (0 : Int32))]) rfl ?_
  obtain ⟨w3, e4, h⟩ := bo_some h
  refine iter_G (P := P_X12_laysKept_31 M a0 x1) (E := E_X12_laysKept_31 M a0 x1) (fun s o hb hk => t_X12_laysKept_L31 O R0 N hn a0 x1 s.1 s.2 o hb hk) FU ((0 : Int32), w1) w3 e4 ?_
  show G M 0 0 132 [] [] SM w3
  cases h
  exact g_return O K dX12_laysKept_132
theorem c_X12_laysKept (l0 : Launch) (a0 : Nat) (x1 : Int32) (σ : Dt) (r : Unit) (σ' : Dt) (h : f_X12_laysKept a0 x1 σ = some (r, σ')) : Ctr l0 yX12_laysKept cX12_laysKept 5 (none) false 5 148 0 0 [vA (some a0), vI x1] SM σ SM σ' (none) := ctr_of (by decide) (Nat.le_of_ble_eq_true rfl) (fun M O F R0 N hn => t_X12_laysKept O R0 N hn a0 x1 σ (r, σ') h F)
