def P_X12_laysEnough_38 (M : Mx) (a0 : Nat) (x1 : Int32) (x2 : Int32) (x3 : Int32) (σ : Dt) (s : (Int32 × Int32)) : Prop := G M 0 0 38 [(0, vA (some a0)), (1, vI x1), (2, vI x2), (3, vI x3), (4, vI s.1), (5, vI s.2)] [] SM σ
def E_X12_laysEnough_38 (M : Mx) (a0 : Nat) (x1 : Int32) (x2 : Int32) (x3 : Int32) (σ : Dt) : Int32 → Prop := (fun w => G M 0 0 91 [(0, vA (some a0)), (1, vI x1), (2, vI x2), (3, vI x3), (4, vI w)] [] SM σ)
def f_X12_laysEnough_83 (a0 : Nat) (x1 : Int32) (x2 : Int32) (x3 : Int32) (x5 : Int32) (k0 : Int32) (σ : Dt) : Option ((Int32 × Int32) ⊕ Int32) := some (.inl (k0, (x5 + (1 : Int32))))
theorem t_X12_laysEnough_83 {M : Mx} {l0 : Launch} (O : Ok M cX12_laysEnough yX12_laysEnough) (R0 : Rm M l0 4 125 0 0) (N : Ma M = false) (hn : Mn M = 6)  (a0 : Nat) (x1 : Int32) (x2 : Int32) (x3 : Int32) (x5 : Int32) (k0 : Int32) (σ : Dt) (o : ((Int32 × Int32) ⊕ Int32)) (h : f_X12_laysEnough_83 a0 x1 x2 x3 x5 k0 σ = some o) (K : kon (P_X12_laysEnough_38 M a0 x1 x2 x3 σ) (E_X12_laysEnough_38 M a0 x1 x2 x3 σ) o) : G M 0 0 83 [(0, vA (some a0)), (1, vI x1), (2, vI x2), (3, vI x3), (5, vI x5)] [vI k0] SM σ := by
  unfold f_X12_laysEnough_83 at h
  refine g_istore (lv' := [(4, vI k0), (0, vA (some a0)), (1, vI x1), (2, vI x2), (3, vI x3), (5, vI x5)]) O dX12_laysEnough_83 6 hn (by decide) rfl ?_
  refine g_iinc (v := (x5 + (1 : Int32))) (lv' := [(5, vI (x5 + (1 : Int32))), (4, vI k0), (0, vA (some a0)), (1, vI x1), (2, vI x2), (3, vI x3)]) O dX12_laysEnough_85 6 hn (by decide) 5 rfl rfl rfl ?_
  refine g_goto O dX12_laysEnough_88 rfl ?_
  refine g_sub [2, 3, 4, 5, 1, 0] (lv' := [(0, vA (some a0)), (1, vI x1), (2, vI x2), (3, vI x3), (4, vI k0), (5, vI (x5 + (1 : Int32)))]) rfl ?_
  cases h
  exact K
def f_X12_laysEnough_78 (a0 : Nat) (x1 : Int32) (x2 : Int32) (x3 : Int32) (x5 : Int32) (σ : Dt) : Option ((Int32 × Int32) ⊕ Int32) := f_X12_laysEnough_83 a0 x1 x2 x3 x5 (1 : Int32) σ
theorem t_X12_laysEnough_78 {M : Mx} {l0 : Launch} (O : Ok M cX12_laysEnough yX12_laysEnough) (R0 : Rm M l0 4 125 0 0) (N : Ma M = false) (hn : Mn M = 6)  (a0 : Nat) (x1 : Int32) (x2 : Int32) (x3 : Int32) (x5 : Int32) (σ : Dt) (o : ((Int32 × Int32) ⊕ Int32)) (h : f_X12_laysEnough_78 a0 x1 x2 x3 x5 σ = some o) (K : kon (P_X12_laysEnough_38 M a0 x1 x2 x3 σ) (E_X12_laysEnough_38 M a0 x1 x2 x3 σ) o) : G M 0 0 78 [(0, vA (some a0)), (1, vI x1), (2, vI x2), (3, vI x3), (5, vI x5)] [] SM σ := by
  unfold f_X12_laysEnough_78 at h
  refine g_iconst (v := (1 : Int32)) O dX12_laysEnough_78 rfl ?_
  refine g_goto O dX12_laysEnough_79 rfl ?_
  exact t_X12_laysEnough_83 O R0 N hn a0 x1 x2 x3 x5 (1 : Int32) σ o h K
def f_X12_laysEnough_L38 (a0 : Nat) (x1 : Int32) (x2 : Int32) (x3 : Int32) (x4 : Int32) (x5 : Int32) (σ : Dt) : Option ((Int32 × Int32) ⊕ Int32) := bo (xgi SM 12 12 (some a0) σ) fun v1 => if v1 ≤ x5 then some (.inr x4) else if x4 = 0 then some (.inr x4) else bo (f_X12_isAmong x3 x5 σ) fun v5 => if v5 = 0 then f_X12_laysEnough_78 a0 x1 x2 x3 x5 σ else bo (xrc SM 12 (some a0)) fun a8 => bo (f_X12_strengths a8 x3 x5 σ) fun v10 => bo (xrc SM 12 (some a0)) fun a12 => bo (f_X12_muchOf a12 x1 σ) fun v14 => if v14 ≤ (x2 * v10) then f_X12_laysEnough_83 a0 x1 x2 x3 x5 (0 : Int32) σ else f_X12_laysEnough_78 a0 x1 x2 x3 x5 σ
theorem t_X12_laysEnough_L38 {M : Mx} {l0 : Launch} (O : Ok M cX12_laysEnough yX12_laysEnough) (R0 : Rm M l0 4 125 0 0) (N : Ma M = false) (hn : Mn M = 6) (a0 : Nat) (x1 : Int32) (x2 : Int32) (x3 : Int32) (x4 : Int32) (x5 : Int32) (σ : Dt) (o : ((Int32 × Int32) ⊕ Int32)) (h : f_X12_laysEnough_L38 a0 x1 x2 x3 x4 x5 σ = some o) (K : kon (P_X12_laysEnough_38 M a0 x1 x2 x3 σ) (E_X12_laysEnough_38 M a0 x1 x2 x3 σ) o) : G M 0 0 38 [(0, vA (some a0)), (1, vI x1), (2, vI x2), (3, vI x3), (4, vI x4), (5, vI x5)] [] SM σ := by
  unfold f_X12_laysEnough_L38 at h
  refine g_iload O dX12_laysEnough_38 5 rfl ?_
  refine g_aload_n O dX12_laysEnough_40 rfl 0 rfl ?_
  obtain ⟨v1, e2, h⟩ := bo_some h
  refine g_getI O dX12_laysEnough_41 fl_X12_211 rfl e2 ?_
  refine g_icmp_ge O dX12_laysEnough_44 rfl (fun c3 => ?_) (fun c3 => ?_)
  · replace h := (if_pos c3).symm.trans h
    refine g_sub [0, 1, 2, 3, 4] (lv' := [(0, vA (some a0)), (1, vI x1), (2, vI x2), (3, vI x3), (4, vI x4)]) rfl ?_
    cases h
    exact K
  · replace h := (if_neg c3).symm.trans h
    refine g_iload O dX12_laysEnough_47 4 rfl ?_
    refine g_if_eq O dX12_laysEnough_49 rfl (fun c4 => ?_) (fun c4 => ?_)
    · replace h := (if_pos c4).symm.trans h
      refine g_sub [0, 1, 2, 3, 4] (lv' := [(0, vA (some a0)), (1, vI x1), (2, vI x2), (3, vI x3), (4, vI x4)]) rfl ?_
      cases h
      exact K
    · replace h := (if_neg c4).symm.trans h
      refine g_iload_n O dX12_laysEnough_52 rfl 3 rfl ?_
      refine g_iload O dX12_laysEnough_53 5 rfl ?_
      obtain ⟨v5, e6, h⟩ := bo_some h
      refine g_cS1 O R0 N dX12_laysEnough_55 vl_X12_235 w1766 [vI x3, vI x5] rfl rfl rfl ⟨Nat.le_of_ble_eq_true rfl, Nat.le_of_ble_eq_true rfl⟩ (c_X12_isAmong l0 x3 x5 σ v5 e6) ?_
      refine g_if_eq O dX12_laysEnough_58 rfl (fun c7 => ?_) (fun c7 => ?_)
      · replace h := (if_pos c7).symm.trans h
        refine g_sub [0, 1, 2, 3, 5] (lv' := [(0, vA (some a0)), (1, vI x1), (2, vI x2), (3, vI x3), (5, vI x5)]) rfl ?_
        exact t_X12_laysEnough_78 O R0 N hn a0 x1 x2 x3 x5 σ o h K
      · replace h := (if_neg c7).symm.trans h
        refine g_iload_n O dX12_laysEnough_61 rfl 2 rfl ?_
        refine g_aload_n O dX12_laysEnough_62 rfl 0 rfl ?_
        refine g_iload_n O dX12_laysEnough_63 rfl 3 rfl ?_
        refine g_iload O dX12_laysEnough_64 5 rfl ?_
        obtain ⟨a8, e9, h⟩ := bo_some h
        obtain ⟨v10, e11, h⟩ := bo_some h
        refine g_cV1 O R0 N dX12_laysEnough_66 vl_X12_247 vv_X12_strengths e9 [vI x3, vI x5] rfl rfl rfl ⟨Nat.le_of_ble_eq_true rfl, Nat.le_of_ble_eq_true rfl⟩ (c_X12_strengths l0 a8 x3 x5 σ v10 e11) ?_
        refine g_imul O dX12_laysEnough_69 ?_
        refine g_aload_n O dX12_laysEnough_70 rfl 0 rfl ?_
        refine g_iload_n O dX12_laysEnough_71 rfl 1 rfl ?_
        obtain ⟨a12, e13, h⟩ := bo_some h
        obtain ⟨v14, e15, h⟩ := bo_some h
        refine g_cV1 O R0 N dX12_laysEnough_72 vl_X12_229 vv_X12_muchOf e13 [vI x1] rfl rfl rfl ⟨Nat.le_of_ble_eq_true rfl, Nat.le_of_ble_eq_true rfl⟩ (c_X12_muchOf l0 a12 x1 σ v14 e15) ?_
        refine g_icmp_ge O dX12_laysEnough_75 rfl (fun c16 => ?_) (fun c16 => ?_)
        · replace h := (if_pos c16).symm.trans h
          refine g_iconst (v := (0 : Int32)) O dX12_laysEnough_82 rfl ?_
          refine g_sub [0, 1, 2, 3, 5] (lv' := [(0, vA (some a0)), (1, vI x1), (2, vI x2), (3, vI x3), (5, vI x5)]) rfl ?_
          exact t_X12_laysEnough_83 O R0 N hn a0 x1 x2 x3 x5 (0 : Int32) σ o h K
        · replace h := (if_neg c16).symm.trans h
          refine g_sub [0, 1, 2, 3, 5] (lv' := [(0, vA (some a0)), (1, vI x1), (2, vI x2), (3, vI x3), (5, vI x5)]) rfl ?_
          exact t_X12_laysEnough_78 O R0 N hn a0 x1 x2 x3 x5 σ o h K
def P_X12_laysEnough_2 (M : Mx) (a0 : Nat) (x1 : Int32) (x2 : Int32) (s : (Int32 × Dt)) : Prop := G M 0 0 2 [(0, vA (some a0)), (1, vI x1), (2, vI x2), (3, vI s.1)] [] SM s.2
def E_X12_laysEnough_2 (M : Mx) (a0 : Nat) (x1 : Int32) (x2 : Int32) : Dt → Prop := (fun w => G M 0 0 105 [] [] SM w)
def f_X12_laysEnough_91 (a0 : Nat) (x1 : Int32) (x2 : Int32) (x3 : Int32) (x4 : Int32) (σ : Dt) : Option ((Int32 × Dt) ⊕ Dt) := bo (xgr SM 12 22 (some a0) σ) fun v1 => bo (xsz SM v1 x3 x4 σ) fun σ3 => some (.inl ((x3 + (1 : Int32)), σ3))
theorem t_X12_laysEnough_91 {M : Mx} {l0 : Launch} (O : Ok M cX12_laysEnough yX12_laysEnough) (R0 : Rm M l0 4 125 0 0) (N : Ma M = false) (hn : Mn M = 6)  (a0 : Nat) (x1 : Int32) (x2 : Int32) (x3 : Int32) (x4 : Int32) (σ : Dt) (o : ((Int32 × Dt) ⊕ Dt)) (h : f_X12_laysEnough_91 a0 x1 x2 x3 x4 σ = some o) (K : kon (P_X12_laysEnough_2 M a0 x1 x2) (E_X12_laysEnough_2 M a0 x1 x2) o) : G M 0 0 91 [(0, vA (some a0)), (1, vI x1), (2, vI x2), (3, vI x3), (4, vI x4)] [] SM σ := by
  unfold f_X12_laysEnough_91 at h
  refine g_aload_n O dX12_laysEnough_91 rfl 0 rfl ?_
  obtain ⟨v1, e2, h⟩ := bo_some h
  refine g_getR O dX12_laysEnough_92 fl_X12_42 rfl e2 ?_
  refine g_iload_n O dX12_laysEnough_95 rfl 3 rfl ?_
  refine g_iload O dX12_laysEnough_96 4 rfl ?_
  obtain ⟨σ3, e4, h⟩ := bo_some h
  refine g_bastore O N dX12_laysEnough_98 e4 ?_
  refine g_iinc (v := (x3 + (1 : Int32))) (lv' := [(3, vI (x3 + (1 : Int32))), (0, vA (some a0)), (1, vI x1), (2, vI x2), (4, vI x4)]) O dX12_laysEnough_99 6 hn (by decide) 3 rfl rfl rfl ?_
  refine g_goto O dX12_laysEnough_102 rfl ?_
  refine g_sub [1, 2, 3, 0] (lv' := [(0, vA (some a0)), (1, vI x1), (2, vI x2), (3, vI (x3 + (1 : Int32)))]) rfl ?_
  cases h
  exact K
def f_X12_laysEnough_33 (a0 : Nat) (x1 : Int32) (x2 : Int32) (x3 : Int32) (k0 : Int32) (σ : Dt) : Option ((Int32 × Dt) ⊕ Dt) := bo (iter FU (fun s => f_X12_laysEnough_L38 a0 x1 x2 x3 s.1 s.2 σ) (k0, (0 : Int32))) fun w1 => f_X12_laysEnough_91 a0 x1 x2 x3 w1 σ
theorem t_X12_laysEnough_33 {M : Mx} {l0 : Launch} (O : Ok M cX12_laysEnough yX12_laysEnough) (R0 : Rm M l0 4 125 0 0) (N : Ma M = false) (hn : Mn M = 6)  (a0 : Nat) (x1 : Int32) (x2 : Int32) (x3 : Int32) (k0 : Int32) (σ : Dt) (o : ((Int32 × Dt) ⊕ Dt)) (h : f_X12_laysEnough_33 a0 x1 x2 x3 k0 σ = some o) (K : kon (P_X12_laysEnough_2 M a0 x1 x2) (E_X12_laysEnough_2 M a0 x1 x2) o) : G M 0 0 33 [(0, vA (some a0)), (1, vI x1), (2, vI x2), (3, vI x3)] [vI k0] SM σ := by
  unfold f_X12_laysEnough_33 at h
  refine g_istore (lv' := [(4, vI k0), (0, vA (some a0)), (1, vI x1), (2, vI x2), (3, vI x3)]) O dX12_laysEnough_33 6 hn (by decide) rfl ?_
  refine g_iconst (v := (0 : Int32)) O dX12_laysEnough_35 rfl ?_
  refine g_istore (lv' := [(5, vI (0 : Int32)), (4, vI k0), (0, vA (some a0)), (1, vI x1), (2, vI x2), (3, vI x3)]) O dX12_laysEnough_36 6 hn (by decide) rfl ?_
  refine g_sub [2, 3, 4, 5, 1, 0] (lv' := [(0, vA (some a0)), (1, vI x1), (2, vI x2), (3, vI x3), (4, vI k0), (5, vI (0 : Int32))]) rfl ?_
  obtain ⟨w1, e2, h⟩ := bo_some h
  refine iter_G (P := P_X12_laysEnough_38 M a0 x1 x2 x3 σ) (E := E_X12_laysEnough_38 M a0 x1 x2 x3 σ) (fun s o hb hk => t_X12_laysEnough_L38 O R0 N hn a0 x1 x2 x3 s.1 s.2 σ o hb hk) FU (k0, (0 : Int32)) w1 e2 ?_
  show G M 0 0 91 [(0, vA (some a0)), (1, vI x1), (2, vI x2), (3, vI x3), (4, vI w1)] [] SM σ
  exact t_X12_laysEnough_91 O R0 N hn a0 x1 x2 x3 w1 σ o h K
def f_X12_laysEnough_L2 (a0 : Nat) (x1 : Int32) (x2 : Int32) (x3 : Int32) (σ : Dt) : Option ((Int32 × Dt) ⊕ Dt) := bo (xgi SM 12 12 (some a0) σ) fun v1 => if ((1 : Int32) <<< (v1 &&& 31)) ≤ x3 then some (.inr σ) else bo (xrc SM 12 (some a0)) fun a4 => bo (f_X12_strengths a4 x3 (-1 : Int32) σ) fun v6 => bo (xrc SM 12 (some a0)) fun a8 => bo (f_X12_muchOf a8 x1 σ) fun v10 => if (x2 * v6) < v10 then f_X12_laysEnough_33 a0 x1 x2 x3 (0 : Int32) σ else f_X12_laysEnough_33 a0 x1 x2 x3 (1 : Int32) σ
theorem t_X12_laysEnough_L2 {M : Mx} {l0 : Launch} (O : Ok M cX12_laysEnough yX12_laysEnough) (R0 : Rm M l0 4 125 0 0) (N : Ma M = false) (hn : Mn M = 6) (a0 : Nat) (x1 : Int32) (x2 : Int32) (x3 : Int32) (σ : Dt) (o : ((Int32 × Dt) ⊕ Dt)) (h : f_X12_laysEnough_L2 a0 x1 x2 x3 σ = some o) (K : kon (P_X12_laysEnough_2 M a0 x1 x2) (E_X12_laysEnough_2 M a0 x1 x2) o) : G M 0 0 2 [(0, vA (some a0)), (1, vI x1), (2, vI x2), (3, vI x3)] [] SM σ := by
  unfold f_X12_laysEnough_L2 at h
  refine g_iload_n O dX12_laysEnough_2 rfl 3 rfl ?_
  refine g_iconst (v := (1 : Int32)) O dX12_laysEnough_3 rfl ?_
  refine g_aload_n O dX12_laysEnough_4 rfl 0 rfl ?_
  obtain ⟨v1, e2, h⟩ := bo_some h
  refine g_getI O dX12_laysEnough_5 fl_X12_211 rfl e2 ?_
  refine g_ishl O dX12_laysEnough_8 ?_
  refine g_icmp_ge O dX12_laysEnough_9 rfl (fun c3 => ?_) (fun c3 => ?_)
  · replace h := (if_pos c3).symm.trans h
    refine g_sub [] (lv' := []) rfl ?_
    cases h
    exact K
  · replace h := (if_neg c3).symm.trans h
    refine g_iload_n O dX12_laysEnough_12 rfl 2 rfl ?_
    refine g_aload_n O dX12_laysEnough_13 rfl 0 rfl ?_
    refine g_iload_n O dX12_laysEnough_14 rfl 3 rfl ?_
    refine g_iconst (v := (-1 : Int32)) O dX12_laysEnough_15 rfl ?_
    obtain ⟨a4, e5, h⟩ := bo_some h
    obtain ⟨v6, e7, h⟩ := bo_some h
    refine g_cV1 O R0 N dX12_laysEnough_16 vl_X12_247 vv_X12_strengths e5 [vI x3, vI (-1 : Int32)] rfl rfl rfl ⟨Nat.le_of_ble_eq_true rfl, Nat.le_of_ble_eq_true rfl⟩ (c_X12_strengths l0 a4 x3 (-1 : Int32) σ v6 e7) ?_
    refine g_imul O dX12_laysEnough_19 ?_
    refine g_aload_n O dX12_laysEnough_20 rfl 0 rfl ?_
    refine g_iload_n O dX12_laysEnough_21 rfl 1 rfl ?_
    obtain ⟨a8, e9, h⟩ := bo_some h
    obtain ⟨v10, e11, h⟩ := bo_some h
    refine g_cV1 O R0 N dX12_laysEnough_22 vl_X12_229 vv_X12_muchOf e9 [vI x1] rfl rfl rfl ⟨Nat.le_of_ble_eq_true rfl, Nat.le_of_ble_eq_true rfl⟩ (c_X12_muchOf l0 a8 x1 σ v10 e11) ?_
    refine g_icmp_lt O dX12_laysEnough_25 rfl (fun c12 => ?_) (fun c12 => ?_)
    · replace h := (if_pos c12).symm.trans h
      refine g_iconst (v := (0 : Int32)) O dX12_laysEnough_32 rfl ?_
      exact t_X12_laysEnough_33 O R0 N hn a0 x1 x2 x3 (0 : Int32) σ o h K
    · replace h := (if_neg c12).symm.trans h
      refine g_iconst (v := (1 : Int32)) O dX12_laysEnough_28 rfl ?_
      refine g_goto O dX12_laysEnough_29 rfl ?_
      exact t_X12_laysEnough_33 O R0 N hn a0 x1 x2 x3 (1 : Int32) σ o h K
def f_X12_laysEnough (a0 : Nat) (x1 : Int32) (x2 : Int32) (σ : Dt) : Option (Unit × Dt) := bo (iter FU (fun s => f_X12_laysEnough_L2 a0 x1 x2 s.1 s.2) ((0 : Int32), σ)) fun w1 => some ((), w1)
theorem t_X12_laysEnough {M : Mx} {l0 : Launch} (O : Ok M cX12_laysEnough yX12_laysEnough) (R0 : Rm M l0 4 125 0 0) (N : Ma M = false) (hn : Mn M = 6) (a0 : Nat) (x1 : Int32) (x2 : Int32) (σ : Dt) (o : (Unit × Dt)) (h : f_X12_laysEnough a0 x1 x2 σ = some o) (K : Fin' M (none) 0 0 SM o.2 (none)) : G M 0 0 0 [(0, vA (some a0)), (1, vI x1), (2, vI x2)] [] SM σ := by
  unfold f_X12_laysEnough at h
  refine g_iconst (v := (0 : Int32)) O dX12_laysEnough_0 rfl ?_
  refine g_istore_n (lv' := [(3, vI (0 : Int32)), (0, vA (some a0)), (1, vI x1), (2, vI x2)]) O dX12_laysEnough_1 rfl 6 hn (by decide) rfl ?_
  refine g_sub [1, 2, 3, 0] (lv' := [(0, vA (some a0)), (1, vI x1), (2, vI x2), (3, vI (0 : Int32))]) rfl ?_
  obtain ⟨w1, e2, h⟩ := bo_some h
  refine iter_G (P := P_X12_laysEnough_2 M a0 x1 x2) (E := E_X12_laysEnough_2 M a0 x1 x2) (fun s o hb hk => t_X12_laysEnough_L2 O R0 N hn a0 x1 x2 s.1 s.2 o hb hk) FU ((0 : Int32), σ) w1 e2 ?_
  show G M 0 0 105 [] [] SM w1
  cases h
  exact g_return O K dX12_laysEnough_105
theorem c_X12_laysEnough (l0 : Launch) (a0 : Nat) (x1 : Int32) (x2 : Int32) (σ : Dt) (r : Unit) (σ' : Dt) (h : f_X12_laysEnough a0 x1 x2 σ = some (r, σ')) : Ctr l0 yX12_laysEnough cX12_laysEnough 6 (none) false 4 125 0 0 [vA (some a0), vI x1, vI x2] SM σ SM σ' (none) := ctr_of (by decide) (Nat.le_of_ble_eq_true rfl) (fun M O F R0 N hn => t_X12_laysEnough O R0 N hn a0 x1 x2 σ (r, σ') h F)
def P_X12_addsWork_65 (M : Mx) (a0 : Nat) (x3 : Int32) (x4 : Int32) (x5 : Int32) (x6 : Int32) (x7 : Int32) (s : (Int32 × Dt)) : Prop := G M 0 0 65 [(0, vA (some a0)), (3, vI x3), (4, vI x4), (5, vI x5), (6, vI x6), (7, vI x7), (8, vI s.1)] [] SM s.2
def E_X12_addsWork_65 (M : Mx) (a0 : Nat) (x3 : Int32) (x4 : Int32) (x5 : Int32) (x6 : Int32) (x7 : Int32) : Dt → Prop := (fun w => G M 0 0 106 [(0, vA (some a0)), (3, vI x3), (4, vI x4), (5, vI x5), (6, vI x6)] [] SM w)
def f_X12_addsWork_94 (a0 : Nat) (x3 : Int32) (x4 : Int32) (x5 : Int32) (x6 : Int32) (x7 : Int32) (x8 : Int32) (σ : Dt) : Option ((Int32 × Dt) ⊕ Dt) := some (.inl (((x8 - (1 : Int32)) &&& x7), σ))
theorem t_X12_addsWork_94 {M : Mx} {l0 : Launch} (O : Ok M cX12_addsWork yX12_addsWork) (R0 : Rm M l0 2 80 0 0) (N : Ma M = false) (hn : Mn M = 9)  (a0 : Nat) (x3 : Int32) (x4 : Int32) (x5 : Int32) (x6 : Int32) (x7 : Int32) (x8 : Int32) (σ : Dt) (o : ((Int32 × Dt) ⊕ Dt)) (h : f_X12_addsWork_94 a0 x3 x4 x5 x6 x7 x8 σ = some o) (K : kon (P_X12_addsWork_65 M a0 x3 x4 x5 x6 x7) (E_X12_addsWork_65 M a0 x3 x4 x5 x6 x7) o) : G M 0 0 94 [(0, vA (some a0)), (3, vI x3), (4, vI x4), (5, vI x5), (6, vI x6), (7, vI x7), (8, vI x8)] [] SM σ := by
  unfold f_X12_addsWork_94 at h
  refine g_iload O dX12_addsWork_94 6 rfl ?_
  refine g_iconst (v := (1 : Int32)) O dX12_addsWork_96 rfl ?_
  refine g_isub O dX12_addsWork_97 ?_
  refine g_iload O dX12_addsWork_98 5 rfl ?_
  refine g_iand O dX12_addsWork_100 ?_
  refine g_istore (lv' := [(8, vI ((x8 - (1 : Int32)) &&& x7)), (0, vA (some a0)), (3, vI x3), (4, vI x4), (5, vI x5), (6, vI x6), (7, vI x7)]) O dX12_addsWork_101 9 hn (by decide) rfl ?_
  refine g_goto O dX12_addsWork_103 rfl ?_
  refine g_sub [1, 2, 3, 4, 5, 6, 0] (lv' := [(0, vA (some a0)), (3, vI x3), (4, vI x4), (5, vI x5), (6, vI x6), (7, vI x7), (8, vI ((x8 - (1 : Int32)) &&& x7))]) rfl ?_
  cases h
  exact K
def f_X12_addsWork_L65 (a0 : Nat) (x3 : Int32) (x4 : Int32) (x5 : Int32) (x6 : Int32) (x7 : Int32) (x8 : Int32) (σ : Dt) : Option ((Int32 × Dt) ⊕ Dt) := if x8 ≤ 0 then some (.inr σ) else bo (xgr SM 12 22 (some a0) σ) fun v2 => bo (xaz SM v2 x8 σ) fun v4 => if v4 = 0 then f_X12_addsWork_94 a0 x3 x4 x5 x6 x7 x8 σ else bo (xgr SM 12 21 (some a0) σ) fun v7 => bo (xsz SM v7 (x4 + (x6 ||| x8)) (1 : Int32) σ) fun σ9 => f_X12_addsWork_94 a0 x3 x4 x5 x6 x7 x8 σ9
theorem t_X12_addsWork_L65 {M : Mx} {l0 : Launch} (O : Ok M cX12_addsWork yX12_addsWork) (R0 : Rm M l0 2 80 0 0) (N : Ma M = false) (hn : Mn M = 9) (a0 : Nat) (x3 : Int32) (x4 : Int32) (x5 : Int32) (x6 : Int32) (x7 : Int32) (x8 : Int32) (σ : Dt) (o : ((Int32 × Dt) ⊕ Dt)) (h : f_X12_addsWork_L65 a0 x3 x4 x5 x6 x7 x8 σ = some o) (K : kon (P_X12_addsWork_65 M a0 x3 x4 x5 x6 x7) (E_X12_addsWork_65 M a0 x3 x4 x5 x6 x7) o) : G M 0 0 65 [(0, vA (some a0)), (3, vI x3), (4, vI x4), (5, vI x5), (6, vI x6), (7, vI x7), (8, vI x8)] [] SM σ := by
  unfold f_X12_addsWork_L65 at h
  refine g_iload O dX12_addsWork_65 6 rfl ?_
  refine g_if_le O dX12_addsWork_67 rfl (fun c1 => ?_) (fun c1 => ?_)
  · replace h := (if_pos c1).symm.trans h
    refine g_sub [0, 1, 2, 3, 4] (lv' := [(0, vA (some a0)), (3, vI x3), (4, vI x4), (5, vI x5), (6, vI x6)]) rfl ?_
    cases h
    exact K
  · replace h := (if_neg c1).symm.trans h
    refine g_aload_n O dX12_addsWork_70 rfl 0 rfl ?_
    obtain ⟨v2, e3, h⟩ := bo_some h
    refine g_getR O dX12_addsWork_71 fl_X12_42 rfl e3 ?_
    refine g_iload O dX12_addsWork_74 6 rfl ?_
    obtain ⟨v4, e5, h⟩ := bo_some h
    refine g_baload O dX12_addsWork_76 e5 ?_
    refine g_if_eq O dX12_addsWork_77 rfl (fun c6 => ?_) (fun c6 => ?_)
    · replace h := (if_pos c6).symm.trans h
      exact t_X12_addsWork_94 O R0 N hn a0 x3 x4 x5 x6 x7 x8 σ o h K
    · replace h := (if_neg c6).symm.trans h
      refine g_aload_n O dX12_addsWork_80 rfl 0 rfl ?_
      obtain ⟨v7, e8, h⟩ := bo_some h
      refine g_getR O dX12_addsWork_81 fl_X12_39 rfl e8 ?_
      refine g_iload O dX12_addsWork_84 2 rfl ?_
      refine g_iload O dX12_addsWork_86 4 rfl ?_
      refine g_iload O dX12_addsWork_88 6 rfl ?_
      refine g_ior O dX12_addsWork_90 ?_
      refine g_iadd O dX12_addsWork_91 ?_
      refine g_iconst (v := (1 : Int32)) O dX12_addsWork_92 rfl ?_
      obtain ⟨σ9, e10, h⟩ := bo_some h
      refine g_bastore O N dX12_addsWork_93 e10 ?_
      exact t_X12_addsWork_94 O R0 N hn a0 x3 x4 x5 x6 x7 x8 σ9 o h K
def P_X12_addsWork_30 (M : Mx) (a0 : Nat) (x3 : Int32) (x4 : Int32) (x5 : Int32) (s : (Int32 × Dt)) : Prop := G M 0 0 30 [(0, vA (some a0)), (3, vI x3), (4, vI x4), (5, vI x5), (6, vI s.1)] [] SM s.2
def E_X12_addsWork_30 (M : Mx) (a0 : Nat) (x3 : Int32) (x4 : Int32) (x5 : Int32) : Dt → Prop := (fun w => G M 0 0 112 [] [] SM w)
def f_X12_addsWork_106 (a0 : Nat) (x3 : Int32) (x4 : Int32) (x5 : Int32) (x6 : Int32) (σ : Dt) : Option ((Int32 × Dt) ⊕ Dt) := some (.inl ((x6 + (1 : Int32)), σ))
theorem t_X12_addsWork_106 {M : Mx} {l0 : Launch} (O : Ok M cX12_addsWork yX12_addsWork) (R0 : Rm M l0 2 80 0 0) (N : Ma M = false) (hn : Mn M = 9)  (a0 : Nat) (x3 : Int32) (x4 : Int32) (x5 : Int32) (x6 : Int32) (σ : Dt) (o : ((Int32 × Dt) ⊕ Dt)) (h : f_X12_addsWork_106 a0 x3 x4 x5 x6 σ = some o) (K : kon (P_X12_addsWork_30 M a0 x3 x4 x5) (E_X12_addsWork_30 M a0 x3 x4 x5) o) : G M 0 0 106 [(0, vA (some a0)), (3, vI x3), (4, vI x4), (5, vI x5), (6, vI x6)] [] SM σ := by
  unfold f_X12_addsWork_106 at h
  refine g_iinc (v := (x6 + (1 : Int32))) (lv' := [(6, vI (x6 + (1 : Int32))), (0, vA (some a0)), (3, vI x3), (4, vI x4), (5, vI x5)]) O dX12_addsWork_106 9 hn (by decide) 4 rfl rfl rfl ?_
  refine g_goto O dX12_addsWork_109 rfl ?_
  refine g_sub [1, 2, 3, 4, 0] (lv' := [(0, vA (some a0)), (3, vI x3), (4, vI x4), (5, vI x5), (6, vI (x6 + (1 : Int32)))]) rfl ?_
  cases h
  exact K
def f_X12_addsWork_L30 (a0 : Nat) (x3 : Int32) (x4 : Int32) (x5 : Int32) (x6 : Int32) (σ : Dt) : Option ((Int32 × Dt) ⊕ Dt) := if x5 < x6 then some (.inr σ) else bo (xgr SM 12 21 (some a0) σ) fun v2 => bo (xaz SM v2 (x3 + x6) σ) fun v4 => if v4 = 0 then f_X12_addsWork_106 a0 x3 x4 x5 x6 σ else bo (iter FU (fun s => f_X12_addsWork_L65 a0 x3 x4 x5 x6 (x5 &&& (x6 ^^^ (-1 : Int32))) s.1 s.2) ((x5 &&& (x6 ^^^ (-1 : Int32))), σ)) fun w7 => f_X12_addsWork_106 a0 x3 x4 x5 x6 w7
theorem t_X12_addsWork_L30 {M : Mx} {l0 : Launch} (O : Ok M cX12_addsWork yX12_addsWork) (R0 : Rm M l0 2 80 0 0) (N : Ma M = false) (hn : Mn M = 9) (a0 : Nat) (x3 : Int32) (x4 : Int32) (x5 : Int32) (x6 : Int32) (σ : Dt) (o : ((Int32 × Dt) ⊕ Dt)) (h : f_X12_addsWork_L30 a0 x3 x4 x5 x6 σ = some o) (K : kon (P_X12_addsWork_30 M a0 x3 x4 x5) (E_X12_addsWork_30 M a0 x3 x4 x5) o) : G M 0 0 30 [(0, vA (some a0)), (3, vI x3), (4, vI x4), (5, vI x5), (6, vI x6)] [] SM σ := by
  unfold f_X12_addsWork_L30 at h
  refine g_iload O dX12_addsWork_30 4 rfl ?_
  refine g_iload O dX12_addsWork_32 3 rfl ?_
  refine g_icmp_gt O dX12_addsWork_34 rfl (fun c1 => ?_) (fun c1 => ?_)
  · replace h := (if_pos c1).symm.trans h
    refine g_sub [] (lv' := []) rfl ?_
    cases h
    exact K
  · replace h := (if_neg c1).symm.trans h
    refine g_aload_n O dX12_addsWork_37 rfl 0 rfl ?_
    obtain ⟨v2, e3, h⟩ := bo_some h
    refine g_getR O dX12_addsWork_38 fl_X12_39 rfl e3 ?_
    refine g_iload_n O dX12_addsWork_41 rfl 1 rfl ?_
    refine g_iload O dX12_addsWork_42 4 rfl ?_
    refine g_iadd O dX12_addsWork_44 ?_
    obtain ⟨v4, e5, h⟩ := bo_some h
    refine g_baload O dX12_addsWork_45 e5 ?_
    refine g_if_ne O dX12_addsWork_46 rfl (fun c6 => ?_) (fun c6 => ?_)
    · replace h := (if_pos c6).symm.trans h
      refine g_goto O dX12_addsWork_49 rfl ?_
      exact t_X12_addsWork_106 O R0 N hn a0 x3 x4 x5 x6 σ o h K
    · replace h := (if_neg c6).symm.trans h
      refine g_iload O dX12_addsWork_52 3 rfl ?_
      refine g_iload O dX12_addsWork_54 4 rfl ?_
      refine g_iconst (v := (-1 : Int32)) O dX12_addsWork_56 rfl ?_
      refine g_ixor O dX12_addsWork_57 ?_
      refine g_iand O dX12_addsWork_58 ?_
      refine g_istore (lv' := [(7, vI (x5 &&& (x6 ^^^ (-1 : Int32)))), (0, vA (some a0)), (3, vI x3), (4, vI x4), (5, vI x5), (6, vI x6)]) O dX12_addsWork_59 9 hn (by decide) rfl ?_
      refine g_iload O dX12_addsWork_61 0 rfl ?_
      refine g_istore (lv' := [(8, vI (x5 &&& (x6 ^^^ (-1 : Int32)))), (7, vI (x5 &&& (x6 ^^^ (-1 : Int32)))), (0, vA (some a0)), (3, vI x3), (4, vI x4), (5, vI x5), (6, vI x6)]) O dX12_addsWork_63 9 hn (by decide) rfl ?_
      refine g_sub [2, 3, 4, 5, 6, 1, 0] (lv' := [(0, vA (some a0)), (3, vI x3), (4, vI x4), (5, vI x5), (6, vI x6), (7, vI (x5 &&& (x6 ^^^ (-1 : Int32)))), (8, vI (x5 &&& (x6 ^^^ (-1 : Int32))))]) rfl ?_
      obtain ⟨w7, e8, h⟩ := bo_some h
      refine iter_G (P := P_X12_addsWork_65 M a0 x3 x4 x5 x6 (x5 &&& (x6 ^^^ (-1 : Int32)))) (E := E_X12_addsWork_65 M a0 x3 x4 x5 x6 (x5 &&& (x6 ^^^ (-1 : Int32)))) (fun s o hb hk => t_X12_addsWork_L65 O R0 N hn a0 x3 x4 x5 x6 (x5 &&& (x6 ^^^ (-1 : Int32))) s.1 s.2 o hb hk) FU ((x5 &&& (x6 ^^^ (-1 : Int32))), σ) w7 e8 ?_
      show G M 0 0 106 [(0, vA (some a0)), (3, vI x3), (4, vI x4), (5, vI x5), (6, vI x6)] [] SM w7
      exact t_X12_addsWork_106 O R0 N hn a0 x3 x4 x5 x6 w7 o h K
def f_X12_addsWork (a0 : Nat) (x1 : Int32) (x2 : Int32) (σ : Dt) : Option (Unit × Dt) := bo (some ((1024 : Int32) * (x1 ||| ((1 : Int32) <<< (x2 &&& 31))))) fun v1 => bo (xgi SM 12 12 (some a0) σ) fun v3 => bo (some (((1 : Int32) <<< (v3 &&& 31)) - (1 : Int32))) fun v5 => bo (iter FU (fun s => f_X12_addsWork_L30 a0 ((1024 : Int32) * x1) v1 v5 s.1 s.2) ((0 : Int32), σ)) fun w7 => some ((), w7)
theorem t_X12_addsWork {M : Mx} {l0 : Launch} (O : Ok M cX12_addsWork yX12_addsWork) (R0 : Rm M l0 2 80 0 0) (N : Ma M = false) (hn : Mn M = 9) (a0 : Nat) (x1 : Int32) (x2 : Int32) (σ : Dt) (o : (Unit × Dt)) (h : f_X12_addsWork a0 x1 x2 σ = some o) (K : Fin' M (none) 0 0 SM o.2 (none)) : G M 0 0 0 [(0, vA (some a0)), (1, vI x1), (2, vI x2)] [] SM σ := by
  unfold f_X12_addsWork at h
  refine g_sipush (v := (1024 : Int32)) O dX12_addsWork_0 rfl ?_
  refine g_iload_n O dX12_addsWork_3 rfl 1 rfl ?_
  refine g_imul O dX12_addsWork_4 ?_
  refine g_istore_n (lv' := [(3, vI ((1024 : Int32) * x1)), (0, vA (some a0)), (1, vI x1), (2, vI x2)]) O dX12_addsWork_5 rfl 9 hn (by decide) rfl ?_
  refine g_sipush (v := (1024 : Int32)) O dX12_addsWork_6 rfl ?_
  refine g_iload_n O dX12_addsWork_9 rfl 2 rfl ?_
  refine g_iconst (v := (1 : Int32)) O dX12_addsWork_10 rfl ?_
  refine g_iload_n O dX12_addsWork_11 rfl 3 rfl ?_
  refine g_ishl O dX12_addsWork_12 ?_
  refine g_ior O dX12_addsWork_13 ?_
  refine g_imul O dX12_addsWork_14 ?_
  obtain ⟨v1, e2, h⟩ := bo_some h
  rw [Option.some.inj e2]
  refine g_istore (lv' := [(4, vI v1), (3, vI ((1024 : Int32) * x1)), (0, vA (some a0)), (1, vI x1), (2, vI x2)]) O dX12_addsWork_15 9 hn (by decide) rfl ?_
  refine g_iconst (v := (1 : Int32)) O dX12_addsWork_17 rfl ?_
  refine g_aload_n O dX12_addsWork_18 rfl 2 rfl ?_
  obtain ⟨v3, e4, h⟩ := bo_some h
  refine g_getI O dX12_addsWork_19 fl_X12_211 rfl e4 ?_
  refine g_ishl O dX12_addsWork_22 ?_
  refine g_iconst (v := (1 : Int32)) O dX12_addsWork_23 rfl ?_
  refine g_isub O dX12_addsWork_24 ?_
  obtain ⟨v5, e6, h⟩ := bo_some h
  rw [Option.some.inj e6]
  refine g_istore (lv' := [(5, vI v5), (4, vI v1), (3, vI ((1024 : Int32) * x1)), (0, vA (some a0)), (1, vI x1), (2, vI x2)]) O dX12_addsWork_25 9 hn (by decide) rfl ?_
  refine g_iconst (v := (0 : Int32)) O dX12_addsWork_27 rfl ?_
  refine g_istore (lv' := [(6, vI (0 : Int32)), (5, vI v5), (4, vI v1), (3, vI ((1024 : Int32) * x1)), (0, vA (some a0)), (1, vI x1), (2, vI x2)]) O dX12_addsWork_28 9 hn (by decide) rfl ?_
  refine g_sub [4, 3, 2, 1, 0] (lv' := [(0, vA (some a0)), (3, vI ((1024 : Int32) * x1)), (4, vI v1), (5, vI v5), (6, vI (0 : Int32))]) rfl ?_
  obtain ⟨w7, e8, h⟩ := bo_some h
  refine iter_G (P := P_X12_addsWork_30 M a0 ((1024 : Int32) * x1) v1 v5) (E := E_X12_addsWork_30 M a0 ((1024 : Int32) * x1) v1 v5) (fun s o hb hk => t_X12_addsWork_L30 O R0 N hn a0 ((1024 : Int32) * x1) v1 v5 s.1 s.2 o hb hk) FU ((0 : Int32), σ) w7 e8 ?_
  show G M 0 0 112 [] [] SM w7
  cases h
  exact g_return O K dX12_addsWork_112
theorem c_X12_addsWork (l0 : Launch) (a0 : Nat) (x1 : Int32) (x2 : Int32) (σ : Dt) (r : Unit) (σ' : Dt) (h : f_X12_addsWork a0 x1 x2 σ = some (r, σ')) : Ctr l0 yX12_addsWork cX12_addsWork 9 (none) false 2 80 0 0 [vA (some a0), vI x1, vI x2] SM σ SM σ' (none) := ctr_of (by decide) (Nat.le_of_ble_eq_true rfl) (fun M O F R0 N hn => t_X12_addsWork O R0 N hn a0 x1 x2 σ (r, σ') h F)
def P_X12_laysPlans_2 (M : Mx) (a0 : Nat) (x1 : Int32) (s : (Int32 × Dt)) : Prop := G M 0 0 2 [(0, vA (some a0)), (1, vI x1), (2, vI s.1)] [] SM s.2
def E_X12_laysPlans_2 (M : Mx) (a0 : Nat) (x1 : Int32) : Dt → Prop := (fun w => G M 0 0 21 [(0, vA (some a0)), (1, vI x1)] [] SM w)
def f_X12_laysPlans_L2 (a0 : Nat) (x1 : Int32) (x2 : Int32) (σ : Dt) : Option ((Int32 × Dt) ⊕ Dt) := if (65536 : Int32) ≤ x2 then some (.inr σ) else bo (xgr SM 12 21 (some a0) σ) fun v2 => bo (xsz SM v2 x2 (0 : Int32) σ) fun σ4 => some (.inl ((x2 + (1 : Int32)), σ4))
theorem t_X12_laysPlans_L2 {M : Mx} {l0 : Launch} (O : Ok M cX12_laysPlans yX12_laysPlans) (R0 : Rm M l0 5 150 0 0) (N : Ma M = false) (hn : Mn M = 4) (a0 : Nat) (x1 : Int32) (x2 : Int32) (σ : Dt) (o : ((Int32 × Dt) ⊕ Dt)) (h : f_X12_laysPlans_L2 a0 x1 x2 σ = some o) (K : kon (P_X12_laysPlans_2 M a0 x1) (E_X12_laysPlans_2 M a0 x1) o) : G M 0 0 2 [(0, vA (some a0)), (1, vI x1), (2, vI x2)] [] SM σ := by
  unfold f_X12_laysPlans_L2 at h
  refine g_iload_n O dX12_laysPlans_2 rfl 2 rfl ?_
  refine g_ldc O dX12_laysPlans_3 w1457 ?_
  refine g_icmp_ge O dX12_laysPlans_5 rfl (fun c1 => ?_) (fun c1 => ?_)
  · replace h := (if_pos c1).symm.trans h
    refine g_sub [0, 1] (lv' := [(0, vA (some a0)), (1, vI x1)]) rfl ?_
    cases h
    exact K
  · replace h := (if_neg c1).symm.trans h
    refine g_aload_n O dX12_laysPlans_8 rfl 0 rfl ?_
    obtain ⟨v2, e3, h⟩ := bo_some h
    refine g_getR O dX12_laysPlans_9 fl_X12_39 rfl e3 ?_
    refine g_iload_n O dX12_laysPlans_12 rfl 2 rfl ?_
    refine g_iconst (v := (0 : Int32)) O dX12_laysPlans_13 rfl ?_
    obtain ⟨σ4, e5, h⟩ := bo_some h
    refine g_bastore O N dX12_laysPlans_14 e5 ?_
    refine g_iinc (v := (x2 + (1 : Int32))) (lv' := [(2, vI (x2 + (1 : Int32))), (0, vA (some a0)), (1, vI x1)]) O dX12_laysPlans_15 4 hn (by decide) 2 rfl rfl rfl ?_
    refine g_goto O dX12_laysPlans_18 rfl ?_
    refine g_sub [1, 2, 0] (lv' := [(0, vA (some a0)), (1, vI x1), (2, vI (x2 + (1 : Int32)))]) rfl ?_
    cases h
    exact K
def P_X12_laysPlans_46 (M : Mx) (a0 : Nat) (x1 : Int32) (x2 : Int32) (s : (Int32 × Dt)) : Prop := G M 0 0 46 [(0, vA (some a0)), (1, vI x1), (2, vI x2), (3, vI s.1)] [] SM s.2
def E_X12_laysPlans_46 (M : Mx) (a0 : Nat) (x1 : Int32) (x2 : Int32) : Dt → Prop := (fun w => G M 0 0 65 [(0, vA (some a0)), (1, vI x1), (2, vI x2)] [] SM w)
def f_X12_laysPlans_L46 (a0 : Nat) (x1 : Int32) (x2 : Int32) (x3 : Int32) (σ : Dt) : Option ((Int32 × Dt) ⊕ Dt) := if ((1 : Int32) <<< (x2 &&& 31)) ≤ x3 then some (.inr σ) else bo (xrc SM 12 (some a0)) fun a2 => bd (f_X12_addsWork a2 x3 x2 σ) fun v4 σ5 => some (.inl ((x3 + (1 : Int32)), σ5))
theorem t_X12_laysPlans_L46 {M : Mx} {l0 : Launch} (O : Ok M cX12_laysPlans yX12_laysPlans) (R0 : Rm M l0 5 150 0 0) (N : Ma M = false) (hn : Mn M = 4) (a0 : Nat) (x1 : Int32) (x2 : Int32) (x3 : Int32) (σ : Dt) (o : ((Int32 × Dt) ⊕ Dt)) (h : f_X12_laysPlans_L46 a0 x1 x2 x3 σ = some o) (K : kon (P_X12_laysPlans_46 M a0 x1 x2) (E_X12_laysPlans_46 M a0 x1 x2) o) : G M 0 0 46 [(0, vA (some a0)), (1, vI x1), (2, vI x2), (3, vI x3)] [] SM σ := by
  unfold f_X12_laysPlans_L46 at h
  refine g_iload_n O dX12_laysPlans_46 rfl 3 rfl ?_
  refine g_iconst (v := (1 : Int32)) O dX12_laysPlans_47 rfl ?_
  refine g_iload_n O dX12_laysPlans_48 rfl 2 rfl ?_
  refine g_ishl O dX12_laysPlans_49 ?_
  refine g_icmp_ge O dX12_laysPlans_50 rfl (fun c1 => ?_) (fun c1 => ?_)
  · replace h := (if_pos c1).symm.trans h
    refine g_sub [0, 1, 2] (lv' := [(0, vA (some a0)), (1, vI x1), (2, vI x2)]) rfl ?_
    cases h
    exact K
  · replace h := (if_neg c1).symm.trans h
    refine g_aload_n O dX12_laysPlans_53 rfl 0 rfl ?_
    refine g_iload_n O dX12_laysPlans_54 rfl 3 rfl ?_
    refine g_iload_n O dX12_laysPlans_55 rfl 2 rfl ?_
    obtain ⟨a2, e3, h⟩ := bo_some h
    obtain ⟨v4, σ5, e6, h⟩ := bd_some h
    refine g_cV0 O R0 N dX12_laysPlans_56 vl_X12_288 vv_X12_addsWork e3 [vI x3, vI x2] rfl rfl rfl ⟨Nat.le_of_ble_eq_true rfl, Nat.le_of_ble_eq_true rfl⟩ (c_X12_addsWork l0 a2 x3 x2 σ v4 σ5 e6) ?_
    refine g_iinc (v := (x3 + (1 : Int32))) (lv' := [(3, vI (x3 + (1 : Int32))), (0, vA (some a0)), (1, vI x1), (2, vI x2)]) O dX12_laysPlans_59 4 hn (by decide) 3 rfl rfl rfl ?_
    refine g_goto O dX12_laysPlans_62 rfl ?_
    refine g_sub [1, 2, 3, 0] (lv' := [(0, vA (some a0)), (1, vI x1), (2, vI x2), (3, vI (x3 + (1 : Int32)))]) rfl ?_
    cases h
    exact K
def P_X12_laysPlans_30 (M : Mx) (a0 : Nat) (x1 : Int32) (s : (Int32 × Dt)) : Prop := G M 0 0 30 [(0, vA (some a0)), (1, vI x1), (2, vI s.1)] [] SM s.2
def E_X12_laysPlans_30 (M : Mx) (a0 : Nat) (x1 : Int32) : Dt → Prop := (fun w => G M 0 0 71 [] [] SM w)
def f_X12_laysPlans_L30 (a0 : Nat) (x1 : Int32) (x2 : Int32) (σ : Dt) : Option ((Int32 × Dt) ⊕ Dt) := bo (xgi SM 12 13 (some a0) σ) fun v1 => if v1 ≤ x2 then some (.inr σ) else bo (xrc SM 12 (some a0)) fun a4 => bd (f_X12_laysEnough a4 x2 x1 σ) fun v6 σ7 => bo (iter FU (fun s => f_X12_laysPlans_L46 a0 x1 x2 s.1 s.2) ((0 : Int32), σ7)) fun w9 => some (.inl ((x2 + (1 : Int32)), w9))
theorem t_X12_laysPlans_L30 {M : Mx} {l0 : Launch} (O : Ok M cX12_laysPlans yX12_laysPlans) (R0 : Rm M l0 5 150 0 0) (N : Ma M = false) (hn : Mn M = 4) (a0 : Nat) (x1 : Int32) (x2 : Int32) (σ : Dt) (o : ((Int32 × Dt) ⊕ Dt)) (h : f_X12_laysPlans_L30 a0 x1 x2 σ = some o) (K : kon (P_X12_laysPlans_30 M a0 x1) (E_X12_laysPlans_30 M a0 x1) o) : G M 0 0 30 [(0, vA (some a0)), (1, vI x1), (2, vI x2)] [] SM σ := by
  unfold f_X12_laysPlans_L30 at h
  refine g_iload_n O dX12_laysPlans_30 rfl 2 rfl ?_
  refine g_aload_n O dX12_laysPlans_31 rfl 0 rfl ?_
  obtain ⟨v1, e2, h⟩ := bo_some h
  refine g_getI O dX12_laysPlans_32 fl_X12_214 rfl e2 ?_
  refine g_icmp_ge O dX12_laysPlans_35 rfl (fun c3 => ?_) (fun c3 => ?_)
  · replace h := (if_pos c3).symm.trans h
    refine g_sub [] (lv' := []) rfl ?_
    cases h
    exact K
  · replace h := (if_neg c3).symm.trans h
    refine g_aload_n O dX12_laysPlans_38 rfl 0 rfl ?_
    refine g_iload_n O dX12_laysPlans_39 rfl 2 rfl ?_
    refine g_iload_n O dX12_laysPlans_40 rfl 1 rfl ?_
    obtain ⟨a4, e5, h⟩ := bo_some h
    obtain ⟨v6, σ7, e8, h⟩ := bd_some h
    refine g_cV0 O R0 N dX12_laysPlans_41 vl_X12_285 vv_X12_laysEnough e5 [vI x2, vI x1] rfl rfl rfl ⟨Nat.le_of_ble_eq_true rfl, Nat.le_of_ble_eq_true rfl⟩ (c_X12_laysEnough l0 a4 x2 x1 σ v6 σ7 e8) ?_
    refine g_iconst (v := (0 : Int32)) O dX12_laysPlans_44 rfl ?_
    refine g_istore_n (lv' := [(3, vI (0 : Int32)), (0, vA (some a0)), (1, vI x1), (2, vI x2)]) O dX12_laysPlans_45 rfl 4 hn (by decide) rfl ?_
    refine g_sub [1, 2, 3, 0] (lv' := [(0, vA (some a0)), (1, vI x1), (2, vI x2), (3, vI (0 : Int32))]) rfl ?_
    obtain ⟨w9, e10, h⟩ := bo_some h
    refine iter_G (P := P_X12_laysPlans_46 M a0 x1 x2) (E := E_X12_laysPlans_46 M a0 x1 x2) (fun s o hb hk => t_X12_laysPlans_L46 O R0 N hn a0 x1 x2 s.1 s.2 o hb hk) FU ((0 : Int32), σ7) w9 e10 ?_
    show G M 0 0 65 [(0, vA (some a0)), (1, vI x1), (2, vI x2)] [] SM w9
    refine g_iinc (v := (x2 + (1 : Int32))) (lv' := [(2, vI (x2 + (1 : Int32))), (0, vA (some a0)), (1, vI x1)]) O dX12_laysPlans_65 4 hn (by decide) 2 rfl rfl rfl ?_
    refine g_goto O dX12_laysPlans_68 rfl ?_
    refine g_sub [1, 2, 0] (lv' := [(0, vA (some a0)), (1, vI x1), (2, vI (x2 + (1 : Int32)))]) rfl ?_
    cases h
    exact K
def f_X12_laysPlans (a0 : Nat) (x1 : Int32) (σ : Dt) : Option (Unit × Dt) := bo (iter FU (fun s => f_X12_laysPlans_L2 a0 x1 s.1 s.2) ((0 : Int32), σ)) fun w1 => bo (xgr SM 12 21 (some a0) w1) fun v3 => bo (xsz SM v3 (0 : Int32) (1 : Int32) w1) fun σ5 => bo (iter FU (fun s => f_X12_laysPlans_L30 a0 x1 s.1 s.2) ((0 : Int32), σ5)) fun w7 => some ((), w7)
theorem t_X12_laysPlans {M : Mx} {l0 : Launch} (O : Ok M cX12_laysPlans yX12_laysPlans) (R0 : Rm M l0 5 150 0 0) (N : Ma M = false) (hn : Mn M = 4) (a0 : Nat) (x1 : Int32) (σ : Dt) (o : (Unit × Dt)) (h : f_X12_laysPlans a0 x1 σ = some o) (K : Fin' M (none) 0 0 SM o.2 (none)) : G M 0 0 0 [(0, vA (some a0)), (1, vI x1)] [] SM σ := by
  unfold f_X12_laysPlans at h
  refine g_iconst (v := (0 : Int32)) O dX12_laysPlans_0 rfl ?_
  refine g_istore_n (lv' := [(2, vI (0 : Int32)), (0, vA (some a0)), (1, vI x1)]) O dX12_laysPlans_1 rfl 4 hn (by decide) rfl ?_
  refine g_sub [1, 2, 0] (lv' := [(0, vA (some a0)), (1, vI x1), (2, vI (0 : Int32))]) rfl ?_
  obtain ⟨w1, e2, h⟩ := bo_some h
  refine iter_G (P := P_X12_laysPlans_2 M a0 x1) (E := E_X12_laysPlans_2 M a0 x1) (fun s o hb hk => t_X12_laysPlans_L2 O R0 N hn a0 x1 s.1 s.2 o hb hk) FU ((0 : Int32), σ) w1 e2 ?_
  show G M 0 0 21 [(0, vA (some a0)), (1, vI x1)] [] SM w1
  refine g_aload_n O dX12_laysPlans_21 rfl 0 rfl ?_
  obtain ⟨v3, e4, h⟩ := bo_some h
  refine g_getR O dX12_laysPlans_22 fl_X12_39 rfl e4 ?_
  refine g_iconst (v := (0 : Int32)) O dX12_laysPlans_25 rfl ?_
  refine g_iconst (v := (1 : Int32)) O dX12_laysPlans_26 rfl ?_
  obtain ⟨σ5, e6, h⟩ := bo_some h
  refine g_bastore O N dX12_laysPlans_27 e6 ?_
  refine g_iconst (v := (0 : Int32)) O dX12_laysPlans_28 rfl ?_
  refine g_istore_n (lv' := [(2, vI (0 : Int32)), (0, vA (some a0)), (1, vI x1)]) O dX12_laysPlans_29 rfl 4 hn (by decide) rfl ?_
  refine g_sub [1, 2, 0] (lv' := [(0, vA (some a0)), (1, vI x1), (2, vI (0 : Int32))]) rfl ?_
  obtain ⟨w7, e8, h⟩ := bo_some h
  refine iter_G (P := P_X12_laysPlans_30 M a0 x1) (E := E_X12_laysPlans_30 M a0 x1) (fun s o hb hk => t_X12_laysPlans_L30 O R0 N hn a0 x1 s.1 s.2 o hb hk) FU ((0 : Int32), σ5) w7 e8 ?_
  show G M 0 0 71 [] [] SM w7
  cases h
  exact g_return O K dX12_laysPlans_71
theorem c_X12_laysPlans (l0 : Launch) (a0 : Nat) (x1 : Int32) (σ : Dt) (r : Unit) (σ' : Dt) (h : f_X12_laysPlans a0 x1 σ = some (r, σ')) : Ctr l0 yX12_laysPlans cX12_laysPlans 4 (none) false 5 150 0 0 [vA (some a0), vI x1] SM σ SM σ' (none) := ctr_of (by decide) (Nat.le_of_ble_eq_true rfl) (fun M O F R0 N hn => t_X12_laysPlans O R0 N hn a0 x1 σ (r, σ') h F)
def P_X12_fewestOf_6 (M : Mx) (a0 : Nat) (x1 : Int32) (σ : Dt) (s : (Int32 × Int32)) : Prop := G M 0 0 6 [(0, vA (some a0)), (1, vI x1), (2, vI s.1), (3, vI s.2)] [] SM σ
def E_X12_fewestOf_6 (M : Mx) (a0 : Nat) (x1 : Int32) (σ : Dt) : Int32 → Prop := (fun w => G M 0 0 50 [(2, vI w)] [] SM σ)
def f_X12_fewestOf_44 (a0 : Nat) (x1 : Int32) (x2 : Int32) (x3 : Int32) (σ : Dt) : Option ((Int32 × Int32) ⊕ Int32) := some (.inl (x2, (x3 + (1 : Int32))))
theorem t_X12_fewestOf_44 {M : Mx} {l0 : Launch} (O : Ok M cX12_fewestOf yX12_fewestOf) (R0 : Rm M l0 3 102 0 0) (N : Ma M = false) (hn : Mn M = 4)  (a0 : Nat) (x1 : Int32) (x2 : Int32) (x3 : Int32) (σ : Dt) (o : ((Int32 × Int32) ⊕ Int32)) (h : f_X12_fewestOf_44 a0 x1 x2 x3 σ = some o) (K : kon (P_X12_fewestOf_6 M a0 x1 σ) (E_X12_fewestOf_6 M a0 x1 σ) o) : G M 0 0 44 [(0, vA (some a0)), (1, vI x1), (2, vI x2), (3, vI x3)] [] SM σ := by
  unfold f_X12_fewestOf_44 at h
  refine g_iinc (v := (x3 + (1 : Int32))) (lv' := [(3, vI (x3 + (1 : Int32))), (0, vA (some a0)), (1, vI x1), (2, vI x2)]) O dX12_fewestOf_44 4 hn (by decide) 3 rfl rfl rfl ?_
  refine g_goto O dX12_fewestOf_47 rfl ?_
  refine g_sub [1, 2, 3, 0] (lv' := [(0, vA (some a0)), (1, vI x1), (2, vI x2), (3, vI (x3 + (1 : Int32)))]) rfl ?_
  cases h
  exact K
def f_X12_fewestOf_L6 (a0 : Nat) (x1 : Int32) (x2 : Int32) (x3 : Int32) (σ : Dt) : Option ((Int32 × Int32) ⊕ Int32) := bo (xgi SM 12 12 (some a0) σ) fun v1 => if ((1 : Int32) <<< (v1 &&& 31)) ≤ x3 then some (.inr x2) else bo (xgr SM 12 21 (some a0) σ) fun v4 => bo (xaz SM v4 (((1024 : Int32) * x1) + x3) σ) fun v6 => if v6 = 0 then f_X12_fewestOf_44 a0 x1 x2 x3 σ else bo (f_X12_bitsOf x3 σ) fun v9 => if x2 ≤ v9 then f_X12_fewestOf_44 a0 x1 x2 x3 σ else bo (f_X12_bitsOf x3 σ) fun v12 => f_X12_fewestOf_44 a0 x1 v12 x3 σ
theorem t_X12_fewestOf_L6 {M : Mx} {l0 : Launch} (O : Ok M cX12_fewestOf yX12_fewestOf) (R0 : Rm M l0 3 102 0 0) (N : Ma M = false) (hn : Mn M = 4) (a0 : Nat) (x1 : Int32) (x2 : Int32) (x3 : Int32) (σ : Dt) (o : ((Int32 × Int32) ⊕ Int32)) (h : f_X12_fewestOf_L6 a0 x1 x2 x3 σ = some o) (K : kon (P_X12_fewestOf_6 M a0 x1 σ) (E_X12_fewestOf_6 M a0 x1 σ) o) : G M 0 0 6 [(0, vA (some a0)), (1, vI x1), (2, vI x2), (3, vI x3)] [] SM σ := by
  unfold f_X12_fewestOf_L6 at h
  refine g_iload_n O dX12_fewestOf_6 rfl 3 rfl ?_
  refine g_iconst (v := (1 : Int32)) O dX12_fewestOf_7 rfl ?_
  refine g_aload_n O dX12_fewestOf_8 rfl 0 rfl ?_
  obtain ⟨v1, e2, h⟩ := bo_some h
  refine g_getI O dX12_fewestOf_9 fl_X12_211 rfl e2 ?_
  refine g_ishl O dX12_fewestOf_12 ?_
  refine g_icmp_ge O dX12_fewestOf_13 rfl (fun c3 => ?_) (fun c3 => ?_)
  · replace h := (if_pos c3).symm.trans h
    refine g_sub [2] (lv' := [(2, vI x2)]) rfl ?_
    cases h
    exact K
  · replace h := (if_neg c3).symm.trans h
    refine g_aload_n O dX12_fewestOf_16 rfl 0 rfl ?_
    obtain ⟨v4, e5, h⟩ := bo_some h
    refine g_getR O dX12_fewestOf_17 fl_X12_39 rfl e5 ?_
    refine g_sipush (v := (1024 : Int32)) O dX12_fewestOf_20 rfl ?_
    refine g_iload_n O dX12_fewestOf_23 rfl 1 rfl ?_
    refine g_imul O dX12_fewestOf_24 ?_
    refine g_iload_n O dX12_fewestOf_25 rfl 3 rfl ?_
    refine g_iadd O dX12_fewestOf_26 ?_
    obtain ⟨v6, e7, h⟩ := bo_some h
    refine g_baload O dX12_fewestOf_27 e7 ?_
    refine g_if_eq O dX12_fewestOf_28 rfl (fun c8 => ?_) (fun c8 => ?_)
    · replace h := (if_pos c8).symm.trans h
      exact t_X12_fewestOf_44 O R0 N hn a0 x1 x2 x3 σ o h K
    · replace h := (if_neg c8).symm.trans h
      refine g_iload_n O dX12_fewestOf_31 rfl 3 rfl ?_
      obtain ⟨v9, e10, h⟩ := bo_some h
      refine g_cS1 O R0 N dX12_fewestOf_32 vl_X12_183 w1701 [vI x3] rfl rfl rfl ⟨Nat.le_of_ble_eq_true rfl, Nat.le_of_ble_eq_true rfl⟩ (c_X12_bitsOf l0 x3 σ v9 e10) ?_
      refine g_iload_n O dX12_fewestOf_35 rfl 2 rfl ?_
      refine g_icmp_ge O dX12_fewestOf_36 rfl (fun c11 => ?_) (fun c11 => ?_)
      · replace h := (if_pos c11).symm.trans h
        exact t_X12_fewestOf_44 O R0 N hn a0 x1 x2 x3 σ o h K
      · replace h := (if_neg c11).symm.trans h
        refine g_iload_n O dX12_fewestOf_39 rfl 3 rfl ?_
        obtain ⟨v12, e13, h⟩ := bo_some h
        refine g_cS1 O R0 N dX12_fewestOf_40 vl_X12_183 w1701 [vI x3] rfl rfl rfl ⟨Nat.le_of_ble_eq_true rfl, Nat.le_of_ble_eq_true rfl⟩ (c_X12_bitsOf l0 x3 σ v12 e13) ?_
        refine g_istore_n (lv' := [(2, vI v12), (0, vA (some a0)), (1, vI x1), (3, vI x3)]) O dX12_fewestOf_43 rfl 4 hn (by decide) rfl ?_
        refine g_sub [1, 2, 0, 3] (lv' := [(0, vA (some a0)), (1, vI x1), (2, vI v12), (3, vI x3)]) rfl ?_
        exact t_X12_fewestOf_44 O R0 N hn a0 x1 v12 x3 σ o h K
def f_X12_fewestOf (a0 : Nat) (x1 : Int32) (σ : Dt) : Option Int32 := bo (iter FU (fun s => f_X12_fewestOf_L6 a0 x1 s.1 s.2 σ) ((99999999 : Int32), (0 : Int32))) fun w1 => some w1
theorem t_X12_fewestOf {M : Mx} {l0 : Launch} (O : Ok M cX12_fewestOf yX12_fewestOf) (R0 : Rm M l0 3 102 0 0) (N : Ma M = false) (hn : Mn M = 4) (a0 : Nat) (x1 : Int32) (σ : Dt) (o : Int32) (h : f_X12_fewestOf a0 x1 σ = some o) (K : Fin' M (some .int) 0 0 SM σ (some (vI o))) : G M 0 0 0 [(0, vA (some a0)), (1, vI x1)] [] SM σ := by
  unfold f_X12_fewestOf at h
  refine g_ldcw O dX12_fewestOf_0 w1799 ?_
  refine g_istore_n (lv' := [(2, vI (99999999 : Int32)), (0, vA (some a0)), (1, vI x1)]) O dX12_fewestOf_3 rfl 4 hn (by decide) rfl ?_
  refine g_iconst (v := (0 : Int32)) O dX12_fewestOf_4 rfl ?_
  refine g_istore_n (lv' := [(3, vI (0 : Int32)), (2, vI (99999999 : Int32)), (0, vA (some a0)), (1, vI x1)]) O dX12_fewestOf_5 rfl 4 hn (by decide) rfl ?_
  refine g_sub [2, 3, 1, 0] (lv' := [(0, vA (some a0)), (1, vI x1), (2, vI (99999999 : Int32)), (3, vI (0 : Int32))]) rfl ?_
  obtain ⟨w1, e2, h⟩ := bo_some h
  refine iter_G (P := P_X12_fewestOf_6 M a0 x1 σ) (E := E_X12_fewestOf_6 M a0 x1 σ) (fun s o hb hk => t_X12_fewestOf_L6 O R0 N hn a0 x1 s.1 s.2 σ o hb hk) FU ((99999999 : Int32), (0 : Int32)) w1 e2 ?_
  show G M 0 0 50 [(2, vI w1)] [] SM σ
  refine g_iload_n O dX12_fewestOf_50 rfl 0 rfl ?_
  cases h
  exact g_ireturn O K dX12_fewestOf_51
theorem c_X12_fewestOf (l0 : Launch) (a0 : Nat) (x1 : Int32) (σ : Dt) (r : Int32) (h : f_X12_fewestOf a0 x1 σ = some r) : Ctr l0 yX12_fewestOf cX12_fewestOf 4 (some .int) false 3 102 0 0 [vA (some a0), vI x1] SM σ SM σ (some (vI r)) := ctr_of (by decide) (Nat.le_of_ble_eq_true rfl) (fun M O F R0 N hn => t_X12_fewestOf O R0 N hn a0 x1 σ r h F)
def P_X12_worths_4 (M : Mx) (a0 : Nat) (x1 : Int32) (σ : Dt) (s : (Int32 × Int32)) : Prop := G M 0 0 4 [(0, vA (some a0)), (1, vI x1), (2, vI s.1), (3, vI s.2)] [] SM σ
def E_X12_worths_4 (M : Mx) (a0 : Nat) (x1 : Int32) (σ : Dt) : Int32 → Prop := (fun w => G M 0 0 38 [(2, vI w)] [] SM σ)
def f_X12_worths_30 (a0 : Nat) (x1 : Int32) (x3 : Int32) (k0 : Int32) (k1 : Int32) (σ : Dt) : Option ((Int32 × Int32) ⊕ Int32) := some (.inl ((k0 + k1), (x3 + (1 : Int32))))
theorem t_X12_worths_30 {M : Mx} {l0 : Launch} (O : Ok M cX12_worths yX12_worths) (R0 : Rm M l0 3 101 0 0) (N : Ma M = false) (hn : Mn M = 4)  (a0 : Nat) (x1 : Int32) (x3 : Int32) (k0 : Int32) (k1 : Int32) (σ : Dt) (o : ((Int32 × Int32) ⊕ Int32)) (h : f_X12_worths_30 a0 x1 x3 k0 k1 σ = some o) (K : kon (P_X12_worths_4 M a0 x1 σ) (E_X12_worths_4 M a0 x1 σ) o) : G M 0 0 30 [(0, vA (some a0)), (1, vI x1), (3, vI x3)] [vI k1, vI k0] SM σ := by
  unfold f_X12_worths_30 at h
  refine g_iadd O dX12_worths_30 ?_
  refine g_istore_n (lv' := [(2, vI (k0 + k1)), (0, vA (some a0)), (1, vI x1), (3, vI x3)]) O dX12_worths_31 rfl 4 hn (by decide) rfl ?_
  refine g_iinc (v := (x3 + (1 : Int32))) (lv' := [(3, vI (x3 + (1 : Int32))), (2, vI (k0 + k1)), (0, vA (some a0)), (1, vI x1)]) O dX12_worths_32 4 hn (by decide) 3 rfl rfl rfl ?_
  refine g_goto O dX12_worths_35 rfl ?_
  refine g_sub [2, 3, 1, 0] (lv' := [(0, vA (some a0)), (1, vI x1), (2, vI (k0 + k1)), (3, vI (x3 + (1 : Int32)))]) rfl ?_
  cases h
  exact K
def f_X12_worths_L4 (a0 : Nat) (x1 : Int32) (x2 : Int32) (x3 : Int32) (σ : Dt) : Option ((Int32 × Int32) ⊕ Int32) := bo (xgi SM 12 13 (some a0) σ) fun v1 => if v1 ≤ x3 then some (.inr x2) else bo (f_X12_isAmong x1 x3 σ) fun v4 => if v4 = 0 then f_X12_worths_30 a0 x1 x3 x2 (0 : Int32) σ else bo (xrc SM 12 (some a0)) fun a7 => bo (f_X12_worthOf a7 x3 σ) fun v9 => f_X12_worths_30 a0 x1 x3 x2 v9 σ
theorem t_X12_worths_L4 {M : Mx} {l0 : Launch} (O : Ok M cX12_worths yX12_worths) (R0 : Rm M l0 3 101 0 0) (N : Ma M = false) (hn : Mn M = 4) (a0 : Nat) (x1 : Int32) (x2 : Int32) (x3 : Int32) (σ : Dt) (o : ((Int32 × Int32) ⊕ Int32)) (h : f_X12_worths_L4 a0 x1 x2 x3 σ = some o) (K : kon (P_X12_worths_4 M a0 x1 σ) (E_X12_worths_4 M a0 x1 σ) o) : G M 0 0 4 [(0, vA (some a0)), (1, vI x1), (2, vI x2), (3, vI x3)] [] SM σ := by
  unfold f_X12_worths_L4 at h
  refine g_iload_n O dX12_worths_4 rfl 3 rfl ?_
  refine g_aload_n O dX12_worths_5 rfl 0 rfl ?_
  obtain ⟨v1, e2, h⟩ := bo_some h
  refine g_getI O dX12_worths_6 fl_X12_214 rfl e2 ?_
  refine g_icmp_ge O dX12_worths_9 rfl (fun c3 => ?_) (fun c3 => ?_)
  · replace h := (if_pos c3).symm.trans h
    refine g_sub [2] (lv' := [(2, vI x2)]) rfl ?_
    cases h
    exact K
  · replace h := (if_neg c3).symm.trans h
    refine g_iload_n O dX12_worths_12 rfl 2 rfl ?_
    refine g_iload_n O dX12_worths_13 rfl 1 rfl ?_
    refine g_iload_n O dX12_worths_14 rfl 3 rfl ?_
    obtain ⟨v4, e5, h⟩ := bo_some h
    refine g_cS1 O R0 N dX12_worths_15 vl_X12_235 w1766 [vI x1, vI x3] rfl rfl rfl ⟨Nat.le_of_ble_eq_true rfl, Nat.le_of_ble_eq_true rfl⟩ (c_X12_isAmong l0 x1 x3 σ v4 e5) ?_
    refine g_if_eq O dX12_worths_18 rfl (fun c6 => ?_) (fun c6 => ?_)
    · replace h := (if_pos c6).symm.trans h
      refine g_iconst (v := (0 : Int32)) O dX12_worths_29 rfl ?_
      refine g_sub [0, 1, 3] (lv' := [(0, vA (some a0)), (1, vI x1), (3, vI x3)]) rfl ?_
      exact t_X12_worths_30 O R0 N hn a0 x1 x3 x2 (0 : Int32) σ o h K
    · replace h := (if_neg c6).symm.trans h
      refine g_aload_n O dX12_worths_21 rfl 0 rfl ?_
      refine g_iload_n O dX12_worths_22 rfl 3 rfl ?_
      obtain ⟨a7, e8, h⟩ := bo_some h
      obtain ⟨v9, e10, h⟩ := bo_some h
      refine g_cV1 O R0 N dX12_worths_23 vl_X12_232 vv_X12_worthOf e8 [vI x3] rfl rfl rfl ⟨Nat.le_of_ble_eq_true rfl, Nat.le_of_ble_eq_true rfl⟩ (c_X12_worthOf l0 a7 x3 σ v9 e10) ?_
      refine g_goto O dX12_worths_26 rfl ?_
      refine g_sub [0, 1, 3] (lv' := [(0, vA (some a0)), (1, vI x1), (3, vI x3)]) rfl ?_
      exact t_X12_worths_30 O R0 N hn a0 x1 x3 x2 v9 σ o h K
def f_X12_worths (a0 : Nat) (x1 : Int32) (σ : Dt) : Option Int32 := bo (iter FU (fun s => f_X12_worths_L4 a0 x1 s.1 s.2 σ) ((0 : Int32), (0 : Int32))) fun w1 => some w1
theorem t_X12_worths {M : Mx} {l0 : Launch} (O : Ok M cX12_worths yX12_worths) (R0 : Rm M l0 3 101 0 0) (N : Ma M = false) (hn : Mn M = 4) (a0 : Nat) (x1 : Int32) (σ : Dt) (o : Int32) (h : f_X12_worths a0 x1 σ = some o) (K : Fin' M (some .int) 0 0 SM σ (some (vI o))) : G M 0 0 0 [(0, vA (some a0)), (1, vI x1)] [] SM σ := by
  unfold f_X12_worths at h
  refine g_iconst (v := (0 : Int32)) O dX12_worths_0 rfl ?_
  refine g_istore_n (lv' := [(2, vI (0 : Int32)), (0, vA (some a0)), (1, vI x1)]) O dX12_worths_1 rfl 4 hn (by decide) rfl ?_
  refine g_iconst (v := (0 : Int32)) O dX12_worths_2 rfl ?_
  refine g_istore_n (lv' := [(3, vI (0 : Int32)), (2, vI (0 : Int32)), (0, vA (some a0)), (1, vI x1)]) O dX12_worths_3 rfl 4 hn (by decide) rfl ?_
  refine g_sub [2, 3, 1, 0] (lv' := [(0, vA (some a0)), (1, vI x1), (2, vI (0 : Int32)), (3, vI (0 : Int32))]) rfl ?_
  obtain ⟨w1, e2, h⟩ := bo_some h
  refine iter_G (P := P_X12_worths_4 M a0 x1 σ) (E := E_X12_worths_4 M a0 x1 σ) (fun s o hb hk => t_X12_worths_L4 O R0 N hn a0 x1 s.1 s.2 σ o hb hk) FU ((0 : Int32), (0 : Int32)) w1 e2 ?_
  show G M 0 0 38 [(2, vI w1)] [] SM σ
  refine g_iload_n O dX12_worths_38 rfl 0 rfl ?_
  cases h
  exact g_ireturn O K dX12_worths_39
theorem c_X12_worths (l0 : Launch) (a0 : Nat) (x1 : Int32) (σ : Dt) (r : Int32) (h : f_X12_worths a0 x1 σ = some r) : Ctr l0 yX12_worths cX12_worths 4 (some .int) false 3 101 0 0 [vA (some a0), vI x1] SM σ SM σ (some (vI r)) := ctr_of (by decide) (Nat.le_of_ble_eq_true rfl) (fun M O F R0 N hn => t_X12_worths O R0 N hn a0 x1 σ r h F)
def P_X12_plan_40 (M : Mx) (a0 : Nat) (x3 : Int32) (σ : Dt) (s : (Int32 × Int32)) : Prop := G M 0 0 40 [(0, vA (some a0)), (3, vI x3), (4, vI s.1), (5, vI s.2)] [] SM σ
def E_X12_plan_40 (M : Mx) (a0 : Nat) (x3 : Int32) (σ : Dt) : Int32 → Prop := (fun w => G M 0 0 88 [(0, vA (some a0)), (3, vI x3), (4, vI w)] [] SM σ)
def f_X12_plan_82 (a0 : Nat) (x3 : Int32) (x4 : Int32) (x5 : Int32) (σ : Dt) : Option ((Int32 × Int32) ⊕ Int32) := some (.inl (x4, (x5 + (1 : Int32))))
theorem t_X12_plan_82 {M : Mx} {l0 : Launch} (O : Ok M cX12_plan yX12_plan) (R0 : Rm M l0 6 173 0 0) (N : Ma M = false) (hn : Mn M = 6)  (a0 : Nat) (x3 : Int32) (x4 : Int32) (x5 : Int32) (σ : Dt) (o : ((Int32 × Int32) ⊕ Int32)) (h : f_X12_plan_82 a0 x3 x4 x5 σ = some o) (K : kon (P_X12_plan_40 M a0 x3 σ) (E_X12_plan_40 M a0 x3 σ) o) : G M 0 0 82 [(0, vA (some a0)), (3, vI x3), (4, vI x4), (5, vI x5)] [] SM σ := by
  unfold f_X12_plan_82 at h
  refine g_iinc (v := (x5 + (1 : Int32))) (lv' := [(5, vI (x5 + (1 : Int32))), (0, vA (some a0)), (3, vI x3), (4, vI x4)]) O dX12_plan_82 6 hn (by decide) 3 rfl rfl rfl ?_
  refine g_goto O dX12_plan_85 rfl ?_
  refine g_sub [1, 2, 3, 0] (lv' := [(0, vA (some a0)), (3, vI x3), (4, vI x4), (5, vI (x5 + (1 : Int32)))]) rfl ?_
  cases h
  exact K
def f_X12_plan_L40 (a0 : Nat) (x3 : Int32) (x4 : Int32) (x5 : Int32) (σ : Dt) : Option ((Int32 × Int32) ⊕ Int32) := bo (xgi SM 12 13 (some a0) σ) fun v1 => if ((1 : Int32) <<< (v1 &&& 31)) ≤ x5 then some (.inr x4) else bo (xrc SM 12 (some a0)) fun a4 => bo (f_X12_worths a4 x5 σ) fun v6 => bo (xrc SM 12 (some a0)) fun a8 => bo (f_X12_worths a8 x4 σ) fun v10 => if v6 ≤ v10 then f_X12_plan_82 a0 x3 x4 x5 σ else bo (xrc SM 12 (some a0)) fun a13 => bo (f_X12_fewestOf a13 x5 σ) fun v15 => if (99999999 : Int32) ≤ v15 then f_X12_plan_82 a0 x3 x4 x5 σ else f_X12_plan_82 a0 x3 x5 x5 σ
theorem t_X12_plan_L40 {M : Mx} {l0 : Launch} (O : Ok M cX12_plan yX12_plan) (R0 : Rm M l0 6 173 0 0) (N : Ma M = false) (hn : Mn M = 6) (a0 : Nat) (x3 : Int32) (x4 : Int32) (x5 : Int32) (σ : Dt) (o : ((Int32 × Int32) ⊕ Int32)) (h : f_X12_plan_L40 a0 x3 x4 x5 σ = some o) (K : kon (P_X12_plan_40 M a0 x3 σ) (E_X12_plan_40 M a0 x3 σ) o) : G M 0 0 40 [(0, vA (some a0)), (3, vI x3), (4, vI x4), (5, vI x5)] [] SM σ := by
  unfold f_X12_plan_L40 at h
  refine g_iload O dX12_plan_40 3 rfl ?_
  refine g_iconst (v := (1 : Int32)) O dX12_plan_42 rfl ?_
  refine g_aload_n O dX12_plan_43 rfl 0 rfl ?_
  obtain ⟨v1, e2, h⟩ := bo_some h
  refine g_getI O dX12_plan_44 fl_X12_214 rfl e2 ?_
  refine g_ishl O dX12_plan_47 ?_
  refine g_icmp_ge O dX12_plan_48 rfl (fun c3 => ?_) (fun c3 => ?_)
  · replace h := (if_pos c3).symm.trans h
    refine g_sub [0, 1, 2] (lv' := [(0, vA (some a0)), (3, vI x3), (4, vI x4)]) rfl ?_
    cases h
    exact K
  · replace h := (if_neg c3).symm.trans h
    refine g_aload_n O dX12_plan_51 rfl 0 rfl ?_
    refine g_iload O dX12_plan_52 3 rfl ?_
    obtain ⟨a4, e5, h⟩ := bo_some h
    obtain ⟨v6, e7, h⟩ := bo_some h
    refine g_cV1 O R0 N dX12_plan_54 vl_X12_294 vv_X12_worths e5 [vI x5] rfl rfl rfl ⟨Nat.le_of_ble_eq_true rfl, Nat.le_of_ble_eq_true rfl⟩ (c_X12_worths l0 a4 x5 σ v6 e7) ?_
    refine g_aload_n O dX12_plan_57 rfl 0 rfl ?_
    refine g_iload O dX12_plan_58 2 rfl ?_
    obtain ⟨a8, e9, h⟩ := bo_some h
    obtain ⟨v10, e11, h⟩ := bo_some h
    refine g_cV1 O R0 N dX12_plan_60 vl_X12_294 vv_X12_worths e9 [vI x4] rfl rfl rfl ⟨Nat.le_of_ble_eq_true rfl, Nat.le_of_ble_eq_true rfl⟩ (c_X12_worths l0 a8 x4 σ v10 e11) ?_
    refine g_icmp_le O dX12_plan_63 rfl (fun c12 => ?_) (fun c12 => ?_)
    · replace h := (if_pos c12).symm.trans h
      exact t_X12_plan_82 O R0 N hn a0 x3 x4 x5 σ o h K
    · replace h := (if_neg c12).symm.trans h
      refine g_aload_n O dX12_plan_66 rfl 0 rfl ?_
      refine g_iload O dX12_plan_67 3 rfl ?_
      obtain ⟨a13, e14, h⟩ := bo_some h
      obtain ⟨v15, e16, h⟩ := bo_some h
      refine g_cV1 O R0 N dX12_plan_69 vl_X12_297 vv_X12_fewestOf e14 [vI x5] rfl rfl rfl ⟨Nat.le_of_ble_eq_true rfl, Nat.le_of_ble_eq_true rfl⟩ (c_X12_fewestOf l0 a13 x5 σ v15 e16) ?_
      refine g_ldcw O dX12_plan_72 w1799 ?_
      refine g_icmp_ge O dX12_plan_75 rfl (fun c17 => ?_) (fun c17 => ?_)
      · replace h := (if_pos c17).symm.trans h
        exact t_X12_plan_82 O R0 N hn a0 x3 x4 x5 σ o h K
      · replace h := (if_neg c17).symm.trans h
        refine g_iload O dX12_plan_78 3 rfl ?_
        refine g_istore (lv' := [(4, vI x5), (0, vA (some a0)), (3, vI x3), (5, vI x5)]) O dX12_plan_80 6 hn (by decide) rfl ?_
        refine g_sub [1, 2, 0, 3] (lv' := [(0, vA (some a0)), (3, vI x3), (4, vI x5), (5, vI x5)]) rfl ?_
        exact t_X12_plan_82 O R0 N hn a0 x3 x5 x5 σ o h K
def f_X12_plan (a0 : Nat) (x1 : Int32) (x2 : Int32) (x3 : Int32) (σ : Dt) : Option (Int32 × Dt) := bo (xrc SM 12 (some a0)) fun a1 => bd (f_X12_isValley a1 x1 σ) fun v3 σ4 => if v3 = 0 then some ((-1 : Int32), σ4) else bo (f_X12_isIn x2 (1 : Int32) (9 : Int32) σ4) fun v7 => if v7 = 0 then some ((-1 : Int32), σ4) else bo (f_X12_isIn x3 (0 : Int32) (2 : Int32) σ4) fun v10 => if v10 = 0 then some ((-1 : Int32), σ4) else bo (xrc SM 12 (some a0)) fun a13 => bd (f_X12_laysPlans a13 x2 σ4) fun v15 σ16 => bo (iter FU (fun s => f_X12_plan_L40 a0 x3 s.1 s.2 σ16) ((0 : Int32), (1 : Int32))) fun w18 => if x3 = 0 then bo (xrc SM 12 (some a0)) fun a21 => bo (f_X12_worths a21 w18 σ16) fun v23 => some (v23, σ16) else if x3 = (1 : Int32) then some (w18, σ16) else bo (xrc SM 12 (some a0)) fun a26 => bo (f_X12_fewestOf a26 w18 σ16) fun v28 => some (v28, σ16)
theorem t_X12_plan {M : Mx} {l0 : Launch} (O : Ok M cX12_plan yX12_plan) (R0 : Rm M l0 6 173 0 0) (N : Ma M = false) (hn : Mn M = 6) (a0 : Nat) (x1 : Int32) (x2 : Int32) (x3 : Int32) (σ : Dt) (o : (Int32 × Dt)) (h : f_X12_plan a0 x1 x2 x3 σ = some o) (K : Fin' M (some .int) 0 0 SM o.2 (some (vI o.1))) : G M 0 0 0 [(0, vA (some a0)), (1, vI x1), (2, vI x2), (3, vI x3)] [] SM σ := by
  unfold f_X12_plan at h
  refine g_aload_n O dX12_plan_0 rfl 0 rfl ?_
  refine g_iload_n O dX12_plan_1 rfl 1 rfl ?_
  obtain ⟨a1, e2, h⟩ := bo_some h
  obtain ⟨v3, σ4, e5, h⟩ := bd_some h
  refine g_cV1 O R0 N dX12_plan_2 vl_X12_220 vv_X12_isValley e2 [vI x1] rfl rfl rfl ⟨Nat.le_of_ble_eq_true rfl, Nat.le_of_ble_eq_true rfl⟩ (c_X12_isValley l0 a1 x1 σ v3 σ4 e5) ?_
  refine g_if_eq O dX12_plan_5 rfl (fun c6 => ?_) (fun c6 => ?_)
  · replace h := (if_pos c6).symm.trans h
    refine g_iconst (v := (-1 : Int32)) O dX12_plan_27 rfl ?_
    cases h
    exact g_ireturn O K dX12_plan_28
  · replace h := (if_neg c6).symm.trans h
    refine g_iload_n O dX12_plan_8 rfl 2 rfl ?_
    refine g_iconst (v := (1 : Int32)) O dX12_plan_9 rfl ?_
    refine g_bipush (v := (9 : Int32)) O dX12_plan_10 rfl ?_
    obtain ⟨v7, e8, h⟩ := bo_some h
    refine g_cS1 O R0 N dX12_plan_12 vl_X12_146 w1616 [vI x2, vI (1 : Int32), vI (9 : Int32)] rfl rfl rfl ⟨Nat.le_of_ble_eq_true rfl, Nat.le_of_ble_eq_true rfl⟩ (c_X12_isIn l0 x2 (1 : Int32) (9 : Int32) σ4 v7 e8) ?_
    refine g_if_eq O dX12_plan_15 rfl (fun c9 => ?_) (fun c9 => ?_)
    · replace h := (if_pos c9).symm.trans h
      refine g_iconst (v := (-1 : Int32)) O dX12_plan_27 rfl ?_
      cases h
      exact g_ireturn O K dX12_plan_28
    · replace h := (if_neg c9).symm.trans h
      refine g_iload_n O dX12_plan_18 rfl 3 rfl ?_
      refine g_iconst (v := (0 : Int32)) O dX12_plan_19 rfl ?_
      refine g_iconst (v := (2 : Int32)) O dX12_plan_20 rfl ?_
      obtain ⟨v10, e11, h⟩ := bo_some h
      refine g_cS1 O R0 N dX12_plan_21 vl_X12_146 w1616 [vI x3, vI (0 : Int32), vI (2 : Int32)] rfl rfl rfl ⟨Nat.le_of_ble_eq_true rfl, Nat.le_of_ble_eq_true rfl⟩ (c_X12_isIn l0 x3 (0 : Int32) (2 : Int32) σ4 v10 e11) ?_
      refine g_if_ne O dX12_plan_24 rfl (fun c12 => ?_) (fun c12 => ?_)
      · replace h := (if_pos c12).symm.trans h
        refine g_iconst (v := (-1 : Int32)) O dX12_plan_27 rfl ?_
        cases h
        exact g_ireturn O K dX12_plan_28
      · replace h := (if_neg c12).symm.trans h
        refine g_aload_n O dX12_plan_29 rfl 0 rfl ?_
        refine g_iload_n O dX12_plan_30 rfl 2 rfl ?_
        obtain ⟨a13, e14, h⟩ := bo_some h
        obtain ⟨v15, σ16, e17, h⟩ := bd_some h
        refine g_cV0 O R0 N dX12_plan_31 vl_X12_291 vv_X12_laysPlans e14 [vI x2] rfl rfl rfl ⟨Nat.le_of_ble_eq_true rfl, Nat.le_of_ble_eq_true rfl⟩ (c_X12_laysPlans l0 a13 x2 σ4 v15 σ16 e17) ?_
        refine g_iconst (v := (0 : Int32)) O dX12_plan_34 rfl ?_
        refine g_istore (lv' := [(4, vI (0 : Int32)), (0, vA (some a0)), (1, vI x1), (2, vI x2), (3, vI x3)]) O dX12_plan_35 6 hn (by decide) rfl ?_
        refine g_iconst (v := (1 : Int32)) O dX12_plan_37 rfl ?_
        refine g_istore (lv' := [(5, vI (1 : Int32)), (4, vI (0 : Int32)), (0, vA (some a0)), (1, vI x1), (2, vI x2), (3, vI x3)]) O dX12_plan_38 6 hn (by decide) rfl ?_
        refine g_sub [2, 5, 1, 0] (lv' := [(0, vA (some a0)), (3, vI x3), (4, vI (0 : Int32)), (5, vI (1 : Int32))]) rfl ?_
        obtain ⟨w18, e19, h⟩ := bo_some h
        refine iter_G (P := P_X12_plan_40 M a0 x3 σ16) (E := E_X12_plan_40 M a0 x3 σ16) (fun s o hb hk => t_X12_plan_L40 O R0 N hn a0 x3 s.1 s.2 σ16 o hb hk) FU ((0 : Int32), (1 : Int32)) w18 e19 ?_
        show G M 0 0 88 [(0, vA (some a0)), (3, vI x3), (4, vI w18)] [] SM σ16
        refine g_iload_n O dX12_plan_88 rfl 1 rfl ?_
        refine g_if_ne O dX12_plan_89 rfl (fun c20 => ?_) (fun c20 => ?_)
        · replace h := (if_pos c20).symm.trans h
          refine g_aload_n O dX12_plan_92 rfl 0 rfl ?_
          refine g_iload O dX12_plan_93 2 rfl ?_
          obtain ⟨a21, e22, h⟩ := bo_some h
          obtain ⟨v23, e24, h⟩ := bo_some h
          refine g_cV1 O R0 N dX12_plan_95 vl_X12_294 vv_X12_worths e22 [vI w18] rfl rfl rfl ⟨Nat.le_of_ble_eq_true rfl, Nat.le_of_ble_eq_true rfl⟩ (c_X12_worths l0 a21 w18 σ16 v23 e24) ?_
          refine g_goto O dX12_plan_98 rfl ?_
          cases h
          exact g_ireturn O K dX12_plan_117
        · replace h := (if_neg c20).symm.trans h
          refine g_iload_n O dX12_plan_101 rfl 1 rfl ?_
          refine g_iconst (v := (1 : Int32)) O dX12_plan_102 rfl ?_
          refine g_icmp_ne O dX12_plan_103 rfl (fun c25 => ?_) (fun c25 => ?_)
          · replace h := (if_pos c25).symm.trans h
            refine g_iload O dX12_plan_106 2 rfl ?_
            refine g_goto O dX12_plan_108 rfl ?_
            cases h
            exact g_ireturn O K dX12_plan_117
          · replace h := (if_neg c25).symm.trans h
            refine g_aload_n O dX12_plan_111 rfl 0 rfl ?_
            refine g_iload O dX12_plan_112 2 rfl ?_
            obtain ⟨a26, e27, h⟩ := bo_some h
            obtain ⟨v28, e29, h⟩ := bo_some h
            refine g_cV1 O R0 N dX12_plan_114 vl_X12_297 vv_X12_fewestOf e27 [vI w18] rfl rfl rfl ⟨Nat.le_of_ble_eq_true rfl, Nat.le_of_ble_eq_true rfl⟩ (c_X12_fewestOf l0 a26 w18 σ16 v28 e29) ?_
            cases h
            exact g_ireturn O K dX12_plan_117
theorem c_X12_plan (l0 : Launch) (a0 : Nat) (x1 : Int32) (x2 : Int32) (x3 : Int32) (σ : Dt) (r : Int32) (σ' : Dt) (h : f_X12_plan a0 x1 x2 x3 σ = some (r, σ')) : Ctr l0 yX12_plan cX12_plan 6 (some .int) false 6 173 0 0 [vA (some a0), vI x1, vI x2, vI x3] SM σ SM σ' (some (vI r)) := ctr_of (by decide) (Nat.le_of_ble_eq_true rfl) (fun M O F R0 N hn => t_X12_plan O R0 N hn a0 x1 x2 x3 σ (r, σ') h F)
def P_X12_common_6 (M : Mx) (σ : Dt) (s : (Int64 × Int64)) : Prop := G M 0 0 6 [(4, vJ s.1), (6, vJ s.2)] [] SM σ
def E_X12_common_6 (M : Mx) (σ : Dt) : Int64 → Prop := (fun w => G M 0 0 31 [(4, vJ w)] [] SM σ)
def f_X12_common_L6 (y4 : Int64) (y6 : Int64) (σ : Dt) : Option ((Int64 × Int64) ⊕ Int64) := if (lg_cmp y6 (0 : Int64)) = 0 then some (.inr y4) else if y6 = 0 then none else some (.inl (y6, (y4 - y4 / y6 * y6)))
theorem t_X12_common_L6 {M : Mx} {l0 : Launch} (O : Ok M cX12_common yX12_common) (R0 : Rm M l0 2 80 0 0) (N : Ma M = false) (hn : Mn M = 10) (y4 : Int64) (y6 : Int64) (σ : Dt) (o : ((Int64 × Int64) ⊕ Int64)) (h : f_X12_common_L6 y4 y6 σ = some o) (K : kon (P_X12_common_6 M σ) (E_X12_common_6 M σ) o) : G M 0 0 6 [(4, vJ y4), (6, vJ y6)] [] SM σ := by
  unfold f_X12_common_L6 at h
  refine g_lload O dX12_common_6 1 rfl ?_
  refine g_lconst (v := (0 : Int64)) O dX12_common_8 rfl ?_
  refine g_lcmp O dX12_common_9 ?_
  refine g_if_eq O dX12_common_10 rfl (fun c1 => ?_) (fun c1 => ?_)
  · replace h := (if_pos c1).symm.trans h
    refine g_sub [0] (lv' := [(4, vJ y4)]) rfl ?_
    cases h
    exact K
  · replace h := (if_neg c1).symm.trans h
    refine g_lload O dX12_common_13 0 rfl ?_
    refine g_lload O dX12_common_15 1 rfl ?_
    by_cases c2 : y6 = 0
    · rw [if_pos c2] at h; cases h
    replace h := (if_neg c2).symm.trans h
    refine g_lrem O dX12_common_17 c2 ?_
    refine g_lstore (lv' := [(8, vJ (y4 - y4 / y6 * y6)), (4, vJ y4), (6, vJ y6)]) O dX12_common_18 10 hn (by decide) rfl ?_
    refine g_lload O dX12_common_20 2 rfl ?_
    refine g_lstore (lv' := [(4, vJ y6), (8, vJ (y4 - y4 / y6 * y6)), (6, vJ y6)]) O dX12_common_22 10 hn (by decide) rfl ?_
    refine g_lload O dX12_common_24 1 rfl ?_
    refine g_lstore (lv' := [(6, vJ (y4 - y4 / y6 * y6)), (4, vJ y6), (8, vJ (y4 - y4 / y6 * y6))]) O dX12_common_26 10 hn (by decide) rfl ?_
    refine g_goto O dX12_common_28 rfl ?_
    refine g_sub [1, 0] (lv' := [(4, vJ y6), (6, vJ (y4 - y4 / y6 * y6))]) rfl ?_
    cases h
    exact K
def f_X12_common (y0 : Int64) (y2 : Int64) (σ : Dt) : Option Int64 := bo (iter FU (fun s => f_X12_common_L6 s.1 s.2 σ) (y0, y2)) fun w1 => some w1
theorem t_X12_common {M : Mx} {l0 : Launch} (O : Ok M cX12_common yX12_common) (R0 : Rm M l0 2 80 0 0) (N : Ma M = false) (hn : Mn M = 10) (y0 : Int64) (y2 : Int64) (σ : Dt) (o : Int64) (h : f_X12_common y0 y2 σ = some o) (K : Fin' M (some .long) 0 0 SM σ (some (vJ o))) : G M 0 0 0 [(0, vJ y0), (2, vJ y2)] [] SM σ := by
  unfold f_X12_common at h
  refine g_lload_n O dX12_common_0 rfl 0 rfl ?_
  refine g_lstore (lv' := [(4, vJ y0), (0, vJ y0), (2, vJ y2)]) O dX12_common_1 10 hn (by decide) rfl ?_
  refine g_lload_n O dX12_common_3 rfl 2 rfl ?_
  refine g_lstore (lv' := [(6, vJ y2), (4, vJ y0), (0, vJ y0), (2, vJ y2)]) O dX12_common_4 10 hn (by decide) rfl ?_
  refine g_sub [1, 0] (lv' := [(4, vJ y0), (6, vJ y2)]) rfl ?_
  obtain ⟨w1, e2, h⟩ := bo_some h
  refine iter_G (P := P_X12_common_6 M σ) (E := E_X12_common_6 M σ) (fun s o hb hk => t_X12_common_L6 O R0 N hn s.1 s.2 σ o hb hk) FU (y0, y2) w1 e2 ?_
  show G M 0 0 31 [(4, vJ w1)] [] SM σ
  refine g_lload O dX12_common_31 0 rfl ?_
  cases h
  exact g_lreturn O K dX12_common_33
theorem c_X12_common (l0 : Launch) (y0 : Int64) (y2 : Int64) (σ : Dt) (r : Int64) (h : f_X12_common y0 y2 σ = some r) : Ctr l0 yX12_common cX12_common 10 (some .long) false 2 80 0 0 [vJ y0, vJ y2] SM σ SM σ (some (vJ r)) := ctr_of (by decide) (Nat.le_of_ble_eq_true rfl) (fun M O F R0 N hn => t_X12_common O R0 N hn y0 y2 σ r h F)
def f_X12_parted_10 (y0 : Int64) (y2 : Int64) (k0 : Int64) (σ : Dt) : Option Int64 := bo (f_X12_common y0 y2 σ) fun v1 => if v1 = 0 then none else some (k0 / v1)
theorem t_X12_parted_10 {M : Mx} {l0 : Launch} (O : Ok M cX12_parted yX12_parted) (R0 : Rm M l0 3 109 0 0) (N : Ma M = false) (hn : Mn M = 5)  (y0 : Int64) (y2 : Int64) (k0 : Int64) (σ : Dt) (o : Int64) (h : f_X12_parted_10 y0 y2 k0 σ = some o) (K : Fin' M (some .long) 0 0 SM σ (some (vJ o))) : G M 0 0 10 [(0, vJ y0), (2, vJ y2)] [vJ k0] SM σ := by
  unfold f_X12_parted_10 at h
  refine g_lload_n O dX12_parted_10 rfl 0 rfl ?_
  refine g_lload_n O dX12_parted_11 rfl 1 rfl ?_
  obtain ⟨v1, e2, h⟩ := bo_some h
  refine g_cS1 O R0 N dX12_parted_12 vl_X12_300 w1853 [vJ y0, vJ y2] rfl rfl rfl ⟨Nat.le_of_ble_eq_true rfl, Nat.le_of_ble_eq_true rfl⟩ (c_X12_common l0 y0 y2 σ v1 e2) ?_
  by_cases c3 : v1 = 0
  · rw [if_pos c3] at h; cases h
  replace h := (if_neg c3).symm.trans h
  refine g_ldiv O dX12_parted_15 c3 ?_
  cases h
  exact g_lreturn O K dX12_parted_16
def f_X12_parted (y0 : Int64) (y2 : Int64) (x4 : Int32) (σ : Dt) : Option Int64 := if x4 = 0 then f_X12_parted_10 y0 y2 y0 σ else f_X12_parted_10 y0 y2 y2 σ
theorem t_X12_parted {M : Mx} {l0 : Launch} (O : Ok M cX12_parted yX12_parted) (R0 : Rm M l0 3 109 0 0) (N : Ma M = false) (hn : Mn M = 5) (y0 : Int64) (y2 : Int64) (x4 : Int32) (σ : Dt) (o : Int64) (h : f_X12_parted y0 y2 x4 σ = some o) (K : Fin' M (some .long) 0 0 SM σ (some (vJ o))) : G M 0 0 0 [(0, vJ y0), (2, vJ y2), (4, vI x4)] [] SM σ := by
  unfold f_X12_parted at h
  refine g_iload O dX12_parted_0 2 rfl ?_
  refine g_if_eq O dX12_parted_2 rfl (fun c1 => ?_) (fun c1 => ?_)
  · replace h := (if_pos c1).symm.trans h
    refine g_lload_n O dX12_parted_9 rfl 0 rfl ?_
    refine g_sub [0, 1] (lv' := [(0, vJ y0), (2, vJ y2)]) rfl ?_
    exact t_X12_parted_10 O R0 N hn y0 y2 y0 σ o h K
  · replace h := (if_neg c1).symm.trans h
    refine g_lload_n O dX12_parted_5 rfl 1 rfl ?_
    refine g_goto O dX12_parted_6 rfl ?_
    refine g_sub [0, 1] (lv' := [(0, vJ y0), (2, vJ y2)]) rfl ?_
    exact t_X12_parted_10 O R0 N hn y0 y2 y2 σ o h K
theorem c_X12_parted (l0 : Launch) (y0 : Int64) (y2 : Int64) (x4 : Int32) (σ : Dt) (r : Int64) (h : f_X12_parted y0 y2 x4 σ = some r) : Ctr l0 yX12_parted cX12_parted 5 (some .long) false 3 109 0 0 [vJ y0, vJ y2, vI x4] SM σ SM σ (some (vJ r)) := ctr_of (by decide) (Nat.le_of_ble_eq_true rfl) (fun M O F R0 N hn => t_X12_parted O R0 N hn y0 y2 x4 σ r h F)
def P_X12_tens_4 (M : Mx) (x0 : Int32) (σ : Dt) (s : (Int64 × Int32)) : Prop := G M 0 0 4 [(0, vI x0), (1, vJ s.1), (3, vI s.2)] [] SM σ
def E_X12_tens_4 (M : Mx) (x0 : Int32) (σ : Dt) : Int64 → Prop := (fun w => G M 0 0 21 [(1, vJ w)] [] SM σ)
def f_X12_tens_L4 (x0 : Int32) (y1 : Int64) (x3 : Int32) (σ : Dt) : Option ((Int64 × Int32) ⊕ Int64) := if x0 ≤ x3 then some (.inr y1) else some (.inl ((y1 * (10 : Int64)), (x3 + (1 : Int32))))
theorem t_X12_tens_L4 {M : Mx} {l0 : Launch} (O : Ok M cX12_tens yX12_tens) (R0 : Rm M l0 2 80 0 0) (N : Ma M = false) (hn : Mn M = 4) (x0 : Int32) (y1 : Int64) (x3 : Int32) (σ : Dt) (o : ((Int64 × Int32) ⊕ Int64)) (h : f_X12_tens_L4 x0 y1 x3 σ = some o) (K : kon (P_X12_tens_4 M x0 σ) (E_X12_tens_4 M x0 σ) o) : G M 0 0 4 [(0, vI x0), (1, vJ y1), (3, vI x3)] [] SM σ := by
  unfold f_X12_tens_L4 at h
  refine g_iload_n O dX12_tens_4 rfl 2 rfl ?_
  refine g_iload_n O dX12_tens_5 rfl 0 rfl ?_
  refine g_icmp_ge O dX12_tens_6 rfl (fun c1 => ?_) (fun c1 => ?_)
  · replace h := (if_pos c1).symm.trans h
    refine g_sub [1] (lv' := [(1, vJ y1)]) rfl ?_
    cases h
    exact K
  · replace h := (if_neg c1).symm.trans h
    refine g_lload_n O dX12_tens_9 rfl 1 rfl ?_
    refine g_ldc2 O dX12_tens_10 w1848 ?_
    refine g_lmul O dX12_tens_13 ?_
    refine g_lstore_n (lv' := [(1, vJ (y1 * (10 : Int64))), (0, vI x0), (3, vI x3)]) O dX12_tens_14 rfl 4 hn (by decide) rfl ?_
    refine g_iinc (v := (x3 + (1 : Int32))) (lv' := [(3, vI (x3 + (1 : Int32))), (1, vJ (y1 * (10 : Int64))), (0, vI x0)]) O dX12_tens_15 4 hn (by decide) 2 rfl rfl rfl ?_
    refine g_goto O dX12_tens_18 rfl ?_
    refine g_sub [2, 1, 0] (lv' := [(0, vI x0), (1, vJ (y1 * (10 : Int64))), (3, vI (x3 + (1 : Int32)))]) rfl ?_
    cases h
    exact K
def f_X12_tens (x0 : Int32) (σ : Dt) : Option Int64 := bo (iter FU (fun s => f_X12_tens_L4 x0 s.1 s.2 σ) ((1 : Int64), (0 : Int32))) fun w1 => some w1
theorem t_X12_tens {M : Mx} {l0 : Launch} (O : Ok M cX12_tens yX12_tens) (R0 : Rm M l0 2 80 0 0) (N : Ma M = false) (hn : Mn M = 4) (x0 : Int32) (σ : Dt) (o : Int64) (h : f_X12_tens x0 σ = some o) (K : Fin' M (some .long) 0 0 SM σ (some (vJ o))) : G M 0 0 0 [(0, vI x0)] [] SM σ := by
  unfold f_X12_tens at h
  refine g_lconst (v := (1 : Int64)) O dX12_tens_0 rfl ?_
  refine g_lstore_n (lv' := [(1, vJ (1 : Int64)), (0, vI x0)]) O dX12_tens_1 rfl 4 hn (by decide) rfl ?_
  refine g_iconst (v := (0 : Int32)) O dX12_tens_2 rfl ?_
  refine g_istore_n (lv' := [(3, vI (0 : Int32)), (1, vJ (1 : Int64)), (0, vI x0)]) O dX12_tens_3 rfl 4 hn (by decide) rfl ?_
  refine g_sub [2, 1, 0] (lv' := [(0, vI x0), (1, vJ (1 : Int64)), (3, vI (0 : Int32))]) rfl ?_
  obtain ⟨w1, e2, h⟩ := bo_some h
  refine iter_G (P := P_X12_tens_4 M x0 σ) (E := E_X12_tens_4 M x0 σ) (fun s o hb hk => t_X12_tens_L4 O R0 N hn x0 s.1 s.2 σ o hb hk) FU ((1 : Int64), (0 : Int32)) w1 e2 ?_
  show G M 0 0 21 [(1, vJ w1)] [] SM σ
  refine g_lload_n O dX12_tens_21 rfl 0 rfl ?_
  cases h
  exact g_lreturn O K dX12_tens_22
theorem c_X12_tens (l0 : Launch) (x0 : Int32) (σ : Dt) (r : Int64) (h : f_X12_tens x0 σ = some r) : Ctr l0 yX12_tens cX12_tens 4 (some .long) false 2 80 0 0 [vI x0] SM σ SM σ (some (vJ r)) := ctr_of (by decide) (Nat.le_of_ble_eq_true rfl) (fun M O F R0 N hn => t_X12_tens O R0 N hn x0 σ r h F)
def P_X12_odds_72 (M : Mx) (a0 : Nat) (x3 : Int32) (x4 : Int32) (x5 : Int32) (x6 : Int32) (y7 : Int64) (x9 : Int32) (σ : Dt) (s : (Int64 × Int32)) : Prop := G M 0 0 72 [(0, vA (some a0)), (3, vI x3), (4, vI x4), (5, vI x5), (6, vI x6), (7, vJ y7), (9, vI x9), (10, vJ s.1), (12, vI s.2)] [] SM σ
def E_X12_odds_72 (M : Mx) (a0 : Nat) (x3 : Int32) (x4 : Int32) (x5 : Int32) (x6 : Int32) (y7 : Int64) (x9 : Int32) (σ : Dt) : Int64 → Prop := (fun w => G M 0 0 139 [(0, vA (some a0)), (3, vI x3), (4, vI x4), (5, vI x5), (6, vI x6), (7, vJ y7), (9, vI x9), (10, vJ w)] [] SM σ)
def f_X12_odds_130 (a0 : Nat) (x3 : Int32) (x4 : Int32) (x5 : Int32) (x6 : Int32) (y7 : Int64) (x9 : Int32) (x12 : Int32) (k0 : Int64) (k1 : Int64) (σ : Dt) : Option ((Int64 × Int32) ⊕ Int64) := some (.inl ((k0 * k1), (x12 + (1 : Int32))))
theorem t_X12_odds_130 {M : Mx} {l0 : Launch} (O : Ok M cX12_odds yX12_odds) (R0 : Rm M l0 6 169 0 0) (N : Ma M = false) (hn : Mn M = 14)  (a0 : Nat) (x3 : Int32) (x4 : Int32) (x5 : Int32) (x6 : Int32) (y7 : Int64) (x9 : Int32) (x12 : Int32) (k0 : Int64) (k1 : Int64) (σ : Dt) (o : ((Int64 × Int32) ⊕ Int64)) (h : f_X12_odds_130 a0 x3 x4 x5 x6 y7 x9 x12 k0 k1 σ = some o) (K : kon (P_X12_odds_72 M a0 x3 x4 x5 x6 y7 x9 σ) (E_X12_odds_72 M a0 x3 x4 x5 x6 y7 x9 σ) o) : G M 0 0 130 [(0, vA (some a0)), (3, vI x3), (4, vI x4), (5, vI x5), (6, vI x6), (7, vJ y7), (9, vI x9), (12, vI x12)] [vJ k1, vJ k0] SM σ := by
  unfold f_X12_odds_130 at h
  refine g_lmul O dX12_odds_130 ?_
  refine g_lstore (lv' := [(10, vJ (k0 * k1)), (0, vA (some a0)), (3, vI x3), (4, vI x4), (5, vI x5), (6, vI x6), (7, vJ y7), (9, vI x9), (12, vI x12)]) O dX12_odds_131 14 hn (by decide) rfl ?_
  refine g_iinc (v := (x12 + (1 : Int32))) (lv' := [(12, vI (x12 + (1 : Int32))), (10, vJ (k0 * k1)), (0, vA (some a0)), (3, vI x3), (4, vI x4), (5, vI x5), (6, vI x6), (7, vJ y7), (9, vI x9)]) O dX12_odds_133 14 hn (by decide) 8 rfl rfl rfl ?_
  refine g_goto O dX12_odds_136 rfl ?_
  refine g_sub [2, 3, 4, 5, 6, 7, 8, 1, 0] (lv' := [(0, vA (some a0)), (3, vI x3), (4, vI x4), (5, vI x5), (6, vI x6), (7, vJ y7), (9, vI x9), (10, vJ (k0 * k1)), (12, vI (x12 + (1 : Int32)))]) rfl ?_
  cases h
  exact K
def f_X12_odds_L72 (a0 : Nat) (x3 : Int32) (x4 : Int32) (x5 : Int32) (x6 : Int32) (y7 : Int64) (x9 : Int32) (y10 : Int64) (x12 : Int32) (σ : Dt) : Option ((Int64 × Int32) ⊕ Int64) := bo (xgi SM 12 12 (some a0) σ) fun v1 => if v1 ≤ x12 then some (.inr y10) else bo (xrc SM 12 (some a0)) fun a4 => bo (f_X12_ageOf a4 x12 σ) fun v6 => bo (f_X12_isAmong x6 x12 σ) fun v8 => if v8 = 0 then f_X12_odds_130 a0 x3 x4 x5 x6 y7 x9 x12 y10 (1 : Int64) σ else bo (f_X12_isAmong x9 x12 σ) fun v11 => if v11 = 0 then f_X12_odds_130 a0 x3 x4 x5 x6 y7 x9 x12 y10 (Int32.toInt64 (v6 / (10 : Int32))) σ else f_X12_odds_130 a0 x3 x4 x5 x6 y7 x9 x12 y10 (Int32.toInt64 ((10 : Int32) - (v6 / (10 : Int32)))) σ
theorem t_X12_odds_L72 {M : Mx} {l0 : Launch} (O : Ok M cX12_odds yX12_odds) (R0 : Rm M l0 6 169 0 0) (N : Ma M = false) (hn : Mn M = 14) (a0 : Nat) (x3 : Int32) (x4 : Int32) (x5 : Int32) (x6 : Int32) (y7 : Int64) (x9 : Int32) (y10 : Int64) (x12 : Int32) (σ : Dt) (o : ((Int64 × Int32) ⊕ Int64)) (h : f_X12_odds_L72 a0 x3 x4 x5 x6 y7 x9 y10 x12 σ = some o) (K : kon (P_X12_odds_72 M a0 x3 x4 x5 x6 y7 x9 σ) (E_X12_odds_72 M a0 x3 x4 x5 x6 y7 x9 σ) o) : G M 0 0 72 [(0, vA (some a0)), (3, vI x3), (4, vI x4), (5, vI x5), (6, vI x6), (7, vJ y7), (9, vI x9), (10, vJ y10), (12, vI x12)] [] SM σ := by
  unfold f_X12_odds_L72 at h
  refine g_iload O dX12_odds_72 8 rfl ?_
  refine g_aload_n O dX12_odds_74 rfl 0 rfl ?_
  obtain ⟨v1, e2, h⟩ := bo_some h
  refine g_getI O dX12_odds_75 fl_X12_211 rfl e2 ?_
  refine g_icmp_ge O dX12_odds_78 rfl (fun c3 => ?_) (fun c3 => ?_)
  · replace h := (if_pos c3).symm.trans h
    refine g_sub [0, 1, 2, 3, 4, 5, 6, 7] (lv' := [(0, vA (some a0)), (3, vI x3), (4, vI x4), (5, vI x5), (6, vI x6), (7, vJ y7), (9, vI x9), (10, vJ y10)]) rfl ?_
    cases h
    exact K
  · replace h := (if_neg c3).symm.trans h
    refine g_aload_n O dX12_odds_81 rfl 0 rfl ?_
    refine g_iload O dX12_odds_82 8 rfl ?_
    obtain ⟨a4, e5, h⟩ := bo_some h
    obtain ⟨v6, e7, h⟩ := bo_some h
    refine g_cV1 O R0 N dX12_odds_84 vl_X12_217 vv_X12_ageOf e5 [vI x12] rfl rfl rfl ⟨Nat.le_of_ble_eq_true rfl, Nat.le_of_ble_eq_true rfl⟩ (c_X12_ageOf l0 a4 x12 σ v6 e7) ?_
    refine g_bipush (v := (10 : Int32)) O dX12_odds_87 rfl ?_
    refine g_idiv O dX12_odds_89 (by decide) ?_
    refine g_istore (lv' := [(13, vI (v6 / (10 : Int32))), (0, vA (some a0)), (3, vI x3), (4, vI x4), (5, vI x5), (6, vI x6), (7, vJ y7), (9, vI x9), (10, vJ y10), (12, vI x12)]) O dX12_odds_90 14 hn (by decide) rfl ?_
    refine g_lload O dX12_odds_92 8 rfl ?_
    refine g_iload O dX12_odds_94 5 rfl ?_
    refine g_iload O dX12_odds_96 9 rfl ?_
    obtain ⟨v8, e9, h⟩ := bo_some h
    refine g_cS1 O R0 N dX12_odds_98 vl_X12_235 w1766 [vI x6, vI x12] rfl rfl rfl ⟨Nat.le_of_ble_eq_true rfl, Nat.le_of_ble_eq_true rfl⟩ (c_X12_isAmong l0 x6 x12 σ v8 e9) ?_
    refine g_if_ne O dX12_odds_101 rfl (fun c10 => ?_) (fun c10 => ?_)
    · replace h := (if_pos c10).symm.trans h
      refine g_lconst (v := (1 : Int64)) O dX12_odds_104 rfl ?_
      refine g_goto O dX12_odds_105 rfl ?_
      refine g_sub [1, 2, 3, 4, 5, 6, 7, 9] (lv' := [(0, vA (some a0)), (3, vI x3), (4, vI x4), (5, vI x5), (6, vI x6), (7, vJ y7), (9, vI x9), (12, vI x12)]) rfl ?_
      exact t_X12_odds_130 O R0 N hn a0 x3 x4 x5 x6 y7 x9 x12 y10 (1 : Int64) σ o h K
    · replace h := (if_neg c10).symm.trans h
      refine g_iload O dX12_odds_108 7 rfl ?_
      refine g_iload O dX12_odds_110 9 rfl ?_
      obtain ⟨v11, e12, h⟩ := bo_some h
      refine g_cS1 O R0 N dX12_odds_112 vl_X12_235 w1766 [vI x9, vI x12] rfl rfl rfl ⟨Nat.le_of_ble_eq_true rfl, Nat.le_of_ble_eq_true rfl⟩ (c_X12_isAmong l0 x9 x12 σ v11 e12) ?_
      refine g_if_eq O dX12_odds_115 rfl (fun c13 => ?_) (fun c13 => ?_)
      · replace h := (if_pos c13).symm.trans h
        refine g_iload O dX12_odds_127 0 rfl ?_
        refine g_i2l O dX12_odds_129 ?_
        refine g_sub [1, 2, 3, 4, 5, 6, 7, 9] (lv' := [(0, vA (some a0)), (3, vI x3), (4, vI x4), (5, vI x5), (6, vI x6), (7, vJ y7), (9, vI x9), (12, vI x12)]) rfl ?_
        exact t_X12_odds_130 O R0 N hn a0 x3 x4 x5 x6 y7 x9 x12 y10 (Int32.toInt64 (v6 / (10 : Int32))) σ o h K
      · replace h := (if_neg c13).symm.trans h
        refine g_bipush (v := (10 : Int32)) O dX12_odds_118 rfl ?_
        refine g_iload O dX12_odds_120 0 rfl ?_
        refine g_isub O dX12_odds_122 ?_
        refine g_i2l O dX12_odds_123 ?_
        refine g_goto O dX12_odds_124 rfl ?_
        refine g_sub [1, 2, 3, 4, 5, 6, 7, 9] (lv' := [(0, vA (some a0)), (3, vI x3), (4, vI x4), (5, vI x5), (6, vI x6), (7, vJ y7), (9, vI x9), (12, vI x12)]) rfl ?_
        exact t_X12_odds_130 O R0 N hn a0 x3 x4 x5 x6 y7 x9 x12 y10 (Int32.toInt64 ((10 : Int32) - (v6 / (10 : Int32)))) σ o h K
def P_X12_odds_30 (M : Mx) (a0 : Nat) (x3 : Int32) (x4 : Int32) (x5 : Int32) (x6 : Int32) (σ : Dt) (s : (Int64 × Int32)) : Prop := G M 0 0 30 [(0, vA (some a0)), (3, vI x3), (4, vI x4), (5, vI x5), (6, vI x6), (7, vJ s.1), (9, vI s.2)] [] SM σ
def E_X12_odds_30 (M : Mx) (a0 : Nat) (x3 : Int32) (x4 : Int32) (x5 : Int32) (x6 : Int32) (σ : Dt) : Int64 → Prop := (fun w => G M 0 0 152 [(5, vI x5), (6, vI x6), (7, vJ w)] [] SM σ)
def f_X12_odds_146 (a0 : Nat) (x3 : Int32) (x4 : Int32) (x5 : Int32) (x6 : Int32) (y7 : Int64) (x9 : Int32) (σ : Dt) : Option ((Int64 × Int32) ⊕ Int64) := some (.inl (y7, (x9 + (-1 : Int32))))
theorem t_X12_odds_146 {M : Mx} {l0 : Launch} (O : Ok M cX12_odds yX12_odds) (R0 : Rm M l0 6 169 0 0) (N : Ma M = false) (hn : Mn M = 14)  (a0 : Nat) (x3 : Int32) (x4 : Int32) (x5 : Int32) (x6 : Int32) (y7 : Int64) (x9 : Int32) (σ : Dt) (o : ((Int64 × Int32) ⊕ Int64)) (h : f_X12_odds_146 a0 x3 x4 x5 x6 y7 x9 σ = some o) (K : kon (P_X12_odds_30 M a0 x3 x4 x5 x6 σ) (E_X12_odds_30 M a0 x3 x4 x5 x6 σ) o) : G M 0 0 146 [(0, vA (some a0)), (3, vI x3), (4, vI x4), (5, vI x5), (6, vI x6), (7, vJ y7), (9, vI x9)] [] SM σ := by
  unfold f_X12_odds_146 at h
  refine g_iinc (v := (x9 + (-1 : Int32))) (lv' := [(9, vI (x9 + (-1 : Int32))), (0, vA (some a0)), (3, vI x3), (4, vI x4), (5, vI x5), (6, vI x6), (7, vJ y7)]) O dX12_odds_146 14 hn (by decide) 6 rfl rfl rfl ?_
  refine g_goto O dX12_odds_149 rfl ?_
  refine g_sub [1, 2, 3, 4, 5, 6, 0] (lv' := [(0, vA (some a0)), (3, vI x3), (4, vI x4), (5, vI x5), (6, vI x6), (7, vJ y7), (9, vI (x9 + (-1 : Int32)))]) rfl ?_
  cases h
  exact K
def f_X12_odds_L30 (a0 : Nat) (x3 : Int32) (x4 : Int32) (x5 : Int32) (x6 : Int32) (y7 : Int64) (x9 : Int32) (σ : Dt) : Option ((Int64 × Int32) ⊕ Int64) := if x9 < 0 then some (.inr y7) else if (x9 &&& (x6 ^^^ (-1 : Int32))) = 0 then bo (xrc SM 12 (some a0)) fun a3 => bo (f_X12_strengths a3 x9 (-1 : Int32) σ) fun v5 => bo (xrc SM 12 (some a0)) fun a7 => bo (f_X12_muchOf a7 x3 σ) fun v9 => if v9 ≤ (x4 * v5) then bo (iter FU (fun s => f_X12_odds_L72 a0 x3 x4 x5 x6 y7 x9 s.1 s.2 σ) ((1 : Int64), (0 : Int32))) fun w12 => f_X12_odds_146 a0 x3 x4 x5 x6 (y7 + w12) x9 σ else f_X12_odds_146 a0 x3 x4 x5 x6 y7 x9 σ else f_X12_odds_146 a0 x3 x4 x5 x6 y7 x9 σ
theorem t_X12_odds_L30 {M : Mx} {l0 : Launch} (O : Ok M cX12_odds yX12_odds) (R0 : Rm M l0 6 169 0 0) (N : Ma M = false) (hn : Mn M = 14) (a0 : Nat) (x3 : Int32) (x4 : Int32) (x5 : Int32) (x6 : Int32) (y7 : Int64) (x9 : Int32) (σ : Dt) (o : ((Int64 × Int32) ⊕ Int64)) (h : f_X12_odds_L30 a0 x3 x4 x5 x6 y7 x9 σ = some o) (K : kon (P_X12_odds_30 M a0 x3 x4 x5 x6 σ) (E_X12_odds_30 M a0 x3 x4 x5 x6 σ) o) : G M 0 0 30 [(0, vA (some a0)), (3, vI x3), (4, vI x4), (5, vI x5), (6, vI x6), (7, vJ y7), (9, vI x9)] [] SM σ := by
  unfold f_X12_odds_L30 at h
  refine g_iload O dX12_odds_30 6 rfl ?_
  refine g_if_lt O dX12_odds_32 rfl (fun c1 => ?_) (fun c1 => ?_)
  · replace h := (if_pos c1).symm.trans h
    refine g_sub [3, 4, 5] (lv' := [(5, vI x5), (6, vI x6), (7, vJ y7)]) rfl ?_
    cases h
    exact K
  · replace h := (if_neg c1).symm.trans h
    refine g_iload O dX12_odds_35 6 rfl ?_
    refine g_iload O dX12_odds_37 4 rfl ?_
    refine g_iconst (v := (-1 : Int32)) O dX12_odds_39 rfl ?_
    refine g_ixor O dX12_odds_40 ?_
    refine g_iand O dX12_odds_41 ?_
    refine g_if_ne O dX12_odds_42 rfl (fun c2 => ?_) (fun c2 => ?_)
    · replace h := (if_pos c2).symm.trans h
      refine g_iload O dX12_odds_45 2 rfl ?_
      refine g_aload_n O dX12_odds_47 rfl 0 rfl ?_
      refine g_iload O dX12_odds_48 6 rfl ?_
      refine g_iconst (v := (-1 : Int32)) O dX12_odds_50 rfl ?_
      obtain ⟨a3, e4, h⟩ := bo_some h
      obtain ⟨v5, e6, h⟩ := bo_some h
      refine g_cV1 O R0 N dX12_odds_51 vl_X12_247 vv_X12_strengths e4 [vI x9, vI (-1 : Int32)] rfl rfl rfl ⟨Nat.le_of_ble_eq_true rfl, Nat.le_of_ble_eq_true rfl⟩ (c_X12_strengths l0 a3 x9 (-1 : Int32) σ v5 e6) ?_
      refine g_imul O dX12_odds_54 ?_
      refine g_aload_n O dX12_odds_55 rfl 0 rfl ?_
      refine g_iload_n O dX12_odds_56 rfl 1 rfl ?_
      obtain ⟨a7, e8, h⟩ := bo_some h
      obtain ⟨v9, e10, h⟩ := bo_some h
      refine g_cV1 O R0 N dX12_odds_57 vl_X12_229 vv_X12_muchOf e8 [vI x3] rfl rfl rfl ⟨Nat.le_of_ble_eq_true rfl, Nat.le_of_ble_eq_true rfl⟩ (c_X12_muchOf l0 a7 x3 σ v9 e10) ?_
      refine g_icmp_ge O dX12_odds_60 rfl (fun c11 => ?_) (fun c11 => ?_)
      · replace h := (if_pos c11).symm.trans h
        refine g_lconst (v := (1 : Int64)) O dX12_odds_66 rfl ?_
        refine g_lstore (lv' := [(10, vJ (1 : Int64)), (0, vA (some a0)), (3, vI x3), (4, vI x4), (5, vI x5), (6, vI x6), (7, vJ y7), (9, vI x9)]) O dX12_odds_67 14 hn (by decide) rfl ?_
        refine g_iconst (v := (0 : Int32)) O dX12_odds_69 rfl ?_
        refine g_istore (lv' := [(12, vI (0 : Int32)), (10, vJ (1 : Int64)), (0, vA (some a0)), (3, vI x3), (4, vI x4), (5, vI x5), (6, vI x6), (7, vJ y7), (9, vI x9)]) O dX12_odds_70 14 hn (by decide) rfl ?_
        refine g_sub [2, 3, 4, 5, 6, 7, 8, 1, 0] (lv' := [(0, vA (some a0)), (3, vI x3), (4, vI x4), (5, vI x5), (6, vI x6), (7, vJ y7), (9, vI x9), (10, vJ (1 : Int64)), (12, vI (0 : Int32))]) rfl ?_
        obtain ⟨w12, e13, h⟩ := bo_some h
        refine iter_G (P := P_X12_odds_72 M a0 x3 x4 x5 x6 y7 x9 σ) (E := E_X12_odds_72 M a0 x3 x4 x5 x6 y7 x9 σ) (fun s o hb hk => t_X12_odds_L72 O R0 N hn a0 x3 x4 x5 x6 y7 x9 s.1 s.2 σ o hb hk) FU ((1 : Int64), (0 : Int32)) w12 e13 ?_
        show G M 0 0 139 [(0, vA (some a0)), (3, vI x3), (4, vI x4), (5, vI x5), (6, vI x6), (7, vJ y7), (9, vI x9), (10, vJ w12)] [] SM σ
        refine g_lload O dX12_odds_139 5 rfl ?_
        refine g_lload O dX12_odds_141 7 rfl ?_
        refine g_ladd O dX12_odds_143 ?_
        refine g_lstore (lv' := [(7, vJ (y7 + w12)), (0, vA (some a0)), (3, vI x3), (4, vI x4), (5, vI x5), (6, vI x6), (9, vI x9), (10, vJ w12)]) O dX12_odds_144 14 hn (by decide) rfl ?_
        refine g_sub [1, 2, 3, 4, 5, 0, 6] (lv' := [(0, vA (some a0)), (3, vI x3), (4, vI x4), (5, vI x5), (6, vI x6), (7, vJ (y7 + w12)), (9, vI x9)]) rfl ?_
        exact t_X12_odds_146 O R0 N hn a0 x3 x4 x5 x6 (y7 + w12) x9 σ o h K
      · replace h := (if_neg c11).symm.trans h
        refine g_goto O dX12_odds_63 rfl ?_
        exact t_X12_odds_146 O R0 N hn a0 x3 x4 x5 x6 y7 x9 σ o h K
    · replace h := (if_neg c2).symm.trans h
      exact t_X12_odds_146 O R0 N hn a0 x3 x4 x5 x6 y7 x9 σ o h K
def f_X12_odds (a0 : Nat) (x1 : Int32) (x2 : Int32) (x3 : Int32) (x4 : Int32) (x5 : Int32) (σ : Dt) : Option (Int64 × Dt) := bo (xrc SM 12 (some a0)) fun a1 => bd (f_X12_mayKeep a1 x1 x2 x3 x4 σ) fun v3 σ4 => if v3 = 0 then some ((-1 : Int64), σ4) else bo (xrc SM 12 (some a0)) fun a7 => bo (f_X12_elderOf a7 x2 σ4) fun v9 => bo (iter FU (fun s => f_X12_odds_L30 a0 x3 x4 x5 v9 s.1 s.2 σ4) ((0 : Int64), v9)) fun w11 => bo (f_X12_bitsOf v9 σ4) fun v13 => bo (f_X12_tens v13 σ4) fun v15 => bo (f_X12_parted w11 v15 x5 σ4) fun v17 => some (v17, σ4)
theorem t_X12_odds {M : Mx} {l0 : Launch} (O : Ok M cX12_odds yX12_odds) (R0 : Rm M l0 6 169 0 0) (N : Ma M = false) (hn : Mn M = 14) (a0 : Nat) (x1 : Int32) (x2 : Int32) (x3 : Int32) (x4 : Int32) (x5 : Int32) (σ : Dt) (o : (Int64 × Dt)) (h : f_X12_odds a0 x1 x2 x3 x4 x5 σ = some o) (K : Fin' M (some .long) 0 0 SM o.2 (some (vJ o.1))) : G M 0 0 0 [(0, vA (some a0)), (1, vI x1), (2, vI x2), (3, vI x3), (4, vI x4), (5, vI x5)] [] SM σ := by
  unfold f_X12_odds at h
  refine g_aload_n O dX12_odds_0 rfl 0 rfl ?_
  refine g_iload_n O dX12_odds_1 rfl 1 rfl ?_
  refine g_iload_n O dX12_odds_2 rfl 2 rfl ?_
  refine g_iload_n O dX12_odds_3 rfl 3 rfl ?_
  refine g_iload O dX12_odds_4 4 rfl ?_
  obtain ⟨a1, e2, h⟩ := bo_some h
  obtain ⟨v3, σ4, e5, h⟩ := bd_some h
  refine g_cV1 O R0 N dX12_odds_6 vl_X12_250 vv_X12_mayKeep e2 [vI x1, vI x2, vI x3, vI x4] rfl rfl rfl ⟨Nat.le_of_ble_eq_true rfl, Nat.le_of_ble_eq_true rfl⟩ (c_X12_mayKeep l0 a1 x1 x2 x3 x4 σ v3 σ4 e5) ?_
  refine g_if_ne O dX12_odds_9 rfl (fun c6 => ?_) (fun c6 => ?_)
  · replace h := (if_pos c6).symm.trans h
    refine g_ldc2 O dX12_odds_12 w1844 ?_
    cases h
    exact g_lreturn O K dX12_odds_15
  · replace h := (if_neg c6).symm.trans h
    refine g_aload_n O dX12_odds_16 rfl 0 rfl ?_
    refine g_iload_n O dX12_odds_17 rfl 2 rfl ?_
    obtain ⟨a7, e8, h⟩ := bo_some h
    obtain ⟨v9, e10, h⟩ := bo_some h
    refine g_cV1 O R0 N dX12_odds_18 vl_X12_244 vv_X12_elderOf e8 [vI x2] rfl rfl rfl ⟨Nat.le_of_ble_eq_true rfl, Nat.le_of_ble_eq_true rfl⟩ (c_X12_elderOf l0 a7 x2 σ4 v9 e10) ?_
    refine g_istore (lv' := [(6, vI v9), (0, vA (some a0)), (1, vI x1), (2, vI x2), (3, vI x3), (4, vI x4), (5, vI x5)]) O dX12_odds_21 14 hn (by decide) rfl ?_
    refine g_lconst (v := (0 : Int64)) O dX12_odds_23 rfl ?_
    refine g_lstore (lv' := [(7, vJ (0 : Int64)), (6, vI v9), (0, vA (some a0)), (1, vI x1), (2, vI x2), (3, vI x3), (4, vI x4), (5, vI x5)]) O dX12_odds_24 14 hn (by decide) rfl ?_
    refine g_iload O dX12_odds_26 1 rfl ?_
    refine g_istore (lv' := [(9, vI v9), (7, vJ (0 : Int64)), (6, vI v9), (0, vA (some a0)), (1, vI x1), (2, vI x2), (3, vI x3), (4, vI x4), (5, vI x5)]) O dX12_odds_28 14 hn (by decide) rfl ?_
    refine g_sub [3, 6, 7, 8, 2, 1, 0] (lv' := [(0, vA (some a0)), (3, vI x3), (4, vI x4), (5, vI x5), (6, vI v9), (7, vJ (0 : Int64)), (9, vI v9)]) rfl ?_
    obtain ⟨w11, e12, h⟩ := bo_some h
    refine iter_G (P := P_X12_odds_30 M a0 x3 x4 x5 v9 σ4) (E := E_X12_odds_30 M a0 x3 x4 x5 v9 σ4) (fun s o hb hk => t_X12_odds_L30 O R0 N hn a0 x3 x4 x5 v9 s.1 s.2 σ4 o hb hk) FU ((0 : Int64), v9) w11 e12 ?_
    show G M 0 0 152 [(5, vI x5), (6, vI v9), (7, vJ w11)] [] SM σ4
    refine g_lload O dX12_odds_152 2 rfl ?_
    refine g_iload O dX12_odds_154 1 rfl ?_
    obtain ⟨v13, e14, h⟩ := bo_some h
    refine g_cS1 O R0 N dX12_odds_156 vl_X12_183 w1701 [vI v9] rfl rfl rfl ⟨Nat.le_of_ble_eq_true rfl, Nat.le_of_ble_eq_true rfl⟩ (c_X12_bitsOf l0 v9 σ4 v13 e14) ?_
    obtain ⟨v15, e16, h⟩ := bo_some h
    refine g_cS1 O R0 N dX12_odds_159 vl_X12_308 w1846 [vI v13] rfl rfl rfl ⟨Nat.le_of_ble_eq_true rfl, Nat.le_of_ble_eq_true rfl⟩ (c_X12_tens l0 v13 σ4 v15 e16) ?_
    refine g_iload O dX12_odds_162 0 rfl ?_
    obtain ⟨v17, e18, h⟩ := bo_some h
    refine g_cS1 O R0 N dX12_odds_164 vl_X12_312 w1850 [vJ w11, vJ v15, vI x5] rfl rfl rfl ⟨Nat.le_of_ble_eq_true rfl, Nat.le_of_ble_eq_true rfl⟩ (c_X12_parted l0 w11 v15 x5 σ4 v17 e18) ?_
    cases h
    exact g_lreturn O K dX12_odds_167
theorem c_X12_odds (l0 : Launch) (a0 : Nat) (x1 : Int32) (x2 : Int32) (x3 : Int32) (x4 : Int32) (x5 : Int32) (σ : Dt) (r : Int64) (σ' : Dt) (h : f_X12_odds a0 x1 x2 x3 x4 x5 σ = some (r, σ')) : Ctr l0 yX12_odds cX12_odds 14 (some .long) false 6 169 0 0 [vA (some a0), vI x1, vI x2, vI x3, vI x4, vI x5] SM σ SM σ' (some (vJ r)) := ctr_of (by decide) (Nat.le_of_ble_eq_true rfl) (fun M O F R0 N hn => t_X12_odds O R0 N hn a0 x1 x2 x3 x4 x5 σ (r, σ') h F)
def P_X12_rowsOf_4 (M : Mx) (x0 : Int32) (σ : Dt) (s : (Int64 × Int32)) : Prop := G M 0 0 4 [(0, vI x0), (1, vJ s.1), (3, vI s.2)] [] SM σ
def E_X12_rowsOf_4 (M : Mx) (x0 : Int32) (σ : Dt) : Int64 → Prop := (fun w => G M 0 0 20 [(1, vJ w)] [] SM σ)
def f_X12_rowsOf_L4 (x0 : Int32) (y1 : Int64) (x3 : Int32) (σ : Dt) : Option ((Int64 × Int32) ⊕ Int64) := if x0 < x3 then some (.inr y1) else some (.inl ((y1 * (Int32.toInt64 x3)), (x3 + (1 : Int32))))
theorem t_X12_rowsOf_L4 {M : Mx} {l0 : Launch} (O : Ok M cX12_rowsOf yX12_rowsOf) (R0 : Rm M l0 2 80 0 0) (N : Ma M = false) (hn : Mn M = 4) (x0 : Int32) (y1 : Int64) (x3 : Int32) (σ : Dt) (o : ((Int64 × Int32) ⊕ Int64)) (h : f_X12_rowsOf_L4 x0 y1 x3 σ = some o) (K : kon (P_X12_rowsOf_4 M x0 σ) (E_X12_rowsOf_4 M x0 σ) o) : G M 0 0 4 [(0, vI x0), (1, vJ y1), (3, vI x3)] [] SM σ := by
  unfold f_X12_rowsOf_L4 at h
  refine g_iload_n O dX12_rowsOf_4 rfl 2 rfl ?_
  refine g_iload_n O dX12_rowsOf_5 rfl 0 rfl ?_
  refine g_icmp_gt O dX12_rowsOf_6 rfl (fun c1 => ?_) (fun c1 => ?_)
  · replace h := (if_pos c1).symm.trans h
    refine g_sub [1] (lv' := [(1, vJ y1)]) rfl ?_
    cases h
    exact K
  · replace h := (if_neg c1).symm.trans h
    refine g_lload_n O dX12_rowsOf_9 rfl 1 rfl ?_
    refine g_iload_n O dX12_rowsOf_10 rfl 2 rfl ?_
    refine g_i2l O dX12_rowsOf_11 ?_
    refine g_lmul O dX12_rowsOf_12 ?_
    refine g_lstore_n (lv' := [(1, vJ (y1 * (Int32.toInt64 x3))), (0, vI x0), (3, vI x3)]) O dX12_rowsOf_13 rfl 4 hn (by decide) rfl ?_
    refine g_iinc (v := (x3 + (1 : Int32))) (lv' := [(3, vI (x3 + (1 : Int32))), (1, vJ (y1 * (Int32.toInt64 x3))), (0, vI x0)]) O dX12_rowsOf_14 4 hn (by decide) 2 rfl rfl rfl ?_
    refine g_goto O dX12_rowsOf_17 rfl ?_
    refine g_sub [2, 1, 0] (lv' := [(0, vI x0), (1, vJ (y1 * (Int32.toInt64 x3))), (3, vI (x3 + (1 : Int32)))]) rfl ?_
    cases h
    exact K
def f_X12_rowsOf (x0 : Int32) (σ : Dt) : Option Int64 := bo (iter FU (fun s => f_X12_rowsOf_L4 x0 s.1 s.2 σ) ((1 : Int64), (2 : Int32))) fun w1 => some w1
theorem t_X12_rowsOf {M : Mx} {l0 : Launch} (O : Ok M cX12_rowsOf yX12_rowsOf) (R0 : Rm M l0 2 80 0 0) (N : Ma M = false) (hn : Mn M = 4) (x0 : Int32) (σ : Dt) (o : Int64) (h : f_X12_rowsOf x0 σ = some o) (K : Fin' M (some .long) 0 0 SM σ (some (vJ o))) : G M 0 0 0 [(0, vI x0)] [] SM σ := by
  unfold f_X12_rowsOf at h
  refine g_lconst (v := (1 : Int64)) O dX12_rowsOf_0 rfl ?_
  refine g_lstore_n (lv' := [(1, vJ (1 : Int64)), (0, vI x0)]) O dX12_rowsOf_1 rfl 4 hn (by decide) rfl ?_
  refine g_iconst (v := (2 : Int32)) O dX12_rowsOf_2 rfl ?_
  refine g_istore_n (lv' := [(3, vI (2 : Int32)), (1, vJ (1 : Int64)), (0, vI x0)]) O dX12_rowsOf_3 rfl 4 hn (by decide) rfl ?_
  refine g_sub [2, 1, 0] (lv' := [(0, vI x0), (1, vJ (1 : Int64)), (3, vI (2 : Int32))]) rfl ?_
  obtain ⟨w1, e2, h⟩ := bo_some h
  refine iter_G (P := P_X12_rowsOf_4 M x0 σ) (E := E_X12_rowsOf_4 M x0 σ) (fun s o hb hk => t_X12_rowsOf_L4 O R0 N hn x0 s.1 s.2 σ o hb hk) FU ((1 : Int64), (2 : Int32)) w1 e2 ?_
  show G M 0 0 20 [(1, vJ w1)] [] SM σ
  refine g_lload_n O dX12_rowsOf_20 rfl 0 rfl ?_
  cases h
  exact g_lreturn O K dX12_rowsOf_21
theorem c_X12_rowsOf (l0 : Launch) (x0 : Int32) (σ : Dt) (r : Int64) (h : f_X12_rowsOf x0 σ = some r) : Ctr l0 yX12_rowsOf cX12_rowsOf 4 (some .long) false 2 80 0 0 [vI x0] SM σ SM σ (some (vJ r)) := ctr_of (by decide) (Nat.le_of_ble_eq_true rfl) (fun M O F R0 N hn => t_X12_rowsOf O R0 N hn x0 σ r h F)
