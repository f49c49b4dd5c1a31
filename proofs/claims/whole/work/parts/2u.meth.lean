def P_X12_mostSaid_4 (M : Mx) (a0 : Nat) (σ : Dt) (s : (Int32 × Int32)) : Prop := G M 0 0 4 [(0, vA (some a0)), (1, vI s.1), (2, vI s.2)] [] SM σ
def E_X12_mostSaid_4 (M : Mx) (a0 : Nat) (σ : Dt) : Int32 → Prop := (fun w => G M 0 0 44 [(1, vI w)] [] SM σ)
def f_X12_mostSaid_38 (a0 : Nat) (x1 : Int32) (x2 : Int32) (σ : Dt) : Option ((Int32 × Int32) ⊕ Int32) := some (.inl (x1, (x2 + (1 : Int32))))
theorem t_X12_mostSaid_38 {M : Mx} {l0 : Launch} (O : Ok M cX12_mostSaid yX12_mostSaid) (R0 : Rm M l0 2 80 0 0) (N : Ma M = false) (hn : Mn M = 3)  (a0 : Nat) (x1 : Int32) (x2 : Int32) (σ : Dt) (o : ((Int32 × Int32) ⊕ Int32)) (h : f_X12_mostSaid_38 a0 x1 x2 σ = some o) (K : kon (P_X12_mostSaid_4 M a0 σ) (E_X12_mostSaid_4 M a0 σ) o) : G M 0 0 38 [(0, vA (some a0)), (1, vI x1), (2, vI x2)] [] SM σ := by
  unfold f_X12_mostSaid_38 at h
  refine g_iinc (v := (x2 + (1 : Int32))) (lv' := [(2, vI (x2 + (1 : Int32))), (0, vA (some a0)), (1, vI x1)]) O dX12_mostSaid_38 3 hn (by decide) 2 rfl rfl rfl ?_
  refine g_goto O dX12_mostSaid_41 rfl ?_
  refine g_sub [1, 2, 0] (lv' := [(0, vA (some a0)), (1, vI x1), (2, vI (x2 + (1 : Int32)))]) rfl ?_
  cases h
  exact K
def f_X12_mostSaid_33 (a0 : Nat) (x1 : Int32) (x2 : Int32) (k0 : Int32) (k1 : Int32) (σ : Dt) : Option ((Int32 × Int32) ⊕ Int32) := if k0 ≤ k1 then f_X12_mostSaid_38 a0 x1 x2 σ else f_X12_mostSaid_38 a0 x2 x2 σ
theorem t_X12_mostSaid_33 {M : Mx} {l0 : Launch} (O : Ok M cX12_mostSaid yX12_mostSaid) (R0 : Rm M l0 2 80 0 0) (N : Ma M = false) (hn : Mn M = 3)  (a0 : Nat) (x1 : Int32) (x2 : Int32) (k0 : Int32) (k1 : Int32) (σ : Dt) (o : ((Int32 × Int32) ⊕ Int32)) (h : f_X12_mostSaid_33 a0 x1 x2 k0 k1 σ = some o) (K : kon (P_X12_mostSaid_4 M a0 σ) (E_X12_mostSaid_4 M a0 σ) o) : G M 0 0 33 [(0, vA (some a0)), (1, vI x1), (2, vI x2)] [vI k1, vI k0] SM σ := by
  unfold f_X12_mostSaid_33 at h
  refine g_icmp_le O dX12_mostSaid_33 rfl (fun c1 => ?_) (fun c1 => ?_)
  · replace h := (if_pos c1).symm.trans h
    exact t_X12_mostSaid_38 O R0 N hn a0 x1 x2 σ o h K
  · replace h := (if_neg c1).symm.trans h
    refine g_iload_n O dX12_mostSaid_36 rfl 2 rfl ?_
    refine g_istore_n (lv' := [(1, vI x2), (0, vA (some a0)), (2, vI x2)]) O dX12_mostSaid_37 rfl 3 hn (by decide) rfl ?_
    refine g_sub [1, 0, 2] (lv' := [(0, vA (some a0)), (1, vI x2), (2, vI x2)]) rfl ?_
    exact t_X12_mostSaid_38 O R0 N hn a0 x2 x2 σ o h K
def f_X12_mostSaid_L4 (a0 : Nat) (x1 : Int32) (x2 : Int32) (σ : Dt) : Option ((Int32 × Int32) ⊕ Int32) := bo (xgi SM 12 28 (some a0) σ) fun v1 => if v1 ≤ x2 then some (.inr x1) else bo (xgr SM 12 39 (some a0) σ) fun v4 => bo (xai SM v4 x2 σ) fun v6 => if x1 = (-1 : Int32) then f_X12_mostSaid_33 a0 x1 x2 v6 (0 : Int32) σ else bo (xgr SM 12 39 (some a0) σ) fun v9 => bo (xai SM v9 x1 σ) fun v11 => f_X12_mostSaid_33 a0 x1 x2 v6 v11 σ
theorem t_X12_mostSaid_L4 {M : Mx} {l0 : Launch} (O : Ok M cX12_mostSaid yX12_mostSaid) (R0 : Rm M l0 2 80 0 0) (N : Ma M = false) (hn : Mn M = 3) (a0 : Nat) (x1 : Int32) (x2 : Int32) (σ : Dt) (o : ((Int32 × Int32) ⊕ Int32)) (h : f_X12_mostSaid_L4 a0 x1 x2 σ = some o) (K : kon (P_X12_mostSaid_4 M a0 σ) (E_X12_mostSaid_4 M a0 σ) o) : G M 0 0 4 [(0, vA (some a0)), (1, vI x1), (2, vI x2)] [] SM σ := by
  unfold f_X12_mostSaid_L4 at h
  refine g_iload_n O dX12_mostSaid_4 rfl 2 rfl ?_
  refine g_aload_n O dX12_mostSaid_5 rfl 0 rfl ?_
  obtain ⟨v1, e2, h⟩ := bo_some h
  refine g_getI O dX12_mostSaid_6 fl_X12_386 rfl e2 ?_
  refine g_icmp_ge O dX12_mostSaid_9 rfl (fun c3 => ?_) (fun c3 => ?_)
  · replace h := (if_pos c3).symm.trans h
    refine g_sub [1] (lv' := [(1, vI x1)]) rfl ?_
    cases h
    exact K
  · replace h := (if_neg c3).symm.trans h
    refine g_aload_n O dX12_mostSaid_12 rfl 0 rfl ?_
    obtain ⟨v4, e5, h⟩ := bo_some h
    refine g_getR O dX12_mostSaid_13 fl_X12_70 rfl e5 ?_
    refine g_iload_n O dX12_mostSaid_16 rfl 2 rfl ?_
    obtain ⟨v6, e7, h⟩ := bo_some h
    refine g_iaload O dX12_mostSaid_17 e7 ?_
    refine g_iload_n O dX12_mostSaid_18 rfl 1 rfl ?_
    refine g_iconst (v := (-1 : Int32)) O dX12_mostSaid_19 rfl ?_
    refine g_icmp_ne O dX12_mostSaid_20 rfl (fun c8 => ?_) (fun c8 => ?_)
    · replace h := (if_pos c8).symm.trans h
      refine g_iconst (v := (0 : Int32)) O dX12_mostSaid_23 rfl ?_
      refine g_goto O dX12_mostSaid_24 rfl ?_
      exact t_X12_mostSaid_33 O R0 N hn a0 x1 x2 v6 (0 : Int32) σ o h K
    · replace h := (if_neg c8).symm.trans h
      refine g_aload_n O dX12_mostSaid_27 rfl 0 rfl ?_
      obtain ⟨v9, e10, h⟩ := bo_some h
      refine g_getR O dX12_mostSaid_28 fl_X12_70 rfl e10 ?_
      refine g_iload_n O dX12_mostSaid_31 rfl 1 rfl ?_
      obtain ⟨v11, e12, h⟩ := bo_some h
      refine g_iaload O dX12_mostSaid_32 e12 ?_
      exact t_X12_mostSaid_33 O R0 N hn a0 x1 x2 v6 v11 σ o h K
def f_X12_mostSaid (a0 : Nat) (σ : Dt) : Option Int32 := bo (iter FU (fun s => f_X12_mostSaid_L4 a0 s.1 s.2 σ) ((-1 : Int32), (0 : Int32))) fun w1 => some w1
theorem t_X12_mostSaid {M : Mx} {l0 : Launch} (O : Ok M cX12_mostSaid yX12_mostSaid) (R0 : Rm M l0 2 80 0 0) (N : Ma M = false) (hn : Mn M = 3) (a0 : Nat) (σ : Dt) (o : Int32) (h : f_X12_mostSaid a0 σ = some o) (K : Fin' M (some .int) 0 0 SM σ (some (vI o))) : G M 0 0 0 [(0, vA (some a0))] [] SM σ := by
  unfold f_X12_mostSaid at h
  refine g_iconst (v := (-1 : Int32)) O dX12_mostSaid_0 rfl ?_
  refine g_istore_n (lv' := [(1, vI (-1 : Int32)), (0, vA (some a0))]) O dX12_mostSaid_1 rfl 3 hn (by decide) rfl ?_
  refine g_iconst (v := (0 : Int32)) O dX12_mostSaid_2 rfl ?_
  refine g_istore_n (lv' := [(2, vI (0 : Int32)), (1, vI (-1 : Int32)), (0, vA (some a0))]) O dX12_mostSaid_3 rfl 3 hn (by decide) rfl ?_
  refine g_sub [2, 1, 0] (lv' := [(0, vA (some a0)), (1, vI (-1 : Int32)), (2, vI (0 : Int32))]) rfl ?_
  obtain ⟨w1, e2, h⟩ := bo_some h
  refine iter_G (P := P_X12_mostSaid_4 M a0 σ) (E := E_X12_mostSaid_4 M a0 σ) (fun s o hb hk => t_X12_mostSaid_L4 O R0 N hn a0 s.1 s.2 σ o hb hk) FU ((-1 : Int32), (0 : Int32)) w1 e2 ?_
  show G M 0 0 44 [(1, vI w1)] [] SM σ
  refine g_iload_n O dX12_mostSaid_44 rfl 0 rfl ?_
  cases h
  exact g_ireturn O K dX12_mostSaid_45
theorem c_X12_mostSaid (l0 : Launch) (a0 : Nat) (σ : Dt) (r : Int32) (h : f_X12_mostSaid a0 σ = some r) : Ctr l0 yX12_mostSaid cX12_mostSaid 3 (some .int) false 2 80 0 0 [vA (some a0)] SM σ SM σ (some (vI r)) := ctr_of (by decide) (Nat.le_of_ble_eq_true rfl) (fun M O F R0 N hn => t_X12_mostSaid O R0 N hn a0 σ r h F)
def P_X12_after_81 (M : Mx) (a0 : Nat) (x3 : Int32) (x4 : Int32) (σ : Dt) (s : (Int32 × Int32)) : Prop := G M 0 0 81 [(0, vA (some a0)), (3, vI x3), (4, vI x4), (5, vI s.1), (6, vI s.2)] [] SM σ
def E_X12_after_81 (M : Mx) (a0 : Nat) (x3 : Int32) (x4 : Int32) (σ : Dt) : Int32 → Prop := (fun w => G M 0 0 120 [(0, vA (some a0)), (3, vI x3), (4, vI x4), (5, vI w)] [] SM σ)
def f_X12_after_111 (a0 : Nat) (x3 : Int32) (x4 : Int32) (x6 : Int32) (k0 : Int32) (k1 : Int32) (σ : Dt) : Option ((Int32 × Int32) ⊕ Int32) := some (.inl ((k0 + k1), (x6 + (1 : Int32))))
theorem t_X12_after_111 {M : Mx} {l0 : Launch} (O : Ok M cX12_after yX12_after) (R0 : Rm M l0 9 239 0 0) (N : Ma M = false) (hn : Mn M = 7)  (a0 : Nat) (x3 : Int32) (x4 : Int32) (x6 : Int32) (k0 : Int32) (k1 : Int32) (σ : Dt) (o : ((Int32 × Int32) ⊕ Int32)) (h : f_X12_after_111 a0 x3 x4 x6 k0 k1 σ = some o) (K : kon (P_X12_after_81 M a0 x3 x4 σ) (E_X12_after_81 M a0 x3 x4 σ) o) : G M 0 0 111 [(0, vA (some a0)), (3, vI x3), (4, vI x4), (6, vI x6)] [vI k1, vI k0] SM σ := by
  unfold f_X12_after_111 at h
  refine g_iadd O dX12_after_111 ?_
  refine g_istore (lv' := [(5, vI (k0 + k1)), (0, vA (some a0)), (3, vI x3), (4, vI x4), (6, vI x6)]) O dX12_after_112 7 hn (by decide) rfl ?_
  refine g_iinc (v := (x6 + (1 : Int32))) (lv' := [(6, vI (x6 + (1 : Int32))), (5, vI (k0 + k1)), (0, vA (some a0)), (3, vI x3), (4, vI x4)]) O dX12_after_114 7 hn (by decide) 4 rfl rfl rfl ?_
  refine g_goto O dX12_after_117 rfl ?_
  refine g_sub [2, 3, 4, 1, 0] (lv' := [(0, vA (some a0)), (3, vI x3), (4, vI x4), (5, vI (k0 + k1)), (6, vI (x6 + (1 : Int32)))]) rfl ?_
  cases h
  exact K
def f_X12_after_L81 (a0 : Nat) (x3 : Int32) (x4 : Int32) (x5 : Int32) (x6 : Int32) (σ : Dt) : Option ((Int32 × Int32) ⊕ Int32) := bo (xgi SM 12 32 (some a0) σ) fun v1 => if v1 ≤ x6 then some (.inr x5) else bo (xgr SM 12 44 (some a0) σ) fun v4 => bo (xai SM v4 x6 σ) fun v6 => if v6 = (x3 - (10 : Int32)) then f_X12_after_111 a0 x3 x4 x6 x5 (1 : Int32) σ else f_X12_after_111 a0 x3 x4 x6 x5 (0 : Int32) σ
theorem t_X12_after_L81 {M : Mx} {l0 : Launch} (O : Ok M cX12_after yX12_after) (R0 : Rm M l0 9 239 0 0) (N : Ma M = false) (hn : Mn M = 7) (a0 : Nat) (x3 : Int32) (x4 : Int32) (x5 : Int32) (x6 : Int32) (σ : Dt) (o : ((Int32 × Int32) ⊕ Int32)) (h : f_X12_after_L81 a0 x3 x4 x5 x6 σ = some o) (K : kon (P_X12_after_81 M a0 x3 x4 σ) (E_X12_after_81 M a0 x3 x4 σ) o) : G M 0 0 81 [(0, vA (some a0)), (3, vI x3), (4, vI x4), (5, vI x5), (6, vI x6)] [] SM σ := by
  unfold f_X12_after_L81 at h
  refine g_iload O dX12_after_81 4 rfl ?_
  refine g_aload_n O dX12_after_83 rfl 0 rfl ?_
  obtain ⟨v1, e2, h⟩ := bo_some h
  refine g_getI O dX12_after_84 fl_X12_398 rfl e2 ?_
  refine g_icmp_ge O dX12_after_87 rfl (fun c3 => ?_) (fun c3 => ?_)
  · replace h := (if_pos c3).symm.trans h
    refine g_sub [0, 1, 2, 3] (lv' := [(0, vA (some a0)), (3, vI x3), (4, vI x4), (5, vI x5)]) rfl ?_
    cases h
    exact K
  · replace h := (if_neg c3).symm.trans h
    refine g_iload O dX12_after_90 3 rfl ?_
    refine g_aload_n O dX12_after_92 rfl 0 rfl ?_
    obtain ⟨v4, e5, h⟩ := bo_some h
    refine g_getR O dX12_after_93 fl_X12_85 rfl e5 ?_
    refine g_iload O dX12_after_96 4 rfl ?_
    obtain ⟨v6, e7, h⟩ := bo_some h
    refine g_iaload O dX12_after_98 e7 ?_
    refine g_iload_n O dX12_after_99 rfl 1 rfl ?_
    refine g_bipush (v := (10 : Int32)) O dX12_after_100 rfl ?_
    refine g_isub O dX12_after_102 ?_
    refine g_icmp_ne O dX12_after_103 rfl (fun c8 => ?_) (fun c8 => ?_)
    · replace h := (if_pos c8).symm.trans h
      refine g_iconst (v := (1 : Int32)) O dX12_after_106 rfl ?_
      refine g_goto O dX12_after_107 rfl ?_
      refine g_sub [0, 1, 2, 4] (lv' := [(0, vA (some a0)), (3, vI x3), (4, vI x4), (6, vI x6)]) rfl ?_
      exact t_X12_after_111 O R0 N hn a0 x3 x4 x6 x5 (1 : Int32) σ o h K
    · replace h := (if_neg c8).symm.trans h
      refine g_iconst (v := (0 : Int32)) O dX12_after_110 rfl ?_
      refine g_sub [0, 1, 2, 4] (lv' := [(0, vA (some a0)), (3, vI x3), (4, vI x4), (6, vI x6)]) rfl ?_
      exact t_X12_after_111 O R0 N hn a0 x3 x4 x6 x5 (0 : Int32) σ o h K
def P_X12_after_29 (M : Mx) (a0 : Nat) (x3 : Int32) (s : (Int32 × Int32 × Dt)) : Prop := G M 0 0 29 [(0, vA (some a0)), (3, vI x3), (4, vI s.1), (5, vI s.2.1)] [] SM s.2.2
def E_X12_after_29 (M : Mx) (a0 : Nat) (x3 : Int32) : (Int32 × Dt) → Prop := (fun w => G M 0 0 75 [(0, vA (some a0)), (3, vI x3), (4, vI w.1)] [] SM w.2)
def f_X12_after_69 (a0 : Nat) (x3 : Int32) (x4 : Int32) (x5 : Int32) (σ : Dt) : Option ((Int32 × Int32 × Dt) ⊕ (Int32 × Dt)) := some (.inl (x4, (x5 + (1 : Int32)), σ))
theorem t_X12_after_69 {M : Mx} {l0 : Launch} (O : Ok M cX12_after yX12_after) (R0 : Rm M l0 9 239 0 0) (N : Ma M = false) (hn : Mn M = 7)  (a0 : Nat) (x3 : Int32) (x4 : Int32) (x5 : Int32) (σ : Dt) (o : ((Int32 × Int32 × Dt) ⊕ (Int32 × Dt))) (h : f_X12_after_69 a0 x3 x4 x5 σ = some o) (K : kon (P_X12_after_29 M a0 x3) (E_X12_after_29 M a0 x3) o) : G M 0 0 69 [(0, vA (some a0)), (3, vI x3), (4, vI x4), (5, vI x5)] [] SM σ := by
  unfold f_X12_after_69 at h
  refine g_iinc (v := (x5 + (1 : Int32))) (lv' := [(5, vI (x5 + (1 : Int32))), (0, vA (some a0)), (3, vI x3), (4, vI x4)]) O dX12_after_69 7 hn (by decide) 3 rfl rfl rfl ?_
  refine g_goto O dX12_after_72 rfl ?_
  refine g_sub [1, 2, 3, 0] (lv' := [(0, vA (some a0)), (3, vI x3), (4, vI x4), (5, vI (x5 + (1 : Int32)))]) rfl ?_
  cases h
  exact K
def f_X12_after_L29 (a0 : Nat) (x3 : Int32) (x4 : Int32) (x5 : Int32) (σ : Dt) : Option ((Int32 × Int32 × Dt) ⊕ (Int32 × Dt)) := bo (xgr SM 12 0 (some a0) σ) fun v1 => bo (xgi SM 12 26 (some a0) σ) fun v3 => bo (xai SM v1 v3 σ) fun v5 => if v5 ≤ x5 then some (.inr (x4, σ)) else bo (xrc SM 12 (some a0)) fun a8 => bd (f_X12_doesTold a8 x5 σ) fun v10 σ11 => if v10 = 0 then some (.inr (x4, σ11)) else if x4 = (-1 : Int32) then bo (xgi SM 12 33 (some a0) σ11) fun v15 => if v15 ≤ 0 then f_X12_after_69 a0 x3 x4 x5 σ11 else f_X12_after_69 a0 x3 x5 x5 σ11 else f_X12_after_69 a0 x3 x4 x5 σ11
theorem t_X12_after_L29 {M : Mx} {l0 : Launch} (O : Ok M cX12_after yX12_after) (R0 : Rm M l0 9 239 0 0) (N : Ma M = false) (hn : Mn M = 7) (a0 : Nat) (x3 : Int32) (x4 : Int32) (x5 : Int32) (σ : Dt) (o : ((Int32 × Int32 × Dt) ⊕ (Int32 × Dt))) (h : f_X12_after_L29 a0 x3 x4 x5 σ = some o) (K : kon (P_X12_after_29 M a0 x3) (E_X12_after_29 M a0 x3) o) : G M 0 0 29 [(0, vA (some a0)), (3, vI x3), (4, vI x4), (5, vI x5)] [] SM σ := by
  unfold f_X12_after_L29 at h
  refine g_iload O dX12_after_29 3 rfl ?_
  refine g_aload_n O dX12_after_31 rfl 0 rfl ?_
  obtain ⟨v1, e2, h⟩ := bo_some h
  refine g_getR O dX12_after_32 fl_X12_7 rfl e2 ?_
  refine g_aload_n O dX12_after_35 rfl 0 rfl ?_
  obtain ⟨v3, e4, h⟩ := bo_some h
  refine g_getI O dX12_after_36 fl_X12_377 rfl e4 ?_
  obtain ⟨v5, e6, h⟩ := bo_some h
  refine g_iaload O dX12_after_39 e6 ?_
  refine g_icmp_ge O dX12_after_40 rfl (fun c7 => ?_) (fun c7 => ?_)
  · replace h := (if_pos c7).symm.trans h
    refine g_sub [0, 1, 2] (lv' := [(0, vA (some a0)), (3, vI x3), (4, vI x4)]) rfl ?_
    cases h
    exact K
  · replace h := (if_neg c7).symm.trans h
    refine g_aload_n O dX12_after_43 rfl 0 rfl ?_
    refine g_iload O dX12_after_44 3 rfl ?_
    obtain ⟨a8, e9, h⟩ := bo_some h
    obtain ⟨v10, σ11, e12, h⟩ := bd_some h
    refine g_cV1 O R0 N dX12_after_46 vl_X12_442 vv_X12_doesTold e9 [vI x5] rfl rfl rfl ⟨Nat.le_of_ble_eq_true rfl, Nat.le_of_ble_eq_true rfl⟩ (c_X12_doesTold l0 a8 x5 σ v10 σ11 e12) ?_
    refine g_if_eq O dX12_after_49 rfl (fun c13 => ?_) (fun c13 => ?_)
    · replace h := (if_pos c13).symm.trans h
      refine g_sub [0, 1, 2] (lv' := [(0, vA (some a0)), (3, vI x3), (4, vI x4)]) rfl ?_
      cases h
      exact K
    · replace h := (if_neg c13).symm.trans h
      refine g_iload O dX12_after_52 2 rfl ?_
      refine g_iconst (v := (-1 : Int32)) O dX12_after_54 rfl ?_
      refine g_icmp_ne O dX12_after_55 rfl (fun c14 => ?_) (fun c14 => ?_)
      · replace h := (if_pos c14).symm.trans h
        refine g_aload_n O dX12_after_58 rfl 0 rfl ?_
        obtain ⟨v15, e16, h⟩ := bo_some h
        refine g_getI O dX12_after_59 fl_X12_401 rfl e16 ?_
        refine g_if_le O dX12_after_62 rfl (fun c17 => ?_) (fun c17 => ?_)
        · replace h := (if_pos c17).symm.trans h
          exact t_X12_after_69 O R0 N hn a0 x3 x4 x5 σ11 o h K
        · replace h := (if_neg c17).symm.trans h
          refine g_iload O dX12_after_65 3 rfl ?_
          refine g_istore (lv' := [(4, vI x5), (0, vA (some a0)), (3, vI x3), (5, vI x5)]) O dX12_after_67 7 hn (by decide) rfl ?_
          refine g_sub [1, 2, 0, 3] (lv' := [(0, vA (some a0)), (3, vI x3), (4, vI x5), (5, vI x5)]) rfl ?_
          exact t_X12_after_69 O R0 N hn a0 x3 x5 x5 σ11 o h K
      · replace h := (if_neg c14).symm.trans h
        exact t_X12_after_69 O R0 N hn a0 x3 x4 x5 σ11 o h K
def f_X12_after_75 (a0 : Nat) (x3 : Int32) (x4 : Int32) (σ : Dt) : Option (Int32 × Dt) := bo (iter FU (fun s => f_X12_after_L81 a0 x3 x4 s.1 s.2 σ) ((0 : Int32), (0 : Int32))) fun w1 => if x3 = (0 : Int32) then some (x4, σ) else if x3 = (1 : Int32) then bo (xrc SM 12 (some a0)) fun a5 => bo (f_X12_mostDug a5 σ) fun v7 => some (v7, σ) else if x3 = (2 : Int32) then bo (xrc SM 12 (some a0)) fun a10 => bo (f_X12_mostSaid a10 σ) fun v12 => some (v12, σ) else bo (f_X12_isIn x3 (10 : Int32) (14 : Int32) σ) fun v14 => if v14 = 0 then some ((-2 : Int32), σ) else some (w1, σ)
theorem t_X12_after_75 {M : Mx} {l0 : Launch} (O : Ok M cX12_after yX12_after) (R0 : Rm M l0 9 239 0 0) (N : Ma M = false) (hn : Mn M = 7)  (a0 : Nat) (x3 : Int32) (x4 : Int32) (σ : Dt) (o : (Int32 × Dt)) (h : f_X12_after_75 a0 x3 x4 σ = some o) (K : Fin' M (some .int) 0 0 SM o.2 (some (vI o.1))) : G M 0 0 75 [(0, vA (some a0)), (3, vI x3), (4, vI x4)] [] SM σ := by
  unfold f_X12_after_75 at h
  refine g_iconst (v := (0 : Int32)) O dX12_after_75 rfl ?_
  refine g_istore (lv' := [(5, vI (0 : Int32)), (0, vA (some a0)), (3, vI x3), (4, vI x4)]) O dX12_after_76 7 hn (by decide) rfl ?_
  refine g_iconst (v := (0 : Int32)) O dX12_after_78 rfl ?_
  refine g_istore (lv' := [(6, vI (0 : Int32)), (5, vI (0 : Int32)), (0, vA (some a0)), (3, vI x3), (4, vI x4)]) O dX12_after_79 7 hn (by decide) rfl ?_
  refine g_sub [2, 3, 4, 1, 0] (lv' := [(0, vA (some a0)), (3, vI x3), (4, vI x4), (5, vI (0 : Int32)), (6, vI (0 : Int32))]) rfl ?_
  obtain ⟨w1, e2, h⟩ := bo_some h
  refine iter_G (P := P_X12_after_81 M a0 x3 x4 σ) (E := E_X12_after_81 M a0 x3 x4 σ) (fun s o hb hk => t_X12_after_L81 O R0 N hn a0 x3 x4 s.1 s.2 σ o hb hk) FU ((0 : Int32), (0 : Int32)) w1 e2 ?_
  show G M 0 0 120 [(0, vA (some a0)), (3, vI x3), (4, vI x4), (5, vI w1)] [] SM σ
  refine g_iload_n O dX12_after_120 rfl 1 rfl ?_
  by_cases c3 : x3 = (0 : Int32)
  · replace h := (if_pos c3).symm.trans h
    refine g_tabIn O dX12_after_121 (by rw [c3]; decide) (by rw [c3]; decide) (by rw [c3]; rfl) rfl ?_
    refine g_iload O dX12_after_148 2 rfl ?_
    cases h
    exact g_ireturn O K dX12_after_150
  replace h := (if_neg c3).symm.trans h
  by_cases c4 : x3 = (1 : Int32)
  · replace h := (if_pos c4).symm.trans h
    refine g_tabIn O dX12_after_121 (by rw [c4]; decide) (by rw [c4]; decide) (by rw [c4]; rfl) rfl ?_
    refine g_aload_n O dX12_after_151 rfl 0 rfl ?_
    obtain ⟨a5, e6, h⟩ := bo_some h
    obtain ⟨v7, e8, h⟩ := bo_some h
    refine g_cV1 O R0 N dX12_after_152 vl_X12_454 vv_X12_mostDug e6 [] rfl rfl rfl ⟨Nat.le_of_ble_eq_true rfl, Nat.le_of_ble_eq_true rfl⟩ (c_X12_mostDug l0 a5 σ v7 e8) ?_
    cases h
    exact g_ireturn O K dX12_after_155
  replace h := (if_neg c4).symm.trans h
  by_cases c9 : x3 = (2 : Int32)
  · replace h := (if_pos c9).symm.trans h
    refine g_tabIn O dX12_after_121 (by rw [c9]; decide) (by rw [c9]; decide) (by rw [c9]; rfl) rfl ?_
    refine g_aload_n O dX12_after_156 rfl 0 rfl ?_
    obtain ⟨a10, e11, h⟩ := bo_some h
    obtain ⟨v12, e13, h⟩ := bo_some h
    refine g_cV1 O R0 N dX12_after_157 vl_X12_457 vv_X12_mostSaid e11 [] rfl rfl rfl ⟨Nat.le_of_ble_eq_true rfl, Nat.le_of_ble_eq_true rfl⟩ (c_X12_mostSaid l0 a10 σ v12 e13) ?_
    cases h
    exact g_ireturn O K dX12_after_160
  replace h := (if_neg c9).symm.trans h
  refine g_tabOut O dX12_after_121 (tab_out [(0 : Int32), (1 : Int32), (2 : Int32)] (fun z h1 h2 => ?_) (fun c hc => ?_)) rfl ?_
  · have hz : z = 0 ∨ z = 1 ∨ z = 2 := by omega
    rcases hz with rfl | rfl | rfl
    · exact ⟨(0 : Int32), by simp, rfl⟩
    · exact ⟨(1 : Int32), by simp, rfl⟩
    · exact ⟨(2 : Int32), by simp, rfl⟩
  · simp only [List.mem_cons, List.not_mem_nil, or_false] at hc
    rcases hc with rfl | rfl | rfl <;> assumption
  refine g_iload_n O dX12_after_161 rfl 1 rfl ?_
  refine g_bipush (v := (10 : Int32)) O dX12_after_162 rfl ?_
  refine g_bipush (v := (14 : Int32)) O dX12_after_164 rfl ?_
  obtain ⟨v14, e15, h⟩ := bo_some h
  refine g_cS1 O R0 N dX12_after_166 vl_X12_146 w1616 [vI x3, vI (10 : Int32), vI (14 : Int32)] rfl rfl rfl ⟨Nat.le_of_ble_eq_true rfl, Nat.le_of_ble_eq_true rfl⟩ (c_X12_isIn l0 x3 (10 : Int32) (14 : Int32) σ v14 e15) ?_
  refine g_if_eq O dX12_after_169 rfl (fun c16 => ?_) (fun c16 => ?_)
  · replace h := (if_pos c16).symm.trans h
    refine g_bipush (v := (-2 : Int32)) O dX12_after_177 rfl ?_
    cases h
    exact g_ireturn O K dX12_after_179
  · replace h := (if_neg c16).symm.trans h
    refine g_iload O dX12_after_172 3 rfl ?_
    refine g_goto O dX12_after_174 rfl ?_
    cases h
    exact g_ireturn O K dX12_after_179
def f_X12_after (a0 : Nat) (x1 : Int32) (x2 : Int32) (x3 : Int32) (σ : Dt) : Option (Int32 × Dt) := bo (xrc SM 12 (some a0)) fun a1 => bd (f_X12_isValley a1 x1 σ) fun v3 σ4 => if v3 = 0 then some ((-2 : Int32), σ4) else bo (xrc SM 12 (some a0)) fun a7 => bd (f_X12_isLife a7 x2 σ4) fun v9 σ10 => if v9 = 0 then some ((-2 : Int32), σ10) else bo (xrc SM 12 (some a0)) fun a13 => bd (f_X12_begins a13 σ10) fun v15 σ16 => bo (iter FU (fun s => f_X12_after_L29 a0 x3 s.1 s.2.1 s.2.2) ((-1 : Int32), (0 : Int32), σ16)) fun w18 => f_X12_after_75 a0 x3 w18.1 w18.2
theorem t_X12_after {M : Mx} {l0 : Launch} (O : Ok M cX12_after yX12_after) (R0 : Rm M l0 9 239 0 0) (N : Ma M = false) (hn : Mn M = 7) (a0 : Nat) (x1 : Int32) (x2 : Int32) (x3 : Int32) (σ : Dt) (o : (Int32 × Dt)) (h : f_X12_after a0 x1 x2 x3 σ = some o) (K : Fin' M (some .int) 0 0 SM o.2 (some (vI o.1))) : G M 0 0 0 [(0, vA (some a0)), (1, vI x1), (2, vI x2), (3, vI x3)] [] SM σ := by
  unfold f_X12_after at h
  refine g_aload_n O dX12_after_0 rfl 0 rfl ?_
  refine g_iload_n O dX12_after_1 rfl 1 rfl ?_
  obtain ⟨a1, e2, h⟩ := bo_some h
  obtain ⟨v3, σ4, e5, h⟩ := bd_some h
  refine g_cV1 O R0 N dX12_after_2 vl_X12_220 vv_X12_isValley e2 [vI x1] rfl rfl rfl ⟨Nat.le_of_ble_eq_true rfl, Nat.le_of_ble_eq_true rfl⟩ (c_X12_isValley l0 a1 x1 σ v3 σ4 e5) ?_
  refine g_if_eq O dX12_after_5 rfl (fun c6 => ?_) (fun c6 => ?_)
  · replace h := (if_pos c6).symm.trans h
    refine g_bipush (v := (-2 : Int32)) O dX12_after_16 rfl ?_
    cases h
    exact g_ireturn O K dX12_after_18
  · replace h := (if_neg c6).symm.trans h
    refine g_aload_n O dX12_after_8 rfl 0 rfl ?_
    refine g_iload_n O dX12_after_9 rfl 2 rfl ?_
    obtain ⟨a7, e8, h⟩ := bo_some h
    obtain ⟨v9, σ10, e11, h⟩ := bd_some h
    refine g_cV1 O R0 N dX12_after_10 vl_X12_380 vv_X12_isLife e8 [vI x2] rfl rfl rfl ⟨Nat.le_of_ble_eq_true rfl, Nat.le_of_ble_eq_true rfl⟩ (c_X12_isLife l0 a7 x2 σ4 v9 σ10 e11) ?_
    refine g_if_ne O dX12_after_13 rfl (fun c12 => ?_) (fun c12 => ?_)
    · replace h := (if_pos c12).symm.trans h
      refine g_bipush (v := (-2 : Int32)) O dX12_after_16 rfl ?_
      cases h
      exact g_ireturn O K dX12_after_18
    · replace h := (if_neg c12).symm.trans h
      refine g_aload_n O dX12_after_19 rfl 0 rfl ?_
      obtain ⟨a13, e14, h⟩ := bo_some h
      obtain ⟨v15, σ16, e17, h⟩ := bd_some h
      refine g_cV0 O R0 N dX12_after_20 vl_X12_439 vv_X12_begins e14 [] rfl rfl rfl ⟨Nat.le_of_ble_eq_true rfl, Nat.le_of_ble_eq_true rfl⟩ (c_X12_begins l0 a13 σ10 v15 σ16 e17) ?_
      refine g_iconst (v := (-1 : Int32)) O dX12_after_23 rfl ?_
      refine g_istore (lv' := [(4, vI (-1 : Int32)), (0, vA (some a0)), (1, vI x1), (2, vI x2), (3, vI x3)]) O dX12_after_24 7 hn (by decide) rfl ?_
      refine g_iconst (v := (0 : Int32)) O dX12_after_26 rfl ?_
      refine g_istore (lv' := [(5, vI (0 : Int32)), (4, vI (-1 : Int32)), (0, vA (some a0)), (1, vI x1), (2, vI x2), (3, vI x3)]) O dX12_after_27 7 hn (by decide) rfl ?_
      refine g_sub [2, 5, 1, 0] (lv' := [(0, vA (some a0)), (3, vI x3), (4, vI (-1 : Int32)), (5, vI (0 : Int32))]) rfl ?_
      obtain ⟨w18, e19, h⟩ := bo_some h
      refine iter_G (P := P_X12_after_29 M a0 x3) (E := E_X12_after_29 M a0 x3) (fun s o hb hk => t_X12_after_L29 O R0 N hn a0 x3 s.1 s.2.1 s.2.2 o hb hk) FU ((-1 : Int32), (0 : Int32), σ16) w18 e19 ?_
      show G M 0 0 75 [(0, vA (some a0)), (3, vI x3), (4, vI w18.1)] [] SM w18.2
      exact t_X12_after_75 O R0 N hn a0 x3 w18.1 w18.2 o h K
theorem c_X12_after (l0 : Launch) (a0 : Nat) (x1 : Int32) (x2 : Int32) (x3 : Int32) (σ : Dt) (r : Int32) (σ' : Dt) (h : f_X12_after a0 x1 x2 x3 σ = some (r, σ')) : Ctr l0 yX12_after cX12_after 7 (some .int) false 9 239 0 0 [vA (some a0), vI x1, vI x2, vI x3] SM σ SM σ' (some (vI r)) := ctr_of (by decide) (Nat.le_of_ble_eq_true rfl) (fun M O F R0 N hn => t_X12_after O R0 N hn a0 x1 x2 x3 σ (r, σ') h F)
def f_X12_isSight (a0 : Nat) (x1 : Int32) (σ : Dt) : Option (Int32 × Dt) := bo (xrc SM 12 (some a0)) fun a1 => bo (f_X12_isOf a1 (2 : Int32) x1 σ) fun v3 => if v3 = 0 then some ((0 : Int32), σ) else bo (f_X12_placeOf (2 : Int32) x1 σ) fun v6 => bo (xpi SM 12 45 (some a0) v6 σ) fun σ8 => some ((1 : Int32), σ8)
theorem t_X12_isSight {M : Mx} {l0 : Launch} (O : Ok M cX12_isSight yX12_isSight) (R0 : Rm M l0 4 124 0 0) (N : Ma M = false) (hn : Mn M = 2) (a0 : Nat) (x1 : Int32) (σ : Dt) (o : (Int32 × Dt)) (h : f_X12_isSight a0 x1 σ = some o) (K : Fin' M (some .boolean) 0 0 SM o.2 (some (vI o.1))) : G M 0 0 0 [(0, vA (some a0)), (1, vI x1)] [] SM σ := by
  unfold f_X12_isSight at h
  refine g_aload_n O dX12_isSight_0 rfl 0 rfl ?_
  refine g_iconst (v := (2 : Int32)) O dX12_isSight_1 rfl ?_
  refine g_iload_n O dX12_isSight_2 rfl 1 rfl ?_
  obtain ⟨a1, e2, h⟩ := bo_some h
  obtain ⟨v3, e4, h⟩ := bo_some h
  refine g_cV1 O R0 N dX12_isSight_3 vl_X12_186 vv_X12_isOf e2 [vI (2 : Int32), vI x1] rfl rfl rfl ⟨Nat.le_of_ble_eq_true rfl, Nat.le_of_ble_eq_true rfl⟩ (c_X12_isOf l0 a1 (2 : Int32) x1 σ v3 e4) ?_
  refine g_if_ne O dX12_isSight_6 rfl (fun c5 => ?_) (fun c5 => ?_)
  · replace h := (if_pos c5).symm.trans h
    refine g_iconst (v := (0 : Int32)) O dX12_isSight_9 rfl ?_
    cases h
    exact g_zreturn O (by decide) K dX12_isSight_10
  · replace h := (if_neg c5).symm.trans h
    refine g_aload_n O dX12_isSight_11 rfl 0 rfl ?_
    refine g_iconst (v := (2 : Int32)) O dX12_isSight_12 rfl ?_
    refine g_iload_n O dX12_isSight_13 rfl 1 rfl ?_
    obtain ⟨v6, e7, h⟩ := bo_some h
    refine g_cS1 O R0 N dX12_isSight_14 vl_X12_205 w1707 [vI (2 : Int32), vI x1] rfl rfl rfl ⟨Nat.le_of_ble_eq_true rfl, Nat.le_of_ble_eq_true rfl⟩ (c_X12_placeOf l0 (2 : Int32) x1 σ v6 e7) ?_
    obtain ⟨σ8, e9, h⟩ := bo_some h
    refine g_putI O dX12_isSight_17 fl_X12_460 (Or.inl rfl) rfl e9 ?_
    refine g_iconst (v := (1 : Int32)) O dX12_isSight_20 rfl ?_
    cases h
    exact g_zreturn O (by decide) K dX12_isSight_21
theorem c_X12_isSight (l0 : Launch) (a0 : Nat) (x1 : Int32) (σ : Dt) (r : Int32) (σ' : Dt) (h : f_X12_isSight a0 x1 σ = some (r, σ')) : Ctr l0 yX12_isSight cX12_isSight 2 (some .boolean) false 4 124 0 0 [vA (some a0), vI x1] SM σ SM σ' (some (vI r)) := ctr_of (by decide) (Nat.le_of_ble_eq_true rfl) (fun M O F R0 N hn => t_X12_isSight O R0 N hn a0 x1 σ (r, σ') h F)
def f_X12_sight_87  (σ : Dt) : Option (Int32 × Dt) := some ((-1 : Int32), σ)
theorem t_X12_sight_87 {M : Mx} {l0 : Launch} (O : Ok M cX12_sight yX12_sight) (R0 : Rm M l0 5 145 0 0) (N : Ma M = false) (hn : Mn M = 4)   (σ : Dt) (o : (Int32 × Dt)) (h : f_X12_sight_87 σ = some o) (K : Fin' M (some .int) 0 0 SM o.2 (some (vI o.1))) : G M 0 0 87 [] [] SM σ := by
  unfold f_X12_sight_87 at h
  refine g_iconst (v := (-1 : Int32)) O dX12_sight_87 rfl ?_
  cases h
  exact g_ireturn O K dX12_sight_88
def f_X12_sight (a0 : Nat) (x1 : Int32) (x2 : Int32) (σ : Dt) : Option (Int32 × Dt) := bo (xrc SM 12 (some a0)) fun a1 => bd (f_X12_isSight a1 x1 σ) fun v3 σ4 => if v3 = 0 then some ((-1 : Int32), σ4) else bo (f_X12_isIn x2 (0 : Int32) (1 : Int32) σ4) fun v7 => if v7 = 0 then bo (f_X12_isIn x2 (10 : Int32) (29 : Int32) σ4) fun v10 => if v10 = 0 then f_X12_sight_87 σ4 else bo (xgr SM 12 0 (some a0) σ4) fun v13 => bo (xgi SM 12 45 (some a0) σ4) fun v15 => bo (xai SM v13 (v15 + (1 : Int32)) σ4) fun v17 => if v17 ≤ (x2 - x2 / (10 : Int32) * (10 : Int32)) then f_X12_sight_87 σ4 else bo (xgr SM 12 0 (some a0) σ4) fun v20 => bo (xgi SM 12 45 (some a0) σ4) fun v22 => bo (xai SM v20 ((((v22 + (2 : Int32)) + ((2 : Int32) * (x2 - x2 / (10 : Int32) * (10 : Int32)))) + (x2 / (10 : Int32))) - (1 : Int32)) σ4) fun v24 => some (v24, σ4) else bo (xgr SM 12 0 (some a0) σ4) fun v26 => bo (xgi SM 12 45 (some a0) σ4) fun v28 => bo (xai SM v26 (v28 + x2) σ4) fun v30 => some (v30, σ4)
theorem t_X12_sight {M : Mx} {l0 : Launch} (O : Ok M cX12_sight yX12_sight) (R0 : Rm M l0 5 145 0 0) (N : Ma M = false) (hn : Mn M = 4) (a0 : Nat) (x1 : Int32) (x2 : Int32) (σ : Dt) (o : (Int32 × Dt)) (h : f_X12_sight a0 x1 x2 σ = some o) (K : Fin' M (some .int) 0 0 SM o.2 (some (vI o.1))) : G M 0 0 0 [(0, vA (some a0)), (1, vI x1), (2, vI x2)] [] SM σ := by
  unfold f_X12_sight at h
  refine g_aload_n O dX12_sight_0 rfl 0 rfl ?_
  refine g_iload_n O dX12_sight_1 rfl 1 rfl ?_
  obtain ⟨a1, e2, h⟩ := bo_some h
  obtain ⟨v3, σ4, e5, h⟩ := bd_some h
  refine g_cV1 O R0 N dX12_sight_2 vl_X12_463 vv_X12_isSight e2 [vI x1] rfl rfl rfl ⟨Nat.le_of_ble_eq_true rfl, Nat.le_of_ble_eq_true rfl⟩ (c_X12_isSight l0 a1 x1 σ v3 σ4 e5) ?_
  refine g_if_ne O dX12_sight_5 rfl (fun c6 => ?_) (fun c6 => ?_)
  · replace h := (if_pos c6).symm.trans h
    refine g_iconst (v := (-1 : Int32)) O dX12_sight_8 rfl ?_
    cases h
    exact g_ireturn O K dX12_sight_9
  · replace h := (if_neg c6).symm.trans h
    refine g_iload_n O dX12_sight_10 rfl 2 rfl ?_
    refine g_iconst (v := (0 : Int32)) O dX12_sight_11 rfl ?_
    refine g_iconst (v := (1 : Int32)) O dX12_sight_12 rfl ?_
    obtain ⟨v7, e8, h⟩ := bo_some h
    refine g_cS1 O R0 N dX12_sight_13 vl_X12_146 w1616 [vI x2, vI (0 : Int32), vI (1 : Int32)] rfl rfl rfl ⟨Nat.le_of_ble_eq_true rfl, Nat.le_of_ble_eq_true rfl⟩ (c_X12_isIn l0 x2 (0 : Int32) (1 : Int32) σ4 v7 e8) ?_
    refine g_if_eq O dX12_sight_16 rfl (fun c9 => ?_) (fun c9 => ?_)
    · replace h := (if_pos c9).symm.trans h
      refine g_iload_n O dX12_sight_31 rfl 2 rfl ?_
      refine g_bipush (v := (10 : Int32)) O dX12_sight_32 rfl ?_
      refine g_irem O dX12_sight_34 (by decide) ?_
      refine g_istore_n (lv' := [(3, vI (x2 - x2 / (10 : Int32) * (10 : Int32))), (0, vA (some a0)), (1, vI x1), (2, vI x2)]) O dX12_sight_35 rfl 4 hn (by decide) rfl ?_
      refine g_iload_n O dX12_sight_36 rfl 3 rfl ?_
      refine g_bipush (v := (10 : Int32)) O dX12_sight_37 rfl ?_
      refine g_bipush (v := (29 : Int32)) O dX12_sight_39 rfl ?_
      obtain ⟨v10, e11, h⟩ := bo_some h
      refine g_cS1 O R0 N dX12_sight_41 vl_X12_146 w1616 [vI x2, vI (10 : Int32), vI (29 : Int32)] rfl rfl rfl ⟨Nat.le_of_ble_eq_true rfl, Nat.le_of_ble_eq_true rfl⟩ (c_X12_isIn l0 x2 (10 : Int32) (29 : Int32) σ4 v10 e11) ?_
      refine g_if_eq O dX12_sight_44 rfl (fun c12 => ?_) (fun c12 => ?_)
      · replace h := (if_pos c12).symm.trans h
        refine g_sub [] (lv' := []) rfl ?_
        exact t_X12_sight_87 O R0 N hn σ4 o h K
      · replace h := (if_neg c12).symm.trans h
        refine g_iload_n O dX12_sight_47 rfl 0 rfl ?_
        refine g_aload_n O dX12_sight_48 rfl 1 rfl ?_
        obtain ⟨v13, e14, h⟩ := bo_some h
        refine g_getR O dX12_sight_49 fl_X12_7 rfl e14 ?_
        refine g_aload_n O dX12_sight_52 rfl 1 rfl ?_
        obtain ⟨v15, e16, h⟩ := bo_some h
        refine g_getI O dX12_sight_53 fl_X12_460 rfl e16 ?_
        refine g_iconst (v := (1 : Int32)) O dX12_sight_56 rfl ?_
        refine g_iadd O dX12_sight_57 ?_
        obtain ⟨v17, e18, h⟩ := bo_some h
        refine g_iaload O dX12_sight_58 e18 ?_
        refine g_icmp_ge O dX12_sight_59 rfl (fun c19 => ?_) (fun c19 => ?_)
        · replace h := (if_pos c19).symm.trans h
          refine g_sub [] (lv' := []) rfl ?_
          exact t_X12_sight_87 O R0 N hn σ4 o h K
        · replace h := (if_neg c19).symm.trans h
          refine g_aload_n O dX12_sight_62 rfl 1 rfl ?_
          obtain ⟨v20, e21, h⟩ := bo_some h
          refine g_getR O dX12_sight_63 fl_X12_7 rfl e21 ?_
          refine g_aload_n O dX12_sight_66 rfl 1 rfl ?_
          obtain ⟨v22, e23, h⟩ := bo_some h
          refine g_getI O dX12_sight_67 fl_X12_460 rfl e23 ?_
          refine g_iconst (v := (2 : Int32)) O dX12_sight_70 rfl ?_
          refine g_iadd O dX12_sight_71 ?_
          refine g_iconst (v := (2 : Int32)) O dX12_sight_72 rfl ?_
          refine g_iload_n O dX12_sight_73 rfl 0 rfl ?_
          refine g_imul O dX12_sight_74 ?_
          refine g_iadd O dX12_sight_75 ?_
          refine g_iload_n O dX12_sight_76 rfl 3 rfl ?_
          refine g_bipush (v := (10 : Int32)) O dX12_sight_77 rfl ?_
          refine g_idiv O dX12_sight_79 (by decide) ?_
          refine g_iadd O dX12_sight_80 ?_
          refine g_iconst (v := (1 : Int32)) O dX12_sight_81 rfl ?_
          refine g_isub O dX12_sight_82 ?_
          obtain ⟨v24, e25, h⟩ := bo_some h
          refine g_iaload O dX12_sight_83 e25 ?_
          refine g_goto O dX12_sight_84 rfl ?_
          cases h
          exact g_ireturn O K dX12_sight_88
    · replace h := (if_neg c9).symm.trans h
      refine g_aload_n O dX12_sight_19 rfl 0 rfl ?_
      obtain ⟨v26, e27, h⟩ := bo_some h
      refine g_getR O dX12_sight_20 fl_X12_7 rfl e27 ?_
      refine g_aload_n O dX12_sight_23 rfl 0 rfl ?_
      obtain ⟨v28, e29, h⟩ := bo_some h
      refine g_getI O dX12_sight_24 fl_X12_460 rfl e29 ?_
      refine g_iload_n O dX12_sight_27 rfl 2 rfl ?_
      refine g_iadd O dX12_sight_28 ?_
      obtain ⟨v30, e31, h⟩ := bo_some h
      refine g_iaload O dX12_sight_29 e31 ?_
      cases h
      exact g_ireturn O K dX12_sight_30
theorem c_X12_sight (l0 : Launch) (a0 : Nat) (x1 : Int32) (x2 : Int32) (σ : Dt) (r : Int32) (σ' : Dt) (h : f_X12_sight a0 x1 x2 σ = some (r, σ')) : Ctr l0 yX12_sight cX12_sight 4 (some .int) false 5 145 0 0 [vA (some a0), vI x1, vI x2] SM σ SM σ' (some (vI r)) := ctr_of (by decide) (Nat.le_of_ble_eq_true rfl) (fun M O F R0 N hn => t_X12_sight O R0 N hn a0 x1 x2 σ (r, σ') h F)
def P_X12_areWorks_4 (M : Mx) (a0 : Nat) (σ : Dt) (s : (Int32 × Int32)) : Prop := G M 0 0 4 [(0, vA (some a0)), (1, vI s.1), (2, vI s.2)] [] SM σ
def E_X12_areWorks_4 (M : Mx) (a0 : Nat) (σ : Dt) : Int32 → Prop := (fun w => G M 0 0 57 [(1, vI w)] [] SM σ)
def f_X12_areWorks_50 (a0 : Nat) (x2 : Int32) (k0 : Int32) (σ : Dt) : Option ((Int32 × Int32) ⊕ Int32) := some (.inl (k0, (x2 + (1 : Int32))))
theorem t_X12_areWorks_50 {M : Mx} {l0 : Launch} (O : Ok M cX12_areWorks yX12_areWorks) (R0 : Rm M l0 4 123 0 0) (N : Ma M = false) (hn : Mn M = 3)  (a0 : Nat) (x2 : Int32) (k0 : Int32) (σ : Dt) (o : ((Int32 × Int32) ⊕ Int32)) (h : f_X12_areWorks_50 a0 x2 k0 σ = some o) (K : kon (P_X12_areWorks_4 M a0 σ) (E_X12_areWorks_4 M a0 σ) o) : G M 0 0 50 [(0, vA (some a0)), (2, vI x2)] [vI k0] SM σ := by
  unfold f_X12_areWorks_50 at h
  refine g_istore_n (lv' := [(1, vI k0), (0, vA (some a0)), (2, vI x2)]) O dX12_areWorks_50 rfl 3 hn (by decide) rfl ?_
  refine g_iinc (v := (x2 + (1 : Int32))) (lv' := [(2, vI (x2 + (1 : Int32))), (1, vI k0), (0, vA (some a0))]) O dX12_areWorks_51 3 hn (by decide) 2 rfl rfl rfl ?_
  refine g_goto O dX12_areWorks_54 rfl ?_
  refine g_sub [2, 1, 0] (lv' := [(0, vA (some a0)), (1, vI k0), (2, vI (x2 + (1 : Int32)))]) rfl ?_
  cases h
  exact K
def f_X12_areWorks_49 (a0 : Nat) (x2 : Int32) (σ : Dt) : Option ((Int32 × Int32) ⊕ Int32) := f_X12_areWorks_50 a0 x2 (0 : Int32) σ
theorem t_X12_areWorks_49 {M : Mx} {l0 : Launch} (O : Ok M cX12_areWorks yX12_areWorks) (R0 : Rm M l0 4 123 0 0) (N : Ma M = false) (hn : Mn M = 3)  (a0 : Nat) (x2 : Int32) (σ : Dt) (o : ((Int32 × Int32) ⊕ Int32)) (h : f_X12_areWorks_49 a0 x2 σ = some o) (K : kon (P_X12_areWorks_4 M a0 σ) (E_X12_areWorks_4 M a0 σ) o) : G M 0 0 49 [(0, vA (some a0)), (2, vI x2)] [] SM σ := by
  unfold f_X12_areWorks_49 at h
  refine g_iconst (v := (0 : Int32)) O dX12_areWorks_49 rfl ?_
  exact t_X12_areWorks_50 O R0 N hn a0 x2 (0 : Int32) σ o h K
def f_X12_areWorks_L4 (a0 : Nat) (x1 : Int32) (x2 : Int32) (σ : Dt) : Option ((Int32 × Int32) ⊕ Int32) := bo (xgr SM 12 0 (some a0) σ) fun v1 => bo (xgi SM 12 45 (some a0) σ) fun v3 => bo (xai SM v1 (v3 + (1 : Int32)) σ) fun v5 => if v5 ≤ x2 then some (.inr x1) else if x1 = 0 then f_X12_areWorks_49 a0 x2 σ else bo (xgr SM 12 0 (some a0) σ) fun v9 => bo (xgi SM 12 45 (some a0) σ) fun v11 => bo (xai SM v9 ((v11 + (2 : Int32)) + ((2 : Int32) * x2)) σ) fun v13 => bo (xrc SM 12 (some a0)) fun a15 => bo (f_X12_isWork a15 v13 σ) fun v17 => if v17 = 0 then f_X12_areWorks_49 a0 x2 σ else f_X12_areWorks_50 a0 x2 (1 : Int32) σ
theorem t_X12_areWorks_L4 {M : Mx} {l0 : Launch} (O : Ok M cX12_areWorks yX12_areWorks) (R0 : Rm M l0 4 123 0 0) (N : Ma M = false) (hn : Mn M = 3) (a0 : Nat) (x1 : Int32) (x2 : Int32) (σ : Dt) (o : ((Int32 × Int32) ⊕ Int32)) (h : f_X12_areWorks_L4 a0 x1 x2 σ = some o) (K : kon (P_X12_areWorks_4 M a0 σ) (E_X12_areWorks_4 M a0 σ) o) : G M 0 0 4 [(0, vA (some a0)), (1, vI x1), (2, vI x2)] [] SM σ := by
  unfold f_X12_areWorks_L4 at h
  refine g_iload_n O dX12_areWorks_4 rfl 2 rfl ?_
  refine g_aload_n O dX12_areWorks_5 rfl 0 rfl ?_
  obtain ⟨v1, e2, h⟩ := bo_some h
  refine g_getR O dX12_areWorks_6 fl_X12_7 rfl e2 ?_
  refine g_aload_n O dX12_areWorks_9 rfl 0 rfl ?_
  obtain ⟨v3, e4, h⟩ := bo_some h
  refine g_getI O dX12_areWorks_10 fl_X12_460 rfl e4 ?_
  refine g_iconst (v := (1 : Int32)) O dX12_areWorks_13 rfl ?_
  refine g_iadd O dX12_areWorks_14 ?_
  obtain ⟨v5, e6, h⟩ := bo_some h
  refine g_iaload O dX12_areWorks_15 e6 ?_
  refine g_icmp_ge O dX12_areWorks_16 rfl (fun c7 => ?_) (fun c7 => ?_)
  · replace h := (if_pos c7).symm.trans h
    refine g_sub [1] (lv' := [(1, vI x1)]) rfl ?_
    cases h
    exact K
  · replace h := (if_neg c7).symm.trans h
    refine g_iload_n O dX12_areWorks_19 rfl 1 rfl ?_
    refine g_if_eq O dX12_areWorks_20 rfl (fun c8 => ?_) (fun c8 => ?_)
    · replace h := (if_pos c8).symm.trans h
      refine g_sub [0, 2] (lv' := [(0, vA (some a0)), (2, vI x2)]) rfl ?_
      exact t_X12_areWorks_49 O R0 N hn a0 x2 σ o h K
    · replace h := (if_neg c8).symm.trans h
      refine g_aload_n O dX12_areWorks_23 rfl 0 rfl ?_
      refine g_aload_n O dX12_areWorks_24 rfl 0 rfl ?_
      obtain ⟨v9, e10, h⟩ := bo_some h
      refine g_getR O dX12_areWorks_25 fl_X12_7 rfl e10 ?_
      refine g_aload_n O dX12_areWorks_28 rfl 0 rfl ?_
      obtain ⟨v11, e12, h⟩ := bo_some h
      refine g_getI O dX12_areWorks_29 fl_X12_460 rfl e12 ?_
      refine g_iconst (v := (2 : Int32)) O dX12_areWorks_32 rfl ?_
      refine g_iadd O dX12_areWorks_33 ?_
      refine g_iconst (v := (2 : Int32)) O dX12_areWorks_34 rfl ?_
      refine g_iload_n O dX12_areWorks_35 rfl 2 rfl ?_
      refine g_imul O dX12_areWorks_36 ?_
      refine g_iadd O dX12_areWorks_37 ?_
      obtain ⟨v13, e14, h⟩ := bo_some h
      refine g_iaload O dX12_areWorks_38 e14 ?_
      obtain ⟨a15, e16, h⟩ := bo_some h
      obtain ⟨v17, e18, h⟩ := bo_some h
      refine g_cV1 O R0 N dX12_areWorks_39 vl_X12_226 vv_X12_isWork e16 [vI v13] rfl rfl rfl ⟨Nat.le_of_ble_eq_true rfl, Nat.le_of_ble_eq_true rfl⟩ (c_X12_isWork l0 a15 v13 σ v17 e18) ?_
      refine g_if_eq O dX12_areWorks_42 rfl (fun c19 => ?_) (fun c19 => ?_)
      · replace h := (if_pos c19).symm.trans h
        refine g_sub [0, 2] (lv' := [(0, vA (some a0)), (2, vI x2)]) rfl ?_
        exact t_X12_areWorks_49 O R0 N hn a0 x2 σ o h K
      · replace h := (if_neg c19).symm.trans h
        refine g_iconst (v := (1 : Int32)) O dX12_areWorks_45 rfl ?_
        refine g_goto O dX12_areWorks_46 rfl ?_
        refine g_sub [0, 2] (lv' := [(0, vA (some a0)), (2, vI x2)]) rfl ?_
        exact t_X12_areWorks_50 O R0 N hn a0 x2 (1 : Int32) σ o h K
def f_X12_areWorks (a0 : Nat) (σ : Dt) : Option Int32 := bo (iter FU (fun s => f_X12_areWorks_L4 a0 s.1 s.2 σ) ((1 : Int32), (0 : Int32))) fun w1 => if w1 = 0 ∨ w1 = 1 then some w1 else none
theorem t_X12_areWorks {M : Mx} {l0 : Launch} (O : Ok M cX12_areWorks yX12_areWorks) (R0 : Rm M l0 4 123 0 0) (N : Ma M = false) (hn : Mn M = 3) (a0 : Nat) (σ : Dt) (o : Int32) (h : f_X12_areWorks a0 σ = some o) (K : Fin' M (some .boolean) 0 0 SM σ (some (vI o))) : G M 0 0 0 [(0, vA (some a0))] [] SM σ := by
  unfold f_X12_areWorks at h
  refine g_iconst (v := (1 : Int32)) O dX12_areWorks_0 rfl ?_
  refine g_istore_n (lv' := [(1, vI (1 : Int32)), (0, vA (some a0))]) O dX12_areWorks_1 rfl 3 hn (by decide) rfl ?_
  refine g_iconst (v := (0 : Int32)) O dX12_areWorks_2 rfl ?_
  refine g_istore_n (lv' := [(2, vI (0 : Int32)), (1, vI (1 : Int32)), (0, vA (some a0))]) O dX12_areWorks_3 rfl 3 hn (by decide) rfl ?_
  refine g_sub [2, 1, 0] (lv' := [(0, vA (some a0)), (1, vI (1 : Int32)), (2, vI (0 : Int32))]) rfl ?_
  obtain ⟨w1, e2, h⟩ := bo_some h
  refine iter_G (P := P_X12_areWorks_4 M a0 σ) (E := E_X12_areWorks_4 M a0 σ) (fun s o hb hk => t_X12_areWorks_L4 O R0 N hn a0 s.1 s.2 σ o hb hk) FU ((1 : Int32), (0 : Int32)) w1 e2 ?_
  show G M 0 0 57 [(1, vI w1)] [] SM σ
  refine g_iload_n O dX12_areWorks_57 rfl 0 rfl ?_
  by_cases c3 : w1 = 0 ∨ w1 = 1
  · replace h := (if_pos c3).symm.trans h
    cases h
    exact g_zreturn O c3 K dX12_areWorks_58
  · rw [if_neg c3] at h; cases h
theorem c_X12_areWorks (l0 : Launch) (a0 : Nat) (σ : Dt) (r : Int32) (h : f_X12_areWorks a0 σ = some r) : Ctr l0 yX12_areWorks cX12_areWorks 3 (some .boolean) false 4 123 0 0 [vA (some a0)] SM σ SM σ (some (vI r)) := ctr_of (by decide) (Nat.le_of_ble_eq_true rfl) (fun M O F R0 N hn => t_X12_areWorks O R0 N hn a0 σ r h F)
def P_X12_lasts_16 (M : Mx) (a0 : Nat) (x3 : Int32) (s : (Int32 × Dt)) : Prop := G M 0 0 16 [(0, vA (some a0)), (3, vI x3), (4, vI s.1)] [] SM s.2
def E_X12_lasts_16 (M : Mx) (a0 : Nat) (x3 : Int32) : Dt → Prop := (fun w => G M 0 0 33 [] [] SM w)
def f_X12_lasts_L16 (a0 : Nat) (x3 : Int32) (x4 : Int32) (σ : Dt) : Option ((Int32 × Dt) ⊕ Dt) := if x3 ≤ x4 then some (.inr σ) else bo (xrc SM 12 (some a0)) fun a2 => bd (f_X12_yearGoes a2 σ) fun v4 σ5 => some (.inl ((x4 + (1 : Int32)), σ5))
theorem t_X12_lasts_L16 {M : Mx} {l0 : Launch} (O : Ok M cX12_lasts yX12_lasts) (R0 : Rm M l0 7 193 0 0) (N : Ma M = false) (hn : Mn M = 5) (a0 : Nat) (x3 : Int32) (x4 : Int32) (σ : Dt) (o : ((Int32 × Dt) ⊕ Dt)) (h : f_X12_lasts_L16 a0 x3 x4 σ = some o) (K : kon (P_X12_lasts_16 M a0 x3) (E_X12_lasts_16 M a0 x3) o) : G M 0 0 16 [(0, vA (some a0)), (3, vI x3), (4, vI x4)] [] SM σ := by
  unfold f_X12_lasts_L16 at h
  refine g_iload O dX12_lasts_16 2 rfl ?_
  refine g_iload_n O dX12_lasts_18 rfl 1 rfl ?_
  refine g_icmp_ge O dX12_lasts_19 rfl (fun c1 => ?_) (fun c1 => ?_)
  · replace h := (if_pos c1).symm.trans h
    refine g_sub [] (lv' := []) rfl ?_
    cases h
    exact K
  · replace h := (if_neg c1).symm.trans h
    refine g_aload_n O dX12_lasts_22 rfl 0 rfl ?_
    obtain ⟨a2, e3, h⟩ := bo_some h
    obtain ⟨v4, σ5, e6, h⟩ := bd_some h
    refine g_cV1 O R0 N dX12_lasts_23 vl_X12_432 vv_X12_yearGoes e3 [] rfl rfl rfl ⟨Nat.le_of_ble_eq_true rfl, Nat.le_of_ble_eq_true rfl⟩ (c_X12_yearGoes l0 a2 σ v4 σ5 e6) ?_
    refine g_pop O dX12_lasts_26 rfl ?_
    refine g_iinc (v := (x4 + (1 : Int32))) (lv' := [(4, vI (x4 + (1 : Int32))), (0, vA (some a0)), (3, vI x3)]) O dX12_lasts_27 5 hn (by decide) 2 rfl rfl rfl ?_
    refine g_goto O dX12_lasts_30 rfl ?_
    refine g_sub [1, 2, 0] (lv' := [(0, vA (some a0)), (3, vI x3), (4, vI (x4 + (1 : Int32)))]) rfl ?_
    cases h
    exact K
def f_X12_lasts (a0 : Nat) (x1 : Int32) (x2 : Int32) (x3 : Int32) (σ : Dt) : Option (Unit × Dt) := bo (xrc SM 12 (some a0)) fun a1 => bd (f_X12_begins a1 σ) fun v3 σ4 => bo (xrc SM 12 (some a0)) fun a6 => bd (f_X12_promises a6 x1 x2 (9 : Int32) σ4) fun v8 σ9 => bo (iter FU (fun s => f_X12_lasts_L16 a0 x3 s.1 s.2) ((0 : Int32), σ9)) fun w11 => some ((), w11)
theorem t_X12_lasts {M : Mx} {l0 : Launch} (O : Ok M cX12_lasts yX12_lasts) (R0 : Rm M l0 7 193 0 0) (N : Ma M = false) (hn : Mn M = 5) (a0 : Nat) (x1 : Int32) (x2 : Int32) (x3 : Int32) (σ : Dt) (o : (Unit × Dt)) (h : f_X12_lasts a0 x1 x2 x3 σ = some o) (K : Fin' M (none) 0 0 SM o.2 (none)) : G M 0 0 0 [(0, vA (some a0)), (1, vI x1), (2, vI x2), (3, vI x3)] [] SM σ := by
  unfold f_X12_lasts at h
  refine g_aload_n O dX12_lasts_0 rfl 0 rfl ?_
  obtain ⟨a1, e2, h⟩ := bo_some h
  obtain ⟨v3, σ4, e5, h⟩ := bd_some h
  refine g_cV0 O R0 N dX12_lasts_1 vl_X12_439 vv_X12_begins e2 [] rfl rfl rfl ⟨Nat.le_of_ble_eq_true rfl, Nat.le_of_ble_eq_true rfl⟩ (c_X12_begins l0 a1 σ v3 σ4 e5) ?_
  refine g_aload_n O dX12_lasts_4 rfl 0 rfl ?_
  refine g_iload_n O dX12_lasts_5 rfl 1 rfl ?_
  refine g_iload_n O dX12_lasts_6 rfl 2 rfl ?_
  refine g_bipush (v := (9 : Int32)) O dX12_lasts_7 rfl ?_
  obtain ⟨a6, e7, h⟩ := bo_some h
  obtain ⟨v8, σ9, e10, h⟩ := bd_some h
  refine g_cV1 O R0 N dX12_lasts_9 vl_X12_420 vv_X12_promises e7 [vI x1, vI x2, vI (9 : Int32)] rfl rfl rfl ⟨Nat.le_of_ble_eq_true rfl, Nat.le_of_ble_eq_true rfl⟩ (c_X12_promises l0 a6 x1 x2 (9 : Int32) σ4 v8 σ9 e10) ?_
  refine g_pop O dX12_lasts_12 rfl ?_
  refine g_iconst (v := (0 : Int32)) O dX12_lasts_13 rfl ?_
  refine g_istore (lv' := [(4, vI (0 : Int32)), (0, vA (some a0)), (1, vI x1), (2, vI x2), (3, vI x3)]) O dX12_lasts_14 5 hn (by decide) rfl ?_
  refine g_sub [1, 4, 0] (lv' := [(0, vA (some a0)), (3, vI x3), (4, vI (0 : Int32))]) rfl ?_
  obtain ⟨w11, e12, h⟩ := bo_some h
  refine iter_G (P := P_X12_lasts_16 M a0 x3) (E := E_X12_lasts_16 M a0 x3) (fun s o hb hk => t_X12_lasts_L16 O R0 N hn a0 x3 s.1 s.2 o hb hk) FU ((0 : Int32), σ9) w11 e12 ?_
  show G M 0 0 33 [] [] SM w11
  cases h
  exact g_return O K dX12_lasts_33
theorem c_X12_lasts (l0 : Launch) (a0 : Nat) (x1 : Int32) (x2 : Int32) (x3 : Int32) (σ : Dt) (r : Unit) (σ' : Dt) (h : f_X12_lasts a0 x1 x2 x3 σ = some (r, σ')) : Ctr l0 yX12_lasts cX12_lasts 5 (none) false 7 193 0 0 [vA (some a0), vI x1, vI x2, vI x3] SM σ SM σ' (none) := ctr_of (by decide) (Nat.le_of_ble_eq_true rfl) (fun M O F R0 N hn => t_X12_lasts O R0 N hn a0 x1 x2 x3 σ (r, σ') h F)
def P_X12_isSo_57 (M : Mx) (a0 : Nat) (σ : Dt) (s : (Int32 × Int32)) : Prop := G M 0 0 57 [(0, vA (some a0)), (3, vI s.1), (4, vI s.2)] [] SM σ
def E_X12_isSo_57 (M : Mx) (a0 : Nat) (σ : Dt) : Int32 → Prop := (fun w => G M 0 0 129 [(3, vI w)] [] SM σ)
def f_X12_isSo_122 (a0 : Nat) (x4 : Int32) (k0 : Int32) (σ : Dt) : Option ((Int32 × Int32) ⊕ Int32) := some (.inl (k0, (x4 + (1 : Int32))))
theorem t_X12_isSo_122 {M : Mx} {l0 : Launch} (O : Ok M cX12_isSo yX12_isSo) (R0 : Rm M l0 8 217 0 0) (N : Ma M = false) (hn : Mn M = 5)  (a0 : Nat) (x4 : Int32) (k0 : Int32) (σ : Dt) (o : ((Int32 × Int32) ⊕ Int32)) (h : f_X12_isSo_122 a0 x4 k0 σ = some o) (K : kon (P_X12_isSo_57 M a0 σ) (E_X12_isSo_57 M a0 σ) o) : G M 0 0 122 [(0, vA (some a0)), (4, vI x4)] [vI k0] SM σ := by
  unfold f_X12_isSo_122 at h
  refine g_istore_n (lv' := [(3, vI k0), (0, vA (some a0)), (4, vI x4)]) O dX12_isSo_122 rfl 5 hn (by decide) rfl ?_
  refine g_iinc (v := (x4 + (1 : Int32))) (lv' := [(4, vI (x4 + (1 : Int32))), (3, vI k0), (0, vA (some a0))]) O dX12_isSo_123 5 hn (by decide) 2 rfl rfl rfl ?_
  refine g_goto O dX12_isSo_126 rfl ?_
  refine g_sub [2, 1, 0] (lv' := [(0, vA (some a0)), (3, vI k0), (4, vI (x4 + (1 : Int32)))]) rfl ?_
  cases h
  exact K
def f_X12_isSo_121 (a0 : Nat) (x4 : Int32) (σ : Dt) : Option ((Int32 × Int32) ⊕ Int32) := f_X12_isSo_122 a0 x4 (0 : Int32) σ
theorem t_X12_isSo_121 {M : Mx} {l0 : Launch} (O : Ok M cX12_isSo yX12_isSo) (R0 : Rm M l0 8 217 0 0) (N : Ma M = false) (hn : Mn M = 5)  (a0 : Nat) (x4 : Int32) (σ : Dt) (o : ((Int32 × Int32) ⊕ Int32)) (h : f_X12_isSo_121 a0 x4 σ = some o) (K : kon (P_X12_isSo_57 M a0 σ) (E_X12_isSo_57 M a0 σ) o) : G M 0 0 121 [(0, vA (some a0)), (4, vI x4)] [] SM σ := by
  unfold f_X12_isSo_121 at h
  refine g_iconst (v := (0 : Int32)) O dX12_isSo_121 rfl ?_
  exact t_X12_isSo_122 O R0 N hn a0 x4 (0 : Int32) σ o h K
def f_X12_isSo_L57 (a0 : Nat) (x3 : Int32) (x4 : Int32) (σ : Dt) : Option ((Int32 × Int32) ⊕ Int32) := bo (xgr SM 12 0 (some a0) σ) fun v1 => bo (xgi SM 12 45 (some a0) σ) fun v3 => bo (xai SM v1 (v3 + (1 : Int32)) σ) fun v5 => if v5 ≤ x4 then some (.inr x3) else if x3 = 0 then f_X12_isSo_121 a0 x4 σ else bo (xgr SM 12 40 (some a0) σ) fun v9 => bo (xgr SM 12 0 (some a0) σ) fun v11 => bo (xgi SM 12 45 (some a0) σ) fun v13 => bo (xai SM v11 ((v13 + (2 : Int32)) + ((2 : Int32) * x4)) σ) fun v15 => bo (xai SM v9 v15 σ) fun v17 => bo (xgr SM 12 0 (some a0) σ) fun v19 => bo (xgi SM 12 45 (some a0) σ) fun v21 => bo (xai SM v19 ((v21 + (3 : Int32)) + ((2 : Int32) * x4)) σ) fun v23 => if v17 = v23 then f_X12_isSo_122 a0 x4 (1 : Int32) σ else f_X12_isSo_121 a0 x4 σ
theorem t_X12_isSo_L57 {M : Mx} {l0 : Launch} (O : Ok M cX12_isSo yX12_isSo) (R0 : Rm M l0 8 217 0 0) (N : Ma M = false) (hn : Mn M = 5) (a0 : Nat) (x3 : Int32) (x4 : Int32) (σ : Dt) (o : ((Int32 × Int32) ⊕ Int32)) (h : f_X12_isSo_L57 a0 x3 x4 σ = some o) (K : kon (P_X12_isSo_57 M a0 σ) (E_X12_isSo_57 M a0 σ) o) : G M 0 0 57 [(0, vA (some a0)), (3, vI x3), (4, vI x4)] [] SM σ := by
  unfold f_X12_isSo_L57 at h
  refine g_iload O dX12_isSo_57 2 rfl ?_
  refine g_aload_n O dX12_isSo_59 rfl 0 rfl ?_
  obtain ⟨v1, e2, h⟩ := bo_some h
  refine g_getR O dX12_isSo_60 fl_X12_7 rfl e2 ?_
  refine g_aload_n O dX12_isSo_63 rfl 0 rfl ?_
  obtain ⟨v3, e4, h⟩ := bo_some h
  refine g_getI O dX12_isSo_64 fl_X12_460 rfl e4 ?_
  refine g_iconst (v := (1 : Int32)) O dX12_isSo_67 rfl ?_
  refine g_iadd O dX12_isSo_68 ?_
  obtain ⟨v5, e6, h⟩ := bo_some h
  refine g_iaload O dX12_isSo_69 e6 ?_
  refine g_icmp_ge O dX12_isSo_70 rfl (fun c7 => ?_) (fun c7 => ?_)
  · replace h := (if_pos c7).symm.trans h
    refine g_sub [1] (lv' := [(3, vI x3)]) rfl ?_
    cases h
    exact K
  · replace h := (if_neg c7).symm.trans h
    refine g_iload_n O dX12_isSo_73 rfl 1 rfl ?_
    refine g_if_eq O dX12_isSo_74 rfl (fun c8 => ?_) (fun c8 => ?_)
    · replace h := (if_pos c8).symm.trans h
      refine g_sub [0, 2] (lv' := [(0, vA (some a0)), (4, vI x4)]) rfl ?_
      exact t_X12_isSo_121 O R0 N hn a0 x4 σ o h K
    · replace h := (if_neg c8).symm.trans h
      refine g_aload_n O dX12_isSo_77 rfl 0 rfl ?_
      obtain ⟨v9, e10, h⟩ := bo_some h
      refine g_getR O dX12_isSo_78 fl_X12_73 rfl e10 ?_
      refine g_aload_n O dX12_isSo_81 rfl 0 rfl ?_
      obtain ⟨v11, e12, h⟩ := bo_some h
      refine g_getR O dX12_isSo_82 fl_X12_7 rfl e12 ?_
      refine g_aload_n O dX12_isSo_85 rfl 0 rfl ?_
      obtain ⟨v13, e14, h⟩ := bo_some h
      refine g_getI O dX12_isSo_86 fl_X12_460 rfl e14 ?_
      refine g_iconst (v := (2 : Int32)) O dX12_isSo_89 rfl ?_
      refine g_iadd O dX12_isSo_90 ?_
      refine g_iconst (v := (2 : Int32)) O dX12_isSo_91 rfl ?_
      refine g_iload O dX12_isSo_92 2 rfl ?_
      refine g_imul O dX12_isSo_94 ?_
      refine g_iadd O dX12_isSo_95 ?_
      obtain ⟨v15, e16, h⟩ := bo_some h
      refine g_iaload O dX12_isSo_96 e16 ?_
      obtain ⟨v17, e18, h⟩ := bo_some h
      refine g_iaload O dX12_isSo_97 e18 ?_
      refine g_aload_n O dX12_isSo_98 rfl 0 rfl ?_
      obtain ⟨v19, e20, h⟩ := bo_some h
      refine g_getR O dX12_isSo_99 fl_X12_7 rfl e20 ?_
      refine g_aload_n O dX12_isSo_102 rfl 0 rfl ?_
      obtain ⟨v21, e22, h⟩ := bo_some h
      refine g_getI O dX12_isSo_103 fl_X12_460 rfl e22 ?_
      refine g_iconst (v := (3 : Int32)) O dX12_isSo_106 rfl ?_
      refine g_iadd O dX12_isSo_107 ?_
      refine g_iconst (v := (2 : Int32)) O dX12_isSo_108 rfl ?_
      refine g_iload O dX12_isSo_109 2 rfl ?_
      refine g_imul O dX12_isSo_111 ?_
      refine g_iadd O dX12_isSo_112 ?_
      obtain ⟨v23, e24, h⟩ := bo_some h
      refine g_iaload O dX12_isSo_113 e24 ?_
      refine g_icmp_ne O dX12_isSo_114 rfl (fun c25 => ?_) (fun c25 => ?_)
      · replace h := (if_pos c25).symm.trans h
        refine g_iconst (v := (1 : Int32)) O dX12_isSo_117 rfl ?_
        refine g_goto O dX12_isSo_118 rfl ?_
        refine g_sub [0, 2] (lv' := [(0, vA (some a0)), (4, vI x4)]) rfl ?_
        exact t_X12_isSo_122 O R0 N hn a0 x4 (1 : Int32) σ o h K
      · replace h := (if_neg c25).symm.trans h
        refine g_sub [0, 2] (lv' := [(0, vA (some a0)), (4, vI x4)]) rfl ?_
        exact t_X12_isSo_121 O R0 N hn a0 x4 σ o h K
def f_X12_isSo (a0 : Nat) (x1 : Int32) (σ : Dt) : Option (Int32 × Dt) := bo (xrc SM 12 (some a0)) fun a1 => bo (f_X12_isFolk a1 (x1 / (10 : Int32)) σ) fun v3 => if v3 = 0 then some ((0 : Int32), σ) else bo (xrc SM 12 (some a0)) fun a6 => bo (f_X12_isWork a6 (x1 - x1 / (10 : Int32) * (10 : Int32)) σ) fun v8 => if v8 = 0 then some ((0 : Int32), σ) else bo (xrc SM 12 (some a0)) fun a11 => bo (f_X12_isSmall a11 (x1 / (10 : Int32)) σ) fun v13 => if v13 = 0 then some ((0 : Int32), σ) else bo (xgr SM 12 0 (some a0) σ) fun v16 => bo (xgi SM 12 45 (some a0) σ) fun v18 => bo (xai SM v16 v18 σ) fun v20 => bo (xrc SM 12 (some a0)) fun a22 => bd (f_X12_lasts a22 (x1 / (10 : Int32)) (x1 - x1 / (10 : Int32) * (10 : Int32)) v20 σ) fun v24 σ25 => bo (iter FU (fun s => f_X12_isSo_L57 a0 s.1 s.2 σ25) ((1 : Int32), (0 : Int32))) fun w27 => if w27 = 0 ∨ w27 = 1 then some (w27, σ25) else none
theorem t_X12_isSo {M : Mx} {l0 : Launch} (O : Ok M cX12_isSo yX12_isSo) (R0 : Rm M l0 8 217 0 0) (N : Ma M = false) (hn : Mn M = 5) (a0 : Nat) (x1 : Int32) (σ : Dt) (o : (Int32 × Dt)) (h : f_X12_isSo a0 x1 σ = some o) (K : Fin' M (some .boolean) 0 0 SM o.2 (some (vI o.1))) : G M 0 0 0 [(0, vA (some a0)), (1, vI x1)] [] SM σ := by
  unfold f_X12_isSo at h
  refine g_iload_n O dX12_isSo_0 rfl 1 rfl ?_
  refine g_bipush (v := (10 : Int32)) O dX12_isSo_1 rfl ?_
  refine g_idiv O dX12_isSo_3 (by decide) ?_
  refine g_istore_n (lv' := [(2, vI (x1 / (10 : Int32))), (0, vA (some a0)), (1, vI x1)]) O dX12_isSo_4 rfl 5 hn (by decide) rfl ?_
  refine g_aload_n O dX12_isSo_5 rfl 1 rfl ?_
  refine g_iload_n O dX12_isSo_6 rfl 0 rfl ?_
  obtain ⟨a1, e2, h⟩ := bo_some h
  obtain ⟨v3, e4, h⟩ := bo_some h
  refine g_cV1 O R0 N dX12_isSo_7 vl_X12_223 vv_X12_isFolk e2 [vI (x1 / (10 : Int32))] rfl rfl rfl ⟨Nat.le_of_ble_eq_true rfl, Nat.le_of_ble_eq_true rfl⟩ (c_X12_isFolk l0 a1 (x1 / (10 : Int32)) σ v3 e4) ?_
  refine g_if_eq O dX12_isSo_10 rfl (fun c5 => ?_) (fun c5 => ?_)
  · replace h := (if_pos c5).symm.trans h
    refine g_iconst (v := (0 : Int32)) O dX12_isSo_32 rfl ?_
    cases h
    exact g_zreturn O (by decide) K dX12_isSo_33
  · replace h := (if_neg c5).symm.trans h
    refine g_aload_n O dX12_isSo_13 rfl 1 rfl ?_
    refine g_iload_n O dX12_isSo_14 rfl 2 rfl ?_
    refine g_bipush (v := (10 : Int32)) O dX12_isSo_15 rfl ?_
    refine g_irem O dX12_isSo_17 (by decide) ?_
    obtain ⟨a6, e7, h⟩ := bo_some h
    obtain ⟨v8, e9, h⟩ := bo_some h
    refine g_cV1 O R0 N dX12_isSo_18 vl_X12_226 vv_X12_isWork e7 [vI (x1 - x1 / (10 : Int32) * (10 : Int32))] rfl rfl rfl ⟨Nat.le_of_ble_eq_true rfl, Nat.le_of_ble_eq_true rfl⟩ (c_X12_isWork l0 a6 (x1 - x1 / (10 : Int32) * (10 : Int32)) σ v8 e9) ?_
    refine g_if_eq O dX12_isSo_21 rfl (fun c10 => ?_) (fun c10 => ?_)
    · replace h := (if_pos c10).symm.trans h
      refine g_iconst (v := (0 : Int32)) O dX12_isSo_32 rfl ?_
      cases h
      exact g_zreturn O (by decide) K dX12_isSo_33
    · replace h := (if_neg c10).symm.trans h
      refine g_aload_n O dX12_isSo_24 rfl 1 rfl ?_
      refine g_iload_n O dX12_isSo_25 rfl 0 rfl ?_
      obtain ⟨a11, e12, h⟩ := bo_some h
      obtain ⟨v13, e14, h⟩ := bo_some h
      refine g_cV1 O R0 N dX12_isSo_26 vl_X12_241 vv_X12_isSmall e12 [vI (x1 / (10 : Int32))] rfl rfl rfl ⟨Nat.le_of_ble_eq_true rfl, Nat.le_of_ble_eq_true rfl⟩ (c_X12_isSmall l0 a11 (x1 / (10 : Int32)) σ v13 e14) ?_
      refine g_if_ne O dX12_isSo_29 rfl (fun c15 => ?_) (fun c15 => ?_)
      · replace h := (if_pos c15).symm.trans h
        refine g_iconst (v := (0 : Int32)) O dX12_isSo_32 rfl ?_
        cases h
        exact g_zreturn O (by decide) K dX12_isSo_33
      · replace h := (if_neg c15).symm.trans h
        refine g_aload_n O dX12_isSo_34 rfl 1 rfl ?_
        refine g_iload_n O dX12_isSo_35 rfl 0 rfl ?_
        refine g_iload_n O dX12_isSo_36 rfl 2 rfl ?_
        refine g_bipush (v := (10 : Int32)) O dX12_isSo_37 rfl ?_
        refine g_irem O dX12_isSo_39 (by decide) ?_
        refine g_aload_n O dX12_isSo_40 rfl 1 rfl ?_
        obtain ⟨v16, e17, h⟩ := bo_some h
        refine g_getR O dX12_isSo_41 fl_X12_7 rfl e17 ?_
        refine g_aload_n O dX12_isSo_44 rfl 1 rfl ?_
        obtain ⟨v18, e19, h⟩ := bo_some h
        refine g_getI O dX12_isSo_45 fl_X12_460 rfl e19 ?_
        obtain ⟨v20, e21, h⟩ := bo_some h
        refine g_iaload O dX12_isSo_48 e21 ?_
        obtain ⟨a22, e23, h⟩ := bo_some h
        obtain ⟨v24, σ25, e26, h⟩ := bd_some h
        refine g_cV0 O R0 N dX12_isSo_49 vl_X12_466 vv_X12_lasts e23 [vI (x1 / (10 : Int32)), vI (x1 - x1 / (10 : Int32) * (10 : Int32)), vI v20] rfl rfl rfl ⟨Nat.le_of_ble_eq_true rfl, Nat.le_of_ble_eq_true rfl⟩ (c_X12_lasts l0 a22 (x1 / (10 : Int32)) (x1 - x1 / (10 : Int32) * (10 : Int32)) v20 σ v24 σ25 e26) ?_
        refine g_iconst (v := (1 : Int32)) O dX12_isSo_52 rfl ?_
        refine g_istore_n (lv' := [(3, vI (1 : Int32)), (2, vI (x1 / (10 : Int32))), (0, vA (some a0)), (1, vI x1)]) O dX12_isSo_53 rfl 5 hn (by decide) rfl ?_
        refine g_iconst (v := (0 : Int32)) O dX12_isSo_54 rfl ?_
        refine g_istore (lv' := [(4, vI (0 : Int32)), (3, vI (1 : Int32)), (2, vI (x1 / (10 : Int32))), (0, vA (some a0)), (1, vI x1)]) O dX12_isSo_55 5 hn (by decide) rfl ?_
        refine g_sub [3, 1, 0] (lv' := [(0, vA (some a0)), (3, vI (1 : Int32)), (4, vI (0 : Int32))]) rfl ?_
        obtain ⟨w27, e28, h⟩ := bo_some h
        refine iter_G (P := P_X12_isSo_57 M a0 σ25) (E := E_X12_isSo_57 M a0 σ25) (fun s o hb hk => t_X12_isSo_L57 O R0 N hn a0 s.1 s.2 σ25 o hb hk) FU ((1 : Int32), (0 : Int32)) w27 e28 ?_
        show G M 0 0 129 [(3, vI w27)] [] SM σ25
        refine g_iload_n O dX12_isSo_129 rfl 0 rfl ?_
        by_cases c29 : w27 = 0 ∨ w27 = 1
        · replace h := (if_pos c29).symm.trans h
          cases h
          exact g_zreturn O c29 K dX12_isSo_130
        · rw [if_neg c29] at h; cases h
theorem c_X12_isSo (l0 : Launch) (a0 : Nat) (x1 : Int32) (σ : Dt) (r : Int32) (σ' : Dt) (h : f_X12_isSo a0 x1 σ = some (r, σ')) : Ctr l0 yX12_isSo cX12_isSo 5 (some .boolean) false 8 217 0 0 [vA (some a0), vI x1] SM σ SM σ' (some (vI r)) := ctr_of (by decide) (Nat.le_of_ble_eq_true rfl) (fun M O F R0 N hn => t_X12_isSo O R0 N hn a0 x1 σ (r, σ') h F)
def P_X12_nextFit_4 (M : Mx) (a0 : Nat) (s : (Int32 × Dt)) : Prop := G M 0 0 4 [(0, vA (some a0)), (2, vI s.1)] [] SM s.2
def E_X12_nextFit_4 (M : Mx) (a0 : Nat) : (Int32 × Dt) → Prop := (fun w => G M 0 0 24 [(2, vI w.1)] [] SM w.2)
def f_X12_nextFit_L4 (a0 : Nat) (x2 : Int32) (σ : Dt) : Option ((Int32 × Dt) ⊕ (Int32 × Dt)) := if (100 : Int32) ≤ x2 then some (.inr (x2, σ)) else bo (xrc SM 12 (some a0)) fun a2 => bd (f_X12_isSo a2 x2 σ) fun v4 σ5 => if v4 = 0 then some (.inl ((x2 + (1 : Int32)), σ5)) else some (.inr (x2, σ5))
theorem t_X12_nextFit_L4 {M : Mx} {l0 : Launch} (O : Ok M cX12_nextFit yX12_nextFit) (R0 : Rm M l0 9 241 0 0) (N : Ma M = false) (hn : Mn M = 3) (a0 : Nat) (x2 : Int32) (σ : Dt) (o : ((Int32 × Dt) ⊕ (Int32 × Dt))) (h : f_X12_nextFit_L4 a0 x2 σ = some o) (K : kon (P_X12_nextFit_4 M a0) (E_X12_nextFit_4 M a0) o) : G M 0 0 4 [(0, vA (some a0)), (2, vI x2)] [] SM σ := by
  unfold f_X12_nextFit_L4 at h
  refine g_iload_n O dX12_nextFit_4 rfl 1 rfl ?_
  refine g_bipush (v := (100 : Int32)) O dX12_nextFit_5 rfl ?_
  refine g_icmp_ge O dX12_nextFit_7 rfl (fun c1 => ?_) (fun c1 => ?_)
  · replace h := (if_pos c1).symm.trans h
    refine g_sub [1] (lv' := [(2, vI x2)]) rfl ?_
    cases h
    exact K
  · replace h := (if_neg c1).symm.trans h
    refine g_aload_n O dX12_nextFit_10 rfl 0 rfl ?_
    refine g_iload_n O dX12_nextFit_11 rfl 1 rfl ?_
    obtain ⟨a2, e3, h⟩ := bo_some h
    obtain ⟨v4, σ5, e6, h⟩ := bd_some h
    refine g_cV1 O R0 N dX12_nextFit_12 vl_X12_469 vv_X12_isSo e3 [vI x2] rfl rfl rfl ⟨Nat.le_of_ble_eq_true rfl, Nat.le_of_ble_eq_true rfl⟩ (c_X12_isSo l0 a2 x2 σ v4 σ5 e6) ?_
    refine g_if_ne O dX12_nextFit_15 rfl (fun c7 => ?_) (fun c7 => ?_)
    · replace h := (if_pos c7).symm.trans h
      refine g_iinc (v := (x2 + (1 : Int32))) (lv' := [(2, vI (x2 + (1 : Int32))), (0, vA (some a0))]) O dX12_nextFit_18 3 hn (by decide) 1 rfl rfl rfl ?_
      refine g_goto O dX12_nextFit_21 rfl ?_
      refine g_sub [1, 0] (lv' := [(0, vA (some a0)), (2, vI (x2 + (1 : Int32)))]) rfl ?_
      cases h
      exact K
    · replace h := (if_neg c7).symm.trans h
      refine g_sub [1] (lv' := [(2, vI x2)]) rfl ?_
      cases h
      exact K
def f_X12_nextFit_24 (x2 : Int32) (σ : Dt) : Option (Int32 × Dt) := if (100 : Int32) ≤ x2 then some ((-1 : Int32), σ) else some (x2, σ)
theorem t_X12_nextFit_24 {M : Mx} {l0 : Launch} (O : Ok M cX12_nextFit yX12_nextFit) (R0 : Rm M l0 9 241 0 0) (N : Ma M = false) (hn : Mn M = 3)  (x2 : Int32) (σ : Dt) (o : (Int32 × Dt)) (h : f_X12_nextFit_24 x2 σ = some o) (K : Fin' M (some .int) 0 0 SM o.2 (some (vI o.1))) : G M 0 0 24 [(2, vI x2)] [] SM σ := by
  unfold f_X12_nextFit_24 at h
  refine g_iload_n O dX12_nextFit_24 rfl 0 rfl ?_
  refine g_bipush (v := (100 : Int32)) O dX12_nextFit_25 rfl ?_
  refine g_icmp_ge O dX12_nextFit_27 rfl (fun c1 => ?_) (fun c1 => ?_)
  · replace h := (if_pos c1).symm.trans h
    refine g_iconst (v := (-1 : Int32)) O dX12_nextFit_34 rfl ?_
    cases h
    exact g_ireturn O K dX12_nextFit_35
  · replace h := (if_neg c1).symm.trans h
    refine g_iload_n O dX12_nextFit_30 rfl 0 rfl ?_
    refine g_goto O dX12_nextFit_31 rfl ?_
    cases h
    exact g_ireturn O K dX12_nextFit_35
def f_X12_nextFit (a0 : Nat) (x1 : Int32) (σ : Dt) : Option (Int32 × Dt) := bo (iter FU (fun s => f_X12_nextFit_L4 a0 s.1 s.2) ((x1 + (1 : Int32)), σ)) fun w1 => f_X12_nextFit_24 w1.1 w1.2
theorem t_X12_nextFit {M : Mx} {l0 : Launch} (O : Ok M cX12_nextFit yX12_nextFit) (R0 : Rm M l0 9 241 0 0) (N : Ma M = false) (hn : Mn M = 3) (a0 : Nat) (x1 : Int32) (σ : Dt) (o : (Int32 × Dt)) (h : f_X12_nextFit a0 x1 σ = some o) (K : Fin' M (some .int) 0 0 SM o.2 (some (vI o.1))) : G M 0 0 0 [(0, vA (some a0)), (1, vI x1)] [] SM σ := by
  unfold f_X12_nextFit at h
  refine g_iload_n O dX12_nextFit_0 rfl 1 rfl ?_
  refine g_iconst (v := (1 : Int32)) O dX12_nextFit_1 rfl ?_
  refine g_iadd O dX12_nextFit_2 ?_
  refine g_istore_n (lv' := [(2, vI (x1 + (1 : Int32))), (0, vA (some a0)), (1, vI x1)]) O dX12_nextFit_3 rfl 3 hn (by decide) rfl ?_
  refine g_sub [1, 0] (lv' := [(0, vA (some a0)), (2, vI (x1 + (1 : Int32)))]) rfl ?_
  obtain ⟨w1, e2, h⟩ := bo_some h
  refine iter_G (P := P_X12_nextFit_4 M a0) (E := E_X12_nextFit_4 M a0) (fun s o hb hk => t_X12_nextFit_L4 O R0 N hn a0 s.1 s.2 o hb hk) FU ((x1 + (1 : Int32)), σ) w1 e2 ?_
  show G M 0 0 24 [(2, vI w1.1)] [] SM w1.2
  exact t_X12_nextFit_24 O R0 N hn w1.1 w1.2 o h K
theorem c_X12_nextFit (l0 : Launch) (a0 : Nat) (x1 : Int32) (σ : Dt) (r : Int32) (σ' : Dt) (h : f_X12_nextFit a0 x1 σ = some (r, σ')) : Ctr l0 yX12_nextFit cX12_nextFit 3 (some .int) false 9 241 0 0 [vA (some a0), vI x1] SM σ SM σ' (some (vI r)) := ctr_of (by decide) (Nat.le_of_ble_eq_true rfl) (fun M O F R0 N hn => t_X12_nextFit O R0 N hn a0 x1 σ (r, σ') h F)
def P_X12_manyFit_8 (M : Mx) (a0 : Nat) (s : (Int32 × Int32 × Dt)) : Prop := G M 0 0 8 [(0, vA (some a0)), (1, vI s.1), (2, vI s.2.1)] [] SM s.2.2
def E_X12_manyFit_8 (M : Mx) (a0 : Nat) : (Int32 × Dt) → Prop := (fun w => G M 0 0 25 [(1, vI w.1)] [] SM w.2)
def f_X12_manyFit_L8 (a0 : Nat) (x1 : Int32) (x2 : Int32) (σ : Dt) : Option ((Int32 × Int32 × Dt) ⊕ (Int32 × Dt)) := if x2 = (-1 : Int32) then some (.inr (x1, σ)) else bo (xrc SM 12 (some a0)) fun a2 => bd (f_X12_nextFit a2 x2 σ) fun v4 σ5 => some (.inl ((x1 + (1 : Int32)), v4, σ5))
theorem t_X12_manyFit_L8 {M : Mx} {l0 : Launch} (O : Ok M cX12_manyFit yX12_manyFit) (R0 : Rm M l0 10 263 0 0) (N : Ma M = false) (hn : Mn M = 3) (a0 : Nat) (x1 : Int32) (x2 : Int32) (σ : Dt) (o : ((Int32 × Int32 × Dt) ⊕ (Int32 × Dt))) (h : f_X12_manyFit_L8 a0 x1 x2 σ = some o) (K : kon (P_X12_manyFit_8 M a0) (E_X12_manyFit_8 M a0) o) : G M 0 0 8 [(0, vA (some a0)), (1, vI x1), (2, vI x2)] [] SM σ := by
  unfold f_X12_manyFit_L8 at h
  refine g_iload_n O dX12_manyFit_8 rfl 2 rfl ?_
  refine g_iconst (v := (-1 : Int32)) O dX12_manyFit_9 rfl ?_
  refine g_icmp_eq O dX12_manyFit_10 rfl (fun c1 => ?_) (fun c1 => ?_)
  · replace h := (if_pos c1).symm.trans h
    refine g_sub [1] (lv' := [(1, vI x1)]) rfl ?_
    cases h
    exact K
  · replace h := (if_neg c1).symm.trans h
    refine g_iinc (v := (x1 + (1 : Int32))) (lv' := [(1, vI (x1 + (1 : Int32))), (0, vA (some a0)), (2, vI x2)]) O dX12_manyFit_13 3 hn (by decide) 1 rfl rfl rfl ?_
    refine g_aload_n O dX12_manyFit_16 rfl 1 rfl ?_
    refine g_iload_n O dX12_manyFit_17 rfl 2 rfl ?_
    obtain ⟨a2, e3, h⟩ := bo_some h
    obtain ⟨v4, σ5, e6, h⟩ := bd_some h
    refine g_cV1 O R0 N dX12_manyFit_18 vl_X12_472 vv_X12_nextFit e3 [vI x2] rfl rfl rfl ⟨Nat.le_of_ble_eq_true rfl, Nat.le_of_ble_eq_true rfl⟩ (c_X12_nextFit l0 a2 x2 σ v4 σ5 e6) ?_
    refine g_istore_n (lv' := [(2, vI v4), (1, vI (x1 + (1 : Int32))), (0, vA (some a0))]) O dX12_manyFit_21 rfl 3 hn (by decide) rfl ?_
    refine g_goto O dX12_manyFit_22 rfl ?_
    refine g_sub [2, 1, 0] (lv' := [(0, vA (some a0)), (1, vI (x1 + (1 : Int32))), (2, vI v4)]) rfl ?_
    cases h
    exact K
def f_X12_manyFit (a0 : Nat) (σ : Dt) : Option (Int32 × Dt) := bo (xrc SM 12 (some a0)) fun a1 => bd (f_X12_nextFit a1 (-1 : Int32) σ) fun v3 σ4 => bo (iter FU (fun s => f_X12_manyFit_L8 a0 s.1 s.2.1 s.2.2) ((0 : Int32), v3, σ4)) fun w6 => some (w6.1, w6.2)
theorem t_X12_manyFit {M : Mx} {l0 : Launch} (O : Ok M cX12_manyFit yX12_manyFit) (R0 : Rm M l0 10 263 0 0) (N : Ma M = false) (hn : Mn M = 3) (a0 : Nat) (σ : Dt) (o : (Int32 × Dt)) (h : f_X12_manyFit a0 σ = some o) (K : Fin' M (some .int) 0 0 SM o.2 (some (vI o.1))) : G M 0 0 0 [(0, vA (some a0))] [] SM σ := by
  unfold f_X12_manyFit at h
  refine g_iconst (v := (0 : Int32)) O dX12_manyFit_0 rfl ?_
  refine g_istore_n (lv' := [(1, vI (0 : Int32)), (0, vA (some a0))]) O dX12_manyFit_1 rfl 3 hn (by decide) rfl ?_
  refine g_aload_n O dX12_manyFit_2 rfl 1 rfl ?_
  refine g_iconst (v := (-1 : Int32)) O dX12_manyFit_3 rfl ?_
  obtain ⟨a1, e2, h⟩ := bo_some h
  obtain ⟨v3, σ4, e5, h⟩ := bd_some h
  refine g_cV1 O R0 N dX12_manyFit_4 vl_X12_472 vv_X12_nextFit e2 [vI (-1 : Int32)] rfl rfl rfl ⟨Nat.le_of_ble_eq_true rfl, Nat.le_of_ble_eq_true rfl⟩ (c_X12_nextFit l0 a1 (-1 : Int32) σ v3 σ4 e5) ?_
  refine g_istore_n (lv' := [(2, vI v3), (1, vI (0 : Int32)), (0, vA (some a0))]) O dX12_manyFit_7 rfl 3 hn (by decide) rfl ?_
  refine g_sub [2, 1, 0] (lv' := [(0, vA (some a0)), (1, vI (0 : Int32)), (2, vI v3)]) rfl ?_
  obtain ⟨w6, e7, h⟩ := bo_some h
  refine iter_G (P := P_X12_manyFit_8 M a0) (E := E_X12_manyFit_8 M a0) (fun s o hb hk => t_X12_manyFit_L8 O R0 N hn a0 s.1 s.2.1 s.2.2 o hb hk) FU ((0 : Int32), v3, σ4) w6 e7 ?_
  show G M 0 0 25 [(1, vI w6.1)] [] SM w6.2
  refine g_iload_n O dX12_manyFit_25 rfl 0 rfl ?_
  cases h
  exact g_ireturn O K dX12_manyFit_26
theorem c_X12_manyFit (l0 : Launch) (a0 : Nat) (σ : Dt) (r : Int32) (σ' : Dt) (h : f_X12_manyFit a0 σ = some (r, σ')) : Ctr l0 yX12_manyFit cX12_manyFit 3 (some .int) false 10 263 0 0 [vA (some a0)] SM σ SM σ' (some (vI r)) := ctr_of (by decide) (Nat.le_of_ble_eq_true rfl) (fun M O F R0 N hn => t_X12_manyFit O R0 N hn a0 σ (r, σ') h F)
def P_X12_sureOf_8 (M : Mx) (a0 : Nat) (s : (Int32 × Int32 × Dt)) : Prop := G M 0 0 8 [(0, vA (some a0)), (1, vI s.1), (2, vI s.2.1)] [] SM s.2.2
def E_X12_sureOf_8 (M : Mx) (a0 : Nat) : (Dt ⊕ (Int32 × Dt)) → Prop := (el (fun w => G M 0 0 26 [] [] SM w) (fun w => G M 0 0 42 [(1, vI w.1)] [] SM w.2))
def f_X12_sureOf_28 (a0 : Nat) (x2 : Int32) (σ : Dt) : Option ((Int32 × Int32 × Dt) ⊕ (Dt ⊕ (Int32 × Dt))) := bo (xrc SM 12 (some a0)) fun a1 => bd (f_X12_nextFit a1 x2 σ) fun v3 σ4 => some (.inl ((x2 / (10 : Int32)), v3, σ4))
theorem t_X12_sureOf_28 {M : Mx} {l0 : Launch} (O : Ok M cX12_sureOf yX12_sureOf) (R0 : Rm M l0 10 263 0 0) (N : Ma M = false) (hn : Mn M = 3)  (a0 : Nat) (x2 : Int32) (σ : Dt) (o : ((Int32 × Int32 × Dt) ⊕ (Dt ⊕ (Int32 × Dt)))) (h : f_X12_sureOf_28 a0 x2 σ = some o) (K : kon (P_X12_sureOf_8 M a0) (E_X12_sureOf_8 M a0) o) : G M 0 0 28 [(0, vA (some a0)), (2, vI x2)] [] SM σ := by
  unfold f_X12_sureOf_28 at h
  refine g_iload_n O dX12_sureOf_28 rfl 1 rfl ?_
  refine g_bipush (v := (10 : Int32)) O dX12_sureOf_29 rfl ?_
  refine g_idiv O dX12_sureOf_31 (by decide) ?_
  refine g_istore_n (lv' := [(1, vI (x2 / (10 : Int32))), (0, vA (some a0)), (2, vI x2)]) O dX12_sureOf_32 rfl 3 hn (by decide) rfl ?_
  refine g_aload_n O dX12_sureOf_33 rfl 1 rfl ?_
  refine g_iload_n O dX12_sureOf_34 rfl 2 rfl ?_
  obtain ⟨a1, e2, h⟩ := bo_some h
  obtain ⟨v3, σ4, e5, h⟩ := bd_some h
  refine g_cV1 O R0 N dX12_sureOf_35 vl_X12_472 vv_X12_nextFit e2 [vI x2] rfl rfl rfl ⟨Nat.le_of_ble_eq_true rfl, Nat.le_of_ble_eq_true rfl⟩ (c_X12_nextFit l0 a1 x2 σ v3 σ4 e5) ?_
  refine g_istore_n (lv' := [(2, vI v3), (1, vI (x2 / (10 : Int32))), (0, vA (some a0))]) O dX12_sureOf_38 rfl 3 hn (by decide) rfl ?_
  refine g_goto O dX12_sureOf_39 rfl ?_
  refine g_sub [2, 1, 0] (lv' := [(0, vA (some a0)), (1, vI (x2 / (10 : Int32))), (2, vI v3)]) rfl ?_
  cases h
  exact K
def f_X12_sureOf_L8 (a0 : Nat) (x1 : Int32) (x2 : Int32) (σ : Dt) : Option ((Int32 × Int32 × Dt) ⊕ (Dt ⊕ (Int32 × Dt))) := if x2 = (-1 : Int32) then some (.inr (.inr (x1, σ))) else if x1 = (-1 : Int32) then f_X12_sureOf_28 a0 x2 σ else if x1 = (x2 / (10 : Int32)) then f_X12_sureOf_28 a0 x2 σ else some (.inr (.inl σ))
theorem t_X12_sureOf_L8 {M : Mx} {l0 : Launch} (O : Ok M cX12_sureOf yX12_sureOf) (R0 : Rm M l0 10 263 0 0) (N : Ma M = false) (hn : Mn M = 3) (a0 : Nat) (x1 : Int32) (x2 : Int32) (σ : Dt) (o : ((Int32 × Int32 × Dt) ⊕ (Dt ⊕ (Int32 × Dt)))) (h : f_X12_sureOf_L8 a0 x1 x2 σ = some o) (K : kon (P_X12_sureOf_8 M a0) (E_X12_sureOf_8 M a0) o) : G M 0 0 8 [(0, vA (some a0)), (1, vI x1), (2, vI x2)] [] SM σ := by
  unfold f_X12_sureOf_L8 at h
  refine g_iload_n O dX12_sureOf_8 rfl 2 rfl ?_
  refine g_iconst (v := (-1 : Int32)) O dX12_sureOf_9 rfl ?_
  refine g_icmp_eq O dX12_sureOf_10 rfl (fun c1 => ?_) (fun c1 => ?_)
  · replace h := (if_pos c1).symm.trans h
    refine g_sub [1] (lv' := [(1, vI x1)]) rfl ?_
    cases h
    exact K
  · replace h := (if_neg c1).symm.trans h
    refine g_iload_n O dX12_sureOf_13 rfl 1 rfl ?_
    refine g_iconst (v := (-1 : Int32)) O dX12_sureOf_14 rfl ?_
    refine g_icmp_eq O dX12_sureOf_15 rfl (fun c2 => ?_) (fun c2 => ?_)
    · replace h := (if_pos c2).symm.trans h
      refine g_sub [0, 2] (lv' := [(0, vA (some a0)), (2, vI x2)]) rfl ?_
      exact t_X12_sureOf_28 O R0 N hn a0 x2 σ o h K
    · replace h := (if_neg c2).symm.trans h
      refine g_iload_n O dX12_sureOf_18 rfl 1 rfl ?_
      refine g_iload_n O dX12_sureOf_19 rfl 2 rfl ?_
      refine g_bipush (v := (10 : Int32)) O dX12_sureOf_20 rfl ?_
      refine g_idiv O dX12_sureOf_22 (by decide) ?_
      refine g_icmp_eq O dX12_sureOf_23 rfl (fun c3 => ?_) (fun c3 => ?_)
      · replace h := (if_pos c3).symm.trans h
        refine g_sub [0, 2] (lv' := [(0, vA (some a0)), (2, vI x2)]) rfl ?_
        exact t_X12_sureOf_28 O R0 N hn a0 x2 σ o h K
      · replace h := (if_neg c3).symm.trans h
        refine g_sub [] (lv' := []) rfl ?_
        cases h
        exact K
def f_X12_sureOf (a0 : Nat) (σ : Dt) : Option (Int32 × Dt) := bo (xrc SM 12 (some a0)) fun a1 => bd (f_X12_nextFit a1 (-1 : Int32) σ) fun v3 σ4 => bo (iter FU (fun s => f_X12_sureOf_L8 a0 s.1 s.2.1 s.2.2) ((-1 : Int32), v3, σ4)) fun w6 => el (fun w8 => some ((-1 : Int32), w8)) (fun w8 => some (w8.1, w8.2)) w6
theorem t_X12_sureOf {M : Mx} {l0 : Launch} (O : Ok M cX12_sureOf yX12_sureOf) (R0 : Rm M l0 10 263 0 0) (N : Ma M = false) (hn : Mn M = 3) (a0 : Nat) (σ : Dt) (o : (Int32 × Dt)) (h : f_X12_sureOf a0 σ = some o) (K : Fin' M (some .int) 0 0 SM o.2 (some (vI o.1))) : G M 0 0 0 [(0, vA (some a0))] [] SM σ := by
  unfold f_X12_sureOf at h
  refine g_iconst (v := (-1 : Int32)) O dX12_sureOf_0 rfl ?_
  refine g_istore_n (lv' := [(1, vI (-1 : Int32)), (0, vA (some a0))]) O dX12_sureOf_1 rfl 3 hn (by decide) rfl ?_
  refine g_aload_n O dX12_sureOf_2 rfl 1 rfl ?_
  refine g_iconst (v := (-1 : Int32)) O dX12_sureOf_3 rfl ?_
  obtain ⟨a1, e2, h⟩ := bo_some h
  obtain ⟨v3, σ4, e5, h⟩ := bd_some h
  refine g_cV1 O R0 N dX12_sureOf_4 vl_X12_472 vv_X12_nextFit e2 [vI (-1 : Int32)] rfl rfl rfl ⟨Nat.le_of_ble_eq_true rfl, Nat.le_of_ble_eq_true rfl⟩ (c_X12_nextFit l0 a1 (-1 : Int32) σ v3 σ4 e5) ?_
  refine g_istore_n (lv' := [(2, vI v3), (1, vI (-1 : Int32)), (0, vA (some a0))]) O dX12_sureOf_7 rfl 3 hn (by decide) rfl ?_
  refine g_sub [2, 1, 0] (lv' := [(0, vA (some a0)), (1, vI (-1 : Int32)), (2, vI v3)]) rfl ?_
  obtain ⟨w6, e7, h⟩ := bo_some h
  refine iter_G (P := P_X12_sureOf_8 M a0) (E := E_X12_sureOf_8 M a0) (fun s o hb hk => t_X12_sureOf_L8 O R0 N hn a0 s.1 s.2.1 s.2.2 o hb hk) FU ((-1 : Int32), v3, σ4) w6 e7 ?_
  rcases w6 with w8 | w8
  · replace h := el_l h
    show G M 0 0 26 [] [] SM w8
    refine g_iconst (v := (-1 : Int32)) O dX12_sureOf_26 rfl ?_
    cases h
    exact g_ireturn O K dX12_sureOf_27
  · replace h := el_r h
    show G M 0 0 42 [(1, vI w8.1)] [] SM w8.2
    refine g_iload_n O dX12_sureOf_42 rfl 0 rfl ?_
    cases h
    exact g_ireturn O K dX12_sureOf_43
theorem c_X12_sureOf (l0 : Launch) (a0 : Nat) (σ : Dt) (r : Int32) (σ' : Dt) (h : f_X12_sureOf a0 σ = some (r, σ')) : Ctr l0 yX12_sureOf cX12_sureOf 3 (some .int) false 10 263 0 0 [vA (some a0)] SM σ SM σ' (some (vI r)) := ctr_of (by decide) (Nat.le_of_ble_eq_true rfl) (fun M O F R0 N hn => t_X12_sureOf O R0 N hn a0 σ (r, σ') h F)
def P_X12_greatestOf_4 (M : Mx) (a0 : Nat) (x1 : Int32) (x2 : Int32) (s : (Int32 × Dt)) : Prop := G M 0 0 4 [(0, vA (some a0)), (1, vI x1), (2, vI x2), (3, vI s.1)] [] SM s.2
def E_X12_greatestOf_4 (M : Mx) (a0 : Nat) (x1 : Int32) (x2 : Int32) : Dt → Prop := (fun w => G M 0 0 23 [(0, vA (some a0)), (1, vI x1), (2, vI x2)] [] SM w)
def f_X12_greatestOf_L4 (a0 : Nat) (x1 : Int32) (x2 : Int32) (x3 : Int32) (σ : Dt) : Option ((Int32 × Dt) ⊕ Dt) := if (31 : Int32) ≤ x3 then some (.inr σ) else bo (xgr SM 12 46 (some a0) σ) fun v2 => bo (xsi SM v2 x3 (0 : Int32) σ) fun σ4 => some (.inl ((x3 + (1 : Int32)), σ4))
theorem t_X12_greatestOf_L4 {M : Mx} {l0 : Launch} (O : Ok M cX12_greatestOf yX12_greatestOf) (R0 : Rm M l0 10 263 0 0) (N : Ma M = false) (hn : Mn M = 4) (a0 : Nat) (x1 : Int32) (x2 : Int32) (x3 : Int32) (σ : Dt) (o : ((Int32 × Dt) ⊕ Dt)) (h : f_X12_greatestOf_L4 a0 x1 x2 x3 σ = some o) (K : kon (P_X12_greatestOf_4 M a0 x1 x2) (E_X12_greatestOf_4 M a0 x1 x2) o) : G M 0 0 4 [(0, vA (some a0)), (1, vI x1), (2, vI x2), (3, vI x3)] [] SM σ := by
  unfold f_X12_greatestOf_L4 at h
  refine g_iload_n O dX12_greatestOf_4 rfl 3 rfl ?_
  refine g_bipush (v := (31 : Int32)) O dX12_greatestOf_5 rfl ?_
  refine g_icmp_ge O dX12_greatestOf_7 rfl (fun c1 => ?_) (fun c1 => ?_)
  · replace h := (if_pos c1).symm.trans h
    refine g_sub [0, 1, 2] (lv' := [(0, vA (some a0)), (1, vI x1), (2, vI x2)]) rfl ?_
    cases h
    exact K
  · replace h := (if_neg c1).symm.trans h
    refine g_aload_n O dX12_greatestOf_10 rfl 0 rfl ?_
    obtain ⟨v2, e3, h⟩ := bo_some h
    refine g_getR O dX12_greatestOf_11 fl_X12_88 rfl e3 ?_
    refine g_iload_n O dX12_greatestOf_14 rfl 3 rfl ?_
    refine g_iconst (v := (0 : Int32)) O dX12_greatestOf_15 rfl ?_
    obtain ⟨σ4, e5, h⟩ := bo_some h
    refine g_iastore O dX12_greatestOf_16 e5 ?_
    refine g_iinc (v := (x3 + (1 : Int32))) (lv' := [(3, vI (x3 + (1 : Int32))), (0, vA (some a0)), (1, vI x1), (2, vI x2)]) O dX12_greatestOf_17 4 hn (by decide) 3 rfl rfl rfl ?_
    refine g_goto O dX12_greatestOf_20 rfl ?_
    refine g_sub [1, 2, 3, 0] (lv' := [(0, vA (some a0)), (1, vI x1), (2, vI x2), (3, vI (x3 + (1 : Int32)))]) rfl ?_
    cases h
    exact K
def P_X12_greatestOf_29 (M : Mx) (a0 : Nat) (x1 : Int32) (s : (Int32 × Int32 × Dt)) : Prop := G M 0 0 29 [(0, vA (some a0)), (1, vI x1), (2, vI s.1), (3, vI s.2.1)] [] SM s.2.2
def E_X12_greatestOf_29 (M : Mx) (a0 : Nat) (x1 : Int32) : (Int32 × Dt) → Prop := (fun w => G M 0 0 89 [(2, vI w.1)] [] SM w.2)
def f_X12_greatestOf_79 (a0 : Nat) (x1 : Int32) (x3 : Int32) (k0 : Int32) (σ : Dt) : Option ((Int32 × Int32 × Dt) ⊕ (Int32 × Dt)) := bo (xrc SM 12 (some a0)) fun a1 => bd (f_X12_nextFit a1 x3 σ) fun v3 σ4 => some (.inl (k0, v3, σ4))
theorem t_X12_greatestOf_79 {M : Mx} {l0 : Launch} (O : Ok M cX12_greatestOf yX12_greatestOf) (R0 : Rm M l0 10 263 0 0) (N : Ma M = false) (hn : Mn M = 4)  (a0 : Nat) (x1 : Int32) (x3 : Int32) (k0 : Int32) (σ : Dt) (o : ((Int32 × Int32 × Dt) ⊕ (Int32 × Dt))) (h : f_X12_greatestOf_79 a0 x1 x3 k0 σ = some o) (K : kon (P_X12_greatestOf_29 M a0 x1) (E_X12_greatestOf_29 M a0 x1) o) : G M 0 0 79 [(0, vA (some a0)), (1, vI x1), (3, vI x3)] [vI k0] SM σ := by
  unfold f_X12_greatestOf_79 at h
  refine g_istore_n (lv' := [(2, vI k0), (0, vA (some a0)), (1, vI x1), (3, vI x3)]) O dX12_greatestOf_79 rfl 4 hn (by decide) rfl ?_
  refine g_aload_n O dX12_greatestOf_80 rfl 1 rfl ?_
  refine g_iload_n O dX12_greatestOf_81 rfl 3 rfl ?_
  obtain ⟨a1, e2, h⟩ := bo_some h
  obtain ⟨v3, σ4, e5, h⟩ := bd_some h
  refine g_cV1 O R0 N dX12_greatestOf_82 vl_X12_472 vv_X12_nextFit e2 [vI x3] rfl rfl rfl ⟨Nat.le_of_ble_eq_true rfl, Nat.le_of_ble_eq_true rfl⟩ (c_X12_nextFit l0 a1 x3 σ v3 σ4 e5) ?_
  refine g_istore_n (lv' := [(3, vI v3), (2, vI k0), (0, vA (some a0)), (1, vI x1)]) O dX12_greatestOf_85 rfl 4 hn (by decide) rfl ?_
  refine g_goto O dX12_greatestOf_86 rfl ?_
  refine g_sub [2, 3, 1, 0] (lv' := [(0, vA (some a0)), (1, vI x1), (2, vI k0), (3, vI v3)]) rfl ?_
  cases h
  exact K
def f_X12_greatestOf_L29 (a0 : Nat) (x1 : Int32) (x2 : Int32) (x3 : Int32) (σ : Dt) : Option ((Int32 × Int32 × Dt) ⊕ (Int32 × Dt)) := if x3 = (-1 : Int32) then some (.inr (x2, σ)) else bo (xgr SM 12 46 (some a0) σ) fun v2 => bo (xgr SM 12 40 (some a0) σ) fun v4 => bo (xai SM v4 x1 σ) fun v6 => bo (xai SM v2 v6 σ) fun v8 => bo (xsi SM v2 v6 (v8 + (1 : Int32)) σ) fun σ10 => bo (xgr SM 12 46 (some a0) σ10) fun v12 => bo (xgr SM 12 40 (some a0) σ10) fun v14 => bo (xai SM v14 x1 σ10) fun v16 => bo (xai SM v12 v16 σ10) fun v18 => if v18 ≤ x2 then f_X12_greatestOf_79 a0 x1 x3 x2 σ10 else bo (xgr SM 12 46 (some a0) σ10) fun v21 => bo (xgr SM 12 40 (some a0) σ10) fun v23 => bo (xai SM v23 x1 σ10) fun v25 => bo (xai SM v21 v25 σ10) fun v27 => f_X12_greatestOf_79 a0 x1 x3 v27 σ10
theorem t_X12_greatestOf_L29 {M : Mx} {l0 : Launch} (O : Ok M cX12_greatestOf yX12_greatestOf) (R0 : Rm M l0 10 263 0 0) (N : Ma M = false) (hn : Mn M = 4) (a0 : Nat) (x1 : Int32) (x2 : Int32) (x3 : Int32) (σ : Dt) (o : ((Int32 × Int32 × Dt) ⊕ (Int32 × Dt))) (h : f_X12_greatestOf_L29 a0 x1 x2 x3 σ = some o) (K : kon (P_X12_greatestOf_29 M a0 x1) (E_X12_greatestOf_29 M a0 x1) o) : G M 0 0 29 [(0, vA (some a0)), (1, vI x1), (2, vI x2), (3, vI x3)] [] SM σ := by
  unfold f_X12_greatestOf_L29 at h
  refine g_iload_n O dX12_greatestOf_29 rfl 3 rfl ?_
  refine g_iconst (v := (-1 : Int32)) O dX12_greatestOf_30 rfl ?_
  refine g_icmp_eq O dX12_greatestOf_31 rfl (fun c1 => ?_) (fun c1 => ?_)
  · replace h := (if_pos c1).symm.trans h
    refine g_sub [2] (lv' := [(2, vI x2)]) rfl ?_
    cases h
    exact K
  · replace h := (if_neg c1).symm.trans h
    refine g_aload_n O dX12_greatestOf_34 rfl 0 rfl ?_
    obtain ⟨v2, e3, h⟩ := bo_some h
    refine g_getR O dX12_greatestOf_35 fl_X12_88 rfl e3 ?_
    refine g_aload_n O dX12_greatestOf_38 rfl 0 rfl ?_
    obtain ⟨v4, e5, h⟩ := bo_some h
    refine g_getR O dX12_greatestOf_39 fl_X12_73 rfl e5 ?_
    refine g_iload_n O dX12_greatestOf_42 rfl 1 rfl ?_
    obtain ⟨v6, e7, h⟩ := bo_some h
    refine g_iaload O dX12_greatestOf_43 e7 ?_
    refine g_dup2 O dX12_greatestOf_44 rfl rfl ?_
    obtain ⟨v8, e9, h⟩ := bo_some h
    refine g_iaload O dX12_greatestOf_45 e9 ?_
    refine g_iconst (v := (1 : Int32)) O dX12_greatestOf_46 rfl ?_
    refine g_iadd O dX12_greatestOf_47 ?_
    obtain ⟨σ10, e11, h⟩ := bo_some h
    refine g_iastore O dX12_greatestOf_48 e11 ?_
    refine g_aload_n O dX12_greatestOf_49 rfl 0 rfl ?_
    obtain ⟨v12, e13, h⟩ := bo_some h
    refine g_getR O dX12_greatestOf_50 fl_X12_88 rfl e13 ?_
    refine g_aload_n O dX12_greatestOf_53 rfl 0 rfl ?_
    obtain ⟨v14, e15, h⟩ := bo_some h
    refine g_getR O dX12_greatestOf_54 fl_X12_73 rfl e15 ?_
    refine g_iload_n O dX12_greatestOf_57 rfl 1 rfl ?_
    obtain ⟨v16, e17, h⟩ := bo_some h
    refine g_iaload O dX12_greatestOf_58 e17 ?_
    obtain ⟨v18, e19, h⟩ := bo_some h
    refine g_iaload O dX12_greatestOf_59 e19 ?_
    refine g_iload_n O dX12_greatestOf_60 rfl 2 rfl ?_
    refine g_icmp_le O dX12_greatestOf_61 rfl (fun c20 => ?_) (fun c20 => ?_)
    · replace h := (if_pos c20).symm.trans h
      refine g_iload_n O dX12_greatestOf_78 rfl 2 rfl ?_
      refine g_sub [0, 1, 3] (lv' := [(0, vA (some a0)), (1, vI x1), (3, vI x3)]) rfl ?_
      exact t_X12_greatestOf_79 O R0 N hn a0 x1 x3 x2 σ10 o h K
    · replace h := (if_neg c20).symm.trans h
      refine g_aload_n O dX12_greatestOf_64 rfl 0 rfl ?_
      obtain ⟨v21, e22, h⟩ := bo_some h
      refine g_getR O dX12_greatestOf_65 fl_X12_88 rfl e22 ?_
      refine g_aload_n O dX12_greatestOf_68 rfl 0 rfl ?_
      obtain ⟨v23, e24, h⟩ := bo_some h
      refine g_getR O dX12_greatestOf_69 fl_X12_73 rfl e24 ?_
      refine g_iload_n O dX12_greatestOf_72 rfl 1 rfl ?_
      obtain ⟨v25, e26, h⟩ := bo_some h
      refine g_iaload O dX12_greatestOf_73 e26 ?_
      obtain ⟨v27, e28, h⟩ := bo_some h
      refine g_iaload O dX12_greatestOf_74 e28 ?_
      refine g_goto O dX12_greatestOf_75 rfl ?_
      refine g_sub [0, 1, 3] (lv' := [(0, vA (some a0)), (1, vI x1), (3, vI x3)]) rfl ?_
      exact t_X12_greatestOf_79 O R0 N hn a0 x1 x3 v27 σ10 o h K
def f_X12_greatestOf (a0 : Nat) (x1 : Int32) (σ : Dt) : Option (Int32 × Dt) := bo (iter FU (fun s => f_X12_greatestOf_L4 a0 x1 (0 : Int32) s.1 s.2) ((0 : Int32), σ)) fun w1 => bo (xrc SM 12 (some a0)) fun a3 => bd (f_X12_nextFit a3 (-1 : Int32) w1) fun v5 σ6 => bo (iter FU (fun s => f_X12_greatestOf_L29 a0 x1 s.1 s.2.1 s.2.2) ((0 : Int32), v5, σ6)) fun w8 => some (w8.1, w8.2)
theorem t_X12_greatestOf {M : Mx} {l0 : Launch} (O : Ok M cX12_greatestOf yX12_greatestOf) (R0 : Rm M l0 10 263 0 0) (N : Ma M = false) (hn : Mn M = 4) (a0 : Nat) (x1 : Int32) (σ : Dt) (o : (Int32 × Dt)) (h : f_X12_greatestOf a0 x1 σ = some o) (K : Fin' M (some .int) 0 0 SM o.2 (some (vI o.1))) : G M 0 0 0 [(0, vA (some a0)), (1, vI x1)] [] SM σ := by
  unfold f_X12_greatestOf at h
  refine g_iconst (v := (0 : Int32)) O dX12_greatestOf_0 rfl ?_
  refine g_istore_n (lv' := [(2, vI (0 : Int32)), (0, vA (some a0)), (1, vI x1)]) O dX12_greatestOf_1 rfl 4 hn (by decide) rfl ?_
  refine g_iconst (v := (0 : Int32)) O dX12_greatestOf_2 rfl ?_
  refine g_istore_n (lv' := [(3, vI (0 : Int32)), (2, vI (0 : Int32)), (0, vA (some a0)), (1, vI x1)]) O dX12_greatestOf_3 rfl 4 hn (by decide) rfl ?_
  refine g_sub [2, 3, 1, 0] (lv' := [(0, vA (some a0)), (1, vI x1), (2, vI (0 : Int32)), (3, vI (0 : Int32))]) rfl ?_
  obtain ⟨w1, e2, h⟩ := bo_some h
  refine iter_G (P := P_X12_greatestOf_4 M a0 x1 (0 : Int32)) (E := E_X12_greatestOf_4 M a0 x1 (0 : Int32)) (fun s o hb hk => t_X12_greatestOf_L4 O R0 N hn a0 x1 (0 : Int32) s.1 s.2 o hb hk) FU ((0 : Int32), σ) w1 e2 ?_
  show G M 0 0 23 [(0, vA (some a0)), (1, vI x1), (2, vI (0 : Int32))] [] SM w1
  refine g_aload_n O dX12_greatestOf_23 rfl 0 rfl ?_
  refine g_iconst (v := (-1 : Int32)) O dX12_greatestOf_24 rfl ?_
  obtain ⟨a3, e4, h⟩ := bo_some h
  obtain ⟨v5, σ6, e7, h⟩ := bd_some h
  refine g_cV1 O R0 N dX12_greatestOf_25 vl_X12_472 vv_X12_nextFit e4 [vI (-1 : Int32)] rfl rfl rfl ⟨Nat.le_of_ble_eq_true rfl, Nat.le_of_ble_eq_true rfl⟩ (c_X12_nextFit l0 a3 (-1 : Int32) w1 v5 σ6 e7) ?_
  refine g_istore_n (lv' := [(3, vI v5), (0, vA (some a0)), (1, vI x1), (2, vI (0 : Int32))]) O dX12_greatestOf_28 rfl 4 hn (by decide) rfl ?_
  refine g_sub [1, 2, 3, 0] (lv' := [(0, vA (some a0)), (1, vI x1), (2, vI (0 : Int32)), (3, vI v5)]) rfl ?_
  obtain ⟨w8, e9, h⟩ := bo_some h
  refine iter_G (P := P_X12_greatestOf_29 M a0 x1) (E := E_X12_greatestOf_29 M a0 x1) (fun s o hb hk => t_X12_greatestOf_L29 O R0 N hn a0 x1 s.1 s.2.1 s.2.2 o hb hk) FU ((0 : Int32), v5, σ6) w8 e9 ?_
  show G M 0 0 89 [(2, vI w8.1)] [] SM w8.2
  refine g_iload_n O dX12_greatestOf_89 rfl 0 rfl ?_
  cases h
  exact g_ireturn O K dX12_greatestOf_90
theorem c_X12_greatestOf (l0 : Launch) (a0 : Nat) (x1 : Int32) (σ : Dt) (r : Int32) (σ' : Dt) (h : f_X12_greatestOf a0 x1 σ = some (r, σ')) : Ctr l0 yX12_greatestOf cX12_greatestOf 4 (some .int) false 10 263 0 0 [vA (some a0), vI x1] SM σ SM σ' (some (vI r)) := ctr_of (by decide) (Nat.le_of_ble_eq_true rfl) (fun M O F R0 N hn => t_X12_greatestOf O R0 N hn a0 x1 σ (r, σ') h F)
def P_X12_askOf_8 (M : Mx) (a0 : Nat) (s : (Int32 × Int32 × Int32 × Dt)) : Prop := G M 0 0 8 [(0, vA (some a0)), (1, vI s.1), (2, vI s.2.1), (3, vI s.2.2.1)] [] SM s.2.2.2
def E_X12_askOf_8 (M : Mx) (a0 : Nat) : (Int32 × Dt) → Prop := (fun w => G M 0 0 48 [(1, vI w.1)] [] SM w.2)
def f_X12_askOf_42 (a0 : Nat) (x1 : Int32) (x2 : Int32) (x3 : Int32) (σ : Dt) : Option ((Int32 × Int32 × Int32 × Dt) ⊕ (Int32 × Dt)) := some (.inl (x1, x2, (x3 + (1 : Int32)), σ))
theorem t_X12_askOf_42 {M : Mx} {l0 : Launch} (O : Ok M cX12_askOf yX12_askOf) (R0 : Rm M l0 11 286 0 0) (N : Ma M = false) (hn : Mn M = 5)  (a0 : Nat) (x1 : Int32) (x2 : Int32) (x3 : Int32) (σ : Dt) (o : ((Int32 × Int32 × Int32 × Dt) ⊕ (Int32 × Dt))) (h : f_X12_askOf_42 a0 x1 x2 x3 σ = some o) (K : kon (P_X12_askOf_8 M a0) (E_X12_askOf_8 M a0) o) : G M 0 0 42 [(0, vA (some a0)), (1, vI x1), (2, vI x2), (3, vI x3)] [] SM σ := by
  unfold f_X12_askOf_42 at h
  refine g_iinc (v := (x3 + (1 : Int32))) (lv' := [(3, vI (x3 + (1 : Int32))), (0, vA (some a0)), (1, vI x1), (2, vI x2)]) O dX12_askOf_42 5 hn (by decide) 3 rfl rfl rfl ?_
  refine g_goto O dX12_askOf_45 rfl ?_
  refine g_sub [1, 2, 3, 0] (lv' := [(0, vA (some a0)), (1, vI x1), (2, vI x2), (3, vI (x3 + (1 : Int32)))]) rfl ?_
  cases h
  exact K
def f_X12_askOf_L8 (a0 : Nat) (x1 : Int32) (x2 : Int32) (x3 : Int32) (σ : Dt) : Option ((Int32 × Int32 × Int32 × Dt) ⊕ (Int32 × Dt)) := bo (xgi SM 12 13 (some a0) σ) fun v1 => if v1 ≤ x3 then some (.inr (x1, σ)) else bo (xrc SM 12 (some a0)) fun a4 => bd (f_X12_greatestOf a4 x3 σ) fun v6 σ7 => if v6 = 0 then f_X12_askOf_42 a0 x1 x2 x3 σ7 else if v6 < x2 then f_X12_askOf_42 a0 x3 v6 x3 σ7 else f_X12_askOf_42 a0 x1 x2 x3 σ7
theorem t_X12_askOf_L8 {M : Mx} {l0 : Launch} (O : Ok M cX12_askOf yX12_askOf) (R0 : Rm M l0 11 286 0 0) (N : Ma M = false) (hn : Mn M = 5) (a0 : Nat) (x1 : Int32) (x2 : Int32) (x3 : Int32) (σ : Dt) (o : ((Int32 × Int32 × Int32 × Dt) ⊕ (Int32 × Dt))) (h : f_X12_askOf_L8 a0 x1 x2 x3 σ = some o) (K : kon (P_X12_askOf_8 M a0) (E_X12_askOf_8 M a0) o) : G M 0 0 8 [(0, vA (some a0)), (1, vI x1), (2, vI x2), (3, vI x3)] [] SM σ := by
  unfold f_X12_askOf_L8 at h
  refine g_iload_n O dX12_askOf_8 rfl 3 rfl ?_
  refine g_aload_n O dX12_askOf_9 rfl 0 rfl ?_
  obtain ⟨v1, e2, h⟩ := bo_some h
  refine g_getI O dX12_askOf_10 fl_X12_214 rfl e2 ?_
  refine g_icmp_ge O dX12_askOf_13 rfl (fun c3 => ?_) (fun c3 => ?_)
  · replace h := (if_pos c3).symm.trans h
    refine g_sub [1] (lv' := [(1, vI x1)]) rfl ?_
    cases h
    exact K
  · replace h := (if_neg c3).symm.trans h
    refine g_aload_n O dX12_askOf_16 rfl 0 rfl ?_
    refine g_iload_n O dX12_askOf_17 rfl 3 rfl ?_
    obtain ⟨a4, e5, h⟩ := bo_some h
    obtain ⟨v6, σ7, e8, h⟩ := bd_some h
    refine g_cV1 O R0 N dX12_askOf_18 vl_X12_475 vv_X12_greatestOf e5 [vI x3] rfl rfl rfl ⟨Nat.le_of_ble_eq_true rfl, Nat.le_of_ble_eq_true rfl⟩ (c_X12_greatestOf l0 a4 x3 σ v6 σ7 e8) ?_
    refine g_istore (lv' := [(4, vI v6), (0, vA (some a0)), (1, vI x1), (2, vI x2), (3, vI x3)]) O dX12_askOf_21 5 hn (by decide) rfl ?_
    refine g_iload O dX12_askOf_23 0 rfl ?_
    refine g_if_eq O dX12_askOf_25 rfl (fun c9 => ?_) (fun c9 => ?_)
    · replace h := (if_pos c9).symm.trans h
      refine g_sub [1, 2, 3, 4] (lv' := [(0, vA (some a0)), (1, vI x1), (2, vI x2), (3, vI x3)]) rfl ?_
      exact t_X12_askOf_42 O R0 N hn a0 x1 x2 x3 σ7 o h K
    · replace h := (if_neg c9).symm.trans h
      refine g_iload O dX12_askOf_28 0 rfl ?_
      refine g_iload_n O dX12_askOf_30 rfl 3 rfl ?_
      refine g_icmp_lt O dX12_askOf_31 rfl (fun c10 => ?_) (fun c10 => ?_)
      · replace h := (if_pos c10).symm.trans h
        refine g_iload_n O dX12_askOf_37 rfl 4 rfl ?_
        refine g_istore_n (lv' := [(1, vI x3), (4, vI v6), (0, vA (some a0)), (2, vI x2), (3, vI x3)]) O dX12_askOf_38 rfl 5 hn (by decide) rfl ?_
        refine g_iload O dX12_askOf_39 1 rfl ?_
        refine g_istore_n (lv' := [(2, vI v6), (1, vI x3), (4, vI v6), (0, vA (some a0)), (3, vI x3)]) O dX12_askOf_41 rfl 5 hn (by decide) rfl ?_
        refine g_sub [3, 1, 0, 4] (lv' := [(0, vA (some a0)), (1, vI x3), (2, vI v6), (3, vI x3)]) rfl ?_
        exact t_X12_askOf_42 O R0 N hn a0 x3 v6 x3 σ7 o h K
      · replace h := (if_neg c10).symm.trans h
        refine g_goto O dX12_askOf_34 rfl ?_
        refine g_sub [1, 2, 3, 4] (lv' := [(0, vA (some a0)), (1, vI x1), (2, vI x2), (3, vI x3)]) rfl ?_
        exact t_X12_askOf_42 O R0 N hn a0 x1 x2 x3 σ7 o h K
def f_X12_askOf (a0 : Nat) (σ : Dt) : Option (Int32 × Dt) := bo (iter FU (fun s => f_X12_askOf_L8 a0 s.1 s.2.1 s.2.2.1 s.2.2.2) ((-1 : Int32), (99999999 : Int32), (0 : Int32), σ)) fun w1 => some (w1.1, w1.2)
theorem t_X12_askOf {M : Mx} {l0 : Launch} (O : Ok M cX12_askOf yX12_askOf) (R0 : Rm M l0 11 286 0 0) (N : Ma M = false) (hn : Mn M = 5) (a0 : Nat) (σ : Dt) (o : (Int32 × Dt)) (h : f_X12_askOf a0 σ = some o) (K : Fin' M (some .int) 0 0 SM o.2 (some (vI o.1))) : G M 0 0 0 [(0, vA (some a0))] [] SM σ := by
  unfold f_X12_askOf at h
  refine g_iconst (v := (-1 : Int32)) O dX12_askOf_0 rfl ?_
  refine g_istore_n (lv' := [(1, vI (-1 : Int32)), (0, vA (some a0))]) O dX12_askOf_1 rfl 5 hn (by decide) rfl ?_
  refine g_ldcw O dX12_askOf_2 w1799 ?_
  refine g_istore_n (lv' := [(2, vI (99999999 : Int32)), (1, vI (-1 : Int32)), (0, vA (some a0))]) O dX12_askOf_5 rfl 5 hn (by decide) rfl ?_
  refine g_iconst (v := (0 : Int32)) O dX12_askOf_6 rfl ?_
  refine g_istore_n (lv' := [(3, vI (0 : Int32)), (2, vI (99999999 : Int32)), (1, vI (-1 : Int32)), (0, vA (some a0))]) O dX12_askOf_7 rfl 5 hn (by decide) rfl ?_
  refine g_sub [3, 2, 1, 0] (lv' := [(0, vA (some a0)), (1, vI (-1 : Int32)), (2, vI (99999999 : Int32)), (3, vI (0 : Int32))]) rfl ?_
  obtain ⟨w1, e2, h⟩ := bo_some h
  refine iter_G (P := P_X12_askOf_8 M a0) (E := E_X12_askOf_8 M a0) (fun s o hb hk => t_X12_askOf_L8 O R0 N hn a0 s.1 s.2.1 s.2.2.1 s.2.2.2 o hb hk) FU ((-1 : Int32), (99999999 : Int32), (0 : Int32), σ) w1 e2 ?_
  show G M 0 0 48 [(1, vI w1.1)] [] SM w1.2
  refine g_iload_n O dX12_askOf_48 rfl 0 rfl ?_
  cases h
  exact g_ireturn O K dX12_askOf_49
theorem c_X12_askOf (l0 : Launch) (a0 : Nat) (σ : Dt) (r : Int32) (σ' : Dt) (h : f_X12_askOf a0 σ = some (r, σ')) : Ctr l0 yX12_askOf cX12_askOf 5 (some .int) false 11 286 0 0 [vA (some a0)] SM σ SM σ' (some (vI r)) := ctr_of (by decide) (Nat.le_of_ble_eq_true rfl) (fun M O F R0 N hn => t_X12_askOf O R0 N hn a0 σ (r, σ') h F)
def P_X12_fits_93 (M : Mx) (a0 : Nat) (x3 : Int32) (s : (Int32 × Int32 × Dt)) : Prop := G M 0 0 93 [(0, vA (some a0)), (3, vI x3), (4, vI s.1), (5, vI s.2.1)] [] SM s.2.2
def E_X12_fits_93 (M : Mx) (a0 : Nat) (x3 : Int32) : (Int32 × Dt) → Prop := (fun w => G M 0 0 122 [(4, vI w.1)] [] SM w.2)
def f_X12_fits_L93 (a0 : Nat) (x3 : Int32) (x4 : Int32) (x5 : Int32) (σ : Dt) : Option ((Int32 × Int32 × Dt) ⊕ (Int32 × Dt)) := if (x3 - (10 : Int32)) ≤ x5 then some (.inr (x4, σ)) else if x4 = (-1 : Int32) then some (.inr (x4, σ)) else bo (xrc SM 12 (some a0)) fun a3 => bd (f_X12_nextFit a3 x4 σ) fun v5 σ6 => some (.inl (v5, (x5 + (1 : Int32)), σ6))
theorem t_X12_fits_L93 {M : Mx} {l0 : Launch} (O : Ok M cX12_fits yX12_fits) (R0 : Rm M l0 12 310 0 0) (N : Ma M = false) (hn : Mn M = 6) (a0 : Nat) (x3 : Int32) (x4 : Int32) (x5 : Int32) (σ : Dt) (o : ((Int32 × Int32 × Dt) ⊕ (Int32 × Dt))) (h : f_X12_fits_L93 a0 x3 x4 x5 σ = some o) (K : kon (P_X12_fits_93 M a0 x3) (E_X12_fits_93 M a0 x3) o) : G M 0 0 93 [(0, vA (some a0)), (3, vI x3), (4, vI x4), (5, vI x5)] [] SM σ := by
  unfold f_X12_fits_L93 at h
  refine g_iload O dX12_fits_93 3 rfl ?_
  refine g_iload_n O dX12_fits_95 rfl 1 rfl ?_
  refine g_bipush (v := (10 : Int32)) O dX12_fits_96 rfl ?_
  refine g_isub O dX12_fits_98 ?_
  refine g_icmp_ge O dX12_fits_99 rfl (fun c1 => ?_) (fun c1 => ?_)
  · replace h := (if_pos c1).symm.trans h
    refine g_sub [2] (lv' := [(4, vI x4)]) rfl ?_
    cases h
    exact K
  · replace h := (if_neg c1).symm.trans h
    refine g_iload O dX12_fits_102 2 rfl ?_
    refine g_iconst (v := (-1 : Int32)) O dX12_fits_104 rfl ?_
    refine g_icmp_eq O dX12_fits_105 rfl (fun c2 => ?_) (fun c2 => ?_)
    · replace h := (if_pos c2).symm.trans h
      refine g_sub [2] (lv' := [(4, vI x4)]) rfl ?_
      cases h
      exact K
    · replace h := (if_neg c2).symm.trans h
      refine g_aload_n O dX12_fits_108 rfl 0 rfl ?_
      refine g_iload O dX12_fits_109 2 rfl ?_
      obtain ⟨a3, e4, h⟩ := bo_some h
      obtain ⟨v5, σ6, e7, h⟩ := bd_some h
      refine g_cV1 O R0 N dX12_fits_111 vl_X12_472 vv_X12_nextFit e4 [vI x4] rfl rfl rfl ⟨Nat.le_of_ble_eq_true rfl, Nat.le_of_ble_eq_true rfl⟩ (c_X12_nextFit l0 a3 x4 σ v5 σ6 e7) ?_
      refine g_istore (lv' := [(4, vI v5), (0, vA (some a0)), (3, vI x3), (5, vI x5)]) O dX12_fits_114 6 hn (by decide) rfl ?_
      refine g_iinc (v := (x5 + (1 : Int32))) (lv' := [(5, vI (x5 + (1 : Int32))), (4, vI v5), (0, vA (some a0)), (3, vI x3)]) O dX12_fits_116 6 hn (by decide) 3 rfl rfl rfl ?_
      refine g_goto O dX12_fits_119 rfl ?_
      refine g_sub [2, 3, 1, 0] (lv' := [(0, vA (some a0)), (3, vI x3), (4, vI v5), (5, vI (x5 + (1 : Int32)))]) rfl ?_
      cases h
      exact K
def f_X12_fits_122 (x4 : Int32) (σ : Dt) : Option (Int32 × Dt) := if x4 = (-1 : Int32) then some ((-2 : Int32), σ) else some (x4, σ)
theorem t_X12_fits_122 {M : Mx} {l0 : Launch} (O : Ok M cX12_fits yX12_fits) (R0 : Rm M l0 12 310 0 0) (N : Ma M = false) (hn : Mn M = 6)  (x4 : Int32) (σ : Dt) (o : (Int32 × Dt)) (h : f_X12_fits_122 x4 σ = some o) (K : Fin' M (some .int) 0 0 SM o.2 (some (vI o.1))) : G M 0 0 122 [(4, vI x4)] [] SM σ := by
  unfold f_X12_fits_122 at h
  refine g_iload O dX12_fits_122 0 rfl ?_
  refine g_iconst (v := (-1 : Int32)) O dX12_fits_124 rfl ?_
  refine g_icmp_ne O dX12_fits_125 rfl (fun c1 => ?_) (fun c1 => ?_)
  · replace h := (if_pos c1).symm.trans h
    refine g_bipush (v := (-2 : Int32)) O dX12_fits_128 rfl ?_
    refine g_goto O dX12_fits_130 rfl ?_
    cases h
    exact g_ireturn O K dX12_fits_135
  · replace h := (if_neg c1).symm.trans h
    refine g_iload O dX12_fits_133 0 rfl ?_
    cases h
    exact g_ireturn O K dX12_fits_135
def f_X12_fits (a0 : Nat) (x1 : Int32) (x2 : Int32) (x3 : Int32) (σ : Dt) : Option (Int32 × Dt) := bo (xrc SM 12 (some a0)) fun a1 => bd (f_X12_isValley a1 x1 σ) fun v3 σ4 => if v3 = 0 then some ((-2 : Int32), σ4) else bo (xrc SM 12 (some a0)) fun a7 => bd (f_X12_isSight a7 x2 σ4) fun v9 σ10 => if v9 = 0 then some ((-2 : Int32), σ10) else bo (xrc SM 12 (some a0)) fun a13 => bo (f_X12_areWorks a13 σ10) fun v15 => if v15 = 0 then some ((-2 : Int32), σ10) else if x3 < 0 then some ((-2 : Int32), σ10) else bo (f_X12_isIn x3 (3 : Int32) (9 : Int32) σ10) fun v19 => if v19 = 0 then if x3 = (0 : Int32) then bo (xrc SM 12 (some a0)) fun a23 => bd (f_X12_manyFit a23 σ10) fun v25 σ26 => some (v25, σ26) else if x3 = (1 : Int32) then bo (xrc SM 12 (some a0)) fun a29 => bd (f_X12_sureOf a29 σ10) fun v31 σ32 => some (v31, σ32) else if x3 = (2 : Int32) then bo (xrc SM 12 (some a0)) fun a35 => bd (f_X12_askOf a35 σ10) fun v37 σ38 => some (v37, σ38) else bo (xrc SM 12 (some a0)) fun a40 => bd (f_X12_nextFit a40 (-1 : Int32) σ10) fun v42 σ43 => bo (iter FU (fun s => f_X12_fits_L93 a0 x3 s.1 s.2.1 s.2.2) (v42, (0 : Int32), σ43)) fun w45 => f_X12_fits_122 w45.1 w45.2 else some ((-2 : Int32), σ10)
theorem t_X12_fits {M : Mx} {l0 : Launch} (O : Ok M cX12_fits yX12_fits) (R0 : Rm M l0 12 310 0 0) (N : Ma M = false) (hn : Mn M = 6) (a0 : Nat) (x1 : Int32) (x2 : Int32) (x3 : Int32) (σ : Dt) (o : (Int32 × Dt)) (h : f_X12_fits a0 x1 x2 x3 σ = some o) (K : Fin' M (some .int) 0 0 SM o.2 (some (vI o.1))) : G M 0 0 0 [(0, vA (some a0)), (1, vI x1), (2, vI x2), (3, vI x3)] [] SM σ := by
  unfold f_X12_fits at h
  refine g_aload_n O dX12_fits_0 rfl 0 rfl ?_
  refine g_iload_n O dX12_fits_1 rfl 1 rfl ?_
  obtain ⟨a1, e2, h⟩ := bo_some h
  obtain ⟨v3, σ4, e5, h⟩ := bd_some h
  refine g_cV1 O R0 N dX12_fits_2 vl_X12_220 vv_X12_isValley e2 [vI x1] rfl rfl rfl ⟨Nat.le_of_ble_eq_true rfl, Nat.le_of_ble_eq_true rfl⟩ (c_X12_isValley l0 a1 x1 σ v3 σ4 e5) ?_
  refine g_if_eq O dX12_fits_5 rfl (fun c6 => ?_) (fun c6 => ?_)
  · replace h := (if_pos c6).symm.trans h
    refine g_bipush (v := (-2 : Int32)) O dX12_fits_37 rfl ?_
    cases h
    exact g_ireturn O K dX12_fits_39
  · replace h := (if_neg c6).symm.trans h
    refine g_aload_n O dX12_fits_8 rfl 0 rfl ?_
    refine g_iload_n O dX12_fits_9 rfl 2 rfl ?_
    obtain ⟨a7, e8, h⟩ := bo_some h
    obtain ⟨v9, σ10, e11, h⟩ := bd_some h
    refine g_cV1 O R0 N dX12_fits_10 vl_X12_463 vv_X12_isSight e8 [vI x2] rfl rfl rfl ⟨Nat.le_of_ble_eq_true rfl, Nat.le_of_ble_eq_true rfl⟩ (c_X12_isSight l0 a7 x2 σ4 v9 σ10 e11) ?_
    refine g_if_eq O dX12_fits_13 rfl (fun c12 => ?_) (fun c12 => ?_)
    · replace h := (if_pos c12).symm.trans h
      refine g_bipush (v := (-2 : Int32)) O dX12_fits_37 rfl ?_
      cases h
      exact g_ireturn O K dX12_fits_39
    · replace h := (if_neg c12).symm.trans h
      refine g_aload_n O dX12_fits_16 rfl 0 rfl ?_
      obtain ⟨a13, e14, h⟩ := bo_some h
      obtain ⟨v15, e16, h⟩ := bo_some h
      refine g_cV1 O R0 N dX12_fits_17 vl_X12_478 vv_X12_areWorks e14 [] rfl rfl rfl ⟨Nat.le_of_ble_eq_true rfl, Nat.le_of_ble_eq_true rfl⟩ (c_X12_areWorks l0 a13 σ10 v15 e16) ?_
      refine g_if_eq O dX12_fits_20 rfl (fun c17 => ?_) (fun c17 => ?_)
      · replace h := (if_pos c17).symm.trans h
        refine g_bipush (v := (-2 : Int32)) O dX12_fits_37 rfl ?_
        cases h
        exact g_ireturn O K dX12_fits_39
      · replace h := (if_neg c17).symm.trans h
        refine g_iload_n O dX12_fits_23 rfl 3 rfl ?_
        refine g_if_lt O dX12_fits_24 rfl (fun c18 => ?_) (fun c18 => ?_)
        · replace h := (if_pos c18).symm.trans h
          refine g_bipush (v := (-2 : Int32)) O dX12_fits_37 rfl ?_
          cases h
          exact g_ireturn O K dX12_fits_39
        · replace h := (if_neg c18).symm.trans h
          refine g_iload_n O dX12_fits_27 rfl 3 rfl ?_
          refine g_iconst (v := (3 : Int32)) O dX12_fits_28 rfl ?_
          refine g_bipush (v := (9 : Int32)) O dX12_fits_29 rfl ?_
          obtain ⟨v19, e20, h⟩ := bo_some h
          refine g_cS1 O R0 N dX12_fits_31 vl_X12_146 w1616 [vI x3, vI (3 : Int32), vI (9 : Int32)] rfl rfl rfl ⟨Nat.le_of_ble_eq_true rfl, Nat.le_of_ble_eq_true rfl⟩ (c_X12_isIn l0 x3 (3 : Int32) (9 : Int32) σ10 v19 e20) ?_
          refine g_if_eq O dX12_fits_34 rfl (fun c21 => ?_) (fun c21 => ?_)
          · replace h := (if_pos c21).symm.trans h
            refine g_iload_n O dX12_fits_40 rfl 3 rfl ?_
            by_cases c22 : x3 = (0 : Int32)
            · replace h := (if_pos c22).symm.trans h
              refine g_tabIn O dX12_fits_41 (by rw [c22]; decide) (by rw [c22]; decide) (by rw [c22]; rfl) rfl ?_
              refine g_aload_n O dX12_fits_68 rfl 0 rfl ?_
              obtain ⟨a23, e24, h⟩ := bo_some h
              obtain ⟨v25, σ26, e27, h⟩ := bd_some h
              refine g_cV1 O R0 N dX12_fits_69 vl_X12_481 vv_X12_manyFit e24 [] rfl rfl rfl ⟨Nat.le_of_ble_eq_true rfl, Nat.le_of_ble_eq_true rfl⟩ (c_X12_manyFit l0 a23 σ10 v25 σ26 e27) ?_
              cases h
              exact g_ireturn O K dX12_fits_72
            replace h := (if_neg c22).symm.trans h
            by_cases c28 : x3 = (1 : Int32)
            · replace h := (if_pos c28).symm.trans h
              refine g_tabIn O dX12_fits_41 (by rw [c28]; decide) (by rw [c28]; decide) (by rw [c28]; rfl) rfl ?_
              refine g_aload_n O dX12_fits_73 rfl 0 rfl ?_
              obtain ⟨a29, e30, h⟩ := bo_some h
              obtain ⟨v31, σ32, e33, h⟩ := bd_some h
              refine g_cV1 O R0 N dX12_fits_74 vl_X12_484 vv_X12_sureOf e30 [] rfl rfl rfl ⟨Nat.le_of_ble_eq_true rfl, Nat.le_of_ble_eq_true rfl⟩ (c_X12_sureOf l0 a29 σ10 v31 σ32 e33) ?_
              cases h
              exact g_ireturn O K dX12_fits_77
            replace h := (if_neg c28).symm.trans h
            by_cases c34 : x3 = (2 : Int32)
            · replace h := (if_pos c34).symm.trans h
              refine g_tabIn O dX12_fits_41 (by rw [c34]; decide) (by rw [c34]; decide) (by rw [c34]; rfl) rfl ?_
              refine g_aload_n O dX12_fits_78 rfl 0 rfl ?_
              obtain ⟨a35, e36, h⟩ := bo_some h
              obtain ⟨v37, σ38, e39, h⟩ := bd_some h
              refine g_cV1 O R0 N dX12_fits_79 vl_X12_487 vv_X12_askOf e36 [] rfl rfl rfl ⟨Nat.le_of_ble_eq_true rfl, Nat.le_of_ble_eq_true rfl⟩ (c_X12_askOf l0 a35 σ10 v37 σ38 e39) ?_
              cases h
              exact g_ireturn O K dX12_fits_82
            replace h := (if_neg c34).symm.trans h
            refine g_tabOut O dX12_fits_41 (tab_out [(0 : Int32), (1 : Int32), (2 : Int32)] (fun z h1 h2 => ?_) (fun c hc => ?_)) rfl ?_
            · have hz : z = 0 ∨ z = 1 ∨ z = 2 := by omega
              rcases hz with rfl | rfl | rfl
              · exact ⟨(0 : Int32), by simp, rfl⟩
              · exact ⟨(1 : Int32), by simp, rfl⟩
              · exact ⟨(2 : Int32), by simp, rfl⟩
            · simp only [List.mem_cons, List.not_mem_nil, or_false] at hc
              rcases hc with rfl | rfl | rfl <;> assumption
            refine g_aload_n O dX12_fits_83 rfl 0 rfl ?_
            refine g_iconst (v := (-1 : Int32)) O dX12_fits_84 rfl ?_
            obtain ⟨a40, e41, h⟩ := bo_some h
            obtain ⟨v42, σ43, e44, h⟩ := bd_some h
            refine g_cV1 O R0 N dX12_fits_85 vl_X12_472 vv_X12_nextFit e41 [vI (-1 : Int32)] rfl rfl rfl ⟨Nat.le_of_ble_eq_true rfl, Nat.le_of_ble_eq_true rfl⟩ (c_X12_nextFit l0 a40 (-1 : Int32) σ10 v42 σ43 e44) ?_
            refine g_istore (lv' := [(4, vI v42), (0, vA (some a0)), (1, vI x1), (2, vI x2), (3, vI x3)]) O dX12_fits_88 6 hn (by decide) rfl ?_
            refine g_iconst (v := (0 : Int32)) O dX12_fits_90 rfl ?_
            refine g_istore (lv' := [(5, vI (0 : Int32)), (4, vI v42), (0, vA (some a0)), (1, vI x1), (2, vI x2), (3, vI x3)]) O dX12_fits_91 6 hn (by decide) rfl ?_
            refine g_sub [2, 5, 1, 0] (lv' := [(0, vA (some a0)), (3, vI x3), (4, vI v42), (5, vI (0 : Int32))]) rfl ?_
            obtain ⟨w45, e46, h⟩ := bo_some h
            refine iter_G (P := P_X12_fits_93 M a0 x3) (E := E_X12_fits_93 M a0 x3) (fun s o hb hk => t_X12_fits_L93 O R0 N hn a0 x3 s.1 s.2.1 s.2.2 o hb hk) FU (v42, (0 : Int32), σ43) w45 e46 ?_
            show G M 0 0 122 [(4, vI w45.1)] [] SM w45.2
            exact t_X12_fits_122 O R0 N hn w45.1 w45.2 o h K
          · replace h := (if_neg c21).symm.trans h
            refine g_bipush (v := (-2 : Int32)) O dX12_fits_37 rfl ?_
            cases h
            exact g_ireturn O K dX12_fits_39
theorem c_X12_fits (l0 : Launch) (a0 : Nat) (x1 : Int32) (x2 : Int32) (x3 : Int32) (σ : Dt) (r : Int32) (σ' : Dt) (h : f_X12_fits a0 x1 x2 x3 σ = some (r, σ')) : Ctr l0 yX12_fits cX12_fits 6 (some .int) false 12 310 0 0 [vA (some a0), vI x1, vI x2, vI x3] SM σ SM σ' (some (vI r)) := ctr_of (by decide) (Nat.le_of_ble_eq_true rfl) (fun M O F R0 N hn => t_X12_fits O R0 N hn a0 x1 x2 x3 σ (r, σ') h F)
