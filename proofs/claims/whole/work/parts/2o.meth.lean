def P_X12_strengths_5 (M : Mx) (a0 : Nat) (x1 : Int32) (x2 : Int32) (σ : Dt) (s : (Int32 × Int32)) : Prop := G M 0 0 5 [(0, vA (some a0)), (1, vI x1), (2, vI x2), (3, vI s.1), (4, vI s.2)] [] SM σ
def E_X12_strengths_5 (M : Mx) (a0 : Nat) (x1 : Int32) (x2 : Int32) (σ : Dt) : Int32 → Prop := (fun w => G M 0 0 48 [(3, vI w)] [] SM σ)
def f_X12_strengths_40 (a0 : Nat) (x1 : Int32) (x2 : Int32) (x4 : Int32) (k0 : Int32) (k1 : Int32) (σ : Dt) : Option ((Int32 × Int32) ⊕ Int32) := some (.inl ((k0 + k1), (x4 + (1 : Int32))))
theorem t_X12_strengths_40 {M : Mx} {l0 : Launch} (O : Ok M cX12_strengths yX12_strengths) (R0 : Rm M l0 3 101 0 0) (N : Ma M = false) (hn : Mn M = 5)  (a0 : Nat) (x1 : Int32) (x2 : Int32) (x4 : Int32) (k0 : Int32) (k1 : Int32) (σ : Dt) (o : ((Int32 × Int32) ⊕ Int32)) (h : f_X12_strengths_40 a0 x1 x2 x4 k0 k1 σ = some o) (K : kon (P_X12_strengths_5 M a0 x1 x2 σ) (E_X12_strengths_5 M a0 x1 x2 σ) o) : G M 0 0 40 [(0, vA (some a0)), (1, vI x1), (2, vI x2), (4, vI x4)] [vI k1, vI k0] SM σ := by
  unfold f_X12_strengths_40 at h
  refine g_iadd O dX12_strengths_40 ?_
  refine g_istore_n (lv' := [(3, vI (k0 + k1)), (0, vA (some a0)), (1, vI x1), (2, vI x2), (4, vI x4)]) O dX12_strengths_41 rfl 5 hn (by decide) rfl ?_
  refine g_iinc (v := (x4 + (1 : Int32))) (lv' := [(4, vI (x4 + (1 : Int32))), (3, vI (k0 + k1)), (0, vA (some a0)), (1, vI x1), (2, vI x2)]) O dX12_strengths_42 5 hn (by decide) 4 rfl rfl rfl ?_
  refine g_goto O dX12_strengths_45 rfl ?_
  refine g_sub [2, 3, 4, 1, 0] (lv' := [(0, vA (some a0)), (1, vI x1), (2, vI x2), (3, vI (k0 + k1)), (4, vI (x4 + (1 : Int32)))]) rfl ?_
  cases h
  exact K
def f_X12_strengths_39 (a0 : Nat) (x1 : Int32) (x2 : Int32) (x4 : Int32) (k0 : Int32) (σ : Dt) : Option ((Int32 × Int32) ⊕ Int32) := f_X12_strengths_40 a0 x1 x2 x4 k0 (0 : Int32) σ
theorem t_X12_strengths_39 {M : Mx} {l0 : Launch} (O : Ok M cX12_strengths yX12_strengths) (R0 : Rm M l0 3 101 0 0) (N : Ma M = false) (hn : Mn M = 5)  (a0 : Nat) (x1 : Int32) (x2 : Int32) (x4 : Int32) (k0 : Int32) (σ : Dt) (o : ((Int32 × Int32) ⊕ Int32)) (h : f_X12_strengths_39 a0 x1 x2 x4 k0 σ = some o) (K : kon (P_X12_strengths_5 M a0 x1 x2 σ) (E_X12_strengths_5 M a0 x1 x2 σ) o) : G M 0 0 39 [(0, vA (some a0)), (1, vI x1), (2, vI x2), (4, vI x4)] [vI k0] SM σ := by
  unfold f_X12_strengths_39 at h
  refine g_iconst (v := (0 : Int32)) O dX12_strengths_39 rfl ?_
  exact t_X12_strengths_40 O R0 N hn a0 x1 x2 x4 k0 (0 : Int32) σ o h K
def f_X12_strengths_L5 (a0 : Nat) (x1 : Int32) (x2 : Int32) (x3 : Int32) (x4 : Int32) (σ : Dt) : Option ((Int32 × Int32) ⊕ Int32) := bo (xgi SM 12 12 (some a0) σ) fun v1 => if v1 ≤ x4 then some (.inr x3) else bo (f_X12_isAmong x1 x4 σ) fun v4 => if v4 = 0 then f_X12_strengths_39 a0 x1 x2 x4 x3 σ else if x4 = x2 then f_X12_strengths_39 a0 x1 x2 x4 x3 σ else bo (xrc SM 12 (some a0)) fun a8 => bo (f_X12_strengthOf a8 x4 σ) fun v10 => f_X12_strengths_40 a0 x1 x2 x4 x3 v10 σ
theorem t_X12_strengths_L5 {M : Mx} {l0 : Launch} (O : Ok M cX12_strengths yX12_strengths) (R0 : Rm M l0 3 101 0 0) (N : Ma M = false) (hn : Mn M = 5) (a0 : Nat) (x1 : Int32) (x2 : Int32) (x3 : Int32) (x4 : Int32) (σ : Dt) (o : ((Int32 × Int32) ⊕ Int32)) (h : f_X12_strengths_L5 a0 x1 x2 x3 x4 σ = some o) (K : kon (P_X12_strengths_5 M a0 x1 x2 σ) (E_X12_strengths_5 M a0 x1 x2 σ) o) : G M 0 0 5 [(0, vA (some a0)), (1, vI x1), (2, vI x2), (3, vI x3), (4, vI x4)] [] SM σ := by
  unfold f_X12_strengths_L5 at h
  refine g_iload O dX12_strengths_5 4 rfl ?_
  refine g_aload_n O dX12_strengths_7 rfl 0 rfl ?_
  obtain ⟨v1, e2, h⟩ := bo_some h
  refine g_getI O dX12_strengths_8 fl_X12_211 rfl e2 ?_
  refine g_icmp_ge O dX12_strengths_11 rfl (fun c3 => ?_) (fun c3 => ?_)
  · replace h := (if_pos c3).symm.trans h
    refine g_sub [3] (lv' := [(3, vI x3)]) rfl ?_
    cases h
    exact K
  · replace h := (if_neg c3).symm.trans h
    refine g_iload_n O dX12_strengths_14 rfl 3 rfl ?_
    refine g_iload_n O dX12_strengths_15 rfl 1 rfl ?_
    refine g_iload O dX12_strengths_16 4 rfl ?_
    obtain ⟨v4, e5, h⟩ := bo_some h
    refine g_cS1 O R0 N dX12_strengths_18 vl_X12_235 w1766 [vI x1, vI x4] rfl rfl rfl ⟨Nat.le_of_ble_eq_true rfl, Nat.le_of_ble_eq_true rfl⟩ (c_X12_isAmong l0 x1 x4 σ v4 e5) ?_
    refine g_if_eq O dX12_strengths_21 rfl (fun c6 => ?_) (fun c6 => ?_)
    · replace h := (if_pos c6).symm.trans h
      refine g_sub [0, 1, 2, 4] (lv' := [(0, vA (some a0)), (1, vI x1), (2, vI x2), (4, vI x4)]) rfl ?_
      exact t_X12_strengths_39 O R0 N hn a0 x1 x2 x4 x3 σ o h K
    · replace h := (if_neg c6).symm.trans h
      refine g_iload O dX12_strengths_24 4 rfl ?_
      refine g_iload_n O dX12_strengths_26 rfl 2 rfl ?_
      refine g_icmp_eq O dX12_strengths_27 rfl (fun c7 => ?_) (fun c7 => ?_)
      · replace h := (if_pos c7).symm.trans h
        refine g_sub [0, 1, 2, 4] (lv' := [(0, vA (some a0)), (1, vI x1), (2, vI x2), (4, vI x4)]) rfl ?_
        exact t_X12_strengths_39 O R0 N hn a0 x1 x2 x4 x3 σ o h K
      · replace h := (if_neg c7).symm.trans h
        refine g_aload_n O dX12_strengths_30 rfl 0 rfl ?_
        refine g_iload O dX12_strengths_31 4 rfl ?_
        obtain ⟨a8, e9, h⟩ := bo_some h
        obtain ⟨v10, e11, h⟩ := bo_some h
        refine g_cV1 O R0 N dX12_strengths_33 vl_X12_238 vv_X12_strengthOf e9 [vI x4] rfl rfl rfl ⟨Nat.le_of_ble_eq_true rfl, Nat.le_of_ble_eq_true rfl⟩ (c_X12_strengthOf l0 a8 x4 σ v10 e11) ?_
        refine g_goto O dX12_strengths_36 rfl ?_
        refine g_sub [0, 1, 2, 4] (lv' := [(0, vA (some a0)), (1, vI x1), (2, vI x2), (4, vI x4)]) rfl ?_
        exact t_X12_strengths_40 O R0 N hn a0 x1 x2 x4 x3 v10 σ o h K
def f_X12_strengths (a0 : Nat) (x1 : Int32) (x2 : Int32) (σ : Dt) : Option Int32 := bo (iter FU (fun s => f_X12_strengths_L5 a0 x1 x2 s.1 s.2 σ) ((0 : Int32), (0 : Int32))) fun w1 => some w1
theorem t_X12_strengths {M : Mx} {l0 : Launch} (O : Ok M cX12_strengths yX12_strengths) (R0 : Rm M l0 3 101 0 0) (N : Ma M = false) (hn : Mn M = 5) (a0 : Nat) (x1 : Int32) (x2 : Int32) (σ : Dt) (o : Int32) (h : f_X12_strengths a0 x1 x2 σ = some o) (K : Fin' M (some .int) 0 0 SM σ (some (vI o))) : G M 0 0 0 [(0, vA (some a0)), (1, vI x1), (2, vI x2)] [] SM σ := by
  unfold f_X12_strengths at h
  refine g_iconst (v := (0 : Int32)) O dX12_strengths_0 rfl ?_
  refine g_istore_n (lv' := [(3, vI (0 : Int32)), (0, vA (some a0)), (1, vI x1), (2, vI x2)]) O dX12_strengths_1 rfl 5 hn (by decide) rfl ?_
  refine g_iconst (v := (0 : Int32)) O dX12_strengths_2 rfl ?_
  refine g_istore (lv' := [(4, vI (0 : Int32)), (3, vI (0 : Int32)), (0, vA (some a0)), (1, vI x1), (2, vI x2)]) O dX12_strengths_3 5 hn (by decide) rfl ?_
  refine g_sub [2, 3, 4, 1, 0] (lv' := [(0, vA (some a0)), (1, vI x1), (2, vI x2), (3, vI (0 : Int32)), (4, vI (0 : Int32))]) rfl ?_
  obtain ⟨w1, e2, h⟩ := bo_some h
  refine iter_G (P := P_X12_strengths_5 M a0 x1 x2 σ) (E := E_X12_strengths_5 M a0 x1 x2 σ) (fun s o hb hk => t_X12_strengths_L5 O R0 N hn a0 x1 x2 s.1 s.2 σ o hb hk) FU ((0 : Int32), (0 : Int32)) w1 e2 ?_
  show G M 0 0 48 [(3, vI w1)] [] SM σ
  refine g_iload_n O dX12_strengths_48 rfl 0 rfl ?_
  cases h
  exact g_ireturn O K dX12_strengths_49
theorem c_X12_strengths (l0 : Launch) (a0 : Nat) (x1 : Int32) (x2 : Int32) (σ : Dt) (r : Int32) (h : f_X12_strengths a0 x1 x2 σ = some r) : Ctr l0 yX12_strengths cX12_strengths 5 (some .int) false 3 101 0 0 [vA (some a0), vI x1, vI x2] SM σ SM σ (some (vI r)) := ctr_of (by decide) (Nat.le_of_ble_eq_true rfl) (fun M O F R0 N hn => t_X12_strengths O R0 N hn a0 x1 x2 σ r h F)
def f_X12_keeps_32  (σ : Dt) : Option Int32 := some (0 : Int32)
theorem t_X12_keeps_32 {M : Mx} {l0 : Launch} (O : Ok M cX12_keeps yX12_keeps) (R0 : Rm M l0 4 125 0 0) (N : Ma M = false) (hn : Mn M = 4)   (σ : Dt) (o : Int32) (h : f_X12_keeps_32 σ = some o) (K : Fin' M (some .boolean) 0 0 SM σ (some (vI o))) : G M 0 0 32 [] [] SM σ := by
  unfold f_X12_keeps_32 at h
  refine g_iconst (v := (0 : Int32)) O dX12_keeps_32 rfl ?_
  cases h
  exact g_zreturn O (by decide) K dX12_keeps_33
def f_X12_keeps (a0 : Nat) (x1 : Int32) (x2 : Int32) (x3 : Int32) (σ : Dt) : Option Int32 := bo (xrc SM 12 (some a0)) fun a1 => bo (f_X12_isSmall a1 x1 σ) fun v3 => if v3 = 0 then f_X12_keeps_32 σ else bo (xrc SM 12 (some a0)) fun a6 => bo (f_X12_elderOf a6 x1 σ) fun v8 => bo (xrc SM 12 (some a0)) fun a10 => bo (f_X12_strengths a10 v8 (-1 : Int32) σ) fun v12 => bo (xrc SM 12 (some a0)) fun a14 => bo (f_X12_muchOf a14 x2 σ) fun v16 => if (x3 * v12) < v16 then f_X12_keeps_32 σ else some (1 : Int32)
theorem t_X12_keeps {M : Mx} {l0 : Launch} (O : Ok M cX12_keeps yX12_keeps) (R0 : Rm M l0 4 125 0 0) (N : Ma M = false) (hn : Mn M = 4) (a0 : Nat) (x1 : Int32) (x2 : Int32) (x3 : Int32) (σ : Dt) (o : Int32) (h : f_X12_keeps a0 x1 x2 x3 σ = some o) (K : Fin' M (some .boolean) 0 0 SM σ (some (vI o))) : G M 0 0 0 [(0, vA (some a0)), (1, vI x1), (2, vI x2), (3, vI x3)] [] SM σ := by
  unfold f_X12_keeps at h
  refine g_aload_n O dX12_keeps_0 rfl 0 rfl ?_
  refine g_iload_n O dX12_keeps_1 rfl 1 rfl ?_
  obtain ⟨a1, e2, h⟩ := bo_some h
  obtain ⟨v3, e4, h⟩ := bo_some h
  refine g_cV1 O R0 N dX12_keeps_2 vl_X12_241 vv_X12_isSmall e2 [vI x1] rfl rfl rfl ⟨Nat.le_of_ble_eq_true rfl, Nat.le_of_ble_eq_true rfl⟩ (c_X12_isSmall l0 a1 x1 σ v3 e4) ?_
  refine g_if_eq O dX12_keeps_5 rfl (fun c5 => ?_) (fun c5 => ?_)
  · replace h := (if_pos c5).symm.trans h
    refine g_sub [] (lv' := []) rfl ?_
    exact t_X12_keeps_32 O R0 N hn σ o h K
  · replace h := (if_neg c5).symm.trans h
    refine g_iload_n O dX12_keeps_8 rfl 3 rfl ?_
    refine g_aload_n O dX12_keeps_9 rfl 0 rfl ?_
    refine g_aload_n O dX12_keeps_10 rfl 0 rfl ?_
    refine g_iload_n O dX12_keeps_11 rfl 1 rfl ?_
    obtain ⟨a6, e7, h⟩ := bo_some h
    obtain ⟨v8, e9, h⟩ := bo_some h
    refine g_cV1 O R0 N dX12_keeps_12 vl_X12_244 vv_X12_elderOf e7 [vI x1] rfl rfl rfl ⟨Nat.le_of_ble_eq_true rfl, Nat.le_of_ble_eq_true rfl⟩ (c_X12_elderOf l0 a6 x1 σ v8 e9) ?_
    refine g_iconst (v := (-1 : Int32)) O dX12_keeps_15 rfl ?_
    obtain ⟨a10, e11, h⟩ := bo_some h
    obtain ⟨v12, e13, h⟩ := bo_some h
    refine g_cV1 O R0 N dX12_keeps_16 vl_X12_247 vv_X12_strengths e11 [vI v8, vI (-1 : Int32)] rfl rfl rfl ⟨Nat.le_of_ble_eq_true rfl, Nat.le_of_ble_eq_true rfl⟩ (c_X12_strengths l0 a10 v8 (-1 : Int32) σ v12 e13) ?_
    refine g_imul O dX12_keeps_19 ?_
    refine g_aload_n O dX12_keeps_20 rfl 0 rfl ?_
    refine g_iload_n O dX12_keeps_21 rfl 2 rfl ?_
    obtain ⟨a14, e15, h⟩ := bo_some h
    obtain ⟨v16, e17, h⟩ := bo_some h
    refine g_cV1 O R0 N dX12_keeps_22 vl_X12_229 vv_X12_muchOf e15 [vI x2] rfl rfl rfl ⟨Nat.le_of_ble_eq_true rfl, Nat.le_of_ble_eq_true rfl⟩ (c_X12_muchOf l0 a14 x2 σ v16 e17) ?_
    refine g_icmp_lt O dX12_keeps_25 rfl (fun c18 => ?_) (fun c18 => ?_)
    · replace h := (if_pos c18).symm.trans h
      refine g_sub [] (lv' := []) rfl ?_
      exact t_X12_keeps_32 O R0 N hn σ o h K
    · replace h := (if_neg c18).symm.trans h
      refine g_iconst (v := (1 : Int32)) O dX12_keeps_28 rfl ?_
      refine g_goto O dX12_keeps_29 rfl ?_
      cases h
      exact g_zreturn O (by decide) K dX12_keeps_33
theorem c_X12_keeps (l0 : Launch) (a0 : Nat) (x1 : Int32) (x2 : Int32) (x3 : Int32) (σ : Dt) (r : Int32) (h : f_X12_keeps a0 x1 x2 x3 σ = some r) : Ctr l0 yX12_keeps cX12_keeps 4 (some .boolean) false 4 125 0 0 [vA (some a0), vI x1, vI x2, vI x3] SM σ SM σ (some (vI r)) := ctr_of (by decide) (Nat.le_of_ble_eq_true rfl) (fun M O F R0 N hn => t_X12_keeps O R0 N hn a0 x1 x2 x3 σ r h F)
def f_X12_mayKeep_47  (σ : Dt) : Option (Int32 × Dt) := some ((0 : Int32), σ)
theorem t_X12_mayKeep_47 {M : Mx} {l0 : Launch} (O : Ok M cX12_mayKeep yX12_mayKeep) (R0 : Rm M l0 5 145 0 0) (N : Ma M = false) (hn : Mn M = 5)   (σ : Dt) (o : (Int32 × Dt)) (h : f_X12_mayKeep_47 σ = some o) (K : Fin' M (some .boolean) 0 0 SM o.2 (some (vI o.1))) : G M 0 0 47 [] [] SM σ := by
  unfold f_X12_mayKeep_47 at h
  refine g_iconst (v := (0 : Int32)) O dX12_mayKeep_47 rfl ?_
  cases h
  exact g_zreturn O (by decide) K dX12_mayKeep_48
def f_X12_mayKeep (a0 : Nat) (x1 : Int32) (x2 : Int32) (x3 : Int32) (x4 : Int32) (σ : Dt) : Option (Int32 × Dt) := bo (xrc SM 12 (some a0)) fun a1 => bd (f_X12_isValley a1 x1 σ) fun v3 σ4 => if v3 = 0 then f_X12_mayKeep_47 σ4 else bo (xrc SM 12 (some a0)) fun a7 => bo (f_X12_isFolk a7 x2 σ4) fun v9 => if v9 = 0 then f_X12_mayKeep_47 σ4 else bo (xrc SM 12 (some a0)) fun a12 => bo (f_X12_isWork a12 x3 σ4) fun v14 => if v14 = 0 then f_X12_mayKeep_47 σ4 else bo (xrc SM 12 (some a0)) fun a17 => bo (f_X12_isSmall a17 x2 σ4) fun v19 => if v19 = 0 then f_X12_mayKeep_47 σ4 else bo (f_X12_isIn x4 (1 : Int32) (9 : Int32) σ4) fun v22 => if v22 = 0 then f_X12_mayKeep_47 σ4 else some ((1 : Int32), σ4)
theorem t_X12_mayKeep {M : Mx} {l0 : Launch} (O : Ok M cX12_mayKeep yX12_mayKeep) (R0 : Rm M l0 5 145 0 0) (N : Ma M = false) (hn : Mn M = 5) (a0 : Nat) (x1 : Int32) (x2 : Int32) (x3 : Int32) (x4 : Int32) (σ : Dt) (o : (Int32 × Dt)) (h : f_X12_mayKeep a0 x1 x2 x3 x4 σ = some o) (K : Fin' M (some .boolean) 0 0 SM o.2 (some (vI o.1))) : G M 0 0 0 [(0, vA (some a0)), (1, vI x1), (2, vI x2), (3, vI x3), (4, vI x4)] [] SM σ := by
  unfold f_X12_mayKeep at h
  refine g_aload_n O dX12_mayKeep_0 rfl 0 rfl ?_
  refine g_iload_n O dX12_mayKeep_1 rfl 1 rfl ?_
  obtain ⟨a1, e2, h⟩ := bo_some h
  obtain ⟨v3, σ4, e5, h⟩ := bd_some h
  refine g_cV1 O R0 N dX12_mayKeep_2 vl_X12_220 vv_X12_isValley e2 [vI x1] rfl rfl rfl ⟨Nat.le_of_ble_eq_true rfl, Nat.le_of_ble_eq_true rfl⟩ (c_X12_isValley l0 a1 x1 σ v3 σ4 e5) ?_
  refine g_if_eq O dX12_mayKeep_5 rfl (fun c6 => ?_) (fun c6 => ?_)
  · replace h := (if_pos c6).symm.trans h
    refine g_sub [] (lv' := []) rfl ?_
    exact t_X12_mayKeep_47 O R0 N hn σ4 o h K
  · replace h := (if_neg c6).symm.trans h
    refine g_aload_n O dX12_mayKeep_8 rfl 0 rfl ?_
    refine g_iload_n O dX12_mayKeep_9 rfl 2 rfl ?_
    obtain ⟨a7, e8, h⟩ := bo_some h
    obtain ⟨v9, e10, h⟩ := bo_some h
    refine g_cV1 O R0 N dX12_mayKeep_10 vl_X12_223 vv_X12_isFolk e8 [vI x2] rfl rfl rfl ⟨Nat.le_of_ble_eq_true rfl, Nat.le_of_ble_eq_true rfl⟩ (c_X12_isFolk l0 a7 x2 σ4 v9 e10) ?_
    refine g_if_eq O dX12_mayKeep_13 rfl (fun c11 => ?_) (fun c11 => ?_)
    · replace h := (if_pos c11).symm.trans h
      refine g_sub [] (lv' := []) rfl ?_
      exact t_X12_mayKeep_47 O R0 N hn σ4 o h K
    · replace h := (if_neg c11).symm.trans h
      refine g_aload_n O dX12_mayKeep_16 rfl 0 rfl ?_
      refine g_iload_n O dX12_mayKeep_17 rfl 3 rfl ?_
      obtain ⟨a12, e13, h⟩ := bo_some h
      obtain ⟨v14, e15, h⟩ := bo_some h
      refine g_cV1 O R0 N dX12_mayKeep_18 vl_X12_226 vv_X12_isWork e13 [vI x3] rfl rfl rfl ⟨Nat.le_of_ble_eq_true rfl, Nat.le_of_ble_eq_true rfl⟩ (c_X12_isWork l0 a12 x3 σ4 v14 e15) ?_
      refine g_if_eq O dX12_mayKeep_21 rfl (fun c16 => ?_) (fun c16 => ?_)
      · replace h := (if_pos c16).symm.trans h
        refine g_sub [] (lv' := []) rfl ?_
        exact t_X12_mayKeep_47 O R0 N hn σ4 o h K
      · replace h := (if_neg c16).symm.trans h
        refine g_aload_n O dX12_mayKeep_24 rfl 0 rfl ?_
        refine g_iload_n O dX12_mayKeep_25 rfl 2 rfl ?_
        obtain ⟨a17, e18, h⟩ := bo_some h
        obtain ⟨v19, e20, h⟩ := bo_some h
        refine g_cV1 O R0 N dX12_mayKeep_26 vl_X12_241 vv_X12_isSmall e18 [vI x2] rfl rfl rfl ⟨Nat.le_of_ble_eq_true rfl, Nat.le_of_ble_eq_true rfl⟩ (c_X12_isSmall l0 a17 x2 σ4 v19 e20) ?_
        refine g_if_eq O dX12_mayKeep_29 rfl (fun c21 => ?_) (fun c21 => ?_)
        · replace h := (if_pos c21).symm.trans h
          refine g_sub [] (lv' := []) rfl ?_
          exact t_X12_mayKeep_47 O R0 N hn σ4 o h K
        · replace h := (if_neg c21).symm.trans h
          refine g_iload O dX12_mayKeep_32 4 rfl ?_
          refine g_iconst (v := (1 : Int32)) O dX12_mayKeep_34 rfl ?_
          refine g_bipush (v := (9 : Int32)) O dX12_mayKeep_35 rfl ?_
          obtain ⟨v22, e23, h⟩ := bo_some h
          refine g_cS1 O R0 N dX12_mayKeep_37 vl_X12_146 w1616 [vI x4, vI (1 : Int32), vI (9 : Int32)] rfl rfl rfl ⟨Nat.le_of_ble_eq_true rfl, Nat.le_of_ble_eq_true rfl⟩ (c_X12_isIn l0 x4 (1 : Int32) (9 : Int32) σ4 v22 e23) ?_
          refine g_if_eq O dX12_mayKeep_40 rfl (fun c24 => ?_) (fun c24 => ?_)
          · replace h := (if_pos c24).symm.trans h
            refine g_sub [] (lv' := []) rfl ?_
            exact t_X12_mayKeep_47 O R0 N hn σ4 o h K
          · replace h := (if_neg c24).symm.trans h
            refine g_iconst (v := (1 : Int32)) O dX12_mayKeep_43 rfl ?_
            refine g_goto O dX12_mayKeep_44 rfl ?_
            cases h
            exact g_zreturn O (by decide) K dX12_mayKeep_48
theorem c_X12_mayKeep (l0 : Launch) (a0 : Nat) (x1 : Int32) (x2 : Int32) (x3 : Int32) (x4 : Int32) (σ : Dt) (r : Int32) (σ' : Dt) (h : f_X12_mayKeep a0 x1 x2 x3 x4 σ = some (r, σ')) : Ctr l0 yX12_mayKeep cX12_mayKeep 5 (some .boolean) false 5 145 0 0 [vA (some a0), vI x1, vI x2, vI x3, vI x4] SM σ SM σ' (some (vI r)) := ctr_of (by decide) (Nat.le_of_ble_eq_true rfl) (fun M O F R0 N hn => t_X12_mayKeep O R0 N hn a0 x1 x2 x3 x4 σ (r, σ') h F)
def f_X12_keep (a0 : Nat) (x1 : Int32) (x2 : Int32) (x3 : Int32) (x4 : Int32) (σ : Dt) : Option (Int32 × Dt) := bo (xrc SM 12 (some a0)) fun a1 => bd (f_X12_mayKeep a1 x1 x2 x3 x4 σ) fun v3 σ4 => if v3 = 0 then some ((-1 : Int32), σ4) else bo (xrc SM 12 (some a0)) fun a7 => bo (f_X12_keeps a7 x2 x3 x4 σ4) fun v9 => if v9 = 0 then some ((0 : Int32), σ4) else some ((1 : Int32), σ4)
theorem t_X12_keep {M : Mx} {l0 : Launch} (O : Ok M cX12_keep yX12_keep) (R0 : Rm M l0 6 169 0 0) (N : Ma M = false) (hn : Mn M = 5) (a0 : Nat) (x1 : Int32) (x2 : Int32) (x3 : Int32) (x4 : Int32) (σ : Dt) (o : (Int32 × Dt)) (h : f_X12_keep a0 x1 x2 x3 x4 σ = some o) (K : Fin' M (some .int) 0 0 SM o.2 (some (vI o.1))) : G M 0 0 0 [(0, vA (some a0)), (1, vI x1), (2, vI x2), (3, vI x3), (4, vI x4)] [] SM σ := by
  unfold f_X12_keep at h
  refine g_aload_n O dX12_keep_0 rfl 0 rfl ?_
  refine g_iload_n O dX12_keep_1 rfl 1 rfl ?_
  refine g_iload_n O dX12_keep_2 rfl 2 rfl ?_
  refine g_iload_n O dX12_keep_3 rfl 3 rfl ?_
  refine g_iload O dX12_keep_4 4 rfl ?_
  obtain ⟨a1, e2, h⟩ := bo_some h
  obtain ⟨v3, σ4, e5, h⟩ := bd_some h
  refine g_cV1 O R0 N dX12_keep_6 vl_X12_250 vv_X12_mayKeep e2 [vI x1, vI x2, vI x3, vI x4] rfl rfl rfl ⟨Nat.le_of_ble_eq_true rfl, Nat.le_of_ble_eq_true rfl⟩ (c_X12_mayKeep l0 a1 x1 x2 x3 x4 σ v3 σ4 e5) ?_
  refine g_if_ne O dX12_keep_9 rfl (fun c6 => ?_) (fun c6 => ?_)
  · replace h := (if_pos c6).symm.trans h
    refine g_iconst (v := (-1 : Int32)) O dX12_keep_12 rfl ?_
    cases h
    exact g_ireturn O K dX12_keep_13
  · replace h := (if_neg c6).symm.trans h
    refine g_aload_n O dX12_keep_14 rfl 0 rfl ?_
    refine g_iload_n O dX12_keep_15 rfl 2 rfl ?_
    refine g_iload_n O dX12_keep_16 rfl 3 rfl ?_
    refine g_iload O dX12_keep_17 4 rfl ?_
    obtain ⟨a7, e8, h⟩ := bo_some h
    obtain ⟨v9, e10, h⟩ := bo_some h
    refine g_cV1 O R0 N dX12_keep_19 vl_X12_254 vv_X12_keeps e8 [vI x2, vI x3, vI x4] rfl rfl rfl ⟨Nat.le_of_ble_eq_true rfl, Nat.le_of_ble_eq_true rfl⟩ (c_X12_keeps l0 a7 x2 x3 x4 σ4 v9 e10) ?_
    refine g_if_eq O dX12_keep_22 rfl (fun c11 => ?_) (fun c11 => ?_)
    · replace h := (if_pos c11).symm.trans h
      refine g_iconst (v := (0 : Int32)) O dX12_keep_29 rfl ?_
      cases h
      exact g_ireturn O K dX12_keep_30
    · replace h := (if_neg c11).symm.trans h
      refine g_iconst (v := (1 : Int32)) O dX12_keep_25 rfl ?_
      refine g_goto O dX12_keep_26 rfl ?_
      cases h
      exact g_ireturn O K dX12_keep_30
theorem c_X12_keep (l0 : Launch) (a0 : Nat) (x1 : Int32) (x2 : Int32) (x3 : Int32) (x4 : Int32) (σ : Dt) (r : Int32) (σ' : Dt) (h : f_X12_keep a0 x1 x2 x3 x4 σ = some (r, σ')) : Ctr l0 yX12_keep cX12_keep 5 (some .int) false 6 169 0 0 [vA (some a0), vI x1, vI x2, vI x3, vI x4] SM σ SM σ' (some (vI r)) := ctr_of (by decide) (Nat.le_of_ble_eq_true rfl) (fun M O F R0 N hn => t_X12_keep O R0 N hn a0 x1 x2 x3 x4 σ (r, σ') h F)
def P_X12_soon_16 (M : Mx) (a0 : Nat) (x2 : Int32) (x3 : Int32) (σ : Dt) (s : Int32) : Prop := G M 0 0 16 [(0, vA (some a0)), (2, vI x2), (3, vI x3), (4, vI s)] [] SM σ
def E_X12_soon_16 (M : Mx) (a0 : Nat) (x2 : Int32) (x3 : Int32) (σ : Dt) : Int32 → Prop := (fun w => G M 0 0 40 [(4, vI w)] [] SM σ)
def f_X12_soon_L16 (a0 : Nat) (x2 : Int32) (x3 : Int32) (x4 : Int32) (σ : Dt) : Option (Int32 ⊕ Int32) := if (10 : Int32) ≤ x4 then some (.inr x4) else bo (xrc SM 12 (some a0)) fun a2 => bo (f_X12_keeps a2 x2 x3 x4 σ) fun v4 => if v4 = 0 then some (.inl (x4 + (1 : Int32))) else some (.inr x4)
theorem t_X12_soon_L16 {M : Mx} {l0 : Launch} (O : Ok M cX12_soon yX12_soon) (R0 : Rm M l0 6 169 0 0) (N : Ma M = false) (hn : Mn M = 5) (a0 : Nat) (x2 : Int32) (x3 : Int32) (x4 : Int32) (σ : Dt) (o : (Int32 ⊕ Int32)) (h : f_X12_soon_L16 a0 x2 x3 x4 σ = some o) (K : kon (P_X12_soon_16 M a0 x2 x3 σ) (E_X12_soon_16 M a0 x2 x3 σ) o) : G M 0 0 16 [(0, vA (some a0)), (2, vI x2), (3, vI x3), (4, vI x4)] [] SM σ := by
  unfold f_X12_soon_L16 at h
  refine g_iload O dX12_soon_16 3 rfl ?_
  refine g_bipush (v := (10 : Int32)) O dX12_soon_18 rfl ?_
  refine g_icmp_ge O dX12_soon_20 rfl (fun c1 => ?_) (fun c1 => ?_)
  · replace h := (if_pos c1).symm.trans h
    refine g_sub [3] (lv' := [(4, vI x4)]) rfl ?_
    cases h
    exact K
  · replace h := (if_neg c1).symm.trans h
    refine g_aload_n O dX12_soon_23 rfl 0 rfl ?_
    refine g_iload_n O dX12_soon_24 rfl 1 rfl ?_
    refine g_iload_n O dX12_soon_25 rfl 2 rfl ?_
    refine g_iload O dX12_soon_26 3 rfl ?_
    obtain ⟨a2, e3, h⟩ := bo_some h
    obtain ⟨v4, e5, h⟩ := bo_some h
    refine g_cV1 O R0 N dX12_soon_28 vl_X12_254 vv_X12_keeps e3 [vI x2, vI x3, vI x4] rfl rfl rfl ⟨Nat.le_of_ble_eq_true rfl, Nat.le_of_ble_eq_true rfl⟩ (c_X12_keeps l0 a2 x2 x3 x4 σ v4 e5) ?_
    refine g_if_ne O dX12_soon_31 rfl (fun c6 => ?_) (fun c6 => ?_)
    · replace h := (if_pos c6).symm.trans h
      refine g_iinc (v := (x4 + (1 : Int32))) (lv' := [(4, vI (x4 + (1 : Int32))), (0, vA (some a0)), (2, vI x2), (3, vI x3)]) O dX12_soon_34 5 hn (by decide) 3 rfl rfl rfl ?_
      refine g_goto O dX12_soon_37 rfl ?_
      refine g_sub [1, 2, 3, 0] (lv' := [(0, vA (some a0)), (2, vI x2), (3, vI x3), (4, vI (x4 + (1 : Int32)))]) rfl ?_
      cases h
      exact K
    · replace h := (if_neg c6).symm.trans h
      refine g_sub [3] (lv' := [(4, vI x4)]) rfl ?_
      cases h
      exact K
def f_X12_soon_40 (x4 : Int32) (σ : Dt) : Option (Int32 × Dt) := if (10 : Int32) ≤ x4 then some ((-1 : Int32), σ) else some (x4, σ)
theorem t_X12_soon_40 {M : Mx} {l0 : Launch} (O : Ok M cX12_soon yX12_soon) (R0 : Rm M l0 6 169 0 0) (N : Ma M = false) (hn : Mn M = 5)  (x4 : Int32) (σ : Dt) (o : (Int32 × Dt)) (h : f_X12_soon_40 x4 σ = some o) (K : Fin' M (some .int) 0 0 SM o.2 (some (vI o.1))) : G M 0 0 40 [(4, vI x4)] [] SM σ := by
  unfold f_X12_soon_40 at h
  refine g_iload O dX12_soon_40 0 rfl ?_
  refine g_bipush (v := (10 : Int32)) O dX12_soon_42 rfl ?_
  refine g_icmp_ge O dX12_soon_44 rfl (fun c1 => ?_) (fun c1 => ?_)
  · replace h := (if_pos c1).symm.trans h
    refine g_iconst (v := (-1 : Int32)) O dX12_soon_52 rfl ?_
    cases h
    exact g_ireturn O K dX12_soon_53
  · replace h := (if_neg c1).symm.trans h
    refine g_iload O dX12_soon_47 0 rfl ?_
    refine g_goto O dX12_soon_49 rfl ?_
    cases h
    exact g_ireturn O K dX12_soon_53
def f_X12_soon (a0 : Nat) (x1 : Int32) (x2 : Int32) (x3 : Int32) (σ : Dt) : Option (Int32 × Dt) := bo (xrc SM 12 (some a0)) fun a1 => bd (f_X12_mayKeep a1 x1 x2 x3 (1 : Int32) σ) fun v3 σ4 => if v3 = 0 then some ((-1 : Int32), σ4) else bo (iter FU (fun s => f_X12_soon_L16 a0 x2 x3 s σ4) (1 : Int32)) fun w7 => f_X12_soon_40 w7 σ4
theorem t_X12_soon {M : Mx} {l0 : Launch} (O : Ok M cX12_soon yX12_soon) (R0 : Rm M l0 6 169 0 0) (N : Ma M = false) (hn : Mn M = 5) (a0 : Nat) (x1 : Int32) (x2 : Int32) (x3 : Int32) (σ : Dt) (o : (Int32 × Dt)) (h : f_X12_soon a0 x1 x2 x3 σ = some o) (K : Fin' M (some .int) 0 0 SM o.2 (some (vI o.1))) : G M 0 0 0 [(0, vA (some a0)), (1, vI x1), (2, vI x2), (3, vI x3)] [] SM σ := by
  unfold f_X12_soon at h
  refine g_aload_n O dX12_soon_0 rfl 0 rfl ?_
  refine g_iload_n O dX12_soon_1 rfl 1 rfl ?_
  refine g_iload_n O dX12_soon_2 rfl 2 rfl ?_
  refine g_iload_n O dX12_soon_3 rfl 3 rfl ?_
  refine g_iconst (v := (1 : Int32)) O dX12_soon_4 rfl ?_
  obtain ⟨a1, e2, h⟩ := bo_some h
  obtain ⟨v3, σ4, e5, h⟩ := bd_some h
  refine g_cV1 O R0 N dX12_soon_5 vl_X12_250 vv_X12_mayKeep e2 [vI x1, vI x2, vI x3, vI (1 : Int32)] rfl rfl rfl ⟨Nat.le_of_ble_eq_true rfl, Nat.le_of_ble_eq_true rfl⟩ (c_X12_mayKeep l0 a1 x1 x2 x3 (1 : Int32) σ v3 σ4 e5) ?_
  refine g_if_ne O dX12_soon_8 rfl (fun c6 => ?_) (fun c6 => ?_)
  · replace h := (if_pos c6).symm.trans h
    refine g_iconst (v := (-1 : Int32)) O dX12_soon_11 rfl ?_
    cases h
    exact g_ireturn O K dX12_soon_12
  · replace h := (if_neg c6).symm.trans h
    refine g_iconst (v := (1 : Int32)) O dX12_soon_13 rfl ?_
    refine g_istore (lv' := [(4, vI (1 : Int32)), (0, vA (some a0)), (1, vI x1), (2, vI x2), (3, vI x3)]) O dX12_soon_14 5 hn (by decide) rfl ?_
    refine g_sub [1, 3, 4, 0] (lv' := [(0, vA (some a0)), (2, vI x2), (3, vI x3), (4, vI (1 : Int32))]) rfl ?_
    obtain ⟨w7, e8, h⟩ := bo_some h
    refine iter_G (P := P_X12_soon_16 M a0 x2 x3 σ4) (E := E_X12_soon_16 M a0 x2 x3 σ4) (fun s o hb hk => t_X12_soon_L16 O R0 N hn a0 x2 x3 s σ4 o hb hk) FU (1 : Int32) w7 e8 ?_
    show G M 0 0 40 [(4, vI w7)] [] SM σ4
    exact t_X12_soon_40 O R0 N hn w7 σ4 o h K
theorem c_X12_soon (l0 : Launch) (a0 : Nat) (x1 : Int32) (x2 : Int32) (x3 : Int32) (σ : Dt) (r : Int32) (σ' : Dt) (h : f_X12_soon a0 x1 x2 x3 σ = some (r, σ')) : Ctr l0 yX12_soon cX12_soon 5 (some .int) false 6 169 0 0 [vA (some a0), vI x1, vI x2, vI x3] SM σ SM σ' (some (vI r)) := ctr_of (by decide) (Nat.le_of_ble_eq_true rfl) (fun M O F R0 N hn => t_X12_soon O R0 N hn a0 x1 x2 x3 σ (r, σ') h F)
def P_X12_nth_4 (M : Mx) (x0 : Int32) (x1 : Int32) (σ : Dt) (s : (Int32 × Int32)) : Prop := G M 0 0 4 [(0, vI x0), (1, vI x1), (2, vI s.1), (3, vI s.2)] [] SM σ
def E_X12_nth_4 (M : Mx) (x0 : Int32) (x1 : Int32) (σ : Dt) : (Int32 ⊕ Unit) → Prop := (el (fun w => G M 0 0 26 [(3, vI w)] [] SM σ) (fun w => G M 0 0 37 [] [] SM σ))
def f_X12_nth_31 (x0 : Int32) (x1 : Int32) (x2 : Int32) (x3 : Int32) (σ : Dt) : Option ((Int32 × Int32) ⊕ (Int32 ⊕ Unit)) := some (.inl (x2, (x3 + (1 : Int32))))
theorem t_X12_nth_31 {M : Mx} {l0 : Launch} (O : Ok M cX12_nth yX12_nth) (R0 : Rm M l0 3 101 0 0) (N : Ma M = false) (hn : Mn M = 4)  (x0 : Int32) (x1 : Int32) (x2 : Int32) (x3 : Int32) (σ : Dt) (o : ((Int32 × Int32) ⊕ (Int32 ⊕ Unit))) (h : f_X12_nth_31 x0 x1 x2 x3 σ = some o) (K : kon (P_X12_nth_4 M x0 x1 σ) (E_X12_nth_4 M x0 x1 σ) o) : G M 0 0 31 [(0, vI x0), (1, vI x1), (2, vI x2), (3, vI x3)] [] SM σ := by
  unfold f_X12_nth_31 at h
  refine g_iinc (v := (x3 + (1 : Int32))) (lv' := [(3, vI (x3 + (1 : Int32))), (0, vI x0), (1, vI x1), (2, vI x2)]) O dX12_nth_31 4 hn (by decide) 3 rfl rfl rfl ?_
  refine g_goto O dX12_nth_34 rfl ?_
  refine g_sub [1, 2, 3, 0] (lv' := [(0, vI x0), (1, vI x1), (2, vI x2), (3, vI (x3 + (1 : Int32)))]) rfl ?_
  cases h
  exact K
def f_X12_nth_L4 (x0 : Int32) (x1 : Int32) (x2 : Int32) (x3 : Int32) (σ : Dt) : Option ((Int32 × Int32) ⊕ (Int32 ⊕ Unit)) := if (12 : Int32) ≤ x3 then some (.inr (.inr ())) else bo (f_X12_isAmong x0 x3 σ) fun v2 => if v2 = 0 then f_X12_nth_31 x0 x1 x2 x3 σ else if x2 = x1 then some (.inr (.inl x3)) else f_X12_nth_31 x0 x1 (x2 + (1 : Int32)) x3 σ
theorem t_X12_nth_L4 {M : Mx} {l0 : Launch} (O : Ok M cX12_nth yX12_nth) (R0 : Rm M l0 3 101 0 0) (N : Ma M = false) (hn : Mn M = 4) (x0 : Int32) (x1 : Int32) (x2 : Int32) (x3 : Int32) (σ : Dt) (o : ((Int32 × Int32) ⊕ (Int32 ⊕ Unit))) (h : f_X12_nth_L4 x0 x1 x2 x3 σ = some o) (K : kon (P_X12_nth_4 M x0 x1 σ) (E_X12_nth_4 M x0 x1 σ) o) : G M 0 0 4 [(0, vI x0), (1, vI x1), (2, vI x2), (3, vI x3)] [] SM σ := by
  unfold f_X12_nth_L4 at h
  refine g_iload_n O dX12_nth_4 rfl 3 rfl ?_
  refine g_bipush (v := (12 : Int32)) O dX12_nth_5 rfl ?_
  refine g_icmp_ge O dX12_nth_7 rfl (fun c1 => ?_) (fun c1 => ?_)
  · replace h := (if_pos c1).symm.trans h
    refine g_sub [] (lv' := []) rfl ?_
    cases h
    exact K
  · replace h := (if_neg c1).symm.trans h
    refine g_iload_n O dX12_nth_10 rfl 0 rfl ?_
    refine g_iload_n O dX12_nth_11 rfl 3 rfl ?_
    obtain ⟨v2, e3, h⟩ := bo_some h
    refine g_cS1 O R0 N dX12_nth_12 vl_X12_235 w1766 [vI x0, vI x3] rfl rfl rfl ⟨Nat.le_of_ble_eq_true rfl, Nat.le_of_ble_eq_true rfl⟩ (c_X12_isAmong l0 x0 x3 σ v2 e3) ?_
    refine g_if_ne O dX12_nth_15 rfl (fun c4 => ?_) (fun c4 => ?_)
    · replace h := (if_pos c4).symm.trans h
      refine g_goto O dX12_nth_18 rfl ?_
      exact t_X12_nth_31 O R0 N hn x0 x1 x2 x3 σ o h K
    · replace h := (if_neg c4).symm.trans h
      refine g_iload_n O dX12_nth_21 rfl 2 rfl ?_
      refine g_iload_n O dX12_nth_22 rfl 1 rfl ?_
      refine g_icmp_ne O dX12_nth_23 rfl (fun c5 => ?_) (fun c5 => ?_)
      · replace h := (if_pos c5).symm.trans h
        refine g_sub [3] (lv' := [(3, vI x3)]) rfl ?_
        cases h
        exact K
      · replace h := (if_neg c5).symm.trans h
        refine g_iinc (v := (x2 + (1 : Int32))) (lv' := [(2, vI (x2 + (1 : Int32))), (0, vI x0), (1, vI x1), (3, vI x3)]) O dX12_nth_28 4 hn (by decide) 2 rfl rfl rfl ?_
        refine g_sub [1, 2, 0, 3] (lv' := [(0, vI x0), (1, vI x1), (2, vI (x2 + (1 : Int32))), (3, vI x3)]) rfl ?_
        exact t_X12_nth_31 O R0 N hn x0 x1 (x2 + (1 : Int32)) x3 σ o h K
def f_X12_nth (x0 : Int32) (x1 : Int32) (σ : Dt) : Option Int32 := bo (iter FU (fun s => f_X12_nth_L4 x0 x1 s.1 s.2 σ) ((0 : Int32), (0 : Int32))) fun w1 => el (fun w3 => some w3) (fun w3 => some (-1 : Int32)) w1
theorem t_X12_nth {M : Mx} {l0 : Launch} (O : Ok M cX12_nth yX12_nth) (R0 : Rm M l0 3 101 0 0) (N : Ma M = false) (hn : Mn M = 4) (x0 : Int32) (x1 : Int32) (σ : Dt) (o : Int32) (h : f_X12_nth x0 x1 σ = some o) (K : Fin' M (some .int) 0 0 SM σ (some (vI o))) : G M 0 0 0 [(0, vI x0), (1, vI x1)] [] SM σ := by
  unfold f_X12_nth at h
  refine g_iconst (v := (0 : Int32)) O dX12_nth_0 rfl ?_
  refine g_istore_n (lv' := [(2, vI (0 : Int32)), (0, vI x0), (1, vI x1)]) O dX12_nth_1 rfl 4 hn (by decide) rfl ?_
  refine g_iconst (v := (0 : Int32)) O dX12_nth_2 rfl ?_
  refine g_istore_n (lv' := [(3, vI (0 : Int32)), (2, vI (0 : Int32)), (0, vI x0), (1, vI x1)]) O dX12_nth_3 rfl 4 hn (by decide) rfl ?_
  refine g_sub [2, 3, 1, 0] (lv' := [(0, vI x0), (1, vI x1), (2, vI (0 : Int32)), (3, vI (0 : Int32))]) rfl ?_
  obtain ⟨w1, e2, h⟩ := bo_some h
  refine iter_G (P := P_X12_nth_4 M x0 x1 σ) (E := E_X12_nth_4 M x0 x1 σ) (fun s o hb hk => t_X12_nth_L4 O R0 N hn x0 x1 s.1 s.2 σ o hb hk) FU ((0 : Int32), (0 : Int32)) w1 e2 ?_
  rcases w1 with w3 | w3
  · replace h := el_l h
    show G M 0 0 26 [(3, vI w3)] [] SM σ
    refine g_iload_n O dX12_nth_26 rfl 0 rfl ?_
    cases h
    exact g_ireturn O K dX12_nth_27
  · replace h := el_r h
    show G M 0 0 37 [] [] SM σ
    refine g_iconst (v := (-1 : Int32)) O dX12_nth_37 rfl ?_
    cases h
    exact g_ireturn O K dX12_nth_38
theorem c_X12_nth (l0 : Launch) (x0 : Int32) (x1 : Int32) (σ : Dt) (r : Int32) (h : f_X12_nth x0 x1 σ = some r) : Ctr l0 yX12_nth cX12_nth 4 (some .int) false 3 101 0 0 [vI x0, vI x1] SM σ SM σ (some (vI r)) := ctr_of (by decide) (Nat.le_of_ble_eq_true rfl) (fun M O F R0 N hn => t_X12_nth O R0 N hn x0 x1 σ r h F)
def P_X12_says_14 (M : Mx) (a0 : Nat) (x1 : Int32) (x2 : Int32) (x3 : Int32) (x4 : Int32) (x5 : Int32) (s : (Int32 × Dt)) : Prop := G M 0 0 14 [(0, vA (some a0)), (1, vI x1), (2, vI x2), (3, vI x3), (4, vI x4), (5, vI x5), (6, vI s.1)] [] SM s.2
def E_X12_says_14 (M : Mx) (a0 : Nat) (x1 : Int32) (x2 : Int32) (x3 : Int32) (x4 : Int32) (x5 : Int32) : Dt → Prop := (fun w => G M 0 0 35 [(0, vA (some a0)), (1, vI x1), (2, vI x2), (3, vI x3), (4, vI x4), (5, vI x5)] [] SM w)
def f_X12_says_L14 (a0 : Nat) (x1 : Int32) (x2 : Int32) (x3 : Int32) (x4 : Int32) (x5 : Int32) (x6 : Int32) (σ : Dt) : Option ((Int32 × Dt) ⊕ Dt) := if (6 : Int32) ≤ x6 then some (.inr σ) else bo (xgr SM 12 14 (some a0) σ) fun v2 => bo (xsi SM v2 x6 (-1 : Int32) σ) fun σ4 => some (.inl ((x6 + (1 : Int32)), σ4))
theorem t_X12_says_L14 {M : Mx} {l0 : Launch} (O : Ok M cX12_says yX12_says) (R0 : Rm M l0 5 148 0 0) (N : Ma M = false) (hn : Mn M = 7) (a0 : Nat) (x1 : Int32) (x2 : Int32) (x3 : Int32) (x4 : Int32) (x5 : Int32) (x6 : Int32) (σ : Dt) (o : ((Int32 × Dt) ⊕ Dt)) (h : f_X12_says_L14 a0 x1 x2 x3 x4 x5 x6 σ = some o) (K : kon (P_X12_says_14 M a0 x1 x2 x3 x4 x5) (E_X12_says_14 M a0 x1 x2 x3 x4 x5) o) : G M 0 0 14 [(0, vA (some a0)), (1, vI x1), (2, vI x2), (3, vI x3), (4, vI x4), (5, vI x5), (6, vI x6)] [] SM σ := by
  unfold f_X12_says_L14 at h
  refine g_iload O dX12_says_14 6 rfl ?_
  refine g_bipush (v := (6 : Int32)) O dX12_says_16 rfl ?_
  refine g_icmp_ge O dX12_says_18 rfl (fun c1 => ?_) (fun c1 => ?_)
  · replace h := (if_pos c1).symm.trans h
    refine g_sub [0, 1, 2, 3, 4, 5] (lv' := [(0, vA (some a0)), (1, vI x1), (2, vI x2), (3, vI x3), (4, vI x4), (5, vI x5)]) rfl ?_
    cases h
    exact K
  · replace h := (if_neg c1).symm.trans h
    refine g_aload_n O dX12_says_21 rfl 0 rfl ?_
    obtain ⟨v2, e3, h⟩ := bo_some h
    refine g_getR O dX12_says_22 fl_X12_20 rfl e3 ?_
    refine g_iload O dX12_says_25 6 rfl ?_
    refine g_iconst (v := (-1 : Int32)) O dX12_says_27 rfl ?_
    obtain ⟨σ4, e5, h⟩ := bo_some h
    refine g_iastore O dX12_says_28 e5 ?_
    refine g_iinc (v := (x6 + (1 : Int32))) (lv' := [(6, vI (x6 + (1 : Int32))), (0, vA (some a0)), (1, vI x1), (2, vI x2), (3, vI x3), (4, vI x4), (5, vI x5)]) O dX12_says_29 7 hn (by decide) 6 rfl rfl rfl ?_
    refine g_goto O dX12_says_32 rfl ?_
    refine g_sub [1, 2, 3, 4, 5, 6, 0] (lv' := [(0, vA (some a0)), (1, vI x1), (2, vI x2), (3, vI x3), (4, vI x4), (5, vI x5), (6, vI (x6 + (1 : Int32)))]) rfl ?_
    cases h
    exact K
def P_X12_says_84 (M : Mx) (a0 : Nat) (x1 : Int32) (x2 : Int32) (x3 : Int32) (x4 : Int32) (x5 : Int32) (σ : Dt) (s : Int32) : Prop := G M 0 0 84 [(0, vA (some a0)), (1, vI x1), (2, vI x2), (3, vI x3), (4, vI x4), (5, vI x5), (6, vI s)] [] SM σ
def E_X12_says_84 (M : Mx) (a0 : Nat) (x1 : Int32) (x2 : Int32) (x3 : Int32) (x4 : Int32) (x5 : Int32) (σ : Dt) : Int32 → Prop := (fun w => G M 0 0 125 [(0, vA (some a0)), (1, vI x1), (2, vI x2), (3, vI x3), (4, vI x4), (5, vI x5), (6, vI w)] [] SM σ)
def f_X12_says_119 (a0 : Nat) (x1 : Int32) (x2 : Int32) (x3 : Int32) (x4 : Int32) (x5 : Int32) (x6 : Int32) (σ : Dt) : Option (Int32 ⊕ Int32) := some (.inl (x6 + (1 : Int32)))
theorem t_X12_says_119 {M : Mx} {l0 : Launch} (O : Ok M cX12_says yX12_says) (R0 : Rm M l0 5 148 0 0) (N : Ma M = false) (hn : Mn M = 7)  (a0 : Nat) (x1 : Int32) (x2 : Int32) (x3 : Int32) (x4 : Int32) (x5 : Int32) (x6 : Int32) (σ : Dt) (o : (Int32 ⊕ Int32)) (h : f_X12_says_119 a0 x1 x2 x3 x4 x5 x6 σ = some o) (K : kon (P_X12_says_84 M a0 x1 x2 x3 x4 x5 σ) (E_X12_says_84 M a0 x1 x2 x3 x4 x5 σ) o) : G M 0 0 119 [(0, vA (some a0)), (1, vI x1), (2, vI x2), (3, vI x3), (4, vI x4), (5, vI x5), (6, vI x6)] [] SM σ := by
  unfold f_X12_says_119 at h
  refine g_iinc (v := (x6 + (1 : Int32))) (lv' := [(6, vI (x6 + (1 : Int32))), (0, vA (some a0)), (1, vI x1), (2, vI x2), (3, vI x3), (4, vI x4), (5, vI x5)]) O dX12_says_119 7 hn (by decide) 6 rfl rfl rfl ?_
  refine g_goto O dX12_says_122 rfl ?_
  refine g_sub [1, 2, 3, 4, 5, 6, 0] (lv' := [(0, vA (some a0)), (1, vI x1), (2, vI x2), (3, vI x3), (4, vI x4), (5, vI x5), (6, vI (x6 + (1 : Int32)))]) rfl ?_
  cases h
  exact K
def f_X12_says_L84 (a0 : Nat) (x1 : Int32) (x2 : Int32) (x3 : Int32) (x4 : Int32) (x5 : Int32) (x6 : Int32) (σ : Dt) : Option (Int32 ⊕ Int32) := bo (xgi SM 12 12 (some a0) σ) fun v1 => if v1 ≤ x6 then some (.inr x6) else bo (f_X12_isAmong x5 x6 σ) fun v4 => if v4 = 0 then bo (f_X12_nth x1 x4 σ) fun v7 => bo (xrc SM 12 (some a0)) fun a9 => bo (f_X12_keeps a9 x6 v7 x2 σ) fun v11 => if v11 = 0 then f_X12_says_119 a0 x1 x2 x3 x4 x5 x6 σ else some (.inr x6) else f_X12_says_119 a0 x1 x2 x3 x4 x5 x6 σ
theorem t_X12_says_L84 {M : Mx} {l0 : Launch} (O : Ok M cX12_says yX12_says) (R0 : Rm M l0 5 148 0 0) (N : Ma M = false) (hn : Mn M = 7) (a0 : Nat) (x1 : Int32) (x2 : Int32) (x3 : Int32) (x4 : Int32) (x5 : Int32) (x6 : Int32) (σ : Dt) (o : (Int32 ⊕ Int32)) (h : f_X12_says_L84 a0 x1 x2 x3 x4 x5 x6 σ = some o) (K : kon (P_X12_says_84 M a0 x1 x2 x3 x4 x5 σ) (E_X12_says_84 M a0 x1 x2 x3 x4 x5 σ) o) : G M 0 0 84 [(0, vA (some a0)), (1, vI x1), (2, vI x2), (3, vI x3), (4, vI x4), (5, vI x5), (6, vI x6)] [] SM σ := by
  unfold f_X12_says_L84 at h
  refine g_iload O dX12_says_84 6 rfl ?_
  refine g_aload_n O dX12_says_86 rfl 0 rfl ?_
  obtain ⟨v1, e2, h⟩ := bo_some h
  refine g_getI O dX12_says_87 fl_X12_211 rfl e2 ?_
  refine g_icmp_ge O dX12_says_90 rfl (fun c3 => ?_) (fun c3 => ?_)
  · replace h := (if_pos c3).symm.trans h
    cases h
    exact K
  · replace h := (if_neg c3).symm.trans h
    refine g_iload O dX12_says_93 5 rfl ?_
    refine g_iload O dX12_says_95 6 rfl ?_
    obtain ⟨v4, e5, h⟩ := bo_some h
    refine g_cS1 O R0 N dX12_says_97 vl_X12_235 w1766 [vI x5, vI x6] rfl rfl rfl ⟨Nat.le_of_ble_eq_true rfl, Nat.le_of_ble_eq_true rfl⟩ (c_X12_isAmong l0 x5 x6 σ v4 e5) ?_
    refine g_if_ne O dX12_says_100 rfl (fun c6 => ?_) (fun c6 => ?_)
    · replace h := (if_pos c6).symm.trans h
      refine g_aload_n O dX12_says_103 rfl 0 rfl ?_
      refine g_iload O dX12_says_104 6 rfl ?_
      refine g_iload_n O dX12_says_106 rfl 1 rfl ?_
      refine g_iload O dX12_says_107 4 rfl ?_
      obtain ⟨v7, e8, h⟩ := bo_some h
      refine g_cS1 O R0 N dX12_says_109 vl_X12_257 w1785 [vI x1, vI x4] rfl rfl rfl ⟨Nat.le_of_ble_eq_true rfl, Nat.le_of_ble_eq_true rfl⟩ (c_X12_nth l0 x1 x4 σ v7 e8) ?_
      refine g_iload_n O dX12_says_112 rfl 2 rfl ?_
      obtain ⟨a9, e10, h⟩ := bo_some h
      obtain ⟨v11, e12, h⟩ := bo_some h
      refine g_cV1 O R0 N dX12_says_113 vl_X12_254 vv_X12_keeps e10 [vI x6, vI v7, vI x2] rfl rfl rfl ⟨Nat.le_of_ble_eq_true rfl, Nat.le_of_ble_eq_true rfl⟩ (c_X12_keeps l0 a9 x6 v7 x2 σ v11 e12) ?_
      refine g_if_ne O dX12_says_116 rfl (fun c13 => ?_) (fun c13 => ?_)
      · replace h := (if_pos c13).symm.trans h
        exact t_X12_says_119 O R0 N hn a0 x1 x2 x3 x4 x5 x6 σ o h K
      · replace h := (if_neg c13).symm.trans h
        cases h
        exact K
    · replace h := (if_neg c6).symm.trans h
      exact t_X12_says_119 O R0 N hn a0 x1 x2 x3 x4 x5 x6 σ o h K
def P_X12_says_35 (M : Mx) (a0 : Nat) (x1 : Int32) (x2 : Int32) (x3 : Int32) (s : (Int32 × Int32 × Dt)) : Prop := G M 0 0 35 [(0, vA (some a0)), (1, vI x1), (2, vI x2), (3, vI x3), (4, vI s.1), (5, vI s.2.1)] [] SM s.2.2
def E_X12_says_35 (M : Mx) (a0 : Nat) (x1 : Int32) (x2 : Int32) (x3 : Int32) : (Int32 × Dt) → Prop := (fun w => G M 0 0 172 [(3, vI x3), (4, vI w.1)] [] SM w.2)
def f_X12_says_169 (a0 : Nat) (x1 : Int32) (x2 : Int32) (x3 : Int32) (x4 : Int32) (x5 : Int32) (σ : Dt) : Option ((Int32 × Int32 × Dt) ⊕ (Int32 × Dt)) := some (.inl (x4, x5, σ))
theorem t_X12_says_169 {M : Mx} {l0 : Launch} (O : Ok M cX12_says yX12_says) (R0 : Rm M l0 5 148 0 0) (N : Ma M = false) (hn : Mn M = 7)  (a0 : Nat) (x1 : Int32) (x2 : Int32) (x3 : Int32) (x4 : Int32) (x5 : Int32) (σ : Dt) (o : ((Int32 × Int32 × Dt) ⊕ (Int32 × Dt))) (h : f_X12_says_169 a0 x1 x2 x3 x4 x5 σ = some o) (K : kon (P_X12_says_35 M a0 x1 x2 x3) (E_X12_says_35 M a0 x1 x2 x3) o) : G M 0 0 169 [(0, vA (some a0)), (1, vI x1), (2, vI x2), (3, vI x3), (4, vI x4), (5, vI x5)] [] SM σ := by
  unfold f_X12_says_169 at h
  refine g_goto O dX12_says_169 rfl ?_
  cases h
  exact K
def f_X12_says_125 (a0 : Nat) (x1 : Int32) (x2 : Int32) (x3 : Int32) (x4 : Int32) (x5 : Int32) (x6 : Int32) (σ : Dt) : Option ((Int32 × Int32 × Dt) ⊕ (Int32 × Dt)) := bo (xgi SM 12 12 (some a0) σ) fun v1 => if x6 = v1 then bo (xgr SM 12 14 (some a0) σ) fun v4 => bo (xsi SM v4 x4 (-1 : Int32) σ) fun σ6 => f_X12_says_169 a0 x1 x2 x3 (x4 + (-1 : Int32)) x5 σ6 else bo (xgr SM 12 14 (some a0) σ) fun v8 => bo (xsi SM v8 x4 x6 σ) fun σ10 => f_X12_says_169 a0 x1 x2 x3 (x4 + (1 : Int32)) (x5 ||| ((1 : Int32) <<< (x6 &&& 31))) σ10
theorem t_X12_says_125 {M : Mx} {l0 : Launch} (O : Ok M cX12_says yX12_says) (R0 : Rm M l0 5 148 0 0) (N : Ma M = false) (hn : Mn M = 7)  (a0 : Nat) (x1 : Int32) (x2 : Int32) (x3 : Int32) (x4 : Int32) (x5 : Int32) (x6 : Int32) (σ : Dt) (o : ((Int32 × Int32 × Dt) ⊕ (Int32 × Dt))) (h : f_X12_says_125 a0 x1 x2 x3 x4 x5 x6 σ = some o) (K : kon (P_X12_says_35 M a0 x1 x2 x3) (E_X12_says_35 M a0 x1 x2 x3) o) : G M 0 0 125 [(0, vA (some a0)), (1, vI x1), (2, vI x2), (3, vI x3), (4, vI x4), (5, vI x5), (6, vI x6)] [] SM σ := by
  unfold f_X12_says_125 at h
  refine g_iload O dX12_says_125 6 rfl ?_
  refine g_aload_n O dX12_says_127 rfl 0 rfl ?_
  obtain ⟨v1, e2, h⟩ := bo_some h
  refine g_getI O dX12_says_128 fl_X12_211 rfl e2 ?_
  refine g_icmp_ne O dX12_says_131 rfl (fun c3 => ?_) (fun c3 => ?_)
  · replace h := (if_pos c3).symm.trans h
    refine g_aload_n O dX12_says_134 rfl 0 rfl ?_
    obtain ⟨v4, e5, h⟩ := bo_some h
    refine g_getR O dX12_says_135 fl_X12_20 rfl e5 ?_
    refine g_iload O dX12_says_138 4 rfl ?_
    refine g_iconst (v := (-1 : Int32)) O dX12_says_140 rfl ?_
    obtain ⟨σ6, e7, h⟩ := bo_some h
    refine g_iastore O dX12_says_141 e7 ?_
    refine g_iinc (v := (x4 + (-1 : Int32))) (lv' := [(4, vI (x4 + (-1 : Int32))), (0, vA (some a0)), (1, vI x1), (2, vI x2), (3, vI x3), (5, vI x5), (6, vI x6)]) O dX12_says_142 7 hn (by decide) 4 rfl rfl rfl ?_
    refine g_goto O dX12_says_145 rfl ?_
    refine g_sub [1, 2, 3, 4, 0, 5] (lv' := [(0, vA (some a0)), (1, vI x1), (2, vI x2), (3, vI x3), (4, vI (x4 + (-1 : Int32))), (5, vI x5)]) rfl ?_
    exact t_X12_says_169 O R0 N hn a0 x1 x2 x3 (x4 + (-1 : Int32)) x5 σ6 o h K
  · replace h := (if_neg c3).symm.trans h
    refine g_aload_n O dX12_says_148 rfl 0 rfl ?_
    obtain ⟨v8, e9, h⟩ := bo_some h
    refine g_getR O dX12_says_149 fl_X12_20 rfl e9 ?_
    refine g_iload O dX12_says_152 4 rfl ?_
    refine g_iload O dX12_says_154 6 rfl ?_
    obtain ⟨σ10, e11, h⟩ := bo_some h
    refine g_iastore O dX12_says_156 e11 ?_
    refine g_iload O dX12_says_157 5 rfl ?_
    refine g_iconst (v := (1 : Int32)) O dX12_says_159 rfl ?_
    refine g_iload O dX12_says_160 6 rfl ?_
    refine g_ishl O dX12_says_162 ?_
    refine g_ior O dX12_says_163 ?_
    refine g_istore (lv' := [(5, vI (x5 ||| ((1 : Int32) <<< (x6 &&& 31)))), (0, vA (some a0)), (1, vI x1), (2, vI x2), (3, vI x3), (4, vI x4), (6, vI x6)]) O dX12_says_164 7 hn (by decide) rfl ?_
    refine g_iinc (v := (x4 + (1 : Int32))) (lv' := [(4, vI (x4 + (1 : Int32))), (5, vI (x5 ||| ((1 : Int32) <<< (x6 &&& 31)))), (0, vA (some a0)), (1, vI x1), (2, vI x2), (3, vI x3), (6, vI x6)]) O dX12_says_166 7 hn (by decide) 5 rfl rfl rfl ?_
    refine g_sub [2, 3, 4, 5, 0, 1] (lv' := [(0, vA (some a0)), (1, vI x1), (2, vI x2), (3, vI x3), (4, vI (x4 + (1 : Int32))), (5, vI (x5 ||| ((1 : Int32) <<< (x6 &&& 31))))]) rfl ?_
    exact t_X12_says_169 O R0 N hn a0 x1 x2 x3 (x4 + (1 : Int32)) (x5 ||| ((1 : Int32) <<< (x6 &&& 31))) σ10 o h K
def f_X12_says_73 (a0 : Nat) (x1 : Int32) (x2 : Int32) (x3 : Int32) (x4 : Int32) (x5 : Int32) (σ : Dt) : Option ((Int32 × Int32 × Dt) ⊕ (Int32 × Dt)) := bo (xgr SM 12 14 (some a0) σ) fun v1 => bo (xai SM v1 x4 σ) fun v3 => bo (iter FU (fun s => f_X12_says_L84 a0 x1 x2 x3 x4 x5 s σ) (v3 + (1 : Int32))) fun w5 => f_X12_says_125 a0 x1 x2 x3 x4 x5 w5 σ
theorem t_X12_says_73 {M : Mx} {l0 : Launch} (O : Ok M cX12_says yX12_says) (R0 : Rm M l0 5 148 0 0) (N : Ma M = false) (hn : Mn M = 7)  (a0 : Nat) (x1 : Int32) (x2 : Int32) (x3 : Int32) (x4 : Int32) (x5 : Int32) (σ : Dt) (o : ((Int32 × Int32 × Dt) ⊕ (Int32 × Dt))) (h : f_X12_says_73 a0 x1 x2 x3 x4 x5 σ = some o) (K : kon (P_X12_says_35 M a0 x1 x2 x3) (E_X12_says_35 M a0 x1 x2 x3) o) : G M 0 0 73 [(0, vA (some a0)), (1, vI x1), (2, vI x2), (3, vI x3), (4, vI x4), (5, vI x5)] [] SM σ := by
  unfold f_X12_says_73 at h
  refine g_aload_n O dX12_says_73 rfl 0 rfl ?_
  obtain ⟨v1, e2, h⟩ := bo_some h
  refine g_getR O dX12_says_74 fl_X12_20 rfl e2 ?_
  refine g_iload O dX12_says_77 4 rfl ?_
  obtain ⟨v3, e4, h⟩ := bo_some h
  refine g_iaload O dX12_says_79 e4 ?_
  refine g_iconst (v := (1 : Int32)) O dX12_says_80 rfl ?_
  refine g_iadd O dX12_says_81 ?_
  refine g_istore (lv' := [(6, vI (v3 + (1 : Int32))), (0, vA (some a0)), (1, vI x1), (2, vI x2), (3, vI x3), (4, vI x4), (5, vI x5)]) O dX12_says_82 7 hn (by decide) rfl ?_
  refine g_sub [1, 2, 3, 4, 5, 6, 0] (lv' := [(0, vA (some a0)), (1, vI x1), (2, vI x2), (3, vI x3), (4, vI x4), (5, vI x5), (6, vI (v3 + (1 : Int32)))]) rfl ?_
  obtain ⟨w5, e6, h⟩ := bo_some h
  refine iter_G (P := P_X12_says_84 M a0 x1 x2 x3 x4 x5 σ) (E := E_X12_says_84 M a0 x1 x2 x3 x4 x5 σ) (fun s o hb hk => t_X12_says_L84 O R0 N hn a0 x1 x2 x3 x4 x5 s σ o hb hk) FU (v3 + (1 : Int32)) w5 e6 ?_
  show G M 0 0 125 [(0, vA (some a0)), (1, vI x1), (2, vI x2), (3, vI x3), (4, vI x4), (5, vI x5), (6, vI w5)] [] SM σ
  exact t_X12_says_125 O R0 N hn a0 x1 x2 x3 x4 x5 w5 σ o h K
def f_X12_says_L35 (a0 : Nat) (x1 : Int32) (x2 : Int32) (x3 : Int32) (x4 : Int32) (x5 : Int32) (σ : Dt) : Option ((Int32 × Int32 × Dt) ⊕ (Int32 × Dt)) := if x4 < 0 then some (.inr (x4, σ)) else if x3 ≤ x4 then some (.inr (x4, σ)) else bo (xgr SM 12 14 (some a0) σ) fun v3 => bo (xai SM v3 x4 σ) fun v5 => if v5 = (-1 : Int32) then f_X12_says_73 a0 x1 x2 x3 x4 x5 σ else bo (xgr SM 12 14 (some a0) σ) fun v8 => bo (xai SM v8 x4 σ) fun v10 => bo (some (x5 &&& (((1 : Int32) <<< (v10 &&& 31)) ^^^ (-1 : Int32)))) fun v12 => f_X12_says_73 a0 x1 x2 x3 x4 v12 σ
theorem t_X12_says_L35 {M : Mx} {l0 : Launch} (O : Ok M cX12_says yX12_says) (R0 : Rm M l0 5 148 0 0) (N : Ma M = false) (hn : Mn M = 7) (a0 : Nat) (x1 : Int32) (x2 : Int32) (x3 : Int32) (x4 : Int32) (x5 : Int32) (σ : Dt) (o : ((Int32 × Int32 × Dt) ⊕ (Int32 × Dt))) (h : f_X12_says_L35 a0 x1 x2 x3 x4 x5 σ = some o) (K : kon (P_X12_says_35 M a0 x1 x2 x3) (E_X12_says_35 M a0 x1 x2 x3) o) : G M 0 0 35 [(0, vA (some a0)), (1, vI x1), (2, vI x2), (3, vI x3), (4, vI x4), (5, vI x5)] [] SM σ := by
  unfold f_X12_says_L35 at h
  refine g_iload O dX12_says_35 4 rfl ?_
  refine g_if_lt O dX12_says_37 rfl (fun c1 => ?_) (fun c1 => ?_)
  · replace h := (if_pos c1).symm.trans h
    refine g_sub [3, 4] (lv' := [(3, vI x3), (4, vI x4)]) rfl ?_
    cases h
    exact K
  · replace h := (if_neg c1).symm.trans h
    refine g_iload O dX12_says_40 4 rfl ?_
    refine g_iload_n O dX12_says_42 rfl 3 rfl ?_
    refine g_icmp_ge O dX12_says_43 rfl (fun c2 => ?_) (fun c2 => ?_)
    · replace h := (if_pos c2).symm.trans h
      refine g_sub [3, 4] (lv' := [(3, vI x3), (4, vI x4)]) rfl ?_
      cases h
      exact K
    · replace h := (if_neg c2).symm.trans h
      refine g_aload_n O dX12_says_46 rfl 0 rfl ?_
      obtain ⟨v3, e4, h⟩ := bo_some h
      refine g_getR O dX12_says_47 fl_X12_20 rfl e4 ?_
      refine g_iload O dX12_says_50 4 rfl ?_
      obtain ⟨v5, e6, h⟩ := bo_some h
      refine g_iaload O dX12_says_52 e6 ?_
      refine g_iconst (v := (-1 : Int32)) O dX12_says_53 rfl ?_
      refine g_icmp_eq O dX12_says_54 rfl (fun c7 => ?_) (fun c7 => ?_)
      · replace h := (if_pos c7).symm.trans h
        exact t_X12_says_73 O R0 N hn a0 x1 x2 x3 x4 x5 σ o h K
      · replace h := (if_neg c7).symm.trans h
        refine g_iload O dX12_says_57 5 rfl ?_
        refine g_iconst (v := (1 : Int32)) O dX12_says_59 rfl ?_
        refine g_aload_n O dX12_says_60 rfl 0 rfl ?_
        obtain ⟨v8, e9, h⟩ := bo_some h
        refine g_getR O dX12_says_61 fl_X12_20 rfl e9 ?_
        refine g_iload O dX12_says_64 4 rfl ?_
        obtain ⟨v10, e11, h⟩ := bo_some h
        refine g_iaload O dX12_says_66 e11 ?_
        refine g_ishl O dX12_says_67 ?_
        refine g_iconst (v := (-1 : Int32)) O dX12_says_68 rfl ?_
        refine g_ixor O dX12_says_69 ?_
        refine g_iand O dX12_says_70 ?_
        obtain ⟨v12, e13, h⟩ := bo_some h
        rw [Option.some.inj e13]
        refine g_istore (lv' := [(5, vI v12), (0, vA (some a0)), (1, vI x1), (2, vI x2), (3, vI x3), (4, vI x4)]) O dX12_says_71 7 hn (by decide) rfl ?_
        refine g_sub [1, 2, 3, 4, 5, 0] (lv' := [(0, vA (some a0)), (1, vI x1), (2, vI x2), (3, vI x3), (4, vI x4), (5, vI v12)]) rfl ?_
        exact t_X12_says_73 O R0 N hn a0 x1 x2 x3 x4 v12 σ o h K
def f_X12_says_172 (x3 : Int32) (x4 : Int32) (σ : Dt) : Option (Int32 × Dt) := if x4 = x3 then some ((1 : Int32), σ) else some ((0 : Int32), σ)
theorem t_X12_says_172 {M : Mx} {l0 : Launch} (O : Ok M cX12_says yX12_says) (R0 : Rm M l0 5 148 0 0) (N : Ma M = false) (hn : Mn M = 7)  (x3 : Int32) (x4 : Int32) (σ : Dt) (o : (Int32 × Dt)) (h : f_X12_says_172 x3 x4 σ = some o) (K : Fin' M (some .boolean) 0 0 SM o.2 (some (vI o.1))) : G M 0 0 172 [(3, vI x3), (4, vI x4)] [] SM σ := by
  unfold f_X12_says_172 at h
  refine g_iload O dX12_says_172 1 rfl ?_
  refine g_iload_n O dX12_says_174 rfl 0 rfl ?_
  refine g_icmp_ne O dX12_says_175 rfl (fun c1 => ?_) (fun c1 => ?_)
  · replace h := (if_pos c1).symm.trans h
    refine g_iconst (v := (1 : Int32)) O dX12_says_178 rfl ?_
    refine g_goto O dX12_says_179 rfl ?_
    cases h
    exact g_zreturn O (by decide) K dX12_says_183
  · replace h := (if_neg c1).symm.trans h
    refine g_iconst (v := (0 : Int32)) O dX12_says_182 rfl ?_
    cases h
    exact g_zreturn O (by decide) K dX12_says_183
def f_X12_says (a0 : Nat) (x1 : Int32) (x2 : Int32) (σ : Dt) : Option (Int32 × Dt) := bo (f_X12_bitsOf x1 σ) fun v1 => bo (iter FU (fun s => f_X12_says_L14 a0 x1 x2 v1 (0 : Int32) (0 : Int32) s.1 s.2) ((0 : Int32), σ)) fun w3 => bo (iter FU (fun s => f_X12_says_L35 a0 x1 x2 v1 s.1 s.2.1 s.2.2) ((0 : Int32), (0 : Int32), w3)) fun w5 => f_X12_says_172 v1 w5.1 w5.2
theorem t_X12_says {M : Mx} {l0 : Launch} (O : Ok M cX12_says yX12_says) (R0 : Rm M l0 5 148 0 0) (N : Ma M = false) (hn : Mn M = 7) (a0 : Nat) (x1 : Int32) (x2 : Int32) (σ : Dt) (o : (Int32 × Dt)) (h : f_X12_says a0 x1 x2 σ = some o) (K : Fin' M (some .boolean) 0 0 SM o.2 (some (vI o.1))) : G M 0 0 0 [(0, vA (some a0)), (1, vI x1), (2, vI x2)] [] SM σ := by
  unfold f_X12_says at h
  refine g_iload_n O dX12_says_0 rfl 1 rfl ?_
  obtain ⟨v1, e2, h⟩ := bo_some h
  refine g_cS1 O R0 N dX12_says_1 vl_X12_183 w1701 [vI x1] rfl rfl rfl ⟨Nat.le_of_ble_eq_true rfl, Nat.le_of_ble_eq_true rfl⟩ (c_X12_bitsOf l0 x1 σ v1 e2) ?_
  refine g_istore_n (lv' := [(3, vI v1), (0, vA (some a0)), (1, vI x1), (2, vI x2)]) O dX12_says_4 rfl 7 hn (by decide) rfl ?_
  refine g_iconst (v := (0 : Int32)) O dX12_says_5 rfl ?_
  refine g_istore (lv' := [(4, vI (0 : Int32)), (3, vI v1), (0, vA (some a0)), (1, vI x1), (2, vI x2)]) O dX12_says_6 7 hn (by decide) rfl ?_
  refine g_iconst (v := (0 : Int32)) O dX12_says_8 rfl ?_
  refine g_istore (lv' := [(5, vI (0 : Int32)), (4, vI (0 : Int32)), (3, vI v1), (0, vA (some a0)), (1, vI x1), (2, vI x2)]) O dX12_says_9 7 hn (by decide) rfl ?_
  refine g_iconst (v := (0 : Int32)) O dX12_says_11 rfl ?_
  refine g_istore (lv' := [(6, vI (0 : Int32)), (5, vI (0 : Int32)), (4, vI (0 : Int32)), (3, vI v1), (0, vA (some a0)), (1, vI x1), (2, vI x2)]) O dX12_says_12 7 hn (by decide) rfl ?_
  refine g_sub [4, 5, 6, 3, 2, 1, 0] (lv' := [(0, vA (some a0)), (1, vI x1), (2, vI x2), (3, vI v1), (4, vI (0 : Int32)), (5, vI (0 : Int32)), (6, vI (0 : Int32))]) rfl ?_
  obtain ⟨w3, e4, h⟩ := bo_some h
  refine iter_G (P := P_X12_says_14 M a0 x1 x2 v1 (0 : Int32) (0 : Int32)) (E := E_X12_says_14 M a0 x1 x2 v1 (0 : Int32) (0 : Int32)) (fun s o hb hk => t_X12_says_L14 O R0 N hn a0 x1 x2 v1 (0 : Int32) (0 : Int32) s.1 s.2 o hb hk) FU ((0 : Int32), σ) w3 e4 ?_
  show G M 0 0 35 [(0, vA (some a0)), (1, vI x1), (2, vI x2), (3, vI v1), (4, vI (0 : Int32)), (5, vI (0 : Int32))] [] SM w3
  obtain ⟨w5, e6, h⟩ := bo_some h
  refine iter_G (P := P_X12_says_35 M a0 x1 x2 v1) (E := E_X12_says_35 M a0 x1 x2 v1) (fun s o hb hk => t_X12_says_L35 O R0 N hn a0 x1 x2 v1 s.1 s.2.1 s.2.2 o hb hk) FU ((0 : Int32), (0 : Int32), w3) w5 e6 ?_
  show G M 0 0 172 [(3, vI v1), (4, vI w5.1)] [] SM w5.2
  exact t_X12_says_172 O R0 N hn v1 w5.1 w5.2 o h K
theorem c_X12_says (l0 : Launch) (a0 : Nat) (x1 : Int32) (x2 : Int32) (σ : Dt) (r : Int32) (σ' : Dt) (h : f_X12_says a0 x1 x2 σ = some (r, σ')) : Ctr l0 yX12_says cX12_says 7 (some .boolean) false 5 148 0 0 [vA (some a0), vI x1, vI x2] SM σ SM σ' (some (vI r)) := ctr_of (by decide) (Nat.le_of_ble_eq_true rfl) (fun M O F R0 N hn => t_X12_says O R0 N hn a0 x1 x2 σ (r, σ') h F)
def f_X12_say (a0 : Nat) (x1 : Int32) (x2 : Int32) (x3 : Int32) (x4 : Int32) (σ : Dt) : Option (Int32 × Dt) := bo (xrc SM 12 (some a0)) fun a1 => bd (f_X12_isValley a1 x1 σ) fun v3 σ4 => if v3 = 0 then some ((-1 : Int32), σ4) else bo (xgi SM 12 13 (some a0) σ4) fun v7 => bo (f_X12_isIn x2 (0 : Int32) (((1 : Int32) <<< (v7 &&& 31)) - (1 : Int32)) σ4) fun v9 => if v9 = 0 then some ((-1 : Int32), σ4) else bo (f_X12_isIn x3 (1 : Int32) (9 : Int32) σ4) fun v12 => if v12 = 0 then some ((-1 : Int32), σ4) else if x4 < (-1 : Int32) then some ((-1 : Int32), σ4) else bo (xrc SM 12 (some a0)) fun a16 => bd (f_X12_says a16 x2 x3 σ4) fun v18 σ19 => if v18 = 0 then some ((-1 : Int32), σ19) else if x4 = (-1 : Int32) then bo (f_X12_bitsOf x2 σ19) fun v23 => some (v23, σ19) else bo (f_X12_bitsOf x2 σ19) fun v25 => if v25 ≤ x4 then some ((-1 : Int32), σ19) else bo (xgr SM 12 14 (some a0) σ19) fun v28 => bo (xai SM v28 x4 σ19) fun v30 => some (v30, σ19)
theorem t_X12_say {M : Mx} {l0 : Launch} (O : Ok M cX12_say yX12_say) (R0 : Rm M l0 6 174 0 0) (N : Ma M = false) (hn : Mn M = 5) (a0 : Nat) (x1 : Int32) (x2 : Int32) (x3 : Int32) (x4 : Int32) (σ : Dt) (o : (Int32 × Dt)) (h : f_X12_say a0 x1 x2 x3 x4 σ = some o) (K : Fin' M (some .int) 0 0 SM o.2 (some (vI o.1))) : G M 0 0 0 [(0, vA (some a0)), (1, vI x1), (2, vI x2), (3, vI x3), (4, vI x4)] [] SM σ := by
  unfold f_X12_say at h
  refine g_aload_n O dX12_say_0 rfl 0 rfl ?_
  refine g_iload_n O dX12_say_1 rfl 1 rfl ?_
  obtain ⟨a1, e2, h⟩ := bo_some h
  obtain ⟨v3, σ4, e5, h⟩ := bd_some h
  refine g_cV1 O R0 N dX12_say_2 vl_X12_220 vv_X12_isValley e2 [vI x1] rfl rfl rfl ⟨Nat.le_of_ble_eq_true rfl, Nat.le_of_ble_eq_true rfl⟩ (c_X12_isValley l0 a1 x1 σ v3 σ4 e5) ?_
  refine g_if_eq O dX12_say_5 rfl (fun c6 => ?_) (fun c6 => ?_)
  · replace h := (if_pos c6).symm.trans h
    refine g_iconst (v := (-1 : Int32)) O dX12_say_49 rfl ?_
    cases h
    exact g_ireturn O K dX12_say_50
  · replace h := (if_neg c6).symm.trans h
    refine g_iload_n O dX12_say_8 rfl 2 rfl ?_
    refine g_iconst (v := (0 : Int32)) O dX12_say_9 rfl ?_
    refine g_iconst (v := (1 : Int32)) O dX12_say_10 rfl ?_
    refine g_aload_n O dX12_say_11 rfl 0 rfl ?_
    obtain ⟨v7, e8, h⟩ := bo_some h
    refine g_getI O dX12_say_12 fl_X12_214 rfl e8 ?_
    refine g_ishl O dX12_say_15 ?_
    refine g_iconst (v := (1 : Int32)) O dX12_say_16 rfl ?_
    refine g_isub O dX12_say_17 ?_
    obtain ⟨v9, e10, h⟩ := bo_some h
    refine g_cS1 O R0 N dX12_say_18 vl_X12_146 w1616 [vI x2, vI (0 : Int32), vI (((1 : Int32) <<< (v7 &&& 31)) - (1 : Int32))] rfl rfl rfl ⟨Nat.le_of_ble_eq_true rfl, Nat.le_of_ble_eq_true rfl⟩ (c_X12_isIn l0 x2 (0 : Int32) (((1 : Int32) <<< (v7 &&& 31)) - (1 : Int32)) σ4 v9 e10) ?_
    refine g_if_eq O dX12_say_21 rfl (fun c11 => ?_) (fun c11 => ?_)
    · replace h := (if_pos c11).symm.trans h
      refine g_iconst (v := (-1 : Int32)) O dX12_say_49 rfl ?_
      cases h
      exact g_ireturn O K dX12_say_50
    · replace h := (if_neg c11).symm.trans h
      refine g_iload_n O dX12_say_24 rfl 3 rfl ?_
      refine g_iconst (v := (1 : Int32)) O dX12_say_25 rfl ?_
      refine g_bipush (v := (9 : Int32)) O dX12_say_26 rfl ?_
      obtain ⟨v12, e13, h⟩ := bo_some h
      refine g_cS1 O R0 N dX12_say_28 vl_X12_146 w1616 [vI x3, vI (1 : Int32), vI (9 : Int32)] rfl rfl rfl ⟨Nat.le_of_ble_eq_true rfl, Nat.le_of_ble_eq_true rfl⟩ (c_X12_isIn l0 x3 (1 : Int32) (9 : Int32) σ4 v12 e13) ?_
      refine g_if_eq O dX12_say_31 rfl (fun c14 => ?_) (fun c14 => ?_)
      · replace h := (if_pos c14).symm.trans h
        refine g_iconst (v := (-1 : Int32)) O dX12_say_49 rfl ?_
        cases h
        exact g_ireturn O K dX12_say_50
      · replace h := (if_neg c14).symm.trans h
        refine g_iload O dX12_say_34 4 rfl ?_
        refine g_iconst (v := (-1 : Int32)) O dX12_say_36 rfl ?_
        refine g_icmp_lt O dX12_say_37 rfl (fun c15 => ?_) (fun c15 => ?_)
        · replace h := (if_pos c15).symm.trans h
          refine g_iconst (v := (-1 : Int32)) O dX12_say_49 rfl ?_
          cases h
          exact g_ireturn O K dX12_say_50
        · replace h := (if_neg c15).symm.trans h
          refine g_aload_n O dX12_say_40 rfl 0 rfl ?_
          refine g_iload_n O dX12_say_41 rfl 2 rfl ?_
          refine g_iload_n O dX12_say_42 rfl 3 rfl ?_
          obtain ⟨a16, e17, h⟩ := bo_some h
          obtain ⟨v18, σ19, e20, h⟩ := bd_some h
          refine g_cV1 O R0 N dX12_say_43 vl_X12_260 vv_X12_says e17 [vI x2, vI x3] rfl rfl rfl ⟨Nat.le_of_ble_eq_true rfl, Nat.le_of_ble_eq_true rfl⟩ (c_X12_says l0 a16 x2 x3 σ4 v18 σ19 e20) ?_
          refine g_if_ne O dX12_say_46 rfl (fun c21 => ?_) (fun c21 => ?_)
          · replace h := (if_pos c21).symm.trans h
            refine g_iconst (v := (-1 : Int32)) O dX12_say_49 rfl ?_
            cases h
            exact g_ireturn O K dX12_say_50
          · replace h := (if_neg c21).symm.trans h
            refine g_iload O dX12_say_51 4 rfl ?_
            refine g_iconst (v := (-1 : Int32)) O dX12_say_53 rfl ?_
            refine g_icmp_ne O dX12_say_54 rfl (fun c22 => ?_) (fun c22 => ?_)
            · replace h := (if_pos c22).symm.trans h
              refine g_iload_n O dX12_say_57 rfl 2 rfl ?_
              obtain ⟨v23, e24, h⟩ := bo_some h
              refine g_cS1 O R0 N dX12_say_58 vl_X12_183 w1701 [vI x2] rfl rfl rfl ⟨Nat.le_of_ble_eq_true rfl, Nat.le_of_ble_eq_true rfl⟩ (c_X12_bitsOf l0 x2 σ19 v23 e24) ?_
              refine g_goto O dX12_say_61 rfl ?_
              cases h
              exact g_ireturn O K dX12_say_84
            · replace h := (if_neg c22).symm.trans h
              refine g_iload O dX12_say_64 4 rfl ?_
              refine g_iload_n O dX12_say_66 rfl 2 rfl ?_
              obtain ⟨v25, e26, h⟩ := bo_some h
              refine g_cS1 O R0 N dX12_say_67 vl_X12_183 w1701 [vI x2] rfl rfl rfl ⟨Nat.le_of_ble_eq_true rfl, Nat.le_of_ble_eq_true rfl⟩ (c_X12_bitsOf l0 x2 σ19 v25 e26) ?_
              refine g_icmp_ge O dX12_say_70 rfl (fun c27 => ?_) (fun c27 => ?_)
              · replace h := (if_pos c27).symm.trans h
                refine g_iconst (v := (-1 : Int32)) O dX12_say_83 rfl ?_
                cases h
                exact g_ireturn O K dX12_say_84
              · replace h := (if_neg c27).symm.trans h
                refine g_aload_n O dX12_say_73 rfl 0 rfl ?_
                obtain ⟨v28, e29, h⟩ := bo_some h
                refine g_getR O dX12_say_74 fl_X12_20 rfl e29 ?_
                refine g_iload O dX12_say_77 4 rfl ?_
                obtain ⟨v30, e31, h⟩ := bo_some h
                refine g_iaload O dX12_say_79 e31 ?_
                refine g_goto O dX12_say_80 rfl ?_
                cases h
                exact g_ireturn O K dX12_say_84
theorem c_X12_say (l0 : Launch) (a0 : Nat) (x1 : Int32) (x2 : Int32) (x3 : Int32) (x4 : Int32) (σ : Dt) (r : Int32) (σ' : Dt) (h : f_X12_say a0 x1 x2 x3 x4 σ = some (r, σ')) : Ctr l0 yX12_say cX12_say 5 (some .int) false 6 174 0 0 [vA (some a0), vI x1, vI x2, vI x3, vI x4] SM σ SM σ' (some (vI r)) := ctr_of (by decide) (Nat.le_of_ble_eq_true rfl) (fun M O F R0 N hn => t_X12_say O R0 N hn a0 x1 x2 x3 x4 σ (r, σ') h F)
def P_X12_darer_2 (M : Mx) (a0 : Nat) (x1 : Int32) (x2 : Int32) (σ : Dt) (s : Int32) : Prop := G M 0 0 2 [(0, vA (some a0)), (1, vI x1), (2, vI x2), (3, vI s)] [] SM σ
def E_X12_darer_2 (M : Mx) (a0 : Nat) (x1 : Int32) (x2 : Int32) (σ : Dt) : (Int32 ⊕ Unit) → Prop := (el (fun w => G M 0 0 34 [(3, vI w)] [] SM σ) (fun w => G M 0 0 42 [] [] SM σ))
def f_X12_darer_36 (a0 : Nat) (x1 : Int32) (x2 : Int32) (x3 : Int32) (σ : Dt) : Option (Int32 ⊕ (Int32 ⊕ Unit)) := some (.inl (x3 + (1 : Int32)))
theorem t_X12_darer_36 {M : Mx} {l0 : Launch} (O : Ok M cX12_darer yX12_darer) (R0 : Rm M l0 5 148 0 0) (N : Ma M = false) (hn : Mn M = 4)  (a0 : Nat) (x1 : Int32) (x2 : Int32) (x3 : Int32) (σ : Dt) (o : (Int32 ⊕ (Int32 ⊕ Unit))) (h : f_X12_darer_36 a0 x1 x2 x3 σ = some o) (K : kon (P_X12_darer_2 M a0 x1 x2 σ) (E_X12_darer_2 M a0 x1 x2 σ) o) : G M 0 0 36 [(0, vA (some a0)), (1, vI x1), (2, vI x2), (3, vI x3)] [] SM σ := by
  unfold f_X12_darer_36 at h
  refine g_iinc (v := (x3 + (1 : Int32))) (lv' := [(3, vI (x3 + (1 : Int32))), (0, vA (some a0)), (1, vI x1), (2, vI x2)]) O dX12_darer_36 4 hn (by decide) 3 rfl rfl rfl ?_
  refine g_goto O dX12_darer_39 rfl ?_
  refine g_sub [1, 2, 3, 0] (lv' := [(0, vA (some a0)), (1, vI x1), (2, vI x2), (3, vI (x3 + (1 : Int32)))]) rfl ?_
  cases h
  exact K
def f_X12_darer_L2 (a0 : Nat) (x1 : Int32) (x2 : Int32) (x3 : Int32) (σ : Dt) : Option (Int32 ⊕ (Int32 ⊕ Unit)) := bo (xgi SM 12 12 (some a0) σ) fun v1 => if v1 ≤ x3 then some (.inr (.inr ())) else bo (xgr SM 12 16 (some a0) σ) fun v4 => bo (xai SM v4 x1 σ) fun v6 => bo (f_X12_isAmong v6 x3 σ) fun v8 => if v8 = 0 then bo (xrc SM 12 (some a0)) fun a11 => bo (f_X12_keeps a11 x3 x2 (9 : Int32) σ) fun v13 => if v13 = 0 then f_X12_darer_36 a0 x1 x2 x3 σ else some (.inr (.inl x3)) else f_X12_darer_36 a0 x1 x2 x3 σ
theorem t_X12_darer_L2 {M : Mx} {l0 : Launch} (O : Ok M cX12_darer yX12_darer) (R0 : Rm M l0 5 148 0 0) (N : Ma M = false) (hn : Mn M = 4) (a0 : Nat) (x1 : Int32) (x2 : Int32) (x3 : Int32) (σ : Dt) (o : (Int32 ⊕ (Int32 ⊕ Unit))) (h : f_X12_darer_L2 a0 x1 x2 x3 σ = some o) (K : kon (P_X12_darer_2 M a0 x1 x2 σ) (E_X12_darer_2 M a0 x1 x2 σ) o) : G M 0 0 2 [(0, vA (some a0)), (1, vI x1), (2, vI x2), (3, vI x3)] [] SM σ := by
  unfold f_X12_darer_L2 at h
  refine g_iload_n O dX12_darer_2 rfl 3 rfl ?_
  refine g_aload_n O dX12_darer_3 rfl 0 rfl ?_
  obtain ⟨v1, e2, h⟩ := bo_some h
  refine g_getI O dX12_darer_4 fl_X12_211 rfl e2 ?_
  refine g_icmp_ge O dX12_darer_7 rfl (fun c3 => ?_) (fun c3 => ?_)
  · replace h := (if_pos c3).symm.trans h
    refine g_sub [] (lv' := []) rfl ?_
    cases h
    exact K
  · replace h := (if_neg c3).symm.trans h
    refine g_aload_n O dX12_darer_10 rfl 0 rfl ?_
    obtain ⟨v4, e5, h⟩ := bo_some h
    refine g_getR O dX12_darer_11 fl_X12_26 rfl e5 ?_
    refine g_iload_n O dX12_darer_14 rfl 1 rfl ?_
    obtain ⟨v6, e7, h⟩ := bo_some h
    refine g_iaload O dX12_darer_15 e7 ?_
    refine g_iload_n O dX12_darer_16 rfl 3 rfl ?_
    obtain ⟨v8, e9, h⟩ := bo_some h
    refine g_cS1 O R0 N dX12_darer_17 vl_X12_235 w1766 [vI v6, vI x3] rfl rfl rfl ⟨Nat.le_of_ble_eq_true rfl, Nat.le_of_ble_eq_true rfl⟩ (c_X12_isAmong l0 v6 x3 σ v8 e9) ?_
    refine g_if_ne O dX12_darer_20 rfl (fun c10 => ?_) (fun c10 => ?_)
    · replace h := (if_pos c10).symm.trans h
      refine g_aload_n O dX12_darer_23 rfl 0 rfl ?_
      refine g_iload_n O dX12_darer_24 rfl 3 rfl ?_
      refine g_iload_n O dX12_darer_25 rfl 2 rfl ?_
      refine g_bipush (v := (9 : Int32)) O dX12_darer_26 rfl ?_
      obtain ⟨a11, e12, h⟩ := bo_some h
      obtain ⟨v13, e14, h⟩ := bo_some h
      refine g_cV1 O R0 N dX12_darer_28 vl_X12_254 vv_X12_keeps e12 [vI x3, vI x2, vI (9 : Int32)] rfl rfl rfl ⟨Nat.le_of_ble_eq_true rfl, Nat.le_of_ble_eq_true rfl⟩ (c_X12_keeps l0 a11 x3 x2 (9 : Int32) σ v13 e14) ?_
      refine g_if_eq O dX12_darer_31 rfl (fun c15 => ?_) (fun c15 => ?_)
      · replace h := (if_pos c15).symm.trans h
        exact t_X12_darer_36 O R0 N hn a0 x1 x2 x3 σ o h K
      · replace h := (if_neg c15).symm.trans h
        refine g_sub [3] (lv' := [(3, vI x3)]) rfl ?_
        cases h
        exact K
    · replace h := (if_neg c10).symm.trans h
      exact t_X12_darer_36 O R0 N hn a0 x1 x2 x3 σ o h K
def f_X12_darer (a0 : Nat) (x1 : Int32) (x2 : Int32) (σ : Dt) : Option Int32 := bo (iter FU (fun s => f_X12_darer_L2 a0 x1 x2 s σ) (0 : Int32)) fun w1 => el (fun w3 => some w3) (fun w3 => some (-1 : Int32)) w1
theorem t_X12_darer {M : Mx} {l0 : Launch} (O : Ok M cX12_darer yX12_darer) (R0 : Rm M l0 5 148 0 0) (N : Ma M = false) (hn : Mn M = 4) (a0 : Nat) (x1 : Int32) (x2 : Int32) (σ : Dt) (o : Int32) (h : f_X12_darer a0 x1 x2 σ = some o) (K : Fin' M (some .int) 0 0 SM σ (some (vI o))) : G M 0 0 0 [(0, vA (some a0)), (1, vI x1), (2, vI x2)] [] SM σ := by
  unfold f_X12_darer at h
  refine g_iconst (v := (0 : Int32)) O dX12_darer_0 rfl ?_
  refine g_istore_n (lv' := [(3, vI (0 : Int32)), (0, vA (some a0)), (1, vI x1), (2, vI x2)]) O dX12_darer_1 rfl 4 hn (by decide) rfl ?_
  refine g_sub [1, 2, 3, 0] (lv' := [(0, vA (some a0)), (1, vI x1), (2, vI x2), (3, vI (0 : Int32))]) rfl ?_
  obtain ⟨w1, e2, h⟩ := bo_some h
  refine iter_G (P := P_X12_darer_2 M a0 x1 x2 σ) (E := E_X12_darer_2 M a0 x1 x2 σ) (fun s o hb hk => t_X12_darer_L2 O R0 N hn a0 x1 x2 s σ o hb hk) FU (0 : Int32) w1 e2 ?_
  rcases w1 with w3 | w3
  · replace h := el_l h
    show G M 0 0 34 [(3, vI w3)] [] SM σ
    refine g_iload_n O dX12_darer_34 rfl 0 rfl ?_
    cases h
    exact g_ireturn O K dX12_darer_35
  · replace h := el_r h
    show G M 0 0 42 [] [] SM σ
    refine g_iconst (v := (-1 : Int32)) O dX12_darer_42 rfl ?_
    cases h
    exact g_ireturn O K dX12_darer_43
theorem c_X12_darer (l0 : Launch) (a0 : Nat) (x1 : Int32) (x2 : Int32) (σ : Dt) (r : Int32) (h : f_X12_darer a0 x1 x2 σ = some r) : Ctr l0 yX12_darer cX12_darer 4 (some .int) false 5 148 0 0 [vA (some a0), vI x1, vI x2] SM σ SM σ (some (vI r)) := ctr_of (by decide) (Nat.le_of_ble_eq_true rfl) (fun M O F R0 N hn => t_X12_darer O R0 N hn a0 x1 x2 σ r h F)
def f_X12_mayDare_41  (σ : Dt) : Option Int32 := some (0 : Int32)
theorem t_X12_mayDare_41 {M : Mx} {l0 : Launch} (O : Ok M cX12_mayDare yX12_mayDare) (R0 : Rm M l0 6 171 0 0) (N : Ma M = false) (hn : Mn M = 3)   (σ : Dt) (o : Int32) (h : f_X12_mayDare_41 σ = some o) (K : Fin' M (some .boolean) 0 0 SM σ (some (vI o))) : G M 0 0 41 [] [] SM σ := by
  unfold f_X12_mayDare_41 at h
  refine g_iconst (v := (0 : Int32)) O dX12_mayDare_41 rfl ?_
  cases h
  exact g_zreturn O (by decide) K dX12_mayDare_42
def f_X12_mayDare_37  (σ : Dt) : Option Int32 := some (1 : Int32)
theorem t_X12_mayDare_37 {M : Mx} {l0 : Launch} (O : Ok M cX12_mayDare yX12_mayDare) (R0 : Rm M l0 6 171 0 0) (N : Ma M = false) (hn : Mn M = 3)   (σ : Dt) (o : Int32) (h : f_X12_mayDare_37 σ = some o) (K : Fin' M (some .boolean) 0 0 SM σ (some (vI o))) : G M 0 0 37 [] [] SM σ := by
  unfold f_X12_mayDare_37 at h
  refine g_iconst (v := (1 : Int32)) O dX12_mayDare_37 rfl ?_
  refine g_goto O dX12_mayDare_38 rfl ?_
  cases h
  exact g_zreturn O (by decide) K dX12_mayDare_42
def f_X12_mayDare (a0 : Nat) (x1 : Int32) (x2 : Int32) (σ : Dt) : Option Int32 := if x2 = (6 : Int32) then f_X12_mayDare_37 σ else bo (xrc SM 12 (some a0)) fun a2 => bo (f_X12_isWork a2 x2 σ) fun v4 => if v4 = 0 then f_X12_mayDare_41 σ else bo (xgr SM 12 15 (some a0) σ) fun v7 => bo (xai SM v7 x1 σ) fun v9 => bo (f_X12_isAmong v9 x2 σ) fun v11 => if v11 = 0 then bo (xrc SM 12 (some a0)) fun a14 => bo (f_X12_darer a14 x1 x2 σ) fun v16 => if v16 = (-1 : Int32) then f_X12_mayDare_41 σ else f_X12_mayDare_37 σ else f_X12_mayDare_41 σ
theorem t_X12_mayDare {M : Mx} {l0 : Launch} (O : Ok M cX12_mayDare yX12_mayDare) (R0 : Rm M l0 6 171 0 0) (N : Ma M = false) (hn : Mn M = 3) (a0 : Nat) (x1 : Int32) (x2 : Int32) (σ : Dt) (o : Int32) (h : f_X12_mayDare a0 x1 x2 σ = some o) (K : Fin' M (some .boolean) 0 0 SM σ (some (vI o))) : G M 0 0 0 [(0, vA (some a0)), (1, vI x1), (2, vI x2)] [] SM σ := by
  unfold f_X12_mayDare at h
  refine g_iload_n O dX12_mayDare_0 rfl 2 rfl ?_
  refine g_bipush (v := (6 : Int32)) O dX12_mayDare_1 rfl ?_
  refine g_icmp_eq O dX12_mayDare_3 rfl (fun c1 => ?_) (fun c1 => ?_)
  · replace h := (if_pos c1).symm.trans h
    refine g_sub [] (lv' := []) rfl ?_
    exact t_X12_mayDare_37 O R0 N hn σ o h K
  · replace h := (if_neg c1).symm.trans h
    refine g_aload_n O dX12_mayDare_6 rfl 0 rfl ?_
    refine g_iload_n O dX12_mayDare_7 rfl 2 rfl ?_
    obtain ⟨a2, e3, h⟩ := bo_some h
    obtain ⟨v4, e5, h⟩ := bo_some h
    refine g_cV1 O R0 N dX12_mayDare_8 vl_X12_226 vv_X12_isWork e3 [vI x2] rfl rfl rfl ⟨Nat.le_of_ble_eq_true rfl, Nat.le_of_ble_eq_true rfl⟩ (c_X12_isWork l0 a2 x2 σ v4 e5) ?_
    refine g_if_eq O dX12_mayDare_11 rfl (fun c6 => ?_) (fun c6 => ?_)
    · replace h := (if_pos c6).symm.trans h
      refine g_sub [] (lv' := []) rfl ?_
      exact t_X12_mayDare_41 O R0 N hn σ o h K
    · replace h := (if_neg c6).symm.trans h
      refine g_aload_n O dX12_mayDare_14 rfl 0 rfl ?_
      obtain ⟨v7, e8, h⟩ := bo_some h
      refine g_getR O dX12_mayDare_15 fl_X12_23 rfl e8 ?_
      refine g_iload_n O dX12_mayDare_18 rfl 1 rfl ?_
      obtain ⟨v9, e10, h⟩ := bo_some h
      refine g_iaload O dX12_mayDare_19 e10 ?_
      refine g_iload_n O dX12_mayDare_20 rfl 2 rfl ?_
      obtain ⟨v11, e12, h⟩ := bo_some h
      refine g_cS1 O R0 N dX12_mayDare_21 vl_X12_235 w1766 [vI v9, vI x2] rfl rfl rfl ⟨Nat.le_of_ble_eq_true rfl, Nat.le_of_ble_eq_true rfl⟩ (c_X12_isAmong l0 v9 x2 σ v11 e12) ?_
      refine g_if_ne O dX12_mayDare_24 rfl (fun c13 => ?_) (fun c13 => ?_)
      · replace h := (if_pos c13).symm.trans h
        refine g_aload_n O dX12_mayDare_27 rfl 0 rfl ?_
        refine g_iload_n O dX12_mayDare_28 rfl 1 rfl ?_
        refine g_iload_n O dX12_mayDare_29 rfl 2 rfl ?_
        obtain ⟨a14, e15, h⟩ := bo_some h
        obtain ⟨v16, e17, h⟩ := bo_some h
        refine g_cV1 O R0 N dX12_mayDare_30 vl_X12_263 vv_X12_darer e15 [vI x1, vI x2] rfl rfl rfl ⟨Nat.le_of_ble_eq_true rfl, Nat.le_of_ble_eq_true rfl⟩ (c_X12_darer l0 a14 x1 x2 σ v16 e17) ?_
        refine g_iconst (v := (-1 : Int32)) O dX12_mayDare_33 rfl ?_
        refine g_icmp_eq O dX12_mayDare_34 rfl (fun c18 => ?_) (fun c18 => ?_)
        · replace h := (if_pos c18).symm.trans h
          refine g_sub [] (lv' := []) rfl ?_
          exact t_X12_mayDare_41 O R0 N hn σ o h K
        · replace h := (if_neg c18).symm.trans h
          refine g_sub [] (lv' := []) rfl ?_
          exact t_X12_mayDare_37 O R0 N hn σ o h K
      · replace h := (if_neg c13).symm.trans h
        refine g_sub [] (lv' := []) rfl ?_
        exact t_X12_mayDare_41 O R0 N hn σ o h K
theorem c_X12_mayDare (l0 : Launch) (a0 : Nat) (x1 : Int32) (x2 : Int32) (σ : Dt) (r : Int32) (h : f_X12_mayDare a0 x1 x2 σ = some r) : Ctr l0 yX12_mayDare cX12_mayDare 3 (some .boolean) false 6 171 0 0 [vA (some a0), vI x1, vI x2] SM σ SM σ (some (vI r)) := ctr_of (by decide) (Nat.le_of_ble_eq_true rfl) (fun M O F R0 N hn => t_X12_mayDare O R0 N hn a0 x1 x2 σ r h F)
def f_X12_comesBack_52 (a0 : Nat) (x1 : Int32) (x2 : Int32) (σ : Dt) : Option (Unit × Dt) := bo (xgr SM 12 18 (some a0) σ) fun v1 => bo (xsi SM v1 x1 x2 σ) fun σ3 => if x1 = 0 then bo (xgr SM 12 17 (some a0) σ3) fun v6 => bo (xai SM v6 (0 : Int32) σ3) fun v8 => bo (xpi SM 12 20 (some a0) v8 σ3) fun σ10 => some ((), σ10) else some ((), σ3)
theorem t_X12_comesBack_52 {M : Mx} {l0 : Launch} (O : Ok M cX12_comesBack yX12_comesBack) (R0 : Rm M l0 2 80 0 0) (N : Ma M = false) (hn : Mn M = 4)  (a0 : Nat) (x1 : Int32) (x2 : Int32) (σ : Dt) (o : (Unit × Dt)) (h : f_X12_comesBack_52 a0 x1 x2 σ = some o) (K : Fin' M (none) 0 0 SM o.2 (none)) : G M 0 0 52 [(0, vA (some a0)), (1, vI x1), (2, vI x2)] [] SM σ := by
  unfold f_X12_comesBack_52 at h
  refine g_aload_n O dX12_comesBack_52 rfl 0 rfl ?_
  obtain ⟨v1, e2, h⟩ := bo_some h
  refine g_getR O dX12_comesBack_53 fl_X12_32 rfl e2 ?_
  refine g_iload_n O dX12_comesBack_56 rfl 1 rfl ?_
  refine g_iload_n O dX12_comesBack_57 rfl 2 rfl ?_
  obtain ⟨σ3, e4, h⟩ := bo_some h
  refine g_iastore O dX12_comesBack_58 e4 ?_
  refine g_iload_n O dX12_comesBack_59 rfl 1 rfl ?_
  refine g_if_ne O dX12_comesBack_60 rfl (fun c5 => ?_) (fun c5 => ?_)
  · replace h := (if_pos c5).symm.trans h
    refine g_aload_n O dX12_comesBack_63 rfl 0 rfl ?_
    refine g_aload_n O dX12_comesBack_64 rfl 0 rfl ?_
    obtain ⟨v6, e7, h⟩ := bo_some h
    refine g_getR O dX12_comesBack_65 fl_X12_29 rfl e7 ?_
    refine g_iconst (v := (0 : Int32)) O dX12_comesBack_68 rfl ?_
    obtain ⟨v8, e9, h⟩ := bo_some h
    refine g_iaload O dX12_comesBack_69 e9 ?_
    obtain ⟨σ10, e11, h⟩ := bo_some h
    refine g_putI O dX12_comesBack_70 fl_X12_267 (Or.inl rfl) rfl e11 ?_
    cases h
    exact g_return O K dX12_comesBack_73
  · replace h := (if_neg c5).symm.trans h
    cases h
    exact g_return O K dX12_comesBack_73
def f_X12_comesBack_11 (a0 : Nat) (x1 : Int32) (x2 : Int32) (k0 : Int32) (σ : Dt) : Option (Unit × Dt) := bo (xgr SM 12 18 (some a0) σ) fun v1 => bo (xai SM v1 x1 σ) fun v3 => if v3 = (99999999 : Int32) then f_X12_comesBack_52 a0 x1 x2 σ else if k0 = 0 then bo (xgr SM 12 18 (some a0) σ) fun v7 => bo (xai SM v7 x1 σ) fun v9 => if x2 < v9 then f_X12_comesBack_52 a0 x1 x2 σ else some ((), σ) else bo (xgr SM 12 18 (some a0) σ) fun v12 => bo (xai SM v12 x1 σ) fun v14 => if v14 < x2 then f_X12_comesBack_52 a0 x1 x2 σ else some ((), σ)
theorem t_X12_comesBack_11 {M : Mx} {l0 : Launch} (O : Ok M cX12_comesBack yX12_comesBack) (R0 : Rm M l0 2 80 0 0) (N : Ma M = false) (hn : Mn M = 4)  (a0 : Nat) (x1 : Int32) (x2 : Int32) (k0 : Int32) (σ : Dt) (o : (Unit × Dt)) (h : f_X12_comesBack_11 a0 x1 x2 k0 σ = some o) (K : Fin' M (none) 0 0 SM o.2 (none)) : G M 0 0 11 [(0, vA (some a0)), (1, vI x1), (2, vI x2)] [vI k0] SM σ := by
  unfold f_X12_comesBack_11 at h
  refine g_istore_n (lv' := [(3, vI k0), (0, vA (some a0)), (1, vI x1), (2, vI x2)]) O dX12_comesBack_11 rfl 4 hn (by decide) rfl ?_
  refine g_aload_n O dX12_comesBack_12 rfl 1 rfl ?_
  obtain ⟨v1, e2, h⟩ := bo_some h
  refine g_getR O dX12_comesBack_13 fl_X12_32 rfl e2 ?_
  refine g_iload_n O dX12_comesBack_16 rfl 2 rfl ?_
  obtain ⟨v3, e4, h⟩ := bo_some h
  refine g_iaload O dX12_comesBack_17 e4 ?_
  refine g_ldcw O dX12_comesBack_18 w1799 ?_
  refine g_icmp_eq O dX12_comesBack_21 rfl (fun c5 => ?_) (fun c5 => ?_)
  · replace h := (if_pos c5).symm.trans h
    refine g_sub [1, 2, 3] (lv' := [(0, vA (some a0)), (1, vI x1), (2, vI x2)]) rfl ?_
    exact t_X12_comesBack_52 O R0 N hn a0 x1 x2 σ o h K
  · replace h := (if_neg c5).symm.trans h
    refine g_iload_n O dX12_comesBack_24 rfl 0 rfl ?_
    refine g_if_eq O dX12_comesBack_25 rfl (fun c6 => ?_) (fun c6 => ?_)
    · replace h := (if_pos c6).symm.trans h
      refine g_iload_n O dX12_comesBack_41 rfl 3 rfl ?_
      refine g_aload_n O dX12_comesBack_42 rfl 1 rfl ?_
      obtain ⟨v7, e8, h⟩ := bo_some h
      refine g_getR O dX12_comesBack_43 fl_X12_32 rfl e8 ?_
      refine g_iload_n O dX12_comesBack_46 rfl 2 rfl ?_
      obtain ⟨v9, e10, h⟩ := bo_some h
      refine g_iaload O dX12_comesBack_47 e10 ?_
      refine g_icmp_lt O dX12_comesBack_48 rfl (fun c11 => ?_) (fun c11 => ?_)
      · replace h := (if_pos c11).symm.trans h
        refine g_sub [1, 2, 3] (lv' := [(0, vA (some a0)), (1, vI x1), (2, vI x2)]) rfl ?_
        exact t_X12_comesBack_52 O R0 N hn a0 x1 x2 σ o h K
      · replace h := (if_neg c11).symm.trans h
        cases h
        exact g_return O K dX12_comesBack_51
    · replace h := (if_neg c6).symm.trans h
      refine g_iload_n O dX12_comesBack_28 rfl 3 rfl ?_
      refine g_aload_n O dX12_comesBack_29 rfl 1 rfl ?_
      obtain ⟨v12, e13, h⟩ := bo_some h
      refine g_getR O dX12_comesBack_30 fl_X12_32 rfl e13 ?_
      refine g_iload_n O dX12_comesBack_33 rfl 2 rfl ?_
      obtain ⟨v14, e15, h⟩ := bo_some h
      refine g_iaload O dX12_comesBack_34 e15 ?_
      refine g_icmp_gt O dX12_comesBack_35 rfl (fun c16 => ?_) (fun c16 => ?_)
      · replace h := (if_pos c16).symm.trans h
        refine g_sub [1, 2, 3] (lv' := [(0, vA (some a0)), (1, vI x1), (2, vI x2)]) rfl ?_
        exact t_X12_comesBack_52 O R0 N hn a0 x1 x2 σ o h K
      · replace h := (if_neg c16).symm.trans h
        refine g_goto O dX12_comesBack_38 rfl ?_
        cases h
        exact g_return O K dX12_comesBack_51
def f_X12_comesBack (a0 : Nat) (x1 : Int32) (x2 : Int32) (σ : Dt) : Option (Unit × Dt) := if (x1 - x1 / (2 : Int32) * (2 : Int32)) = 0 then f_X12_comesBack_11 a0 x1 x2 (1 : Int32) σ else f_X12_comesBack_11 a0 x1 x2 (0 : Int32) σ
theorem t_X12_comesBack {M : Mx} {l0 : Launch} (O : Ok M cX12_comesBack yX12_comesBack) (R0 : Rm M l0 2 80 0 0) (N : Ma M = false) (hn : Mn M = 4) (a0 : Nat) (x1 : Int32) (x2 : Int32) (σ : Dt) (o : (Unit × Dt)) (h : f_X12_comesBack a0 x1 x2 σ = some o) (K : Fin' M (none) 0 0 SM o.2 (none)) : G M 0 0 0 [(0, vA (some a0)), (1, vI x1), (2, vI x2)] [] SM σ := by
  unfold f_X12_comesBack at h
  refine g_iload_n O dX12_comesBack_0 rfl 1 rfl ?_
  refine g_iconst (v := (2 : Int32)) O dX12_comesBack_1 rfl ?_
  refine g_irem O dX12_comesBack_2 (by decide) ?_
  refine g_if_ne O dX12_comesBack_3 rfl (fun c1 => ?_) (fun c1 => ?_)
  · replace h := (if_pos c1).symm.trans h
    refine g_iconst (v := (1 : Int32)) O dX12_comesBack_6 rfl ?_
    refine g_goto O dX12_comesBack_7 rfl ?_
    exact t_X12_comesBack_11 O R0 N hn a0 x1 x2 (1 : Int32) σ o h K
  · replace h := (if_neg c1).symm.trans h
    refine g_iconst (v := (0 : Int32)) O dX12_comesBack_10 rfl ?_
    exact t_X12_comesBack_11 O R0 N hn a0 x1 x2 (0 : Int32) σ o h K
theorem c_X12_comesBack (l0 : Launch) (a0 : Nat) (x1 : Int32) (x2 : Int32) (σ : Dt) (r : Unit) (σ' : Dt) (h : f_X12_comesBack a0 x1 x2 σ = some (r, σ')) : Ctr l0 yX12_comesBack cX12_comesBack 4 (none) false 2 80 0 0 [vA (some a0), vI x1, vI x2] SM σ SM σ' (none) := ctr_of (by decide) (Nat.le_of_ble_eq_true rfl) (fun M O F R0 N hn => t_X12_comesBack O R0 N hn a0 x1 x2 σ (r, σ') h F)
def f_X12_laysTurn (a0 : Nat) (x1 : Int32) (σ : Dt) : Option (Unit × Dt) := bo (xgr SM 12 17 (some a0) σ) fun v1 => bo (xsi SM v1 x1 (-1 : Int32) σ) fun σ3 => bo (xgr SM 12 18 (some a0) σ3) fun v5 => bo (xsi SM v5 x1 (99999999 : Int32) σ3) fun σ7 => some ((), σ7)
theorem t_X12_laysTurn {M : Mx} {l0 : Launch} (O : Ok M cX12_laysTurn yX12_laysTurn) (R0 : Rm M l0 2 80 0 0) (N : Ma M = false) (hn : Mn M = 2) (a0 : Nat) (x1 : Int32) (σ : Dt) (o : (Unit × Dt)) (h : f_X12_laysTurn a0 x1 σ = some o) (K : Fin' M (none) 0 0 SM o.2 (none)) : G M 0 0 0 [(0, vA (some a0)), (1, vI x1)] [] SM σ := by
  unfold f_X12_laysTurn at h
  refine g_aload_n O dX12_laysTurn_0 rfl 0 rfl ?_
  obtain ⟨v1, e2, h⟩ := bo_some h
  refine g_getR O dX12_laysTurn_1 fl_X12_29 rfl e2 ?_
  refine g_iload_n O dX12_laysTurn_4 rfl 1 rfl ?_
  refine g_iconst (v := (-1 : Int32)) O dX12_laysTurn_5 rfl ?_
  obtain ⟨σ3, e4, h⟩ := bo_some h
  refine g_iastore O dX12_laysTurn_6 e4 ?_
  refine g_aload_n O dX12_laysTurn_7 rfl 0 rfl ?_
  obtain ⟨v5, e6, h⟩ := bo_some h
  refine g_getR O dX12_laysTurn_8 fl_X12_32 rfl e6 ?_
  refine g_iload_n O dX12_laysTurn_11 rfl 1 rfl ?_
  refine g_ldcw O dX12_laysTurn_12 w1799 ?_
  obtain ⟨σ7, e8, h⟩ := bo_some h
  refine g_iastore O dX12_laysTurn_15 e8 ?_
  cases h
  exact g_return O K dX12_laysTurn_16
theorem c_X12_laysTurn (l0 : Launch) (a0 : Nat) (x1 : Int32) (σ : Dt) (r : Unit) (σ' : Dt) (h : f_X12_laysTurn a0 x1 σ = some (r, σ')) : Ctr l0 yX12_laysTurn cX12_laysTurn 2 (none) false 2 80 0 0 [vA (some a0), vI x1] SM σ SM σ' (none) := ctr_of (by decide) (Nat.le_of_ble_eq_true rfl) (fun M O F R0 N hn => t_X12_laysTurn O R0 N hn a0 x1 σ (r, σ') h F)
def f_X12_dares_111 (k0 : Option Nat) (k1 : Int32) (k2 : Int32) (k3 : Int32) (σ : Dt) : Option (Unit × Dt) := bo (xsi SM k0 k1 (k2 + k3) σ) fun σ1 => some ((), σ1)
theorem t_X12_dares_111 {M : Mx} {l0 : Launch} (O : Ok M cX12_dares yX12_dares) (R0 : Rm M l0 6 171 0 0) (N : Ma M = false) (hn : Mn M = 3)  (k0 : Option Nat) (k1 : Int32) (k2 : Int32) (k3 : Int32) (σ : Dt) (o : (Unit × Dt)) (h : f_X12_dares_111 k0 k1 k2 k3 σ = some o) (K : Fin' M (none) 0 0 SM o.2 (none)) : G M 0 0 111 [] [vI k3, vI k2, vI k1, vA k0] SM σ := by
  unfold f_X12_dares_111 at h
  refine g_iadd O dX12_dares_111 ?_
  obtain ⟨σ1, e2, h⟩ := bo_some h
  refine g_iastore O dX12_dares_112 e2 ?_
  cases h
  exact g_return O K dX12_dares_113
def f_X12_dares_66 (a0 : Nat) (x1 : Int32) (x2 : Int32) (k0 : Option Nat) (k1 : Int32) (k2 : Int32) (k3 : Int32) (σ : Dt) : Option (Unit × Dt) := bo (xsi SM k0 k1 (k2 ||| k3) σ) fun σ1 => bo (xgr SM 12 19 (some a0) σ1) fun v3 => bo (xgr SM 12 19 (some a0) σ1) fun v5 => bo (xai SM v5 x1 σ1) fun v7 => if x2 = (6 : Int32) then f_X12_dares_111 v3 (x1 + (1 : Int32)) v7 (0 : Int32) σ1 else if (x1 - x1 / (2 : Int32) * (2 : Int32)) = 0 then bo (xrc SM 12 (some a0)) fun a11 => bo (f_X12_worthOf a11 x2 σ1) fun v13 => f_X12_dares_111 v3 (x1 + (1 : Int32)) v7 v13 σ1 else bo (xrc SM 12 (some a0)) fun a15 => bo (f_X12_worthOf a15 x2 σ1) fun v17 => f_X12_dares_111 v3 (x1 + (1 : Int32)) v7 (-v17) σ1
theorem t_X12_dares_66 {M : Mx} {l0 : Launch} (O : Ok M cX12_dares yX12_dares) (R0 : Rm M l0 6 171 0 0) (N : Ma M = false) (hn : Mn M = 3)  (a0 : Nat) (x1 : Int32) (x2 : Int32) (k0 : Option Nat) (k1 : Int32) (k2 : Int32) (k3 : Int32) (σ : Dt) (o : (Unit × Dt)) (h : f_X12_dares_66 a0 x1 x2 k0 k1 k2 k3 σ = some o) (K : Fin' M (none) 0 0 SM o.2 (none)) : G M 0 0 66 [(0, vA (some a0)), (1, vI x1), (2, vI x2)] [vI k3, vI k2, vI k1, vA k0] SM σ := by
  unfold f_X12_dares_66 at h
  refine g_ior O dX12_dares_66 ?_
  obtain ⟨σ1, e2, h⟩ := bo_some h
  refine g_iastore O dX12_dares_67 e2 ?_
  refine g_aload_n O dX12_dares_68 rfl 0 rfl ?_
  obtain ⟨v3, e4, h⟩ := bo_some h
  refine g_getR O dX12_dares_69 fl_X12_35 rfl e4 ?_
  refine g_iload_n O dX12_dares_72 rfl 1 rfl ?_
  refine g_iconst (v := (1 : Int32)) O dX12_dares_73 rfl ?_
  refine g_iadd O dX12_dares_74 ?_
  refine g_aload_n O dX12_dares_75 rfl 0 rfl ?_
  obtain ⟨v5, e6, h⟩ := bo_some h
  refine g_getR O dX12_dares_76 fl_X12_35 rfl e6 ?_
  refine g_iload_n O dX12_dares_79 rfl 1 rfl ?_
  obtain ⟨v7, e8, h⟩ := bo_some h
  refine g_iaload O dX12_dares_80 e8 ?_
  refine g_iload_n O dX12_dares_81 rfl 2 rfl ?_
  refine g_bipush (v := (6 : Int32)) O dX12_dares_82 rfl ?_
  refine g_icmp_ne O dX12_dares_84 rfl (fun c9 => ?_) (fun c9 => ?_)
  · replace h := (if_pos c9).symm.trans h
    refine g_iconst (v := (0 : Int32)) O dX12_dares_87 rfl ?_
    refine g_goto O dX12_dares_88 rfl ?_
    refine g_sub [] (lv' := []) rfl ?_
    exact t_X12_dares_111 O R0 N hn v3 (x1 + (1 : Int32)) v7 (0 : Int32) σ1 o h K
  · replace h := (if_neg c9).symm.trans h
    refine g_iload_n O dX12_dares_91 rfl 1 rfl ?_
    refine g_iconst (v := (2 : Int32)) O dX12_dares_92 rfl ?_
    refine g_irem O dX12_dares_93 (by decide) ?_
    refine g_if_ne O dX12_dares_94 rfl (fun c10 => ?_) (fun c10 => ?_)
    · replace h := (if_pos c10).symm.trans h
      refine g_aload_n O dX12_dares_97 rfl 0 rfl ?_
      refine g_iload_n O dX12_dares_98 rfl 2 rfl ?_
      obtain ⟨a11, e12, h⟩ := bo_some h
      obtain ⟨v13, e14, h⟩ := bo_some h
      refine g_cV1 O R0 N dX12_dares_99 vl_X12_232 vv_X12_worthOf e12 [vI x2] rfl rfl rfl ⟨Nat.le_of_ble_eq_true rfl, Nat.le_of_ble_eq_true rfl⟩ (c_X12_worthOf l0 a11 x2 σ1 v13 e14) ?_
      refine g_goto O dX12_dares_102 rfl ?_
      refine g_sub [] (lv' := []) rfl ?_
      exact t_X12_dares_111 O R0 N hn v3 (x1 + (1 : Int32)) v7 v13 σ1 o h K
    · replace h := (if_neg c10).symm.trans h
      refine g_aload_n O dX12_dares_105 rfl 0 rfl ?_
      refine g_iload_n O dX12_dares_106 rfl 2 rfl ?_
      obtain ⟨a15, e16, h⟩ := bo_some h
      obtain ⟨v17, e18, h⟩ := bo_some h
      refine g_cV1 O R0 N dX12_dares_107 vl_X12_232 vv_X12_worthOf e16 [vI x2] rfl rfl rfl ⟨Nat.le_of_ble_eq_true rfl, Nat.le_of_ble_eq_true rfl⟩ (c_X12_worthOf l0 a15 x2 σ1 v17 e18) ?_
      refine g_ineg O dX12_dares_110 ?_
      refine g_sub [] (lv' := []) rfl ?_
      exact t_X12_dares_111 O R0 N hn v3 (x1 + (1 : Int32)) v7 (-v17) σ1 o h K
def f_X12_dares_33 (a0 : Nat) (x1 : Int32) (x2 : Int32) (k0 : Option Nat) (k1 : Int32) (k2 : Int32) (k3 : Int32) (σ : Dt) : Option (Unit × Dt) := bo (xsi SM k0 k1 (k2 ||| k3) σ) fun σ1 => bo (xgr SM 12 16 (some a0) σ1) fun v3 => bo (xgr SM 12 16 (some a0) σ1) fun v5 => bo (xai SM v5 x1 σ1) fun v7 => if (6 : Int32) ≤ x2 then f_X12_dares_66 a0 x1 x2 v3 (x1 + (1 : Int32)) v7 (0 : Int32) σ1 else bo (xrc SM 12 (some a0)) fun a10 => bo (f_X12_darer a10 x1 x2 σ1) fun v12 => f_X12_dares_66 a0 x1 x2 v3 (x1 + (1 : Int32)) v7 ((1 : Int32) <<< (v12 &&& 31)) σ1
theorem t_X12_dares_33 {M : Mx} {l0 : Launch} (O : Ok M cX12_dares yX12_dares) (R0 : Rm M l0 6 171 0 0) (N : Ma M = false) (hn : Mn M = 3)  (a0 : Nat) (x1 : Int32) (x2 : Int32) (k0 : Option Nat) (k1 : Int32) (k2 : Int32) (k3 : Int32) (σ : Dt) (o : (Unit × Dt)) (h : f_X12_dares_33 a0 x1 x2 k0 k1 k2 k3 σ = some o) (K : Fin' M (none) 0 0 SM o.2 (none)) : G M 0 0 33 [(0, vA (some a0)), (1, vI x1), (2, vI x2)] [vI k3, vI k2, vI k1, vA k0] SM σ := by
  unfold f_X12_dares_33 at h
  refine g_ior O dX12_dares_33 ?_
  obtain ⟨σ1, e2, h⟩ := bo_some h
  refine g_iastore O dX12_dares_34 e2 ?_
  refine g_aload_n O dX12_dares_35 rfl 0 rfl ?_
  obtain ⟨v3, e4, h⟩ := bo_some h
  refine g_getR O dX12_dares_36 fl_X12_26 rfl e4 ?_
  refine g_iload_n O dX12_dares_39 rfl 1 rfl ?_
  refine g_iconst (v := (1 : Int32)) O dX12_dares_40 rfl ?_
  refine g_iadd O dX12_dares_41 ?_
  refine g_aload_n O dX12_dares_42 rfl 0 rfl ?_
  obtain ⟨v5, e6, h⟩ := bo_some h
  refine g_getR O dX12_dares_43 fl_X12_26 rfl e6 ?_
  refine g_iload_n O dX12_dares_46 rfl 1 rfl ?_
  obtain ⟨v7, e8, h⟩ := bo_some h
  refine g_iaload O dX12_dares_47 e8 ?_
  refine g_iload_n O dX12_dares_48 rfl 2 rfl ?_
  refine g_bipush (v := (6 : Int32)) O dX12_dares_49 rfl ?_
  refine g_icmp_ge O dX12_dares_51 rfl (fun c9 => ?_) (fun c9 => ?_)
  · replace h := (if_pos c9).symm.trans h
    refine g_iconst (v := (0 : Int32)) O dX12_dares_65 rfl ?_
    exact t_X12_dares_66 O R0 N hn a0 x1 x2 v3 (x1 + (1 : Int32)) v7 (0 : Int32) σ1 o h K
  · replace h := (if_neg c9).symm.trans h
    refine g_iconst (v := (1 : Int32)) O dX12_dares_54 rfl ?_
    refine g_aload_n O dX12_dares_55 rfl 0 rfl ?_
    refine g_iload_n O dX12_dares_56 rfl 1 rfl ?_
    refine g_iload_n O dX12_dares_57 rfl 2 rfl ?_
    obtain ⟨a10, e11, h⟩ := bo_some h
    obtain ⟨v12, e13, h⟩ := bo_some h
    refine g_cV1 O R0 N dX12_dares_58 vl_X12_263 vv_X12_darer e11 [vI x1, vI x2] rfl rfl rfl ⟨Nat.le_of_ble_eq_true rfl, Nat.le_of_ble_eq_true rfl⟩ (c_X12_darer l0 a10 x1 x2 σ1 v12 e13) ?_
    refine g_ishl O dX12_dares_61 ?_
    refine g_goto O dX12_dares_62 rfl ?_
    exact t_X12_dares_66 O R0 N hn a0 x1 x2 v3 (x1 + (1 : Int32)) v7 ((1 : Int32) <<< (v12 &&& 31)) σ1 o h K
def f_X12_dares (a0 : Nat) (x1 : Int32) (x2 : Int32) (σ : Dt) : Option (Unit × Dt) := bo (xgr SM 12 17 (some a0) σ) fun v1 => bo (xsi SM v1 x1 x2 σ) fun σ3 => bo (xgr SM 12 15 (some a0) σ3) fun v5 => bo (xgr SM 12 15 (some a0) σ3) fun v7 => bo (xai SM v7 x1 σ3) fun v9 => if (6 : Int32) ≤ x2 then f_X12_dares_33 a0 x1 x2 v5 (x1 + (1 : Int32)) v9 (0 : Int32) σ3 else f_X12_dares_33 a0 x1 x2 v5 (x1 + (1 : Int32)) v9 ((1 : Int32) <<< (x2 &&& 31)) σ3
theorem t_X12_dares {M : Mx} {l0 : Launch} (O : Ok M cX12_dares yX12_dares) (R0 : Rm M l0 6 171 0 0) (N : Ma M = false) (hn : Mn M = 3) (a0 : Nat) (x1 : Int32) (x2 : Int32) (σ : Dt) (o : (Unit × Dt)) (h : f_X12_dares a0 x1 x2 σ = some o) (K : Fin' M (none) 0 0 SM o.2 (none)) : G M 0 0 0 [(0, vA (some a0)), (1, vI x1), (2, vI x2)] [] SM σ := by
  unfold f_X12_dares at h
  refine g_aload_n O dX12_dares_0 rfl 0 rfl ?_
  obtain ⟨v1, e2, h⟩ := bo_some h
  refine g_getR O dX12_dares_1 fl_X12_29 rfl e2 ?_
  refine g_iload_n O dX12_dares_4 rfl 1 rfl ?_
  refine g_iload_n O dX12_dares_5 rfl 2 rfl ?_
  obtain ⟨σ3, e4, h⟩ := bo_some h
  refine g_iastore O dX12_dares_6 e4 ?_
  refine g_aload_n O dX12_dares_7 rfl 0 rfl ?_
  obtain ⟨v5, e6, h⟩ := bo_some h
  refine g_getR O dX12_dares_8 fl_X12_23 rfl e6 ?_
  refine g_iload_n O dX12_dares_11 rfl 1 rfl ?_
  refine g_iconst (v := (1 : Int32)) O dX12_dares_12 rfl ?_
  refine g_iadd O dX12_dares_13 ?_
  refine g_aload_n O dX12_dares_14 rfl 0 rfl ?_
  obtain ⟨v7, e8, h⟩ := bo_some h
  refine g_getR O dX12_dares_15 fl_X12_23 rfl e8 ?_
  refine g_iload_n O dX12_dares_18 rfl 1 rfl ?_
  obtain ⟨v9, e10, h⟩ := bo_some h
  refine g_iaload O dX12_dares_19 e10 ?_
  refine g_iload_n O dX12_dares_20 rfl 2 rfl ?_
  refine g_bipush (v := (6 : Int32)) O dX12_dares_21 rfl ?_
  refine g_icmp_ge O dX12_dares_23 rfl (fun c11 => ?_) (fun c11 => ?_)
  · replace h := (if_pos c11).symm.trans h
    refine g_iconst (v := (0 : Int32)) O dX12_dares_32 rfl ?_
    exact t_X12_dares_33 O R0 N hn a0 x1 x2 v5 (x1 + (1 : Int32)) v9 (0 : Int32) σ3 o h K
  · replace h := (if_neg c11).symm.trans h
    refine g_iconst (v := (1 : Int32)) O dX12_dares_26 rfl ?_
    refine g_iload_n O dX12_dares_27 rfl 2 rfl ?_
    refine g_ishl O dX12_dares_28 ?_
    refine g_goto O dX12_dares_29 rfl ?_
    exact t_X12_dares_33 O R0 N hn a0 x1 x2 v5 (x1 + (1 : Int32)) v9 ((1 : Int32) <<< (x2 &&& 31)) σ3 o h K
theorem c_X12_dares (l0 : Launch) (a0 : Nat) (x1 : Int32) (x2 : Int32) (σ : Dt) (r : Unit) (σ' : Dt) (h : f_X12_dares a0 x1 x2 σ = some (r, σ')) : Ctr l0 yX12_dares cX12_dares 3 (none) false 6 171 0 0 [vA (some a0), vI x1, vI x2] SM σ SM σ' (none) := ctr_of (by decide) (Nat.le_of_ble_eq_true rfl) (fun M O F R0 N hn => t_X12_dares O R0 N hn a0 x1 x2 σ (r, σ') h F)
def P_X12_dareOf_51 (M : Mx) (a0 : Nat) (x1 : Int32) (x2 : Int32) (σ : Dt) (s : Int32) : Prop := G M 0 0 51 [(0, vA (some a0)), (1, vI x1), (2, vI x2), (3, vI s)] [] SM σ
def E_X12_dareOf_51 (M : Mx) (a0 : Nat) (x1 : Int32) (x2 : Int32) (σ : Dt) : Int32 → Prop := (fun w => G M 0 0 72 [(0, vA (some a0)), (1, vI x1), (2, vI x2), (3, vI w)] [] SM σ)
def f_X12_dareOf_L51 (a0 : Nat) (x1 : Int32) (x2 : Int32) (x3 : Int32) (σ : Dt) : Option (Int32 ⊕ Int32) := if (6 : Int32) ≤ x3 then some (.inr x3) else bo (xrc SM 12 (some a0)) fun a2 => bo (f_X12_mayDare a2 x2 x3 σ) fun v4 => if v4 = 0 then some (.inl (x3 + (1 : Int32))) else some (.inr x3)
theorem t_X12_dareOf_L51 {M : Mx} {l0 : Launch} (O : Ok M cX12_dareOf yX12_dareOf) (R0 : Rm M l0 7 193 0 0) (N : Ma M = false) (hn : Mn M = 4) (a0 : Nat) (x1 : Int32) (x2 : Int32) (x3 : Int32) (σ : Dt) (o : (Int32 ⊕ Int32)) (h : f_X12_dareOf_L51 a0 x1 x2 x3 σ = some o) (K : kon (P_X12_dareOf_51 M a0 x1 x2 σ) (E_X12_dareOf_51 M a0 x1 x2 σ) o) : G M 0 0 51 [(0, vA (some a0)), (1, vI x1), (2, vI x2), (3, vI x3)] [] SM σ := by
  unfold f_X12_dareOf_L51 at h
  refine g_iload_n O dX12_dareOf_51 rfl 3 rfl ?_
  refine g_bipush (v := (6 : Int32)) O dX12_dareOf_52 rfl ?_
  refine g_icmp_ge O dX12_dareOf_54 rfl (fun c1 => ?_) (fun c1 => ?_)
  · replace h := (if_pos c1).symm.trans h
    cases h
    exact K
  · replace h := (if_neg c1).symm.trans h
    refine g_aload_n O dX12_dareOf_57 rfl 0 rfl ?_
    refine g_iload_n O dX12_dareOf_58 rfl 2 rfl ?_
    refine g_iload_n O dX12_dareOf_59 rfl 3 rfl ?_
    obtain ⟨a2, e3, h⟩ := bo_some h
    obtain ⟨v4, e5, h⟩ := bo_some h
    refine g_cV1 O R0 N dX12_dareOf_60 vl_X12_273 vv_X12_mayDare e3 [vI x2, vI x3] rfl rfl rfl ⟨Nat.le_of_ble_eq_true rfl, Nat.le_of_ble_eq_true rfl⟩ (c_X12_mayDare l0 a2 x2 x3 σ v4 e5) ?_
    refine g_if_ne O dX12_dareOf_63 rfl (fun c6 => ?_) (fun c6 => ?_)
    · replace h := (if_pos c6).symm.trans h
      refine g_iinc (v := (x3 + (1 : Int32))) (lv' := [(3, vI (x3 + (1 : Int32))), (0, vA (some a0)), (1, vI x1), (2, vI x2)]) O dX12_dareOf_66 4 hn (by decide) 3 rfl rfl rfl ?_
      refine g_goto O dX12_dareOf_69 rfl ?_
      refine g_sub [1, 2, 3, 0] (lv' := [(0, vA (some a0)), (1, vI x1), (2, vI x2), (3, vI (x3 + (1 : Int32)))]) rfl ?_
      cases h
      exact K
    · replace h := (if_neg c6).symm.trans h
      cases h
      exact K
def P_X12_dareOf_28 (M : Mx) (a0 : Nat) (x1 : Int32) (s : (Int32 × Dt)) : Prop := G M 0 0 28 [(0, vA (some a0)), (1, vI x1), (2, vI s.1)] [] SM s.2
def E_X12_dareOf_28 (M : Mx) (a0 : Nat) (x1 : Int32) : Dt → Prop := (fun w => G M 0 0 135 [(0, vA (some a0))] [] SM w)
def f_X12_dareOf_95 (a0 : Nat) (x1 : Int32) (x2 : Int32) (σ : Dt) : Option ((Int32 × Dt) ⊕ Dt) := if (x2 + (-1 : Int32)) < 0 then some (.inl ((x2 + (-1 : Int32)), σ)) else bo (xgr SM 12 18 (some a0) σ) fun v2 => bo (xai SM v2 ((x2 + (-1 : Int32)) + (1 : Int32)) σ) fun v4 => bo (xrc SM 12 (some a0)) fun a6 => bd (f_X12_comesBack a6 (x2 + (-1 : Int32)) v4 σ) fun v8 σ9 => some (.inl ((x2 + (-1 : Int32)), σ9))
theorem t_X12_dareOf_95 {M : Mx} {l0 : Launch} (O : Ok M cX12_dareOf yX12_dareOf) (R0 : Rm M l0 7 193 0 0) (N : Ma M = false) (hn : Mn M = 4)  (a0 : Nat) (x1 : Int32) (x2 : Int32) (σ : Dt) (o : ((Int32 × Dt) ⊕ Dt)) (h : f_X12_dareOf_95 a0 x1 x2 σ = some o) (K : kon (P_X12_dareOf_28 M a0 x1) (E_X12_dareOf_28 M a0 x1) o) : G M 0 0 95 [(0, vA (some a0)), (1, vI x1), (2, vI x2)] [] SM σ := by
  unfold f_X12_dareOf_95 at h
  refine g_iinc (v := (x2 + (-1 : Int32))) (lv' := [(2, vI (x2 + (-1 : Int32))), (0, vA (some a0)), (1, vI x1)]) O dX12_dareOf_95 4 hn (by decide) 2 rfl rfl rfl ?_
  refine g_iload_n O dX12_dareOf_98 rfl 0 rfl ?_
  refine g_if_lt O dX12_dareOf_99 rfl (fun c1 => ?_) (fun c1 => ?_)
  · replace h := (if_pos c1).symm.trans h
    refine g_sub [1, 2, 0] (lv' := [(0, vA (some a0)), (1, vI x1), (2, vI (x2 + (-1 : Int32)))]) rfl ?_
    cases h
    exact K
  · replace h := (if_neg c1).symm.trans h
    refine g_aload_n O dX12_dareOf_102 rfl 1 rfl ?_
    refine g_iload_n O dX12_dareOf_103 rfl 0 rfl ?_
    refine g_aload_n O dX12_dareOf_104 rfl 1 rfl ?_
    obtain ⟨v2, e3, h⟩ := bo_some h
    refine g_getR O dX12_dareOf_105 fl_X12_32 rfl e3 ?_
    refine g_iload_n O dX12_dareOf_108 rfl 0 rfl ?_
    refine g_iconst (v := (1 : Int32)) O dX12_dareOf_109 rfl ?_
    refine g_iadd O dX12_dareOf_110 ?_
    obtain ⟨v4, e5, h⟩ := bo_some h
    refine g_iaload O dX12_dareOf_111 e5 ?_
    obtain ⟨a6, e7, h⟩ := bo_some h
    obtain ⟨v8, σ9, e10, h⟩ := bd_some h
    refine g_cV0 O R0 N dX12_dareOf_112 vl_X12_276 vv_X12_comesBack e7 [vI (x2 + (-1 : Int32)), vI v4] rfl rfl rfl ⟨Nat.le_of_ble_eq_true rfl, Nat.le_of_ble_eq_true rfl⟩ (c_X12_comesBack l0 a6 (x2 + (-1 : Int32)) v4 σ v8 σ9 e10) ?_
    refine g_goto O dX12_dareOf_115 rfl ?_
    refine g_sub [1, 2, 0] (lv' := [(0, vA (some a0)), (1, vI x1), (2, vI (x2 + (-1 : Int32)))]) rfl ?_
    cases h
    exact K
def f_X12_dareOf_72 (a0 : Nat) (x1 : Int32) (x2 : Int32) (x3 : Int32) (σ : Dt) : Option ((Int32 × Dt) ⊕ Dt) := if x3 ≤ (6 : Int32) then bo (xrc SM 12 (some a0)) fun a2 => bd (f_X12_dares a2 x2 x3 σ) fun v4 σ5 => bo (xrc SM 12 (some a0)) fun a7 => bd (f_X12_laysTurn a7 (x2 + (1 : Int32)) σ5) fun v9 σ10 => some (.inl ((x2 + (1 : Int32)), σ10)) else if x2 = x1 then bo (xgr SM 12 18 (some a0) σ) fun v13 => bo (xgr SM 12 19 (some a0) σ) fun v15 => bo (xai SM v15 x2 σ) fun v17 => bo (xsi SM v13 x2 v17 σ) fun σ19 => f_X12_dareOf_95 a0 x1 x2 σ19 else f_X12_dareOf_95 a0 x1 x2 σ
theorem t_X12_dareOf_72 {M : Mx} {l0 : Launch} (O : Ok M cX12_dareOf yX12_dareOf) (R0 : Rm M l0 7 193 0 0) (N : Ma M = false) (hn : Mn M = 4)  (a0 : Nat) (x1 : Int32) (x2 : Int32) (x3 : Int32) (σ : Dt) (o : ((Int32 × Dt) ⊕ Dt)) (h : f_X12_dareOf_72 a0 x1 x2 x3 σ = some o) (K : kon (P_X12_dareOf_28 M a0 x1) (E_X12_dareOf_28 M a0 x1) o) : G M 0 0 72 [(0, vA (some a0)), (1, vI x1), (2, vI x2), (3, vI x3)] [] SM σ := by
  unfold f_X12_dareOf_72 at h
  refine g_iload_n O dX12_dareOf_72 rfl 3 rfl ?_
  refine g_bipush (v := (6 : Int32)) O dX12_dareOf_73 rfl ?_
  refine g_icmp_le O dX12_dareOf_75 rfl (fun c1 => ?_) (fun c1 => ?_)
  · replace h := (if_pos c1).symm.trans h
    refine g_aload_n O dX12_dareOf_118 rfl 0 rfl ?_
    refine g_iload_n O dX12_dareOf_119 rfl 2 rfl ?_
    refine g_iload_n O dX12_dareOf_120 rfl 3 rfl ?_
    obtain ⟨a2, e3, h⟩ := bo_some h
    obtain ⟨v4, σ5, e6, h⟩ := bd_some h
    refine g_cV0 O R0 N dX12_dareOf_121 vl_X12_279 vv_X12_dares e3 [vI x2, vI x3] rfl rfl rfl ⟨Nat.le_of_ble_eq_true rfl, Nat.le_of_ble_eq_true rfl⟩ (c_X12_dares l0 a2 x2 x3 σ v4 σ5 e6) ?_
    refine g_iinc (v := (x2 + (1 : Int32))) (lv' := [(2, vI (x2 + (1 : Int32))), (0, vA (some a0)), (1, vI x1), (3, vI x3)]) O dX12_dareOf_124 4 hn (by decide) 2 rfl rfl rfl ?_
    refine g_aload_n O dX12_dareOf_127 rfl 1 rfl ?_
    refine g_iload_n O dX12_dareOf_128 rfl 0 rfl ?_
    obtain ⟨a7, e8, h⟩ := bo_some h
    obtain ⟨v9, σ10, e11, h⟩ := bd_some h
    refine g_cV0 O R0 N dX12_dareOf_129 vl_X12_270 vv_X12_laysTurn e8 [vI (x2 + (1 : Int32))] rfl rfl rfl ⟨Nat.le_of_ble_eq_true rfl, Nat.le_of_ble_eq_true rfl⟩ (c_X12_laysTurn l0 a7 (x2 + (1 : Int32)) σ5 v9 σ10 e11) ?_
    refine g_goto O dX12_dareOf_132 rfl ?_
    refine g_sub [1, 2, 0] (lv' := [(0, vA (some a0)), (1, vI x1), (2, vI (x2 + (1 : Int32)))]) rfl ?_
    cases h
    exact K
  · replace h := (if_neg c1).symm.trans h
    refine g_iload_n O dX12_dareOf_78 rfl 2 rfl ?_
    refine g_iload_n O dX12_dareOf_79 rfl 1 rfl ?_
    refine g_icmp_ne O dX12_dareOf_80 rfl (fun c12 => ?_) (fun c12 => ?_)
    · replace h := (if_pos c12).symm.trans h
      refine g_aload_n O dX12_dareOf_83 rfl 0 rfl ?_
      obtain ⟨v13, e14, h⟩ := bo_some h
      refine g_getR O dX12_dareOf_84 fl_X12_32 rfl e14 ?_
      refine g_iload_n O dX12_dareOf_87 rfl 2 rfl ?_
      refine g_aload_n O dX12_dareOf_88 rfl 0 rfl ?_
      obtain ⟨v15, e16, h⟩ := bo_some h
      refine g_getR O dX12_dareOf_89 fl_X12_35 rfl e16 ?_
      refine g_iload_n O dX12_dareOf_92 rfl 2 rfl ?_
      obtain ⟨v17, e18, h⟩ := bo_some h
      refine g_iaload O dX12_dareOf_93 e18 ?_
      obtain ⟨σ19, e20, h⟩ := bo_some h
      refine g_iastore O dX12_dareOf_94 e20 ?_
      refine g_sub [0, 1, 2] (lv' := [(0, vA (some a0)), (1, vI x1), (2, vI x2)]) rfl ?_
      exact t_X12_dareOf_95 O R0 N hn a0 x1 x2 σ19 o h K
    · replace h := (if_neg c12).symm.trans h
      refine g_sub [0, 1, 2] (lv' := [(0, vA (some a0)), (1, vI x1), (2, vI x2)]) rfl ?_
      exact t_X12_dareOf_95 O R0 N hn a0 x1 x2 σ o h K
def f_X12_dareOf_50 (a0 : Nat) (x1 : Int32) (x2 : Int32) (k0 : Int32) (σ : Dt) : Option ((Int32 × Dt) ⊕ Dt) := bo (iter FU (fun s => f_X12_dareOf_L51 a0 x1 x2 s σ) k0) fun w1 => f_X12_dareOf_72 a0 x1 x2 w1 σ
theorem t_X12_dareOf_50 {M : Mx} {l0 : Launch} (O : Ok M cX12_dareOf yX12_dareOf) (R0 : Rm M l0 7 193 0 0) (N : Ma M = false) (hn : Mn M = 4)  (a0 : Nat) (x1 : Int32) (x2 : Int32) (k0 : Int32) (σ : Dt) (o : ((Int32 × Dt) ⊕ Dt)) (h : f_X12_dareOf_50 a0 x1 x2 k0 σ = some o) (K : kon (P_X12_dareOf_28 M a0 x1) (E_X12_dareOf_28 M a0 x1) o) : G M 0 0 50 [(0, vA (some a0)), (1, vI x1), (2, vI x2)] [vI k0] SM σ := by
  unfold f_X12_dareOf_50 at h
  refine g_istore_n (lv' := [(3, vI k0), (0, vA (some a0)), (1, vI x1), (2, vI x2)]) O dX12_dareOf_50 rfl 4 hn (by decide) rfl ?_
  refine g_sub [1, 2, 3, 0] (lv' := [(0, vA (some a0)), (1, vI x1), (2, vI x2), (3, vI k0)]) rfl ?_
  obtain ⟨w1, e2, h⟩ := bo_some h
  refine iter_G (P := P_X12_dareOf_51 M a0 x1 x2 σ) (E := E_X12_dareOf_51 M a0 x1 x2 σ) (fun s o hb hk => t_X12_dareOf_L51 O R0 N hn a0 x1 x2 s σ o hb hk) FU k0 w1 e2 ?_
  show G M 0 0 72 [(0, vA (some a0)), (1, vI x1), (2, vI x2), (3, vI w1)] [] SM σ
  exact t_X12_dareOf_72 O R0 N hn a0 x1 x2 w1 σ o h K
def f_X12_dareOf_L28 (a0 : Nat) (x1 : Int32) (x2 : Int32) (σ : Dt) : Option ((Int32 × Dt) ⊕ Dt) := if x2 < 0 then some (.inr σ) else if x2 = x1 then f_X12_dareOf_50 a0 x1 x2 (7 : Int32) σ else bo (xgr SM 12 17 (some a0) σ) fun v3 => bo (xai SM v3 x2 σ) fun v5 => f_X12_dareOf_50 a0 x1 x2 (v5 + (1 : Int32)) σ
theorem t_X12_dareOf_L28 {M : Mx} {l0 : Launch} (O : Ok M cX12_dareOf yX12_dareOf) (R0 : Rm M l0 7 193 0 0) (N : Ma M = false) (hn : Mn M = 4) (a0 : Nat) (x1 : Int32) (x2 : Int32) (σ : Dt) (o : ((Int32 × Dt) ⊕ Dt)) (h : f_X12_dareOf_L28 a0 x1 x2 σ = some o) (K : kon (P_X12_dareOf_28 M a0 x1) (E_X12_dareOf_28 M a0 x1) o) : G M 0 0 28 [(0, vA (some a0)), (1, vI x1), (2, vI x2)] [] SM σ := by
  unfold f_X12_dareOf_L28 at h
  refine g_iload_n O dX12_dareOf_28 rfl 2 rfl ?_
  refine g_if_lt O dX12_dareOf_29 rfl (fun c1 => ?_) (fun c1 => ?_)
  · replace h := (if_pos c1).symm.trans h
    refine g_sub [0] (lv' := [(0, vA (some a0))]) rfl ?_
    cases h
    exact K
  · replace h := (if_neg c1).symm.trans h
    refine g_iload_n O dX12_dareOf_32 rfl 2 rfl ?_
    refine g_iload_n O dX12_dareOf_33 rfl 1 rfl ?_
    refine g_icmp_ne O dX12_dareOf_34 rfl (fun c2 => ?_) (fun c2 => ?_)
    · replace h := (if_pos c2).symm.trans h
      refine g_bipush (v := (7 : Int32)) O dX12_dareOf_37 rfl ?_
      refine g_goto O dX12_dareOf_39 rfl ?_
      exact t_X12_dareOf_50 O R0 N hn a0 x1 x2 (7 : Int32) σ o h K
    · replace h := (if_neg c2).symm.trans h
      refine g_aload_n O dX12_dareOf_42 rfl 0 rfl ?_
      obtain ⟨v3, e4, h⟩ := bo_some h
      refine g_getR O dX12_dareOf_43 fl_X12_29 rfl e4 ?_
      refine g_iload_n O dX12_dareOf_46 rfl 2 rfl ?_
      obtain ⟨v5, e6, h⟩ := bo_some h
      refine g_iaload O dX12_dareOf_47 e6 ?_
      refine g_iconst (v := (1 : Int32)) O dX12_dareOf_48 rfl ?_
      refine g_iadd O dX12_dareOf_49 ?_
      exact t_X12_dareOf_50 O R0 N hn a0 x1 x2 (v5 + (1 : Int32)) σ o h K
def f_X12_dareOf (a0 : Nat) (x1 : Int32) (σ : Dt) : Option (Int32 × Dt) := bo (xgr SM 12 15 (some a0) σ) fun v1 => bo (xsi SM v1 (0 : Int32) (0 : Int32) σ) fun σ3 => bo (xgr SM 12 16 (some a0) σ3) fun v5 => bo (xsi SM v5 (0 : Int32) (0 : Int32) σ3) fun σ7 => bo (xgr SM 12 19 (some a0) σ7) fun v9 => bo (xsi SM v9 (0 : Int32) (0 : Int32) σ7) fun σ11 => bo (xrc SM 12 (some a0)) fun a13 => bd (f_X12_laysTurn a13 (0 : Int32) σ11) fun v15 σ16 => bo (iter FU (fun s => f_X12_dareOf_L28 a0 x1 s.1 s.2) ((0 : Int32), σ16)) fun w18 => bo (xgr SM 12 18 (some a0) w18) fun v20 => bo (xai SM v20 (0 : Int32) w18) fun v22 => some (v22, w18)
theorem t_X12_dareOf {M : Mx} {l0 : Launch} (O : Ok M cX12_dareOf yX12_dareOf) (R0 : Rm M l0 7 193 0 0) (N : Ma M = false) (hn : Mn M = 4) (a0 : Nat) (x1 : Int32) (σ : Dt) (o : (Int32 × Dt)) (h : f_X12_dareOf a0 x1 σ = some o) (K : Fin' M (some .int) 0 0 SM o.2 (some (vI o.1))) : G M 0 0 0 [(0, vA (some a0)), (1, vI x1)] [] SM σ := by
  unfold f_X12_dareOf at h
  refine g_iconst (v := (0 : Int32)) O dX12_dareOf_0 rfl ?_
  refine g_istore_n (lv' := [(2, vI (0 : Int32)), (0, vA (some a0)), (1, vI x1)]) O dX12_dareOf_1 rfl 4 hn (by decide) rfl ?_
  refine g_aload_n O dX12_dareOf_2 rfl 1 rfl ?_
  obtain ⟨v1, e2, h⟩ := bo_some h
  refine g_getR O dX12_dareOf_3 fl_X12_23 rfl e2 ?_
  refine g_iconst (v := (0 : Int32)) O dX12_dareOf_6 rfl ?_
  refine g_iconst (v := (0 : Int32)) O dX12_dareOf_7 rfl ?_
  obtain ⟨σ3, e4, h⟩ := bo_some h
  refine g_iastore O dX12_dareOf_8 e4 ?_
  refine g_aload_n O dX12_dareOf_9 rfl 1 rfl ?_
  obtain ⟨v5, e6, h⟩ := bo_some h
  refine g_getR O dX12_dareOf_10 fl_X12_26 rfl e6 ?_
  refine g_iconst (v := (0 : Int32)) O dX12_dareOf_13 rfl ?_
  refine g_iconst (v := (0 : Int32)) O dX12_dareOf_14 rfl ?_
  obtain ⟨σ7, e8, h⟩ := bo_some h
  refine g_iastore O dX12_dareOf_15 e8 ?_
  refine g_aload_n O dX12_dareOf_16 rfl 1 rfl ?_
  obtain ⟨v9, e10, h⟩ := bo_some h
  refine g_getR O dX12_dareOf_17 fl_X12_35 rfl e10 ?_
  refine g_iconst (v := (0 : Int32)) O dX12_dareOf_20 rfl ?_
  refine g_iconst (v := (0 : Int32)) O dX12_dareOf_21 rfl ?_
  obtain ⟨σ11, e12, h⟩ := bo_some h
  refine g_iastore O dX12_dareOf_22 e12 ?_
  refine g_aload_n O dX12_dareOf_23 rfl 1 rfl ?_
  refine g_iconst (v := (0 : Int32)) O dX12_dareOf_24 rfl ?_
  obtain ⟨a13, e14, h⟩ := bo_some h
  obtain ⟨v15, σ16, e17, h⟩ := bd_some h
  refine g_cV0 O R0 N dX12_dareOf_25 vl_X12_270 vv_X12_laysTurn e14 [vI (0 : Int32)] rfl rfl rfl ⟨Nat.le_of_ble_eq_true rfl, Nat.le_of_ble_eq_true rfl⟩ (c_X12_laysTurn l0 a13 (0 : Int32) σ11 v15 σ16 e17) ?_
  refine g_sub [1, 2, 0] (lv' := [(0, vA (some a0)), (1, vI x1), (2, vI (0 : Int32))]) rfl ?_
  obtain ⟨w18, e19, h⟩ := bo_some h
  refine iter_G (P := P_X12_dareOf_28 M a0 x1) (E := E_X12_dareOf_28 M a0 x1) (fun s o hb hk => t_X12_dareOf_L28 O R0 N hn a0 x1 s.1 s.2 o hb hk) FU ((0 : Int32), σ16) w18 e19 ?_
  show G M 0 0 135 [(0, vA (some a0))] [] SM w18
  refine g_aload_n O dX12_dareOf_135 rfl 0 rfl ?_
  obtain ⟨v20, e21, h⟩ := bo_some h
  refine g_getR O dX12_dareOf_136 fl_X12_32 rfl e21 ?_
  refine g_iconst (v := (0 : Int32)) O dX12_dareOf_139 rfl ?_
  obtain ⟨v22, e23, h⟩ := bo_some h
  refine g_iaload O dX12_dareOf_140 e23 ?_
  cases h
  exact g_ireturn O K dX12_dareOf_141
theorem c_X12_dareOf (l0 : Launch) (a0 : Nat) (x1 : Int32) (σ : Dt) (r : Int32) (σ' : Dt) (h : f_X12_dareOf a0 x1 σ = some (r, σ')) : Ctr l0 yX12_dareOf cX12_dareOf 4 (some .int) false 7 193 0 0 [vA (some a0), vI x1] SM σ SM σ' (some (vI r)) := ctr_of (by decide) (Nat.le_of_ble_eq_true rfl) (fun M O F R0 N hn => t_X12_dareOf O R0 N hn a0 x1 σ (r, σ') h F)
def f_X12_dare (a0 : Nat) (x1 : Int32) (x2 : Int32) (x3 : Int32) (σ : Dt) : Option (Int32 × Dt) := bo (xrc SM 12 (some a0)) fun a1 => bd (f_X12_isValley a1 x1 σ) fun v3 σ4 => if v3 = 0 then some ((-999 : Int32), σ4) else bo (f_X12_isIn x2 (0 : Int32) (4 : Int32) σ4) fun v7 => if v7 = 0 then some ((-999 : Int32), σ4) else bo (xpi SM 12 20 (some a0) (-1 : Int32) σ4) fun σ10 => bo (xrc SM 12 (some a0)) fun a12 => bd (f_X12_dareOf a12 x2 σ10) fun v14 σ15 => if x3 = 0 then some (v14, σ15) else bo (xgi SM 12 20 (some a0) σ15) fun v18 => some (v18, σ15)
theorem t_X12_dare {M : Mx} {l0 : Launch} (O : Ok M cX12_dare yX12_dare) (R0 : Rm M l0 8 216 0 0) (N : Ma M = false) (hn : Mn M = 5) (a0 : Nat) (x1 : Int32) (x2 : Int32) (x3 : Int32) (σ : Dt) (o : (Int32 × Dt)) (h : f_X12_dare a0 x1 x2 x3 σ = some o) (K : Fin' M (some .int) 0 0 SM o.2 (some (vI o.1))) : G M 0 0 0 [(0, vA (some a0)), (1, vI x1), (2, vI x2), (3, vI x3)] [] SM σ := by
  unfold f_X12_dare at h
  refine g_aload_n O dX12_dare_0 rfl 0 rfl ?_
  refine g_iload_n O dX12_dare_1 rfl 1 rfl ?_
  obtain ⟨a1, e2, h⟩ := bo_some h
  obtain ⟨v3, σ4, e5, h⟩ := bd_some h
  refine g_cV1 O R0 N dX12_dare_2 vl_X12_220 vv_X12_isValley e2 [vI x1] rfl rfl rfl ⟨Nat.le_of_ble_eq_true rfl, Nat.le_of_ble_eq_true rfl⟩ (c_X12_isValley l0 a1 x1 σ v3 σ4 e5) ?_
  refine g_if_eq O dX12_dare_5 rfl (fun c6 => ?_) (fun c6 => ?_)
  · replace h := (if_pos c6).symm.trans h
    refine g_sipush (v := (-999 : Int32)) O dX12_dare_17 rfl ?_
    cases h
    exact g_ireturn O K dX12_dare_20
  · replace h := (if_neg c6).symm.trans h
    refine g_iload_n O dX12_dare_8 rfl 2 rfl ?_
    refine g_iconst (v := (0 : Int32)) O dX12_dare_9 rfl ?_
    refine g_iconst (v := (4 : Int32)) O dX12_dare_10 rfl ?_
    obtain ⟨v7, e8, h⟩ := bo_some h
    refine g_cS1 O R0 N dX12_dare_11 vl_X12_146 w1616 [vI x2, vI (0 : Int32), vI (4 : Int32)] rfl rfl rfl ⟨Nat.le_of_ble_eq_true rfl, Nat.le_of_ble_eq_true rfl⟩ (c_X12_isIn l0 x2 (0 : Int32) (4 : Int32) σ4 v7 e8) ?_
    refine g_if_ne O dX12_dare_14 rfl (fun c9 => ?_) (fun c9 => ?_)
    · replace h := (if_pos c9).symm.trans h
      refine g_sipush (v := (-999 : Int32)) O dX12_dare_17 rfl ?_
      cases h
      exact g_ireturn O K dX12_dare_20
    · replace h := (if_neg c9).symm.trans h
      refine g_aload_n O dX12_dare_21 rfl 0 rfl ?_
      refine g_iconst (v := (-1 : Int32)) O dX12_dare_22 rfl ?_
      obtain ⟨σ10, e11, h⟩ := bo_some h
      refine g_putI O dX12_dare_23 fl_X12_267 (Or.inl rfl) rfl e11 ?_
      refine g_aload_n O dX12_dare_26 rfl 0 rfl ?_
      refine g_iload_n O dX12_dare_27 rfl 2 rfl ?_
      obtain ⟨a12, e13, h⟩ := bo_some h
      obtain ⟨v14, σ15, e16, h⟩ := bd_some h
      refine g_cV1 O R0 N dX12_dare_28 vl_X12_282 vv_X12_dareOf e13 [vI x2] rfl rfl rfl ⟨Nat.le_of_ble_eq_true rfl, Nat.le_of_ble_eq_true rfl⟩ (c_X12_dareOf l0 a12 x2 σ10 v14 σ15 e16) ?_
      refine g_istore (lv' := [(4, vI v14), (0, vA (some a0)), (1, vI x1), (2, vI x2), (3, vI x3)]) O dX12_dare_31 5 hn (by decide) rfl ?_
      refine g_iload_n O dX12_dare_33 rfl 4 rfl ?_
      refine g_if_eq O dX12_dare_34 rfl (fun c17 => ?_) (fun c17 => ?_)
      · replace h := (if_pos c17).symm.trans h
        refine g_iload O dX12_dare_44 0 rfl ?_
        cases h
        exact g_ireturn O K dX12_dare_46
      · replace h := (if_neg c17).symm.trans h
        refine g_aload_n O dX12_dare_37 rfl 1 rfl ?_
        obtain ⟨v18, e19, h⟩ := bo_some h
        refine g_getI O dX12_dare_38 fl_X12_267 rfl e19 ?_
        refine g_goto O dX12_dare_41 rfl ?_
        cases h
        exact g_ireturn O K dX12_dare_46
theorem c_X12_dare (l0 : Launch) (a0 : Nat) (x1 : Int32) (x2 : Int32) (x3 : Int32) (σ : Dt) (r : Int32) (σ' : Dt) (h : f_X12_dare a0 x1 x2 x3 σ = some (r, σ')) : Ctr l0 yX12_dare cX12_dare 5 (some .int) false 8 216 0 0 [vA (some a0), vI x1, vI x2, vI x3] SM σ SM σ' (some (vI r)) := ctr_of (by decide) (Nat.le_of_ble_eq_true rfl) (fun M O F R0 N hn => t_X12_dare O R0 N hn a0 x1 x2 x3 σ (r, σ') h F)
