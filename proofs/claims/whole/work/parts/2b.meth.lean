def P_X5_judgeLine_17 (M : Mx) (a0 : Nat) (x1 : Int32) (x2 : Int32) (s : (Int32 × Dt)) : Prop := G M 0 0 17 [(0, vA (some a0)), (1, vI x1), (2, vI x2), (4, vI s.1)] [] SX s.2
def E_X5_judgeLine_17 (M : Mx) (a0 : Nat) (x1 : Int32) (x2 : Int32) : Dt → Prop := (fun w => G M 0 0 57 [] [] SX w)
def f_X5_judgeLine_51 (a0 : Nat) (x1 : Int32) (x2 : Int32) (x4 : Int32) (σ : Dt) : Option ((Int32 × Dt) ⊕ Dt) := some (.inl ((x4 + (1 : Int32)), σ))
theorem t_X5_judgeLine_51 {M : Mx} {l0 : Launch} (O : Ok M cX5_judgeLine yX5_judgeLine) (R0 : Rm M l0 4 126 0 0) (N : Ma M = false) (hn : Mn M = 5)  (a0 : Nat) (x1 : Int32) (x2 : Int32) (x4 : Int32) (σ : Dt) (o : ((Int32 × Dt) ⊕ Dt)) (h : f_X5_judgeLine_51 a0 x1 x2 x4 σ = some o) (K : kon (P_X5_judgeLine_17 M a0 x1 x2) (E_X5_judgeLine_17 M a0 x1 x2) o) : G M 0 0 51 [(0, vA (some a0)), (1, vI x1), (2, vI x2), (4, vI x4)] [] SX σ := by
  unfold f_X5_judgeLine_51 at h
  refine g_iinc (v := (x4 + (1 : Int32))) (lv' := [(4, vI (x4 + (1 : Int32))), (0, vA (some a0)), (1, vI x1), (2, vI x2)]) O dX5_judgeLine_51 5 hn (by decide) 3 rfl rfl rfl ?_
  refine g_goto O dX5_judgeLine_54 rfl ?_
  refine g_sub [1, 2, 3, 0] (lv' := [(0, vA (some a0)), (1, vI x1), (2, vI x2), (4, vI (x4 + (1 : Int32)))]) rfl ?_
  cases h
  exact K
def f_X5_judgeLine_L17 (a0 : Nat) (x1 : Int32) (x2 : Int32) (x4 : Int32) (σ : Dt) : Option ((Int32 × Dt) ⊕ Dt) := if x2 ≤ x4 then some (.inr σ) else if (3 : Int32) ≤ x4 then some (.inr σ) else bo (xrc SX 5 (some a0)) fun a3 => bo (f_X5_canBe a3 x1 x4 σ) fun v5 => if v5 = 0 then bo (xgr SX 5 12 (some a0) σ) fun v8 => bo (xai SX v8 x4 σ) fun v10 => bo (xrc SX 5 (some a0)) fun a12 => bd (f_X5_note a12 (2 : Int32) v10 σ) fun v14 σ15 => f_X5_judgeLine_51 a0 x1 x2 x4 σ15 else f_X5_judgeLine_51 a0 x1 x2 x4 σ
theorem t_X5_judgeLine_L17 {M : Mx} {l0 : Launch} (O : Ok M cX5_judgeLine yX5_judgeLine) (R0 : Rm M l0 4 126 0 0) (N : Ma M = false) (hn : Mn M = 5) (a0 : Nat) (x1 : Int32) (x2 : Int32) (x4 : Int32) (σ : Dt) (o : ((Int32 × Dt) ⊕ Dt)) (h : f_X5_judgeLine_L17 a0 x1 x2 x4 σ = some o) (K : kon (P_X5_judgeLine_17 M a0 x1 x2) (E_X5_judgeLine_17 M a0 x1 x2) o) : G M 0 0 17 [(0, vA (some a0)), (1, vI x1), (2, vI x2), (4, vI x4)] [] SX σ := by
  unfold f_X5_judgeLine_L17 at h
  refine g_iload O dX5_judgeLine_17 3 rfl ?_
  refine g_iload_n O dX5_judgeLine_19 rfl 2 rfl ?_
  refine g_icmp_ge O dX5_judgeLine_20 rfl (fun c1 => ?_) (fun c1 => ?_)
  · replace h := (if_pos c1).symm.trans h
    refine g_sub [] (lv' := []) rfl ?_
    cases h
    exact K
  · replace h := (if_neg c1).symm.trans h
    refine g_iload O dX5_judgeLine_23 3 rfl ?_
    refine g_iconst (v := (3 : Int32)) O dX5_judgeLine_25 rfl ?_
    refine g_icmp_ge O dX5_judgeLine_26 rfl (fun c2 => ?_) (fun c2 => ?_)
    · replace h := (if_pos c2).symm.trans h
      refine g_sub [] (lv' := []) rfl ?_
      cases h
      exact K
    · replace h := (if_neg c2).symm.trans h
      refine g_aload_n O dX5_judgeLine_29 rfl 0 rfl ?_
      refine g_iload_n O dX5_judgeLine_30 rfl 1 rfl ?_
      refine g_iload O dX5_judgeLine_31 3 rfl ?_
      obtain ⟨a3, e4, h⟩ := bo_some h
      obtain ⟨v5, e6, h⟩ := bo_some h
      refine g_cV1 O R0 N dX5_judgeLine_33 vl_X5_176 vv_X5_canBe e4 [vI x1, vI x4] rfl rfl rfl ⟨Nat.le_of_ble_eq_true rfl, Nat.le_of_ble_eq_true rfl⟩ (c_X5_canBe l0 a3 x1 x4 σ v5 e6) ?_
      refine g_if_ne O dX5_judgeLine_36 rfl (fun c7 => ?_) (fun c7 => ?_)
      · replace h := (if_pos c7).symm.trans h
        refine g_aload_n O dX5_judgeLine_39 rfl 0 rfl ?_
        refine g_iconst (v := (2 : Int32)) O dX5_judgeLine_40 rfl ?_
        refine g_aload_n O dX5_judgeLine_41 rfl 0 rfl ?_
        obtain ⟨v8, e9, h⟩ := bo_some h
        refine g_getR O dX5_judgeLine_42 fl_X5_46 rfl e9 ?_
        refine g_iload O dX5_judgeLine_45 3 rfl ?_
        obtain ⟨v10, e11, h⟩ := bo_some h
        refine g_iaload O dX5_judgeLine_47 e11 ?_
        obtain ⟨a12, e13, h⟩ := bo_some h
        obtain ⟨v14, σ15, e16, h⟩ := bd_some h
        refine g_cV0 O R0 N dX5_judgeLine_48 vl_X5_172 vv_X5_note e13 [vI (2 : Int32), vI v10] rfl rfl rfl ⟨Nat.le_of_ble_eq_true rfl, Nat.le_of_ble_eq_true rfl⟩ (c_X5_note l0 a12 (2 : Int32) v10 σ v14 σ15 e16) ?_
        exact t_X5_judgeLine_51 O R0 N hn a0 x1 x2 x4 σ15 o h K
      · replace h := (if_neg c7).symm.trans h
        exact t_X5_judgeLine_51 O R0 N hn a0 x1 x2 x4 σ o h K
def f_X5_judgeLine_14 (a0 : Nat) (x1 : Int32) (x2 : Int32) (σ : Dt) : Option (Unit × Dt) := bo (iter FU (fun s => f_X5_judgeLine_L17 a0 x1 x2 s.1 s.2) ((0 : Int32), σ)) fun w1 => some ((), w1)
theorem t_X5_judgeLine_14 {M : Mx} {l0 : Launch} (O : Ok M cX5_judgeLine yX5_judgeLine) (R0 : Rm M l0 4 126 0 0) (N : Ma M = false) (hn : Mn M = 5)  (a0 : Nat) (x1 : Int32) (x2 : Int32) (σ : Dt) (o : (Unit × Dt)) (h : f_X5_judgeLine_14 a0 x1 x2 σ = some o) (K : Fin' M (none) 0 0 SX o.2 (none)) : G M 0 0 14 [(0, vA (some a0)), (1, vI x1), (2, vI x2)] [] SX σ := by
  unfold f_X5_judgeLine_14 at h
  refine g_iconst (v := (0 : Int32)) O dX5_judgeLine_14 rfl ?_
  refine g_istore (lv' := [(4, vI (0 : Int32)), (0, vA (some a0)), (1, vI x1), (2, vI x2)]) O dX5_judgeLine_15 5 hn (by decide) rfl ?_
  refine g_sub [1, 2, 3, 0] (lv' := [(0, vA (some a0)), (1, vI x1), (2, vI x2), (4, vI (0 : Int32))]) rfl ?_
  obtain ⟨w1, e2, h⟩ := bo_some h
  refine iter_G (P := P_X5_judgeLine_17 M a0 x1 x2) (E := E_X5_judgeLine_17 M a0 x1 x2) (fun s o hb hk => t_X5_judgeLine_L17 O R0 N hn a0 x1 x2 s.1 s.2 o hb hk) FU ((0 : Int32), σ) w1 e2 ?_
  show G M 0 0 57 [] [] SX w1
  cases h
  exact g_return O K dX5_judgeLine_57
def f_X5_judgeLine (a0 : Nat) (x1 : Int32) (x2 : Int32) (x3 : Int32) (σ : Dt) : Option (Unit × Dt) := bo (xrc SX 5 (some a0)) fun a1 => bo (f_X5_isOneTooMany a1 x1 σ) fun v3 => if v3 = 0 then f_X5_judgeLine_14 a0 x1 x2 σ else bo (xrc SX 5 (some a0)) fun a6 => bd (f_X5_note a6 (3 : Int32) x3 σ) fun v8 σ9 => f_X5_judgeLine_14 a0 x1 x2 σ9
theorem t_X5_judgeLine {M : Mx} {l0 : Launch} (O : Ok M cX5_judgeLine yX5_judgeLine) (R0 : Rm M l0 4 126 0 0) (N : Ma M = false) (hn : Mn M = 5) (a0 : Nat) (x1 : Int32) (x2 : Int32) (x3 : Int32) (σ : Dt) (o : (Unit × Dt)) (h : f_X5_judgeLine a0 x1 x2 x3 σ = some o) (K : Fin' M (none) 0 0 SX o.2 (none)) : G M 0 0 0 [(0, vA (some a0)), (1, vI x1), (2, vI x2), (3, vI x3)] [] SX σ := by
  unfold f_X5_judgeLine at h
  refine g_aload_n O dX5_judgeLine_0 rfl 0 rfl ?_
  refine g_iload_n O dX5_judgeLine_1 rfl 1 rfl ?_
  obtain ⟨a1, e2, h⟩ := bo_some h
  obtain ⟨v3, e4, h⟩ := bo_some h
  refine g_cV1 O R0 N dX5_judgeLine_2 vl_X5_169 vv_X5_isOneTooMany e2 [vI x1] rfl rfl rfl ⟨Nat.le_of_ble_eq_true rfl, Nat.le_of_ble_eq_true rfl⟩ (c_X5_isOneTooMany l0 a1 x1 σ v3 e4) ?_
  refine g_if_eq O dX5_judgeLine_5 rfl (fun c5 => ?_) (fun c5 => ?_)
  · replace h := (if_pos c5).symm.trans h
    refine g_sub [0, 1, 2] (lv' := [(0, vA (some a0)), (1, vI x1), (2, vI x2)]) rfl ?_
    exact t_X5_judgeLine_14 O R0 N hn a0 x1 x2 σ o h K
  · replace h := (if_neg c5).symm.trans h
    refine g_aload_n O dX5_judgeLine_8 rfl 0 rfl ?_
    refine g_iconst (v := (3 : Int32)) O dX5_judgeLine_9 rfl ?_
    refine g_iload_n O dX5_judgeLine_10 rfl 3 rfl ?_
    obtain ⟨a6, e7, h⟩ := bo_some h
    obtain ⟨v8, σ9, e10, h⟩ := bd_some h
    refine g_cV0 O R0 N dX5_judgeLine_11 vl_X5_172 vv_X5_note e7 [vI (3 : Int32), vI x3] rfl rfl rfl ⟨Nat.le_of_ble_eq_true rfl, Nat.le_of_ble_eq_true rfl⟩ (c_X5_note l0 a6 (3 : Int32) x3 σ v8 σ9 e10) ?_
    refine g_sub [0, 1, 2] (lv' := [(0, vA (some a0)), (1, vI x1), (2, vI x2)]) rfl ?_
    exact t_X5_judgeLine_14 O R0 N hn a0 x1 x2 σ9 o h K
theorem c_X5_judgeLine (l0 : Launch) (a0 : Nat) (x1 : Int32) (x2 : Int32) (x3 : Int32) (σ : Dt) (r : Unit) (σ' : Dt) (h : f_X5_judgeLine a0 x1 x2 x3 σ = some (r, σ')) : Ctr l0 yX5_judgeLine cX5_judgeLine 5 (none) false 4 126 0 0 [vA (some a0), vI x1, vI x2, vI x3] SX σ SX σ' (none) := ctr_of (by decide) (Nat.le_of_ble_eq_true rfl) (fun M O F R0 N hn => t_X5_judgeLine O R0 N hn a0 x1 x2 x3 σ (r, σ') h F)
def f_X5_tellOfValley (a0 : Nat) (x1 : Int32) (σ : Dt) : Option (Unit × Dt) := bo (xgr SX 5 11 (some a0) σ) fun v1 => bo (xai SX v1 (0 : Int32) σ) fun v3 => bo (xgr SX 5 11 (some a0) σ) fun v5 => bo (xai SX v5 (1 : Int32) σ) fun v7 => if x1 = (3 : Int32) then bo (xgr SX 5 0 (some a0) σ) fun v10 => bo (xpi SX 9 2 v10 v3 σ) fun σ12 => some ((), σ12) else if x1 = (1 : Int32) then if v3 < 0 then some ((), σ) else if (10 : Int32) ≤ v3 then some ((), σ) else if v7 < 0 then some ((), σ) else if v3 ≤ v7 then some ((), σ) else bo (xgr SX 5 0 (some a0) σ) fun v19 => bo (xgr SX 9 5 v19 σ) fun v21 => bo (xai SX v21 v3 σ) fun v23 => bo (xsi SX v21 v3 (v23 ||| ((1 : Int32) <<< (v7 &&& 31))) σ) fun σ25 => bo (xgi SX 5 10 (some a0) σ25) fun v27 => bo (xpi SX 5 10 (some a0) (v27 ||| ((1 : Int32) <<< (v3 &&& 31))) σ25) fun σ29 => some ((), σ29) else if x1 = 0 then bo (xgr SX 5 0 (some a0) σ) fun v32 => bo (xgi SX 9 0 v32 σ) fun v34 => if v34 < 0 then some ((), σ) else bo (xgr SX 5 0 (some a0) σ) fun v37 => bo (xgi SX 9 0 v37 σ) fun v39 => if (10 : Int32) ≤ v39 then some ((), σ) else bo (xgr SX 5 0 (some a0) σ) fun v42 => bo (xgr SX 9 3 v42 σ) fun v44 => bo (xgr SX 5 0 (some a0) σ) fun v46 => bo (xgi SX 9 0 v46 σ) fun v48 => bo (xsi SX v44 v48 v3 σ) fun σ50 => bo (xgr SX 5 0 (some a0) σ50) fun v52 => bo (xgr SX 9 4 v52 σ50) fun v54 => bo (xgr SX 5 0 (some a0) σ50) fun v56 => bo (xgi SX 9 0 v56 σ50) fun v58 => bo (xsi SX v54 v58 v7 σ50) fun σ60 => bo (xgr SX 5 0 (some a0) σ60) fun v62 => bo (xgi SX 9 0 v62 σ60) fun v64 => bo (xpi SX 9 0 v62 (v64 + (1 : Int32)) σ60) fun σ66 => some ((), σ66) else bo (xgr SX 5 0 (some a0) σ) fun v68 => bo (xgi SX 9 1 v68 σ) fun v70 => if v70 < 0 then some ((), σ) else bo (xgr SX 5 0 (some a0) σ) fun v73 => bo (xgi SX 9 1 v73 σ) fun v75 => if (6 : Int32) ≤ v75 then some ((), σ) else bo (xgr SX 5 0 (some a0) σ) fun v78 => bo (xgr SX 9 8 v78 σ) fun v80 => bo (xgr SX 5 0 (some a0) σ) fun v82 => bo (xgi SX 9 1 v82 σ) fun v84 => bo (xsi SX v80 v84 v3 σ) fun σ86 => bo (xgr SX 5 0 (some a0) σ86) fun v88 => bo (xgr SX 9 9 v88 σ86) fun v90 => bo (xgr SX 5 0 (some a0) σ86) fun v92 => bo (xgi SX 9 1 v92 σ86) fun v94 => bo (xsi SX v90 v94 v7 σ86) fun σ96 => bo (xgr SX 5 0 (some a0) σ96) fun v98 => bo (xgi SX 9 1 v98 σ96) fun v100 => bo (xpi SX 9 1 v98 (v100 + (1 : Int32)) σ96) fun σ102 => some ((), σ102)
theorem t_X5_tellOfValley {M : Mx} {l0 : Launch} (O : Ok M cX5_tellOfValley yX5_tellOfValley) (R0 : Rm M l0 2 80 0 0) (N : Ma M = false) (hn : Mn M = 4) (a0 : Nat) (x1 : Int32) (σ : Dt) (o : (Unit × Dt)) (h : f_X5_tellOfValley a0 x1 σ = some o) (K : Fin' M (none) 0 0 SX o.2 (none)) : G M 0 0 0 [(0, vA (some a0)), (1, vI x1)] [] SX σ := by
  unfold f_X5_tellOfValley at h
  refine g_aload_n O dX5_tellOfValley_0 rfl 0 rfl ?_
  obtain ⟨v1, e2, h⟩ := bo_some h
  refine g_getR O dX5_tellOfValley_1 fl_X5_43 rfl e2 ?_
  refine g_iconst (v := (0 : Int32)) O dX5_tellOfValley_4 rfl ?_
  obtain ⟨v3, e4, h⟩ := bo_some h
  refine g_iaload O dX5_tellOfValley_5 e4 ?_
  refine g_istore_n (lv' := [(2, vI v3), (0, vA (some a0)), (1, vI x1)]) O dX5_tellOfValley_6 rfl 4 hn (by decide) rfl ?_
  refine g_aload_n O dX5_tellOfValley_7 rfl 1 rfl ?_
  obtain ⟨v5, e6, h⟩ := bo_some h
  refine g_getR O dX5_tellOfValley_8 fl_X5_43 rfl e6 ?_
  refine g_iconst (v := (1 : Int32)) O dX5_tellOfValley_11 rfl ?_
  obtain ⟨v7, e8, h⟩ := bo_some h
  refine g_iaload O dX5_tellOfValley_12 e8 ?_
  refine g_istore_n (lv' := [(3, vI v7), (2, vI v3), (0, vA (some a0)), (1, vI x1)]) O dX5_tellOfValley_13 rfl 4 hn (by decide) rfl ?_
  refine g_iload_n O dX5_tellOfValley_14 rfl 3 rfl ?_
  refine g_iconst (v := (3 : Int32)) O dX5_tellOfValley_15 rfl ?_
  refine g_icmp_ne O dX5_tellOfValley_16 rfl (fun c9 => ?_) (fun c9 => ?_)
  · replace h := (if_pos c9).symm.trans h
    refine g_aload_n O dX5_tellOfValley_19 rfl 2 rfl ?_
    obtain ⟨v10, e11, h⟩ := bo_some h
    refine g_getR O dX5_tellOfValley_20 fl_X5_12 rfl e11 ?_
    refine g_iload_n O dX5_tellOfValley_23 rfl 1 rfl ?_
    obtain ⟨σ12, e13, h⟩ := bo_some h
    refine g_putI O dX5_tellOfValley_24 fl_X5_203 (Or.inl rfl) rfl e13 ?_
    refine g_goto O dX5_tellOfValley_27 rfl ?_
    cases h
    exact g_return O K dX5_tellOfValley_225
  · replace h := (if_neg c9).symm.trans h
    refine g_iload_n O dX5_tellOfValley_30 rfl 3 rfl ?_
    refine g_iconst (v := (1 : Int32)) O dX5_tellOfValley_31 rfl ?_
    refine g_icmp_ne O dX5_tellOfValley_32 rfl (fun c14 => ?_) (fun c14 => ?_)
    · replace h := (if_pos c14).symm.trans h
      refine g_iload_n O dX5_tellOfValley_35 rfl 1 rfl ?_
      refine g_if_lt O dX5_tellOfValley_36 rfl (fun c15 => ?_) (fun c15 => ?_)
      · replace h := (if_pos c15).symm.trans h
        cases h
        exact g_return O K dX5_tellOfValley_225
      · replace h := (if_neg c15).symm.trans h
        refine g_iload_n O dX5_tellOfValley_39 rfl 1 rfl ?_
        refine g_bipush (v := (10 : Int32)) O dX5_tellOfValley_40 rfl ?_
        refine g_icmp_ge O dX5_tellOfValley_42 rfl (fun c16 => ?_) (fun c16 => ?_)
        · replace h := (if_pos c16).symm.trans h
          cases h
          exact g_return O K dX5_tellOfValley_225
        · replace h := (if_neg c16).symm.trans h
          refine g_iload_n O dX5_tellOfValley_45 rfl 0 rfl ?_
          refine g_if_lt O dX5_tellOfValley_46 rfl (fun c17 => ?_) (fun c17 => ?_)
          · replace h := (if_pos c17).symm.trans h
            cases h
            exact g_return O K dX5_tellOfValley_225
          · replace h := (if_neg c17).symm.trans h
            refine g_iload_n O dX5_tellOfValley_49 rfl 0 rfl ?_
            refine g_iload_n O dX5_tellOfValley_50 rfl 1 rfl ?_
            refine g_icmp_ge O dX5_tellOfValley_51 rfl (fun c18 => ?_) (fun c18 => ?_)
            · replace h := (if_pos c18).symm.trans h
              cases h
              exact g_return O K dX5_tellOfValley_225
            · replace h := (if_neg c18).symm.trans h
              refine g_aload_n O dX5_tellOfValley_54 rfl 2 rfl ?_
              obtain ⟨v19, e20, h⟩ := bo_some h
              refine g_getR O dX5_tellOfValley_55 fl_X5_12 rfl e20 ?_
              obtain ⟨v21, e22, h⟩ := bo_some h
              refine g_getR O dX5_tellOfValley_58 fl_X5_205 rfl e22 ?_
              refine g_iload_n O dX5_tellOfValley_61 rfl 1 rfl ?_
              refine g_dup2 O dX5_tellOfValley_62 rfl rfl ?_
              obtain ⟨v23, e24, h⟩ := bo_some h
              refine g_iaload O dX5_tellOfValley_63 e24 ?_
              refine g_iconst (v := (1 : Int32)) O dX5_tellOfValley_64 rfl ?_
              refine g_iload_n O dX5_tellOfValley_65 rfl 0 rfl ?_
              refine g_ishl O dX5_tellOfValley_66 ?_
              refine g_ior O dX5_tellOfValley_67 ?_
              obtain ⟨σ25, e26, h⟩ := bo_some h
              refine g_iastore O dX5_tellOfValley_68 e26 ?_
              refine g_aload_n O dX5_tellOfValley_69 rfl 2 rfl ?_
              refine g_dup O dX5_tellOfValley_70 rfl ?_
              obtain ⟨v27, e28, h⟩ := bo_some h
              refine g_getI O dX5_tellOfValley_71 fl_X5_67 rfl e28 ?_
              refine g_iconst (v := (1 : Int32)) O dX5_tellOfValley_74 rfl ?_
              refine g_iload_n O dX5_tellOfValley_75 rfl 1 rfl ?_
              refine g_ishl O dX5_tellOfValley_76 ?_
              refine g_ior O dX5_tellOfValley_77 ?_
              obtain ⟨σ29, e30, h⟩ := bo_some h
              refine g_putI O dX5_tellOfValley_78 fl_X5_67 (Or.inl rfl) rfl e30 ?_
              refine g_goto O dX5_tellOfValley_81 rfl ?_
              cases h
              exact g_return O K dX5_tellOfValley_225
    · replace h := (if_neg c14).symm.trans h
      refine g_iload_n O dX5_tellOfValley_84 rfl 3 rfl ?_
      refine g_if_ne O dX5_tellOfValley_85 rfl (fun c31 => ?_) (fun c31 => ?_)
      · replace h := (if_pos c31).symm.trans h
        refine g_aload_n O dX5_tellOfValley_88 rfl 2 rfl ?_
        obtain ⟨v32, e33, h⟩ := bo_some h
        refine g_getR O dX5_tellOfValley_89 fl_X5_12 rfl e33 ?_
        obtain ⟨v34, e35, h⟩ := bo_some h
        refine g_getI O dX5_tellOfValley_92 fl_X5_180 rfl e35 ?_
        refine g_if_lt O dX5_tellOfValley_95 rfl (fun c36 => ?_) (fun c36 => ?_)
        · replace h := (if_pos c36).symm.trans h
          cases h
          exact g_return O K dX5_tellOfValley_225
        · replace h := (if_neg c36).symm.trans h
          refine g_aload_n O dX5_tellOfValley_98 rfl 2 rfl ?_
          obtain ⟨v37, e38, h⟩ := bo_some h
          refine g_getR O dX5_tellOfValley_99 fl_X5_12 rfl e38 ?_
          obtain ⟨v39, e40, h⟩ := bo_some h
          refine g_getI O dX5_tellOfValley_102 fl_X5_180 rfl e40 ?_
          refine g_bipush (v := (10 : Int32)) O dX5_tellOfValley_105 rfl ?_
          refine g_icmp_ge O dX5_tellOfValley_107 rfl (fun c41 => ?_) (fun c41 => ?_)
          · replace h := (if_pos c41).symm.trans h
            cases h
            exact g_return O K dX5_tellOfValley_225
          · replace h := (if_neg c41).symm.trans h
            refine g_aload_n O dX5_tellOfValley_110 rfl 2 rfl ?_
            obtain ⟨v42, e43, h⟩ := bo_some h
            refine g_getR O dX5_tellOfValley_111 fl_X5_12 rfl e43 ?_
            obtain ⟨v44, e45, h⟩ := bo_some h
            refine g_getR O dX5_tellOfValley_114 fl_X5_208 rfl e45 ?_
            refine g_aload_n O dX5_tellOfValley_117 rfl 2 rfl ?_
            obtain ⟨v46, e47, h⟩ := bo_some h
            refine g_getR O dX5_tellOfValley_118 fl_X5_12 rfl e47 ?_
            obtain ⟨v48, e49, h⟩ := bo_some h
            refine g_getI O dX5_tellOfValley_121 fl_X5_180 rfl e49 ?_
            refine g_iload_n O dX5_tellOfValley_124 rfl 1 rfl ?_
            obtain ⟨σ50, e51, h⟩ := bo_some h
            refine g_iastore O dX5_tellOfValley_125 e51 ?_
            refine g_aload_n O dX5_tellOfValley_126 rfl 2 rfl ?_
            obtain ⟨v52, e53, h⟩ := bo_some h
            refine g_getR O dX5_tellOfValley_127 fl_X5_12 rfl e53 ?_
            obtain ⟨v54, e55, h⟩ := bo_some h
            refine g_getR O dX5_tellOfValley_130 fl_X5_211 rfl e55 ?_
            refine g_aload_n O dX5_tellOfValley_133 rfl 2 rfl ?_
            obtain ⟨v56, e57, h⟩ := bo_some h
            refine g_getR O dX5_tellOfValley_134 fl_X5_12 rfl e57 ?_
            obtain ⟨v58, e59, h⟩ := bo_some h
            refine g_getI O dX5_tellOfValley_137 fl_X5_180 rfl e59 ?_
            refine g_iload_n O dX5_tellOfValley_140 rfl 0 rfl ?_
            obtain ⟨σ60, e61, h⟩ := bo_some h
            refine g_iastore O dX5_tellOfValley_141 e61 ?_
            refine g_aload_n O dX5_tellOfValley_142 rfl 2 rfl ?_
            obtain ⟨v62, e63, h⟩ := bo_some h
            refine g_getR O dX5_tellOfValley_143 fl_X5_12 rfl e63 ?_
            refine g_dup O dX5_tellOfValley_146 rfl ?_
            obtain ⟨v64, e65, h⟩ := bo_some h
            refine g_getI O dX5_tellOfValley_147 fl_X5_180 rfl e65 ?_
            refine g_iconst (v := (1 : Int32)) O dX5_tellOfValley_150 rfl ?_
            refine g_iadd O dX5_tellOfValley_151 ?_
            obtain ⟨σ66, e67, h⟩ := bo_some h
            refine g_putI O dX5_tellOfValley_152 fl_X5_180 (Or.inl rfl) rfl e67 ?_
            refine g_goto O dX5_tellOfValley_155 rfl ?_
            cases h
            exact g_return O K dX5_tellOfValley_225
      · replace h := (if_neg c31).symm.trans h
        refine g_aload_n O dX5_tellOfValley_158 rfl 2 rfl ?_
        obtain ⟨v68, e69, h⟩ := bo_some h
        refine g_getR O dX5_tellOfValley_159 fl_X5_12 rfl e69 ?_
        obtain ⟨v70, e71, h⟩ := bo_some h
        refine g_getI O dX5_tellOfValley_162 fl_X5_182 rfl e71 ?_
        refine g_if_lt O dX5_tellOfValley_165 rfl (fun c72 => ?_) (fun c72 => ?_)
        · replace h := (if_pos c72).symm.trans h
          cases h
          exact g_return O K dX5_tellOfValley_225
        · replace h := (if_neg c72).symm.trans h
          refine g_aload_n O dX5_tellOfValley_168 rfl 2 rfl ?_
          obtain ⟨v73, e74, h⟩ := bo_some h
          refine g_getR O dX5_tellOfValley_169 fl_X5_12 rfl e74 ?_
          obtain ⟨v75, e76, h⟩ := bo_some h
          refine g_getI O dX5_tellOfValley_172 fl_X5_182 rfl e76 ?_
          refine g_bipush (v := (6 : Int32)) O dX5_tellOfValley_175 rfl ?_
          refine g_icmp_ge O dX5_tellOfValley_177 rfl (fun c77 => ?_) (fun c77 => ?_)
          · replace h := (if_pos c77).symm.trans h
            cases h
            exact g_return O K dX5_tellOfValley_225
          · replace h := (if_neg c77).symm.trans h
            refine g_aload_n O dX5_tellOfValley_180 rfl 2 rfl ?_
            obtain ⟨v78, e79, h⟩ := bo_some h
            refine g_getR O dX5_tellOfValley_181 fl_X5_12 rfl e79 ?_
            obtain ⟨v80, e81, h⟩ := bo_some h
            refine g_getR O dX5_tellOfValley_184 fl_X5_214 rfl e81 ?_
            refine g_aload_n O dX5_tellOfValley_187 rfl 2 rfl ?_
            obtain ⟨v82, e83, h⟩ := bo_some h
            refine g_getR O dX5_tellOfValley_188 fl_X5_12 rfl e83 ?_
            obtain ⟨v84, e85, h⟩ := bo_some h
            refine g_getI O dX5_tellOfValley_191 fl_X5_182 rfl e85 ?_
            refine g_iload_n O dX5_tellOfValley_194 rfl 1 rfl ?_
            obtain ⟨σ86, e87, h⟩ := bo_some h
            refine g_iastore O dX5_tellOfValley_195 e87 ?_
            refine g_aload_n O dX5_tellOfValley_196 rfl 2 rfl ?_
            obtain ⟨v88, e89, h⟩ := bo_some h
            refine g_getR O dX5_tellOfValley_197 fl_X5_12 rfl e89 ?_
            obtain ⟨v90, e91, h⟩ := bo_some h
            refine g_getR O dX5_tellOfValley_200 fl_X5_217 rfl e91 ?_
            refine g_aload_n O dX5_tellOfValley_203 rfl 2 rfl ?_
            obtain ⟨v92, e93, h⟩ := bo_some h
            refine g_getR O dX5_tellOfValley_204 fl_X5_12 rfl e93 ?_
            obtain ⟨v94, e95, h⟩ := bo_some h
            refine g_getI O dX5_tellOfValley_207 fl_X5_182 rfl e95 ?_
            refine g_iload_n O dX5_tellOfValley_210 rfl 0 rfl ?_
            obtain ⟨σ96, e97, h⟩ := bo_some h
            refine g_iastore O dX5_tellOfValley_211 e97 ?_
            refine g_aload_n O dX5_tellOfValley_212 rfl 2 rfl ?_
            obtain ⟨v98, e99, h⟩ := bo_some h
            refine g_getR O dX5_tellOfValley_213 fl_X5_12 rfl e99 ?_
            refine g_dup O dX5_tellOfValley_216 rfl ?_
            obtain ⟨v100, e101, h⟩ := bo_some h
            refine g_getI O dX5_tellOfValley_217 fl_X5_182 rfl e101 ?_
            refine g_iconst (v := (1 : Int32)) O dX5_tellOfValley_220 rfl ?_
            refine g_iadd O dX5_tellOfValley_221 ?_
            obtain ⟨σ102, e103, h⟩ := bo_some h
            refine g_putI O dX5_tellOfValley_222 fl_X5_182 (Or.inl rfl) rfl e103 ?_
            cases h
            exact g_return O K dX5_tellOfValley_225
theorem c_X5_tellOfValley (l0 : Launch) (a0 : Nat) (x1 : Int32) (σ : Dt) (r : Unit) (σ' : Dt) (h : f_X5_tellOfValley a0 x1 σ = some (r, σ')) : Ctr l0 yX5_tellOfValley cX5_tellOfValley 4 (none) false 2 80 0 0 [vA (some a0), vI x1] SX σ SX σ' (none) := ctr_of (by decide) (Nat.le_of_ble_eq_true rfl) (fun M O F R0 N hn => t_X5_tellOfValley O R0 N hn a0 x1 σ (r, σ') h F)
def f_X5_tellDeed (a0 : Nat) (x1 : Int32) (σ : Dt) : Option (Unit × Dt) := bo (xgr SX 5 1 (some a0) σ) fun v1 => bo (xgi SX 4 0 v1 σ) fun v3 => if v3 < 0 then some ((), σ) else if (40 : Int32) ≤ v3 then some ((), σ) else bo (xgr SX 5 1 (some a0) σ) fun v7 => bo (xgr SX 4 1 v7 σ) fun v9 => bo (xsi SX v9 v3 x1 σ) fun σ11 => bo (xgr SX 5 1 (some a0) σ11) fun v13 => bo (xgr SX 4 2 v13 σ11) fun v15 => bo (xgr SX 5 11 (some a0) σ11) fun v17 => bo (xai SX v17 (0 : Int32) σ11) fun v19 => bo (xsi SX v15 v3 v19 σ11) fun σ21 => bo (xgr SX 5 1 (some a0) σ21) fun v23 => bo (xgr SX 4 3 v23 σ21) fun v25 => bo (xgr SX 5 11 (some a0) σ21) fun v27 => bo (xai SX v27 (1 : Int32) σ21) fun v29 => bo (xsi SX v25 v3 v29 σ21) fun σ31 => bo (xgr SX 5 1 (some a0) σ31) fun v33 => bo (xgr SX 4 4 v33 σ31) fun v35 => bo (xgr SX 5 11 (some a0) σ31) fun v37 => bo (xai SX v37 (2 : Int32) σ31) fun v39 => bo (xsi SX v35 v3 v39 σ31) fun σ41 => bo (xgr SX 5 1 (some a0) σ41) fun v43 => bo (xgi SX 4 0 v43 σ41) fun v45 => bo (xpi SX 4 0 v43 (v45 + (1 : Int32)) σ41) fun σ47 => some ((), σ47)
theorem t_X5_tellDeed {M : Mx} {l0 : Launch} (O : Ok M cX5_tellDeed yX5_tellDeed) (R0 : Rm M l0 2 80 0 0) (N : Ma M = false) (hn : Mn M = 3) (a0 : Nat) (x1 : Int32) (σ : Dt) (o : (Unit × Dt)) (h : f_X5_tellDeed a0 x1 σ = some o) (K : Fin' M (none) 0 0 SX o.2 (none)) : G M 0 0 0 [(0, vA (some a0)), (1, vI x1)] [] SX σ := by
  unfold f_X5_tellDeed at h
  refine g_aload_n O dX5_tellDeed_0 rfl 0 rfl ?_
  obtain ⟨v1, e2, h⟩ := bo_some h
  refine g_getR O dX5_tellDeed_1 fl_X5_21 rfl e2 ?_
  obtain ⟨v3, e4, h⟩ := bo_some h
  refine g_getI O dX5_tellDeed_4 fl_X5_73 rfl e4 ?_
  refine g_istore_n (lv' := [(2, vI v3), (0, vA (some a0)), (1, vI x1)]) O dX5_tellDeed_7 rfl 3 hn (by decide) rfl ?_
  refine g_iload_n O dX5_tellDeed_8 rfl 0 rfl ?_
  refine g_if_lt O dX5_tellDeed_9 rfl (fun c5 => ?_) (fun c5 => ?_)
  · replace h := (if_pos c5).symm.trans h
    cases h
    exact g_return O K dX5_tellDeed_86
  · replace h := (if_neg c5).symm.trans h
    refine g_iload_n O dX5_tellDeed_12 rfl 0 rfl ?_
    refine g_bipush (v := (40 : Int32)) O dX5_tellDeed_13 rfl ?_
    refine g_icmp_ge O dX5_tellDeed_15 rfl (fun c6 => ?_) (fun c6 => ?_)
    · replace h := (if_pos c6).symm.trans h
      cases h
      exact g_return O K dX5_tellDeed_86
    · replace h := (if_neg c6).symm.trans h
      refine g_aload_n O dX5_tellDeed_18 rfl 1 rfl ?_
      obtain ⟨v7, e8, h⟩ := bo_some h
      refine g_getR O dX5_tellDeed_19 fl_X5_21 rfl e8 ?_
      obtain ⟨v9, e10, h⟩ := bo_some h
      refine g_getR O dX5_tellDeed_22 fl_X5_220 rfl e10 ?_
      refine g_iload_n O dX5_tellDeed_25 rfl 0 rfl ?_
      refine g_iload_n O dX5_tellDeed_26 rfl 2 rfl ?_
      obtain ⟨σ11, e12, h⟩ := bo_some h
      refine g_iastore O dX5_tellDeed_27 e12 ?_
      refine g_aload_n O dX5_tellDeed_28 rfl 1 rfl ?_
      obtain ⟨v13, e14, h⟩ := bo_some h
      refine g_getR O dX5_tellDeed_29 fl_X5_21 rfl e14 ?_
      obtain ⟨v15, e16, h⟩ := bo_some h
      refine g_getR O dX5_tellDeed_32 fl_X5_223 rfl e16 ?_
      refine g_iload_n O dX5_tellDeed_35 rfl 0 rfl ?_
      refine g_aload_n O dX5_tellDeed_36 rfl 1 rfl ?_
      obtain ⟨v17, e18, h⟩ := bo_some h
      refine g_getR O dX5_tellDeed_37 fl_X5_43 rfl e18 ?_
      refine g_iconst (v := (0 : Int32)) O dX5_tellDeed_40 rfl ?_
      obtain ⟨v19, e20, h⟩ := bo_some h
      refine g_iaload O dX5_tellDeed_41 e20 ?_
      obtain ⟨σ21, e22, h⟩ := bo_some h
      refine g_iastore O dX5_tellDeed_42 e22 ?_
      refine g_aload_n O dX5_tellDeed_43 rfl 1 rfl ?_
      obtain ⟨v23, e24, h⟩ := bo_some h
      refine g_getR O dX5_tellDeed_44 fl_X5_21 rfl e24 ?_
      obtain ⟨v25, e26, h⟩ := bo_some h
      refine g_getR O dX5_tellDeed_47 fl_X5_226 rfl e26 ?_
      refine g_iload_n O dX5_tellDeed_50 rfl 0 rfl ?_
      refine g_aload_n O dX5_tellDeed_51 rfl 1 rfl ?_
      obtain ⟨v27, e28, h⟩ := bo_some h
      refine g_getR O dX5_tellDeed_52 fl_X5_43 rfl e28 ?_
      refine g_iconst (v := (1 : Int32)) O dX5_tellDeed_55 rfl ?_
      obtain ⟨v29, e30, h⟩ := bo_some h
      refine g_iaload O dX5_tellDeed_56 e30 ?_
      obtain ⟨σ31, e32, h⟩ := bo_some h
      refine g_iastore O dX5_tellDeed_57 e32 ?_
      refine g_aload_n O dX5_tellDeed_58 rfl 1 rfl ?_
      obtain ⟨v33, e34, h⟩ := bo_some h
      refine g_getR O dX5_tellDeed_59 fl_X5_21 rfl e34 ?_
      obtain ⟨v35, e36, h⟩ := bo_some h
      refine g_getR O dX5_tellDeed_62 fl_X5_229 rfl e36 ?_
      refine g_iload_n O dX5_tellDeed_65 rfl 0 rfl ?_
      refine g_aload_n O dX5_tellDeed_66 rfl 1 rfl ?_
      obtain ⟨v37, e38, h⟩ := bo_some h
      refine g_getR O dX5_tellDeed_67 fl_X5_43 rfl e38 ?_
      refine g_iconst (v := (2 : Int32)) O dX5_tellDeed_70 rfl ?_
      obtain ⟨v39, e40, h⟩ := bo_some h
      refine g_iaload O dX5_tellDeed_71 e40 ?_
      obtain ⟨σ41, e42, h⟩ := bo_some h
      refine g_iastore O dX5_tellDeed_72 e42 ?_
      refine g_aload_n O dX5_tellDeed_73 rfl 1 rfl ?_
      obtain ⟨v43, e44, h⟩ := bo_some h
      refine g_getR O dX5_tellDeed_74 fl_X5_21 rfl e44 ?_
      refine g_dup O dX5_tellDeed_77 rfl ?_
      obtain ⟨v45, e46, h⟩ := bo_some h
      refine g_getI O dX5_tellDeed_78 fl_X5_73 rfl e46 ?_
      refine g_iconst (v := (1 : Int32)) O dX5_tellDeed_81 rfl ?_
      refine g_iadd O dX5_tellDeed_82 ?_
      obtain ⟨σ47, e48, h⟩ := bo_some h
      refine g_putI O dX5_tellDeed_83 fl_X5_73 (Or.inl rfl) rfl e48 ?_
      cases h
      exact g_return O K dX5_tellDeed_86
theorem c_X5_tellDeed (l0 : Launch) (a0 : Nat) (x1 : Int32) (σ : Dt) (r : Unit) (σ' : Dt) (h : f_X5_tellDeed a0 x1 σ = some (r, σ')) : Ctr l0 yX5_tellDeed cX5_tellDeed 3 (none) false 2 80 0 0 [vA (some a0), vI x1] SX σ SX σ' (none) := ctr_of (by decide) (Nat.le_of_ble_eq_true rfl) (fun M O F R0 N hn => t_X5_tellDeed O R0 N hn a0 x1 σ (r, σ') h F)
def f_X5_tellLine (a0 : Nat) (x1 : Int32) (σ : Dt) : Option (Unit × Dt) := bo (xgi SX 5 7 (some a0) σ) fun v1 => if v1 = 0 then bo (xrc SX 5 (some a0)) fun a4 => bd (f_X5_tellOfValley a4 x1 σ) fun v6 σ7 => some ((), σ7) else bo (xgi SX 5 7 (some a0) σ) fun v9 => if v9 = (1 : Int32) then bo (xrc SX 5 (some a0)) fun a12 => bd (f_X5_tellDeed a12 x1 σ) fun v14 σ15 => some ((), σ15) else if x1 = 0 then bo (xgr SX 5 2 (some a0) σ) fun v18 => bo (xgr SX 5 11 (some a0) σ) fun v20 => bo (xai SX v20 (0 : Int32) σ) fun v22 => bo (xpi SX 6 0 v18 v22 σ) fun σ24 => some ((), σ24) else bo (xgr SX 5 2 (some a0) σ) fun v26 => bo (xgi SX 6 1 v26 σ) fun v28 => if v28 < 0 then some ((), σ) else bo (xgr SX 5 2 (some a0) σ) fun v31 => bo (xgi SX 6 1 v31 σ) fun v33 => if (8 : Int32) ≤ v33 then some ((), σ) else bo (xgr SX 5 2 (some a0) σ) fun v36 => bo (xgr SX 6 2 v36 σ) fun v38 => bo (xgr SX 5 2 (some a0) σ) fun v40 => bo (xgi SX 6 1 v40 σ) fun v42 => bo (xgr SX 5 11 (some a0) σ) fun v44 => bo (xai SX v44 (0 : Int32) σ) fun v46 => bo (xsi SX v38 v42 v46 σ) fun σ48 => bo (xgr SX 5 2 (some a0) σ48) fun v50 => bo (xgr SX 6 3 v50 σ48) fun v52 => bo (xgr SX 5 2 (some a0) σ48) fun v54 => bo (xgi SX 6 1 v54 σ48) fun v56 => bo (xgr SX 5 11 (some a0) σ48) fun v58 => bo (xai SX v58 (1 : Int32) σ48) fun v60 => bo (xsi SX v52 v56 v60 σ48) fun σ62 => bo (xgr SX 5 2 (some a0) σ62) fun v64 => bo (xgi SX 6 1 v64 σ62) fun v66 => bo (xpi SX 6 1 v64 (v66 + (1 : Int32)) σ62) fun σ68 => some ((), σ68)
theorem t_X5_tellLine {M : Mx} {l0 : Launch} (O : Ok M cX5_tellLine yX5_tellLine) (R0 : Rm M l0 3 103 0 0) (N : Ma M = false) (hn : Mn M = 2) (a0 : Nat) (x1 : Int32) (σ : Dt) (o : (Unit × Dt)) (h : f_X5_tellLine a0 x1 σ = some o) (K : Fin' M (none) 0 0 SX o.2 (none)) : G M 0 0 0 [(0, vA (some a0)), (1, vI x1)] [] SX σ := by
  unfold f_X5_tellLine at h
  refine g_aload_n O dX5_tellLine_0 rfl 0 rfl ?_
  obtain ⟨v1, e2, h⟩ := bo_some h
  refine g_getI O dX5_tellLine_1 fl_X5_61 rfl e2 ?_
  refine g_if_ne O dX5_tellLine_4 rfl (fun c3 => ?_) (fun c3 => ?_)
  · replace h := (if_pos c3).symm.trans h
    refine g_aload_n O dX5_tellLine_7 rfl 0 rfl ?_
    refine g_iload_n O dX5_tellLine_8 rfl 1 rfl ?_
    obtain ⟨a4, e5, h⟩ := bo_some h
    obtain ⟨v6, σ7, e8, h⟩ := bd_some h
    refine g_cV0 O R0 N dX5_tellLine_9 vl_X5_192 vv_X5_tellOfValley e5 [vI x1] rfl rfl rfl ⟨Nat.le_of_ble_eq_true rfl, Nat.le_of_ble_eq_true rfl⟩ (c_X5_tellOfValley l0 a4 x1 σ v6 σ7 e8) ?_
    refine g_goto O dX5_tellLine_12 rfl ?_
    cases h
    exact g_return O K dX5_tellLine_128
  · replace h := (if_neg c3).symm.trans h
    refine g_aload_n O dX5_tellLine_15 rfl 0 rfl ?_
    obtain ⟨v9, e10, h⟩ := bo_some h
    refine g_getI O dX5_tellLine_16 fl_X5_61 rfl e10 ?_
    refine g_iconst (v := (1 : Int32)) O dX5_tellLine_19 rfl ?_
    refine g_icmp_ne O dX5_tellLine_20 rfl (fun c11 => ?_) (fun c11 => ?_)
    · replace h := (if_pos c11).symm.trans h
      refine g_aload_n O dX5_tellLine_23 rfl 0 rfl ?_
      refine g_iload_n O dX5_tellLine_24 rfl 1 rfl ?_
      obtain ⟨a12, e13, h⟩ := bo_some h
      obtain ⟨v14, σ15, e16, h⟩ := bd_some h
      refine g_cV0 O R0 N dX5_tellLine_25 vl_X5_195 vv_X5_tellDeed e13 [vI x1] rfl rfl rfl ⟨Nat.le_of_ble_eq_true rfl, Nat.le_of_ble_eq_true rfl⟩ (c_X5_tellDeed l0 a12 x1 σ v14 σ15 e16) ?_
      refine g_goto O dX5_tellLine_28 rfl ?_
      cases h
      exact g_return O K dX5_tellLine_128
    · replace h := (if_neg c11).symm.trans h
      refine g_iload_n O dX5_tellLine_31 rfl 1 rfl ?_
      refine g_if_ne O dX5_tellLine_32 rfl (fun c17 => ?_) (fun c17 => ?_)
      · replace h := (if_pos c17).symm.trans h
        refine g_aload_n O dX5_tellLine_35 rfl 0 rfl ?_
        obtain ⟨v18, e19, h⟩ := bo_some h
        refine g_getR O dX5_tellLine_36 fl_X5_28 rfl e19 ?_
        refine g_aload_n O dX5_tellLine_39 rfl 0 rfl ?_
        obtain ⟨v20, e21, h⟩ := bo_some h
        refine g_getR O dX5_tellLine_40 fl_X5_43 rfl e21 ?_
        refine g_iconst (v := (0 : Int32)) O dX5_tellLine_43 rfl ?_
        obtain ⟨v22, e23, h⟩ := bo_some h
        refine g_iaload O dX5_tellLine_44 e23 ?_
        obtain ⟨σ24, e25, h⟩ := bo_some h
        refine g_putI O dX5_tellLine_45 fl_X5_76 (Or.inl rfl) rfl e25 ?_
        refine g_goto O dX5_tellLine_48 rfl ?_
        cases h
        exact g_return O K dX5_tellLine_128
      · replace h := (if_neg c17).symm.trans h
        refine g_aload_n O dX5_tellLine_51 rfl 0 rfl ?_
        obtain ⟨v26, e27, h⟩ := bo_some h
        refine g_getR O dX5_tellLine_52 fl_X5_28 rfl e27 ?_
        obtain ⟨v28, e29, h⟩ := bo_some h
        refine g_getI O dX5_tellLine_55 fl_X5_79 rfl e29 ?_
        refine g_if_lt O dX5_tellLine_58 rfl (fun c30 => ?_) (fun c30 => ?_)
        · replace h := (if_pos c30).symm.trans h
          cases h
          exact g_return O K dX5_tellLine_128
        · replace h := (if_neg c30).symm.trans h
          refine g_aload_n O dX5_tellLine_61 rfl 0 rfl ?_
          obtain ⟨v31, e32, h⟩ := bo_some h
          refine g_getR O dX5_tellLine_62 fl_X5_28 rfl e32 ?_
          obtain ⟨v33, e34, h⟩ := bo_some h
          refine g_getI O dX5_tellLine_65 fl_X5_79 rfl e34 ?_
          refine g_bipush (v := (8 : Int32)) O dX5_tellLine_68 rfl ?_
          refine g_icmp_ge O dX5_tellLine_70 rfl (fun c35 => ?_) (fun c35 => ?_)
          · replace h := (if_pos c35).symm.trans h
            cases h
            exact g_return O K dX5_tellLine_128
          · replace h := (if_neg c35).symm.trans h
            refine g_aload_n O dX5_tellLine_73 rfl 0 rfl ?_
            obtain ⟨v36, e37, h⟩ := bo_some h
            refine g_getR O dX5_tellLine_74 fl_X5_28 rfl e37 ?_
            obtain ⟨v38, e39, h⟩ := bo_some h
            refine g_getR O dX5_tellLine_77 fl_X5_198 rfl e39 ?_
            refine g_aload_n O dX5_tellLine_80 rfl 0 rfl ?_
            obtain ⟨v40, e41, h⟩ := bo_some h
            refine g_getR O dX5_tellLine_81 fl_X5_28 rfl e41 ?_
            obtain ⟨v42, e43, h⟩ := bo_some h
            refine g_getI O dX5_tellLine_84 fl_X5_79 rfl e43 ?_
            refine g_aload_n O dX5_tellLine_87 rfl 0 rfl ?_
            obtain ⟨v44, e45, h⟩ := bo_some h
            refine g_getR O dX5_tellLine_88 fl_X5_43 rfl e45 ?_
            refine g_iconst (v := (0 : Int32)) O dX5_tellLine_91 rfl ?_
            obtain ⟨v46, e47, h⟩ := bo_some h
            refine g_iaload O dX5_tellLine_92 e47 ?_
            obtain ⟨σ48, e49, h⟩ := bo_some h
            refine g_iastore O dX5_tellLine_93 e49 ?_
            refine g_aload_n O dX5_tellLine_94 rfl 0 rfl ?_
            obtain ⟨v50, e51, h⟩ := bo_some h
            refine g_getR O dX5_tellLine_95 fl_X5_28 rfl e51 ?_
            obtain ⟨v52, e53, h⟩ := bo_some h
            refine g_getR O dX5_tellLine_98 fl_X5_200 rfl e53 ?_
            refine g_aload_n O dX5_tellLine_101 rfl 0 rfl ?_
            obtain ⟨v54, e55, h⟩ := bo_some h
            refine g_getR O dX5_tellLine_102 fl_X5_28 rfl e55 ?_
            obtain ⟨v56, e57, h⟩ := bo_some h
            refine g_getI O dX5_tellLine_105 fl_X5_79 rfl e57 ?_
            refine g_aload_n O dX5_tellLine_108 rfl 0 rfl ?_
            obtain ⟨v58, e59, h⟩ := bo_some h
            refine g_getR O dX5_tellLine_109 fl_X5_43 rfl e59 ?_
            refine g_iconst (v := (1 : Int32)) O dX5_tellLine_112 rfl ?_
            obtain ⟨v60, e61, h⟩ := bo_some h
            refine g_iaload O dX5_tellLine_113 e61 ?_
            obtain ⟨σ62, e63, h⟩ := bo_some h
            refine g_iastore O dX5_tellLine_114 e63 ?_
            refine g_aload_n O dX5_tellLine_115 rfl 0 rfl ?_
            obtain ⟨v64, e65, h⟩ := bo_some h
            refine g_getR O dX5_tellLine_116 fl_X5_28 rfl e65 ?_
            refine g_dup O dX5_tellLine_119 rfl ?_
            obtain ⟨v66, e67, h⟩ := bo_some h
            refine g_getI O dX5_tellLine_120 fl_X5_79 rfl e67 ?_
            refine g_iconst (v := (1 : Int32)) O dX5_tellLine_123 rfl ?_
            refine g_iadd O dX5_tellLine_124 ?_
            obtain ⟨σ68, e69, h⟩ := bo_some h
            refine g_putI O dX5_tellLine_125 fl_X5_79 (Or.inl rfl) rfl e69 ?_
            cases h
            exact g_return O K dX5_tellLine_128
theorem c_X5_tellLine (l0 : Launch) (a0 : Nat) (x1 : Int32) (σ : Dt) (r : Unit) (σ' : Dt) (h : f_X5_tellLine a0 x1 σ = some (r, σ')) : Ctr l0 yX5_tellLine cX5_tellLine 2 (none) false 3 103 0 0 [vA (some a0), vI x1] SX σ SX σ' (none) := ctr_of (by decide) (Nat.le_of_ble_eq_true rfl) (fun M O F R0 N hn => t_X5_tellLine O R0 N hn a0 x1 σ (r, σ') h F)
def P_X5_readLine_50 (M : Mx) (a0 : Nat) (x2 : Int32) (x3 : Int32) (x4 : Int32) (s : (Int32 × Dt)) : Prop := G M 0 0 50 [(0, vA (some a0)), (2, vI x2), (3, vI x3), (4, vI x4), (5, vI s.1)] [] SX s.2
def E_X5_readLine_50 (M : Mx) (a0 : Nat) (x2 : Int32) (x3 : Int32) (x4 : Int32) : (Dt ⊕ Dt) → Prop := (el (fun w => G M 0 0 79 [(0, vA (some a0))] [] SX w) (fun w => G M 0 0 112 [(0, vA (some a0)), (2, vI x2), (3, vI x3), (4, vI x4)] [] SX w))
def f_X5_readLine_106 (a0 : Nat) (x2 : Int32) (x3 : Int32) (x4 : Int32) (x5 : Int32) (σ : Dt) : Option ((Int32 × Dt) ⊕ (Dt ⊕ Dt)) := some (.inl ((x5 + (1 : Int32)), σ))
theorem t_X5_readLine_106 {M : Mx} {l0 : Launch} (O : Ok M cX5_readLine yX5_readLine) (R0 : Rm M l0 9 292 0 0) (N : Ma M = false) (hn : Mn M = 6)  (a0 : Nat) (x2 : Int32) (x3 : Int32) (x4 : Int32) (x5 : Int32) (σ : Dt) (o : ((Int32 × Dt) ⊕ (Dt ⊕ Dt))) (h : f_X5_readLine_106 a0 x2 x3 x4 x5 σ = some o) (K : kon (P_X5_readLine_50 M a0 x2 x3 x4) (E_X5_readLine_50 M a0 x2 x3 x4) o) : G M 0 0 106 [(0, vA (some a0)), (2, vI x2), (3, vI x3), (4, vI x4), (5, vI x5)] [] SX σ := by
  unfold f_X5_readLine_106 at h
  refine g_iinc (v := (x5 + (1 : Int32))) (lv' := [(5, vI (x5 + (1 : Int32))), (0, vA (some a0)), (2, vI x2), (3, vI x3), (4, vI x4)]) O dX5_readLine_106 6 hn (by decide) 4 rfl rfl rfl ?_
  refine g_goto O dX5_readLine_109 rfl ?_
  refine g_sub [1, 2, 3, 4, 0] (lv' := [(0, vA (some a0)), (2, vI x2), (3, vI x3), (4, vI x4), (5, vI (x5 + (1 : Int32)))]) rfl ?_
  cases h
  exact K
def f_X5_readLine_L50 (a0 : Nat) (x2 : Int32) (x3 : Int32) (x4 : Int32) (x5 : Int32) (σ : Dt) : Option ((Int32 × Dt) ⊕ (Dt ⊕ Dt)) := if (3 : Int32) ≤ x5 then some (.inr (.inr σ)) else bo (xgr SX 5 11 (some a0) σ) fun v2 => bo (xsi SX v2 x5 (-1 : Int32) σ) fun σ4 => if x4 ≤ x5 then f_X5_readLine_106 a0 x2 x3 x4 x5 σ4 else bo (xrc SX 5 (some a0)) fun a7 => bd (f_X5_nextToken a7 σ4) fun v9 σ10 => if v9 = (2 : Int32) then bo (xgr SX 5 11 (some a0) σ10) fun v13 => bo (xrc SX 5 (some a0)) fun a15 => bo (f_X5_numberRead a15 σ10) fun v17 => bo (xsi SX v13 x5 v17 σ10) fun σ19 => bo (xgr SX 5 12 (some a0) σ19) fun v21 => bo (xgi SX 5 8 (some a0) σ19) fun v23 => bo (xsi SX v21 x5 v23 σ19) fun σ25 => f_X5_readLine_106 a0 x2 x3 x4 x5 σ25 else some (.inr (.inl σ10))
theorem t_X5_readLine_L50 {M : Mx} {l0 : Launch} (O : Ok M cX5_readLine yX5_readLine) (R0 : Rm M l0 9 292 0 0) (N : Ma M = false) (hn : Mn M = 6) (a0 : Nat) (x2 : Int32) (x3 : Int32) (x4 : Int32) (x5 : Int32) (σ : Dt) (o : ((Int32 × Dt) ⊕ (Dt ⊕ Dt))) (h : f_X5_readLine_L50 a0 x2 x3 x4 x5 σ = some o) (K : kon (P_X5_readLine_50 M a0 x2 x3 x4) (E_X5_readLine_50 M a0 x2 x3 x4) o) : G M 0 0 50 [(0, vA (some a0)), (2, vI x2), (3, vI x3), (4, vI x4), (5, vI x5)] [] SX σ := by
  unfold f_X5_readLine_L50 at h
  refine g_iload O dX5_readLine_50 4 rfl ?_
  refine g_iconst (v := (3 : Int32)) O dX5_readLine_52 rfl ?_
  refine g_icmp_ge O dX5_readLine_53 rfl (fun c1 => ?_) (fun c1 => ?_)
  · replace h := (if_pos c1).symm.trans h
    refine g_sub [0, 1, 2, 3] (lv' := [(0, vA (some a0)), (2, vI x2), (3, vI x3), (4, vI x4)]) rfl ?_
    cases h
    exact K
  · replace h := (if_neg c1).symm.trans h
    refine g_aload_n O dX5_readLine_56 rfl 0 rfl ?_
    obtain ⟨v2, e3, h⟩ := bo_some h
    refine g_getR O dX5_readLine_57 fl_X5_43 rfl e3 ?_
    refine g_iload O dX5_readLine_60 4 rfl ?_
    refine g_iconst (v := (-1 : Int32)) O dX5_readLine_62 rfl ?_
    obtain ⟨σ4, e5, h⟩ := bo_some h
    refine g_iastore O dX5_readLine_63 e5 ?_
    refine g_iload O dX5_readLine_64 4 rfl ?_
    refine g_iload O dX5_readLine_66 3 rfl ?_
    refine g_icmp_ge O dX5_readLine_68 rfl (fun c6 => ?_) (fun c6 => ?_)
    · replace h := (if_pos c6).symm.trans h
      exact t_X5_readLine_106 O R0 N hn a0 x2 x3 x4 x5 σ4 o h K
    · replace h := (if_neg c6).symm.trans h
      refine g_aload_n O dX5_readLine_71 rfl 0 rfl ?_
      obtain ⟨a7, e8, h⟩ := bo_some h
      obtain ⟨v9, σ10, e11, h⟩ := bd_some h
      refine g_cV1 O R0 N dX5_readLine_72 vl_X5_92 vv_X5_nextToken e8 [] rfl rfl rfl ⟨Nat.le_of_ble_eq_true rfl, Nat.le_of_ble_eq_true rfl⟩ (c_X5_nextToken l0 a7 σ4 v9 σ10 e11) ?_
      refine g_iconst (v := (2 : Int32)) O dX5_readLine_75 rfl ?_
      refine g_icmp_eq O dX5_readLine_76 rfl (fun c12 => ?_) (fun c12 => ?_)
      · replace h := (if_pos c12).symm.trans h
        refine g_aload_n O dX5_readLine_84 rfl 0 rfl ?_
        obtain ⟨v13, e14, h⟩ := bo_some h
        refine g_getR O dX5_readLine_85 fl_X5_43 rfl e14 ?_
        refine g_iload O dX5_readLine_88 4 rfl ?_
        refine g_aload_n O dX5_readLine_90 rfl 0 rfl ?_
        obtain ⟨a15, e16, h⟩ := bo_some h
        obtain ⟨v17, e18, h⟩ := bo_some h
        refine g_cV1 O R0 N dX5_readLine_91 vl_X5_109 vv_X5_numberRead e16 [] rfl rfl rfl ⟨Nat.le_of_ble_eq_true rfl, Nat.le_of_ble_eq_true rfl⟩ (c_X5_numberRead l0 a15 σ10 v17 e18) ?_
        obtain ⟨σ19, e20, h⟩ := bo_some h
        refine g_iastore O dX5_readLine_94 e20 ?_
        refine g_aload_n O dX5_readLine_95 rfl 0 rfl ?_
        obtain ⟨v21, e22, h⟩ := bo_some h
        refine g_getR O dX5_readLine_96 fl_X5_46 rfl e22 ?_
        refine g_iload O dX5_readLine_99 4 rfl ?_
        refine g_aload_n O dX5_readLine_101 rfl 0 rfl ?_
        obtain ⟨v23, e24, h⟩ := bo_some h
        refine g_getI O dX5_readLine_102 fl_X5_96 rfl e24 ?_
        obtain ⟨σ25, e26, h⟩ := bo_some h
        refine g_iastore O dX5_readLine_105 e26 ?_
        exact t_X5_readLine_106 O R0 N hn a0 x2 x3 x4 x5 σ25 o h K
      · replace h := (if_neg c12).symm.trans h
        refine g_sub [0] (lv' := [(0, vA (some a0))]) rfl ?_
        cases h
        exact K
def f_X5_readLine_29 (a0 : Nat) (x2 : Int32) (k0 : Int32) (σ : Dt) : Option (Int32 × Dt) := if k0 = (-1 : Int32) then bo (xrc SX 5 (some a0)) fun a2 => bd (f_X5_outOfForm a2 σ) fun v4 σ5 => if v4 = 0 ∨ v4 = 1 then some (v4, σ5) else none else bo (xrc SX 5 (some a0)) fun a8 => bo (f_X5_numbersOf a8 k0 σ) fun v10 => bo (iter FU (fun s => f_X5_readLine_L50 a0 x2 k0 v10 s.1 s.2) ((0 : Int32), σ)) fun w12 => el (fun w14 => bo (xrc SX 5 (some a0)) fun a15 => bd (f_X5_outOfForm a15 w14) fun v17 σ18 => if v17 = 0 ∨ v17 = 1 then some (v17, σ18) else none) (fun w14 => bo (xrc SX 5 (some a0)) fun a21 => bd (f_X5_nextToken a21 w14) fun v23 σ24 => if v23 = (3 : Int32) then bo (xrc SX 5 (some a0)) fun a27 => bd (f_X5_judgeLine a27 k0 v10 x2 σ24) fun v29 σ30 => bo (xgi SX 5 3 (some a0) σ30) fun v32 => if v32 = 0 then bo (xrc SX 5 (some a0)) fun a35 => bd (f_X5_tellLine a35 k0 σ30) fun v37 σ38 => some ((1 : Int32), σ38) else some ((1 : Int32), σ30) else bo (xrc SX 5 (some a0)) fun a40 => bd (f_X5_outOfForm a40 σ24) fun v42 σ43 => if v42 = 0 ∨ v42 = 1 then some (v42, σ43) else none) w12
theorem t_X5_readLine_29 {M : Mx} {l0 : Launch} (O : Ok M cX5_readLine yX5_readLine) (R0 : Rm M l0 9 292 0 0) (N : Ma M = false) (hn : Mn M = 6)  (a0 : Nat) (x2 : Int32) (k0 : Int32) (σ : Dt) (o : (Int32 × Dt)) (h : f_X5_readLine_29 a0 x2 k0 σ = some o) (K : Fin' M (some .boolean) 0 0 SX o.2 (some (vI o.1))) : G M 0 0 29 [(0, vA (some a0)), (2, vI x2)] [vI k0] SX σ := by
  unfold f_X5_readLine_29 at h
  refine g_istore_n (lv' := [(3, vI k0), (0, vA (some a0)), (2, vI x2)]) O dX5_readLine_29 rfl 6 hn (by decide) rfl ?_
  refine g_iload_n O dX5_readLine_30 rfl 0 rfl ?_
  refine g_iconst (v := (-1 : Int32)) O dX5_readLine_31 rfl ?_
  refine g_icmp_ne O dX5_readLine_32 rfl (fun c1 => ?_) (fun c1 => ?_)
  · replace h := (if_pos c1).symm.trans h
    refine g_aload_n O dX5_readLine_35 rfl 1 rfl ?_
    obtain ⟨a2, e3, h⟩ := bo_some h
    obtain ⟨v4, σ5, e6, h⟩ := bd_some h
    refine g_cV1 O R0 N dX5_readLine_36 vl_X5_102 vv_X5_outOfForm e3 [] rfl rfl rfl ⟨Nat.le_of_ble_eq_true rfl, Nat.le_of_ble_eq_true rfl⟩ (c_X5_outOfForm l0 a2 σ v4 σ5 e6) ?_
    by_cases c7 : v4 = 0 ∨ v4 = 1
    · replace h := (if_pos c7).symm.trans h
      cases h
      exact g_zreturn O c7 K dX5_readLine_39
    · rw [if_neg c7] at h; cases h
  · replace h := (if_neg c1).symm.trans h
    refine g_aload_n O dX5_readLine_40 rfl 1 rfl ?_
    refine g_iload_n O dX5_readLine_41 rfl 0 rfl ?_
    obtain ⟨a8, e9, h⟩ := bo_some h
    obtain ⟨v10, e11, h⟩ := bo_some h
    refine g_cV1 O R0 N dX5_readLine_42 vl_X5_105 vv_X5_numbersOf e9 [vI k0] rfl rfl rfl ⟨Nat.le_of_ble_eq_true rfl, Nat.le_of_ble_eq_true rfl⟩ (c_X5_numbersOf l0 a8 k0 σ v10 e11) ?_
    refine g_istore (lv' := [(4, vI v10), (3, vI k0), (0, vA (some a0)), (2, vI x2)]) O dX5_readLine_45 6 hn (by decide) rfl ?_
    refine g_iconst (v := (0 : Int32)) O dX5_readLine_47 rfl ?_
    refine g_istore (lv' := [(5, vI (0 : Int32)), (4, vI v10), (3, vI k0), (0, vA (some a0)), (2, vI x2)]) O dX5_readLine_48 6 hn (by decide) rfl ?_
    refine g_sub [3, 4, 2, 1, 0] (lv' := [(0, vA (some a0)), (2, vI x2), (3, vI k0), (4, vI v10), (5, vI (0 : Int32))]) rfl ?_
    obtain ⟨w12, e13, h⟩ := bo_some h
    refine iter_G (P := P_X5_readLine_50 M a0 x2 k0 v10) (E := E_X5_readLine_50 M a0 x2 k0 v10) (fun s o hb hk => t_X5_readLine_L50 O R0 N hn a0 x2 k0 v10 s.1 s.2 o hb hk) FU ((0 : Int32), σ) w12 e13 ?_
    rcases w12 with w14 | w14
    · replace h := el_l h
      show G M 0 0 79 [(0, vA (some a0))] [] SX w14
      refine g_aload_n O dX5_readLine_79 rfl 0 rfl ?_
      obtain ⟨a15, e16, h⟩ := bo_some h
      obtain ⟨v17, σ18, e19, h⟩ := bd_some h
      refine g_cV1 O R0 N dX5_readLine_80 vl_X5_102 vv_X5_outOfForm e16 [] rfl rfl rfl ⟨Nat.le_of_ble_eq_true rfl, Nat.le_of_ble_eq_true rfl⟩ (c_X5_outOfForm l0 a15 w14 v17 σ18 e19) ?_
      by_cases c20 : v17 = 0 ∨ v17 = 1
      · replace h := (if_pos c20).symm.trans h
        cases h
        exact g_zreturn O c20 K dX5_readLine_83
      · rw [if_neg c20] at h; cases h
    · replace h := el_r h
      show G M 0 0 112 [(0, vA (some a0)), (2, vI x2), (3, vI k0), (4, vI v10)] [] SX w14
      refine g_aload_n O dX5_readLine_112 rfl 0 rfl ?_
      obtain ⟨a21, e22, h⟩ := bo_some h
      obtain ⟨v23, σ24, e25, h⟩ := bd_some h
      refine g_cV1 O R0 N dX5_readLine_113 vl_X5_92 vv_X5_nextToken e22 [] rfl rfl rfl ⟨Nat.le_of_ble_eq_true rfl, Nat.le_of_ble_eq_true rfl⟩ (c_X5_nextToken l0 a21 w14 v23 σ24 e25) ?_
      refine g_iconst (v := (3 : Int32)) O dX5_readLine_116 rfl ?_
      refine g_icmp_eq O dX5_readLine_117 rfl (fun c26 => ?_) (fun c26 => ?_)
      · replace h := (if_pos c26).symm.trans h
        refine g_aload_n O dX5_readLine_125 rfl 0 rfl ?_
        refine g_iload_n O dX5_readLine_126 rfl 2 rfl ?_
        refine g_iload O dX5_readLine_127 3 rfl ?_
        refine g_iload_n O dX5_readLine_129 rfl 1 rfl ?_
        obtain ⟨a27, e28, h⟩ := bo_some h
        obtain ⟨v29, σ30, e31, h⟩ := bd_some h
        refine g_cV0 O R0 N dX5_readLine_130 vl_X5_112 vv_X5_judgeLine e28 [vI k0, vI v10, vI x2] rfl rfl rfl ⟨Nat.le_of_ble_eq_true rfl, Nat.le_of_ble_eq_true rfl⟩ (c_X5_judgeLine l0 a27 k0 v10 x2 σ24 v29 σ30 e31) ?_
        refine g_aload_n O dX5_readLine_133 rfl 0 rfl ?_
        obtain ⟨v32, e33, h⟩ := bo_some h
        refine g_getI O dX5_readLine_134 fl_X5_32 rfl e33 ?_
        refine g_if_ne O dX5_readLine_137 rfl (fun c34 => ?_) (fun c34 => ?_)
        · replace h := (if_pos c34).symm.trans h
          refine g_aload_n O dX5_readLine_140 rfl 0 rfl ?_
          refine g_iload_n O dX5_readLine_141 rfl 2 rfl ?_
          obtain ⟨a35, e36, h⟩ := bo_some h
          obtain ⟨v37, σ38, e39, h⟩ := bd_some h
          refine g_cV0 O R0 N dX5_readLine_142 vl_X5_116 vv_X5_tellLine e36 [vI k0] rfl rfl rfl ⟨Nat.le_of_ble_eq_true rfl, Nat.le_of_ble_eq_true rfl⟩ (c_X5_tellLine l0 a35 k0 σ30 v37 σ38 e39) ?_
          refine g_iconst (v := (1 : Int32)) O dX5_readLine_145 rfl ?_
          cases h
          exact g_zreturn O (by decide) K dX5_readLine_146
        · replace h := (if_neg c34).symm.trans h
          refine g_iconst (v := (1 : Int32)) O dX5_readLine_145 rfl ?_
          cases h
          exact g_zreturn O (by decide) K dX5_readLine_146
      · replace h := (if_neg c26).symm.trans h
        refine g_aload_n O dX5_readLine_120 rfl 0 rfl ?_
        obtain ⟨a40, e41, h⟩ := bo_some h
        obtain ⟨v42, σ43, e44, h⟩ := bd_some h
        refine g_cV1 O R0 N dX5_readLine_121 vl_X5_102 vv_X5_outOfForm e41 [] rfl rfl rfl ⟨Nat.le_of_ble_eq_true rfl, Nat.le_of_ble_eq_true rfl⟩ (c_X5_outOfForm l0 a40 σ24 v42 σ43 e44) ?_
        by_cases c45 : v42 = 0 ∨ v42 = 1
        · replace h := (if_pos c45).symm.trans h
          cases h
          exact g_zreturn O c45 K dX5_readLine_124
        · rw [if_neg c45] at h; cases h
def f_X5_readLine (a0 : Nat) (σ : Dt) : Option (Int32 × Dt) := bo (xrc SX 5 (some a0)) fun a1 => bd (f_X5_nextToken a1 σ) fun v3 σ4 => if v3 = 0 then some ((0 : Int32), σ4) else bo (xgi SX 5 8 (some a0) σ4) fun v7 => if v3 = (1 : Int32) then bo (xrc SX 5 (some a0)) fun a10 => bo (f_X5_kindOfLine a10 σ4) fun v12 => f_X5_readLine_29 a0 v7 v12 σ4 else f_X5_readLine_29 a0 v7 (-1 : Int32) σ4
theorem t_X5_readLine {M : Mx} {l0 : Launch} (O : Ok M cX5_readLine yX5_readLine) (R0 : Rm M l0 9 292 0 0) (N : Ma M = false) (hn : Mn M = 6) (a0 : Nat) (σ : Dt) (o : (Int32 × Dt)) (h : f_X5_readLine a0 σ = some o) (K : Fin' M (some .boolean) 0 0 SX o.2 (some (vI o.1))) : G M 0 0 0 [(0, vA (some a0))] [] SX σ := by
  unfold f_X5_readLine at h
  refine g_aload_n O dX5_readLine_0 rfl 0 rfl ?_
  obtain ⟨a1, e2, h⟩ := bo_some h
  obtain ⟨v3, σ4, e5, h⟩ := bd_some h
  refine g_cV1 O R0 N dX5_readLine_1 vl_X5_92 vv_X5_nextToken e2 [] rfl rfl rfl ⟨Nat.le_of_ble_eq_true rfl, Nat.le_of_ble_eq_true rfl⟩ (c_X5_nextToken l0 a1 σ v3 σ4 e5) ?_
  refine g_istore_n (lv' := [(1, vI v3), (0, vA (some a0))]) O dX5_readLine_4 rfl 6 hn (by decide) rfl ?_
  refine g_iload_n O dX5_readLine_5 rfl 0 rfl ?_
  refine g_if_ne O dX5_readLine_6 rfl (fun c6 => ?_) (fun c6 => ?_)
  · replace h := (if_pos c6).symm.trans h
    refine g_iconst (v := (0 : Int32)) O dX5_readLine_9 rfl ?_
    cases h
    exact g_zreturn O (by decide) K dX5_readLine_10
  · replace h := (if_neg c6).symm.trans h
    refine g_aload_n O dX5_readLine_11 rfl 1 rfl ?_
    obtain ⟨v7, e8, h⟩ := bo_some h
    refine g_getI O dX5_readLine_12 fl_X5_96 rfl e8 ?_
    refine g_istore_n (lv' := [(2, vI v7), (1, vI v3), (0, vA (some a0))]) O dX5_readLine_15 rfl 6 hn (by decide) rfl ?_
    refine g_iload_n O dX5_readLine_16 rfl 1 rfl ?_
    refine g_iconst (v := (1 : Int32)) O dX5_readLine_17 rfl ?_
    refine g_icmp_ne O dX5_readLine_18 rfl (fun c9 => ?_) (fun c9 => ?_)
    · replace h := (if_pos c9).symm.trans h
      refine g_aload_n O dX5_readLine_21 rfl 2 rfl ?_
      obtain ⟨a10, e11, h⟩ := bo_some h
      obtain ⟨v12, e13, h⟩ := bo_some h
      refine g_cV1 O R0 N dX5_readLine_22 vl_X5_99 vv_X5_kindOfLine e11 [] rfl rfl rfl ⟨Nat.le_of_ble_eq_true rfl, Nat.le_of_ble_eq_true rfl⟩ (c_X5_kindOfLine l0 a10 σ4 v12 e13) ?_
      refine g_goto O dX5_readLine_25 rfl ?_
      refine g_sub [2, 0] (lv' := [(0, vA (some a0)), (2, vI v7)]) rfl ?_
      exact t_X5_readLine_29 O R0 N hn a0 v7 v12 σ4 o h K
    · replace h := (if_neg c9).symm.trans h
      refine g_iconst (v := (-1 : Int32)) O dX5_readLine_28 rfl ?_
      refine g_sub [2, 0] (lv' := [(0, vA (some a0)), (2, vI v7)]) rfl ?_
      exact t_X5_readLine_29 O R0 N hn a0 v7 (-1 : Int32) σ4 o h K
theorem c_X5_readLine (l0 : Launch) (a0 : Nat) (σ : Dt) (r : Int32) (σ' : Dt) (h : f_X5_readLine a0 σ = some (r, σ')) : Ctr l0 yX5_readLine cX5_readLine 6 (some .boolean) false 9 292 0 0 [vA (some a0)] SX σ SX σ' (some (vI r)) := ctr_of (by decide) (Nat.le_of_ble_eq_true rfl) (fun M O F R0 N hn => t_X5_readLine O R0 N hn a0 σ (r, σ') h F)
def f_J6_bitCount_0f7a4 (x0 : Int32) (σ : Dt) : Option Int32 := bo (some (x0 - (((Int32.toUInt32 x0 >>> (Int32.toUInt32 (1 : Int32) &&& Int32.toUInt32 31)).toInt32) &&& (1431655765 : Int32)))) fun v1 => bo (some ((v1 &&& (858993459 : Int32)) + (((Int32.toUInt32 v1 >>> (Int32.toUInt32 (2 : Int32) &&& Int32.toUInt32 31)).toInt32) &&& (858993459 : Int32)))) fun v3 => bo (some ((v3 + ((Int32.toUInt32 v3 >>> (Int32.toUInt32 (4 : Int32) &&& Int32.toUInt32 31)).toInt32)) &&& (252645135 : Int32))) fun v5 => bo (some (v5 + ((Int32.toUInt32 v5 >>> (Int32.toUInt32 (8 : Int32) &&& Int32.toUInt32 31)).toInt32))) fun v7 => bo (some (v7 + ((Int32.toUInt32 v7 >>> (Int32.toUInt32 (16 : Int32) &&& Int32.toUInt32 31)).toInt32))) fun v9 => some (v9 &&& (63 : Int32))
theorem t_J6_bitCount_0f7a4 {M : Mx} {l0 : Launch} (O : Ok M cJ6_bitCount_0f7a4 yJ6_bitCount_0f7a4) (R0 : Rm M l0 2 80 0 0) (N : Ma M = false) (hn : Mn M = 1) (x0 : Int32) (σ : Dt) (o : Int32) (h : f_J6_bitCount_0f7a4 x0 σ = some o) (K : Fin' M (some .int) 0 0 SX σ (some (vI o))) : G M 0 0 0 [(0, vI x0)] [] SX σ := by
  unfold f_J6_bitCount_0f7a4 at h
  refine g_iload_n O dJ6_bitCount_0f7a4_0 rfl 0 rfl ?_
  refine g_iload_n O dJ6_bitCount_0f7a4_1 rfl 0 rfl ?_
  refine g_iconst (v := (1 : Int32)) O dJ6_bitCount_0f7a4_2 rfl ?_
  refine g_iushr O dJ6_bitCount_0f7a4_3 ?_
  refine g_ldcw O dJ6_bitCount_0f7a4_4 w833 ?_
  refine g_iand O dJ6_bitCount_0f7a4_7 ?_
  refine g_isub O dJ6_bitCount_0f7a4_8 ?_
  obtain ⟨v1, e2, h⟩ := bo_some h
  rw [Option.some.inj e2]
  refine g_istore_n (lv' := [(0, vI v1)]) O dJ6_bitCount_0f7a4_9 rfl 1 hn (by decide) rfl ?_
  refine g_iload_n O dJ6_bitCount_0f7a4_10 rfl 0 rfl ?_
  refine g_ldcw O dJ6_bitCount_0f7a4_11 w834 ?_
  refine g_iand O dJ6_bitCount_0f7a4_14 ?_
  refine g_iload_n O dJ6_bitCount_0f7a4_15 rfl 0 rfl ?_
  refine g_iconst (v := (2 : Int32)) O dJ6_bitCount_0f7a4_16 rfl ?_
  refine g_iushr O dJ6_bitCount_0f7a4_17 ?_
  refine g_ldcw O dJ6_bitCount_0f7a4_18 w834 ?_
  refine g_iand O dJ6_bitCount_0f7a4_21 ?_
  refine g_iadd O dJ6_bitCount_0f7a4_22 ?_
  obtain ⟨v3, e4, h⟩ := bo_some h
  rw [Option.some.inj e4]
  refine g_istore_n (lv' := [(0, vI v3)]) O dJ6_bitCount_0f7a4_23 rfl 1 hn (by decide) rfl ?_
  refine g_iload_n O dJ6_bitCount_0f7a4_24 rfl 0 rfl ?_
  refine g_iload_n O dJ6_bitCount_0f7a4_25 rfl 0 rfl ?_
  refine g_iconst (v := (4 : Int32)) O dJ6_bitCount_0f7a4_26 rfl ?_
  refine g_iushr O dJ6_bitCount_0f7a4_27 ?_
  refine g_iadd O dJ6_bitCount_0f7a4_28 ?_
  refine g_ldcw O dJ6_bitCount_0f7a4_29 w835 ?_
  refine g_iand O dJ6_bitCount_0f7a4_32 ?_
  obtain ⟨v5, e6, h⟩ := bo_some h
  rw [Option.some.inj e6]
  refine g_istore_n (lv' := [(0, vI v5)]) O dJ6_bitCount_0f7a4_33 rfl 1 hn (by decide) rfl ?_
  refine g_iload_n O dJ6_bitCount_0f7a4_34 rfl 0 rfl ?_
  refine g_iload_n O dJ6_bitCount_0f7a4_35 rfl 0 rfl ?_
  refine g_bipush (v := (8 : Int32)) O dJ6_bitCount_0f7a4_36 rfl ?_
  refine g_iushr O dJ6_bitCount_0f7a4_38 ?_
  refine g_iadd O dJ6_bitCount_0f7a4_39 ?_
  obtain ⟨v7, e8, h⟩ := bo_some h
  rw [Option.some.inj e8]
  refine g_istore_n (lv' := [(0, vI v7)]) O dJ6_bitCount_0f7a4_40 rfl 1 hn (by decide) rfl ?_
  refine g_iload_n O dJ6_bitCount_0f7a4_41 rfl 0 rfl ?_
  refine g_iload_n O dJ6_bitCount_0f7a4_42 rfl 0 rfl ?_
  refine g_bipush (v := (16 : Int32)) O dJ6_bitCount_0f7a4_43 rfl ?_
  refine g_iushr O dJ6_bitCount_0f7a4_45 ?_
  refine g_iadd O dJ6_bitCount_0f7a4_46 ?_
  obtain ⟨v9, e10, h⟩ := bo_some h
  rw [Option.some.inj e10]
  refine g_istore_n (lv' := [(0, vI v9)]) O dJ6_bitCount_0f7a4_47 rfl 1 hn (by decide) rfl ?_
  refine g_iload_n O dJ6_bitCount_0f7a4_48 rfl 0 rfl ?_
  refine g_bipush (v := (63 : Int32)) O dJ6_bitCount_0f7a4_49 rfl ?_
  refine g_iand O dJ6_bitCount_0f7a4_51 ?_
  cases h
  exact g_ireturn O K dJ6_bitCount_0f7a4_52
theorem c_J6_bitCount_0f7a4 (l0 : Launch) (x0 : Int32) (σ : Dt) (r : Int32) (h : f_J6_bitCount_0f7a4 x0 σ = some r) : Ctr l0 yJ6_bitCount_0f7a4 cJ6_bitCount_0f7a4 1 (some .int) false 2 80 0 0 [vI x0] SX σ SX σ (some (vI r)) := ctr_of (by decide) (Nat.le_of_ble_eq_true rfl) (fun M O F R0 N hn => t_J6_bitCount_0f7a4 O R0 N hn x0 σ r h F)
def P_X5_judgeValley_47 (M : Mx) (a0 : Nat) (s : (Int32 × Dt)) : Prop := G M 0 0 47 [(0, vA (some a0)), (1, vI s.1)] [] SX s.2
def E_X5_judgeValley_47 (M : Mx) (a0 : Nat) : Dt → Prop := (fun w => G M 0 0 84 [] [] SX w)
def f_X5_judgeValley_78 (a0 : Nat) (x1 : Int32) (σ : Dt) : Option ((Int32 × Dt) ⊕ Dt) := some (.inl ((x1 + (1 : Int32)), σ))
theorem t_X5_judgeValley_78 {M : Mx} {l0 : Launch} (O : Ok M cX5_judgeValley yX5_judgeValley) (R0 : Rm M l0 3 102 0 0) (N : Ma M = false) (hn : Mn M = 2)  (a0 : Nat) (x1 : Int32) (σ : Dt) (o : ((Int32 × Dt) ⊕ Dt)) (h : f_X5_judgeValley_78 a0 x1 σ = some o) (K : kon (P_X5_judgeValley_47 M a0) (E_X5_judgeValley_47 M a0) o) : G M 0 0 78 [(0, vA (some a0)), (1, vI x1)] [] SX σ := by
  unfold f_X5_judgeValley_78 at h
  refine g_iinc (v := (x1 + (1 : Int32))) (lv' := [(1, vI (x1 + (1 : Int32))), (0, vA (some a0))]) O dX5_judgeValley_78 2 hn (by decide) 1 rfl rfl rfl ?_
  refine g_goto O dX5_judgeValley_81 rfl ?_
  refine g_sub [1, 0] (lv' := [(0, vA (some a0)), (1, vI (x1 + (1 : Int32)))]) rfl ?_
  cases h
  exact K
def f_X5_judgeValley_L47 (a0 : Nat) (x1 : Int32) (σ : Dt) : Option ((Int32 × Dt) ⊕ Dt) := if (10 : Int32) ≤ x1 then some (.inr σ) else bo (xgr SX 5 0 (some a0) σ) fun v2 => bo (xgr SX 9 5 v2 σ) fun v4 => bo (xai SX v4 x1 σ) fun v6 => bo (f_J6_bitCount_0f7a4 v6 σ) fun v8 => if v8 ≤ (2 : Int32) then f_X5_judgeValley_78 a0 x1 σ else bo (xgi SX 5 6 (some a0) σ) fun v11 => bo (xrc SX 5 (some a0)) fun a13 => bd (f_X5_note a13 (5 : Int32) v11 σ) fun v15 σ16 => f_X5_judgeValley_78 a0 x1 σ16
theorem t_X5_judgeValley_L47 {M : Mx} {l0 : Launch} (O : Ok M cX5_judgeValley yX5_judgeValley) (R0 : Rm M l0 3 102 0 0) (N : Ma M = false) (hn : Mn M = 2) (a0 : Nat) (x1 : Int32) (σ : Dt) (o : ((Int32 × Dt) ⊕ Dt)) (h : f_X5_judgeValley_L47 a0 x1 σ = some o) (K : kon (P_X5_judgeValley_47 M a0) (E_X5_judgeValley_47 M a0) o) : G M 0 0 47 [(0, vA (some a0)), (1, vI x1)] [] SX σ := by
  unfold f_X5_judgeValley_L47 at h
  refine g_iload_n O dX5_judgeValley_47 rfl 1 rfl ?_
  refine g_bipush (v := (10 : Int32)) O dX5_judgeValley_48 rfl ?_
  refine g_icmp_ge O dX5_judgeValley_50 rfl (fun c1 => ?_) (fun c1 => ?_)
  · replace h := (if_pos c1).symm.trans h
    refine g_sub [] (lv' := []) rfl ?_
    cases h
    exact K
  · replace h := (if_neg c1).symm.trans h
    refine g_aload_n O dX5_judgeValley_53 rfl 0 rfl ?_
    obtain ⟨v2, e3, h⟩ := bo_some h
    refine g_getR O dX5_judgeValley_54 fl_X5_12 rfl e3 ?_
    obtain ⟨v4, e5, h⟩ := bo_some h
    refine g_getR O dX5_judgeValley_57 fl_X5_205 rfl e5 ?_
    refine g_iload_n O dX5_judgeValley_60 rfl 1 rfl ?_
    obtain ⟨v6, e7, h⟩ := bo_some h
    refine g_iaload O dX5_judgeValley_61 e7 ?_
    obtain ⟨v8, e9, h⟩ := bo_some h
    refine g_cS1 O R0 N dX5_judgeValley_62 vl_X5_232 w831 [vI v6] rfl rfl rfl ⟨Nat.le_of_ble_eq_true rfl, Nat.le_of_ble_eq_true rfl⟩ (c_J6_bitCount_0f7a4 l0 v6 σ v8 e9) ?_
    refine g_iconst (v := (2 : Int32)) O dX5_judgeValley_65 rfl ?_
    refine g_icmp_le O dX5_judgeValley_66 rfl (fun c10 => ?_) (fun c10 => ?_)
    · replace h := (if_pos c10).symm.trans h
      exact t_X5_judgeValley_78 O R0 N hn a0 x1 σ o h K
    · replace h := (if_neg c10).symm.trans h
      refine g_aload_n O dX5_judgeValley_69 rfl 0 rfl ?_
      refine g_iconst (v := (5 : Int32)) O dX5_judgeValley_70 rfl ?_
      refine g_aload_n O dX5_judgeValley_71 rfl 0 rfl ?_
      obtain ⟨v11, e12, h⟩ := bo_some h
      refine g_getI O dX5_judgeValley_72 fl_X5_58 rfl e12 ?_
      obtain ⟨a13, e14, h⟩ := bo_some h
      obtain ⟨v15, σ16, e17, h⟩ := bd_some h
      refine g_cV0 O R0 N dX5_judgeValley_75 vl_X5_172 vv_X5_note e14 [vI (5 : Int32), vI v11] rfl rfl rfl ⟨Nat.le_of_ble_eq_true rfl, Nat.le_of_ble_eq_true rfl⟩ (c_X5_note l0 a13 (5 : Int32) v11 σ v15 σ16 e17) ?_
      exact t_X5_judgeValley_78 O R0 N hn a0 x1 σ16 o h K
def P_X5_judgeValley_2 (M : Mx) (a0 : Nat) (s : (Int32 × Dt)) : Prop := G M 0 0 2 [(0, vA (some a0)), (1, vI s.1)] [] SX s.2
def E_X5_judgeValley_2 (M : Mx) (a0 : Nat) : Dt → Prop := (fun w => G M 0 0 45 [(0, vA (some a0))] [] SX w)
def f_X5_judgeValley_39 (a0 : Nat) (x1 : Int32) (σ : Dt) : Option ((Int32 × Dt) ⊕ Dt) := some (.inl ((x1 + (1 : Int32)), σ))
theorem t_X5_judgeValley_39 {M : Mx} {l0 : Launch} (O : Ok M cX5_judgeValley yX5_judgeValley) (R0 : Rm M l0 3 102 0 0) (N : Ma M = false) (hn : Mn M = 2)  (a0 : Nat) (x1 : Int32) (σ : Dt) (o : ((Int32 × Dt) ⊕ Dt)) (h : f_X5_judgeValley_39 a0 x1 σ = some o) (K : kon (P_X5_judgeValley_2 M a0) (E_X5_judgeValley_2 M a0) o) : G M 0 0 39 [(0, vA (some a0)), (1, vI x1)] [] SX σ := by
  unfold f_X5_judgeValley_39 at h
  refine g_iinc (v := (x1 + (1 : Int32))) (lv' := [(1, vI (x1 + (1 : Int32))), (0, vA (some a0))]) O dX5_judgeValley_39 2 hn (by decide) 1 rfl rfl rfl ?_
  refine g_goto O dX5_judgeValley_42 rfl ?_
  refine g_sub [1, 0] (lv' := [(0, vA (some a0)), (1, vI (x1 + (1 : Int32)))]) rfl ?_
  cases h
  exact K
def f_X5_judgeValley_L2 (a0 : Nat) (x1 : Int32) (σ : Dt) : Option ((Int32 × Dt) ⊕ Dt) := if (10 : Int32) ≤ x1 then some (.inr σ) else bo (xgi SX 5 10 (some a0) σ) fun v2 => if ((v2 >>> (x1 &&& 31)) &&& (1 : Int32)) = 0 then f_X5_judgeValley_39 a0 x1 σ else bo (xgr SX 5 0 (some a0) σ) fun v5 => bo (xgi SX 9 0 v5 σ) fun v7 => if x1 < v7 then f_X5_judgeValley_39 a0 x1 σ else bo (xgi SX 5 6 (some a0) σ) fun v10 => bo (xrc SX 5 (some a0)) fun a12 => bd (f_X5_note a12 (4 : Int32) v10 σ) fun v14 σ15 => f_X5_judgeValley_39 a0 x1 σ15
theorem t_X5_judgeValley_L2 {M : Mx} {l0 : Launch} (O : Ok M cX5_judgeValley yX5_judgeValley) (R0 : Rm M l0 3 102 0 0) (N : Ma M = false) (hn : Mn M = 2) (a0 : Nat) (x1 : Int32) (σ : Dt) (o : ((Int32 × Dt) ⊕ Dt)) (h : f_X5_judgeValley_L2 a0 x1 σ = some o) (K : kon (P_X5_judgeValley_2 M a0) (E_X5_judgeValley_2 M a0) o) : G M 0 0 2 [(0, vA (some a0)), (1, vI x1)] [] SX σ := by
  unfold f_X5_judgeValley_L2 at h
  refine g_iload_n O dX5_judgeValley_2 rfl 1 rfl ?_
  refine g_bipush (v := (10 : Int32)) O dX5_judgeValley_3 rfl ?_
  refine g_icmp_ge O dX5_judgeValley_5 rfl (fun c1 => ?_) (fun c1 => ?_)
  · replace h := (if_pos c1).symm.trans h
    refine g_sub [0] (lv' := [(0, vA (some a0))]) rfl ?_
    cases h
    exact K
  · replace h := (if_neg c1).symm.trans h
    refine g_aload_n O dX5_judgeValley_8 rfl 0 rfl ?_
    obtain ⟨v2, e3, h⟩ := bo_some h
    refine g_getI O dX5_judgeValley_9 fl_X5_67 rfl e3 ?_
    refine g_iload_n O dX5_judgeValley_12 rfl 1 rfl ?_
    refine g_ishr O dX5_judgeValley_13 ?_
    refine g_iconst (v := (1 : Int32)) O dX5_judgeValley_14 rfl ?_
    refine g_iand O dX5_judgeValley_15 ?_
    refine g_if_eq O dX5_judgeValley_16 rfl (fun c4 => ?_) (fun c4 => ?_)
    · replace h := (if_pos c4).symm.trans h
      exact t_X5_judgeValley_39 O R0 N hn a0 x1 σ o h K
    · replace h := (if_neg c4).symm.trans h
      refine g_iload_n O dX5_judgeValley_19 rfl 1 rfl ?_
      refine g_aload_n O dX5_judgeValley_20 rfl 0 rfl ?_
      obtain ⟨v5, e6, h⟩ := bo_some h
      refine g_getR O dX5_judgeValley_21 fl_X5_12 rfl e6 ?_
      obtain ⟨v7, e8, h⟩ := bo_some h
      refine g_getI O dX5_judgeValley_24 fl_X5_180 rfl e8 ?_
      refine g_icmp_lt O dX5_judgeValley_27 rfl (fun c9 => ?_) (fun c9 => ?_)
      · replace h := (if_pos c9).symm.trans h
        exact t_X5_judgeValley_39 O R0 N hn a0 x1 σ o h K
      · replace h := (if_neg c9).symm.trans h
        refine g_aload_n O dX5_judgeValley_30 rfl 0 rfl ?_
        refine g_iconst (v := (4 : Int32)) O dX5_judgeValley_31 rfl ?_
        refine g_aload_n O dX5_judgeValley_32 rfl 0 rfl ?_
        obtain ⟨v10, e11, h⟩ := bo_some h
        refine g_getI O dX5_judgeValley_33 fl_X5_58 rfl e11 ?_
        obtain ⟨a12, e13, h⟩ := bo_some h
        obtain ⟨v14, σ15, e16, h⟩ := bd_some h
        refine g_cV0 O R0 N dX5_judgeValley_36 vl_X5_172 vv_X5_note e13 [vI (4 : Int32), vI v10] rfl rfl rfl ⟨Nat.le_of_ble_eq_true rfl, Nat.le_of_ble_eq_true rfl⟩ (c_X5_note l0 a12 (4 : Int32) v10 σ v14 σ15 e16) ?_
        exact t_X5_judgeValley_39 O R0 N hn a0 x1 σ15 o h K
def f_X5_judgeValley (a0 : Nat) (σ : Dt) : Option (Unit × Dt) := bo (iter FU (fun s => f_X5_judgeValley_L2 a0 s.1 s.2) ((0 : Int32), σ)) fun w1 => bo (iter FU (fun s => f_X5_judgeValley_L47 a0 s.1 s.2) ((0 : Int32), w1)) fun w3 => some ((), w3)
theorem t_X5_judgeValley {M : Mx} {l0 : Launch} (O : Ok M cX5_judgeValley yX5_judgeValley) (R0 : Rm M l0 3 102 0 0) (N : Ma M = false) (hn : Mn M = 2) (a0 : Nat) (σ : Dt) (o : (Unit × Dt)) (h : f_X5_judgeValley a0 σ = some o) (K : Fin' M (none) 0 0 SX o.2 (none)) : G M 0 0 0 [(0, vA (some a0))] [] SX σ := by
  unfold f_X5_judgeValley at h
  refine g_iconst (v := (0 : Int32)) O dX5_judgeValley_0 rfl ?_
  refine g_istore_n (lv' := [(1, vI (0 : Int32)), (0, vA (some a0))]) O dX5_judgeValley_1 rfl 2 hn (by decide) rfl ?_
  refine g_sub [1, 0] (lv' := [(0, vA (some a0)), (1, vI (0 : Int32))]) rfl ?_
  obtain ⟨w1, e2, h⟩ := bo_some h
  refine iter_G (P := P_X5_judgeValley_2 M a0) (E := E_X5_judgeValley_2 M a0) (fun s o hb hk => t_X5_judgeValley_L2 O R0 N hn a0 s.1 s.2 o hb hk) FU ((0 : Int32), σ) w1 e2 ?_
  show G M 0 0 45 [(0, vA (some a0))] [] SX w1
  refine g_iconst (v := (0 : Int32)) O dX5_judgeValley_45 rfl ?_
  refine g_istore_n (lv' := [(1, vI (0 : Int32)), (0, vA (some a0))]) O dX5_judgeValley_46 rfl 2 hn (by decide) rfl ?_
  refine g_sub [1, 0] (lv' := [(0, vA (some a0)), (1, vI (0 : Int32))]) rfl ?_
  obtain ⟨w3, e4, h⟩ := bo_some h
  refine iter_G (P := P_X5_judgeValley_47 M a0) (E := E_X5_judgeValley_47 M a0) (fun s o hb hk => t_X5_judgeValley_L47 O R0 N hn a0 s.1 s.2 o hb hk) FU ((0 : Int32), w1) w3 e4 ?_
  show G M 0 0 84 [] [] SX w3
  cases h
  exact g_return O K dX5_judgeValley_84
theorem c_X5_judgeValley (l0 : Launch) (a0 : Nat) (σ : Dt) (r : Unit) (σ' : Dt) (h : f_X5_judgeValley a0 σ = some (r, σ')) : Ctr l0 yX5_judgeValley cX5_judgeValley 2 (none) false 3 102 0 0 [vA (some a0)] SX σ SX σ' (none) := ctr_of (by decide) (Nat.le_of_ble_eq_true rfl) (fun M O F R0 N hn => t_X5_judgeValley O R0 N hn a0 σ (r, σ') h F)
def P_X9_settle_24 (M : Mx) (a0 : Nat) (x1 : Int32) (s : (Int32 × Dt)) : Prop := G M 0 0 24 [(0, vA (some a0)), (1, vI x1), (2, vI s.1)] [] SX s.2
def E_X9_settle_24 (M : Mx) (a0 : Nat) (x1 : Int32) : Dt → Prop := (fun w => G M 0 0 64 [(0, vA (some a0)), (1, vI x1)] [] SX w)
def f_X9_settle_58 (a0 : Nat) (x1 : Int32) (x2 : Int32) (σ : Dt) : Option ((Int32 × Dt) ⊕ Dt) := some (.inl ((x2 + (1 : Int32)), σ))
theorem t_X9_settle_58 {M : Mx} {l0 : Launch} (O : Ok M cX9_settle yX9_settle) (R0 : Rm M l0 2 80 0 0) (N : Ma M = false) (hn : Mn M = 3)  (a0 : Nat) (x1 : Int32) (x2 : Int32) (σ : Dt) (o : ((Int32 × Dt) ⊕ Dt)) (h : f_X9_settle_58 a0 x1 x2 σ = some o) (K : kon (P_X9_settle_24 M a0 x1) (E_X9_settle_24 M a0 x1) o) : G M 0 0 58 [(0, vA (some a0)), (1, vI x1), (2, vI x2)] [] SX σ := by
  unfold f_X9_settle_58 at h
  refine g_iinc (v := (x2 + (1 : Int32))) (lv' := [(2, vI (x2 + (1 : Int32))), (0, vA (some a0)), (1, vI x1)]) O dX9_settle_58 3 hn (by decide) 2 rfl rfl rfl ?_
  refine g_goto O dX9_settle_61 rfl ?_
  refine g_sub [1, 2, 0] (lv' := [(0, vA (some a0)), (1, vI x1), (2, vI (x2 + (1 : Int32)))]) rfl ?_
  cases h
  exact K
def f_X9_settle_L24 (a0 : Nat) (x1 : Int32) (x2 : Int32) (σ : Dt) : Option ((Int32 × Dt) ⊕ Dt) := if (10 : Int32) ≤ x2 then some (.inr σ) else bo (xgr SX 9 5 (some a0) σ) fun v2 => bo (xai SX v2 x1 σ) fun v4 => if ((v4 >>> (x2 &&& 31)) &&& (1 : Int32)) = 0 then f_X9_settle_58 a0 x1 x2 σ else bo (xgr SX 9 6 (some a0) σ) fun v7 => bo (xai SX v7 x1 σ) fun v9 => bo (xgr SX 9 5 (some a0) σ) fun v11 => bo (xai SX v11 x2 σ) fun v13 => bo (xsi SX v7 x1 (v9 ||| v13) σ) fun σ15 => f_X9_settle_58 a0 x1 x2 σ15
theorem t_X9_settle_L24 {M : Mx} {l0 : Launch} (O : Ok M cX9_settle yX9_settle) (R0 : Rm M l0 2 80 0 0) (N : Ma M = false) (hn : Mn M = 3) (a0 : Nat) (x1 : Int32) (x2 : Int32) (σ : Dt) (o : ((Int32 × Dt) ⊕ Dt)) (h : f_X9_settle_L24 a0 x1 x2 σ = some o) (K : kon (P_X9_settle_24 M a0 x1) (E_X9_settle_24 M a0 x1) o) : G M 0 0 24 [(0, vA (some a0)), (1, vI x1), (2, vI x2)] [] SX σ := by
  unfold f_X9_settle_L24 at h
  refine g_iload_n O dX9_settle_24 rfl 2 rfl ?_
  refine g_bipush (v := (10 : Int32)) O dX9_settle_25 rfl ?_
  refine g_icmp_ge O dX9_settle_27 rfl (fun c1 => ?_) (fun c1 => ?_)
  · replace h := (if_pos c1).symm.trans h
    refine g_sub [0, 1] (lv' := [(0, vA (some a0)), (1, vI x1)]) rfl ?_
    cases h
    exact K
  · replace h := (if_neg c1).symm.trans h
    refine g_aload_n O dX9_settle_30 rfl 0 rfl ?_
    obtain ⟨v2, e3, h⟩ := bo_some h
    refine g_getR O dX9_settle_31 fl_X9_18 rfl e3 ?_
    refine g_iload_n O dX9_settle_34 rfl 1 rfl ?_
    obtain ⟨v4, e5, h⟩ := bo_some h
    refine g_iaload O dX9_settle_35 e5 ?_
    refine g_iload_n O dX9_settle_36 rfl 2 rfl ?_
    refine g_ishr O dX9_settle_37 ?_
    refine g_iconst (v := (1 : Int32)) O dX9_settle_38 rfl ?_
    refine g_iand O dX9_settle_39 ?_
    refine g_if_eq O dX9_settle_40 rfl (fun c6 => ?_) (fun c6 => ?_)
    · replace h := (if_pos c6).symm.trans h
      exact t_X9_settle_58 O R0 N hn a0 x1 x2 σ o h K
    · replace h := (if_neg c6).symm.trans h
      refine g_aload_n O dX9_settle_43 rfl 0 rfl ?_
      obtain ⟨v7, e8, h⟩ := bo_some h
      refine g_getR O dX9_settle_44 fl_X9_21 rfl e8 ?_
      refine g_iload_n O dX9_settle_47 rfl 1 rfl ?_
      refine g_dup2 O dX9_settle_48 rfl rfl ?_
      obtain ⟨v9, e10, h⟩ := bo_some h
      refine g_iaload O dX9_settle_49 e10 ?_
      refine g_aload_n O dX9_settle_50 rfl 0 rfl ?_
      obtain ⟨v11, e12, h⟩ := bo_some h
      refine g_getR O dX9_settle_51 fl_X9_18 rfl e12 ?_
      refine g_iload_n O dX9_settle_54 rfl 2 rfl ?_
      obtain ⟨v13, e14, h⟩ := bo_some h
      refine g_iaload O dX9_settle_55 e14 ?_
      refine g_ior O dX9_settle_56 ?_
      obtain ⟨σ15, e16, h⟩ := bo_some h
      refine g_iastore O dX9_settle_57 e16 ?_
      exact t_X9_settle_58 O R0 N hn a0 x1 x2 σ15 o h K
def P_X9_settle_80 (M : Mx) (a0 : Nat) (x1 : Int32) (s : (Int32 × Dt)) : Prop := G M 0 0 80 [(0, vA (some a0)), (1, vI x1), (2, vI s.1)] [] SX s.2
def E_X9_settle_80 (M : Mx) (a0 : Nat) (x1 : Int32) : Dt → Prop := (fun w => G M 0 0 128 [(0, vA (some a0)), (1, vI x1)] [] SX w)
def f_X9_settle_122 (a0 : Nat) (x1 : Int32) (x2 : Int32) (σ : Dt) : Option ((Int32 × Dt) ⊕ Dt) := some (.inl ((x2 + (1 : Int32)), σ))
theorem t_X9_settle_122 {M : Mx} {l0 : Launch} (O : Ok M cX9_settle yX9_settle) (R0 : Rm M l0 2 80 0 0) (N : Ma M = false) (hn : Mn M = 3)  (a0 : Nat) (x1 : Int32) (x2 : Int32) (σ : Dt) (o : ((Int32 × Dt) ⊕ Dt)) (h : f_X9_settle_122 a0 x1 x2 σ = some o) (K : kon (P_X9_settle_80 M a0 x1) (E_X9_settle_80 M a0 x1) o) : G M 0 0 122 [(0, vA (some a0)), (1, vI x1), (2, vI x2)] [] SX σ := by
  unfold f_X9_settle_122 at h
  refine g_iinc (v := (x2 + (1 : Int32))) (lv' := [(2, vI (x2 + (1 : Int32))), (0, vA (some a0)), (1, vI x1)]) O dX9_settle_122 3 hn (by decide) 2 rfl rfl rfl ?_
  refine g_goto O dX9_settle_125 rfl ?_
  refine g_sub [1, 2, 0] (lv' := [(0, vA (some a0)), (1, vI x1), (2, vI (x2 + (1 : Int32)))]) rfl ?_
  cases h
  exact K
def f_X9_settle_L80 (a0 : Nat) (x1 : Int32) (x2 : Int32) (σ : Dt) : Option ((Int32 × Dt) ⊕ Dt) := bo (xgi SX 9 0 (some a0) σ) fun v1 => if v1 ≤ x2 then some (.inr σ) else if (10 : Int32) ≤ x2 then some (.inr σ) else bo (xgr SX 9 6 (some a0) σ) fun v5 => bo (xai SX v5 x1 σ) fun v7 => if ((v7 >>> (x2 &&& 31)) &&& (1 : Int32)) = 0 then f_X9_settle_122 a0 x1 x2 σ else bo (xgr SX 9 7 (some a0) σ) fun v10 => bo (xai SX v10 x1 σ) fun v12 => bo (xgr SX 9 4 (some a0) σ) fun v14 => bo (xai SX v14 x2 σ) fun v16 => bo (xsi SX v10 x1 (v12 + v16) σ) fun σ18 => f_X9_settle_122 a0 x1 x2 σ18
theorem t_X9_settle_L80 {M : Mx} {l0 : Launch} (O : Ok M cX9_settle yX9_settle) (R0 : Rm M l0 2 80 0 0) (N : Ma M = false) (hn : Mn M = 3) (a0 : Nat) (x1 : Int32) (x2 : Int32) (σ : Dt) (o : ((Int32 × Dt) ⊕ Dt)) (h : f_X9_settle_L80 a0 x1 x2 σ = some o) (K : kon (P_X9_settle_80 M a0 x1) (E_X9_settle_80 M a0 x1) o) : G M 0 0 80 [(0, vA (some a0)), (1, vI x1), (2, vI x2)] [] SX σ := by
  unfold f_X9_settle_L80 at h
  refine g_iload_n O dX9_settle_80 rfl 2 rfl ?_
  refine g_aload_n O dX9_settle_81 rfl 0 rfl ?_
  obtain ⟨v1, e2, h⟩ := bo_some h
  refine g_getI O dX9_settle_82 fl_X9_33 rfl e2 ?_
  refine g_icmp_ge O dX9_settle_85 rfl (fun c3 => ?_) (fun c3 => ?_)
  · replace h := (if_pos c3).symm.trans h
    refine g_sub [0, 1] (lv' := [(0, vA (some a0)), (1, vI x1)]) rfl ?_
    cases h
    exact K
  · replace h := (if_neg c3).symm.trans h
    refine g_iload_n O dX9_settle_88 rfl 2 rfl ?_
    refine g_bipush (v := (10 : Int32)) O dX9_settle_89 rfl ?_
    refine g_icmp_ge O dX9_settle_91 rfl (fun c4 => ?_) (fun c4 => ?_)
    · replace h := (if_pos c4).symm.trans h
      refine g_sub [0, 1] (lv' := [(0, vA (some a0)), (1, vI x1)]) rfl ?_
      cases h
      exact K
    · replace h := (if_neg c4).symm.trans h
      refine g_aload_n O dX9_settle_94 rfl 0 rfl ?_
      obtain ⟨v5, e6, h⟩ := bo_some h
      refine g_getR O dX9_settle_95 fl_X9_21 rfl e6 ?_
      refine g_iload_n O dX9_settle_98 rfl 1 rfl ?_
      obtain ⟨v7, e8, h⟩ := bo_some h
      refine g_iaload O dX9_settle_99 e8 ?_
      refine g_iload_n O dX9_settle_100 rfl 2 rfl ?_
      refine g_ishr O dX9_settle_101 ?_
      refine g_iconst (v := (1 : Int32)) O dX9_settle_102 rfl ?_
      refine g_iand O dX9_settle_103 ?_
      refine g_if_eq O dX9_settle_104 rfl (fun c9 => ?_) (fun c9 => ?_)
      · replace h := (if_pos c9).symm.trans h
        exact t_X9_settle_122 O R0 N hn a0 x1 x2 σ o h K
      · replace h := (if_neg c9).symm.trans h
        refine g_aload_n O dX9_settle_107 rfl 0 rfl ?_
        obtain ⟨v10, e11, h⟩ := bo_some h
        refine g_getR O dX9_settle_108 fl_X9_24 rfl e11 ?_
        refine g_iload_n O dX9_settle_111 rfl 1 rfl ?_
        refine g_dup2 O dX9_settle_112 rfl rfl ?_
        obtain ⟨v12, e13, h⟩ := bo_some h
        refine g_iaload O dX9_settle_113 e13 ?_
        refine g_aload_n O dX9_settle_114 rfl 0 rfl ?_
        obtain ⟨v14, e15, h⟩ := bo_some h
        refine g_getR O dX9_settle_115 fl_X9_15 rfl e15 ?_
        refine g_iload_n O dX9_settle_118 rfl 2 rfl ?_
        obtain ⟨v16, e17, h⟩ := bo_some h
        refine g_iaload O dX9_settle_119 e17 ?_
        refine g_iadd O dX9_settle_120 ?_
        obtain ⟨σ18, e19, h⟩ := bo_some h
        refine g_iastore O dX9_settle_121 e19 ?_
        exact t_X9_settle_122 O R0 N hn a0 x1 x2 σ18 o h K
def P_X9_settle_2 (M : Mx) (a0 : Nat) (s : (Int32 × Dt)) : Prop := G M 0 0 2 [(0, vA (some a0)), (1, vI s.1)] [] SX s.2
def E_X9_settle_2 (M : Mx) (a0 : Nat) : Dt → Prop := (fun w => G M 0 0 70 [(0, vA (some a0))] [] SX w)
def f_X9_settle_L2 (a0 : Nat) (x1 : Int32) (σ : Dt) : Option ((Int32 × Dt) ⊕ Dt) := if (10 : Int32) ≤ x1 then some (.inr σ) else bo (xgr SX 9 6 (some a0) σ) fun v2 => bo (xsi SX v2 x1 (0 : Int32) σ) fun σ4 => bo (xgr SX 9 7 (some a0) σ4) fun v6 => bo (xsi SX v6 x1 (0 : Int32) σ4) fun σ8 => bo (iter FU (fun s => f_X9_settle_L24 a0 x1 s.1 s.2) ((0 : Int32), σ8)) fun w10 => some (.inl ((x1 + (1 : Int32)), w10))
theorem t_X9_settle_L2 {M : Mx} {l0 : Launch} (O : Ok M cX9_settle yX9_settle) (R0 : Rm M l0 2 80 0 0) (N : Ma M = false) (hn : Mn M = 3) (a0 : Nat) (x1 : Int32) (σ : Dt) (o : ((Int32 × Dt) ⊕ Dt)) (h : f_X9_settle_L2 a0 x1 σ = some o) (K : kon (P_X9_settle_2 M a0) (E_X9_settle_2 M a0) o) : G M 0 0 2 [(0, vA (some a0)), (1, vI x1)] [] SX σ := by
  unfold f_X9_settle_L2 at h
  refine g_iload_n O dX9_settle_2 rfl 1 rfl ?_
  refine g_bipush (v := (10 : Int32)) O dX9_settle_3 rfl ?_
  refine g_icmp_ge O dX9_settle_5 rfl (fun c1 => ?_) (fun c1 => ?_)
  · replace h := (if_pos c1).symm.trans h
    refine g_sub [0] (lv' := [(0, vA (some a0))]) rfl ?_
    cases h
    exact K
  · replace h := (if_neg c1).symm.trans h
    refine g_aload_n O dX9_settle_8 rfl 0 rfl ?_
    obtain ⟨v2, e3, h⟩ := bo_some h
    refine g_getR O dX9_settle_9 fl_X9_21 rfl e3 ?_
    refine g_iload_n O dX9_settle_12 rfl 1 rfl ?_
    refine g_iconst (v := (0 : Int32)) O dX9_settle_13 rfl ?_
    obtain ⟨σ4, e5, h⟩ := bo_some h
    refine g_iastore O dX9_settle_14 e5 ?_
    refine g_aload_n O dX9_settle_15 rfl 0 rfl ?_
    obtain ⟨v6, e7, h⟩ := bo_some h
    refine g_getR O dX9_settle_16 fl_X9_24 rfl e7 ?_
    refine g_iload_n O dX9_settle_19 rfl 1 rfl ?_
    refine g_iconst (v := (0 : Int32)) O dX9_settle_20 rfl ?_
    obtain ⟨σ8, e9, h⟩ := bo_some h
    refine g_iastore O dX9_settle_21 e9 ?_
    refine g_iconst (v := (0 : Int32)) O dX9_settle_22 rfl ?_
    refine g_istore_n (lv' := [(2, vI (0 : Int32)), (0, vA (some a0)), (1, vI x1)]) O dX9_settle_23 rfl 3 hn (by decide) rfl ?_
    refine g_sub [1, 2, 0] (lv' := [(0, vA (some a0)), (1, vI x1), (2, vI (0 : Int32))]) rfl ?_
    obtain ⟨w10, e11, h⟩ := bo_some h
    refine iter_G (P := P_X9_settle_24 M a0 x1) (E := E_X9_settle_24 M a0 x1) (fun s o hb hk => t_X9_settle_L24 O R0 N hn a0 x1 s.1 s.2 o hb hk) FU ((0 : Int32), σ8) w10 e11 ?_
    show G M 0 0 64 [(0, vA (some a0)), (1, vI x1)] [] SX w10
    refine g_iinc (v := (x1 + (1 : Int32))) (lv' := [(1, vI (x1 + (1 : Int32))), (0, vA (some a0))]) O dX9_settle_64 3 hn (by decide) 1 rfl rfl rfl ?_
    refine g_goto O dX9_settle_67 rfl ?_
    refine g_sub [1, 0] (lv' := [(0, vA (some a0)), (1, vI (x1 + (1 : Int32)))]) rfl ?_
    cases h
    exact K
def P_X9_settle_72 (M : Mx) (a0 : Nat) (s : (Int32 × Dt)) : Prop := G M 0 0 72 [(0, vA (some a0)), (1, vI s.1)] [] SX s.2
def E_X9_settle_72 (M : Mx) (a0 : Nat) : Dt → Prop := (fun w => G M 0 0 134 [] [] SX w)
def f_X9_settle_128 (a0 : Nat) (x1 : Int32) (σ : Dt) : Option ((Int32 × Dt) ⊕ Dt) := some (.inl ((x1 + (1 : Int32)), σ))
theorem t_X9_settle_128 {M : Mx} {l0 : Launch} (O : Ok M cX9_settle yX9_settle) (R0 : Rm M l0 2 80 0 0) (N : Ma M = false) (hn : Mn M = 3)  (a0 : Nat) (x1 : Int32) (σ : Dt) (o : ((Int32 × Dt) ⊕ Dt)) (h : f_X9_settle_128 a0 x1 σ = some o) (K : kon (P_X9_settle_72 M a0) (E_X9_settle_72 M a0) o) : G M 0 0 128 [(0, vA (some a0)), (1, vI x1)] [] SX σ := by
  unfold f_X9_settle_128 at h
  refine g_iinc (v := (x1 + (1 : Int32))) (lv' := [(1, vI (x1 + (1 : Int32))), (0, vA (some a0))]) O dX9_settle_128 3 hn (by decide) 1 rfl rfl rfl ?_
  refine g_goto O dX9_settle_131 rfl ?_
  refine g_sub [1, 0] (lv' := [(0, vA (some a0)), (1, vI (x1 + (1 : Int32)))]) rfl ?_
  cases h
  exact K
def f_X9_settle_L72 (a0 : Nat) (x1 : Int32) (σ : Dt) : Option ((Int32 × Dt) ⊕ Dt) := if (10 : Int32) ≤ x1 then some (.inr σ) else bo (iter FU (fun s => f_X9_settle_L80 a0 x1 s.1 s.2) ((0 : Int32), σ)) fun w2 => f_X9_settle_128 a0 x1 w2
theorem t_X9_settle_L72 {M : Mx} {l0 : Launch} (O : Ok M cX9_settle yX9_settle) (R0 : Rm M l0 2 80 0 0) (N : Ma M = false) (hn : Mn M = 3) (a0 : Nat) (x1 : Int32) (σ : Dt) (o : ((Int32 × Dt) ⊕ Dt)) (h : f_X9_settle_L72 a0 x1 σ = some o) (K : kon (P_X9_settle_72 M a0) (E_X9_settle_72 M a0) o) : G M 0 0 72 [(0, vA (some a0)), (1, vI x1)] [] SX σ := by
  unfold f_X9_settle_L72 at h
  refine g_iload_n O dX9_settle_72 rfl 1 rfl ?_
  refine g_bipush (v := (10 : Int32)) O dX9_settle_73 rfl ?_
  refine g_icmp_ge O dX9_settle_75 rfl (fun c1 => ?_) (fun c1 => ?_)
  · replace h := (if_pos c1).symm.trans h
    refine g_sub [] (lv' := []) rfl ?_
    cases h
    exact K
  · replace h := (if_neg c1).symm.trans h
    refine g_iconst (v := (0 : Int32)) O dX9_settle_78 rfl ?_
    refine g_istore_n (lv' := [(2, vI (0 : Int32)), (0, vA (some a0)), (1, vI x1)]) O dX9_settle_79 rfl 3 hn (by decide) rfl ?_
    refine g_sub [1, 2, 0] (lv' := [(0, vA (some a0)), (1, vI x1), (2, vI (0 : Int32))]) rfl ?_
    obtain ⟨w2, e3, h⟩ := bo_some h
    refine iter_G (P := P_X9_settle_80 M a0 x1) (E := E_X9_settle_80 M a0 x1) (fun s o hb hk => t_X9_settle_L80 O R0 N hn a0 x1 s.1 s.2 o hb hk) FU ((0 : Int32), σ) w2 e3 ?_
    show G M 0 0 128 [(0, vA (some a0)), (1, vI x1)] [] SX w2
    exact t_X9_settle_128 O R0 N hn a0 x1 w2 o h K
def f_X9_settle (a0 : Nat) (σ : Dt) : Option (Unit × Dt) := bo (iter FU (fun s => f_X9_settle_L2 a0 s.1 s.2) ((0 : Int32), σ)) fun w1 => bo (iter FU (fun s => f_X9_settle_L72 a0 s.1 s.2) ((0 : Int32), w1)) fun w3 => some ((), w3)
theorem t_X9_settle {M : Mx} {l0 : Launch} (O : Ok M cX9_settle yX9_settle) (R0 : Rm M l0 2 80 0 0) (N : Ma M = false) (hn : Mn M = 3) (a0 : Nat) (σ : Dt) (o : (Unit × Dt)) (h : f_X9_settle a0 σ = some o) (K : Fin' M (none) 0 0 SX o.2 (none)) : G M 0 0 0 [(0, vA (some a0))] [] SX σ := by
  unfold f_X9_settle at h
  refine g_iconst (v := (0 : Int32)) O dX9_settle_0 rfl ?_
  refine g_istore_n (lv' := [(1, vI (0 : Int32)), (0, vA (some a0))]) O dX9_settle_1 rfl 3 hn (by decide) rfl ?_
  refine g_sub [1, 0] (lv' := [(0, vA (some a0)), (1, vI (0 : Int32))]) rfl ?_
  obtain ⟨w1, e2, h⟩ := bo_some h
  refine iter_G (P := P_X9_settle_2 M a0) (E := E_X9_settle_2 M a0) (fun s o hb hk => t_X9_settle_L2 O R0 N hn a0 s.1 s.2 o hb hk) FU ((0 : Int32), σ) w1 e2 ?_
  show G M 0 0 70 [(0, vA (some a0))] [] SX w1
  refine g_iconst (v := (0 : Int32)) O dX9_settle_70 rfl ?_
  refine g_istore_n (lv' := [(1, vI (0 : Int32)), (0, vA (some a0))]) O dX9_settle_71 rfl 3 hn (by decide) rfl ?_
  refine g_sub [1, 0] (lv' := [(0, vA (some a0)), (1, vI (0 : Int32))]) rfl ?_
  obtain ⟨w3, e4, h⟩ := bo_some h
  refine iter_G (P := P_X9_settle_72 M a0) (E := E_X9_settle_72 M a0) (fun s o hb hk => t_X9_settle_L72 O R0 N hn a0 s.1 s.2 o hb hk) FU ((0 : Int32), w1) w3 e4 ?_
  show G M 0 0 134 [] [] SX w3
  cases h
  exact g_return O K dX9_settle_134
theorem c_X9_settle (l0 : Launch) (a0 : Nat) (σ : Dt) (r : Unit) (σ' : Dt) (h : f_X9_settle a0 σ = some (r, σ')) : Ctr l0 yX9_settle cX9_settle 3 (none) false 2 80 0 0 [vA (some a0)] SX σ SX σ' (none) := ctr_of (by decide) (Nat.le_of_ble_eq_true rfl) (fun M O F R0 N hn => t_X9_settle O R0 N hn a0 σ (r, σ') h F)
def P_X5_read_89 (M : Mx) (a0 : Nat) (s : (Int32 × Int32 × Dt)) : Prop := G M 0 0 89 [(0, vA (some a0)), (4, vI s.1), (5, vI s.2.1)] [] SX s.2.2
def E_X5_read_89 (M : Mx) (a0 : Nat) : Dt → Prop := (fun w => G M 0 0 115 [(0, vA (some a0))] [] SX w)
def f_X5_read_L89 (a0 : Nat) (x4 : Int32) (x5 : Int32) (σ : Dt) : Option ((Int32 × Int32 × Dt) ⊕ Dt) := if x4 = 0 then some (.inr σ) else bo (xgi SX 5 6 (some a0) σ) fun v2 => if v2 < x5 then some (.inr σ) else bo (xrc SX 5 (some a0)) fun a5 => bd (f_X5_readLine a5 σ) fun v7 σ8 => some (.inl (v7, (x5 + (1 : Int32)), σ8))
theorem t_X5_read_L89 {M : Mx} {l0 : Launch} (O : Ok M cX5_read yX5_read) (R0 : Rm M l0 10 317 0 0) (N : Ma M = false) (hn : Mn M = 6) (a0 : Nat) (x4 : Int32) (x5 : Int32) (σ : Dt) (o : ((Int32 × Int32 × Dt) ⊕ Dt)) (h : f_X5_read_L89 a0 x4 x5 σ = some o) (K : kon (P_X5_read_89 M a0) (E_X5_read_89 M a0) o) : G M 0 0 89 [(0, vA (some a0)), (4, vI x4), (5, vI x5)] [] SX σ := by
  unfold f_X5_read_L89 at h
  refine g_iload O dX5_read_89 1 rfl ?_
  refine g_if_eq O dX5_read_91 rfl (fun c1 => ?_) (fun c1 => ?_)
  · replace h := (if_pos c1).symm.trans h
    refine g_sub [0] (lv' := [(0, vA (some a0))]) rfl ?_
    cases h
    exact K
  · replace h := (if_neg c1).symm.trans h
    refine g_iload O dX5_read_94 2 rfl ?_
    refine g_aload_n O dX5_read_96 rfl 0 rfl ?_
    obtain ⟨v2, e3, h⟩ := bo_some h
    refine g_getI O dX5_read_97 fl_X5_58 rfl e3 ?_
    refine g_icmp_gt O dX5_read_100 rfl (fun c4 => ?_) (fun c4 => ?_)
    · replace h := (if_pos c4).symm.trans h
      refine g_sub [0] (lv' := [(0, vA (some a0))]) rfl ?_
      cases h
      exact K
    · replace h := (if_neg c4).symm.trans h
      refine g_aload_n O dX5_read_103 rfl 0 rfl ?_
      obtain ⟨a5, e6, h⟩ := bo_some h
      obtain ⟨v7, σ8, e9, h⟩ := bd_some h
      refine g_cV1 O R0 N dX5_read_104 vl_X5_82 vv_X5_readLine e6 [] rfl rfl rfl ⟨Nat.le_of_ble_eq_true rfl, Nat.le_of_ble_eq_true rfl⟩ (c_X5_readLine l0 a5 σ v7 σ8 e9) ?_
      refine g_istore (lv' := [(4, vI v7), (0, vA (some a0)), (5, vI x5)]) O dX5_read_107 6 hn (by decide) rfl ?_
      refine g_iinc (v := (x5 + (1 : Int32))) (lv' := [(5, vI (x5 + (1 : Int32))), (4, vI v7), (0, vA (some a0))]) O dX5_read_109 6 hn (by decide) 2 rfl rfl rfl ?_
      refine g_goto O dX5_read_112 rfl ?_
      refine g_sub [2, 1, 0] (lv' := [(0, vA (some a0)), (4, vI v7), (5, vI (x5 + (1 : Int32)))]) rfl ?_
      cases h
      exact K
def f_X5_read_115 (a0 : Nat) (σ : Dt) : Option (Unit × Dt) := bo (xgi SX 5 3 (some a0) σ) fun v1 => if v1 = 0 then bo (xgi SX 5 7 (some a0) σ) fun v4 => if v4 = 0 then bo (xrc SX 5 (some a0)) fun a7 => bd (f_X5_judgeValley a7 σ) fun v9 σ10 => bo (xgr SX 5 0 (some a0) σ10) fun v12 => bo (xrc SX 9 v12) fun a14 => bd (f_X9_settle a14 σ10) fun v16 σ17 => some ((), σ17) else some ((), σ) else some ((), σ)
theorem t_X5_read_115 {M : Mx} {l0 : Launch} (O : Ok M cX5_read yX5_read) (R0 : Rm M l0 10 317 0 0) (N : Ma M = false) (hn : Mn M = 6)  (a0 : Nat) (σ : Dt) (o : (Unit × Dt)) (h : f_X5_read_115 a0 σ = some o) (K : Fin' M (none) 0 0 SX o.2 (none)) : G M 0 0 115 [(0, vA (some a0))] [] SX σ := by
  unfold f_X5_read_115 at h
  refine g_aload_n O dX5_read_115 rfl 0 rfl ?_
  obtain ⟨v1, e2, h⟩ := bo_some h
  refine g_getI O dX5_read_116 fl_X5_32 rfl e2 ?_
  refine g_if_ne O dX5_read_119 rfl (fun c3 => ?_) (fun c3 => ?_)
  · replace h := (if_pos c3).symm.trans h
    refine g_aload_n O dX5_read_122 rfl 0 rfl ?_
    obtain ⟨v4, e5, h⟩ := bo_some h
    refine g_getI O dX5_read_123 fl_X5_61 rfl e5 ?_
    refine g_if_ne O dX5_read_126 rfl (fun c6 => ?_) (fun c6 => ?_)
    · replace h := (if_pos c6).symm.trans h
      refine g_aload_n O dX5_read_129 rfl 0 rfl ?_
      obtain ⟨a7, e8, h⟩ := bo_some h
      obtain ⟨v9, σ10, e11, h⟩ := bd_some h
      refine g_cV0 O R0 N dX5_read_130 vl_X5_86 vv_X5_judgeValley e8 [] rfl rfl rfl ⟨Nat.le_of_ble_eq_true rfl, Nat.le_of_ble_eq_true rfl⟩ (c_X5_judgeValley l0 a7 σ v9 σ10 e11) ?_
      refine g_aload_n O dX5_read_133 rfl 0 rfl ?_
      obtain ⟨v12, e13, h⟩ := bo_some h
      refine g_getR O dX5_read_134 fl_X5_12 rfl e13 ?_
      obtain ⟨a14, e15, h⟩ := bo_some h
      obtain ⟨v16, σ17, e18, h⟩ := bd_some h
      refine g_cV0 O R0 N dX5_read_137 vl_X5_89 vv_X9_settle e15 [] rfl rfl rfl ⟨Nat.le_of_ble_eq_true rfl, Nat.le_of_ble_eq_true rfl⟩ (c_X9_settle l0 a14 σ10 v16 σ17 e18) ?_
      cases h
      exact g_return O K dX5_read_140
    · replace h := (if_neg c6).symm.trans h
      cases h
      exact g_return O K dX5_read_140
  · replace h := (if_neg c3).symm.trans h
    cases h
    exact g_return O K dX5_read_140
def f_X5_read_24 (a0 : Nat) (x3 : Int32) (k0 : Option Nat) (k1 : Int32) (σ : Dt) : Option (Unit × Dt) := bo (xpi SX 5 6 k0 k1 σ) fun σ1 => bo (xpi SX 5 7 (some a0) x3 σ1) fun σ3 => bo (xpi SX 5 3 (some a0) (0 : Int32) σ3) fun σ5 => bo (xpi SX 5 4 (some a0) (-1 : Int32) σ5) fun σ7 => bo (xpi SX 5 9 (some a0) (0 : Int32) σ7) fun σ9 => bo (xpi SX 5 10 (some a0) (0 : Int32) σ9) fun σ11 => bo (xgr SX 5 0 (some a0) σ11) fun v13 => bo (xrc SX 9 v13) fun a15 => bd (f_X9_clear a15 σ11) fun v17 σ18 => bo (xgr SX 5 1 (some a0) σ18) fun v20 => bo (xpi SX 4 0 v20 (0 : Int32) σ18) fun σ22 => bo (xgr SX 5 2 (some a0) σ22) fun v24 => bo (xpi SX 6 0 v24 (1 : Int32) σ22) fun σ26 => bo (xgr SX 5 2 (some a0) σ26) fun v28 => bo (xpi SX 6 1 v28 (0 : Int32) σ26) fun σ30 => bo (iter FU (fun s => f_X5_read_L89 a0 s.1 s.2.1 s.2.2) ((1 : Int32), (0 : Int32), σ30)) fun w32 => f_X5_read_115 a0 w32
theorem t_X5_read_24 {M : Mx} {l0 : Launch} (O : Ok M cX5_read yX5_read) (R0 : Rm M l0 10 317 0 0) (N : Ma M = false) (hn : Mn M = 6)  (a0 : Nat) (x3 : Int32) (k0 : Option Nat) (k1 : Int32) (σ : Dt) (o : (Unit × Dt)) (h : f_X5_read_24 a0 x3 k0 k1 σ = some o) (K : Fin' M (none) 0 0 SX o.2 (none)) : G M 0 0 24 [(0, vA (some a0)), (3, vI x3)] [vI k1, vA k0] SX σ := by
  unfold f_X5_read_24 at h
  obtain ⟨σ1, e2, h⟩ := bo_some h
  refine g_putI O dX5_read_24 fl_X5_58 (Or.inl rfl) rfl e2 ?_
  refine g_aload_n O dX5_read_27 rfl 0 rfl ?_
  refine g_iload_n O dX5_read_28 rfl 1 rfl ?_
  obtain ⟨σ3, e4, h⟩ := bo_some h
  refine g_putI O dX5_read_29 fl_X5_61 (Or.inl rfl) rfl e4 ?_
  refine g_aload_n O dX5_read_32 rfl 0 rfl ?_
  refine g_iconst (v := (0 : Int32)) O dX5_read_33 rfl ?_
  obtain ⟨σ5, e6, h⟩ := bo_some h
  refine g_putI O dX5_read_34 fl_X5_32 (Or.inl rfl) rfl e6 ?_
  refine g_aload_n O dX5_read_37 rfl 0 rfl ?_
  refine g_iconst (v := (-1 : Int32)) O dX5_read_38 rfl ?_
  obtain ⟨σ7, e8, h⟩ := bo_some h
  refine g_putI O dX5_read_39 fl_X5_36 (Or.inl rfl) rfl e8 ?_
  refine g_aload_n O dX5_read_42 rfl 0 rfl ?_
  refine g_iconst (v := (0 : Int32)) O dX5_read_43 rfl ?_
  obtain ⟨σ9, e10, h⟩ := bo_some h
  refine g_putI O dX5_read_44 fl_X5_64 (Or.inl rfl) rfl e10 ?_
  refine g_aload_n O dX5_read_47 rfl 0 rfl ?_
  refine g_iconst (v := (0 : Int32)) O dX5_read_48 rfl ?_
  obtain ⟨σ11, e12, h⟩ := bo_some h
  refine g_putI O dX5_read_49 fl_X5_67 (Or.inl rfl) rfl e12 ?_
  refine g_aload_n O dX5_read_52 rfl 0 rfl ?_
  obtain ⟨v13, e14, h⟩ := bo_some h
  refine g_getR O dX5_read_53 fl_X5_12 rfl e14 ?_
  obtain ⟨a15, e16, h⟩ := bo_some h
  obtain ⟨v17, σ18, e19, h⟩ := bd_some h
  refine g_cV0 O R0 N dX5_read_56 vl_X5_70 vv_X9_clear e16 [] rfl rfl rfl ⟨Nat.le_of_ble_eq_true rfl, Nat.le_of_ble_eq_true rfl⟩ (c_X9_clear l0 a15 σ11 v17 σ18 e19) ?_
  refine g_aload_n O dX5_read_59 rfl 0 rfl ?_
  obtain ⟨v20, e21, h⟩ := bo_some h
  refine g_getR O dX5_read_60 fl_X5_21 rfl e21 ?_
  refine g_iconst (v := (0 : Int32)) O dX5_read_63 rfl ?_
  obtain ⟨σ22, e23, h⟩ := bo_some h
  refine g_putI O dX5_read_64 fl_X5_73 (Or.inl rfl) rfl e23 ?_
  refine g_aload_n O dX5_read_67 rfl 0 rfl ?_
  obtain ⟨v24, e25, h⟩ := bo_some h
  refine g_getR O dX5_read_68 fl_X5_28 rfl e25 ?_
  refine g_iconst (v := (1 : Int32)) O dX5_read_71 rfl ?_
  obtain ⟨σ26, e27, h⟩ := bo_some h
  refine g_putI O dX5_read_72 fl_X5_76 (Or.inl rfl) rfl e27 ?_
  refine g_aload_n O dX5_read_75 rfl 0 rfl ?_
  obtain ⟨v28, e29, h⟩ := bo_some h
  refine g_getR O dX5_read_76 fl_X5_28 rfl e29 ?_
  refine g_iconst (v := (0 : Int32)) O dX5_read_79 rfl ?_
  obtain ⟨σ30, e31, h⟩ := bo_some h
  refine g_putI O dX5_read_80 fl_X5_79 (Or.inl rfl) rfl e31 ?_
  refine g_iconst (v := (1 : Int32)) O dX5_read_83 rfl ?_
  refine g_istore (lv' := [(4, vI (1 : Int32)), (0, vA (some a0)), (3, vI x3)]) O dX5_read_84 6 hn (by decide) rfl ?_
  refine g_iconst (v := (0 : Int32)) O dX5_read_86 rfl ?_
  refine g_istore (lv' := [(5, vI (0 : Int32)), (4, vI (1 : Int32)), (0, vA (some a0)), (3, vI x3)]) O dX5_read_87 6 hn (by decide) rfl ?_
  refine g_sub [2, 1, 0] (lv' := [(0, vA (some a0)), (4, vI (1 : Int32)), (5, vI (0 : Int32))]) rfl ?_
  obtain ⟨w32, e33, h⟩ := bo_some h
  refine iter_G (P := P_X5_read_89 M a0) (E := E_X5_read_89 M a0) (fun s o hb hk => t_X5_read_L89 O R0 N hn a0 s.1 s.2.1 s.2.2 o hb hk) FU ((1 : Int32), (0 : Int32), σ30) w32 e33 ?_
  show G M 0 0 115 [(0, vA (some a0))] [] SX w32
  exact t_X5_read_115 O R0 N hn a0 w32 o h K
def f_X5_read (a0 : Nat) (r1 : Option Nat) (x2 : Int32) (x3 : Int32) (σ : Dt) : Option (Unit × Dt) := bo (xpr SX 5 5 (some a0) r1 σ) fun σ1 => if r1 = none then f_X5_read_24 a0 x3 (some a0) (0 : Int32) σ1 else bo (xln SX r1) fun v4 => f_X5_read_24 a0 x3 (some a0) (mmax (0 : Int32) (mmin x2 v4)) σ1
theorem t_X5_read {M : Mx} {l0 : Launch} (O : Ok M cX5_read yX5_read) (R0 : Rm M l0 10 317 0 0) (N : Ma M = false) (hn : Mn M = 6) (a0 : Nat) (r1 : Option Nat) (x2 : Int32) (x3 : Int32) (σ : Dt) (o : (Unit × Dt)) (h : f_X5_read a0 r1 x2 x3 σ = some o) (K : Fin' M (none) 0 0 SX o.2 (none)) : G M 0 0 0 [(0, vA (some a0)), (1, vA r1), (2, vI x2), (3, vI x3)] [] SX σ := by
  unfold f_X5_read at h
  refine g_aload_n O dX5_read_0 rfl 0 rfl ?_
  refine g_aload_n O dX5_read_1 rfl 1 rfl ?_
  obtain ⟨σ1, e2, h⟩ := bo_some h
  refine g_putR O dX5_read_2 fl_X5_39 (Or.inl rfl) rfl e2 ?_
  refine g_aload_n O dX5_read_5 rfl 0 rfl ?_
  refine g_aload_n O dX5_read_6 rfl 1 rfl ?_
  refine g_ifnonnull O dX5_read_7 rfl (fun c3 => ?_) (fun c3 => ?_)
  · replace h := (if_neg c3).symm.trans h
    refine g_iconst (v := (0 : Int32)) O dX5_read_14 rfl ?_
    refine g_iload_n O dX5_read_15 rfl 2 rfl ?_
    refine g_aload_n O dX5_read_16 rfl 1 rfl ?_
    obtain ⟨v4, e5, h⟩ := bo_some h
    refine g_alen O dX5_read_17 e5 ?_
    refine g_mmin O R0 dX5_read_18 w675 ⟨Nat.le_of_ble_eq_true rfl, Nat.le_of_ble_eq_true rfl⟩ ?_
    refine g_mmax O R0 dX5_read_21 w678 ⟨Nat.le_of_ble_eq_true rfl, Nat.le_of_ble_eq_true rfl⟩ ?_
    refine g_sub [0, 3] (lv' := [(0, vA (some a0)), (3, vI x3)]) rfl ?_
    exact t_X5_read_24 O R0 N hn a0 x3 (some a0) (mmax (0 : Int32) (mmin x2 v4)) σ1 o h K
  · replace h := (if_pos c3).symm.trans h
    refine g_iconst (v := (0 : Int32)) O dX5_read_10 rfl ?_
    refine g_goto O dX5_read_11 rfl ?_
    refine g_sub [0, 3] (lv' := [(0, vA (some a0)), (3, vI x3)]) rfl ?_
    exact t_X5_read_24 O R0 N hn a0 x3 (some a0) (0 : Int32) σ1 o h K
theorem c_X5_read (l0 : Launch) (a0 : Nat) (r1 : Option Nat) (x2 : Int32) (x3 : Int32) (σ : Dt) (r : Unit) (σ' : Dt) (h : f_X5_read a0 r1 x2 x3 σ = some (r, σ')) : Ctr l0 yX5_read cX5_read 6 (none) false 10 317 0 0 [vA (some a0), vA r1, vI x2, vI x3] SX σ SX σ' (none) := ctr_of (by decide) (Nat.le_of_ble_eq_true rfl) (fun M O F R0 N hn => t_X5_read O R0 N hn a0 r1 x2 x3 σ (r, σ') h F)
def f_X9_copyFrom (a0 : Nat) (r1 : Option Nat) (σ : Dt) : Option (Unit × Dt) := if r1 = none then some ((), σ) else bo (xgi SX 9 0 r1 σ) fun v2 => bo (xpi SX 9 0 (some a0) v2 σ) fun σ4 => bo (xgi SX 9 1 r1 σ4) fun v6 => bo (xpi SX 9 1 (some a0) v6 σ4) fun σ8 => bo (xgi SX 9 2 r1 σ8) fun v10 => bo (xpi SX 9 2 (some a0) v10 σ8) fun σ12 => bo (xgr SX 9 3 r1 σ12) fun v14 => bo (xgr SX 9 3 (some a0) σ12) fun v16 => bo (xcp SX v14 (0 : Int32) v16 (0 : Int32) (10 : Int32) σ12) fun σ18 => bo (xgr SX 9 4 r1 σ18) fun v20 => bo (xgr SX 9 4 (some a0) σ18) fun v22 => bo (xcp SX v20 (0 : Int32) v22 (0 : Int32) (10 : Int32) σ18) fun σ24 => bo (xgr SX 9 5 r1 σ24) fun v26 => bo (xgr SX 9 5 (some a0) σ24) fun v28 => bo (xcp SX v26 (0 : Int32) v28 (0 : Int32) (10 : Int32) σ24) fun σ30 => bo (xgr SX 9 6 r1 σ30) fun v32 => bo (xgr SX 9 6 (some a0) σ30) fun v34 => bo (xcp SX v32 (0 : Int32) v34 (0 : Int32) (10 : Int32) σ30) fun σ36 => bo (xgr SX 9 7 r1 σ36) fun v38 => bo (xgr SX 9 7 (some a0) σ36) fun v40 => bo (xcp SX v38 (0 : Int32) v40 (0 : Int32) (10 : Int32) σ36) fun σ42 => bo (xgr SX 9 8 r1 σ42) fun v44 => bo (xgr SX 9 8 (some a0) σ42) fun v46 => bo (xcp SX v44 (0 : Int32) v46 (0 : Int32) (6 : Int32) σ42) fun σ48 => bo (xgr SX 9 9 r1 σ48) fun v50 => bo (xgr SX 9 9 (some a0) σ48) fun v52 => bo (xcp SX v50 (0 : Int32) v52 (0 : Int32) (6 : Int32) σ48) fun σ54 => some ((), σ54)
theorem t_X9_copyFrom {M : Mx} {l0 : Launch} (O : Ok M cX9_copyFrom yX9_copyFrom) (R0 : Rm M l0 2 80 0 0) (N : Ma M = false) (hn : Mn M = 2) (a0 : Nat) (r1 : Option Nat) (σ : Dt) (o : (Unit × Dt)) (h : f_X9_copyFrom a0 r1 σ = some o) (K : Fin' M (none) 0 0 SX o.2 (none)) : G M 0 0 0 [(0, vA (some a0)), (1, vA r1)] [] SX σ := by
  unfold f_X9_copyFrom at h
  refine g_aload_n O dX9_copyFrom_0 rfl 1 rfl ?_
  refine g_ifnonnull O dX9_copyFrom_1 rfl (fun c1 => ?_) (fun c1 => ?_)
  · replace h := (if_neg c1).symm.trans h
    refine g_aload_n O dX9_copyFrom_5 rfl 0 rfl ?_
    refine g_aload_n O dX9_copyFrom_6 rfl 1 rfl ?_
    obtain ⟨v2, e3, h⟩ := bo_some h
    refine g_getI O dX9_copyFrom_7 fl_X9_33 rfl e3 ?_
    obtain ⟨σ4, e5, h⟩ := bo_some h
    refine g_putI O dX9_copyFrom_10 fl_X9_33 (Or.inl rfl) rfl e5 ?_
    refine g_aload_n O dX9_copyFrom_13 rfl 0 rfl ?_
    refine g_aload_n O dX9_copyFrom_14 rfl 1 rfl ?_
    obtain ⟨v6, e7, h⟩ := bo_some h
    refine g_getI O dX9_copyFrom_15 fl_X9_37 rfl e7 ?_
    obtain ⟨σ8, e9, h⟩ := bo_some h
    refine g_putI O dX9_copyFrom_18 fl_X9_37 (Or.inl rfl) rfl e9 ?_
    refine g_aload_n O dX9_copyFrom_21 rfl 0 rfl ?_
    refine g_aload_n O dX9_copyFrom_22 rfl 1 rfl ?_
    obtain ⟨v10, e11, h⟩ := bo_some h
    refine g_getI O dX9_copyFrom_23 fl_X9_40 rfl e11 ?_
    obtain ⟨σ12, e13, h⟩ := bo_some h
    refine g_putI O dX9_copyFrom_26 fl_X9_40 (Or.inl rfl) rfl e13 ?_
    refine g_aload_n O dX9_copyFrom_29 rfl 1 rfl ?_
    obtain ⟨v14, e15, h⟩ := bo_some h
    refine g_getR O dX9_copyFrom_30 fl_X9_9 rfl e15 ?_
    refine g_iconst (v := (0 : Int32)) O dX9_copyFrom_33 rfl ?_
    refine g_aload_n O dX9_copyFrom_34 rfl 0 rfl ?_
    obtain ⟨v16, e17, h⟩ := bo_some h
    refine g_getR O dX9_copyFrom_35 fl_X9_9 rfl e17 ?_
    refine g_iconst (v := (0 : Int32)) O dX9_copyFrom_38 rfl ?_
    refine g_bipush (v := (10 : Int32)) O dX9_copyFrom_39 rfl ?_
    obtain ⟨σ18, e19, h⟩ := bo_some h
    refine g_copy O R0 N dX9_copyFrom_41 w848 wcopy ⟨Nat.le_of_ble_eq_true rfl, Nat.le_of_ble_eq_true rfl⟩ e19 ?_
    refine g_aload_n O dX9_copyFrom_44 rfl 1 rfl ?_
    obtain ⟨v20, e21, h⟩ := bo_some h
    refine g_getR O dX9_copyFrom_45 fl_X9_15 rfl e21 ?_
    refine g_iconst (v := (0 : Int32)) O dX9_copyFrom_48 rfl ?_
    refine g_aload_n O dX9_copyFrom_49 rfl 0 rfl ?_
    obtain ⟨v22, e23, h⟩ := bo_some h
    refine g_getR O dX9_copyFrom_50 fl_X9_15 rfl e23 ?_
    refine g_iconst (v := (0 : Int32)) O dX9_copyFrom_53 rfl ?_
    refine g_bipush (v := (10 : Int32)) O dX9_copyFrom_54 rfl ?_
    obtain ⟨σ24, e25, h⟩ := bo_some h
    refine g_copy O R0 N dX9_copyFrom_56 w848 wcopy ⟨Nat.le_of_ble_eq_true rfl, Nat.le_of_ble_eq_true rfl⟩ e25 ?_
    refine g_aload_n O dX9_copyFrom_59 rfl 1 rfl ?_
    obtain ⟨v26, e27, h⟩ := bo_some h
    refine g_getR O dX9_copyFrom_60 fl_X9_18 rfl e27 ?_
    refine g_iconst (v := (0 : Int32)) O dX9_copyFrom_63 rfl ?_
    refine g_aload_n O dX9_copyFrom_64 rfl 0 rfl ?_
    obtain ⟨v28, e29, h⟩ := bo_some h
    refine g_getR O dX9_copyFrom_65 fl_X9_18 rfl e29 ?_
    refine g_iconst (v := (0 : Int32)) O dX9_copyFrom_68 rfl ?_
    refine g_bipush (v := (10 : Int32)) O dX9_copyFrom_69 rfl ?_
    obtain ⟨σ30, e31, h⟩ := bo_some h
    refine g_copy O R0 N dX9_copyFrom_71 w848 wcopy ⟨Nat.le_of_ble_eq_true rfl, Nat.le_of_ble_eq_true rfl⟩ e31 ?_
    refine g_aload_n O dX9_copyFrom_74 rfl 1 rfl ?_
    obtain ⟨v32, e33, h⟩ := bo_some h
    refine g_getR O dX9_copyFrom_75 fl_X9_21 rfl e33 ?_
    refine g_iconst (v := (0 : Int32)) O dX9_copyFrom_78 rfl ?_
    refine g_aload_n O dX9_copyFrom_79 rfl 0 rfl ?_
    obtain ⟨v34, e35, h⟩ := bo_some h
    refine g_getR O dX9_copyFrom_80 fl_X9_21 rfl e35 ?_
    refine g_iconst (v := (0 : Int32)) O dX9_copyFrom_83 rfl ?_
    refine g_bipush (v := (10 : Int32)) O dX9_copyFrom_84 rfl ?_
    obtain ⟨σ36, e37, h⟩ := bo_some h
    refine g_copy O R0 N dX9_copyFrom_86 w848 wcopy ⟨Nat.le_of_ble_eq_true rfl, Nat.le_of_ble_eq_true rfl⟩ e37 ?_
    refine g_aload_n O dX9_copyFrom_89 rfl 1 rfl ?_
    obtain ⟨v38, e39, h⟩ := bo_some h
    refine g_getR O dX9_copyFrom_90 fl_X9_24 rfl e39 ?_
    refine g_iconst (v := (0 : Int32)) O dX9_copyFrom_93 rfl ?_
    refine g_aload_n O dX9_copyFrom_94 rfl 0 rfl ?_
    obtain ⟨v40, e41, h⟩ := bo_some h
    refine g_getR O dX9_copyFrom_95 fl_X9_24 rfl e41 ?_
    refine g_iconst (v := (0 : Int32)) O dX9_copyFrom_98 rfl ?_
    refine g_bipush (v := (10 : Int32)) O dX9_copyFrom_99 rfl ?_
    obtain ⟨σ42, e43, h⟩ := bo_some h
    refine g_copy O R0 N dX9_copyFrom_101 w848 wcopy ⟨Nat.le_of_ble_eq_true rfl, Nat.le_of_ble_eq_true rfl⟩ e43 ?_
    refine g_aload_n O dX9_copyFrom_104 rfl 1 rfl ?_
    obtain ⟨v44, e45, h⟩ := bo_some h
    refine g_getR O dX9_copyFrom_105 fl_X9_27 rfl e45 ?_
    refine g_iconst (v := (0 : Int32)) O dX9_copyFrom_108 rfl ?_
    refine g_aload_n O dX9_copyFrom_109 rfl 0 rfl ?_
    obtain ⟨v46, e47, h⟩ := bo_some h
    refine g_getR O dX9_copyFrom_110 fl_X9_27 rfl e47 ?_
    refine g_iconst (v := (0 : Int32)) O dX9_copyFrom_113 rfl ?_
    refine g_bipush (v := (6 : Int32)) O dX9_copyFrom_114 rfl ?_
    obtain ⟨σ48, e49, h⟩ := bo_some h
    refine g_copy O R0 N dX9_copyFrom_116 w848 wcopy ⟨Nat.le_of_ble_eq_true rfl, Nat.le_of_ble_eq_true rfl⟩ e49 ?_
    refine g_aload_n O dX9_copyFrom_119 rfl 1 rfl ?_
    obtain ⟨v50, e51, h⟩ := bo_some h
    refine g_getR O dX9_copyFrom_120 fl_X9_30 rfl e51 ?_
    refine g_iconst (v := (0 : Int32)) O dX9_copyFrom_123 rfl ?_
    refine g_aload_n O dX9_copyFrom_124 rfl 0 rfl ?_
    obtain ⟨v52, e53, h⟩ := bo_some h
    refine g_getR O dX9_copyFrom_125 fl_X9_30 rfl e53 ?_
    refine g_iconst (v := (0 : Int32)) O dX9_copyFrom_128 rfl ?_
    refine g_bipush (v := (6 : Int32)) O dX9_copyFrom_129 rfl ?_
    obtain ⟨σ54, e55, h⟩ := bo_some h
    refine g_copy O R0 N dX9_copyFrom_131 w848 wcopy ⟨Nat.le_of_ble_eq_true rfl, Nat.le_of_ble_eq_true rfl⟩ e55 ?_
    cases h
    exact g_return O K dX9_copyFrom_134
  · replace h := (if_pos c1).symm.trans h
    cases h
    exact g_return O K dX9_copyFrom_4
theorem c_X9_copyFrom (l0 : Launch) (a0 : Nat) (r1 : Option Nat) (σ : Dt) (r : Unit) (σ' : Dt) (h : f_X9_copyFrom a0 r1 σ = some (r, σ')) : Ctr l0 yX9_copyFrom cX9_copyFrom 2 (none) false 2 80 0 0 [vA (some a0), vA r1] SX σ SX σ' (none) := ctr_of (by decide) (Nat.le_of_ble_eq_true rfl) (fun M O F R0 N hn => t_X9_copyFrom O R0 N hn a0 r1 σ (r, σ') h F)
def f_X4_copyFrom (a0 : Nat) (r1 : Option Nat) (σ : Dt) : Option (Unit × Dt) := if r1 = none then some ((), σ) else bo (xgi SX 4 0 r1 σ) fun v2 => bo (xpi SX 4 0 (some a0) v2 σ) fun σ4 => bo (xgr SX 4 1 r1 σ4) fun v6 => bo (xgr SX 4 1 (some a0) σ4) fun v8 => bo (xcp SX v6 (0 : Int32) v8 (0 : Int32) (40 : Int32) σ4) fun σ10 => bo (xgr SX 4 2 r1 σ10) fun v12 => bo (xgr SX 4 2 (some a0) σ10) fun v14 => bo (xcp SX v12 (0 : Int32) v14 (0 : Int32) (40 : Int32) σ10) fun σ16 => bo (xgr SX 4 3 r1 σ16) fun v18 => bo (xgr SX 4 3 (some a0) σ16) fun v20 => bo (xcp SX v18 (0 : Int32) v20 (0 : Int32) (40 : Int32) σ16) fun σ22 => bo (xgr SX 4 4 r1 σ22) fun v24 => bo (xgr SX 4 4 (some a0) σ22) fun v26 => bo (xcp SX v24 (0 : Int32) v26 (0 : Int32) (40 : Int32) σ22) fun σ28 => some ((), σ28)
theorem t_X4_copyFrom {M : Mx} {l0 : Launch} (O : Ok M cX4_copyFrom yX4_copyFrom) (R0 : Rm M l0 2 80 0 0) (N : Ma M = false) (hn : Mn M = 2) (a0 : Nat) (r1 : Option Nat) (σ : Dt) (o : (Unit × Dt)) (h : f_X4_copyFrom a0 r1 σ = some o) (K : Fin' M (none) 0 0 SX o.2 (none)) : G M 0 0 0 [(0, vA (some a0)), (1, vA r1)] [] SX σ := by
  unfold f_X4_copyFrom at h
  refine g_aload_n O dX4_copyFrom_0 rfl 1 rfl ?_
  refine g_ifnonnull O dX4_copyFrom_1 rfl (fun c1 => ?_) (fun c1 => ?_)
  · replace h := (if_neg c1).symm.trans h
    refine g_aload_n O dX4_copyFrom_5 rfl 0 rfl ?_
    refine g_aload_n O dX4_copyFrom_6 rfl 1 rfl ?_
    obtain ⟨v2, e3, h⟩ := bo_some h
    refine g_getI O dX4_copyFrom_7 fl_X4_24 rfl e3 ?_
    obtain ⟨σ4, e5, h⟩ := bo_some h
    refine g_putI O dX4_copyFrom_10 fl_X4_24 (Or.inl rfl) rfl e5 ?_
    refine g_aload_n O dX4_copyFrom_13 rfl 1 rfl ?_
    obtain ⟨v6, e7, h⟩ := bo_some h
    refine g_getR O dX4_copyFrom_14 fl_X4_9 rfl e7 ?_
    refine g_iconst (v := (0 : Int32)) O dX4_copyFrom_17 rfl ?_
    refine g_aload_n O dX4_copyFrom_18 rfl 0 rfl ?_
    obtain ⟨v8, e9, h⟩ := bo_some h
    refine g_getR O dX4_copyFrom_19 fl_X4_9 rfl e9 ?_
    refine g_iconst (v := (0 : Int32)) O dX4_copyFrom_22 rfl ?_
    refine g_bipush (v := (40 : Int32)) O dX4_copyFrom_23 rfl ?_
    obtain ⟨σ10, e11, h⟩ := bo_some h
    refine g_copy O R0 N dX4_copyFrom_25 w855 wcopy ⟨Nat.le_of_ble_eq_true rfl, Nat.le_of_ble_eq_true rfl⟩ e11 ?_
    refine g_aload_n O dX4_copyFrom_28 rfl 1 rfl ?_
    obtain ⟨v12, e13, h⟩ := bo_some h
    refine g_getR O dX4_copyFrom_29 fl_X4_15 rfl e13 ?_
    refine g_iconst (v := (0 : Int32)) O dX4_copyFrom_32 rfl ?_
    refine g_aload_n O dX4_copyFrom_33 rfl 0 rfl ?_
    obtain ⟨v14, e15, h⟩ := bo_some h
    refine g_getR O dX4_copyFrom_34 fl_X4_15 rfl e15 ?_
    refine g_iconst (v := (0 : Int32)) O dX4_copyFrom_37 rfl ?_
    refine g_bipush (v := (40 : Int32)) O dX4_copyFrom_38 rfl ?_
    obtain ⟨σ16, e17, h⟩ := bo_some h
    refine g_copy O R0 N dX4_copyFrom_40 w855 wcopy ⟨Nat.le_of_ble_eq_true rfl, Nat.le_of_ble_eq_true rfl⟩ e17 ?_
    refine g_aload_n O dX4_copyFrom_43 rfl 1 rfl ?_
    obtain ⟨v18, e19, h⟩ := bo_some h
    refine g_getR O dX4_copyFrom_44 fl_X4_18 rfl e19 ?_
    refine g_iconst (v := (0 : Int32)) O dX4_copyFrom_47 rfl ?_
    refine g_aload_n O dX4_copyFrom_48 rfl 0 rfl ?_
    obtain ⟨v20, e21, h⟩ := bo_some h
    refine g_getR O dX4_copyFrom_49 fl_X4_18 rfl e21 ?_
    refine g_iconst (v := (0 : Int32)) O dX4_copyFrom_52 rfl ?_
    refine g_bipush (v := (40 : Int32)) O dX4_copyFrom_53 rfl ?_
    obtain ⟨σ22, e23, h⟩ := bo_some h
    refine g_copy O R0 N dX4_copyFrom_55 w855 wcopy ⟨Nat.le_of_ble_eq_true rfl, Nat.le_of_ble_eq_true rfl⟩ e23 ?_
    refine g_aload_n O dX4_copyFrom_58 rfl 1 rfl ?_
    obtain ⟨v24, e25, h⟩ := bo_some h
    refine g_getR O dX4_copyFrom_59 fl_X4_21 rfl e25 ?_
    refine g_iconst (v := (0 : Int32)) O dX4_copyFrom_62 rfl ?_
    refine g_aload_n O dX4_copyFrom_63 rfl 0 rfl ?_
    obtain ⟨v26, e27, h⟩ := bo_some h
    refine g_getR O dX4_copyFrom_64 fl_X4_21 rfl e27 ?_
    refine g_iconst (v := (0 : Int32)) O dX4_copyFrom_67 rfl ?_
    refine g_bipush (v := (40 : Int32)) O dX4_copyFrom_68 rfl ?_
    obtain ⟨σ28, e29, h⟩ := bo_some h
    refine g_copy O R0 N dX4_copyFrom_70 w855 wcopy ⟨Nat.le_of_ble_eq_true rfl, Nat.le_of_ble_eq_true rfl⟩ e29 ?_
    cases h
    exact g_return O K dX4_copyFrom_73
  · replace h := (if_pos c1).symm.trans h
    cases h
    exact g_return O K dX4_copyFrom_4
theorem c_X4_copyFrom (l0 : Launch) (a0 : Nat) (r1 : Option Nat) (σ : Dt) (r : Unit) (σ' : Dt) (h : f_X4_copyFrom a0 r1 σ = some (r, σ')) : Ctr l0 yX4_copyFrom cX4_copyFrom 2 (none) false 2 80 0 0 [vA (some a0), vA r1] SX σ SX σ' (none) := ctr_of (by decide) (Nat.le_of_ble_eq_true rfl) (fun M O F R0 N hn => t_X4_copyFrom O R0 N hn a0 r1 σ (r, σ') h F)
def f_X6_copyFrom (a0 : Nat) (r1 : Option Nat) (σ : Dt) : Option (Unit × Dt) := if r1 = none then some ((), σ) else bo (xgi SX 6 0 r1 σ) fun v2 => bo (xpi SX 6 0 (some a0) v2 σ) fun σ4 => bo (xgi SX 6 1 r1 σ4) fun v6 => bo (xpi SX 6 1 (some a0) v6 σ4) fun σ8 => bo (xgr SX 6 2 r1 σ8) fun v10 => bo (xgr SX 6 2 (some a0) σ8) fun v12 => bo (xcp SX v10 (0 : Int32) v12 (0 : Int32) (8 : Int32) σ8) fun σ14 => bo (xgr SX 6 3 r1 σ14) fun v16 => bo (xgr SX 6 3 (some a0) σ14) fun v18 => bo (xcp SX v16 (0 : Int32) v18 (0 : Int32) (8 : Int32) σ14) fun σ20 => some ((), σ20)
theorem t_X6_copyFrom {M : Mx} {l0 : Launch} (O : Ok M cX6_copyFrom yX6_copyFrom) (R0 : Rm M l0 2 80 0 0) (N : Ma M = false) (hn : Mn M = 2) (a0 : Nat) (r1 : Option Nat) (σ : Dt) (o : (Unit × Dt)) (h : f_X6_copyFrom a0 r1 σ = some o) (K : Fin' M (none) 0 0 SX o.2 (none)) : G M 0 0 0 [(0, vA (some a0)), (1, vA r1)] [] SX σ := by
  unfold f_X6_copyFrom at h
  refine g_aload_n O dX6_copyFrom_0 rfl 1 rfl ?_
  refine g_ifnonnull O dX6_copyFrom_1 rfl (fun c1 => ?_) (fun c1 => ?_)
  · replace h := (if_neg c1).symm.trans h
    refine g_aload_n O dX6_copyFrom_5 rfl 0 rfl ?_
    refine g_aload_n O dX6_copyFrom_6 rfl 1 rfl ?_
    obtain ⟨v2, e3, h⟩ := bo_some h
    refine g_getI O dX6_copyFrom_7 fl_X6_18 rfl e3 ?_
    obtain ⟨σ4, e5, h⟩ := bo_some h
    refine g_putI O dX6_copyFrom_10 fl_X6_18 (Or.inl rfl) rfl e5 ?_
    refine g_aload_n O dX6_copyFrom_13 rfl 0 rfl ?_
    refine g_aload_n O dX6_copyFrom_14 rfl 1 rfl ?_
    obtain ⟨v6, e7, h⟩ := bo_some h
    refine g_getI O dX6_copyFrom_15 fl_X6_22 rfl e7 ?_
    obtain ⟨σ8, e9, h⟩ := bo_some h
    refine g_putI O dX6_copyFrom_18 fl_X6_22 (Or.inl rfl) rfl e9 ?_
    refine g_aload_n O dX6_copyFrom_21 rfl 1 rfl ?_
    obtain ⟨v10, e11, h⟩ := bo_some h
    refine g_getR O dX6_copyFrom_22 fl_X6_9 rfl e11 ?_
    refine g_iconst (v := (0 : Int32)) O dX6_copyFrom_25 rfl ?_
    refine g_aload_n O dX6_copyFrom_26 rfl 0 rfl ?_
    obtain ⟨v12, e13, h⟩ := bo_some h
    refine g_getR O dX6_copyFrom_27 fl_X6_9 rfl e13 ?_
    refine g_iconst (v := (0 : Int32)) O dX6_copyFrom_30 rfl ?_
    refine g_bipush (v := (8 : Int32)) O dX6_copyFrom_31 rfl ?_
    obtain ⟨σ14, e15, h⟩ := bo_some h
    refine g_copy O R0 N dX6_copyFrom_33 w860 wcopy ⟨Nat.le_of_ble_eq_true rfl, Nat.le_of_ble_eq_true rfl⟩ e15 ?_
    refine g_aload_n O dX6_copyFrom_36 rfl 1 rfl ?_
    obtain ⟨v16, e17, h⟩ := bo_some h
    refine g_getR O dX6_copyFrom_37 fl_X6_15 rfl e17 ?_
    refine g_iconst (v := (0 : Int32)) O dX6_copyFrom_40 rfl ?_
    refine g_aload_n O dX6_copyFrom_41 rfl 0 rfl ?_
    obtain ⟨v18, e19, h⟩ := bo_some h
    refine g_getR O dX6_copyFrom_42 fl_X6_15 rfl e19 ?_
    refine g_iconst (v := (0 : Int32)) O dX6_copyFrom_45 rfl ?_
    refine g_bipush (v := (8 : Int32)) O dX6_copyFrom_46 rfl ?_
    obtain ⟨σ20, e21, h⟩ := bo_some h
    refine g_copy O R0 N dX6_copyFrom_48 w860 wcopy ⟨Nat.le_of_ble_eq_true rfl, Nat.le_of_ble_eq_true rfl⟩ e21 ?_
    cases h
    exact g_return O K dX6_copyFrom_51
  · replace h := (if_pos c1).symm.trans h
    cases h
    exact g_return O K dX6_copyFrom_4
theorem c_X6_copyFrom (l0 : Launch) (a0 : Nat) (r1 : Option Nat) (σ : Dt) (r : Unit) (σ' : Dt) (h : f_X6_copyFrom a0 r1 σ = some (r, σ')) : Ctr l0 yX6_copyFrom cX6_copyFrom 2 (none) false 2 80 0 0 [vA (some a0), vA r1] SX σ SX σ' (none) := ctr_of (by decide) (Nat.le_of_ble_eq_true rfl) (fun M O F R0 N hn => t_X6_copyFrom O R0 N hn a0 r1 σ (r, σ') h F)
