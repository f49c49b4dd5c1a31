def f_X10_lookAtOne (a0 : Nat) (x1 : Int32) (σ : Dt) : Option Int32 := bo (xrc SX 10 (some a0)) fun a1 => bo (f_X10_hasFolk a1 (x1 - (10 : Int32)) σ) fun v3 => if v3 = 0 then bo (xrc SX 10 (some a0)) fun a6 => bo (f_X10_hasFolk a6 (x1 - (20 : Int32)) σ) fun v8 => if v8 = 0 then bo (xrc SX 10 (some a0)) fun a11 => bo (f_X10_hasWork a11 (x1 - (30 : Int32)) σ) fun v13 => if v13 = 0 then bo (xrc SX 10 (some a0)) fun a16 => bo (f_X10_hasPromise a16 (x1 - (40 : Int32)) σ) fun v18 => if v18 = 0 then bo (xrc SX 10 (some a0)) fun a21 => bo (f_X10_hasPromise a21 (x1 - (60 : Int32)) σ) fun v23 => if v23 = 0 then some (-2 : Int32) else bo (xgr SX 10 18 (some a0) σ) fun v26 => bo (xai SX v26 (x1 - (60 : Int32)) σ) fun v28 => some v28 else bo (xgr SX 10 19 (some a0) σ) fun v30 => bo (xai SX v30 (x1 - (40 : Int32)) σ) fun v32 => some v32 else bo (xgr SX 10 15 (some a0) σ) fun v34 => bo (xai SX v34 (x1 - (30 : Int32)) σ) fun v36 => some v36 else bo (xrc SX 10 (some a0)) fun a38 => bo (f_X10_owedBy a38 (x1 - (20 : Int32)) σ) fun v40 => some v40 else bo (xgr SX 10 9 (some a0) σ) fun v42 => bo (xai SX v42 (x1 - (10 : Int32)) σ) fun v44 => some v44
theorem t_X10_lookAtOne {M : Mx} {l0 : Launch} (O : Ok M cX10_lookAtOne yX10_lookAtOne) (R0 : Rm M l0 5 145 0 0) (N : Ma M = false) (hn : Mn M = 2) (a0 : Nat) (x1 : Int32) (σ : Dt) (o : Int32) (h : f_X10_lookAtOne a0 x1 σ = some o) (K : Fin' M (some .int) 0 0 SX σ (some (vI o))) : G M 0 0 0 [(0, vA (some a0)), (1, vI x1)] [] SX σ := by
  unfold f_X10_lookAtOne at h
  refine g_aload_n O dX10_lookAtOne_0 rfl 0 rfl ?_
  refine g_iload_n O dX10_lookAtOne_1 rfl 1 rfl ?_
  refine g_bipush (v := (10 : Int32)) O dX10_lookAtOne_2 rfl ?_
  refine g_isub O dX10_lookAtOne_4 ?_
  obtain ⟨a1, e2, h⟩ := bo_some h
  obtain ⟨v3, e4, h⟩ := bo_some h
  refine g_cV1 O R0 N dX10_lookAtOne_5 vl_X10_153 vv_X10_hasFolk e2 [vI (x1 - (10 : Int32))] rfl rfl rfl ⟨Nat.le_of_ble_eq_true rfl, Nat.le_of_ble_eq_true rfl⟩ (c_X10_hasFolk l0 a1 (x1 - (10 : Int32)) σ v3 e4) ?_
  refine g_if_eq O dX10_lookAtOne_8 rfl (fun c5 => ?_) (fun c5 => ?_)
  · replace h := (if_pos c5).symm.trans h
    refine g_aload_n O dX10_lookAtOne_21 rfl 0 rfl ?_
    refine g_iload_n O dX10_lookAtOne_22 rfl 1 rfl ?_
    refine g_bipush (v := (20 : Int32)) O dX10_lookAtOne_23 rfl ?_
    refine g_isub O dX10_lookAtOne_25 ?_
    obtain ⟨a6, e7, h⟩ := bo_some h
    obtain ⟨v8, e9, h⟩ := bo_some h
    refine g_cV1 O R0 N dX10_lookAtOne_26 vl_X10_153 vv_X10_hasFolk e7 [vI (x1 - (20 : Int32))] rfl rfl rfl ⟨Nat.le_of_ble_eq_true rfl, Nat.le_of_ble_eq_true rfl⟩ (c_X10_hasFolk l0 a6 (x1 - (20 : Int32)) σ v8 e9) ?_
    refine g_if_eq O dX10_lookAtOne_29 rfl (fun c10 => ?_) (fun c10 => ?_)
    · replace h := (if_pos c10).symm.trans h
      refine g_aload_n O dX10_lookAtOne_41 rfl 0 rfl ?_
      refine g_iload_n O dX10_lookAtOne_42 rfl 1 rfl ?_
      refine g_bipush (v := (30 : Int32)) O dX10_lookAtOne_43 rfl ?_
      refine g_isub O dX10_lookAtOne_45 ?_
      obtain ⟨a11, e12, h⟩ := bo_some h
      obtain ⟨v13, e14, h⟩ := bo_some h
      refine g_cV1 O R0 N dX10_lookAtOne_46 vl_X10_156 vv_X10_hasWork e12 [vI (x1 - (30 : Int32))] rfl rfl rfl ⟨Nat.le_of_ble_eq_true rfl, Nat.le_of_ble_eq_true rfl⟩ (c_X10_hasWork l0 a11 (x1 - (30 : Int32)) σ v13 e14) ?_
      refine g_if_eq O dX10_lookAtOne_49 rfl (fun c15 => ?_) (fun c15 => ?_)
      · replace h := (if_pos c15).symm.trans h
        refine g_aload_n O dX10_lookAtOne_62 rfl 0 rfl ?_
        refine g_iload_n O dX10_lookAtOne_63 rfl 1 rfl ?_
        refine g_bipush (v := (40 : Int32)) O dX10_lookAtOne_64 rfl ?_
        refine g_isub O dX10_lookAtOne_66 ?_
        obtain ⟨a16, e17, h⟩ := bo_some h
        obtain ⟨v18, e19, h⟩ := bo_some h
        refine g_cV1 O R0 N dX10_lookAtOne_67 vl_X10_168 vv_X10_hasPromise e17 [vI (x1 - (40 : Int32))] rfl rfl rfl ⟨Nat.le_of_ble_eq_true rfl, Nat.le_of_ble_eq_true rfl⟩ (c_X10_hasPromise l0 a16 (x1 - (40 : Int32)) σ v18 e19) ?_
        refine g_if_eq O dX10_lookAtOne_70 rfl (fun c20 => ?_) (fun c20 => ?_)
        · replace h := (if_pos c20).symm.trans h
          refine g_aload_n O dX10_lookAtOne_83 rfl 0 rfl ?_
          refine g_iload_n O dX10_lookAtOne_84 rfl 1 rfl ?_
          refine g_bipush (v := (60 : Int32)) O dX10_lookAtOne_85 rfl ?_
          refine g_isub O dX10_lookAtOne_87 ?_
          obtain ⟨a21, e22, h⟩ := bo_some h
          obtain ⟨v23, e24, h⟩ := bo_some h
          refine g_cV1 O R0 N dX10_lookAtOne_88 vl_X10_168 vv_X10_hasPromise e22 [vI (x1 - (60 : Int32))] rfl rfl rfl ⟨Nat.le_of_ble_eq_true rfl, Nat.le_of_ble_eq_true rfl⟩ (c_X10_hasPromise l0 a21 (x1 - (60 : Int32)) σ v23 e24) ?_
          refine g_if_eq O dX10_lookAtOne_91 rfl (fun c25 => ?_) (fun c25 => ?_)
          · replace h := (if_pos c25).symm.trans h
            refine g_bipush (v := (-2 : Int32)) O dX10_lookAtOne_106 rfl ?_
            cases h
            exact g_ireturn O K dX10_lookAtOne_108
          · replace h := (if_neg c25).symm.trans h
            refine g_aload_n O dX10_lookAtOne_94 rfl 0 rfl ?_
            obtain ⟨v26, e27, h⟩ := bo_some h
            refine g_getR O dX10_lookAtOne_95 fl_X10_39 rfl e27 ?_
            refine g_iload_n O dX10_lookAtOne_98 rfl 1 rfl ?_
            refine g_bipush (v := (60 : Int32)) O dX10_lookAtOne_99 rfl ?_
            refine g_isub O dX10_lookAtOne_101 ?_
            obtain ⟨v28, e29, h⟩ := bo_some h
            refine g_iaload O dX10_lookAtOne_102 e29 ?_
            refine g_goto O dX10_lookAtOne_103 rfl ?_
            cases h
            exact g_ireturn O K dX10_lookAtOne_108
        · replace h := (if_neg c20).symm.trans h
          refine g_aload_n O dX10_lookAtOne_73 rfl 0 rfl ?_
          obtain ⟨v30, e31, h⟩ := bo_some h
          refine g_getR O dX10_lookAtOne_74 fl_X10_42 rfl e31 ?_
          refine g_iload_n O dX10_lookAtOne_77 rfl 1 rfl ?_
          refine g_bipush (v := (40 : Int32)) O dX10_lookAtOne_78 rfl ?_
          refine g_isub O dX10_lookAtOne_80 ?_
          obtain ⟨v32, e33, h⟩ := bo_some h
          refine g_iaload O dX10_lookAtOne_81 e33 ?_
          cases h
          exact g_ireturn O K dX10_lookAtOne_82
      · replace h := (if_neg c15).symm.trans h
        refine g_aload_n O dX10_lookAtOne_52 rfl 0 rfl ?_
        obtain ⟨v34, e35, h⟩ := bo_some h
        refine g_getR O dX10_lookAtOne_53 fl_X10_30 rfl e35 ?_
        refine g_iload_n O dX10_lookAtOne_56 rfl 1 rfl ?_
        refine g_bipush (v := (30 : Int32)) O dX10_lookAtOne_57 rfl ?_
        refine g_isub O dX10_lookAtOne_59 ?_
        obtain ⟨v36, e37, h⟩ := bo_some h
        refine g_iaload O dX10_lookAtOne_60 e37 ?_
        cases h
        exact g_ireturn O K dX10_lookAtOne_61
    · replace h := (if_neg c10).symm.trans h
      refine g_aload_n O dX10_lookAtOne_32 rfl 0 rfl ?_
      refine g_iload_n O dX10_lookAtOne_33 rfl 1 rfl ?_
      refine g_bipush (v := (20 : Int32)) O dX10_lookAtOne_34 rfl ?_
      refine g_isub O dX10_lookAtOne_36 ?_
      obtain ⟨a38, e39, h⟩ := bo_some h
      obtain ⟨v40, e41, h⟩ := bo_some h
      refine g_cV1 O R0 N dX10_lookAtOne_37 vl_X10_188 vv_X10_owedBy e39 [vI (x1 - (20 : Int32))] rfl rfl rfl ⟨Nat.le_of_ble_eq_true rfl, Nat.le_of_ble_eq_true rfl⟩ (c_X10_owedBy l0 a38 (x1 - (20 : Int32)) σ v40 e41) ?_
      cases h
      exact g_ireturn O K dX10_lookAtOne_40
  · replace h := (if_neg c5).symm.trans h
    refine g_aload_n O dX10_lookAtOne_11 rfl 0 rfl ?_
    obtain ⟨v42, e43, h⟩ := bo_some h
    refine g_getR O dX10_lookAtOne_12 fl_X10_9 rfl e43 ?_
    refine g_iload_n O dX10_lookAtOne_15 rfl 1 rfl ?_
    refine g_bipush (v := (10 : Int32)) O dX10_lookAtOne_16 rfl ?_
    refine g_isub O dX10_lookAtOne_18 ?_
    obtain ⟨v44, e45, h⟩ := bo_some h
    refine g_iaload O dX10_lookAtOne_19 e45 ?_
    cases h
    exact g_ireturn O K dX10_lookAtOne_20
theorem c_X10_lookAtOne (l0 : Launch) (a0 : Nat) (x1 : Int32) (σ : Dt) (r : Int32) (h : f_X10_lookAtOne a0 x1 σ = some r) : Ctr l0 yX10_lookAtOne cX10_lookAtOne 2 (some .int) false 5 145 0 0 [vA (some a0), vI x1] SX σ SX σ (some (vI r)) := ctr_of (by decide) (Nat.le_of_ble_eq_true rfl) (fun M O F R0 N hn => t_X10_lookAtOne O R0 N hn a0 x1 σ r h F)
def f_X10_look (a0 : Nat) (x1 : Int32) (σ : Dt) : Option Int32 := if x1 = (0 : Int32) then bo (xgi SX 10 0 (some a0) σ) fun v2 => some v2 else if x1 = (1 : Int32) then bo (xgi SX 10 1 (some a0) σ) fun v5 => some v5 else if x1 = (2 : Int32) then bo (xgi SX 10 4 (some a0) σ) fun v8 => some v8 else if x1 = (3 : Int32) then bo (xgi SX 10 5 (some a0) σ) fun v11 => some v11 else if x1 = (4 : Int32) then bo (xgi SX 10 6 (some a0) σ) fun v14 => some v14 else if x1 = (5 : Int32) then bo (xrc SX 10 (some a0)) fun a17 => bo (f_X10_doneWorks a17 σ) fun v19 => some v19 else bo (xrc SX 10 (some a0)) fun a21 => bo (f_X10_lookAtOne a21 x1 σ) fun v23 => some v23
theorem t_X10_look {M : Mx} {l0 : Launch} (O : Ok M cX10_look yX10_look) (R0 : Rm M l0 6 166 0 0) (N : Ma M = false) (hn : Mn M = 2) (a0 : Nat) (x1 : Int32) (σ : Dt) (o : Int32) (h : f_X10_look a0 x1 σ = some o) (K : Fin' M (some .int) 0 0 SX σ (some (vI o))) : G M 0 0 0 [(0, vA (some a0)), (1, vI x1)] [] SX σ := by
  unfold f_X10_look at h
  refine g_iload_n O dX10_look_0 rfl 1 rfl ?_
  by_cases c1 : x1 = (0 : Int32)
  · replace h := (if_pos c1).symm.trans h
    refine g_tabIn O dX10_look_1 (by rw [c1]; decide) (by rw [c1]; decide) (by rw [c1]; rfl) rfl ?_
    refine g_aload_n O dX10_look_40 rfl 0 rfl ?_
    obtain ⟨v2, e3, h⟩ := bo_some h
    refine g_getI O dX10_look_41 fl_X10_45 rfl e3 ?_
    cases h
    exact g_ireturn O K dX10_look_44
  replace h := (if_neg c1).symm.trans h
  by_cases c4 : x1 = (1 : Int32)
  · replace h := (if_pos c4).symm.trans h
    refine g_tabIn O dX10_look_1 (by rw [c4]; decide) (by rw [c4]; decide) (by rw [c4]; rfl) rfl ?_
    refine g_aload_n O dX10_look_45 rfl 0 rfl ?_
    obtain ⟨v5, e6, h⟩ := bo_some h
    refine g_getI O dX10_look_46 fl_X10_63 rfl e6 ?_
    cases h
    exact g_ireturn O K dX10_look_49
  replace h := (if_neg c4).symm.trans h
  by_cases c7 : x1 = (2 : Int32)
  · replace h := (if_pos c7).symm.trans h
    refine g_tabIn O dX10_look_1 (by rw [c7]; decide) (by rw [c7]; decide) (by rw [c7]; rfl) rfl ?_
    refine g_aload_n O dX10_look_50 rfl 0 rfl ?_
    obtain ⟨v8, e9, h⟩ := bo_some h
    refine g_getI O dX10_look_51 fl_X10_72 rfl e9 ?_
    cases h
    exact g_ireturn O K dX10_look_54
  replace h := (if_neg c7).symm.trans h
  by_cases c10 : x1 = (3 : Int32)
  · replace h := (if_pos c10).symm.trans h
    refine g_tabIn O dX10_look_1 (by rw [c10]; decide) (by rw [c10]; decide) (by rw [c10]; rfl) rfl ?_
    refine g_aload_n O dX10_look_55 rfl 0 rfl ?_
    obtain ⟨v11, e12, h⟩ := bo_some h
    refine g_getI O dX10_look_56 fl_X10_75 rfl e12 ?_
    cases h
    exact g_ireturn O K dX10_look_59
  replace h := (if_neg c10).symm.trans h
  by_cases c13 : x1 = (4 : Int32)
  · replace h := (if_pos c13).symm.trans h
    refine g_tabIn O dX10_look_1 (by rw [c13]; decide) (by rw [c13]; decide) (by rw [c13]; rfl) rfl ?_
    refine g_aload_n O dX10_look_60 rfl 0 rfl ?_
    obtain ⟨v14, e15, h⟩ := bo_some h
    refine g_getI O dX10_look_61 fl_X10_78 rfl e15 ?_
    cases h
    exact g_ireturn O K dX10_look_64
  replace h := (if_neg c13).symm.trans h
  by_cases c16 : x1 = (5 : Int32)
  · replace h := (if_pos c16).symm.trans h
    refine g_tabIn O dX10_look_1 (by rw [c16]; decide) (by rw [c16]; decide) (by rw [c16]; rfl) rfl ?_
    refine g_aload_n O dX10_look_65 rfl 0 rfl ?_
    obtain ⟨a17, e18, h⟩ := bo_some h
    obtain ⟨v19, e20, h⟩ := bo_some h
    refine g_cV1 O R0 N dX10_look_66 vl_X10_181 vv_X10_doneWorks e18 [] rfl rfl rfl ⟨Nat.le_of_ble_eq_true rfl, Nat.le_of_ble_eq_true rfl⟩ (c_X10_doneWorks l0 a17 σ v19 e20) ?_
    cases h
    exact g_ireturn O K dX10_look_69
  replace h := (if_neg c16).symm.trans h
  refine g_tabOut O dX10_look_1 (tab_out [(0 : Int32), (1 : Int32), (2 : Int32), (3 : Int32), (4 : Int32), (5 : Int32)] (fun z h1 h2 => ?_) (fun c hc => ?_)) rfl ?_
  · have hz : z = 0 ∨ z = 1 ∨ z = 2 ∨ z = 3 ∨ z = 4 ∨ z = 5 := by omega
    rcases hz with rfl | rfl | rfl | rfl | rfl | rfl
    · exact ⟨(0 : Int32), by simp, rfl⟩
    · exact ⟨(1 : Int32), by simp, rfl⟩
    · exact ⟨(2 : Int32), by simp, rfl⟩
    · exact ⟨(3 : Int32), by simp, rfl⟩
    · exact ⟨(4 : Int32), by simp, rfl⟩
    · exact ⟨(5 : Int32), by simp, rfl⟩
  · simp only [List.mem_cons, List.not_mem_nil, or_false] at hc
    rcases hc with rfl | rfl | rfl | rfl | rfl | rfl <;> assumption
  refine g_aload_n O dX10_look_70 rfl 0 rfl ?_
  refine g_iload_n O dX10_look_71 rfl 1 rfl ?_
  obtain ⟨a21, e22, h⟩ := bo_some h
  obtain ⟨v23, e24, h⟩ := bo_some h
  refine g_cV1 O R0 N dX10_look_72 vl_X10_185 vv_X10_lookAtOne e22 [vI x1] rfl rfl rfl ⟨Nat.le_of_ble_eq_true rfl, Nat.le_of_ble_eq_true rfl⟩ (c_X10_lookAtOne l0 a21 x1 σ v23 e24) ?_
  cases h
  exact g_ireturn O K dX10_look_75
theorem c_X10_look (l0 : Launch) (a0 : Nat) (x1 : Int32) (σ : Dt) (r : Int32) (h : f_X10_look a0 x1 σ = some r) : Ctr l0 yX10_look cX10_look 2 (some .int) false 6 166 0 0 [vA (some a0), vI x1] SX σ SX σ (some (vI r)) := ctr_of (by decide) (Nat.le_of_ble_eq_true rfl) (fun M O F R0 N hn => t_X10_look O R0 N hn a0 x1 σ r h F)
def f_X11_state (a0 : Nat) (x1 : Int32) (x2 : Int32) (x3 : Int32) (x4 : Int32) (σ : Dt) : Option (Int32 × Dt) := bo (xgr SX 11 0 (some a0) σ) fun v1 => bo (xrc SX 8 v1) fun a3 => bo (f_X8_valleyAt a3 x1 σ) fun v5 => bo (xgr SX 11 0 (some a0) σ) fun v7 => bo (xrc SX 8 v7) fun a9 => bo (f_X8_lifeAt a9 x2 σ) fun v11 => if v5 = none then some ((-2 : Int32), σ) else if v11 = none then some ((-2 : Int32), σ) else if x3 < 0 then some ((-2 : Int32), σ) else bo (xgi SX 4 0 v11 σ) fun v16 => if x3 ≤ v16 then bo (xgr SX 11 4 (some a0) σ) fun v19 => bo (xrc SX 10 v19) fun a21 => bd (f_X10_live a21 v5 v11 x3 σ) fun v23 σ24 => if x3 ≤ v23 then bo (xgr SX 11 4 (some a0) σ24) fun v27 => bo (xrc SX 10 v27) fun a29 => bo (f_X10_look a29 x4 σ24) fun v31 => some (v31, σ24) else some ((-2 : Int32), σ24) else some ((-2 : Int32), σ)
theorem t_X11_state {M : Mx} {l0 : Launch} (O : Ok M cX11_state yX11_state) (R0 : Rm M l0 7 197 0 0) (N : Ma M = false) (hn : Mn M = 7) (a0 : Nat) (x1 : Int32) (x2 : Int32) (x3 : Int32) (x4 : Int32) (σ : Dt) (o : (Int32 × Dt)) (h : f_X11_state a0 x1 x2 x3 x4 σ = some o) (K : Fin' M (some .int) 0 0 SX o.2 (some (vI o.1))) : G M 0 0 0 [(0, vA (some a0)), (1, vI x1), (2, vI x2), (3, vI x3), (4, vI x4)] [] SX σ := by
  unfold f_X11_state at h
  refine g_aload_n O dX11_state_0 rfl 0 rfl ?_
  obtain ⟨v1, e2, h⟩ := bo_some h
  refine g_getR O dX11_state_1 fl_X11_12 rfl e2 ?_
  refine g_iload_n O dX11_state_4 rfl 1 rfl ?_
  obtain ⟨a3, e4, h⟩ := bo_some h
  obtain ⟨v5, e6, h⟩ := bo_some h
  refine g_cV1 O R0 N dX11_state_5 vl_X11_105 vv_X8_valleyAt e4 [vI x1] rfl rfl rfl ⟨Nat.le_of_ble_eq_true rfl, Nat.le_of_ble_eq_true rfl⟩ (c_X8_valleyAt l0 a3 x1 σ v5 e6) ?_
  refine g_astore (lv' := [(5, vA v5), (0, vA (some a0)), (1, vI x1), (2, vI x2), (3, vI x3), (4, vI x4)]) O dX11_state_8 7 hn (by decide) rfl ?_
  refine g_aload_n O dX11_state_10 rfl 1 rfl ?_
  obtain ⟨v7, e8, h⟩ := bo_some h
  refine g_getR O dX11_state_11 fl_X11_12 rfl e8 ?_
  refine g_iload_n O dX11_state_14 rfl 3 rfl ?_
  obtain ⟨a9, e10, h⟩ := bo_some h
  obtain ⟨v11, e12, h⟩ := bo_some h
  refine g_cV1 O R0 N dX11_state_15 vl_X11_114 vv_X8_lifeAt e10 [vI x2] rfl rfl rfl ⟨Nat.le_of_ble_eq_true rfl, Nat.le_of_ble_eq_true rfl⟩ (c_X8_lifeAt l0 a9 x2 σ v11 e12) ?_
  refine g_astore (lv' := [(6, vA v11), (5, vA v5), (0, vA (some a0)), (1, vI x1), (2, vI x2), (3, vI x3), (4, vI x4)]) O dX11_state_18 7 hn (by decide) rfl ?_
  refine g_aload O dX11_state_20 1 rfl ?_
  refine g_ifnull O dX11_state_22 rfl (fun c13 => ?_) (fun c13 => ?_)
  · replace h := (if_pos c13).symm.trans h
    refine g_bipush (v := (-2 : Int32)) O dX11_state_43 rfl ?_
    cases h
    exact g_ireturn O K dX11_state_45
  · replace h := (if_neg c13).symm.trans h
    refine g_aload O dX11_state_25 0 rfl ?_
    refine g_ifnull O dX11_state_27 rfl (fun c14 => ?_) (fun c14 => ?_)
    · replace h := (if_pos c14).symm.trans h
      refine g_bipush (v := (-2 : Int32)) O dX11_state_43 rfl ?_
      cases h
      exact g_ireturn O K dX11_state_45
    · replace h := (if_neg c14).symm.trans h
      refine g_iload_n O dX11_state_30 rfl 5 rfl ?_
      refine g_if_lt O dX11_state_31 rfl (fun c15 => ?_) (fun c15 => ?_)
      · replace h := (if_pos c15).symm.trans h
        refine g_bipush (v := (-2 : Int32)) O dX11_state_43 rfl ?_
        cases h
        exact g_ireturn O K dX11_state_45
      · replace h := (if_neg c15).symm.trans h
        refine g_iload_n O dX11_state_34 rfl 5 rfl ?_
        refine g_aload O dX11_state_35 0 rfl ?_
        obtain ⟨v16, e17, h⟩ := bo_some h
        refine g_getI O dX11_state_37 fl_X11_123 rfl e17 ?_
        refine g_icmp_le O dX11_state_40 rfl (fun c18 => ?_) (fun c18 => ?_)
        · replace h := (if_pos c18).symm.trans h
          refine g_aload_n O dX11_state_46 rfl 2 rfl ?_
          obtain ⟨v19, e20, h⟩ := bo_some h
          refine g_getR O dX11_state_47 fl_X11_34 rfl e20 ?_
          refine g_aload O dX11_state_50 1 rfl ?_
          refine g_aload O dX11_state_52 0 rfl ?_
          refine g_iload_n O dX11_state_54 rfl 5 rfl ?_
          obtain ⟨a21, e22, h⟩ := bo_some h
          obtain ⟨v23, σ24, e25, h⟩ := bd_some h
          refine g_cV1 O R0 N dX11_state_55 vl_X11_126 vv_X10_live e22 [vA v5, vA v11, vI x3] rfl rfl rfl ⟨Nat.le_of_ble_eq_true rfl, Nat.le_of_ble_eq_true rfl⟩ (c_X10_live l0 a21 v5 v11 x3 σ v23 σ24 e25) ?_
          refine g_iload_n O dX11_state_58 rfl 5 rfl ?_
          refine g_icmp_ge O dX11_state_59 rfl (fun c26 => ?_) (fun c26 => ?_)
          · replace h := (if_pos c26).symm.trans h
            refine g_aload_n O dX11_state_65 rfl 2 rfl ?_
            obtain ⟨v27, e28, h⟩ := bo_some h
            refine g_getR O dX11_state_66 fl_X11_34 rfl e28 ?_
            refine g_iload O dX11_state_69 6 rfl ?_
            obtain ⟨a29, e30, h⟩ := bo_some h
            obtain ⟨v31, e32, h⟩ := bo_some h
            refine g_cV1 O R0 N dX11_state_71 vl_X11_130 vv_X10_look e30 [vI x4] rfl rfl rfl ⟨Nat.le_of_ble_eq_true rfl, Nat.le_of_ble_eq_true rfl⟩ (c_X10_look l0 a29 x4 σ24 v31 e32) ?_
            cases h
            exact g_ireturn O K dX11_state_74
          · replace h := (if_neg c26).symm.trans h
            refine g_bipush (v := (-2 : Int32)) O dX11_state_62 rfl ?_
            cases h
            exact g_ireturn O K dX11_state_64
        · replace h := (if_neg c18).symm.trans h
          refine g_bipush (v := (-2 : Int32)) O dX11_state_43 rfl ?_
          cases h
          exact g_ireturn O K dX11_state_45
theorem c_X11_state (l0 : Launch) (a0 : Nat) (x1 : Int32) (x2 : Int32) (x3 : Int32) (x4 : Int32) (σ : Dt) (r : Int32) (σ' : Dt) (h : f_X11_state a0 x1 x2 x3 x4 σ = some (r, σ')) : Ctr l0 yX11_state cX11_state 7 (some .int) false 7 197 0 0 [vA (some a0), vI x1, vI x2, vI x3, vI x4] SX σ SX σ' (some (vI r)) := ctr_of (by decide) (Nat.le_of_ble_eq_true rfl) (fun M O F R0 N hn => t_X11_state O R0 N hn a0 x1 x2 x3 x4 σ (r, σ') h F)
def f_X9_isChild_23  (σ : Dt) : Option Int32 := some (0 : Int32)
theorem t_X9_isChild_23 {M : Mx} {l0 : Launch} (O : Ok M cX9_isChild yX9_isChild) (R0 : Rm M l0 3 101 0 0) (N : Ma M = false) (hn : Mn M = 2)   (σ : Dt) (o : Int32) (h : f_X9_isChild_23 σ = some o) (K : Fin' M (some .boolean) 0 0 SX σ (some (vI o))) : G M 0 0 23 [] [] SX σ := by
  unfold f_X9_isChild_23 at h
  refine g_iconst (v := (0 : Int32)) O dX9_isChild_23 rfl ?_
  cases h
  exact g_zreturn O (by decide) K dX9_isChild_24
def f_X9_isChild (a0 : Nat) (x1 : Int32) (σ : Dt) : Option Int32 := bo (xrc SX 9 (some a0)) fun a1 => bo (f_X9_hasFolk a1 x1 σ) fun v3 => if v3 = 0 then f_X9_isChild_23 σ else bo (xgr SX 9 3 (some a0) σ) fun v6 => bo (xai SX v6 x1 σ) fun v8 => if (10 : Int32) ≤ v8 then f_X9_isChild_23 σ else some (1 : Int32)
theorem t_X9_isChild {M : Mx} {l0 : Launch} (O : Ok M cX9_isChild yX9_isChild) (R0 : Rm M l0 3 101 0 0) (N : Ma M = false) (hn : Mn M = 2) (a0 : Nat) (x1 : Int32) (σ : Dt) (o : Int32) (h : f_X9_isChild a0 x1 σ = some o) (K : Fin' M (some .boolean) 0 0 SX σ (some (vI o))) : G M 0 0 0 [(0, vA (some a0)), (1, vI x1)] [] SX σ := by
  unfold f_X9_isChild at h
  refine g_aload_n O dX9_isChild_0 rfl 0 rfl ?_
  refine g_iload_n O dX9_isChild_1 rfl 1 rfl ?_
  obtain ⟨a1, e2, h⟩ := bo_some h
  obtain ⟨v3, e4, h⟩ := bo_some h
  refine g_cV1 O R0 N dX9_isChild_2 vl_X9_49 vv_X9_hasFolk e2 [vI x1] rfl rfl rfl ⟨Nat.le_of_ble_eq_true rfl, Nat.le_of_ble_eq_true rfl⟩ (c_X9_hasFolk l0 a1 x1 σ v3 e4) ?_
  refine g_if_eq O dX9_isChild_5 rfl (fun c5 => ?_) (fun c5 => ?_)
  · replace h := (if_pos c5).symm.trans h
    refine g_sub [] (lv' := []) rfl ?_
    exact t_X9_isChild_23 O R0 N hn σ o h K
  · replace h := (if_neg c5).symm.trans h
    refine g_aload_n O dX9_isChild_8 rfl 0 rfl ?_
    obtain ⟨v6, e7, h⟩ := bo_some h
    refine g_getR O dX9_isChild_9 fl_X9_9 rfl e7 ?_
    refine g_iload_n O dX9_isChild_12 rfl 1 rfl ?_
    obtain ⟨v8, e9, h⟩ := bo_some h
    refine g_iaload O dX9_isChild_13 e9 ?_
    refine g_bipush (v := (10 : Int32)) O dX9_isChild_14 rfl ?_
    refine g_icmp_ge O dX9_isChild_16 rfl (fun c10 => ?_) (fun c10 => ?_)
    · replace h := (if_pos c10).symm.trans h
      refine g_sub [] (lv' := []) rfl ?_
      exact t_X9_isChild_23 O R0 N hn σ o h K
    · replace h := (if_neg c10).symm.trans h
      refine g_iconst (v := (1 : Int32)) O dX9_isChild_19 rfl ?_
      refine g_goto O dX9_isChild_20 rfl ?_
      cases h
      exact g_zreturn O (by decide) K dX9_isChild_24
theorem c_X9_isChild (l0 : Launch) (a0 : Nat) (x1 : Int32) (σ : Dt) (r : Int32) (h : f_X9_isChild a0 x1 σ = some r) : Ctr l0 yX9_isChild cX9_isChild 2 (some .boolean) false 3 101 0 0 [vA (some a0), vI x1] SX σ SX σ (some (vI r)) := ctr_of (by decide) (Nat.le_of_ble_eq_true rfl) (fun M O F R0 N hn => t_X9_isChild O R0 N hn a0 x1 σ r h F)
def f_X9_mayAskKeep_31  (σ : Dt) : Option Int32 := some (0 : Int32)
theorem t_X9_mayAskKeep_31 {M : Mx} {l0 : Launch} (O : Ok M cX9_mayAskKeep yX9_mayAskKeep) (R0 : Rm M l0 4 122 0 0) (N : Ma M = false) (hn : Mn M = 4)   (σ : Dt) (o : Int32) (h : f_X9_mayAskKeep_31 σ = some o) (K : Fin' M (some .boolean) 0 0 SX σ (some (vI o))) : G M 0 0 31 [] [] SX σ := by
  unfold f_X9_mayAskKeep_31 at h
  refine g_iconst (v := (0 : Int32)) O dX9_mayAskKeep_31 rfl ?_
  cases h
  exact g_zreturn O (by decide) K dX9_mayAskKeep_32
def f_X9_mayAskKeep (a0 : Nat) (x1 : Int32) (x2 : Int32) (x3 : Int32) (σ : Dt) : Option Int32 := bo (xrc SX 9 (some a0)) fun a1 => bo (f_X9_isChild a1 x1 σ) fun v3 => if v3 = 0 then f_X9_mayAskKeep_31 σ else bo (xrc SX 9 (some a0)) fun a6 => bo (f_X9_hasWork a6 x2 σ) fun v8 => if v8 = 0 then f_X9_mayAskKeep_31 σ else if x3 < (1 : Int32) then f_X9_mayAskKeep_31 σ else if (9 : Int32) < x3 then f_X9_mayAskKeep_31 σ else some (1 : Int32)
theorem t_X9_mayAskKeep {M : Mx} {l0 : Launch} (O : Ok M cX9_mayAskKeep yX9_mayAskKeep) (R0 : Rm M l0 4 122 0 0) (N : Ma M = false) (hn : Mn M = 4) (a0 : Nat) (x1 : Int32) (x2 : Int32) (x3 : Int32) (σ : Dt) (o : Int32) (h : f_X9_mayAskKeep a0 x1 x2 x3 σ = some o) (K : Fin' M (some .boolean) 0 0 SX σ (some (vI o))) : G M 0 0 0 [(0, vA (some a0)), (1, vI x1), (2, vI x2), (3, vI x3)] [] SX σ := by
  unfold f_X9_mayAskKeep at h
  refine g_aload_n O dX9_mayAskKeep_0 rfl 0 rfl ?_
  refine g_iload_n O dX9_mayAskKeep_1 rfl 1 rfl ?_
  obtain ⟨a1, e2, h⟩ := bo_some h
  obtain ⟨v3, e4, h⟩ := bo_some h
  refine g_cV1 O R0 N dX9_mayAskKeep_2 vl_X9_53 vv_X9_isChild e2 [vI x1] rfl rfl rfl ⟨Nat.le_of_ble_eq_true rfl, Nat.le_of_ble_eq_true rfl⟩ (c_X9_isChild l0 a1 x1 σ v3 e4) ?_
  refine g_if_eq O dX9_mayAskKeep_5 rfl (fun c5 => ?_) (fun c5 => ?_)
  · replace h := (if_pos c5).symm.trans h
    refine g_sub [] (lv' := []) rfl ?_
    exact t_X9_mayAskKeep_31 O R0 N hn σ o h K
  · replace h := (if_neg c5).symm.trans h
    refine g_aload_n O dX9_mayAskKeep_8 rfl 0 rfl ?_
    refine g_iload_n O dX9_mayAskKeep_9 rfl 2 rfl ?_
    obtain ⟨a6, e7, h⟩ := bo_some h
    obtain ⟨v8, e9, h⟩ := bo_some h
    refine g_cV1 O R0 N dX9_mayAskKeep_10 vl_X9_56 vv_X9_hasWork e7 [vI x2] rfl rfl rfl ⟨Nat.le_of_ble_eq_true rfl, Nat.le_of_ble_eq_true rfl⟩ (c_X9_hasWork l0 a6 x2 σ v8 e9) ?_
    refine g_if_eq O dX9_mayAskKeep_13 rfl (fun c10 => ?_) (fun c10 => ?_)
    · replace h := (if_pos c10).symm.trans h
      refine g_sub [] (lv' := []) rfl ?_
      exact t_X9_mayAskKeep_31 O R0 N hn σ o h K
    · replace h := (if_neg c10).symm.trans h
      refine g_iload_n O dX9_mayAskKeep_16 rfl 3 rfl ?_
      refine g_iconst (v := (1 : Int32)) O dX9_mayAskKeep_17 rfl ?_
      refine g_icmp_lt O dX9_mayAskKeep_18 rfl (fun c11 => ?_) (fun c11 => ?_)
      · replace h := (if_pos c11).symm.trans h
        refine g_sub [] (lv' := []) rfl ?_
        exact t_X9_mayAskKeep_31 O R0 N hn σ o h K
      · replace h := (if_neg c11).symm.trans h
        refine g_iload_n O dX9_mayAskKeep_21 rfl 3 rfl ?_
        refine g_bipush (v := (9 : Int32)) O dX9_mayAskKeep_22 rfl ?_
        refine g_icmp_gt O dX9_mayAskKeep_24 rfl (fun c12 => ?_) (fun c12 => ?_)
        · replace h := (if_pos c12).symm.trans h
          refine g_sub [] (lv' := []) rfl ?_
          exact t_X9_mayAskKeep_31 O R0 N hn σ o h K
        · replace h := (if_neg c12).symm.trans h
          refine g_iconst (v := (1 : Int32)) O dX9_mayAskKeep_27 rfl ?_
          refine g_goto O dX9_mayAskKeep_28 rfl ?_
          cases h
          exact g_zreturn O (by decide) K dX9_mayAskKeep_32
theorem c_X9_mayAskKeep (l0 : Launch) (a0 : Nat) (x1 : Int32) (x2 : Int32) (x3 : Int32) (σ : Dt) (r : Int32) (h : f_X9_mayAskKeep a0 x1 x2 x3 σ = some r) : Ctr l0 yX9_mayAskKeep cX9_mayAskKeep 4 (some .boolean) false 4 122 0 0 [vA (some a0), vI x1, vI x2, vI x3] SX σ SX σ (some (vI r)) := ctr_of (by decide) (Nat.le_of_ble_eq_true rfl) (fun M O F R0 N hn => t_X9_mayAskKeep O R0 N hn a0 x1 x2 x3 σ r h F)
def f_X9_canKeep_37  (σ : Dt) : Option Int32 := some (0 : Int32)
theorem t_X9_canKeep_37 {M : Mx} {l0 : Launch} (O : Ok M cX9_canKeep yX9_canKeep) (R0 : Rm M l0 4 122 0 0) (N : Ma M = false) (hn : Mn M = 4)   (σ : Dt) (o : Int32) (h : f_X9_canKeep_37 σ = some o) (K : Fin' M (some .boolean) 0 0 SX σ (some (vI o))) : G M 0 0 37 [] [] SX σ := by
  unfold f_X9_canKeep_37 at h
  refine g_iconst (v := (0 : Int32)) O dX9_canKeep_37 rfl ?_
  cases h
  exact g_zreturn O (by decide) K dX9_canKeep_38
def f_X9_canKeep (a0 : Nat) (x1 : Int32) (x2 : Int32) (x3 : Int32) (σ : Dt) : Option Int32 := bo (xrc SX 9 (some a0)) fun a1 => bo (f_X9_isChild a1 x1 σ) fun v3 => if v3 = 0 then f_X9_canKeep_37 σ else bo (xrc SX 9 (some a0)) fun a6 => bo (f_X9_hasWork a6 x2 σ) fun v8 => if v8 = 0 then f_X9_canKeep_37 σ else bo (xgr SX 9 7 (some a0) σ) fun v11 => bo (xai SX v11 x1 σ) fun v13 => bo (xgr SX 9 8 (some a0) σ) fun v15 => bo (xai SX v15 x2 σ) fun v17 => if (x3 * v13) < v17 then f_X9_canKeep_37 σ else some (1 : Int32)
theorem t_X9_canKeep {M : Mx} {l0 : Launch} (O : Ok M cX9_canKeep yX9_canKeep) (R0 : Rm M l0 4 122 0 0) (N : Ma M = false) (hn : Mn M = 4) (a0 : Nat) (x1 : Int32) (x2 : Int32) (x3 : Int32) (σ : Dt) (o : Int32) (h : f_X9_canKeep a0 x1 x2 x3 σ = some o) (K : Fin' M (some .boolean) 0 0 SX σ (some (vI o))) : G M 0 0 0 [(0, vA (some a0)), (1, vI x1), (2, vI x2), (3, vI x3)] [] SX σ := by
  unfold f_X9_canKeep at h
  refine g_aload_n O dX9_canKeep_0 rfl 0 rfl ?_
  refine g_iload_n O dX9_canKeep_1 rfl 1 rfl ?_
  obtain ⟨a1, e2, h⟩ := bo_some h
  obtain ⟨v3, e4, h⟩ := bo_some h
  refine g_cV1 O R0 N dX9_canKeep_2 vl_X9_53 vv_X9_isChild e2 [vI x1] rfl rfl rfl ⟨Nat.le_of_ble_eq_true rfl, Nat.le_of_ble_eq_true rfl⟩ (c_X9_isChild l0 a1 x1 σ v3 e4) ?_
  refine g_if_eq O dX9_canKeep_5 rfl (fun c5 => ?_) (fun c5 => ?_)
  · replace h := (if_pos c5).symm.trans h
    refine g_sub [] (lv' := []) rfl ?_
    exact t_X9_canKeep_37 O R0 N hn σ o h K
  · replace h := (if_neg c5).symm.trans h
    refine g_aload_n O dX9_canKeep_8 rfl 0 rfl ?_
    refine g_iload_n O dX9_canKeep_9 rfl 2 rfl ?_
    obtain ⟨a6, e7, h⟩ := bo_some h
    obtain ⟨v8, e9, h⟩ := bo_some h
    refine g_cV1 O R0 N dX9_canKeep_10 vl_X9_56 vv_X9_hasWork e7 [vI x2] rfl rfl rfl ⟨Nat.le_of_ble_eq_true rfl, Nat.le_of_ble_eq_true rfl⟩ (c_X9_hasWork l0 a6 x2 σ v8 e9) ?_
    refine g_if_eq O dX9_canKeep_13 rfl (fun c10 => ?_) (fun c10 => ?_)
    · replace h := (if_pos c10).symm.trans h
      refine g_sub [] (lv' := []) rfl ?_
      exact t_X9_canKeep_37 O R0 N hn σ o h K
    · replace h := (if_neg c10).symm.trans h
      refine g_iload_n O dX9_canKeep_16 rfl 3 rfl ?_
      refine g_aload_n O dX9_canKeep_17 rfl 0 rfl ?_
      obtain ⟨v11, e12, h⟩ := bo_some h
      refine g_getR O dX9_canKeep_18 fl_X9_24 rfl e12 ?_
      refine g_iload_n O dX9_canKeep_21 rfl 1 rfl ?_
      obtain ⟨v13, e14, h⟩ := bo_some h
      refine g_iaload O dX9_canKeep_22 e14 ?_
      refine g_imul O dX9_canKeep_23 ?_
      refine g_aload_n O dX9_canKeep_24 rfl 0 rfl ?_
      obtain ⟨v15, e16, h⟩ := bo_some h
      refine g_getR O dX9_canKeep_25 fl_X9_27 rfl e16 ?_
      refine g_iload_n O dX9_canKeep_28 rfl 2 rfl ?_
      obtain ⟨v17, e18, h⟩ := bo_some h
      refine g_iaload O dX9_canKeep_29 e18 ?_
      refine g_icmp_lt O dX9_canKeep_30 rfl (fun c19 => ?_) (fun c19 => ?_)
      · replace h := (if_pos c19).symm.trans h
        refine g_sub [] (lv' := []) rfl ?_
        exact t_X9_canKeep_37 O R0 N hn σ o h K
      · replace h := (if_neg c19).symm.trans h
        refine g_iconst (v := (1 : Int32)) O dX9_canKeep_33 rfl ?_
        refine g_goto O dX9_canKeep_34 rfl ?_
        cases h
        exact g_zreturn O (by decide) K dX9_canKeep_38
theorem c_X9_canKeep (l0 : Launch) (a0 : Nat) (x1 : Int32) (x2 : Int32) (x3 : Int32) (σ : Dt) (r : Int32) (h : f_X9_canKeep a0 x1 x2 x3 σ = some r) : Ctr l0 yX9_canKeep cX9_canKeep 4 (some .boolean) false 4 122 0 0 [vA (some a0), vI x1, vI x2, vI x3] SX σ SX σ (some (vI r)) := ctr_of (by decide) (Nat.le_of_ble_eq_true rfl) (fun M O F R0 N hn => t_X9_canKeep O R0 N hn a0 x1 x2 x3 σ r h F)
def f_X11_keep (a0 : Nat) (x1 : Int32) (x2 : Int32) (x3 : Int32) (x4 : Int32) (σ : Dt) : Option Int32 := bo (xgr SX 11 0 (some a0) σ) fun v1 => bo (xrc SX 8 v1) fun a3 => bo (f_X8_valleyAt a3 x1 σ) fun v5 => if v5 = none then some (-1 : Int32) else bo (xrc SX 9 v5) fun a8 => bo (f_X9_mayAskKeep a8 x2 x3 x4 σ) fun v10 => if v10 = 0 then some (-1 : Int32) else bo (xrc SX 9 v5) fun a13 => bo (f_X9_canKeep a13 x2 x3 x4 σ) fun v15 => if v15 = 0 then some (0 : Int32) else some (1 : Int32)
theorem t_X11_keep {M : Mx} {l0 : Launch} (O : Ok M cX11_keep yX11_keep) (R0 : Rm M l0 5 145 0 0) (N : Ma M = false) (hn : Mn M = 6) (a0 : Nat) (x1 : Int32) (x2 : Int32) (x3 : Int32) (x4 : Int32) (σ : Dt) (o : Int32) (h : f_X11_keep a0 x1 x2 x3 x4 σ = some o) (K : Fin' M (some .int) 0 0 SX σ (some (vI o))) : G M 0 0 0 [(0, vA (some a0)), (1, vI x1), (2, vI x2), (3, vI x3), (4, vI x4)] [] SX σ := by
  unfold f_X11_keep at h
  refine g_aload_n O dX11_keep_0 rfl 0 rfl ?_
  obtain ⟨v1, e2, h⟩ := bo_some h
  refine g_getR O dX11_keep_1 fl_X11_12 rfl e2 ?_
  refine g_iload_n O dX11_keep_4 rfl 1 rfl ?_
  obtain ⟨a3, e4, h⟩ := bo_some h
  obtain ⟨v5, e6, h⟩ := bo_some h
  refine g_cV1 O R0 N dX11_keep_5 vl_X11_105 vv_X8_valleyAt e4 [vI x1] rfl rfl rfl ⟨Nat.le_of_ble_eq_true rfl, Nat.le_of_ble_eq_true rfl⟩ (c_X8_valleyAt l0 a3 x1 σ v5 e6) ?_
  refine g_astore (lv' := [(5, vA v5), (0, vA (some a0)), (1, vI x1), (2, vI x2), (3, vI x3), (4, vI x4)]) O dX11_keep_8 6 hn (by decide) rfl ?_
  refine g_aload O dX11_keep_10 0 rfl ?_
  refine g_ifnull O dX11_keep_12 rfl (fun c7 => ?_) (fun c7 => ?_)
  · replace h := (if_pos c7).symm.trans h
    refine g_iconst (v := (-1 : Int32)) O dX11_keep_27 rfl ?_
    cases h
    exact g_ireturn O K dX11_keep_28
  · replace h := (if_neg c7).symm.trans h
    refine g_aload O dX11_keep_15 0 rfl ?_
    refine g_iload_n O dX11_keep_17 rfl 3 rfl ?_
    refine g_iload_n O dX11_keep_18 rfl 4 rfl ?_
    refine g_iload O dX11_keep_19 5 rfl ?_
    obtain ⟨a8, e9, h⟩ := bo_some h
    obtain ⟨v10, e11, h⟩ := bo_some h
    refine g_cV1 O R0 N dX11_keep_21 vl_X11_131 vv_X9_mayAskKeep e9 [vI x2, vI x3, vI x4] rfl rfl rfl ⟨Nat.le_of_ble_eq_true rfl, Nat.le_of_ble_eq_true rfl⟩ (c_X9_mayAskKeep l0 a8 x2 x3 x4 σ v10 e11) ?_
    refine g_if_ne O dX11_keep_24 rfl (fun c12 => ?_) (fun c12 => ?_)
    · replace h := (if_pos c12).symm.trans h
      refine g_iconst (v := (-1 : Int32)) O dX11_keep_27 rfl ?_
      cases h
      exact g_ireturn O K dX11_keep_28
    · replace h := (if_neg c12).symm.trans h
      refine g_aload O dX11_keep_29 0 rfl ?_
      refine g_iload_n O dX11_keep_31 rfl 3 rfl ?_
      refine g_iload_n O dX11_keep_32 rfl 4 rfl ?_
      refine g_iload O dX11_keep_33 5 rfl ?_
      obtain ⟨a13, e14, h⟩ := bo_some h
      obtain ⟨v15, e16, h⟩ := bo_some h
      refine g_cV1 O R0 N dX11_keep_35 vl_X11_135 vv_X9_canKeep e14 [vI x2, vI x3, vI x4] rfl rfl rfl ⟨Nat.le_of_ble_eq_true rfl, Nat.le_of_ble_eq_true rfl⟩ (c_X9_canKeep l0 a13 x2 x3 x4 σ v15 e16) ?_
      refine g_if_eq O dX11_keep_38 rfl (fun c17 => ?_) (fun c17 => ?_)
      · replace h := (if_pos c17).symm.trans h
        refine g_iconst (v := (0 : Int32)) O dX11_keep_45 rfl ?_
        cases h
        exact g_ireturn O K dX11_keep_46
      · replace h := (if_neg c17).symm.trans h
        refine g_iconst (v := (1 : Int32)) O dX11_keep_41 rfl ?_
        refine g_goto O dX11_keep_42 rfl ?_
        cases h
        exact g_ireturn O K dX11_keep_46
theorem c_X11_keep (l0 : Launch) (a0 : Nat) (x1 : Int32) (x2 : Int32) (x3 : Int32) (x4 : Int32) (σ : Dt) (r : Int32) (h : f_X11_keep a0 x1 x2 x3 x4 σ = some r) : Ctr l0 yX11_keep cX11_keep 6 (some .int) false 5 145 0 0 [vA (some a0), vI x1, vI x2, vI x3, vI x4] SX σ SX σ (some (vI r)) := ctr_of (by decide) (Nat.le_of_ble_eq_true rfl) (fun M O F R0 N hn => t_X11_keep O R0 N hn a0 x1 x2 x3 x4 σ r h F)
def f_X11_isSpan_15  (σ : Dt) : Option Int32 := some (0 : Int32)
theorem t_X11_isSpan_15 {M : Mx} {l0 : Launch} (O : Ok M cX11_isSpan yX11_isSpan) (R0 : Rm M l0 2 80 0 0) (N : Ma M = false) (hn : Mn M = 1)   (σ : Dt) (o : Int32) (h : f_X11_isSpan_15 σ = some o) (K : Fin' M (some .boolean) 0 0 SX σ (some (vI o))) : G M 0 0 15 [] [] SX σ := by
  unfold f_X11_isSpan_15 at h
  refine g_iconst (v := (0 : Int32)) O dX11_isSpan_15 rfl ?_
  cases h
  exact g_zreturn O (by decide) K dX11_isSpan_16
def f_X11_isSpan (x0 : Int32) (σ : Dt) : Option Int32 := if x0 < (1 : Int32) then f_X11_isSpan_15 σ else if (9 : Int32) < x0 then f_X11_isSpan_15 σ else some (1 : Int32)
theorem t_X11_isSpan {M : Mx} {l0 : Launch} (O : Ok M cX11_isSpan yX11_isSpan) (R0 : Rm M l0 2 80 0 0) (N : Ma M = false) (hn : Mn M = 1) (x0 : Int32) (σ : Dt) (o : Int32) (h : f_X11_isSpan x0 σ = some o) (K : Fin' M (some .boolean) 0 0 SX σ (some (vI o))) : G M 0 0 0 [(0, vI x0)] [] SX σ := by
  unfold f_X11_isSpan at h
  refine g_iload_n O dX11_isSpan_0 rfl 0 rfl ?_
  refine g_iconst (v := (1 : Int32)) O dX11_isSpan_1 rfl ?_
  refine g_icmp_lt O dX11_isSpan_2 rfl (fun c1 => ?_) (fun c1 => ?_)
  · replace h := (if_pos c1).symm.trans h
    refine g_sub [] (lv' := []) rfl ?_
    exact t_X11_isSpan_15 O R0 N hn σ o h K
  · replace h := (if_neg c1).symm.trans h
    refine g_iload_n O dX11_isSpan_5 rfl 0 rfl ?_
    refine g_bipush (v := (9 : Int32)) O dX11_isSpan_6 rfl ?_
    refine g_icmp_gt O dX11_isSpan_8 rfl (fun c2 => ?_) (fun c2 => ?_)
    · replace h := (if_pos c2).symm.trans h
      refine g_sub [] (lv' := []) rfl ?_
      exact t_X11_isSpan_15 O R0 N hn σ o h K
    · replace h := (if_neg c2).symm.trans h
      refine g_iconst (v := (1 : Int32)) O dX11_isSpan_11 rfl ?_
      refine g_goto O dX11_isSpan_12 rfl ?_
      cases h
      exact g_zreturn O (by decide) K dX11_isSpan_16
theorem c_X11_isSpan (l0 : Launch) (x0 : Int32) (σ : Dt) (r : Int32) (h : f_X11_isSpan x0 σ = some r) : Ctr l0 yX11_isSpan cX11_isSpan 1 (some .boolean) false 2 80 0 0 [vI x0] SX σ SX σ (some (vI r)) := ctr_of (by decide) (Nat.le_of_ble_eq_true rfl) (fun M O F R0 N hn => t_X11_isSpan O R0 N hn x0 σ r h F)
def f_X9_allWorks (a0 : Nat) (σ : Dt) : Option Int32 := bo (xgi SX 9 1 (some a0) σ) fun v1 => some (((1 : Int32) <<< (v1 &&& 31)) - (1 : Int32))
theorem t_X9_allWorks {M : Mx} {l0 : Launch} (O : Ok M cX9_allWorks yX9_allWorks) (R0 : Rm M l0 2 80 0 0) (N : Ma M = false) (hn : Mn M = 1) (a0 : Nat) (σ : Dt) (o : Int32) (h : f_X9_allWorks a0 σ = some o) (K : Fin' M (some .int) 0 0 SX σ (some (vI o))) : G M 0 0 0 [(0, vA (some a0))] [] SX σ := by
  unfold f_X9_allWorks at h
  refine g_iconst (v := (1 : Int32)) O dX9_allWorks_0 rfl ?_
  refine g_aload_n O dX9_allWorks_1 rfl 0 rfl ?_
  obtain ⟨v1, e2, h⟩ := bo_some h
  refine g_getI O dX9_allWorks_2 fl_X9_37 rfl e2 ?_
  refine g_ishl O dX9_allWorks_5 ?_
  refine g_iconst (v := (1 : Int32)) O dX9_allWorks_6 rfl ?_
  refine g_isub O dX9_allWorks_7 ?_
  cases h
  exact g_ireturn O K dX9_allWorks_8
theorem c_X9_allWorks (l0 : Launch) (a0 : Nat) (σ : Dt) (r : Int32) (h : f_X9_allWorks a0 σ = some r) : Ctr l0 yX9_allWorks cX9_allWorks 1 (some .int) false 2 80 0 0 [vA (some a0)] SX σ SX σ (some (vI r)) := ctr_of (by decide) (Nat.le_of_ble_eq_true rfl) (fun M O F R0 N hn => t_X9_allWorks O R0 N hn a0 σ r h F)
def P_X7_hear_93 (M : Mx) (a0 : Nat) (x3 : Int32) (s : (Int32 × Dt)) : Prop := G M 0 0 93 [(0, vA (some a0)), (3, vI x3), (4, vI s.1)] [] SX s.2
def E_X7_hear_93 (M : Mx) (a0 : Nat) (x3 : Int32) : Dt → Prop := (fun w => G M 0 0 131 [(0, vA (some a0)), (3, vI x3)] [] SX w)
def f_X7_hear_125 (a0 : Nat) (x3 : Int32) (x4 : Int32) (σ : Dt) : Option ((Int32 × Dt) ⊕ Dt) := some (.inl ((x4 + (1 : Int32)), σ))
theorem t_X7_hear_125 {M : Mx} {l0 : Launch} (O : Ok M cX7_hear yX7_hear) (R0 : Rm M l0 5 145 0 0) (N : Ma M = false) (hn : Mn M = 5)  (a0 : Nat) (x3 : Int32) (x4 : Int32) (σ : Dt) (o : ((Int32 × Dt) ⊕ Dt)) (h : f_X7_hear_125 a0 x3 x4 σ = some o) (K : kon (P_X7_hear_93 M a0 x3) (E_X7_hear_93 M a0 x3) o) : G M 0 0 125 [(0, vA (some a0)), (3, vI x3), (4, vI x4)] [] SX σ := by
  unfold f_X7_hear_125 at h
  refine g_iinc (v := (x4 + (1 : Int32))) (lv' := [(4, vI (x4 + (1 : Int32))), (0, vA (some a0)), (3, vI x3)]) O dX7_hear_125 5 hn (by decide) 2 rfl rfl rfl ?_
  refine g_goto O dX7_hear_128 rfl ?_
  refine g_sub [1, 2, 0] (lv' := [(0, vA (some a0)), (3, vI x3), (4, vI (x4 + (1 : Int32)))]) rfl ?_
  cases h
  exact K
def f_X7_hear_L93 (a0 : Nat) (x3 : Int32) (x4 : Int32) (σ : Dt) : Option ((Int32 × Dt) ⊕ Dt) := if (6 : Int32) ≤ x4 then some (.inr σ) else if ((x3 >>> (x4 &&& 31)) &&& (1 : Int32)) = 0 then f_X7_hear_125 a0 x3 x4 σ else bo (xgr SX 7 1 (some a0) σ) fun v3 => bo (xai SX v3 x3 σ) fun v5 => bo (xgr SX 7 0 (some a0) σ) fun v7 => bo (xai SX v7 x4 σ) fun v9 => bo (xsi SX v3 x3 (v5 ||| v9) σ) fun σ11 => f_X7_hear_125 a0 x3 x4 σ11
theorem t_X7_hear_L93 {M : Mx} {l0 : Launch} (O : Ok M cX7_hear yX7_hear) (R0 : Rm M l0 5 145 0 0) (N : Ma M = false) (hn : Mn M = 5) (a0 : Nat) (x3 : Int32) (x4 : Int32) (σ : Dt) (o : ((Int32 × Dt) ⊕ Dt)) (h : f_X7_hear_L93 a0 x3 x4 σ = some o) (K : kon (P_X7_hear_93 M a0 x3) (E_X7_hear_93 M a0 x3) o) : G M 0 0 93 [(0, vA (some a0)), (3, vI x3), (4, vI x4)] [] SX σ := by
  unfold f_X7_hear_L93 at h
  refine g_iload O dX7_hear_93 2 rfl ?_
  refine g_bipush (v := (6 : Int32)) O dX7_hear_95 rfl ?_
  refine g_icmp_ge O dX7_hear_97 rfl (fun c1 => ?_) (fun c1 => ?_)
  · replace h := (if_pos c1).symm.trans h
    refine g_sub [0, 1] (lv' := [(0, vA (some a0)), (3, vI x3)]) rfl ?_
    cases h
    exact K
  · replace h := (if_neg c1).symm.trans h
    refine g_iload_n O dX7_hear_100 rfl 1 rfl ?_
    refine g_iload O dX7_hear_101 2 rfl ?_
    refine g_ishr O dX7_hear_103 ?_
    refine g_iconst (v := (1 : Int32)) O dX7_hear_104 rfl ?_
    refine g_iand O dX7_hear_105 ?_
    refine g_if_eq O dX7_hear_106 rfl (fun c2 => ?_) (fun c2 => ?_)
    · replace h := (if_pos c2).symm.trans h
      exact t_X7_hear_125 O R0 N hn a0 x3 x4 σ o h K
    · replace h := (if_neg c2).symm.trans h
      refine g_aload_n O dX7_hear_109 rfl 0 rfl ?_
      obtain ⟨v3, e4, h⟩ := bo_some h
      refine g_getR O dX7_hear_110 fl_X7_15 rfl e4 ?_
      refine g_iload_n O dX7_hear_113 rfl 1 rfl ?_
      refine g_dup2 O dX7_hear_114 rfl rfl ?_
      obtain ⟨v5, e6, h⟩ := bo_some h
      refine g_iaload O dX7_hear_115 e6 ?_
      refine g_aload_n O dX7_hear_116 rfl 0 rfl ?_
      obtain ⟨v7, e8, h⟩ := bo_some h
      refine g_getR O dX7_hear_117 fl_X7_9 rfl e8 ?_
      refine g_iload O dX7_hear_120 2 rfl ?_
      obtain ⟨v9, e10, h⟩ := bo_some h
      refine g_iaload O dX7_hear_122 e10 ?_
      refine g_ior O dX7_hear_123 ?_
      obtain ⟨σ11, e12, h⟩ := bo_some h
      refine g_iastore O dX7_hear_124 e12 ?_
      exact t_X7_hear_125 O R0 N hn a0 x3 x4 σ11 o h K
def P_X7_hear_23 (M : Mx) (a0 : Nat) (r1 : Option Nat) (x2 : Int32) (x3 : Int32) (s : (Int32 × Dt)) : Prop := G M 0 0 23 [(0, vA (some a0)), (1, vA r1), (2, vI x2), (3, vI x3), (4, vI s.1)] [] SX s.2
def E_X7_hear_23 (M : Mx) (a0 : Nat) (r1 : Option Nat) (x2 : Int32) (x3 : Int32) : Dt → Prop := (fun w => G M 0 0 69 [(0, vA (some a0)), (1, vA r1), (2, vI x2), (3, vI x3)] [] SX w)
def f_X7_hear_63 (a0 : Nat) (r1 : Option Nat) (x2 : Int32) (x3 : Int32) (x4 : Int32) (σ : Dt) : Option ((Int32 × Dt) ⊕ Dt) := some (.inl ((x4 + (1 : Int32)), σ))
theorem t_X7_hear_63 {M : Mx} {l0 : Launch} (O : Ok M cX7_hear yX7_hear) (R0 : Rm M l0 5 145 0 0) (N : Ma M = false) (hn : Mn M = 5)  (a0 : Nat) (r1 : Option Nat) (x2 : Int32) (x3 : Int32) (x4 : Int32) (σ : Dt) (o : ((Int32 × Dt) ⊕ Dt)) (h : f_X7_hear_63 a0 r1 x2 x3 x4 σ = some o) (K : kon (P_X7_hear_23 M a0 r1 x2 x3) (E_X7_hear_23 M a0 r1 x2 x3) o) : G M 0 0 63 [(0, vA (some a0)), (1, vA r1), (2, vI x2), (3, vI x3), (4, vI x4)] [] SX σ := by
  unfold f_X7_hear_63 at h
  refine g_iinc (v := (x4 + (1 : Int32))) (lv' := [(4, vI (x4 + (1 : Int32))), (0, vA (some a0)), (1, vA r1), (2, vI x2), (3, vI x3)]) O dX7_hear_63 5 hn (by decide) 4 rfl rfl rfl ?_
  refine g_goto O dX7_hear_66 rfl ?_
  refine g_sub [1, 2, 3, 4, 0] (lv' := [(0, vA (some a0)), (1, vA r1), (2, vI x2), (3, vI x3), (4, vI (x4 + (1 : Int32)))]) rfl ?_
  cases h
  exact K
def f_X7_hear_L23 (a0 : Nat) (r1 : Option Nat) (x2 : Int32) (x3 : Int32) (x4 : Int32) (σ : Dt) : Option ((Int32 × Dt) ⊕ Dt) := bo (xgi SX 9 0 r1 σ) fun v1 => if v1 ≤ x4 then some (.inr σ) else if (10 : Int32) ≤ x4 then some (.inr σ) else bo (xrc SX 9 r1) fun a5 => bo (f_X9_canKeep a5 x4 x3 x2 σ) fun v7 => if v7 = 0 then f_X7_hear_63 a0 r1 x2 x3 x4 σ else bo (xgr SX 7 0 (some a0) σ) fun v10 => bo (xai SX v10 x3 σ) fun v12 => bo (xsi SX v10 x3 (v12 ||| ((1 : Int32) <<< (x4 &&& 31))) σ) fun σ14 => f_X7_hear_63 a0 r1 x2 x3 x4 σ14
theorem t_X7_hear_L23 {M : Mx} {l0 : Launch} (O : Ok M cX7_hear yX7_hear) (R0 : Rm M l0 5 145 0 0) (N : Ma M = false) (hn : Mn M = 5) (a0 : Nat) (r1 : Option Nat) (x2 : Int32) (x3 : Int32) (x4 : Int32) (σ : Dt) (o : ((Int32 × Dt) ⊕ Dt)) (h : f_X7_hear_L23 a0 r1 x2 x3 x4 σ = some o) (K : kon (P_X7_hear_23 M a0 r1 x2 x3) (E_X7_hear_23 M a0 r1 x2 x3) o) : G M 0 0 23 [(0, vA (some a0)), (1, vA r1), (2, vI x2), (3, vI x3), (4, vI x4)] [] SX σ := by
  unfold f_X7_hear_L23 at h
  refine g_iload O dX7_hear_23 4 rfl ?_
  refine g_aload_n O dX7_hear_25 rfl 1 rfl ?_
  obtain ⟨v1, e2, h⟩ := bo_some h
  refine g_getI O dX7_hear_26 fl_X7_18 rfl e2 ?_
  refine g_icmp_ge O dX7_hear_29 rfl (fun c3 => ?_) (fun c3 => ?_)
  · replace h := (if_pos c3).symm.trans h
    refine g_sub [0, 1, 2, 3] (lv' := [(0, vA (some a0)), (1, vA r1), (2, vI x2), (3, vI x3)]) rfl ?_
    cases h
    exact K
  · replace h := (if_neg c3).symm.trans h
    refine g_iload O dX7_hear_32 4 rfl ?_
    refine g_bipush (v := (10 : Int32)) O dX7_hear_34 rfl ?_
    refine g_icmp_ge O dX7_hear_36 rfl (fun c4 => ?_) (fun c4 => ?_)
    · replace h := (if_pos c4).symm.trans h
      refine g_sub [0, 1, 2, 3] (lv' := [(0, vA (some a0)), (1, vA r1), (2, vI x2), (3, vI x3)]) rfl ?_
      cases h
      exact K
    · replace h := (if_neg c4).symm.trans h
      refine g_aload_n O dX7_hear_39 rfl 1 rfl ?_
      refine g_iload O dX7_hear_40 4 rfl ?_
      refine g_iload_n O dX7_hear_42 rfl 3 rfl ?_
      refine g_iload_n O dX7_hear_43 rfl 2 rfl ?_
      obtain ⟨a5, e6, h⟩ := bo_some h
      obtain ⟨v7, e8, h⟩ := bo_some h
      refine g_cV1 O R0 N dX7_hear_44 vl_X7_24 vv_X9_canKeep e6 [vI x4, vI x3, vI x2] rfl rfl rfl ⟨Nat.le_of_ble_eq_true rfl, Nat.le_of_ble_eq_true rfl⟩ (c_X9_canKeep l0 a5 x4 x3 x2 σ v7 e8) ?_
      refine g_if_eq O dX7_hear_47 rfl (fun c9 => ?_) (fun c9 => ?_)
      · replace h := (if_pos c9).symm.trans h
        exact t_X7_hear_63 O R0 N hn a0 r1 x2 x3 x4 σ o h K
      · replace h := (if_neg c9).symm.trans h
        refine g_aload_n O dX7_hear_50 rfl 0 rfl ?_
        obtain ⟨v10, e11, h⟩ := bo_some h
        refine g_getR O dX7_hear_51 fl_X7_9 rfl e11 ?_
        refine g_iload_n O dX7_hear_54 rfl 3 rfl ?_
        refine g_dup2 O dX7_hear_55 rfl rfl ?_
        obtain ⟨v12, e13, h⟩ := bo_some h
        refine g_iaload O dX7_hear_56 e13 ?_
        refine g_iconst (v := (1 : Int32)) O dX7_hear_57 rfl ?_
        refine g_iload O dX7_hear_58 4 rfl ?_
        refine g_ishl O dX7_hear_60 ?_
        refine g_ior O dX7_hear_61 ?_
        obtain ⟨σ14, e15, h⟩ := bo_some h
        refine g_iastore O dX7_hear_62 e15 ?_
        exact t_X7_hear_63 O R0 N hn a0 r1 x2 x3 x4 σ14 o h K
def P_X7_hear_77 (M : Mx) (a0 : Nat) (s : (Int32 × Dt)) : Prop := G M 0 0 77 [(0, vA (some a0)), (3, vI s.1)] [] SX s.2
def E_X7_hear_77 (M : Mx) (a0 : Nat) : Dt → Prop := (fun w => G M 0 0 137 [] [] SX w)
def f_X7_hear_L77 (a0 : Nat) (x3 : Int32) (σ : Dt) : Option ((Int32 × Dt) ⊕ Dt) := if (64 : Int32) ≤ x3 then some (.inr σ) else bo (xgr SX 7 1 (some a0) σ) fun v2 => bo (xsi SX v2 x3 (0 : Int32) σ) fun σ4 => bo (iter FU (fun s => f_X7_hear_L93 a0 x3 s.1 s.2) ((0 : Int32), σ4)) fun w6 => some (.inl ((x3 + (1 : Int32)), w6))
theorem t_X7_hear_L77 {M : Mx} {l0 : Launch} (O : Ok M cX7_hear yX7_hear) (R0 : Rm M l0 5 145 0 0) (N : Ma M = false) (hn : Mn M = 5) (a0 : Nat) (x3 : Int32) (σ : Dt) (o : ((Int32 × Dt) ⊕ Dt)) (h : f_X7_hear_L77 a0 x3 σ = some o) (K : kon (P_X7_hear_77 M a0) (E_X7_hear_77 M a0) o) : G M 0 0 77 [(0, vA (some a0)), (3, vI x3)] [] SX σ := by
  unfold f_X7_hear_L77 at h
  refine g_iload_n O dX7_hear_77 rfl 1 rfl ?_
  refine g_bipush (v := (64 : Int32)) O dX7_hear_78 rfl ?_
  refine g_icmp_ge O dX7_hear_80 rfl (fun c1 => ?_) (fun c1 => ?_)
  · replace h := (if_pos c1).symm.trans h
    refine g_sub [] (lv' := []) rfl ?_
    cases h
    exact K
  · replace h := (if_neg c1).symm.trans h
    refine g_aload_n O dX7_hear_83 rfl 0 rfl ?_
    obtain ⟨v2, e3, h⟩ := bo_some h
    refine g_getR O dX7_hear_84 fl_X7_15 rfl e3 ?_
    refine g_iload_n O dX7_hear_87 rfl 1 rfl ?_
    refine g_iconst (v := (0 : Int32)) O dX7_hear_88 rfl ?_
    obtain ⟨σ4, e5, h⟩ := bo_some h
    refine g_iastore O dX7_hear_89 e5 ?_
    refine g_iconst (v := (0 : Int32)) O dX7_hear_90 rfl ?_
    refine g_istore (lv' := [(4, vI (0 : Int32)), (0, vA (some a0)), (3, vI x3)]) O dX7_hear_91 5 hn (by decide) rfl ?_
    refine g_sub [1, 2, 0] (lv' := [(0, vA (some a0)), (3, vI x3), (4, vI (0 : Int32))]) rfl ?_
    obtain ⟨w6, e7, h⟩ := bo_some h
    refine iter_G (P := P_X7_hear_93 M a0 x3) (E := E_X7_hear_93 M a0 x3) (fun s o hb hk => t_X7_hear_L93 O R0 N hn a0 x3 s.1 s.2 o hb hk) FU ((0 : Int32), σ4) w6 e7 ?_
    show G M 0 0 131 [(0, vA (some a0)), (3, vI x3)] [] SX w6
    refine g_iinc (v := (x3 + (1 : Int32))) (lv' := [(3, vI (x3 + (1 : Int32))), (0, vA (some a0))]) O dX7_hear_131 5 hn (by decide) 1 rfl rfl rfl ?_
    refine g_goto O dX7_hear_134 rfl ?_
    refine g_sub [1, 0] (lv' := [(0, vA (some a0)), (3, vI (x3 + (1 : Int32)))]) rfl ?_
    cases h
    exact K
def P_X7_hear_7 (M : Mx) (a0 : Nat) (r1 : Option Nat) (x2 : Int32) (s : (Int32 × Dt)) : Prop := G M 0 0 7 [(0, vA (some a0)), (1, vA r1), (2, vI x2), (3, vI s.1)] [] SX s.2
def E_X7_hear_7 (M : Mx) (a0 : Nat) (r1 : Option Nat) (x2 : Int32) : Dt → Prop := (fun w => G M 0 0 75 [(0, vA (some a0))] [] SX w)
def f_X7_hear_69 (a0 : Nat) (r1 : Option Nat) (x2 : Int32) (x3 : Int32) (σ : Dt) : Option ((Int32 × Dt) ⊕ Dt) := some (.inl ((x3 + (1 : Int32)), σ))
theorem t_X7_hear_69 {M : Mx} {l0 : Launch} (O : Ok M cX7_hear yX7_hear) (R0 : Rm M l0 5 145 0 0) (N : Ma M = false) (hn : Mn M = 5)  (a0 : Nat) (r1 : Option Nat) (x2 : Int32) (x3 : Int32) (σ : Dt) (o : ((Int32 × Dt) ⊕ Dt)) (h : f_X7_hear_69 a0 r1 x2 x3 σ = some o) (K : kon (P_X7_hear_7 M a0 r1 x2) (E_X7_hear_7 M a0 r1 x2) o) : G M 0 0 69 [(0, vA (some a0)), (1, vA r1), (2, vI x2), (3, vI x3)] [] SX σ := by
  unfold f_X7_hear_69 at h
  refine g_iinc (v := (x3 + (1 : Int32))) (lv' := [(3, vI (x3 + (1 : Int32))), (0, vA (some a0)), (1, vA r1), (2, vI x2)]) O dX7_hear_69 5 hn (by decide) 3 rfl rfl rfl ?_
  refine g_goto O dX7_hear_72 rfl ?_
  refine g_sub [1, 2, 3, 0] (lv' := [(0, vA (some a0)), (1, vA r1), (2, vI x2), (3, vI (x3 + (1 : Int32)))]) rfl ?_
  cases h
  exact K
def f_X7_hear_L7 (a0 : Nat) (r1 : Option Nat) (x2 : Int32) (x3 : Int32) (σ : Dt) : Option ((Int32 × Dt) ⊕ Dt) := if (6 : Int32) ≤ x3 then some (.inr σ) else bo (xgr SX 7 0 (some a0) σ) fun v2 => bo (xsi SX v2 x3 (0 : Int32) σ) fun σ4 => bo (iter FU (fun s => f_X7_hear_L23 a0 r1 x2 x3 s.1 s.2) ((0 : Int32), σ4)) fun w6 => f_X7_hear_69 a0 r1 x2 x3 w6
theorem t_X7_hear_L7 {M : Mx} {l0 : Launch} (O : Ok M cX7_hear yX7_hear) (R0 : Rm M l0 5 145 0 0) (N : Ma M = false) (hn : Mn M = 5) (a0 : Nat) (r1 : Option Nat) (x2 : Int32) (x3 : Int32) (σ : Dt) (o : ((Int32 × Dt) ⊕ Dt)) (h : f_X7_hear_L7 a0 r1 x2 x3 σ = some o) (K : kon (P_X7_hear_7 M a0 r1 x2) (E_X7_hear_7 M a0 r1 x2) o) : G M 0 0 7 [(0, vA (some a0)), (1, vA r1), (2, vI x2), (3, vI x3)] [] SX σ := by
  unfold f_X7_hear_L7 at h
  refine g_iload_n O dX7_hear_7 rfl 3 rfl ?_
  refine g_bipush (v := (6 : Int32)) O dX7_hear_8 rfl ?_
  refine g_icmp_ge O dX7_hear_10 rfl (fun c1 => ?_) (fun c1 => ?_)
  · replace h := (if_pos c1).symm.trans h
    refine g_sub [0] (lv' := [(0, vA (some a0))]) rfl ?_
    cases h
    exact K
  · replace h := (if_neg c1).symm.trans h
    refine g_aload_n O dX7_hear_13 rfl 0 rfl ?_
    obtain ⟨v2, e3, h⟩ := bo_some h
    refine g_getR O dX7_hear_14 fl_X7_9 rfl e3 ?_
    refine g_iload_n O dX7_hear_17 rfl 3 rfl ?_
    refine g_iconst (v := (0 : Int32)) O dX7_hear_18 rfl ?_
    obtain ⟨σ4, e5, h⟩ := bo_some h
    refine g_iastore O dX7_hear_19 e5 ?_
    refine g_iconst (v := (0 : Int32)) O dX7_hear_20 rfl ?_
    refine g_istore (lv' := [(4, vI (0 : Int32)), (0, vA (some a0)), (1, vA r1), (2, vI x2), (3, vI x3)]) O dX7_hear_21 5 hn (by decide) rfl ?_
    refine g_sub [1, 2, 3, 4, 0] (lv' := [(0, vA (some a0)), (1, vA r1), (2, vI x2), (3, vI x3), (4, vI (0 : Int32))]) rfl ?_
    obtain ⟨w6, e7, h⟩ := bo_some h
    refine iter_G (P := P_X7_hear_23 M a0 r1 x2 x3) (E := E_X7_hear_23 M a0 r1 x2 x3) (fun s o hb hk => t_X7_hear_L23 O R0 N hn a0 r1 x2 x3 s.1 s.2 o hb hk) FU ((0 : Int32), σ4) w6 e7 ?_
    show G M 0 0 69 [(0, vA (some a0)), (1, vA r1), (2, vI x2), (3, vI x3)] [] SX w6
    exact t_X7_hear_69 O R0 N hn a0 r1 x2 x3 w6 o h K
def f_X7_hear (a0 : Nat) (r1 : Option Nat) (x2 : Int32) (σ : Dt) : Option (Unit × Dt) := if r1 = none then some ((), σ) else bo (iter FU (fun s => f_X7_hear_L7 a0 r1 x2 s.1 s.2) ((0 : Int32), σ)) fun w2 => bo (iter FU (fun s => f_X7_hear_L77 a0 s.1 s.2) ((0 : Int32), w2)) fun w4 => some ((), w4)
theorem t_X7_hear {M : Mx} {l0 : Launch} (O : Ok M cX7_hear yX7_hear) (R0 : Rm M l0 5 145 0 0) (N : Ma M = false) (hn : Mn M = 5) (a0 : Nat) (r1 : Option Nat) (x2 : Int32) (σ : Dt) (o : (Unit × Dt)) (h : f_X7_hear a0 r1 x2 σ = some o) (K : Fin' M (none) 0 0 SX o.2 (none)) : G M 0 0 0 [(0, vA (some a0)), (1, vA r1), (2, vI x2)] [] SX σ := by
  unfold f_X7_hear at h
  refine g_aload_n O dX7_hear_0 rfl 1 rfl ?_
  refine g_ifnonnull O dX7_hear_1 rfl (fun c1 => ?_) (fun c1 => ?_)
  · replace h := (if_neg c1).symm.trans h
    refine g_iconst (v := (0 : Int32)) O dX7_hear_5 rfl ?_
    refine g_istore_n (lv' := [(3, vI (0 : Int32)), (0, vA (some a0)), (1, vA r1), (2, vI x2)]) O dX7_hear_6 rfl 5 hn (by decide) rfl ?_
    refine g_sub [1, 2, 3, 0] (lv' := [(0, vA (some a0)), (1, vA r1), (2, vI x2), (3, vI (0 : Int32))]) rfl ?_
    obtain ⟨w2, e3, h⟩ := bo_some h
    refine iter_G (P := P_X7_hear_7 M a0 r1 x2) (E := E_X7_hear_7 M a0 r1 x2) (fun s o hb hk => t_X7_hear_L7 O R0 N hn a0 r1 x2 s.1 s.2 o hb hk) FU ((0 : Int32), σ) w2 e3 ?_
    show G M 0 0 75 [(0, vA (some a0))] [] SX w2
    refine g_iconst (v := (0 : Int32)) O dX7_hear_75 rfl ?_
    refine g_istore_n (lv' := [(3, vI (0 : Int32)), (0, vA (some a0))]) O dX7_hear_76 rfl 5 hn (by decide) rfl ?_
    refine g_sub [1, 0] (lv' := [(0, vA (some a0)), (3, vI (0 : Int32))]) rfl ?_
    obtain ⟨w4, e5, h⟩ := bo_some h
    refine iter_G (P := P_X7_hear_77 M a0) (E := E_X7_hear_77 M a0) (fun s o hb hk => t_X7_hear_L77 O R0 N hn a0 s.1 s.2 o hb hk) FU ((0 : Int32), w2) w4 e5 ?_
    show G M 0 0 137 [] [] SX w4
    cases h
    exact g_return O K dX7_hear_137
  · replace h := (if_pos c1).symm.trans h
    cases h
    exact g_return O K dX7_hear_4
theorem c_X7_hear (l0 : Launch) (a0 : Nat) (r1 : Option Nat) (x2 : Int32) (σ : Dt) (r : Unit) (σ' : Dt) (h : f_X7_hear a0 r1 x2 σ = some (r, σ')) : Ctr l0 yX7_hear cX7_hear 5 (none) false 5 145 0 0 [vA (some a0), vA r1, vI x2] SX σ SX σ' (none) := ctr_of (by decide) (Nat.le_of_ble_eq_true rfl) (fun M O F R0 N hn => t_X7_hear O R0 N hn a0 r1 x2 σ (r, σ') h F)
def P_X7_canSay_2 (M : Mx) (a0 : Nat) (x1 : Int32) (x2 : Int32) (σ : Dt) (s : Int32) : Prop := G M 0 0 2 [(0, vA (some a0)), (1, vI x1), (2, vI x2), (3, vI s)] [] SX σ
def E_X7_canSay_2 (M : Mx) (a0 : Nat) (x1 : Int32) (x2 : Int32) (σ : Dt) : (Unit ⊕ Unit) → Prop := (el (fun w => G M 0 0 46 [] [] SX σ) (fun w => G M 0 0 54 [] [] SX σ))
def f_X7_canSay_48 (a0 : Nat) (x1 : Int32) (x2 : Int32) (x3 : Int32) (σ : Dt) : Option (Int32 ⊕ (Unit ⊕ Unit)) := some (.inl (x3 + (1 : Int32)))
theorem t_X7_canSay_48 {M : Mx} {l0 : Launch} (O : Ok M cX7_canSay yX7_canSay) (R0 : Rm M l0 3 100 0 0) (N : Ma M = false) (hn : Mn M = 5)  (a0 : Nat) (x1 : Int32) (x2 : Int32) (x3 : Int32) (σ : Dt) (o : (Int32 ⊕ (Unit ⊕ Unit))) (h : f_X7_canSay_48 a0 x1 x2 x3 σ = some o) (K : kon (P_X7_canSay_2 M a0 x1 x2 σ) (E_X7_canSay_2 M a0 x1 x2 σ) o) : G M 0 0 48 [(0, vA (some a0)), (1, vI x1), (2, vI x2), (3, vI x3)] [] SX σ := by
  unfold f_X7_canSay_48 at h
  refine g_iinc (v := (x3 + (1 : Int32))) (lv' := [(3, vI (x3 + (1 : Int32))), (0, vA (some a0)), (1, vI x1), (2, vI x2)]) O dX7_canSay_48 5 hn (by decide) 3 rfl rfl rfl ?_
  refine g_goto O dX7_canSay_51 rfl ?_
  refine g_sub [1, 2, 3, 0] (lv' := [(0, vA (some a0)), (1, vI x1), (2, vI x2), (3, vI (x3 + (1 : Int32)))]) rfl ?_
  cases h
  exact K
def f_X7_canSay_21 (a0 : Nat) (x1 : Int32) (x2 : Int32) (x3 : Int32) (k0 : Int32) (σ : Dt) : Option (Int32 ⊕ (Unit ⊕ Unit)) := if k0 = 0 then f_X7_canSay_48 a0 x1 x2 x3 σ else bo (xgr SX 7 1 (some a0) σ) fun v2 => bo (xai SX v2 x3 σ) fun v4 => bo (f_J6_bitCount_0f7a4 (v4 &&& x2) σ) fun v6 => bo (f_J6_bitCount_0f7a4 x3 σ) fun v8 => if v8 ≤ v6 then f_X7_canSay_48 a0 x1 x2 x3 σ else some (.inr (.inl ()))
theorem t_X7_canSay_21 {M : Mx} {l0 : Launch} (O : Ok M cX7_canSay yX7_canSay) (R0 : Rm M l0 3 100 0 0) (N : Ma M = false) (hn : Mn M = 5)  (a0 : Nat) (x1 : Int32) (x2 : Int32) (x3 : Int32) (k0 : Int32) (σ : Dt) (o : (Int32 ⊕ (Unit ⊕ Unit))) (h : f_X7_canSay_21 a0 x1 x2 x3 k0 σ = some o) (K : kon (P_X7_canSay_2 M a0 x1 x2 σ) (E_X7_canSay_2 M a0 x1 x2 σ) o) : G M 0 0 21 [(0, vA (some a0)), (1, vI x1), (2, vI x2), (3, vI x3)] [vI k0] SX σ := by
  unfold f_X7_canSay_21 at h
  refine g_istore (lv' := [(4, vI k0), (0, vA (some a0)), (1, vI x1), (2, vI x2), (3, vI x3)]) O dX7_canSay_21 5 hn (by decide) rfl ?_
  refine g_iload O dX7_canSay_23 0 rfl ?_
  refine g_if_eq O dX7_canSay_25 rfl (fun c1 => ?_) (fun c1 => ?_)
  · replace h := (if_pos c1).symm.trans h
    refine g_sub [1, 2, 3, 4] (lv' := [(0, vA (some a0)), (1, vI x1), (2, vI x2), (3, vI x3)]) rfl ?_
    exact t_X7_canSay_48 O R0 N hn a0 x1 x2 x3 σ o h K
  · replace h := (if_neg c1).symm.trans h
    refine g_aload_n O dX7_canSay_28 rfl 1 rfl ?_
    obtain ⟨v2, e3, h⟩ := bo_some h
    refine g_getR O dX7_canSay_29 fl_X7_15 rfl e3 ?_
    refine g_iload_n O dX7_canSay_32 rfl 4 rfl ?_
    obtain ⟨v4, e5, h⟩ := bo_some h
    refine g_iaload O dX7_canSay_33 e5 ?_
    refine g_iload_n O dX7_canSay_34 rfl 3 rfl ?_
    refine g_iand O dX7_canSay_35 ?_
    obtain ⟨v6, e7, h⟩ := bo_some h
    refine g_cS1 O R0 N dX7_canSay_36 vl_X7_28 w831 [vI (v4 &&& x2)] rfl rfl rfl ⟨Nat.le_of_ble_eq_true rfl, Nat.le_of_ble_eq_true rfl⟩ (c_J6_bitCount_0f7a4 l0 (v4 &&& x2) σ v6 e7) ?_
    refine g_iload_n O dX7_canSay_39 rfl 4 rfl ?_
    obtain ⟨v8, e9, h⟩ := bo_some h
    refine g_cS1 O R0 N dX7_canSay_40 vl_X7_28 w831 [vI x3] rfl rfl rfl ⟨Nat.le_of_ble_eq_true rfl, Nat.le_of_ble_eq_true rfl⟩ (c_J6_bitCount_0f7a4 l0 x3 σ v8 e9) ?_
    refine g_icmp_ge O dX7_canSay_43 rfl (fun c10 => ?_) (fun c10 => ?_)
    · replace h := (if_pos c10).symm.trans h
      refine g_sub [1, 2, 3, 4] (lv' := [(0, vA (some a0)), (1, vI x1), (2, vI x2), (3, vI x3)]) rfl ?_
      exact t_X7_canSay_48 O R0 N hn a0 x1 x2 x3 σ o h K
    · replace h := (if_neg c10).symm.trans h
      refine g_sub [] (lv' := []) rfl ?_
      cases h
      exact K
def f_X7_canSay_L2 (a0 : Nat) (x1 : Int32) (x2 : Int32) (x3 : Int32) (σ : Dt) : Option (Int32 ⊕ (Unit ⊕ Unit)) := if (64 : Int32) ≤ x3 then some (.inr (.inr ())) else if (x3 &&& (x1 ^^^ (-1 : Int32))) = 0 then f_X7_canSay_21 a0 x1 x2 x3 (1 : Int32) σ else f_X7_canSay_21 a0 x1 x2 x3 (0 : Int32) σ
theorem t_X7_canSay_L2 {M : Mx} {l0 : Launch} (O : Ok M cX7_canSay yX7_canSay) (R0 : Rm M l0 3 100 0 0) (N : Ma M = false) (hn : Mn M = 5) (a0 : Nat) (x1 : Int32) (x2 : Int32) (x3 : Int32) (σ : Dt) (o : (Int32 ⊕ (Unit ⊕ Unit))) (h : f_X7_canSay_L2 a0 x1 x2 x3 σ = some o) (K : kon (P_X7_canSay_2 M a0 x1 x2 σ) (E_X7_canSay_2 M a0 x1 x2 σ) o) : G M 0 0 2 [(0, vA (some a0)), (1, vI x1), (2, vI x2), (3, vI x3)] [] SX σ := by
  unfold f_X7_canSay_L2 at h
  refine g_iload_n O dX7_canSay_2 rfl 3 rfl ?_
  refine g_bipush (v := (64 : Int32)) O dX7_canSay_3 rfl ?_
  refine g_icmp_ge O dX7_canSay_5 rfl (fun c1 => ?_) (fun c1 => ?_)
  · replace h := (if_pos c1).symm.trans h
    refine g_sub [] (lv' := []) rfl ?_
    cases h
    exact K
  · replace h := (if_neg c1).symm.trans h
    refine g_iload_n O dX7_canSay_8 rfl 3 rfl ?_
    refine g_iload_n O dX7_canSay_9 rfl 1 rfl ?_
    refine g_iconst (v := (-1 : Int32)) O dX7_canSay_10 rfl ?_
    refine g_ixor O dX7_canSay_11 ?_
    refine g_iand O dX7_canSay_12 ?_
    refine g_if_ne O dX7_canSay_13 rfl (fun c2 => ?_) (fun c2 => ?_)
    · replace h := (if_pos c2).symm.trans h
      refine g_iconst (v := (1 : Int32)) O dX7_canSay_16 rfl ?_
      refine g_goto O dX7_canSay_17 rfl ?_
      exact t_X7_canSay_21 O R0 N hn a0 x1 x2 x3 (1 : Int32) σ o h K
    · replace h := (if_neg c2).symm.trans h
      refine g_iconst (v := (0 : Int32)) O dX7_canSay_20 rfl ?_
      exact t_X7_canSay_21 O R0 N hn a0 x1 x2 x3 (0 : Int32) σ o h K
def f_X7_canSay (a0 : Nat) (x1 : Int32) (x2 : Int32) (σ : Dt) : Option Int32 := bo (iter FU (fun s => f_X7_canSay_L2 a0 x1 x2 s σ) (1 : Int32)) fun w1 => el (fun w3 => some (0 : Int32)) (fun w3 => some (1 : Int32)) w1
theorem t_X7_canSay {M : Mx} {l0 : Launch} (O : Ok M cX7_canSay yX7_canSay) (R0 : Rm M l0 3 100 0 0) (N : Ma M = false) (hn : Mn M = 5) (a0 : Nat) (x1 : Int32) (x2 : Int32) (σ : Dt) (o : Int32) (h : f_X7_canSay a0 x1 x2 σ = some o) (K : Fin' M (some .boolean) 0 0 SX σ (some (vI o))) : G M 0 0 0 [(0, vA (some a0)), (1, vI x1), (2, vI x2)] [] SX σ := by
  unfold f_X7_canSay at h
  refine g_iconst (v := (1 : Int32)) O dX7_canSay_0 rfl ?_
  refine g_istore_n (lv' := [(3, vI (1 : Int32)), (0, vA (some a0)), (1, vI x1), (2, vI x2)]) O dX7_canSay_1 rfl 5 hn (by decide) rfl ?_
  refine g_sub [1, 2, 3, 0] (lv' := [(0, vA (some a0)), (1, vI x1), (2, vI x2), (3, vI (1 : Int32))]) rfl ?_
  obtain ⟨w1, e2, h⟩ := bo_some h
  refine iter_G (P := P_X7_canSay_2 M a0 x1 x2 σ) (E := E_X7_canSay_2 M a0 x1 x2 σ) (fun s o hb hk => t_X7_canSay_L2 O R0 N hn a0 x1 x2 s σ o hb hk) FU (1 : Int32) w1 e2 ?_
  rcases w1 with w3 | w3
  · replace h := el_l h
    show G M 0 0 46 [] [] SX σ
    refine g_iconst (v := (0 : Int32)) O dX7_canSay_46 rfl ?_
    cases h
    exact g_zreturn O (by decide) K dX7_canSay_47
  · replace h := el_r h
    show G M 0 0 54 [] [] SX σ
    refine g_iconst (v := (1 : Int32)) O dX7_canSay_54 rfl ?_
    cases h
    exact g_zreturn O (by decide) K dX7_canSay_55
theorem c_X7_canSay (l0 : Launch) (a0 : Nat) (x1 : Int32) (x2 : Int32) (σ : Dt) (r : Int32) (h : f_X7_canSay a0 x1 x2 σ = some r) : Ctr l0 yX7_canSay cX7_canSay 5 (some .boolean) false 3 100 0 0 [vA (some a0), vI x1, vI x2] SX σ SX σ (some (vI r)) := ctr_of (by decide) (Nat.le_of_ble_eq_true rfl) (fun M O F R0 N hn => t_X7_canSay O R0 N hn a0 x1 x2 σ r h F)
def P_X7_leastSpeaker_27 (M : Mx) (a0 : Nat) (x2 : Int32) (x3 : Int32) (x4 : Int32) (σ : Dt) (s : Int32) : Prop := G M 0 0 27 [(0, vA (some a0)), (2, vI x2), (3, vI x3), (4, vI x4), (5, vI s)] [] SX σ
def E_X7_leastSpeaker_27 (M : Mx) (a0 : Nat) (x2 : Int32) (x3 : Int32) (x4 : Int32) (σ : Dt) : (Int32 ⊕ Unit) → Prop := (el (fun w => G M 0 0 60 [(5, vI w)] [] SX σ) (fun w => G M 0 0 69 [] [] SX σ))
def f_X7_leastSpeaker_63 (a0 : Nat) (x2 : Int32) (x3 : Int32) (x4 : Int32) (x5 : Int32) (σ : Dt) : Option (Int32 ⊕ (Int32 ⊕ Unit)) := some (.inl (x5 + (1 : Int32)))
theorem t_X7_leastSpeaker_63 {M : Mx} {l0 : Launch} (O : Ok M cX7_leastSpeaker yX7_leastSpeaker) (R0 : Rm M l0 4 124 0 0) (N : Ma M = false) (hn : Mn M = 6)  (a0 : Nat) (x2 : Int32) (x3 : Int32) (x4 : Int32) (x5 : Int32) (σ : Dt) (o : (Int32 ⊕ (Int32 ⊕ Unit))) (h : f_X7_leastSpeaker_63 a0 x2 x3 x4 x5 σ = some o) (K : kon (P_X7_leastSpeaker_27 M a0 x2 x3 x4 σ) (E_X7_leastSpeaker_27 M a0 x2 x3 x4 σ) o) : G M 0 0 63 [(0, vA (some a0)), (2, vI x2), (3, vI x3), (4, vI x4), (5, vI x5)] [] SX σ := by
  unfold f_X7_leastSpeaker_63 at h
  refine g_iinc (v := (x5 + (1 : Int32))) (lv' := [(5, vI (x5 + (1 : Int32))), (0, vA (some a0)), (2, vI x2), (3, vI x3), (4, vI x4)]) O dX7_leastSpeaker_63 6 hn (by decide) 4 rfl rfl rfl ?_
  refine g_goto O dX7_leastSpeaker_66 rfl ?_
  refine g_sub [1, 2, 3, 4, 0] (lv' := [(0, vA (some a0)), (2, vI x2), (3, vI x3), (4, vI x4), (5, vI (x5 + (1 : Int32)))]) rfl ?_
  cases h
  exact K
def f_X7_leastSpeaker_L27 (a0 : Nat) (x2 : Int32) (x3 : Int32) (x4 : Int32) (x5 : Int32) (σ : Dt) : Option (Int32 ⊕ (Int32 ⊕ Unit)) := if (10 : Int32) ≤ x5 then some (.inr (.inr ())) else if ((x4 >>> (x5 &&& 31)) &&& (1 : Int32)) = 0 then f_X7_leastSpeaker_63 a0 x2 x3 x4 x5 σ else bo (xrc SX 7 (some a0)) fun a3 => bo (f_X7_canSay a3 x2 (x3 &&& (((1 : Int32) <<< (x5 &&& 31)) ^^^ (-1 : Int32))) σ) fun v5 => if v5 = 0 then f_X7_leastSpeaker_63 a0 x2 x3 x4 x5 σ else some (.inr (.inl x5))
theorem t_X7_leastSpeaker_L27 {M : Mx} {l0 : Launch} (O : Ok M cX7_leastSpeaker yX7_leastSpeaker) (R0 : Rm M l0 4 124 0 0) (N : Ma M = false) (hn : Mn M = 6) (a0 : Nat) (x2 : Int32) (x3 : Int32) (x4 : Int32) (x5 : Int32) (σ : Dt) (o : (Int32 ⊕ (Int32 ⊕ Unit))) (h : f_X7_leastSpeaker_L27 a0 x2 x3 x4 x5 σ = some o) (K : kon (P_X7_leastSpeaker_27 M a0 x2 x3 x4 σ) (E_X7_leastSpeaker_27 M a0 x2 x3 x4 σ) o) : G M 0 0 27 [(0, vA (some a0)), (2, vI x2), (3, vI x3), (4, vI x4), (5, vI x5)] [] SX σ := by
  unfold f_X7_leastSpeaker_L27 at h
  refine g_iload O dX7_leastSpeaker_27 4 rfl ?_
  refine g_bipush (v := (10 : Int32)) O dX7_leastSpeaker_29 rfl ?_
  refine g_icmp_ge O dX7_leastSpeaker_31 rfl (fun c1 => ?_) (fun c1 => ?_)
  · replace h := (if_pos c1).symm.trans h
    refine g_sub [] (lv' := []) rfl ?_
    cases h
    exact K
  · replace h := (if_neg c1).symm.trans h
    refine g_iload O dX7_leastSpeaker_34 3 rfl ?_
    refine g_iload O dX7_leastSpeaker_36 4 rfl ?_
    refine g_ishr O dX7_leastSpeaker_38 ?_
    refine g_iconst (v := (1 : Int32)) O dX7_leastSpeaker_39 rfl ?_
    refine g_iand O dX7_leastSpeaker_40 ?_
    refine g_if_eq O dX7_leastSpeaker_41 rfl (fun c2 => ?_) (fun c2 => ?_)
    · replace h := (if_pos c2).symm.trans h
      exact t_X7_leastSpeaker_63 O R0 N hn a0 x2 x3 x4 x5 σ o h K
    · replace h := (if_neg c2).symm.trans h
      refine g_aload_n O dX7_leastSpeaker_44 rfl 0 rfl ?_
      refine g_iload_n O dX7_leastSpeaker_45 rfl 1 rfl ?_
      refine g_iload_n O dX7_leastSpeaker_46 rfl 2 rfl ?_
      refine g_iconst (v := (1 : Int32)) O dX7_leastSpeaker_47 rfl ?_
      refine g_iload O dX7_leastSpeaker_48 4 rfl ?_
      refine g_ishl O dX7_leastSpeaker_50 ?_
      refine g_iconst (v := (-1 : Int32)) O dX7_leastSpeaker_51 rfl ?_
      refine g_ixor O dX7_leastSpeaker_52 ?_
      refine g_iand O dX7_leastSpeaker_53 ?_
      obtain ⟨a3, e4, h⟩ := bo_some h
      obtain ⟨v5, e6, h⟩ := bo_some h
      refine g_cV1 O R0 N dX7_leastSpeaker_54 vl_X7_38 vv_X7_canSay e4 [vI x2, vI (x3 &&& (((1 : Int32) <<< (x5 &&& 31)) ^^^ (-1 : Int32)))] rfl rfl rfl ⟨Nat.le_of_ble_eq_true rfl, Nat.le_of_ble_eq_true rfl⟩ (c_X7_canSay l0 a3 x2 (x3 &&& (((1 : Int32) <<< (x5 &&& 31)) ^^^ (-1 : Int32))) σ v5 e6) ?_
      refine g_if_eq O dX7_leastSpeaker_57 rfl (fun c7 => ?_) (fun c7 => ?_)
      · replace h := (if_pos c7).symm.trans h
        exact t_X7_leastSpeaker_63 O R0 N hn a0 x2 x3 x4 x5 σ o h K
      · replace h := (if_neg c7).symm.trans h
        refine g_sub [4] (lv' := [(5, vI x5)]) rfl ?_
        cases h
        exact K
def f_X7_leastSpeaker_22 (a0 : Nat) (x2 : Int32) (x3 : Int32) (k0 : Int32) (σ : Dt) : Option Int32 := bo (iter FU (fun s => f_X7_leastSpeaker_L27 a0 x2 x3 k0 s σ) (0 : Int32)) fun w1 => el (fun w3 => some w3) (fun w3 => some (-1 : Int32)) w1
theorem t_X7_leastSpeaker_22 {M : Mx} {l0 : Launch} (O : Ok M cX7_leastSpeaker yX7_leastSpeaker) (R0 : Rm M l0 4 124 0 0) (N : Ma M = false) (hn : Mn M = 6)  (a0 : Nat) (x2 : Int32) (x3 : Int32) (k0 : Int32) (σ : Dt) (o : Int32) (h : f_X7_leastSpeaker_22 a0 x2 x3 k0 σ = some o) (K : Fin' M (some .int) 0 0 SX σ (some (vI o))) : G M 0 0 22 [(0, vA (some a0)), (2, vI x2), (3, vI x3)] [vI k0] SX σ := by
  unfold f_X7_leastSpeaker_22 at h
  refine g_istore (lv' := [(4, vI k0), (0, vA (some a0)), (2, vI x2), (3, vI x3)]) O dX7_leastSpeaker_22 6 hn (by decide) rfl ?_
  refine g_iconst (v := (0 : Int32)) O dX7_leastSpeaker_24 rfl ?_
  refine g_istore (lv' := [(5, vI (0 : Int32)), (4, vI k0), (0, vA (some a0)), (2, vI x2), (3, vI x3)]) O dX7_leastSpeaker_25 6 hn (by decide) rfl ?_
  refine g_sub [2, 3, 4, 1, 0] (lv' := [(0, vA (some a0)), (2, vI x2), (3, vI x3), (4, vI k0), (5, vI (0 : Int32))]) rfl ?_
  obtain ⟨w1, e2, h⟩ := bo_some h
  refine iter_G (P := P_X7_leastSpeaker_27 M a0 x2 x3 k0 σ) (E := E_X7_leastSpeaker_27 M a0 x2 x3 k0 σ) (fun s o hb hk => t_X7_leastSpeaker_L27 O R0 N hn a0 x2 x3 k0 s σ o hb hk) FU (0 : Int32) w1 e2 ?_
  rcases w1 with w3 | w3
  · replace h := el_l h
    show G M 0 0 60 [(5, vI w3)] [] SX σ
    refine g_iload O dX7_leastSpeaker_60 0 rfl ?_
    cases h
    exact g_ireturn O K dX7_leastSpeaker_62
  · replace h := el_r h
    show G M 0 0 69 [] [] SX σ
    refine g_iconst (v := (-1 : Int32)) O dX7_leastSpeaker_69 rfl ?_
    cases h
    exact g_ireturn O K dX7_leastSpeaker_70
def f_X7_leastSpeaker_21 (a0 : Nat) (x2 : Int32) (x3 : Int32) (σ : Dt) : Option Int32 := f_X7_leastSpeaker_22 a0 x2 x3 (0 : Int32) σ
theorem t_X7_leastSpeaker_21 {M : Mx} {l0 : Launch} (O : Ok M cX7_leastSpeaker yX7_leastSpeaker) (R0 : Rm M l0 4 124 0 0) (N : Ma M = false) (hn : Mn M = 6)  (a0 : Nat) (x2 : Int32) (x3 : Int32) (σ : Dt) (o : Int32) (h : f_X7_leastSpeaker_21 a0 x2 x3 σ = some o) (K : Fin' M (some .int) 0 0 SX σ (some (vI o))) : G M 0 0 21 [(0, vA (some a0)), (2, vI x2), (3, vI x3)] [] SX σ := by
  unfold f_X7_leastSpeaker_21 at h
  refine g_iconst (v := (0 : Int32)) O dX7_leastSpeaker_21 rfl ?_
  exact t_X7_leastSpeaker_22 O R0 N hn a0 x2 x3 (0 : Int32) σ o h K
def f_X7_leastSpeaker (a0 : Nat) (x1 : Int32) (x2 : Int32) (x3 : Int32) (σ : Dt) : Option Int32 := if x1 < 0 then f_X7_leastSpeaker_21 a0 x2 x3 σ else if (6 : Int32) ≤ x1 then f_X7_leastSpeaker_21 a0 x2 x3 σ else bo (xgr SX 7 0 (some a0) σ) fun v3 => bo (xai SX v3 x1 σ) fun v5 => f_X7_leastSpeaker_22 a0 x2 x3 (v5 &&& x3) σ
theorem t_X7_leastSpeaker {M : Mx} {l0 : Launch} (O : Ok M cX7_leastSpeaker yX7_leastSpeaker) (R0 : Rm M l0 4 124 0 0) (N : Ma M = false) (hn : Mn M = 6) (a0 : Nat) (x1 : Int32) (x2 : Int32) (x3 : Int32) (σ : Dt) (o : Int32) (h : f_X7_leastSpeaker a0 x1 x2 x3 σ = some o) (K : Fin' M (some .int) 0 0 SX σ (some (vI o))) : G M 0 0 0 [(0, vA (some a0)), (1, vI x1), (2, vI x2), (3, vI x3)] [] SX σ := by
  unfold f_X7_leastSpeaker at h
  refine g_iload_n O dX7_leastSpeaker_0 rfl 1 rfl ?_
  refine g_if_lt O dX7_leastSpeaker_1 rfl (fun c1 => ?_) (fun c1 => ?_)
  · replace h := (if_pos c1).symm.trans h
    refine g_sub [0, 2, 3] (lv' := [(0, vA (some a0)), (2, vI x2), (3, vI x3)]) rfl ?_
    exact t_X7_leastSpeaker_21 O R0 N hn a0 x2 x3 σ o h K
  · replace h := (if_neg c1).symm.trans h
    refine g_iload_n O dX7_leastSpeaker_4 rfl 1 rfl ?_
    refine g_bipush (v := (6 : Int32)) O dX7_leastSpeaker_5 rfl ?_
    refine g_icmp_ge O dX7_leastSpeaker_7 rfl (fun c2 => ?_) (fun c2 => ?_)
    · replace h := (if_pos c2).symm.trans h
      refine g_sub [0, 2, 3] (lv' := [(0, vA (some a0)), (2, vI x2), (3, vI x3)]) rfl ?_
      exact t_X7_leastSpeaker_21 O R0 N hn a0 x2 x3 σ o h K
    · replace h := (if_neg c2).symm.trans h
      refine g_aload_n O dX7_leastSpeaker_10 rfl 0 rfl ?_
      obtain ⟨v3, e4, h⟩ := bo_some h
      refine g_getR O dX7_leastSpeaker_11 fl_X7_9 rfl e4 ?_
      refine g_iload_n O dX7_leastSpeaker_14 rfl 1 rfl ?_
      obtain ⟨v5, e6, h⟩ := bo_some h
      refine g_iaload O dX7_leastSpeaker_15 e6 ?_
      refine g_iload_n O dX7_leastSpeaker_16 rfl 3 rfl ?_
      refine g_iand O dX7_leastSpeaker_17 ?_
      refine g_goto O dX7_leastSpeaker_18 rfl ?_
      refine g_sub [0, 2, 3] (lv' := [(0, vA (some a0)), (2, vI x2), (3, vI x3)]) rfl ?_
      exact t_X7_leastSpeaker_22 O R0 N hn a0 x2 x3 (v5 &&& x3) σ o h K
theorem c_X7_leastSpeaker (l0 : Launch) (a0 : Nat) (x1 : Int32) (x2 : Int32) (x3 : Int32) (σ : Dt) (r : Int32) (h : f_X7_leastSpeaker a0 x1 x2 x3 σ = some r) : Ctr l0 yX7_leastSpeaker cX7_leastSpeaker 6 (some .int) false 4 124 0 0 [vA (some a0), vI x1, vI x2, vI x3] SX σ SX σ (some (vI r)) := ctr_of (by decide) (Nat.le_of_ble_eq_true rfl) (fun M O F R0 N hn => t_X7_leastSpeaker O R0 N hn a0 x1 x2 x3 σ r h F)
def P_X7_speakerOf_13 (M : Mx) (a0 : Nat) (x1 : Int32) (x2 : Int32) (σ : Dt) (s : (Int32 × Int32 × Int32 × Int32)) : Prop := G M 0 0 13 [(0, vA (some a0)), (1, vI x1), (2, vI x2), (3, vI s.1), (4, vI s.2.1), (5, vI s.2.2.1), (6, vI s.2.2.2)] [] SX σ
def E_X7_speakerOf_13 (M : Mx) (a0 : Nat) (x1 : Int32) (x2 : Int32) (σ : Dt) : (Int32 ⊕ Unit) → Prop := (el (fun w => G M 0 0 61 [(7, vI w)] [] SX σ) (fun w => G M 0 0 84 [] [] SX σ))
def f_X7_speakerOf_78 (a0 : Nat) (x1 : Int32) (x2 : Int32) (x3 : Int32) (x4 : Int32) (x5 : Int32) (x6 : Int32) (σ : Dt) : Option ((Int32 × Int32 × Int32 × Int32) ⊕ (Int32 ⊕ Unit)) := some (.inl (x3, x4, x5, (x6 + (1 : Int32))))
theorem t_X7_speakerOf_78 {M : Mx} {l0 : Launch} (O : Ok M cX7_speakerOf yX7_speakerOf) (R0 : Rm M l0 5 149 0 0) (N : Ma M = false) (hn : Mn M = 8)  (a0 : Nat) (x1 : Int32) (x2 : Int32) (x3 : Int32) (x4 : Int32) (x5 : Int32) (x6 : Int32) (σ : Dt) (o : ((Int32 × Int32 × Int32 × Int32) ⊕ (Int32 ⊕ Unit))) (h : f_X7_speakerOf_78 a0 x1 x2 x3 x4 x5 x6 σ = some o) (K : kon (P_X7_speakerOf_13 M a0 x1 x2 σ) (E_X7_speakerOf_13 M a0 x1 x2 σ) o) : G M 0 0 78 [(0, vA (some a0)), (1, vI x1), (2, vI x2), (3, vI x3), (4, vI x4), (5, vI x5), (6, vI x6)] [] SX σ := by
  unfold f_X7_speakerOf_78 at h
  refine g_iinc (v := (x6 + (1 : Int32))) (lv' := [(6, vI (x6 + (1 : Int32))), (0, vA (some a0)), (1, vI x1), (2, vI x2), (3, vI x3), (4, vI x4), (5, vI x5)]) O dX7_speakerOf_78 8 hn (by decide) 6 rfl rfl rfl ?_
  refine g_goto O dX7_speakerOf_81 rfl ?_
  refine g_sub [1, 2, 3, 4, 5, 6, 0] (lv' := [(0, vA (some a0)), (1, vI x1), (2, vI x2), (3, vI x3), (4, vI x4), (5, vI x5), (6, vI (x6 + (1 : Int32)))]) rfl ?_
  cases h
  exact K
def f_X7_speakerOf_L13 (a0 : Nat) (x1 : Int32) (x2 : Int32) (x3 : Int32) (x4 : Int32) (x5 : Int32) (x6 : Int32) (σ : Dt) : Option ((Int32 × Int32 × Int32 × Int32) ⊕ (Int32 ⊕ Unit)) := if (6 : Int32) ≤ x6 then some (.inr (.inr ())) else if ((x1 >>> (x6 &&& 31)) &&& (1 : Int32)) = 0 then f_X7_speakerOf_78 a0 x1 x2 x3 x4 x5 x6 σ else bo (some (x3 &&& (((1 : Int32) <<< (x6 &&& 31)) ^^^ (-1 : Int32)))) fun v3 => bo (xrc SX 7 (some a0)) fun a5 => bo (f_X7_leastSpeaker a5 x6 v3 x4 σ) fun v7 => if v7 = (-1 : Int32) then some (.inr (.inl v7)) else if x5 = x2 then some (.inr (.inl v7)) else bo (some (x4 &&& (((1 : Int32) <<< (v7 &&& 31)) ^^^ (-1 : Int32)))) fun v11 => f_X7_speakerOf_78 a0 x1 x2 v3 v11 (x5 + (1 : Int32)) x6 σ
theorem t_X7_speakerOf_L13 {M : Mx} {l0 : Launch} (O : Ok M cX7_speakerOf yX7_speakerOf) (R0 : Rm M l0 5 149 0 0) (N : Ma M = false) (hn : Mn M = 8) (a0 : Nat) (x1 : Int32) (x2 : Int32) (x3 : Int32) (x4 : Int32) (x5 : Int32) (x6 : Int32) (σ : Dt) (o : ((Int32 × Int32 × Int32 × Int32) ⊕ (Int32 ⊕ Unit))) (h : f_X7_speakerOf_L13 a0 x1 x2 x3 x4 x5 x6 σ = some o) (K : kon (P_X7_speakerOf_13 M a0 x1 x2 σ) (E_X7_speakerOf_13 M a0 x1 x2 σ) o) : G M 0 0 13 [(0, vA (some a0)), (1, vI x1), (2, vI x2), (3, vI x3), (4, vI x4), (5, vI x5), (6, vI x6)] [] SX σ := by
  unfold f_X7_speakerOf_L13 at h
  refine g_iload O dX7_speakerOf_13 6 rfl ?_
  refine g_bipush (v := (6 : Int32)) O dX7_speakerOf_15 rfl ?_
  refine g_icmp_ge O dX7_speakerOf_17 rfl (fun c1 => ?_) (fun c1 => ?_)
  · replace h := (if_pos c1).symm.trans h
    refine g_sub [] (lv' := []) rfl ?_
    cases h
    exact K
  · replace h := (if_neg c1).symm.trans h
    refine g_iload_n O dX7_speakerOf_20 rfl 1 rfl ?_
    refine g_iload O dX7_speakerOf_21 6 rfl ?_
    refine g_ishr O dX7_speakerOf_23 ?_
    refine g_iconst (v := (1 : Int32)) O dX7_speakerOf_24 rfl ?_
    refine g_iand O dX7_speakerOf_25 ?_
    refine g_if_eq O dX7_speakerOf_26 rfl (fun c2 => ?_) (fun c2 => ?_)
    · replace h := (if_pos c2).symm.trans h
      exact t_X7_speakerOf_78 O R0 N hn a0 x1 x2 x3 x4 x5 x6 σ o h K
    · replace h := (if_neg c2).symm.trans h
      refine g_iload_n O dX7_speakerOf_29 rfl 3 rfl ?_
      refine g_iconst (v := (1 : Int32)) O dX7_speakerOf_30 rfl ?_
      refine g_iload O dX7_speakerOf_31 6 rfl ?_
      refine g_ishl O dX7_speakerOf_33 ?_
      refine g_iconst (v := (-1 : Int32)) O dX7_speakerOf_34 rfl ?_
      refine g_ixor O dX7_speakerOf_35 ?_
      refine g_iand O dX7_speakerOf_36 ?_
      obtain ⟨v3, e4, h⟩ := bo_some h
      rw [Option.some.inj e4]
      refine g_istore_n (lv' := [(3, vI v3), (0, vA (some a0)), (1, vI x1), (2, vI x2), (4, vI x4), (5, vI x5), (6, vI x6)]) O dX7_speakerOf_37 rfl 8 hn (by decide) rfl ?_
      refine g_aload_n O dX7_speakerOf_38 rfl 1 rfl ?_
      refine g_iload O dX7_speakerOf_39 6 rfl ?_
      refine g_iload_n O dX7_speakerOf_41 rfl 0 rfl ?_
      refine g_iload O dX7_speakerOf_42 4 rfl ?_
      obtain ⟨a5, e6, h⟩ := bo_some h
      obtain ⟨v7, e8, h⟩ := bo_some h
      refine g_cV1 O R0 N dX7_speakerOf_44 vl_X7_34 vv_X7_leastSpeaker e6 [vI x6, vI v3, vI x4] rfl rfl rfl ⟨Nat.le_of_ble_eq_true rfl, Nat.le_of_ble_eq_true rfl⟩ (c_X7_leastSpeaker l0 a5 x6 v3 x4 σ v7 e8) ?_
      refine g_istore (lv' := [(7, vI v7), (3, vI v3), (0, vA (some a0)), (1, vI x1), (2, vI x2), (4, vI x4), (5, vI x5), (6, vI x6)]) O dX7_speakerOf_47 8 hn (by decide) rfl ?_
      refine g_iload O dX7_speakerOf_49 0 rfl ?_
      refine g_iconst (v := (-1 : Int32)) O dX7_speakerOf_51 rfl ?_
      refine g_icmp_eq O dX7_speakerOf_52 rfl (fun c9 => ?_) (fun c9 => ?_)
      · replace h := (if_pos c9).symm.trans h
        refine g_sub [0] (lv' := [(7, vI v7)]) rfl ?_
        cases h
        exact K
      · replace h := (if_neg c9).symm.trans h
        refine g_iload O dX7_speakerOf_55 6 rfl ?_
        refine g_iload_n O dX7_speakerOf_57 rfl 4 rfl ?_
        refine g_icmp_ne O dX7_speakerOf_58 rfl (fun c10 => ?_) (fun c10 => ?_)
        · replace h := (if_pos c10).symm.trans h
          refine g_sub [0] (lv' := [(7, vI v7)]) rfl ?_
          cases h
          exact K
        · replace h := (if_neg c10).symm.trans h
          refine g_iload O dX7_speakerOf_64 5 rfl ?_
          refine g_iconst (v := (1 : Int32)) O dX7_speakerOf_66 rfl ?_
          refine g_iload O dX7_speakerOf_67 0 rfl ?_
          refine g_ishl O dX7_speakerOf_69 ?_
          refine g_iconst (v := (-1 : Int32)) O dX7_speakerOf_70 rfl ?_
          refine g_ixor O dX7_speakerOf_71 ?_
          refine g_iand O dX7_speakerOf_72 ?_
          obtain ⟨v11, e12, h⟩ := bo_some h
          rw [Option.some.inj e12]
          refine g_istore (lv' := [(4, vI v11), (7, vI v7), (3, vI v3), (0, vA (some a0)), (1, vI x1), (2, vI x2), (5, vI x5), (6, vI x6)]) O dX7_speakerOf_73 8 hn (by decide) rfl ?_
          refine g_iinc (v := (x5 + (1 : Int32))) (lv' := [(5, vI (x5 + (1 : Int32))), (4, vI v11), (7, vI v7), (3, vI v3), (0, vA (some a0)), (1, vI x1), (2, vI x2), (6, vI x6)]) O dX7_speakerOf_75 8 hn (by decide) 6 rfl rfl rfl ?_
          refine g_sub [4, 5, 6, 3, 1, 0, 7] (lv' := [(0, vA (some a0)), (1, vI x1), (2, vI x2), (3, vI v3), (4, vI v11), (5, vI (x5 + (1 : Int32))), (6, vI x6)]) rfl ?_
          exact t_X7_speakerOf_78 O R0 N hn a0 x1 x2 v3 v11 (x5 + (1 : Int32)) x6 σ o h K
def f_X7_speakerOf (a0 : Nat) (x1 : Int32) (x2 : Int32) (σ : Dt) : Option Int32 := bo (iter FU (fun s => f_X7_speakerOf_L13 a0 x1 x2 s.1 s.2.1 s.2.2.1 s.2.2.2 σ) (x1, (1023 : Int32), (0 : Int32), (0 : Int32))) fun w1 => el (fun w3 => some w3) (fun w3 => some (-1 : Int32)) w1
theorem t_X7_speakerOf {M : Mx} {l0 : Launch} (O : Ok M cX7_speakerOf yX7_speakerOf) (R0 : Rm M l0 5 149 0 0) (N : Ma M = false) (hn : Mn M = 8) (a0 : Nat) (x1 : Int32) (x2 : Int32) (σ : Dt) (o : Int32) (h : f_X7_speakerOf a0 x1 x2 σ = some o) (K : Fin' M (some .int) 0 0 SX σ (some (vI o))) : G M 0 0 0 [(0, vA (some a0)), (1, vI x1), (2, vI x2)] [] SX σ := by
  unfold f_X7_speakerOf at h
  refine g_iload_n O dX7_speakerOf_0 rfl 1 rfl ?_
  refine g_istore_n (lv' := [(3, vI x1), (0, vA (some a0)), (1, vI x1), (2, vI x2)]) O dX7_speakerOf_1 rfl 8 hn (by decide) rfl ?_
  refine g_sipush (v := (1023 : Int32)) O dX7_speakerOf_2 rfl ?_
  refine g_istore (lv' := [(4, vI (1023 : Int32)), (3, vI x1), (0, vA (some a0)), (1, vI x1), (2, vI x2)]) O dX7_speakerOf_5 8 hn (by decide) rfl ?_
  refine g_iconst (v := (0 : Int32)) O dX7_speakerOf_7 rfl ?_
  refine g_istore (lv' := [(5, vI (0 : Int32)), (4, vI (1023 : Int32)), (3, vI x1), (0, vA (some a0)), (1, vI x1), (2, vI x2)]) O dX7_speakerOf_8 8 hn (by decide) rfl ?_
  refine g_iconst (v := (0 : Int32)) O dX7_speakerOf_10 rfl ?_
  refine g_istore (lv' := [(6, vI (0 : Int32)), (5, vI (0 : Int32)), (4, vI (1023 : Int32)), (3, vI x1), (0, vA (some a0)), (1, vI x1), (2, vI x2)]) O dX7_speakerOf_11 8 hn (by decide) rfl ?_
  refine g_sub [4, 5, 6, 3, 2, 1, 0] (lv' := [(0, vA (some a0)), (1, vI x1), (2, vI x2), (3, vI x1), (4, vI (1023 : Int32)), (5, vI (0 : Int32)), (6, vI (0 : Int32))]) rfl ?_
  obtain ⟨w1, e2, h⟩ := bo_some h
  refine iter_G (P := P_X7_speakerOf_13 M a0 x1 x2 σ) (E := E_X7_speakerOf_13 M a0 x1 x2 σ) (fun s o hb hk => t_X7_speakerOf_L13 O R0 N hn a0 x1 x2 s.1 s.2.1 s.2.2.1 s.2.2.2 σ o hb hk) FU (x1, (1023 : Int32), (0 : Int32), (0 : Int32)) w1 e2 ?_
  rcases w1 with w3 | w3
  · replace h := el_l h
    show G M 0 0 61 [(7, vI w3)] [] SX σ
    refine g_iload O dX7_speakerOf_61 0 rfl ?_
    cases h
    exact g_ireturn O K dX7_speakerOf_63
  · replace h := el_r h
    show G M 0 0 84 [] [] SX σ
    refine g_iconst (v := (-1 : Int32)) O dX7_speakerOf_84 rfl ?_
    cases h
    exact g_ireturn O K dX7_speakerOf_85
theorem c_X7_speakerOf (l0 : Launch) (a0 : Nat) (x1 : Int32) (x2 : Int32) (σ : Dt) (r : Int32) (h : f_X7_speakerOf a0 x1 x2 σ = some r) : Ctr l0 yX7_speakerOf cX7_speakerOf 8 (some .int) false 5 149 0 0 [vA (some a0), vI x1, vI x2] SX σ SX σ (some (vI r)) := ctr_of (by decide) (Nat.le_of_ble_eq_true rfl) (fun M O F R0 N hn => t_X7_speakerOf O R0 N hn a0 x1 x2 σ r h F)
def f_X11_say (a0 : Nat) (x1 : Int32) (x2 : Int32) (x3 : Int32) (x4 : Int32) (σ : Dt) : Option (Int32 × Dt) := bo (xgr SX 11 0 (some a0) σ) fun v1 => bo (xrc SX 8 v1) fun a3 => bo (f_X8_valleyAt a3 x1 σ) fun v5 => if v5 = none then some ((-1 : Int32), σ) else bo (f_X11_isSpan x3 σ) fun v8 => if v8 = 0 then some ((-1 : Int32), σ) else bo (xrc SX 9 v5) fun a11 => bo (f_X9_allWorks a11 σ) fun v13 => if (x2 &&& (v13 ^^^ (-1 : Int32))) = 0 then bo (xgr SX 11 6 (some a0) σ) fun v16 => bo (xrc SX 7 v16) fun a18 => bd (f_X7_hear a18 v5 x3 σ) fun v20 σ21 => bo (xgr SX 11 6 (some a0) σ21) fun v23 => bo (xrc SX 7 v23) fun a25 => bo (f_X7_canSay a25 x2 (1023 : Int32) σ21) fun v27 => if v27 = 0 then some ((-1 : Int32), σ21) else if x4 = (-1 : Int32) then bo (f_J6_bitCount_0f7a4 x2 σ21) fun v31 => some (v31, σ21) else bo (xgr SX 11 6 (some a0) σ21) fun v33 => bo (xrc SX 7 v33) fun a35 => bo (f_X7_speakerOf a35 x2 x4 σ21) fun v37 => some (v37, σ21) else some ((-1 : Int32), σ)
theorem t_X11_say {M : Mx} {l0 : Launch} (O : Ok M cX11_say yX11_say) (R0 : Rm M l0 6 176 0 0) (N : Ma M = false) (hn : Mn M = 6) (a0 : Nat) (x1 : Int32) (x2 : Int32) (x3 : Int32) (x4 : Int32) (σ : Dt) (o : (Int32 × Dt)) (h : f_X11_say a0 x1 x2 x3 x4 σ = some o) (K : Fin' M (some .int) 0 0 SX o.2 (some (vI o.1))) : G M 0 0 0 [(0, vA (some a0)), (1, vI x1), (2, vI x2), (3, vI x3), (4, vI x4)] [] SX σ := by
  unfold f_X11_say at h
  refine g_aload_n O dX11_say_0 rfl 0 rfl ?_
  obtain ⟨v1, e2, h⟩ := bo_some h
  refine g_getR O dX11_say_1 fl_X11_12 rfl e2 ?_
  refine g_iload_n O dX11_say_4 rfl 1 rfl ?_
  obtain ⟨a3, e4, h⟩ := bo_some h
  obtain ⟨v5, e6, h⟩ := bo_some h
  refine g_cV1 O R0 N dX11_say_5 vl_X11_105 vv_X8_valleyAt e4 [vI x1] rfl rfl rfl ⟨Nat.le_of_ble_eq_true rfl, Nat.le_of_ble_eq_true rfl⟩ (c_X8_valleyAt l0 a3 x1 σ v5 e6) ?_
  refine g_astore (lv' := [(5, vA v5), (0, vA (some a0)), (1, vI x1), (2, vI x2), (3, vI x3), (4, vI x4)]) O dX11_say_8 6 hn (by decide) rfl ?_
  refine g_aload O dX11_say_10 0 rfl ?_
  refine g_ifnull O dX11_say_12 rfl (fun c7 => ?_) (fun c7 => ?_)
  · replace h := (if_pos c7).symm.trans h
    refine g_iconst (v := (-1 : Int32)) O dX11_say_34 rfl ?_
    cases h
    exact g_ireturn O K dX11_say_35
  · replace h := (if_neg c7).symm.trans h
    refine g_iload_n O dX11_say_15 rfl 4 rfl ?_
    obtain ⟨v8, e9, h⟩ := bo_some h
    refine g_cS1 O R0 N dX11_say_16 vl_X11_138 w1027 [vI x3] rfl rfl rfl ⟨Nat.le_of_ble_eq_true rfl, Nat.le_of_ble_eq_true rfl⟩ (c_X11_isSpan l0 x3 σ v8 e9) ?_
    refine g_if_eq O dX11_say_19 rfl (fun c10 => ?_) (fun c10 => ?_)
    · replace h := (if_pos c10).symm.trans h
      refine g_iconst (v := (-1 : Int32)) O dX11_say_34 rfl ?_
      cases h
      exact g_ireturn O K dX11_say_35
    · replace h := (if_neg c10).symm.trans h
      refine g_iload_n O dX11_say_22 rfl 3 rfl ?_
      refine g_aload O dX11_say_23 0 rfl ?_
      obtain ⟨a11, e12, h⟩ := bo_some h
      obtain ⟨v13, e14, h⟩ := bo_some h
      refine g_cV1 O R0 N dX11_say_25 vl_X11_142 vv_X9_allWorks e12 [] rfl rfl rfl ⟨Nat.le_of_ble_eq_true rfl, Nat.le_of_ble_eq_true rfl⟩ (c_X9_allWorks l0 a11 σ v13 e14) ?_
      refine g_iconst (v := (-1 : Int32)) O dX11_say_28 rfl ?_
      refine g_ixor O dX11_say_29 ?_
      refine g_iand O dX11_say_30 ?_
      refine g_if_eq O dX11_say_31 rfl (fun c15 => ?_) (fun c15 => ?_)
      · replace h := (if_pos c15).symm.trans h
        refine g_aload_n O dX11_say_36 rfl 1 rfl ?_
        obtain ⟨v16, e17, h⟩ := bo_some h
        refine g_getR O dX11_say_37 fl_X11_48 rfl e17 ?_
        refine g_aload O dX11_say_40 0 rfl ?_
        refine g_iload_n O dX11_say_42 rfl 4 rfl ?_
        obtain ⟨a18, e19, h⟩ := bo_some h
        obtain ⟨v20, σ21, e22, h⟩ := bd_some h
        refine g_cV0 O R0 N dX11_say_43 vl_X11_146 vv_X7_hear e19 [vA v5, vI x3] rfl rfl rfl ⟨Nat.le_of_ble_eq_true rfl, Nat.le_of_ble_eq_true rfl⟩ (c_X7_hear l0 a18 v5 x3 σ v20 σ21 e22) ?_
        refine g_aload_n O dX11_say_46 rfl 1 rfl ?_
        obtain ⟨v23, e24, h⟩ := bo_some h
        refine g_getR O dX11_say_47 fl_X11_48 rfl e24 ?_
        refine g_iload_n O dX11_say_50 rfl 3 rfl ?_
        refine g_sipush (v := (1023 : Int32)) O dX11_say_51 rfl ?_
        obtain ⟨a25, e26, h⟩ := bo_some h
        obtain ⟨v27, e28, h⟩ := bo_some h
        refine g_cV1 O R0 N dX11_say_54 vl_X11_150 vv_X7_canSay e26 [vI x2, vI (1023 : Int32)] rfl rfl rfl ⟨Nat.le_of_ble_eq_true rfl, Nat.le_of_ble_eq_true rfl⟩ (c_X7_canSay l0 a25 x2 (1023 : Int32) σ21 v27 e28) ?_
        refine g_if_ne O dX11_say_57 rfl (fun c29 => ?_) (fun c29 => ?_)
        · replace h := (if_pos c29).symm.trans h
          refine g_iconst (v := (-1 : Int32)) O dX11_say_60 rfl ?_
          cases h
          exact g_ireturn O K dX11_say_61
        · replace h := (if_neg c29).symm.trans h
          refine g_iload O dX11_say_62 5 rfl ?_
          refine g_iconst (v := (-1 : Int32)) O dX11_say_64 rfl ?_
          refine g_icmp_ne O dX11_say_65 rfl (fun c30 => ?_) (fun c30 => ?_)
          · replace h := (if_pos c30).symm.trans h
            refine g_iload_n O dX11_say_68 rfl 3 rfl ?_
            obtain ⟨v31, e32, h⟩ := bo_some h
            refine g_cS1 O R0 N dX11_say_69 vl_X11_154 w831 [vI x2] rfl rfl rfl ⟨Nat.le_of_ble_eq_true rfl, Nat.le_of_ble_eq_true rfl⟩ (c_J6_bitCount_0f7a4 l0 x2 σ21 v31 e32) ?_
            refine g_goto O dX11_say_72 rfl ?_
            cases h
            exact g_ireturn O K dX11_say_85
          · replace h := (if_neg c30).symm.trans h
            refine g_aload_n O dX11_say_75 rfl 1 rfl ?_
            obtain ⟨v33, e34, h⟩ := bo_some h
            refine g_getR O dX11_say_76 fl_X11_48 rfl e34 ?_
            refine g_iload_n O dX11_say_79 rfl 3 rfl ?_
            refine g_iload O dX11_say_80 5 rfl ?_
            obtain ⟨a35, e36, h⟩ := bo_some h
            obtain ⟨v37, e38, h⟩ := bo_some h
            refine g_cV1 O R0 N dX11_say_82 vl_X11_159 vv_X7_speakerOf e36 [vI x2, vI x4] rfl rfl rfl ⟨Nat.le_of_ble_eq_true rfl, Nat.le_of_ble_eq_true rfl⟩ (c_X7_speakerOf l0 a35 x2 x4 σ21 v37 e38) ?_
            cases h
            exact g_ireturn O K dX11_say_85
      · replace h := (if_neg c15).symm.trans h
        refine g_iconst (v := (-1 : Int32)) O dX11_say_34 rfl ?_
        cases h
        exact g_ireturn O K dX11_say_35
theorem c_X11_say (l0 : Launch) (a0 : Nat) (x1 : Int32) (x2 : Int32) (x3 : Int32) (x4 : Int32) (σ : Dt) (r : Int32) (σ' : Dt) (h : f_X11_say a0 x1 x2 x3 x4 σ = some (r, σ')) : Ctr l0 yX11_say cX11_say 6 (some .int) false 6 176 0 0 [vA (some a0), vI x1, vI x2, vI x3, vI x4] SX σ SX σ' (some (vI r)) := ctr_of (by decide) (Nat.le_of_ble_eq_true rfl) (fun M O F R0 N hn => t_X11_say O R0 N hn a0 x1 x2 x3 x4 σ (r, σ') h F)
def P_X7_lead_36 (M : Mx) (r0 : Option Nat) (r1 : Option Nat) (x2 : Int32) (x3 : Int32) (x4 : Int32) (σ : Dt) (s : (Int32 × Int32)) : Prop := G M 0 0 36 [(0, vA r0), (1, vA r1), (2, vI x2), (3, vI x3), (4, vI x4), (5, vI s.1), (6, vI s.2)] [] SX σ
def E_X7_lead_36 (M : Mx) (r0 : Option Nat) (r1 : Option Nat) (x2 : Int32) (x3 : Int32) (x4 : Int32) (σ : Dt) : Int32 → Prop := (fun w => G M 0 0 136 [(5, vI w)] [] SX σ)
def f_X7_lead_130 (rc : Option Nat → Option Nat → Int32 → Int32 → Int32 → Dt → Option Int32) (r0 : Option Nat) (r1 : Option Nat) (x2 : Int32) (x3 : Int32) (x4 : Int32) (x5 : Int32) (x6 : Int32) (σ : Dt) : Option ((Int32 × Int32) ⊕ Int32) := some (.inl (x5, (x6 + (1 : Int32))))
theorem t_X7_lead_130 {M : Mx} {l0 : Launch} {nn : Nat} {rc : Option Nat → Option Nat → Int32 → Int32 → Int32 → Dt → Option Int32} (hrc : ∀ (r0 : Option Nat) (r1 : Option Nat) (x2 : Int32) (x3 : Int32) (x4 : Int32) (σ : Dt) (r : Int32), rc r0 r1 x2 x3 x4 σ = some r → Ctr l0 yX7_lead cX7_lead 10 (some .int) false (nn + 2) (100 * nn + 200) 0 0 [vA r0, vA r1, vI x2, vI x3, vI x4] SX σ SX σ (some (vI r))) (O : Ok M cX7_lead yX7_lead) (R0 : Rm M l0 (nn + 3) (100 * nn + 300) 0 0) (N : Ma M = false) (hn : Mn M = 10)  (r0 : Option Nat) (r1 : Option Nat) (x2 : Int32) (x3 : Int32) (x4 : Int32) (x5 : Int32) (x6 : Int32) (σ : Dt) (o : ((Int32 × Int32) ⊕ Int32)) (h : f_X7_lead_130 rc r0 r1 x2 x3 x4 x5 x6 σ = some o) (K : kon (P_X7_lead_36 M r0 r1 x2 x3 x4 σ) (E_X7_lead_36 M r0 r1 x2 x3 x4 σ) o) : G M 0 0 130 [(0, vA r0), (1, vA r1), (2, vI x2), (3, vI x3), (4, vI x4), (5, vI x5), (6, vI x6)] [] SX σ := by
  unfold f_X7_lead_130 at h
  refine g_iinc (v := (x6 + (1 : Int32))) (lv' := [(6, vI (x6 + (1 : Int32))), (0, vA r0), (1, vA r1), (2, vI x2), (3, vI x3), (4, vI x4), (5, vI x5)]) O dX7_lead_130 10 hn (by decide) 6 rfl rfl rfl ?_
  refine g_goto O dX7_lead_133 rfl ?_
  refine g_sub [1, 2, 3, 4, 5, 6, 0] (lv' := [(0, vA r0), (1, vA r1), (2, vI x2), (3, vI x3), (4, vI x4), (5, vI x5), (6, vI (x6 + (1 : Int32)))]) rfl ?_
  cases h
  exact K
def f_X7_lead_L36 (rc : Option Nat → Option Nat → Int32 → Int32 → Int32 → Dt → Option Int32) (r0 : Option Nat) (r1 : Option Nat) (x2 : Int32) (x3 : Int32) (x4 : Int32) (x5 : Int32) (x6 : Int32) (σ : Dt) : Option ((Int32 × Int32) ⊕ Int32) := bo (xgi SX 9 1 r0 σ) fun v1 => if v1 ≤ x6 then some (.inr x5) else if (6 : Int32) ≤ x6 then some (.inr x5) else bo (xln SX r1) fun v5 => if v5 ≤ x6 then some (.inr x5) else bo (xai SX r1 x6 σ) fun v8 => if ((x3 >>> (x6 &&& 31)) &&& (1 : Int32)) = 0 then if (v8 &&& (x4 ^^^ (-1 : Int32))) = 0 then f_X7_lead_130 rc r0 r1 x2 x3 x4 x5 x6 σ else bo (some (x4 ||| ((v8 &&& (x4 ^^^ (-1 : Int32))) &&& (-(v8 &&& (x4 ^^^ (-1 : Int32))))))) fun v12 => bo (xgr SX 9 9 r0 σ) fun v14 => bo (xai SX v14 x6 σ) fun v16 => bo (rc r0 r1 (x2 - (1 : Int32)) (x3 ||| ((1 : Int32) <<< (x6 &&& 31))) v12 σ) fun v18 => f_X7_lead_130 rc r0 r1 x2 x3 x4 (mmax x5 (v16 - v18)) x6 σ else f_X7_lead_130 rc r0 r1 x2 x3 x4 x5 x6 σ
theorem t_X7_lead_L36 {M : Mx} {l0 : Launch} {nn : Nat} {rc : Option Nat → Option Nat → Int32 → Int32 → Int32 → Dt → Option Int32} (hrc : ∀ (r0 : Option Nat) (r1 : Option Nat) (x2 : Int32) (x3 : Int32) (x4 : Int32) (σ : Dt) (r : Int32), rc r0 r1 x2 x3 x4 σ = some r → Ctr l0 yX7_lead cX7_lead 10 (some .int) false (nn + 2) (100 * nn + 200) 0 0 [vA r0, vA r1, vI x2, vI x3, vI x4] SX σ SX σ (some (vI r))) (O : Ok M cX7_lead yX7_lead) (R0 : Rm M l0 (nn + 3) (100 * nn + 300) 0 0) (N : Ma M = false) (hn : Mn M = 10) (r0 : Option Nat) (r1 : Option Nat) (x2 : Int32) (x3 : Int32) (x4 : Int32) (x5 : Int32) (x6 : Int32) (σ : Dt) (o : ((Int32 × Int32) ⊕ Int32)) (h : f_X7_lead_L36 rc r0 r1 x2 x3 x4 x5 x6 σ = some o) (K : kon (P_X7_lead_36 M r0 r1 x2 x3 x4 σ) (E_X7_lead_36 M r0 r1 x2 x3 x4 σ) o) : G M 0 0 36 [(0, vA r0), (1, vA r1), (2, vI x2), (3, vI x3), (4, vI x4), (5, vI x5), (6, vI x6)] [] SX σ := by
  unfold f_X7_lead_L36 at h
  refine g_iload O dX7_lead_36 6 rfl ?_
  refine g_aload_n O dX7_lead_38 rfl 0 rfl ?_
  obtain ⟨v1, e2, h⟩ := bo_some h
  refine g_getI O dX7_lead_39 fl_X7_50 rfl e2 ?_
  refine g_icmp_ge O dX7_lead_42 rfl (fun c3 => ?_) (fun c3 => ?_)
  · replace h := (if_pos c3).symm.trans h
    refine g_sub [5] (lv' := [(5, vI x5)]) rfl ?_
    cases h
    exact K
  · replace h := (if_neg c3).symm.trans h
    refine g_iload O dX7_lead_45 6 rfl ?_
    refine g_bipush (v := (6 : Int32)) O dX7_lead_47 rfl ?_
    refine g_icmp_ge O dX7_lead_49 rfl (fun c4 => ?_) (fun c4 => ?_)
    · replace h := (if_pos c4).symm.trans h
      refine g_sub [5] (lv' := [(5, vI x5)]) rfl ?_
      cases h
      exact K
    · replace h := (if_neg c4).symm.trans h
      refine g_iload O dX7_lead_52 6 rfl ?_
      refine g_aload_n O dX7_lead_54 rfl 1 rfl ?_
      obtain ⟨v5, e6, h⟩ := bo_some h
      refine g_alen O dX7_lead_55 e6 ?_
      refine g_icmp_ge O dX7_lead_56 rfl (fun c7 => ?_) (fun c7 => ?_)
      · replace h := (if_pos c7).symm.trans h
        refine g_sub [5] (lv' := [(5, vI x5)]) rfl ?_
        cases h
        exact K
      · replace h := (if_neg c7).symm.trans h
        refine g_aload_n O dX7_lead_59 rfl 1 rfl ?_
        refine g_iload O dX7_lead_60 6 rfl ?_
        obtain ⟨v8, e9, h⟩ := bo_some h
        refine g_iaload O dX7_lead_62 e9 ?_
        refine g_iload O dX7_lead_63 4 rfl ?_
        refine g_iconst (v := (-1 : Int32)) O dX7_lead_65 rfl ?_
        refine g_ixor O dX7_lead_66 ?_
        refine g_iand O dX7_lead_67 ?_
        refine g_istore (lv' := [(7, vI (v8 &&& (x4 ^^^ (-1 : Int32)))), (0, vA r0), (1, vA r1), (2, vI x2), (3, vI x3), (4, vI x4), (5, vI x5), (6, vI x6)]) O dX7_lead_68 10 hn (by decide) rfl ?_
        refine g_iload_n O dX7_lead_70 rfl 4 rfl ?_
        refine g_iload O dX7_lead_71 7 rfl ?_
        refine g_ishr O dX7_lead_73 ?_
        refine g_iconst (v := (1 : Int32)) O dX7_lead_74 rfl ?_
        refine g_iand O dX7_lead_75 ?_
        refine g_if_ne O dX7_lead_76 rfl (fun c10 => ?_) (fun c10 => ?_)
        · replace h := (if_pos c10).symm.trans h
          refine g_iload O dX7_lead_79 0 rfl ?_
          refine g_if_eq O dX7_lead_81 rfl (fun c11 => ?_) (fun c11 => ?_)
          · replace h := (if_pos c11).symm.trans h
            refine g_sub [1, 2, 3, 4, 5, 6, 7] (lv' := [(0, vA r0), (1, vA r1), (2, vI x2), (3, vI x3), (4, vI x4), (5, vI x5), (6, vI x6)]) rfl ?_
            exact t_X7_lead_130 hrc O R0 N hn r0 r1 x2 x3 x4 x5 x6 σ o h K
          · replace h := (if_neg c11).symm.trans h
            refine g_iload O dX7_lead_84 5 rfl ?_
            refine g_iload O dX7_lead_86 0 rfl ?_
            refine g_iload O dX7_lead_88 0 rfl ?_
            refine g_ineg O dX7_lead_90 ?_
            refine g_iand O dX7_lead_91 ?_
            refine g_ior O dX7_lead_92 ?_
            obtain ⟨v12, e13, h⟩ := bo_some h
            rw [Option.some.inj e13]
            refine g_istore (lv' := [(8, vI v12), (7, vI (v8 &&& (x4 ^^^ (-1 : Int32)))), (0, vA r0), (1, vA r1), (2, vI x2), (3, vI x3), (4, vI x4), (5, vI x5), (6, vI x6)]) O dX7_lead_93 10 hn (by decide) rfl ?_
            refine g_aload_n O dX7_lead_95 rfl 2 rfl ?_
            obtain ⟨v14, e15, h⟩ := bo_some h
            refine g_getR O dX7_lead_96 fl_X7_53 rfl e15 ?_
            refine g_iload O dX7_lead_99 8 rfl ?_
            obtain ⟨v16, e17, h⟩ := bo_some h
            refine g_iaload O dX7_lead_101 e17 ?_
            refine g_aload_n O dX7_lead_102 rfl 2 rfl ?_
            refine g_aload_n O dX7_lead_103 rfl 3 rfl ?_
            refine g_iload_n O dX7_lead_104 rfl 4 rfl ?_
            refine g_iconst (v := (1 : Int32)) O dX7_lead_105 rfl ?_
            refine g_isub O dX7_lead_106 ?_
            refine g_iload_n O dX7_lead_107 rfl 5 rfl ?_
            refine g_iconst (v := (1 : Int32)) O dX7_lead_108 rfl ?_
            refine g_iload O dX7_lead_109 8 rfl ?_
            refine g_ishl O dX7_lead_111 ?_
            refine g_ior O dX7_lead_112 ?_
            refine g_iload O dX7_lead_113 0 rfl ?_
            obtain ⟨v18, e19, h⟩ := bo_some h
            refine g_cS1 O R0 N dX7_lead_115 vl_X7_56 w1062 [vA r0, vA r1, vI (x2 - (1 : Int32)), vI (x3 ||| ((1 : Int32) <<< (x6 &&& 31))), vI v12] rfl rfl rfl ⟨by omega, by omega⟩ (hrc r0 r1 (x2 - (1 : Int32)) (x3 ||| ((1 : Int32) <<< (x6 &&& 31))) v12 σ v18 e19) ?_
            refine g_isub O dX7_lead_118 ?_
            refine g_istore (lv' := [(9, vI (v16 - v18)), (8, vI v12), (7, vI (v8 &&& (x4 ^^^ (-1 : Int32)))), (0, vA r0), (1, vA r1), (2, vI x2), (3, vI x3), (4, vI x4), (5, vI x5), (6, vI x6)]) O dX7_lead_119 10 hn (by decide) rfl ?_
            refine g_iload O dX7_lead_121 8 rfl ?_
            refine g_iload O dX7_lead_123 0 rfl ?_
            refine g_mmax O R0 dX7_lead_125 w1064 ⟨Nat.le_of_ble_eq_true rfl, Nat.le_of_ble_eq_true rfl⟩ ?_
            refine g_istore (lv' := [(5, vI (mmax x5 (v16 - v18))), (9, vI (v16 - v18)), (8, vI v12), (7, vI (v8 &&& (x4 ^^^ (-1 : Int32)))), (0, vA r0), (1, vA r1), (2, vI x2), (3, vI x3), (4, vI x4), (6, vI x6)]) O dX7_lead_128 10 hn (by decide) rfl ?_
            refine g_sub [4, 5, 6, 7, 8, 0, 9] (lv' := [(0, vA r0), (1, vA r1), (2, vI x2), (3, vI x3), (4, vI x4), (5, vI (mmax x5 (v16 - v18))), (6, vI x6)]) rfl ?_
            exact t_X7_lead_130 hrc O R0 N hn r0 r1 x2 x3 x4 (mmax x5 (v16 - v18)) x6 σ o h K
        · replace h := (if_neg c10).symm.trans h
          refine g_sub [1, 2, 3, 4, 5, 6, 7] (lv' := [(0, vA r0), (1, vA r1), (2, vI x2), (3, vI x3), (4, vI x4), (5, vI x5), (6, vI x6)]) rfl ?_
          exact t_X7_lead_130 hrc O R0 N hn r0 r1 x2 x3 x4 x5 x6 σ o h K
def f_X7_lead_B (rc : Option Nat → Option Nat → Int32 → Int32 → Int32 → Dt → Option Int32) (r0 : Option Nat) (r1 : Option Nat) (x2 : Int32) (x3 : Int32) (x4 : Int32) (σ : Dt) : Option Int32 := if r0 = none then some (0 : Int32) else if r1 = none then some (0 : Int32) else if x2 ≤ 0 then some (0 : Int32) else if x2 ≤ (4 : Int32) then bo (rc r0 r1 (x2 - (1 : Int32)) x3 x4 σ) fun v5 => bo (iter FU (fun s => f_X7_lead_L36 rc r0 r1 x2 x3 x4 s.1 s.2 σ) ((-v5), (0 : Int32))) fun w7 => some w7 else some (0 : Int32)
theorem t_X7_lead_B {M : Mx} {l0 : Launch} {nn : Nat} {rc : Option Nat → Option Nat → Int32 → Int32 → Int32 → Dt → Option Int32} (hrc : ∀ (r0 : Option Nat) (r1 : Option Nat) (x2 : Int32) (x3 : Int32) (x4 : Int32) (σ : Dt) (r : Int32), rc r0 r1 x2 x3 x4 σ = some r → Ctr l0 yX7_lead cX7_lead 10 (some .int) false (nn + 2) (100 * nn + 200) 0 0 [vA r0, vA r1, vI x2, vI x3, vI x4] SX σ SX σ (some (vI r))) (O : Ok M cX7_lead yX7_lead) (R0 : Rm M l0 (nn + 3) (100 * nn + 300) 0 0) (N : Ma M = false) (hn : Mn M = 10) (r0 : Option Nat) (r1 : Option Nat) (x2 : Int32) (x3 : Int32) (x4 : Int32) (σ : Dt) (o : Int32) (h : f_X7_lead_B rc r0 r1 x2 x3 x4 σ = some o) (K : Fin' M (some .int) 0 0 SX σ (some (vI o))) : G M 0 0 0 [(0, vA r0), (1, vA r1), (2, vI x2), (3, vI x3), (4, vI x4)] [] SX σ := by
  unfold f_X7_lead_B at h
  refine g_aload_n O dX7_lead_0 rfl 0 rfl ?_
  refine g_ifnull O dX7_lead_1 rfl (fun c1 => ?_) (fun c1 => ?_)
  · replace h := (if_pos c1).symm.trans h
    refine g_iconst (v := (0 : Int32)) O dX7_lead_17 rfl ?_
    cases h
    exact g_ireturn O K dX7_lead_18
  · replace h := (if_neg c1).symm.trans h
    refine g_aload_n O dX7_lead_4 rfl 1 rfl ?_
    refine g_ifnull O dX7_lead_5 rfl (fun c2 => ?_) (fun c2 => ?_)
    · replace h := (if_pos c2).symm.trans h
      refine g_iconst (v := (0 : Int32)) O dX7_lead_17 rfl ?_
      cases h
      exact g_ireturn O K dX7_lead_18
    · replace h := (if_neg c2).symm.trans h
      refine g_iload_n O dX7_lead_8 rfl 2 rfl ?_
      refine g_if_le O dX7_lead_9 rfl (fun c3 => ?_) (fun c3 => ?_)
      · replace h := (if_pos c3).symm.trans h
        refine g_iconst (v := (0 : Int32)) O dX7_lead_17 rfl ?_
        cases h
        exact g_ireturn O K dX7_lead_18
      · replace h := (if_neg c3).symm.trans h
        refine g_iload_n O dX7_lead_12 rfl 2 rfl ?_
        refine g_iconst (v := (4 : Int32)) O dX7_lead_13 rfl ?_
        refine g_icmp_le O dX7_lead_14 rfl (fun c4 => ?_) (fun c4 => ?_)
        · replace h := (if_pos c4).symm.trans h
          refine g_aload_n O dX7_lead_19 rfl 0 rfl ?_
          refine g_aload_n O dX7_lead_20 rfl 1 rfl ?_
          refine g_iload_n O dX7_lead_21 rfl 2 rfl ?_
          refine g_iconst (v := (1 : Int32)) O dX7_lead_22 rfl ?_
          refine g_isub O dX7_lead_23 ?_
          refine g_iload_n O dX7_lead_24 rfl 3 rfl ?_
          refine g_iload O dX7_lead_25 4 rfl ?_
          obtain ⟨v5, e6, h⟩ := bo_some h
          refine g_cS1 O R0 N dX7_lead_27 vl_X7_56 w1062 [vA r0, vA r1, vI (x2 - (1 : Int32)), vI x3, vI x4] rfl rfl rfl ⟨by omega, by omega⟩ (hrc r0 r1 (x2 - (1 : Int32)) x3 x4 σ v5 e6) ?_
          refine g_ineg O dX7_lead_30 ?_
          refine g_istore (lv' := [(5, vI (-v5)), (0, vA r0), (1, vA r1), (2, vI x2), (3, vI x3), (4, vI x4)]) O dX7_lead_31 10 hn (by decide) rfl ?_
          refine g_iconst (v := (0 : Int32)) O dX7_lead_33 rfl ?_
          refine g_istore (lv' := [(6, vI (0 : Int32)), (5, vI (-v5)), (0, vA r0), (1, vA r1), (2, vI x2), (3, vI x3), (4, vI x4)]) O dX7_lead_34 10 hn (by decide) rfl ?_
          refine g_sub [2, 3, 4, 5, 6, 1, 0] (lv' := [(0, vA r0), (1, vA r1), (2, vI x2), (3, vI x3), (4, vI x4), (5, vI (-v5)), (6, vI (0 : Int32))]) rfl ?_
          obtain ⟨w7, e8, h⟩ := bo_some h
          refine iter_G (P := P_X7_lead_36 M r0 r1 x2 x3 x4 σ) (E := E_X7_lead_36 M r0 r1 x2 x3 x4 σ) (fun s o hb hk => t_X7_lead_L36 hrc O R0 N hn r0 r1 x2 x3 x4 s.1 s.2 σ o hb hk) FU ((-v5), (0 : Int32)) w7 e8 ?_
          show G M 0 0 136 [(5, vI w7)] [] SX σ
          refine g_iload O dX7_lead_136 0 rfl ?_
          cases h
          exact g_ireturn O K dX7_lead_138
        · replace h := (if_neg c4).symm.trans h
          refine g_iconst (v := (0 : Int32)) O dX7_lead_17 rfl ?_
          cases h
          exact g_ireturn O K dX7_lead_18
def f_X7_lead : Nat → Option Nat → Option Nat → Int32 → Int32 → Int32 → Dt → Option Int32
  | 0, _, _, _, _, _, _ => none
  | nn + 1, r0, r1, x2, x3, x4, σ => f_X7_lead_B (f_X7_lead nn) r0 r1 x2 x3 x4 σ
theorem c_X7_lead (l0 : Launch) : ∀ (nn : Nat) (r0 : Option Nat) (r1 : Option Nat) (x2 : Int32) (x3 : Int32) (x4 : Int32) (σ : Dt) (r : Int32) (h : f_X7_lead nn r0 r1 x2 x3 x4 σ = some r), Ctr l0 yX7_lead cX7_lead 10 (some .int) false (nn + 2) (100 * nn + 200) 0 0 [vA r0, vA r1, vI x2, vI x3, vI x4] SX σ SX σ (some (vI r))
  | 0, _, _, _, _, _, _, _, h => by cases h
  | nn + 1, r0, r1, x2, x3, x4, σ, r, h => by
    have e1 : 100 * (nn + 1) + 200 = 100 * nn + 300 := by omega
    rw [e1]
    exact ctr_of (by decide) (Nat.le_of_ble_eq_true rfl) (fun M O F R0 N hn => t_X7_lead_B (fun r0 r1 x2 x3 x4 σ r h => c_X7_lead l0 nn r0 r1 x2 x3 x4 σ r h) O R0 N hn r0 r1 x2 x3 x4 σ r h F)
