def P_X8_put_3 (M : Mx) (a0 : Nat) (x1 : Int32) (s : (Int32 × Dt)) : Prop := G M 0 0 3 [(0, vA (some a0)), (1, vI x1), (2, vI s.1)] [] SX s.2
def E_X8_put_3 (M : Mx) (a0 : Nat) (x1 : Int32) : Dt → Prop := (fun w => G M 0 0 56 [] [] SX w)
def f_X8_put_50 (a0 : Nat) (x1 : Int32) (x2 : Int32) (σ : Dt) : Option ((Int32 × Dt) ⊕ Dt) := some (.inl ((x2 + (-8 : Int32)), σ))
theorem t_X8_put_50 {M : Mx} {l0 : Launch} (O : Ok M cX8_put yX8_put) (R0 : Rm M l0 2 80 0 0) (N : Ma M = false) (hn : Mn M = 3)  (a0 : Nat) (x1 : Int32) (x2 : Int32) (σ : Dt) (o : ((Int32 × Dt) ⊕ Dt)) (h : f_X8_put_50 a0 x1 x2 σ = some o) (K : kon (P_X8_put_3 M a0 x1) (E_X8_put_3 M a0 x1) o) : G M 0 0 50 [(0, vA (some a0)), (1, vI x1), (2, vI x2)] [] SX σ := by
  unfold f_X8_put_50 at h
  refine g_iinc (v := (x2 + (-8 : Int32))) (lv' := [(2, vI (x2 + (-8 : Int32))), (0, vA (some a0)), (1, vI x1)]) O dX8_put_50 3 hn (by decide) 2 rfl rfl rfl ?_
  refine g_goto O dX8_put_53 rfl ?_
  refine g_sub [1, 2, 0] (lv' := [(0, vA (some a0)), (1, vI x1), (2, vI (x2 + (-8 : Int32)))]) rfl ?_
  cases h
  exact K
def f_X8_put_L3 (a0 : Nat) (x1 : Int32) (x2 : Int32) (σ : Dt) : Option ((Int32 × Dt) ⊕ Dt) := if x2 < 0 then some (.inr σ) else bo (xgi SX 8 1 (some a0) σ) fun v2 => if v2 < 0 then f_X8_put_50 a0 x1 x2 σ else bo (xgi SX 8 1 (some a0) σ) fun v5 => if (600 : Int32) ≤ v5 then f_X8_put_50 a0 x1 x2 σ else bo (xgr SX 8 0 (some a0) σ) fun v8 => bo (xgi SX 8 1 (some a0) σ) fun v10 => bo (xsi SX v8 v10 (((Int32.toUInt32 x1 >>> (Int32.toUInt32 x2 &&& Int32.toUInt32 31)).toInt32) &&& (255 : Int32)) σ) fun σ12 => bo (xgi SX 8 1 (some a0) σ12) fun v14 => bo (xpi SX 8 1 (some a0) (v14 + (1 : Int32)) σ12) fun σ16 => f_X8_put_50 a0 x1 x2 σ16
theorem t_X8_put_L3 {M : Mx} {l0 : Launch} (O : Ok M cX8_put yX8_put) (R0 : Rm M l0 2 80 0 0) (N : Ma M = false) (hn : Mn M = 3) (a0 : Nat) (x1 : Int32) (x2 : Int32) (σ : Dt) (o : ((Int32 × Dt) ⊕ Dt)) (h : f_X8_put_L3 a0 x1 x2 σ = some o) (K : kon (P_X8_put_3 M a0 x1) (E_X8_put_3 M a0 x1) o) : G M 0 0 3 [(0, vA (some a0)), (1, vI x1), (2, vI x2)] [] SX σ := by
  unfold f_X8_put_L3 at h
  refine g_iload_n O dX8_put_3 rfl 2 rfl ?_
  refine g_if_lt O dX8_put_4 rfl (fun c1 => ?_) (fun c1 => ?_)
  · replace h := (if_pos c1).symm.trans h
    refine g_sub [] (lv' := []) rfl ?_
    cases h
    exact K
  · replace h := (if_neg c1).symm.trans h
    refine g_aload_n O dX8_put_7 rfl 0 rfl ?_
    obtain ⟨v2, e3, h⟩ := bo_some h
    refine g_getI O dX8_put_8 fl_X8_15 rfl e3 ?_
    refine g_if_lt O dX8_put_11 rfl (fun c4 => ?_) (fun c4 => ?_)
    · replace h := (if_pos c4).symm.trans h
      exact t_X8_put_50 O R0 N hn a0 x1 x2 σ o h K
    · replace h := (if_neg c4).symm.trans h
      refine g_aload_n O dX8_put_14 rfl 0 rfl ?_
      obtain ⟨v5, e6, h⟩ := bo_some h
      refine g_getI O dX8_put_15 fl_X8_15 rfl e6 ?_
      refine g_sipush (v := (600 : Int32)) O dX8_put_18 rfl ?_
      refine g_icmp_ge O dX8_put_21 rfl (fun c7 => ?_) (fun c7 => ?_)
      · replace h := (if_pos c7).symm.trans h
        exact t_X8_put_50 O R0 N hn a0 x1 x2 σ o h K
      · replace h := (if_neg c7).symm.trans h
        refine g_aload_n O dX8_put_24 rfl 0 rfl ?_
        obtain ⟨v8, e9, h⟩ := bo_some h
        refine g_getR O dX8_put_25 fl_X8_9 rfl e9 ?_
        refine g_aload_n O dX8_put_28 rfl 0 rfl ?_
        obtain ⟨v10, e11, h⟩ := bo_some h
        refine g_getI O dX8_put_29 fl_X8_15 rfl e11 ?_
        refine g_iload_n O dX8_put_32 rfl 1 rfl ?_
        refine g_iload_n O dX8_put_33 rfl 2 rfl ?_
        refine g_iushr O dX8_put_34 ?_
        refine g_sipush (v := (255 : Int32)) O dX8_put_35 rfl ?_
        refine g_iand O dX8_put_38 ?_
        obtain ⟨σ12, e13, h⟩ := bo_some h
        refine g_iastore O dX8_put_39 e13 ?_
        refine g_aload_n O dX8_put_40 rfl 0 rfl ?_
        refine g_dup O dX8_put_41 rfl ?_
        obtain ⟨v14, e15, h⟩ := bo_some h
        refine g_getI O dX8_put_42 fl_X8_15 rfl e15 ?_
        refine g_iconst (v := (1 : Int32)) O dX8_put_45 rfl ?_
        refine g_iadd O dX8_put_46 ?_
        obtain ⟨σ16, e17, h⟩ := bo_some h
        refine g_putI O dX8_put_47 fl_X8_15 (Or.inl rfl) rfl e17 ?_
        exact t_X8_put_50 O R0 N hn a0 x1 x2 σ16 o h K
def f_X8_put (a0 : Nat) (x1 : Int32) (σ : Dt) : Option (Unit × Dt) := bo (iter FU (fun s => f_X8_put_L3 a0 x1 s.1 s.2) ((24 : Int32), σ)) fun w1 => some ((), w1)
theorem t_X8_put {M : Mx} {l0 : Launch} (O : Ok M cX8_put yX8_put) (R0 : Rm M l0 2 80 0 0) (N : Ma M = false) (hn : Mn M = 3) (a0 : Nat) (x1 : Int32) (σ : Dt) (o : (Unit × Dt)) (h : f_X8_put a0 x1 σ = some o) (K : Fin' M (none) 0 0 SX o.2 (none)) : G M 0 0 0 [(0, vA (some a0)), (1, vI x1)] [] SX σ := by
  unfold f_X8_put at h
  refine g_bipush (v := (24 : Int32)) O dX8_put_0 rfl ?_
  refine g_istore_n (lv' := [(2, vI (24 : Int32)), (0, vA (some a0)), (1, vI x1)]) O dX8_put_2 rfl 3 hn (by decide) rfl ?_
  refine g_sub [1, 2, 0] (lv' := [(0, vA (some a0)), (1, vI x1), (2, vI (24 : Int32))]) rfl ?_
  obtain ⟨w1, e2, h⟩ := bo_some h
  refine iter_G (P := P_X8_put_3 M a0 x1) (E := E_X8_put_3 M a0 x1) (fun s o hb hk => t_X8_put_L3 O R0 N hn a0 x1 s.1 s.2 o hb hk) FU ((24 : Int32), σ) w1 e2 ?_
  show G M 0 0 56 [] [] SX w1
  cases h
  exact g_return O K dX8_put_56
theorem c_X8_put (l0 : Launch) (a0 : Nat) (x1 : Int32) (σ : Dt) (r : Unit) (σ' : Dt) (h : f_X8_put a0 x1 σ = some (r, σ')) : Ctr l0 yX8_put cX8_put 3 (none) false 2 80 0 0 [vA (some a0), vI x1] SX σ SX σ' (none) := ctr_of (by decide) (Nat.le_of_ble_eq_true rfl) (fun M O F R0 N hn => t_X8_put O R0 N hn a0 x1 σ (r, σ') h F)
def f_X11_feed (a0 : Nat) (x1 : Int32) (x2 : Int32) (x3 : Int32) (x4 : Int32) (x5 : Int32) (σ : Dt) : Option (Int32 × Dt) := bo (xgr SX 11 0 (some a0) σ) fun v1 => bo (xgi SX 8 1 v1 σ) fun v3 => if (v3 + (20 : Int32)) ≤ (600 : Int32) then bo (xgr SX 11 0 (some a0) σ) fun v6 => bo (xrc SX 8 v6) fun a8 => bd (f_X8_put a8 x1 σ) fun v10 σ11 => bo (xgr SX 11 0 (some a0) σ11) fun v13 => bo (xrc SX 8 v13) fun a15 => bd (f_X8_put a15 x2 σ11) fun v17 σ18 => bo (xgr SX 11 0 (some a0) σ18) fun v20 => bo (xrc SX 8 v20) fun a22 => bd (f_X8_put a22 x3 σ18) fun v24 σ25 => bo (xgr SX 11 0 (some a0) σ25) fun v27 => bo (xrc SX 8 v27) fun a29 => bd (f_X8_put a29 x4 σ25) fun v31 σ32 => bo (xgr SX 11 0 (some a0) σ32) fun v34 => bo (xrc SX 8 v34) fun a36 => bd (f_X8_put a36 x5 σ32) fun v38 σ39 => bo (xgr SX 11 0 (some a0) σ39) fun v41 => bo (xgi SX 8 1 v41 σ39) fun v43 => some (v43, σ39) else some ((-1 : Int32), σ)
theorem t_X11_feed {M : Mx} {l0 : Launch} (O : Ok M cX11_feed yX11_feed) (R0 : Rm M l0 3 102 0 0) (N : Ma M = false) (hn : Mn M = 6) (a0 : Nat) (x1 : Int32) (x2 : Int32) (x3 : Int32) (x4 : Int32) (x5 : Int32) (σ : Dt) (o : (Int32 × Dt)) (h : f_X11_feed a0 x1 x2 x3 x4 x5 σ = some o) (K : Fin' M (some .int) 0 0 SX o.2 (some (vI o.1))) : G M 0 0 0 [(0, vA (some a0)), (1, vI x1), (2, vI x2), (3, vI x3), (4, vI x4), (5, vI x5)] [] SX σ := by
  unfold f_X11_feed at h
  refine g_aload_n O dX11_feed_0 rfl 0 rfl ?_
  obtain ⟨v1, e2, h⟩ := bo_some h
  refine g_getR O dX11_feed_1 fl_X11_12 rfl e2 ?_
  obtain ⟨v3, e4, h⟩ := bo_some h
  refine g_getI O dX11_feed_4 fl_X11_73 rfl e4 ?_
  refine g_bipush (v := (20 : Int32)) O dX11_feed_7 rfl ?_
  refine g_iadd O dX11_feed_9 ?_
  refine g_sipush (v := (600 : Int32)) O dX11_feed_10 rfl ?_
  refine g_icmp_le O dX11_feed_13 rfl (fun c5 => ?_) (fun c5 => ?_)
  · replace h := (if_pos c5).symm.trans h
    refine g_aload_n O dX11_feed_18 rfl 0 rfl ?_
    obtain ⟨v6, e7, h⟩ := bo_some h
    refine g_getR O dX11_feed_19 fl_X11_12 rfl e7 ?_
    refine g_iload_n O dX11_feed_22 rfl 1 rfl ?_
    obtain ⟨a8, e9, h⟩ := bo_some h
    obtain ⟨v10, σ11, e12, h⟩ := bd_some h
    refine g_cV0 O R0 N dX11_feed_23 vl_X11_77 vv_X8_put e9 [vI x1] rfl rfl rfl ⟨Nat.le_of_ble_eq_true rfl, Nat.le_of_ble_eq_true rfl⟩ (c_X8_put l0 a8 x1 σ v10 σ11 e12) ?_
    refine g_aload_n O dX11_feed_26 rfl 0 rfl ?_
    obtain ⟨v13, e14, h⟩ := bo_some h
    refine g_getR O dX11_feed_27 fl_X11_12 rfl e14 ?_
    refine g_iload_n O dX11_feed_30 rfl 2 rfl ?_
    obtain ⟨a15, e16, h⟩ := bo_some h
    obtain ⟨v17, σ18, e19, h⟩ := bd_some h
    refine g_cV0 O R0 N dX11_feed_31 vl_X11_77 vv_X8_put e16 [vI x2] rfl rfl rfl ⟨Nat.le_of_ble_eq_true rfl, Nat.le_of_ble_eq_true rfl⟩ (c_X8_put l0 a15 x2 σ11 v17 σ18 e19) ?_
    refine g_aload_n O dX11_feed_34 rfl 0 rfl ?_
    obtain ⟨v20, e21, h⟩ := bo_some h
    refine g_getR O dX11_feed_35 fl_X11_12 rfl e21 ?_
    refine g_iload_n O dX11_feed_38 rfl 3 rfl ?_
    obtain ⟨a22, e23, h⟩ := bo_some h
    obtain ⟨v24, σ25, e26, h⟩ := bd_some h
    refine g_cV0 O R0 N dX11_feed_39 vl_X11_77 vv_X8_put e23 [vI x3] rfl rfl rfl ⟨Nat.le_of_ble_eq_true rfl, Nat.le_of_ble_eq_true rfl⟩ (c_X8_put l0 a22 x3 σ18 v24 σ25 e26) ?_
    refine g_aload_n O dX11_feed_42 rfl 0 rfl ?_
    obtain ⟨v27, e28, h⟩ := bo_some h
    refine g_getR O dX11_feed_43 fl_X11_12 rfl e28 ?_
    refine g_iload O dX11_feed_46 4 rfl ?_
    obtain ⟨a29, e30, h⟩ := bo_some h
    obtain ⟨v31, σ32, e33, h⟩ := bd_some h
    refine g_cV0 O R0 N dX11_feed_48 vl_X11_77 vv_X8_put e30 [vI x4] rfl rfl rfl ⟨Nat.le_of_ble_eq_true rfl, Nat.le_of_ble_eq_true rfl⟩ (c_X8_put l0 a29 x4 σ25 v31 σ32 e33) ?_
    refine g_aload_n O dX11_feed_51 rfl 0 rfl ?_
    obtain ⟨v34, e35, h⟩ := bo_some h
    refine g_getR O dX11_feed_52 fl_X11_12 rfl e35 ?_
    refine g_iload O dX11_feed_55 5 rfl ?_
    obtain ⟨a36, e37, h⟩ := bo_some h
    obtain ⟨v38, σ39, e40, h⟩ := bd_some h
    refine g_cV0 O R0 N dX11_feed_57 vl_X11_77 vv_X8_put e37 [vI x5] rfl rfl rfl ⟨Nat.le_of_ble_eq_true rfl, Nat.le_of_ble_eq_true rfl⟩ (c_X8_put l0 a36 x5 σ32 v38 σ39 e40) ?_
    refine g_aload_n O dX11_feed_60 rfl 0 rfl ?_
    obtain ⟨v41, e42, h⟩ := bo_some h
    refine g_getR O dX11_feed_61 fl_X11_12 rfl e42 ?_
    obtain ⟨v43, e44, h⟩ := bo_some h
    refine g_getI O dX11_feed_64 fl_X11_73 rfl e44 ?_
    cases h
    exact g_ireturn O K dX11_feed_67
  · replace h := (if_neg c5).symm.trans h
    refine g_iconst (v := (-1 : Int32)) O dX11_feed_16 rfl ?_
    cases h
    exact g_ireturn O K dX11_feed_17
theorem c_X11_feed (l0 : Launch) (a0 : Nat) (x1 : Int32) (x2 : Int32) (x3 : Int32) (x4 : Int32) (x5 : Int32) (σ : Dt) (r : Int32) (σ' : Dt) (h : f_X11_feed a0 x1 x2 x3 x4 x5 σ = some (r, σ')) : Ctr l0 yX11_feed cX11_feed 6 (some .int) false 3 102 0 0 [vA (some a0), vI x1, vI x2, vI x3, vI x4, vI x5] SX σ SX σ' (some (vI r)) := ctr_of (by decide) (Nat.le_of_ble_eq_true rfl) (fun M O F R0 N hn => t_X11_feed O R0 N hn a0 x1 x2 x3 x4 x5 σ (r, σ') h F)
def f_X11_end (a0 : Nat) (x1 : Int32) (σ : Dt) : Option (Int32 × Dt) := if x1 < 0 then some ((-1 : Int32), σ) else bo (xgr SX 11 0 (some a0) σ) fun v2 => bo (xgi SX 8 1 v2 σ) fun v4 => if x1 ≤ v4 then bo (xgr SX 11 0 (some a0) σ) fun v7 => bo (xpi SX 8 1 v7 x1 σ) fun σ9 => some (x1, σ9) else some ((-1 : Int32), σ)
theorem t_X11_end {M : Mx} {l0 : Launch} (O : Ok M cX11_end yX11_end) (R0 : Rm M l0 2 80 0 0) (N : Ma M = false) (hn : Mn M = 2) (a0 : Nat) (x1 : Int32) (σ : Dt) (o : (Int32 × Dt)) (h : f_X11_end a0 x1 σ = some o) (K : Fin' M (some .int) 0 0 SX o.2 (some (vI o.1))) : G M 0 0 0 [(0, vA (some a0)), (1, vI x1)] [] SX σ := by
  unfold f_X11_end at h
  refine g_iload_n O dX11_end_0 rfl 1 rfl ?_
  refine g_if_lt O dX11_end_1 rfl (fun c1 => ?_) (fun c1 => ?_)
  · replace h := (if_pos c1).symm.trans h
    refine g_iconst (v := (-1 : Int32)) O dX11_end_15 rfl ?_
    cases h
    exact g_ireturn O K dX11_end_16
  · replace h := (if_neg c1).symm.trans h
    refine g_iload_n O dX11_end_4 rfl 1 rfl ?_
    refine g_aload_n O dX11_end_5 rfl 0 rfl ?_
    obtain ⟨v2, e3, h⟩ := bo_some h
    refine g_getR O dX11_end_6 fl_X11_12 rfl e3 ?_
    obtain ⟨v4, e5, h⟩ := bo_some h
    refine g_getI O dX11_end_9 fl_X11_73 rfl e5 ?_
    refine g_icmp_le O dX11_end_12 rfl (fun c6 => ?_) (fun c6 => ?_)
    · replace h := (if_pos c6).symm.trans h
      refine g_aload_n O dX11_end_17 rfl 0 rfl ?_
      obtain ⟨v7, e8, h⟩ := bo_some h
      refine g_getR O dX11_end_18 fl_X11_12 rfl e8 ?_
      refine g_iload_n O dX11_end_21 rfl 1 rfl ?_
      obtain ⟨σ9, e10, h⟩ := bo_some h
      refine g_putI O dX11_end_22 fl_X11_73 (Or.inl rfl) rfl e10 ?_
      refine g_iload_n O dX11_end_25 rfl 1 rfl ?_
      cases h
      exact g_ireturn O K dX11_end_26
    · replace h := (if_neg c6).symm.trans h
      refine g_iconst (v := (-1 : Int32)) O dX11_end_15 rfl ?_
      cases h
      exact g_ireturn O K dX11_end_16
theorem c_X11_end (l0 : Launch) (a0 : Nat) (x1 : Int32) (σ : Dt) (r : Int32) (σ' : Dt) (h : f_X11_end a0 x1 σ = some (r, σ')) : Ctr l0 yX11_end cX11_end 2 (some .int) false 2 80 0 0 [vA (some a0), vI x1] SX σ SX σ' (some (vI r)) := ctr_of (by decide) (Nat.le_of_ble_eq_true rfl) (fun M O F R0 N hn => t_X11_end O R0 N hn a0 x1 σ (r, σ') h F)
def f_X8_howMany_18  (σ : Dt) : Option Int32 := some (-2 : Int32)
theorem t_X8_howMany_18 {M : Mx} {l0 : Launch} (O : Ok M cX8_howMany yX8_howMany) (R0 : Rm M l0 2 80 0 0) (N : Ma M = false) (hn : Mn M = 2)   (σ : Dt) (o : Int32) (h : f_X8_howMany_18 σ = some o) (K : Fin' M (some .int) 0 0 SX σ (some (vI o))) : G M 0 0 18 [] [] SX σ := by
  unfold f_X8_howMany_18 at h
  refine g_bipush (v := (-2 : Int32)) O dX8_howMany_18 rfl ?_
  cases h
  exact g_ireturn O K dX8_howMany_20
def f_X8_howMany (a0 : Nat) (x1 : Int32) (σ : Dt) : Option Int32 := if x1 < 0 then f_X8_howMany_18 σ else if (3 : Int32) ≤ x1 then f_X8_howMany_18 σ else bo (xgr SX 8 7 (some a0) σ) fun v3 => bo (xai SX v3 x1 σ) fun v5 => some v5
theorem t_X8_howMany {M : Mx} {l0 : Launch} (O : Ok M cX8_howMany yX8_howMany) (R0 : Rm M l0 2 80 0 0) (N : Ma M = false) (hn : Mn M = 2) (a0 : Nat) (x1 : Int32) (σ : Dt) (o : Int32) (h : f_X8_howMany a0 x1 σ = some o) (K : Fin' M (some .int) 0 0 SX σ (some (vI o))) : G M 0 0 0 [(0, vA (some a0)), (1, vI x1)] [] SX σ := by
  unfold f_X8_howMany at h
  refine g_iload_n O dX8_howMany_0 rfl 1 rfl ?_
  refine g_if_lt O dX8_howMany_1 rfl (fun c1 => ?_) (fun c1 => ?_)
  · replace h := (if_pos c1).symm.trans h
    refine g_sub [] (lv' := []) rfl ?_
    exact t_X8_howMany_18 O R0 N hn σ o h K
  · replace h := (if_neg c1).symm.trans h
    refine g_iload_n O dX8_howMany_4 rfl 1 rfl ?_
    refine g_iconst (v := (3 : Int32)) O dX8_howMany_5 rfl ?_
    refine g_icmp_ge O dX8_howMany_6 rfl (fun c2 => ?_) (fun c2 => ?_)
    · replace h := (if_pos c2).symm.trans h
      refine g_sub [] (lv' := []) rfl ?_
      exact t_X8_howMany_18 O R0 N hn σ o h K
    · replace h := (if_neg c2).symm.trans h
      refine g_aload_n O dX8_howMany_9 rfl 0 rfl ?_
      obtain ⟨v3, e4, h⟩ := bo_some h
      refine g_getR O dX8_howMany_10 fl_X8_46 rfl e4 ?_
      refine g_iload_n O dX8_howMany_13 rfl 1 rfl ?_
      obtain ⟨v5, e6, h⟩ := bo_some h
      refine g_iaload O dX8_howMany_14 e6 ?_
      refine g_goto O dX8_howMany_15 rfl ?_
      cases h
      exact g_ireturn O K dX8_howMany_20
theorem c_X8_howMany (l0 : Launch) (a0 : Nat) (x1 : Int32) (σ : Dt) (r : Int32) (h : f_X8_howMany a0 x1 σ = some r) : Ctr l0 yX8_howMany cX8_howMany 2 (some .int) false 2 80 0 0 [vA (some a0), vI x1] SX σ SX σ (some (vI r)) := ctr_of (by decide) (Nat.le_of_ble_eq_true rfl) (fun M O F R0 N hn => t_X8_howMany O R0 N hn a0 x1 σ r h F)
def P_X9_clear_18 (M : Mx) (a0 : Nat) (s : (Int32 × Dt)) : Prop := G M 0 0 18 [(0, vA (some a0)), (1, vI s.1)] [] SX s.2
def E_X9_clear_18 (M : Mx) (a0 : Nat) : Dt → Prop := (fun w => G M 0 0 37 [] [] SX w)
def f_X9_clear_L18 (a0 : Nat) (x1 : Int32) (σ : Dt) : Option ((Int32 × Dt) ⊕ Dt) := if (10 : Int32) ≤ x1 then some (.inr σ) else bo (xgr SX 9 5 (some a0) σ) fun v2 => bo (xsi SX v2 x1 (0 : Int32) σ) fun σ4 => some (.inl ((x1 + (1 : Int32)), σ4))
theorem t_X9_clear_L18 {M : Mx} {l0 : Launch} (O : Ok M cX9_clear yX9_clear) (R0 : Rm M l0 2 80 0 0) (N : Ma M = false) (hn : Mn M = 2) (a0 : Nat) (x1 : Int32) (σ : Dt) (o : ((Int32 × Dt) ⊕ Dt)) (h : f_X9_clear_L18 a0 x1 σ = some o) (K : kon (P_X9_clear_18 M a0) (E_X9_clear_18 M a0) o) : G M 0 0 18 [(0, vA (some a0)), (1, vI x1)] [] SX σ := by
  unfold f_X9_clear_L18 at h
  refine g_iload_n O dX9_clear_18 rfl 1 rfl ?_
  refine g_bipush (v := (10 : Int32)) O dX9_clear_19 rfl ?_
  refine g_icmp_ge O dX9_clear_21 rfl (fun c1 => ?_) (fun c1 => ?_)
  · replace h := (if_pos c1).symm.trans h
    refine g_sub [] (lv' := []) rfl ?_
    cases h
    exact K
  · replace h := (if_neg c1).symm.trans h
    refine g_aload_n O dX9_clear_24 rfl 0 rfl ?_
    obtain ⟨v2, e3, h⟩ := bo_some h
    refine g_getR O dX9_clear_25 fl_X9_18 rfl e3 ?_
    refine g_iload_n O dX9_clear_28 rfl 1 rfl ?_
    refine g_iconst (v := (0 : Int32)) O dX9_clear_29 rfl ?_
    obtain ⟨σ4, e5, h⟩ := bo_some h
    refine g_iastore O dX9_clear_30 e5 ?_
    refine g_iinc (v := (x1 + (1 : Int32))) (lv' := [(1, vI (x1 + (1 : Int32))), (0, vA (some a0))]) O dX9_clear_31 2 hn (by decide) 1 rfl rfl rfl ?_
    refine g_goto O dX9_clear_34 rfl ?_
    refine g_sub [1, 0] (lv' := [(0, vA (some a0)), (1, vI (x1 + (1 : Int32)))]) rfl ?_
    cases h
    exact K
def f_X9_clear (a0 : Nat) (σ : Dt) : Option (Unit × Dt) := bo (xpi SX 9 0 (some a0) (0 : Int32) σ) fun σ1 => bo (xpi SX 9 1 (some a0) (0 : Int32) σ1) fun σ3 => bo (xpi SX 9 2 (some a0) (20 : Int32) σ3) fun σ5 => bo (iter FU (fun s => f_X9_clear_L18 a0 s.1 s.2) ((0 : Int32), σ5)) fun w7 => some ((), w7)
theorem t_X9_clear {M : Mx} {l0 : Launch} (O : Ok M cX9_clear yX9_clear) (R0 : Rm M l0 2 80 0 0) (N : Ma M = false) (hn : Mn M = 2) (a0 : Nat) (σ : Dt) (o : (Unit × Dt)) (h : f_X9_clear a0 σ = some o) (K : Fin' M (none) 0 0 SX o.2 (none)) : G M 0 0 0 [(0, vA (some a0))] [] SX σ := by
  unfold f_X9_clear at h
  refine g_aload_n O dX9_clear_0 rfl 0 rfl ?_
  refine g_iconst (v := (0 : Int32)) O dX9_clear_1 rfl ?_
  obtain ⟨σ1, e2, h⟩ := bo_some h
  refine g_putI O dX9_clear_2 fl_X9_33 (Or.inl rfl) rfl e2 ?_
  refine g_aload_n O dX9_clear_5 rfl 0 rfl ?_
  refine g_iconst (v := (0 : Int32)) O dX9_clear_6 rfl ?_
  obtain ⟨σ3, e4, h⟩ := bo_some h
  refine g_putI O dX9_clear_7 fl_X9_37 (Or.inl rfl) rfl e4 ?_
  refine g_aload_n O dX9_clear_10 rfl 0 rfl ?_
  refine g_bipush (v := (20 : Int32)) O dX9_clear_11 rfl ?_
  obtain ⟨σ5, e6, h⟩ := bo_some h
  refine g_putI O dX9_clear_13 fl_X9_40 (Or.inl rfl) rfl e6 ?_
  refine g_iconst (v := (0 : Int32)) O dX9_clear_16 rfl ?_
  refine g_istore_n (lv' := [(1, vI (0 : Int32)), (0, vA (some a0))]) O dX9_clear_17 rfl 2 hn (by decide) rfl ?_
  refine g_sub [1, 0] (lv' := [(0, vA (some a0)), (1, vI (0 : Int32))]) rfl ?_
  obtain ⟨w7, e8, h⟩ := bo_some h
  refine iter_G (P := P_X9_clear_18 M a0) (E := E_X9_clear_18 M a0) (fun s o hb hk => t_X9_clear_L18 O R0 N hn a0 s.1 s.2 o hb hk) FU ((0 : Int32), σ5) w7 e8 ?_
  show G M 0 0 37 [] [] SX w7
  cases h
  exact g_return O K dX9_clear_37
theorem c_X9_clear (l0 : Launch) (a0 : Nat) (σ : Dt) (r : Unit) (σ' : Dt) (h : f_X9_clear a0 σ = some (r, σ')) : Ctr l0 yX9_clear cX9_clear 2 (none) false 2 80 0 0 [vA (some a0)] SX σ SX σ' (none) := ctr_of (by decide) (Nat.le_of_ble_eq_true rfl) (fun M O F R0 N hn => t_X9_clear O R0 N hn a0 σ (r, σ') h F)
def f_X5_byteAt_37  (σ : Dt) : Option Int32 := some (-1 : Int32)
theorem t_X5_byteAt_37 {M : Mx} {l0 : Launch} (O : Ok M cX5_byteAt yX5_byteAt) (R0 : Rm M l0 2 80 0 0) (N : Ma M = false) (hn : Mn M = 2)   (σ : Dt) (o : Int32) (h : f_X5_byteAt_37 σ = some o) (K : Fin' M (some .int) 0 0 SX σ (some (vI o))) : G M 0 0 37 [] [] SX σ := by
  unfold f_X5_byteAt_37 at h
  refine g_iconst (v := (-1 : Int32)) O dX5_byteAt_37 rfl ?_
  cases h
  exact g_ireturn O K dX5_byteAt_38
def f_X5_byteAt (a0 : Nat) (x1 : Int32) (σ : Dt) : Option Int32 := bo (xgr SX 5 5 (some a0) σ) fun v1 => if v1 = none then f_X5_byteAt_37 σ else if x1 < 0 then f_X5_byteAt_37 σ else bo (xgi SX 5 6 (some a0) σ) fun v5 => if v5 ≤ x1 then f_X5_byteAt_37 σ else bo (xgr SX 5 5 (some a0) σ) fun v8 => bo (xln SX v8) fun v10 => if v10 ≤ x1 then f_X5_byteAt_37 σ else bo (xgr SX 5 5 (some a0) σ) fun v13 => bo (xai SX v13 x1 σ) fun v15 => some v15
theorem t_X5_byteAt {M : Mx} {l0 : Launch} (O : Ok M cX5_byteAt yX5_byteAt) (R0 : Rm M l0 2 80 0 0) (N : Ma M = false) (hn : Mn M = 2) (a0 : Nat) (x1 : Int32) (σ : Dt) (o : Int32) (h : f_X5_byteAt a0 x1 σ = some o) (K : Fin' M (some .int) 0 0 SX σ (some (vI o))) : G M 0 0 0 [(0, vA (some a0)), (1, vI x1)] [] SX σ := by
  unfold f_X5_byteAt at h
  refine g_aload_n O dX5_byteAt_0 rfl 0 rfl ?_
  obtain ⟨v1, e2, h⟩ := bo_some h
  refine g_getR O dX5_byteAt_1 fl_X5_39 rfl e2 ?_
  refine g_ifnull O dX5_byteAt_4 rfl (fun c3 => ?_) (fun c3 => ?_)
  · replace h := (if_pos c3).symm.trans h
    refine g_sub [] (lv' := []) rfl ?_
    exact t_X5_byteAt_37 O R0 N hn σ o h K
  · replace h := (if_neg c3).symm.trans h
    refine g_iload_n O dX5_byteAt_7 rfl 1 rfl ?_
    refine g_if_lt O dX5_byteAt_8 rfl (fun c4 => ?_) (fun c4 => ?_)
    · replace h := (if_pos c4).symm.trans h
      refine g_sub [] (lv' := []) rfl ?_
      exact t_X5_byteAt_37 O R0 N hn σ o h K
    · replace h := (if_neg c4).symm.trans h
      refine g_iload_n O dX5_byteAt_11 rfl 1 rfl ?_
      refine g_aload_n O dX5_byteAt_12 rfl 0 rfl ?_
      obtain ⟨v5, e6, h⟩ := bo_some h
      refine g_getI O dX5_byteAt_13 fl_X5_58 rfl e6 ?_
      refine g_icmp_ge O dX5_byteAt_16 rfl (fun c7 => ?_) (fun c7 => ?_)
      · replace h := (if_pos c7).symm.trans h
        refine g_sub [] (lv' := []) rfl ?_
        exact t_X5_byteAt_37 O R0 N hn σ o h K
      · replace h := (if_neg c7).symm.trans h
        refine g_iload_n O dX5_byteAt_19 rfl 1 rfl ?_
        refine g_aload_n O dX5_byteAt_20 rfl 0 rfl ?_
        obtain ⟨v8, e9, h⟩ := bo_some h
        refine g_getR O dX5_byteAt_21 fl_X5_39 rfl e9 ?_
        obtain ⟨v10, e11, h⟩ := bo_some h
        refine g_alen O dX5_byteAt_24 e11 ?_
        refine g_icmp_ge O dX5_byteAt_25 rfl (fun c12 => ?_) (fun c12 => ?_)
        · replace h := (if_pos c12).symm.trans h
          refine g_sub [] (lv' := []) rfl ?_
          exact t_X5_byteAt_37 O R0 N hn σ o h K
        · replace h := (if_neg c12).symm.trans h
          refine g_aload_n O dX5_byteAt_28 rfl 0 rfl ?_
          obtain ⟨v13, e14, h⟩ := bo_some h
          refine g_getR O dX5_byteAt_29 fl_X5_39 rfl e14 ?_
          refine g_iload_n O dX5_byteAt_32 rfl 1 rfl ?_
          obtain ⟨v15, e16, h⟩ := bo_some h
          refine g_iaload O dX5_byteAt_33 e16 ?_
          refine g_goto O dX5_byteAt_34 rfl ?_
          cases h
          exact g_ireturn O K dX5_byteAt_38
theorem c_X5_byteAt (l0 : Launch) (a0 : Nat) (x1 : Int32) (σ : Dt) (r : Int32) (h : f_X5_byteAt a0 x1 σ = some r) : Ctr l0 yX5_byteAt cX5_byteAt 2 (some .int) false 2 80 0 0 [vA (some a0), vI x1] SX σ SX σ (some (vI r)) := ctr_of (by decide) (Nat.le_of_ble_eq_true rfl) (fun M O F R0 N hn => t_X5_byteAt O R0 N hn a0 x1 σ r h F)
def f_X5_isLetter_16  (σ : Dt) : Option Int32 := some (0 : Int32)
theorem t_X5_isLetter_16 {M : Mx} {l0 : Launch} (O : Ok M cX5_isLetter yX5_isLetter) (R0 : Rm M l0 2 80 0 0) (N : Ma M = false) (hn : Mn M = 1)   (σ : Dt) (o : Int32) (h : f_X5_isLetter_16 σ = some o) (K : Fin' M (some .boolean) 0 0 SX σ (some (vI o))) : G M 0 0 16 [] [] SX σ := by
  unfold f_X5_isLetter_16 at h
  refine g_iconst (v := (0 : Int32)) O dX5_isLetter_16 rfl ?_
  cases h
  exact g_zreturn O (by decide) K dX5_isLetter_17
def f_X5_isLetter (x0 : Int32) (σ : Dt) : Option Int32 := if x0 < (97 : Int32) then f_X5_isLetter_16 σ else if (122 : Int32) < x0 then f_X5_isLetter_16 σ else some (1 : Int32)
theorem t_X5_isLetter {M : Mx} {l0 : Launch} (O : Ok M cX5_isLetter yX5_isLetter) (R0 : Rm M l0 2 80 0 0) (N : Ma M = false) (hn : Mn M = 1) (x0 : Int32) (σ : Dt) (o : Int32) (h : f_X5_isLetter x0 σ = some o) (K : Fin' M (some .boolean) 0 0 SX σ (some (vI o))) : G M 0 0 0 [(0, vI x0)] [] SX σ := by
  unfold f_X5_isLetter at h
  refine g_iload_n O dX5_isLetter_0 rfl 0 rfl ?_
  refine g_bipush (v := (97 : Int32)) O dX5_isLetter_1 rfl ?_
  refine g_icmp_lt O dX5_isLetter_3 rfl (fun c1 => ?_) (fun c1 => ?_)
  · replace h := (if_pos c1).symm.trans h
    refine g_sub [] (lv' := []) rfl ?_
    exact t_X5_isLetter_16 O R0 N hn σ o h K
  · replace h := (if_neg c1).symm.trans h
    refine g_iload_n O dX5_isLetter_6 rfl 0 rfl ?_
    refine g_bipush (v := (122 : Int32)) O dX5_isLetter_7 rfl ?_
    refine g_icmp_gt O dX5_isLetter_9 rfl (fun c2 => ?_) (fun c2 => ?_)
    · replace h := (if_pos c2).symm.trans h
      refine g_sub [] (lv' := []) rfl ?_
      exact t_X5_isLetter_16 O R0 N hn σ o h K
    · replace h := (if_neg c2).symm.trans h
      refine g_iconst (v := (1 : Int32)) O dX5_isLetter_12 rfl ?_
      refine g_goto O dX5_isLetter_13 rfl ?_
      cases h
      exact g_zreturn O (by decide) K dX5_isLetter_17
theorem c_X5_isLetter (l0 : Launch) (x0 : Int32) (σ : Dt) (r : Int32) (h : f_X5_isLetter x0 σ = some r) : Ctr l0 yX5_isLetter cX5_isLetter 1 (some .boolean) false 2 80 0 0 [vI x0] SX σ SX σ (some (vI r)) := ctr_of (by decide) (Nat.le_of_ble_eq_true rfl) (fun M O F R0 N hn => t_X5_isLetter O R0 N hn x0 σ r h F)
def f_X5_isDigit_16  (σ : Dt) : Option Int32 := some (0 : Int32)
theorem t_X5_isDigit_16 {M : Mx} {l0 : Launch} (O : Ok M cX5_isDigit yX5_isDigit) (R0 : Rm M l0 2 80 0 0) (N : Ma M = false) (hn : Mn M = 1)   (σ : Dt) (o : Int32) (h : f_X5_isDigit_16 σ = some o) (K : Fin' M (some .boolean) 0 0 SX σ (some (vI o))) : G M 0 0 16 [] [] SX σ := by
  unfold f_X5_isDigit_16 at h
  refine g_iconst (v := (0 : Int32)) O dX5_isDigit_16 rfl ?_
  cases h
  exact g_zreturn O (by decide) K dX5_isDigit_17
def f_X5_isDigit (x0 : Int32) (σ : Dt) : Option Int32 := if x0 < (48 : Int32) then f_X5_isDigit_16 σ else if (57 : Int32) < x0 then f_X5_isDigit_16 σ else some (1 : Int32)
theorem t_X5_isDigit {M : Mx} {l0 : Launch} (O : Ok M cX5_isDigit yX5_isDigit) (R0 : Rm M l0 2 80 0 0) (N : Ma M = false) (hn : Mn M = 1) (x0 : Int32) (σ : Dt) (o : Int32) (h : f_X5_isDigit x0 σ = some o) (K : Fin' M (some .boolean) 0 0 SX σ (some (vI o))) : G M 0 0 0 [(0, vI x0)] [] SX σ := by
  unfold f_X5_isDigit at h
  refine g_iload_n O dX5_isDigit_0 rfl 0 rfl ?_
  refine g_bipush (v := (48 : Int32)) O dX5_isDigit_1 rfl ?_
  refine g_icmp_lt O dX5_isDigit_3 rfl (fun c1 => ?_) (fun c1 => ?_)
  · replace h := (if_pos c1).symm.trans h
    refine g_sub [] (lv' := []) rfl ?_
    exact t_X5_isDigit_16 O R0 N hn σ o h K
  · replace h := (if_neg c1).symm.trans h
    refine g_iload_n O dX5_isDigit_6 rfl 0 rfl ?_
    refine g_bipush (v := (57 : Int32)) O dX5_isDigit_7 rfl ?_
    refine g_icmp_gt O dX5_isDigit_9 rfl (fun c2 => ?_) (fun c2 => ?_)
    · replace h := (if_pos c2).symm.trans h
      refine g_sub [] (lv' := []) rfl ?_
      exact t_X5_isDigit_16 O R0 N hn σ o h K
    · replace h := (if_neg c2).symm.trans h
      refine g_iconst (v := (1 : Int32)) O dX5_isDigit_12 rfl ?_
      refine g_goto O dX5_isDigit_13 rfl ?_
      cases h
      exact g_zreturn O (by decide) K dX5_isDigit_17
theorem c_X5_isDigit (l0 : Launch) (x0 : Int32) (σ : Dt) (r : Int32) (h : f_X5_isDigit x0 σ = some r) : Ctr l0 yX5_isDigit cX5_isDigit 1 (some .boolean) false 2 80 0 0 [vI x0] SX σ SX σ (some (vI r)) := ctr_of (by decide) (Nat.le_of_ble_eq_true rfl) (fun M O F R0 N hn => t_X5_isDigit O R0 N hn x0 σ r h F)
def P_X5_nextToken_105 (M : Mx) (a0 : Nat) (s : Dt) : Prop := G M 0 0 105 [(0, vA (some a0))] [] SX s
def E_X5_nextToken_105 (M : Mx) (a0 : Nat) : Dt → Prop := (fun w => G M 0 0 143 [] [] SX w)
def f_X5_nextToken_L105 (a0 : Nat) (σ : Dt) : Option (Dt ⊕ Dt) := bo (xgi SX 5 9 (some a0) σ) fun v1 => bo (xgi SX 5 6 (some a0) σ) fun v3 => if v3 ≤ v1 then some (.inr σ) else bo (xgi SX 5 9 (some a0) σ) fun v6 => bo (xrc SX 5 (some a0)) fun a8 => bo (f_X5_byteAt a8 v6 σ) fun v10 => bo (f_X5_isLetter v10 σ) fun v12 => if v12 = 0 then some (.inr σ) else bo (xgi SX 5 9 (some a0) σ) fun v15 => bo (xpi SX 5 9 (some a0) (v15 + (1 : Int32)) σ) fun σ17 => some (.inl σ17)
theorem t_X5_nextToken_L105 {M : Mx} {l0 : Launch} (O : Ok M cX5_nextToken yX5_nextToken) (R0 : Rm M l0 3 101 0 0) (N : Ma M = false) (hn : Mn M = 2) (a0 : Nat) (σ : Dt) (o : (Dt ⊕ Dt)) (h : f_X5_nextToken_L105 a0 σ = some o) (K : kon (P_X5_nextToken_105 M a0) (E_X5_nextToken_105 M a0) o) : G M 0 0 105 [(0, vA (some a0))] [] SX σ := by
  unfold f_X5_nextToken_L105 at h
  refine g_aload_n O dX5_nextToken_105 rfl 0 rfl ?_
  obtain ⟨v1, e2, h⟩ := bo_some h
  refine g_getI O dX5_nextToken_106 fl_X5_64 rfl e2 ?_
  refine g_aload_n O dX5_nextToken_109 rfl 0 rfl ?_
  obtain ⟨v3, e4, h⟩ := bo_some h
  refine g_getI O dX5_nextToken_110 fl_X5_58 rfl e4 ?_
  refine g_icmp_ge O dX5_nextToken_113 rfl (fun c5 => ?_) (fun c5 => ?_)
  · replace h := (if_pos c5).symm.trans h
    refine g_sub [] (lv' := []) rfl ?_
    cases h
    exact K
  · replace h := (if_neg c5).symm.trans h
    refine g_aload_n O dX5_nextToken_116 rfl 0 rfl ?_
    refine g_aload_n O dX5_nextToken_117 rfl 0 rfl ?_
    obtain ⟨v6, e7, h⟩ := bo_some h
    refine g_getI O dX5_nextToken_118 fl_X5_64 rfl e7 ?_
    obtain ⟨a8, e9, h⟩ := bo_some h
    obtain ⟨v10, e11, h⟩ := bo_some h
    refine g_cV1 O R0 N dX5_nextToken_121 vl_X5_120 vv_X5_byteAt e9 [vI v6] rfl rfl rfl ⟨Nat.le_of_ble_eq_true rfl, Nat.le_of_ble_eq_true rfl⟩ (c_X5_byteAt l0 a8 v6 σ v10 e11) ?_
    obtain ⟨v12, e13, h⟩ := bo_some h
    refine g_cS1 O R0 N dX5_nextToken_124 vl_X5_123 w698 [vI v10] rfl rfl rfl ⟨Nat.le_of_ble_eq_true rfl, Nat.le_of_ble_eq_true rfl⟩ (c_X5_isLetter l0 v10 σ v12 e13) ?_
    refine g_if_eq O dX5_nextToken_127 rfl (fun c14 => ?_) (fun c14 => ?_)
    · replace h := (if_pos c14).symm.trans h
      refine g_sub [] (lv' := []) rfl ?_
      cases h
      exact K
    · replace h := (if_neg c14).symm.trans h
      refine g_aload_n O dX5_nextToken_130 rfl 0 rfl ?_
      refine g_dup O dX5_nextToken_131 rfl ?_
      obtain ⟨v15, e16, h⟩ := bo_some h
      refine g_getI O dX5_nextToken_132 fl_X5_64 rfl e16 ?_
      refine g_iconst (v := (1 : Int32)) O dX5_nextToken_135 rfl ?_
      refine g_iadd O dX5_nextToken_136 ?_
      obtain ⟨σ17, e18, h⟩ := bo_some h
      refine g_putI O dX5_nextToken_137 fl_X5_64 (Or.inl rfl) rfl e18 ?_
      refine g_goto O dX5_nextToken_140 rfl ?_
      cases h
      exact K
def P_X5_nextToken_152 (M : Mx) (a0 : Nat) (s : Dt) : Prop := G M 0 0 152 [(0, vA (some a0))] [] SX s
def E_X5_nextToken_152 (M : Mx) (a0 : Nat) : Dt → Prop := (fun w => G M 0 0 190 [(0, vA (some a0))] [] SX w)
def f_X5_nextToken_L152 (a0 : Nat) (σ : Dt) : Option (Dt ⊕ Dt) := bo (xgi SX 5 9 (some a0) σ) fun v1 => bo (xgi SX 5 6 (some a0) σ) fun v3 => if v3 ≤ v1 then some (.inr σ) else bo (xgi SX 5 9 (some a0) σ) fun v6 => bo (xrc SX 5 (some a0)) fun a8 => bo (f_X5_byteAt a8 v6 σ) fun v10 => bo (f_X5_isDigit v10 σ) fun v12 => if v12 = 0 then some (.inr σ) else bo (xgi SX 5 9 (some a0) σ) fun v15 => bo (xpi SX 5 9 (some a0) (v15 + (1 : Int32)) σ) fun σ17 => some (.inl σ17)
theorem t_X5_nextToken_L152 {M : Mx} {l0 : Launch} (O : Ok M cX5_nextToken yX5_nextToken) (R0 : Rm M l0 3 101 0 0) (N : Ma M = false) (hn : Mn M = 2) (a0 : Nat) (σ : Dt) (o : (Dt ⊕ Dt)) (h : f_X5_nextToken_L152 a0 σ = some o) (K : kon (P_X5_nextToken_152 M a0) (E_X5_nextToken_152 M a0) o) : G M 0 0 152 [(0, vA (some a0))] [] SX σ := by
  unfold f_X5_nextToken_L152 at h
  refine g_aload_n O dX5_nextToken_152 rfl 0 rfl ?_
  obtain ⟨v1, e2, h⟩ := bo_some h
  refine g_getI O dX5_nextToken_153 fl_X5_64 rfl e2 ?_
  refine g_aload_n O dX5_nextToken_156 rfl 0 rfl ?_
  obtain ⟨v3, e4, h⟩ := bo_some h
  refine g_getI O dX5_nextToken_157 fl_X5_58 rfl e4 ?_
  refine g_icmp_ge O dX5_nextToken_160 rfl (fun c5 => ?_) (fun c5 => ?_)
  · replace h := (if_pos c5).symm.trans h
    cases h
    exact K
  · replace h := (if_neg c5).symm.trans h
    refine g_aload_n O dX5_nextToken_163 rfl 0 rfl ?_
    refine g_aload_n O dX5_nextToken_164 rfl 0 rfl ?_
    obtain ⟨v6, e7, h⟩ := bo_some h
    refine g_getI O dX5_nextToken_165 fl_X5_64 rfl e7 ?_
    obtain ⟨a8, e9, h⟩ := bo_some h
    obtain ⟨v10, e11, h⟩ := bo_some h
    refine g_cV1 O R0 N dX5_nextToken_168 vl_X5_120 vv_X5_byteAt e9 [vI v6] rfl rfl rfl ⟨Nat.le_of_ble_eq_true rfl, Nat.le_of_ble_eq_true rfl⟩ (c_X5_byteAt l0 a8 v6 σ v10 e11) ?_
    obtain ⟨v12, e13, h⟩ := bo_some h
    refine g_cS1 O R0 N dX5_nextToken_171 vl_X5_127 w701 [vI v10] rfl rfl rfl ⟨Nat.le_of_ble_eq_true rfl, Nat.le_of_ble_eq_true rfl⟩ (c_X5_isDigit l0 v10 σ v12 e13) ?_
    refine g_if_eq O dX5_nextToken_174 rfl (fun c14 => ?_) (fun c14 => ?_)
    · replace h := (if_pos c14).symm.trans h
      cases h
      exact K
    · replace h := (if_neg c14).symm.trans h
      refine g_aload_n O dX5_nextToken_177 rfl 0 rfl ?_
      refine g_dup O dX5_nextToken_178 rfl ?_
      obtain ⟨v15, e16, h⟩ := bo_some h
      refine g_getI O dX5_nextToken_179 fl_X5_64 rfl e16 ?_
      refine g_iconst (v := (1 : Int32)) O dX5_nextToken_182 rfl ?_
      refine g_iadd O dX5_nextToken_183 ?_
      obtain ⟨σ17, e18, h⟩ := bo_some h
      refine g_putI O dX5_nextToken_184 fl_X5_64 (Or.inl rfl) rfl e18 ?_
      refine g_goto O dX5_nextToken_187 rfl ?_
      cases h
      exact K
def P_X5_nextToken_0 (M : Mx) (a0 : Nat) (s : Dt) : Prop := G M 0 0 0 [(0, vA (some a0))] [] SX s
def E_X5_nextToken_0 (M : Mx) (a0 : Nat) : Dt → Prop := (fun w => G M 0 0 50 [(0, vA (some a0))] [] SX w)
def f_X5_nextToken_37 (a0 : Nat) (σ : Dt) : Option (Dt ⊕ Dt) := bo (xgi SX 5 9 (some a0) σ) fun v1 => bo (xpi SX 5 9 (some a0) (v1 + (1 : Int32)) σ) fun σ3 => some (.inl σ3)
theorem t_X5_nextToken_37 {M : Mx} {l0 : Launch} (O : Ok M cX5_nextToken yX5_nextToken) (R0 : Rm M l0 3 101 0 0) (N : Ma M = false) (hn : Mn M = 2)  (a0 : Nat) (σ : Dt) (o : (Dt ⊕ Dt)) (h : f_X5_nextToken_37 a0 σ = some o) (K : kon (P_X5_nextToken_0 M a0) (E_X5_nextToken_0 M a0) o) : G M 0 0 37 [(0, vA (some a0))] [] SX σ := by
  unfold f_X5_nextToken_37 at h
  refine g_aload_n O dX5_nextToken_37 rfl 0 rfl ?_
  refine g_dup O dX5_nextToken_38 rfl ?_
  obtain ⟨v1, e2, h⟩ := bo_some h
  refine g_getI O dX5_nextToken_39 fl_X5_64 rfl e2 ?_
  refine g_iconst (v := (1 : Int32)) O dX5_nextToken_42 rfl ?_
  refine g_iadd O dX5_nextToken_43 ?_
  obtain ⟨σ3, e4, h⟩ := bo_some h
  refine g_putI O dX5_nextToken_44 fl_X5_64 (Or.inl rfl) rfl e4 ?_
  refine g_goto O dX5_nextToken_47 rfl ?_
  cases h
  exact K
def f_X5_nextToken_L0 (a0 : Nat) (σ : Dt) : Option (Dt ⊕ Dt) := bo (xgi SX 5 9 (some a0) σ) fun v1 => bo (xgi SX 5 6 (some a0) σ) fun v3 => if v3 ≤ v1 then some (.inr σ) else bo (xgi SX 5 9 (some a0) σ) fun v6 => bo (xrc SX 5 (some a0)) fun a8 => bo (f_X5_byteAt a8 v6 σ) fun v10 => if v10 = (32 : Int32) then f_X5_nextToken_37 a0 σ else bo (xgi SX 5 9 (some a0) σ) fun v13 => bo (xrc SX 5 (some a0)) fun a15 => bo (f_X5_byteAt a15 v13 σ) fun v17 => if v17 = (10 : Int32) then f_X5_nextToken_37 a0 σ else some (.inr σ)
theorem t_X5_nextToken_L0 {M : Mx} {l0 : Launch} (O : Ok M cX5_nextToken yX5_nextToken) (R0 : Rm M l0 3 101 0 0) (N : Ma M = false) (hn : Mn M = 2) (a0 : Nat) (σ : Dt) (o : (Dt ⊕ Dt)) (h : f_X5_nextToken_L0 a0 σ = some o) (K : kon (P_X5_nextToken_0 M a0) (E_X5_nextToken_0 M a0) o) : G M 0 0 0 [(0, vA (some a0))] [] SX σ := by
  unfold f_X5_nextToken_L0 at h
  refine g_aload_n O dX5_nextToken_0 rfl 0 rfl ?_
  obtain ⟨v1, e2, h⟩ := bo_some h
  refine g_getI O dX5_nextToken_1 fl_X5_64 rfl e2 ?_
  refine g_aload_n O dX5_nextToken_4 rfl 0 rfl ?_
  obtain ⟨v3, e4, h⟩ := bo_some h
  refine g_getI O dX5_nextToken_5 fl_X5_58 rfl e4 ?_
  refine g_icmp_ge O dX5_nextToken_8 rfl (fun c5 => ?_) (fun c5 => ?_)
  · replace h := (if_pos c5).symm.trans h
    cases h
    exact K
  · replace h := (if_neg c5).symm.trans h
    refine g_aload_n O dX5_nextToken_11 rfl 0 rfl ?_
    refine g_aload_n O dX5_nextToken_12 rfl 0 rfl ?_
    obtain ⟨v6, e7, h⟩ := bo_some h
    refine g_getI O dX5_nextToken_13 fl_X5_64 rfl e7 ?_
    obtain ⟨a8, e9, h⟩ := bo_some h
    obtain ⟨v10, e11, h⟩ := bo_some h
    refine g_cV1 O R0 N dX5_nextToken_16 vl_X5_120 vv_X5_byteAt e9 [vI v6] rfl rfl rfl ⟨Nat.le_of_ble_eq_true rfl, Nat.le_of_ble_eq_true rfl⟩ (c_X5_byteAt l0 a8 v6 σ v10 e11) ?_
    refine g_bipush (v := (32 : Int32)) O dX5_nextToken_19 rfl ?_
    refine g_icmp_eq O dX5_nextToken_21 rfl (fun c12 => ?_) (fun c12 => ?_)
    · replace h := (if_pos c12).symm.trans h
      exact t_X5_nextToken_37 O R0 N hn a0 σ o h K
    · replace h := (if_neg c12).symm.trans h
      refine g_aload_n O dX5_nextToken_24 rfl 0 rfl ?_
      refine g_aload_n O dX5_nextToken_25 rfl 0 rfl ?_
      obtain ⟨v13, e14, h⟩ := bo_some h
      refine g_getI O dX5_nextToken_26 fl_X5_64 rfl e14 ?_
      obtain ⟨a15, e16, h⟩ := bo_some h
      obtain ⟨v17, e18, h⟩ := bo_some h
      refine g_cV1 O R0 N dX5_nextToken_29 vl_X5_120 vv_X5_byteAt e16 [vI v13] rfl rfl rfl ⟨Nat.le_of_ble_eq_true rfl, Nat.le_of_ble_eq_true rfl⟩ (c_X5_byteAt l0 a15 v13 σ v17 e18) ?_
      refine g_bipush (v := (10 : Int32)) O dX5_nextToken_32 rfl ?_
      refine g_icmp_ne O dX5_nextToken_34 rfl (fun c19 => ?_) (fun c19 => ?_)
      · replace h := (if_pos c19).symm.trans h
        exact t_X5_nextToken_37 O R0 N hn a0 σ o h K
      · replace h := (if_neg c19).symm.trans h
        cases h
        exact K
def f_X5_nextToken_190 (a0 : Nat) (σ : Dt) : Option (Int32 × Dt) := bo (xgi SX 5 9 (some a0) σ) fun v1 => bo (xgi SX 5 8 (some a0) σ) fun v3 => if (2 : Int32) < (v1 - v3) then some ((4 : Int32), σ) else some ((2 : Int32), σ)
theorem t_X5_nextToken_190 {M : Mx} {l0 : Launch} (O : Ok M cX5_nextToken yX5_nextToken) (R0 : Rm M l0 3 101 0 0) (N : Ma M = false) (hn : Mn M = 2)  (a0 : Nat) (σ : Dt) (o : (Int32 × Dt)) (h : f_X5_nextToken_190 a0 σ = some o) (K : Fin' M (some .int) 0 0 SX o.2 (some (vI o.1))) : G M 0 0 190 [(0, vA (some a0))] [] SX σ := by
  unfold f_X5_nextToken_190 at h
  refine g_aload_n O dX5_nextToken_190 rfl 0 rfl ?_
  obtain ⟨v1, e2, h⟩ := bo_some h
  refine g_getI O dX5_nextToken_191 fl_X5_64 rfl e2 ?_
  refine g_aload_n O dX5_nextToken_194 rfl 0 rfl ?_
  obtain ⟨v3, e4, h⟩ := bo_some h
  refine g_getI O dX5_nextToken_195 fl_X5_96 rfl e4 ?_
  refine g_isub O dX5_nextToken_198 ?_
  refine g_iconst (v := (2 : Int32)) O dX5_nextToken_199 rfl ?_
  refine g_icmp_gt O dX5_nextToken_200 rfl (fun c5 => ?_) (fun c5 => ?_)
  · replace h := (if_pos c5).symm.trans h
    refine g_iconst (v := (4 : Int32)) O dX5_nextToken_207 rfl ?_
    cases h
    exact g_ireturn O K dX5_nextToken_208
  · replace h := (if_neg c5).symm.trans h
    refine g_iconst (v := (2 : Int32)) O dX5_nextToken_203 rfl ?_
    refine g_goto O dX5_nextToken_204 rfl ?_
    cases h
    exact g_ireturn O K dX5_nextToken_208
def f_X5_nextToken_50 (a0 : Nat) (σ : Dt) : Option (Int32 × Dt) := bo (xgi SX 5 9 (some a0) σ) fun v1 => bo (xpi SX 5 8 (some a0) v1 σ) fun σ3 => bo (xgi SX 5 9 (some a0) σ3) fun v5 => bo (xgi SX 5 6 (some a0) σ3) fun v7 => if v5 < v7 then bo (xgi SX 5 9 (some a0) σ3) fun v10 => bo (xrc SX 5 (some a0)) fun a12 => bo (f_X5_byteAt a12 v10 σ3) fun v14 => bo (xgi SX 5 9 (some a0) σ3) fun v16 => bo (xpi SX 5 9 (some a0) (v16 + (1 : Int32)) σ3) fun σ18 => if v14 = (59 : Int32) then some ((3 : Int32), σ18) else bo (f_X5_isLetter v14 σ18) fun v21 => if v21 = 0 then bo (f_X5_isDigit v14 σ18) fun v24 => if v24 = 0 then some ((4 : Int32), σ18) else bo (iter FU (fun s => f_X5_nextToken_L152 a0 s) σ18) fun w27 => f_X5_nextToken_190 a0 w27 else bo (iter FU (fun s => f_X5_nextToken_L105 a0 s) σ18) fun w29 => some ((1 : Int32), w29) else some ((0 : Int32), σ3)
theorem t_X5_nextToken_50 {M : Mx} {l0 : Launch} (O : Ok M cX5_nextToken yX5_nextToken) (R0 : Rm M l0 3 101 0 0) (N : Ma M = false) (hn : Mn M = 2)  (a0 : Nat) (σ : Dt) (o : (Int32 × Dt)) (h : f_X5_nextToken_50 a0 σ = some o) (K : Fin' M (some .int) 0 0 SX o.2 (some (vI o.1))) : G M 0 0 50 [(0, vA (some a0))] [] SX σ := by
  unfold f_X5_nextToken_50 at h
  refine g_aload_n O dX5_nextToken_50 rfl 0 rfl ?_
  refine g_aload_n O dX5_nextToken_51 rfl 0 rfl ?_
  obtain ⟨v1, e2, h⟩ := bo_some h
  refine g_getI O dX5_nextToken_52 fl_X5_64 rfl e2 ?_
  obtain ⟨σ3, e4, h⟩ := bo_some h
  refine g_putI O dX5_nextToken_55 fl_X5_96 (Or.inl rfl) rfl e4 ?_
  refine g_aload_n O dX5_nextToken_58 rfl 0 rfl ?_
  obtain ⟨v5, e6, h⟩ := bo_some h
  refine g_getI O dX5_nextToken_59 fl_X5_64 rfl e6 ?_
  refine g_aload_n O dX5_nextToken_62 rfl 0 rfl ?_
  obtain ⟨v7, e8, h⟩ := bo_some h
  refine g_getI O dX5_nextToken_63 fl_X5_58 rfl e8 ?_
  refine g_icmp_lt O dX5_nextToken_66 rfl (fun c9 => ?_) (fun c9 => ?_)
  · replace h := (if_pos c9).symm.trans h
    refine g_aload_n O dX5_nextToken_71 rfl 0 rfl ?_
    refine g_aload_n O dX5_nextToken_72 rfl 0 rfl ?_
    obtain ⟨v10, e11, h⟩ := bo_some h
    refine g_getI O dX5_nextToken_73 fl_X5_64 rfl e11 ?_
    obtain ⟨a12, e13, h⟩ := bo_some h
    obtain ⟨v14, e15, h⟩ := bo_some h
    refine g_cV1 O R0 N dX5_nextToken_76 vl_X5_120 vv_X5_byteAt e13 [vI v10] rfl rfl rfl ⟨Nat.le_of_ble_eq_true rfl, Nat.le_of_ble_eq_true rfl⟩ (c_X5_byteAt l0 a12 v10 σ3 v14 e15) ?_
    refine g_istore_n (lv' := [(1, vI v14), (0, vA (some a0))]) O dX5_nextToken_79 rfl 2 hn (by decide) rfl ?_
    refine g_aload_n O dX5_nextToken_80 rfl 1 rfl ?_
    refine g_dup O dX5_nextToken_81 rfl ?_
    obtain ⟨v16, e17, h⟩ := bo_some h
    refine g_getI O dX5_nextToken_82 fl_X5_64 rfl e17 ?_
    refine g_iconst (v := (1 : Int32)) O dX5_nextToken_85 rfl ?_
    refine g_iadd O dX5_nextToken_86 ?_
    obtain ⟨σ18, e19, h⟩ := bo_some h
    refine g_putI O dX5_nextToken_87 fl_X5_64 (Or.inl rfl) rfl e19 ?_
    refine g_iload_n O dX5_nextToken_90 rfl 0 rfl ?_
    refine g_bipush (v := (59 : Int32)) O dX5_nextToken_91 rfl ?_
    refine g_icmp_ne O dX5_nextToken_93 rfl (fun c20 => ?_) (fun c20 => ?_)
    · replace h := (if_pos c20).symm.trans h
      refine g_iconst (v := (3 : Int32)) O dX5_nextToken_96 rfl ?_
      cases h
      exact g_ireturn O K dX5_nextToken_97
    · replace h := (if_neg c20).symm.trans h
      refine g_iload_n O dX5_nextToken_98 rfl 0 rfl ?_
      obtain ⟨v21, e22, h⟩ := bo_some h
      refine g_cS1 O R0 N dX5_nextToken_99 vl_X5_123 w698 [vI v14] rfl rfl rfl ⟨Nat.le_of_ble_eq_true rfl, Nat.le_of_ble_eq_true rfl⟩ (c_X5_isLetter l0 v14 σ18 v21 e22) ?_
      refine g_if_eq O dX5_nextToken_102 rfl (fun c23 => ?_) (fun c23 => ?_)
      · replace h := (if_pos c23).symm.trans h
        refine g_iload_n O dX5_nextToken_145 rfl 0 rfl ?_
        obtain ⟨v24, e25, h⟩ := bo_some h
        refine g_cS1 O R0 N dX5_nextToken_146 vl_X5_127 w701 [vI v14] rfl rfl rfl ⟨Nat.le_of_ble_eq_true rfl, Nat.le_of_ble_eq_true rfl⟩ (c_X5_isDigit l0 v14 σ18 v24 e25) ?_
        refine g_if_eq O dX5_nextToken_149 rfl (fun c26 => ?_) (fun c26 => ?_)
        · replace h := (if_pos c26).symm.trans h
          refine g_iconst (v := (4 : Int32)) O dX5_nextToken_209 rfl ?_
          cases h
          exact g_ireturn O K dX5_nextToken_210
        · replace h := (if_neg c26).symm.trans h
          refine g_sub [1] (lv' := [(0, vA (some a0))]) rfl ?_
          obtain ⟨w27, e28, h⟩ := bo_some h
          refine iter_G (P := P_X5_nextToken_152 M a0) (E := E_X5_nextToken_152 M a0) (fun s o hb hk => t_X5_nextToken_L152 O R0 N hn a0 s o hb hk) FU σ18 w27 e28 ?_
          show G M 0 0 190 [(0, vA (some a0))] [] SX w27
          exact t_X5_nextToken_190 O R0 N hn a0 w27 o h K
      · replace h := (if_neg c23).symm.trans h
        refine g_sub [1] (lv' := [(0, vA (some a0))]) rfl ?_
        obtain ⟨w29, e30, h⟩ := bo_some h
        refine iter_G (P := P_X5_nextToken_105 M a0) (E := E_X5_nextToken_105 M a0) (fun s o hb hk => t_X5_nextToken_L105 O R0 N hn a0 s o hb hk) FU σ18 w29 e30 ?_
        show G M 0 0 143 [] [] SX w29
        refine g_iconst (v := (1 : Int32)) O dX5_nextToken_143 rfl ?_
        cases h
        exact g_ireturn O K dX5_nextToken_144
  · replace h := (if_neg c9).symm.trans h
    refine g_iconst (v := (0 : Int32)) O dX5_nextToken_69 rfl ?_
    cases h
    exact g_ireturn O K dX5_nextToken_70
def f_X5_nextToken (a0 : Nat) (σ : Dt) : Option (Int32 × Dt) := bo (iter FU (fun s => f_X5_nextToken_L0 a0 s) σ) fun w1 => f_X5_nextToken_50 a0 w1
theorem t_X5_nextToken {M : Mx} {l0 : Launch} (O : Ok M cX5_nextToken yX5_nextToken) (R0 : Rm M l0 3 101 0 0) (N : Ma M = false) (hn : Mn M = 2) (a0 : Nat) (σ : Dt) (o : (Int32 × Dt)) (h : f_X5_nextToken a0 σ = some o) (K : Fin' M (some .int) 0 0 SX o.2 (some (vI o.1))) : G M 0 0 0 [(0, vA (some a0))] [] SX σ := by
  unfold f_X5_nextToken at h
  obtain ⟨w1, e2, h⟩ := bo_some h
  refine iter_G (P := P_X5_nextToken_0 M a0) (E := E_X5_nextToken_0 M a0) (fun s o hb hk => t_X5_nextToken_L0 O R0 N hn a0 s o hb hk) FU σ w1 e2 ?_
  show G M 0 0 50 [(0, vA (some a0))] [] SX w1
  exact t_X5_nextToken_50 O R0 N hn a0 w1 o h K
theorem c_X5_nextToken (l0 : Launch) (a0 : Nat) (σ : Dt) (r : Int32) (σ' : Dt) (h : f_X5_nextToken a0 σ = some (r, σ')) : Ctr l0 yX5_nextToken cX5_nextToken 2 (some .int) false 3 101 0 0 [vA (some a0)] SX σ SX σ' (some (vI r)) := ctr_of (by decide) (Nat.le_of_ble_eq_true rfl) (fun M O F R0 N hn => t_X5_nextToken O R0 N hn a0 σ (r, σ') h F)
def P_X5_isWord_24 (M : Mx) (a0 : Nat) (t1 : Nat) (σ : Dt) (s : Int32) : Prop := G M 0 0 24 [(0, vA (some a0)), (1, vT t1), (2, vI s)] [] SX σ
def E_X5_isWord_24 (M : Mx) (a0 : Nat) (t1 : Nat) (σ : Dt) : (Unit ⊕ Unit) → Prop := (el (fun w => G M 0 0 50 [] [] SX σ) (fun w => G M 0 0 58 [] [] SX σ))
def f_X5_isWord_L24 (a0 : Nat) (t1 : Nat) (x2 : Int32) (σ : Dt) : Option (Int32 ⊕ (Unit ⊕ Unit)) := bo (xtl t1) fun v1 => if v1 ≤ x2 then some (.inr (.inr ())) else bo (xgi SX 5 8 (some a0) σ) fun v4 => bo (xrc SX 5 (some a0)) fun a6 => bo (f_X5_byteAt a6 (v4 + x2) σ) fun v8 => bo (xtc t1 x2) fun v10 => if v8 = v10 then some (.inl (x2 + (1 : Int32))) else some (.inr (.inl ()))
theorem t_X5_isWord_L24 {M : Mx} {l0 : Launch} (O : Ok M cX5_isWord yX5_isWord) (R0 : Rm M l0 6 230 0 0) (N : Ma M = false) (hn : Mn M = 3) (a0 : Nat) (t1 : Nat) (x2 : Int32) (σ : Dt) (o : (Int32 ⊕ (Unit ⊕ Unit))) (h : f_X5_isWord_L24 a0 t1 x2 σ = some o) (K : kon (P_X5_isWord_24 M a0 t1 σ) (E_X5_isWord_24 M a0 t1 σ) o) : G M 0 0 24 [(0, vA (some a0)), (1, vT t1), (2, vI x2)] [] SX σ := by
  unfold f_X5_isWord_L24 at h
  refine g_iload_n O dX5_isWord_24 rfl 2 rfl ?_
  refine g_tload_n O dX5_isWord_25 rfl 1 rfl ?_
  obtain ⟨v1, e2, h⟩ := bo_some h
  refine g_slen O R0 N dX5_isWord_26 e2 rfl rfl ?_
  refine g_icmp_ge O dX5_isWord_29 rfl (fun c3 => ?_) (fun c3 => ?_)
  · replace h := (if_pos c3).symm.trans h
    refine g_sub [] (lv' := []) rfl ?_
    cases h
    exact K
  · replace h := (if_neg c3).symm.trans h
    refine g_aload_n O dX5_isWord_32 rfl 0 rfl ?_
    refine g_aload_n O dX5_isWord_33 rfl 0 rfl ?_
    obtain ⟨v4, e5, h⟩ := bo_some h
    refine g_getI O dX5_isWord_34 fl_X5_96 rfl e5 ?_
    refine g_iload_n O dX5_isWord_37 rfl 2 rfl ?_
    refine g_iadd O dX5_isWord_38 ?_
    obtain ⟨a6, e7, h⟩ := bo_some h
    obtain ⟨v8, e9, h⟩ := bo_some h
    refine g_cV1 O R0 N dX5_isWord_39 vl_X5_120 vv_X5_byteAt e7 [vI (v4 + x2)] rfl rfl rfl ⟨Nat.le_of_ble_eq_true rfl, Nat.le_of_ble_eq_true rfl⟩ (c_X5_byteAt l0 a6 (v4 + x2) σ v8 e9) ?_
    refine g_tload_n O dX5_isWord_42 rfl 1 rfl ?_
    refine g_iload_n O dX5_isWord_43 rfl 2 rfl ?_
    obtain ⟨v10, e11, h⟩ := bo_some h
    refine g_schar O R0 N dX5_isWord_44 e11 rfl rfl ?_
    refine g_icmp_eq O dX5_isWord_47 rfl (fun c12 => ?_) (fun c12 => ?_)
    · replace h := (if_pos c12).symm.trans h
      refine g_iinc (v := (x2 + (1 : Int32))) (lv' := [(2, vI (x2 + (1 : Int32))), (0, vA (some a0)), (1, vT t1)]) O dX5_isWord_52 3 hn (by decide) 2 rfl rfl rfl ?_
      refine g_goto O dX5_isWord_55 rfl ?_
      refine g_sub [1, 2, 0] (lv' := [(0, vA (some a0)), (1, vT t1), (2, vI (x2 + (1 : Int32)))]) rfl ?_
      cases h
      exact K
    · replace h := (if_neg c12).symm.trans h
      refine g_sub [] (lv' := []) rfl ?_
      cases h
      exact K
def f_X5_isWord (a0 : Nat) (t1 : Nat) (σ : Dt) : Option Int32 := bo (xgi SX 5 9 (some a0) σ) fun v1 => bo (xgi SX 5 8 (some a0) σ) fun v3 => bo (xtl t1) fun v5 => if (v1 - v3) = v5 then bo (iter FU (fun s => f_X5_isWord_L24 a0 t1 s σ) (0 : Int32)) fun w8 => el (fun w10 => some (0 : Int32)) (fun w10 => some (1 : Int32)) w8 else some (0 : Int32)
theorem t_X5_isWord {M : Mx} {l0 : Launch} (O : Ok M cX5_isWord yX5_isWord) (R0 : Rm M l0 6 230 0 0) (N : Ma M = false) (hn : Mn M = 3) (a0 : Nat) (t1 : Nat) (σ : Dt) (o : Int32) (h : f_X5_isWord a0 t1 σ = some o) (K : Fin' M (some .boolean) 0 0 SX σ (some (vI o))) : G M 0 0 0 [(0, vA (some a0)), (1, vT t1)] [] SX σ := by
  unfold f_X5_isWord at h
  refine g_tload_n O dX5_isWord_0 rfl 1 rfl ?_
  refine g_ifnullT O dX5_isWord_1 ?_
  refine g_aload_n O dX5_isWord_4 rfl 0 rfl ?_
  obtain ⟨v1, e2, h⟩ := bo_some h
  refine g_getI O dX5_isWord_5 fl_X5_64 rfl e2 ?_
  refine g_aload_n O dX5_isWord_8 rfl 0 rfl ?_
  obtain ⟨v3, e4, h⟩ := bo_some h
  refine g_getI O dX5_isWord_9 fl_X5_96 rfl e4 ?_
  refine g_isub O dX5_isWord_12 ?_
  refine g_tload_n O dX5_isWord_13 rfl 1 rfl ?_
  obtain ⟨v5, e6, h⟩ := bo_some h
  refine g_slen O R0 N dX5_isWord_14 e6 rfl rfl ?_
  refine g_icmp_eq O dX5_isWord_17 rfl (fun c7 => ?_) (fun c7 => ?_)
  · replace h := (if_pos c7).symm.trans h
    refine g_iconst (v := (0 : Int32)) O dX5_isWord_22 rfl ?_
    refine g_istore_n (lv' := [(2, vI (0 : Int32)), (0, vA (some a0)), (1, vT t1)]) O dX5_isWord_23 rfl 3 hn (by decide) rfl ?_
    refine g_sub [1, 2, 0] (lv' := [(0, vA (some a0)), (1, vT t1), (2, vI (0 : Int32))]) rfl ?_
    obtain ⟨w8, e9, h⟩ := bo_some h
    refine iter_G (P := P_X5_isWord_24 M a0 t1 σ) (E := E_X5_isWord_24 M a0 t1 σ) (fun s o hb hk => t_X5_isWord_L24 O R0 N hn a0 t1 s σ o hb hk) FU (0 : Int32) w8 e9 ?_
    rcases w8 with w10 | w10
    · replace h := el_l h
      show G M 0 0 50 [] [] SX σ
      refine g_iconst (v := (0 : Int32)) O dX5_isWord_50 rfl ?_
      cases h
      exact g_zreturn O (by decide) K dX5_isWord_51
    · replace h := el_r h
      show G M 0 0 58 [] [] SX σ
      refine g_iconst (v := (1 : Int32)) O dX5_isWord_58 rfl ?_
      cases h
      exact g_zreturn O (by decide) K dX5_isWord_59
  · replace h := (if_neg c7).symm.trans h
    refine g_iconst (v := (0 : Int32)) O dX5_isWord_20 rfl ?_
    cases h
    exact g_zreturn O (by decide) K dX5_isWord_21
theorem c_X5_isWord (l0 : Launch) (a0 : Nat) (t1 : Nat) (σ : Dt) (r : Int32) (h : f_X5_isWord a0 t1 σ = some r) : Ctr l0 yX5_isWord cX5_isWord 3 (some .boolean) false 6 230 0 0 [vA (some a0), vT t1] SX σ SX σ (some (vI r)) := ctr_of (by decide) (Nat.le_of_ble_eq_true rfl) (fun M O F R0 N hn => t_X5_isWord O R0 N hn a0 t1 σ r h F)
def f_X5_kindOfValleyLine (a0 : Nat) (σ : Dt) : Option Int32 := bo (xrc SX 5 (some a0)) fun a1 => bo (f_X5_isWord a1 2 σ) fun v3 => if v3 = 0 then bo (xrc SX 5 (some a0)) fun a6 => bo (f_X5_isWord a6 3 σ) fun v8 => if v8 = 0 then bo (xrc SX 5 (some a0)) fun a11 => bo (f_X5_isWord a11 4 σ) fun v13 => if v13 = 0 then bo (xrc SX 5 (some a0)) fun a16 => bo (f_X5_isWord a16 5 σ) fun v18 => if v18 = 0 then some (-1 : Int32) else some (3 : Int32) else some (2 : Int32) else some (1 : Int32) else some (0 : Int32)
theorem t_X5_kindOfValleyLine {M : Mx} {l0 : Launch} (O : Ok M cX5_kindOfValleyLine yX5_kindOfValleyLine) (R0 : Rm M l0 7 252 0 0) (N : Ma M = false) (hn : Mn M = 1) (a0 : Nat) (σ : Dt) (o : Int32) (h : f_X5_kindOfValleyLine a0 σ = some o) (K : Fin' M (some .int) 0 0 SX σ (some (vI o))) : G M 0 0 0 [(0, vA (some a0))] [] SX σ := by
  unfold f_X5_kindOfValleyLine at h
  refine g_aload_n O dX5_kindOfValleyLine_0 rfl 0 rfl ?_
  refine g_ldcT (i := 2) O dX5_kindOfValleyLine_1 rfl rfl (by decide) ?_
  obtain ⟨a1, e2, h⟩ := bo_some h
  obtain ⟨v3, e4, h⟩ := bo_some h
  refine g_cV1 O R0 N dX5_kindOfValleyLine_3 vl_X5_145 vv_X5_isWord e2 [vT 2] rfl rfl rfl ⟨Nat.le_of_ble_eq_true rfl, Nat.le_of_ble_eq_true rfl⟩ (c_X5_isWord l0 a1 2 σ v3 e4) ?_
  refine g_if_eq O dX5_kindOfValleyLine_6 rfl (fun c5 => ?_) (fun c5 => ?_)
  · replace h := (if_pos c5).symm.trans h
    refine g_aload_n O dX5_kindOfValleyLine_11 rfl 0 rfl ?_
    refine g_ldcT (i := 3) O dX5_kindOfValleyLine_12 rfl rfl (by decide) ?_
    obtain ⟨a6, e7, h⟩ := bo_some h
    obtain ⟨v8, e9, h⟩ := bo_some h
    refine g_cV1 O R0 N dX5_kindOfValleyLine_14 vl_X5_145 vv_X5_isWord e7 [vT 3] rfl rfl rfl ⟨Nat.le_of_ble_eq_true rfl, Nat.le_of_ble_eq_true rfl⟩ (c_X5_isWord l0 a6 3 σ v8 e9) ?_
    refine g_if_eq O dX5_kindOfValleyLine_17 rfl (fun c10 => ?_) (fun c10 => ?_)
    · replace h := (if_pos c10).symm.trans h
      refine g_aload_n O dX5_kindOfValleyLine_22 rfl 0 rfl ?_
      refine g_ldcT (i := 4) O dX5_kindOfValleyLine_23 rfl rfl (by decide) ?_
      obtain ⟨a11, e12, h⟩ := bo_some h
      obtain ⟨v13, e14, h⟩ := bo_some h
      refine g_cV1 O R0 N dX5_kindOfValleyLine_25 vl_X5_145 vv_X5_isWord e12 [vT 4] rfl rfl rfl ⟨Nat.le_of_ble_eq_true rfl, Nat.le_of_ble_eq_true rfl⟩ (c_X5_isWord l0 a11 4 σ v13 e14) ?_
      refine g_if_eq O dX5_kindOfValleyLine_28 rfl (fun c15 => ?_) (fun c15 => ?_)
      · replace h := (if_pos c15).symm.trans h
        refine g_aload_n O dX5_kindOfValleyLine_33 rfl 0 rfl ?_
        refine g_ldcT (i := 5) O dX5_kindOfValleyLine_34 rfl rfl (by decide) ?_
        obtain ⟨a16, e17, h⟩ := bo_some h
        obtain ⟨v18, e19, h⟩ := bo_some h
        refine g_cV1 O R0 N dX5_kindOfValleyLine_36 vl_X5_145 vv_X5_isWord e17 [vT 5] rfl rfl rfl ⟨Nat.le_of_ble_eq_true rfl, Nat.le_of_ble_eq_true rfl⟩ (c_X5_isWord l0 a16 5 σ v18 e19) ?_
        refine g_if_eq O dX5_kindOfValleyLine_39 rfl (fun c20 => ?_) (fun c20 => ?_)
        · replace h := (if_pos c20).symm.trans h
          refine g_iconst (v := (-1 : Int32)) O dX5_kindOfValleyLine_46 rfl ?_
          cases h
          exact g_ireturn O K dX5_kindOfValleyLine_47
        · replace h := (if_neg c20).symm.trans h
          refine g_iconst (v := (3 : Int32)) O dX5_kindOfValleyLine_42 rfl ?_
          refine g_goto O dX5_kindOfValleyLine_43 rfl ?_
          cases h
          exact g_ireturn O K dX5_kindOfValleyLine_47
      · replace h := (if_neg c15).symm.trans h
        refine g_iconst (v := (2 : Int32)) O dX5_kindOfValleyLine_31 rfl ?_
        cases h
        exact g_ireturn O K dX5_kindOfValleyLine_32
    · replace h := (if_neg c10).symm.trans h
      refine g_iconst (v := (1 : Int32)) O dX5_kindOfValleyLine_20 rfl ?_
      cases h
      exact g_ireturn O K dX5_kindOfValleyLine_21
  · replace h := (if_neg c5).symm.trans h
    refine g_iconst (v := (0 : Int32)) O dX5_kindOfValleyLine_9 rfl ?_
    cases h
    exact g_ireturn O K dX5_kindOfValleyLine_10
theorem c_X5_kindOfValleyLine (l0 : Launch) (a0 : Nat) (σ : Dt) (r : Int32) (h : f_X5_kindOfValleyLine a0 σ = some r) : Ctr l0 yX5_kindOfValleyLine cX5_kindOfValleyLine 1 (some .int) false 7 252 0 0 [vA (some a0)] SX σ SX σ (some (vI r)) := ctr_of (by decide) (Nat.le_of_ble_eq_true rfl) (fun M O F R0 N hn => t_X5_kindOfValleyLine O R0 N hn a0 σ r h F)
def f_X5_kindOfDeed (a0 : Nat) (σ : Dt) : Option Int32 := bo (xrc SX 5 (some a0)) fun a1 => bo (f_X5_isWord a1 6 σ) fun v3 => if v3 = 0 then bo (xrc SX 5 (some a0)) fun a6 => bo (f_X5_isWord a6 7 σ) fun v8 => if v8 = 0 then bo (xrc SX 5 (some a0)) fun a11 => bo (f_X5_isWord a11 8 σ) fun v13 => if v13 = 0 then bo (xrc SX 5 (some a0)) fun a16 => bo (f_X5_isWord a16 9 σ) fun v18 => if v18 = 0 then bo (xrc SX 5 (some a0)) fun a21 => bo (f_X5_isWord a21 10 σ) fun v23 => if v23 = 0 then some (-1 : Int32) else some (4 : Int32) else some (3 : Int32) else some (2 : Int32) else some (1 : Int32) else some (0 : Int32)
theorem t_X5_kindOfDeed {M : Mx} {l0 : Launch} (O : Ok M cX5_kindOfDeed yX5_kindOfDeed) (R0 : Rm M l0 7 252 0 0) (N : Ma M = false) (hn : Mn M = 1) (a0 : Nat) (σ : Dt) (o : Int32) (h : f_X5_kindOfDeed a0 σ = some o) (K : Fin' M (some .int) 0 0 SX σ (some (vI o))) : G M 0 0 0 [(0, vA (some a0))] [] SX σ := by
  unfold f_X5_kindOfDeed at h
  refine g_aload_n O dX5_kindOfDeed_0 rfl 0 rfl ?_
  refine g_ldcT (i := 6) O dX5_kindOfDeed_1 rfl rfl (by decide) ?_
  obtain ⟨a1, e2, h⟩ := bo_some h
  obtain ⟨v3, e4, h⟩ := bo_some h
  refine g_cV1 O R0 N dX5_kindOfDeed_3 vl_X5_145 vv_X5_isWord e2 [vT 6] rfl rfl rfl ⟨Nat.le_of_ble_eq_true rfl, Nat.le_of_ble_eq_true rfl⟩ (c_X5_isWord l0 a1 6 σ v3 e4) ?_
  refine g_if_eq O dX5_kindOfDeed_6 rfl (fun c5 => ?_) (fun c5 => ?_)
  · replace h := (if_pos c5).symm.trans h
    refine g_aload_n O dX5_kindOfDeed_11 rfl 0 rfl ?_
    refine g_ldcT (i := 7) O dX5_kindOfDeed_12 rfl rfl (by decide) ?_
    obtain ⟨a6, e7, h⟩ := bo_some h
    obtain ⟨v8, e9, h⟩ := bo_some h
    refine g_cV1 O R0 N dX5_kindOfDeed_14 vl_X5_145 vv_X5_isWord e7 [vT 7] rfl rfl rfl ⟨Nat.le_of_ble_eq_true rfl, Nat.le_of_ble_eq_true rfl⟩ (c_X5_isWord l0 a6 7 σ v8 e9) ?_
    refine g_if_eq O dX5_kindOfDeed_17 rfl (fun c10 => ?_) (fun c10 => ?_)
    · replace h := (if_pos c10).symm.trans h
      refine g_aload_n O dX5_kindOfDeed_22 rfl 0 rfl ?_
      refine g_ldcT (i := 8) O dX5_kindOfDeed_23 rfl rfl (by decide) ?_
      obtain ⟨a11, e12, h⟩ := bo_some h
      obtain ⟨v13, e14, h⟩ := bo_some h
      refine g_cV1 O R0 N dX5_kindOfDeed_25 vl_X5_145 vv_X5_isWord e12 [vT 8] rfl rfl rfl ⟨Nat.le_of_ble_eq_true rfl, Nat.le_of_ble_eq_true rfl⟩ (c_X5_isWord l0 a11 8 σ v13 e14) ?_
      refine g_if_eq O dX5_kindOfDeed_28 rfl (fun c15 => ?_) (fun c15 => ?_)
      · replace h := (if_pos c15).symm.trans h
        refine g_aload_n O dX5_kindOfDeed_33 rfl 0 rfl ?_
        refine g_ldcT (i := 9) O dX5_kindOfDeed_34 rfl rfl (by decide) ?_
        obtain ⟨a16, e17, h⟩ := bo_some h
        obtain ⟨v18, e19, h⟩ := bo_some h
        refine g_cV1 O R0 N dX5_kindOfDeed_36 vl_X5_145 vv_X5_isWord e17 [vT 9] rfl rfl rfl ⟨Nat.le_of_ble_eq_true rfl, Nat.le_of_ble_eq_true rfl⟩ (c_X5_isWord l0 a16 9 σ v18 e19) ?_
        refine g_if_eq O dX5_kindOfDeed_39 rfl (fun c20 => ?_) (fun c20 => ?_)
        · replace h := (if_pos c20).symm.trans h
          refine g_aload_n O dX5_kindOfDeed_44 rfl 0 rfl ?_
          refine g_ldcT (i := 10) O dX5_kindOfDeed_45 rfl rfl (by decide) ?_
          obtain ⟨a21, e22, h⟩ := bo_some h
          obtain ⟨v23, e24, h⟩ := bo_some h
          refine g_cV1 O R0 N dX5_kindOfDeed_47 vl_X5_145 vv_X5_isWord e22 [vT 10] rfl rfl rfl ⟨Nat.le_of_ble_eq_true rfl, Nat.le_of_ble_eq_true rfl⟩ (c_X5_isWord l0 a21 10 σ v23 e24) ?_
          refine g_if_eq O dX5_kindOfDeed_50 rfl (fun c25 => ?_) (fun c25 => ?_)
          · replace h := (if_pos c25).symm.trans h
            refine g_iconst (v := (-1 : Int32)) O dX5_kindOfDeed_57 rfl ?_
            cases h
            exact g_ireturn O K dX5_kindOfDeed_58
          · replace h := (if_neg c25).symm.trans h
            refine g_iconst (v := (4 : Int32)) O dX5_kindOfDeed_53 rfl ?_
            refine g_goto O dX5_kindOfDeed_54 rfl ?_
            cases h
            exact g_ireturn O K dX5_kindOfDeed_58
        · replace h := (if_neg c20).symm.trans h
          refine g_iconst (v := (3 : Int32)) O dX5_kindOfDeed_42 rfl ?_
          cases h
          exact g_ireturn O K dX5_kindOfDeed_43
      · replace h := (if_neg c15).symm.trans h
        refine g_iconst (v := (2 : Int32)) O dX5_kindOfDeed_31 rfl ?_
        cases h
        exact g_ireturn O K dX5_kindOfDeed_32
    · replace h := (if_neg c10).symm.trans h
      refine g_iconst (v := (1 : Int32)) O dX5_kindOfDeed_20 rfl ?_
      cases h
      exact g_ireturn O K dX5_kindOfDeed_21
  · replace h := (if_neg c5).symm.trans h
    refine g_iconst (v := (0 : Int32)) O dX5_kindOfDeed_9 rfl ?_
    cases h
    exact g_ireturn O K dX5_kindOfDeed_10
theorem c_X5_kindOfDeed (l0 : Launch) (a0 : Nat) (σ : Dt) (r : Int32) (h : f_X5_kindOfDeed a0 σ = some r) : Ctr l0 yX5_kindOfDeed cX5_kindOfDeed 1 (some .int) false 7 252 0 0 [vA (some a0)] SX σ SX σ (some (vI r)) := ctr_of (by decide) (Nat.le_of_ble_eq_true rfl) (fun M O F R0 N hn => t_X5_kindOfDeed O R0 N hn a0 σ r h F)
def f_X5_kindOfLine (a0 : Nat) (σ : Dt) : Option Int32 := bo (xgi SX 5 7 (some a0) σ) fun v1 => if v1 = 0 then bo (xrc SX 5 (some a0)) fun a4 => bo (f_X5_kindOfValleyLine a4 σ) fun v6 => some v6 else bo (xgi SX 5 7 (some a0) σ) fun v8 => if v8 = (1 : Int32) then bo (xrc SX 5 (some a0)) fun a11 => bo (f_X5_kindOfDeed a11 σ) fun v13 => some v13 else bo (xrc SX 5 (some a0)) fun a15 => bo (f_X5_isWord a15 0 σ) fun v17 => if v17 = 0 then bo (xrc SX 5 (some a0)) fun a20 => bo (f_X5_isWord a20 1 σ) fun v22 => if v22 = 0 then some (-1 : Int32) else some (1 : Int32) else some (0 : Int32)
theorem t_X5_kindOfLine {M : Mx} {l0 : Launch} (O : Ok M cX5_kindOfLine yX5_kindOfLine) (R0 : Rm M l0 8 272 0 0) (N : Ma M = false) (hn : Mn M = 1) (a0 : Nat) (σ : Dt) (o : Int32) (h : f_X5_kindOfLine a0 σ = some o) (K : Fin' M (some .int) 0 0 SX σ (some (vI o))) : G M 0 0 0 [(0, vA (some a0))] [] SX σ := by
  unfold f_X5_kindOfLine at h
  refine g_aload_n O dX5_kindOfLine_0 rfl 0 rfl ?_
  obtain ⟨v1, e2, h⟩ := bo_some h
  refine g_getI O dX5_kindOfLine_1 fl_X5_61 rfl e2 ?_
  refine g_if_ne O dX5_kindOfLine_4 rfl (fun c3 => ?_) (fun c3 => ?_)
  · replace h := (if_pos c3).symm.trans h
    refine g_aload_n O dX5_kindOfLine_7 rfl 0 rfl ?_
    obtain ⟨a4, e5, h⟩ := bo_some h
    obtain ⟨v6, e7, h⟩ := bo_some h
    refine g_cV1 O R0 N dX5_kindOfLine_8 vl_X5_138 vv_X5_kindOfValleyLine e5 [] rfl rfl rfl ⟨Nat.le_of_ble_eq_true rfl, Nat.le_of_ble_eq_true rfl⟩ (c_X5_kindOfValleyLine l0 a4 σ v6 e7) ?_
    cases h
    exact g_ireturn O K dX5_kindOfLine_11
  · replace h := (if_neg c3).symm.trans h
    refine g_aload_n O dX5_kindOfLine_12 rfl 0 rfl ?_
    obtain ⟨v8, e9, h⟩ := bo_some h
    refine g_getI O dX5_kindOfLine_13 fl_X5_61 rfl e9 ?_
    refine g_iconst (v := (1 : Int32)) O dX5_kindOfLine_16 rfl ?_
    refine g_icmp_ne O dX5_kindOfLine_17 rfl (fun c10 => ?_) (fun c10 => ?_)
    · replace h := (if_pos c10).symm.trans h
      refine g_aload_n O dX5_kindOfLine_20 rfl 0 rfl ?_
      obtain ⟨a11, e12, h⟩ := bo_some h
      obtain ⟨v13, e14, h⟩ := bo_some h
      refine g_cV1 O R0 N dX5_kindOfLine_21 vl_X5_141 vv_X5_kindOfDeed e12 [] rfl rfl rfl ⟨Nat.le_of_ble_eq_true rfl, Nat.le_of_ble_eq_true rfl⟩ (c_X5_kindOfDeed l0 a11 σ v13 e14) ?_
      cases h
      exact g_ireturn O K dX5_kindOfLine_24
    · replace h := (if_neg c10).symm.trans h
      refine g_aload_n O dX5_kindOfLine_25 rfl 0 rfl ?_
      refine g_ldcT (i := 0) O dX5_kindOfLine_26 rfl rfl (by decide) ?_
      obtain ⟨a15, e16, h⟩ := bo_some h
      obtain ⟨v17, e18, h⟩ := bo_some h
      refine g_cV1 O R0 N dX5_kindOfLine_28 vl_X5_145 vv_X5_isWord e16 [vT 0] rfl rfl rfl ⟨Nat.le_of_ble_eq_true rfl, Nat.le_of_ble_eq_true rfl⟩ (c_X5_isWord l0 a15 0 σ v17 e18) ?_
      refine g_if_eq O dX5_kindOfLine_31 rfl (fun c19 => ?_) (fun c19 => ?_)
      · replace h := (if_pos c19).symm.trans h
        refine g_aload_n O dX5_kindOfLine_36 rfl 0 rfl ?_
        refine g_ldcT (i := 1) O dX5_kindOfLine_37 rfl rfl (by decide) ?_
        obtain ⟨a20, e21, h⟩ := bo_some h
        obtain ⟨v22, e23, h⟩ := bo_some h
        refine g_cV1 O R0 N dX5_kindOfLine_39 vl_X5_145 vv_X5_isWord e21 [vT 1] rfl rfl rfl ⟨Nat.le_of_ble_eq_true rfl, Nat.le_of_ble_eq_true rfl⟩ (c_X5_isWord l0 a20 1 σ v22 e23) ?_
        refine g_if_eq O dX5_kindOfLine_42 rfl (fun c24 => ?_) (fun c24 => ?_)
        · replace h := (if_pos c24).symm.trans h
          refine g_iconst (v := (-1 : Int32)) O dX5_kindOfLine_49 rfl ?_
          cases h
          exact g_ireturn O K dX5_kindOfLine_50
        · replace h := (if_neg c24).symm.trans h
          refine g_iconst (v := (1 : Int32)) O dX5_kindOfLine_45 rfl ?_
          refine g_goto O dX5_kindOfLine_46 rfl ?_
          cases h
          exact g_ireturn O K dX5_kindOfLine_50
      · replace h := (if_neg c19).symm.trans h
        refine g_iconst (v := (0 : Int32)) O dX5_kindOfLine_34 rfl ?_
        cases h
        exact g_ireturn O K dX5_kindOfLine_35
theorem c_X5_kindOfLine (l0 : Launch) (a0 : Nat) (σ : Dt) (r : Int32) (h : f_X5_kindOfLine a0 σ = some r) : Ctr l0 yX5_kindOfLine cX5_kindOfLine 1 (some .int) false 8 272 0 0 [vA (some a0)] SX σ SX σ (some (vI r)) := ctr_of (by decide) (Nat.le_of_ble_eq_true rfl) (fun M O F R0 N hn => t_X5_kindOfLine O R0 N hn a0 σ r h F)
def f_X5_outOfForm (a0 : Nat) (σ : Dt) : Option (Int32 × Dt) := bo (xpi SX 5 3 (some a0) (1 : Int32) σ) fun σ1 => bo (xgi SX 5 8 (some a0) σ1) fun v3 => bo (xpi SX 5 4 (some a0) v3 σ1) fun σ5 => some ((0 : Int32), σ5)
theorem t_X5_outOfForm {M : Mx} {l0 : Launch} (O : Ok M cX5_outOfForm yX5_outOfForm) (R0 : Rm M l0 2 80 0 0) (N : Ma M = false) (hn : Mn M = 1) (a0 : Nat) (σ : Dt) (o : (Int32 × Dt)) (h : f_X5_outOfForm a0 σ = some o) (K : Fin' M (some .boolean) 0 0 SX o.2 (some (vI o.1))) : G M 0 0 0 [(0, vA (some a0))] [] SX σ := by
  unfold f_X5_outOfForm at h
  refine g_aload_n O dX5_outOfForm_0 rfl 0 rfl ?_
  refine g_iconst (v := (1 : Int32)) O dX5_outOfForm_1 rfl ?_
  obtain ⟨σ1, e2, h⟩ := bo_some h
  refine g_putI O dX5_outOfForm_2 fl_X5_32 (Or.inl rfl) rfl e2 ?_
  refine g_aload_n O dX5_outOfForm_5 rfl 0 rfl ?_
  refine g_aload_n O dX5_outOfForm_6 rfl 0 rfl ?_
  obtain ⟨v3, e4, h⟩ := bo_some h
  refine g_getI O dX5_outOfForm_7 fl_X5_96 rfl e4 ?_
  obtain ⟨σ5, e6, h⟩ := bo_some h
  refine g_putI O dX5_outOfForm_10 fl_X5_36 (Or.inl rfl) rfl e6 ?_
  refine g_iconst (v := (0 : Int32)) O dX5_outOfForm_13 rfl ?_
  cases h
  exact g_zreturn O (by decide) K dX5_outOfForm_14
theorem c_X5_outOfForm (l0 : Launch) (a0 : Nat) (σ : Dt) (r : Int32) (σ' : Dt) (h : f_X5_outOfForm a0 σ = some (r, σ')) : Ctr l0 yX5_outOfForm cX5_outOfForm 1 (some .boolean) false 2 80 0 0 [vA (some a0)] SX σ SX σ' (some (vI r)) := ctr_of (by decide) (Nat.le_of_ble_eq_true rfl) (fun M O F R0 N hn => t_X5_outOfForm O R0 N hn a0 σ (r, σ') h F)
def f_X5_numbersOf (a0 : Nat) (x1 : Int32) (σ : Dt) : Option Int32 := bo (xgi SX 5 7 (some a0) σ) fun v1 => if v1 = 0 then if x1 = (3 : Int32) then some (1 : Int32) else some (2 : Int32) else bo (xgi SX 5 7 (some a0) σ) fun v5 => if v5 = (2 : Int32) then if x1 = 0 then some (1 : Int32) else some (2 : Int32) else if x1 = 0 then some (3 : Int32) else if x1 = (1 : Int32) then some (2 : Int32) else if x1 = (4 : Int32) then some (0 : Int32) else some (1 : Int32)
theorem t_X5_numbersOf {M : Mx} {l0 : Launch} (O : Ok M cX5_numbersOf yX5_numbersOf) (R0 : Rm M l0 2 80 0 0) (N : Ma M = false) (hn : Mn M = 2) (a0 : Nat) (x1 : Int32) (σ : Dt) (o : Int32) (h : f_X5_numbersOf a0 x1 σ = some o) (K : Fin' M (some .int) 0 0 SX σ (some (vI o))) : G M 0 0 0 [(0, vA (some a0)), (1, vI x1)] [] SX σ := by
  unfold f_X5_numbersOf at h
  refine g_aload_n O dX5_numbersOf_0 rfl 0 rfl ?_
  obtain ⟨v1, e2, h⟩ := bo_some h
  refine g_getI O dX5_numbersOf_1 fl_X5_61 rfl e2 ?_
  refine g_if_ne O dX5_numbersOf_4 rfl (fun c3 => ?_) (fun c3 => ?_)
  · replace h := (if_pos c3).symm.trans h
    refine g_iload_n O dX5_numbersOf_7 rfl 1 rfl ?_
    refine g_iconst (v := (3 : Int32)) O dX5_numbersOf_8 rfl ?_
    refine g_icmp_ne O dX5_numbersOf_9 rfl (fun c4 => ?_) (fun c4 => ?_)
    · replace h := (if_pos c4).symm.trans h
      refine g_iconst (v := (1 : Int32)) O dX5_numbersOf_12 rfl ?_
      refine g_goto O dX5_numbersOf_13 rfl ?_
      cases h
      exact g_ireturn O K dX5_numbersOf_17
    · replace h := (if_neg c4).symm.trans h
      refine g_iconst (v := (2 : Int32)) O dX5_numbersOf_16 rfl ?_
      cases h
      exact g_ireturn O K dX5_numbersOf_17
  · replace h := (if_neg c3).symm.trans h
    refine g_aload_n O dX5_numbersOf_18 rfl 0 rfl ?_
    obtain ⟨v5, e6, h⟩ := bo_some h
    refine g_getI O dX5_numbersOf_19 fl_X5_61 rfl e6 ?_
    refine g_iconst (v := (2 : Int32)) O dX5_numbersOf_22 rfl ?_
    refine g_icmp_ne O dX5_numbersOf_23 rfl (fun c7 => ?_) (fun c7 => ?_)
    · replace h := (if_pos c7).symm.trans h
      refine g_iload_n O dX5_numbersOf_26 rfl 1 rfl ?_
      refine g_if_ne O dX5_numbersOf_27 rfl (fun c8 => ?_) (fun c8 => ?_)
      · replace h := (if_pos c8).symm.trans h
        refine g_iconst (v := (1 : Int32)) O dX5_numbersOf_30 rfl ?_
        refine g_goto O dX5_numbersOf_31 rfl ?_
        cases h
        exact g_ireturn O K dX5_numbersOf_35
      · replace h := (if_neg c8).symm.trans h
        refine g_iconst (v := (2 : Int32)) O dX5_numbersOf_34 rfl ?_
        cases h
        exact g_ireturn O K dX5_numbersOf_35
    · replace h := (if_neg c7).symm.trans h
      refine g_iload_n O dX5_numbersOf_36 rfl 1 rfl ?_
      refine g_if_ne O dX5_numbersOf_37 rfl (fun c9 => ?_) (fun c9 => ?_)
      · replace h := (if_pos c9).symm.trans h
        refine g_iconst (v := (3 : Int32)) O dX5_numbersOf_40 rfl ?_
        cases h
        exact g_ireturn O K dX5_numbersOf_41
      · replace h := (if_neg c9).symm.trans h
        refine g_iload_n O dX5_numbersOf_42 rfl 1 rfl ?_
        refine g_iconst (v := (1 : Int32)) O dX5_numbersOf_43 rfl ?_
        refine g_icmp_ne O dX5_numbersOf_44 rfl (fun c10 => ?_) (fun c10 => ?_)
        · replace h := (if_pos c10).symm.trans h
          refine g_iconst (v := (2 : Int32)) O dX5_numbersOf_47 rfl ?_
          cases h
          exact g_ireturn O K dX5_numbersOf_48
        · replace h := (if_neg c10).symm.trans h
          refine g_iload_n O dX5_numbersOf_49 rfl 1 rfl ?_
          refine g_iconst (v := (4 : Int32)) O dX5_numbersOf_50 rfl ?_
          refine g_icmp_ne O dX5_numbersOf_51 rfl (fun c11 => ?_) (fun c11 => ?_)
          · replace h := (if_pos c11).symm.trans h
            refine g_iconst (v := (0 : Int32)) O dX5_numbersOf_54 rfl ?_
            refine g_goto O dX5_numbersOf_55 rfl ?_
            cases h
            exact g_ireturn O K dX5_numbersOf_59
          · replace h := (if_neg c11).symm.trans h
            refine g_iconst (v := (1 : Int32)) O dX5_numbersOf_58 rfl ?_
            cases h
            exact g_ireturn O K dX5_numbersOf_59
theorem c_X5_numbersOf (l0 : Launch) (a0 : Nat) (x1 : Int32) (σ : Dt) (r : Int32) (h : f_X5_numbersOf a0 x1 σ = some r) : Ctr l0 yX5_numbersOf cX5_numbersOf 2 (some .int) false 2 80 0 0 [vA (some a0), vI x1] SX σ SX σ (some (vI r)) := ctr_of (by decide) (Nat.le_of_ble_eq_true rfl) (fun M O F R0 N hn => t_X5_numbersOf O R0 N hn a0 x1 σ r h F)
def P_X5_numberRead_7 (M : Mx) (a0 : Nat) (σ : Dt) (s : (Int32 × Int32)) : Prop := G M 0 0 7 [(0, vA (some a0)), (1, vI s.1), (2, vI s.2)] [] SX σ
def E_X5_numberRead_7 (M : Mx) (a0 : Nat) (σ : Dt) : Int32 → Prop := (fun w => G M 0 0 35 [(1, vI w)] [] SX σ)
def f_X5_numberRead_L7 (a0 : Nat) (x1 : Int32) (x2 : Int32) (σ : Dt) : Option ((Int32 × Int32) ⊕ Int32) := bo (xgi SX 5 9 (some a0) σ) fun v1 => if v1 ≤ x2 then some (.inr x1) else bo (xrc SX 5 (some a0)) fun a4 => bo (f_X5_byteAt a4 x2 σ) fun v6 => some (.inl (((x1 * (10 : Int32)) + (v6 - (48 : Int32))), (x2 + (1 : Int32))))
theorem t_X5_numberRead_L7 {M : Mx} {l0 : Launch} (O : Ok M cX5_numberRead yX5_numberRead) (R0 : Rm M l0 3 101 0 0) (N : Ma M = false) (hn : Mn M = 3) (a0 : Nat) (x1 : Int32) (x2 : Int32) (σ : Dt) (o : ((Int32 × Int32) ⊕ Int32)) (h : f_X5_numberRead_L7 a0 x1 x2 σ = some o) (K : kon (P_X5_numberRead_7 M a0 σ) (E_X5_numberRead_7 M a0 σ) o) : G M 0 0 7 [(0, vA (some a0)), (1, vI x1), (2, vI x2)] [] SX σ := by
  unfold f_X5_numberRead_L7 at h
  refine g_iload_n O dX5_numberRead_7 rfl 2 rfl ?_
  refine g_aload_n O dX5_numberRead_8 rfl 0 rfl ?_
  obtain ⟨v1, e2, h⟩ := bo_some h
  refine g_getI O dX5_numberRead_9 fl_X5_64 rfl e2 ?_
  refine g_icmp_ge O dX5_numberRead_12 rfl (fun c3 => ?_) (fun c3 => ?_)
  · replace h := (if_pos c3).symm.trans h
    refine g_sub [1] (lv' := [(1, vI x1)]) rfl ?_
    cases h
    exact K
  · replace h := (if_neg c3).symm.trans h
    refine g_iload_n O dX5_numberRead_15 rfl 1 rfl ?_
    refine g_bipush (v := (10 : Int32)) O dX5_numberRead_16 rfl ?_
    refine g_imul O dX5_numberRead_18 ?_
    refine g_aload_n O dX5_numberRead_19 rfl 0 rfl ?_
    refine g_iload_n O dX5_numberRead_20 rfl 2 rfl ?_
    obtain ⟨a4, e5, h⟩ := bo_some h
    obtain ⟨v6, e7, h⟩ := bo_some h
    refine g_cV1 O R0 N dX5_numberRead_21 vl_X5_120 vv_X5_byteAt e5 [vI x2] rfl rfl rfl ⟨Nat.le_of_ble_eq_true rfl, Nat.le_of_ble_eq_true rfl⟩ (c_X5_byteAt l0 a4 x2 σ v6 e7) ?_
    refine g_bipush (v := (48 : Int32)) O dX5_numberRead_24 rfl ?_
    refine g_isub O dX5_numberRead_26 ?_
    refine g_iadd O dX5_numberRead_27 ?_
    refine g_istore_n (lv' := [(1, vI ((x1 * (10 : Int32)) + (v6 - (48 : Int32)))), (0, vA (some a0)), (2, vI x2)]) O dX5_numberRead_28 rfl 3 hn (by decide) rfl ?_
    refine g_iinc (v := (x2 + (1 : Int32))) (lv' := [(2, vI (x2 + (1 : Int32))), (1, vI ((x1 * (10 : Int32)) + (v6 - (48 : Int32)))), (0, vA (some a0))]) O dX5_numberRead_29 3 hn (by decide) 2 rfl rfl rfl ?_
    refine g_goto O dX5_numberRead_32 rfl ?_
    refine g_sub [2, 1, 0] (lv' := [(0, vA (some a0)), (1, vI ((x1 * (10 : Int32)) + (v6 - (48 : Int32)))), (2, vI (x2 + (1 : Int32)))]) rfl ?_
    cases h
    exact K
def f_X5_numberRead (a0 : Nat) (σ : Dt) : Option Int32 := bo (xgi SX 5 8 (some a0) σ) fun v1 => bo (iter FU (fun s => f_X5_numberRead_L7 a0 s.1 s.2 σ) ((0 : Int32), v1)) fun w3 => some w3
theorem t_X5_numberRead {M : Mx} {l0 : Launch} (O : Ok M cX5_numberRead yX5_numberRead) (R0 : Rm M l0 3 101 0 0) (N : Ma M = false) (hn : Mn M = 3) (a0 : Nat) (σ : Dt) (o : Int32) (h : f_X5_numberRead a0 σ = some o) (K : Fin' M (some .int) 0 0 SX σ (some (vI o))) : G M 0 0 0 [(0, vA (some a0))] [] SX σ := by
  unfold f_X5_numberRead at h
  refine g_iconst (v := (0 : Int32)) O dX5_numberRead_0 rfl ?_
  refine g_istore_n (lv' := [(1, vI (0 : Int32)), (0, vA (some a0))]) O dX5_numberRead_1 rfl 3 hn (by decide) rfl ?_
  refine g_aload_n O dX5_numberRead_2 rfl 1 rfl ?_
  obtain ⟨v1, e2, h⟩ := bo_some h
  refine g_getI O dX5_numberRead_3 fl_X5_96 rfl e2 ?_
  refine g_istore_n (lv' := [(2, vI v1), (1, vI (0 : Int32)), (0, vA (some a0))]) O dX5_numberRead_6 rfl 3 hn (by decide) rfl ?_
  refine g_sub [2, 1, 0] (lv' := [(0, vA (some a0)), (1, vI (0 : Int32)), (2, vI v1)]) rfl ?_
  obtain ⟨w3, e4, h⟩ := bo_some h
  refine iter_G (P := P_X5_numberRead_7 M a0 σ) (E := E_X5_numberRead_7 M a0 σ) (fun s o hb hk => t_X5_numberRead_L7 O R0 N hn a0 s.1 s.2 σ o hb hk) FU ((0 : Int32), v1) w3 e4 ?_
  show G M 0 0 35 [(1, vI w3)] [] SX σ
  refine g_iload_n O dX5_numberRead_35 rfl 0 rfl ?_
  cases h
  exact g_ireturn O K dX5_numberRead_36
theorem c_X5_numberRead (l0 : Launch) (a0 : Nat) (σ : Dt) (r : Int32) (h : f_X5_numberRead a0 σ = some r) : Ctr l0 yX5_numberRead cX5_numberRead 3 (some .int) false 3 101 0 0 [vA (some a0)] SX σ SX σ (some (vI r)) := ctr_of (by decide) (Nat.le_of_ble_eq_true rfl) (fun M O F R0 N hn => t_X5_numberRead O R0 N hn a0 σ r h F)
def f_X5_isOneTooMany_100  (σ : Dt) : Option Int32 := some (0 : Int32)
theorem t_X5_isOneTooMany_100 {M : Mx} {l0 : Launch} (O : Ok M cX5_isOneTooMany yX5_isOneTooMany) (R0 : Rm M l0 2 80 0 0) (N : Ma M = false) (hn : Mn M = 2)   (σ : Dt) (o : Int32) (h : f_X5_isOneTooMany_100 σ = some o) (K : Fin' M (some .boolean) 0 0 SX σ (some (vI o))) : G M 0 0 100 [] [] SX σ := by
  unfold f_X5_isOneTooMany_100 at h
  refine g_iconst (v := (0 : Int32)) O dX5_isOneTooMany_100 rfl ?_
  cases h
  exact g_zreturn O (by decide) K dX5_isOneTooMany_101
def f_X5_isOneTooMany_55  (σ : Dt) : Option Int32 := some (0 : Int32)
theorem t_X5_isOneTooMany_55 {M : Mx} {l0 : Launch} (O : Ok M cX5_isOneTooMany yX5_isOneTooMany) (R0 : Rm M l0 2 80 0 0) (N : Ma M = false) (hn : Mn M = 2)   (σ : Dt) (o : Int32) (h : f_X5_isOneTooMany_55 σ = some o) (K : Fin' M (some .boolean) 0 0 SX σ (some (vI o))) : G M 0 0 55 [] [] SX σ := by
  unfold f_X5_isOneTooMany_55 at h
  refine g_iconst (v := (0 : Int32)) O dX5_isOneTooMany_55 rfl ?_
  cases h
  exact g_zreturn O (by decide) K dX5_isOneTooMany_56
def f_X5_isOneTooMany (a0 : Nat) (x1 : Int32) (σ : Dt) : Option Int32 := bo (xgi SX 5 7 (some a0) σ) fun v1 => if v1 = (1 : Int32) then bo (xgr SX 5 1 (some a0) σ) fun v4 => bo (xgi SX 4 0 v4 σ) fun v6 => if v6 < (40 : Int32) then some (0 : Int32) else some (1 : Int32) else bo (xgi SX 5 7 (some a0) σ) fun v9 => if v9 = (2 : Int32) then if x1 = (1 : Int32) then bo (xgr SX 5 2 (some a0) σ) fun v13 => bo (xgi SX 6 1 v13 σ) fun v15 => if v15 < (8 : Int32) then f_X5_isOneTooMany_55 σ else some (1 : Int32) else f_X5_isOneTooMany_55 σ else if x1 = 0 then bo (xgr SX 5 0 (some a0) σ) fun v19 => bo (xgi SX 9 0 v19 σ) fun v21 => if v21 < (10 : Int32) then some (0 : Int32) else some (1 : Int32) else if x1 = (2 : Int32) then bo (xgr SX 5 0 (some a0) σ) fun v25 => bo (xgi SX 9 1 v25 σ) fun v27 => if v27 < (6 : Int32) then f_X5_isOneTooMany_100 σ else some (1 : Int32) else f_X5_isOneTooMany_100 σ
theorem t_X5_isOneTooMany {M : Mx} {l0 : Launch} (O : Ok M cX5_isOneTooMany yX5_isOneTooMany) (R0 : Rm M l0 2 80 0 0) (N : Ma M = false) (hn : Mn M = 2) (a0 : Nat) (x1 : Int32) (σ : Dt) (o : Int32) (h : f_X5_isOneTooMany a0 x1 σ = some o) (K : Fin' M (some .boolean) 0 0 SX σ (some (vI o))) : G M 0 0 0 [(0, vA (some a0)), (1, vI x1)] [] SX σ := by
  unfold f_X5_isOneTooMany at h
  refine g_aload_n O dX5_isOneTooMany_0 rfl 0 rfl ?_
  obtain ⟨v1, e2, h⟩ := bo_some h
  refine g_getI O dX5_isOneTooMany_1 fl_X5_61 rfl e2 ?_
  refine g_iconst (v := (1 : Int32)) O dX5_isOneTooMany_4 rfl ?_
  refine g_icmp_ne O dX5_isOneTooMany_5 rfl (fun c3 => ?_) (fun c3 => ?_)
  · replace h := (if_pos c3).symm.trans h
    refine g_aload_n O dX5_isOneTooMany_8 rfl 0 rfl ?_
    obtain ⟨v4, e5, h⟩ := bo_some h
    refine g_getR O dX5_isOneTooMany_9 fl_X5_21 rfl e5 ?_
    obtain ⟨v6, e7, h⟩ := bo_some h
    refine g_getI O dX5_isOneTooMany_12 fl_X5_73 rfl e7 ?_
    refine g_bipush (v := (40 : Int32)) O dX5_isOneTooMany_15 rfl ?_
    refine g_icmp_lt O dX5_isOneTooMany_17 rfl (fun c8 => ?_) (fun c8 => ?_)
    · replace h := (if_pos c8).symm.trans h
      refine g_iconst (v := (0 : Int32)) O dX5_isOneTooMany_24 rfl ?_
      cases h
      exact g_zreturn O (by decide) K dX5_isOneTooMany_25
    · replace h := (if_neg c8).symm.trans h
      refine g_iconst (v := (1 : Int32)) O dX5_isOneTooMany_20 rfl ?_
      refine g_goto O dX5_isOneTooMany_21 rfl ?_
      cases h
      exact g_zreturn O (by decide) K dX5_isOneTooMany_25
  · replace h := (if_neg c3).symm.trans h
    refine g_aload_n O dX5_isOneTooMany_26 rfl 0 rfl ?_
    obtain ⟨v9, e10, h⟩ := bo_some h
    refine g_getI O dX5_isOneTooMany_27 fl_X5_61 rfl e10 ?_
    refine g_iconst (v := (2 : Int32)) O dX5_isOneTooMany_30 rfl ?_
    refine g_icmp_ne O dX5_isOneTooMany_31 rfl (fun c11 => ?_) (fun c11 => ?_)
    · replace h := (if_pos c11).symm.trans h
      refine g_iload_n O dX5_isOneTooMany_34 rfl 1 rfl ?_
      refine g_iconst (v := (1 : Int32)) O dX5_isOneTooMany_35 rfl ?_
      refine g_icmp_ne O dX5_isOneTooMany_36 rfl (fun c12 => ?_) (fun c12 => ?_)
      · replace h := (if_pos c12).symm.trans h
        refine g_aload_n O dX5_isOneTooMany_39 rfl 0 rfl ?_
        obtain ⟨v13, e14, h⟩ := bo_some h
        refine g_getR O dX5_isOneTooMany_40 fl_X5_28 rfl e14 ?_
        obtain ⟨v15, e16, h⟩ := bo_some h
        refine g_getI O dX5_isOneTooMany_43 fl_X5_79 rfl e16 ?_
        refine g_bipush (v := (8 : Int32)) O dX5_isOneTooMany_46 rfl ?_
        refine g_icmp_lt O dX5_isOneTooMany_48 rfl (fun c17 => ?_) (fun c17 => ?_)
        · replace h := (if_pos c17).symm.trans h
          refine g_sub [] (lv' := []) rfl ?_
          exact t_X5_isOneTooMany_55 O R0 N hn σ o h K
        · replace h := (if_neg c17).symm.trans h
          refine g_iconst (v := (1 : Int32)) O dX5_isOneTooMany_51 rfl ?_
          refine g_goto O dX5_isOneTooMany_52 rfl ?_
          cases h
          exact g_zreturn O (by decide) K dX5_isOneTooMany_56
      · replace h := (if_neg c12).symm.trans h
        refine g_sub [] (lv' := []) rfl ?_
        exact t_X5_isOneTooMany_55 O R0 N hn σ o h K
    · replace h := (if_neg c11).symm.trans h
      refine g_iload_n O dX5_isOneTooMany_57 rfl 1 rfl ?_
      refine g_if_ne O dX5_isOneTooMany_58 rfl (fun c18 => ?_) (fun c18 => ?_)
      · replace h := (if_pos c18).symm.trans h
        refine g_aload_n O dX5_isOneTooMany_61 rfl 0 rfl ?_
        obtain ⟨v19, e20, h⟩ := bo_some h
        refine g_getR O dX5_isOneTooMany_62 fl_X5_12 rfl e20 ?_
        obtain ⟨v21, e22, h⟩ := bo_some h
        refine g_getI O dX5_isOneTooMany_65 fl_X5_180 rfl e22 ?_
        refine g_bipush (v := (10 : Int32)) O dX5_isOneTooMany_68 rfl ?_
        refine g_icmp_lt O dX5_isOneTooMany_70 rfl (fun c23 => ?_) (fun c23 => ?_)
        · replace h := (if_pos c23).symm.trans h
          refine g_iconst (v := (0 : Int32)) O dX5_isOneTooMany_77 rfl ?_
          cases h
          exact g_zreturn O (by decide) K dX5_isOneTooMany_78
        · replace h := (if_neg c23).symm.trans h
          refine g_iconst (v := (1 : Int32)) O dX5_isOneTooMany_73 rfl ?_
          refine g_goto O dX5_isOneTooMany_74 rfl ?_
          cases h
          exact g_zreturn O (by decide) K dX5_isOneTooMany_78
      · replace h := (if_neg c18).symm.trans h
        refine g_iload_n O dX5_isOneTooMany_79 rfl 1 rfl ?_
        refine g_iconst (v := (2 : Int32)) O dX5_isOneTooMany_80 rfl ?_
        refine g_icmp_ne O dX5_isOneTooMany_81 rfl (fun c24 => ?_) (fun c24 => ?_)
        · replace h := (if_pos c24).symm.trans h
          refine g_aload_n O dX5_isOneTooMany_84 rfl 0 rfl ?_
          obtain ⟨v25, e26, h⟩ := bo_some h
          refine g_getR O dX5_isOneTooMany_85 fl_X5_12 rfl e26 ?_
          obtain ⟨v27, e28, h⟩ := bo_some h
          refine g_getI O dX5_isOneTooMany_88 fl_X5_182 rfl e28 ?_
          refine g_bipush (v := (6 : Int32)) O dX5_isOneTooMany_91 rfl ?_
          refine g_icmp_lt O dX5_isOneTooMany_93 rfl (fun c29 => ?_) (fun c29 => ?_)
          · replace h := (if_pos c29).symm.trans h
            refine g_sub [] (lv' := []) rfl ?_
            exact t_X5_isOneTooMany_100 O R0 N hn σ o h K
          · replace h := (if_neg c29).symm.trans h
            refine g_iconst (v := (1 : Int32)) O dX5_isOneTooMany_96 rfl ?_
            refine g_goto O dX5_isOneTooMany_97 rfl ?_
            cases h
            exact g_zreturn O (by decide) K dX5_isOneTooMany_101
        · replace h := (if_neg c24).symm.trans h
          refine g_sub [] (lv' := []) rfl ?_
          exact t_X5_isOneTooMany_100 O R0 N hn σ o h K
theorem c_X5_isOneTooMany (l0 : Launch) (a0 : Nat) (x1 : Int32) (σ : Dt) (r : Int32) (h : f_X5_isOneTooMany a0 x1 σ = some r) : Ctr l0 yX5_isOneTooMany cX5_isOneTooMany 2 (some .boolean) false 2 80 0 0 [vA (some a0), vI x1] SX σ SX σ (some (vI r)) := ctr_of (by decide) (Nat.le_of_ble_eq_true rfl) (fun M O F R0 N hn => t_X5_isOneTooMany O R0 N hn a0 x1 σ r h F)
def f_X5_note (a0 : Nat) (x1 : Int32) (x2 : Int32) (σ : Dt) : Option (Unit × Dt) := bo (xgi SX 5 3 (some a0) σ) fun v1 => if v1 = 0 then bo (xpi SX 5 3 (some a0) x1 σ) fun σ4 => bo (xpi SX 5 4 (some a0) x2 σ4) fun σ6 => some ((), σ6) else some ((), σ)
theorem t_X5_note {M : Mx} {l0 : Launch} (O : Ok M cX5_note yX5_note) (R0 : Rm M l0 2 80 0 0) (N : Ma M = false) (hn : Mn M = 3) (a0 : Nat) (x1 : Int32) (x2 : Int32) (σ : Dt) (o : (Unit × Dt)) (h : f_X5_note a0 x1 x2 σ = some o) (K : Fin' M (none) 0 0 SX o.2 (none)) : G M 0 0 0 [(0, vA (some a0)), (1, vI x1), (2, vI x2)] [] SX σ := by
  unfold f_X5_note at h
  refine g_aload_n O dX5_note_0 rfl 0 rfl ?_
  obtain ⟨v1, e2, h⟩ := bo_some h
  refine g_getI O dX5_note_1 fl_X5_32 rfl e2 ?_
  refine g_if_ne O dX5_note_4 rfl (fun c3 => ?_) (fun c3 => ?_)
  · replace h := (if_pos c3).symm.trans h
    refine g_aload_n O dX5_note_7 rfl 0 rfl ?_
    refine g_iload_n O dX5_note_8 rfl 1 rfl ?_
    obtain ⟨σ4, e5, h⟩ := bo_some h
    refine g_putI O dX5_note_9 fl_X5_32 (Or.inl rfl) rfl e5 ?_
    refine g_aload_n O dX5_note_12 rfl 0 rfl ?_
    refine g_iload_n O dX5_note_13 rfl 2 rfl ?_
    obtain ⟨σ6, e7, h⟩ := bo_some h
    refine g_putI O dX5_note_14 fl_X5_36 (Or.inl rfl) rfl e7 ?_
    cases h
    exact g_return O K dX5_note_17
  · replace h := (if_neg c3).symm.trans h
    cases h
    exact g_return O K dX5_note_17
theorem c_X5_note (l0 : Launch) (a0 : Nat) (x1 : Int32) (x2 : Int32) (σ : Dt) (r : Unit) (σ' : Dt) (h : f_X5_note a0 x1 x2 σ = some (r, σ')) : Ctr l0 yX5_note cX5_note 3 (none) false 2 80 0 0 [vA (some a0), vI x1, vI x2] SX σ SX σ' (none) := ctr_of (by decide) (Nat.le_of_ble_eq_true rfl) (fun M O F R0 N hn => t_X5_note O R0 N hn a0 x1 x2 σ (r, σ') h F)
def f_X5_canBeInValley_128  (σ : Dt) : Option Int32 := some (0 : Int32)
theorem t_X5_canBeInValley_128 {M : Mx} {l0 : Launch} (O : Ok M cX5_canBeInValley yX5_canBeInValley) (R0 : Rm M l0 2 80 0 0) (N : Ma M = false) (hn : Mn M = 4)   (σ : Dt) (o : Int32) (h : f_X5_canBeInValley_128 σ = some o) (K : Fin' M (some .boolean) 0 0 SX σ (some (vI o))) : G M 0 0 128 [] [] SX σ := by
  unfold f_X5_canBeInValley_128 at h
  refine g_iconst (v := (0 : Int32)) O dX5_canBeInValley_128 rfl ?_
  cases h
  exact g_zreturn O (by decide) K dX5_canBeInValley_129
def f_X5_canBeInValley_97  (σ : Dt) : Option Int32 := some (0 : Int32)
theorem t_X5_canBeInValley_97 {M : Mx} {l0 : Launch} (O : Ok M cX5_canBeInValley yX5_canBeInValley) (R0 : Rm M l0 2 80 0 0) (N : Ma M = false) (hn : Mn M = 4)   (σ : Dt) (o : Int32) (h : f_X5_canBeInValley_97 σ = some o) (K : Fin' M (some .boolean) 0 0 SX σ (some (vI o))) : G M 0 0 97 [] [] SX σ := by
  unfold f_X5_canBeInValley_97 at h
  refine g_iconst (v := (0 : Int32)) O dX5_canBeInValley_97 rfl ?_
  refine g_goto O dX5_canBeInValley_98 rfl ?_
  cases h
  exact g_zreturn O (by decide) K dX5_canBeInValley_112
def f_X5_canBeInValley_38  (σ : Dt) : Option Int32 := some (1 : Int32)
theorem t_X5_canBeInValley_38 {M : Mx} {l0 : Launch} (O : Ok M cX5_canBeInValley yX5_canBeInValley) (R0 : Rm M l0 2 80 0 0) (N : Ma M = false) (hn : Mn M = 4)   (σ : Dt) (o : Int32) (h : f_X5_canBeInValley_38 σ = some o) (K : Fin' M (some .boolean) 0 0 SX σ (some (vI o))) : G M 0 0 38 [] [] SX σ := by
  unfold f_X5_canBeInValley_38 at h
  refine g_iconst (v := (1 : Int32)) O dX5_canBeInValley_38 rfl ?_
  refine g_goto O dX5_canBeInValley_39 rfl ?_
  cases h
  exact g_zreturn O (by decide) K dX5_canBeInValley_43
def f_X5_canBeInValley (a0 : Nat) (x1 : Int32) (x2 : Int32) (x3 : Int32) (σ : Dt) : Option Int32 := if x1 = (0 : Int32) then if x2 = 0 then f_X5_canBeInValley_38 σ else if (9 : Int32) < x3 then some (0 : Int32) else f_X5_canBeInValley_38 σ else if x1 = (1 : Int32) then if x2 = 0 then if (10 : Int32) ≤ x3 then some (0 : Int32) else some (1 : Int32) else bo (xgr SX 5 11 (some a0) σ) fun v7 => bo (xai SX v7 (0 : Int32) σ) fun v9 => if v9 ≤ x3 then some (0 : Int32) else some (1 : Int32) else if x1 = (2 : Int32) then if x2 = 0 then if x3 < (1 : Int32) then f_X5_canBeInValley_97 σ else if (30 : Int32) < x3 then f_X5_canBeInValley_97 σ else some (1 : Int32) else if (20 : Int32) < x3 then some (0 : Int32) else some (1 : Int32) else if x3 < (1 : Int32) then f_X5_canBeInValley_128 σ else if (30 : Int32) < x3 then f_X5_canBeInValley_128 σ else some (1 : Int32)
theorem t_X5_canBeInValley {M : Mx} {l0 : Launch} (O : Ok M cX5_canBeInValley yX5_canBeInValley) (R0 : Rm M l0 2 80 0 0) (N : Ma M = false) (hn : Mn M = 4) (a0 : Nat) (x1 : Int32) (x2 : Int32) (x3 : Int32) (σ : Dt) (o : Int32) (h : f_X5_canBeInValley a0 x1 x2 x3 σ = some o) (K : Fin' M (some .boolean) 0 0 SX σ (some (vI o))) : G M 0 0 0 [(0, vA (some a0)), (1, vI x1), (2, vI x2), (3, vI x3)] [] SX σ := by
  unfold f_X5_canBeInValley at h
  refine g_iload_n O dX5_canBeInValley_0 rfl 1 rfl ?_
  by_cases c1 : x1 = (0 : Int32)
  · replace h := (if_pos c1).symm.trans h
    refine g_tabIn O dX5_canBeInValley_1 (by rw [c1]; decide) (by rw [c1]; decide) (by rw [c1]; rfl) rfl ?_
    refine g_iload_n O dX5_canBeInValley_28 rfl 2 rfl ?_
    refine g_if_eq O dX5_canBeInValley_29 rfl (fun c2 => ?_) (fun c2 => ?_)
    · replace h := (if_pos c2).symm.trans h
      refine g_sub [] (lv' := []) rfl ?_
      exact t_X5_canBeInValley_38 O R0 N hn σ o h K
    · replace h := (if_neg c2).symm.trans h
      refine g_iload_n O dX5_canBeInValley_32 rfl 3 rfl ?_
      refine g_bipush (v := (9 : Int32)) O dX5_canBeInValley_33 rfl ?_
      refine g_icmp_gt O dX5_canBeInValley_35 rfl (fun c3 => ?_) (fun c3 => ?_)
      · replace h := (if_pos c3).symm.trans h
        refine g_iconst (v := (0 : Int32)) O dX5_canBeInValley_42 rfl ?_
        cases h
        exact g_zreturn O (by decide) K dX5_canBeInValley_43
      · replace h := (if_neg c3).symm.trans h
        refine g_sub [] (lv' := []) rfl ?_
        exact t_X5_canBeInValley_38 O R0 N hn σ o h K
  replace h := (if_neg c1).symm.trans h
  by_cases c4 : x1 = (1 : Int32)
  · replace h := (if_pos c4).symm.trans h
    refine g_tabIn O dX5_canBeInValley_1 (by rw [c4]; decide) (by rw [c4]; decide) (by rw [c4]; rfl) rfl ?_
    refine g_iload_n O dX5_canBeInValley_44 rfl 2 rfl ?_
    refine g_if_ne O dX5_canBeInValley_45 rfl (fun c5 => ?_) (fun c5 => ?_)
    · replace h := (if_pos c5).symm.trans h
      refine g_iload_n O dX5_canBeInValley_48 rfl 3 rfl ?_
      refine g_bipush (v := (10 : Int32)) O dX5_canBeInValley_49 rfl ?_
      refine g_icmp_ge O dX5_canBeInValley_51 rfl (fun c6 => ?_) (fun c6 => ?_)
      · replace h := (if_pos c6).symm.trans h
        refine g_iconst (v := (0 : Int32)) O dX5_canBeInValley_58 rfl ?_
        refine g_goto O dX5_canBeInValley_59 rfl ?_
        cases h
        exact g_zreturn O (by decide) K dX5_canBeInValley_77
      · replace h := (if_neg c6).symm.trans h
        refine g_iconst (v := (1 : Int32)) O dX5_canBeInValley_54 rfl ?_
        refine g_goto O dX5_canBeInValley_55 rfl ?_
        cases h
        exact g_zreturn O (by decide) K dX5_canBeInValley_77
    · replace h := (if_neg c5).symm.trans h
      refine g_iload_n O dX5_canBeInValley_62 rfl 3 rfl ?_
      refine g_aload_n O dX5_canBeInValley_63 rfl 0 rfl ?_
      obtain ⟨v7, e8, h⟩ := bo_some h
      refine g_getR O dX5_canBeInValley_64 fl_X5_43 rfl e8 ?_
      refine g_iconst (v := (0 : Int32)) O dX5_canBeInValley_67 rfl ?_
      obtain ⟨v9, e10, h⟩ := bo_some h
      refine g_iaload O dX5_canBeInValley_68 e10 ?_
      refine g_icmp_ge O dX5_canBeInValley_69 rfl (fun c11 => ?_) (fun c11 => ?_)
      · replace h := (if_pos c11).symm.trans h
        refine g_iconst (v := (0 : Int32)) O dX5_canBeInValley_76 rfl ?_
        cases h
        exact g_zreturn O (by decide) K dX5_canBeInValley_77
      · replace h := (if_neg c11).symm.trans h
        refine g_iconst (v := (1 : Int32)) O dX5_canBeInValley_72 rfl ?_
        refine g_goto O dX5_canBeInValley_73 rfl ?_
        cases h
        exact g_zreturn O (by decide) K dX5_canBeInValley_77
  replace h := (if_neg c4).symm.trans h
  by_cases c12 : x1 = (2 : Int32)
  · replace h := (if_pos c12).symm.trans h
    refine g_tabIn O dX5_canBeInValley_1 (by rw [c12]; decide) (by rw [c12]; decide) (by rw [c12]; rfl) rfl ?_
    refine g_iload_n O dX5_canBeInValley_78 rfl 2 rfl ?_
    refine g_if_ne O dX5_canBeInValley_79 rfl (fun c13 => ?_) (fun c13 => ?_)
    · replace h := (if_pos c13).symm.trans h
      refine g_iload_n O dX5_canBeInValley_82 rfl 3 rfl ?_
      refine g_iconst (v := (1 : Int32)) O dX5_canBeInValley_83 rfl ?_
      refine g_icmp_lt O dX5_canBeInValley_84 rfl (fun c14 => ?_) (fun c14 => ?_)
      · replace h := (if_pos c14).symm.trans h
        refine g_sub [] (lv' := []) rfl ?_
        exact t_X5_canBeInValley_97 O R0 N hn σ o h K
      · replace h := (if_neg c14).symm.trans h
        refine g_iload_n O dX5_canBeInValley_87 rfl 3 rfl ?_
        refine g_bipush (v := (30 : Int32)) O dX5_canBeInValley_88 rfl ?_
        refine g_icmp_gt O dX5_canBeInValley_90 rfl (fun c15 => ?_) (fun c15 => ?_)
        · replace h := (if_pos c15).symm.trans h
          refine g_sub [] (lv' := []) rfl ?_
          exact t_X5_canBeInValley_97 O R0 N hn σ o h K
        · replace h := (if_neg c15).symm.trans h
          refine g_iconst (v := (1 : Int32)) O dX5_canBeInValley_93 rfl ?_
          refine g_goto O dX5_canBeInValley_94 rfl ?_
          cases h
          exact g_zreturn O (by decide) K dX5_canBeInValley_112
    · replace h := (if_neg c13).symm.trans h
      refine g_iload_n O dX5_canBeInValley_101 rfl 3 rfl ?_
      refine g_bipush (v := (20 : Int32)) O dX5_canBeInValley_102 rfl ?_
      refine g_icmp_gt O dX5_canBeInValley_104 rfl (fun c16 => ?_) (fun c16 => ?_)
      · replace h := (if_pos c16).symm.trans h
        refine g_iconst (v := (0 : Int32)) O dX5_canBeInValley_111 rfl ?_
        cases h
        exact g_zreturn O (by decide) K dX5_canBeInValley_112
      · replace h := (if_neg c16).symm.trans h
        refine g_iconst (v := (1 : Int32)) O dX5_canBeInValley_107 rfl ?_
        refine g_goto O dX5_canBeInValley_108 rfl ?_
        cases h
        exact g_zreturn O (by decide) K dX5_canBeInValley_112
  replace h := (if_neg c12).symm.trans h
  refine g_tabOut O dX5_canBeInValley_1 (tab_out [(0 : Int32), (1 : Int32), (2 : Int32)] (fun z h1 h2 => ?_) (fun c hc => ?_)) rfl ?_
  · have hz : z = 0 ∨ z = 1 ∨ z = 2 := by omega
    rcases hz with rfl | rfl | rfl
    · exact ⟨(0 : Int32), by simp, rfl⟩
    · exact ⟨(1 : Int32), by simp, rfl⟩
    · exact ⟨(2 : Int32), by simp, rfl⟩
  · simp only [List.mem_cons, List.not_mem_nil, or_false] at hc
    rcases hc with rfl | rfl | rfl <;> assumption
  refine g_iload_n O dX5_canBeInValley_113 rfl 3 rfl ?_
  refine g_iconst (v := (1 : Int32)) O dX5_canBeInValley_114 rfl ?_
  refine g_icmp_lt O dX5_canBeInValley_115 rfl (fun c17 => ?_) (fun c17 => ?_)
  · replace h := (if_pos c17).symm.trans h
    refine g_sub [] (lv' := []) rfl ?_
    exact t_X5_canBeInValley_128 O R0 N hn σ o h K
  · replace h := (if_neg c17).symm.trans h
    refine g_iload_n O dX5_canBeInValley_118 rfl 3 rfl ?_
    refine g_bipush (v := (30 : Int32)) O dX5_canBeInValley_119 rfl ?_
    refine g_icmp_gt O dX5_canBeInValley_121 rfl (fun c18 => ?_) (fun c18 => ?_)
    · replace h := (if_pos c18).symm.trans h
      refine g_sub [] (lv' := []) rfl ?_
      exact t_X5_canBeInValley_128 O R0 N hn σ o h K
    · replace h := (if_neg c18).symm.trans h
      refine g_iconst (v := (1 : Int32)) O dX5_canBeInValley_124 rfl ?_
      refine g_goto O dX5_canBeInValley_125 rfl ?_
      cases h
      exact g_zreturn O (by decide) K dX5_canBeInValley_129
theorem c_X5_canBeInValley (l0 : Launch) (a0 : Nat) (x1 : Int32) (x2 : Int32) (x3 : Int32) (σ : Dt) (r : Int32) (h : f_X5_canBeInValley a0 x1 x2 x3 σ = some r) : Ctr l0 yX5_canBeInValley cX5_canBeInValley 4 (some .boolean) false 2 80 0 0 [vA (some a0), vI x1, vI x2, vI x3] SX σ SX σ (some (vI r)) := ctr_of (by decide) (Nat.le_of_ble_eq_true rfl) (fun M O F R0 N hn => t_X5_canBeInValley O R0 N hn a0 x1 x2 x3 σ r h F)
def f_X5_canBeInDeed_67  (σ : Dt) : Option Int32 := some (0 : Int32)
theorem t_X5_canBeInDeed_67 {M : Mx} {l0 : Launch} (O : Ok M cX5_canBeInDeed yX5_canBeInDeed) (R0 : Rm M l0 2 80 0 0) (N : Ma M = false) (hn : Mn M = 4)   (σ : Dt) (o : Int32) (h : f_X5_canBeInDeed_67 σ = some o) (K : Fin' M (some .boolean) 0 0 SX σ (some (vI o))) : G M 0 0 67 [] [] SX σ := by
  unfold f_X5_canBeInDeed_67 at h
  refine g_iconst (v := (0 : Int32)) O dX5_canBeInDeed_67 rfl ?_
  cases h
  exact g_zreturn O (by decide) K dX5_canBeInDeed_68
def f_X5_canBeInDeed (a0 : Nat) (x1 : Int32) (x2 : Int32) (x3 : Int32) (σ : Dt) : Option Int32 := if x2 = 0 then if (10 : Int32) ≤ x3 then some (0 : Int32) else some (1 : Int32) else if x1 = (1 : Int32) then if (9 : Int32) < x3 then some (0 : Int32) else some (1 : Int32) else if x2 = (1 : Int32) then if (6 : Int32) ≤ x3 then some (0 : Int32) else some (1 : Int32) else if x3 < (1 : Int32) then f_X5_canBeInDeed_67 σ else if (9 : Int32) < x3 then f_X5_canBeInDeed_67 σ else some (1 : Int32)
theorem t_X5_canBeInDeed {M : Mx} {l0 : Launch} (O : Ok M cX5_canBeInDeed yX5_canBeInDeed) (R0 : Rm M l0 2 80 0 0) (N : Ma M = false) (hn : Mn M = 4) (a0 : Nat) (x1 : Int32) (x2 : Int32) (x3 : Int32) (σ : Dt) (o : Int32) (h : f_X5_canBeInDeed a0 x1 x2 x3 σ = some o) (K : Fin' M (some .boolean) 0 0 SX σ (some (vI o))) : G M 0 0 0 [(0, vA (some a0)), (1, vI x1), (2, vI x2), (3, vI x3)] [] SX σ := by
  unfold f_X5_canBeInDeed at h
  refine g_iload_n O dX5_canBeInDeed_0 rfl 2 rfl ?_
  refine g_if_ne O dX5_canBeInDeed_1 rfl (fun c1 => ?_) (fun c1 => ?_)
  · replace h := (if_pos c1).symm.trans h
    refine g_iload_n O dX5_canBeInDeed_4 rfl 3 rfl ?_
    refine g_bipush (v := (10 : Int32)) O dX5_canBeInDeed_5 rfl ?_
    refine g_icmp_ge O dX5_canBeInDeed_7 rfl (fun c2 => ?_) (fun c2 => ?_)
    · replace h := (if_pos c2).symm.trans h
      refine g_iconst (v := (0 : Int32)) O dX5_canBeInDeed_14 rfl ?_
      cases h
      exact g_zreturn O (by decide) K dX5_canBeInDeed_15
    · replace h := (if_neg c2).symm.trans h
      refine g_iconst (v := (1 : Int32)) O dX5_canBeInDeed_10 rfl ?_
      refine g_goto O dX5_canBeInDeed_11 rfl ?_
      cases h
      exact g_zreturn O (by decide) K dX5_canBeInDeed_15
  · replace h := (if_neg c1).symm.trans h
    refine g_iload_n O dX5_canBeInDeed_16 rfl 1 rfl ?_
    refine g_iconst (v := (1 : Int32)) O dX5_canBeInDeed_17 rfl ?_
    refine g_icmp_ne O dX5_canBeInDeed_18 rfl (fun c3 => ?_) (fun c3 => ?_)
    · replace h := (if_pos c3).symm.trans h
      refine g_iload_n O dX5_canBeInDeed_21 rfl 3 rfl ?_
      refine g_bipush (v := (9 : Int32)) O dX5_canBeInDeed_22 rfl ?_
      refine g_icmp_gt O dX5_canBeInDeed_24 rfl (fun c4 => ?_) (fun c4 => ?_)
      · replace h := (if_pos c4).symm.trans h
        refine g_iconst (v := (0 : Int32)) O dX5_canBeInDeed_31 rfl ?_
        cases h
        exact g_zreturn O (by decide) K dX5_canBeInDeed_32
      · replace h := (if_neg c4).symm.trans h
        refine g_iconst (v := (1 : Int32)) O dX5_canBeInDeed_27 rfl ?_
        refine g_goto O dX5_canBeInDeed_28 rfl ?_
        cases h
        exact g_zreturn O (by decide) K dX5_canBeInDeed_32
    · replace h := (if_neg c3).symm.trans h
      refine g_iload_n O dX5_canBeInDeed_33 rfl 2 rfl ?_
      refine g_iconst (v := (1 : Int32)) O dX5_canBeInDeed_34 rfl ?_
      refine g_icmp_ne O dX5_canBeInDeed_35 rfl (fun c5 => ?_) (fun c5 => ?_)
      · replace h := (if_pos c5).symm.trans h
        refine g_iload_n O dX5_canBeInDeed_38 rfl 3 rfl ?_
        refine g_bipush (v := (6 : Int32)) O dX5_canBeInDeed_39 rfl ?_
        refine g_icmp_ge O dX5_canBeInDeed_41 rfl (fun c6 => ?_) (fun c6 => ?_)
        · replace h := (if_pos c6).symm.trans h
          refine g_iconst (v := (0 : Int32)) O dX5_canBeInDeed_48 rfl ?_
          refine g_goto O dX5_canBeInDeed_49 rfl ?_
          cases h
          exact g_zreturn O (by decide) K dX5_canBeInDeed_68
        · replace h := (if_neg c6).symm.trans h
          refine g_iconst (v := (1 : Int32)) O dX5_canBeInDeed_44 rfl ?_
          refine g_goto O dX5_canBeInDeed_45 rfl ?_
          cases h
          exact g_zreturn O (by decide) K dX5_canBeInDeed_68
      · replace h := (if_neg c5).symm.trans h
        refine g_iload_n O dX5_canBeInDeed_52 rfl 3 rfl ?_
        refine g_iconst (v := (1 : Int32)) O dX5_canBeInDeed_53 rfl ?_
        refine g_icmp_lt O dX5_canBeInDeed_54 rfl (fun c7 => ?_) (fun c7 => ?_)
        · replace h := (if_pos c7).symm.trans h
          refine g_sub [] (lv' := []) rfl ?_
          exact t_X5_canBeInDeed_67 O R0 N hn σ o h K
        · replace h := (if_neg c7).symm.trans h
          refine g_iload_n O dX5_canBeInDeed_57 rfl 3 rfl ?_
          refine g_bipush (v := (9 : Int32)) O dX5_canBeInDeed_58 rfl ?_
          refine g_icmp_gt O dX5_canBeInDeed_60 rfl (fun c8 => ?_) (fun c8 => ?_)
          · replace h := (if_pos c8).symm.trans h
            refine g_sub [] (lv' := []) rfl ?_
            exact t_X5_canBeInDeed_67 O R0 N hn σ o h K
          · replace h := (if_neg c8).symm.trans h
            refine g_iconst (v := (1 : Int32)) O dX5_canBeInDeed_63 rfl ?_
            refine g_goto O dX5_canBeInDeed_64 rfl ?_
            cases h
            exact g_zreturn O (by decide) K dX5_canBeInDeed_68
theorem c_X5_canBeInDeed (l0 : Launch) (a0 : Nat) (x1 : Int32) (x2 : Int32) (x3 : Int32) (σ : Dt) (r : Int32) (h : f_X5_canBeInDeed a0 x1 x2 x3 σ = some r) : Ctr l0 yX5_canBeInDeed cX5_canBeInDeed 4 (some .boolean) false 2 80 0 0 [vA (some a0), vI x1, vI x2, vI x3] SX σ SX σ (some (vI r)) := ctr_of (by decide) (Nat.le_of_ble_eq_true rfl) (fun M O F R0 N hn => t_X5_canBeInDeed O R0 N hn a0 x1 x2 x3 σ r h F)
def f_X5_canBe_70  (σ : Dt) : Option Int32 := some (0 : Int32)
theorem t_X5_canBe_70 {M : Mx} {l0 : Launch} (O : Ok M cX5_canBe yX5_canBe) (R0 : Rm M l0 3 103 0 0) (N : Ma M = false) (hn : Mn M = 4)   (σ : Dt) (o : Int32) (h : f_X5_canBe_70 σ = some o) (K : Fin' M (some .boolean) 0 0 SX σ (some (vI o))) : G M 0 0 70 [] [] SX σ := by
  unfold f_X5_canBe_70 at h
  refine g_iconst (v := (0 : Int32)) O dX5_canBe_70 rfl ?_
  cases h
  exact g_zreturn O (by decide) K dX5_canBe_71
def f_X5_canBe_19 (a0 : Nat) (x1 : Int32) (x2 : Int32) (k0 : Int32) (σ : Dt) : Option Int32 := bo (xgi SX 5 7 (some a0) σ) fun v1 => if v1 = 0 then bo (xrc SX 5 (some a0)) fun a4 => bo (f_X5_canBeInValley a4 x1 x2 k0 σ) fun v6 => if v6 = 0 ∨ v6 = 1 then some v6 else none else bo (xgi SX 5 7 (some a0) σ) fun v9 => if v9 = (1 : Int32) then bo (xrc SX 5 (some a0)) fun a12 => bo (f_X5_canBeInDeed a12 x1 x2 k0 σ) fun v14 => if v14 = 0 ∨ v14 = 1 then some v14 else none else if x1 = 0 then if k0 < (1 : Int32) then f_X5_canBe_70 σ else if (9 : Int32) < k0 then f_X5_canBe_70 σ else some (1 : Int32) else if x2 = 0 then if (6 : Int32) ≤ k0 then some (0 : Int32) else some (1 : Int32) else if (30 : Int32) < k0 then some (0 : Int32) else some (1 : Int32)
theorem t_X5_canBe_19 {M : Mx} {l0 : Launch} (O : Ok M cX5_canBe yX5_canBe) (R0 : Rm M l0 3 103 0 0) (N : Ma M = false) (hn : Mn M = 4)  (a0 : Nat) (x1 : Int32) (x2 : Int32) (k0 : Int32) (σ : Dt) (o : Int32) (h : f_X5_canBe_19 a0 x1 x2 k0 σ = some o) (K : Fin' M (some .boolean) 0 0 SX σ (some (vI o))) : G M 0 0 19 [(0, vA (some a0)), (1, vI x1), (2, vI x2)] [vI k0] SX σ := by
  unfold f_X5_canBe_19 at h
  refine g_istore_n (lv' := [(3, vI k0), (0, vA (some a0)), (1, vI x1), (2, vI x2)]) O dX5_canBe_19 rfl 4 hn (by decide) rfl ?_
  refine g_aload_n O dX5_canBe_20 rfl 1 rfl ?_
  obtain ⟨v1, e2, h⟩ := bo_some h
  refine g_getI O dX5_canBe_21 fl_X5_61 rfl e2 ?_
  refine g_if_ne O dX5_canBe_24 rfl (fun c3 => ?_) (fun c3 => ?_)
  · replace h := (if_pos c3).symm.trans h
    refine g_aload_n O dX5_canBe_27 rfl 1 rfl ?_
    refine g_iload_n O dX5_canBe_28 rfl 2 rfl ?_
    refine g_iload_n O dX5_canBe_29 rfl 3 rfl ?_
    refine g_iload_n O dX5_canBe_30 rfl 0 rfl ?_
    obtain ⟨a4, e5, h⟩ := bo_some h
    obtain ⟨v6, e7, h⟩ := bo_some h
    refine g_cV1 O R0 N dX5_canBe_31 vl_X5_185 vv_X5_canBeInValley e5 [vI x1, vI x2, vI k0] rfl rfl rfl ⟨Nat.le_of_ble_eq_true rfl, Nat.le_of_ble_eq_true rfl⟩ (c_X5_canBeInValley l0 a4 x1 x2 k0 σ v6 e7) ?_
    by_cases c8 : v6 = 0 ∨ v6 = 1
    · replace h := (if_pos c8).symm.trans h
      cases h
      exact g_zreturn O c8 K dX5_canBe_34
    · rw [if_neg c8] at h; cases h
  · replace h := (if_neg c3).symm.trans h
    refine g_aload_n O dX5_canBe_35 rfl 1 rfl ?_
    obtain ⟨v9, e10, h⟩ := bo_some h
    refine g_getI O dX5_canBe_36 fl_X5_61 rfl e10 ?_
    refine g_iconst (v := (1 : Int32)) O dX5_canBe_39 rfl ?_
    refine g_icmp_ne O dX5_canBe_40 rfl (fun c11 => ?_) (fun c11 => ?_)
    · replace h := (if_pos c11).symm.trans h
      refine g_aload_n O dX5_canBe_43 rfl 1 rfl ?_
      refine g_iload_n O dX5_canBe_44 rfl 2 rfl ?_
      refine g_iload_n O dX5_canBe_45 rfl 3 rfl ?_
      refine g_iload_n O dX5_canBe_46 rfl 0 rfl ?_
      obtain ⟨a12, e13, h⟩ := bo_some h
      obtain ⟨v14, e15, h⟩ := bo_some h
      refine g_cV1 O R0 N dX5_canBe_47 vl_X5_189 vv_X5_canBeInDeed e13 [vI x1, vI x2, vI k0] rfl rfl rfl ⟨Nat.le_of_ble_eq_true rfl, Nat.le_of_ble_eq_true rfl⟩ (c_X5_canBeInDeed l0 a12 x1 x2 k0 σ v14 e15) ?_
      by_cases c16 : v14 = 0 ∨ v14 = 1
      · replace h := (if_pos c16).symm.trans h
        cases h
        exact g_zreturn O c16 K dX5_canBe_50
      · rw [if_neg c16] at h; cases h
    · replace h := (if_neg c11).symm.trans h
      refine g_iload_n O dX5_canBe_51 rfl 2 rfl ?_
      refine g_if_ne O dX5_canBe_52 rfl (fun c17 => ?_) (fun c17 => ?_)
      · replace h := (if_pos c17).symm.trans h
        refine g_iload_n O dX5_canBe_55 rfl 0 rfl ?_
        refine g_iconst (v := (1 : Int32)) O dX5_canBe_56 rfl ?_
        refine g_icmp_lt O dX5_canBe_57 rfl (fun c18 => ?_) (fun c18 => ?_)
        · replace h := (if_pos c18).symm.trans h
          refine g_sub [] (lv' := []) rfl ?_
          exact t_X5_canBe_70 O R0 N hn σ o h K
        · replace h := (if_neg c18).symm.trans h
          refine g_iload_n O dX5_canBe_60 rfl 0 rfl ?_
          refine g_bipush (v := (9 : Int32)) O dX5_canBe_61 rfl ?_
          refine g_icmp_gt O dX5_canBe_63 rfl (fun c19 => ?_) (fun c19 => ?_)
          · replace h := (if_pos c19).symm.trans h
            refine g_sub [] (lv' := []) rfl ?_
            exact t_X5_canBe_70 O R0 N hn σ o h K
          · replace h := (if_neg c19).symm.trans h
            refine g_iconst (v := (1 : Int32)) O dX5_canBe_66 rfl ?_
            refine g_goto O dX5_canBe_67 rfl ?_
            cases h
            exact g_zreturn O (by decide) K dX5_canBe_71
      · replace h := (if_neg c17).symm.trans h
        refine g_iload_n O dX5_canBe_72 rfl 3 rfl ?_
        refine g_if_ne O dX5_canBe_73 rfl (fun c20 => ?_) (fun c20 => ?_)
        · replace h := (if_pos c20).symm.trans h
          refine g_iload_n O dX5_canBe_76 rfl 0 rfl ?_
          refine g_bipush (v := (6 : Int32)) O dX5_canBe_77 rfl ?_
          refine g_icmp_ge O dX5_canBe_79 rfl (fun c21 => ?_) (fun c21 => ?_)
          · replace h := (if_pos c21).symm.trans h
            refine g_iconst (v := (0 : Int32)) O dX5_canBe_86 rfl ?_
            refine g_goto O dX5_canBe_87 rfl ?_
            cases h
            exact g_zreturn O (by decide) K dX5_canBe_101
          · replace h := (if_neg c21).symm.trans h
            refine g_iconst (v := (1 : Int32)) O dX5_canBe_82 rfl ?_
            refine g_goto O dX5_canBe_83 rfl ?_
            cases h
            exact g_zreturn O (by decide) K dX5_canBe_101
        · replace h := (if_neg c20).symm.trans h
          refine g_iload_n O dX5_canBe_90 rfl 0 rfl ?_
          refine g_bipush (v := (30 : Int32)) O dX5_canBe_91 rfl ?_
          refine g_icmp_gt O dX5_canBe_93 rfl (fun c22 => ?_) (fun c22 => ?_)
          · replace h := (if_pos c22).symm.trans h
            refine g_iconst (v := (0 : Int32)) O dX5_canBe_100 rfl ?_
            cases h
            exact g_zreturn O (by decide) K dX5_canBe_101
          · replace h := (if_neg c22).symm.trans h
            refine g_iconst (v := (1 : Int32)) O dX5_canBe_96 rfl ?_
            refine g_goto O dX5_canBe_97 rfl ?_
            cases h
            exact g_zreturn O (by decide) K dX5_canBe_101
def f_X5_canBe_18 (a0 : Nat) (x1 : Int32) (x2 : Int32) (σ : Dt) : Option Int32 := f_X5_canBe_19 a0 x1 x2 (-1 : Int32) σ
theorem t_X5_canBe_18 {M : Mx} {l0 : Launch} (O : Ok M cX5_canBe yX5_canBe) (R0 : Rm M l0 3 103 0 0) (N : Ma M = false) (hn : Mn M = 4)  (a0 : Nat) (x1 : Int32) (x2 : Int32) (σ : Dt) (o : Int32) (h : f_X5_canBe_18 a0 x1 x2 σ = some o) (K : Fin' M (some .boolean) 0 0 SX σ (some (vI o))) : G M 0 0 18 [(0, vA (some a0)), (1, vI x1), (2, vI x2)] [] SX σ := by
  unfold f_X5_canBe_18 at h
  refine g_iconst (v := (-1 : Int32)) O dX5_canBe_18 rfl ?_
  exact t_X5_canBe_19 O R0 N hn a0 x1 x2 (-1 : Int32) σ o h K
def f_X5_canBe (a0 : Nat) (x1 : Int32) (x2 : Int32) (σ : Dt) : Option Int32 := if x2 < 0 then f_X5_canBe_18 a0 x1 x2 σ else if (3 : Int32) ≤ x2 then f_X5_canBe_18 a0 x1 x2 σ else bo (xgr SX 5 11 (some a0) σ) fun v3 => bo (xai SX v3 x2 σ) fun v5 => f_X5_canBe_19 a0 x1 x2 v5 σ
theorem t_X5_canBe {M : Mx} {l0 : Launch} (O : Ok M cX5_canBe yX5_canBe) (R0 : Rm M l0 3 103 0 0) (N : Ma M = false) (hn : Mn M = 4) (a0 : Nat) (x1 : Int32) (x2 : Int32) (σ : Dt) (o : Int32) (h : f_X5_canBe a0 x1 x2 σ = some o) (K : Fin' M (some .boolean) 0 0 SX σ (some (vI o))) : G M 0 0 0 [(0, vA (some a0)), (1, vI x1), (2, vI x2)] [] SX σ := by
  unfold f_X5_canBe at h
  refine g_iload_n O dX5_canBe_0 rfl 2 rfl ?_
  refine g_if_lt O dX5_canBe_1 rfl (fun c1 => ?_) (fun c1 => ?_)
  · replace h := (if_pos c1).symm.trans h
    exact t_X5_canBe_18 O R0 N hn a0 x1 x2 σ o h K
  · replace h := (if_neg c1).symm.trans h
    refine g_iload_n O dX5_canBe_4 rfl 2 rfl ?_
    refine g_iconst (v := (3 : Int32)) O dX5_canBe_5 rfl ?_
    refine g_icmp_ge O dX5_canBe_6 rfl (fun c2 => ?_) (fun c2 => ?_)
    · replace h := (if_pos c2).symm.trans h
      exact t_X5_canBe_18 O R0 N hn a0 x1 x2 σ o h K
    · replace h := (if_neg c2).symm.trans h
      refine g_aload_n O dX5_canBe_9 rfl 0 rfl ?_
      obtain ⟨v3, e4, h⟩ := bo_some h
      refine g_getR O dX5_canBe_10 fl_X5_43 rfl e4 ?_
      refine g_iload_n O dX5_canBe_13 rfl 2 rfl ?_
      obtain ⟨v5, e6, h⟩ := bo_some h
      refine g_iaload O dX5_canBe_14 e6 ?_
      refine g_goto O dX5_canBe_15 rfl ?_
      exact t_X5_canBe_19 O R0 N hn a0 x1 x2 v5 σ o h K
theorem c_X5_canBe (l0 : Launch) (a0 : Nat) (x1 : Int32) (x2 : Int32) (σ : Dt) (r : Int32) (h : f_X5_canBe a0 x1 x2 σ = some r) : Ctr l0 yX5_canBe cX5_canBe 4 (some .boolean) false 3 103 0 0 [vA (some a0), vI x1, vI x2] SX σ SX σ (some (vI r)) := ctr_of (by decide) (Nat.le_of_ble_eq_true rfl) (fun M O F R0 N hn => t_X5_canBe O R0 N hn a0 x1 x2 σ r h F)
