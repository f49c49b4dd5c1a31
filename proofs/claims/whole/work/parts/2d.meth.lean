def P_X10_letDie_26 (M : Mx) (a0 : Nat) (x1 : Int32) (s : (Int32 × Dt)) : Prop := G M 0 0 26 [(0, vA (some a0)), (1, vI x1), (2, vI s.1)] [] SX s.2
def E_X10_letDie_26 (M : Mx) (a0 : Nat) (x1 : Int32) : Dt → Prop := (fun w => G M 0 0 72 [] [] SX w)
def f_X10_letDie_66 (a0 : Nat) (x1 : Int32) (x2 : Int32) (σ : Dt) : Option ((Int32 × Dt) ⊕ Dt) := some (.inl ((x2 + (1 : Int32)), σ))
theorem t_X10_letDie_66 {M : Mx} {l0 : Launch} (O : Ok M cX10_letDie yX10_letDie) (R0 : Rm M l0 4 122 0 0) (N : Ma M = false) (hn : Mn M = 3)  (a0 : Nat) (x1 : Int32) (x2 : Int32) (σ : Dt) (o : ((Int32 × Dt) ⊕ Dt)) (h : f_X10_letDie_66 a0 x1 x2 σ = some o) (K : kon (P_X10_letDie_26 M a0 x1) (E_X10_letDie_26 M a0 x1) o) : G M 0 0 66 [(0, vA (some a0)), (1, vI x1), (2, vI x2)] [] SX σ := by
  unfold f_X10_letDie_66 at h
  refine g_iinc (v := (x2 + (1 : Int32))) (lv' := [(2, vI (x2 + (1 : Int32))), (0, vA (some a0)), (1, vI x1)]) O dX10_letDie_66 3 hn (by decide) 2 rfl rfl rfl ?_
  refine g_goto O dX10_letDie_69 rfl ?_
  refine g_sub [1, 2, 0] (lv' := [(0, vA (some a0)), (1, vI x1), (2, vI (x2 + (1 : Int32)))]) rfl ?_
  cases h
  exact K
def f_X10_letDie_L26 (a0 : Nat) (x1 : Int32) (x2 : Int32) (σ : Dt) : Option ((Int32 × Dt) ⊕ Dt) := bo (xgi SX 10 6 (some a0) σ) fun v1 => if v1 ≤ x2 then some (.inr σ) else if (12 : Int32) ≤ x2 then some (.inr σ) else bo (xgr SX 10 19 (some a0) σ) fun v5 => bo (xai SX v5 x2 σ) fun v7 => if v7 = 0 then bo (xgr SX 10 16 (some a0) σ) fun v10 => bo (xai SX v10 x2 σ) fun v12 => if v12 = x1 then bo (xgr SX 10 19 (some a0) σ) fun v15 => bo (xsi SX v15 x2 (2 : Int32) σ) fun σ17 => f_X10_letDie_66 a0 x1 x2 σ17 else f_X10_letDie_66 a0 x1 x2 σ else f_X10_letDie_66 a0 x1 x2 σ
theorem t_X10_letDie_L26 {M : Mx} {l0 : Launch} (O : Ok M cX10_letDie yX10_letDie) (R0 : Rm M l0 4 122 0 0) (N : Ma M = false) (hn : Mn M = 3) (a0 : Nat) (x1 : Int32) (x2 : Int32) (σ : Dt) (o : ((Int32 × Dt) ⊕ Dt)) (h : f_X10_letDie_L26 a0 x1 x2 σ = some o) (K : kon (P_X10_letDie_26 M a0 x1) (E_X10_letDie_26 M a0 x1) o) : G M 0 0 26 [(0, vA (some a0)), (1, vI x1), (2, vI x2)] [] SX σ := by
  unfold f_X10_letDie_L26 at h
  refine g_iload_n O dX10_letDie_26 rfl 2 rfl ?_
  refine g_aload_n O dX10_letDie_27 rfl 0 rfl ?_
  obtain ⟨v1, e2, h⟩ := bo_some h
  refine g_getI O dX10_letDie_28 fl_X10_78 rfl e2 ?_
  refine g_icmp_ge O dX10_letDie_31 rfl (fun c3 => ?_) (fun c3 => ?_)
  · replace h := (if_pos c3).symm.trans h
    refine g_sub [] (lv' := []) rfl ?_
    cases h
    exact K
  · replace h := (if_neg c3).symm.trans h
    refine g_iload_n O dX10_letDie_34 rfl 2 rfl ?_
    refine g_bipush (v := (12 : Int32)) O dX10_letDie_35 rfl ?_
    refine g_icmp_ge O dX10_letDie_37 rfl (fun c4 => ?_) (fun c4 => ?_)
    · replace h := (if_pos c4).symm.trans h
      refine g_sub [] (lv' := []) rfl ?_
      cases h
      exact K
    · replace h := (if_neg c4).symm.trans h
      refine g_aload_n O dX10_letDie_40 rfl 0 rfl ?_
      obtain ⟨v5, e6, h⟩ := bo_some h
      refine g_getR O dX10_letDie_41 fl_X10_42 rfl e6 ?_
      refine g_iload_n O dX10_letDie_44 rfl 2 rfl ?_
      obtain ⟨v7, e8, h⟩ := bo_some h
      refine g_iaload O dX10_letDie_45 e8 ?_
      refine g_if_ne O dX10_letDie_46 rfl (fun c9 => ?_) (fun c9 => ?_)
      · replace h := (if_pos c9).symm.trans h
        refine g_aload_n O dX10_letDie_49 rfl 0 rfl ?_
        obtain ⟨v10, e11, h⟩ := bo_some h
        refine g_getR O dX10_letDie_50 fl_X10_33 rfl e11 ?_
        refine g_iload_n O dX10_letDie_53 rfl 2 rfl ?_
        obtain ⟨v12, e13, h⟩ := bo_some h
        refine g_iaload O dX10_letDie_54 e13 ?_
        refine g_iload_n O dX10_letDie_55 rfl 1 rfl ?_
        refine g_icmp_ne O dX10_letDie_56 rfl (fun c14 => ?_) (fun c14 => ?_)
        · replace h := (if_pos c14).symm.trans h
          refine g_aload_n O dX10_letDie_59 rfl 0 rfl ?_
          obtain ⟨v15, e16, h⟩ := bo_some h
          refine g_getR O dX10_letDie_60 fl_X10_42 rfl e16 ?_
          refine g_iload_n O dX10_letDie_63 rfl 2 rfl ?_
          refine g_iconst (v := (2 : Int32)) O dX10_letDie_64 rfl ?_
          obtain ⟨σ17, e18, h⟩ := bo_some h
          refine g_iastore O dX10_letDie_65 e18 ?_
          exact t_X10_letDie_66 O R0 N hn a0 x1 x2 σ17 o h K
        · replace h := (if_neg c14).symm.trans h
          exact t_X10_letDie_66 O R0 N hn a0 x1 x2 σ o h K
      · replace h := (if_neg c9).symm.trans h
        exact t_X10_letDie_66 O R0 N hn a0 x1 x2 σ o h K
def f_X10_letDie (a0 : Nat) (x1 : Int32) (σ : Dt) : Option (Int32 × Dt) := bo (xrc SX 10 (some a0)) fun a1 => bo (f_X10_lives a1 x1 σ) fun v3 => if v3 = 0 then some ((0 : Int32), σ) else bo (xgi SX 10 4 (some a0) σ) fun v6 => bo (xpi SX 10 4 (some a0) (v6 &&& (((1 : Int32) <<< (x1 &&& 31)) ^^^ (-1 : Int32))) σ) fun σ8 => bo (iter FU (fun s => f_X10_letDie_L26 a0 x1 s.1 s.2) ((0 : Int32), σ8)) fun w10 => some ((1 : Int32), w10)
theorem t_X10_letDie {M : Mx} {l0 : Launch} (O : Ok M cX10_letDie yX10_letDie) (R0 : Rm M l0 4 122 0 0) (N : Ma M = false) (hn : Mn M = 3) (a0 : Nat) (x1 : Int32) (σ : Dt) (o : (Int32 × Dt)) (h : f_X10_letDie a0 x1 σ = some o) (K : Fin' M (some .boolean) 0 0 SX o.2 (some (vI o.1))) : G M 0 0 0 [(0, vA (some a0)), (1, vI x1)] [] SX σ := by
  unfold f_X10_letDie at h
  refine g_aload_n O dX10_letDie_0 rfl 0 rfl ?_
  refine g_iload_n O dX10_letDie_1 rfl 1 rfl ?_
  obtain ⟨a1, e2, h⟩ := bo_some h
  obtain ⟨v3, e4, h⟩ := bo_some h
  refine g_cV1 O R0 N dX10_letDie_2 vl_X10_159 vv_X10_lives e2 [vI x1] rfl rfl rfl ⟨Nat.le_of_ble_eq_true rfl, Nat.le_of_ble_eq_true rfl⟩ (c_X10_lives l0 a1 x1 σ v3 e4) ?_
  refine g_if_ne O dX10_letDie_5 rfl (fun c5 => ?_) (fun c5 => ?_)
  · replace h := (if_pos c5).symm.trans h
    refine g_iconst (v := (0 : Int32)) O dX10_letDie_8 rfl ?_
    cases h
    exact g_zreturn O (by decide) K dX10_letDie_9
  · replace h := (if_neg c5).symm.trans h
    refine g_aload_n O dX10_letDie_10 rfl 0 rfl ?_
    refine g_dup O dX10_letDie_11 rfl ?_
    obtain ⟨v6, e7, h⟩ := bo_some h
    refine g_getI O dX10_letDie_12 fl_X10_72 rfl e7 ?_
    refine g_iconst (v := (1 : Int32)) O dX10_letDie_15 rfl ?_
    refine g_iload_n O dX10_letDie_16 rfl 1 rfl ?_
    refine g_ishl O dX10_letDie_17 ?_
    refine g_iconst (v := (-1 : Int32)) O dX10_letDie_18 rfl ?_
    refine g_ixor O dX10_letDie_19 ?_
    refine g_iand O dX10_letDie_20 ?_
    obtain ⟨σ8, e9, h⟩ := bo_some h
    refine g_putI O dX10_letDie_21 fl_X10_72 (Or.inl rfl) rfl e9 ?_
    refine g_iconst (v := (0 : Int32)) O dX10_letDie_24 rfl ?_
    refine g_istore_n (lv' := [(2, vI (0 : Int32)), (0, vA (some a0)), (1, vI x1)]) O dX10_letDie_25 rfl 3 hn (by decide) rfl ?_
    refine g_sub [1, 2, 0] (lv' := [(0, vA (some a0)), (1, vI x1), (2, vI (0 : Int32))]) rfl ?_
    obtain ⟨w10, e11, h⟩ := bo_some h
    refine iter_G (P := P_X10_letDie_26 M a0 x1) (E := E_X10_letDie_26 M a0 x1) (fun s o hb hk => t_X10_letDie_L26 O R0 N hn a0 x1 s.1 s.2 o hb hk) FU ((0 : Int32), σ8) w10 e11 ?_
    show G M 0 0 72 [] [] SX w10
    refine g_iconst (v := (1 : Int32)) O dX10_letDie_72 rfl ?_
    cases h
    exact g_zreturn O (by decide) K dX10_letDie_73
theorem c_X10_letDie (l0 : Launch) (a0 : Nat) (x1 : Int32) (σ : Dt) (r : Int32) (σ' : Dt) (h : f_X10_letDie a0 x1 σ = some (r, σ')) : Ctr l0 yX10_letDie cX10_letDie 3 (some .boolean) false 4 122 0 0 [vA (some a0), vI x1] SX σ SX σ' (some (vI r)) := ctr_of (by decide) (Nat.le_of_ble_eq_true rfl) (fun M O F R0 N hn => t_X10_letDie O R0 N hn a0 x1 σ (r, σ') h F)
def f_X10_owes_55  (σ : Dt) : Option Int32 := some (0 : Int32)
theorem t_X10_owes_55 {M : Mx} {l0 : Launch} (O : Ok M cX10_owes yX10_owes) (R0 : Rm M l0 2 80 0 0) (N : Ma M = false) (hn : Mn M = 4)   (σ : Dt) (o : Int32) (h : f_X10_owes_55 σ = some o) (K : Fin' M (some .boolean) 0 0 SX σ (some (vI o))) : G M 0 0 55 [] [] SX σ := by
  unfold f_X10_owes_55 at h
  refine g_iconst (v := (0 : Int32)) O dX10_owes_55 rfl ?_
  cases h
  exact g_zreturn O (by decide) K dX10_owes_56
def f_X10_owes (a0 : Nat) (x1 : Int32) (x2 : Int32) (σ : Dt) : Option Int32 := if x2 < 0 then some (0 : Int32) else if (12 : Int32) ≤ x2 then some (0 : Int32) else bo (xgr SX 10 19 (some a0) σ) fun v3 => bo (xai SX v3 x2 σ) fun v5 => if v5 = 0 then bo (xgr SX 10 16 (some a0) σ) fun v8 => bo (xai SX v8 x2 σ) fun v10 => if v10 < 0 then f_X10_owes_55 σ else if (10 : Int32) ≤ v10 then f_X10_owes_55 σ else bo (xgr SX 10 12 (some a0) σ) fun v14 => bo (xai SX v14 v10 σ) fun v16 => if ((v16 >>> (x1 &&& 31)) &&& (1 : Int32)) = 0 then f_X10_owes_55 σ else some (1 : Int32) else some (0 : Int32)
theorem t_X10_owes {M : Mx} {l0 : Launch} (O : Ok M cX10_owes yX10_owes) (R0 : Rm M l0 2 80 0 0) (N : Ma M = false) (hn : Mn M = 4) (a0 : Nat) (x1 : Int32) (x2 : Int32) (σ : Dt) (o : Int32) (h : f_X10_owes a0 x1 x2 σ = some o) (K : Fin' M (some .boolean) 0 0 SX σ (some (vI o))) : G M 0 0 0 [(0, vA (some a0)), (1, vI x1), (2, vI x2)] [] SX σ := by
  unfold f_X10_owes at h
  refine g_iload_n O dX10_owes_0 rfl 2 rfl ?_
  refine g_if_lt O dX10_owes_1 rfl (fun c1 => ?_) (fun c1 => ?_)
  · replace h := (if_pos c1).symm.trans h
    refine g_iconst (v := (0 : Int32)) O dX10_owes_19 rfl ?_
    cases h
    exact g_zreturn O (by decide) K dX10_owes_20
  · replace h := (if_neg c1).symm.trans h
    refine g_iload_n O dX10_owes_4 rfl 2 rfl ?_
    refine g_bipush (v := (12 : Int32)) O dX10_owes_5 rfl ?_
    refine g_icmp_ge O dX10_owes_7 rfl (fun c2 => ?_) (fun c2 => ?_)
    · replace h := (if_pos c2).symm.trans h
      refine g_iconst (v := (0 : Int32)) O dX10_owes_19 rfl ?_
      cases h
      exact g_zreturn O (by decide) K dX10_owes_20
    · replace h := (if_neg c2).symm.trans h
      refine g_aload_n O dX10_owes_10 rfl 0 rfl ?_
      obtain ⟨v3, e4, h⟩ := bo_some h
      refine g_getR O dX10_owes_11 fl_X10_42 rfl e4 ?_
      refine g_iload_n O dX10_owes_14 rfl 2 rfl ?_
      obtain ⟨v5, e6, h⟩ := bo_some h
      refine g_iaload O dX10_owes_15 e6 ?_
      refine g_if_eq O dX10_owes_16 rfl (fun c7 => ?_) (fun c7 => ?_)
      · replace h := (if_pos c7).symm.trans h
        refine g_aload_n O dX10_owes_21 rfl 0 rfl ?_
        obtain ⟨v8, e9, h⟩ := bo_some h
        refine g_getR O dX10_owes_22 fl_X10_33 rfl e9 ?_
        refine g_iload_n O dX10_owes_25 rfl 2 rfl ?_
        obtain ⟨v10, e11, h⟩ := bo_some h
        refine g_iaload O dX10_owes_26 e11 ?_
        refine g_istore_n (lv' := [(3, vI v10), (0, vA (some a0)), (1, vI x1), (2, vI x2)]) O dX10_owes_27 rfl 4 hn (by decide) rfl ?_
        refine g_iload_n O dX10_owes_28 rfl 0 rfl ?_
        refine g_if_lt O dX10_owes_29 rfl (fun c12 => ?_) (fun c12 => ?_)
        · replace h := (if_pos c12).symm.trans h
          refine g_sub [] (lv' := []) rfl ?_
          exact t_X10_owes_55 O R0 N hn σ o h K
        · replace h := (if_neg c12).symm.trans h
          refine g_iload_n O dX10_owes_32 rfl 0 rfl ?_
          refine g_bipush (v := (10 : Int32)) O dX10_owes_33 rfl ?_
          refine g_icmp_ge O dX10_owes_35 rfl (fun c13 => ?_) (fun c13 => ?_)
          · replace h := (if_pos c13).symm.trans h
            refine g_sub [] (lv' := []) rfl ?_
            exact t_X10_owes_55 O R0 N hn σ o h K
          · replace h := (if_neg c13).symm.trans h
            refine g_aload_n O dX10_owes_38 rfl 1 rfl ?_
            obtain ⟨v14, e15, h⟩ := bo_some h
            refine g_getR O dX10_owes_39 fl_X10_21 rfl e15 ?_
            refine g_iload_n O dX10_owes_42 rfl 0 rfl ?_
            obtain ⟨v16, e17, h⟩ := bo_some h
            refine g_iaload O dX10_owes_43 e17 ?_
            refine g_iload_n O dX10_owes_44 rfl 2 rfl ?_
            refine g_ishr O dX10_owes_45 ?_
            refine g_iconst (v := (1 : Int32)) O dX10_owes_46 rfl ?_
            refine g_iand O dX10_owes_47 ?_
            refine g_if_eq O dX10_owes_48 rfl (fun c18 => ?_) (fun c18 => ?_)
            · replace h := (if_pos c18).symm.trans h
              refine g_sub [] (lv' := []) rfl ?_
              exact t_X10_owes_55 O R0 N hn σ o h K
            · replace h := (if_neg c18).symm.trans h
              refine g_iconst (v := (1 : Int32)) O dX10_owes_51 rfl ?_
              refine g_goto O dX10_owes_52 rfl ?_
              cases h
              exact g_zreturn O (by decide) K dX10_owes_56
      · replace h := (if_neg c7).symm.trans h
        refine g_iconst (v := (0 : Int32)) O dX10_owes_19 rfl ?_
        cases h
        exact g_zreturn O (by decide) K dX10_owes_20
theorem c_X10_owes (l0 : Launch) (a0 : Nat) (x1 : Int32) (x2 : Int32) (σ : Dt) (r : Int32) (h : f_X10_owes a0 x1 x2 σ = some r) : Ctr l0 yX10_owes cX10_owes 4 (some .boolean) false 2 80 0 0 [vA (some a0), vI x1, vI x2] SX σ SX σ (some (vI r)) := ctr_of (by decide) (Nat.le_of_ble_eq_true rfl) (fun M O F R0 N hn => t_X10_owes O R0 N hn a0 x1 x2 σ r h F)
def P_X10_firstDue_7 (M : Mx) (a0 : Nat) (x1 : Int32) (σ : Dt) (s : (Int32 × Int32 × Int32)) : Prop := G M 0 0 7 [(0, vA (some a0)), (1, vI x1), (2, vI s.1), (3, vI s.2.1), (4, vI s.2.2)] [] SX σ
def E_X10_firstDue_7 (M : Mx) (a0 : Nat) (x1 : Int32) (σ : Dt) : Int32 → Prop := (fun w => G M 0 0 66 [(2, vI w)] [] SX σ)
def f_X10_firstDue_60 (a0 : Nat) (x1 : Int32) (x2 : Int32) (x3 : Int32) (x4 : Int32) (σ : Dt) : Option ((Int32 × Int32 × Int32) ⊕ Int32) := some (.inl (x2, x3, (x4 + (1 : Int32))))
theorem t_X10_firstDue_60 {M : Mx} {l0 : Launch} (O : Ok M cX10_firstDue yX10_firstDue) (R0 : Rm M l0 3 103 0 0) (N : Ma M = false) (hn : Mn M = 5)  (a0 : Nat) (x1 : Int32) (x2 : Int32) (x3 : Int32) (x4 : Int32) (σ : Dt) (o : ((Int32 × Int32 × Int32) ⊕ Int32)) (h : f_X10_firstDue_60 a0 x1 x2 x3 x4 σ = some o) (K : kon (P_X10_firstDue_7 M a0 x1 σ) (E_X10_firstDue_7 M a0 x1 σ) o) : G M 0 0 60 [(0, vA (some a0)), (1, vI x1), (2, vI x2), (3, vI x3), (4, vI x4)] [] SX σ := by
  unfold f_X10_firstDue_60 at h
  refine g_iinc (v := (x4 + (1 : Int32))) (lv' := [(4, vI (x4 + (1 : Int32))), (0, vA (some a0)), (1, vI x1), (2, vI x2), (3, vI x3)]) O dX10_firstDue_60 5 hn (by decide) 4 rfl rfl rfl ?_
  refine g_goto O dX10_firstDue_63 rfl ?_
  refine g_sub [1, 2, 3, 4, 0] (lv' := [(0, vA (some a0)), (1, vI x1), (2, vI x2), (3, vI x3), (4, vI (x4 + (1 : Int32)))]) rfl ?_
  cases h
  exact K
def f_X10_firstDue_49 (a0 : Nat) (x1 : Int32) (x4 : Int32) (σ : Dt) : Option ((Int32 × Int32 × Int32) ⊕ Int32) := bo (xgr SX 10 18 (some a0) σ) fun v1 => bo (xai SX v1 x4 σ) fun v3 => f_X10_firstDue_60 a0 x1 x4 v3 x4 σ
theorem t_X10_firstDue_49 {M : Mx} {l0 : Launch} (O : Ok M cX10_firstDue yX10_firstDue) (R0 : Rm M l0 3 103 0 0) (N : Ma M = false) (hn : Mn M = 5)  (a0 : Nat) (x1 : Int32) (x4 : Int32) (σ : Dt) (o : ((Int32 × Int32 × Int32) ⊕ Int32)) (h : f_X10_firstDue_49 a0 x1 x4 σ = some o) (K : kon (P_X10_firstDue_7 M a0 x1 σ) (E_X10_firstDue_7 M a0 x1 σ) o) : G M 0 0 49 [(0, vA (some a0)), (1, vI x1), (4, vI x4)] [] SX σ := by
  unfold f_X10_firstDue_49 at h
  refine g_iload O dX10_firstDue_49 2 rfl ?_
  refine g_istore_n (lv' := [(2, vI x4), (0, vA (some a0)), (1, vI x1), (4, vI x4)]) O dX10_firstDue_51 rfl 5 hn (by decide) rfl ?_
  refine g_aload_n O dX10_firstDue_52 rfl 1 rfl ?_
  obtain ⟨v1, e2, h⟩ := bo_some h
  refine g_getR O dX10_firstDue_53 fl_X10_39 rfl e2 ?_
  refine g_iload O dX10_firstDue_56 3 rfl ?_
  obtain ⟨v3, e4, h⟩ := bo_some h
  refine g_iaload O dX10_firstDue_58 e4 ?_
  refine g_istore_n (lv' := [(3, vI v3), (2, vI x4), (0, vA (some a0)), (1, vI x1), (4, vI x4)]) O dX10_firstDue_59 rfl 5 hn (by decide) rfl ?_
  refine g_sub [2, 3, 1, 0, 4] (lv' := [(0, vA (some a0)), (1, vI x1), (2, vI x4), (3, vI v3), (4, vI x4)]) rfl ?_
  exact t_X10_firstDue_60 O R0 N hn a0 x1 x4 v3 x4 σ o h K
def f_X10_firstDue_L7 (a0 : Nat) (x1 : Int32) (x2 : Int32) (x3 : Int32) (x4 : Int32) (σ : Dt) : Option ((Int32 × Int32 × Int32) ⊕ Int32) := bo (xgi SX 10 6 (some a0) σ) fun v1 => if v1 ≤ x4 then some (.inr x2) else if (12 : Int32) ≤ x4 then some (.inr x2) else bo (xrc SX 10 (some a0)) fun a5 => bo (f_X10_owes a5 x1 x4 σ) fun v7 => if v7 = 0 then f_X10_firstDue_60 a0 x1 x2 x3 x4 σ else if x2 = (-1 : Int32) then f_X10_firstDue_49 a0 x1 x4 σ else bo (xgr SX 10 18 (some a0) σ) fun v11 => bo (xai SX v11 x4 σ) fun v13 => if x3 ≤ v13 then f_X10_firstDue_60 a0 x1 x2 x3 x4 σ else f_X10_firstDue_49 a0 x1 x4 σ
theorem t_X10_firstDue_L7 {M : Mx} {l0 : Launch} (O : Ok M cX10_firstDue yX10_firstDue) (R0 : Rm M l0 3 103 0 0) (N : Ma M = false) (hn : Mn M = 5) (a0 : Nat) (x1 : Int32) (x2 : Int32) (x3 : Int32) (x4 : Int32) (σ : Dt) (o : ((Int32 × Int32 × Int32) ⊕ Int32)) (h : f_X10_firstDue_L7 a0 x1 x2 x3 x4 σ = some o) (K : kon (P_X10_firstDue_7 M a0 x1 σ) (E_X10_firstDue_7 M a0 x1 σ) o) : G M 0 0 7 [(0, vA (some a0)), (1, vI x1), (2, vI x2), (3, vI x3), (4, vI x4)] [] SX σ := by
  unfold f_X10_firstDue_L7 at h
  refine g_iload O dX10_firstDue_7 4 rfl ?_
  refine g_aload_n O dX10_firstDue_9 rfl 0 rfl ?_
  obtain ⟨v1, e2, h⟩ := bo_some h
  refine g_getI O dX10_firstDue_10 fl_X10_78 rfl e2 ?_
  refine g_icmp_ge O dX10_firstDue_13 rfl (fun c3 => ?_) (fun c3 => ?_)
  · replace h := (if_pos c3).symm.trans h
    refine g_sub [2] (lv' := [(2, vI x2)]) rfl ?_
    cases h
    exact K
  · replace h := (if_neg c3).symm.trans h
    refine g_iload O dX10_firstDue_16 4 rfl ?_
    refine g_bipush (v := (12 : Int32)) O dX10_firstDue_18 rfl ?_
    refine g_icmp_ge O dX10_firstDue_20 rfl (fun c4 => ?_) (fun c4 => ?_)
    · replace h := (if_pos c4).symm.trans h
      refine g_sub [2] (lv' := [(2, vI x2)]) rfl ?_
      cases h
      exact K
    · replace h := (if_neg c4).symm.trans h
      refine g_aload_n O dX10_firstDue_23 rfl 0 rfl ?_
      refine g_iload_n O dX10_firstDue_24 rfl 1 rfl ?_
      refine g_iload O dX10_firstDue_25 4 rfl ?_
      obtain ⟨a5, e6, h⟩ := bo_some h
      obtain ⟨v7, e8, h⟩ := bo_some h
      refine g_cV1 O R0 N dX10_firstDue_27 vl_X10_178 vv_X10_owes e6 [vI x1, vI x4] rfl rfl rfl ⟨Nat.le_of_ble_eq_true rfl, Nat.le_of_ble_eq_true rfl⟩ (c_X10_owes l0 a5 x1 x4 σ v7 e8) ?_
      refine g_if_eq O dX10_firstDue_30 rfl (fun c9 => ?_) (fun c9 => ?_)
      · replace h := (if_pos c9).symm.trans h
        exact t_X10_firstDue_60 O R0 N hn a0 x1 x2 x3 x4 σ o h K
      · replace h := (if_neg c9).symm.trans h
        refine g_iload_n O dX10_firstDue_33 rfl 2 rfl ?_
        refine g_iconst (v := (-1 : Int32)) O dX10_firstDue_34 rfl ?_
        refine g_icmp_eq O dX10_firstDue_35 rfl (fun c10 => ?_) (fun c10 => ?_)
        · replace h := (if_pos c10).symm.trans h
          refine g_sub [0, 1, 4] (lv' := [(0, vA (some a0)), (1, vI x1), (4, vI x4)]) rfl ?_
          exact t_X10_firstDue_49 O R0 N hn a0 x1 x4 σ o h K
        · replace h := (if_neg c10).symm.trans h
          refine g_aload_n O dX10_firstDue_38 rfl 0 rfl ?_
          obtain ⟨v11, e12, h⟩ := bo_some h
          refine g_getR O dX10_firstDue_39 fl_X10_39 rfl e12 ?_
          refine g_iload O dX10_firstDue_42 4 rfl ?_
          obtain ⟨v13, e14, h⟩ := bo_some h
          refine g_iaload O dX10_firstDue_44 e14 ?_
          refine g_iload_n O dX10_firstDue_45 rfl 3 rfl ?_
          refine g_icmp_ge O dX10_firstDue_46 rfl (fun c15 => ?_) (fun c15 => ?_)
          · replace h := (if_pos c15).symm.trans h
            exact t_X10_firstDue_60 O R0 N hn a0 x1 x2 x3 x4 σ o h K
          · replace h := (if_neg c15).symm.trans h
            refine g_sub [0, 1, 4] (lv' := [(0, vA (some a0)), (1, vI x1), (4, vI x4)]) rfl ?_
            exact t_X10_firstDue_49 O R0 N hn a0 x1 x4 σ o h K
def f_X10_firstDue (a0 : Nat) (x1 : Int32) (σ : Dt) : Option Int32 := bo (iter FU (fun s => f_X10_firstDue_L7 a0 x1 s.1 s.2.1 s.2.2 σ) ((-1 : Int32), (0 : Int32), (0 : Int32))) fun w1 => some w1
theorem t_X10_firstDue {M : Mx} {l0 : Launch} (O : Ok M cX10_firstDue yX10_firstDue) (R0 : Rm M l0 3 103 0 0) (N : Ma M = false) (hn : Mn M = 5) (a0 : Nat) (x1 : Int32) (σ : Dt) (o : Int32) (h : f_X10_firstDue a0 x1 σ = some o) (K : Fin' M (some .int) 0 0 SX σ (some (vI o))) : G M 0 0 0 [(0, vA (some a0)), (1, vI x1)] [] SX σ := by
  unfold f_X10_firstDue at h
  refine g_iconst (v := (-1 : Int32)) O dX10_firstDue_0 rfl ?_
  refine g_istore_n (lv' := [(2, vI (-1 : Int32)), (0, vA (some a0)), (1, vI x1)]) O dX10_firstDue_1 rfl 5 hn (by decide) rfl ?_
  refine g_iconst (v := (0 : Int32)) O dX10_firstDue_2 rfl ?_
  refine g_istore_n (lv' := [(3, vI (0 : Int32)), (2, vI (-1 : Int32)), (0, vA (some a0)), (1, vI x1)]) O dX10_firstDue_3 rfl 5 hn (by decide) rfl ?_
  refine g_iconst (v := (0 : Int32)) O dX10_firstDue_4 rfl ?_
  refine g_istore (lv' := [(4, vI (0 : Int32)), (3, vI (0 : Int32)), (2, vI (-1 : Int32)), (0, vA (some a0)), (1, vI x1)]) O dX10_firstDue_5 5 hn (by decide) rfl ?_
  refine g_sub [3, 4, 2, 1, 0] (lv' := [(0, vA (some a0)), (1, vI x1), (2, vI (-1 : Int32)), (3, vI (0 : Int32)), (4, vI (0 : Int32))]) rfl ?_
  obtain ⟨w1, e2, h⟩ := bo_some h
  refine iter_G (P := P_X10_firstDue_7 M a0 x1 σ) (E := E_X10_firstDue_7 M a0 x1 σ) (fun s o hb hk => t_X10_firstDue_L7 O R0 N hn a0 x1 s.1 s.2.1 s.2.2 σ o hb hk) FU ((-1 : Int32), (0 : Int32), (0 : Int32)) w1 e2 ?_
  show G M 0 0 66 [(2, vI w1)] [] SX σ
  refine g_iload_n O dX10_firstDue_66 rfl 0 rfl ?_
  cases h
  exact g_ireturn O K dX10_firstDue_67
theorem c_X10_firstDue (l0 : Launch) (a0 : Nat) (x1 : Int32) (σ : Dt) (r : Int32) (h : f_X10_firstDue a0 x1 σ = some r) : Ctr l0 yX10_firstDue cX10_firstDue 5 (some .int) false 3 103 0 0 [vA (some a0), vI x1] SX σ SX σ (some (vI r)) := ctr_of (by decide) (Nat.le_of_ble_eq_true rfl) (fun M O F R0 N hn => t_X10_firstDue O R0 N hn a0 x1 σ r h F)
def f_X10_hasPromise_22  (σ : Dt) : Option Int32 := some (0 : Int32)
theorem t_X10_hasPromise_22 {M : Mx} {l0 : Launch} (O : Ok M cX10_hasPromise yX10_hasPromise) (R0 : Rm M l0 2 80 0 0) (N : Ma M = false) (hn : Mn M = 2)   (σ : Dt) (o : Int32) (h : f_X10_hasPromise_22 σ = some o) (K : Fin' M (some .boolean) 0 0 SX σ (some (vI o))) : G M 0 0 22 [] [] SX σ := by
  unfold f_X10_hasPromise_22 at h
  refine g_iconst (v := (0 : Int32)) O dX10_hasPromise_22 rfl ?_
  cases h
  exact g_zreturn O (by decide) K dX10_hasPromise_23
def f_X10_hasPromise (a0 : Nat) (x1 : Int32) (σ : Dt) : Option Int32 := if x1 < 0 then f_X10_hasPromise_22 σ else bo (xgi SX 10 6 (some a0) σ) fun v2 => if v2 ≤ x1 then f_X10_hasPromise_22 σ else if (12 : Int32) ≤ x1 then f_X10_hasPromise_22 σ else some (1 : Int32)
theorem t_X10_hasPromise {M : Mx} {l0 : Launch} (O : Ok M cX10_hasPromise yX10_hasPromise) (R0 : Rm M l0 2 80 0 0) (N : Ma M = false) (hn : Mn M = 2) (a0 : Nat) (x1 : Int32) (σ : Dt) (o : Int32) (h : f_X10_hasPromise a0 x1 σ = some o) (K : Fin' M (some .boolean) 0 0 SX σ (some (vI o))) : G M 0 0 0 [(0, vA (some a0)), (1, vI x1)] [] SX σ := by
  unfold f_X10_hasPromise at h
  refine g_iload_n O dX10_hasPromise_0 rfl 1 rfl ?_
  refine g_if_lt O dX10_hasPromise_1 rfl (fun c1 => ?_) (fun c1 => ?_)
  · replace h := (if_pos c1).symm.trans h
    refine g_sub [] (lv' := []) rfl ?_
    exact t_X10_hasPromise_22 O R0 N hn σ o h K
  · replace h := (if_neg c1).symm.trans h
    refine g_iload_n O dX10_hasPromise_4 rfl 1 rfl ?_
    refine g_aload_n O dX10_hasPromise_5 rfl 0 rfl ?_
    obtain ⟨v2, e3, h⟩ := bo_some h
    refine g_getI O dX10_hasPromise_6 fl_X10_78 rfl e3 ?_
    refine g_icmp_ge O dX10_hasPromise_9 rfl (fun c4 => ?_) (fun c4 => ?_)
    · replace h := (if_pos c4).symm.trans h
      refine g_sub [] (lv' := []) rfl ?_
      exact t_X10_hasPromise_22 O R0 N hn σ o h K
    · replace h := (if_neg c4).symm.trans h
      refine g_iload_n O dX10_hasPromise_12 rfl 1 rfl ?_
      refine g_bipush (v := (12 : Int32)) O dX10_hasPromise_13 rfl ?_
      refine g_icmp_ge O dX10_hasPromise_15 rfl (fun c5 => ?_) (fun c5 => ?_)
      · replace h := (if_pos c5).symm.trans h
        refine g_sub [] (lv' := []) rfl ?_
        exact t_X10_hasPromise_22 O R0 N hn σ o h K
      · replace h := (if_neg c5).symm.trans h
        refine g_iconst (v := (1 : Int32)) O dX10_hasPromise_18 rfl ?_
        refine g_goto O dX10_hasPromise_19 rfl ?_
        cases h
        exact g_zreturn O (by decide) K dX10_hasPromise_23
theorem c_X10_hasPromise (l0 : Launch) (a0 : Nat) (x1 : Int32) (σ : Dt) (r : Int32) (h : f_X10_hasPromise a0 x1 σ = some r) : Ctr l0 yX10_hasPromise cX10_hasPromise 2 (some .boolean) false 2 80 0 0 [vA (some a0), vI x1] SX σ SX σ (some (vI r)) := ctr_of (by decide) (Nat.le_of_ble_eq_true rfl) (fun M O F R0 N hn => t_X10_hasPromise O R0 N hn a0 x1 σ r h F)
def P_X10_digAt_79 (M : Mx) (a0 : Nat) (x1 : Int32) (s : (Int32 × Dt)) : Prop := G M 0 0 79 [(0, vA (some a0)), (1, vI x1), (4, vI s.1)] [] SX s.2
def E_X10_digAt_79 (M : Mx) (a0 : Nat) (x1 : Int32) : Dt → Prop := (fun w => G M 0 0 130 [] [] SX w)
def f_X10_digAt_124 (a0 : Nat) (x1 : Int32) (x4 : Int32) (σ : Dt) : Option ((Int32 × Dt) ⊕ Dt) := some (.inl ((x4 + (1 : Int32)), σ))
theorem t_X10_digAt_124 {M : Mx} {l0 : Launch} (O : Ok M cX10_digAt yX10_digAt) (R0 : Rm M l0 3 101 0 0) (N : Ma M = false) (hn : Mn M = 5)  (a0 : Nat) (x1 : Int32) (x4 : Int32) (σ : Dt) (o : ((Int32 × Dt) ⊕ Dt)) (h : f_X10_digAt_124 a0 x1 x4 σ = some o) (K : kon (P_X10_digAt_79 M a0 x1) (E_X10_digAt_79 M a0 x1) o) : G M 0 0 124 [(0, vA (some a0)), (1, vI x1), (4, vI x4)] [] SX σ := by
  unfold f_X10_digAt_124 at h
  refine g_iinc (v := (x4 + (1 : Int32))) (lv' := [(4, vI (x4 + (1 : Int32))), (0, vA (some a0)), (1, vI x1)]) O dX10_digAt_124 5 hn (by decide) 2 rfl rfl rfl ?_
  refine g_goto O dX10_digAt_127 rfl ?_
  refine g_sub [1, 2, 0] (lv' := [(0, vA (some a0)), (1, vI x1), (4, vI (x4 + (1 : Int32)))]) rfl ?_
  cases h
  exact K
def f_X10_digAt_L79 (a0 : Nat) (x1 : Int32) (x4 : Int32) (σ : Dt) : Option ((Int32 × Dt) ⊕ Dt) := bo (xgi SX 10 6 (some a0) σ) fun v1 => if v1 ≤ x4 then some (.inr σ) else if (12 : Int32) ≤ x4 then some (.inr σ) else bo (xgr SX 10 19 (some a0) σ) fun v5 => bo (xai SX v5 x4 σ) fun v7 => if v7 = 0 then bo (xgr SX 10 17 (some a0) σ) fun v10 => bo (xai SX v10 x4 σ) fun v12 => if v12 = x1 then bo (xgr SX 10 19 (some a0) σ) fun v15 => bo (xsi SX v15 x4 (1 : Int32) σ) fun σ17 => f_X10_digAt_124 a0 x1 x4 σ17 else f_X10_digAt_124 a0 x1 x4 σ else f_X10_digAt_124 a0 x1 x4 σ
theorem t_X10_digAt_L79 {M : Mx} {l0 : Launch} (O : Ok M cX10_digAt yX10_digAt) (R0 : Rm M l0 3 101 0 0) (N : Ma M = false) (hn : Mn M = 5) (a0 : Nat) (x1 : Int32) (x4 : Int32) (σ : Dt) (o : ((Int32 × Dt) ⊕ Dt)) (h : f_X10_digAt_L79 a0 x1 x4 σ = some o) (K : kon (P_X10_digAt_79 M a0 x1) (E_X10_digAt_79 M a0 x1) o) : G M 0 0 79 [(0, vA (some a0)), (1, vI x1), (4, vI x4)] [] SX σ := by
  unfold f_X10_digAt_L79 at h
  refine g_iload O dX10_digAt_79 2 rfl ?_
  refine g_aload_n O dX10_digAt_81 rfl 0 rfl ?_
  obtain ⟨v1, e2, h⟩ := bo_some h
  refine g_getI O dX10_digAt_82 fl_X10_78 rfl e2 ?_
  refine g_icmp_ge O dX10_digAt_85 rfl (fun c3 => ?_) (fun c3 => ?_)
  · replace h := (if_pos c3).symm.trans h
    refine g_sub [] (lv' := []) rfl ?_
    cases h
    exact K
  · replace h := (if_neg c3).symm.trans h
    refine g_iload O dX10_digAt_88 2 rfl ?_
    refine g_bipush (v := (12 : Int32)) O dX10_digAt_90 rfl ?_
    refine g_icmp_ge O dX10_digAt_92 rfl (fun c4 => ?_) (fun c4 => ?_)
    · replace h := (if_pos c4).symm.trans h
      refine g_sub [] (lv' := []) rfl ?_
      cases h
      exact K
    · replace h := (if_neg c4).symm.trans h
      refine g_aload_n O dX10_digAt_95 rfl 0 rfl ?_
      obtain ⟨v5, e6, h⟩ := bo_some h
      refine g_getR O dX10_digAt_96 fl_X10_42 rfl e6 ?_
      refine g_iload O dX10_digAt_99 2 rfl ?_
      obtain ⟨v7, e8, h⟩ := bo_some h
      refine g_iaload O dX10_digAt_101 e8 ?_
      refine g_if_ne O dX10_digAt_102 rfl (fun c9 => ?_) (fun c9 => ?_)
      · replace h := (if_pos c9).symm.trans h
        refine g_aload_n O dX10_digAt_105 rfl 0 rfl ?_
        obtain ⟨v10, e11, h⟩ := bo_some h
        refine g_getR O dX10_digAt_106 fl_X10_36 rfl e11 ?_
        refine g_iload O dX10_digAt_109 2 rfl ?_
        obtain ⟨v12, e13, h⟩ := bo_some h
        refine g_iaload O dX10_digAt_111 e13 ?_
        refine g_iload_n O dX10_digAt_112 rfl 1 rfl ?_
        refine g_icmp_ne O dX10_digAt_113 rfl (fun c14 => ?_) (fun c14 => ?_)
        · replace h := (if_pos c14).symm.trans h
          refine g_aload_n O dX10_digAt_116 rfl 0 rfl ?_
          obtain ⟨v15, e16, h⟩ := bo_some h
          refine g_getR O dX10_digAt_117 fl_X10_42 rfl e16 ?_
          refine g_iload O dX10_digAt_120 2 rfl ?_
          refine g_iconst (v := (1 : Int32)) O dX10_digAt_122 rfl ?_
          obtain ⟨σ17, e18, h⟩ := bo_some h
          refine g_iastore O dX10_digAt_123 e18 ?_
          exact t_X10_digAt_124 O R0 N hn a0 x1 x4 σ17 o h K
        · replace h := (if_neg c14).symm.trans h
          exact t_X10_digAt_124 O R0 N hn a0 x1 x4 σ o h K
      · replace h := (if_neg c9).symm.trans h
        exact t_X10_digAt_124 O R0 N hn a0 x1 x4 σ o h K
def f_X10_digAt (a0 : Nat) (x1 : Int32) (x2 : Int32) (σ : Dt) : Option (Unit × Dt) := bo (xrc SX 10 (some a0)) fun a1 => bo (f_X10_hasWork a1 x1 σ) fun v3 => if v3 = 0 then some ((), σ) else bo (xrc SX 10 (some a0)) fun a6 => bo (f_X10_hasFolk a6 x2 σ) fun v8 => if v8 = 0 then some ((), σ) else bo (xgr SX 10 10 (some a0) σ) fun v11 => bo (xai SX v11 x2 σ) fun v13 => bo (xgr SX 10 14 (some a0) σ) fun v15 => bo (xai SX v15 x1 σ) fun v17 => bo (xgr SX 10 15 (some a0) σ) fun v19 => bo (xai SX v19 x1 σ) fun v21 => bo (xgr SX 10 15 (some a0) σ) fun v23 => bo (xai SX v23 x1 σ) fun v25 => bo (xsi SX v23 x1 (v25 + (mmin v13 (v17 - v21))) σ) fun σ27 => bo (xgr SX 10 13 (some a0) σ27) fun v29 => bo (xai SX v29 x2 σ27) fun v31 => bo (xsi SX v29 x2 (v31 + (mmin v13 (v17 - v21))) σ27) fun σ33 => bo (xgr SX 10 15 (some a0) σ33) fun v35 => bo (xai SX v35 x1 σ33) fun v37 => bo (xgr SX 10 14 (some a0) σ33) fun v39 => bo (xai SX v39 x1 σ33) fun v41 => if v41 ≤ v37 then bo (iter FU (fun s => f_X10_digAt_L79 a0 x1 s.1 s.2) ((0 : Int32), σ33)) fun w44 => some ((), w44) else some ((), σ33)
theorem t_X10_digAt {M : Mx} {l0 : Launch} (O : Ok M cX10_digAt yX10_digAt) (R0 : Rm M l0 3 101 0 0) (N : Ma M = false) (hn : Mn M = 5) (a0 : Nat) (x1 : Int32) (x2 : Int32) (σ : Dt) (o : (Unit × Dt)) (h : f_X10_digAt a0 x1 x2 σ = some o) (K : Fin' M (none) 0 0 SX o.2 (none)) : G M 0 0 0 [(0, vA (some a0)), (1, vI x1), (2, vI x2)] [] SX σ := by
  unfold f_X10_digAt at h
  refine g_aload_n O dX10_digAt_0 rfl 0 rfl ?_
  refine g_iload_n O dX10_digAt_1 rfl 1 rfl ?_
  obtain ⟨a1, e2, h⟩ := bo_some h
  obtain ⟨v3, e4, h⟩ := bo_some h
  refine g_cV1 O R0 N dX10_digAt_2 vl_X10_156 vv_X10_hasWork e2 [vI x1] rfl rfl rfl ⟨Nat.le_of_ble_eq_true rfl, Nat.le_of_ble_eq_true rfl⟩ (c_X10_hasWork l0 a1 x1 σ v3 e4) ?_
  refine g_if_eq O dX10_digAt_5 rfl (fun c5 => ?_) (fun c5 => ?_)
  · replace h := (if_pos c5).symm.trans h
    cases h
    exact g_return O K dX10_digAt_16
  · replace h := (if_neg c5).symm.trans h
    refine g_aload_n O dX10_digAt_8 rfl 0 rfl ?_
    refine g_iload_n O dX10_digAt_9 rfl 2 rfl ?_
    obtain ⟨a6, e7, h⟩ := bo_some h
    obtain ⟨v8, e9, h⟩ := bo_some h
    refine g_cV1 O R0 N dX10_digAt_10 vl_X10_153 vv_X10_hasFolk e7 [vI x2] rfl rfl rfl ⟨Nat.le_of_ble_eq_true rfl, Nat.le_of_ble_eq_true rfl⟩ (c_X10_hasFolk l0 a6 x2 σ v8 e9) ?_
    refine g_if_ne O dX10_digAt_13 rfl (fun c10 => ?_) (fun c10 => ?_)
    · replace h := (if_pos c10).symm.trans h
      cases h
      exact g_return O K dX10_digAt_16
    · replace h := (if_neg c10).symm.trans h
      refine g_aload_n O dX10_digAt_17 rfl 0 rfl ?_
      obtain ⟨v11, e12, h⟩ := bo_some h
      refine g_getR O dX10_digAt_18 fl_X10_15 rfl e12 ?_
      refine g_iload_n O dX10_digAt_21 rfl 2 rfl ?_
      obtain ⟨v13, e14, h⟩ := bo_some h
      refine g_iaload O dX10_digAt_22 e14 ?_
      refine g_aload_n O dX10_digAt_23 rfl 0 rfl ?_
      obtain ⟨v15, e16, h⟩ := bo_some h
      refine g_getR O dX10_digAt_24 fl_X10_27 rfl e16 ?_
      refine g_iload_n O dX10_digAt_27 rfl 1 rfl ?_
      obtain ⟨v17, e18, h⟩ := bo_some h
      refine g_iaload O dX10_digAt_28 e18 ?_
      refine g_aload_n O dX10_digAt_29 rfl 0 rfl ?_
      obtain ⟨v19, e20, h⟩ := bo_some h
      refine g_getR O dX10_digAt_30 fl_X10_30 rfl e20 ?_
      refine g_iload_n O dX10_digAt_33 rfl 1 rfl ?_
      obtain ⟨v21, e22, h⟩ := bo_some h
      refine g_iaload O dX10_digAt_34 e22 ?_
      refine g_isub O dX10_digAt_35 ?_
      refine g_mmin O R0 dX10_digAt_36 w919 ⟨Nat.le_of_ble_eq_true rfl, Nat.le_of_ble_eq_true rfl⟩ ?_
      refine g_istore_n (lv' := [(3, vI (mmin v13 (v17 - v21))), (0, vA (some a0)), (1, vI x1), (2, vI x2)]) O dX10_digAt_39 rfl 5 hn (by decide) rfl ?_
      refine g_aload_n O dX10_digAt_40 rfl 1 rfl ?_
      obtain ⟨v23, e24, h⟩ := bo_some h
      refine g_getR O dX10_digAt_41 fl_X10_30 rfl e24 ?_
      refine g_iload_n O dX10_digAt_44 rfl 2 rfl ?_
      refine g_dup2 O dX10_digAt_45 rfl rfl ?_
      obtain ⟨v25, e26, h⟩ := bo_some h
      refine g_iaload O dX10_digAt_46 e26 ?_
      refine g_iload_n O dX10_digAt_47 rfl 0 rfl ?_
      refine g_iadd O dX10_digAt_48 ?_
      obtain ⟨σ27, e28, h⟩ := bo_some h
      refine g_iastore O dX10_digAt_49 e28 ?_
      refine g_aload_n O dX10_digAt_50 rfl 1 rfl ?_
      obtain ⟨v29, e30, h⟩ := bo_some h
      refine g_getR O dX10_digAt_51 fl_X10_24 rfl e30 ?_
      refine g_iload_n O dX10_digAt_54 rfl 3 rfl ?_
      refine g_dup2 O dX10_digAt_55 rfl rfl ?_
      obtain ⟨v31, e32, h⟩ := bo_some h
      refine g_iaload O dX10_digAt_56 e32 ?_
      refine g_iload_n O dX10_digAt_57 rfl 0 rfl ?_
      refine g_iadd O dX10_digAt_58 ?_
      obtain ⟨σ33, e34, h⟩ := bo_some h
      refine g_iastore O dX10_digAt_59 e34 ?_
      refine g_aload_n O dX10_digAt_60 rfl 1 rfl ?_
      obtain ⟨v35, e36, h⟩ := bo_some h
      refine g_getR O dX10_digAt_61 fl_X10_30 rfl e36 ?_
      refine g_iload_n O dX10_digAt_64 rfl 2 rfl ?_
      obtain ⟨v37, e38, h⟩ := bo_some h
      refine g_iaload O dX10_digAt_65 e38 ?_
      refine g_aload_n O dX10_digAt_66 rfl 1 rfl ?_
      obtain ⟨v39, e40, h⟩ := bo_some h
      refine g_getR O dX10_digAt_67 fl_X10_27 rfl e40 ?_
      refine g_iload_n O dX10_digAt_70 rfl 2 rfl ?_
      obtain ⟨v41, e42, h⟩ := bo_some h
      refine g_iaload O dX10_digAt_71 e42 ?_
      refine g_icmp_ge O dX10_digAt_72 rfl (fun c43 => ?_) (fun c43 => ?_)
      · replace h := (if_pos c43).symm.trans h
        refine g_iconst (v := (0 : Int32)) O dX10_digAt_76 rfl ?_
        refine g_istore (lv' := [(4, vI (0 : Int32)), (3, vI (mmin v13 (v17 - v21))), (0, vA (some a0)), (1, vI x1), (2, vI x2)]) O dX10_digAt_77 5 hn (by decide) rfl ?_
        refine g_sub [2, 3, 0] (lv' := [(0, vA (some a0)), (1, vI x1), (4, vI (0 : Int32))]) rfl ?_
        obtain ⟨w44, e45, h⟩ := bo_some h
        refine iter_G (P := P_X10_digAt_79 M a0 x1) (E := E_X10_digAt_79 M a0 x1) (fun s o hb hk => t_X10_digAt_L79 O R0 N hn a0 x1 s.1 s.2 o hb hk) FU ((0 : Int32), σ33) w44 e45 ?_
        show G M 0 0 130 [] [] SX w44
        cases h
        exact g_return O K dX10_digAt_130
      · replace h := (if_neg c43).symm.trans h
        cases h
        exact g_return O K dX10_digAt_75
theorem c_X10_digAt (l0 : Launch) (a0 : Nat) (x1 : Int32) (x2 : Int32) (σ : Dt) (r : Unit) (σ' : Dt) (h : f_X10_digAt a0 x1 x2 σ = some (r, σ')) : Ctr l0 yX10_digAt cX10_digAt 5 (none) false 3 101 0 0 [vA (some a0), vI x1, vI x2] SX σ SX σ' (none) := ctr_of (by decide) (Nat.le_of_ble_eq_true rfl) (fun M O F R0 N hn => t_X10_digAt O R0 N hn a0 x1 x2 σ (r, σ') h F)
def f_X10_fateInNewYear_90 (a0 : Nat) (x1 : Int32) (σ : Dt) : Option Int32 := bo (xgr SX 10 18 (some a0) σ) fun v1 => bo (xai SX v1 x1 σ) fun v3 => bo (xgi SX 10 0 (some a0) σ) fun v5 => if v5 < v3 then some (0 : Int32) else some (3 : Int32)
theorem t_X10_fateInNewYear_90 {M : Mx} {l0 : Launch} (O : Ok M cX10_fateInNewYear yX10_fateInNewYear) (R0 : Rm M l0 3 101 0 0) (N : Ma M = false) (hn : Mn M = 6)  (a0 : Nat) (x1 : Int32) (σ : Dt) (o : Int32) (h : f_X10_fateInNewYear_90 a0 x1 σ = some o) (K : Fin' M (some .int) 0 0 SX σ (some (vI o))) : G M 0 0 90 [(0, vA (some a0)), (1, vI x1)] [] SX σ := by
  unfold f_X10_fateInNewYear_90 at h
  refine g_aload_n O dX10_fateInNewYear_90 rfl 0 rfl ?_
  obtain ⟨v1, e2, h⟩ := bo_some h
  refine g_getR O dX10_fateInNewYear_91 fl_X10_39 rfl e2 ?_
  refine g_iload_n O dX10_fateInNewYear_94 rfl 1 rfl ?_
  obtain ⟨v3, e4, h⟩ := bo_some h
  refine g_iaload O dX10_fateInNewYear_95 e4 ?_
  refine g_aload_n O dX10_fateInNewYear_96 rfl 0 rfl ?_
  obtain ⟨v5, e6, h⟩ := bo_some h
  refine g_getI O dX10_fateInNewYear_97 fl_X10_45 rfl e6 ?_
  refine g_icmp_gt O dX10_fateInNewYear_100 rfl (fun c7 => ?_) (fun c7 => ?_)
  · replace h := (if_pos c7).symm.trans h
    refine g_iconst (v := (0 : Int32)) O dX10_fateInNewYear_107 rfl ?_
    cases h
    exact g_ireturn O K dX10_fateInNewYear_108
  · replace h := (if_neg c7).symm.trans h
    refine g_iconst (v := (3 : Int32)) O dX10_fateInNewYear_103 rfl ?_
    refine g_goto O dX10_fateInNewYear_104 rfl ?_
    cases h
    exact g_ireturn O K dX10_fateInNewYear_108
def f_X10_fateInNewYear_76 (a0 : Nat) (x1 : Int32) (x4 : Int32) (k0 : Int32) (σ : Dt) : Option Int32 := if x4 = 0 then f_X10_fateInNewYear_90 a0 x1 σ else if k0 = 0 then some (2 : Int32) else f_X10_fateInNewYear_90 a0 x1 σ
theorem t_X10_fateInNewYear_76 {M : Mx} {l0 : Launch} (O : Ok M cX10_fateInNewYear yX10_fateInNewYear) (R0 : Rm M l0 3 101 0 0) (N : Ma M = false) (hn : Mn M = 6)  (a0 : Nat) (x1 : Int32) (x4 : Int32) (k0 : Int32) (σ : Dt) (o : Int32) (h : f_X10_fateInNewYear_76 a0 x1 x4 k0 σ = some o) (K : Fin' M (some .int) 0 0 SX σ (some (vI o))) : G M 0 0 76 [(0, vA (some a0)), (1, vI x1), (4, vI x4)] [vI k0] SX σ := by
  unfold f_X10_fateInNewYear_76 at h
  refine g_istore (lv' := [(5, vI k0), (0, vA (some a0)), (1, vI x1), (4, vI x4)]) O dX10_fateInNewYear_76 6 hn (by decide) rfl ?_
  refine g_iload O dX10_fateInNewYear_78 3 rfl ?_
  refine g_if_eq O dX10_fateInNewYear_80 rfl (fun c1 => ?_) (fun c1 => ?_)
  · replace h := (if_pos c1).symm.trans h
    refine g_sub [1, 2] (lv' := [(0, vA (some a0)), (1, vI x1)]) rfl ?_
    exact t_X10_fateInNewYear_90 O R0 N hn a0 x1 σ o h K
  · replace h := (if_neg c1).symm.trans h
    refine g_iload O dX10_fateInNewYear_83 0 rfl ?_
    refine g_if_ne O dX10_fateInNewYear_85 rfl (fun c2 => ?_) (fun c2 => ?_)
    · replace h := (if_pos c2).symm.trans h
      refine g_iconst (v := (2 : Int32)) O dX10_fateInNewYear_88 rfl ?_
      cases h
      exact g_ireturn O K dX10_fateInNewYear_89
    · replace h := (if_neg c2).symm.trans h
      refine g_sub [1, 2] (lv' := [(0, vA (some a0)), (1, vI x1)]) rfl ?_
      exact t_X10_fateInNewYear_90 O R0 N hn a0 x1 σ o h K
def f_X10_fateInNewYear_75 (a0 : Nat) (x1 : Int32) (x4 : Int32) (σ : Dt) : Option Int32 := f_X10_fateInNewYear_76 a0 x1 x4 (0 : Int32) σ
theorem t_X10_fateInNewYear_75 {M : Mx} {l0 : Launch} (O : Ok M cX10_fateInNewYear yX10_fateInNewYear) (R0 : Rm M l0 3 101 0 0) (N : Ma M = false) (hn : Mn M = 6)  (a0 : Nat) (x1 : Int32) (x4 : Int32) (σ : Dt) (o : Int32) (h : f_X10_fateInNewYear_75 a0 x1 x4 σ = some o) (K : Fin' M (some .int) 0 0 SX σ (some (vI o))) : G M 0 0 75 [(0, vA (some a0)), (1, vI x1), (4, vI x4)] [] SX σ := by
  unfold f_X10_fateInNewYear_75 at h
  refine g_iconst (v := (0 : Int32)) O dX10_fateInNewYear_75 rfl ?_
  exact t_X10_fateInNewYear_76 O R0 N hn a0 x1 x4 (0 : Int32) σ o h K
def f_X10_fateInNewYear_48 (a0 : Nat) (x1 : Int32) (x3 : Int32) (k0 : Int32) (σ : Dt) : Option Int32 := bo (xrc SX 10 (some a0)) fun a1 => bo (f_X10_hasWork a1 x3 σ) fun v3 => if v3 = 0 then f_X10_fateInNewYear_75 a0 x1 k0 σ else bo (xgr SX 10 14 (some a0) σ) fun v6 => bo (xai SX v6 x3 σ) fun v8 => bo (xgi SX 10 3 (some a0) σ) fun v10 => if v8 < v10 then f_X10_fateInNewYear_75 a0 x1 k0 σ else f_X10_fateInNewYear_76 a0 x1 k0 (1 : Int32) σ
theorem t_X10_fateInNewYear_48 {M : Mx} {l0 : Launch} (O : Ok M cX10_fateInNewYear yX10_fateInNewYear) (R0 : Rm M l0 3 101 0 0) (N : Ma M = false) (hn : Mn M = 6)  (a0 : Nat) (x1 : Int32) (x3 : Int32) (k0 : Int32) (σ : Dt) (o : Int32) (h : f_X10_fateInNewYear_48 a0 x1 x3 k0 σ = some o) (K : Fin' M (some .int) 0 0 SX σ (some (vI o))) : G M 0 0 48 [(0, vA (some a0)), (1, vI x1), (3, vI x3)] [vI k0] SX σ := by
  unfold f_X10_fateInNewYear_48 at h
  refine g_istore (lv' := [(4, vI k0), (0, vA (some a0)), (1, vI x1), (3, vI x3)]) O dX10_fateInNewYear_48 6 hn (by decide) rfl ?_
  refine g_aload_n O dX10_fateInNewYear_50 rfl 1 rfl ?_
  refine g_iload_n O dX10_fateInNewYear_51 rfl 3 rfl ?_
  obtain ⟨a1, e2, h⟩ := bo_some h
  obtain ⟨v3, e4, h⟩ := bo_some h
  refine g_cV1 O R0 N dX10_fateInNewYear_52 vl_X10_156 vv_X10_hasWork e2 [vI x3] rfl rfl rfl ⟨Nat.le_of_ble_eq_true rfl, Nat.le_of_ble_eq_true rfl⟩ (c_X10_hasWork l0 a1 x3 σ v3 e4) ?_
  refine g_if_eq O dX10_fateInNewYear_55 rfl (fun c5 => ?_) (fun c5 => ?_)
  · replace h := (if_pos c5).symm.trans h
    refine g_sub [1, 2, 0] (lv' := [(0, vA (some a0)), (1, vI x1), (4, vI k0)]) rfl ?_
    exact t_X10_fateInNewYear_75 O R0 N hn a0 x1 k0 σ o h K
  · replace h := (if_neg c5).symm.trans h
    refine g_aload_n O dX10_fateInNewYear_58 rfl 1 rfl ?_
    obtain ⟨v6, e7, h⟩ := bo_some h
    refine g_getR O dX10_fateInNewYear_59 fl_X10_27 rfl e7 ?_
    refine g_iload_n O dX10_fateInNewYear_62 rfl 3 rfl ?_
    obtain ⟨v8, e9, h⟩ := bo_some h
    refine g_iaload O dX10_fateInNewYear_63 e9 ?_
    refine g_aload_n O dX10_fateInNewYear_64 rfl 1 rfl ?_
    obtain ⟨v10, e11, h⟩ := bo_some h
    refine g_getI O dX10_fateInNewYear_65 fl_X10_71 rfl e11 ?_
    refine g_icmp_lt O dX10_fateInNewYear_68 rfl (fun c12 => ?_) (fun c12 => ?_)
    · replace h := (if_pos c12).symm.trans h
      refine g_sub [1, 2, 0] (lv' := [(0, vA (some a0)), (1, vI x1), (4, vI k0)]) rfl ?_
      exact t_X10_fateInNewYear_75 O R0 N hn a0 x1 k0 σ o h K
    · replace h := (if_neg c12).symm.trans h
      refine g_iconst (v := (1 : Int32)) O dX10_fateInNewYear_71 rfl ?_
      refine g_goto O dX10_fateInNewYear_72 rfl ?_
      refine g_sub [1, 2, 0] (lv' := [(0, vA (some a0)), (1, vI x1), (4, vI k0)]) rfl ?_
      exact t_X10_fateInNewYear_76 O R0 N hn a0 x1 k0 (1 : Int32) σ o h K
def f_X10_fateInNewYear_47 (a0 : Nat) (x1 : Int32) (x3 : Int32) (σ : Dt) : Option Int32 := f_X10_fateInNewYear_48 a0 x1 x3 (0 : Int32) σ
theorem t_X10_fateInNewYear_47 {M : Mx} {l0 : Launch} (O : Ok M cX10_fateInNewYear yX10_fateInNewYear) (R0 : Rm M l0 3 101 0 0) (N : Ma M = false) (hn : Mn M = 6)  (a0 : Nat) (x1 : Int32) (x3 : Int32) (σ : Dt) (o : Int32) (h : f_X10_fateInNewYear_47 a0 x1 x3 σ = some o) (K : Fin' M (some .int) 0 0 SX σ (some (vI o))) : G M 0 0 47 [(0, vA (some a0)), (1, vI x1), (3, vI x3)] [] SX σ := by
  unfold f_X10_fateInNewYear_47 at h
  refine g_iconst (v := (0 : Int32)) O dX10_fateInNewYear_47 rfl ?_
  exact t_X10_fateInNewYear_48 O R0 N hn a0 x1 x3 (0 : Int32) σ o h K
def f_X10_fateInNewYear (a0 : Nat) (x1 : Int32) (σ : Dt) : Option Int32 := bo (xrc SX 10 (some a0)) fun a1 => bo (f_X10_hasPromise a1 x1 σ) fun v3 => if v3 = 0 then some (0 : Int32) else bo (xgr SX 10 16 (some a0) σ) fun v6 => bo (xai SX v6 x1 σ) fun v8 => bo (xgr SX 10 17 (some a0) σ) fun v10 => bo (xai SX v10 x1 σ) fun v12 => bo (xrc SX 10 (some a0)) fun a14 => bo (f_X10_hasFolk a14 v8 σ) fun v16 => if v16 = 0 then f_X10_fateInNewYear_47 a0 x1 v12 σ else bo (xgr SX 10 9 (some a0) σ) fun v19 => bo (xai SX v19 v8 σ) fun v21 => if v21 < (10 : Int32) then f_X10_fateInNewYear_47 a0 x1 v12 σ else f_X10_fateInNewYear_48 a0 x1 v12 (1 : Int32) σ
theorem t_X10_fateInNewYear {M : Mx} {l0 : Launch} (O : Ok M cX10_fateInNewYear yX10_fateInNewYear) (R0 : Rm M l0 3 101 0 0) (N : Ma M = false) (hn : Mn M = 6) (a0 : Nat) (x1 : Int32) (σ : Dt) (o : Int32) (h : f_X10_fateInNewYear a0 x1 σ = some o) (K : Fin' M (some .int) 0 0 SX σ (some (vI o))) : G M 0 0 0 [(0, vA (some a0)), (1, vI x1)] [] SX σ := by
  unfold f_X10_fateInNewYear at h
  refine g_aload_n O dX10_fateInNewYear_0 rfl 0 rfl ?_
  refine g_iload_n O dX10_fateInNewYear_1 rfl 1 rfl ?_
  obtain ⟨a1, e2, h⟩ := bo_some h
  obtain ⟨v3, e4, h⟩ := bo_some h
  refine g_cV1 O R0 N dX10_fateInNewYear_2 vl_X10_168 vv_X10_hasPromise e2 [vI x1] rfl rfl rfl ⟨Nat.le_of_ble_eq_true rfl, Nat.le_of_ble_eq_true rfl⟩ (c_X10_hasPromise l0 a1 x1 σ v3 e4) ?_
  refine g_if_ne O dX10_fateInNewYear_5 rfl (fun c5 => ?_) (fun c5 => ?_)
  · replace h := (if_pos c5).symm.trans h
    refine g_iconst (v := (0 : Int32)) O dX10_fateInNewYear_8 rfl ?_
    cases h
    exact g_ireturn O K dX10_fateInNewYear_9
  · replace h := (if_neg c5).symm.trans h
    refine g_aload_n O dX10_fateInNewYear_10 rfl 0 rfl ?_
    obtain ⟨v6, e7, h⟩ := bo_some h
    refine g_getR O dX10_fateInNewYear_11 fl_X10_33 rfl e7 ?_
    refine g_iload_n O dX10_fateInNewYear_14 rfl 1 rfl ?_
    obtain ⟨v8, e9, h⟩ := bo_some h
    refine g_iaload O dX10_fateInNewYear_15 e9 ?_
    refine g_istore_n (lv' := [(2, vI v8), (0, vA (some a0)), (1, vI x1)]) O dX10_fateInNewYear_16 rfl 6 hn (by decide) rfl ?_
    refine g_aload_n O dX10_fateInNewYear_17 rfl 1 rfl ?_
    obtain ⟨v10, e11, h⟩ := bo_some h
    refine g_getR O dX10_fateInNewYear_18 fl_X10_36 rfl e11 ?_
    refine g_iload_n O dX10_fateInNewYear_21 rfl 2 rfl ?_
    obtain ⟨v12, e13, h⟩ := bo_some h
    refine g_iaload O dX10_fateInNewYear_22 e13 ?_
    refine g_istore_n (lv' := [(3, vI v12), (2, vI v8), (0, vA (some a0)), (1, vI x1)]) O dX10_fateInNewYear_23 rfl 6 hn (by decide) rfl ?_
    refine g_aload_n O dX10_fateInNewYear_24 rfl 2 rfl ?_
    refine g_iload_n O dX10_fateInNewYear_25 rfl 1 rfl ?_
    obtain ⟨a14, e15, h⟩ := bo_some h
    obtain ⟨v16, e17, h⟩ := bo_some h
    refine g_cV1 O R0 N dX10_fateInNewYear_26 vl_X10_153 vv_X10_hasFolk e15 [vI v8] rfl rfl rfl ⟨Nat.le_of_ble_eq_true rfl, Nat.le_of_ble_eq_true rfl⟩ (c_X10_hasFolk l0 a14 v8 σ v16 e17) ?_
    refine g_if_eq O dX10_fateInNewYear_29 rfl (fun c18 => ?_) (fun c18 => ?_)
    · replace h := (if_pos c18).symm.trans h
      refine g_sub [2, 3, 0] (lv' := [(0, vA (some a0)), (1, vI x1), (3, vI v12)]) rfl ?_
      exact t_X10_fateInNewYear_47 O R0 N hn a0 x1 v12 σ o h K
    · replace h := (if_neg c18).symm.trans h
      refine g_aload_n O dX10_fateInNewYear_32 rfl 2 rfl ?_
      obtain ⟨v19, e20, h⟩ := bo_some h
      refine g_getR O dX10_fateInNewYear_33 fl_X10_9 rfl e20 ?_
      refine g_iload_n O dX10_fateInNewYear_36 rfl 1 rfl ?_
      obtain ⟨v21, e22, h⟩ := bo_some h
      refine g_iaload O dX10_fateInNewYear_37 e22 ?_
      refine g_bipush (v := (10 : Int32)) O dX10_fateInNewYear_38 rfl ?_
      refine g_icmp_lt O dX10_fateInNewYear_40 rfl (fun c23 => ?_) (fun c23 => ?_)
      · replace h := (if_pos c23).symm.trans h
        refine g_sub [2, 3, 0] (lv' := [(0, vA (some a0)), (1, vI x1), (3, vI v12)]) rfl ?_
        exact t_X10_fateInNewYear_47 O R0 N hn a0 x1 v12 σ o h K
      · replace h := (if_neg c23).symm.trans h
        refine g_iconst (v := (1 : Int32)) O dX10_fateInNewYear_43 rfl ?_
        refine g_goto O dX10_fateInNewYear_44 rfl ?_
        refine g_sub [2, 3, 0] (lv' := [(0, vA (some a0)), (1, vI x1), (3, vI v12)]) rfl ?_
        exact t_X10_fateInNewYear_48 O R0 N hn a0 x1 v12 (1 : Int32) σ o h K
theorem c_X10_fateInNewYear (l0 : Launch) (a0 : Nat) (x1 : Int32) (σ : Dt) (r : Int32) (h : f_X10_fateInNewYear a0 x1 σ = some r) : Ctr l0 yX10_fateInNewYear cX10_fateInNewYear 6 (some .int) false 3 101 0 0 [vA (some a0), vI x1] SX σ SX σ (some (vI r)) := ctr_of (by decide) (Nat.le_of_ble_eq_true rfl) (fun M O F R0 N hn => t_X10_fateInNewYear O R0 N hn a0 x1 σ r h F)
def P_X10_passYear_138 (M : Mx) (a0 : Nat) (s : (Int32 × Dt)) : Prop := G M 0 0 138 [(0, vA (some a0)), (1, vI s.1)] [] SX s.2
def E_X10_passYear_138 (M : Mx) (a0 : Nat) : Dt → Prop := (fun w => G M 0 0 178 [] [] SX w)
def f_X10_passYear_172 (a0 : Nat) (x1 : Int32) (σ : Dt) : Option ((Int32 × Dt) ⊕ Dt) := some (.inl ((x1 + (1 : Int32)), σ))
theorem t_X10_passYear_172 {M : Mx} {l0 : Launch} (O : Ok M cX10_passYear yX10_passYear) (R0 : Rm M l0 4 127 0 0) (N : Ma M = false) (hn : Mn M = 3)  (a0 : Nat) (x1 : Int32) (σ : Dt) (o : ((Int32 × Dt) ⊕ Dt)) (h : f_X10_passYear_172 a0 x1 σ = some o) (K : kon (P_X10_passYear_138 M a0) (E_X10_passYear_138 M a0) o) : G M 0 0 172 [(0, vA (some a0)), (1, vI x1)] [] SX σ := by
  unfold f_X10_passYear_172 at h
  refine g_iinc (v := (x1 + (1 : Int32))) (lv' := [(1, vI (x1 + (1 : Int32))), (0, vA (some a0))]) O dX10_passYear_172 3 hn (by decide) 1 rfl rfl rfl ?_
  refine g_goto O dX10_passYear_175 rfl ?_
  refine g_sub [1, 0] (lv' := [(0, vA (some a0)), (1, vI (x1 + (1 : Int32)))]) rfl ?_
  cases h
  exact K
def f_X10_passYear_L138 (a0 : Nat) (x1 : Int32) (σ : Dt) : Option ((Int32 × Dt) ⊕ Dt) := bo (xgi SX 10 6 (some a0) σ) fun v1 => if v1 ≤ x1 then some (.inr σ) else if (12 : Int32) ≤ x1 then some (.inr σ) else bo (xgr SX 10 19 (some a0) σ) fun v5 => bo (xai SX v5 x1 σ) fun v7 => if v7 = 0 then bo (xgr SX 10 19 (some a0) σ) fun v10 => bo (xrc SX 10 (some a0)) fun a12 => bo (f_X10_fateInNewYear a12 x1 σ) fun v14 => bo (xsi SX v10 x1 v14 σ) fun σ16 => f_X10_passYear_172 a0 x1 σ16 else f_X10_passYear_172 a0 x1 σ
theorem t_X10_passYear_L138 {M : Mx} {l0 : Launch} (O : Ok M cX10_passYear yX10_passYear) (R0 : Rm M l0 4 127 0 0) (N : Ma M = false) (hn : Mn M = 3) (a0 : Nat) (x1 : Int32) (σ : Dt) (o : ((Int32 × Dt) ⊕ Dt)) (h : f_X10_passYear_L138 a0 x1 σ = some o) (K : kon (P_X10_passYear_138 M a0) (E_X10_passYear_138 M a0) o) : G M 0 0 138 [(0, vA (some a0)), (1, vI x1)] [] SX σ := by
  unfold f_X10_passYear_L138 at h
  refine g_iload_n O dX10_passYear_138 rfl 1 rfl ?_
  refine g_aload_n O dX10_passYear_139 rfl 0 rfl ?_
  obtain ⟨v1, e2, h⟩ := bo_some h
  refine g_getI O dX10_passYear_140 fl_X10_78 rfl e2 ?_
  refine g_icmp_ge O dX10_passYear_143 rfl (fun c3 => ?_) (fun c3 => ?_)
  · replace h := (if_pos c3).symm.trans h
    refine g_sub [] (lv' := []) rfl ?_
    cases h
    exact K
  · replace h := (if_neg c3).symm.trans h
    refine g_iload_n O dX10_passYear_146 rfl 1 rfl ?_
    refine g_bipush (v := (12 : Int32)) O dX10_passYear_147 rfl ?_
    refine g_icmp_ge O dX10_passYear_149 rfl (fun c4 => ?_) (fun c4 => ?_)
    · replace h := (if_pos c4).symm.trans h
      refine g_sub [] (lv' := []) rfl ?_
      cases h
      exact K
    · replace h := (if_neg c4).symm.trans h
      refine g_aload_n O dX10_passYear_152 rfl 0 rfl ?_
      obtain ⟨v5, e6, h⟩ := bo_some h
      refine g_getR O dX10_passYear_153 fl_X10_42 rfl e6 ?_
      refine g_iload_n O dX10_passYear_156 rfl 1 rfl ?_
      obtain ⟨v7, e8, h⟩ := bo_some h
      refine g_iaload O dX10_passYear_157 e8 ?_
      refine g_if_ne O dX10_passYear_158 rfl (fun c9 => ?_) (fun c9 => ?_)
      · replace h := (if_pos c9).symm.trans h
        refine g_aload_n O dX10_passYear_161 rfl 0 rfl ?_
        obtain ⟨v10, e11, h⟩ := bo_some h
        refine g_getR O dX10_passYear_162 fl_X10_42 rfl e11 ?_
        refine g_iload_n O dX10_passYear_165 rfl 1 rfl ?_
        refine g_aload_n O dX10_passYear_166 rfl 0 rfl ?_
        refine g_iload_n O dX10_passYear_167 rfl 1 rfl ?_
        obtain ⟨a12, e13, h⟩ := bo_some h
        obtain ⟨v14, e15, h⟩ := bo_some h
        refine g_cV1 O R0 N dX10_passYear_168 vl_X10_175 vv_X10_fateInNewYear e13 [vI x1] rfl rfl rfl ⟨Nat.le_of_ble_eq_true rfl, Nat.le_of_ble_eq_true rfl⟩ (c_X10_fateInNewYear l0 a12 x1 σ v14 e15) ?_
        obtain ⟨σ16, e17, h⟩ := bo_some h
        refine g_iastore O dX10_passYear_171 e17 ?_
        exact t_X10_passYear_172 O R0 N hn a0 x1 σ16 o h K
      · replace h := (if_neg c9).symm.trans h
        exact t_X10_passYear_172 O R0 N hn a0 x1 σ o h K
def P_X10_passYear_72 (M : Mx) (a0 : Nat) (s : (Int32 × Dt)) : Prop := G M 0 0 72 [(0, vA (some a0)), (1, vI s.1)] [] SX s.2
def E_X10_passYear_72 (M : Mx) (a0 : Nat) : Dt → Prop := (fun w => G M 0 0 121 [(0, vA (some a0))] [] SX w)
def f_X10_passYear_115 (a0 : Nat) (x1 : Int32) (σ : Dt) : Option ((Int32 × Dt) ⊕ Dt) := some (.inl ((x1 + (1 : Int32)), σ))
theorem t_X10_passYear_115 {M : Mx} {l0 : Launch} (O : Ok M cX10_passYear yX10_passYear) (R0 : Rm M l0 4 127 0 0) (N : Ma M = false) (hn : Mn M = 3)  (a0 : Nat) (x1 : Int32) (σ : Dt) (o : ((Int32 × Dt) ⊕ Dt)) (h : f_X10_passYear_115 a0 x1 σ = some o) (K : kon (P_X10_passYear_72 M a0) (E_X10_passYear_72 M a0) o) : G M 0 0 115 [(0, vA (some a0)), (1, vI x1)] [] SX σ := by
  unfold f_X10_passYear_115 at h
  refine g_iinc (v := (x1 + (1 : Int32))) (lv' := [(1, vI (x1 + (1 : Int32))), (0, vA (some a0))]) O dX10_passYear_115 3 hn (by decide) 1 rfl rfl rfl ?_
  refine g_goto O dX10_passYear_118 rfl ?_
  refine g_sub [1, 0] (lv' := [(0, vA (some a0)), (1, vI (x1 + (1 : Int32)))]) rfl ?_
  cases h
  exact K
def f_X10_passYear_L72 (a0 : Nat) (x1 : Int32) (σ : Dt) : Option ((Int32 × Dt) ⊕ Dt) := bo (xgi SX 10 1 (some a0) σ) fun v1 => if v1 ≤ x1 then some (.inr σ) else if (10 : Int32) ≤ x1 then some (.inr σ) else bo (xrc SX 10 (some a0)) fun a5 => bo (f_X10_lives a5 x1 σ) fun v7 => if v7 = 0 then f_X10_passYear_115 a0 x1 σ else bo (xgr SX 10 9 (some a0) σ) fun v10 => bo (xai SX v10 x1 σ) fun v12 => if (99 : Int32) ≤ v12 then f_X10_passYear_115 a0 x1 σ else bo (xgr SX 10 9 (some a0) σ) fun v15 => bo (xai SX v15 x1 σ) fun v17 => bo (xsi SX v15 x1 (v17 + (1 : Int32)) σ) fun σ19 => f_X10_passYear_115 a0 x1 σ19
theorem t_X10_passYear_L72 {M : Mx} {l0 : Launch} (O : Ok M cX10_passYear yX10_passYear) (R0 : Rm M l0 4 127 0 0) (N : Ma M = false) (hn : Mn M = 3) (a0 : Nat) (x1 : Int32) (σ : Dt) (o : ((Int32 × Dt) ⊕ Dt)) (h : f_X10_passYear_L72 a0 x1 σ = some o) (K : kon (P_X10_passYear_72 M a0) (E_X10_passYear_72 M a0) o) : G M 0 0 72 [(0, vA (some a0)), (1, vI x1)] [] SX σ := by
  unfold f_X10_passYear_L72 at h
  refine g_iload_n O dX10_passYear_72 rfl 1 rfl ?_
  refine g_aload_n O dX10_passYear_73 rfl 0 rfl ?_
  obtain ⟨v1, e2, h⟩ := bo_some h
  refine g_getI O dX10_passYear_74 fl_X10_63 rfl e2 ?_
  refine g_icmp_ge O dX10_passYear_77 rfl (fun c3 => ?_) (fun c3 => ?_)
  · replace h := (if_pos c3).symm.trans h
    refine g_sub [0] (lv' := [(0, vA (some a0))]) rfl ?_
    cases h
    exact K
  · replace h := (if_neg c3).symm.trans h
    refine g_iload_n O dX10_passYear_80 rfl 1 rfl ?_
    refine g_bipush (v := (10 : Int32)) O dX10_passYear_81 rfl ?_
    refine g_icmp_ge O dX10_passYear_83 rfl (fun c4 => ?_) (fun c4 => ?_)
    · replace h := (if_pos c4).symm.trans h
      refine g_sub [0] (lv' := [(0, vA (some a0))]) rfl ?_
      cases h
      exact K
    · replace h := (if_neg c4).symm.trans h
      refine g_aload_n O dX10_passYear_86 rfl 0 rfl ?_
      refine g_iload_n O dX10_passYear_87 rfl 1 rfl ?_
      obtain ⟨a5, e6, h⟩ := bo_some h
      obtain ⟨v7, e8, h⟩ := bo_some h
      refine g_cV1 O R0 N dX10_passYear_88 vl_X10_159 vv_X10_lives e6 [vI x1] rfl rfl rfl ⟨Nat.le_of_ble_eq_true rfl, Nat.le_of_ble_eq_true rfl⟩ (c_X10_lives l0 a5 x1 σ v7 e8) ?_
      refine g_if_eq O dX10_passYear_91 rfl (fun c9 => ?_) (fun c9 => ?_)
      · replace h := (if_pos c9).symm.trans h
        exact t_X10_passYear_115 O R0 N hn a0 x1 σ o h K
      · replace h := (if_neg c9).symm.trans h
        refine g_aload_n O dX10_passYear_94 rfl 0 rfl ?_
        obtain ⟨v10, e11, h⟩ := bo_some h
        refine g_getR O dX10_passYear_95 fl_X10_9 rfl e11 ?_
        refine g_iload_n O dX10_passYear_98 rfl 1 rfl ?_
        obtain ⟨v12, e13, h⟩ := bo_some h
        refine g_iaload O dX10_passYear_99 e13 ?_
        refine g_bipush (v := (99 : Int32)) O dX10_passYear_100 rfl ?_
        refine g_icmp_ge O dX10_passYear_102 rfl (fun c14 => ?_) (fun c14 => ?_)
        · replace h := (if_pos c14).symm.trans h
          exact t_X10_passYear_115 O R0 N hn a0 x1 σ o h K
        · replace h := (if_neg c14).symm.trans h
          refine g_aload_n O dX10_passYear_105 rfl 0 rfl ?_
          obtain ⟨v15, e16, h⟩ := bo_some h
          refine g_getR O dX10_passYear_106 fl_X10_9 rfl e16 ?_
          refine g_iload_n O dX10_passYear_109 rfl 1 rfl ?_
          refine g_dup2 O dX10_passYear_110 rfl rfl ?_
          obtain ⟨v17, e18, h⟩ := bo_some h
          refine g_iaload O dX10_passYear_111 e18 ?_
          refine g_iconst (v := (1 : Int32)) O dX10_passYear_112 rfl ?_
          refine g_iadd O dX10_passYear_113 ?_
          obtain ⟨σ19, e20, h⟩ := bo_some h
          refine g_iastore O dX10_passYear_114 e20 ?_
          exact t_X10_passYear_115 O R0 N hn a0 x1 σ19 o h K
def P_X10_passYear_13 (M : Mx) (a0 : Nat) (s : (Int32 × Dt)) : Prop := G M 0 0 13 [(0, vA (some a0)), (1, vI s.1)] [] SX s.2
def E_X10_passYear_13 (M : Mx) (a0 : Nat) : Dt → Prop := (fun w => G M 0 0 70 [(0, vA (some a0))] [] SX w)
def f_X10_passYear_64 (a0 : Nat) (x1 : Int32) (σ : Dt) : Option ((Int32 × Dt) ⊕ Dt) := some (.inl ((x1 + (1 : Int32)), σ))
theorem t_X10_passYear_64 {M : Mx} {l0 : Launch} (O : Ok M cX10_passYear yX10_passYear) (R0 : Rm M l0 4 127 0 0) (N : Ma M = false) (hn : Mn M = 3)  (a0 : Nat) (x1 : Int32) (σ : Dt) (o : ((Int32 × Dt) ⊕ Dt)) (h : f_X10_passYear_64 a0 x1 σ = some o) (K : kon (P_X10_passYear_13 M a0) (E_X10_passYear_13 M a0) o) : G M 0 0 64 [(0, vA (some a0)), (1, vI x1)] [] SX σ := by
  unfold f_X10_passYear_64 at h
  refine g_iinc (v := (x1 + (1 : Int32))) (lv' := [(1, vI (x1 + (1 : Int32))), (0, vA (some a0))]) O dX10_passYear_64 3 hn (by decide) 1 rfl rfl rfl ?_
  refine g_goto O dX10_passYear_67 rfl ?_
  refine g_sub [1, 0] (lv' := [(0, vA (some a0)), (1, vI (x1 + (1 : Int32)))]) rfl ?_
  cases h
  exact K
def f_X10_passYear_44 (a0 : Nat) (x1 : Int32) (k0 : Int32) (σ : Dt) : Option ((Int32 × Dt) ⊕ Dt) := bo (xrc SX 10 (some a0)) fun a1 => bo (f_X10_hasPromise a1 k0 σ) fun v3 => if v3 = 0 then f_X10_passYear_64 a0 x1 σ else bo (xgr SX 10 17 (some a0) σ) fun v6 => bo (xai SX v6 k0 σ) fun v8 => bo (xrc SX 10 (some a0)) fun a10 => bd (f_X10_digAt a10 v8 x1 σ) fun v12 σ13 => f_X10_passYear_64 a0 x1 σ13
theorem t_X10_passYear_44 {M : Mx} {l0 : Launch} (O : Ok M cX10_passYear yX10_passYear) (R0 : Rm M l0 4 127 0 0) (N : Ma M = false) (hn : Mn M = 3)  (a0 : Nat) (x1 : Int32) (k0 : Int32) (σ : Dt) (o : ((Int32 × Dt) ⊕ Dt)) (h : f_X10_passYear_44 a0 x1 k0 σ = some o) (K : kon (P_X10_passYear_13 M a0) (E_X10_passYear_13 M a0) o) : G M 0 0 44 [(0, vA (some a0)), (1, vI x1)] [vI k0] SX σ := by
  unfold f_X10_passYear_44 at h
  refine g_istore_n (lv' := [(2, vI k0), (0, vA (some a0)), (1, vI x1)]) O dX10_passYear_44 rfl 3 hn (by decide) rfl ?_
  refine g_aload_n O dX10_passYear_45 rfl 1 rfl ?_
  refine g_iload_n O dX10_passYear_46 rfl 0 rfl ?_
  obtain ⟨a1, e2, h⟩ := bo_some h
  obtain ⟨v3, e4, h⟩ := bo_some h
  refine g_cV1 O R0 N dX10_passYear_47 vl_X10_168 vv_X10_hasPromise e2 [vI k0] rfl rfl rfl ⟨Nat.le_of_ble_eq_true rfl, Nat.le_of_ble_eq_true rfl⟩ (c_X10_hasPromise l0 a1 k0 σ v3 e4) ?_
  refine g_if_eq O dX10_passYear_50 rfl (fun c5 => ?_) (fun c5 => ?_)
  · replace h := (if_pos c5).symm.trans h
    refine g_sub [1, 2] (lv' := [(0, vA (some a0)), (1, vI x1)]) rfl ?_
    exact t_X10_passYear_64 O R0 N hn a0 x1 σ o h K
  · replace h := (if_neg c5).symm.trans h
    refine g_aload_n O dX10_passYear_53 rfl 1 rfl ?_
    refine g_aload_n O dX10_passYear_54 rfl 1 rfl ?_
    obtain ⟨v6, e7, h⟩ := bo_some h
    refine g_getR O dX10_passYear_55 fl_X10_36 rfl e7 ?_
    refine g_iload_n O dX10_passYear_58 rfl 0 rfl ?_
    obtain ⟨v8, e9, h⟩ := bo_some h
    refine g_iaload O dX10_passYear_59 e9 ?_
    refine g_iload_n O dX10_passYear_60 rfl 2 rfl ?_
    obtain ⟨a10, e11, h⟩ := bo_some h
    obtain ⟨v12, σ13, e14, h⟩ := bd_some h
    refine g_cV0 O R0 N dX10_passYear_61 vl_X10_171 vv_X10_digAt e11 [vI v8, vI x1] rfl rfl rfl ⟨Nat.le_of_ble_eq_true rfl, Nat.le_of_ble_eq_true rfl⟩ (c_X10_digAt l0 a10 v8 x1 σ v12 σ13 e14) ?_
    refine g_sub [1, 2] (lv' := [(0, vA (some a0)), (1, vI x1)]) rfl ?_
    exact t_X10_passYear_64 O R0 N hn a0 x1 σ13 o h K
def f_X10_passYear_L13 (a0 : Nat) (x1 : Int32) (σ : Dt) : Option ((Int32 × Dt) ⊕ Dt) := bo (xgi SX 10 1 (some a0) σ) fun v1 => if v1 ≤ x1 then some (.inr σ) else if (10 : Int32) ≤ x1 then some (.inr σ) else bo (xrc SX 10 (some a0)) fun a5 => bo (f_X10_lives a5 x1 σ) fun v7 => if v7 = 0 then f_X10_passYear_44 a0 x1 (-1 : Int32) σ else bo (xrc SX 10 (some a0)) fun a10 => bo (f_X10_firstDue a10 x1 σ) fun v12 => f_X10_passYear_44 a0 x1 v12 σ
theorem t_X10_passYear_L13 {M : Mx} {l0 : Launch} (O : Ok M cX10_passYear yX10_passYear) (R0 : Rm M l0 4 127 0 0) (N : Ma M = false) (hn : Mn M = 3) (a0 : Nat) (x1 : Int32) (σ : Dt) (o : ((Int32 × Dt) ⊕ Dt)) (h : f_X10_passYear_L13 a0 x1 σ = some o) (K : kon (P_X10_passYear_13 M a0) (E_X10_passYear_13 M a0) o) : G M 0 0 13 [(0, vA (some a0)), (1, vI x1)] [] SX σ := by
  unfold f_X10_passYear_L13 at h
  refine g_iload_n O dX10_passYear_13 rfl 1 rfl ?_
  refine g_aload_n O dX10_passYear_14 rfl 0 rfl ?_
  obtain ⟨v1, e2, h⟩ := bo_some h
  refine g_getI O dX10_passYear_15 fl_X10_63 rfl e2 ?_
  refine g_icmp_ge O dX10_passYear_18 rfl (fun c3 => ?_) (fun c3 => ?_)
  · replace h := (if_pos c3).symm.trans h
    refine g_sub [0] (lv' := [(0, vA (some a0))]) rfl ?_
    cases h
    exact K
  · replace h := (if_neg c3).symm.trans h
    refine g_iload_n O dX10_passYear_21 rfl 1 rfl ?_
    refine g_bipush (v := (10 : Int32)) O dX10_passYear_22 rfl ?_
    refine g_icmp_ge O dX10_passYear_24 rfl (fun c4 => ?_) (fun c4 => ?_)
    · replace h := (if_pos c4).symm.trans h
      refine g_sub [0] (lv' := [(0, vA (some a0))]) rfl ?_
      cases h
      exact K
    · replace h := (if_neg c4).symm.trans h
      refine g_aload_n O dX10_passYear_27 rfl 0 rfl ?_
      refine g_iload_n O dX10_passYear_28 rfl 1 rfl ?_
      obtain ⟨a5, e6, h⟩ := bo_some h
      obtain ⟨v7, e8, h⟩ := bo_some h
      refine g_cV1 O R0 N dX10_passYear_29 vl_X10_159 vv_X10_lives e6 [vI x1] rfl rfl rfl ⟨Nat.le_of_ble_eq_true rfl, Nat.le_of_ble_eq_true rfl⟩ (c_X10_lives l0 a5 x1 σ v7 e8) ?_
      refine g_if_eq O dX10_passYear_32 rfl (fun c9 => ?_) (fun c9 => ?_)
      · replace h := (if_pos c9).symm.trans h
        refine g_iconst (v := (-1 : Int32)) O dX10_passYear_43 rfl ?_
        exact t_X10_passYear_44 O R0 N hn a0 x1 (-1 : Int32) σ o h K
      · replace h := (if_neg c9).symm.trans h
        refine g_aload_n O dX10_passYear_35 rfl 0 rfl ?_
        refine g_iload_n O dX10_passYear_36 rfl 1 rfl ?_
        obtain ⟨a10, e11, h⟩ := bo_some h
        obtain ⟨v12, e13, h⟩ := bo_some h
        refine g_cV1 O R0 N dX10_passYear_37 vl_X10_165 vv_X10_firstDue e11 [vI x1] rfl rfl rfl ⟨Nat.le_of_ble_eq_true rfl, Nat.le_of_ble_eq_true rfl⟩ (c_X10_firstDue l0 a10 x1 σ v12 e13) ?_
        refine g_goto O dX10_passYear_40 rfl ?_
        exact t_X10_passYear_44 O R0 N hn a0 x1 v12 σ o h K
def f_X10_passYear_121 (a0 : Nat) (σ : Dt) : Option (Int32 × Dt) := bo (xgi SX 10 0 (some a0) σ) fun v1 => bo (xpi SX 10 0 (some a0) (v1 + (1 : Int32)) σ) fun σ3 => bo (xpi SX 10 5 (some a0) (0 : Int32) σ3) fun σ5 => bo (iter FU (fun s => f_X10_passYear_L138 a0 s.1 s.2) ((0 : Int32), σ5)) fun w7 => some ((1 : Int32), w7)
theorem t_X10_passYear_121 {M : Mx} {l0 : Launch} (O : Ok M cX10_passYear yX10_passYear) (R0 : Rm M l0 4 127 0 0) (N : Ma M = false) (hn : Mn M = 3)  (a0 : Nat) (σ : Dt) (o : (Int32 × Dt)) (h : f_X10_passYear_121 a0 σ = some o) (K : Fin' M (some .boolean) 0 0 SX o.2 (some (vI o.1))) : G M 0 0 121 [(0, vA (some a0))] [] SX σ := by
  unfold f_X10_passYear_121 at h
  refine g_aload_n O dX10_passYear_121 rfl 0 rfl ?_
  refine g_dup O dX10_passYear_122 rfl ?_
  obtain ⟨v1, e2, h⟩ := bo_some h
  refine g_getI O dX10_passYear_123 fl_X10_45 rfl e2 ?_
  refine g_iconst (v := (1 : Int32)) O dX10_passYear_126 rfl ?_
  refine g_iadd O dX10_passYear_127 ?_
  obtain ⟨σ3, e4, h⟩ := bo_some h
  refine g_putI O dX10_passYear_128 fl_X10_45 (Or.inl rfl) rfl e4 ?_
  refine g_aload_n O dX10_passYear_131 rfl 0 rfl ?_
  refine g_iconst (v := (0 : Int32)) O dX10_passYear_132 rfl ?_
  obtain ⟨σ5, e6, h⟩ := bo_some h
  refine g_putI O dX10_passYear_133 fl_X10_75 (Or.inl rfl) rfl e6 ?_
  refine g_iconst (v := (0 : Int32)) O dX10_passYear_136 rfl ?_
  refine g_istore_n (lv' := [(1, vI (0 : Int32)), (0, vA (some a0))]) O dX10_passYear_137 rfl 3 hn (by decide) rfl ?_
  refine g_sub [1, 0] (lv' := [(0, vA (some a0)), (1, vI (0 : Int32))]) rfl ?_
  obtain ⟨w7, e8, h⟩ := bo_some h
  refine iter_G (P := P_X10_passYear_138 M a0) (E := E_X10_passYear_138 M a0) (fun s o hb hk => t_X10_passYear_L138 O R0 N hn a0 s.1 s.2 o hb hk) FU ((0 : Int32), σ5) w7 e8 ?_
  show G M 0 0 178 [] [] SX w7
  refine g_iconst (v := (1 : Int32)) O dX10_passYear_178 rfl ?_
  cases h
  exact g_zreturn O (by decide) K dX10_passYear_179
def f_X10_passYear_70 (a0 : Nat) (σ : Dt) : Option (Int32 × Dt) := bo (iter FU (fun s => f_X10_passYear_L72 a0 s.1 s.2) ((0 : Int32), σ)) fun w1 => f_X10_passYear_121 a0 w1
theorem t_X10_passYear_70 {M : Mx} {l0 : Launch} (O : Ok M cX10_passYear yX10_passYear) (R0 : Rm M l0 4 127 0 0) (N : Ma M = false) (hn : Mn M = 3)  (a0 : Nat) (σ : Dt) (o : (Int32 × Dt)) (h : f_X10_passYear_70 a0 σ = some o) (K : Fin' M (some .boolean) 0 0 SX o.2 (some (vI o.1))) : G M 0 0 70 [(0, vA (some a0))] [] SX σ := by
  unfold f_X10_passYear_70 at h
  refine g_iconst (v := (0 : Int32)) O dX10_passYear_70 rfl ?_
  refine g_istore_n (lv' := [(1, vI (0 : Int32)), (0, vA (some a0))]) O dX10_passYear_71 rfl 3 hn (by decide) rfl ?_
  refine g_sub [1, 0] (lv' := [(0, vA (some a0)), (1, vI (0 : Int32))]) rfl ?_
  obtain ⟨w1, e2, h⟩ := bo_some h
  refine iter_G (P := P_X10_passYear_72 M a0) (E := E_X10_passYear_72 M a0) (fun s o hb hk => t_X10_passYear_L72 O R0 N hn a0 s.1 s.2 o hb hk) FU ((0 : Int32), σ) w1 e2 ?_
  show G M 0 0 121 [(0, vA (some a0))] [] SX w1
  exact t_X10_passYear_121 O R0 N hn a0 w1 o h K
def f_X10_passYear (a0 : Nat) (σ : Dt) : Option (Int32 × Dt) := bo (xgi SX 10 0 (some a0) σ) fun v1 => if v1 < (99 : Int32) then bo (iter FU (fun s => f_X10_passYear_L13 a0 s.1 s.2) ((0 : Int32), σ)) fun w4 => f_X10_passYear_70 a0 w4 else some ((0 : Int32), σ)
theorem t_X10_passYear {M : Mx} {l0 : Launch} (O : Ok M cX10_passYear yX10_passYear) (R0 : Rm M l0 4 127 0 0) (N : Ma M = false) (hn : Mn M = 3) (a0 : Nat) (σ : Dt) (o : (Int32 × Dt)) (h : f_X10_passYear a0 σ = some o) (K : Fin' M (some .boolean) 0 0 SX o.2 (some (vI o.1))) : G M 0 0 0 [(0, vA (some a0))] [] SX σ := by
  unfold f_X10_passYear at h
  refine g_aload_n O dX10_passYear_0 rfl 0 rfl ?_
  obtain ⟨v1, e2, h⟩ := bo_some h
  refine g_getI O dX10_passYear_1 fl_X10_45 rfl e2 ?_
  refine g_bipush (v := (99 : Int32)) O dX10_passYear_4 rfl ?_
  refine g_icmp_lt O dX10_passYear_6 rfl (fun c3 => ?_) (fun c3 => ?_)
  · replace h := (if_pos c3).symm.trans h
    refine g_iconst (v := (0 : Int32)) O dX10_passYear_11 rfl ?_
    refine g_istore_n (lv' := [(1, vI (0 : Int32)), (0, vA (some a0))]) O dX10_passYear_12 rfl 3 hn (by decide) rfl ?_
    refine g_sub [1, 0] (lv' := [(0, vA (some a0)), (1, vI (0 : Int32))]) rfl ?_
    obtain ⟨w4, e5, h⟩ := bo_some h
    refine iter_G (P := P_X10_passYear_13 M a0) (E := E_X10_passYear_13 M a0) (fun s o hb hk => t_X10_passYear_L13 O R0 N hn a0 s.1 s.2 o hb hk) FU ((0 : Int32), σ) w4 e5 ?_
    show G M 0 0 70 [(0, vA (some a0))] [] SX w4
    exact t_X10_passYear_70 O R0 N hn a0 w4 o h K
  · replace h := (if_neg c3).symm.trans h
    refine g_iconst (v := (0 : Int32)) O dX10_passYear_9 rfl ?_
    cases h
    exact g_zreturn O (by decide) K dX10_passYear_10
theorem c_X10_passYear (l0 : Launch) (a0 : Nat) (σ : Dt) (r : Int32) (σ' : Dt) (h : f_X10_passYear a0 σ = some (r, σ')) : Ctr l0 yX10_passYear cX10_passYear 3 (some .boolean) false 4 127 0 0 [vA (some a0)] SX σ SX σ' (some (vI r)) := ctr_of (by decide) (Nat.le_of_ble_eq_true rfl) (fun M O F R0 N hn => t_X10_passYear O R0 N hn a0 σ (r, σ') h F)
def f_X10_tryDeed (a0 : Nat) (x1 : Int32) (x2 : Int32) (x3 : Int32) (x4 : Int32) (σ : Dt) : Option (Int32 × Dt) := if x1 = (0 : Int32) then bo (xrc SX 10 (some a0)) fun a2 => bd (f_X10_makePromise a2 x2 x3 x4 σ) fun v4 σ5 => if v4 = 0 ∨ v4 = 1 then some (v4, σ5) else none else if x1 = (1 : Int32) then bo (xrc SX 10 (some a0)) fun a9 => bd (f_X10_bear a9 x2 x3 σ) fun v11 σ12 => if v11 = 0 ∨ v11 = 1 then some (v11, σ12) else none else if x1 = (2 : Int32) then bo (xrc SX 10 (some a0)) fun a16 => bd (f_X10_coverMouth a16 x2 σ) fun v18 σ19 => if v18 = 0 ∨ v18 = 1 then some (v18, σ19) else none else if x1 = (3 : Int32) then bo (xrc SX 10 (some a0)) fun a23 => bd (f_X10_letDie a23 x2 σ) fun v25 σ26 => if v25 = 0 ∨ v25 = 1 then some (v25, σ26) else none else if x1 = (4 : Int32) then bo (xrc SX 10 (some a0)) fun a30 => bd (f_X10_passYear a30 σ) fun v32 σ33 => if v32 = 0 ∨ v32 = 1 then some (v32, σ33) else none else some ((0 : Int32), σ)
theorem t_X10_tryDeed {M : Mx} {l0 : Launch} (O : Ok M cX10_tryDeed yX10_tryDeed) (R0 : Rm M l0 5 149 0 0) (N : Ma M = false) (hn : Mn M = 5) (a0 : Nat) (x1 : Int32) (x2 : Int32) (x3 : Int32) (x4 : Int32) (σ : Dt) (o : (Int32 × Dt)) (h : f_X10_tryDeed a0 x1 x2 x3 x4 σ = some o) (K : Fin' M (some .boolean) 0 0 SX o.2 (some (vI o.1))) : G M 0 0 0 [(0, vA (some a0)), (1, vI x1), (2, vI x2), (3, vI x3), (4, vI x4)] [] SX σ := by
  unfold f_X10_tryDeed at h
  refine g_iload_n O dX10_tryDeed_0 rfl 1 rfl ?_
  by_cases c1 : x1 = (0 : Int32)
  · replace h := (if_pos c1).symm.trans h
    refine g_tabIn O dX10_tryDeed_1 (by rw [c1]; decide) (by rw [c1]; decide) (by rw [c1]; rfl) rfl ?_
    refine g_aload_n O dX10_tryDeed_36 rfl 0 rfl ?_
    refine g_iload_n O dX10_tryDeed_37 rfl 2 rfl ?_
    refine g_iload_n O dX10_tryDeed_38 rfl 3 rfl ?_
    refine g_iload O dX10_tryDeed_39 4 rfl ?_
    obtain ⟨a2, e3, h⟩ := bo_some h
    obtain ⟨v4, σ5, e6, h⟩ := bd_some h
    refine g_cV1 O R0 N dX10_tryDeed_41 vl_X10_134 vv_X10_makePromise e3 [vI x2, vI x3, vI x4] rfl rfl rfl ⟨Nat.le_of_ble_eq_true rfl, Nat.le_of_ble_eq_true rfl⟩ (c_X10_makePromise l0 a2 x2 x3 x4 σ v4 σ5 e6) ?_
    by_cases c7 : v4 = 0 ∨ v4 = 1
    · replace h := (if_pos c7).symm.trans h
      cases h
      exact g_zreturn O c7 K dX10_tryDeed_44
    · rw [if_neg c7] at h; cases h
  replace h := (if_neg c1).symm.trans h
  by_cases c8 : x1 = (1 : Int32)
  · replace h := (if_pos c8).symm.trans h
    refine g_tabIn O dX10_tryDeed_1 (by rw [c8]; decide) (by rw [c8]; decide) (by rw [c8]; rfl) rfl ?_
    refine g_aload_n O dX10_tryDeed_45 rfl 0 rfl ?_
    refine g_iload_n O dX10_tryDeed_46 rfl 2 rfl ?_
    refine g_iload_n O dX10_tryDeed_47 rfl 3 rfl ?_
    obtain ⟨a9, e10, h⟩ := bo_some h
    obtain ⟨v11, σ12, e13, h⟩ := bd_some h
    refine g_cV1 O R0 N dX10_tryDeed_48 vl_X10_138 vv_X10_bear e10 [vI x2, vI x3] rfl rfl rfl ⟨Nat.le_of_ble_eq_true rfl, Nat.le_of_ble_eq_true rfl⟩ (c_X10_bear l0 a9 x2 x3 σ v11 σ12 e13) ?_
    by_cases c14 : v11 = 0 ∨ v11 = 1
    · replace h := (if_pos c14).symm.trans h
      cases h
      exact g_zreturn O c14 K dX10_tryDeed_51
    · rw [if_neg c14] at h; cases h
  replace h := (if_neg c8).symm.trans h
  by_cases c15 : x1 = (2 : Int32)
  · replace h := (if_pos c15).symm.trans h
    refine g_tabIn O dX10_tryDeed_1 (by rw [c15]; decide) (by rw [c15]; decide) (by rw [c15]; rfl) rfl ?_
    refine g_aload_n O dX10_tryDeed_52 rfl 0 rfl ?_
    refine g_iload_n O dX10_tryDeed_53 rfl 2 rfl ?_
    obtain ⟨a16, e17, h⟩ := bo_some h
    obtain ⟨v18, σ19, e20, h⟩ := bd_some h
    refine g_cV1 O R0 N dX10_tryDeed_54 vl_X10_142 vv_X10_coverMouth e17 [vI x2] rfl rfl rfl ⟨Nat.le_of_ble_eq_true rfl, Nat.le_of_ble_eq_true rfl⟩ (c_X10_coverMouth l0 a16 x2 σ v18 σ19 e20) ?_
    by_cases c21 : v18 = 0 ∨ v18 = 1
    · replace h := (if_pos c21).symm.trans h
      cases h
      exact g_zreturn O c21 K dX10_tryDeed_57
    · rw [if_neg c21] at h; cases h
  replace h := (if_neg c15).symm.trans h
  by_cases c22 : x1 = (3 : Int32)
  · replace h := (if_pos c22).symm.trans h
    refine g_tabIn O dX10_tryDeed_1 (by rw [c22]; decide) (by rw [c22]; decide) (by rw [c22]; rfl) rfl ?_
    refine g_aload_n O dX10_tryDeed_58 rfl 0 rfl ?_
    refine g_iload_n O dX10_tryDeed_59 rfl 2 rfl ?_
    obtain ⟨a23, e24, h⟩ := bo_some h
    obtain ⟨v25, σ26, e27, h⟩ := bd_some h
    refine g_cV1 O R0 N dX10_tryDeed_60 vl_X10_146 vv_X10_letDie e24 [vI x2] rfl rfl rfl ⟨Nat.le_of_ble_eq_true rfl, Nat.le_of_ble_eq_true rfl⟩ (c_X10_letDie l0 a23 x2 σ v25 σ26 e27) ?_
    by_cases c28 : v25 = 0 ∨ v25 = 1
    · replace h := (if_pos c28).symm.trans h
      cases h
      exact g_zreturn O c28 K dX10_tryDeed_63
    · rw [if_neg c28] at h; cases h
  replace h := (if_neg c22).symm.trans h
  by_cases c29 : x1 = (4 : Int32)
  · replace h := (if_pos c29).symm.trans h
    refine g_tabIn O dX10_tryDeed_1 (by rw [c29]; decide) (by rw [c29]; decide) (by rw [c29]; rfl) rfl ?_
    refine g_aload_n O dX10_tryDeed_64 rfl 0 rfl ?_
    obtain ⟨a30, e31, h⟩ := bo_some h
    obtain ⟨v32, σ33, e34, h⟩ := bd_some h
    refine g_cV1 O R0 N dX10_tryDeed_65 vl_X10_149 vv_X10_passYear e31 [] rfl rfl rfl ⟨Nat.le_of_ble_eq_true rfl, Nat.le_of_ble_eq_true rfl⟩ (c_X10_passYear l0 a30 σ v32 σ33 e34) ?_
    by_cases c35 : v32 = 0 ∨ v32 = 1
    · replace h := (if_pos c35).symm.trans h
      cases h
      exact g_zreturn O c35 K dX10_tryDeed_68
    · rw [if_neg c35] at h; cases h
  replace h := (if_neg c29).symm.trans h
  refine g_tabOut O dX10_tryDeed_1 (tab_out [(0 : Int32), (1 : Int32), (2 : Int32), (3 : Int32), (4 : Int32)] (fun z h1 h2 => ?_) (fun c hc => ?_)) rfl ?_
  · have hz : z = 0 ∨ z = 1 ∨ z = 2 ∨ z = 3 ∨ z = 4 := by omega
    rcases hz with rfl | rfl | rfl | rfl | rfl
    · exact ⟨(0 : Int32), by simp, rfl⟩
    · exact ⟨(1 : Int32), by simp, rfl⟩
    · exact ⟨(2 : Int32), by simp, rfl⟩
    · exact ⟨(3 : Int32), by simp, rfl⟩
    · exact ⟨(4 : Int32), by simp, rfl⟩
  · simp only [List.mem_cons, List.not_mem_nil, or_false] at hc
    rcases hc with rfl | rfl | rfl | rfl | rfl <;> assumption
  refine g_iconst (v := (0 : Int32)) O dX10_tryDeed_69 rfl ?_
  cases h
  exact g_zreturn O (by decide) K dX10_tryDeed_70
theorem c_X10_tryDeed (l0 : Launch) (a0 : Nat) (x1 : Int32) (x2 : Int32) (x3 : Int32) (x4 : Int32) (σ : Dt) (r : Int32) (σ' : Dt) (h : f_X10_tryDeed a0 x1 x2 x3 x4 σ = some (r, σ')) : Ctr l0 yX10_tryDeed cX10_tryDeed 5 (some .boolean) false 5 149 0 0 [vA (some a0), vI x1, vI x2, vI x3, vI x4] SX σ SX σ' (some (vI r)) := ctr_of (by decide) (Nat.le_of_ble_eq_true rfl) (fun M O F R0 N hn => t_X10_tryDeed O R0 N hn a0 x1 x2 x3 x4 σ (r, σ') h F)
def P_X10_manyOfFate_4 (M : Mx) (a0 : Nat) (x1 : Int32) (σ : Dt) (s : (Int32 × Int32)) : Prop := G M 0 0 4 [(0, vA (some a0)), (1, vI x1), (2, vI s.1), (3, vI s.2)] [] SX σ
def E_X10_manyOfFate_4 (M : Mx) (a0 : Nat) (x1 : Int32) (σ : Dt) : Int32 → Prop := (fun w => G M 0 0 37 [(2, vI w)] [] SX σ)
def f_X10_manyOfFate_31 (a0 : Nat) (x1 : Int32) (x2 : Int32) (x3 : Int32) (σ : Dt) : Option ((Int32 × Int32) ⊕ Int32) := some (.inl (x2, (x3 + (1 : Int32))))
theorem t_X10_manyOfFate_31 {M : Mx} {l0 : Launch} (O : Ok M cX10_manyOfFate yX10_manyOfFate) (R0 : Rm M l0 2 80 0 0) (N : Ma M = false) (hn : Mn M = 4)  (a0 : Nat) (x1 : Int32) (x2 : Int32) (x3 : Int32) (σ : Dt) (o : ((Int32 × Int32) ⊕ Int32)) (h : f_X10_manyOfFate_31 a0 x1 x2 x3 σ = some o) (K : kon (P_X10_manyOfFate_4 M a0 x1 σ) (E_X10_manyOfFate_4 M a0 x1 σ) o) : G M 0 0 31 [(0, vA (some a0)), (1, vI x1), (2, vI x2), (3, vI x3)] [] SX σ := by
  unfold f_X10_manyOfFate_31 at h
  refine g_iinc (v := (x3 + (1 : Int32))) (lv' := [(3, vI (x3 + (1 : Int32))), (0, vA (some a0)), (1, vI x1), (2, vI x2)]) O dX10_manyOfFate_31 4 hn (by decide) 3 rfl rfl rfl ?_
  refine g_goto O dX10_manyOfFate_34 rfl ?_
  refine g_sub [1, 2, 3, 0] (lv' := [(0, vA (some a0)), (1, vI x1), (2, vI x2), (3, vI (x3 + (1 : Int32)))]) rfl ?_
  cases h
  exact K
def f_X10_manyOfFate_L4 (a0 : Nat) (x1 : Int32) (x2 : Int32) (x3 : Int32) (σ : Dt) : Option ((Int32 × Int32) ⊕ Int32) := bo (xgi SX 10 6 (some a0) σ) fun v1 => if v1 ≤ x3 then some (.inr x2) else if (12 : Int32) ≤ x3 then some (.inr x2) else bo (xgr SX 10 19 (some a0) σ) fun v5 => bo (xai SX v5 x3 σ) fun v7 => if v7 = x1 then f_X10_manyOfFate_31 a0 x1 (x2 + (1 : Int32)) x3 σ else f_X10_manyOfFate_31 a0 x1 x2 x3 σ
theorem t_X10_manyOfFate_L4 {M : Mx} {l0 : Launch} (O : Ok M cX10_manyOfFate yX10_manyOfFate) (R0 : Rm M l0 2 80 0 0) (N : Ma M = false) (hn : Mn M = 4) (a0 : Nat) (x1 : Int32) (x2 : Int32) (x3 : Int32) (σ : Dt) (o : ((Int32 × Int32) ⊕ Int32)) (h : f_X10_manyOfFate_L4 a0 x1 x2 x3 σ = some o) (K : kon (P_X10_manyOfFate_4 M a0 x1 σ) (E_X10_manyOfFate_4 M a0 x1 σ) o) : G M 0 0 4 [(0, vA (some a0)), (1, vI x1), (2, vI x2), (3, vI x3)] [] SX σ := by
  unfold f_X10_manyOfFate_L4 at h
  refine g_iload_n O dX10_manyOfFate_4 rfl 3 rfl ?_
  refine g_aload_n O dX10_manyOfFate_5 rfl 0 rfl ?_
  obtain ⟨v1, e2, h⟩ := bo_some h
  refine g_getI O dX10_manyOfFate_6 fl_X10_78 rfl e2 ?_
  refine g_icmp_ge O dX10_manyOfFate_9 rfl (fun c3 => ?_) (fun c3 => ?_)
  · replace h := (if_pos c3).symm.trans h
    refine g_sub [2] (lv' := [(2, vI x2)]) rfl ?_
    cases h
    exact K
  · replace h := (if_neg c3).symm.trans h
    refine g_iload_n O dX10_manyOfFate_12 rfl 3 rfl ?_
    refine g_bipush (v := (12 : Int32)) O dX10_manyOfFate_13 rfl ?_
    refine g_icmp_ge O dX10_manyOfFate_15 rfl (fun c4 => ?_) (fun c4 => ?_)
    · replace h := (if_pos c4).symm.trans h
      refine g_sub [2] (lv' := [(2, vI x2)]) rfl ?_
      cases h
      exact K
    · replace h := (if_neg c4).symm.trans h
      refine g_aload_n O dX10_manyOfFate_18 rfl 0 rfl ?_
      obtain ⟨v5, e6, h⟩ := bo_some h
      refine g_getR O dX10_manyOfFate_19 fl_X10_42 rfl e6 ?_
      refine g_iload_n O dX10_manyOfFate_22 rfl 3 rfl ?_
      obtain ⟨v7, e8, h⟩ := bo_some h
      refine g_iaload O dX10_manyOfFate_23 e8 ?_
      refine g_iload_n O dX10_manyOfFate_24 rfl 1 rfl ?_
      refine g_icmp_ne O dX10_manyOfFate_25 rfl (fun c9 => ?_) (fun c9 => ?_)
      · replace h := (if_pos c9).symm.trans h
        refine g_iinc (v := (x2 + (1 : Int32))) (lv' := [(2, vI (x2 + (1 : Int32))), (0, vA (some a0)), (1, vI x1), (3, vI x3)]) O dX10_manyOfFate_28 4 hn (by decide) 2 rfl rfl rfl ?_
        refine g_sub [1, 2, 0, 3] (lv' := [(0, vA (some a0)), (1, vI x1), (2, vI (x2 + (1 : Int32))), (3, vI x3)]) rfl ?_
        exact t_X10_manyOfFate_31 O R0 N hn a0 x1 (x2 + (1 : Int32)) x3 σ o h K
      · replace h := (if_neg c9).symm.trans h
        exact t_X10_manyOfFate_31 O R0 N hn a0 x1 x2 x3 σ o h K
def f_X10_manyOfFate (a0 : Nat) (x1 : Int32) (σ : Dt) : Option Int32 := bo (iter FU (fun s => f_X10_manyOfFate_L4 a0 x1 s.1 s.2 σ) ((0 : Int32), (0 : Int32))) fun w1 => some w1
theorem t_X10_manyOfFate {M : Mx} {l0 : Launch} (O : Ok M cX10_manyOfFate yX10_manyOfFate) (R0 : Rm M l0 2 80 0 0) (N : Ma M = false) (hn : Mn M = 4) (a0 : Nat) (x1 : Int32) (σ : Dt) (o : Int32) (h : f_X10_manyOfFate a0 x1 σ = some o) (K : Fin' M (some .int) 0 0 SX σ (some (vI o))) : G M 0 0 0 [(0, vA (some a0)), (1, vI x1)] [] SX σ := by
  unfold f_X10_manyOfFate at h
  refine g_iconst (v := (0 : Int32)) O dX10_manyOfFate_0 rfl ?_
  refine g_istore_n (lv' := [(2, vI (0 : Int32)), (0, vA (some a0)), (1, vI x1)]) O dX10_manyOfFate_1 rfl 4 hn (by decide) rfl ?_
  refine g_iconst (v := (0 : Int32)) O dX10_manyOfFate_2 rfl ?_
  refine g_istore_n (lv' := [(3, vI (0 : Int32)), (2, vI (0 : Int32)), (0, vA (some a0)), (1, vI x1)]) O dX10_manyOfFate_3 rfl 4 hn (by decide) rfl ?_
  refine g_sub [2, 3, 1, 0] (lv' := [(0, vA (some a0)), (1, vI x1), (2, vI (0 : Int32)), (3, vI (0 : Int32))]) rfl ?_
  obtain ⟨w1, e2, h⟩ := bo_some h
  refine iter_G (P := P_X10_manyOfFate_4 M a0 x1 σ) (E := E_X10_manyOfFate_4 M a0 x1 σ) (fun s o hb hk => t_X10_manyOfFate_L4 O R0 N hn a0 x1 s.1 s.2 σ o hb hk) FU ((0 : Int32), (0 : Int32)) w1 e2 ?_
  show G M 0 0 37 [(2, vI w1)] [] SX σ
  refine g_iload_n O dX10_manyOfFate_37 rfl 0 rfl ?_
  cases h
  exact g_ireturn O K dX10_manyOfFate_38
theorem c_X10_manyOfFate (l0 : Launch) (a0 : Nat) (x1 : Int32) (σ : Dt) (r : Int32) (h : f_X10_manyOfFate a0 x1 σ = some r) : Ctr l0 yX10_manyOfFate cX10_manyOfFate 4 (some .int) false 2 80 0 0 [vA (some a0), vI x1] SX σ SX σ (some (vI r)) := ctr_of (by decide) (Nat.le_of_ble_eq_true rfl) (fun M O F R0 N hn => t_X10_manyOfFate O R0 N hn a0 x1 σ r h F)
def P_X10_live_14 (M : Mx) (a0 : Nat) (r2 : Option Nat) (x3 : Int32) (s : (Int32 × Dt)) : Prop := G M 0 0 14 [(0, vA (some a0)), (2, vA r2), (3, vI x3), (4, vI s.1)] [] SX s.2
def E_X10_live_14 (M : Mx) (a0 : Nat) (r2 : Option Nat) (x3 : Int32) : ((Int32 × Dt) ⊕ Dt) → Prop := (el (fun w => G M 0 0 71 [(4, vI w.1)] [] SX w.2) (fun w => G M 0 0 102 [(2, vA r2), (3, vI x3)] [] SX w))
def f_X10_live_96 (a0 : Nat) (r2 : Option Nat) (x3 : Int32) (x4 : Int32) (σ : Dt) : Option ((Int32 × Dt) ⊕ ((Int32 × Dt) ⊕ Dt)) := some (.inl ((x4 + (1 : Int32)), σ))
theorem t_X10_live_96 {M : Mx} {l0 : Launch} (O : Ok M cX10_live yX10_live) (R0 : Rm M l0 6 173 0 0) (N : Ma M = false) (hn : Mn M = 5)  (a0 : Nat) (r2 : Option Nat) (x3 : Int32) (x4 : Int32) (σ : Dt) (o : ((Int32 × Dt) ⊕ ((Int32 × Dt) ⊕ Dt))) (h : f_X10_live_96 a0 r2 x3 x4 σ = some o) (K : kon (P_X10_live_14 M a0 r2 x3) (E_X10_live_14 M a0 r2 x3) o) : G M 0 0 96 [(0, vA (some a0)), (2, vA r2), (3, vI x3), (4, vI x4)] [] SX σ := by
  unfold f_X10_live_96 at h
  refine g_iinc (v := (x4 + (1 : Int32))) (lv' := [(4, vI (x4 + (1 : Int32))), (0, vA (some a0)), (2, vA r2), (3, vI x3)]) O dX10_live_96 5 hn (by decide) 3 rfl rfl rfl ?_
  refine g_goto O dX10_live_99 rfl ?_
  refine g_sub [1, 2, 3, 0] (lv' := [(0, vA (some a0)), (2, vA r2), (3, vI x3), (4, vI (x4 + (1 : Int32)))]) rfl ?_
  cases h
  exact K
def f_X10_live_L14 (a0 : Nat) (r2 : Option Nat) (x3 : Int32) (x4 : Int32) (σ : Dt) : Option ((Int32 × Dt) ⊕ ((Int32 × Dt) ⊕ Dt)) := if x3 ≤ x4 then some (.inr (.inr σ)) else bo (xgi SX 4 0 r2 σ) fun v2 => if v2 ≤ x4 then some (.inr (.inr σ)) else if (40 : Int32) ≤ x4 then some (.inr (.inr σ)) else bo (xgr SX 4 1 r2 σ) fun v6 => bo (xai SX v6 x4 σ) fun v8 => bo (xgr SX 4 2 r2 σ) fun v10 => bo (xai SX v10 x4 σ) fun v12 => bo (xgr SX 4 3 r2 σ) fun v14 => bo (xai SX v14 x4 σ) fun v16 => bo (xgr SX 4 4 r2 σ) fun v18 => bo (xai SX v18 x4 σ) fun v20 => bo (xrc SX 10 (some a0)) fun a22 => bd (f_X10_tryDeed a22 v8 v12 v16 v20 σ) fun v24 σ25 => if v24 = 0 then some (.inr (.inl (x4, σ25))) else bo (xgi SX 10 7 (some a0) σ25) fun v28 => if v28 = (-1 : Int32) then bo (xrc SX 10 (some a0)) fun a31 => bo (f_X10_manyOfFate a31 (1 : Int32) σ25) fun v33 => if v33 ≤ 0 then f_X10_live_96 a0 r2 x3 x4 σ25 else bo (xpi SX 10 7 (some a0) x4 σ25) fun σ36 => f_X10_live_96 a0 r2 x3 x4 σ36 else f_X10_live_96 a0 r2 x3 x4 σ25
theorem t_X10_live_L14 {M : Mx} {l0 : Launch} (O : Ok M cX10_live yX10_live) (R0 : Rm M l0 6 173 0 0) (N : Ma M = false) (hn : Mn M = 5) (a0 : Nat) (r2 : Option Nat) (x3 : Int32) (x4 : Int32) (σ : Dt) (o : ((Int32 × Dt) ⊕ ((Int32 × Dt) ⊕ Dt))) (h : f_X10_live_L14 a0 r2 x3 x4 σ = some o) (K : kon (P_X10_live_14 M a0 r2 x3) (E_X10_live_14 M a0 r2 x3) o) : G M 0 0 14 [(0, vA (some a0)), (2, vA r2), (3, vI x3), (4, vI x4)] [] SX σ := by
  unfold f_X10_live_L14 at h
  refine g_iload O dX10_live_14 3 rfl ?_
  refine g_iload_n O dX10_live_16 rfl 2 rfl ?_
  refine g_icmp_ge O dX10_live_17 rfl (fun c1 => ?_) (fun c1 => ?_)
  · replace h := (if_pos c1).symm.trans h
    refine g_sub [1, 2] (lv' := [(2, vA r2), (3, vI x3)]) rfl ?_
    cases h
    exact K
  · replace h := (if_neg c1).symm.trans h
    refine g_iload O dX10_live_20 3 rfl ?_
    refine g_aload_n O dX10_live_22 rfl 1 rfl ?_
    obtain ⟨v2, e3, h⟩ := bo_some h
    refine g_getI O dX10_live_23 fl_X10_99 rfl e3 ?_
    refine g_icmp_ge O dX10_live_26 rfl (fun c4 => ?_) (fun c4 => ?_)
    · replace h := (if_pos c4).symm.trans h
      refine g_sub [1, 2] (lv' := [(2, vA r2), (3, vI x3)]) rfl ?_
      cases h
      exact K
    · replace h := (if_neg c4).symm.trans h
      refine g_iload O dX10_live_29 3 rfl ?_
      refine g_bipush (v := (40 : Int32)) O dX10_live_31 rfl ?_
      refine g_icmp_ge O dX10_live_33 rfl (fun c5 => ?_) (fun c5 => ?_)
      · replace h := (if_pos c5).symm.trans h
        refine g_sub [1, 2] (lv' := [(2, vA r2), (3, vI x3)]) rfl ?_
        cases h
        exact K
      · replace h := (if_neg c5).symm.trans h
        refine g_aload_n O dX10_live_36 rfl 0 rfl ?_
        refine g_aload_n O dX10_live_37 rfl 1 rfl ?_
        obtain ⟨v6, e7, h⟩ := bo_some h
        refine g_getR O dX10_live_38 fl_X10_104 rfl e7 ?_
        refine g_iload O dX10_live_41 3 rfl ?_
        obtain ⟨v8, e9, h⟩ := bo_some h
        refine g_iaload O dX10_live_43 e9 ?_
        refine g_aload_n O dX10_live_44 rfl 1 rfl ?_
        obtain ⟨v10, e11, h⟩ := bo_some h
        refine g_getR O dX10_live_45 fl_X10_107 rfl e11 ?_
        refine g_iload O dX10_live_48 3 rfl ?_
        obtain ⟨v12, e13, h⟩ := bo_some h
        refine g_iaload O dX10_live_50 e13 ?_
        refine g_aload_n O dX10_live_51 rfl 1 rfl ?_
        obtain ⟨v14, e15, h⟩ := bo_some h
        refine g_getR O dX10_live_52 fl_X10_110 rfl e15 ?_
        refine g_iload O dX10_live_55 3 rfl ?_
        obtain ⟨v16, e17, h⟩ := bo_some h
        refine g_iaload O dX10_live_57 e17 ?_
        refine g_aload_n O dX10_live_58 rfl 1 rfl ?_
        obtain ⟨v18, e19, h⟩ := bo_some h
        refine g_getR O dX10_live_59 fl_X10_113 rfl e19 ?_
        refine g_iload O dX10_live_62 3 rfl ?_
        obtain ⟨v20, e21, h⟩ := bo_some h
        refine g_iaload O dX10_live_64 e21 ?_
        obtain ⟨a22, e23, h⟩ := bo_some h
        obtain ⟨v24, σ25, e26, h⟩ := bd_some h
        refine g_cV1 O R0 N dX10_live_65 vl_X10_116 vv_X10_tryDeed e23 [vI v8, vI v12, vI v16, vI v20] rfl rfl rfl ⟨Nat.le_of_ble_eq_true rfl, Nat.le_of_ble_eq_true rfl⟩ (c_X10_tryDeed l0 a22 v8 v12 v16 v20 σ v24 σ25 e26) ?_
        refine g_if_ne O dX10_live_68 rfl (fun c27 => ?_) (fun c27 => ?_)
        · replace h := (if_pos c27).symm.trans h
          refine g_sub [3] (lv' := [(4, vI x4)]) rfl ?_
          cases h
          exact K
        · replace h := (if_neg c27).symm.trans h
          refine g_aload_n O dX10_live_74 rfl 0 rfl ?_
          obtain ⟨v28, e29, h⟩ := bo_some h
          refine g_getI O dX10_live_75 fl_X10_81 rfl e29 ?_
          refine g_iconst (v := (-1 : Int32)) O dX10_live_78 rfl ?_
          refine g_icmp_ne O dX10_live_79 rfl (fun c30 => ?_) (fun c30 => ?_)
          · replace h := (if_pos c30).symm.trans h
            refine g_aload_n O dX10_live_82 rfl 0 rfl ?_
            refine g_iconst (v := (1 : Int32)) O dX10_live_83 rfl ?_
            obtain ⟨a31, e32, h⟩ := bo_some h
            obtain ⟨v33, e34, h⟩ := bo_some h
            refine g_cV1 O R0 N dX10_live_84 vl_X10_120 vv_X10_manyOfFate e32 [vI (1 : Int32)] rfl rfl rfl ⟨Nat.le_of_ble_eq_true rfl, Nat.le_of_ble_eq_true rfl⟩ (c_X10_manyOfFate l0 a31 (1 : Int32) σ25 v33 e34) ?_
            refine g_if_le O dX10_live_87 rfl (fun c35 => ?_) (fun c35 => ?_)
            · replace h := (if_pos c35).symm.trans h
              exact t_X10_live_96 O R0 N hn a0 r2 x3 x4 σ25 o h K
            · replace h := (if_neg c35).symm.trans h
              refine g_aload_n O dX10_live_90 rfl 0 rfl ?_
              refine g_iload O dX10_live_91 3 rfl ?_
              obtain ⟨σ36, e37, h⟩ := bo_some h
              refine g_putI O dX10_live_93 fl_X10_81 (Or.inl rfl) rfl e37 ?_
              exact t_X10_live_96 O R0 N hn a0 r2 x3 x4 σ36 o h K
          · replace h := (if_neg c30).symm.trans h
            exact t_X10_live_96 O R0 N hn a0 r2 x3 x4 σ25 o h K
def f_X10_live_102 (r2 : Option Nat) (x3 : Int32) (σ : Dt) : Option (Int32 × Dt) := bo (xgi SX 4 0 r2 σ) fun v1 => some ((mmax (0 : Int32) (mmin x3 v1)), σ)
theorem t_X10_live_102 {M : Mx} {l0 : Launch} (O : Ok M cX10_live yX10_live) (R0 : Rm M l0 6 173 0 0) (N : Ma M = false) (hn : Mn M = 5)  (r2 : Option Nat) (x3 : Int32) (σ : Dt) (o : (Int32 × Dt)) (h : f_X10_live_102 r2 x3 σ = some o) (K : Fin' M (some .int) 0 0 SX o.2 (some (vI o.1))) : G M 0 0 102 [(2, vA r2), (3, vI x3)] [] SX σ := by
  unfold f_X10_live_102 at h
  refine g_iconst (v := (0 : Int32)) O dX10_live_102 rfl ?_
  refine g_iload_n O dX10_live_103 rfl 1 rfl ?_
  refine g_aload_n O dX10_live_104 rfl 0 rfl ?_
  obtain ⟨v1, e2, h⟩ := bo_some h
  refine g_getI O dX10_live_105 fl_X10_99 rfl e2 ?_
  refine g_mmin O R0 dX10_live_108 w919 ⟨Nat.le_of_ble_eq_true rfl, Nat.le_of_ble_eq_true rfl⟩ ?_
  refine g_mmax O R0 dX10_live_111 w920 ⟨Nat.le_of_ble_eq_true rfl, Nat.le_of_ble_eq_true rfl⟩ ?_
  cases h
  exact g_ireturn O K dX10_live_114
def f_X10_live (a0 : Nat) (r1 : Option Nat) (r2 : Option Nat) (x3 : Int32) (σ : Dt) : Option (Int32 × Dt) := bo (xrc SX 10 (some a0)) fun a1 => bd (f_X10_begin a1 r1 σ) fun v3 σ4 => if r2 = none then some ((0 : Int32), σ4) else bo (iter FU (fun s => f_X10_live_L14 a0 r2 x3 s.1 s.2) ((0 : Int32), σ4)) fun w7 => el (fun w9 => some (w9.1, w9.2)) (fun w9 => f_X10_live_102 r2 x3 w9) w7
theorem t_X10_live {M : Mx} {l0 : Launch} (O : Ok M cX10_live yX10_live) (R0 : Rm M l0 6 173 0 0) (N : Ma M = false) (hn : Mn M = 5) (a0 : Nat) (r1 : Option Nat) (r2 : Option Nat) (x3 : Int32) (σ : Dt) (o : (Int32 × Dt)) (h : f_X10_live a0 r1 r2 x3 σ = some o) (K : Fin' M (some .int) 0 0 SX o.2 (some (vI o.1))) : G M 0 0 0 [(0, vA (some a0)), (1, vA r1), (2, vA r2), (3, vI x3)] [] SX σ := by
  unfold f_X10_live at h
  refine g_aload_n O dX10_live_0 rfl 0 rfl ?_
  refine g_aload_n O dX10_live_1 rfl 1 rfl ?_
  obtain ⟨a1, e2, h⟩ := bo_some h
  obtain ⟨v3, σ4, e5, h⟩ := bd_some h
  refine g_cV0 O R0 N dX10_live_2 vl_X10_95 vv_X10_begin e2 [vA r1] rfl rfl rfl ⟨Nat.le_of_ble_eq_true rfl, Nat.le_of_ble_eq_true rfl⟩ (c_X10_begin l0 a1 r1 σ v3 σ4 e5) ?_
  refine g_aload_n O dX10_live_5 rfl 2 rfl ?_
  refine g_ifnonnull O dX10_live_6 rfl (fun c6 => ?_) (fun c6 => ?_)
  · replace h := (if_neg c6).symm.trans h
    refine g_iconst (v := (0 : Int32)) O dX10_live_11 rfl ?_
    refine g_istore (lv' := [(4, vI (0 : Int32)), (0, vA (some a0)), (1, vA r1), (2, vA r2), (3, vI x3)]) O dX10_live_12 5 hn (by decide) rfl ?_
    refine g_sub [1, 3, 4, 0] (lv' := [(0, vA (some a0)), (2, vA r2), (3, vI x3), (4, vI (0 : Int32))]) rfl ?_
    obtain ⟨w7, e8, h⟩ := bo_some h
    refine iter_G (P := P_X10_live_14 M a0 r2 x3) (E := E_X10_live_14 M a0 r2 x3) (fun s o hb hk => t_X10_live_L14 O R0 N hn a0 r2 x3 s.1 s.2 o hb hk) FU ((0 : Int32), σ4) w7 e8 ?_
    rcases w7 with w9 | w9
    · replace h := el_l h
      show G M 0 0 71 [(4, vI w9.1)] [] SX w9.2
      refine g_iload O dX10_live_71 0 rfl ?_
      cases h
      exact g_ireturn O K dX10_live_73
    · replace h := el_r h
      show G M 0 0 102 [(2, vA r2), (3, vI x3)] [] SX w9
      exact t_X10_live_102 O R0 N hn r2 x3 w9 o h K
  · replace h := (if_pos c6).symm.trans h
    refine g_iconst (v := (0 : Int32)) O dX10_live_9 rfl ?_
    cases h
    exact g_ireturn O K dX10_live_10
theorem c_X10_live (l0 : Launch) (a0 : Nat) (r1 : Option Nat) (r2 : Option Nat) (x3 : Int32) (σ : Dt) (r : Int32) (σ' : Dt) (h : f_X10_live a0 r1 r2 x3 σ = some (r, σ')) : Ctr l0 yX10_live cX10_live 5 (some .int) false 6 173 0 0 [vA (some a0), vA r1, vA r2, vI x3] SX σ SX σ' (some (vI r)) := ctr_of (by decide) (Nat.le_of_ble_eq_true rfl) (fun M O F R0 N hn => t_X10_live O R0 N hn a0 r1 r2 x3 σ (r, σ') h F)
def f_X11_stop (a0 : Nat) (x1 : Int32) (x2 : Int32) (σ : Dt) : Option (Int32 × Dt) := bo (xgr SX 11 0 (some a0) σ) fun v1 => bo (xrc SX 8 v1) fun a3 => bo (f_X8_valleyAt a3 x1 σ) fun v5 => bo (xgr SX 11 0 (some a0) σ) fun v7 => bo (xrc SX 8 v7) fun a9 => bo (f_X8_lifeAt a9 x2 σ) fun v11 => if v5 = none then some ((-1 : Int32), σ) else if v11 = none then some ((-1 : Int32), σ) else bo (xgr SX 11 4 (some a0) σ) fun v15 => bo (xgi SX 4 0 v11 σ) fun v17 => bo (xrc SX 10 v15) fun a19 => bd (f_X10_live a19 v5 v11 v17 σ) fun v21 σ22 => some (v21, σ22)
theorem t_X11_stop {M : Mx} {l0 : Launch} (O : Ok M cX11_stop yX11_stop) (R0 : Rm M l0 7 197 0 0) (N : Ma M = false) (hn : Mn M = 5) (a0 : Nat) (x1 : Int32) (x2 : Int32) (σ : Dt) (o : (Int32 × Dt)) (h : f_X11_stop a0 x1 x2 σ = some o) (K : Fin' M (some .int) 0 0 SX o.2 (some (vI o.1))) : G M 0 0 0 [(0, vA (some a0)), (1, vI x1), (2, vI x2)] [] SX σ := by
  unfold f_X11_stop at h
  refine g_aload_n O dX11_stop_0 rfl 0 rfl ?_
  obtain ⟨v1, e2, h⟩ := bo_some h
  refine g_getR O dX11_stop_1 fl_X11_12 rfl e2 ?_
  refine g_iload_n O dX11_stop_4 rfl 1 rfl ?_
  obtain ⟨a3, e4, h⟩ := bo_some h
  obtain ⟨v5, e6, h⟩ := bo_some h
  refine g_cV1 O R0 N dX11_stop_5 vl_X11_105 vv_X8_valleyAt e4 [vI x1] rfl rfl rfl ⟨Nat.le_of_ble_eq_true rfl, Nat.le_of_ble_eq_true rfl⟩ (c_X8_valleyAt l0 a3 x1 σ v5 e6) ?_
  refine g_astore_n (lv' := [(3, vA v5), (0, vA (some a0)), (1, vI x1), (2, vI x2)]) O dX11_stop_8 rfl 5 hn (by decide) rfl ?_
  refine g_aload_n O dX11_stop_9 rfl 1 rfl ?_
  obtain ⟨v7, e8, h⟩ := bo_some h
  refine g_getR O dX11_stop_10 fl_X11_12 rfl e8 ?_
  refine g_iload_n O dX11_stop_13 rfl 3 rfl ?_
  obtain ⟨a9, e10, h⟩ := bo_some h
  obtain ⟨v11, e12, h⟩ := bo_some h
  refine g_cV1 O R0 N dX11_stop_14 vl_X11_114 vv_X8_lifeAt e10 [vI x2] rfl rfl rfl ⟨Nat.le_of_ble_eq_true rfl, Nat.le_of_ble_eq_true rfl⟩ (c_X8_lifeAt l0 a9 x2 σ v11 e12) ?_
  refine g_astore (lv' := [(4, vA v11), (3, vA v5), (0, vA (some a0)), (1, vI x1), (2, vI x2)]) O dX11_stop_17 5 hn (by decide) rfl ?_
  refine g_aload_n O dX11_stop_19 rfl 1 rfl ?_
  refine g_ifnull O dX11_stop_20 rfl (fun c13 => ?_) (fun c13 => ?_)
  · replace h := (if_pos c13).symm.trans h
    refine g_iconst (v := (-1 : Int32)) O dX11_stop_28 rfl ?_
    cases h
    exact g_ireturn O K dX11_stop_29
  · replace h := (if_neg c13).symm.trans h
    refine g_aload O dX11_stop_23 0 rfl ?_
    refine g_ifnonnull O dX11_stop_25 rfl (fun c14 => ?_) (fun c14 => ?_)
    · replace h := (if_neg c14).symm.trans h
      refine g_aload_n O dX11_stop_30 rfl 2 rfl ?_
      obtain ⟨v15, e16, h⟩ := bo_some h
      refine g_getR O dX11_stop_31 fl_X11_34 rfl e16 ?_
      refine g_aload_n O dX11_stop_34 rfl 1 rfl ?_
      refine g_aload O dX11_stop_35 0 rfl ?_
      refine g_aload O dX11_stop_37 0 rfl ?_
      obtain ⟨v17, e18, h⟩ := bo_some h
      refine g_getI O dX11_stop_39 fl_X11_123 rfl e18 ?_
      obtain ⟨a19, e20, h⟩ := bo_some h
      obtain ⟨v21, σ22, e23, h⟩ := bd_some h
      refine g_cV1 O R0 N dX11_stop_42 vl_X11_126 vv_X10_live e20 [vA v5, vA v11, vI v17] rfl rfl rfl ⟨Nat.le_of_ble_eq_true rfl, Nat.le_of_ble_eq_true rfl⟩ (c_X10_live l0 a19 v5 v11 v17 σ v21 σ22 e23) ?_
      cases h
      exact g_ireturn O K dX11_stop_45
    · replace h := (if_pos c14).symm.trans h
      refine g_iconst (v := (-1 : Int32)) O dX11_stop_28 rfl ?_
      cases h
      exact g_ireturn O K dX11_stop_29
theorem c_X11_stop (l0 : Launch) (a0 : Nat) (x1 : Int32) (x2 : Int32) (σ : Dt) (r : Int32) (σ' : Dt) (h : f_X11_stop a0 x1 x2 σ = some (r, σ')) : Ctr l0 yX11_stop cX11_stop 5 (some .int) false 7 197 0 0 [vA (some a0), vI x1, vI x2] SX σ SX σ' (some (vI r)) := ctr_of (by decide) (Nat.le_of_ble_eq_true rfl) (fun M O F R0 N hn => t_X11_stop O R0 N hn a0 x1 x2 σ (r, σ') h F)
def P_X10_doneWorks_4 (M : Mx) (a0 : Nat) (σ : Dt) (s : (Int32 × Int32)) : Prop := G M 0 0 4 [(0, vA (some a0)), (1, vI s.1), (2, vI s.2)] [] SX σ
def E_X10_doneWorks_4 (M : Mx) (a0 : Nat) (σ : Dt) : Int32 → Prop := (fun w => G M 0 0 38 [(1, vI w)] [] SX σ)
def f_X10_doneWorks_32 (a0 : Nat) (x1 : Int32) (x2 : Int32) (σ : Dt) : Option ((Int32 × Int32) ⊕ Int32) := some (.inl (x1, (x2 + (1 : Int32))))
theorem t_X10_doneWorks_32 {M : Mx} {l0 : Launch} (O : Ok M cX10_doneWorks yX10_doneWorks) (R0 : Rm M l0 4 122 0 0) (N : Ma M = false) (hn : Mn M = 3)  (a0 : Nat) (x1 : Int32) (x2 : Int32) (σ : Dt) (o : ((Int32 × Int32) ⊕ Int32)) (h : f_X10_doneWorks_32 a0 x1 x2 σ = some o) (K : kon (P_X10_doneWorks_4 M a0 σ) (E_X10_doneWorks_4 M a0 σ) o) : G M 0 0 32 [(0, vA (some a0)), (1, vI x1), (2, vI x2)] [] SX σ := by
  unfold f_X10_doneWorks_32 at h
  refine g_iinc (v := (x2 + (1 : Int32))) (lv' := [(2, vI (x2 + (1 : Int32))), (0, vA (some a0)), (1, vI x1)]) O dX10_doneWorks_32 3 hn (by decide) 2 rfl rfl rfl ?_
  refine g_goto O dX10_doneWorks_35 rfl ?_
  refine g_sub [1, 2, 0] (lv' := [(0, vA (some a0)), (1, vI x1), (2, vI (x2 + (1 : Int32)))]) rfl ?_
  cases h
  exact K
def f_X10_doneWorks_L4 (a0 : Nat) (x1 : Int32) (x2 : Int32) (σ : Dt) : Option ((Int32 × Int32) ⊕ Int32) := bo (xgi SX 10 2 (some a0) σ) fun v1 => if v1 ≤ x2 then some (.inr x1) else if (6 : Int32) ≤ x2 then some (.inr x1) else bo (xrc SX 10 (some a0)) fun a5 => bo (f_X10_isDone a5 x2 σ) fun v7 => if v7 = 0 then f_X10_doneWorks_32 a0 x1 x2 σ else f_X10_doneWorks_32 a0 (x1 ||| ((1 : Int32) <<< (x2 &&& 31))) x2 σ
theorem t_X10_doneWorks_L4 {M : Mx} {l0 : Launch} (O : Ok M cX10_doneWorks yX10_doneWorks) (R0 : Rm M l0 4 122 0 0) (N : Ma M = false) (hn : Mn M = 3) (a0 : Nat) (x1 : Int32) (x2 : Int32) (σ : Dt) (o : ((Int32 × Int32) ⊕ Int32)) (h : f_X10_doneWorks_L4 a0 x1 x2 σ = some o) (K : kon (P_X10_doneWorks_4 M a0 σ) (E_X10_doneWorks_4 M a0 σ) o) : G M 0 0 4 [(0, vA (some a0)), (1, vI x1), (2, vI x2)] [] SX σ := by
  unfold f_X10_doneWorks_L4 at h
  refine g_iload_n O dX10_doneWorks_4 rfl 2 rfl ?_
  refine g_aload_n O dX10_doneWorks_5 rfl 0 rfl ?_
  obtain ⟨v1, e2, h⟩ := bo_some h
  refine g_getI O dX10_doneWorks_6 fl_X10_67 rfl e2 ?_
  refine g_icmp_ge O dX10_doneWorks_9 rfl (fun c3 => ?_) (fun c3 => ?_)
  · replace h := (if_pos c3).symm.trans h
    refine g_sub [1] (lv' := [(1, vI x1)]) rfl ?_
    cases h
    exact K
  · replace h := (if_neg c3).symm.trans h
    refine g_iload_n O dX10_doneWorks_12 rfl 2 rfl ?_
    refine g_bipush (v := (6 : Int32)) O dX10_doneWorks_13 rfl ?_
    refine g_icmp_ge O dX10_doneWorks_15 rfl (fun c4 => ?_) (fun c4 => ?_)
    · replace h := (if_pos c4).symm.trans h
      refine g_sub [1] (lv' := [(1, vI x1)]) rfl ?_
      cases h
      exact K
    · replace h := (if_neg c4).symm.trans h
      refine g_aload_n O dX10_doneWorks_18 rfl 0 rfl ?_
      refine g_iload_n O dX10_doneWorks_19 rfl 2 rfl ?_
      obtain ⟨a5, e6, h⟩ := bo_some h
      obtain ⟨v7, e8, h⟩ := bo_some h
      refine g_cV1 O R0 N dX10_doneWorks_20 vl_X10_162 vv_X10_isDone e6 [vI x2] rfl rfl rfl ⟨Nat.le_of_ble_eq_true rfl, Nat.le_of_ble_eq_true rfl⟩ (c_X10_isDone l0 a5 x2 σ v7 e8) ?_
      refine g_if_eq O dX10_doneWorks_23 rfl (fun c9 => ?_) (fun c9 => ?_)
      · replace h := (if_pos c9).symm.trans h
        exact t_X10_doneWorks_32 O R0 N hn a0 x1 x2 σ o h K
      · replace h := (if_neg c9).symm.trans h
        refine g_iload_n O dX10_doneWorks_26 rfl 1 rfl ?_
        refine g_iconst (v := (1 : Int32)) O dX10_doneWorks_27 rfl ?_
        refine g_iload_n O dX10_doneWorks_28 rfl 2 rfl ?_
        refine g_ishl O dX10_doneWorks_29 ?_
        refine g_ior O dX10_doneWorks_30 ?_
        refine g_istore_n (lv' := [(1, vI (x1 ||| ((1 : Int32) <<< (x2 &&& 31)))), (0, vA (some a0)), (2, vI x2)]) O dX10_doneWorks_31 rfl 3 hn (by decide) rfl ?_
        refine g_sub [1, 0, 2] (lv' := [(0, vA (some a0)), (1, vI (x1 ||| ((1 : Int32) <<< (x2 &&& 31)))), (2, vI x2)]) rfl ?_
        exact t_X10_doneWorks_32 O R0 N hn a0 (x1 ||| ((1 : Int32) <<< (x2 &&& 31))) x2 σ o h K
def f_X10_doneWorks (a0 : Nat) (σ : Dt) : Option Int32 := bo (iter FU (fun s => f_X10_doneWorks_L4 a0 s.1 s.2 σ) ((0 : Int32), (0 : Int32))) fun w1 => some w1
theorem t_X10_doneWorks {M : Mx} {l0 : Launch} (O : Ok M cX10_doneWorks yX10_doneWorks) (R0 : Rm M l0 4 122 0 0) (N : Ma M = false) (hn : Mn M = 3) (a0 : Nat) (σ : Dt) (o : Int32) (h : f_X10_doneWorks a0 σ = some o) (K : Fin' M (some .int) 0 0 SX σ (some (vI o))) : G M 0 0 0 [(0, vA (some a0))] [] SX σ := by
  unfold f_X10_doneWorks at h
  refine g_iconst (v := (0 : Int32)) O dX10_doneWorks_0 rfl ?_
  refine g_istore_n (lv' := [(1, vI (0 : Int32)), (0, vA (some a0))]) O dX10_doneWorks_1 rfl 3 hn (by decide) rfl ?_
  refine g_iconst (v := (0 : Int32)) O dX10_doneWorks_2 rfl ?_
  refine g_istore_n (lv' := [(2, vI (0 : Int32)), (1, vI (0 : Int32)), (0, vA (some a0))]) O dX10_doneWorks_3 rfl 3 hn (by decide) rfl ?_
  refine g_sub [2, 1, 0] (lv' := [(0, vA (some a0)), (1, vI (0 : Int32)), (2, vI (0 : Int32))]) rfl ?_
  obtain ⟨w1, e2, h⟩ := bo_some h
  refine iter_G (P := P_X10_doneWorks_4 M a0 σ) (E := E_X10_doneWorks_4 M a0 σ) (fun s o hb hk => t_X10_doneWorks_L4 O R0 N hn a0 s.1 s.2 σ o hb hk) FU ((0 : Int32), (0 : Int32)) w1 e2 ?_
  show G M 0 0 38 [(1, vI w1)] [] SX σ
  refine g_iload_n O dX10_doneWorks_38 rfl 0 rfl ?_
  cases h
  exact g_ireturn O K dX10_doneWorks_39
theorem c_X10_doneWorks (l0 : Launch) (a0 : Nat) (σ : Dt) (r : Int32) (h : f_X10_doneWorks a0 σ = some r) : Ctr l0 yX10_doneWorks cX10_doneWorks 3 (some .int) false 4 122 0 0 [vA (some a0)] SX σ SX σ (some (vI r)) := ctr_of (by decide) (Nat.le_of_ble_eq_true rfl) (fun M O F R0 N hn => t_X10_doneWorks O R0 N hn a0 σ r h F)
def P_X10_owedBy_4 (M : Mx) (a0 : Nat) (x1 : Int32) (σ : Dt) (s : (Int32 × Int32)) : Prop := G M 0 0 4 [(0, vA (some a0)), (1, vI x1), (2, vI s.1), (3, vI s.2)] [] SX σ
def E_X10_owedBy_4 (M : Mx) (a0 : Nat) (x1 : Int32) (σ : Dt) : Int32 → Prop := (fun w => G M 0 0 47 [(2, vI w)] [] SX σ)
def f_X10_owedBy_41 (a0 : Nat) (x1 : Int32) (x2 : Int32) (x3 : Int32) (σ : Dt) : Option ((Int32 × Int32) ⊕ Int32) := some (.inl (x2, (x3 + (1 : Int32))))
theorem t_X10_owedBy_41 {M : Mx} {l0 : Launch} (O : Ok M cX10_owedBy yX10_owedBy) (R0 : Rm M l0 4 122 0 0) (N : Ma M = false) (hn : Mn M = 4)  (a0 : Nat) (x1 : Int32) (x2 : Int32) (x3 : Int32) (σ : Dt) (o : ((Int32 × Int32) ⊕ Int32)) (h : f_X10_owedBy_41 a0 x1 x2 x3 σ = some o) (K : kon (P_X10_owedBy_4 M a0 x1 σ) (E_X10_owedBy_4 M a0 x1 σ) o) : G M 0 0 41 [(0, vA (some a0)), (1, vI x1), (2, vI x2), (3, vI x3)] [] SX σ := by
  unfold f_X10_owedBy_41 at h
  refine g_iinc (v := (x3 + (1 : Int32))) (lv' := [(3, vI (x3 + (1 : Int32))), (0, vA (some a0)), (1, vI x1), (2, vI x2)]) O dX10_owedBy_41 4 hn (by decide) 3 rfl rfl rfl ?_
  refine g_goto O dX10_owedBy_44 rfl ?_
  refine g_sub [1, 2, 3, 0] (lv' := [(0, vA (some a0)), (1, vI x1), (2, vI x2), (3, vI (x3 + (1 : Int32)))]) rfl ?_
  cases h
  exact K
def f_X10_owedBy_L4 (a0 : Nat) (x1 : Int32) (x2 : Int32) (x3 : Int32) (σ : Dt) : Option ((Int32 × Int32) ⊕ Int32) := bo (xgi SX 10 6 (some a0) σ) fun v1 => if v1 ≤ x3 then some (.inr x2) else if (12 : Int32) ≤ x3 then some (.inr x2) else bo (xrc SX 10 (some a0)) fun a5 => bo (f_X10_lives a5 x1 σ) fun v7 => if v7 = 0 then f_X10_owedBy_41 a0 x1 x2 x3 σ else bo (xrc SX 10 (some a0)) fun a10 => bo (f_X10_owes a10 x1 x3 σ) fun v12 => if v12 = 0 then f_X10_owedBy_41 a0 x1 x2 x3 σ else f_X10_owedBy_41 a0 x1 (x2 ||| ((1 : Int32) <<< (x3 &&& 31))) x3 σ
theorem t_X10_owedBy_L4 {M : Mx} {l0 : Launch} (O : Ok M cX10_owedBy yX10_owedBy) (R0 : Rm M l0 4 122 0 0) (N : Ma M = false) (hn : Mn M = 4) (a0 : Nat) (x1 : Int32) (x2 : Int32) (x3 : Int32) (σ : Dt) (o : ((Int32 × Int32) ⊕ Int32)) (h : f_X10_owedBy_L4 a0 x1 x2 x3 σ = some o) (K : kon (P_X10_owedBy_4 M a0 x1 σ) (E_X10_owedBy_4 M a0 x1 σ) o) : G M 0 0 4 [(0, vA (some a0)), (1, vI x1), (2, vI x2), (3, vI x3)] [] SX σ := by
  unfold f_X10_owedBy_L4 at h
  refine g_iload_n O dX10_owedBy_4 rfl 3 rfl ?_
  refine g_aload_n O dX10_owedBy_5 rfl 0 rfl ?_
  obtain ⟨v1, e2, h⟩ := bo_some h
  refine g_getI O dX10_owedBy_6 fl_X10_78 rfl e2 ?_
  refine g_icmp_ge O dX10_owedBy_9 rfl (fun c3 => ?_) (fun c3 => ?_)
  · replace h := (if_pos c3).symm.trans h
    refine g_sub [2] (lv' := [(2, vI x2)]) rfl ?_
    cases h
    exact K
  · replace h := (if_neg c3).symm.trans h
    refine g_iload_n O dX10_owedBy_12 rfl 3 rfl ?_
    refine g_bipush (v := (12 : Int32)) O dX10_owedBy_13 rfl ?_
    refine g_icmp_ge O dX10_owedBy_15 rfl (fun c4 => ?_) (fun c4 => ?_)
    · replace h := (if_pos c4).symm.trans h
      refine g_sub [2] (lv' := [(2, vI x2)]) rfl ?_
      cases h
      exact K
    · replace h := (if_neg c4).symm.trans h
      refine g_aload_n O dX10_owedBy_18 rfl 0 rfl ?_
      refine g_iload_n O dX10_owedBy_19 rfl 1 rfl ?_
      obtain ⟨a5, e6, h⟩ := bo_some h
      obtain ⟨v7, e8, h⟩ := bo_some h
      refine g_cV1 O R0 N dX10_owedBy_20 vl_X10_159 vv_X10_lives e6 [vI x1] rfl rfl rfl ⟨Nat.le_of_ble_eq_true rfl, Nat.le_of_ble_eq_true rfl⟩ (c_X10_lives l0 a5 x1 σ v7 e8) ?_
      refine g_if_eq O dX10_owedBy_23 rfl (fun c9 => ?_) (fun c9 => ?_)
      · replace h := (if_pos c9).symm.trans h
        exact t_X10_owedBy_41 O R0 N hn a0 x1 x2 x3 σ o h K
      · replace h := (if_neg c9).symm.trans h
        refine g_aload_n O dX10_owedBy_26 rfl 0 rfl ?_
        refine g_iload_n O dX10_owedBy_27 rfl 1 rfl ?_
        refine g_iload_n O dX10_owedBy_28 rfl 3 rfl ?_
        obtain ⟨a10, e11, h⟩ := bo_some h
        obtain ⟨v12, e13, h⟩ := bo_some h
        refine g_cV1 O R0 N dX10_owedBy_29 vl_X10_178 vv_X10_owes e11 [vI x1, vI x3] rfl rfl rfl ⟨Nat.le_of_ble_eq_true rfl, Nat.le_of_ble_eq_true rfl⟩ (c_X10_owes l0 a10 x1 x3 σ v12 e13) ?_
        refine g_if_eq O dX10_owedBy_32 rfl (fun c14 => ?_) (fun c14 => ?_)
        · replace h := (if_pos c14).symm.trans h
          exact t_X10_owedBy_41 O R0 N hn a0 x1 x2 x3 σ o h K
        · replace h := (if_neg c14).symm.trans h
          refine g_iload_n O dX10_owedBy_35 rfl 2 rfl ?_
          refine g_iconst (v := (1 : Int32)) O dX10_owedBy_36 rfl ?_
          refine g_iload_n O dX10_owedBy_37 rfl 3 rfl ?_
          refine g_ishl O dX10_owedBy_38 ?_
          refine g_ior O dX10_owedBy_39 ?_
          refine g_istore_n (lv' := [(2, vI (x2 ||| ((1 : Int32) <<< (x3 &&& 31)))), (0, vA (some a0)), (1, vI x1), (3, vI x3)]) O dX10_owedBy_40 rfl 4 hn (by decide) rfl ?_
          refine g_sub [1, 2, 0, 3] (lv' := [(0, vA (some a0)), (1, vI x1), (2, vI (x2 ||| ((1 : Int32) <<< (x3 &&& 31)))), (3, vI x3)]) rfl ?_
          exact t_X10_owedBy_41 O R0 N hn a0 x1 (x2 ||| ((1 : Int32) <<< (x3 &&& 31))) x3 σ o h K
def f_X10_owedBy (a0 : Nat) (x1 : Int32) (σ : Dt) : Option Int32 := bo (iter FU (fun s => f_X10_owedBy_L4 a0 x1 s.1 s.2 σ) ((0 : Int32), (0 : Int32))) fun w1 => some w1
theorem t_X10_owedBy {M : Mx} {l0 : Launch} (O : Ok M cX10_owedBy yX10_owedBy) (R0 : Rm M l0 4 122 0 0) (N : Ma M = false) (hn : Mn M = 4) (a0 : Nat) (x1 : Int32) (σ : Dt) (o : Int32) (h : f_X10_owedBy a0 x1 σ = some o) (K : Fin' M (some .int) 0 0 SX σ (some (vI o))) : G M 0 0 0 [(0, vA (some a0)), (1, vI x1)] [] SX σ := by
  unfold f_X10_owedBy at h
  refine g_iconst (v := (0 : Int32)) O dX10_owedBy_0 rfl ?_
  refine g_istore_n (lv' := [(2, vI (0 : Int32)), (0, vA (some a0)), (1, vI x1)]) O dX10_owedBy_1 rfl 4 hn (by decide) rfl ?_
  refine g_iconst (v := (0 : Int32)) O dX10_owedBy_2 rfl ?_
  refine g_istore_n (lv' := [(3, vI (0 : Int32)), (2, vI (0 : Int32)), (0, vA (some a0)), (1, vI x1)]) O dX10_owedBy_3 rfl 4 hn (by decide) rfl ?_
  refine g_sub [2, 3, 1, 0] (lv' := [(0, vA (some a0)), (1, vI x1), (2, vI (0 : Int32)), (3, vI (0 : Int32))]) rfl ?_
  obtain ⟨w1, e2, h⟩ := bo_some h
  refine iter_G (P := P_X10_owedBy_4 M a0 x1 σ) (E := E_X10_owedBy_4 M a0 x1 σ) (fun s o hb hk => t_X10_owedBy_L4 O R0 N hn a0 x1 s.1 s.2 σ o hb hk) FU ((0 : Int32), (0 : Int32)) w1 e2 ?_
  show G M 0 0 47 [(2, vI w1)] [] SX σ
  refine g_iload_n O dX10_owedBy_47 rfl 0 rfl ?_
  cases h
  exact g_ireturn O K dX10_owedBy_48
theorem c_X10_owedBy (l0 : Launch) (a0 : Nat) (x1 : Int32) (σ : Dt) (r : Int32) (h : f_X10_owedBy a0 x1 σ = some r) : Ctr l0 yX10_owedBy cX10_owedBy 4 (some .int) false 4 122 0 0 [vA (some a0), vI x1] SX σ SX σ (some (vI r)) := ctr_of (by decide) (Nat.le_of_ble_eq_true rfl) (fun M O F R0 N hn => t_X10_owedBy O R0 N hn a0 x1 σ r h F)
