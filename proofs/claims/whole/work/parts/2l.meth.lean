def P_X10_bestTalker_26 (M : Mx) (a0 : Nat) (x1 : Int32) (x2 : Int32) (x3 : Int32) (σ : Dt) (s : (Int32 × Int32)) : Prop := G M 0 0 26 [(0, vA (some a0)), (1, vI x1), (2, vI x2), (3, vI x3), (4, vI s.1), (5, vI s.2)] [] SX σ
def E_X10_bestTalker_26 (M : Mx) (a0 : Nat) (x1 : Int32) (x2 : Int32) (x3 : Int32) (σ : Dt) : Int32 → Prop := (fun w => G M 0 0 62 [(0, vA (some a0)), (1, vI x1), (2, vI x2), (3, vI x3), (4, vI w)] [] SX σ)
def f_X10_bestTalker_56 (a0 : Nat) (x1 : Int32) (x2 : Int32) (x3 : Int32) (x4 : Int32) (x5 : Int32) (σ : Dt) : Option ((Int32 × Int32) ⊕ Int32) := some (.inl (x4, (x5 + (1 : Int32))))
theorem t_X10_bestTalker_56 {M : Mx} {l0 : Launch} (O : Ok M cX10_bestTalker yX10_bestTalker) (R0 : Rm M l0 2 80 0 0) (N : Ma M = false) (hn : Mn M = 6)  (a0 : Nat) (x1 : Int32) (x2 : Int32) (x3 : Int32) (x4 : Int32) (x5 : Int32) (σ : Dt) (o : ((Int32 × Int32) ⊕ Int32)) (h : f_X10_bestTalker_56 a0 x1 x2 x3 x4 x5 σ = some o) (K : kon (P_X10_bestTalker_26 M a0 x1 x2 x3 σ) (E_X10_bestTalker_26 M a0 x1 x2 x3 σ) o) : G M 0 0 56 [(0, vA (some a0)), (1, vI x1), (2, vI x2), (3, vI x3), (4, vI x4), (5, vI x5)] [] SX σ := by
  unfold f_X10_bestTalker_56 at h
  refine g_iinc (v := (x5 + (1 : Int32))) (lv' := [(5, vI (x5 + (1 : Int32))), (0, vA (some a0)), (1, vI x1), (2, vI x2), (3, vI x3), (4, vI x4)]) O dX10_bestTalker_56 6 hn (by decide) 5 rfl rfl rfl ?_
  refine g_goto O dX10_bestTalker_59 rfl ?_
  refine g_sub [1, 2, 3, 4, 5, 0] (lv' := [(0, vA (some a0)), (1, vI x1), (2, vI x2), (3, vI x3), (4, vI x4), (5, vI (x5 + (1 : Int32)))]) rfl ?_
  cases h
  exact K
def f_X10_bestTalker_L26 (a0 : Nat) (x1 : Int32) (x2 : Int32) (x3 : Int32) (x4 : Int32) (x5 : Int32) (σ : Dt) : Option ((Int32 × Int32) ⊕ Int32) := bo (xgi SX 10 6 (some a0) σ) fun v1 => if v1 ≤ x5 then some (.inr x4) else if (12 : Int32) ≤ x5 then some (.inr x4) else bo (xgr SX 10 16 (some a0) σ) fun v5 => bo (xai SX v5 x5 σ) fun v7 => if v7 = x3 then f_X10_bestTalker_56 a0 x1 x2 x3 (x4 + (1 : Int32)) x5 σ else f_X10_bestTalker_56 a0 x1 x2 x3 x4 x5 σ
theorem t_X10_bestTalker_L26 {M : Mx} {l0 : Launch} (O : Ok M cX10_bestTalker yX10_bestTalker) (R0 : Rm M l0 2 80 0 0) (N : Ma M = false) (hn : Mn M = 6) (a0 : Nat) (x1 : Int32) (x2 : Int32) (x3 : Int32) (x4 : Int32) (x5 : Int32) (σ : Dt) (o : ((Int32 × Int32) ⊕ Int32)) (h : f_X10_bestTalker_L26 a0 x1 x2 x3 x4 x5 σ = some o) (K : kon (P_X10_bestTalker_26 M a0 x1 x2 x3 σ) (E_X10_bestTalker_26 M a0 x1 x2 x3 σ) o) : G M 0 0 26 [(0, vA (some a0)), (1, vI x1), (2, vI x2), (3, vI x3), (4, vI x4), (5, vI x5)] [] SX σ := by
  unfold f_X10_bestTalker_L26 at h
  refine g_iload O dX10_bestTalker_26 5 rfl ?_
  refine g_aload_n O dX10_bestTalker_28 rfl 0 rfl ?_
  obtain ⟨v1, e2, h⟩ := bo_some h
  refine g_getI O dX10_bestTalker_29 fl_X10_78 rfl e2 ?_
  refine g_icmp_ge O dX10_bestTalker_32 rfl (fun c3 => ?_) (fun c3 => ?_)
  · replace h := (if_pos c3).symm.trans h
    refine g_sub [0, 1, 2, 3, 4] (lv' := [(0, vA (some a0)), (1, vI x1), (2, vI x2), (3, vI x3), (4, vI x4)]) rfl ?_
    cases h
    exact K
  · replace h := (if_neg c3).symm.trans h
    refine g_iload O dX10_bestTalker_35 5 rfl ?_
    refine g_bipush (v := (12 : Int32)) O dX10_bestTalker_37 rfl ?_
    refine g_icmp_ge O dX10_bestTalker_39 rfl (fun c4 => ?_) (fun c4 => ?_)
    · replace h := (if_pos c4).symm.trans h
      refine g_sub [0, 1, 2, 3, 4] (lv' := [(0, vA (some a0)), (1, vI x1), (2, vI x2), (3, vI x3), (4, vI x4)]) rfl ?_
      cases h
      exact K
    · replace h := (if_neg c4).symm.trans h
      refine g_aload_n O dX10_bestTalker_42 rfl 0 rfl ?_
      obtain ⟨v5, e6, h⟩ := bo_some h
      refine g_getR O dX10_bestTalker_43 fl_X10_33 rfl e6 ?_
      refine g_iload O dX10_bestTalker_46 5 rfl ?_
      obtain ⟨v7, e8, h⟩ := bo_some h
      refine g_iaload O dX10_bestTalker_48 e8 ?_
      refine g_iload_n O dX10_bestTalker_49 rfl 3 rfl ?_
      refine g_icmp_ne O dX10_bestTalker_50 rfl (fun c9 => ?_) (fun c9 => ?_)
      · replace h := (if_pos c9).symm.trans h
        refine g_iinc (v := (x4 + (1 : Int32))) (lv' := [(4, vI (x4 + (1 : Int32))), (0, vA (some a0)), (1, vI x1), (2, vI x2), (3, vI x3), (5, vI x5)]) O dX10_bestTalker_53 6 hn (by decide) 4 rfl rfl rfl ?_
        refine g_sub [1, 2, 3, 4, 0, 5] (lv' := [(0, vA (some a0)), (1, vI x1), (2, vI x2), (3, vI x3), (4, vI (x4 + (1 : Int32))), (5, vI x5)]) rfl ?_
        exact t_X10_bestTalker_56 O R0 N hn a0 x1 x2 x3 (x4 + (1 : Int32)) x5 σ o h K
      · replace h := (if_neg c9).symm.trans h
        exact t_X10_bestTalker_56 O R0 N hn a0 x1 x2 x3 x4 x5 σ o h K
def P_X10_bestTalker_6 (M : Mx) (a0 : Nat) (σ : Dt) (s : (Int32 × Int32 × Int32)) : Prop := G M 0 0 6 [(0, vA (some a0)), (1, vI s.1), (2, vI s.2.1), (3, vI s.2.2)] [] SX σ
def E_X10_bestTalker_6 (M : Mx) (a0 : Nat) (σ : Dt) : Int32 → Prop := (fun w => G M 0 0 79 [(1, vI w)] [] SX σ)
def f_X10_bestTalker_73 (a0 : Nat) (x1 : Int32) (x2 : Int32) (x3 : Int32) (σ : Dt) : Option ((Int32 × Int32 × Int32) ⊕ Int32) := some (.inl (x1, x2, (x3 + (1 : Int32))))
theorem t_X10_bestTalker_73 {M : Mx} {l0 : Launch} (O : Ok M cX10_bestTalker yX10_bestTalker) (R0 : Rm M l0 2 80 0 0) (N : Ma M = false) (hn : Mn M = 6)  (a0 : Nat) (x1 : Int32) (x2 : Int32) (x3 : Int32) (σ : Dt) (o : ((Int32 × Int32 × Int32) ⊕ Int32)) (h : f_X10_bestTalker_73 a0 x1 x2 x3 σ = some o) (K : kon (P_X10_bestTalker_6 M a0 σ) (E_X10_bestTalker_6 M a0 σ) o) : G M 0 0 73 [(0, vA (some a0)), (1, vI x1), (2, vI x2), (3, vI x3)] [] SX σ := by
  unfold f_X10_bestTalker_73 at h
  refine g_iinc (v := (x3 + (1 : Int32))) (lv' := [(3, vI (x3 + (1 : Int32))), (0, vA (some a0)), (1, vI x1), (2, vI x2)]) O dX10_bestTalker_73 6 hn (by decide) 3 rfl rfl rfl ?_
  refine g_goto O dX10_bestTalker_76 rfl ?_
  refine g_sub [1, 2, 3, 0] (lv' := [(0, vA (some a0)), (1, vI x1), (2, vI x2), (3, vI (x3 + (1 : Int32)))]) rfl ?_
  cases h
  exact K
def f_X10_bestTalker_62 (a0 : Nat) (x1 : Int32) (x2 : Int32) (x3 : Int32) (x4 : Int32) (σ : Dt) : Option ((Int32 × Int32 × Int32) ⊕ Int32) := if x4 ≤ x2 then f_X10_bestTalker_73 a0 x1 x2 x3 σ else f_X10_bestTalker_73 a0 x3 x4 x3 σ
theorem t_X10_bestTalker_62 {M : Mx} {l0 : Launch} (O : Ok M cX10_bestTalker yX10_bestTalker) (R0 : Rm M l0 2 80 0 0) (N : Ma M = false) (hn : Mn M = 6)  (a0 : Nat) (x1 : Int32) (x2 : Int32) (x3 : Int32) (x4 : Int32) (σ : Dt) (o : ((Int32 × Int32 × Int32) ⊕ Int32)) (h : f_X10_bestTalker_62 a0 x1 x2 x3 x4 σ = some o) (K : kon (P_X10_bestTalker_6 M a0 σ) (E_X10_bestTalker_6 M a0 σ) o) : G M 0 0 62 [(0, vA (some a0)), (1, vI x1), (2, vI x2), (3, vI x3), (4, vI x4)] [] SX σ := by
  unfold f_X10_bestTalker_62 at h
  refine g_iload O dX10_bestTalker_62 4 rfl ?_
  refine g_iload_n O dX10_bestTalker_64 rfl 2 rfl ?_
  refine g_icmp_le O dX10_bestTalker_65 rfl (fun c1 => ?_) (fun c1 => ?_)
  · replace h := (if_pos c1).symm.trans h
    refine g_sub [0, 1, 2, 3] (lv' := [(0, vA (some a0)), (1, vI x1), (2, vI x2), (3, vI x3)]) rfl ?_
    exact t_X10_bestTalker_73 O R0 N hn a0 x1 x2 x3 σ o h K
  · replace h := (if_neg c1).symm.trans h
    refine g_iload O dX10_bestTalker_68 4 rfl ?_
    refine g_istore_n (lv' := [(2, vI x4), (0, vA (some a0)), (1, vI x1), (3, vI x3), (4, vI x4)]) O dX10_bestTalker_70 rfl 6 hn (by decide) rfl ?_
    refine g_iload_n O dX10_bestTalker_71 rfl 3 rfl ?_
    refine g_istore_n (lv' := [(1, vI x3), (2, vI x4), (0, vA (some a0)), (3, vI x3), (4, vI x4)]) O dX10_bestTalker_72 rfl 6 hn (by decide) rfl ?_
    refine g_sub [2, 0, 1, 3] (lv' := [(0, vA (some a0)), (1, vI x3), (2, vI x4), (3, vI x3)]) rfl ?_
    exact t_X10_bestTalker_73 O R0 N hn a0 x3 x4 x3 σ o h K
def f_X10_bestTalker_L6 (a0 : Nat) (x1 : Int32) (x2 : Int32) (x3 : Int32) (σ : Dt) : Option ((Int32 × Int32 × Int32) ⊕ Int32) := bo (xgi SX 10 1 (some a0) σ) fun v1 => if v1 ≤ x3 then some (.inr x1) else if (10 : Int32) ≤ x3 then some (.inr x1) else bo (iter FU (fun s => f_X10_bestTalker_L26 a0 x1 x2 x3 s.1 s.2 σ) ((0 : Int32), (0 : Int32))) fun w5 => f_X10_bestTalker_62 a0 x1 x2 x3 w5 σ
theorem t_X10_bestTalker_L6 {M : Mx} {l0 : Launch} (O : Ok M cX10_bestTalker yX10_bestTalker) (R0 : Rm M l0 2 80 0 0) (N : Ma M = false) (hn : Mn M = 6) (a0 : Nat) (x1 : Int32) (x2 : Int32) (x3 : Int32) (σ : Dt) (o : ((Int32 × Int32 × Int32) ⊕ Int32)) (h : f_X10_bestTalker_L6 a0 x1 x2 x3 σ = some o) (K : kon (P_X10_bestTalker_6 M a0 σ) (E_X10_bestTalker_6 M a0 σ) o) : G M 0 0 6 [(0, vA (some a0)), (1, vI x1), (2, vI x2), (3, vI x3)] [] SX σ := by
  unfold f_X10_bestTalker_L6 at h
  refine g_iload_n O dX10_bestTalker_6 rfl 3 rfl ?_
  refine g_aload_n O dX10_bestTalker_7 rfl 0 rfl ?_
  obtain ⟨v1, e2, h⟩ := bo_some h
  refine g_getI O dX10_bestTalker_8 fl_X10_63 rfl e2 ?_
  refine g_icmp_ge O dX10_bestTalker_11 rfl (fun c3 => ?_) (fun c3 => ?_)
  · replace h := (if_pos c3).symm.trans h
    refine g_sub [1] (lv' := [(1, vI x1)]) rfl ?_
    cases h
    exact K
  · replace h := (if_neg c3).symm.trans h
    refine g_iload_n O dX10_bestTalker_14 rfl 3 rfl ?_
    refine g_bipush (v := (10 : Int32)) O dX10_bestTalker_15 rfl ?_
    refine g_icmp_ge O dX10_bestTalker_17 rfl (fun c4 => ?_) (fun c4 => ?_)
    · replace h := (if_pos c4).symm.trans h
      refine g_sub [1] (lv' := [(1, vI x1)]) rfl ?_
      cases h
      exact K
    · replace h := (if_neg c4).symm.trans h
      refine g_iconst (v := (0 : Int32)) O dX10_bestTalker_20 rfl ?_
      refine g_istore (lv' := [(4, vI (0 : Int32)), (0, vA (some a0)), (1, vI x1), (2, vI x2), (3, vI x3)]) O dX10_bestTalker_21 6 hn (by decide) rfl ?_
      refine g_iconst (v := (0 : Int32)) O dX10_bestTalker_23 rfl ?_
      refine g_istore (lv' := [(5, vI (0 : Int32)), (4, vI (0 : Int32)), (0, vA (some a0)), (1, vI x1), (2, vI x2), (3, vI x3)]) O dX10_bestTalker_24 6 hn (by decide) rfl ?_
      refine g_sub [2, 3, 4, 5, 1, 0] (lv' := [(0, vA (some a0)), (1, vI x1), (2, vI x2), (3, vI x3), (4, vI (0 : Int32)), (5, vI (0 : Int32))]) rfl ?_
      obtain ⟨w5, e6, h⟩ := bo_some h
      refine iter_G (P := P_X10_bestTalker_26 M a0 x1 x2 x3 σ) (E := E_X10_bestTalker_26 M a0 x1 x2 x3 σ) (fun s o hb hk => t_X10_bestTalker_L26 O R0 N hn a0 x1 x2 x3 s.1 s.2 σ o hb hk) FU ((0 : Int32), (0 : Int32)) w5 e6 ?_
      show G M 0 0 62 [(0, vA (some a0)), (1, vI x1), (2, vI x2), (3, vI x3), (4, vI w5)] [] SX σ
      exact t_X10_bestTalker_62 O R0 N hn a0 x1 x2 x3 w5 σ o h K
def f_X10_bestTalker (a0 : Nat) (σ : Dt) : Option Int32 := bo (iter FU (fun s => f_X10_bestTalker_L6 a0 s.1 s.2.1 s.2.2 σ) ((-1 : Int32), (0 : Int32), (0 : Int32))) fun w1 => some w1
theorem t_X10_bestTalker {M : Mx} {l0 : Launch} (O : Ok M cX10_bestTalker yX10_bestTalker) (R0 : Rm M l0 2 80 0 0) (N : Ma M = false) (hn : Mn M = 6) (a0 : Nat) (σ : Dt) (o : Int32) (h : f_X10_bestTalker a0 σ = some o) (K : Fin' M (some .int) 0 0 SX σ (some (vI o))) : G M 0 0 0 [(0, vA (some a0))] [] SX σ := by
  unfold f_X10_bestTalker at h
  refine g_iconst (v := (-1 : Int32)) O dX10_bestTalker_0 rfl ?_
  refine g_istore_n (lv' := [(1, vI (-1 : Int32)), (0, vA (some a0))]) O dX10_bestTalker_1 rfl 6 hn (by decide) rfl ?_
  refine g_iconst (v := (0 : Int32)) O dX10_bestTalker_2 rfl ?_
  refine g_istore_n (lv' := [(2, vI (0 : Int32)), (1, vI (-1 : Int32)), (0, vA (some a0))]) O dX10_bestTalker_3 rfl 6 hn (by decide) rfl ?_
  refine g_iconst (v := (0 : Int32)) O dX10_bestTalker_4 rfl ?_
  refine g_istore_n (lv' := [(3, vI (0 : Int32)), (2, vI (0 : Int32)), (1, vI (-1 : Int32)), (0, vA (some a0))]) O dX10_bestTalker_5 rfl 6 hn (by decide) rfl ?_
  refine g_sub [3, 2, 1, 0] (lv' := [(0, vA (some a0)), (1, vI (-1 : Int32)), (2, vI (0 : Int32)), (3, vI (0 : Int32))]) rfl ?_
  obtain ⟨w1, e2, h⟩ := bo_some h
  refine iter_G (P := P_X10_bestTalker_6 M a0 σ) (E := E_X10_bestTalker_6 M a0 σ) (fun s o hb hk => t_X10_bestTalker_L6 O R0 N hn a0 s.1 s.2.1 s.2.2 σ o hb hk) FU ((-1 : Int32), (0 : Int32), (0 : Int32)) w1 e2 ?_
  show G M 0 0 79 [(1, vI w1)] [] SX σ
  refine g_iload_n O dX10_bestTalker_79 rfl 0 rfl ?_
  cases h
  exact g_ireturn O K dX10_bestTalker_80
theorem c_X10_bestTalker (l0 : Launch) (a0 : Nat) (σ : Dt) (r : Int32) (h : f_X10_bestTalker a0 σ = some r) : Ctr l0 yX10_bestTalker cX10_bestTalker 6 (some .int) false 2 80 0 0 [vA (some a0)] SX σ SX σ (some (vI r)) := ctr_of (by decide) (Nat.le_of_ble_eq_true rfl) (fun M O F R0 N hn => t_X10_bestTalker O R0 N hn a0 σ r h F)
def f_X10_lookBack_52  (σ : Dt) : Option Int32 := some (-2 : Int32)
theorem t_X10_lookBack_52 {M : Mx} {l0 : Launch} (O : Ok M cX10_lookBack yX10_lookBack) (R0 : Rm M l0 3 105 0 0) (N : Ma M = false) (hn : Mn M = 2)   (σ : Dt) (o : Int32) (h : f_X10_lookBack_52 σ = some o) (K : Fin' M (some .int) 0 0 SX σ (some (vI o))) : G M 0 0 52 [] [] SX σ := by
  unfold f_X10_lookBack_52 at h
  refine g_bipush (v := (-2 : Int32)) O dX10_lookBack_52 rfl ?_
  cases h
  exact g_ireturn O K dX10_lookBack_54
def f_X10_lookBack (a0 : Nat) (x1 : Int32) (σ : Dt) : Option Int32 := if x1 = 0 then bo (xgi SX 10 7 (some a0) σ) fun v2 => some v2 else if x1 = (1 : Int32) then bo (xrc SX 10 (some a0)) fun a5 => bo (f_X10_bestHand a5 σ) fun v7 => some v7 else if x1 = (2 : Int32) then bo (xrc SX 10 (some a0)) fun a10 => bo (f_X10_bestTalker a10 σ) fun v12 => some v12 else if x1 < (10 : Int32) then f_X10_lookBack_52 σ else if (14 : Int32) < x1 then f_X10_lookBack_52 σ else bo (xrc SX 10 (some a0)) fun a16 => bo (f_X10_manyOfFate a16 (x1 - (10 : Int32)) σ) fun v18 => some v18
theorem t_X10_lookBack {M : Mx} {l0 : Launch} (O : Ok M cX10_lookBack yX10_lookBack) (R0 : Rm M l0 3 105 0 0) (N : Ma M = false) (hn : Mn M = 2) (a0 : Nat) (x1 : Int32) (σ : Dt) (o : Int32) (h : f_X10_lookBack a0 x1 σ = some o) (K : Fin' M (some .int) 0 0 SX σ (some (vI o))) : G M 0 0 0 [(0, vA (some a0)), (1, vI x1)] [] SX σ := by
  unfold f_X10_lookBack at h
  refine g_iload_n O dX10_lookBack_0 rfl 1 rfl ?_
  refine g_if_ne O dX10_lookBack_1 rfl (fun c1 => ?_) (fun c1 => ?_)
  · replace h := (if_pos c1).symm.trans h
    refine g_aload_n O dX10_lookBack_4 rfl 0 rfl ?_
    obtain ⟨v2, e3, h⟩ := bo_some h
    refine g_getI O dX10_lookBack_5 fl_X10_81 rfl e3 ?_
    cases h
    exact g_ireturn O K dX10_lookBack_8
  · replace h := (if_neg c1).symm.trans h
    refine g_iload_n O dX10_lookBack_9 rfl 1 rfl ?_
    refine g_iconst (v := (1 : Int32)) O dX10_lookBack_10 rfl ?_
    refine g_icmp_ne O dX10_lookBack_11 rfl (fun c4 => ?_) (fun c4 => ?_)
    · replace h := (if_pos c4).symm.trans h
      refine g_aload_n O dX10_lookBack_14 rfl 0 rfl ?_
      obtain ⟨a5, e6, h⟩ := bo_some h
      obtain ⟨v7, e8, h⟩ := bo_some h
      refine g_cV1 O R0 N dX10_lookBack_15 vl_X10_191 vv_X10_bestHand e6 [] rfl rfl rfl ⟨Nat.le_of_ble_eq_true rfl, Nat.le_of_ble_eq_true rfl⟩ (c_X10_bestHand l0 a5 σ v7 e8) ?_
      cases h
      exact g_ireturn O K dX10_lookBack_18
    · replace h := (if_neg c4).symm.trans h
      refine g_iload_n O dX10_lookBack_19 rfl 1 rfl ?_
      refine g_iconst (v := (2 : Int32)) O dX10_lookBack_20 rfl ?_
      refine g_icmp_ne O dX10_lookBack_21 rfl (fun c9 => ?_) (fun c9 => ?_)
      · replace h := (if_pos c9).symm.trans h
        refine g_aload_n O dX10_lookBack_24 rfl 0 rfl ?_
        obtain ⟨a10, e11, h⟩ := bo_some h
        obtain ⟨v12, e13, h⟩ := bo_some h
        refine g_cV1 O R0 N dX10_lookBack_25 vl_X10_194 vv_X10_bestTalker e11 [] rfl rfl rfl ⟨Nat.le_of_ble_eq_true rfl, Nat.le_of_ble_eq_true rfl⟩ (c_X10_bestTalker l0 a10 σ v12 e13) ?_
        cases h
        exact g_ireturn O K dX10_lookBack_28
      · replace h := (if_neg c9).symm.trans h
        refine g_iload_n O dX10_lookBack_29 rfl 1 rfl ?_
        refine g_bipush (v := (10 : Int32)) O dX10_lookBack_30 rfl ?_
        refine g_icmp_lt O dX10_lookBack_32 rfl (fun c14 => ?_) (fun c14 => ?_)
        · replace h := (if_pos c14).symm.trans h
          refine g_sub [] (lv' := []) rfl ?_
          exact t_X10_lookBack_52 O R0 N hn σ o h K
        · replace h := (if_neg c14).symm.trans h
          refine g_iload_n O dX10_lookBack_35 rfl 1 rfl ?_
          refine g_bipush (v := (14 : Int32)) O dX10_lookBack_36 rfl ?_
          refine g_icmp_gt O dX10_lookBack_38 rfl (fun c15 => ?_) (fun c15 => ?_)
          · replace h := (if_pos c15).symm.trans h
            refine g_sub [] (lv' := []) rfl ?_
            exact t_X10_lookBack_52 O R0 N hn σ o h K
          · replace h := (if_neg c15).symm.trans h
            refine g_aload_n O dX10_lookBack_41 rfl 0 rfl ?_
            refine g_iload_n O dX10_lookBack_42 rfl 1 rfl ?_
            refine g_bipush (v := (10 : Int32)) O dX10_lookBack_43 rfl ?_
            refine g_isub O dX10_lookBack_45 ?_
            obtain ⟨a16, e17, h⟩ := bo_some h
            obtain ⟨v18, e19, h⟩ := bo_some h
            refine g_cV1 O R0 N dX10_lookBack_46 vl_X10_120 vv_X10_manyOfFate e17 [vI (x1 - (10 : Int32))] rfl rfl rfl ⟨Nat.le_of_ble_eq_true rfl, Nat.le_of_ble_eq_true rfl⟩ (c_X10_manyOfFate l0 a16 (x1 - (10 : Int32)) σ v18 e19) ?_
            refine g_goto O dX10_lookBack_49 rfl ?_
            cases h
            exact g_ireturn O K dX10_lookBack_54
theorem c_X10_lookBack (l0 : Launch) (a0 : Nat) (x1 : Int32) (σ : Dt) (r : Int32) (h : f_X10_lookBack a0 x1 σ = some r) : Ctr l0 yX10_lookBack cX10_lookBack 2 (some .int) false 3 105 0 0 [vA (some a0), vI x1] SX σ SX σ (some (vI r)) := ctr_of (by decide) (Nat.le_of_ble_eq_true rfl) (fun M O F R0 N hn => t_X10_lookBack O R0 N hn a0 x1 σ r h F)
def f_X11_after (a0 : Nat) (x1 : Int32) (x2 : Int32) (x3 : Int32) (σ : Dt) : Option (Int32 × Dt) := bo (xgr SX 11 0 (some a0) σ) fun v1 => bo (xrc SX 8 v1) fun a3 => bo (f_X8_valleyAt a3 x1 σ) fun v5 => bo (xgr SX 11 0 (some a0) σ) fun v7 => bo (xrc SX 8 v7) fun a9 => bo (f_X8_lifeAt a9 x2 σ) fun v11 => if v5 = none then some ((-2 : Int32), σ) else if v11 = none then some ((-2 : Int32), σ) else bo (xgr SX 11 4 (some a0) σ) fun v15 => bo (xgi SX 4 0 v11 σ) fun v17 => bo (xrc SX 10 v15) fun a19 => bd (f_X10_live a19 v5 v11 v17 σ) fun v21 σ22 => bo (xgr SX 11 4 (some a0) σ22) fun v24 => bo (xrc SX 10 v24) fun a26 => bo (f_X10_lookBack a26 x3 σ22) fun v28 => some (v28, σ22)
theorem t_X11_after {M : Mx} {l0 : Launch} (O : Ok M cX11_after yX11_after) (R0 : Rm M l0 7 197 0 0) (N : Ma M = false) (hn : Mn M = 6) (a0 : Nat) (x1 : Int32) (x2 : Int32) (x3 : Int32) (σ : Dt) (o : (Int32 × Dt)) (h : f_X11_after a0 x1 x2 x3 σ = some o) (K : Fin' M (some .int) 0 0 SX o.2 (some (vI o.1))) : G M 0 0 0 [(0, vA (some a0)), (1, vI x1), (2, vI x2), (3, vI x3)] [] SX σ := by
  unfold f_X11_after at h
  refine g_aload_n O dX11_after_0 rfl 0 rfl ?_
  obtain ⟨v1, e2, h⟩ := bo_some h
  refine g_getR O dX11_after_1 fl_X11_12 rfl e2 ?_
  refine g_iload_n O dX11_after_4 rfl 1 rfl ?_
  obtain ⟨a3, e4, h⟩ := bo_some h
  obtain ⟨v5, e6, h⟩ := bo_some h
  refine g_cV1 O R0 N dX11_after_5 vl_X11_105 vv_X8_valleyAt e4 [vI x1] rfl rfl rfl ⟨Nat.le_of_ble_eq_true rfl, Nat.le_of_ble_eq_true rfl⟩ (c_X8_valleyAt l0 a3 x1 σ v5 e6) ?_
  refine g_astore (lv' := [(4, vA v5), (0, vA (some a0)), (1, vI x1), (2, vI x2), (3, vI x3)]) O dX11_after_8 6 hn (by decide) rfl ?_
  refine g_aload_n O dX11_after_10 rfl 1 rfl ?_
  obtain ⟨v7, e8, h⟩ := bo_some h
  refine g_getR O dX11_after_11 fl_X11_12 rfl e8 ?_
  refine g_iload_n O dX11_after_14 rfl 3 rfl ?_
  obtain ⟨a9, e10, h⟩ := bo_some h
  obtain ⟨v11, e12, h⟩ := bo_some h
  refine g_cV1 O R0 N dX11_after_15 vl_X11_114 vv_X8_lifeAt e10 [vI x2] rfl rfl rfl ⟨Nat.le_of_ble_eq_true rfl, Nat.le_of_ble_eq_true rfl⟩ (c_X8_lifeAt l0 a9 x2 σ v11 e12) ?_
  refine g_astore (lv' := [(5, vA v11), (4, vA v5), (0, vA (some a0)), (1, vI x1), (2, vI x2), (3, vI x3)]) O dX11_after_18 6 hn (by decide) rfl ?_
  refine g_aload O dX11_after_20 1 rfl ?_
  refine g_ifnull O dX11_after_22 rfl (fun c13 => ?_) (fun c13 => ?_)
  · replace h := (if_pos c13).symm.trans h
    refine g_bipush (v := (-2 : Int32)) O dX11_after_30 rfl ?_
    cases h
    exact g_ireturn O K dX11_after_32
  · replace h := (if_neg c13).symm.trans h
    refine g_aload O dX11_after_25 0 rfl ?_
    refine g_ifnonnull O dX11_after_27 rfl (fun c14 => ?_) (fun c14 => ?_)
    · replace h := (if_neg c14).symm.trans h
      refine g_aload_n O dX11_after_33 rfl 2 rfl ?_
      obtain ⟨v15, e16, h⟩ := bo_some h
      refine g_getR O dX11_after_34 fl_X11_34 rfl e16 ?_
      refine g_aload O dX11_after_37 1 rfl ?_
      refine g_aload O dX11_after_39 0 rfl ?_
      refine g_aload O dX11_after_41 0 rfl ?_
      obtain ⟨v17, e18, h⟩ := bo_some h
      refine g_getI O dX11_after_43 fl_X11_123 rfl e18 ?_
      obtain ⟨a19, e20, h⟩ := bo_some h
      obtain ⟨v21, σ22, e23, h⟩ := bd_some h
      refine g_cV1 O R0 N dX11_after_46 vl_X11_126 vv_X10_live e20 [vA v5, vA v11, vI v17] rfl rfl rfl ⟨Nat.le_of_ble_eq_true rfl, Nat.le_of_ble_eq_true rfl⟩ (c_X10_live l0 a19 v5 v11 v17 σ v21 σ22 e23) ?_
      refine g_pop O dX11_after_49 rfl ?_
      refine g_aload_n O dX11_after_50 rfl 2 rfl ?_
      obtain ⟨v24, e25, h⟩ := bo_some h
      refine g_getR O dX11_after_51 fl_X11_34 rfl e25 ?_
      refine g_iload_n O dX11_after_54 rfl 5 rfl ?_
      obtain ⟨a26, e27, h⟩ := bo_some h
      obtain ⟨v28, e29, h⟩ := bo_some h
      refine g_cV1 O R0 N dX11_after_55 vl_X11_276 vv_X10_lookBack e27 [vI x3] rfl rfl rfl ⟨Nat.le_of_ble_eq_true rfl, Nat.le_of_ble_eq_true rfl⟩ (c_X10_lookBack l0 a26 x3 σ22 v28 e29) ?_
      cases h
      exact g_ireturn O K dX11_after_58
    · replace h := (if_pos c14).symm.trans h
      refine g_bipush (v := (-2 : Int32)) O dX11_after_30 rfl ?_
      cases h
      exact g_ireturn O K dX11_after_32
theorem c_X11_after (l0 : Launch) (a0 : Nat) (x1 : Int32) (x2 : Int32) (x3 : Int32) (σ : Dt) (r : Int32) (σ' : Dt) (h : f_X11_after a0 x1 x2 x3 σ = some (r, σ')) : Ctr l0 yX11_after cX11_after 6 (some .int) false 7 197 0 0 [vA (some a0), vI x1, vI x2, vI x3] SX σ SX σ' (some (vI r)) := ctr_of (by decide) (Nat.le_of_ble_eq_true rfl) (fun M O F R0 N hn => t_X11_after O R0 N hn a0 x1 x2 x3 σ (r, σ') h F)
def f_X11_share (a0 : Nat) (x1 : Int32) (x2 : Int32) (x3 : Int32) (x4 : Int32) (σ : Dt) : Option (Int64 × Dt) := bo (xgr SX 11 0 (some a0) σ) fun v1 => bo (xrc SX 8 v1) fun a3 => bo (f_X8_valleyAt a3 x1 σ) fun v5 => if v5 = none then some ((-1 : Int64), σ) else bo (xrc SX 9 v5) fun a8 => bo (f_X9_hasFolk a8 x3 σ) fun v10 => if v10 = 0 then some ((-1 : Int64), σ) else bo (xrc SX 11 (some a0)) fun a13 => bd (f_X11_findFits a13 x1 x2 σ) fun v15 σ16 => if v15 = 0 then some ((-1 : Int64), σ16) else bo (xgr SX 11 5 (some a0) σ16) fun v19 => bo (xgi SX 2 0 v19 σ16) fun v21 => if v21 = 0 then some ((-1 : Int64), σ16) else bo (xgr SX 11 9 (some a0) σ16) fun v24 => bo (xgr SX 11 5 (some a0) σ16) fun v26 => bo (xrc SX 2 v26) fun a28 => bo (f_X2_manyBy a28 x3 σ16) fun v30 => bo (xgr SX 11 5 (some a0) σ16) fun v32 => bo (xgi SX 2 0 v32 σ16) fun v34 => bo (xrc SX 0 v24) fun a36 => bd (f_X0_reduce a36 (Int32.toInt64 v30) (Int32.toInt64 v34) σ16) fun v38 σ39 => bo (xgr SX 11 9 (some a0) σ39) fun v41 => bo (xrc SX 0 v41) fun a43 => bo (f_X0_part a43 x4 σ39) fun v45 => some (v45, σ39)
theorem t_X11_share {M : Mx} {l0 : Launch} (O : Ok M cX11_share yX11_share) (R0 : Rm M l0 8 223 0 0) (N : Ma M = false) (hn : Mn M = 6) (a0 : Nat) (x1 : Int32) (x2 : Int32) (x3 : Int32) (x4 : Int32) (σ : Dt) (o : (Int64 × Dt)) (h : f_X11_share a0 x1 x2 x3 x4 σ = some o) (K : Fin' M (some .long) 0 0 SX o.2 (some (vJ o.1))) : G M 0 0 0 [(0, vA (some a0)), (1, vI x1), (2, vI x2), (3, vI x3), (4, vI x4)] [] SX σ := by
  unfold f_X11_share at h
  refine g_aload_n O dX11_share_0 rfl 0 rfl ?_
  obtain ⟨v1, e2, h⟩ := bo_some h
  refine g_getR O dX11_share_1 fl_X11_12 rfl e2 ?_
  refine g_iload_n O dX11_share_4 rfl 1 rfl ?_
  obtain ⟨a3, e4, h⟩ := bo_some h
  obtain ⟨v5, e6, h⟩ := bo_some h
  refine g_cV1 O R0 N dX11_share_5 vl_X11_105 vv_X8_valleyAt e4 [vI x1] rfl rfl rfl ⟨Nat.le_of_ble_eq_true rfl, Nat.le_of_ble_eq_true rfl⟩ (c_X8_valleyAt l0 a3 x1 σ v5 e6) ?_
  refine g_astore (lv' := [(5, vA v5), (0, vA (some a0)), (1, vI x1), (2, vI x2), (3, vI x3), (4, vI x4)]) O dX11_share_8 6 hn (by decide) rfl ?_
  refine g_aload O dX11_share_10 0 rfl ?_
  refine g_ifnull O dX11_share_12 rfl (fun c7 => ?_) (fun c7 => ?_)
  · replace h := (if_pos c7).symm.trans h
    refine g_ldc2 O dX11_share_43 w1116 ?_
    cases h
    exact g_lreturn O K dX11_share_46
  · replace h := (if_neg c7).symm.trans h
    refine g_aload O dX11_share_15 0 rfl ?_
    refine g_iload_n O dX11_share_17 rfl 4 rfl ?_
    obtain ⟨a8, e9, h⟩ := bo_some h
    obtain ⟨v10, e11, h⟩ := bo_some h
    refine g_cV1 O R0 N dX11_share_18 vl_X11_198 vv_X9_hasFolk e9 [vI x3] rfl rfl rfl ⟨Nat.le_of_ble_eq_true rfl, Nat.le_of_ble_eq_true rfl⟩ (c_X9_hasFolk l0 a8 x3 σ v10 e11) ?_
    refine g_if_eq O dX11_share_21 rfl (fun c12 => ?_) (fun c12 => ?_)
    · replace h := (if_pos c12).symm.trans h
      refine g_ldc2 O dX11_share_43 w1116 ?_
      cases h
      exact g_lreturn O K dX11_share_46
    · replace h := (if_neg c12).symm.trans h
      refine g_aload_n O dX11_share_24 rfl 1 rfl ?_
      refine g_iload_n O dX11_share_25 rfl 2 rfl ?_
      refine g_iload_n O dX11_share_26 rfl 3 rfl ?_
      obtain ⟨a13, e14, h⟩ := bo_some h
      obtain ⟨v15, σ16, e17, h⟩ := bd_some h
      refine g_cV1 O R0 N dX11_share_27 vl_X11_228 vv_X11_findFits e14 [vI x1, vI x2] rfl rfl rfl ⟨Nat.le_of_ble_eq_true rfl, Nat.le_of_ble_eq_true rfl⟩ (c_X11_findFits l0 a13 x1 x2 σ v15 σ16 e17) ?_
      refine g_if_eq O dX11_share_30 rfl (fun c18 => ?_) (fun c18 => ?_)
      · replace h := (if_pos c18).symm.trans h
        refine g_ldc2 O dX11_share_43 w1116 ?_
        cases h
        exact g_lreturn O K dX11_share_46
      · replace h := (if_neg c18).symm.trans h
        refine g_aload_n O dX11_share_33 rfl 1 rfl ?_
        obtain ⟨v19, e20, h⟩ := bo_some h
        refine g_getR O dX11_share_34 fl_X11_41 rfl e20 ?_
        obtain ⟨v21, e22, h⟩ := bo_some h
        refine g_getI O dX11_share_37 fl_X11_279 rfl e22 ?_
        refine g_if_ne O dX11_share_40 rfl (fun c23 => ?_) (fun c23 => ?_)
        · replace h := (if_pos c23).symm.trans h
          refine g_ldc2 O dX11_share_43 w1116 ?_
          cases h
          exact g_lreturn O K dX11_share_46
        · replace h := (if_neg c23).symm.trans h
          refine g_aload_n O dX11_share_47 rfl 1 rfl ?_
          obtain ⟨v24, e25, h⟩ := bo_some h
          refine g_getR O dX11_share_48 fl_X11_69 rfl e25 ?_
          refine g_aload_n O dX11_share_51 rfl 1 rfl ?_
          obtain ⟨v26, e27, h⟩ := bo_some h
          refine g_getR O dX11_share_52 fl_X11_41 rfl e27 ?_
          refine g_iload_n O dX11_share_55 rfl 4 rfl ?_
          obtain ⟨a28, e29, h⟩ := bo_some h
          obtain ⟨v30, e31, h⟩ := bo_some h
          refine g_cV1 O R0 N dX11_share_56 vl_X11_282 vv_X2_manyBy e29 [vI x3] rfl rfl rfl ⟨Nat.le_of_ble_eq_true rfl, Nat.le_of_ble_eq_true rfl⟩ (c_X2_manyBy l0 a28 x3 σ16 v30 e31) ?_
          refine g_i2l O dX11_share_59 ?_
          refine g_aload_n O dX11_share_60 rfl 1 rfl ?_
          obtain ⟨v32, e33, h⟩ := bo_some h
          refine g_getR O dX11_share_61 fl_X11_41 rfl e33 ?_
          obtain ⟨v34, e35, h⟩ := bo_some h
          refine g_getI O dX11_share_64 fl_X11_279 rfl e35 ?_
          refine g_i2l O dX11_share_67 ?_
          obtain ⟨a36, e37, h⟩ := bo_some h
          obtain ⟨v38, σ39, e40, h⟩ := bd_some h
          refine g_cV0 O R0 N dX11_share_68 vl_X11_207 vv_X0_reduce e37 [vJ (Int32.toInt64 v30), vJ (Int32.toInt64 v34)] rfl rfl rfl ⟨Nat.le_of_ble_eq_true rfl, Nat.le_of_ble_eq_true rfl⟩ (c_X0_reduce l0 a36 (Int32.toInt64 v30) (Int32.toInt64 v34) σ16 v38 σ39 e40) ?_
          refine g_aload_n O dX11_share_71 rfl 1 rfl ?_
          obtain ⟨v41, e42, h⟩ := bo_some h
          refine g_getR O dX11_share_72 fl_X11_69 rfl e42 ?_
          refine g_iload O dX11_share_75 5 rfl ?_
          obtain ⟨a43, e44, h⟩ := bo_some h
          obtain ⟨v45, e46, h⟩ := bo_some h
          refine g_cV1 O R0 N dX11_share_77 vl_X11_187 vv_X0_part e44 [vI x4] rfl rfl rfl ⟨Nat.le_of_ble_eq_true rfl, Nat.le_of_ble_eq_true rfl⟩ (c_X0_part l0 a43 x4 σ39 v45 e46) ?_
          cases h
          exact g_lreturn O K dX11_share_80
theorem c_X11_share (l0 : Launch) (a0 : Nat) (x1 : Int32) (x2 : Int32) (x3 : Int32) (x4 : Int32) (σ : Dt) (r : Int64) (σ' : Dt) (h : f_X11_share a0 x1 x2 x3 x4 σ = some (r, σ')) : Ctr l0 yX11_share cX11_share 6 (some .long) false 8 223 0 0 [vA (some a0), vI x1, vI x2, vI x3, vI x4] SX σ SX σ' (some (vJ r)) := ctr_of (by decide) (Nat.le_of_ble_eq_true rfl) (fun M O F R0 N hn => t_X11_share O R0 N hn a0 x1 x2 x3 x4 σ (r, σ') h F)
def f_X11_later (a0 : Nat) (x1 : Int32) (x2 : Int32) (σ : Dt) : Option (Int32 × Dt) := bo (xrc SX 11 (some a0)) fun a1 => bd (f_X11_findFits a1 x1 x2 σ) fun v3 σ4 => if v3 = 0 then some ((-2 : Int32), σ4) else bo (xgr SX 11 5 (some a0) σ4) fun v7 => bo (xgi SX 2 1 v7 σ4) fun v9 => some (v9, σ4)
theorem t_X11_later {M : Mx} {l0 : Launch} (O : Ok M cX11_later yX11_later) (R0 : Rm M l0 8 223 0 0) (N : Ma M = false) (hn : Mn M = 3) (a0 : Nat) (x1 : Int32) (x2 : Int32) (σ : Dt) (o : (Int32 × Dt)) (h : f_X11_later a0 x1 x2 σ = some o) (K : Fin' M (some .int) 0 0 SX o.2 (some (vI o.1))) : G M 0 0 0 [(0, vA (some a0)), (1, vI x1), (2, vI x2)] [] SX σ := by
  unfold f_X11_later at h
  refine g_aload_n O dX11_later_0 rfl 0 rfl ?_
  refine g_iload_n O dX11_later_1 rfl 1 rfl ?_
  refine g_iload_n O dX11_later_2 rfl 2 rfl ?_
  obtain ⟨a1, e2, h⟩ := bo_some h
  obtain ⟨v3, σ4, e5, h⟩ := bd_some h
  refine g_cV1 O R0 N dX11_later_3 vl_X11_228 vv_X11_findFits e2 [vI x1, vI x2] rfl rfl rfl ⟨Nat.le_of_ble_eq_true rfl, Nat.le_of_ble_eq_true rfl⟩ (c_X11_findFits l0 a1 x1 x2 σ v3 σ4 e5) ?_
  refine g_if_eq O dX11_later_6 rfl (fun c6 => ?_) (fun c6 => ?_)
  · replace h := (if_pos c6).symm.trans h
    refine g_bipush (v := (-2 : Int32)) O dX11_later_19 rfl ?_
    cases h
    exact g_ireturn O K dX11_later_21
  · replace h := (if_neg c6).symm.trans h
    refine g_aload_n O dX11_later_9 rfl 0 rfl ?_
    obtain ⟨v7, e8, h⟩ := bo_some h
    refine g_getR O dX11_later_10 fl_X11_41 rfl e8 ?_
    obtain ⟨v9, e10, h⟩ := bo_some h
    refine g_getI O dX11_later_13 fl_X11_285 rfl e10 ?_
    refine g_goto O dX11_later_16 rfl ?_
    cases h
    exact g_ireturn O K dX11_later_21
theorem c_X11_later (l0 : Launch) (a0 : Nat) (x1 : Int32) (x2 : Int32) (σ : Dt) (r : Int32) (σ' : Dt) (h : f_X11_later a0 x1 x2 σ = some (r, σ')) : Ctr l0 yX11_later cX11_later 3 (some .int) false 8 223 0 0 [vA (some a0), vI x1, vI x2] SX σ SX σ' (some (vI r)) := ctr_of (by decide) (Nat.le_of_ble_eq_true rfl) (fun M O F R0 N hn => t_X11_later O R0 N hn a0 x1 x2 σ (r, σ') h F)
def f_X11_count (a0 : Nat) (x1 : Int32) (σ : Dt) : Option Int32 := bo (xgr SX 11 0 (some a0) σ) fun v1 => bo (xrc SX 8 v1) fun a3 => bo (f_X8_howMany a3 x1 σ) fun v5 => some v5
theorem t_X11_count {M : Mx} {l0 : Launch} (O : Ok M cX11_count yX11_count) (R0 : Rm M l0 3 101 0 0) (N : Ma M = false) (hn : Mn M = 2) (a0 : Nat) (x1 : Int32) (σ : Dt) (o : Int32) (h : f_X11_count a0 x1 σ = some o) (K : Fin' M (some .int) 0 0 SX σ (some (vI o))) : G M 0 0 0 [(0, vA (some a0)), (1, vI x1)] [] SX σ := by
  unfold f_X11_count at h
  refine g_aload_n O dX11_count_0 rfl 0 rfl ?_
  obtain ⟨v1, e2, h⟩ := bo_some h
  refine g_getR O dX11_count_1 fl_X11_12 rfl e2 ?_
  refine g_iload_n O dX11_count_4 rfl 1 rfl ?_
  obtain ⟨a3, e4, h⟩ := bo_some h
  obtain ⟨v5, e6, h⟩ := bo_some h
  refine g_cV1 O R0 N dX11_count_5 vl_X11_87 vv_X8_howMany e4 [vI x1] rfl rfl rfl ⟨Nat.le_of_ble_eq_true rfl, Nat.le_of_ble_eq_true rfl⟩ (c_X8_howMany l0 a3 x1 σ v5 e6) ?_
  cases h
  exact g_ireturn O K dX11_count_8
theorem c_X11_count (l0 : Launch) (a0 : Nat) (x1 : Int32) (σ : Dt) (r : Int32) (h : f_X11_count a0 x1 σ = some r) : Ctr l0 yX11_count cX11_count 2 (some .int) false 3 101 0 0 [vA (some a0), vI x1] SX σ SX σ (some (vI r)) := ctr_of (by decide) (Nat.le_of_ble_eq_true rfl) (fun M O F R0 N hn => t_X11_count O R0 N hn a0 x1 σ r h F)
def P_X8_copyFrom_47 (M : Mx) (a0 : Nat) (r1 : Option Nat) (s : (Int32 × Dt)) : Prop := G M 0 0 47 [(0, vA (some a0)), (1, vA r1), (2, vI s.1)] [] SX s.2
def E_X8_copyFrom_47 (M : Mx) (a0 : Nat) (r1 : Option Nat) : Dt → Prop := (fun w => G M 0 0 103 [(0, vA (some a0)), (1, vA r1)] [] SX w)
def f_X8_copyFrom_L47 (a0 : Nat) (r1 : Option Nat) (x2 : Int32) (σ : Dt) : Option ((Int32 × Dt) ⊕ Dt) := if (2 : Int32) ≤ x2 then some (.inr σ) else bo (xgr SX 8 4 (some a0) σ) fun v2 => bo (xar SX 19 v2 x2 σ) fun v4 => bo (xgr SX 8 4 r1 σ) fun v6 => bo (xar SX 19 v6 x2 σ) fun v8 => bo (xrc SX 9 v4) fun a10 => bd (f_X9_copyFrom a10 v8 σ) fun v12 σ13 => bo (xgr SX 8 5 (some a0) σ13) fun v15 => bo (xar SX 16 v15 x2 σ13) fun v17 => bo (xgr SX 8 5 r1 σ13) fun v19 => bo (xar SX 16 v19 x2 σ13) fun v21 => bo (xrc SX 4 v17) fun a23 => bd (f_X4_copyFrom a23 v21 σ13) fun v25 σ26 => bo (xgr SX 8 6 (some a0) σ26) fun v28 => bo (xar SX 17 v28 x2 σ26) fun v30 => bo (xgr SX 8 6 r1 σ26) fun v32 => bo (xar SX 17 v32 x2 σ26) fun v34 => bo (xrc SX 6 v30) fun a36 => bd (f_X6_copyFrom a36 v34 σ26) fun v38 σ39 => some (.inl ((x2 + (1 : Int32)), σ39))
theorem t_X8_copyFrom_L47 {M : Mx} {l0 : Launch} (O : Ok M cX8_copyFrom yX8_copyFrom) (R0 : Rm M l0 3 101 0 0) (N : Ma M = false) (hn : Mn M = 3) (a0 : Nat) (r1 : Option Nat) (x2 : Int32) (σ : Dt) (o : ((Int32 × Dt) ⊕ Dt)) (h : f_X8_copyFrom_L47 a0 r1 x2 σ = some o) (K : kon (P_X8_copyFrom_47 M a0 r1) (E_X8_copyFrom_47 M a0 r1) o) : G M 0 0 47 [(0, vA (some a0)), (1, vA r1), (2, vI x2)] [] SX σ := by
  unfold f_X8_copyFrom_L47 at h
  refine g_iload_n O dX8_copyFrom_47 rfl 2 rfl ?_
  refine g_iconst (v := (2 : Int32)) O dX8_copyFrom_48 rfl ?_
  refine g_icmp_ge O dX8_copyFrom_49 rfl (fun c1 => ?_) (fun c1 => ?_)
  · replace h := (if_pos c1).symm.trans h
    refine g_sub [0, 1] (lv' := [(0, vA (some a0)), (1, vA r1)]) rfl ?_
    cases h
    exact K
  · replace h := (if_neg c1).symm.trans h
    refine g_aload_n O dX8_copyFrom_52 rfl 0 rfl ?_
    obtain ⟨v2, e3, h⟩ := bo_some h
    refine g_getR O dX8_copyFrom_53 fl_X8_27 rfl e3 ?_
    refine g_iload_n O dX8_copyFrom_56 rfl 2 rfl ?_
    obtain ⟨v4, e5, h⟩ := bo_some h
    refine g_aaload (kd := 19) O dX8_copyFrom_57 (by decide) (by decide) e5 ?_
    refine g_aload_n O dX8_copyFrom_58 rfl 1 rfl ?_
    obtain ⟨v6, e7, h⟩ := bo_some h
    refine g_getR O dX8_copyFrom_59 fl_X8_27 rfl e7 ?_
    refine g_iload_n O dX8_copyFrom_62 rfl 2 rfl ?_
    obtain ⟨v8, e9, h⟩ := bo_some h
    refine g_aaload (kd := 19) O dX8_copyFrom_63 (by decide) (by decide) e9 ?_
    obtain ⟨a10, e11, h⟩ := bo_some h
    obtain ⟨v12, σ13, e14, h⟩ := bd_some h
    refine g_cV0 O R0 N dX8_copyFrom_64 vl_X8_55 vv_X9_copyFrom e11 [vA v8] rfl rfl rfl ⟨Nat.le_of_ble_eq_true rfl, Nat.le_of_ble_eq_true rfl⟩ (c_X9_copyFrom l0 a10 v8 σ v12 σ13 e14) ?_
    refine g_aload_n O dX8_copyFrom_67 rfl 0 rfl ?_
    obtain ⟨v15, e16, h⟩ := bo_some h
    refine g_getR O dX8_copyFrom_68 fl_X8_33 rfl e16 ?_
    refine g_iload_n O dX8_copyFrom_71 rfl 2 rfl ?_
    obtain ⟨v17, e18, h⟩ := bo_some h
    refine g_aaload (kd := 16) O dX8_copyFrom_72 (by decide) (by decide) e18 ?_
    refine g_aload_n O dX8_copyFrom_73 rfl 1 rfl ?_
    obtain ⟨v19, e20, h⟩ := bo_some h
    refine g_getR O dX8_copyFrom_74 fl_X8_33 rfl e20 ?_
    refine g_iload_n O dX8_copyFrom_77 rfl 2 rfl ?_
    obtain ⟨v21, e22, h⟩ := bo_some h
    refine g_aaload (kd := 16) O dX8_copyFrom_78 (by decide) (by decide) e22 ?_
    obtain ⟨a23, e24, h⟩ := bo_some h
    obtain ⟨v25, σ26, e27, h⟩ := bd_some h
    refine g_cV0 O R0 N dX8_copyFrom_79 vl_X8_59 vv_X4_copyFrom e24 [vA v21] rfl rfl rfl ⟨Nat.le_of_ble_eq_true rfl, Nat.le_of_ble_eq_true rfl⟩ (c_X4_copyFrom l0 a23 v21 σ13 v25 σ26 e27) ?_
    refine g_aload_n O dX8_copyFrom_82 rfl 0 rfl ?_
    obtain ⟨v28, e29, h⟩ := bo_some h
    refine g_getR O dX8_copyFrom_83 fl_X8_39 rfl e29 ?_
    refine g_iload_n O dX8_copyFrom_86 rfl 2 rfl ?_
    obtain ⟨v30, e31, h⟩ := bo_some h
    refine g_aaload (kd := 17) O dX8_copyFrom_87 (by decide) (by decide) e31 ?_
    refine g_aload_n O dX8_copyFrom_88 rfl 1 rfl ?_
    obtain ⟨v32, e33, h⟩ := bo_some h
    refine g_getR O dX8_copyFrom_89 fl_X8_39 rfl e33 ?_
    refine g_iload_n O dX8_copyFrom_92 rfl 2 rfl ?_
    obtain ⟨v34, e35, h⟩ := bo_some h
    refine g_aaload (kd := 17) O dX8_copyFrom_93 (by decide) (by decide) e35 ?_
    obtain ⟨a36, e37, h⟩ := bo_some h
    obtain ⟨v38, σ39, e40, h⟩ := bd_some h
    refine g_cV0 O R0 N dX8_copyFrom_94 vl_X8_62 vv_X6_copyFrom e37 [vA v34] rfl rfl rfl ⟨Nat.le_of_ble_eq_true rfl, Nat.le_of_ble_eq_true rfl⟩ (c_X6_copyFrom l0 a36 v34 σ26 v38 σ39 e40) ?_
    refine g_iinc (v := (x2 + (1 : Int32))) (lv' := [(2, vI (x2 + (1 : Int32))), (0, vA (some a0)), (1, vA r1)]) O dX8_copyFrom_97 3 hn (by decide) 2 rfl rfl rfl ?_
    refine g_goto O dX8_copyFrom_100 rfl ?_
    refine g_sub [1, 2, 0] (lv' := [(0, vA (some a0)), (1, vA r1), (2, vI (x2 + (1 : Int32)))]) rfl ?_
    cases h
    exact K
def f_X8_copyFrom (a0 : Nat) (r1 : Option Nat) (σ : Dt) : Option (Unit × Dt) := if r1 = none then some ((), σ) else bo (xgr SX 8 0 r1 σ) fun v2 => bo (xgr SX 8 0 (some a0) σ) fun v4 => bo (xcp SX v2 (0 : Int32) v4 (0 : Int32) (600 : Int32) σ) fun σ6 => bo (xgi SX 8 1 r1 σ6) fun v8 => bo (xpi SX 8 1 (some a0) v8 σ6) fun σ10 => bo (xgi SX 8 2 r1 σ10) fun v12 => bo (xpi SX 8 2 (some a0) v12 σ10) fun σ14 => bo (xgi SX 8 3 r1 σ14) fun v16 => bo (xpi SX 8 3 (some a0) v16 σ14) fun σ18 => bo (iter FU (fun s => f_X8_copyFrom_L47 a0 r1 s.1 s.2) ((0 : Int32), σ18)) fun w20 => bo (xgr SX 8 7 r1 w20) fun v22 => bo (xgr SX 8 7 (some a0) w20) fun v24 => bo (xcp SX v22 (0 : Int32) v24 (0 : Int32) (3 : Int32) w20) fun σ26 => some ((), σ26)
theorem t_X8_copyFrom {M : Mx} {l0 : Launch} (O : Ok M cX8_copyFrom yX8_copyFrom) (R0 : Rm M l0 3 101 0 0) (N : Ma M = false) (hn : Mn M = 3) (a0 : Nat) (r1 : Option Nat) (σ : Dt) (o : (Unit × Dt)) (h : f_X8_copyFrom a0 r1 σ = some o) (K : Fin' M (none) 0 0 SX o.2 (none)) : G M 0 0 0 [(0, vA (some a0)), (1, vA r1)] [] SX σ := by
  unfold f_X8_copyFrom at h
  refine g_aload_n O dX8_copyFrom_0 rfl 1 rfl ?_
  refine g_ifnonnull O dX8_copyFrom_1 rfl (fun c1 => ?_) (fun c1 => ?_)
  · replace h := (if_neg c1).symm.trans h
    refine g_aload_n O dX8_copyFrom_5 rfl 1 rfl ?_
    obtain ⟨v2, e3, h⟩ := bo_some h
    refine g_getR O dX8_copyFrom_6 fl_X8_9 rfl e3 ?_
    refine g_iconst (v := (0 : Int32)) O dX8_copyFrom_9 rfl ?_
    refine g_aload_n O dX8_copyFrom_10 rfl 0 rfl ?_
    obtain ⟨v4, e5, h⟩ := bo_some h
    refine g_getR O dX8_copyFrom_11 fl_X8_9 rfl e5 ?_
    refine g_iconst (v := (0 : Int32)) O dX8_copyFrom_14 rfl ?_
    refine g_sipush (v := (600 : Int32)) O dX8_copyFrom_15 rfl ?_
    obtain ⟨σ6, e7, h⟩ := bo_some h
    refine g_copy O R0 N dX8_copyFrom_18 w1446 wcopy ⟨Nat.le_of_ble_eq_true rfl, Nat.le_of_ble_eq_true rfl⟩ e7 ?_
    refine g_aload_n O dX8_copyFrom_21 rfl 0 rfl ?_
    refine g_aload_n O dX8_copyFrom_22 rfl 1 rfl ?_
    obtain ⟨v8, e9, h⟩ := bo_some h
    refine g_getI O dX8_copyFrom_23 fl_X8_15 rfl e9 ?_
    obtain ⟨σ10, e11, h⟩ := bo_some h
    refine g_putI O dX8_copyFrom_26 fl_X8_15 (Or.inl rfl) rfl e11 ?_
    refine g_aload_n O dX8_copyFrom_29 rfl 0 rfl ?_
    refine g_aload_n O dX8_copyFrom_30 rfl 1 rfl ?_
    obtain ⟨v12, e13, h⟩ := bo_some h
    refine g_getI O dX8_copyFrom_31 fl_X8_19 rfl e13 ?_
    obtain ⟨σ14, e15, h⟩ := bo_some h
    refine g_putI O dX8_copyFrom_34 fl_X8_19 (Or.inl rfl) rfl e15 ?_
    refine g_aload_n O dX8_copyFrom_37 rfl 0 rfl ?_
    refine g_aload_n O dX8_copyFrom_38 rfl 1 rfl ?_
    obtain ⟨v16, e17, h⟩ := bo_some h
    refine g_getI O dX8_copyFrom_39 fl_X8_22 rfl e17 ?_
    obtain ⟨σ18, e19, h⟩ := bo_some h
    refine g_putI O dX8_copyFrom_42 fl_X8_22 (Or.inl rfl) rfl e19 ?_
    refine g_iconst (v := (0 : Int32)) O dX8_copyFrom_45 rfl ?_
    refine g_istore_n (lv' := [(2, vI (0 : Int32)), (0, vA (some a0)), (1, vA r1)]) O dX8_copyFrom_46 rfl 3 hn (by decide) rfl ?_
    refine g_sub [1, 2, 0] (lv' := [(0, vA (some a0)), (1, vA r1), (2, vI (0 : Int32))]) rfl ?_
    obtain ⟨w20, e21, h⟩ := bo_some h
    refine iter_G (P := P_X8_copyFrom_47 M a0 r1) (E := E_X8_copyFrom_47 M a0 r1) (fun s o hb hk => t_X8_copyFrom_L47 O R0 N hn a0 r1 s.1 s.2 o hb hk) FU ((0 : Int32), σ18) w20 e21 ?_
    show G M 0 0 103 [(0, vA (some a0)), (1, vA r1)] [] SX w20
    refine g_aload_n O dX8_copyFrom_103 rfl 1 rfl ?_
    obtain ⟨v22, e23, h⟩ := bo_some h
    refine g_getR O dX8_copyFrom_104 fl_X8_46 rfl e23 ?_
    refine g_iconst (v := (0 : Int32)) O dX8_copyFrom_107 rfl ?_
    refine g_aload_n O dX8_copyFrom_108 rfl 0 rfl ?_
    obtain ⟨v24, e25, h⟩ := bo_some h
    refine g_getR O dX8_copyFrom_109 fl_X8_46 rfl e25 ?_
    refine g_iconst (v := (0 : Int32)) O dX8_copyFrom_112 rfl ?_
    refine g_iconst (v := (3 : Int32)) O dX8_copyFrom_113 rfl ?_
    obtain ⟨σ26, e27, h⟩ := bo_some h
    refine g_copy O R0 N dX8_copyFrom_114 w1446 wcopy ⟨Nat.le_of_ble_eq_true rfl, Nat.le_of_ble_eq_true rfl⟩ e27 ?_
    cases h
    exact g_return O K dX8_copyFrom_117
  · replace h := (if_pos c1).symm.trans h
    cases h
    exact g_return O K dX8_copyFrom_4
theorem c_X8_copyFrom (l0 : Launch) (a0 : Nat) (r1 : Option Nat) (σ : Dt) (r : Unit) (σ' : Dt) (h : f_X8_copyFrom a0 r1 σ = some (r, σ')) : Ctr l0 yX8_copyFrom cX8_copyFrom 3 (none) false 3 101 0 0 [vA (some a0), vA r1] SX σ SX σ' (none) := ctr_of (by decide) (Nat.le_of_ble_eq_true rfl) (fun M O F R0 N hn => t_X8_copyFrom O R0 N hn a0 r1 σ (r, σ') h F)
def f_X11_image (a0 : Nat) (x1 : Int32) (σ : Dt) : Option (Int32 × Dt) := if x1 < 0 then some ((0 : Int32), σ) else if x1 < (3 : Int32) then bo (xgr SX 11 1 (some a0) σ) fun v3 => bo (xar SX 18 v3 x1 σ) fun v5 => bo (xgr SX 11 0 (some a0) σ) fun v7 => bo (xrc SX 8 v5) fun a9 => bd (f_X8_copyFrom a9 v7 σ) fun v11 σ12 => bo (xgr SX 11 2 (some a0) σ12) fun v14 => bo (xsz SX v14 x1 (1 : Int32) σ12) fun σ16 => some ((1 : Int32), σ16) else some ((0 : Int32), σ)
theorem t_X11_image {M : Mx} {l0 : Launch} (O : Ok M cX11_image yX11_image) (R0 : Rm M l0 4 123 0 0) (N : Ma M = false) (hn : Mn M = 2) (a0 : Nat) (x1 : Int32) (σ : Dt) (o : (Int32 × Dt)) (h : f_X11_image a0 x1 σ = some o) (K : Fin' M (some .boolean) 0 0 SX o.2 (some (vI o.1))) : G M 0 0 0 [(0, vA (some a0)), (1, vI x1)] [] SX σ := by
  unfold f_X11_image at h
  refine g_iload_n O dX11_image_0 rfl 1 rfl ?_
  refine g_if_lt O dX11_image_1 rfl (fun c1 => ?_) (fun c1 => ?_)
  · replace h := (if_pos c1).symm.trans h
    refine g_iconst (v := (0 : Int32)) O dX11_image_9 rfl ?_
    cases h
    exact g_zreturn O (by decide) K dX11_image_10
  · replace h := (if_neg c1).symm.trans h
    refine g_iload_n O dX11_image_4 rfl 1 rfl ?_
    refine g_iconst (v := (3 : Int32)) O dX11_image_5 rfl ?_
    refine g_icmp_lt O dX11_image_6 rfl (fun c2 => ?_) (fun c2 => ?_)
    · replace h := (if_pos c2).symm.trans h
      refine g_aload_n O dX11_image_11 rfl 0 rfl ?_
      obtain ⟨v3, e4, h⟩ := bo_some h
      refine g_getR O dX11_image_12 fl_X11_16 rfl e4 ?_
      refine g_iload_n O dX11_image_15 rfl 1 rfl ?_
      obtain ⟨v5, e6, h⟩ := bo_some h
      refine g_aaload (kd := 18) O dX11_image_16 (by decide) (by decide) e6 ?_
      refine g_aload_n O dX11_image_17 rfl 0 rfl ?_
      obtain ⟨v7, e8, h⟩ := bo_some h
      refine g_getR O dX11_image_18 fl_X11_12 rfl e8 ?_
      obtain ⟨a9, e10, h⟩ := bo_some h
      obtain ⟨v11, σ12, e13, h⟩ := bd_some h
      refine g_cV0 O R0 N dX11_image_21 vl_X11_288 vv_X8_copyFrom e10 [vA v7] rfl rfl rfl ⟨Nat.le_of_ble_eq_true rfl, Nat.le_of_ble_eq_true rfl⟩ (c_X8_copyFrom l0 a9 v7 σ v11 σ12 e13) ?_
      refine g_aload_n O dX11_image_24 rfl 0 rfl ?_
      obtain ⟨v14, e15, h⟩ := bo_some h
      refine g_getR O dX11_image_25 fl_X11_20 rfl e15 ?_
      refine g_iload_n O dX11_image_28 rfl 1 rfl ?_
      refine g_iconst (v := (1 : Int32)) O dX11_image_29 rfl ?_
      obtain ⟨σ16, e17, h⟩ := bo_some h
      refine g_bastore O N dX11_image_30 e17 ?_
      refine g_iconst (v := (1 : Int32)) O dX11_image_31 rfl ?_
      cases h
      exact g_zreturn O (by decide) K dX11_image_32
    · replace h := (if_neg c2).symm.trans h
      refine g_iconst (v := (0 : Int32)) O dX11_image_9 rfl ?_
      cases h
      exact g_zreturn O (by decide) K dX11_image_10
theorem c_X11_image (l0 : Launch) (a0 : Nat) (x1 : Int32) (σ : Dt) (r : Int32) (σ' : Dt) (h : f_X11_image a0 x1 σ = some (r, σ')) : Ctr l0 yX11_image cX11_image 2 (some .boolean) false 4 123 0 0 [vA (some a0), vI x1] SX σ SX σ' (some (vI r)) := ctr_of (by decide) (Nat.le_of_ble_eq_true rfl) (fun M O F R0 N hn => t_X11_image O R0 N hn a0 x1 σ (r, σ') h F)
def f_X11_again (a0 : Nat) (x1 : Int32) (σ : Dt) : Option (Int32 × Dt) := if x1 < 0 then some ((0 : Int32), σ) else if (3 : Int32) ≤ x1 then some ((0 : Int32), σ) else bo (xgr SX 11 2 (some a0) σ) fun v3 => bo (xaz SX v3 x1 σ) fun v5 => if v5 = 0 then some ((0 : Int32), σ) else bo (xgr SX 11 0 (some a0) σ) fun v8 => bo (xgr SX 11 1 (some a0) σ) fun v10 => bo (xar SX 18 v10 x1 σ) fun v12 => bo (xrc SX 8 v8) fun a14 => bd (f_X8_copyFrom a14 v12 σ) fun v16 σ17 => some ((1 : Int32), σ17)
theorem t_X11_again {M : Mx} {l0 : Launch} (O : Ok M cX11_again yX11_again) (R0 : Rm M l0 4 123 0 0) (N : Ma M = false) (hn : Mn M = 2) (a0 : Nat) (x1 : Int32) (σ : Dt) (o : (Int32 × Dt)) (h : f_X11_again a0 x1 σ = some o) (K : Fin' M (some .boolean) 0 0 SX o.2 (some (vI o.1))) : G M 0 0 0 [(0, vA (some a0)), (1, vI x1)] [] SX σ := by
  unfold f_X11_again at h
  refine g_iload_n O dX11_again_0 rfl 1 rfl ?_
  refine g_if_lt O dX11_again_1 rfl (fun c1 => ?_) (fun c1 => ?_)
  · replace h := (if_pos c1).symm.trans h
    refine g_iconst (v := (0 : Int32)) O dX11_again_18 rfl ?_
    cases h
    exact g_zreturn O (by decide) K dX11_again_19
  · replace h := (if_neg c1).symm.trans h
    refine g_iload_n O dX11_again_4 rfl 1 rfl ?_
    refine g_iconst (v := (3 : Int32)) O dX11_again_5 rfl ?_
    refine g_icmp_ge O dX11_again_6 rfl (fun c2 => ?_) (fun c2 => ?_)
    · replace h := (if_pos c2).symm.trans h
      refine g_iconst (v := (0 : Int32)) O dX11_again_18 rfl ?_
      cases h
      exact g_zreturn O (by decide) K dX11_again_19
    · replace h := (if_neg c2).symm.trans h
      refine g_aload_n O dX11_again_9 rfl 0 rfl ?_
      obtain ⟨v3, e4, h⟩ := bo_some h
      refine g_getR O dX11_again_10 fl_X11_20 rfl e4 ?_
      refine g_iload_n O dX11_again_13 rfl 1 rfl ?_
      obtain ⟨v5, e6, h⟩ := bo_some h
      refine g_baload O dX11_again_14 e6 ?_
      refine g_if_ne O dX11_again_15 rfl (fun c7 => ?_) (fun c7 => ?_)
      · replace h := (if_pos c7).symm.trans h
        refine g_iconst (v := (0 : Int32)) O dX11_again_18 rfl ?_
        cases h
        exact g_zreturn O (by decide) K dX11_again_19
      · replace h := (if_neg c7).symm.trans h
        refine g_aload_n O dX11_again_20 rfl 0 rfl ?_
        obtain ⟨v8, e9, h⟩ := bo_some h
        refine g_getR O dX11_again_21 fl_X11_12 rfl e9 ?_
        refine g_aload_n O dX11_again_24 rfl 0 rfl ?_
        obtain ⟨v10, e11, h⟩ := bo_some h
        refine g_getR O dX11_again_25 fl_X11_16 rfl e11 ?_
        refine g_iload_n O dX11_again_28 rfl 1 rfl ?_
        obtain ⟨v12, e13, h⟩ := bo_some h
        refine g_aaload (kd := 18) O dX11_again_29 (by decide) (by decide) e13 ?_
        obtain ⟨a14, e15, h⟩ := bo_some h
        obtain ⟨v16, σ17, e18, h⟩ := bd_some h
        refine g_cV0 O R0 N dX11_again_30 vl_X11_288 vv_X8_copyFrom e15 [vA v12] rfl rfl rfl ⟨Nat.le_of_ble_eq_true rfl, Nat.le_of_ble_eq_true rfl⟩ (c_X8_copyFrom l0 a14 v12 σ v16 σ17 e18) ?_
        refine g_iconst (v := (1 : Int32)) O dX11_again_33 rfl ?_
        cases h
        exact g_zreturn O (by decide) K dX11_again_34
theorem c_X11_again (l0 : Launch) (a0 : Nat) (x1 : Int32) (σ : Dt) (r : Int32) (σ' : Dt) (h : f_X11_again a0 x1 σ = some (r, σ')) : Ctr l0 yX11_again cX11_again 2 (some .boolean) false 4 123 0 0 [vA (some a0), vI x1] SX σ SX σ' (some (vI r)) := ctr_of (by decide) (Nat.le_of_ble_eq_true rfl) (fun M O F R0 N hn => t_X11_again O R0 N hn a0 x1 σ (r, σ') h F)
def f_X12_isIn_14  (σ : Dt) : Option Int32 := some (0 : Int32)
theorem t_X12_isIn_14 {M : Mx} {l0 : Launch} (O : Ok M cX12_isIn yX12_isIn) (R0 : Rm M l0 2 80 0 0) (N : Ma M = false) (hn : Mn M = 3)   (σ : Dt) (o : Int32) (h : f_X12_isIn_14 σ = some o) (K : Fin' M (some .boolean) 0 0 SM σ (some (vI o))) : G M 0 0 14 [] [] SM σ := by
  unfold f_X12_isIn_14 at h
  refine g_iconst (v := (0 : Int32)) O dX12_isIn_14 rfl ?_
  cases h
  exact g_zreturn O (by decide) K dX12_isIn_15
def f_X12_isIn (x0 : Int32) (x1 : Int32) (x2 : Int32) (σ : Dt) : Option Int32 := if x0 < x1 then f_X12_isIn_14 σ else if x2 < x0 then f_X12_isIn_14 σ else some (1 : Int32)
theorem t_X12_isIn {M : Mx} {l0 : Launch} (O : Ok M cX12_isIn yX12_isIn) (R0 : Rm M l0 2 80 0 0) (N : Ma M = false) (hn : Mn M = 3) (x0 : Int32) (x1 : Int32) (x2 : Int32) (σ : Dt) (o : Int32) (h : f_X12_isIn x0 x1 x2 σ = some o) (K : Fin' M (some .boolean) 0 0 SM σ (some (vI o))) : G M 0 0 0 [(0, vI x0), (1, vI x1), (2, vI x2)] [] SM σ := by
  unfold f_X12_isIn at h
  refine g_iload_n O dX12_isIn_0 rfl 0 rfl ?_
  refine g_iload_n O dX12_isIn_1 rfl 1 rfl ?_
  refine g_icmp_lt O dX12_isIn_2 rfl (fun c1 => ?_) (fun c1 => ?_)
  · replace h := (if_pos c1).symm.trans h
    refine g_sub [] (lv' := []) rfl ?_
    exact t_X12_isIn_14 O R0 N hn σ o h K
  · replace h := (if_neg c1).symm.trans h
    refine g_iload_n O dX12_isIn_5 rfl 0 rfl ?_
    refine g_iload_n O dX12_isIn_6 rfl 2 rfl ?_
    refine g_icmp_gt O dX12_isIn_7 rfl (fun c2 => ?_) (fun c2 => ?_)
    · replace h := (if_pos c2).symm.trans h
      refine g_sub [] (lv' := []) rfl ?_
      exact t_X12_isIn_14 O R0 N hn σ o h K
    · replace h := (if_neg c2).symm.trans h
      refine g_iconst (v := (1 : Int32)) O dX12_isIn_10 rfl ?_
      refine g_goto O dX12_isIn_11 rfl ?_
      cases h
      exact g_zreturn O (by decide) K dX12_isIn_15
theorem c_X12_isIn (l0 : Launch) (x0 : Int32) (x1 : Int32) (x2 : Int32) (σ : Dt) (r : Int32) (h : f_X12_isIn x0 x1 x2 σ = some r) : Ctr l0 yX12_isIn cX12_isIn 3 (some .boolean) false 2 80 0 0 [vI x0, vI x1, vI x2] SM σ SM σ (some (vI r)) := ctr_of (by decide) (Nat.le_of_ble_eq_true rfl) (fun M O F R0 N hn => t_X12_isIn O R0 N hn x0 x1 x2 σ r h F)
def P_X12_feed_20 (M : Mx) (a0 : Nat) (x1 : Int32) (x2 : Int32) (x3 : Int32) (x4 : Int32) (x5 : Int32) (s : (Int32 × Dt)) : Prop := G M 0 0 20 [(0, vA (some a0)), (1, vI x1), (2, vI x2), (3, vI x3), (4, vI x4), (5, vI x5), (6, vI s.1)] [] SM s.2
def E_X12_feed_20 (M : Mx) (a0 : Nat) (x1 : Int32) (x2 : Int32) (x3 : Int32) (x4 : Int32) (x5 : Int32) : Dt → Prop := (fun w => G M 0 0 122 [(0, vA (some a0))] [] SM w)
def f_X12_feed_73 (a0 : Nat) (x1 : Int32) (x2 : Int32) (x3 : Int32) (x4 : Int32) (x5 : Int32) (x6 : Int32) (k0 : Int32) (σ : Dt) : Option ((Int32 × Dt) ⊕ Dt) := bo (xgr SM 12 0 (some a0) σ) fun v1 => bo (xgr SM 12 0 (some a0) σ) fun v3 => bo (xai SM v3 (4 : Int32) σ) fun v5 => bo (xsi SM v1 ((10 : Int32) + v5) ((k0 >>> (((24 : Int32) - ((8 : Int32) * (x6 - x6 / (4 : Int32) * (4 : Int32)))) &&& 31)) &&& (255 : Int32)) σ) fun σ7 => bo (xgr SM 12 0 (some a0) σ7) fun v9 => bo (xai SM v9 (4 : Int32) σ7) fun v11 => bo (xsi SM v9 (4 : Int32) (v11 + (1 : Int32)) σ7) fun σ13 => some (.inl ((x6 + (1 : Int32)), σ13))
theorem t_X12_feed_73 {M : Mx} {l0 : Launch} (O : Ok M cX12_feed yX12_feed) (R0 : Rm M l0 2 80 0 0) (N : Ma M = false) (hn : Mn M = 8)  (a0 : Nat) (x1 : Int32) (x2 : Int32) (x3 : Int32) (x4 : Int32) (x5 : Int32) (x6 : Int32) (k0 : Int32) (σ : Dt) (o : ((Int32 × Dt) ⊕ Dt)) (h : f_X12_feed_73 a0 x1 x2 x3 x4 x5 x6 k0 σ = some o) (K : kon (P_X12_feed_20 M a0 x1 x2 x3 x4 x5) (E_X12_feed_20 M a0 x1 x2 x3 x4 x5) o) : G M 0 0 73 [(0, vA (some a0)), (1, vI x1), (2, vI x2), (3, vI x3), (4, vI x4), (5, vI x5), (6, vI x6)] [vI k0] SM σ := by
  unfold f_X12_feed_73 at h
  refine g_istore (lv' := [(7, vI k0), (0, vA (some a0)), (1, vI x1), (2, vI x2), (3, vI x3), (4, vI x4), (5, vI x5), (6, vI x6)]) O dX12_feed_73 8 hn (by decide) rfl ?_
  refine g_aload_n O dX12_feed_75 rfl 1 rfl ?_
  obtain ⟨v1, e2, h⟩ := bo_some h
  refine g_getR O dX12_feed_76 fl_X12_7 rfl e2 ?_
  refine g_bipush (v := (10 : Int32)) O dX12_feed_79 rfl ?_
  refine g_aload_n O dX12_feed_81 rfl 1 rfl ?_
  obtain ⟨v3, e4, h⟩ := bo_some h
  refine g_getR O dX12_feed_82 fl_X12_7 rfl e4 ?_
  refine g_iconst (v := (4 : Int32)) O dX12_feed_85 rfl ?_
  obtain ⟨v5, e6, h⟩ := bo_some h
  refine g_iaload O dX12_feed_86 e6 ?_
  refine g_iadd O dX12_feed_87 ?_
  refine g_iload O dX12_feed_88 0 rfl ?_
  refine g_bipush (v := (24 : Int32)) O dX12_feed_90 rfl ?_
  refine g_bipush (v := (8 : Int32)) O dX12_feed_92 rfl ?_
  refine g_iload O dX12_feed_94 7 rfl ?_
  refine g_iconst (v := (4 : Int32)) O dX12_feed_96 rfl ?_
  refine g_irem O dX12_feed_97 (by decide) ?_
  refine g_imul O dX12_feed_98 ?_
  refine g_isub O dX12_feed_99 ?_
  refine g_ishr O dX12_feed_100 ?_
  refine g_sipush (v := (255 : Int32)) O dX12_feed_101 rfl ?_
  refine g_iand O dX12_feed_104 ?_
  obtain ⟨σ7, e8, h⟩ := bo_some h
  refine g_iastore O dX12_feed_105 e8 ?_
  refine g_aload_n O dX12_feed_106 rfl 1 rfl ?_
  obtain ⟨v9, e10, h⟩ := bo_some h
  refine g_getR O dX12_feed_107 fl_X12_7 rfl e10 ?_
  refine g_iconst (v := (4 : Int32)) O dX12_feed_110 rfl ?_
  refine g_dup2 O dX12_feed_111 rfl rfl ?_
  obtain ⟨v11, e12, h⟩ := bo_some h
  refine g_iaload O dX12_feed_112 e12 ?_
  refine g_iconst (v := (1 : Int32)) O dX12_feed_113 rfl ?_
  refine g_iadd O dX12_feed_114 ?_
  obtain ⟨σ13, e14, h⟩ := bo_some h
  refine g_iastore O dX12_feed_115 e14 ?_
  refine g_iinc (v := (x6 + (1 : Int32))) (lv' := [(6, vI (x6 + (1 : Int32))), (7, vI k0), (0, vA (some a0)), (1, vI x1), (2, vI x2), (3, vI x3), (4, vI x4), (5, vI x5)]) O dX12_feed_116 8 hn (by decide) 7 rfl rfl rfl ?_
  refine g_goto O dX12_feed_119 rfl ?_
  refine g_sub [2, 3, 4, 5, 6, 7, 0] (lv' := [(0, vA (some a0)), (1, vI x1), (2, vI x2), (3, vI x3), (4, vI x4), (5, vI x5), (6, vI (x6 + (1 : Int32)))]) rfl ?_
  cases h
  exact K
def f_X12_feed_L20 (a0 : Nat) (x1 : Int32) (x2 : Int32) (x3 : Int32) (x4 : Int32) (x5 : Int32) (x6 : Int32) (σ : Dt) : Option ((Int32 × Dt) ⊕ Dt) := if (20 : Int32) ≤ x6 then some (.inr σ) else if (4 : Int32) ≤ x6 then if (8 : Int32) ≤ x6 then if (12 : Int32) ≤ x6 then if (16 : Int32) ≤ x6 then f_X12_feed_73 a0 x1 x2 x3 x4 x5 x6 x5 σ else f_X12_feed_73 a0 x1 x2 x3 x4 x5 x6 x4 σ else f_X12_feed_73 a0 x1 x2 x3 x4 x5 x6 x3 σ else f_X12_feed_73 a0 x1 x2 x3 x4 x5 x6 x2 σ else f_X12_feed_73 a0 x1 x2 x3 x4 x5 x6 x1 σ
theorem t_X12_feed_L20 {M : Mx} {l0 : Launch} (O : Ok M cX12_feed yX12_feed) (R0 : Rm M l0 2 80 0 0) (N : Ma M = false) (hn : Mn M = 8) (a0 : Nat) (x1 : Int32) (x2 : Int32) (x3 : Int32) (x4 : Int32) (x5 : Int32) (x6 : Int32) (σ : Dt) (o : ((Int32 × Dt) ⊕ Dt)) (h : f_X12_feed_L20 a0 x1 x2 x3 x4 x5 x6 σ = some o) (K : kon (P_X12_feed_20 M a0 x1 x2 x3 x4 x5) (E_X12_feed_20 M a0 x1 x2 x3 x4 x5) o) : G M 0 0 20 [(0, vA (some a0)), (1, vI x1), (2, vI x2), (3, vI x3), (4, vI x4), (5, vI x5), (6, vI x6)] [] SM σ := by
  unfold f_X12_feed_L20 at h
  refine g_iload O dX12_feed_20 6 rfl ?_
  refine g_bipush (v := (20 : Int32)) O dX12_feed_22 rfl ?_
  refine g_icmp_ge O dX12_feed_24 rfl (fun c1 => ?_) (fun c1 => ?_)
  · replace h := (if_pos c1).symm.trans h
    refine g_sub [0] (lv' := [(0, vA (some a0))]) rfl ?_
    cases h
    exact K
  · replace h := (if_neg c1).symm.trans h
    refine g_iload O dX12_feed_27 6 rfl ?_
    refine g_iconst (v := (4 : Int32)) O dX12_feed_29 rfl ?_
    refine g_icmp_ge O dX12_feed_30 rfl (fun c2 => ?_) (fun c2 => ?_)
    · replace h := (if_pos c2).symm.trans h
      refine g_iload O dX12_feed_37 6 rfl ?_
      refine g_bipush (v := (8 : Int32)) O dX12_feed_39 rfl ?_
      refine g_icmp_ge O dX12_feed_41 rfl (fun c3 => ?_) (fun c3 => ?_)
      · replace h := (if_pos c3).symm.trans h
        refine g_iload O dX12_feed_48 6 rfl ?_
        refine g_bipush (v := (12 : Int32)) O dX12_feed_50 rfl ?_
        refine g_icmp_ge O dX12_feed_52 rfl (fun c4 => ?_) (fun c4 => ?_)
        · replace h := (if_pos c4).symm.trans h
          refine g_iload O dX12_feed_59 6 rfl ?_
          refine g_bipush (v := (16 : Int32)) O dX12_feed_61 rfl ?_
          refine g_icmp_ge O dX12_feed_63 rfl (fun c5 => ?_) (fun c5 => ?_)
          · replace h := (if_pos c5).symm.trans h
            refine g_iload O dX12_feed_71 5 rfl ?_
            exact t_X12_feed_73 O R0 N hn a0 x1 x2 x3 x4 x5 x6 x5 σ o h K
          · replace h := (if_neg c5).symm.trans h
            refine g_iload O dX12_feed_66 4 rfl ?_
            refine g_goto O dX12_feed_68 rfl ?_
            exact t_X12_feed_73 O R0 N hn a0 x1 x2 x3 x4 x5 x6 x4 σ o h K
        · replace h := (if_neg c4).symm.trans h
          refine g_iload_n O dX12_feed_55 rfl 3 rfl ?_
          refine g_goto O dX12_feed_56 rfl ?_
          exact t_X12_feed_73 O R0 N hn a0 x1 x2 x3 x4 x5 x6 x3 σ o h K
      · replace h := (if_neg c3).symm.trans h
        refine g_iload_n O dX12_feed_44 rfl 2 rfl ?_
        refine g_goto O dX12_feed_45 rfl ?_
        exact t_X12_feed_73 O R0 N hn a0 x1 x2 x3 x4 x5 x6 x2 σ o h K
    · replace h := (if_neg c2).symm.trans h
      refine g_iload_n O dX12_feed_33 rfl 1 rfl ?_
      refine g_goto O dX12_feed_34 rfl ?_
      exact t_X12_feed_73 O R0 N hn a0 x1 x2 x3 x4 x5 x6 x1 σ o h K
def f_X12_feed (a0 : Nat) (x1 : Int32) (x2 : Int32) (x3 : Int32) (x4 : Int32) (x5 : Int32) (σ : Dt) : Option (Int32 × Dt) := bo (xgr SM 12 0 (some a0) σ) fun v1 => bo (xai SM v1 (4 : Int32) σ) fun v3 => if (v3 + (20 : Int32)) ≤ (600 : Int32) then bo (iter FU (fun s => f_X12_feed_L20 a0 x1 x2 x3 x4 x5 s.1 s.2) ((0 : Int32), σ)) fun w6 => bo (xgr SM 12 0 (some a0) w6) fun v8 => bo (xai SM v8 (4 : Int32) w6) fun v10 => some (v10, w6) else some ((-1 : Int32), σ)
theorem t_X12_feed {M : Mx} {l0 : Launch} (O : Ok M cX12_feed yX12_feed) (R0 : Rm M l0 2 80 0 0) (N : Ma M = false) (hn : Mn M = 8) (a0 : Nat) (x1 : Int32) (x2 : Int32) (x3 : Int32) (x4 : Int32) (x5 : Int32) (σ : Dt) (o : (Int32 × Dt)) (h : f_X12_feed a0 x1 x2 x3 x4 x5 σ = some o) (K : Fin' M (some .int) 0 0 SM o.2 (some (vI o.1))) : G M 0 0 0 [(0, vA (some a0)), (1, vI x1), (2, vI x2), (3, vI x3), (4, vI x4), (5, vI x5)] [] SM σ := by
  unfold f_X12_feed at h
  refine g_aload_n O dX12_feed_0 rfl 0 rfl ?_
  obtain ⟨v1, e2, h⟩ := bo_some h
  refine g_getR O dX12_feed_1 fl_X12_7 rfl e2 ?_
  refine g_iconst (v := (4 : Int32)) O dX12_feed_4 rfl ?_
  obtain ⟨v3, e4, h⟩ := bo_some h
  refine g_iaload O dX12_feed_5 e4 ?_
  refine g_bipush (v := (20 : Int32)) O dX12_feed_6 rfl ?_
  refine g_iadd O dX12_feed_8 ?_
  refine g_sipush (v := (600 : Int32)) O dX12_feed_9 rfl ?_
  refine g_icmp_le O dX12_feed_12 rfl (fun c5 => ?_) (fun c5 => ?_)
  · replace h := (if_pos c5).symm.trans h
    refine g_iconst (v := (0 : Int32)) O dX12_feed_17 rfl ?_
    refine g_istore (lv' := [(6, vI (0 : Int32)), (0, vA (some a0)), (1, vI x1), (2, vI x2), (3, vI x3), (4, vI x4), (5, vI x5)]) O dX12_feed_18 8 hn (by decide) rfl ?_
    refine g_sub [1, 2, 3, 4, 5, 6, 0] (lv' := [(0, vA (some a0)), (1, vI x1), (2, vI x2), (3, vI x3), (4, vI x4), (5, vI x5), (6, vI (0 : Int32))]) rfl ?_
    obtain ⟨w6, e7, h⟩ := bo_some h
    refine iter_G (P := P_X12_feed_20 M a0 x1 x2 x3 x4 x5) (E := E_X12_feed_20 M a0 x1 x2 x3 x4 x5) (fun s o hb hk => t_X12_feed_L20 O R0 N hn a0 x1 x2 x3 x4 x5 s.1 s.2 o hb hk) FU ((0 : Int32), σ) w6 e7 ?_
    show G M 0 0 122 [(0, vA (some a0))] [] SM w6
    refine g_aload_n O dX12_feed_122 rfl 0 rfl ?_
    obtain ⟨v8, e9, h⟩ := bo_some h
    refine g_getR O dX12_feed_123 fl_X12_7 rfl e9 ?_
    refine g_iconst (v := (4 : Int32)) O dX12_feed_126 rfl ?_
    obtain ⟨v10, e11, h⟩ := bo_some h
    refine g_iaload O dX12_feed_127 e11 ?_
    cases h
    exact g_ireturn O K dX12_feed_128
  · replace h := (if_neg c5).symm.trans h
    refine g_iconst (v := (-1 : Int32)) O dX12_feed_15 rfl ?_
    cases h
    exact g_ireturn O K dX12_feed_16
theorem c_X12_feed (l0 : Launch) (a0 : Nat) (x1 : Int32) (x2 : Int32) (x3 : Int32) (x4 : Int32) (x5 : Int32) (σ : Dt) (r : Int32) (σ' : Dt) (h : f_X12_feed a0 x1 x2 x3 x4 x5 σ = some (r, σ')) : Ctr l0 yX12_feed cX12_feed 8 (some .int) false 2 80 0 0 [vA (some a0), vI x1, vI x2, vI x3, vI x4, vI x5] SM σ SM σ' (some (vI r)) := ctr_of (by decide) (Nat.le_of_ble_eq_true rfl) (fun M O F R0 N hn => t_X12_feed O R0 N hn a0 x1 x2 x3 x4 x5 σ (r, σ') h F)
def f_X12_end (a0 : Nat) (x1 : Int32) (σ : Dt) : Option (Int32 × Dt) := if x1 < 0 then some ((-1 : Int32), σ) else bo (xgr SM 12 0 (some a0) σ) fun v2 => bo (xai SM v2 (4 : Int32) σ) fun v4 => if x1 ≤ v4 then bo (xgr SM 12 0 (some a0) σ) fun v7 => bo (xsi SM v7 (4 : Int32) x1 σ) fun σ9 => some (x1, σ9) else some ((-1 : Int32), σ)
theorem t_X12_end {M : Mx} {l0 : Launch} (O : Ok M cX12_end yX12_end) (R0 : Rm M l0 2 80 0 0) (N : Ma M = false) (hn : Mn M = 2) (a0 : Nat) (x1 : Int32) (σ : Dt) (o : (Int32 × Dt)) (h : f_X12_end a0 x1 σ = some o) (K : Fin' M (some .int) 0 0 SM o.2 (some (vI o.1))) : G M 0 0 0 [(0, vA (some a0)), (1, vI x1)] [] SM σ := by
  unfold f_X12_end at h
  refine g_iload_n O dX12_end_0 rfl 1 rfl ?_
  refine g_if_lt O dX12_end_1 rfl (fun c1 => ?_) (fun c1 => ?_)
  · replace h := (if_pos c1).symm.trans h
    refine g_iconst (v := (-1 : Int32)) O dX12_end_14 rfl ?_
    cases h
    exact g_ireturn O K dX12_end_15
  · replace h := (if_neg c1).symm.trans h
    refine g_iload_n O dX12_end_4 rfl 1 rfl ?_
    refine g_aload_n O dX12_end_5 rfl 0 rfl ?_
    obtain ⟨v2, e3, h⟩ := bo_some h
    refine g_getR O dX12_end_6 fl_X12_7 rfl e3 ?_
    refine g_iconst (v := (4 : Int32)) O dX12_end_9 rfl ?_
    obtain ⟨v4, e5, h⟩ := bo_some h
    refine g_iaload O dX12_end_10 e5 ?_
    refine g_icmp_le O dX12_end_11 rfl (fun c6 => ?_) (fun c6 => ?_)
    · replace h := (if_pos c6).symm.trans h
      refine g_aload_n O dX12_end_16 rfl 0 rfl ?_
      obtain ⟨v7, e8, h⟩ := bo_some h
      refine g_getR O dX12_end_17 fl_X12_7 rfl e8 ?_
      refine g_iconst (v := (4 : Int32)) O dX12_end_20 rfl ?_
      refine g_iload_n O dX12_end_21 rfl 1 rfl ?_
      obtain ⟨σ9, e10, h⟩ := bo_some h
      refine g_iastore O dX12_end_22 e10 ?_
      refine g_iload_n O dX12_end_23 rfl 1 rfl ?_
      cases h
      exact g_ireturn O K dX12_end_24
    · replace h := (if_neg c6).symm.trans h
      refine g_iconst (v := (-1 : Int32)) O dX12_end_14 rfl ?_
      cases h
      exact g_ireturn O K dX12_end_15
theorem c_X12_end (l0 : Launch) (a0 : Nat) (x1 : Int32) (σ : Dt) (r : Int32) (σ' : Dt) (h : f_X12_end a0 x1 σ = some (r, σ')) : Ctr l0 yX12_end cX12_end 2 (some .int) false 2 80 0 0 [vA (some a0), vI x1] SM σ SM σ' (some (vI r)) := ctr_of (by decide) (Nat.le_of_ble_eq_true rfl) (fun M O F R0 N hn => t_X12_end O R0 N hn a0 x1 σ (r, σ') h F)
def f_X12_byteAt (a0 : Nat) (x1 : Int32) (σ : Dt) : Option Int32 := bo (xgi SM 12 2 (some a0) σ) fun v1 => if v1 ≤ x1 then some (-1 : Int32) else bo (xgr SM 12 0 (some a0) σ) fun v4 => bo (xai SM v4 ((10 : Int32) + x1) σ) fun v6 => some v6
theorem t_X12_byteAt {M : Mx} {l0 : Launch} (O : Ok M cX12_byteAt yX12_byteAt) (R0 : Rm M l0 2 80 0 0) (N : Ma M = false) (hn : Mn M = 2) (a0 : Nat) (x1 : Int32) (σ : Dt) (o : Int32) (h : f_X12_byteAt a0 x1 σ = some o) (K : Fin' M (some .int) 0 0 SM σ (some (vI o))) : G M 0 0 0 [(0, vA (some a0)), (1, vI x1)] [] SM σ := by
  unfold f_X12_byteAt at h
  refine g_iload_n O dX12_byteAt_0 rfl 1 rfl ?_
  refine g_aload_n O dX12_byteAt_1 rfl 0 rfl ?_
  obtain ⟨v1, e2, h⟩ := bo_some h
  refine g_getI O dX12_byteAt_2 fl_X12_91 rfl e2 ?_
  refine g_icmp_ge O dX12_byteAt_5 rfl (fun c3 => ?_) (fun c3 => ?_)
  · replace h := (if_pos c3).symm.trans h
    refine g_iconst (v := (-1 : Int32)) O dX12_byteAt_20 rfl ?_
    cases h
    exact g_ireturn O K dX12_byteAt_21
  · replace h := (if_neg c3).symm.trans h
    refine g_aload_n O dX12_byteAt_8 rfl 0 rfl ?_
    obtain ⟨v4, e5, h⟩ := bo_some h
    refine g_getR O dX12_byteAt_9 fl_X12_7 rfl e5 ?_
    refine g_bipush (v := (10 : Int32)) O dX12_byteAt_12 rfl ?_
    refine g_iload_n O dX12_byteAt_14 rfl 1 rfl ?_
    refine g_iadd O dX12_byteAt_15 ?_
    obtain ⟨v6, e7, h⟩ := bo_some h
    refine g_iaload O dX12_byteAt_16 e7 ?_
    refine g_goto O dX12_byteAt_17 rfl ?_
    cases h
    exact g_ireturn O K dX12_byteAt_21
theorem c_X12_byteAt (l0 : Launch) (a0 : Nat) (x1 : Int32) (σ : Dt) (r : Int32) (h : f_X12_byteAt a0 x1 σ = some r) : Ctr l0 yX12_byteAt cX12_byteAt 2 (some .int) false 2 80 0 0 [vA (some a0), vI x1] SM σ SM σ (some (vI r)) := ctr_of (by decide) (Nat.le_of_ble_eq_true rfl) (fun M O F R0 N hn => t_X12_byteAt O R0 N hn a0 x1 σ r h F)
def f_X12_isLetter_16  (σ : Dt) : Option Int32 := some (0 : Int32)
theorem t_X12_isLetter_16 {M : Mx} {l0 : Launch} (O : Ok M cX12_isLetter yX12_isLetter) (R0 : Rm M l0 2 80 0 0) (N : Ma M = false) (hn : Mn M = 1)   (σ : Dt) (o : Int32) (h : f_X12_isLetter_16 σ = some o) (K : Fin' M (some .boolean) 0 0 SM σ (some (vI o))) : G M 0 0 16 [] [] SM σ := by
  unfold f_X12_isLetter_16 at h
  refine g_iconst (v := (0 : Int32)) O dX12_isLetter_16 rfl ?_
  cases h
  exact g_zreturn O (by decide) K dX12_isLetter_17
def f_X12_isLetter (x0 : Int32) (σ : Dt) : Option Int32 := if x0 < (97 : Int32) then f_X12_isLetter_16 σ else if (122 : Int32) < x0 then f_X12_isLetter_16 σ else some (1 : Int32)
theorem t_X12_isLetter {M : Mx} {l0 : Launch} (O : Ok M cX12_isLetter yX12_isLetter) (R0 : Rm M l0 2 80 0 0) (N : Ma M = false) (hn : Mn M = 1) (x0 : Int32) (σ : Dt) (o : Int32) (h : f_X12_isLetter x0 σ = some o) (K : Fin' M (some .boolean) 0 0 SM σ (some (vI o))) : G M 0 0 0 [(0, vI x0)] [] SM σ := by
  unfold f_X12_isLetter at h
  refine g_iload_n O dX12_isLetter_0 rfl 0 rfl ?_
  refine g_bipush (v := (97 : Int32)) O dX12_isLetter_1 rfl ?_
  refine g_icmp_lt O dX12_isLetter_3 rfl (fun c1 => ?_) (fun c1 => ?_)
  · replace h := (if_pos c1).symm.trans h
    refine g_sub [] (lv' := []) rfl ?_
    exact t_X12_isLetter_16 O R0 N hn σ o h K
  · replace h := (if_neg c1).symm.trans h
    refine g_iload_n O dX12_isLetter_6 rfl 0 rfl ?_
    refine g_bipush (v := (122 : Int32)) O dX12_isLetter_7 rfl ?_
    refine g_icmp_gt O dX12_isLetter_9 rfl (fun c2 => ?_) (fun c2 => ?_)
    · replace h := (if_pos c2).symm.trans h
      refine g_sub [] (lv' := []) rfl ?_
      exact t_X12_isLetter_16 O R0 N hn σ o h K
    · replace h := (if_neg c2).symm.trans h
      refine g_iconst (v := (1 : Int32)) O dX12_isLetter_12 rfl ?_
      refine g_goto O dX12_isLetter_13 rfl ?_
      cases h
      exact g_zreturn O (by decide) K dX12_isLetter_17
theorem c_X12_isLetter (l0 : Launch) (x0 : Int32) (σ : Dt) (r : Int32) (h : f_X12_isLetter x0 σ = some r) : Ctr l0 yX12_isLetter cX12_isLetter 1 (some .boolean) false 2 80 0 0 [vI x0] SM σ SM σ (some (vI r)) := ctr_of (by decide) (Nat.le_of_ble_eq_true rfl) (fun M O F R0 N hn => t_X12_isLetter O R0 N hn x0 σ r h F)
def f_X12_isDigit_16  (σ : Dt) : Option Int32 := some (0 : Int32)
theorem t_X12_isDigit_16 {M : Mx} {l0 : Launch} (O : Ok M cX12_isDigit yX12_isDigit) (R0 : Rm M l0 2 80 0 0) (N : Ma M = false) (hn : Mn M = 1)   (σ : Dt) (o : Int32) (h : f_X12_isDigit_16 σ = some o) (K : Fin' M (some .boolean) 0 0 SM σ (some (vI o))) : G M 0 0 16 [] [] SM σ := by
  unfold f_X12_isDigit_16 at h
  refine g_iconst (v := (0 : Int32)) O dX12_isDigit_16 rfl ?_
  cases h
  exact g_zreturn O (by decide) K dX12_isDigit_17
def f_X12_isDigit (x0 : Int32) (σ : Dt) : Option Int32 := if x0 < (48 : Int32) then f_X12_isDigit_16 σ else if (57 : Int32) < x0 then f_X12_isDigit_16 σ else some (1 : Int32)
theorem t_X12_isDigit {M : Mx} {l0 : Launch} (O : Ok M cX12_isDigit yX12_isDigit) (R0 : Rm M l0 2 80 0 0) (N : Ma M = false) (hn : Mn M = 1) (x0 : Int32) (σ : Dt) (o : Int32) (h : f_X12_isDigit x0 σ = some o) (K : Fin' M (some .boolean) 0 0 SM σ (some (vI o))) : G M 0 0 0 [(0, vI x0)] [] SM σ := by
  unfold f_X12_isDigit at h
  refine g_iload_n O dX12_isDigit_0 rfl 0 rfl ?_
  refine g_bipush (v := (48 : Int32)) O dX12_isDigit_1 rfl ?_
  refine g_icmp_lt O dX12_isDigit_3 rfl (fun c1 => ?_) (fun c1 => ?_)
  · replace h := (if_pos c1).symm.trans h
    refine g_sub [] (lv' := []) rfl ?_
    exact t_X12_isDigit_16 O R0 N hn σ o h K
  · replace h := (if_neg c1).symm.trans h
    refine g_iload_n O dX12_isDigit_6 rfl 0 rfl ?_
    refine g_bipush (v := (57 : Int32)) O dX12_isDigit_7 rfl ?_
    refine g_icmp_gt O dX12_isDigit_9 rfl (fun c2 => ?_) (fun c2 => ?_)
    · replace h := (if_pos c2).symm.trans h
      refine g_sub [] (lv' := []) rfl ?_
      exact t_X12_isDigit_16 O R0 N hn σ o h K
    · replace h := (if_neg c2).symm.trans h
      refine g_iconst (v := (1 : Int32)) O dX12_isDigit_12 rfl ?_
      refine g_goto O dX12_isDigit_13 rfl ?_
      cases h
      exact g_zreturn O (by decide) K dX12_isDigit_17
theorem c_X12_isDigit (l0 : Launch) (x0 : Int32) (σ : Dt) (r : Int32) (h : f_X12_isDigit x0 σ = some r) : Ctr l0 yX12_isDigit cX12_isDigit 1 (some .boolean) false 2 80 0 0 [vI x0] SM σ SM σ (some (vI r)) := ctr_of (by decide) (Nat.le_of_ble_eq_true rfl) (fun M O F R0 N hn => t_X12_isDigit O R0 N hn x0 σ r h F)
def f_X12_four (x0 : Int32) (x1 : Int32) (x2 : Int32) (x3 : Int32) (σ : Dt) : Option Int64 := some (Int32.toInt64 ((((((x0 * (32 : Int32)) + x1) * (32 : Int32)) + x2) * (32 : Int32)) + x3))
theorem t_X12_four {M : Mx} {l0 : Launch} (O : Ok M cX12_four yX12_four) (R0 : Rm M l0 2 80 0 0) (N : Ma M = false) (hn : Mn M = 4) (x0 : Int32) (x1 : Int32) (x2 : Int32) (x3 : Int32) (σ : Dt) (o : Int64) (h : f_X12_four x0 x1 x2 x3 σ = some o) (K : Fin' M (some .long) 0 0 SM σ (some (vJ o))) : G M 0 0 0 [(0, vI x0), (1, vI x1), (2, vI x2), (3, vI x3)] [] SM σ := by
  unfold f_X12_four at h
  refine g_iload_n O dX12_four_0 rfl 0 rfl ?_
  refine g_bipush (v := (32 : Int32)) O dX12_four_1 rfl ?_
  refine g_imul O dX12_four_3 ?_
  refine g_iload_n O dX12_four_4 rfl 1 rfl ?_
  refine g_iadd O dX12_four_5 ?_
  refine g_bipush (v := (32 : Int32)) O dX12_four_6 rfl ?_
  refine g_imul O dX12_four_8 ?_
  refine g_iload_n O dX12_four_9 rfl 2 rfl ?_
  refine g_iadd O dX12_four_10 ?_
  refine g_bipush (v := (32 : Int32)) O dX12_four_11 rfl ?_
  refine g_imul O dX12_four_13 ?_
  refine g_iload_n O dX12_four_14 rfl 3 rfl ?_
  refine g_iadd O dX12_four_15 ?_
  refine g_i2l O dX12_four_16 ?_
  cases h
  exact g_lreturn O K dX12_four_17
theorem c_X12_four (l0 : Launch) (x0 : Int32) (x1 : Int32) (x2 : Int32) (x3 : Int32) (σ : Dt) (r : Int64) (h : f_X12_four x0 x1 x2 x3 σ = some r) : Ctr l0 yX12_four cX12_four 4 (some .long) false 2 80 0 0 [vI x0, vI x1, vI x2, vI x3] SM σ SM σ (some (vJ r)) := ctr_of (by decide) (Nat.le_of_ble_eq_true rfl) (fun M O F R0 N hn => t_X12_four O R0 N hn x0 x1 x2 x3 σ r h F)
def f_X12_eight (x0 : Int32) (x1 : Int32) (x2 : Int32) (x3 : Int32) (x4 : Int32) (x5 : Int32) (x6 : Int32) (x7 : Int32) (σ : Dt) : Option Int64 := bo (f_X12_four x0 x1 x2 x3 σ) fun v1 => bo (f_X12_four x4 x5 x6 x7 σ) fun v3 => some ((v1 * (1048576 : Int64)) + v3)
theorem t_X12_eight {M : Mx} {l0 : Launch} (O : Ok M cX12_eight yX12_eight) (R0 : Rm M l0 3 103 0 0) (N : Ma M = false) (hn : Mn M = 8) (x0 : Int32) (x1 : Int32) (x2 : Int32) (x3 : Int32) (x4 : Int32) (x5 : Int32) (x6 : Int32) (x7 : Int32) (σ : Dt) (o : Int64) (h : f_X12_eight x0 x1 x2 x3 x4 x5 x6 x7 σ = some o) (K : Fin' M (some .long) 0 0 SM σ (some (vJ o))) : G M 0 0 0 [(0, vI x0), (1, vI x1), (2, vI x2), (3, vI x3), (4, vI x4), (5, vI x5), (6, vI x6), (7, vI x7)] [] SM σ := by
  unfold f_X12_eight at h
  refine g_iload_n O dX12_eight_0 rfl 0 rfl ?_
  refine g_iload_n O dX12_eight_1 rfl 1 rfl ?_
  refine g_iload_n O dX12_eight_2 rfl 2 rfl ?_
  refine g_iload_n O dX12_eight_3 rfl 3 rfl ?_
  obtain ⟨v1, e2, h⟩ := bo_some h
  refine g_cS1 O R0 N dX12_eight_4 vl_X12_95 w1639 [vI x0, vI x1, vI x2, vI x3] rfl rfl rfl ⟨Nat.le_of_ble_eq_true rfl, Nat.le_of_ble_eq_true rfl⟩ (c_X12_four l0 x0 x1 x2 x3 σ v1 e2) ?_
  refine g_ldc2 O dX12_eight_7 w1644 ?_
  refine g_lmul O dX12_eight_10 ?_
  refine g_iload O dX12_eight_11 4 rfl ?_
  refine g_iload O dX12_eight_13 5 rfl ?_
  refine g_iload O dX12_eight_15 6 rfl ?_
  refine g_iload O dX12_eight_17 7 rfl ?_
  obtain ⟨v3, e4, h⟩ := bo_some h
  refine g_cS1 O R0 N dX12_eight_19 vl_X12_95 w1639 [vI x4, vI x5, vI x6, vI x7] rfl rfl rfl ⟨Nat.le_of_ble_eq_true rfl, Nat.le_of_ble_eq_true rfl⟩ (c_X12_four l0 x4 x5 x6 x7 σ v3 e4) ?_
  refine g_ladd O dX12_eight_22 ?_
  cases h
  exact g_lreturn O K dX12_eight_23
theorem c_X12_eight (l0 : Launch) (x0 : Int32) (x1 : Int32) (x2 : Int32) (x3 : Int32) (x4 : Int32) (x5 : Int32) (x6 : Int32) (x7 : Int32) (σ : Dt) (r : Int64) (h : f_X12_eight x0 x1 x2 x3 x4 x5 x6 x7 σ = some r) : Ctr l0 yX12_eight cX12_eight 8 (some .long) false 3 103 0 0 [vI x0, vI x1, vI x2, vI x3, vI x4, vI x5, vI x6, vI x7] SM σ SM σ (some (vJ r)) := ctr_of (by decide) (Nat.le_of_ble_eq_true rfl) (fun M O F R0 N hn => t_X12_eight O R0 N hn x0 x1 x2 x3 x4 x5 x6 x7 σ r h F)
def f_X12_wordOf (y0 : Int64) (σ : Dt) : Option Int32 := bo (f_X12_four (6 : Int32) (15 : Int32) (12 : Int32) (11 : Int32) σ) fun v1 => if (lg_cmp y0 v1) = 0 then some (1 : Int32) else bo (f_X12_eight (0 : Int32) (0 : Int32) (0 : Int32) (3 : Int32) (8 : Int32) (9 : Int32) (12 : Int32) (4 : Int32) σ) fun v4 => if (lg_cmp y0 v4) = 0 then some (2 : Int32) else bo (f_X12_four (23 : Int32) (15 : Int32) (18 : Int32) (11 : Int32) σ) fun v7 => if (lg_cmp y0 v7) = 0 then some (3 : Int32) else bo (f_X12_eight (0 : Int32) (0 : Int32) (0 : Int32) (2 : Int32) (15 : Int32) (21 : Int32) (14 : Int32) (4 : Int32) σ) fun v10 => if (lg_cmp y0 v10) = 0 then some (4 : Int32) else bo (f_X12_eight (0 : Int32) (16 : Int32) (18 : Int32) (15 : Int32) (13 : Int32) (9 : Int32) (19 : Int32) (5 : Int32) σ) fun v13 => if (lg_cmp y0 v13) = 0 then some (5 : Int32) else bo (f_X12_four (2 : Int32) (15 : Int32) (18 : Int32) (14 : Int32) σ) fun v16 => if (lg_cmp y0 v16) = 0 then some (6 : Int32) else bo (f_X12_eight (0 : Int32) (0 : Int32) (0 : Int32) (3 : Int32) (15 : Int32) (22 : Int32) (5 : Int32) (18 : Int32) σ) fun v19 => if (lg_cmp y0 v19) = 0 then some (7 : Int32) else bo (f_X12_four (0 : Int32) (4 : Int32) (9 : Int32) (5 : Int32) σ) fun v22 => if (lg_cmp y0 v22) = 0 then some (8 : Int32) else bo (f_X12_four (25 : Int32) (5 : Int32) (1 : Int32) (18 : Int32) σ) fun v25 => if (lg_cmp y0 v25) = 0 then some (9 : Int32) else bo (f_X12_eight (0 : Int32) (0 : Int32) (0 : Int32) (25 : Int32) (5 : Int32) (1 : Int32) (18 : Int32) (19 : Int32) σ) fun v28 => if (lg_cmp y0 v28) = 0 then some (10 : Int32) else bo (f_X12_four (0 : Int32) (4 : Int32) (21 : Int32) (7 : Int32) σ) fun v31 => if (lg_cmp y0 v31) = 0 then some (11 : Int32) else some (99 : Int32)
theorem t_X12_wordOf {M : Mx} {l0 : Launch} (O : Ok M cX12_wordOf yX12_wordOf) (R0 : Rm M l0 4 130 0 0) (N : Ma M = false) (hn : Mn M = 2) (y0 : Int64) (σ : Dt) (o : Int32) (h : f_X12_wordOf y0 σ = some o) (K : Fin' M (some .int) 0 0 SM σ (some (vI o))) : G M 0 0 0 [(0, vJ y0)] [] SM σ := by
  unfold f_X12_wordOf at h
  refine g_lload_n O dX12_wordOf_0 rfl 0 rfl ?_
  refine g_bipush (v := (6 : Int32)) O dX12_wordOf_1 rfl ?_
  refine g_bipush (v := (15 : Int32)) O dX12_wordOf_3 rfl ?_
  refine g_bipush (v := (12 : Int32)) O dX12_wordOf_5 rfl ?_
  refine g_bipush (v := (11 : Int32)) O dX12_wordOf_7 rfl ?_
  obtain ⟨v1, e2, h⟩ := bo_some h
  refine g_cS1 O R0 N dX12_wordOf_9 vl_X12_95 w1639 [vI (6 : Int32), vI (15 : Int32), vI (12 : Int32), vI (11 : Int32)] rfl rfl rfl ⟨Nat.le_of_ble_eq_true rfl, Nat.le_of_ble_eq_true rfl⟩ (c_X12_four l0 (6 : Int32) (15 : Int32) (12 : Int32) (11 : Int32) σ v1 e2) ?_
  refine g_lcmp O dX12_wordOf_12 ?_
  refine g_if_ne O dX12_wordOf_13 rfl (fun c3 => ?_) (fun c3 => ?_)
  · replace h := (if_pos c3).symm.trans h
    refine g_iconst (v := (1 : Int32)) O dX12_wordOf_16 rfl ?_
    cases h
    exact g_ireturn O K dX12_wordOf_17
  · replace h := (if_neg c3).symm.trans h
    refine g_lload_n O dX12_wordOf_18 rfl 0 rfl ?_
    refine g_iconst (v := (0 : Int32)) O dX12_wordOf_19 rfl ?_
    refine g_iconst (v := (0 : Int32)) O dX12_wordOf_20 rfl ?_
    refine g_iconst (v := (0 : Int32)) O dX12_wordOf_21 rfl ?_
    refine g_iconst (v := (3 : Int32)) O dX12_wordOf_22 rfl ?_
    refine g_bipush (v := (8 : Int32)) O dX12_wordOf_23 rfl ?_
    refine g_bipush (v := (9 : Int32)) O dX12_wordOf_25 rfl ?_
    refine g_bipush (v := (12 : Int32)) O dX12_wordOf_27 rfl ?_
    refine g_iconst (v := (4 : Int32)) O dX12_wordOf_29 rfl ?_
    obtain ⟨v4, e5, h⟩ := bo_some h
    refine g_cS1 O R0 N dX12_wordOf_30 vl_X12_101 w1642 [vI (0 : Int32), vI (0 : Int32), vI (0 : Int32), vI (3 : Int32), vI (8 : Int32), vI (9 : Int32), vI (12 : Int32), vI (4 : Int32)] rfl rfl rfl ⟨Nat.le_of_ble_eq_true rfl, Nat.le_of_ble_eq_true rfl⟩ (c_X12_eight l0 (0 : Int32) (0 : Int32) (0 : Int32) (3 : Int32) (8 : Int32) (9 : Int32) (12 : Int32) (4 : Int32) σ v4 e5) ?_
    refine g_lcmp O dX12_wordOf_33 ?_
    refine g_if_ne O dX12_wordOf_34 rfl (fun c6 => ?_) (fun c6 => ?_)
    · replace h := (if_pos c6).symm.trans h
      refine g_iconst (v := (2 : Int32)) O dX12_wordOf_37 rfl ?_
      cases h
      exact g_ireturn O K dX12_wordOf_38
    · replace h := (if_neg c6).symm.trans h
      refine g_lload_n O dX12_wordOf_39 rfl 0 rfl ?_
      refine g_bipush (v := (23 : Int32)) O dX12_wordOf_40 rfl ?_
      refine g_bipush (v := (15 : Int32)) O dX12_wordOf_42 rfl ?_
      refine g_bipush (v := (18 : Int32)) O dX12_wordOf_44 rfl ?_
      refine g_bipush (v := (11 : Int32)) O dX12_wordOf_46 rfl ?_
      obtain ⟨v7, e8, h⟩ := bo_some h
      refine g_cS1 O R0 N dX12_wordOf_48 vl_X12_95 w1639 [vI (23 : Int32), vI (15 : Int32), vI (18 : Int32), vI (11 : Int32)] rfl rfl rfl ⟨Nat.le_of_ble_eq_true rfl, Nat.le_of_ble_eq_true rfl⟩ (c_X12_four l0 (23 : Int32) (15 : Int32) (18 : Int32) (11 : Int32) σ v7 e8) ?_
      refine g_lcmp O dX12_wordOf_51 ?_
      refine g_if_ne O dX12_wordOf_52 rfl (fun c9 => ?_) (fun c9 => ?_)
      · replace h := (if_pos c9).symm.trans h
        refine g_iconst (v := (3 : Int32)) O dX12_wordOf_55 rfl ?_
        cases h
        exact g_ireturn O K dX12_wordOf_56
      · replace h := (if_neg c9).symm.trans h
        refine g_lload_n O dX12_wordOf_57 rfl 0 rfl ?_
        refine g_iconst (v := (0 : Int32)) O dX12_wordOf_58 rfl ?_
        refine g_iconst (v := (0 : Int32)) O dX12_wordOf_59 rfl ?_
        refine g_iconst (v := (0 : Int32)) O dX12_wordOf_60 rfl ?_
        refine g_iconst (v := (2 : Int32)) O dX12_wordOf_61 rfl ?_
        refine g_bipush (v := (15 : Int32)) O dX12_wordOf_62 rfl ?_
        refine g_bipush (v := (21 : Int32)) O dX12_wordOf_64 rfl ?_
        refine g_bipush (v := (14 : Int32)) O dX12_wordOf_66 rfl ?_
        refine g_iconst (v := (4 : Int32)) O dX12_wordOf_68 rfl ?_
        obtain ⟨v10, e11, h⟩ := bo_some h
        refine g_cS1 O R0 N dX12_wordOf_69 vl_X12_101 w1642 [vI (0 : Int32), vI (0 : Int32), vI (0 : Int32), vI (2 : Int32), vI (15 : Int32), vI (21 : Int32), vI (14 : Int32), vI (4 : Int32)] rfl rfl rfl ⟨Nat.le_of_ble_eq_true rfl, Nat.le_of_ble_eq_true rfl⟩ (c_X12_eight l0 (0 : Int32) (0 : Int32) (0 : Int32) (2 : Int32) (15 : Int32) (21 : Int32) (14 : Int32) (4 : Int32) σ v10 e11) ?_
        refine g_lcmp O dX12_wordOf_72 ?_
        refine g_if_ne O dX12_wordOf_73 rfl (fun c12 => ?_) (fun c12 => ?_)
        · replace h := (if_pos c12).symm.trans h
          refine g_iconst (v := (4 : Int32)) O dX12_wordOf_76 rfl ?_
          cases h
          exact g_ireturn O K dX12_wordOf_77
        · replace h := (if_neg c12).symm.trans h
          refine g_lload_n O dX12_wordOf_78 rfl 0 rfl ?_
          refine g_iconst (v := (0 : Int32)) O dX12_wordOf_79 rfl ?_
          refine g_bipush (v := (16 : Int32)) O dX12_wordOf_80 rfl ?_
          refine g_bipush (v := (18 : Int32)) O dX12_wordOf_82 rfl ?_
          refine g_bipush (v := (15 : Int32)) O dX12_wordOf_84 rfl ?_
          refine g_bipush (v := (13 : Int32)) O dX12_wordOf_86 rfl ?_
          refine g_bipush (v := (9 : Int32)) O dX12_wordOf_88 rfl ?_
          refine g_bipush (v := (19 : Int32)) O dX12_wordOf_90 rfl ?_
          refine g_iconst (v := (5 : Int32)) O dX12_wordOf_92 rfl ?_
          obtain ⟨v13, e14, h⟩ := bo_some h
          refine g_cS1 O R0 N dX12_wordOf_93 vl_X12_101 w1642 [vI (0 : Int32), vI (16 : Int32), vI (18 : Int32), vI (15 : Int32), vI (13 : Int32), vI (9 : Int32), vI (19 : Int32), vI (5 : Int32)] rfl rfl rfl ⟨Nat.le_of_ble_eq_true rfl, Nat.le_of_ble_eq_true rfl⟩ (c_X12_eight l0 (0 : Int32) (16 : Int32) (18 : Int32) (15 : Int32) (13 : Int32) (9 : Int32) (19 : Int32) (5 : Int32) σ v13 e14) ?_
          refine g_lcmp O dX12_wordOf_96 ?_
          refine g_if_ne O dX12_wordOf_97 rfl (fun c15 => ?_) (fun c15 => ?_)
          · replace h := (if_pos c15).symm.trans h
            refine g_iconst (v := (5 : Int32)) O dX12_wordOf_100 rfl ?_
            cases h
            exact g_ireturn O K dX12_wordOf_101
          · replace h := (if_neg c15).symm.trans h
            refine g_lload_n O dX12_wordOf_102 rfl 0 rfl ?_
            refine g_iconst (v := (2 : Int32)) O dX12_wordOf_103 rfl ?_
            refine g_bipush (v := (15 : Int32)) O dX12_wordOf_104 rfl ?_
            refine g_bipush (v := (18 : Int32)) O dX12_wordOf_106 rfl ?_
            refine g_bipush (v := (14 : Int32)) O dX12_wordOf_108 rfl ?_
            obtain ⟨v16, e17, h⟩ := bo_some h
            refine g_cS1 O R0 N dX12_wordOf_110 vl_X12_95 w1639 [vI (2 : Int32), vI (15 : Int32), vI (18 : Int32), vI (14 : Int32)] rfl rfl rfl ⟨Nat.le_of_ble_eq_true rfl, Nat.le_of_ble_eq_true rfl⟩ (c_X12_four l0 (2 : Int32) (15 : Int32) (18 : Int32) (14 : Int32) σ v16 e17) ?_
            refine g_lcmp O dX12_wordOf_113 ?_
            refine g_if_ne O dX12_wordOf_114 rfl (fun c18 => ?_) (fun c18 => ?_)
            · replace h := (if_pos c18).symm.trans h
              refine g_bipush (v := (6 : Int32)) O dX12_wordOf_117 rfl ?_
              cases h
              exact g_ireturn O K dX12_wordOf_119
            · replace h := (if_neg c18).symm.trans h
              refine g_lload_n O dX12_wordOf_120 rfl 0 rfl ?_
              refine g_iconst (v := (0 : Int32)) O dX12_wordOf_121 rfl ?_
              refine g_iconst (v := (0 : Int32)) O dX12_wordOf_122 rfl ?_
              refine g_iconst (v := (0 : Int32)) O dX12_wordOf_123 rfl ?_
              refine g_iconst (v := (3 : Int32)) O dX12_wordOf_124 rfl ?_
              refine g_bipush (v := (15 : Int32)) O dX12_wordOf_125 rfl ?_
              refine g_bipush (v := (22 : Int32)) O dX12_wordOf_127 rfl ?_
              refine g_iconst (v := (5 : Int32)) O dX12_wordOf_129 rfl ?_
              refine g_bipush (v := (18 : Int32)) O dX12_wordOf_130 rfl ?_
              obtain ⟨v19, e20, h⟩ := bo_some h
              refine g_cS1 O R0 N dX12_wordOf_132 vl_X12_101 w1642 [vI (0 : Int32), vI (0 : Int32), vI (0 : Int32), vI (3 : Int32), vI (15 : Int32), vI (22 : Int32), vI (5 : Int32), vI (18 : Int32)] rfl rfl rfl ⟨Nat.le_of_ble_eq_true rfl, Nat.le_of_ble_eq_true rfl⟩ (c_X12_eight l0 (0 : Int32) (0 : Int32) (0 : Int32) (3 : Int32) (15 : Int32) (22 : Int32) (5 : Int32) (18 : Int32) σ v19 e20) ?_
              refine g_lcmp O dX12_wordOf_135 ?_
              refine g_if_ne O dX12_wordOf_136 rfl (fun c21 => ?_) (fun c21 => ?_)
              · replace h := (if_pos c21).symm.trans h
                refine g_bipush (v := (7 : Int32)) O dX12_wordOf_139 rfl ?_
                cases h
                exact g_ireturn O K dX12_wordOf_141
              · replace h := (if_neg c21).symm.trans h
                refine g_lload_n O dX12_wordOf_142 rfl 0 rfl ?_
                refine g_iconst (v := (0 : Int32)) O dX12_wordOf_143 rfl ?_
                refine g_iconst (v := (4 : Int32)) O dX12_wordOf_144 rfl ?_
                refine g_bipush (v := (9 : Int32)) O dX12_wordOf_145 rfl ?_
                refine g_iconst (v := (5 : Int32)) O dX12_wordOf_147 rfl ?_
                obtain ⟨v22, e23, h⟩ := bo_some h
                refine g_cS1 O R0 N dX12_wordOf_148 vl_X12_95 w1639 [vI (0 : Int32), vI (4 : Int32), vI (9 : Int32), vI (5 : Int32)] rfl rfl rfl ⟨Nat.le_of_ble_eq_true rfl, Nat.le_of_ble_eq_true rfl⟩ (c_X12_four l0 (0 : Int32) (4 : Int32) (9 : Int32) (5 : Int32) σ v22 e23) ?_
                refine g_lcmp O dX12_wordOf_151 ?_
                refine g_if_ne O dX12_wordOf_152 rfl (fun c24 => ?_) (fun c24 => ?_)
                · replace h := (if_pos c24).symm.trans h
                  refine g_bipush (v := (8 : Int32)) O dX12_wordOf_155 rfl ?_
                  cases h
                  exact g_ireturn O K dX12_wordOf_157
                · replace h := (if_neg c24).symm.trans h
                  refine g_lload_n O dX12_wordOf_158 rfl 0 rfl ?_
                  refine g_bipush (v := (25 : Int32)) O dX12_wordOf_159 rfl ?_
                  refine g_iconst (v := (5 : Int32)) O dX12_wordOf_161 rfl ?_
                  refine g_iconst (v := (1 : Int32)) O dX12_wordOf_162 rfl ?_
                  refine g_bipush (v := (18 : Int32)) O dX12_wordOf_163 rfl ?_
                  obtain ⟨v25, e26, h⟩ := bo_some h
                  refine g_cS1 O R0 N dX12_wordOf_165 vl_X12_95 w1639 [vI (25 : Int32), vI (5 : Int32), vI (1 : Int32), vI (18 : Int32)] rfl rfl rfl ⟨Nat.le_of_ble_eq_true rfl, Nat.le_of_ble_eq_true rfl⟩ (c_X12_four l0 (25 : Int32) (5 : Int32) (1 : Int32) (18 : Int32) σ v25 e26) ?_
                  refine g_lcmp O dX12_wordOf_168 ?_
                  refine g_if_ne O dX12_wordOf_169 rfl (fun c27 => ?_) (fun c27 => ?_)
                  · replace h := (if_pos c27).symm.trans h
                    refine g_bipush (v := (9 : Int32)) O dX12_wordOf_172 rfl ?_
                    cases h
                    exact g_ireturn O K dX12_wordOf_174
                  · replace h := (if_neg c27).symm.trans h
                    refine g_lload_n O dX12_wordOf_175 rfl 0 rfl ?_
                    refine g_iconst (v := (0 : Int32)) O dX12_wordOf_176 rfl ?_
                    refine g_iconst (v := (0 : Int32)) O dX12_wordOf_177 rfl ?_
                    refine g_iconst (v := (0 : Int32)) O dX12_wordOf_178 rfl ?_
                    refine g_bipush (v := (25 : Int32)) O dX12_wordOf_179 rfl ?_
                    refine g_iconst (v := (5 : Int32)) O dX12_wordOf_181 rfl ?_
                    refine g_iconst (v := (1 : Int32)) O dX12_wordOf_182 rfl ?_
                    refine g_bipush (v := (18 : Int32)) O dX12_wordOf_183 rfl ?_
                    refine g_bipush (v := (19 : Int32)) O dX12_wordOf_185 rfl ?_
                    obtain ⟨v28, e29, h⟩ := bo_some h
                    refine g_cS1 O R0 N dX12_wordOf_187 vl_X12_101 w1642 [vI (0 : Int32), vI (0 : Int32), vI (0 : Int32), vI (25 : Int32), vI (5 : Int32), vI (1 : Int32), vI (18 : Int32), vI (19 : Int32)] rfl rfl rfl ⟨Nat.le_of_ble_eq_true rfl, Nat.le_of_ble_eq_true rfl⟩ (c_X12_eight l0 (0 : Int32) (0 : Int32) (0 : Int32) (25 : Int32) (5 : Int32) (1 : Int32) (18 : Int32) (19 : Int32) σ v28 e29) ?_
                    refine g_lcmp O dX12_wordOf_190 ?_
                    refine g_if_ne O dX12_wordOf_191 rfl (fun c30 => ?_) (fun c30 => ?_)
                    · replace h := (if_pos c30).symm.trans h
                      refine g_bipush (v := (10 : Int32)) O dX12_wordOf_194 rfl ?_
                      cases h
                      exact g_ireturn O K dX12_wordOf_196
                    · replace h := (if_neg c30).symm.trans h
                      refine g_lload_n O dX12_wordOf_197 rfl 0 rfl ?_
                      refine g_iconst (v := (0 : Int32)) O dX12_wordOf_198 rfl ?_
                      refine g_iconst (v := (4 : Int32)) O dX12_wordOf_199 rfl ?_
                      refine g_bipush (v := (21 : Int32)) O dX12_wordOf_200 rfl ?_
                      refine g_bipush (v := (7 : Int32)) O dX12_wordOf_202 rfl ?_
                      obtain ⟨v31, e32, h⟩ := bo_some h
                      refine g_cS1 O R0 N dX12_wordOf_204 vl_X12_95 w1639 [vI (0 : Int32), vI (4 : Int32), vI (21 : Int32), vI (7 : Int32)] rfl rfl rfl ⟨Nat.le_of_ble_eq_true rfl, Nat.le_of_ble_eq_true rfl⟩ (c_X12_four l0 (0 : Int32) (4 : Int32) (21 : Int32) (7 : Int32) σ v31 e32) ?_
                      refine g_lcmp O dX12_wordOf_207 ?_
                      refine g_if_ne O dX12_wordOf_208 rfl (fun c33 => ?_) (fun c33 => ?_)
                      · replace h := (if_pos c33).symm.trans h
                        refine g_bipush (v := (11 : Int32)) O dX12_wordOf_211 rfl ?_
                        refine g_goto O dX12_wordOf_213 rfl ?_
                        cases h
                        exact g_ireturn O K dX12_wordOf_218
                      · replace h := (if_neg c33).symm.trans h
                        refine g_bipush (v := (99 : Int32)) O dX12_wordOf_216 rfl ?_
                        cases h
                        exact g_ireturn O K dX12_wordOf_218
theorem c_X12_wordOf (l0 : Launch) (y0 : Int64) (σ : Dt) (r : Int32) (h : f_X12_wordOf y0 σ = some r) : Ctr l0 yX12_wordOf cX12_wordOf 2 (some .int) false 4 130 0 0 [vJ y0] SM σ SM σ (some (vI r)) := ctr_of (by decide) (Nat.le_of_ble_eq_true rfl) (fun M O F R0 N hn => t_X12_wordOf O R0 N hn y0 σ r h F)
