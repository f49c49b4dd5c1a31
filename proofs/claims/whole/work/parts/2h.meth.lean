def f_X11_power (a0 : Nat) (x1 : Int32) (x2 : Int32) (x3 : Int32) (x4 : Int32) (x5 : Int32) (x6 : Int32) (σ : Dt) : Option (Int64 × Dt) := bo (xgr SX 11 0 (some a0) σ) fun v1 => bo (xrc SX 8 v1) fun a3 => bo (f_X8_valleyAt a3 x1 σ) fun v5 => if v5 = none then some ((-1 : Int64), σ) else bo (xrc SX 9 v5) fun a8 => bo (f_X9_mayAskKeep a8 x2 x3 x4 σ) fun v10 => if v10 = 0 then some ((-1 : Int64), σ) else bo (xrc SX 9 v5) fun a13 => bo (f_X9_isGrandparent a13 x5 x2 σ) fun v15 => if v15 = 0 then some ((-1 : Int64), σ) else bo (xgr SX 11 9 (some a0) σ) fun v18 => bo (xrc SX 0 v18) fun a20 => bd (f_X0_thatHeTurnsIt a20 v5 x2 x3 x4 x5 σ) fun v22 σ23 => bo (xgr SX 11 9 (some a0) σ23) fun v25 => bo (xrc SX 0 v25) fun a27 => bo (f_X0_part a27 x6 σ23) fun v29 => some (v29, σ23)
theorem t_X11_power {M : Mx} {l0 : Launch} (O : Ok M cX11_power yX11_power) (R0 : Rm M l0 6 179 0 0) (N : Ma M = false) (hn : Mn M = 8) (a0 : Nat) (x1 : Int32) (x2 : Int32) (x3 : Int32) (x4 : Int32) (x5 : Int32) (x6 : Int32) (σ : Dt) (o : (Int64 × Dt)) (h : f_X11_power a0 x1 x2 x3 x4 x5 x6 σ = some o) (K : Fin' M (some .long) 0 0 SX o.2 (some (vJ o.1))) : G M 0 0 0 [(0, vA (some a0)), (1, vI x1), (2, vI x2), (3, vI x3), (4, vI x4), (5, vI x5), (6, vI x6)] [] SX σ := by
  unfold f_X11_power at h
  refine g_aload_n O dX11_power_0 rfl 0 rfl ?_
  obtain ⟨v1, e2, h⟩ := bo_some h
  refine g_getR O dX11_power_1 fl_X11_12 rfl e2 ?_
  refine g_iload_n O dX11_power_4 rfl 1 rfl ?_
  obtain ⟨a3, e4, h⟩ := bo_some h
  obtain ⟨v5, e6, h⟩ := bo_some h
  refine g_cV1 O R0 N dX11_power_5 vl_X11_105 vv_X8_valleyAt e4 [vI x1] rfl rfl rfl ⟨Nat.le_of_ble_eq_true rfl, Nat.le_of_ble_eq_true rfl⟩ (c_X8_valleyAt l0 a3 x1 σ v5 e6) ?_
  refine g_astore (lv' := [(7, vA v5), (0, vA (some a0)), (1, vI x1), (2, vI x2), (3, vI x3), (4, vI x4), (5, vI x5), (6, vI x6)]) O dX11_power_8 8 hn (by decide) rfl ?_
  refine g_aload O dX11_power_10 0 rfl ?_
  refine g_ifnull O dX11_power_12 rfl (fun c7 => ?_) (fun c7 => ?_)
  · replace h := (if_pos c7).symm.trans h
    refine g_ldc2 O dX11_power_38 w1116 ?_
    cases h
    exact g_lreturn O K dX11_power_41
  · replace h := (if_neg c7).symm.trans h
    refine g_aload O dX11_power_15 0 rfl ?_
    refine g_iload_n O dX11_power_17 rfl 3 rfl ?_
    refine g_iload_n O dX11_power_18 rfl 4 rfl ?_
    refine g_iload O dX11_power_19 5 rfl ?_
    obtain ⟨a8, e9, h⟩ := bo_some h
    obtain ⟨v10, e11, h⟩ := bo_some h
    refine g_cV1 O R0 N dX11_power_21 vl_X11_131 vv_X9_mayAskKeep e9 [vI x2, vI x3, vI x4] rfl rfl rfl ⟨Nat.le_of_ble_eq_true rfl, Nat.le_of_ble_eq_true rfl⟩ (c_X9_mayAskKeep l0 a8 x2 x3 x4 σ v10 e11) ?_
    refine g_if_eq O dX11_power_24 rfl (fun c12 => ?_) (fun c12 => ?_)
    · replace h := (if_pos c12).symm.trans h
      refine g_ldc2 O dX11_power_38 w1116 ?_
      cases h
      exact g_lreturn O K dX11_power_41
    · replace h := (if_neg c12).symm.trans h
      refine g_aload O dX11_power_27 0 rfl ?_
      refine g_iload O dX11_power_29 6 rfl ?_
      refine g_iload_n O dX11_power_31 rfl 3 rfl ?_
      obtain ⟨a13, e14, h⟩ := bo_some h
      obtain ⟨v15, e16, h⟩ := bo_some h
      refine g_cV1 O R0 N dX11_power_32 vl_X11_191 vv_X9_isGrandparent e14 [vI x5, vI x2] rfl rfl rfl ⟨Nat.le_of_ble_eq_true rfl, Nat.le_of_ble_eq_true rfl⟩ (c_X9_isGrandparent l0 a13 x5 x2 σ v15 e16) ?_
      refine g_if_ne O dX11_power_35 rfl (fun c17 => ?_) (fun c17 => ?_)
      · replace h := (if_pos c17).symm.trans h
        refine g_ldc2 O dX11_power_38 w1116 ?_
        cases h
        exact g_lreturn O K dX11_power_41
      · replace h := (if_neg c17).symm.trans h
        refine g_aload_n O dX11_power_42 rfl 1 rfl ?_
        obtain ⟨v18, e19, h⟩ := bo_some h
        refine g_getR O dX11_power_43 fl_X11_69 rfl e19 ?_
        refine g_aload O dX11_power_46 0 rfl ?_
        refine g_iload_n O dX11_power_48 rfl 3 rfl ?_
        refine g_iload_n O dX11_power_49 rfl 4 rfl ?_
        refine g_iload O dX11_power_50 5 rfl ?_
        refine g_iload O dX11_power_52 6 rfl ?_
        obtain ⟨a20, e21, h⟩ := bo_some h
        obtain ⟨v22, σ23, e24, h⟩ := bd_some h
        refine g_cV0 O R0 N dX11_power_54 vl_X11_194 vv_X0_thatHeTurnsIt e21 [vA v5, vI x2, vI x3, vI x4, vI x5] rfl rfl rfl ⟨Nat.le_of_ble_eq_true rfl, Nat.le_of_ble_eq_true rfl⟩ (c_X0_thatHeTurnsIt l0 a20 v5 x2 x3 x4 x5 σ v22 σ23 e24) ?_
        refine g_aload_n O dX11_power_57 rfl 1 rfl ?_
        obtain ⟨v25, e26, h⟩ := bo_some h
        refine g_getR O dX11_power_58 fl_X11_69 rfl e26 ?_
        refine g_iload O dX11_power_61 7 rfl ?_
        obtain ⟨a27, e28, h⟩ := bo_some h
        obtain ⟨v29, e30, h⟩ := bo_some h
        refine g_cV1 O R0 N dX11_power_63 vl_X11_187 vv_X0_part e28 [vI x6] rfl rfl rfl ⟨Nat.le_of_ble_eq_true rfl, Nat.le_of_ble_eq_true rfl⟩ (c_X0_part l0 a27 x6 σ23 v29 e30) ?_
        cases h
        exact g_lreturn O K dX11_power_66
theorem c_X11_power (l0 : Launch) (a0 : Nat) (x1 : Int32) (x2 : Int32) (x3 : Int32) (x4 : Int32) (x5 : Int32) (x6 : Int32) (σ : Dt) (r : Int64) (σ' : Dt) (h : f_X11_power a0 x1 x2 x3 x4 x5 x6 σ = some (r, σ')) : Ctr l0 yX11_power cX11_power 8 (some .long) false 6 179 0 0 [vA (some a0), vI x1, vI x2, vI x3, vI x4, vI x5, vI x6] SX σ SX σ' (some (vJ r)) := ctr_of (by decide) (Nat.le_of_ble_eq_true rfl) (fun M O F R0 N hn => t_X11_power O R0 N hn a0 x1 x2 x3 x4 x5 x6 σ (r, σ') h F)
def P_X3_nearByParents_5 (M : Mx) (a0 : Nat) (x1 : Int32) (x2 : Int32) (σ : Dt) (s : (Int64 × Int32)) : Prop := G M 0 0 5 [(0, vA (some a0)), (1, vI x1), (2, vI x2), (3, vJ s.1), (5, vI s.2)] [] SX σ
def E_X3_nearByParents_5 (M : Mx) (a0 : Nat) (x1 : Int32) (x2 : Int32) (σ : Dt) : Int64 → Prop := (fun w => G M 0 0 49 [(3, vJ w)] [] SX σ)
def f_X3_nearByParents_43 (a0 : Nat) (x1 : Int32) (x2 : Int32) (y3 : Int64) (x5 : Int32) (σ : Dt) : Option ((Int64 × Int32) ⊕ Int64) := some (.inl (y3, (x5 + (1 : Int32))))
theorem t_X3_nearByParents_43 {M : Mx} {l0 : Launch} (O : Ok M cX3_nearByParents yX3_nearByParents) (R0 : Rm M l0 2 80 0 0) (N : Ma M = false) (hn : Mn M = 6)  (a0 : Nat) (x1 : Int32) (x2 : Int32) (y3 : Int64) (x5 : Int32) (σ : Dt) (o : ((Int64 × Int32) ⊕ Int64)) (h : f_X3_nearByParents_43 a0 x1 x2 y3 x5 σ = some o) (K : kon (P_X3_nearByParents_5 M a0 x1 x2 σ) (E_X3_nearByParents_5 M a0 x1 x2 σ) o) : G M 0 0 43 [(0, vA (some a0)), (1, vI x1), (2, vI x2), (3, vJ y3), (5, vI x5)] [] SX σ := by
  unfold f_X3_nearByParents_43 at h
  refine g_iinc (v := (x5 + (1 : Int32))) (lv' := [(5, vI (x5 + (1 : Int32))), (0, vA (some a0)), (1, vI x1), (2, vI x2), (3, vJ y3)]) O dX3_nearByParents_43 6 hn (by decide) 4 rfl rfl rfl ?_
  refine g_goto O dX3_nearByParents_46 rfl ?_
  refine g_sub [1, 2, 3, 4, 0] (lv' := [(0, vA (some a0)), (1, vI x1), (2, vI x2), (3, vJ y3), (5, vI (x5 + (1 : Int32)))]) rfl ?_
  cases h
  exact K
def f_X3_nearByParents_L5 (a0 : Nat) (x1 : Int32) (x2 : Int32) (y3 : Int64) (x5 : Int32) (σ : Dt) : Option ((Int64 × Int32) ⊕ Int64) := if (10 : Int32) ≤ x5 then some (.inr y3) else if x2 < 0 then some (.inr y3) else if (10 : Int32) ≤ x2 then some (.inr y3) else if ((x1 >>> (x5 &&& 31)) &&& (1 : Int32)) = 0 then f_X3_nearByParents_43 a0 x1 x2 y3 x5 σ else bo (xgr SX 3 3 (some a0) σ) fun v5 => bo (xar SX 20 v5 x5 σ) fun v7 => bo (xal SX v7 x2 σ) fun v9 => f_X3_nearByParents_43 a0 x1 x2 (y3 + v9) x5 σ
theorem t_X3_nearByParents_L5 {M : Mx} {l0 : Launch} (O : Ok M cX3_nearByParents yX3_nearByParents) (R0 : Rm M l0 2 80 0 0) (N : Ma M = false) (hn : Mn M = 6) (a0 : Nat) (x1 : Int32) (x2 : Int32) (y3 : Int64) (x5 : Int32) (σ : Dt) (o : ((Int64 × Int32) ⊕ Int64)) (h : f_X3_nearByParents_L5 a0 x1 x2 y3 x5 σ = some o) (K : kon (P_X3_nearByParents_5 M a0 x1 x2 σ) (E_X3_nearByParents_5 M a0 x1 x2 σ) o) : G M 0 0 5 [(0, vA (some a0)), (1, vI x1), (2, vI x2), (3, vJ y3), (5, vI x5)] [] SX σ := by
  unfold f_X3_nearByParents_L5 at h
  refine g_iload O dX3_nearByParents_5 4 rfl ?_
  refine g_bipush (v := (10 : Int32)) O dX3_nearByParents_7 rfl ?_
  refine g_icmp_ge O dX3_nearByParents_9 rfl (fun c1 => ?_) (fun c1 => ?_)
  · replace h := (if_pos c1).symm.trans h
    refine g_sub [3] (lv' := [(3, vJ y3)]) rfl ?_
    cases h
    exact K
  · replace h := (if_neg c1).symm.trans h
    refine g_iload_n O dX3_nearByParents_12 rfl 2 rfl ?_
    refine g_if_lt O dX3_nearByParents_13 rfl (fun c2 => ?_) (fun c2 => ?_)
    · replace h := (if_pos c2).symm.trans h
      refine g_sub [3] (lv' := [(3, vJ y3)]) rfl ?_
      cases h
      exact K
    · replace h := (if_neg c2).symm.trans h
      refine g_iload_n O dX3_nearByParents_16 rfl 2 rfl ?_
      refine g_bipush (v := (10 : Int32)) O dX3_nearByParents_17 rfl ?_
      refine g_icmp_ge O dX3_nearByParents_19 rfl (fun c3 => ?_) (fun c3 => ?_)
      · replace h := (if_pos c3).symm.trans h
        refine g_sub [3] (lv' := [(3, vJ y3)]) rfl ?_
        cases h
        exact K
      · replace h := (if_neg c3).symm.trans h
        refine g_iload_n O dX3_nearByParents_22 rfl 1 rfl ?_
        refine g_iload O dX3_nearByParents_23 4 rfl ?_
        refine g_ishr O dX3_nearByParents_25 ?_
        refine g_iconst (v := (1 : Int32)) O dX3_nearByParents_26 rfl ?_
        refine g_iand O dX3_nearByParents_27 ?_
        refine g_if_eq O dX3_nearByParents_28 rfl (fun c4 => ?_) (fun c4 => ?_)
        · replace h := (if_pos c4).symm.trans h
          exact t_X3_nearByParents_43 O R0 N hn a0 x1 x2 y3 x5 σ o h K
        · replace h := (if_neg c4).symm.trans h
          refine g_lload_n O dX3_nearByParents_31 rfl 3 rfl ?_
          refine g_aload_n O dX3_nearByParents_32 rfl 0 rfl ?_
          obtain ⟨v5, e6, h⟩ := bo_some h
          refine g_getR O dX3_nearByParents_33 fl_X3_20 rfl e6 ?_
          refine g_iload O dX3_nearByParents_36 4 rfl ?_
          obtain ⟨v7, e8, h⟩ := bo_some h
          refine g_aaload (kd := 20) O dX3_nearByParents_38 (by decide) (by decide) e8 ?_
          refine g_iload_n O dX3_nearByParents_39 rfl 2 rfl ?_
          obtain ⟨v9, e10, h⟩ := bo_some h
          refine g_laload O dX3_nearByParents_40 e10 ?_
          refine g_ladd O dX3_nearByParents_41 ?_
          refine g_lstore_n (lv' := [(3, vJ (y3 + v9)), (0, vA (some a0)), (1, vI x1), (2, vI x2), (5, vI x5)]) O dX3_nearByParents_42 rfl 6 hn (by decide) rfl ?_
          refine g_sub [1, 2, 3, 0, 4] (lv' := [(0, vA (some a0)), (1, vI x1), (2, vI x2), (3, vJ (y3 + v9)), (5, vI x5)]) rfl ?_
          exact t_X3_nearByParents_43 O R0 N hn a0 x1 x2 (y3 + v9) x5 σ o h K
def f_X3_nearByParents_49 (y3 : Int64) (σ : Dt) : Option Int64 := some (y3 / (2 : Int64))
theorem t_X3_nearByParents_49 {M : Mx} {l0 : Launch} (O : Ok M cX3_nearByParents yX3_nearByParents) (R0 : Rm M l0 2 80 0 0) (N : Ma M = false) (hn : Mn M = 6)  (y3 : Int64) (σ : Dt) (o : Int64) (h : f_X3_nearByParents_49 y3 σ = some o) (K : Fin' M (some .long) 0 0 SX σ (some (vJ o))) : G M 0 0 49 [(3, vJ y3)] [] SX σ := by
  unfold f_X3_nearByParents_49 at h
  refine g_lload_n O dX3_nearByParents_49 rfl 0 rfl ?_
  refine g_ldc2 O dX3_nearByParents_50 w1173 ?_
  refine g_ldiv O dX3_nearByParents_53 (by decide) ?_
  cases h
  exact g_lreturn O K dX3_nearByParents_54
def f_X3_nearByParents (a0 : Nat) (x1 : Int32) (x2 : Int32) (σ : Dt) : Option Int64 := bo (iter FU (fun s => f_X3_nearByParents_L5 a0 x1 x2 s.1 s.2 σ) ((0 : Int64), (0 : Int32))) fun w1 => f_X3_nearByParents_49 w1 σ
theorem t_X3_nearByParents {M : Mx} {l0 : Launch} (O : Ok M cX3_nearByParents yX3_nearByParents) (R0 : Rm M l0 2 80 0 0) (N : Ma M = false) (hn : Mn M = 6) (a0 : Nat) (x1 : Int32) (x2 : Int32) (σ : Dt) (o : Int64) (h : f_X3_nearByParents a0 x1 x2 σ = some o) (K : Fin' M (some .long) 0 0 SX σ (some (vJ o))) : G M 0 0 0 [(0, vA (some a0)), (1, vI x1), (2, vI x2)] [] SX σ := by
  unfold f_X3_nearByParents at h
  refine g_lconst (v := (0 : Int64)) O dX3_nearByParents_0 rfl ?_
  refine g_lstore_n (lv' := [(3, vJ (0 : Int64)), (0, vA (some a0)), (1, vI x1), (2, vI x2)]) O dX3_nearByParents_1 rfl 6 hn (by decide) rfl ?_
  refine g_iconst (v := (0 : Int32)) O dX3_nearByParents_2 rfl ?_
  refine g_istore (lv' := [(5, vI (0 : Int32)), (3, vJ (0 : Int64)), (0, vA (some a0)), (1, vI x1), (2, vI x2)]) O dX3_nearByParents_3 6 hn (by decide) rfl ?_
  refine g_sub [2, 3, 4, 1, 0] (lv' := [(0, vA (some a0)), (1, vI x1), (2, vI x2), (3, vJ (0 : Int64)), (5, vI (0 : Int32))]) rfl ?_
  obtain ⟨w1, e2, h⟩ := bo_some h
  refine iter_G (P := P_X3_nearByParents_5 M a0 x1 x2 σ) (E := E_X3_nearByParents_5 M a0 x1 x2 σ) (fun s o hb hk => t_X3_nearByParents_L5 O R0 N hn a0 x1 x2 s.1 s.2 σ o hb hk) FU ((0 : Int64), (0 : Int32)) w1 e2 ?_
  show G M 0 0 49 [(3, vJ w1)] [] SX σ
  exact t_X3_nearByParents_49 O R0 N hn w1 σ o h K
theorem c_X3_nearByParents (l0 : Launch) (a0 : Nat) (x1 : Int32) (x2 : Int32) (σ : Dt) (r : Int64) (h : f_X3_nearByParents a0 x1 x2 σ = some r) : Ctr l0 yX3_nearByParents cX3_nearByParents 6 (some .long) false 2 80 0 0 [vA (some a0), vI x1, vI x2] SX σ SX σ (some (vJ r)) := ctr_of (by decide) (Nat.le_of_ble_eq_true rfl) (fun M O F R0 N hn => t_X3_nearByParents O R0 N hn a0 x1 x2 σ r h F)
def P_X3_nearOfCouple_10 (M : Mx) (a0 : Nat) (x1 : Int32) (x2 : Int32) (σ : Dt) (s : Int32) : Prop := G M 0 0 10 [(0, vA (some a0)), (1, vI x1), (2, vI x2), (3, vI s)] [] SX σ
def E_X3_nearOfCouple_10 (M : Mx) (a0 : Nat) (x1 : Int32) (x2 : Int32) (σ : Dt) : (Int32 ⊕ Unit) → Prop := (el (fun w => G M 0 0 26 [(0, vA (some a0)), (2, vI x2), (3, vI w)] [] SX σ) (fun w => G M 0 0 41 [(0, vA (some a0)), (1, vI x1), (2, vI x2)] [] SX σ))
def f_X3_nearOfCouple_L10 (a0 : Nat) (x1 : Int32) (x2 : Int32) (x3 : Int32) (σ : Dt) : Option (Int32 ⊕ (Int32 ⊕ Unit)) := if x2 ≤ x3 then some (.inr (.inr ())) else if x1 = (((1 : Int32) <<< (x2 &&& 31)) ||| ((1 : Int32) <<< (x3 &&& 31))) then some (.inr (.inl x3)) else some (.inl (x3 + (1 : Int32)))
theorem t_X3_nearOfCouple_L10 {M : Mx} {l0 : Launch} (O : Ok M cX3_nearOfCouple yX3_nearOfCouple) (R0 : Rm M l0 2 80 0 0) (N : Ma M = false) (hn : Mn M = 4) (a0 : Nat) (x1 : Int32) (x2 : Int32) (x3 : Int32) (σ : Dt) (o : (Int32 ⊕ (Int32 ⊕ Unit))) (h : f_X3_nearOfCouple_L10 a0 x1 x2 x3 σ = some o) (K : kon (P_X3_nearOfCouple_10 M a0 x1 x2 σ) (E_X3_nearOfCouple_10 M a0 x1 x2 σ) o) : G M 0 0 10 [(0, vA (some a0)), (1, vI x1), (2, vI x2), (3, vI x3)] [] SX σ := by
  unfold f_X3_nearOfCouple_L10 at h
  refine g_iload_n O dX3_nearOfCouple_10 rfl 3 rfl ?_
  refine g_iload_n O dX3_nearOfCouple_11 rfl 2 rfl ?_
  refine g_icmp_ge O dX3_nearOfCouple_12 rfl (fun c1 => ?_) (fun c1 => ?_)
  · replace h := (if_pos c1).symm.trans h
    refine g_sub [0, 1, 2] (lv' := [(0, vA (some a0)), (1, vI x1), (2, vI x2)]) rfl ?_
    cases h
    exact K
  · replace h := (if_neg c1).symm.trans h
    refine g_iload_n O dX3_nearOfCouple_15 rfl 1 rfl ?_
    refine g_iconst (v := (1 : Int32)) O dX3_nearOfCouple_16 rfl ?_
    refine g_iload_n O dX3_nearOfCouple_17 rfl 2 rfl ?_
    refine g_ishl O dX3_nearOfCouple_18 ?_
    refine g_iconst (v := (1 : Int32)) O dX3_nearOfCouple_19 rfl ?_
    refine g_iload_n O dX3_nearOfCouple_20 rfl 3 rfl ?_
    refine g_ishl O dX3_nearOfCouple_21 ?_
    refine g_ior O dX3_nearOfCouple_22 ?_
    refine g_icmp_ne O dX3_nearOfCouple_23 rfl (fun c2 => ?_) (fun c2 => ?_)
    · replace h := (if_pos c2).symm.trans h
      refine g_sub [0, 2, 3] (lv' := [(0, vA (some a0)), (2, vI x2), (3, vI x3)]) rfl ?_
      cases h
      exact K
    · replace h := (if_neg c2).symm.trans h
      refine g_iinc (v := (x3 + (1 : Int32))) (lv' := [(3, vI (x3 + (1 : Int32))), (0, vA (some a0)), (1, vI x1), (2, vI x2)]) O dX3_nearOfCouple_35 4 hn (by decide) 3 rfl rfl rfl ?_
      refine g_goto O dX3_nearOfCouple_38 rfl ?_
      refine g_sub [1, 2, 3, 0] (lv' := [(0, vA (some a0)), (1, vI x1), (2, vI x2), (3, vI (x3 + (1 : Int32)))]) rfl ?_
      cases h
      exact K
def P_X3_nearOfCouple_2 (M : Mx) (a0 : Nat) (x1 : Int32) (σ : Dt) (s : Int32) : Prop := G M 0 0 2 [(0, vA (some a0)), (1, vI x1), (2, vI s)] [] SX σ
def E_X3_nearOfCouple_2 (M : Mx) (a0 : Nat) (x1 : Int32) (σ : Dt) : ((Int32 × Int32) ⊕ Unit) → Prop := (el (fun w => G M 0 0 26 [(0, vA (some a0)), (2, vI w.1), (3, vI w.2)] [] SX σ) (fun w => G M 0 0 47 [] [] SX σ))
def f_X3_nearOfCouple_L2 (a0 : Nat) (x1 : Int32) (x2 : Int32) (σ : Dt) : Option (Int32 ⊕ ((Int32 × Int32) ⊕ Unit)) := if (10 : Int32) ≤ x2 then some (.inr (.inr ())) else bo (iter FU (fun s => f_X3_nearOfCouple_L10 a0 x1 x2 s σ) (0 : Int32)) fun w2 => el (fun w4 => some (.inr (.inl (x2, w4)))) (fun w4 => some (.inl (x2 + (1 : Int32)))) w2
theorem t_X3_nearOfCouple_L2 {M : Mx} {l0 : Launch} (O : Ok M cX3_nearOfCouple yX3_nearOfCouple) (R0 : Rm M l0 2 80 0 0) (N : Ma M = false) (hn : Mn M = 4) (a0 : Nat) (x1 : Int32) (x2 : Int32) (σ : Dt) (o : (Int32 ⊕ ((Int32 × Int32) ⊕ Unit))) (h : f_X3_nearOfCouple_L2 a0 x1 x2 σ = some o) (K : kon (P_X3_nearOfCouple_2 M a0 x1 σ) (E_X3_nearOfCouple_2 M a0 x1 σ) o) : G M 0 0 2 [(0, vA (some a0)), (1, vI x1), (2, vI x2)] [] SX σ := by
  unfold f_X3_nearOfCouple_L2 at h
  refine g_iload_n O dX3_nearOfCouple_2 rfl 2 rfl ?_
  refine g_bipush (v := (10 : Int32)) O dX3_nearOfCouple_3 rfl ?_
  refine g_icmp_ge O dX3_nearOfCouple_5 rfl (fun c1 => ?_) (fun c1 => ?_)
  · replace h := (if_pos c1).symm.trans h
    refine g_sub [] (lv' := []) rfl ?_
    cases h
    exact K
  · replace h := (if_neg c1).symm.trans h
    refine g_iconst (v := (0 : Int32)) O dX3_nearOfCouple_8 rfl ?_
    refine g_istore_n (lv' := [(3, vI (0 : Int32)), (0, vA (some a0)), (1, vI x1), (2, vI x2)]) O dX3_nearOfCouple_9 rfl 4 hn (by decide) rfl ?_
    refine g_sub [1, 2, 3, 0] (lv' := [(0, vA (some a0)), (1, vI x1), (2, vI x2), (3, vI (0 : Int32))]) rfl ?_
    obtain ⟨w2, e3, h⟩ := bo_some h
    refine iter_G (P := P_X3_nearOfCouple_10 M a0 x1 x2 σ) (E := E_X3_nearOfCouple_10 M a0 x1 x2 σ) (fun s o hb hk => t_X3_nearOfCouple_L10 O R0 N hn a0 x1 x2 s σ o hb hk) FU (0 : Int32) w2 e3 ?_
    rcases w2 with w4 | w4
    · replace h := el_l h
      show G M 0 0 26 [(0, vA (some a0)), (2, vI x2), (3, vI w4)] [] SX σ
      cases h
      exact K
    · replace h := el_r h
      show G M 0 0 41 [(0, vA (some a0)), (1, vI x1), (2, vI x2)] [] SX σ
      refine g_iinc (v := (x2 + (1 : Int32))) (lv' := [(2, vI (x2 + (1 : Int32))), (0, vA (some a0)), (1, vI x1)]) O dX3_nearOfCouple_41 4 hn (by decide) 2 rfl rfl rfl ?_
      refine g_goto O dX3_nearOfCouple_44 rfl ?_
      refine g_sub [1, 2, 0] (lv' := [(0, vA (some a0)), (1, vI x1), (2, vI (x2 + (1 : Int32)))]) rfl ?_
      cases h
      exact K
def f_X3_nearOfCouple (a0 : Nat) (x1 : Int32) (σ : Dt) : Option Int64 := bo (iter FU (fun s => f_X3_nearOfCouple_L2 a0 x1 s σ) (0 : Int32)) fun w1 => el (fun w3 => bo (xgr SX 3 3 (some a0) σ) fun v4 => bo (xar SX 20 v4 w3.1 σ) fun v6 => bo (xal SX v6 w3.2 σ) fun v8 => some v8) (fun w3 => some (0 : Int64)) w1
theorem t_X3_nearOfCouple {M : Mx} {l0 : Launch} (O : Ok M cX3_nearOfCouple yX3_nearOfCouple) (R0 : Rm M l0 2 80 0 0) (N : Ma M = false) (hn : Mn M = 4) (a0 : Nat) (x1 : Int32) (σ : Dt) (o : Int64) (h : f_X3_nearOfCouple a0 x1 σ = some o) (K : Fin' M (some .long) 0 0 SX σ (some (vJ o))) : G M 0 0 0 [(0, vA (some a0)), (1, vI x1)] [] SX σ := by
  unfold f_X3_nearOfCouple at h
  refine g_iconst (v := (0 : Int32)) O dX3_nearOfCouple_0 rfl ?_
  refine g_istore_n (lv' := [(2, vI (0 : Int32)), (0, vA (some a0)), (1, vI x1)]) O dX3_nearOfCouple_1 rfl 4 hn (by decide) rfl ?_
  refine g_sub [1, 2, 0] (lv' := [(0, vA (some a0)), (1, vI x1), (2, vI (0 : Int32))]) rfl ?_
  obtain ⟨w1, e2, h⟩ := bo_some h
  refine iter_G (P := P_X3_nearOfCouple_2 M a0 x1 σ) (E := E_X3_nearOfCouple_2 M a0 x1 σ) (fun s o hb hk => t_X3_nearOfCouple_L2 O R0 N hn a0 x1 s σ o hb hk) FU (0 : Int32) w1 e2 ?_
  rcases w1 with w3 | w3
  · replace h := el_l h
    show G M 0 0 26 [(0, vA (some a0)), (2, vI w3.1), (3, vI w3.2)] [] SX σ
    refine g_aload_n O dX3_nearOfCouple_26 rfl 0 rfl ?_
    obtain ⟨v4, e5, h⟩ := bo_some h
    refine g_getR O dX3_nearOfCouple_27 fl_X3_20 rfl e5 ?_
    refine g_iload_n O dX3_nearOfCouple_30 rfl 1 rfl ?_
    obtain ⟨v6, e7, h⟩ := bo_some h
    refine g_aaload (kd := 20) O dX3_nearOfCouple_31 (by decide) (by decide) e7 ?_
    refine g_iload_n O dX3_nearOfCouple_32 rfl 2 rfl ?_
    obtain ⟨v8, e9, h⟩ := bo_some h
    refine g_laload O dX3_nearOfCouple_33 e9 ?_
    cases h
    exact g_lreturn O K dX3_nearOfCouple_34
  · replace h := el_r h
    show G M 0 0 47 [] [] SX σ
    refine g_lconst (v := (0 : Int64)) O dX3_nearOfCouple_47 rfl ?_
    cases h
    exact g_lreturn O K dX3_nearOfCouple_48
theorem c_X3_nearOfCouple (l0 : Launch) (a0 : Nat) (x1 : Int32) (σ : Dt) (r : Int64) (h : f_X3_nearOfCouple a0 x1 σ = some r) : Ctr l0 yX3_nearOfCouple cX3_nearOfCouple 4 (some .long) false 2 80 0 0 [vA (some a0), vI x1] SX σ SX σ (some (vJ r)) := ctr_of (by decide) (Nat.le_of_ble_eq_true rfl) (fun M O F R0 N hn => t_X3_nearOfCouple O R0 N hn a0 x1 σ r h F)
def P_X3_nearness_44 (M : Mx) (a0 : Nat) (r1 : Option Nat) (x2 : Int32) (x3 : Int32) (x4 : Int32) (s : (Int32 × Dt)) : Prop := G M 0 0 44 [(0, vA (some a0)), (1, vA r1), (2, vI x2), (3, vI x3), (4, vI x4), (5, vI s.1)] [] SX s.2
def E_X3_nearness_44 (M : Mx) (a0 : Nat) (r1 : Option Nat) (x2 : Int32) (x3 : Int32) (x4 : Int32) : Dt → Prop := (fun w => G M 0 0 100 [(0, vA (some a0)), (1, vA r1), (2, vI x2), (3, vI x3), (4, vI x4)] [] SX w)
def f_X3_nearness_L44 (a0 : Nat) (r1 : Option Nat) (x2 : Int32) (x3 : Int32) (x4 : Int32) (x5 : Int32) (σ : Dt) : Option ((Int32 × Dt) ⊕ Dt) := if x4 ≤ x5 then some (.inr σ) else bo (xgr SX 3 3 (some a0) σ) fun v2 => bo (xar SX 20 v2 x4 σ) fun v4 => bo (xgr SX 9 5 r1 σ) fun v6 => bo (xai SX v6 x4 σ) fun v8 => bo (xrc SX 3 (some a0)) fun a10 => bo (f_X3_nearByParents a10 v8 x5 σ) fun v12 => bo (xsl SX v4 x5 v12 σ) fun σ14 => bo (xgr SX 3 3 (some a0) σ14) fun v16 => bo (xar SX 20 v16 x5 σ14) fun v18 => bo (xgr SX 3 3 (some a0) σ14) fun v20 => bo (xar SX 20 v20 x4 σ14) fun v22 => bo (xal SX v22 x5 σ14) fun v24 => bo (xsl SX v18 x4 v24 σ14) fun σ26 => some (.inl ((x5 + (1 : Int32)), σ26))
theorem t_X3_nearness_L44 {M : Mx} {l0 : Launch} (O : Ok M cX3_nearness yX3_nearness) (R0 : Rm M l0 3 105 0 0) (N : Ma M = false) (hn : Mn M = 6) (a0 : Nat) (r1 : Option Nat) (x2 : Int32) (x3 : Int32) (x4 : Int32) (x5 : Int32) (σ : Dt) (o : ((Int32 × Dt) ⊕ Dt)) (h : f_X3_nearness_L44 a0 r1 x2 x3 x4 x5 σ = some o) (K : kon (P_X3_nearness_44 M a0 r1 x2 x3 x4) (E_X3_nearness_44 M a0 r1 x2 x3 x4) o) : G M 0 0 44 [(0, vA (some a0)), (1, vA r1), (2, vI x2), (3, vI x3), (4, vI x4), (5, vI x5)] [] SX σ := by
  unfold f_X3_nearness_L44 at h
  refine g_iload O dX3_nearness_44 5 rfl ?_
  refine g_iload O dX3_nearness_46 4 rfl ?_
  refine g_icmp_ge O dX3_nearness_48 rfl (fun c1 => ?_) (fun c1 => ?_)
  · replace h := (if_pos c1).symm.trans h
    refine g_sub [0, 1, 2, 3, 4] (lv' := [(0, vA (some a0)), (1, vA r1), (2, vI x2), (3, vI x3), (4, vI x4)]) rfl ?_
    cases h
    exact K
  · replace h := (if_neg c1).symm.trans h
    refine g_aload_n O dX3_nearness_51 rfl 0 rfl ?_
    obtain ⟨v2, e3, h⟩ := bo_some h
    refine g_getR O dX3_nearness_52 fl_X3_20 rfl e3 ?_
    refine g_iload O dX3_nearness_55 4 rfl ?_
    obtain ⟨v4, e5, h⟩ := bo_some h
    refine g_aaload (kd := 20) O dX3_nearness_57 (by decide) (by decide) e5 ?_
    refine g_iload O dX3_nearness_58 5 rfl ?_
    refine g_aload_n O dX3_nearness_60 rfl 0 rfl ?_
    refine g_aload_n O dX3_nearness_61 rfl 1 rfl ?_
    obtain ⟨v6, e7, h⟩ := bo_some h
    refine g_getR O dX3_nearness_62 fl_X3_36 rfl e7 ?_
    refine g_iload O dX3_nearness_65 4 rfl ?_
    obtain ⟨v8, e9, h⟩ := bo_some h
    refine g_iaload O dX3_nearness_67 e9 ?_
    refine g_iload O dX3_nearness_68 5 rfl ?_
    obtain ⟨a10, e11, h⟩ := bo_some h
    obtain ⟨v12, e13, h⟩ := bo_some h
    refine g_cV1 O R0 N dX3_nearness_70 vl_X3_39 vv_X3_nearByParents e11 [vI v8, vI x5] rfl rfl rfl ⟨Nat.le_of_ble_eq_true rfl, Nat.le_of_ble_eq_true rfl⟩ (c_X3_nearByParents l0 a10 v8 x5 σ v12 e13) ?_
    obtain ⟨σ14, e15, h⟩ := bo_some h
    refine g_lastore O N dX3_nearness_73 e15 ?_
    refine g_aload_n O dX3_nearness_74 rfl 0 rfl ?_
    obtain ⟨v16, e17, h⟩ := bo_some h
    refine g_getR O dX3_nearness_75 fl_X3_20 rfl e17 ?_
    refine g_iload O dX3_nearness_78 5 rfl ?_
    obtain ⟨v18, e19, h⟩ := bo_some h
    refine g_aaload (kd := 20) O dX3_nearness_80 (by decide) (by decide) e19 ?_
    refine g_iload O dX3_nearness_81 4 rfl ?_
    refine g_aload_n O dX3_nearness_83 rfl 0 rfl ?_
    obtain ⟨v20, e21, h⟩ := bo_some h
    refine g_getR O dX3_nearness_84 fl_X3_20 rfl e21 ?_
    refine g_iload O dX3_nearness_87 4 rfl ?_
    obtain ⟨v22, e23, h⟩ := bo_some h
    refine g_aaload (kd := 20) O dX3_nearness_89 (by decide) (by decide) e23 ?_
    refine g_iload O dX3_nearness_90 5 rfl ?_
    obtain ⟨v24, e25, h⟩ := bo_some h
    refine g_laload O dX3_nearness_92 e25 ?_
    obtain ⟨σ26, e27, h⟩ := bo_some h
    refine g_lastore O N dX3_nearness_93 e27 ?_
    refine g_iinc (v := (x5 + (1 : Int32))) (lv' := [(5, vI (x5 + (1 : Int32))), (0, vA (some a0)), (1, vA r1), (2, vI x2), (3, vI x3), (4, vI x4)]) O dX3_nearness_94 6 hn (by decide) 5 rfl rfl rfl ?_
    refine g_goto O dX3_nearness_97 rfl ?_
    refine g_sub [1, 2, 3, 4, 5, 0] (lv' := [(0, vA (some a0)), (1, vA r1), (2, vI x2), (3, vI x3), (4, vI x4), (5, vI (x5 + (1 : Int32)))]) rfl ?_
    cases h
    exact K
def P_X3_nearness_25 (M : Mx) (a0 : Nat) (r1 : Option Nat) (x2 : Int32) (x3 : Int32) (s : (Int32 × Dt)) : Prop := G M 0 0 25 [(0, vA (some a0)), (1, vA r1), (2, vI x2), (3, vI x3), (4, vI s.1)] [] SX s.2
def E_X3_nearness_25 (M : Mx) (a0 : Nat) (r1 : Option Nat) (x2 : Int32) (x3 : Int32) : Dt → Prop := (fun w => G M 0 0 135 [(0, vA (some a0)), (2, vI x2), (3, vI x3)] [] SX w)
def f_X3_nearness_L25 (a0 : Nat) (r1 : Option Nat) (x2 : Int32) (x3 : Int32) (x4 : Int32) (σ : Dt) : Option ((Int32 × Dt) ⊕ Dt) := bo (xgi SX 9 0 r1 σ) fun v1 => if v1 ≤ x4 then some (.inr σ) else if (10 : Int32) ≤ x4 then some (.inr σ) else bo (iter FU (fun s => f_X3_nearness_L44 a0 r1 x2 x3 x4 s.1 s.2) ((0 : Int32), σ)) fun w5 => bo (xgr SX 3 3 (some a0) w5) fun v7 => bo (xar SX 20 v7 x4 w5) fun v9 => bo (xgr SX 9 5 r1 w5) fun v11 => bo (xai SX v11 x4 w5) fun v13 => bo (xrc SX 3 (some a0)) fun a15 => bo (f_X3_nearOfCouple a15 v13 w5) fun v17 => bo (xsl SX v9 x4 ((549755813888 : Int64) + (v17 / (2 : Int64))) w5) fun σ19 => some (.inl ((x4 + (1 : Int32)), σ19))
theorem t_X3_nearness_L25 {M : Mx} {l0 : Launch} (O : Ok M cX3_nearness yX3_nearness) (R0 : Rm M l0 3 105 0 0) (N : Ma M = false) (hn : Mn M = 6) (a0 : Nat) (r1 : Option Nat) (x2 : Int32) (x3 : Int32) (x4 : Int32) (σ : Dt) (o : ((Int32 × Dt) ⊕ Dt)) (h : f_X3_nearness_L25 a0 r1 x2 x3 x4 σ = some o) (K : kon (P_X3_nearness_25 M a0 r1 x2 x3) (E_X3_nearness_25 M a0 r1 x2 x3) o) : G M 0 0 25 [(0, vA (some a0)), (1, vA r1), (2, vI x2), (3, vI x3), (4, vI x4)] [] SX σ := by
  unfold f_X3_nearness_L25 at h
  refine g_iload O dX3_nearness_25 4 rfl ?_
  refine g_aload_n O dX3_nearness_27 rfl 1 rfl ?_
  obtain ⟨v1, e2, h⟩ := bo_some h
  refine g_getI O dX3_nearness_28 fl_X3_32 rfl e2 ?_
  refine g_icmp_ge O dX3_nearness_31 rfl (fun c3 => ?_) (fun c3 => ?_)
  · replace h := (if_pos c3).symm.trans h
    refine g_sub [0, 2, 3] (lv' := [(0, vA (some a0)), (2, vI x2), (3, vI x3)]) rfl ?_
    cases h
    exact K
  · replace h := (if_neg c3).symm.trans h
    refine g_iload O dX3_nearness_34 4 rfl ?_
    refine g_bipush (v := (10 : Int32)) O dX3_nearness_36 rfl ?_
    refine g_icmp_ge O dX3_nearness_38 rfl (fun c4 => ?_) (fun c4 => ?_)
    · replace h := (if_pos c4).symm.trans h
      refine g_sub [0, 2, 3] (lv' := [(0, vA (some a0)), (2, vI x2), (3, vI x3)]) rfl ?_
      cases h
      exact K
    · replace h := (if_neg c4).symm.trans h
      refine g_iconst (v := (0 : Int32)) O dX3_nearness_41 rfl ?_
      refine g_istore (lv' := [(5, vI (0 : Int32)), (0, vA (some a0)), (1, vA r1), (2, vI x2), (3, vI x3), (4, vI x4)]) O dX3_nearness_42 6 hn (by decide) rfl ?_
      refine g_sub [1, 2, 3, 4, 5, 0] (lv' := [(0, vA (some a0)), (1, vA r1), (2, vI x2), (3, vI x3), (4, vI x4), (5, vI (0 : Int32))]) rfl ?_
      obtain ⟨w5, e6, h⟩ := bo_some h
      refine iter_G (P := P_X3_nearness_44 M a0 r1 x2 x3 x4) (E := E_X3_nearness_44 M a0 r1 x2 x3 x4) (fun s o hb hk => t_X3_nearness_L44 O R0 N hn a0 r1 x2 x3 x4 s.1 s.2 o hb hk) FU ((0 : Int32), σ) w5 e6 ?_
      show G M 0 0 100 [(0, vA (some a0)), (1, vA r1), (2, vI x2), (3, vI x3), (4, vI x4)] [] SX w5
      refine g_aload_n O dX3_nearness_100 rfl 0 rfl ?_
      obtain ⟨v7, e8, h⟩ := bo_some h
      refine g_getR O dX3_nearness_101 fl_X3_20 rfl e8 ?_
      refine g_iload O dX3_nearness_104 4 rfl ?_
      obtain ⟨v9, e10, h⟩ := bo_some h
      refine g_aaload (kd := 20) O dX3_nearness_106 (by decide) (by decide) e10 ?_
      refine g_iload O dX3_nearness_107 4 rfl ?_
      refine g_ldc2 O dX3_nearness_109 w1174 ?_
      refine g_aload_n O dX3_nearness_112 rfl 0 rfl ?_
      refine g_aload_n O dX3_nearness_113 rfl 1 rfl ?_
      obtain ⟨v11, e12, h⟩ := bo_some h
      refine g_getR O dX3_nearness_114 fl_X3_36 rfl e12 ?_
      refine g_iload O dX3_nearness_117 4 rfl ?_
      obtain ⟨v13, e14, h⟩ := bo_some h
      refine g_iaload O dX3_nearness_119 e14 ?_
      obtain ⟨a15, e16, h⟩ := bo_some h
      obtain ⟨v17, e18, h⟩ := bo_some h
      refine g_cV1 O R0 N dX3_nearness_120 vl_X3_45 vv_X3_nearOfCouple e16 [vI v13] rfl rfl rfl ⟨Nat.le_of_ble_eq_true rfl, Nat.le_of_ble_eq_true rfl⟩ (c_X3_nearOfCouple l0 a15 v13 w5 v17 e18) ?_
      refine g_ldc2 O dX3_nearness_123 w1173 ?_
      refine g_ldiv O dX3_nearness_126 (by decide) ?_
      refine g_ladd O dX3_nearness_127 ?_
      obtain ⟨σ19, e20, h⟩ := bo_some h
      refine g_lastore O N dX3_nearness_128 e20 ?_
      refine g_iinc (v := (x4 + (1 : Int32))) (lv' := [(4, vI (x4 + (1 : Int32))), (0, vA (some a0)), (1, vA r1), (2, vI x2), (3, vI x3)]) O dX3_nearness_129 6 hn (by decide) 4 rfl rfl rfl ?_
      refine g_goto O dX3_nearness_132 rfl ?_
      refine g_sub [1, 2, 3, 4, 0] (lv' := [(0, vA (some a0)), (1, vA r1), (2, vI x2), (3, vI x3), (4, vI (x4 + (1 : Int32)))]) rfl ?_
      cases h
      exact K
def f_X3_nearness_135 (a0 : Nat) (x2 : Int32) (x3 : Int32) (σ : Dt) : Option (Int64 × Dt) := bo (xgr SX 3 3 (some a0) σ) fun v1 => bo (xar SX 20 v1 x2 σ) fun v3 => bo (xal SX v3 x3 σ) fun v5 => some (v5, σ)
theorem t_X3_nearness_135 {M : Mx} {l0 : Launch} (O : Ok M cX3_nearness yX3_nearness) (R0 : Rm M l0 3 105 0 0) (N : Ma M = false) (hn : Mn M = 6)  (a0 : Nat) (x2 : Int32) (x3 : Int32) (σ : Dt) (o : (Int64 × Dt)) (h : f_X3_nearness_135 a0 x2 x3 σ = some o) (K : Fin' M (some .long) 0 0 SX o.2 (some (vJ o.1))) : G M 0 0 135 [(0, vA (some a0)), (2, vI x2), (3, vI x3)] [] SX σ := by
  unfold f_X3_nearness_135 at h
  refine g_aload_n O dX3_nearness_135 rfl 0 rfl ?_
  obtain ⟨v1, e2, h⟩ := bo_some h
  refine g_getR O dX3_nearness_136 fl_X3_20 rfl e2 ?_
  refine g_iload_n O dX3_nearness_139 rfl 1 rfl ?_
  obtain ⟨v3, e4, h⟩ := bo_some h
  refine g_aaload (kd := 20) O dX3_nearness_140 (by decide) (by decide) e4 ?_
  refine g_iload_n O dX3_nearness_141 rfl 2 rfl ?_
  obtain ⟨v5, e6, h⟩ := bo_some h
  refine g_laload O dX3_nearness_142 e6 ?_
  cases h
  exact g_lreturn O K dX3_nearness_143
def f_X3_nearness (a0 : Nat) (r1 : Option Nat) (x2 : Int32) (x3 : Int32) (σ : Dt) : Option (Int64 × Dt) := if r1 = none then some ((0 : Int64), σ) else bo (xrc SX 9 r1) fun a2 => bo (f_X9_hasFolk a2 x2 σ) fun v4 => if v4 = 0 then some ((0 : Int64), σ) else bo (xrc SX 9 r1) fun a7 => bo (f_X9_hasFolk a7 x3 σ) fun v9 => if v9 = 0 then some ((0 : Int64), σ) else bo (iter FU (fun s => f_X3_nearness_L25 a0 r1 x2 x3 s.1 s.2) ((0 : Int32), σ)) fun w12 => f_X3_nearness_135 a0 x2 x3 w12
theorem t_X3_nearness {M : Mx} {l0 : Launch} (O : Ok M cX3_nearness yX3_nearness) (R0 : Rm M l0 3 105 0 0) (N : Ma M = false) (hn : Mn M = 6) (a0 : Nat) (r1 : Option Nat) (x2 : Int32) (x3 : Int32) (σ : Dt) (o : (Int64 × Dt)) (h : f_X3_nearness a0 r1 x2 x3 σ = some o) (K : Fin' M (some .long) 0 0 SX o.2 (some (vJ o.1))) : G M 0 0 0 [(0, vA (some a0)), (1, vA r1), (2, vI x2), (3, vI x3)] [] SX σ := by
  unfold f_X3_nearness at h
  refine g_aload_n O dX3_nearness_0 rfl 1 rfl ?_
  refine g_ifnull O dX3_nearness_1 rfl (fun c1 => ?_) (fun c1 => ?_)
  · replace h := (if_pos c1).symm.trans h
    refine g_lconst (v := (0 : Int64)) O dX3_nearness_20 rfl ?_
    cases h
    exact g_lreturn O K dX3_nearness_21
  · replace h := (if_neg c1).symm.trans h
    refine g_aload_n O dX3_nearness_4 rfl 1 rfl ?_
    refine g_iload_n O dX3_nearness_5 rfl 2 rfl ?_
    obtain ⟨a2, e3, h⟩ := bo_some h
    obtain ⟨v4, e5, h⟩ := bo_some h
    refine g_cV1 O R0 N dX3_nearness_6 vl_X3_26 vv_X9_hasFolk e3 [vI x2] rfl rfl rfl ⟨Nat.le_of_ble_eq_true rfl, Nat.le_of_ble_eq_true rfl⟩ (c_X9_hasFolk l0 a2 x2 σ v4 e5) ?_
    refine g_if_eq O dX3_nearness_9 rfl (fun c6 => ?_) (fun c6 => ?_)
    · replace h := (if_pos c6).symm.trans h
      refine g_lconst (v := (0 : Int64)) O dX3_nearness_20 rfl ?_
      cases h
      exact g_lreturn O K dX3_nearness_21
    · replace h := (if_neg c6).symm.trans h
      refine g_aload_n O dX3_nearness_12 rfl 1 rfl ?_
      refine g_iload_n O dX3_nearness_13 rfl 3 rfl ?_
      obtain ⟨a7, e8, h⟩ := bo_some h
      obtain ⟨v9, e10, h⟩ := bo_some h
      refine g_cV1 O R0 N dX3_nearness_14 vl_X3_26 vv_X9_hasFolk e8 [vI x3] rfl rfl rfl ⟨Nat.le_of_ble_eq_true rfl, Nat.le_of_ble_eq_true rfl⟩ (c_X9_hasFolk l0 a7 x3 σ v9 e10) ?_
      refine g_if_ne O dX3_nearness_17 rfl (fun c11 => ?_) (fun c11 => ?_)
      · replace h := (if_pos c11).symm.trans h
        refine g_lconst (v := (0 : Int64)) O dX3_nearness_20 rfl ?_
        cases h
        exact g_lreturn O K dX3_nearness_21
      · replace h := (if_neg c11).symm.trans h
        refine g_iconst (v := (0 : Int32)) O dX3_nearness_22 rfl ?_
        refine g_istore (lv' := [(4, vI (0 : Int32)), (0, vA (some a0)), (1, vA r1), (2, vI x2), (3, vI x3)]) O dX3_nearness_23 6 hn (by decide) rfl ?_
        refine g_sub [1, 2, 3, 4, 0] (lv' := [(0, vA (some a0)), (1, vA r1), (2, vI x2), (3, vI x3), (4, vI (0 : Int32))]) rfl ?_
        obtain ⟨w12, e13, h⟩ := bo_some h
        refine iter_G (P := P_X3_nearness_25 M a0 r1 x2 x3) (E := E_X3_nearness_25 M a0 r1 x2 x3) (fun s o hb hk => t_X3_nearness_L25 O R0 N hn a0 r1 x2 x3 s.1 s.2 o hb hk) FU ((0 : Int32), σ) w12 e13 ?_
        show G M 0 0 135 [(0, vA (some a0)), (2, vI x2), (3, vI x3)] [] SX w12
        exact t_X3_nearness_135 O R0 N hn a0 x2 x3 w12 o h K
theorem c_X3_nearness (l0 : Launch) (a0 : Nat) (r1 : Option Nat) (x2 : Int32) (x3 : Int32) (σ : Dt) (r : Int64) (σ' : Dt) (h : f_X3_nearness a0 r1 x2 x3 σ = some (r, σ')) : Ctr l0 yX3_nearness cX3_nearness 6 (some .long) false 3 105 0 0 [vA (some a0), vA r1, vI x2, vI x3] SX σ SX σ' (some (vJ r)) := ctr_of (by decide) (Nat.le_of_ble_eq_true rfl) (fun M O F R0 N hn => t_X3_nearness O R0 N hn a0 r1 x2 x3 σ (r, σ') h F)
def f_X11_kinship (a0 : Nat) (x1 : Int32) (x2 : Int32) (x3 : Int32) (x4 : Int32) (σ : Dt) : Option (Int64 × Dt) := bo (xgr SX 11 0 (some a0) σ) fun v1 => bo (xrc SX 8 v1) fun a3 => bo (f_X8_valleyAt a3 x1 σ) fun v5 => if v5 = none then some ((-1 : Int64), σ) else bo (xrc SX 9 v5) fun a8 => bo (f_X9_hasFolk a8 x2 σ) fun v10 => if v10 = 0 then some ((-1 : Int64), σ) else bo (xrc SX 9 v5) fun a13 => bo (f_X9_hasFolk a13 x3 σ) fun v15 => if v15 = 0 then some ((-1 : Int64), σ) else bo (xgr SX 11 9 (some a0) σ) fun v18 => bo (xgr SX 11 8 (some a0) σ) fun v20 => bo (xrc SX 3 v20) fun a22 => bd (f_X3_nearness a22 v5 x2 x3 σ) fun v24 σ25 => bo (xrc SX 0 v18) fun a27 => bd (f_X0_reduce a27 v24 (1099511627776 : Int64) σ25) fun v29 σ30 => bo (xgr SX 11 9 (some a0) σ30) fun v32 => bo (xrc SX 0 v32) fun a34 => bo (f_X0_part a34 x4 σ30) fun v36 => some (v36, σ30)
theorem t_X11_kinship {M : Mx} {l0 : Launch} (O : Ok M cX11_kinship yX11_kinship) (R0 : Rm M l0 5 144 0 0) (N : Ma M = false) (hn : Mn M = 6) (a0 : Nat) (x1 : Int32) (x2 : Int32) (x3 : Int32) (x4 : Int32) (σ : Dt) (o : (Int64 × Dt)) (h : f_X11_kinship a0 x1 x2 x3 x4 σ = some o) (K : Fin' M (some .long) 0 0 SX o.2 (some (vJ o.1))) : G M 0 0 0 [(0, vA (some a0)), (1, vI x1), (2, vI x2), (3, vI x3), (4, vI x4)] [] SX σ := by
  unfold f_X11_kinship at h
  refine g_aload_n O dX11_kinship_0 rfl 0 rfl ?_
  obtain ⟨v1, e2, h⟩ := bo_some h
  refine g_getR O dX11_kinship_1 fl_X11_12 rfl e2 ?_
  refine g_iload_n O dX11_kinship_4 rfl 1 rfl ?_
  obtain ⟨a3, e4, h⟩ := bo_some h
  obtain ⟨v5, e6, h⟩ := bo_some h
  refine g_cV1 O R0 N dX11_kinship_5 vl_X11_105 vv_X8_valleyAt e4 [vI x1] rfl rfl rfl ⟨Nat.le_of_ble_eq_true rfl, Nat.le_of_ble_eq_true rfl⟩ (c_X8_valleyAt l0 a3 x1 σ v5 e6) ?_
  refine g_astore (lv' := [(5, vA v5), (0, vA (some a0)), (1, vI x1), (2, vI x2), (3, vI x3), (4, vI x4)]) O dX11_kinship_8 6 hn (by decide) rfl ?_
  refine g_aload O dX11_kinship_10 0 rfl ?_
  refine g_ifnull O dX11_kinship_12 rfl (fun c7 => ?_) (fun c7 => ?_)
  · replace h := (if_pos c7).symm.trans h
    refine g_ldc2 O dX11_kinship_33 w1116 ?_
    cases h
    exact g_lreturn O K dX11_kinship_36
  · replace h := (if_neg c7).symm.trans h
    refine g_aload O dX11_kinship_15 0 rfl ?_
    refine g_iload_n O dX11_kinship_17 rfl 3 rfl ?_
    obtain ⟨a8, e9, h⟩ := bo_some h
    obtain ⟨v10, e11, h⟩ := bo_some h
    refine g_cV1 O R0 N dX11_kinship_18 vl_X11_198 vv_X9_hasFolk e9 [vI x2] rfl rfl rfl ⟨Nat.le_of_ble_eq_true rfl, Nat.le_of_ble_eq_true rfl⟩ (c_X9_hasFolk l0 a8 x2 σ v10 e11) ?_
    refine g_if_eq O dX11_kinship_21 rfl (fun c12 => ?_) (fun c12 => ?_)
    · replace h := (if_pos c12).symm.trans h
      refine g_ldc2 O dX11_kinship_33 w1116 ?_
      cases h
      exact g_lreturn O K dX11_kinship_36
    · replace h := (if_neg c12).symm.trans h
      refine g_aload O dX11_kinship_24 0 rfl ?_
      refine g_iload_n O dX11_kinship_26 rfl 4 rfl ?_
      obtain ⟨a13, e14, h⟩ := bo_some h
      obtain ⟨v15, e16, h⟩ := bo_some h
      refine g_cV1 O R0 N dX11_kinship_27 vl_X11_198 vv_X9_hasFolk e14 [vI x3] rfl rfl rfl ⟨Nat.le_of_ble_eq_true rfl, Nat.le_of_ble_eq_true rfl⟩ (c_X9_hasFolk l0 a13 x3 σ v15 e16) ?_
      refine g_if_ne O dX11_kinship_30 rfl (fun c17 => ?_) (fun c17 => ?_)
      · replace h := (if_pos c17).symm.trans h
        refine g_ldc2 O dX11_kinship_33 w1116 ?_
        cases h
        exact g_lreturn O K dX11_kinship_36
      · replace h := (if_neg c17).symm.trans h
        refine g_aload_n O dX11_kinship_37 rfl 1 rfl ?_
        obtain ⟨v18, e19, h⟩ := bo_some h
        refine g_getR O dX11_kinship_38 fl_X11_69 rfl e19 ?_
        refine g_aload_n O dX11_kinship_41 rfl 1 rfl ?_
        obtain ⟨v20, e21, h⟩ := bo_some h
        refine g_getR O dX11_kinship_42 fl_X11_62 rfl e21 ?_
        refine g_aload O dX11_kinship_45 0 rfl ?_
        refine g_iload_n O dX11_kinship_47 rfl 3 rfl ?_
        refine g_iload_n O dX11_kinship_48 rfl 4 rfl ?_
        obtain ⟨a22, e23, h⟩ := bo_some h
        obtain ⟨v24, σ25, e26, h⟩ := bd_some h
        refine g_cV1 O R0 N dX11_kinship_49 vl_X11_201 vv_X3_nearness e23 [vA v5, vI x2, vI x3] rfl rfl rfl ⟨Nat.le_of_ble_eq_true rfl, Nat.le_of_ble_eq_true rfl⟩ (c_X3_nearness l0 a22 v5 x2 x3 σ v24 σ25 e26) ?_
        refine g_ldc2 O dX11_kinship_52 w1179 ?_
        obtain ⟨a27, e28, h⟩ := bo_some h
        obtain ⟨v29, σ30, e31, h⟩ := bd_some h
        refine g_cV0 O R0 N dX11_kinship_55 vl_X11_207 vv_X0_reduce e28 [vJ v24, vJ (1099511627776 : Int64)] rfl rfl rfl ⟨Nat.le_of_ble_eq_true rfl, Nat.le_of_ble_eq_true rfl⟩ (c_X0_reduce l0 a27 v24 (1099511627776 : Int64) σ25 v29 σ30 e31) ?_
        refine g_aload_n O dX11_kinship_58 rfl 1 rfl ?_
        obtain ⟨v32, e33, h⟩ := bo_some h
        refine g_getR O dX11_kinship_59 fl_X11_69 rfl e33 ?_
        refine g_iload O dX11_kinship_62 5 rfl ?_
        obtain ⟨a34, e35, h⟩ := bo_some h
        obtain ⟨v36, e37, h⟩ := bo_some h
        refine g_cV1 O R0 N dX11_kinship_64 vl_X11_187 vv_X0_part e35 [vI x4] rfl rfl rfl ⟨Nat.le_of_ble_eq_true rfl, Nat.le_of_ble_eq_true rfl⟩ (c_X0_part l0 a34 x4 σ30 v36 e37) ?_
        cases h
        exact g_lreturn O K dX11_kinship_67
theorem c_X11_kinship (l0 : Launch) (a0 : Nat) (x1 : Int32) (x2 : Int32) (x3 : Int32) (x4 : Int32) (σ : Dt) (r : Int64) (σ' : Dt) (h : f_X11_kinship a0 x1 x2 x3 x4 σ = some (r, σ')) : Ctr l0 yX11_kinship cX11_kinship 6 (some .long) false 5 144 0 0 [vA (some a0), vI x1, vI x2, vI x3, vI x4] SX σ SX σ' (some (vJ r)) := ctr_of (by decide) (Nat.le_of_ble_eq_true rfl) (fun M O F R0 N hn => t_X11_kinship O R0 N hn a0 x1 x2 x3 x4 σ (r, σ') h F)
def P_X3_longestBelow_5 (M : Mx) (a0 : Nat) (r1 : Option Nat) (x2 : Int32) (σ : Dt) (s : (Int32 × Int32)) : Prop := G M 0 0 5 [(0, vA (some a0)), (1, vA r1), (2, vI x2), (3, vI s.1), (4, vI s.2)] [] SX σ
def E_X3_longestBelow_5 (M : Mx) (a0 : Nat) (r1 : Option Nat) (x2 : Int32) (σ : Dt) : Int32 → Prop := (fun w => G M 0 0 53 [(3, vI w)] [] SX σ)
def f_X3_longestBelow_47 (a0 : Nat) (r1 : Option Nat) (x2 : Int32) (x3 : Int32) (x4 : Int32) (σ : Dt) : Option ((Int32 × Int32) ⊕ Int32) := some (.inl (x3, (x4 + (1 : Int32))))
theorem t_X3_longestBelow_47 {M : Mx} {l0 : Launch} (O : Ok M cX3_longestBelow yX3_longestBelow) (R0 : Rm M l0 2 80 0 0) (N : Ma M = false) (hn : Mn M = 5)  (a0 : Nat) (r1 : Option Nat) (x2 : Int32) (x3 : Int32) (x4 : Int32) (σ : Dt) (o : ((Int32 × Int32) ⊕ Int32)) (h : f_X3_longestBelow_47 a0 r1 x2 x3 x4 σ = some o) (K : kon (P_X3_longestBelow_5 M a0 r1 x2 σ) (E_X3_longestBelow_5 M a0 r1 x2 σ) o) : G M 0 0 47 [(0, vA (some a0)), (1, vA r1), (2, vI x2), (3, vI x3), (4, vI x4)] [] SX σ := by
  unfold f_X3_longestBelow_47 at h
  refine g_iinc (v := (x4 + (1 : Int32))) (lv' := [(4, vI (x4 + (1 : Int32))), (0, vA (some a0)), (1, vA r1), (2, vI x2), (3, vI x3)]) O dX3_longestBelow_47 5 hn (by decide) 4 rfl rfl rfl ?_
  refine g_goto O dX3_longestBelow_50 rfl ?_
  refine g_sub [1, 2, 3, 4, 0] (lv' := [(0, vA (some a0)), (1, vA r1), (2, vI x2), (3, vI x3), (4, vI (x4 + (1 : Int32)))]) rfl ?_
  cases h
  exact K
def f_X3_longestBelow_L5 (a0 : Nat) (r1 : Option Nat) (x2 : Int32) (x3 : Int32) (x4 : Int32) (σ : Dt) : Option ((Int32 × Int32) ⊕ Int32) := bo (xgi SX 9 0 r1 σ) fun v1 => if v1 ≤ x4 then some (.inr x3) else if (10 : Int32) ≤ x4 then some (.inr x3) else bo (xgr SX 9 5 r1 σ) fun v5 => bo (xai SX v5 x4 σ) fun v7 => if ((v7 >>> (x2 &&& 31)) &&& (1 : Int32)) = 0 then f_X3_longestBelow_47 a0 r1 x2 x3 x4 σ else bo (xgr SX 3 2 (some a0) σ) fun v10 => bo (xai SX v10 x4 σ) fun v12 => f_X3_longestBelow_47 a0 r1 x2 (mmax x3 v12) x4 σ
theorem t_X3_longestBelow_L5 {M : Mx} {l0 : Launch} (O : Ok M cX3_longestBelow yX3_longestBelow) (R0 : Rm M l0 2 80 0 0) (N : Ma M = false) (hn : Mn M = 5) (a0 : Nat) (r1 : Option Nat) (x2 : Int32) (x3 : Int32) (x4 : Int32) (σ : Dt) (o : ((Int32 × Int32) ⊕ Int32)) (h : f_X3_longestBelow_L5 a0 r1 x2 x3 x4 σ = some o) (K : kon (P_X3_longestBelow_5 M a0 r1 x2 σ) (E_X3_longestBelow_5 M a0 r1 x2 σ) o) : G M 0 0 5 [(0, vA (some a0)), (1, vA r1), (2, vI x2), (3, vI x3), (4, vI x4)] [] SX σ := by
  unfold f_X3_longestBelow_L5 at h
  refine g_iload O dX3_longestBelow_5 4 rfl ?_
  refine g_aload_n O dX3_longestBelow_7 rfl 1 rfl ?_
  obtain ⟨v1, e2, h⟩ := bo_some h
  refine g_getI O dX3_longestBelow_8 fl_X3_32 rfl e2 ?_
  refine g_icmp_ge O dX3_longestBelow_11 rfl (fun c3 => ?_) (fun c3 => ?_)
  · replace h := (if_pos c3).symm.trans h
    refine g_sub [3] (lv' := [(3, vI x3)]) rfl ?_
    cases h
    exact K
  · replace h := (if_neg c3).symm.trans h
    refine g_iload O dX3_longestBelow_14 4 rfl ?_
    refine g_bipush (v := (10 : Int32)) O dX3_longestBelow_16 rfl ?_
    refine g_icmp_ge O dX3_longestBelow_18 rfl (fun c4 => ?_) (fun c4 => ?_)
    · replace h := (if_pos c4).symm.trans h
      refine g_sub [3] (lv' := [(3, vI x3)]) rfl ?_
      cases h
      exact K
    · replace h := (if_neg c4).symm.trans h
      refine g_aload_n O dX3_longestBelow_21 rfl 1 rfl ?_
      obtain ⟨v5, e6, h⟩ := bo_some h
      refine g_getR O dX3_longestBelow_22 fl_X3_36 rfl e6 ?_
      refine g_iload O dX3_longestBelow_25 4 rfl ?_
      obtain ⟨v7, e8, h⟩ := bo_some h
      refine g_iaload O dX3_longestBelow_27 e8 ?_
      refine g_iload_n O dX3_longestBelow_28 rfl 2 rfl ?_
      refine g_ishr O dX3_longestBelow_29 ?_
      refine g_iconst (v := (1 : Int32)) O dX3_longestBelow_30 rfl ?_
      refine g_iand O dX3_longestBelow_31 ?_
      refine g_if_eq O dX3_longestBelow_32 rfl (fun c9 => ?_) (fun c9 => ?_)
      · replace h := (if_pos c9).symm.trans h
        exact t_X3_longestBelow_47 O R0 N hn a0 r1 x2 x3 x4 σ o h K
      · replace h := (if_neg c9).symm.trans h
        refine g_iload_n O dX3_longestBelow_35 rfl 3 rfl ?_
        refine g_aload_n O dX3_longestBelow_36 rfl 0 rfl ?_
        obtain ⟨v10, e11, h⟩ := bo_some h
        refine g_getR O dX3_longestBelow_37 fl_X3_15 rfl e11 ?_
        refine g_iload O dX3_longestBelow_40 4 rfl ?_
        obtain ⟨v12, e13, h⟩ := bo_some h
        refine g_iaload O dX3_longestBelow_42 e13 ?_
        refine g_mmax O R0 dX3_longestBelow_43 w1193 ⟨Nat.le_of_ble_eq_true rfl, Nat.le_of_ble_eq_true rfl⟩ ?_
        refine g_istore_n (lv' := [(3, vI (mmax x3 v12)), (0, vA (some a0)), (1, vA r1), (2, vI x2), (4, vI x4)]) O dX3_longestBelow_46 rfl 5 hn (by decide) rfl ?_
        refine g_sub [1, 2, 3, 0, 4] (lv' := [(0, vA (some a0)), (1, vA r1), (2, vI x2), (3, vI (mmax x3 v12)), (4, vI x4)]) rfl ?_
        exact t_X3_longestBelow_47 O R0 N hn a0 r1 x2 (mmax x3 v12) x4 σ o h K
def f_X3_longestBelow (a0 : Nat) (r1 : Option Nat) (x2 : Int32) (σ : Dt) : Option Int32 := bo (iter FU (fun s => f_X3_longestBelow_L5 a0 r1 x2 s.1 s.2 σ) ((0 : Int32), (0 : Int32))) fun w1 => some w1
theorem t_X3_longestBelow {M : Mx} {l0 : Launch} (O : Ok M cX3_longestBelow yX3_longestBelow) (R0 : Rm M l0 2 80 0 0) (N : Ma M = false) (hn : Mn M = 5) (a0 : Nat) (r1 : Option Nat) (x2 : Int32) (σ : Dt) (o : Int32) (h : f_X3_longestBelow a0 r1 x2 σ = some o) (K : Fin' M (some .int) 0 0 SX σ (some (vI o))) : G M 0 0 0 [(0, vA (some a0)), (1, vA r1), (2, vI x2)] [] SX σ := by
  unfold f_X3_longestBelow at h
  refine g_iconst (v := (0 : Int32)) O dX3_longestBelow_0 rfl ?_
  refine g_istore_n (lv' := [(3, vI (0 : Int32)), (0, vA (some a0)), (1, vA r1), (2, vI x2)]) O dX3_longestBelow_1 rfl 5 hn (by decide) rfl ?_
  refine g_iconst (v := (0 : Int32)) O dX3_longestBelow_2 rfl ?_
  refine g_istore (lv' := [(4, vI (0 : Int32)), (3, vI (0 : Int32)), (0, vA (some a0)), (1, vA r1), (2, vI x2)]) O dX3_longestBelow_3 5 hn (by decide) rfl ?_
  refine g_sub [2, 3, 4, 1, 0] (lv' := [(0, vA (some a0)), (1, vA r1), (2, vI x2), (3, vI (0 : Int32)), (4, vI (0 : Int32))]) rfl ?_
  obtain ⟨w1, e2, h⟩ := bo_some h
  refine iter_G (P := P_X3_longestBelow_5 M a0 r1 x2 σ) (E := E_X3_longestBelow_5 M a0 r1 x2 σ) (fun s o hb hk => t_X3_longestBelow_L5 O R0 N hn a0 r1 x2 s.1 s.2 σ o hb hk) FU ((0 : Int32), (0 : Int32)) w1 e2 ?_
  show G M 0 0 53 [(3, vI w1)] [] SX σ
  refine g_iload_n O dX3_longestBelow_53 rfl 0 rfl ?_
  cases h
  exact g_ireturn O K dX3_longestBelow_54
theorem c_X3_longestBelow (l0 : Launch) (a0 : Nat) (r1 : Option Nat) (x2 : Int32) (σ : Dt) (r : Int32) (h : f_X3_longestBelow a0 r1 x2 σ = some r) : Ctr l0 yX3_longestBelow cX3_longestBelow 5 (some .int) false 2 80 0 0 [vA (some a0), vA r1, vI x2] SX σ SX σ (some (vI r)) := ctr_of (by decide) (Nat.le_of_ble_eq_true rfl) (fun M O F R0 N hn => t_X3_longestBelow O R0 N hn a0 r1 x2 σ r h F)
def P_X3_nextInLine_3 (M : Mx) (a0 : Nat) (r1 : Option Nat) (x2 : Int32) (x3 : Int32) (σ : Dt) (s : Int32) : Prop := G M 0 0 3 [(0, vA (some a0)), (1, vA r1), (2, vI x2), (3, vI x3), (4, vI s)] [] SX σ
def E_X3_nextInLine_3 (M : Mx) (a0 : Nat) (r1 : Option Nat) (x2 : Int32) (x3 : Int32) (σ : Dt) : (Int32 ⊕ Unit) → Prop := (el (fun w => G M 0 0 44 [(4, vI w)] [] SX σ) (fun w => G M 0 0 53 [] [] SX σ))
def f_X3_nextInLine_47 (a0 : Nat) (r1 : Option Nat) (x2 : Int32) (x3 : Int32) (x4 : Int32) (σ : Dt) : Option (Int32 ⊕ (Int32 ⊕ Unit)) := some (.inl (x4 + (1 : Int32)))
theorem t_X3_nextInLine_47 {M : Mx} {l0 : Launch} (O : Ok M cX3_nextInLine yX3_nextInLine) (R0 : Rm M l0 2 80 0 0) (N : Ma M = false) (hn : Mn M = 5)  (a0 : Nat) (r1 : Option Nat) (x2 : Int32) (x3 : Int32) (x4 : Int32) (σ : Dt) (o : (Int32 ⊕ (Int32 ⊕ Unit))) (h : f_X3_nextInLine_47 a0 r1 x2 x3 x4 σ = some o) (K : kon (P_X3_nextInLine_3 M a0 r1 x2 x3 σ) (E_X3_nextInLine_3 M a0 r1 x2 x3 σ) o) : G M 0 0 47 [(0, vA (some a0)), (1, vA r1), (2, vI x2), (3, vI x3), (4, vI x4)] [] SX σ := by
  unfold f_X3_nextInLine_47 at h
  refine g_iinc (v := (x4 + (1 : Int32))) (lv' := [(4, vI (x4 + (1 : Int32))), (0, vA (some a0)), (1, vA r1), (2, vI x2), (3, vI x3)]) O dX3_nextInLine_47 5 hn (by decide) 4 rfl rfl rfl ?_
  refine g_goto O dX3_nextInLine_50 rfl ?_
  refine g_sub [1, 2, 3, 4, 0] (lv' := [(0, vA (some a0)), (1, vA r1), (2, vI x2), (3, vI x3), (4, vI (x4 + (1 : Int32)))]) rfl ?_
  cases h
  exact K
def f_X3_nextInLine_L3 (a0 : Nat) (r1 : Option Nat) (x2 : Int32) (x3 : Int32) (x4 : Int32) (σ : Dt) : Option (Int32 ⊕ (Int32 ⊕ Unit)) := bo (xgi SX 9 0 r1 σ) fun v1 => if v1 ≤ x4 then some (.inr (.inr ())) else if (10 : Int32) ≤ x4 then some (.inr (.inr ())) else bo (xgr SX 9 5 r1 σ) fun v5 => bo (xai SX v5 x4 σ) fun v7 => if ((v7 >>> (x2 &&& 31)) &&& (1 : Int32)) = 0 then f_X3_nextInLine_47 a0 r1 x2 x3 x4 σ else bo (xgr SX 3 2 (some a0) σ) fun v10 => bo (xai SX v10 x4 σ) fun v12 => if v12 = x3 then some (.inr (.inl x4)) else f_X3_nextInLine_47 a0 r1 x2 x3 x4 σ
theorem t_X3_nextInLine_L3 {M : Mx} {l0 : Launch} (O : Ok M cX3_nextInLine yX3_nextInLine) (R0 : Rm M l0 2 80 0 0) (N : Ma M = false) (hn : Mn M = 5) (a0 : Nat) (r1 : Option Nat) (x2 : Int32) (x3 : Int32) (x4 : Int32) (σ : Dt) (o : (Int32 ⊕ (Int32 ⊕ Unit))) (h : f_X3_nextInLine_L3 a0 r1 x2 x3 x4 σ = some o) (K : kon (P_X3_nextInLine_3 M a0 r1 x2 x3 σ) (E_X3_nextInLine_3 M a0 r1 x2 x3 σ) o) : G M 0 0 3 [(0, vA (some a0)), (1, vA r1), (2, vI x2), (3, vI x3), (4, vI x4)] [] SX σ := by
  unfold f_X3_nextInLine_L3 at h
  refine g_iload O dX3_nextInLine_3 4 rfl ?_
  refine g_aload_n O dX3_nextInLine_5 rfl 1 rfl ?_
  obtain ⟨v1, e2, h⟩ := bo_some h
  refine g_getI O dX3_nextInLine_6 fl_X3_32 rfl e2 ?_
  refine g_icmp_ge O dX3_nextInLine_9 rfl (fun c3 => ?_) (fun c3 => ?_)
  · replace h := (if_pos c3).symm.trans h
    refine g_sub [] (lv' := []) rfl ?_
    cases h
    exact K
  · replace h := (if_neg c3).symm.trans h
    refine g_iload O dX3_nextInLine_12 4 rfl ?_
    refine g_bipush (v := (10 : Int32)) O dX3_nextInLine_14 rfl ?_
    refine g_icmp_ge O dX3_nextInLine_16 rfl (fun c4 => ?_) (fun c4 => ?_)
    · replace h := (if_pos c4).symm.trans h
      refine g_sub [] (lv' := []) rfl ?_
      cases h
      exact K
    · replace h := (if_neg c4).symm.trans h
      refine g_aload_n O dX3_nextInLine_19 rfl 1 rfl ?_
      obtain ⟨v5, e6, h⟩ := bo_some h
      refine g_getR O dX3_nextInLine_20 fl_X3_36 rfl e6 ?_
      refine g_iload O dX3_nextInLine_23 4 rfl ?_
      obtain ⟨v7, e8, h⟩ := bo_some h
      refine g_iaload O dX3_nextInLine_25 e8 ?_
      refine g_iload_n O dX3_nextInLine_26 rfl 2 rfl ?_
      refine g_ishr O dX3_nextInLine_27 ?_
      refine g_iconst (v := (1 : Int32)) O dX3_nextInLine_28 rfl ?_
      refine g_iand O dX3_nextInLine_29 ?_
      refine g_if_eq O dX3_nextInLine_30 rfl (fun c9 => ?_) (fun c9 => ?_)
      · replace h := (if_pos c9).symm.trans h
        exact t_X3_nextInLine_47 O R0 N hn a0 r1 x2 x3 x4 σ o h K
      · replace h := (if_neg c9).symm.trans h
        refine g_aload_n O dX3_nextInLine_33 rfl 0 rfl ?_
        obtain ⟨v10, e11, h⟩ := bo_some h
        refine g_getR O dX3_nextInLine_34 fl_X3_15 rfl e11 ?_
        refine g_iload O dX3_nextInLine_37 4 rfl ?_
        obtain ⟨v12, e13, h⟩ := bo_some h
        refine g_iaload O dX3_nextInLine_39 e13 ?_
        refine g_iload_n O dX3_nextInLine_40 rfl 3 rfl ?_
        refine g_icmp_ne O dX3_nextInLine_41 rfl (fun c14 => ?_) (fun c14 => ?_)
        · replace h := (if_pos c14).symm.trans h
          refine g_sub [4] (lv' := [(4, vI x4)]) rfl ?_
          cases h
          exact K
        · replace h := (if_neg c14).symm.trans h
          exact t_X3_nextInLine_47 O R0 N hn a0 r1 x2 x3 x4 σ o h K
def f_X3_nextInLine (a0 : Nat) (r1 : Option Nat) (x2 : Int32) (x3 : Int32) (σ : Dt) : Option Int32 := bo (iter FU (fun s => f_X3_nextInLine_L3 a0 r1 x2 x3 s σ) (0 : Int32)) fun w1 => el (fun w3 => some w3) (fun w3 => some (-1 : Int32)) w1
theorem t_X3_nextInLine {M : Mx} {l0 : Launch} (O : Ok M cX3_nextInLine yX3_nextInLine) (R0 : Rm M l0 2 80 0 0) (N : Ma M = false) (hn : Mn M = 5) (a0 : Nat) (r1 : Option Nat) (x2 : Int32) (x3 : Int32) (σ : Dt) (o : Int32) (h : f_X3_nextInLine a0 r1 x2 x3 σ = some o) (K : Fin' M (some .int) 0 0 SX σ (some (vI o))) : G M 0 0 0 [(0, vA (some a0)), (1, vA r1), (2, vI x2), (3, vI x3)] [] SX σ := by
  unfold f_X3_nextInLine at h
  refine g_iconst (v := (0 : Int32)) O dX3_nextInLine_0 rfl ?_
  refine g_istore (lv' := [(4, vI (0 : Int32)), (0, vA (some a0)), (1, vA r1), (2, vI x2), (3, vI x3)]) O dX3_nextInLine_1 5 hn (by decide) rfl ?_
  refine g_sub [1, 2, 3, 4, 0] (lv' := [(0, vA (some a0)), (1, vA r1), (2, vI x2), (3, vI x3), (4, vI (0 : Int32))]) rfl ?_
  obtain ⟨w1, e2, h⟩ := bo_some h
  refine iter_G (P := P_X3_nextInLine_3 M a0 r1 x2 x3 σ) (E := E_X3_nextInLine_3 M a0 r1 x2 x3 σ) (fun s o hb hk => t_X3_nextInLine_L3 O R0 N hn a0 r1 x2 x3 s σ o hb hk) FU (0 : Int32) w1 e2 ?_
  rcases w1 with w3 | w3
  · replace h := el_l h
    show G M 0 0 44 [(4, vI w3)] [] SX σ
    refine g_iload O dX3_nextInLine_44 0 rfl ?_
    cases h
    exact g_ireturn O K dX3_nextInLine_46
  · replace h := el_r h
    show G M 0 0 53 [] [] SX σ
    refine g_iconst (v := (-1 : Int32)) O dX3_nextInLine_53 rfl ?_
    cases h
    exact g_ireturn O K dX3_nextInLine_54
theorem c_X3_nextInLine (l0 : Launch) (a0 : Nat) (r1 : Option Nat) (x2 : Int32) (x3 : Int32) (σ : Dt) (r : Int32) (h : f_X3_nextInLine a0 r1 x2 x3 σ = some r) : Ctr l0 yX3_nextInLine cX3_nextInLine 5 (some .int) false 2 80 0 0 [vA (some a0), vA r1, vI x2, vI x3] SX σ SX σ (some (vI r)) := ctr_of (by decide) (Nat.le_of_ble_eq_true rfl) (fun M O F R0 N hn => t_X3_nextInLine O R0 N hn a0 r1 x2 x3 σ r h F)
def P_X3_findLine_87 (M : Mx) (a0 : Nat) (r1 : Option Nat) (s : (Int32 × Int32 × Dt)) : Prop := G M 0 0 87 [(0, vA (some a0)), (1, vA r1), (2, vI s.1), (3, vI s.2.1)] [] SX s.2.2
def E_X3_findLine_87 (M : Mx) (a0 : Nat) (r1 : Option Nat) : Dt → Prop := (fun w => G M 0 0 129 [] [] SX w)
def f_X3_findLine_L87 (a0 : Nat) (r1 : Option Nat) (x2 : Int32) (x3 : Int32) (σ : Dt) : Option ((Int32 × Int32 × Dt) ⊕ Dt) := bo (xgi SX 3 0 (some a0) σ) fun v1 => if v1 ≤ x3 then some (.inr σ) else if (10 : Int32) ≤ x3 then some (.inr σ) else bo (xgr SX 3 1 (some a0) σ) fun v5 => bo (xsi SX v5 x3 x2 σ) fun σ7 => bo (xgi SX 3 0 (some a0) σ7) fun v9 => bo (xrc SX 3 (some a0)) fun a11 => bo (f_X3_nextInLine a11 r1 x2 ((v9 - x3) - (1 : Int32)) σ7) fun v13 => some (.inl (v13, (x3 + (1 : Int32)), σ7))
theorem t_X3_findLine_L87 {M : Mx} {l0 : Launch} (O : Ok M cX3_findLine yX3_findLine) (R0 : Rm M l0 3 104 0 0) (N : Ma M = false) (hn : Mn M = 4) (a0 : Nat) (r1 : Option Nat) (x2 : Int32) (x3 : Int32) (σ : Dt) (o : ((Int32 × Int32 × Dt) ⊕ Dt)) (h : f_X3_findLine_L87 a0 r1 x2 x3 σ = some o) (K : kon (P_X3_findLine_87 M a0 r1) (E_X3_findLine_87 M a0 r1) o) : G M 0 0 87 [(0, vA (some a0)), (1, vA r1), (2, vI x2), (3, vI x3)] [] SX σ := by
  unfold f_X3_findLine_L87 at h
  refine g_iload_n O dX3_findLine_87 rfl 3 rfl ?_
  refine g_aload_n O dX3_findLine_88 rfl 0 rfl ?_
  obtain ⟨v1, e2, h⟩ := bo_some h
  refine g_getI O dX3_findLine_89 fl_X3_51 rfl e2 ?_
  refine g_icmp_ge O dX3_findLine_92 rfl (fun c3 => ?_) (fun c3 => ?_)
  · replace h := (if_pos c3).symm.trans h
    refine g_sub [] (lv' := []) rfl ?_
    cases h
    exact K
  · replace h := (if_neg c3).symm.trans h
    refine g_iload_n O dX3_findLine_95 rfl 3 rfl ?_
    refine g_bipush (v := (10 : Int32)) O dX3_findLine_96 rfl ?_
    refine g_icmp_ge O dX3_findLine_98 rfl (fun c4 => ?_) (fun c4 => ?_)
    · replace h := (if_pos c4).symm.trans h
      refine g_sub [] (lv' := []) rfl ?_
      cases h
      exact K
    · replace h := (if_neg c4).symm.trans h
      refine g_aload_n O dX3_findLine_101 rfl 0 rfl ?_
      obtain ⟨v5, e6, h⟩ := bo_some h
      refine g_getR O dX3_findLine_102 fl_X3_11 rfl e6 ?_
      refine g_iload_n O dX3_findLine_105 rfl 3 rfl ?_
      refine g_iload_n O dX3_findLine_106 rfl 2 rfl ?_
      obtain ⟨σ7, e8, h⟩ := bo_some h
      refine g_iastore O dX3_findLine_107 e8 ?_
      refine g_aload_n O dX3_findLine_108 rfl 0 rfl ?_
      refine g_aload_n O dX3_findLine_109 rfl 1 rfl ?_
      refine g_iload_n O dX3_findLine_110 rfl 2 rfl ?_
      refine g_aload_n O dX3_findLine_111 rfl 0 rfl ?_
      obtain ⟨v9, e10, h⟩ := bo_some h
      refine g_getI O dX3_findLine_112 fl_X3_51 rfl e10 ?_
      refine g_iload_n O dX3_findLine_115 rfl 3 rfl ?_
      refine g_isub O dX3_findLine_116 ?_
      refine g_iconst (v := (1 : Int32)) O dX3_findLine_117 rfl ?_
      refine g_isub O dX3_findLine_118 ?_
      obtain ⟨a11, e12, h⟩ := bo_some h
      obtain ⟨v13, e14, h⟩ := bo_some h
      refine g_cV1 O R0 N dX3_findLine_119 vl_X3_58 vv_X3_nextInLine e12 [vA r1, vI x2, vI ((v9 - x3) - (1 : Int32))] rfl rfl rfl ⟨Nat.le_of_ble_eq_true rfl, Nat.le_of_ble_eq_true rfl⟩ (c_X3_nextInLine l0 a11 r1 x2 ((v9 - x3) - (1 : Int32)) σ7 v13 e14) ?_
      refine g_istore_n (lv' := [(2, vI v13), (0, vA (some a0)), (1, vA r1), (3, vI x3)]) O dX3_findLine_122 rfl 4 hn (by decide) rfl ?_
      refine g_iinc (v := (x3 + (1 : Int32))) (lv' := [(3, vI (x3 + (1 : Int32))), (2, vI v13), (0, vA (some a0)), (1, vA r1)]) O dX3_findLine_123 4 hn (by decide) 3 rfl rfl rfl ?_
      refine g_goto O dX3_findLine_126 rfl ?_
      refine g_sub [2, 3, 1, 0] (lv' := [(0, vA (some a0)), (1, vA r1), (2, vI v13), (3, vI (x3 + (1 : Int32)))]) rfl ?_
      cases h
      exact K
def P_X3_findLine_15 (M : Mx) (a0 : Nat) (r1 : Option Nat) (s : (Int32 × Int32 × Dt)) : Prop := G M 0 0 15 [(0, vA (some a0)), (1, vA r1), (2, vI s.1), (3, vI s.2.1)] [] SX s.2.2
def E_X3_findLine_15 (M : Mx) (a0 : Nat) (r1 : Option Nat) : (Int32 × Dt) → Prop := (fun w => G M 0 0 85 [(0, vA (some a0)), (1, vA r1), (2, vI w.1)] [] SX w.2)
def f_X3_findLine_79 (a0 : Nat) (r1 : Option Nat) (x2 : Int32) (x3 : Int32) (σ : Dt) : Option ((Int32 × Int32 × Dt) ⊕ (Int32 × Dt)) := some (.inl (x2, (x3 + (-1 : Int32)), σ))
theorem t_X3_findLine_79 {M : Mx} {l0 : Launch} (O : Ok M cX3_findLine yX3_findLine) (R0 : Rm M l0 3 104 0 0) (N : Ma M = false) (hn : Mn M = 4)  (a0 : Nat) (r1 : Option Nat) (x2 : Int32) (x3 : Int32) (σ : Dt) (o : ((Int32 × Int32 × Dt) ⊕ (Int32 × Dt))) (h : f_X3_findLine_79 a0 r1 x2 x3 σ = some o) (K : kon (P_X3_findLine_15 M a0 r1) (E_X3_findLine_15 M a0 r1) o) : G M 0 0 79 [(0, vA (some a0)), (1, vA r1), (2, vI x2), (3, vI x3)] [] SX σ := by
  unfold f_X3_findLine_79 at h
  refine g_iinc (v := (x3 + (-1 : Int32))) (lv' := [(3, vI (x3 + (-1 : Int32))), (0, vA (some a0)), (1, vA r1), (2, vI x2)]) O dX3_findLine_79 4 hn (by decide) 3 rfl rfl rfl ?_
  refine g_goto O dX3_findLine_82 rfl ?_
  refine g_sub [1, 2, 3, 0] (lv' := [(0, vA (some a0)), (1, vA r1), (2, vI x2), (3, vI (x3 + (-1 : Int32)))]) rfl ?_
  cases h
  exact K
def f_X3_findLine_44 (a0 : Nat) (r1 : Option Nat) (x2 : Int32) (x3 : Int32) (k0 : Option Nat) (k1 : Int32) (k2 : Int32) (σ : Dt) : Option ((Int32 × Int32 × Dt) ⊕ (Int32 × Dt)) := bo (xsi SX k0 k1 k2 σ) fun σ1 => bo (xgr SX 3 2 (some a0) σ1) fun v3 => bo (xai SX v3 x3 σ1) fun v5 => if v5 ≤ 0 then f_X3_findLine_79 a0 r1 x2 x3 σ1 else bo (xgr SX 3 2 (some a0) σ1) fun v8 => bo (xai SX v8 x3 σ1) fun v10 => bo (xgi SX 3 0 (some a0) σ1) fun v12 => if v10 < v12 then f_X3_findLine_79 a0 r1 x2 x3 σ1 else bo (xgr SX 3 2 (some a0) σ1) fun v15 => bo (xai SX v15 x3 σ1) fun v17 => bo (xpi SX 3 0 (some a0) v17 σ1) fun σ19 => f_X3_findLine_79 a0 r1 x3 x3 σ19
theorem t_X3_findLine_44 {M : Mx} {l0 : Launch} (O : Ok M cX3_findLine yX3_findLine) (R0 : Rm M l0 3 104 0 0) (N : Ma M = false) (hn : Mn M = 4)  (a0 : Nat) (r1 : Option Nat) (x2 : Int32) (x3 : Int32) (k0 : Option Nat) (k1 : Int32) (k2 : Int32) (σ : Dt) (o : ((Int32 × Int32 × Dt) ⊕ (Int32 × Dt))) (h : f_X3_findLine_44 a0 r1 x2 x3 k0 k1 k2 σ = some o) (K : kon (P_X3_findLine_15 M a0 r1) (E_X3_findLine_15 M a0 r1) o) : G M 0 0 44 [(0, vA (some a0)), (1, vA r1), (2, vI x2), (3, vI x3)] [vI k2, vI k1, vA k0] SX σ := by
  unfold f_X3_findLine_44 at h
  obtain ⟨σ1, e2, h⟩ := bo_some h
  refine g_iastore O dX3_findLine_44 e2 ?_
  refine g_aload_n O dX3_findLine_45 rfl 0 rfl ?_
  obtain ⟨v3, e4, h⟩ := bo_some h
  refine g_getR O dX3_findLine_46 fl_X3_15 rfl e4 ?_
  refine g_iload_n O dX3_findLine_49 rfl 3 rfl ?_
  obtain ⟨v5, e6, h⟩ := bo_some h
  refine g_iaload O dX3_findLine_50 e6 ?_
  refine g_if_le O dX3_findLine_51 rfl (fun c7 => ?_) (fun c7 => ?_)
  · replace h := (if_pos c7).symm.trans h
    exact t_X3_findLine_79 O R0 N hn a0 r1 x2 x3 σ1 o h K
  · replace h := (if_neg c7).symm.trans h
    refine g_aload_n O dX3_findLine_54 rfl 0 rfl ?_
    obtain ⟨v8, e9, h⟩ := bo_some h
    refine g_getR O dX3_findLine_55 fl_X3_15 rfl e9 ?_
    refine g_iload_n O dX3_findLine_58 rfl 3 rfl ?_
    obtain ⟨v10, e11, h⟩ := bo_some h
    refine g_iaload O dX3_findLine_59 e11 ?_
    refine g_aload_n O dX3_findLine_60 rfl 0 rfl ?_
    obtain ⟨v12, e13, h⟩ := bo_some h
    refine g_getI O dX3_findLine_61 fl_X3_51 rfl e13 ?_
    refine g_icmp_lt O dX3_findLine_64 rfl (fun c14 => ?_) (fun c14 => ?_)
    · replace h := (if_pos c14).symm.trans h
      exact t_X3_findLine_79 O R0 N hn a0 r1 x2 x3 σ1 o h K
    · replace h := (if_neg c14).symm.trans h
      refine g_aload_n O dX3_findLine_67 rfl 0 rfl ?_
      refine g_aload_n O dX3_findLine_68 rfl 0 rfl ?_
      obtain ⟨v15, e16, h⟩ := bo_some h
      refine g_getR O dX3_findLine_69 fl_X3_15 rfl e16 ?_
      refine g_iload_n O dX3_findLine_72 rfl 3 rfl ?_
      obtain ⟨v17, e18, h⟩ := bo_some h
      refine g_iaload O dX3_findLine_73 e18 ?_
      obtain ⟨σ19, e20, h⟩ := bo_some h
      refine g_putI O dX3_findLine_74 fl_X3_51 (Or.inl rfl) rfl e20 ?_
      refine g_iload_n O dX3_findLine_77 rfl 3 rfl ?_
      refine g_istore_n (lv' := [(2, vI x3), (0, vA (some a0)), (1, vA r1), (3, vI x3)]) O dX3_findLine_78 rfl 4 hn (by decide) rfl ?_
      refine g_sub [1, 2, 0, 3] (lv' := [(0, vA (some a0)), (1, vA r1), (2, vI x3), (3, vI x3)]) rfl ?_
      exact t_X3_findLine_79 O R0 N hn a0 r1 x3 x3 σ19 o h K
def f_X3_findLine_L15 (a0 : Nat) (r1 : Option Nat) (x2 : Int32) (x3 : Int32) (σ : Dt) : Option ((Int32 × Int32 × Dt) ⊕ (Int32 × Dt)) := if x3 < 0 then some (.inr (x2, σ)) else bo (xgr SX 3 2 (some a0) σ) fun v2 => bo (xrc SX 9 r1) fun a4 => bo (f_X9_hasFolk a4 x3 σ) fun v6 => if v6 = 0 then f_X3_findLine_44 a0 r1 x2 x3 v2 x3 (0 : Int32) σ else bo (xrc SX 3 (some a0)) fun a9 => bo (f_X3_longestBelow a9 r1 x3 σ) fun v11 => f_X3_findLine_44 a0 r1 x2 x3 v2 x3 ((1 : Int32) + v11) σ
theorem t_X3_findLine_L15 {M : Mx} {l0 : Launch} (O : Ok M cX3_findLine yX3_findLine) (R0 : Rm M l0 3 104 0 0) (N : Ma M = false) (hn : Mn M = 4) (a0 : Nat) (r1 : Option Nat) (x2 : Int32) (x3 : Int32) (σ : Dt) (o : ((Int32 × Int32 × Dt) ⊕ (Int32 × Dt))) (h : f_X3_findLine_L15 a0 r1 x2 x3 σ = some o) (K : kon (P_X3_findLine_15 M a0 r1) (E_X3_findLine_15 M a0 r1) o) : G M 0 0 15 [(0, vA (some a0)), (1, vA r1), (2, vI x2), (3, vI x3)] [] SX σ := by
  unfold f_X3_findLine_L15 at h
  refine g_iload_n O dX3_findLine_15 rfl 3 rfl ?_
  refine g_if_lt O dX3_findLine_16 rfl (fun c1 => ?_) (fun c1 => ?_)
  · replace h := (if_pos c1).symm.trans h
    refine g_sub [0, 1, 2] (lv' := [(0, vA (some a0)), (1, vA r1), (2, vI x2)]) rfl ?_
    cases h
    exact K
  · replace h := (if_neg c1).symm.trans h
    refine g_aload_n O dX3_findLine_19 rfl 0 rfl ?_
    obtain ⟨v2, e3, h⟩ := bo_some h
    refine g_getR O dX3_findLine_20 fl_X3_15 rfl e3 ?_
    refine g_iload_n O dX3_findLine_23 rfl 3 rfl ?_
    refine g_aload_n O dX3_findLine_24 rfl 1 rfl ?_
    refine g_iload_n O dX3_findLine_25 rfl 3 rfl ?_
    obtain ⟨a4, e5, h⟩ := bo_some h
    obtain ⟨v6, e7, h⟩ := bo_some h
    refine g_cV1 O R0 N dX3_findLine_26 vl_X3_26 vv_X9_hasFolk e5 [vI x3] rfl rfl rfl ⟨Nat.le_of_ble_eq_true rfl, Nat.le_of_ble_eq_true rfl⟩ (c_X9_hasFolk l0 a4 x3 σ v6 e7) ?_
    refine g_if_eq O dX3_findLine_29 rfl (fun c8 => ?_) (fun c8 => ?_)
    · replace h := (if_pos c8).symm.trans h
      refine g_iconst (v := (0 : Int32)) O dX3_findLine_43 rfl ?_
      exact t_X3_findLine_44 O R0 N hn a0 r1 x2 x3 v2 x3 (0 : Int32) σ o h K
    · replace h := (if_neg c8).symm.trans h
      refine g_iconst (v := (1 : Int32)) O dX3_findLine_32 rfl ?_
      refine g_aload_n O dX3_findLine_33 rfl 0 rfl ?_
      refine g_aload_n O dX3_findLine_34 rfl 1 rfl ?_
      refine g_iload_n O dX3_findLine_35 rfl 3 rfl ?_
      obtain ⟨a9, e10, h⟩ := bo_some h
      obtain ⟨v11, e12, h⟩ := bo_some h
      refine g_cV1 O R0 N dX3_findLine_36 vl_X3_54 vv_X3_longestBelow e10 [vA r1, vI x3] rfl rfl rfl ⟨Nat.le_of_ble_eq_true rfl, Nat.le_of_ble_eq_true rfl⟩ (c_X3_longestBelow l0 a9 r1 x3 σ v11 e12) ?_
      refine g_iadd O dX3_findLine_39 ?_
      refine g_goto O dX3_findLine_40 rfl ?_
      exact t_X3_findLine_44 O R0 N hn a0 r1 x2 x3 v2 x3 ((1 : Int32) + v11) σ o h K
def f_X3_findLine (a0 : Nat) (r1 : Option Nat) (σ : Dt) : Option (Unit × Dt) := bo (xpi SX 3 0 (some a0) (0 : Int32) σ) fun σ1 => if r1 = none then some ((), σ1) else bo (iter FU (fun s => f_X3_findLine_L15 a0 r1 s.1 s.2.1 s.2.2) ((-1 : Int32), (9 : Int32), σ1)) fun w4 => bo (iter FU (fun s => f_X3_findLine_L87 a0 r1 s.1 s.2.1 s.2.2) (w4.1, (0 : Int32), w4.2)) fun w6 => some ((), w6)
theorem t_X3_findLine {M : Mx} {l0 : Launch} (O : Ok M cX3_findLine yX3_findLine) (R0 : Rm M l0 3 104 0 0) (N : Ma M = false) (hn : Mn M = 4) (a0 : Nat) (r1 : Option Nat) (σ : Dt) (o : (Unit × Dt)) (h : f_X3_findLine a0 r1 σ = some o) (K : Fin' M (none) 0 0 SX o.2 (none)) : G M 0 0 0 [(0, vA (some a0)), (1, vA r1)] [] SX σ := by
  unfold f_X3_findLine at h
  refine g_aload_n O dX3_findLine_0 rfl 0 rfl ?_
  refine g_iconst (v := (0 : Int32)) O dX3_findLine_1 rfl ?_
  obtain ⟨σ1, e2, h⟩ := bo_some h
  refine g_putI O dX3_findLine_2 fl_X3_51 (Or.inl rfl) rfl e2 ?_
  refine g_aload_n O dX3_findLine_5 rfl 1 rfl ?_
  refine g_ifnonnull O dX3_findLine_6 rfl (fun c3 => ?_) (fun c3 => ?_)
  · replace h := (if_neg c3).symm.trans h
    refine g_iconst (v := (-1 : Int32)) O dX3_findLine_10 rfl ?_
    refine g_istore_n (lv' := [(2, vI (-1 : Int32)), (0, vA (some a0)), (1, vA r1)]) O dX3_findLine_11 rfl 4 hn (by decide) rfl ?_
    refine g_bipush (v := (9 : Int32)) O dX3_findLine_12 rfl ?_
    refine g_istore_n (lv' := [(3, vI (9 : Int32)), (2, vI (-1 : Int32)), (0, vA (some a0)), (1, vA r1)]) O dX3_findLine_14 rfl 4 hn (by decide) rfl ?_
    refine g_sub [2, 3, 1, 0] (lv' := [(0, vA (some a0)), (1, vA r1), (2, vI (-1 : Int32)), (3, vI (9 : Int32))]) rfl ?_
    obtain ⟨w4, e5, h⟩ := bo_some h
    refine iter_G (P := P_X3_findLine_15 M a0 r1) (E := E_X3_findLine_15 M a0 r1) (fun s o hb hk => t_X3_findLine_L15 O R0 N hn a0 r1 s.1 s.2.1 s.2.2 o hb hk) FU ((-1 : Int32), (9 : Int32), σ1) w4 e5 ?_
    show G M 0 0 85 [(0, vA (some a0)), (1, vA r1), (2, vI w4.1)] [] SX w4.2
    refine g_iconst (v := (0 : Int32)) O dX3_findLine_85 rfl ?_
    refine g_istore_n (lv' := [(3, vI (0 : Int32)), (0, vA (some a0)), (1, vA r1), (2, vI w4.1)]) O dX3_findLine_86 rfl 4 hn (by decide) rfl ?_
    refine g_sub [1, 2, 3, 0] (lv' := [(0, vA (some a0)), (1, vA r1), (2, vI w4.1), (3, vI (0 : Int32))]) rfl ?_
    obtain ⟨w6, e7, h⟩ := bo_some h
    refine iter_G (P := P_X3_findLine_87 M a0 r1) (E := E_X3_findLine_87 M a0 r1) (fun s o hb hk => t_X3_findLine_L87 O R0 N hn a0 r1 s.1 s.2.1 s.2.2 o hb hk) FU (w4.1, (0 : Int32), w4.2) w6 e7 ?_
    show G M 0 0 129 [] [] SX w6
    cases h
    exact g_return O K dX3_findLine_129
  · replace h := (if_pos c3).symm.trans h
    cases h
    exact g_return O K dX3_findLine_9
theorem c_X3_findLine (l0 : Launch) (a0 : Nat) (r1 : Option Nat) (σ : Dt) (r : Unit) (σ' : Dt) (h : f_X3_findLine a0 r1 σ = some (r, σ')) : Ctr l0 yX3_findLine cX3_findLine 4 (none) false 3 104 0 0 [vA (some a0), vA r1] SX σ SX σ' (none) := ctr_of (by decide) (Nat.le_of_ble_eq_true rfl) (fun M O F R0 N hn => t_X3_findLine O R0 N hn a0 r1 σ (r, σ') h F)
def f_X11_line_69  (σ : Dt) : Option (Int32 × Dt) := some ((-1 : Int32), σ)
theorem t_X11_line_69 {M : Mx} {l0 : Launch} (O : Ok M cX11_line yX11_line) (R0 : Rm M l0 5 144 0 0) (N : Ma M = false) (hn : Mn M = 4)   (σ : Dt) (o : (Int32 × Dt)) (h : f_X11_line_69 σ = some o) (K : Fin' M (some .int) 0 0 SX o.2 (some (vI o.1))) : G M 0 0 69 [] [] SX σ := by
  unfold f_X11_line_69 at h
  refine g_iconst (v := (-1 : Int32)) O dX11_line_69 rfl ?_
  cases h
  exact g_ireturn O K dX11_line_70
def f_X11_line (a0 : Nat) (x1 : Int32) (x2 : Int32) (σ : Dt) : Option (Int32 × Dt) := bo (xgr SX 11 0 (some a0) σ) fun v1 => bo (xrc SX 8 v1) fun a3 => bo (f_X8_valleyAt a3 x1 σ) fun v5 => if v5 = none then some ((-1 : Int32), σ) else bo (xgr SX 11 8 (some a0) σ) fun v8 => bo (xrc SX 3 v8) fun a10 => bd (f_X3_findLine a10 v5 σ) fun v12 σ13 => if x2 = (-1 : Int32) then bo (xgr SX 11 8 (some a0) σ13) fun v16 => bo (xgi SX 3 0 v16 σ13) fun v18 => some (v18, σ13) else if x2 < 0 then f_X11_line_69 σ13 else bo (xgr SX 11 8 (some a0) σ13) fun v21 => bo (xgi SX 3 0 v21 σ13) fun v23 => if v23 ≤ x2 then f_X11_line_69 σ13 else if (10 : Int32) ≤ x2 then f_X11_line_69 σ13 else bo (xgr SX 11 8 (some a0) σ13) fun v27 => bo (xgr SX 3 1 v27 σ13) fun v29 => bo (xai SX v29 x2 σ13) fun v31 => some (v31, σ13)
theorem t_X11_line {M : Mx} {l0 : Launch} (O : Ok M cX11_line yX11_line) (R0 : Rm M l0 5 144 0 0) (N : Ma M = false) (hn : Mn M = 4) (a0 : Nat) (x1 : Int32) (x2 : Int32) (σ : Dt) (o : (Int32 × Dt)) (h : f_X11_line a0 x1 x2 σ = some o) (K : Fin' M (some .int) 0 0 SX o.2 (some (vI o.1))) : G M 0 0 0 [(0, vA (some a0)), (1, vI x1), (2, vI x2)] [] SX σ := by
  unfold f_X11_line at h
  refine g_aload_n O dX11_line_0 rfl 0 rfl ?_
  obtain ⟨v1, e2, h⟩ := bo_some h
  refine g_getR O dX11_line_1 fl_X11_12 rfl e2 ?_
  refine g_iload_n O dX11_line_4 rfl 1 rfl ?_
  obtain ⟨a3, e4, h⟩ := bo_some h
  obtain ⟨v5, e6, h⟩ := bo_some h
  refine g_cV1 O R0 N dX11_line_5 vl_X11_105 vv_X8_valleyAt e4 [vI x1] rfl rfl rfl ⟨Nat.le_of_ble_eq_true rfl, Nat.le_of_ble_eq_true rfl⟩ (c_X8_valleyAt l0 a3 x1 σ v5 e6) ?_
  refine g_astore_n (lv' := [(3, vA v5), (0, vA (some a0)), (1, vI x1), (2, vI x2)]) O dX11_line_8 rfl 4 hn (by decide) rfl ?_
  refine g_aload_n O dX11_line_9 rfl 0 rfl ?_
  refine g_ifnonnull O dX11_line_10 rfl (fun c7 => ?_) (fun c7 => ?_)
  · replace h := (if_neg c7).symm.trans h
    refine g_aload_n O dX11_line_15 rfl 1 rfl ?_
    obtain ⟨v8, e9, h⟩ := bo_some h
    refine g_getR O dX11_line_16 fl_X11_62 rfl e9 ?_
    refine g_aload_n O dX11_line_19 rfl 0 rfl ?_
    obtain ⟨a10, e11, h⟩ := bo_some h
    obtain ⟨v12, σ13, e14, h⟩ := bd_some h
    refine g_cV0 O R0 N dX11_line_20 vl_X11_211 vv_X3_findLine e11 [vA v5] rfl rfl rfl ⟨Nat.le_of_ble_eq_true rfl, Nat.le_of_ble_eq_true rfl⟩ (c_X3_findLine l0 a10 v5 σ v12 σ13 e14) ?_
    refine g_iload_n O dX11_line_23 rfl 3 rfl ?_
    refine g_iconst (v := (-1 : Int32)) O dX11_line_24 rfl ?_
    refine g_icmp_ne O dX11_line_25 rfl (fun c15 => ?_) (fun c15 => ?_)
    · replace h := (if_pos c15).symm.trans h
      refine g_aload_n O dX11_line_28 rfl 1 rfl ?_
      obtain ⟨v16, e17, h⟩ := bo_some h
      refine g_getR O dX11_line_29 fl_X11_62 rfl e17 ?_
      obtain ⟨v18, e19, h⟩ := bo_some h
      refine g_getI O dX11_line_32 fl_X11_215 rfl e19 ?_
      cases h
      exact g_ireturn O K dX11_line_35
    · replace h := (if_neg c15).symm.trans h
      refine g_iload_n O dX11_line_36 rfl 3 rfl ?_
      refine g_if_lt O dX11_line_37 rfl (fun c20 => ?_) (fun c20 => ?_)
      · replace h := (if_pos c20).symm.trans h
        refine g_sub [] (lv' := []) rfl ?_
        exact t_X11_line_69 O R0 N hn σ13 o h K
      · replace h := (if_neg c20).symm.trans h
        refine g_iload_n O dX11_line_40 rfl 3 rfl ?_
        refine g_aload_n O dX11_line_41 rfl 1 rfl ?_
        obtain ⟨v21, e22, h⟩ := bo_some h
        refine g_getR O dX11_line_42 fl_X11_62 rfl e22 ?_
        obtain ⟨v23, e24, h⟩ := bo_some h
        refine g_getI O dX11_line_45 fl_X11_215 rfl e24 ?_
        refine g_icmp_ge O dX11_line_48 rfl (fun c25 => ?_) (fun c25 => ?_)
        · replace h := (if_pos c25).symm.trans h
          refine g_sub [] (lv' := []) rfl ?_
          exact t_X11_line_69 O R0 N hn σ13 o h K
        · replace h := (if_neg c25).symm.trans h
          refine g_iload_n O dX11_line_51 rfl 3 rfl ?_
          refine g_bipush (v := (10 : Int32)) O dX11_line_52 rfl ?_
          refine g_icmp_ge O dX11_line_54 rfl (fun c26 => ?_) (fun c26 => ?_)
          · replace h := (if_pos c26).symm.trans h
            refine g_sub [] (lv' := []) rfl ?_
            exact t_X11_line_69 O R0 N hn σ13 o h K
          · replace h := (if_neg c26).symm.trans h
            refine g_aload_n O dX11_line_57 rfl 1 rfl ?_
            obtain ⟨v27, e28, h⟩ := bo_some h
            refine g_getR O dX11_line_58 fl_X11_62 rfl e28 ?_
            obtain ⟨v29, e30, h⟩ := bo_some h
            refine g_getR O dX11_line_61 fl_X11_218 rfl e30 ?_
            refine g_iload_n O dX11_line_64 rfl 3 rfl ?_
            obtain ⟨v31, e32, h⟩ := bo_some h
            refine g_iaload O dX11_line_65 e32 ?_
            refine g_goto O dX11_line_66 rfl ?_
            cases h
            exact g_ireturn O K dX11_line_70
  · replace h := (if_pos c7).symm.trans h
    refine g_iconst (v := (-1 : Int32)) O dX11_line_13 rfl ?_
    cases h
    exact g_ireturn O K dX11_line_14
theorem c_X11_line (l0 : Launch) (a0 : Nat) (x1 : Int32) (x2 : Int32) (σ : Dt) (r : Int32) (σ' : Dt) (h : f_X11_line a0 x1 x2 σ = some (r, σ')) : Ctr l0 yX11_line cX11_line 4 (some .int) false 5 144 0 0 [vA (some a0), vI x1, vI x2] SX σ SX σ' (some (vI r)) := ctr_of (by decide) (Nat.le_of_ble_eq_true rfl) (fun M O F R0 N hn => t_X11_line O R0 N hn a0 x1 x2 σ (r, σ') h F)
def f_X8_sightAt (a0 : Nat) (x1 : Int32) (σ : Dt) : Option (Option Nat) := bo (xrc SX 8 (some a0)) fun a1 => bo (f_X8_has a1 (2 : Int32) x1 σ) fun v3 => if v3 = 0 then some none else bo (xgr SX 8 6 (some a0) σ) fun v6 => bo (xar SX 17 v6 x1 σ) fun v8 => some v8
theorem t_X8_sightAt {M : Mx} {l0 : Launch} (O : Ok M cX8_sightAt yX8_sightAt) (R0 : Rm M l0 4 123 0 0) (N : Ma M = false) (hn : Mn M = 2) (a0 : Nat) (x1 : Int32) (σ : Dt) (o : (Option Nat)) (h : f_X8_sightAt a0 x1 σ = some o) (K : Fin' M (some (.object "PromiseValley$Sight")) 0 0 SX σ (some (vA o))) : G M 0 0 0 [(0, vA (some a0)), (1, vI x1)] [] SX σ := by
  unfold f_X8_sightAt at h
  refine g_aload_n O dX8_sightAt_0 rfl 0 rfl ?_
  refine g_iconst (v := (2 : Int32)) O dX8_sightAt_1 rfl ?_
  refine g_iload_n O dX8_sightAt_2 rfl 1 rfl ?_
  obtain ⟨a1, e2, h⟩ := bo_some h
  obtain ⟨v3, e4, h⟩ := bo_some h
  refine g_cV1 O R0 N dX8_sightAt_3 vl_X8_69 vv_X8_has e2 [vI (2 : Int32), vI x1] rfl rfl rfl ⟨Nat.le_of_ble_eq_true rfl, Nat.le_of_ble_eq_true rfl⟩ (c_X8_has l0 a1 (2 : Int32) x1 σ v3 e4) ?_
  refine g_if_eq O dX8_sightAt_6 rfl (fun c5 => ?_) (fun c5 => ?_)
  · replace h := (if_pos c5).symm.trans h
    refine g_null O dX8_sightAt_18 ?_
    cases h
    exact g_areturn O (by first | exact Or.inl ⟨_, rfl⟩ | exact Or.inr ⟨_, rfl⟩) K dX8_sightAt_19
  · replace h := (if_neg c5).symm.trans h
    refine g_aload_n O dX8_sightAt_9 rfl 0 rfl ?_
    obtain ⟨v6, e7, h⟩ := bo_some h
    refine g_getR O dX8_sightAt_10 fl_X8_39 rfl e7 ?_
    refine g_iload_n O dX8_sightAt_13 rfl 1 rfl ?_
    obtain ⟨v8, e9, h⟩ := bo_some h
    refine g_aaload (kd := 17) O dX8_sightAt_14 (by decide) (by decide) e9 ?_
    refine g_goto O dX8_sightAt_15 rfl ?_
    cases h
    exact g_areturn O (by first | exact Or.inl ⟨_, rfl⟩ | exact Or.inr ⟨_, rfl⟩) K dX8_sightAt_19
theorem c_X8_sightAt (l0 : Launch) (a0 : Nat) (x1 : Int32) (σ : Dt) (r : (Option Nat)) (h : f_X8_sightAt a0 x1 σ = some r) : Ctr l0 yX8_sightAt cX8_sightAt 2 (some (.object "PromiseValley$Sight")) false 4 123 0 0 [vA (some a0), vI x1] SX σ SX σ (some (vA r)) := ctr_of (by decide) (Nat.le_of_ble_eq_true rfl) (fun M O F R0 N hn => t_X8_sightAt O R0 N hn a0 x1 σ r h F)
def f_X6_hasFact_22  (σ : Dt) : Option Int32 := some (0 : Int32)
theorem t_X6_hasFact_22 {M : Mx} {l0 : Launch} (O : Ok M cX6_hasFact yX6_hasFact) (R0 : Rm M l0 2 80 0 0) (N : Ma M = false) (hn : Mn M = 2)   (σ : Dt) (o : Int32) (h : f_X6_hasFact_22 σ = some o) (K : Fin' M (some .boolean) 0 0 SX σ (some (vI o))) : G M 0 0 22 [] [] SX σ := by
  unfold f_X6_hasFact_22 at h
  refine g_iconst (v := (0 : Int32)) O dX6_hasFact_22 rfl ?_
  cases h
  exact g_zreturn O (by decide) K dX6_hasFact_23
def f_X6_hasFact (a0 : Nat) (x1 : Int32) (σ : Dt) : Option Int32 := if x1 < 0 then f_X6_hasFact_22 σ else bo (xgi SX 6 1 (some a0) σ) fun v2 => if v2 ≤ x1 then f_X6_hasFact_22 σ else if (8 : Int32) ≤ x1 then f_X6_hasFact_22 σ else some (1 : Int32)
theorem t_X6_hasFact {M : Mx} {l0 : Launch} (O : Ok M cX6_hasFact yX6_hasFact) (R0 : Rm M l0 2 80 0 0) (N : Ma M = false) (hn : Mn M = 2) (a0 : Nat) (x1 : Int32) (σ : Dt) (o : Int32) (h : f_X6_hasFact a0 x1 σ = some o) (K : Fin' M (some .boolean) 0 0 SX σ (some (vI o))) : G M 0 0 0 [(0, vA (some a0)), (1, vI x1)] [] SX σ := by
  unfold f_X6_hasFact at h
  refine g_iload_n O dX6_hasFact_0 rfl 1 rfl ?_
  refine g_if_lt O dX6_hasFact_1 rfl (fun c1 => ?_) (fun c1 => ?_)
  · replace h := (if_pos c1).symm.trans h
    refine g_sub [] (lv' := []) rfl ?_
    exact t_X6_hasFact_22 O R0 N hn σ o h K
  · replace h := (if_neg c1).symm.trans h
    refine g_iload_n O dX6_hasFact_4 rfl 1 rfl ?_
    refine g_aload_n O dX6_hasFact_5 rfl 0 rfl ?_
    obtain ⟨v2, e3, h⟩ := bo_some h
    refine g_getI O dX6_hasFact_6 fl_X6_22 rfl e3 ?_
    refine g_icmp_ge O dX6_hasFact_9 rfl (fun c4 => ?_) (fun c4 => ?_)
    · replace h := (if_pos c4).symm.trans h
      refine g_sub [] (lv' := []) rfl ?_
      exact t_X6_hasFact_22 O R0 N hn σ o h K
    · replace h := (if_neg c4).symm.trans h
      refine g_iload_n O dX6_hasFact_12 rfl 1 rfl ?_
      refine g_bipush (v := (8 : Int32)) O dX6_hasFact_13 rfl ?_
      refine g_icmp_ge O dX6_hasFact_15 rfl (fun c5 => ?_) (fun c5 => ?_)
      · replace h := (if_pos c5).symm.trans h
        refine g_sub [] (lv' := []) rfl ?_
        exact t_X6_hasFact_22 O R0 N hn σ o h K
      · replace h := (if_neg c5).symm.trans h
        refine g_iconst (v := (1 : Int32)) O dX6_hasFact_18 rfl ?_
        refine g_goto O dX6_hasFact_19 rfl ?_
        cases h
        exact g_zreturn O (by decide) K dX6_hasFact_23
theorem c_X6_hasFact (l0 : Launch) (a0 : Nat) (x1 : Int32) (σ : Dt) (r : Int32) (h : f_X6_hasFact a0 x1 σ = some r) : Ctr l0 yX6_hasFact cX6_hasFact 2 (some .boolean) false 2 80 0 0 [vA (some a0), vI x1] SX σ SX σ (some (vI r)) := ctr_of (by decide) (Nat.le_of_ble_eq_true rfl) (fun M O F R0 N hn => t_X6_hasFact O R0 N hn a0 x1 σ r h F)
def f_X6_look (a0 : Nat) (x1 : Int32) (σ : Dt) : Option Int32 := if x1 = 0 then bo (xgi SX 6 0 (some a0) σ) fun v2 => some v2 else if x1 = (1 : Int32) then bo (xgi SX 6 1 (some a0) σ) fun v5 => some v5 else bo (xrc SX 6 (some a0)) fun a7 => bo (f_X6_hasFact a7 (x1 - (10 : Int32)) σ) fun v9 => if v9 = 0 then bo (xrc SX 6 (some a0)) fun a12 => bo (f_X6_hasFact a12 (x1 - (20 : Int32)) σ) fun v14 => if v14 = 0 then some (-1 : Int32) else bo (xgr SX 6 3 (some a0) σ) fun v17 => bo (xai SX v17 (x1 - (20 : Int32)) σ) fun v19 => some v19 else bo (xgr SX 6 2 (some a0) σ) fun v21 => bo (xai SX v21 (x1 - (10 : Int32)) σ) fun v23 => some v23
theorem t_X6_look {M : Mx} {l0 : Launch} (O : Ok M cX6_look yX6_look) (R0 : Rm M l0 3 101 0 0) (N : Ma M = false) (hn : Mn M = 2) (a0 : Nat) (x1 : Int32) (σ : Dt) (o : Int32) (h : f_X6_look a0 x1 σ = some o) (K : Fin' M (some .int) 0 0 SX σ (some (vI o))) : G M 0 0 0 [(0, vA (some a0)), (1, vI x1)] [] SX σ := by
  unfold f_X6_look at h
  refine g_iload_n O dX6_look_0 rfl 1 rfl ?_
  refine g_if_ne O dX6_look_1 rfl (fun c1 => ?_) (fun c1 => ?_)
  · replace h := (if_pos c1).symm.trans h
    refine g_aload_n O dX6_look_4 rfl 0 rfl ?_
    obtain ⟨v2, e3, h⟩ := bo_some h
    refine g_getI O dX6_look_5 fl_X6_18 rfl e3 ?_
    cases h
    exact g_ireturn O K dX6_look_8
  · replace h := (if_neg c1).symm.trans h
    refine g_iload_n O dX6_look_9 rfl 1 rfl ?_
    refine g_iconst (v := (1 : Int32)) O dX6_look_10 rfl ?_
    refine g_icmp_ne O dX6_look_11 rfl (fun c4 => ?_) (fun c4 => ?_)
    · replace h := (if_pos c4).symm.trans h
      refine g_aload_n O dX6_look_14 rfl 0 rfl ?_
      obtain ⟨v5, e6, h⟩ := bo_some h
      refine g_getI O dX6_look_15 fl_X6_22 rfl e6 ?_
      cases h
      exact g_ireturn O K dX6_look_18
    · replace h := (if_neg c4).symm.trans h
      refine g_aload_n O dX6_look_19 rfl 0 rfl ?_
      refine g_iload_n O dX6_look_20 rfl 1 rfl ?_
      refine g_bipush (v := (10 : Int32)) O dX6_look_21 rfl ?_
      refine g_isub O dX6_look_23 ?_
      obtain ⟨a7, e8, h⟩ := bo_some h
      obtain ⟨v9, e10, h⟩ := bo_some h
      refine g_cV1 O R0 N dX6_look_24 vl_X6_31 vv_X6_hasFact e8 [vI (x1 - (10 : Int32))] rfl rfl rfl ⟨Nat.le_of_ble_eq_true rfl, Nat.le_of_ble_eq_true rfl⟩ (c_X6_hasFact l0 a7 (x1 - (10 : Int32)) σ v9 e10) ?_
      refine g_if_eq O dX6_look_27 rfl (fun c11 => ?_) (fun c11 => ?_)
      · replace h := (if_pos c11).symm.trans h
        refine g_aload_n O dX6_look_40 rfl 0 rfl ?_
        refine g_iload_n O dX6_look_41 rfl 1 rfl ?_
        refine g_bipush (v := (20 : Int32)) O dX6_look_42 rfl ?_
        refine g_isub O dX6_look_44 ?_
        obtain ⟨a12, e13, h⟩ := bo_some h
        obtain ⟨v14, e15, h⟩ := bo_some h
        refine g_cV1 O R0 N dX6_look_45 vl_X6_31 vv_X6_hasFact e13 [vI (x1 - (20 : Int32))] rfl rfl rfl ⟨Nat.le_of_ble_eq_true rfl, Nat.le_of_ble_eq_true rfl⟩ (c_X6_hasFact l0 a12 (x1 - (20 : Int32)) σ v14 e15) ?_
        refine g_if_eq O dX6_look_48 rfl (fun c16 => ?_) (fun c16 => ?_)
        · replace h := (if_pos c16).symm.trans h
          refine g_iconst (v := (-1 : Int32)) O dX6_look_63 rfl ?_
          cases h
          exact g_ireturn O K dX6_look_64
        · replace h := (if_neg c16).symm.trans h
          refine g_aload_n O dX6_look_51 rfl 0 rfl ?_
          obtain ⟨v17, e18, h⟩ := bo_some h
          refine g_getR O dX6_look_52 fl_X6_15 rfl e18 ?_
          refine g_iload_n O dX6_look_55 rfl 1 rfl ?_
          refine g_bipush (v := (20 : Int32)) O dX6_look_56 rfl ?_
          refine g_isub O dX6_look_58 ?_
          obtain ⟨v19, e20, h⟩ := bo_some h
          refine g_iaload O dX6_look_59 e20 ?_
          refine g_goto O dX6_look_60 rfl ?_
          cases h
          exact g_ireturn O K dX6_look_64
      · replace h := (if_neg c11).symm.trans h
        refine g_aload_n O dX6_look_30 rfl 0 rfl ?_
        obtain ⟨v21, e22, h⟩ := bo_some h
        refine g_getR O dX6_look_31 fl_X6_9 rfl e22 ?_
        refine g_iload_n O dX6_look_34 rfl 1 rfl ?_
        refine g_bipush (v := (10 : Int32)) O dX6_look_35 rfl ?_
        refine g_isub O dX6_look_37 ?_
        obtain ⟨v23, e24, h⟩ := bo_some h
        refine g_iaload O dX6_look_38 e24 ?_
        cases h
        exact g_ireturn O K dX6_look_39
theorem c_X6_look (l0 : Launch) (a0 : Nat) (x1 : Int32) (σ : Dt) (r : Int32) (h : f_X6_look a0 x1 σ = some r) : Ctr l0 yX6_look cX6_look 2 (some .int) false 3 101 0 0 [vA (some a0), vI x1] SX σ SX σ (some (vI r)) := ctr_of (by decide) (Nat.le_of_ble_eq_true rfl) (fun M O F R0 N hn => t_X6_look O R0 N hn a0 x1 σ r h F)
def f_X11_sight (a0 : Nat) (x1 : Int32) (x2 : Int32) (σ : Dt) : Option Int32 := bo (xgr SX 11 0 (some a0) σ) fun v1 => bo (xrc SX 8 v1) fun a3 => bo (f_X8_sightAt a3 x1 σ) fun v5 => if v5 = none then some (-1 : Int32) else bo (xrc SX 6 v5) fun a8 => bo (f_X6_look a8 x2 σ) fun v10 => some v10
theorem t_X11_sight {M : Mx} {l0 : Launch} (O : Ok M cX11_sight yX11_sight) (R0 : Rm M l0 5 144 0 0) (N : Ma M = false) (hn : Mn M = 4) (a0 : Nat) (x1 : Int32) (x2 : Int32) (σ : Dt) (o : Int32) (h : f_X11_sight a0 x1 x2 σ = some o) (K : Fin' M (some .int) 0 0 SX σ (some (vI o))) : G M 0 0 0 [(0, vA (some a0)), (1, vI x1), (2, vI x2)] [] SX σ := by
  unfold f_X11_sight at h
  refine g_aload_n O dX11_sight_0 rfl 0 rfl ?_
  obtain ⟨v1, e2, h⟩ := bo_some h
  refine g_getR O dX11_sight_1 fl_X11_12 rfl e2 ?_
  refine g_iload_n O dX11_sight_4 rfl 1 rfl ?_
  obtain ⟨a3, e4, h⟩ := bo_some h
  obtain ⟨v5, e6, h⟩ := bo_some h
  refine g_cV1 O R0 N dX11_sight_5 vl_X11_221 vv_X8_sightAt e4 [vI x1] rfl rfl rfl ⟨Nat.le_of_ble_eq_true rfl, Nat.le_of_ble_eq_true rfl⟩ (c_X8_sightAt l0 a3 x1 σ v5 e6) ?_
  refine g_astore_n (lv' := [(3, vA v5), (0, vA (some a0)), (1, vI x1), (2, vI x2)]) O dX11_sight_8 rfl 4 hn (by decide) rfl ?_
  refine g_aload_n O dX11_sight_9 rfl 0 rfl ?_
  refine g_ifnonnull O dX11_sight_10 rfl (fun c7 => ?_) (fun c7 => ?_)
  · replace h := (if_neg c7).symm.trans h
    refine g_aload_n O dX11_sight_17 rfl 0 rfl ?_
    refine g_iload_n O dX11_sight_18 rfl 3 rfl ?_
    obtain ⟨a8, e9, h⟩ := bo_some h
    obtain ⟨v10, e11, h⟩ := bo_some h
    refine g_cV1 O R0 N dX11_sight_19 vl_X11_225 vv_X6_look e9 [vI x2] rfl rfl rfl ⟨Nat.le_of_ble_eq_true rfl, Nat.le_of_ble_eq_true rfl⟩ (c_X6_look l0 a8 x2 σ v10 e11) ?_
    cases h
    exact g_ireturn O K dX11_sight_22
  · replace h := (if_pos c7).symm.trans h
    refine g_iconst (v := (-1 : Int32)) O dX11_sight_13 rfl ?_
    refine g_goto O dX11_sight_14 rfl ?_
    cases h
    exact g_ireturn O K dX11_sight_22
theorem c_X11_sight (l0 : Launch) (a0 : Nat) (x1 : Int32) (x2 : Int32) (σ : Dt) (r : Int32) (h : f_X11_sight a0 x1 x2 σ = some r) : Ctr l0 yX11_sight cX11_sight 4 (some .int) false 5 144 0 0 [vA (some a0), vI x1, vI x2] SX σ SX σ (some (vI r)) := ctr_of (by decide) (Nat.le_of_ble_eq_true rfl) (fun M O F R0 N hn => t_X11_sight O R0 N hn a0 x1 x2 σ r h F)
def P_X10_passYears_2 (M : Mx) (a0 : Nat) (x1 : Int32) (s : (Int32 × Dt)) : Prop := G M 0 0 2 [(0, vA (some a0)), (1, vI x1), (2, vI s.1)] [] SX s.2
def E_X10_passYears_2 (M : Mx) (a0 : Nat) (x1 : Int32) : Dt → Prop := (fun w => G M 0 0 24 [] [] SX w)
def f_X10_passYears_L2 (a0 : Nat) (x1 : Int32) (x2 : Int32) (σ : Dt) : Option ((Int32 × Dt) ⊕ Dt) := if x1 ≤ x2 then some (.inr σ) else if (9 : Int32) ≤ x2 then some (.inr σ) else bo (xrc SX 10 (some a0)) fun a3 => bd (f_X10_passYear a3 σ) fun v5 σ6 => some (.inl ((x2 + (1 : Int32)), σ6))
theorem t_X10_passYears_L2 {M : Mx} {l0 : Launch} (O : Ok M cX10_passYears yX10_passYears) (R0 : Rm M l0 5 149 0 0) (N : Ma M = false) (hn : Mn M = 3) (a0 : Nat) (x1 : Int32) (x2 : Int32) (σ : Dt) (o : ((Int32 × Dt) ⊕ Dt)) (h : f_X10_passYears_L2 a0 x1 x2 σ = some o) (K : kon (P_X10_passYears_2 M a0 x1) (E_X10_passYears_2 M a0 x1) o) : G M 0 0 2 [(0, vA (some a0)), (1, vI x1), (2, vI x2)] [] SX σ := by
  unfold f_X10_passYears_L2 at h
  refine g_iload_n O dX10_passYears_2 rfl 2 rfl ?_
  refine g_iload_n O dX10_passYears_3 rfl 1 rfl ?_
  refine g_icmp_ge O dX10_passYears_4 rfl (fun c1 => ?_) (fun c1 => ?_)
  · replace h := (if_pos c1).symm.trans h
    refine g_sub [] (lv' := []) rfl ?_
    cases h
    exact K
  · replace h := (if_neg c1).symm.trans h
    refine g_iload_n O dX10_passYears_7 rfl 2 rfl ?_
    refine g_bipush (v := (9 : Int32)) O dX10_passYears_8 rfl ?_
    refine g_icmp_ge O dX10_passYears_10 rfl (fun c2 => ?_) (fun c2 => ?_)
    · replace h := (if_pos c2).symm.trans h
      refine g_sub [] (lv' := []) rfl ?_
      cases h
      exact K
    · replace h := (if_neg c2).symm.trans h
      refine g_aload_n O dX10_passYears_13 rfl 0 rfl ?_
      obtain ⟨a3, e4, h⟩ := bo_some h
      obtain ⟨v5, σ6, e7, h⟩ := bd_some h
      refine g_cV1 O R0 N dX10_passYears_14 vl_X10_149 vv_X10_passYear e4 [] rfl rfl rfl ⟨Nat.le_of_ble_eq_true rfl, Nat.le_of_ble_eq_true rfl⟩ (c_X10_passYear l0 a3 σ v5 σ6 e7) ?_
      refine g_pop O dX10_passYears_17 rfl ?_
      refine g_iinc (v := (x2 + (1 : Int32))) (lv' := [(2, vI (x2 + (1 : Int32))), (0, vA (some a0)), (1, vI x1)]) O dX10_passYears_18 3 hn (by decide) 2 rfl rfl rfl ?_
      refine g_goto O dX10_passYears_21 rfl ?_
      refine g_sub [1, 2, 0] (lv' := [(0, vA (some a0)), (1, vI x1), (2, vI (x2 + (1 : Int32)))]) rfl ?_
      cases h
      exact K
def f_X10_passYears (a0 : Nat) (x1 : Int32) (σ : Dt) : Option (Unit × Dt) := bo (iter FU (fun s => f_X10_passYears_L2 a0 x1 s.1 s.2) ((0 : Int32), σ)) fun w1 => some ((), w1)
theorem t_X10_passYears {M : Mx} {l0 : Launch} (O : Ok M cX10_passYears yX10_passYears) (R0 : Rm M l0 5 149 0 0) (N : Ma M = false) (hn : Mn M = 3) (a0 : Nat) (x1 : Int32) (σ : Dt) (o : (Unit × Dt)) (h : f_X10_passYears a0 x1 σ = some o) (K : Fin' M (none) 0 0 SX o.2 (none)) : G M 0 0 0 [(0, vA (some a0)), (1, vI x1)] [] SX σ := by
  unfold f_X10_passYears at h
  refine g_iconst (v := (0 : Int32)) O dX10_passYears_0 rfl ?_
  refine g_istore_n (lv' := [(2, vI (0 : Int32)), (0, vA (some a0)), (1, vI x1)]) O dX10_passYears_1 rfl 3 hn (by decide) rfl ?_
  refine g_sub [1, 2, 0] (lv' := [(0, vA (some a0)), (1, vI x1), (2, vI (0 : Int32))]) rfl ?_
  obtain ⟨w1, e2, h⟩ := bo_some h
  refine iter_G (P := P_X10_passYears_2 M a0 x1) (E := E_X10_passYears_2 M a0 x1) (fun s o hb hk => t_X10_passYears_L2 O R0 N hn a0 x1 s.1 s.2 o hb hk) FU ((0 : Int32), σ) w1 e2 ?_
  show G M 0 0 24 [] [] SX w1
  cases h
  exact g_return O K dX10_passYears_24
theorem c_X10_passYears (l0 : Launch) (a0 : Nat) (x1 : Int32) (σ : Dt) (r : Unit) (σ' : Dt) (h : f_X10_passYears a0 x1 σ = some (r, σ')) : Ctr l0 yX10_passYears cX10_passYears 3 (none) false 5 149 0 0 [vA (some a0), vI x1] SX σ SX σ' (none) := ctr_of (by decide) (Nat.le_of_ble_eq_true rfl) (fun M O F R0 N hn => t_X10_passYears O R0 N hn a0 x1 σ (r, σ') h F)
def f_X10_dugAt (a0 : Nat) (x1 : Int32) (σ : Dt) : Option Int32 := bo (xrc SX 10 (some a0)) fun a1 => bo (f_X10_hasWork a1 x1 σ) fun v3 => if v3 = 0 then some (0 : Int32) else bo (xgr SX 10 15 (some a0) σ) fun v6 => bo (xai SX v6 x1 σ) fun v8 => some v8
theorem t_X10_dugAt {M : Mx} {l0 : Launch} (O : Ok M cX10_dugAt yX10_dugAt) (R0 : Rm M l0 3 101 0 0) (N : Ma M = false) (hn : Mn M = 2) (a0 : Nat) (x1 : Int32) (σ : Dt) (o : Int32) (h : f_X10_dugAt a0 x1 σ = some o) (K : Fin' M (some .int) 0 0 SX σ (some (vI o))) : G M 0 0 0 [(0, vA (some a0)), (1, vI x1)] [] SX σ := by
  unfold f_X10_dugAt at h
  refine g_aload_n O dX10_dugAt_0 rfl 0 rfl ?_
  refine g_iload_n O dX10_dugAt_1 rfl 1 rfl ?_
  obtain ⟨a1, e2, h⟩ := bo_some h
  obtain ⟨v3, e4, h⟩ := bo_some h
  refine g_cV1 O R0 N dX10_dugAt_2 vl_X10_156 vv_X10_hasWork e2 [vI x1] rfl rfl rfl ⟨Nat.le_of_ble_eq_true rfl, Nat.le_of_ble_eq_true rfl⟩ (c_X10_hasWork l0 a1 x1 σ v3 e4) ?_
  refine g_if_eq O dX10_dugAt_5 rfl (fun c5 => ?_) (fun c5 => ?_)
  · replace h := (if_pos c5).symm.trans h
    refine g_iconst (v := (0 : Int32)) O dX10_dugAt_17 rfl ?_
    cases h
    exact g_ireturn O K dX10_dugAt_18
  · replace h := (if_neg c5).symm.trans h
    refine g_aload_n O dX10_dugAt_8 rfl 0 rfl ?_
    obtain ⟨v6, e7, h⟩ := bo_some h
    refine g_getR O dX10_dugAt_9 fl_X10_30 rfl e7 ?_
    refine g_iload_n O dX10_dugAt_12 rfl 1 rfl ?_
    obtain ⟨v8, e9, h⟩ := bo_some h
    refine g_iaload O dX10_dugAt_13 e9 ?_
    refine g_goto O dX10_dugAt_14 rfl ?_
    cases h
    exact g_ireturn O K dX10_dugAt_18
theorem c_X10_dugAt (l0 : Launch) (a0 : Nat) (x1 : Int32) (σ : Dt) (r : Int32) (h : f_X10_dugAt a0 x1 σ = some r) : Ctr l0 yX10_dugAt cX10_dugAt 2 (some .int) false 3 101 0 0 [vA (some a0), vI x1] SX σ SX σ (some (vI r)) := ctr_of (by decide) (Nat.le_of_ble_eq_true rfl) (fun M O F R0 N hn => t_X10_dugAt O R0 N hn a0 x1 σ r h F)
def P_X2_agrees_2 (M : Mx) (r0 : Option Nat) (r1 : Option Nat) (σ : Dt) (s : Int32) : Prop := G M 0 0 2 [(0, vA r0), (1, vA r1), (2, vI s)] [] SX σ
def E_X2_agrees_2 (M : Mx) (r0 : Option Nat) (r1 : Option Nat) (σ : Dt) : (Unit ⊕ Unit) → Prop := (el (fun w => G M 0 0 35 [] [] SX σ) (fun w => G M 0 0 43 [] [] SX σ))
def f_X2_agrees_L2 (r0 : Option Nat) (r1 : Option Nat) (x2 : Int32) (σ : Dt) : Option (Int32 ⊕ (Unit ⊕ Unit)) := bo (xgi SX 6 1 r0 σ) fun v1 => if v1 ≤ x2 then some (.inr (.inr ())) else if (8 : Int32) ≤ x2 then some (.inr (.inr ())) else bo (xgr SX 6 2 r0 σ) fun v5 => bo (xai SX v5 x2 σ) fun v7 => bo (xrc SX 10 r1) fun a9 => bo (f_X10_dugAt a9 v7 σ) fun v11 => bo (xgr SX 6 3 r0 σ) fun v13 => bo (xai SX v13 x2 σ) fun v15 => if v11 = v15 then some (.inl (x2 + (1 : Int32))) else some (.inr (.inl ()))
theorem t_X2_agrees_L2 {M : Mx} {l0 : Launch} (O : Ok M cX2_agrees yX2_agrees) (R0 : Rm M l0 4 122 0 0) (N : Ma M = false) (hn : Mn M = 3) (r0 : Option Nat) (r1 : Option Nat) (x2 : Int32) (σ : Dt) (o : (Int32 ⊕ (Unit ⊕ Unit))) (h : f_X2_agrees_L2 r0 r1 x2 σ = some o) (K : kon (P_X2_agrees_2 M r0 r1 σ) (E_X2_agrees_2 M r0 r1 σ) o) : G M 0 0 2 [(0, vA r0), (1, vA r1), (2, vI x2)] [] SX σ := by
  unfold f_X2_agrees_L2 at h
  refine g_iload_n O dX2_agrees_2 rfl 2 rfl ?_
  refine g_aload_n O dX2_agrees_3 rfl 0 rfl ?_
  obtain ⟨v1, e2, h⟩ := bo_some h
  refine g_getI O dX2_agrees_4 fl_X2_37 rfl e2 ?_
  refine g_icmp_ge O dX2_agrees_7 rfl (fun c3 => ?_) (fun c3 => ?_)
  · replace h := (if_pos c3).symm.trans h
    refine g_sub [] (lv' := []) rfl ?_
    cases h
    exact K
  · replace h := (if_neg c3).symm.trans h
    refine g_iload_n O dX2_agrees_10 rfl 2 rfl ?_
    refine g_bipush (v := (8 : Int32)) O dX2_agrees_11 rfl ?_
    refine g_icmp_ge O dX2_agrees_13 rfl (fun c4 => ?_) (fun c4 => ?_)
    · replace h := (if_pos c4).symm.trans h
      refine g_sub [] (lv' := []) rfl ?_
      cases h
      exact K
    · replace h := (if_neg c4).symm.trans h
      refine g_aload_n O dX2_agrees_16 rfl 1 rfl ?_
      refine g_aload_n O dX2_agrees_17 rfl 0 rfl ?_
      obtain ⟨v5, e6, h⟩ := bo_some h
      refine g_getR O dX2_agrees_18 fl_X2_42 rfl e6 ?_
      refine g_iload_n O dX2_agrees_21 rfl 2 rfl ?_
      obtain ⟨v7, e8, h⟩ := bo_some h
      refine g_iaload O dX2_agrees_22 e8 ?_
      obtain ⟨a9, e10, h⟩ := bo_some h
      obtain ⟨v11, e12, h⟩ := bo_some h
      refine g_cV1 O R0 N dX2_agrees_23 vl_X2_70 vv_X10_dugAt e10 [vI v7] rfl rfl rfl ⟨Nat.le_of_ble_eq_true rfl, Nat.le_of_ble_eq_true rfl⟩ (c_X10_dugAt l0 a9 v7 σ v11 e12) ?_
      refine g_aload_n O dX2_agrees_26 rfl 0 rfl ?_
      obtain ⟨v13, e14, h⟩ := bo_some h
      refine g_getR O dX2_agrees_27 fl_X2_81 rfl e14 ?_
      refine g_iload_n O dX2_agrees_30 rfl 2 rfl ?_
      obtain ⟨v15, e16, h⟩ := bo_some h
      refine g_iaload O dX2_agrees_31 e16 ?_
      refine g_icmp_eq O dX2_agrees_32 rfl (fun c17 => ?_) (fun c17 => ?_)
      · replace h := (if_pos c17).symm.trans h
        refine g_iinc (v := (x2 + (1 : Int32))) (lv' := [(2, vI (x2 + (1 : Int32))), (0, vA r0), (1, vA r1)]) O dX2_agrees_37 3 hn (by decide) 2 rfl rfl rfl ?_
        refine g_goto O dX2_agrees_40 rfl ?_
        refine g_sub [1, 2, 0] (lv' := [(0, vA r0), (1, vA r1), (2, vI (x2 + (1 : Int32)))]) rfl ?_
        cases h
        exact K
      · replace h := (if_neg c17).symm.trans h
        refine g_sub [] (lv' := []) rfl ?_
        cases h
        exact K
def f_X2_agrees (r0 : Option Nat) (r1 : Option Nat) (σ : Dt) : Option Int32 := bo (iter FU (fun s => f_X2_agrees_L2 r0 r1 s σ) (0 : Int32)) fun w1 => el (fun w3 => some (0 : Int32)) (fun w3 => some (1 : Int32)) w1
theorem t_X2_agrees {M : Mx} {l0 : Launch} (O : Ok M cX2_agrees yX2_agrees) (R0 : Rm M l0 4 122 0 0) (N : Ma M = false) (hn : Mn M = 3) (r0 : Option Nat) (r1 : Option Nat) (σ : Dt) (o : Int32) (h : f_X2_agrees r0 r1 σ = some o) (K : Fin' M (some .boolean) 0 0 SX σ (some (vI o))) : G M 0 0 0 [(0, vA r0), (1, vA r1)] [] SX σ := by
  unfold f_X2_agrees at h
  refine g_iconst (v := (0 : Int32)) O dX2_agrees_0 rfl ?_
  refine g_istore_n (lv' := [(2, vI (0 : Int32)), (0, vA r0), (1, vA r1)]) O dX2_agrees_1 rfl 3 hn (by decide) rfl ?_
  refine g_sub [1, 2, 0] (lv' := [(0, vA r0), (1, vA r1), (2, vI (0 : Int32))]) rfl ?_
  obtain ⟨w1, e2, h⟩ := bo_some h
  refine iter_G (P := P_X2_agrees_2 M r0 r1 σ) (E := E_X2_agrees_2 M r0 r1 σ) (fun s o hb hk => t_X2_agrees_L2 O R0 N hn r0 r1 s σ o hb hk) FU (0 : Int32) w1 e2 ?_
  rcases w1 with w3 | w3
  · replace h := el_l h
    show G M 0 0 35 [] [] SX σ
    refine g_iconst (v := (0 : Int32)) O dX2_agrees_35 rfl ?_
    cases h
    exact g_zreturn O (by decide) K dX2_agrees_36
  · replace h := el_r h
    show G M 0 0 43 [] [] SX σ
    refine g_iconst (v := (1 : Int32)) O dX2_agrees_43 rfl ?_
    cases h
    exact g_zreturn O (by decide) K dX2_agrees_44
theorem c_X2_agrees (l0 : Launch) (r0 : Option Nat) (r1 : Option Nat) (σ : Dt) (r : Int32) (h : f_X2_agrees r0 r1 σ = some r) : Ctr l0 yX2_agrees cX2_agrees 3 (some .boolean) false 4 122 0 0 [vA r0, vA r1] SX σ SX σ (some (vI r)) := ctr_of (by decide) (Nat.le_of_ble_eq_true rfl) (fun M O F R0 N hn => t_X2_agrees O R0 N hn r0 r1 σ r h F)
def f_X2_add (a0 : Nat) (x1 : Int32) (x2 : Int32) (x3 : Int32) (σ : Dt) : Option (Unit × Dt) := bo (xgi SX 2 0 (some a0) σ) fun v1 => if v1 < 0 then some ((), σ) else bo (xgi SX 2 0 (some a0) σ) fun v4 => if (60 : Int32) ≤ v4 then some ((), σ) else bo (xgr SX 2 3 (some a0) σ) fun v7 => bo (xgi SX 2 0 (some a0) σ) fun v9 => bo (xsi SX v7 v9 x1 σ) fun σ11 => bo (xgr SX 2 4 (some a0) σ11) fun v13 => bo (xgi SX 2 0 (some a0) σ11) fun v15 => bo (xsi SX v13 v15 x2 σ11) fun σ17 => bo (xgr SX 2 5 (some a0) σ17) fun v19 => bo (xgi SX 2 0 (some a0) σ17) fun v21 => bo (xsi SX v19 v21 x3 σ17) fun σ23 => bo (xgi SX 2 0 (some a0) σ23) fun v25 => bo (xpi SX 2 0 (some a0) (v25 + (1 : Int32)) σ23) fun σ27 => some ((), σ27)
theorem t_X2_add {M : Mx} {l0 : Launch} (O : Ok M cX2_add yX2_add) (R0 : Rm M l0 2 80 0 0) (N : Ma M = false) (hn : Mn M = 4) (a0 : Nat) (x1 : Int32) (x2 : Int32) (x3 : Int32) (σ : Dt) (o : (Unit × Dt)) (h : f_X2_add a0 x1 x2 x3 σ = some o) (K : Fin' M (none) 0 0 SX o.2 (none)) : G M 0 0 0 [(0, vA (some a0)), (1, vI x1), (2, vI x2), (3, vI x3)] [] SX σ := by
  unfold f_X2_add at h
  refine g_aload_n O dX2_add_0 rfl 0 rfl ?_
  obtain ⟨v1, e2, h⟩ := bo_some h
  refine g_getI O dX2_add_1 fl_X2_24 rfl e2 ?_
  refine g_if_lt O dX2_add_4 rfl (fun c3 => ?_) (fun c3 => ?_)
  · replace h := (if_pos c3).symm.trans h
    cases h
    exact g_return O K dX2_add_56
  · replace h := (if_neg c3).symm.trans h
    refine g_aload_n O dX2_add_7 rfl 0 rfl ?_
    obtain ⟨v4, e5, h⟩ := bo_some h
    refine g_getI O dX2_add_8 fl_X2_24 rfl e5 ?_
    refine g_bipush (v := (60 : Int32)) O dX2_add_11 rfl ?_
    refine g_icmp_ge O dX2_add_13 rfl (fun c6 => ?_) (fun c6 => ?_)
    · replace h := (if_pos c6).symm.trans h
      cases h
      exact g_return O K dX2_add_56
    · replace h := (if_neg c6).symm.trans h
      refine g_aload_n O dX2_add_16 rfl 0 rfl ?_
      obtain ⟨v7, e8, h⟩ := bo_some h
      refine g_getR O dX2_add_17 fl_X2_11 rfl e8 ?_
      refine g_aload_n O dX2_add_20 rfl 0 rfl ?_
      obtain ⟨v9, e10, h⟩ := bo_some h
      refine g_getI O dX2_add_21 fl_X2_24 rfl e10 ?_
      refine g_iload_n O dX2_add_24 rfl 1 rfl ?_
      obtain ⟨σ11, e12, h⟩ := bo_some h
      refine g_iastore O dX2_add_25 e12 ?_
      refine g_aload_n O dX2_add_26 rfl 0 rfl ?_
      obtain ⟨v13, e14, h⟩ := bo_some h
      refine g_getR O dX2_add_27 fl_X2_15 rfl e14 ?_
      refine g_aload_n O dX2_add_30 rfl 0 rfl ?_
      obtain ⟨v15, e16, h⟩ := bo_some h
      refine g_getI O dX2_add_31 fl_X2_24 rfl e16 ?_
      refine g_iload_n O dX2_add_34 rfl 2 rfl ?_
      obtain ⟨σ17, e18, h⟩ := bo_some h
      refine g_iastore O dX2_add_35 e18 ?_
      refine g_aload_n O dX2_add_36 rfl 0 rfl ?_
      obtain ⟨v19, e20, h⟩ := bo_some h
      refine g_getR O dX2_add_37 fl_X2_18 rfl e20 ?_
      refine g_aload_n O dX2_add_40 rfl 0 rfl ?_
      obtain ⟨v21, e22, h⟩ := bo_some h
      refine g_getI O dX2_add_41 fl_X2_24 rfl e22 ?_
      refine g_iload_n O dX2_add_44 rfl 3 rfl ?_
      obtain ⟨σ23, e24, h⟩ := bo_some h
      refine g_iastore O dX2_add_45 e24 ?_
      refine g_aload_n O dX2_add_46 rfl 0 rfl ?_
      refine g_dup O dX2_add_47 rfl ?_
      obtain ⟨v25, e26, h⟩ := bo_some h
      refine g_getI O dX2_add_48 fl_X2_24 rfl e26 ?_
      refine g_iconst (v := (1 : Int32)) O dX2_add_51 rfl ?_
      refine g_iadd O dX2_add_52 ?_
      obtain ⟨σ27, e28, h⟩ := bo_some h
      refine g_putI O dX2_add_53 fl_X2_24 (Or.inl rfl) rfl e28 ?_
      cases h
      exact g_return O K dX2_add_56
theorem c_X2_add (l0 : Launch) (a0 : Nat) (x1 : Int32) (x2 : Int32) (x3 : Int32) (σ : Dt) (r : Unit) (σ' : Dt) (h : f_X2_add a0 x1 x2 x3 σ = some (r, σ')) : Ctr l0 yX2_add cX2_add 4 (none) false 2 80 0 0 [vA (some a0), vI x1, vI x2, vI x3] SX σ SX σ' (none) := ctr_of (by decide) (Nat.le_of_ble_eq_true rfl) (fun M O F R0 N hn => t_X2_add O R0 N hn a0 x1 x2 x3 σ (r, σ') h F)
