def P_X11_soon_31 (M : Mx) (x2 : Int32) (x3 : Int32) (r4 : Option Nat) (σ : Dt) (s : Int32) : Prop := G M 0 0 31 [(2, vI x2), (3, vI x3), (4, vA r4), (5, vI s)] [] SX σ
def E_X11_soon_31 (M : Mx) (x2 : Int32) (x3 : Int32) (r4 : Option Nat) (σ : Dt) : (Int32 ⊕ Unit) → Prop := (el (fun w => G M 0 0 50 [(5, vI w)] [] SX σ) (fun w => G M 0 0 59 [] [] SX σ))
def f_X11_soon_L31 (x2 : Int32) (x3 : Int32) (r4 : Option Nat) (x5 : Int32) (σ : Dt) : Option (Int32 ⊕ (Int32 ⊕ Unit)) := if (9 : Int32) < x5 then some (.inr (.inr ())) else bo (xrc SX 9 r4) fun a2 => bo (f_X9_canKeep a2 x2 x3 x5 σ) fun v4 => if v4 = 0 then some (.inl (x5 + (1 : Int32))) else some (.inr (.inl x5))
theorem t_X11_soon_L31 {M : Mx} {l0 : Launch} (O : Ok M cX11_soon yX11_soon) (R0 : Rm M l0 5 145 0 0) (N : Ma M = false) (hn : Mn M = 6) (x2 : Int32) (x3 : Int32) (r4 : Option Nat) (x5 : Int32) (σ : Dt) (o : (Int32 ⊕ (Int32 ⊕ Unit))) (h : f_X11_soon_L31 x2 x3 r4 x5 σ = some o) (K : kon (P_X11_soon_31 M x2 x3 r4 σ) (E_X11_soon_31 M x2 x3 r4 σ) o) : G M 0 0 31 [(2, vI x2), (3, vI x3), (4, vA r4), (5, vI x5)] [] SX σ := by
  unfold f_X11_soon_L31 at h
  refine g_iload O dX11_soon_31 3 rfl ?_
  refine g_bipush (v := (9 : Int32)) O dX11_soon_33 rfl ?_
  refine g_icmp_gt O dX11_soon_35 rfl (fun c1 => ?_) (fun c1 => ?_)
  · replace h := (if_pos c1).symm.trans h
    refine g_sub [] (lv' := []) rfl ?_
    cases h
    exact K
  · replace h := (if_neg c1).symm.trans h
    refine g_aload O dX11_soon_38 2 rfl ?_
    refine g_iload_n O dX11_soon_40 rfl 0 rfl ?_
    refine g_iload_n O dX11_soon_41 rfl 1 rfl ?_
    refine g_iload O dX11_soon_42 3 rfl ?_
    obtain ⟨a2, e3, h⟩ := bo_some h
    obtain ⟨v4, e5, h⟩ := bo_some h
    refine g_cV1 O R0 N dX11_soon_44 vl_X11_135 vv_X9_canKeep e3 [vI x2, vI x3, vI x5] rfl rfl rfl ⟨Nat.le_of_ble_eq_true rfl, Nat.le_of_ble_eq_true rfl⟩ (c_X9_canKeep l0 a2 x2 x3 x5 σ v4 e5) ?_
    refine g_if_eq O dX11_soon_47 rfl (fun c6 => ?_) (fun c6 => ?_)
    · replace h := (if_pos c6).symm.trans h
      refine g_iinc (v := (x5 + (1 : Int32))) (lv' := [(5, vI (x5 + (1 : Int32))), (2, vI x2), (3, vI x3), (4, vA r4)]) O dX11_soon_53 6 hn (by decide) 3 rfl rfl rfl ?_
      refine g_goto O dX11_soon_56 rfl ?_
      refine g_sub [1, 2, 3, 0] (lv' := [(2, vI x2), (3, vI x3), (4, vA r4), (5, vI (x5 + (1 : Int32)))]) rfl ?_
      cases h
      exact K
    · replace h := (if_neg c6).symm.trans h
      refine g_sub [3] (lv' := [(5, vI x5)]) rfl ?_
      cases h
      exact K
def f_X11_soon (a0 : Nat) (x1 : Int32) (x2 : Int32) (x3 : Int32) (σ : Dt) : Option Int32 := bo (xgr SX 11 0 (some a0) σ) fun v1 => bo (xrc SX 8 v1) fun a3 => bo (f_X8_valleyAt a3 x1 σ) fun v5 => if v5 = none then some (-1 : Int32) else bo (xrc SX 9 v5) fun a8 => bo (f_X9_mayAskKeep a8 x2 x3 (1 : Int32) σ) fun v10 => if v10 = 0 then some (-1 : Int32) else bo (iter FU (fun s => f_X11_soon_L31 x2 x3 v5 s σ) (1 : Int32)) fun w13 => el (fun w15 => some w15) (fun w15 => some (-1 : Int32)) w13
theorem t_X11_soon {M : Mx} {l0 : Launch} (O : Ok M cX11_soon yX11_soon) (R0 : Rm M l0 5 145 0 0) (N : Ma M = false) (hn : Mn M = 6) (a0 : Nat) (x1 : Int32) (x2 : Int32) (x3 : Int32) (σ : Dt) (o : Int32) (h : f_X11_soon a0 x1 x2 x3 σ = some o) (K : Fin' M (some .int) 0 0 SX σ (some (vI o))) : G M 0 0 0 [(0, vA (some a0)), (1, vI x1), (2, vI x2), (3, vI x3)] [] SX σ := by
  unfold f_X11_soon at h
  refine g_aload_n O dX11_soon_0 rfl 0 rfl ?_
  obtain ⟨v1, e2, h⟩ := bo_some h
  refine g_getR O dX11_soon_1 fl_X11_12 rfl e2 ?_
  refine g_iload_n O dX11_soon_4 rfl 1 rfl ?_
  obtain ⟨a3, e4, h⟩ := bo_some h
  obtain ⟨v5, e6, h⟩ := bo_some h
  refine g_cV1 O R0 N dX11_soon_5 vl_X11_105 vv_X8_valleyAt e4 [vI x1] rfl rfl rfl ⟨Nat.le_of_ble_eq_true rfl, Nat.le_of_ble_eq_true rfl⟩ (c_X8_valleyAt l0 a3 x1 σ v5 e6) ?_
  refine g_astore (lv' := [(4, vA v5), (0, vA (some a0)), (1, vI x1), (2, vI x2), (3, vI x3)]) O dX11_soon_8 6 hn (by decide) rfl ?_
  refine g_aload O dX11_soon_10 0 rfl ?_
  refine g_ifnull O dX11_soon_12 rfl (fun c7 => ?_) (fun c7 => ?_)
  · replace h := (if_pos c7).symm.trans h
    refine g_iconst (v := (-1 : Int32)) O dX11_soon_26 rfl ?_
    cases h
    exact g_ireturn O K dX11_soon_27
  · replace h := (if_neg c7).symm.trans h
    refine g_aload O dX11_soon_15 0 rfl ?_
    refine g_iload_n O dX11_soon_17 rfl 3 rfl ?_
    refine g_iload_n O dX11_soon_18 rfl 4 rfl ?_
    refine g_iconst (v := (1 : Int32)) O dX11_soon_19 rfl ?_
    obtain ⟨a8, e9, h⟩ := bo_some h
    obtain ⟨v10, e11, h⟩ := bo_some h
    refine g_cV1 O R0 N dX11_soon_20 vl_X11_131 vv_X9_mayAskKeep e9 [vI x2, vI x3, vI (1 : Int32)] rfl rfl rfl ⟨Nat.le_of_ble_eq_true rfl, Nat.le_of_ble_eq_true rfl⟩ (c_X9_mayAskKeep l0 a8 x2 x3 (1 : Int32) σ v10 e11) ?_
    refine g_if_ne O dX11_soon_23 rfl (fun c12 => ?_) (fun c12 => ?_)
    · replace h := (if_pos c12).symm.trans h
      refine g_iconst (v := (-1 : Int32)) O dX11_soon_26 rfl ?_
      cases h
      exact g_ireturn O K dX11_soon_27
    · replace h := (if_neg c12).symm.trans h
      refine g_iconst (v := (1 : Int32)) O dX11_soon_28 rfl ?_
      refine g_istore (lv' := [(5, vI (1 : Int32)), (4, vA v5), (0, vA (some a0)), (1, vI x1), (2, vI x2), (3, vI x3)]) O dX11_soon_29 6 hn (by decide) rfl ?_
      refine g_sub [4, 5, 1, 0] (lv' := [(2, vI x2), (3, vI x3), (4, vA v5), (5, vI (1 : Int32))]) rfl ?_
      obtain ⟨w13, e14, h⟩ := bo_some h
      refine iter_G (P := P_X11_soon_31 M x2 x3 v5 σ) (E := E_X11_soon_31 M x2 x3 v5 σ) (fun s o hb hk => t_X11_soon_L31 O R0 N hn x2 x3 v5 s σ o hb hk) FU (1 : Int32) w13 e14 ?_
      rcases w13 with w15 | w15
      · replace h := el_l h
        show G M 0 0 50 [(5, vI w15)] [] SX σ
        refine g_iload O dX11_soon_50 0 rfl ?_
        cases h
        exact g_ireturn O K dX11_soon_52
      · replace h := el_r h
        show G M 0 0 59 [] [] SX σ
        refine g_iconst (v := (-1 : Int32)) O dX11_soon_59 rfl ?_
        cases h
        exact g_ireturn O K dX11_soon_60
theorem c_X11_soon (l0 : Launch) (a0 : Nat) (x1 : Int32) (x2 : Int32) (x3 : Int32) (σ : Dt) (r : Int32) (h : f_X11_soon a0 x1 x2 x3 σ = some r) : Ctr l0 yX11_soon cX11_soon 6 (some .int) false 5 145 0 0 [vA (some a0), vI x1, vI x2, vI x3] SX σ SX σ (some (vI r)) := ctr_of (by decide) (Nat.le_of_ble_eq_true rfl) (fun M O F R0 N hn => t_X11_soon O R0 N hn a0 x1 x2 x3 σ r h F)
def P_X7_neverKept_4 (M : Mx) (a0 : Nat) (r1 : Option Nat) (σ : Dt) (s : (Int32 × Int32)) : Prop := G M 0 0 4 [(0, vA (some a0)), (1, vA r1), (2, vI s.1), (3, vI s.2)] [] SX σ
def E_X7_neverKept_4 (M : Mx) (a0 : Nat) (r1 : Option Nat) (σ : Dt) : Int32 → Prop := (fun w => G M 0 0 43 [(2, vI w)] [] SX σ)
def f_X7_neverKept_37 (a0 : Nat) (r1 : Option Nat) (x2 : Int32) (x3 : Int32) (σ : Dt) : Option ((Int32 × Int32) ⊕ Int32) := some (.inl (x2, (x3 + (1 : Int32))))
theorem t_X7_neverKept_37 {M : Mx} {l0 : Launch} (O : Ok M cX7_neverKept yX7_neverKept) (R0 : Rm M l0 3 101 0 0) (N : Ma M = false) (hn : Mn M = 4)  (a0 : Nat) (r1 : Option Nat) (x2 : Int32) (x3 : Int32) (σ : Dt) (o : ((Int32 × Int32) ⊕ Int32)) (h : f_X7_neverKept_37 a0 r1 x2 x3 σ = some o) (K : kon (P_X7_neverKept_4 M a0 r1 σ) (E_X7_neverKept_4 M a0 r1 σ) o) : G M 0 0 37 [(0, vA (some a0)), (1, vA r1), (2, vI x2), (3, vI x3)] [] SX σ := by
  unfold f_X7_neverKept_37 at h
  refine g_iinc (v := (x3 + (1 : Int32))) (lv' := [(3, vI (x3 + (1 : Int32))), (0, vA (some a0)), (1, vA r1), (2, vI x2)]) O dX7_neverKept_37 4 hn (by decide) 3 rfl rfl rfl ?_
  refine g_goto O dX7_neverKept_40 rfl ?_
  refine g_sub [1, 2, 3, 0] (lv' := [(0, vA (some a0)), (1, vA r1), (2, vI x2), (3, vI (x3 + (1 : Int32)))]) rfl ?_
  cases h
  exact K
def f_X7_neverKept_L4 (a0 : Nat) (r1 : Option Nat) (x2 : Int32) (x3 : Int32) (σ : Dt) : Option ((Int32 × Int32) ⊕ Int32) := if (6 : Int32) ≤ x3 then some (.inr x2) else if r1 = none then f_X7_neverKept_37 a0 r1 x2 x3 σ else bo (xrc SX 9 r1) fun a3 => bo (f_X9_hasWork a3 x3 σ) fun v5 => if v5 = 0 then f_X7_neverKept_37 a0 r1 x2 x3 σ else bo (xgr SX 7 0 (some a0) σ) fun v8 => bo (xai SX v8 x3 σ) fun v10 => if v10 = 0 then f_X7_neverKept_37 a0 r1 (x2 ||| ((1 : Int32) <<< (x3 &&& 31))) x3 σ else f_X7_neverKept_37 a0 r1 x2 x3 σ
theorem t_X7_neverKept_L4 {M : Mx} {l0 : Launch} (O : Ok M cX7_neverKept yX7_neverKept) (R0 : Rm M l0 3 101 0 0) (N : Ma M = false) (hn : Mn M = 4) (a0 : Nat) (r1 : Option Nat) (x2 : Int32) (x3 : Int32) (σ : Dt) (o : ((Int32 × Int32) ⊕ Int32)) (h : f_X7_neverKept_L4 a0 r1 x2 x3 σ = some o) (K : kon (P_X7_neverKept_4 M a0 r1 σ) (E_X7_neverKept_4 M a0 r1 σ) o) : G M 0 0 4 [(0, vA (some a0)), (1, vA r1), (2, vI x2), (3, vI x3)] [] SX σ := by
  unfold f_X7_neverKept_L4 at h
  refine g_iload_n O dX7_neverKept_4 rfl 3 rfl ?_
  refine g_bipush (v := (6 : Int32)) O dX7_neverKept_5 rfl ?_
  refine g_icmp_ge O dX7_neverKept_7 rfl (fun c1 => ?_) (fun c1 => ?_)
  · replace h := (if_pos c1).symm.trans h
    refine g_sub [2] (lv' := [(2, vI x2)]) rfl ?_
    cases h
    exact K
  · replace h := (if_neg c1).symm.trans h
    refine g_aload_n O dX7_neverKept_10 rfl 1 rfl ?_
    refine g_ifnull O dX7_neverKept_11 rfl (fun c2 => ?_) (fun c2 => ?_)
    · replace h := (if_pos c2).symm.trans h
      exact t_X7_neverKept_37 O R0 N hn a0 r1 x2 x3 σ o h K
    · replace h := (if_neg c2).symm.trans h
      refine g_aload_n O dX7_neverKept_14 rfl 1 rfl ?_
      refine g_iload_n O dX7_neverKept_15 rfl 3 rfl ?_
      obtain ⟨a3, e4, h⟩ := bo_some h
      obtain ⟨v5, e6, h⟩ := bo_some h
      refine g_cV1 O R0 N dX7_neverKept_16 vl_X7_42 vv_X9_hasWork e4 [vI x3] rfl rfl rfl ⟨Nat.le_of_ble_eq_true rfl, Nat.le_of_ble_eq_true rfl⟩ (c_X9_hasWork l0 a3 x3 σ v5 e6) ?_
      refine g_if_eq O dX7_neverKept_19 rfl (fun c7 => ?_) (fun c7 => ?_)
      · replace h := (if_pos c7).symm.trans h
        exact t_X7_neverKept_37 O R0 N hn a0 r1 x2 x3 σ o h K
      · replace h := (if_neg c7).symm.trans h
        refine g_aload_n O dX7_neverKept_22 rfl 0 rfl ?_
        obtain ⟨v8, e9, h⟩ := bo_some h
        refine g_getR O dX7_neverKept_23 fl_X7_9 rfl e9 ?_
        refine g_iload_n O dX7_neverKept_26 rfl 3 rfl ?_
        obtain ⟨v10, e11, h⟩ := bo_some h
        refine g_iaload O dX7_neverKept_27 e11 ?_
        refine g_if_ne O dX7_neverKept_28 rfl (fun c12 => ?_) (fun c12 => ?_)
        · replace h := (if_pos c12).symm.trans h
          refine g_iload_n O dX7_neverKept_31 rfl 2 rfl ?_
          refine g_iconst (v := (1 : Int32)) O dX7_neverKept_32 rfl ?_
          refine g_iload_n O dX7_neverKept_33 rfl 3 rfl ?_
          refine g_ishl O dX7_neverKept_34 ?_
          refine g_ior O dX7_neverKept_35 ?_
          refine g_istore_n (lv' := [(2, vI (x2 ||| ((1 : Int32) <<< (x3 &&& 31)))), (0, vA (some a0)), (1, vA r1), (3, vI x3)]) O dX7_neverKept_36 rfl 4 hn (by decide) rfl ?_
          refine g_sub [1, 2, 0, 3] (lv' := [(0, vA (some a0)), (1, vA r1), (2, vI (x2 ||| ((1 : Int32) <<< (x3 &&& 31)))), (3, vI x3)]) rfl ?_
          exact t_X7_neverKept_37 O R0 N hn a0 r1 (x2 ||| ((1 : Int32) <<< (x3 &&& 31))) x3 σ o h K
        · replace h := (if_neg c12).symm.trans h
          exact t_X7_neverKept_37 O R0 N hn a0 r1 x2 x3 σ o h K
def f_X7_neverKept (a0 : Nat) (r1 : Option Nat) (σ : Dt) : Option Int32 := bo (iter FU (fun s => f_X7_neverKept_L4 a0 r1 s.1 s.2 σ) ((0 : Int32), (0 : Int32))) fun w1 => some w1
theorem t_X7_neverKept {M : Mx} {l0 : Launch} (O : Ok M cX7_neverKept yX7_neverKept) (R0 : Rm M l0 3 101 0 0) (N : Ma M = false) (hn : Mn M = 4) (a0 : Nat) (r1 : Option Nat) (σ : Dt) (o : Int32) (h : f_X7_neverKept a0 r1 σ = some o) (K : Fin' M (some .int) 0 0 SX σ (some (vI o))) : G M 0 0 0 [(0, vA (some a0)), (1, vA r1)] [] SX σ := by
  unfold f_X7_neverKept at h
  refine g_iconst (v := (0 : Int32)) O dX7_neverKept_0 rfl ?_
  refine g_istore_n (lv' := [(2, vI (0 : Int32)), (0, vA (some a0)), (1, vA r1)]) O dX7_neverKept_1 rfl 4 hn (by decide) rfl ?_
  refine g_iconst (v := (0 : Int32)) O dX7_neverKept_2 rfl ?_
  refine g_istore_n (lv' := [(3, vI (0 : Int32)), (2, vI (0 : Int32)), (0, vA (some a0)), (1, vA r1)]) O dX7_neverKept_3 rfl 4 hn (by decide) rfl ?_
  refine g_sub [2, 3, 1, 0] (lv' := [(0, vA (some a0)), (1, vA r1), (2, vI (0 : Int32)), (3, vI (0 : Int32))]) rfl ?_
  obtain ⟨w1, e2, h⟩ := bo_some h
  refine iter_G (P := P_X7_neverKept_4 M a0 r1 σ) (E := E_X7_neverKept_4 M a0 r1 σ) (fun s o hb hk => t_X7_neverKept_L4 O R0 N hn a0 r1 s.1 s.2 σ o hb hk) FU ((0 : Int32), (0 : Int32)) w1 e2 ?_
  show G M 0 0 43 [(2, vI w1)] [] SX σ
  refine g_iload_n O dX7_neverKept_43 rfl 0 rfl ?_
  cases h
  exact g_ireturn O K dX7_neverKept_44
theorem c_X7_neverKept (l0 : Launch) (a0 : Nat) (r1 : Option Nat) (σ : Dt) (r : Int32) (h : f_X7_neverKept a0 r1 σ = some r) : Ctr l0 yX7_neverKept cX7_neverKept 4 (some .int) false 3 101 0 0 [vA (some a0), vA r1] SX σ SX σ (some (vI r)) := ctr_of (by decide) (Nat.le_of_ble_eq_true rfl) (fun M O F R0 N hn => t_X7_neverKept O R0 N hn a0 r1 σ r h F)
def P_X7_mostWorks_18 (M : Mx) (a0 : Nat) (x3 : Int32) (σ : Dt) (s : (Int32 × Int32)) : Prop := G M 0 0 18 [(0, vA (some a0)), (2, vI s.1), (3, vI x3), (4, vI s.2)] [] SX σ
def E_X7_mostWorks_18 (M : Mx) (a0 : Nat) (x3 : Int32) (σ : Dt) : Int32 → Prop := (fun w => G M 0 0 64 [(2, vI w)] [] SX σ)
def f_X7_mostWorks_58 (a0 : Nat) (x2 : Int32) (x3 : Int32) (x4 : Int32) (σ : Dt) : Option ((Int32 × Int32) ⊕ Int32) := some (.inl (x2, (x4 + (1 : Int32))))
theorem t_X7_mostWorks_58 {M : Mx} {l0 : Launch} (O : Ok M cX7_mostWorks yX7_mostWorks) (R0 : Rm M l0 4 124 0 0) (N : Ma M = false) (hn : Mn M = 5)  (a0 : Nat) (x2 : Int32) (x3 : Int32) (x4 : Int32) (σ : Dt) (o : ((Int32 × Int32) ⊕ Int32)) (h : f_X7_mostWorks_58 a0 x2 x3 x4 σ = some o) (K : kon (P_X7_mostWorks_18 M a0 x3 σ) (E_X7_mostWorks_18 M a0 x3 σ) o) : G M 0 0 58 [(0, vA (some a0)), (2, vI x2), (3, vI x3), (4, vI x4)] [] SX σ := by
  unfold f_X7_mostWorks_58 at h
  refine g_iinc (v := (x4 + (1 : Int32))) (lv' := [(4, vI (x4 + (1 : Int32))), (0, vA (some a0)), (2, vI x2), (3, vI x3)]) O dX7_mostWorks_58 5 hn (by decide) 3 rfl rfl rfl ?_
  refine g_goto O dX7_mostWorks_61 rfl ?_
  refine g_sub [1, 2, 3, 0] (lv' := [(0, vA (some a0)), (2, vI x2), (3, vI x3), (4, vI (x4 + (1 : Int32)))]) rfl ?_
  cases h
  exact K
def f_X7_mostWorks_L18 (a0 : Nat) (x3 : Int32) (x2 : Int32) (x4 : Int32) (σ : Dt) : Option ((Int32 × Int32) ⊕ Int32) := if x3 < x4 then some (.inr x2) else if (64 : Int32) ≤ x4 then some (.inr x2) else bo (f_J6_bitCount_0f7a4 x4 σ) fun v3 => if v3 ≤ x2 then f_X7_mostWorks_58 a0 x2 x3 x4 σ else bo (xrc SX 7 (some a0)) fun a6 => bo (f_X7_canSay a6 x4 (1023 : Int32) σ) fun v8 => if v8 = 0 then f_X7_mostWorks_58 a0 x2 x3 x4 σ else bo (f_J6_bitCount_0f7a4 x4 σ) fun v11 => f_X7_mostWorks_58 a0 v11 x3 x4 σ
theorem t_X7_mostWorks_L18 {M : Mx} {l0 : Launch} (O : Ok M cX7_mostWorks yX7_mostWorks) (R0 : Rm M l0 4 124 0 0) (N : Ma M = false) (hn : Mn M = 5) (a0 : Nat) (x3 : Int32) (x2 : Int32) (x4 : Int32) (σ : Dt) (o : ((Int32 × Int32) ⊕ Int32)) (h : f_X7_mostWorks_L18 a0 x3 x2 x4 σ = some o) (K : kon (P_X7_mostWorks_18 M a0 x3 σ) (E_X7_mostWorks_18 M a0 x3 σ) o) : G M 0 0 18 [(0, vA (some a0)), (2, vI x2), (3, vI x3), (4, vI x4)] [] SX σ := by
  unfold f_X7_mostWorks_L18 at h
  refine g_iload O dX7_mostWorks_18 3 rfl ?_
  refine g_iload_n O dX7_mostWorks_20 rfl 2 rfl ?_
  refine g_icmp_gt O dX7_mostWorks_21 rfl (fun c1 => ?_) (fun c1 => ?_)
  · replace h := (if_pos c1).symm.trans h
    refine g_sub [1] (lv' := [(2, vI x2)]) rfl ?_
    cases h
    exact K
  · replace h := (if_neg c1).symm.trans h
    refine g_iload O dX7_mostWorks_24 3 rfl ?_
    refine g_bipush (v := (64 : Int32)) O dX7_mostWorks_26 rfl ?_
    refine g_icmp_ge O dX7_mostWorks_28 rfl (fun c2 => ?_) (fun c2 => ?_)
    · replace h := (if_pos c2).symm.trans h
      refine g_sub [1] (lv' := [(2, vI x2)]) rfl ?_
      cases h
      exact K
    · replace h := (if_neg c2).symm.trans h
      refine g_iload O dX7_mostWorks_31 3 rfl ?_
      obtain ⟨v3, e4, h⟩ := bo_some h
      refine g_cS1 O R0 N dX7_mostWorks_33 vl_X7_28 w831 [vI x4] rfl rfl rfl ⟨Nat.le_of_ble_eq_true rfl, Nat.le_of_ble_eq_true rfl⟩ (c_J6_bitCount_0f7a4 l0 x4 σ v3 e4) ?_
      refine g_iload_n O dX7_mostWorks_36 rfl 1 rfl ?_
      refine g_icmp_le O dX7_mostWorks_37 rfl (fun c5 => ?_) (fun c5 => ?_)
      · replace h := (if_pos c5).symm.trans h
        exact t_X7_mostWorks_58 O R0 N hn a0 x2 x3 x4 σ o h K
      · replace h := (if_neg c5).symm.trans h
        refine g_aload_n O dX7_mostWorks_40 rfl 0 rfl ?_
        refine g_iload O dX7_mostWorks_41 3 rfl ?_
        refine g_sipush (v := (1023 : Int32)) O dX7_mostWorks_43 rfl ?_
        obtain ⟨a6, e7, h⟩ := bo_some h
        obtain ⟨v8, e9, h⟩ := bo_some h
        refine g_cV1 O R0 N dX7_mostWorks_46 vl_X7_38 vv_X7_canSay e7 [vI x4, vI (1023 : Int32)] rfl rfl rfl ⟨Nat.le_of_ble_eq_true rfl, Nat.le_of_ble_eq_true rfl⟩ (c_X7_canSay l0 a6 x4 (1023 : Int32) σ v8 e9) ?_
        refine g_if_eq O dX7_mostWorks_49 rfl (fun c10 => ?_) (fun c10 => ?_)
        · replace h := (if_pos c10).symm.trans h
          exact t_X7_mostWorks_58 O R0 N hn a0 x2 x3 x4 σ o h K
        · replace h := (if_neg c10).symm.trans h
          refine g_iload O dX7_mostWorks_52 3 rfl ?_
          obtain ⟨v11, e12, h⟩ := bo_some h
          refine g_cS1 O R0 N dX7_mostWorks_54 vl_X7_28 w831 [vI x4] rfl rfl rfl ⟨Nat.le_of_ble_eq_true rfl, Nat.le_of_ble_eq_true rfl⟩ (c_J6_bitCount_0f7a4 l0 x4 σ v11 e12) ?_
          refine g_istore_n (lv' := [(2, vI v11), (0, vA (some a0)), (3, vI x3), (4, vI x4)]) O dX7_mostWorks_57 rfl 5 hn (by decide) rfl ?_
          refine g_sub [1, 0, 2, 3] (lv' := [(0, vA (some a0)), (2, vI v11), (3, vI x3), (4, vI x4)]) rfl ?_
          exact t_X7_mostWorks_58 O R0 N hn a0 v11 x3 x4 σ o h K
def f_X7_mostWorks_14 (a0 : Nat) (x2 : Int32) (k0 : Int32) (σ : Dt) : Option Int32 := bo (iter FU (fun s => f_X7_mostWorks_L18 a0 k0 s.1 s.2 σ) (x2, (0 : Int32))) fun w1 => some w1
theorem t_X7_mostWorks_14 {M : Mx} {l0 : Launch} (O : Ok M cX7_mostWorks yX7_mostWorks) (R0 : Rm M l0 4 124 0 0) (N : Ma M = false) (hn : Mn M = 5)  (a0 : Nat) (x2 : Int32) (k0 : Int32) (σ : Dt) (o : Int32) (h : f_X7_mostWorks_14 a0 x2 k0 σ = some o) (K : Fin' M (some .int) 0 0 SX σ (some (vI o))) : G M 0 0 14 [(0, vA (some a0)), (2, vI x2)] [vI k0] SX σ := by
  unfold f_X7_mostWorks_14 at h
  refine g_istore_n (lv' := [(3, vI k0), (0, vA (some a0)), (2, vI x2)]) O dX7_mostWorks_14 rfl 5 hn (by decide) rfl ?_
  refine g_iconst (v := (0 : Int32)) O dX7_mostWorks_15 rfl ?_
  refine g_istore (lv' := [(4, vI (0 : Int32)), (3, vI k0), (0, vA (some a0)), (2, vI x2)]) O dX7_mostWorks_16 5 hn (by decide) rfl ?_
  refine g_sub [2, 3, 1, 0] (lv' := [(0, vA (some a0)), (2, vI x2), (3, vI k0), (4, vI (0 : Int32))]) rfl ?_
  obtain ⟨w1, e2, h⟩ := bo_some h
  refine iter_G (P := P_X7_mostWorks_18 M a0 k0 σ) (E := E_X7_mostWorks_18 M a0 k0 σ) (fun s o hb hk => t_X7_mostWorks_L18 O R0 N hn a0 k0 s.1 s.2 σ o hb hk) FU (x2, (0 : Int32)) w1 e2 ?_
  show G M 0 0 64 [(2, vI w1)] [] SX σ
  refine g_iload_n O dX7_mostWorks_64 rfl 0 rfl ?_
  cases h
  exact g_ireturn O K dX7_mostWorks_65
def f_X7_mostWorks (a0 : Nat) (r1 : Option Nat) (σ : Dt) : Option Int32 := if r1 = none then f_X7_mostWorks_14 a0 (0 : Int32) (0 : Int32) σ else bo (xrc SX 9 r1) fun a2 => bo (f_X9_allWorks a2 σ) fun v4 => f_X7_mostWorks_14 a0 (0 : Int32) v4 σ
theorem t_X7_mostWorks {M : Mx} {l0 : Launch} (O : Ok M cX7_mostWorks yX7_mostWorks) (R0 : Rm M l0 4 124 0 0) (N : Ma M = false) (hn : Mn M = 5) (a0 : Nat) (r1 : Option Nat) (σ : Dt) (o : Int32) (h : f_X7_mostWorks a0 r1 σ = some o) (K : Fin' M (some .int) 0 0 SX σ (some (vI o))) : G M 0 0 0 [(0, vA (some a0)), (1, vA r1)] [] SX σ := by
  unfold f_X7_mostWorks at h
  refine g_iconst (v := (0 : Int32)) O dX7_mostWorks_0 rfl ?_
  refine g_istore_n (lv' := [(2, vI (0 : Int32)), (0, vA (some a0)), (1, vA r1)]) O dX7_mostWorks_1 rfl 5 hn (by decide) rfl ?_
  refine g_aload_n O dX7_mostWorks_2 rfl 2 rfl ?_
  refine g_ifnonnull O dX7_mostWorks_3 rfl (fun c1 => ?_) (fun c1 => ?_)
  · replace h := (if_neg c1).symm.trans h
    refine g_aload_n O dX7_mostWorks_10 rfl 2 rfl ?_
    obtain ⟨a2, e3, h⟩ := bo_some h
    obtain ⟨v4, e5, h⟩ := bo_some h
    refine g_cV1 O R0 N dX7_mostWorks_11 vl_X7_46 vv_X9_allWorks e3 [] rfl rfl rfl ⟨Nat.le_of_ble_eq_true rfl, Nat.le_of_ble_eq_true rfl⟩ (c_X9_allWorks l0 a2 σ v4 e5) ?_
    refine g_sub [1, 0] (lv' := [(0, vA (some a0)), (2, vI (0 : Int32))]) rfl ?_
    exact t_X7_mostWorks_14 O R0 N hn a0 (0 : Int32) v4 σ o h K
  · replace h := (if_pos c1).symm.trans h
    refine g_iconst (v := (0 : Int32)) O dX7_mostWorks_6 rfl ?_
    refine g_goto O dX7_mostWorks_7 rfl ?_
    refine g_sub [1, 0] (lv' := [(0, vA (some a0)), (2, vI (0 : Int32))]) rfl ?_
    exact t_X7_mostWorks_14 O R0 N hn a0 (0 : Int32) (0 : Int32) σ o h K
theorem c_X7_mostWorks (l0 : Launch) (a0 : Nat) (r1 : Option Nat) (σ : Dt) (r : Int32) (h : f_X7_mostWorks a0 r1 σ = some r) : Ctr l0 yX7_mostWorks cX7_mostWorks 5 (some .int) false 4 124 0 0 [vA (some a0), vA r1] SX σ SX σ (some (vI r)) := ctr_of (by decide) (Nat.le_of_ble_eq_true rfl) (fun M O F R0 N hn => t_X7_mostWorks O R0 N hn a0 r1 σ r h F)
def P_X7_mostWorth_20 (M : Mx) (a0 : Nat) (r1 : Option Nat) (x2 : Int32) (x3 : Int32) (σ : Dt) (s : (Int32 × Int32)) : Prop := G M 0 0 20 [(0, vA (some a0)), (1, vA r1), (2, vI x2), (3, vI x3), (4, vI s.1), (5, vI s.2)] [] SX σ
def E_X7_mostWorth_20 (M : Mx) (a0 : Nat) (r1 : Option Nat) (x2 : Int32) (x3 : Int32) (σ : Dt) : Int32 → Prop := (fun w => G M 0 0 67 [(0, vA (some a0)), (1, vA r1), (2, vI x2), (3, vI x3), (4, vI w)] [] SX σ)
def f_X7_mostWorth_58 (a0 : Nat) (r1 : Option Nat) (x2 : Int32) (x3 : Int32) (x5 : Int32) (k0 : Int32) (k1 : Int32) (σ : Dt) : Option ((Int32 × Int32) ⊕ Int32) := some (.inl ((k0 + k1), (x5 + (1 : Int32))))
theorem t_X7_mostWorth_58 {M : Mx} {l0 : Launch} (O : Ok M cX7_mostWorth yX7_mostWorth) (R0 : Rm M l0 4 124 0 0) (N : Ma M = false) (hn : Mn M = 6)  (a0 : Nat) (r1 : Option Nat) (x2 : Int32) (x3 : Int32) (x5 : Int32) (k0 : Int32) (k1 : Int32) (σ : Dt) (o : ((Int32 × Int32) ⊕ Int32)) (h : f_X7_mostWorth_58 a0 r1 x2 x3 x5 k0 k1 σ = some o) (K : kon (P_X7_mostWorth_20 M a0 r1 x2 x3 σ) (E_X7_mostWorth_20 M a0 r1 x2 x3 σ) o) : G M 0 0 58 [(0, vA (some a0)), (1, vA r1), (2, vI x2), (3, vI x3), (5, vI x5)] [vI k1, vI k0] SX σ := by
  unfold f_X7_mostWorth_58 at h
  refine g_iadd O dX7_mostWorth_58 ?_
  refine g_istore (lv' := [(4, vI (k0 + k1)), (0, vA (some a0)), (1, vA r1), (2, vI x2), (3, vI x3), (5, vI x5)]) O dX7_mostWorth_59 6 hn (by decide) rfl ?_
  refine g_iinc (v := (x5 + (1 : Int32))) (lv' := [(5, vI (x5 + (1 : Int32))), (4, vI (k0 + k1)), (0, vA (some a0)), (1, vA r1), (2, vI x2), (3, vI x3)]) O dX7_mostWorth_61 6 hn (by decide) 5 rfl rfl rfl ?_
  refine g_goto O dX7_mostWorth_64 rfl ?_
  refine g_sub [2, 3, 4, 5, 1, 0] (lv' := [(0, vA (some a0)), (1, vA r1), (2, vI x2), (3, vI x3), (4, vI (k0 + k1)), (5, vI (x5 + (1 : Int32)))]) rfl ?_
  cases h
  exact K
def f_X7_mostWorth_L20 (a0 : Nat) (r1 : Option Nat) (x2 : Int32) (x3 : Int32) (x4 : Int32) (x5 : Int32) (σ : Dt) : Option ((Int32 × Int32) ⊕ Int32) := bo (xgi SX 9 1 r1 σ) fun v1 => if v1 ≤ x5 then some (.inr x4) else if (6 : Int32) ≤ x5 then some (.inr x4) else if ((x3 >>> (x5 &&& 31)) &&& (1 : Int32)) = 0 then f_X7_mostWorth_58 a0 r1 x2 x3 x5 x4 (0 : Int32) σ else bo (xgr SX 9 9 r1 σ) fun v6 => bo (xai SX v6 x5 σ) fun v8 => f_X7_mostWorth_58 a0 r1 x2 x3 x5 x4 v8 σ
theorem t_X7_mostWorth_L20 {M : Mx} {l0 : Launch} (O : Ok M cX7_mostWorth yX7_mostWorth) (R0 : Rm M l0 4 124 0 0) (N : Ma M = false) (hn : Mn M = 6) (a0 : Nat) (r1 : Option Nat) (x2 : Int32) (x3 : Int32) (x4 : Int32) (x5 : Int32) (σ : Dt) (o : ((Int32 × Int32) ⊕ Int32)) (h : f_X7_mostWorth_L20 a0 r1 x2 x3 x4 x5 σ = some o) (K : kon (P_X7_mostWorth_20 M a0 r1 x2 x3 σ) (E_X7_mostWorth_20 M a0 r1 x2 x3 σ) o) : G M 0 0 20 [(0, vA (some a0)), (1, vA r1), (2, vI x2), (3, vI x3), (4, vI x4), (5, vI x5)] [] SX σ := by
  unfold f_X7_mostWorth_L20 at h
  refine g_iload O dX7_mostWorth_20 5 rfl ?_
  refine g_aload_n O dX7_mostWorth_22 rfl 1 rfl ?_
  obtain ⟨v1, e2, h⟩ := bo_some h
  refine g_getI O dX7_mostWorth_23 fl_X7_50 rfl e2 ?_
  refine g_icmp_ge O dX7_mostWorth_26 rfl (fun c3 => ?_) (fun c3 => ?_)
  · replace h := (if_pos c3).symm.trans h
    refine g_sub [0, 1, 2, 3, 4] (lv' := [(0, vA (some a0)), (1, vA r1), (2, vI x2), (3, vI x3), (4, vI x4)]) rfl ?_
    cases h
    exact K
  · replace h := (if_neg c3).symm.trans h
    refine g_iload O dX7_mostWorth_29 5 rfl ?_
    refine g_bipush (v := (6 : Int32)) O dX7_mostWorth_31 rfl ?_
    refine g_icmp_ge O dX7_mostWorth_33 rfl (fun c4 => ?_) (fun c4 => ?_)
    · replace h := (if_pos c4).symm.trans h
      refine g_sub [0, 1, 2, 3, 4] (lv' := [(0, vA (some a0)), (1, vA r1), (2, vI x2), (3, vI x3), (4, vI x4)]) rfl ?_
      cases h
      exact K
    · replace h := (if_neg c4).symm.trans h
      refine g_iload O dX7_mostWorth_36 4 rfl ?_
      refine g_iload_n O dX7_mostWorth_38 rfl 3 rfl ?_
      refine g_iload O dX7_mostWorth_39 5 rfl ?_
      refine g_ishr O dX7_mostWorth_41 ?_
      refine g_iconst (v := (1 : Int32)) O dX7_mostWorth_42 rfl ?_
      refine g_iand O dX7_mostWorth_43 ?_
      refine g_if_eq O dX7_mostWorth_44 rfl (fun c5 => ?_) (fun c5 => ?_)
      · replace h := (if_pos c5).symm.trans h
        refine g_iconst (v := (0 : Int32)) O dX7_mostWorth_57 rfl ?_
        refine g_sub [0, 1, 2, 3, 5] (lv' := [(0, vA (some a0)), (1, vA r1), (2, vI x2), (3, vI x3), (5, vI x5)]) rfl ?_
        exact t_X7_mostWorth_58 O R0 N hn a0 r1 x2 x3 x5 x4 (0 : Int32) σ o h K
      · replace h := (if_neg c5).symm.trans h
        refine g_aload_n O dX7_mostWorth_47 rfl 1 rfl ?_
        obtain ⟨v6, e7, h⟩ := bo_some h
        refine g_getR O dX7_mostWorth_48 fl_X7_53 rfl e7 ?_
        refine g_iload O dX7_mostWorth_51 5 rfl ?_
        obtain ⟨v8, e9, h⟩ := bo_some h
        refine g_iaload O dX7_mostWorth_53 e9 ?_
        refine g_goto O dX7_mostWorth_54 rfl ?_
        refine g_sub [0, 1, 2, 3, 5] (lv' := [(0, vA (some a0)), (1, vA r1), (2, vI x2), (3, vI x3), (5, vI x5)]) rfl ?_
        exact t_X7_mostWorth_58 O R0 N hn a0 r1 x2 x3 x5 x4 v8 σ o h K
def P_X7_mostWorth_4 (M : Mx) (a0 : Nat) (r1 : Option Nat) (σ : Dt) (s : (Int32 × Int32)) : Prop := G M 0 0 4 [(0, vA (some a0)), (1, vA r1), (2, vI s.1), (3, vI s.2)] [] SX σ
def E_X7_mostWorth_4 (M : Mx) (a0 : Nat) (r1 : Option Nat) (σ : Dt) : Int32 → Prop := (fun w => G M 0 0 93 [(2, vI w)] [] SX σ)
def f_X7_mostWorth_87 (a0 : Nat) (r1 : Option Nat) (x2 : Int32) (x3 : Int32) (σ : Dt) : Option ((Int32 × Int32) ⊕ Int32) := some (.inl (x2, (x3 + (1 : Int32))))
theorem t_X7_mostWorth_87 {M : Mx} {l0 : Launch} (O : Ok M cX7_mostWorth yX7_mostWorth) (R0 : Rm M l0 4 124 0 0) (N : Ma M = false) (hn : Mn M = 6)  (a0 : Nat) (r1 : Option Nat) (x2 : Int32) (x3 : Int32) (σ : Dt) (o : ((Int32 × Int32) ⊕ Int32)) (h : f_X7_mostWorth_87 a0 r1 x2 x3 σ = some o) (K : kon (P_X7_mostWorth_4 M a0 r1 σ) (E_X7_mostWorth_4 M a0 r1 σ) o) : G M 0 0 87 [(0, vA (some a0)), (1, vA r1), (2, vI x2), (3, vI x3)] [] SX σ := by
  unfold f_X7_mostWorth_87 at h
  refine g_iinc (v := (x3 + (1 : Int32))) (lv' := [(3, vI (x3 + (1 : Int32))), (0, vA (some a0)), (1, vA r1), (2, vI x2)]) O dX7_mostWorth_87 6 hn (by decide) 3 rfl rfl rfl ?_
  refine g_goto O dX7_mostWorth_90 rfl ?_
  refine g_sub [1, 2, 3, 0] (lv' := [(0, vA (some a0)), (1, vA r1), (2, vI x2), (3, vI (x3 + (1 : Int32)))]) rfl ?_
  cases h
  exact K
def f_X7_mostWorth_67 (a0 : Nat) (r1 : Option Nat) (x2 : Int32) (x3 : Int32) (x4 : Int32) (σ : Dt) : Option ((Int32 × Int32) ⊕ Int32) := if x4 ≤ x2 then f_X7_mostWorth_87 a0 r1 x2 x3 σ else bo (xrc SX 7 (some a0)) fun a2 => bo (f_X7_canSay a2 x3 (1023 : Int32) σ) fun v4 => if v4 = 0 then f_X7_mostWorth_87 a0 r1 x2 x3 σ else f_X7_mostWorth_87 a0 r1 x4 x3 σ
theorem t_X7_mostWorth_67 {M : Mx} {l0 : Launch} (O : Ok M cX7_mostWorth yX7_mostWorth) (R0 : Rm M l0 4 124 0 0) (N : Ma M = false) (hn : Mn M = 6)  (a0 : Nat) (r1 : Option Nat) (x2 : Int32) (x3 : Int32) (x4 : Int32) (σ : Dt) (o : ((Int32 × Int32) ⊕ Int32)) (h : f_X7_mostWorth_67 a0 r1 x2 x3 x4 σ = some o) (K : kon (P_X7_mostWorth_4 M a0 r1 σ) (E_X7_mostWorth_4 M a0 r1 σ) o) : G M 0 0 67 [(0, vA (some a0)), (1, vA r1), (2, vI x2), (3, vI x3), (4, vI x4)] [] SX σ := by
  unfold f_X7_mostWorth_67 at h
  refine g_iload O dX7_mostWorth_67 4 rfl ?_
  refine g_iload_n O dX7_mostWorth_69 rfl 2 rfl ?_
  refine g_icmp_le O dX7_mostWorth_70 rfl (fun c1 => ?_) (fun c1 => ?_)
  · replace h := (if_pos c1).symm.trans h
    refine g_sub [0, 1, 2, 3] (lv' := [(0, vA (some a0)), (1, vA r1), (2, vI x2), (3, vI x3)]) rfl ?_
    exact t_X7_mostWorth_87 O R0 N hn a0 r1 x2 x3 σ o h K
  · replace h := (if_neg c1).symm.trans h
    refine g_aload_n O dX7_mostWorth_73 rfl 0 rfl ?_
    refine g_iload_n O dX7_mostWorth_74 rfl 3 rfl ?_
    refine g_sipush (v := (1023 : Int32)) O dX7_mostWorth_75 rfl ?_
    obtain ⟨a2, e3, h⟩ := bo_some h
    obtain ⟨v4, e5, h⟩ := bo_some h
    refine g_cV1 O R0 N dX7_mostWorth_78 vl_X7_38 vv_X7_canSay e3 [vI x3, vI (1023 : Int32)] rfl rfl rfl ⟨Nat.le_of_ble_eq_true rfl, Nat.le_of_ble_eq_true rfl⟩ (c_X7_canSay l0 a2 x3 (1023 : Int32) σ v4 e5) ?_
    refine g_if_eq O dX7_mostWorth_81 rfl (fun c6 => ?_) (fun c6 => ?_)
    · replace h := (if_pos c6).symm.trans h
      refine g_sub [0, 1, 2, 3] (lv' := [(0, vA (some a0)), (1, vA r1), (2, vI x2), (3, vI x3)]) rfl ?_
      exact t_X7_mostWorth_87 O R0 N hn a0 r1 x2 x3 σ o h K
    · replace h := (if_neg c6).symm.trans h
      refine g_iload O dX7_mostWorth_84 4 rfl ?_
      refine g_istore_n (lv' := [(2, vI x4), (0, vA (some a0)), (1, vA r1), (3, vI x3), (4, vI x4)]) O dX7_mostWorth_86 rfl 6 hn (by decide) rfl ?_
      refine g_sub [1, 2, 0, 3] (lv' := [(0, vA (some a0)), (1, vA r1), (2, vI x4), (3, vI x3)]) rfl ?_
      exact t_X7_mostWorth_87 O R0 N hn a0 r1 x4 x3 σ o h K
def f_X7_mostWorth_L4 (a0 : Nat) (r1 : Option Nat) (x2 : Int32) (x3 : Int32) (σ : Dt) : Option ((Int32 × Int32) ⊕ Int32) := if r1 = none then some (.inr x2) else if (64 : Int32) ≤ x3 then some (.inr x2) else bo (iter FU (fun s => f_X7_mostWorth_L20 a0 r1 x2 x3 s.1 s.2 σ) ((0 : Int32), (0 : Int32))) fun w3 => f_X7_mostWorth_67 a0 r1 x2 x3 w3 σ
theorem t_X7_mostWorth_L4 {M : Mx} {l0 : Launch} (O : Ok M cX7_mostWorth yX7_mostWorth) (R0 : Rm M l0 4 124 0 0) (N : Ma M = false) (hn : Mn M = 6) (a0 : Nat) (r1 : Option Nat) (x2 : Int32) (x3 : Int32) (σ : Dt) (o : ((Int32 × Int32) ⊕ Int32)) (h : f_X7_mostWorth_L4 a0 r1 x2 x3 σ = some o) (K : kon (P_X7_mostWorth_4 M a0 r1 σ) (E_X7_mostWorth_4 M a0 r1 σ) o) : G M 0 0 4 [(0, vA (some a0)), (1, vA r1), (2, vI x2), (3, vI x3)] [] SX σ := by
  unfold f_X7_mostWorth_L4 at h
  refine g_aload_n O dX7_mostWorth_4 rfl 1 rfl ?_
  refine g_ifnull O dX7_mostWorth_5 rfl (fun c1 => ?_) (fun c1 => ?_)
  · replace h := (if_pos c1).symm.trans h
    refine g_sub [2] (lv' := [(2, vI x2)]) rfl ?_
    cases h
    exact K
  · replace h := (if_neg c1).symm.trans h
    refine g_iload_n O dX7_mostWorth_8 rfl 3 rfl ?_
    refine g_bipush (v := (64 : Int32)) O dX7_mostWorth_9 rfl ?_
    refine g_icmp_ge O dX7_mostWorth_11 rfl (fun c2 => ?_) (fun c2 => ?_)
    · replace h := (if_pos c2).symm.trans h
      refine g_sub [2] (lv' := [(2, vI x2)]) rfl ?_
      cases h
      exact K
    · replace h := (if_neg c2).symm.trans h
      refine g_iconst (v := (0 : Int32)) O dX7_mostWorth_14 rfl ?_
      refine g_istore (lv' := [(4, vI (0 : Int32)), (0, vA (some a0)), (1, vA r1), (2, vI x2), (3, vI x3)]) O dX7_mostWorth_15 6 hn (by decide) rfl ?_
      refine g_iconst (v := (0 : Int32)) O dX7_mostWorth_17 rfl ?_
      refine g_istore (lv' := [(5, vI (0 : Int32)), (4, vI (0 : Int32)), (0, vA (some a0)), (1, vA r1), (2, vI x2), (3, vI x3)]) O dX7_mostWorth_18 6 hn (by decide) rfl ?_
      refine g_sub [2, 3, 4, 5, 1, 0] (lv' := [(0, vA (some a0)), (1, vA r1), (2, vI x2), (3, vI x3), (4, vI (0 : Int32)), (5, vI (0 : Int32))]) rfl ?_
      obtain ⟨w3, e4, h⟩ := bo_some h
      refine iter_G (P := P_X7_mostWorth_20 M a0 r1 x2 x3 σ) (E := E_X7_mostWorth_20 M a0 r1 x2 x3 σ) (fun s o hb hk => t_X7_mostWorth_L20 O R0 N hn a0 r1 x2 x3 s.1 s.2 σ o hb hk) FU ((0 : Int32), (0 : Int32)) w3 e4 ?_
      show G M 0 0 67 [(0, vA (some a0)), (1, vA r1), (2, vI x2), (3, vI x3), (4, vI w3)] [] SX σ
      exact t_X7_mostWorth_67 O R0 N hn a0 r1 x2 x3 w3 σ o h K
def f_X7_mostWorth (a0 : Nat) (r1 : Option Nat) (σ : Dt) : Option Int32 := bo (iter FU (fun s => f_X7_mostWorth_L4 a0 r1 s.1 s.2 σ) ((0 : Int32), (0 : Int32))) fun w1 => some w1
theorem t_X7_mostWorth {M : Mx} {l0 : Launch} (O : Ok M cX7_mostWorth yX7_mostWorth) (R0 : Rm M l0 4 124 0 0) (N : Ma M = false) (hn : Mn M = 6) (a0 : Nat) (r1 : Option Nat) (σ : Dt) (o : Int32) (h : f_X7_mostWorth a0 r1 σ = some o) (K : Fin' M (some .int) 0 0 SX σ (some (vI o))) : G M 0 0 0 [(0, vA (some a0)), (1, vA r1)] [] SX σ := by
  unfold f_X7_mostWorth at h
  refine g_iconst (v := (0 : Int32)) O dX7_mostWorth_0 rfl ?_
  refine g_istore_n (lv' := [(2, vI (0 : Int32)), (0, vA (some a0)), (1, vA r1)]) O dX7_mostWorth_1 rfl 6 hn (by decide) rfl ?_
  refine g_iconst (v := (0 : Int32)) O dX7_mostWorth_2 rfl ?_
  refine g_istore_n (lv' := [(3, vI (0 : Int32)), (2, vI (0 : Int32)), (0, vA (some a0)), (1, vA r1)]) O dX7_mostWorth_3 rfl 6 hn (by decide) rfl ?_
  refine g_sub [2, 3, 1, 0] (lv' := [(0, vA (some a0)), (1, vA r1), (2, vI (0 : Int32)), (3, vI (0 : Int32))]) rfl ?_
  obtain ⟨w1, e2, h⟩ := bo_some h
  refine iter_G (P := P_X7_mostWorth_4 M a0 r1 σ) (E := E_X7_mostWorth_4 M a0 r1 σ) (fun s o hb hk => t_X7_mostWorth_L4 O R0 N hn a0 r1 s.1 s.2 σ o hb hk) FU ((0 : Int32), (0 : Int32)) w1 e2 ?_
  show G M 0 0 93 [(2, vI w1)] [] SX σ
  refine g_iload_n O dX7_mostWorth_93 rfl 0 rfl ?_
  cases h
  exact g_ireturn O K dX7_mostWorth_94
theorem c_X7_mostWorth (l0 : Launch) (a0 : Nat) (r1 : Option Nat) (σ : Dt) (r : Int32) (h : f_X7_mostWorth a0 r1 σ = some r) : Ctr l0 yX7_mostWorth cX7_mostWorth 6 (some .int) false 4 124 0 0 [vA (some a0), vA r1] SX σ SX σ (some (vI r)) := ctr_of (by decide) (Nat.le_of_ble_eq_true rfl) (fun M O F R0 N hn => t_X7_mostWorth O R0 N hn a0 r1 σ r h F)
def f_X11_most (a0 : Nat) (x1 : Int32) (x2 : Int32) (x3 : Int32) (σ : Dt) : Option (Int32 × Dt) := bo (xgr SX 11 0 (some a0) σ) fun v1 => bo (xrc SX 8 v1) fun a3 => bo (f_X8_valleyAt a3 x1 σ) fun v5 => if v5 = none then some ((-1 : Int32), σ) else bo (f_X11_isSpan x2 σ) fun v8 => if v8 = 0 then some ((-1 : Int32), σ) else if x3 < 0 then some ((-1 : Int32), σ) else if x3 ≤ (2 : Int32) then bo (xgr SX 11 6 (some a0) σ) fun v13 => bo (xrc SX 7 v13) fun a15 => bd (f_X7_hear a15 v5 x2 σ) fun v17 σ18 => if x3 = 0 then bo (xgr SX 11 6 (some a0) σ18) fun v21 => bo (xrc SX 7 v21) fun a23 => bo (f_X7_neverKept a23 v5 σ18) fun v25 => some (v25, σ18) else if x3 = (1 : Int32) then bo (xgr SX 11 6 (some a0) σ18) fun v28 => bo (xrc SX 7 v28) fun a30 => bo (f_X7_mostWorks a30 v5 σ18) fun v32 => some (v32, σ18) else bo (xgr SX 11 6 (some a0) σ18) fun v34 => bo (xrc SX 7 v34) fun a36 => bo (f_X7_mostWorth a36 v5 σ18) fun v38 => some (v38, σ18) else some ((-1 : Int32), σ)
theorem t_X11_most {M : Mx} {l0 : Launch} (O : Ok M cX11_most yX11_most) (R0 : Rm M l0 6 169 0 0) (N : Ma M = false) (hn : Mn M = 5) (a0 : Nat) (x1 : Int32) (x2 : Int32) (x3 : Int32) (σ : Dt) (o : (Int32 × Dt)) (h : f_X11_most a0 x1 x2 x3 σ = some o) (K : Fin' M (some .int) 0 0 SX o.2 (some (vI o.1))) : G M 0 0 0 [(0, vA (some a0)), (1, vI x1), (2, vI x2), (3, vI x3)] [] SX σ := by
  unfold f_X11_most at h
  refine g_aload_n O dX11_most_0 rfl 0 rfl ?_
  obtain ⟨v1, e2, h⟩ := bo_some h
  refine g_getR O dX11_most_1 fl_X11_12 rfl e2 ?_
  refine g_iload_n O dX11_most_4 rfl 1 rfl ?_
  obtain ⟨a3, e4, h⟩ := bo_some h
  obtain ⟨v5, e6, h⟩ := bo_some h
  refine g_cV1 O R0 N dX11_most_5 vl_X11_105 vv_X8_valleyAt e4 [vI x1] rfl rfl rfl ⟨Nat.le_of_ble_eq_true rfl, Nat.le_of_ble_eq_true rfl⟩ (c_X8_valleyAt l0 a3 x1 σ v5 e6) ?_
  refine g_astore (lv' := [(4, vA v5), (0, vA (some a0)), (1, vI x1), (2, vI x2), (3, vI x3)]) O dX11_most_8 5 hn (by decide) rfl ?_
  refine g_aload O dX11_most_10 0 rfl ?_
  refine g_ifnull O dX11_most_12 rfl (fun c7 => ?_) (fun c7 => ?_)
  · replace h := (if_pos c7).symm.trans h
    refine g_iconst (v := (-1 : Int32)) O dX11_most_31 rfl ?_
    cases h
    exact g_ireturn O K dX11_most_32
  · replace h := (if_neg c7).symm.trans h
    refine g_iload_n O dX11_most_15 rfl 3 rfl ?_
    obtain ⟨v8, e9, h⟩ := bo_some h
    refine g_cS1 O R0 N dX11_most_16 vl_X11_138 w1027 [vI x2] rfl rfl rfl ⟨Nat.le_of_ble_eq_true rfl, Nat.le_of_ble_eq_true rfl⟩ (c_X11_isSpan l0 x2 σ v8 e9) ?_
    refine g_if_eq O dX11_most_19 rfl (fun c10 => ?_) (fun c10 => ?_)
    · replace h := (if_pos c10).symm.trans h
      refine g_iconst (v := (-1 : Int32)) O dX11_most_31 rfl ?_
      cases h
      exact g_ireturn O K dX11_most_32
    · replace h := (if_neg c10).symm.trans h
      refine g_iload_n O dX11_most_22 rfl 4 rfl ?_
      refine g_if_lt O dX11_most_23 rfl (fun c11 => ?_) (fun c11 => ?_)
      · replace h := (if_pos c11).symm.trans h
        refine g_iconst (v := (-1 : Int32)) O dX11_most_31 rfl ?_
        cases h
        exact g_ireturn O K dX11_most_32
      · replace h := (if_neg c11).symm.trans h
        refine g_iload_n O dX11_most_26 rfl 4 rfl ?_
        refine g_iconst (v := (2 : Int32)) O dX11_most_27 rfl ?_
        refine g_icmp_le O dX11_most_28 rfl (fun c12 => ?_) (fun c12 => ?_)
        · replace h := (if_pos c12).symm.trans h
          refine g_aload_n O dX11_most_33 rfl 1 rfl ?_
          obtain ⟨v13, e14, h⟩ := bo_some h
          refine g_getR O dX11_most_34 fl_X11_48 rfl e14 ?_
          refine g_aload O dX11_most_37 0 rfl ?_
          refine g_iload_n O dX11_most_39 rfl 3 rfl ?_
          obtain ⟨a15, e16, h⟩ := bo_some h
          obtain ⟨v17, σ18, e19, h⟩ := bd_some h
          refine g_cV0 O R0 N dX11_most_40 vl_X11_146 vv_X7_hear e16 [vA v5, vI x2] rfl rfl rfl ⟨Nat.le_of_ble_eq_true rfl, Nat.le_of_ble_eq_true rfl⟩ (c_X7_hear l0 a15 v5 x2 σ v17 σ18 e19) ?_
          refine g_iload_n O dX11_most_43 rfl 4 rfl ?_
          refine g_if_ne O dX11_most_44 rfl (fun c20 => ?_) (fun c20 => ?_)
          · replace h := (if_pos c20).symm.trans h
            refine g_aload_n O dX11_most_47 rfl 1 rfl ?_
            obtain ⟨v21, e22, h⟩ := bo_some h
            refine g_getR O dX11_most_48 fl_X11_48 rfl e22 ?_
            refine g_aload O dX11_most_51 0 rfl ?_
            obtain ⟨a23, e24, h⟩ := bo_some h
            obtain ⟨v25, e26, h⟩ := bo_some h
            refine g_cV1 O R0 N dX11_most_53 vl_X11_248 vv_X7_neverKept e24 [vA v5] rfl rfl rfl ⟨Nat.le_of_ble_eq_true rfl, Nat.le_of_ble_eq_true rfl⟩ (c_X7_neverKept l0 a23 v5 σ18 v25 e26) ?_
            cases h
            exact g_ireturn O K dX11_most_56
          · replace h := (if_neg c20).symm.trans h
            refine g_iload_n O dX11_most_57 rfl 4 rfl ?_
            refine g_iconst (v := (1 : Int32)) O dX11_most_58 rfl ?_
            refine g_icmp_ne O dX11_most_59 rfl (fun c27 => ?_) (fun c27 => ?_)
            · replace h := (if_pos c27).symm.trans h
              refine g_aload_n O dX11_most_62 rfl 1 rfl ?_
              obtain ⟨v28, e29, h⟩ := bo_some h
              refine g_getR O dX11_most_63 fl_X11_48 rfl e29 ?_
              refine g_aload O dX11_most_66 0 rfl ?_
              obtain ⟨a30, e31, h⟩ := bo_some h
              obtain ⟨v32, e33, h⟩ := bo_some h
              refine g_cV1 O R0 N dX11_most_68 vl_X11_252 vv_X7_mostWorks e31 [vA v5] rfl rfl rfl ⟨Nat.le_of_ble_eq_true rfl, Nat.le_of_ble_eq_true rfl⟩ (c_X7_mostWorks l0 a30 v5 σ18 v32 e33) ?_
              refine g_goto O dX11_most_71 rfl ?_
              cases h
              exact g_ireturn O K dX11_most_83
            · replace h := (if_neg c27).symm.trans h
              refine g_aload_n O dX11_most_74 rfl 1 rfl ?_
              obtain ⟨v34, e35, h⟩ := bo_some h
              refine g_getR O dX11_most_75 fl_X11_48 rfl e35 ?_
              refine g_aload O dX11_most_78 0 rfl ?_
              obtain ⟨a36, e37, h⟩ := bo_some h
              obtain ⟨v38, e39, h⟩ := bo_some h
              refine g_cV1 O R0 N dX11_most_80 vl_X11_255 vv_X7_mostWorth e37 [vA v5] rfl rfl rfl ⟨Nat.le_of_ble_eq_true rfl, Nat.le_of_ble_eq_true rfl⟩ (c_X7_mostWorth l0 a36 v5 σ18 v38 e39) ?_
              cases h
              exact g_ireturn O K dX11_most_83
        · replace h := (if_neg c12).symm.trans h
          refine g_iconst (v := (-1 : Int32)) O dX11_most_31 rfl ?_
          cases h
          exact g_ireturn O K dX11_most_32
theorem c_X11_most (l0 : Launch) (a0 : Nat) (x1 : Int32) (x2 : Int32) (x3 : Int32) (σ : Dt) (r : Int32) (σ' : Dt) (h : f_X11_most a0 x1 x2 x3 σ = some (r, σ')) : Ctr l0 yX11_most cX11_most 5 (some .int) false 6 169 0 0 [vA (some a0), vI x1, vI x2, vI x3] SX σ SX σ' (some (vI r)) := ctr_of (by decide) (Nat.le_of_ble_eq_true rfl) (fun M O F R0 N hn => t_X11_most O R0 N hn a0 x1 x2 x3 σ (r, σ') h F)
def P_X1_bestLot_36 (M : Mx) (a0 : Nat) (r1 : Option Nat) (x2 : Int32) (x3 : Int32) (σ : Dt) (s : (Int32 × Int32)) : Prop := G M 0 0 36 [(0, vA (some a0)), (1, vA r1), (2, vI x2), (3, vI x3), (4, vI s.1), (5, vI s.2)] [] SX σ
def E_X1_bestLot_36 (M : Mx) (a0 : Nat) (r1 : Option Nat) (x2 : Int32) (x3 : Int32) (σ : Dt) : Int32 → Prop := (fun w => G M 0 0 90 [(0, vA (some a0)), (3, vI x3), (4, vI w)] [] SX σ)
def f_X1_bestLot_84 (a0 : Nat) (r1 : Option Nat) (x2 : Int32) (x3 : Int32) (x4 : Int32) (x5 : Int32) (σ : Dt) : Option ((Int32 × Int32) ⊕ Int32) := some (.inl (x4, (x5 + (1 : Int32))))
theorem t_X1_bestLot_84 {M : Mx} {l0 : Launch} (O : Ok M cX1_bestLot yX1_bestLot) (R0 : Rm M l0 3 104 0 0) (N : Ma M = false) (hn : Mn M = 6)  (a0 : Nat) (r1 : Option Nat) (x2 : Int32) (x3 : Int32) (x4 : Int32) (x5 : Int32) (σ : Dt) (o : ((Int32 × Int32) ⊕ Int32)) (h : f_X1_bestLot_84 a0 r1 x2 x3 x4 x5 σ = some o) (K : kon (P_X1_bestLot_36 M a0 r1 x2 x3 σ) (E_X1_bestLot_36 M a0 r1 x2 x3 σ) o) : G M 0 0 84 [(0, vA (some a0)), (1, vA r1), (2, vI x2), (3, vI x3), (4, vI x4), (5, vI x5)] [] SX σ := by
  unfold f_X1_bestLot_84 at h
  refine g_iinc (v := (x5 + (1 : Int32))) (lv' := [(5, vI (x5 + (1 : Int32))), (0, vA (some a0)), (1, vA r1), (2, vI x2), (3, vI x3), (4, vI x4)]) O dX1_bestLot_84 6 hn (by decide) 5 rfl rfl rfl ?_
  refine g_goto O dX1_bestLot_87 rfl ?_
  refine g_sub [1, 2, 3, 4, 5, 0] (lv' := [(0, vA (some a0)), (1, vA r1), (2, vI x2), (3, vI x3), (4, vI x4), (5, vI (x5 + (1 : Int32)))]) rfl ?_
  cases h
  exact K
def f_X1_bestLot_L36 (a0 : Nat) (r1 : Option Nat) (x2 : Int32) (x3 : Int32) (x4 : Int32) (x5 : Int32) (σ : Dt) : Option ((Int32 × Int32) ⊕ Int32) := bo (xrc SX 9 r1) fun a1 => bo (f_X9_allWorks a1 σ) fun v3 => if v3 < x5 then some (.inr x4) else if (64 : Int32) ≤ x5 then some (.inr x4) else bo (xgr SX 1 3 (some a0) σ) fun v7 => bo (xai SX v7 x5 σ) fun v9 => if x2 < v9 then f_X1_bestLot_84 a0 r1 x2 x3 x4 x5 σ else bo (xgr SX 1 4 (some a0) σ) fun v12 => bo (xai SX v12 x5 σ) fun v14 => bo (xgr SX 1 4 (some a0) σ) fun v16 => bo (xai SX v16 x4 σ) fun v18 => if v14 ≤ v18 then f_X1_bestLot_84 a0 r1 x2 x3 x4 x5 σ else f_X1_bestLot_84 a0 r1 x2 x3 x5 x5 σ
theorem t_X1_bestLot_L36 {M : Mx} {l0 : Launch} (O : Ok M cX1_bestLot yX1_bestLot) (R0 : Rm M l0 3 104 0 0) (N : Ma M = false) (hn : Mn M = 6) (a0 : Nat) (r1 : Option Nat) (x2 : Int32) (x3 : Int32) (x4 : Int32) (x5 : Int32) (σ : Dt) (o : ((Int32 × Int32) ⊕ Int32)) (h : f_X1_bestLot_L36 a0 r1 x2 x3 x4 x5 σ = some o) (K : kon (P_X1_bestLot_36 M a0 r1 x2 x3 σ) (E_X1_bestLot_36 M a0 r1 x2 x3 σ) o) : G M 0 0 36 [(0, vA (some a0)), (1, vA r1), (2, vI x2), (3, vI x3), (4, vI x4), (5, vI x5)] [] SX σ := by
  unfold f_X1_bestLot_L36 at h
  refine g_iload O dX1_bestLot_36 5 rfl ?_
  refine g_aload_n O dX1_bestLot_38 rfl 1 rfl ?_
  obtain ⟨a1, e2, h⟩ := bo_some h
  obtain ⟨v3, e4, h⟩ := bo_some h
  refine g_cV1 O R0 N dX1_bestLot_39 vl_X1_52 vv_X9_allWorks e2 [] rfl rfl rfl ⟨Nat.le_of_ble_eq_true rfl, Nat.le_of_ble_eq_true rfl⟩ (c_X9_allWorks l0 a1 σ v3 e4) ?_
  refine g_icmp_gt O dX1_bestLot_42 rfl (fun c5 => ?_) (fun c5 => ?_)
  · replace h := (if_pos c5).symm.trans h
    refine g_sub [0, 3, 4] (lv' := [(0, vA (some a0)), (3, vI x3), (4, vI x4)]) rfl ?_
    cases h
    exact K
  · replace h := (if_neg c5).symm.trans h
    refine g_iload O dX1_bestLot_45 5 rfl ?_
    refine g_bipush (v := (64 : Int32)) O dX1_bestLot_47 rfl ?_
    refine g_icmp_ge O dX1_bestLot_49 rfl (fun c6 => ?_) (fun c6 => ?_)
    · replace h := (if_pos c6).symm.trans h
      refine g_sub [0, 3, 4] (lv' := [(0, vA (some a0)), (3, vI x3), (4, vI x4)]) rfl ?_
      cases h
      exact K
    · replace h := (if_neg c6).symm.trans h
      refine g_aload_n O dX1_bestLot_52 rfl 0 rfl ?_
      obtain ⟨v7, e8, h⟩ := bo_some h
      refine g_getR O dX1_bestLot_53 fl_X1_9 rfl e8 ?_
      refine g_iload O dX1_bestLot_56 5 rfl ?_
      obtain ⟨v9, e10, h⟩ := bo_some h
      refine g_iaload O dX1_bestLot_58 e10 ?_
      refine g_iload_n O dX1_bestLot_59 rfl 2 rfl ?_
      refine g_icmp_gt O dX1_bestLot_60 rfl (fun c11 => ?_) (fun c11 => ?_)
      · replace h := (if_pos c11).symm.trans h
        exact t_X1_bestLot_84 O R0 N hn a0 r1 x2 x3 x4 x5 σ o h K
      · replace h := (if_neg c11).symm.trans h
        refine g_aload_n O dX1_bestLot_63 rfl 0 rfl ?_
        obtain ⟨v12, e13, h⟩ := bo_some h
        refine g_getR O dX1_bestLot_64 fl_X1_15 rfl e13 ?_
        refine g_iload O dX1_bestLot_67 5 rfl ?_
        obtain ⟨v14, e15, h⟩ := bo_some h
        refine g_iaload O dX1_bestLot_69 e15 ?_
        refine g_aload_n O dX1_bestLot_70 rfl 0 rfl ?_
        obtain ⟨v16, e17, h⟩ := bo_some h
        refine g_getR O dX1_bestLot_71 fl_X1_15 rfl e17 ?_
        refine g_iload O dX1_bestLot_74 4 rfl ?_
        obtain ⟨v18, e19, h⟩ := bo_some h
        refine g_iaload O dX1_bestLot_76 e19 ?_
        refine g_icmp_le O dX1_bestLot_77 rfl (fun c20 => ?_) (fun c20 => ?_)
        · replace h := (if_pos c20).symm.trans h
          exact t_X1_bestLot_84 O R0 N hn a0 r1 x2 x3 x4 x5 σ o h K
        · replace h := (if_neg c20).symm.trans h
          refine g_iload O dX1_bestLot_80 5 rfl ?_
          refine g_istore (lv' := [(4, vI x5), (0, vA (some a0)), (1, vA r1), (2, vI x2), (3, vI x3), (5, vI x5)]) O dX1_bestLot_82 6 hn (by decide) rfl ?_
          refine g_sub [1, 2, 3, 4, 0, 5] (lv' := [(0, vA (some a0)), (1, vA r1), (2, vI x2), (3, vI x3), (4, vI x5), (5, vI x5)]) rfl ?_
          exact t_X1_bestLot_84 O R0 N hn a0 r1 x2 x3 x5 x5 σ o h K
def f_X1_bestLot_90 (a0 : Nat) (x3 : Int32) (x4 : Int32) (σ : Dt) : Option (Int32 × Dt) := if x3 = 0 then bo (xgr SX 1 4 (some a0) σ) fun v2 => bo (xai SX v2 x4 σ) fun v4 => some (v4, σ) else some (x4, σ)
theorem t_X1_bestLot_90 {M : Mx} {l0 : Launch} (O : Ok M cX1_bestLot yX1_bestLot) (R0 : Rm M l0 3 104 0 0) (N : Ma M = false) (hn : Mn M = 6)  (a0 : Nat) (x3 : Int32) (x4 : Int32) (σ : Dt) (o : (Int32 × Dt)) (h : f_X1_bestLot_90 a0 x3 x4 σ = some o) (K : Fin' M (some .int) 0 0 SX o.2 (some (vI o.1))) : G M 0 0 90 [(0, vA (some a0)), (3, vI x3), (4, vI x4)] [] SX σ := by
  unfold f_X1_bestLot_90 at h
  refine g_iload_n O dX1_bestLot_90 rfl 1 rfl ?_
  refine g_if_eq O dX1_bestLot_91 rfl (fun c1 => ?_) (fun c1 => ?_)
  · replace h := (if_pos c1).symm.trans h
    refine g_aload_n O dX1_bestLot_99 rfl 0 rfl ?_
    obtain ⟨v2, e3, h⟩ := bo_some h
    refine g_getR O dX1_bestLot_100 fl_X1_15 rfl e3 ?_
    refine g_iload O dX1_bestLot_103 2 rfl ?_
    obtain ⟨v4, e5, h⟩ := bo_some h
    refine g_iaload O dX1_bestLot_105 e5 ?_
    cases h
    exact g_ireturn O K dX1_bestLot_106
  · replace h := (if_neg c1).symm.trans h
    refine g_iload O dX1_bestLot_94 2 rfl ?_
    refine g_goto O dX1_bestLot_96 rfl ?_
    cases h
    exact g_ireturn O K dX1_bestLot_106
def f_X1_bestLot (a0 : Nat) (r1 : Option Nat) (x2 : Int32) (x3 : Int32) (σ : Dt) : Option (Int32 × Dt) := if r1 = none then some ((-1 : Int32), σ) else bo (xgr SX 9 8 r1 σ) fun v2 => bo (xgr SX 1 3 (some a0) σ) fun v4 => bd (f_X1_sumUp r1 v2 v4 σ) fun v6 σ7 => bo (xgr SX 9 9 r1 σ7) fun v9 => bo (xgr SX 1 4 (some a0) σ7) fun v11 => bd (f_X1_sumUp r1 v9 v11 σ7) fun v13 σ14 => bo (iter FU (fun s => f_X1_bestLot_L36 a0 r1 x2 x3 s.1 s.2 σ14) ((0 : Int32), (0 : Int32))) fun w16 => f_X1_bestLot_90 a0 x3 w16 σ14
theorem t_X1_bestLot {M : Mx} {l0 : Launch} (O : Ok M cX1_bestLot yX1_bestLot) (R0 : Rm M l0 3 104 0 0) (N : Ma M = false) (hn : Mn M = 6) (a0 : Nat) (r1 : Option Nat) (x2 : Int32) (x3 : Int32) (σ : Dt) (o : (Int32 × Dt)) (h : f_X1_bestLot a0 r1 x2 x3 σ = some o) (K : Fin' M (some .int) 0 0 SX o.2 (some (vI o.1))) : G M 0 0 0 [(0, vA (some a0)), (1, vA r1), (2, vI x2), (3, vI x3)] [] SX σ := by
  unfold f_X1_bestLot at h
  refine g_aload_n O dX1_bestLot_0 rfl 1 rfl ?_
  refine g_ifnonnull O dX1_bestLot_1 rfl (fun c1 => ?_) (fun c1 => ?_)
  · replace h := (if_neg c1).symm.trans h
    refine g_aload_n O dX1_bestLot_6 rfl 1 rfl ?_
    refine g_aload_n O dX1_bestLot_7 rfl 1 rfl ?_
    obtain ⟨v2, e3, h⟩ := bo_some h
    refine g_getR O dX1_bestLot_8 fl_X1_42 rfl e3 ?_
    refine g_aload_n O dX1_bestLot_11 rfl 0 rfl ?_
    obtain ⟨v4, e5, h⟩ := bo_some h
    refine g_getR O dX1_bestLot_12 fl_X1_9 rfl e5 ?_
    obtain ⟨v6, σ7, e8, h⟩ := bd_some h
    refine g_cS0 O R0 N dX1_bestLot_15 vl_X1_45 w1083 [vA r1, vA v2, vA v4] rfl rfl rfl ⟨Nat.le_of_ble_eq_true rfl, Nat.le_of_ble_eq_true rfl⟩ (c_X1_sumUp l0 r1 v2 v4 σ v6 σ7 e8) ?_
    refine g_aload_n O dX1_bestLot_18 rfl 1 rfl ?_
    refine g_aload_n O dX1_bestLot_19 rfl 1 rfl ?_
    obtain ⟨v9, e10, h⟩ := bo_some h
    refine g_getR O dX1_bestLot_20 fl_X1_49 rfl e10 ?_
    refine g_aload_n O dX1_bestLot_23 rfl 0 rfl ?_
    obtain ⟨v11, e12, h⟩ := bo_some h
    refine g_getR O dX1_bestLot_24 fl_X1_15 rfl e12 ?_
    obtain ⟨v13, σ14, e15, h⟩ := bd_some h
    refine g_cS0 O R0 N dX1_bestLot_27 vl_X1_45 w1083 [vA r1, vA v9, vA v11] rfl rfl rfl ⟨Nat.le_of_ble_eq_true rfl, Nat.le_of_ble_eq_true rfl⟩ (c_X1_sumUp l0 r1 v9 v11 σ7 v13 σ14 e15) ?_
    refine g_iconst (v := (0 : Int32)) O dX1_bestLot_30 rfl ?_
    refine g_istore (lv' := [(4, vI (0 : Int32)), (0, vA (some a0)), (1, vA r1), (2, vI x2), (3, vI x3)]) O dX1_bestLot_31 6 hn (by decide) rfl ?_
    refine g_iconst (v := (0 : Int32)) O dX1_bestLot_33 rfl ?_
    refine g_istore (lv' := [(5, vI (0 : Int32)), (4, vI (0 : Int32)), (0, vA (some a0)), (1, vA r1), (2, vI x2), (3, vI x3)]) O dX1_bestLot_34 6 hn (by decide) rfl ?_
    refine g_sub [2, 3, 4, 5, 1, 0] (lv' := [(0, vA (some a0)), (1, vA r1), (2, vI x2), (3, vI x3), (4, vI (0 : Int32)), (5, vI (0 : Int32))]) rfl ?_
    obtain ⟨w16, e17, h⟩ := bo_some h
    refine iter_G (P := P_X1_bestLot_36 M a0 r1 x2 x3 σ14) (E := E_X1_bestLot_36 M a0 r1 x2 x3 σ14) (fun s o hb hk => t_X1_bestLot_L36 O R0 N hn a0 r1 x2 x3 s.1 s.2 σ14 o hb hk) FU ((0 : Int32), (0 : Int32)) w16 e17 ?_
    show G M 0 0 90 [(0, vA (some a0)), (3, vI x3), (4, vI w16)] [] SX σ14
    exact t_X1_bestLot_90 O R0 N hn a0 x3 w16 σ14 o h K
  · replace h := (if_pos c1).symm.trans h
    refine g_iconst (v := (-1 : Int32)) O dX1_bestLot_4 rfl ?_
    cases h
    exact g_ireturn O K dX1_bestLot_5
theorem c_X1_bestLot (l0 : Launch) (a0 : Nat) (r1 : Option Nat) (x2 : Int32) (x3 : Int32) (σ : Dt) (r : Int32) (σ' : Dt) (h : f_X1_bestLot a0 r1 x2 x3 σ = some (r, σ')) : Ctr l0 yX1_bestLot cX1_bestLot 6 (some .int) false 3 104 0 0 [vA (some a0), vA r1, vI x2, vI x3] SX σ SX σ' (some (vI r)) := ctr_of (by decide) (Nat.le_of_ble_eq_true rfl) (fun M O F R0 N hn => t_X1_bestLot O R0 N hn a0 r1 x2 x3 σ (r, σ') h F)
def f_X11_lot (a0 : Nat) (x1 : Int32) (x2 : Int32) (x3 : Int32) (σ : Dt) : Option (Int32 × Dt) := bo (xgr SX 11 0 (some a0) σ) fun v1 => bo (xrc SX 8 v1) fun a3 => bo (f_X8_valleyAt a3 x1 σ) fun v5 => if v5 = none then some ((-1 : Int32), σ) else if x2 < 0 then some ((-1 : Int32), σ) else if x2 ≤ (99 : Int32) then bo (xgr SX 11 7 (some a0) σ) fun v10 => bo (xrc SX 1 v10) fun a12 => bd (f_X1_bestLot a12 v5 x2 x3 σ) fun v14 σ15 => some (v14, σ15) else some ((-1 : Int32), σ)
theorem t_X11_lot {M : Mx} {l0 : Launch} (O : Ok M cX11_lot yX11_lot) (R0 : Rm M l0 5 144 0 0) (N : Ma M = false) (hn : Mn M = 5) (a0 : Nat) (x1 : Int32) (x2 : Int32) (x3 : Int32) (σ : Dt) (o : (Int32 × Dt)) (h : f_X11_lot a0 x1 x2 x3 σ = some o) (K : Fin' M (some .int) 0 0 SX o.2 (some (vI o.1))) : G M 0 0 0 [(0, vA (some a0)), (1, vI x1), (2, vI x2), (3, vI x3)] [] SX σ := by
  unfold f_X11_lot at h
  refine g_aload_n O dX11_lot_0 rfl 0 rfl ?_
  obtain ⟨v1, e2, h⟩ := bo_some h
  refine g_getR O dX11_lot_1 fl_X11_12 rfl e2 ?_
  refine g_iload_n O dX11_lot_4 rfl 1 rfl ?_
  obtain ⟨a3, e4, h⟩ := bo_some h
  obtain ⟨v5, e6, h⟩ := bo_some h
  refine g_cV1 O R0 N dX11_lot_5 vl_X11_105 vv_X8_valleyAt e4 [vI x1] rfl rfl rfl ⟨Nat.le_of_ble_eq_true rfl, Nat.le_of_ble_eq_true rfl⟩ (c_X8_valleyAt l0 a3 x1 σ v5 e6) ?_
  refine g_astore (lv' := [(4, vA v5), (0, vA (some a0)), (1, vI x1), (2, vI x2), (3, vI x3)]) O dX11_lot_8 5 hn (by decide) rfl ?_
  refine g_aload O dX11_lot_10 0 rfl ?_
  refine g_ifnull O dX11_lot_12 rfl (fun c7 => ?_) (fun c7 => ?_)
  · replace h := (if_pos c7).symm.trans h
    refine g_iconst (v := (-1 : Int32)) O dX11_lot_25 rfl ?_
    cases h
    exact g_ireturn O K dX11_lot_26
  · replace h := (if_neg c7).symm.trans h
    refine g_iload_n O dX11_lot_15 rfl 3 rfl ?_
    refine g_if_lt O dX11_lot_16 rfl (fun c8 => ?_) (fun c8 => ?_)
    · replace h := (if_pos c8).symm.trans h
      refine g_iconst (v := (-1 : Int32)) O dX11_lot_25 rfl ?_
      cases h
      exact g_ireturn O K dX11_lot_26
    · replace h := (if_neg c8).symm.trans h
      refine g_iload_n O dX11_lot_19 rfl 3 rfl ?_
      refine g_bipush (v := (99 : Int32)) O dX11_lot_20 rfl ?_
      refine g_icmp_le O dX11_lot_22 rfl (fun c9 => ?_) (fun c9 => ?_)
      · replace h := (if_pos c9).symm.trans h
        refine g_aload_n O dX11_lot_27 rfl 1 rfl ?_
        obtain ⟨v10, e11, h⟩ := bo_some h
        refine g_getR O dX11_lot_28 fl_X11_55 rfl e11 ?_
        refine g_aload O dX11_lot_31 0 rfl ?_
        refine g_iload_n O dX11_lot_33 rfl 3 rfl ?_
        refine g_iload_n O dX11_lot_34 rfl 4 rfl ?_
        obtain ⟨a12, e13, h⟩ := bo_some h
        obtain ⟨v14, σ15, e16, h⟩ := bd_some h
        refine g_cV1 O R0 N dX11_lot_35 vl_X11_258 vv_X1_bestLot e13 [vA v5, vI x2, vI x3] rfl rfl rfl ⟨Nat.le_of_ble_eq_true rfl, Nat.le_of_ble_eq_true rfl⟩ (c_X1_bestLot l0 a12 v5 x2 x3 σ v14 σ15 e16) ?_
        cases h
        exact g_ireturn O K dX11_lot_38
      · replace h := (if_neg c9).symm.trans h
        refine g_iconst (v := (-1 : Int32)) O dX11_lot_25 rfl ?_
        cases h
        exact g_ireturn O K dX11_lot_26
theorem c_X11_lot (l0 : Launch) (a0 : Nat) (x1 : Int32) (x2 : Int32) (x3 : Int32) (σ : Dt) (r : Int32) (σ' : Dt) (h : f_X11_lot a0 x1 x2 x3 σ = some (r, σ')) : Ctr l0 yX11_lot cX11_lot 5 (some .int) false 5 144 0 0 [vA (some a0), vI x1, vI x2, vI x3] SX σ SX σ' (some (vI r)) := ctr_of (by decide) (Nat.le_of_ble_eq_true rfl) (fun M O F R0 N hn => t_X11_lot O R0 N hn a0 x1 x2 x3 σ (r, σ') h F)
def P_X1_leastDifference_31 (M : Mx) (a0 : Nat) (x2 : Int32) (σ : Dt) (s : (Int32 × Int32)) : Prop := G M 0 0 31 [(0, vA (some a0)), (2, vI x2), (3, vI s.1), (4, vI s.2)] [] SX σ
def E_X1_leastDifference_31 (M : Mx) (a0 : Nat) (x2 : Int32) (σ : Dt) : Int32 → Prop := (fun w => G M 0 0 63 [(3, vI w)] [] SX σ)
def f_X1_leastDifference_L31 (a0 : Nat) (x2 : Int32) (x3 : Int32) (x4 : Int32) (σ : Dt) : Option ((Int32 × Int32) ⊕ Int32) := if (64 : Int32) ≤ x4 then some (.inr x3) else bo (xgr SX 1 3 (some a0) σ) fun v2 => bo (xai SX v2 x4 σ) fun v4 => some (.inl ((mmin x3 (mabs (x2 - ((2 : Int32) * v4)))), (x4 + (1 : Int32))))
theorem t_X1_leastDifference_L31 {M : Mx} {l0 : Launch} (O : Ok M cX1_leastDifference yX1_leastDifference) (R0 : Rm M l0 3 104 0 0) (N : Ma M = false) (hn : Mn M = 5) (a0 : Nat) (x2 : Int32) (x3 : Int32) (x4 : Int32) (σ : Dt) (o : ((Int32 × Int32) ⊕ Int32)) (h : f_X1_leastDifference_L31 a0 x2 x3 x4 σ = some o) (K : kon (P_X1_leastDifference_31 M a0 x2 σ) (E_X1_leastDifference_31 M a0 x2 σ) o) : G M 0 0 31 [(0, vA (some a0)), (2, vI x2), (3, vI x3), (4, vI x4)] [] SX σ := by
  unfold f_X1_leastDifference_L31 at h
  refine g_iload O dX1_leastDifference_31 3 rfl ?_
  refine g_bipush (v := (64 : Int32)) O dX1_leastDifference_33 rfl ?_
  refine g_icmp_ge O dX1_leastDifference_35 rfl (fun c1 => ?_) (fun c1 => ?_)
  · replace h := (if_pos c1).symm.trans h
    refine g_sub [2] (lv' := [(3, vI x3)]) rfl ?_
    cases h
    exact K
  · replace h := (if_neg c1).symm.trans h
    refine g_iload_n O dX1_leastDifference_38 rfl 2 rfl ?_
    refine g_iload_n O dX1_leastDifference_39 rfl 1 rfl ?_
    refine g_iconst (v := (2 : Int32)) O dX1_leastDifference_40 rfl ?_
    refine g_aload_n O dX1_leastDifference_41 rfl 0 rfl ?_
    obtain ⟨v2, e3, h⟩ := bo_some h
    refine g_getR O dX1_leastDifference_42 fl_X1_9 rfl e3 ?_
    refine g_iload O dX1_leastDifference_45 3 rfl ?_
    obtain ⟨v4, e5, h⟩ := bo_some h
    refine g_iaload O dX1_leastDifference_47 e5 ?_
    refine g_imul O dX1_leastDifference_48 ?_
    refine g_isub O dX1_leastDifference_49 ?_
    refine g_mabs O R0 dX1_leastDifference_50 w1386 ⟨Nat.le_of_ble_eq_true rfl, Nat.le_of_ble_eq_true rfl⟩ ?_
    refine g_mmin O R0 dX1_leastDifference_53 w1389 ⟨Nat.le_of_ble_eq_true rfl, Nat.le_of_ble_eq_true rfl⟩ ?_
    refine g_istore_n (lv' := [(3, vI (mmin x3 (mabs (x2 - ((2 : Int32) * v4))))), (0, vA (some a0)), (2, vI x2), (4, vI x4)]) O dX1_leastDifference_56 rfl 5 hn (by decide) rfl ?_
    refine g_iinc (v := (x4 + (1 : Int32))) (lv' := [(4, vI (x4 + (1 : Int32))), (3, vI (mmin x3 (mabs (x2 - ((2 : Int32) * v4))))), (0, vA (some a0)), (2, vI x2)]) O dX1_leastDifference_57 5 hn (by decide) 3 rfl rfl rfl ?_
    refine g_goto O dX1_leastDifference_60 rfl ?_
    refine g_sub [2, 3, 1, 0] (lv' := [(0, vA (some a0)), (2, vI x2), (3, vI (mmin x3 (mabs (x2 - ((2 : Int32) * v4))))), (4, vI (x4 + (1 : Int32)))]) rfl ?_
    cases h
    exact K
def f_X1_leastDifference (a0 : Nat) (r1 : Option Nat) (σ : Dt) : Option (Int32 × Dt) := if r1 = none then some ((0 : Int32), σ) else bo (xgr SX 9 8 r1 σ) fun v2 => bo (xgr SX 1 3 (some a0) σ) fun v4 => bd (f_X1_sumUp r1 v2 v4 σ) fun v6 σ7 => bo (xgr SX 1 3 (some a0) σ7) fun v9 => bo (xai SX v9 (63 : Int32) σ7) fun v11 => bo (iter FU (fun s => f_X1_leastDifference_L31 a0 v11 s.1 s.2 σ7) (v11, (0 : Int32))) fun w13 => some (w13, σ7)
theorem t_X1_leastDifference {M : Mx} {l0 : Launch} (O : Ok M cX1_leastDifference yX1_leastDifference) (R0 : Rm M l0 3 104 0 0) (N : Ma M = false) (hn : Mn M = 5) (a0 : Nat) (r1 : Option Nat) (σ : Dt) (o : (Int32 × Dt)) (h : f_X1_leastDifference a0 r1 σ = some o) (K : Fin' M (some .int) 0 0 SX o.2 (some (vI o.1))) : G M 0 0 0 [(0, vA (some a0)), (1, vA r1)] [] SX σ := by
  unfold f_X1_leastDifference at h
  refine g_aload_n O dX1_leastDifference_0 rfl 1 rfl ?_
  refine g_ifnonnull O dX1_leastDifference_1 rfl (fun c1 => ?_) (fun c1 => ?_)
  · replace h := (if_neg c1).symm.trans h
    refine g_aload_n O dX1_leastDifference_6 rfl 1 rfl ?_
    refine g_aload_n O dX1_leastDifference_7 rfl 1 rfl ?_
    obtain ⟨v2, e3, h⟩ := bo_some h
    refine g_getR O dX1_leastDifference_8 fl_X1_42 rfl e3 ?_
    refine g_aload_n O dX1_leastDifference_11 rfl 0 rfl ?_
    obtain ⟨v4, e5, h⟩ := bo_some h
    refine g_getR O dX1_leastDifference_12 fl_X1_9 rfl e5 ?_
    obtain ⟨v6, σ7, e8, h⟩ := bd_some h
    refine g_cS0 O R0 N dX1_leastDifference_15 vl_X1_45 w1083 [vA r1, vA v2, vA v4] rfl rfl rfl ⟨Nat.le_of_ble_eq_true rfl, Nat.le_of_ble_eq_true rfl⟩ (c_X1_sumUp l0 r1 v2 v4 σ v6 σ7 e8) ?_
    refine g_aload_n O dX1_leastDifference_18 rfl 0 rfl ?_
    obtain ⟨v9, e10, h⟩ := bo_some h
    refine g_getR O dX1_leastDifference_19 fl_X1_9 rfl e10 ?_
    refine g_bipush (v := (63 : Int32)) O dX1_leastDifference_22 rfl ?_
    obtain ⟨v11, e12, h⟩ := bo_some h
    refine g_iaload O dX1_leastDifference_24 e12 ?_
    refine g_istore_n (lv' := [(2, vI v11), (0, vA (some a0)), (1, vA r1)]) O dX1_leastDifference_25 rfl 5 hn (by decide) rfl ?_
    refine g_iload_n O dX1_leastDifference_26 rfl 0 rfl ?_
    refine g_istore_n (lv' := [(3, vI v11), (2, vI v11), (0, vA (some a0)), (1, vA r1)]) O dX1_leastDifference_27 rfl 5 hn (by decide) rfl ?_
    refine g_iconst (v := (0 : Int32)) O dX1_leastDifference_28 rfl ?_
    refine g_istore (lv' := [(4, vI (0 : Int32)), (3, vI v11), (2, vI v11), (0, vA (some a0)), (1, vA r1)]) O dX1_leastDifference_29 5 hn (by decide) rfl ?_
    refine g_sub [3, 2, 1, 0] (lv' := [(0, vA (some a0)), (2, vI v11), (3, vI v11), (4, vI (0 : Int32))]) rfl ?_
    obtain ⟨w13, e14, h⟩ := bo_some h
    refine iter_G (P := P_X1_leastDifference_31 M a0 v11 σ7) (E := E_X1_leastDifference_31 M a0 v11 σ7) (fun s o hb hk => t_X1_leastDifference_L31 O R0 N hn a0 v11 s.1 s.2 σ7 o hb hk) FU (v11, (0 : Int32)) w13 e14 ?_
    show G M 0 0 63 [(3, vI w13)] [] SX σ7
    refine g_iload_n O dX1_leastDifference_63 rfl 0 rfl ?_
    cases h
    exact g_ireturn O K dX1_leastDifference_64
  · replace h := (if_pos c1).symm.trans h
    refine g_iconst (v := (0 : Int32)) O dX1_leastDifference_4 rfl ?_
    cases h
    exact g_ireturn O K dX1_leastDifference_5
theorem c_X1_leastDifference (l0 : Launch) (a0 : Nat) (r1 : Option Nat) (σ : Dt) (r : Int32) (σ' : Dt) (h : f_X1_leastDifference a0 r1 σ = some (r, σ')) : Ctr l0 yX1_leastDifference cX1_leastDifference 5 (some .int) false 3 104 0 0 [vA (some a0), vA r1] SX σ SX σ' (some (vI r)) := ctr_of (by decide) (Nat.le_of_ble_eq_true rfl) (fun M O F R0 N hn => t_X1_leastDifference O R0 N hn a0 r1 σ (r, σ') h F)
def P_X1_yearsForAll_25 (M : Mx) (a0 : Nat) (x2 : Int32) (σ : Dt) (s : Int32) : Prop := G M 0 0 25 [(0, vA (some a0)), (2, vI x2), (3, vI s)] [] SX σ
def E_X1_yearsForAll_25 (M : Mx) (a0 : Nat) (x2 : Int32) (σ : Dt) : (Int32 ⊕ Unit) → Prop := (el (fun w => G M 0 0 44 [(3, vI w)] [] SX σ) (fun w => G M 0 0 52 [] [] SX σ))
def f_X1_yearsForAll_L25 (a0 : Nat) (x2 : Int32) (x3 : Int32) (σ : Dt) : Option (Int32 ⊕ (Int32 ⊕ Unit)) := if (99 : Int32) < x3 then some (.inr (.inr ())) else bo (xgr SX 1 3 (some a0) σ) fun v2 => bo (xai SX v2 (63 : Int32) σ) fun v4 => if (x3 * x2) < v4 then some (.inl (x3 + (1 : Int32))) else some (.inr (.inl x3))
theorem t_X1_yearsForAll_L25 {M : Mx} {l0 : Launch} (O : Ok M cX1_yearsForAll yX1_yearsForAll) (R0 : Rm M l0 3 104 0 0) (N : Ma M = false) (hn : Mn M = 4) (a0 : Nat) (x2 : Int32) (x3 : Int32) (σ : Dt) (o : (Int32 ⊕ (Int32 ⊕ Unit))) (h : f_X1_yearsForAll_L25 a0 x2 x3 σ = some o) (K : kon (P_X1_yearsForAll_25 M a0 x2 σ) (E_X1_yearsForAll_25 M a0 x2 σ) o) : G M 0 0 25 [(0, vA (some a0)), (2, vI x2), (3, vI x3)] [] SX σ := by
  unfold f_X1_yearsForAll_L25 at h
  refine g_iload_n O dX1_yearsForAll_25 rfl 2 rfl ?_
  refine g_bipush (v := (99 : Int32)) O dX1_yearsForAll_26 rfl ?_
  refine g_icmp_gt O dX1_yearsForAll_28 rfl (fun c1 => ?_) (fun c1 => ?_)
  · replace h := (if_pos c1).symm.trans h
    refine g_sub [] (lv' := []) rfl ?_
    cases h
    exact K
  · replace h := (if_neg c1).symm.trans h
    refine g_iload_n O dX1_yearsForAll_31 rfl 2 rfl ?_
    refine g_iload_n O dX1_yearsForAll_32 rfl 1 rfl ?_
    refine g_imul O dX1_yearsForAll_33 ?_
    refine g_aload_n O dX1_yearsForAll_34 rfl 0 rfl ?_
    obtain ⟨v2, e3, h⟩ := bo_some h
    refine g_getR O dX1_yearsForAll_35 fl_X1_9 rfl e3 ?_
    refine g_bipush (v := (63 : Int32)) O dX1_yearsForAll_38 rfl ?_
    obtain ⟨v4, e5, h⟩ := bo_some h
    refine g_iaload O dX1_yearsForAll_40 e5 ?_
    refine g_icmp_lt O dX1_yearsForAll_41 rfl (fun c6 => ?_) (fun c6 => ?_)
    · replace h := (if_pos c6).symm.trans h
      refine g_iinc (v := (x3 + (1 : Int32))) (lv' := [(3, vI (x3 + (1 : Int32))), (0, vA (some a0)), (2, vI x2)]) O dX1_yearsForAll_46 4 hn (by decide) 2 rfl rfl rfl ?_
      refine g_goto O dX1_yearsForAll_49 rfl ?_
      refine g_sub [1, 2, 0] (lv' := [(0, vA (some a0)), (2, vI x2), (3, vI (x3 + (1 : Int32)))]) rfl ?_
      cases h
      exact K
    · replace h := (if_neg c6).symm.trans h
      refine g_sub [2] (lv' := [(3, vI x3)]) rfl ?_
      cases h
      exact K
def f_X1_yearsForAll (a0 : Nat) (r1 : Option Nat) (σ : Dt) : Option (Int32 × Dt) := if r1 = none then some ((-1 : Int32), σ) else bo (xgr SX 9 8 r1 σ) fun v2 => bo (xgr SX 1 3 (some a0) σ) fun v4 => bd (f_X1_sumUp r1 v2 v4 σ) fun v6 σ7 => bo (xrc SX 9 r1) fun a9 => bo (f_X9_totalStrength a9 σ7) fun v11 => bo (iter FU (fun s => f_X1_yearsForAll_L25 a0 v11 s σ7) (0 : Int32)) fun w13 => el (fun w15 => some (w15, σ7)) (fun w15 => some ((-1 : Int32), σ7)) w13
theorem t_X1_yearsForAll {M : Mx} {l0 : Launch} (O : Ok M cX1_yearsForAll yX1_yearsForAll) (R0 : Rm M l0 3 104 0 0) (N : Ma M = false) (hn : Mn M = 4) (a0 : Nat) (r1 : Option Nat) (σ : Dt) (o : (Int32 × Dt)) (h : f_X1_yearsForAll a0 r1 σ = some o) (K : Fin' M (some .int) 0 0 SX o.2 (some (vI o.1))) : G M 0 0 0 [(0, vA (some a0)), (1, vA r1)] [] SX σ := by
  unfold f_X1_yearsForAll at h
  refine g_aload_n O dX1_yearsForAll_0 rfl 1 rfl ?_
  refine g_ifnonnull O dX1_yearsForAll_1 rfl (fun c1 => ?_) (fun c1 => ?_)
  · replace h := (if_neg c1).symm.trans h
    refine g_aload_n O dX1_yearsForAll_6 rfl 1 rfl ?_
    refine g_aload_n O dX1_yearsForAll_7 rfl 1 rfl ?_
    obtain ⟨v2, e3, h⟩ := bo_some h
    refine g_getR O dX1_yearsForAll_8 fl_X1_42 rfl e3 ?_
    refine g_aload_n O dX1_yearsForAll_11 rfl 0 rfl ?_
    obtain ⟨v4, e5, h⟩ := bo_some h
    refine g_getR O dX1_yearsForAll_12 fl_X1_9 rfl e5 ?_
    obtain ⟨v6, σ7, e8, h⟩ := bd_some h
    refine g_cS0 O R0 N dX1_yearsForAll_15 vl_X1_45 w1083 [vA r1, vA v2, vA v4] rfl rfl rfl ⟨Nat.le_of_ble_eq_true rfl, Nat.le_of_ble_eq_true rfl⟩ (c_X1_sumUp l0 r1 v2 v4 σ v6 σ7 e8) ?_
    refine g_aload_n O dX1_yearsForAll_18 rfl 1 rfl ?_
    obtain ⟨a9, e10, h⟩ := bo_some h
    obtain ⟨v11, e12, h⟩ := bo_some h
    refine g_cV1 O R0 N dX1_yearsForAll_19 vl_X1_66 vv_X9_totalStrength e10 [] rfl rfl rfl ⟨Nat.le_of_ble_eq_true rfl, Nat.le_of_ble_eq_true rfl⟩ (c_X9_totalStrength l0 a9 σ7 v11 e12) ?_
    refine g_istore_n (lv' := [(2, vI v11), (0, vA (some a0)), (1, vA r1)]) O dX1_yearsForAll_22 rfl 4 hn (by decide) rfl ?_
    refine g_iconst (v := (0 : Int32)) O dX1_yearsForAll_23 rfl ?_
    refine g_istore_n (lv' := [(3, vI (0 : Int32)), (2, vI v11), (0, vA (some a0)), (1, vA r1)]) O dX1_yearsForAll_24 rfl 4 hn (by decide) rfl ?_
    refine g_sub [2, 1, 0] (lv' := [(0, vA (some a0)), (2, vI v11), (3, vI (0 : Int32))]) rfl ?_
    obtain ⟨w13, e14, h⟩ := bo_some h
    refine iter_G (P := P_X1_yearsForAll_25 M a0 v11 σ7) (E := E_X1_yearsForAll_25 M a0 v11 σ7) (fun s o hb hk => t_X1_yearsForAll_L25 O R0 N hn a0 v11 s σ7 o hb hk) FU (0 : Int32) w13 e14 ?_
    rcases w13 with w15 | w15
    · replace h := el_l h
      show G M 0 0 44 [(3, vI w15)] [] SX σ7
      refine g_iload_n O dX1_yearsForAll_44 rfl 0 rfl ?_
      cases h
      exact g_ireturn O K dX1_yearsForAll_45
    · replace h := el_r h
      show G M 0 0 52 [] [] SX σ7
      refine g_iconst (v := (-1 : Int32)) O dX1_yearsForAll_52 rfl ?_
      cases h
      exact g_ireturn O K dX1_yearsForAll_53
  · replace h := (if_pos c1).symm.trans h
    refine g_iconst (v := (-1 : Int32)) O dX1_yearsForAll_4 rfl ?_
    cases h
    exact g_ireturn O K dX1_yearsForAll_5
theorem c_X1_yearsForAll (l0 : Launch) (a0 : Nat) (r1 : Option Nat) (σ : Dt) (r : Int32) (σ' : Dt) (h : f_X1_yearsForAll a0 r1 σ = some (r, σ')) : Ctr l0 yX1_yearsForAll cX1_yearsForAll 4 (some .int) false 3 104 0 0 [vA (some a0), vA r1] SX σ SX σ' (some (vI r)) := ctr_of (by decide) (Nat.le_of_ble_eq_true rfl) (fun M O F R0 N hn => t_X1_yearsForAll O R0 N hn a0 r1 σ (r, σ') h F)
def f_X11_heaps (a0 : Nat) (x1 : Int32) (x2 : Int32) (σ : Dt) : Option (Int32 × Dt) := bo (xgr SX 11 0 (some a0) σ) fun v1 => bo (xrc SX 8 v1) fun a3 => bo (f_X8_valleyAt a3 x1 σ) fun v5 => if v5 = none then some ((-2 : Int32), σ) else if x2 = 0 then bo (xgr SX 11 7 (some a0) σ) fun v9 => bo (xrc SX 1 v9) fun a11 => bd (f_X1_yearsForAll a11 v5 σ) fun v13 σ14 => some (v13, σ14) else bo (xgr SX 11 7 (some a0) σ) fun v16 => bo (xrc SX 1 v16) fun a18 => bd (f_X1_leastDifference a18 v5 σ) fun v20 σ21 => some (v20, σ21)
theorem t_X11_heaps {M : Mx} {l0 : Launch} (O : Ok M cX11_heaps yX11_heaps) (R0 : Rm M l0 5 144 0 0) (N : Ma M = false) (hn : Mn M = 4) (a0 : Nat) (x1 : Int32) (x2 : Int32) (σ : Dt) (o : (Int32 × Dt)) (h : f_X11_heaps a0 x1 x2 σ = some o) (K : Fin' M (some .int) 0 0 SX o.2 (some (vI o.1))) : G M 0 0 0 [(0, vA (some a0)), (1, vI x1), (2, vI x2)] [] SX σ := by
  unfold f_X11_heaps at h
  refine g_aload_n O dX11_heaps_0 rfl 0 rfl ?_
  obtain ⟨v1, e2, h⟩ := bo_some h
  refine g_getR O dX11_heaps_1 fl_X11_12 rfl e2 ?_
  refine g_iload_n O dX11_heaps_4 rfl 1 rfl ?_
  obtain ⟨a3, e4, h⟩ := bo_some h
  obtain ⟨v5, e6, h⟩ := bo_some h
  refine g_cV1 O R0 N dX11_heaps_5 vl_X11_105 vv_X8_valleyAt e4 [vI x1] rfl rfl rfl ⟨Nat.le_of_ble_eq_true rfl, Nat.le_of_ble_eq_true rfl⟩ (c_X8_valleyAt l0 a3 x1 σ v5 e6) ?_
  refine g_astore_n (lv' := [(3, vA v5), (0, vA (some a0)), (1, vI x1), (2, vI x2)]) O dX11_heaps_8 rfl 4 hn (by decide) rfl ?_
  refine g_aload_n O dX11_heaps_9 rfl 0 rfl ?_
  refine g_ifnonnull O dX11_heaps_10 rfl (fun c7 => ?_) (fun c7 => ?_)
  · replace h := (if_neg c7).symm.trans h
    refine g_iload_n O dX11_heaps_16 rfl 3 rfl ?_
    refine g_if_eq O dX11_heaps_17 rfl (fun c8 => ?_) (fun c8 => ?_)
    · replace h := (if_pos c8).symm.trans h
      refine g_aload_n O dX11_heaps_31 rfl 1 rfl ?_
      obtain ⟨v9, e10, h⟩ := bo_some h
      refine g_getR O dX11_heaps_32 fl_X11_55 rfl e10 ?_
      refine g_aload_n O dX11_heaps_35 rfl 0 rfl ?_
      obtain ⟨a11, e12, h⟩ := bo_some h
      obtain ⟨v13, σ14, e15, h⟩ := bd_some h
      refine g_cV1 O R0 N dX11_heaps_36 vl_X11_265 vv_X1_yearsForAll e12 [vA v5] rfl rfl rfl ⟨Nat.le_of_ble_eq_true rfl, Nat.le_of_ble_eq_true rfl⟩ (c_X1_yearsForAll l0 a11 v5 σ v13 σ14 e15) ?_
      cases h
      exact g_ireturn O K dX11_heaps_39
    · replace h := (if_neg c8).symm.trans h
      refine g_aload_n O dX11_heaps_20 rfl 1 rfl ?_
      obtain ⟨v16, e17, h⟩ := bo_some h
      refine g_getR O dX11_heaps_21 fl_X11_55 rfl e17 ?_
      refine g_aload_n O dX11_heaps_24 rfl 0 rfl ?_
      obtain ⟨a18, e19, h⟩ := bo_some h
      obtain ⟨v20, σ21, e22, h⟩ := bd_some h
      refine g_cV1 O R0 N dX11_heaps_25 vl_X11_262 vv_X1_leastDifference e19 [vA v5] rfl rfl rfl ⟨Nat.le_of_ble_eq_true rfl, Nat.le_of_ble_eq_true rfl⟩ (c_X1_leastDifference l0 a18 v5 σ v20 σ21 e22) ?_
      refine g_goto O dX11_heaps_28 rfl ?_
      cases h
      exact g_ireturn O K dX11_heaps_39
  · replace h := (if_pos c7).symm.trans h
    refine g_bipush (v := (-2 : Int32)) O dX11_heaps_13 rfl ?_
    cases h
    exact g_ireturn O K dX11_heaps_15
theorem c_X11_heaps (l0 : Launch) (a0 : Nat) (x1 : Int32) (x2 : Int32) (σ : Dt) (r : Int32) (σ' : Dt) (h : f_X11_heaps a0 x1 x2 σ = some (r, σ')) : Ctr l0 yX11_heaps cX11_heaps 4 (some .int) false 5 144 0 0 [vA (some a0), vI x1, vI x2] SX σ SX σ' (some (vI r)) := ctr_of (by decide) (Nat.le_of_ble_eq_true rfl) (fun M O F R0 N hn => t_X11_heaps O R0 N hn a0 x1 x2 σ (r, σ') h F)
def P_X9_couplesLostWithout_34 (M : Mx) (a0 : Nat) (x1 : Int32) (x2 : Int32) (x4 : Int32) (σ : Dt) (s : (Int32 × Int32)) : Prop := G M 0 0 34 [(0, vA (some a0)), (1, vI x1), (2, vI x2), (3, vI s.1), (4, vI x4), (5, vI s.2)] [] SX σ
def E_X9_couplesLostWithout_34 (M : Mx) (a0 : Nat) (x1 : Int32) (x2 : Int32) (x4 : Int32) (σ : Dt) : Int32 → Prop := (fun w => G M 0 0 109 [(0, vA (some a0)), (1, vI x1), (2, vI x2), (3, vI w), (4, vI x4)] [] SX σ)
def f_X9_couplesLostWithout_103 (a0 : Nat) (x1 : Int32) (x2 : Int32) (x3 : Int32) (x4 : Int32) (x5 : Int32) (σ : Dt) : Option ((Int32 × Int32) ⊕ Int32) := some (.inl (x3, (x5 + (1 : Int32))))
theorem t_X9_couplesLostWithout_103 {M : Mx} {l0 : Launch} (O : Ok M cX9_couplesLostWithout yX9_couplesLostWithout) (R0 : Rm M l0 5 145 0 0) (N : Ma M = false) (hn : Mn M = 7)  (a0 : Nat) (x1 : Int32) (x2 : Int32) (x3 : Int32) (x4 : Int32) (x5 : Int32) (σ : Dt) (o : ((Int32 × Int32) ⊕ Int32)) (h : f_X9_couplesLostWithout_103 a0 x1 x2 x3 x4 x5 σ = some o) (K : kon (P_X9_couplesLostWithout_34 M a0 x1 x2 x4 σ) (E_X9_couplesLostWithout_34 M a0 x1 x2 x4 σ) o) : G M 0 0 103 [(0, vA (some a0)), (1, vI x1), (2, vI x2), (3, vI x3), (4, vI x4), (5, vI x5)] [] SX σ := by
  unfold f_X9_couplesLostWithout_103 at h
  refine g_iinc (v := (x5 + (1 : Int32))) (lv' := [(5, vI (x5 + (1 : Int32))), (0, vA (some a0)), (1, vI x1), (2, vI x2), (3, vI x3), (4, vI x4)]) O dX9_couplesLostWithout_103 7 hn (by decide) 5 rfl rfl rfl ?_
  refine g_goto O dX9_couplesLostWithout_106 rfl ?_
  refine g_sub [1, 2, 3, 4, 5, 0] (lv' := [(0, vA (some a0)), (1, vI x1), (2, vI x2), (3, vI x3), (4, vI x4), (5, vI (x5 + (1 : Int32)))]) rfl ?_
  cases h
  exact K
def f_X9_couplesLostWithout_81 (a0 : Nat) (x1 : Int32) (x2 : Int32) (x3 : Int32) (x4 : Int32) (x5 : Int32) (k0 : Int32) (σ : Dt) : Option ((Int32 × Int32) ⊕ Int32) := bo (xrc SX 9 (some a0)) fun a1 => bo (f_X9_canKeep a1 x4 x5 x2 σ) fun v3 => if v3 = 0 then f_X9_couplesLostWithout_103 a0 x1 x2 x3 x4 x5 σ else if k0 = 0 then f_X9_couplesLostWithout_103 a0 x1 x2 (x3 + (1 : Int32)) x4 x5 σ else f_X9_couplesLostWithout_103 a0 x1 x2 x3 x4 x5 σ
theorem t_X9_couplesLostWithout_81 {M : Mx} {l0 : Launch} (O : Ok M cX9_couplesLostWithout yX9_couplesLostWithout) (R0 : Rm M l0 5 145 0 0) (N : Ma M = false) (hn : Mn M = 7)  (a0 : Nat) (x1 : Int32) (x2 : Int32) (x3 : Int32) (x4 : Int32) (x5 : Int32) (k0 : Int32) (σ : Dt) (o : ((Int32 × Int32) ⊕ Int32)) (h : f_X9_couplesLostWithout_81 a0 x1 x2 x3 x4 x5 k0 σ = some o) (K : kon (P_X9_couplesLostWithout_34 M a0 x1 x2 x4 σ) (E_X9_couplesLostWithout_34 M a0 x1 x2 x4 σ) o) : G M 0 0 81 [(0, vA (some a0)), (1, vI x1), (2, vI x2), (3, vI x3), (4, vI x4), (5, vI x5)] [vI k0] SX σ := by
  unfold f_X9_couplesLostWithout_81 at h
  refine g_istore (lv' := [(6, vI k0), (0, vA (some a0)), (1, vI x1), (2, vI x2), (3, vI x3), (4, vI x4), (5, vI x5)]) O dX9_couplesLostWithout_81 7 hn (by decide) rfl ?_
  refine g_aload_n O dX9_couplesLostWithout_83 rfl 1 rfl ?_
  refine g_iload O dX9_couplesLostWithout_84 5 rfl ?_
  refine g_iload O dX9_couplesLostWithout_86 6 rfl ?_
  refine g_iload_n O dX9_couplesLostWithout_88 rfl 3 rfl ?_
  obtain ⟨a1, e2, h⟩ := bo_some h
  obtain ⟨v3, e4, h⟩ := bo_some h
  refine g_cV1 O R0 N dX9_couplesLostWithout_89 vl_X9_63 vv_X9_canKeep e2 [vI x4, vI x5, vI x2] rfl rfl rfl ⟨Nat.le_of_ble_eq_true rfl, Nat.le_of_ble_eq_true rfl⟩ (c_X9_canKeep l0 a1 x4 x5 x2 σ v3 e4) ?_
  refine g_if_eq O dX9_couplesLostWithout_92 rfl (fun c5 => ?_) (fun c5 => ?_)
  · replace h := (if_pos c5).symm.trans h
    refine g_sub [1, 2, 3, 4, 5, 6] (lv' := [(0, vA (some a0)), (1, vI x1), (2, vI x2), (3, vI x3), (4, vI x4), (5, vI x5)]) rfl ?_
    exact t_X9_couplesLostWithout_103 O R0 N hn a0 x1 x2 x3 x4 x5 σ o h K
  · replace h := (if_neg c5).symm.trans h
    refine g_iload O dX9_couplesLostWithout_95 0 rfl ?_
    refine g_if_ne O dX9_couplesLostWithout_97 rfl (fun c6 => ?_) (fun c6 => ?_)
    · replace h := (if_pos c6).symm.trans h
      refine g_iinc (v := (x3 + (1 : Int32))) (lv' := [(3, vI (x3 + (1 : Int32))), (6, vI k0), (0, vA (some a0)), (1, vI x1), (2, vI x2), (4, vI x4), (5, vI x5)]) O dX9_couplesLostWithout_100 7 hn (by decide) 4 rfl rfl rfl ?_
      refine g_sub [2, 3, 4, 0, 5, 6] (lv' := [(0, vA (some a0)), (1, vI x1), (2, vI x2), (3, vI (x3 + (1 : Int32))), (4, vI x4), (5, vI x5)]) rfl ?_
      exact t_X9_couplesLostWithout_103 O R0 N hn a0 x1 x2 (x3 + (1 : Int32)) x4 x5 σ o h K
    · replace h := (if_neg c6).symm.trans h
      refine g_sub [1, 2, 3, 4, 5, 6] (lv' := [(0, vA (some a0)), (1, vI x1), (2, vI x2), (3, vI x3), (4, vI x4), (5, vI x5)]) rfl ?_
      exact t_X9_couplesLostWithout_103 O R0 N hn a0 x1 x2 x3 x4 x5 σ o h K
def f_X9_couplesLostWithout_L34 (a0 : Nat) (x1 : Int32) (x2 : Int32) (x4 : Int32) (x3 : Int32) (x5 : Int32) (σ : Dt) : Option ((Int32 × Int32) ⊕ Int32) := bo (xgi SX 9 1 (some a0) σ) fun v1 => if v1 ≤ x5 then some (.inr x3) else if (6 : Int32) ≤ x5 then some (.inr x3) else bo (xgr SX 9 7 (some a0) σ) fun v5 => bo (xai SX v5 x4 σ) fun v7 => bo (xgr SX 9 4 (some a0) σ) fun v9 => bo (xai SX v9 x1 σ) fun v11 => bo (xgr SX 9 8 (some a0) σ) fun v13 => bo (xai SX v13 x5 σ) fun v15 => if (x2 * (v7 - v11)) < v15 then f_X9_couplesLostWithout_81 a0 x1 x2 x3 x4 x5 (0 : Int32) σ else f_X9_couplesLostWithout_81 a0 x1 x2 x3 x4 x5 (1 : Int32) σ
theorem t_X9_couplesLostWithout_L34 {M : Mx} {l0 : Launch} (O : Ok M cX9_couplesLostWithout yX9_couplesLostWithout) (R0 : Rm M l0 5 145 0 0) (N : Ma M = false) (hn : Mn M = 7) (a0 : Nat) (x1 : Int32) (x2 : Int32) (x4 : Int32) (x3 : Int32) (x5 : Int32) (σ : Dt) (o : ((Int32 × Int32) ⊕ Int32)) (h : f_X9_couplesLostWithout_L34 a0 x1 x2 x4 x3 x5 σ = some o) (K : kon (P_X9_couplesLostWithout_34 M a0 x1 x2 x4 σ) (E_X9_couplesLostWithout_34 M a0 x1 x2 x4 σ) o) : G M 0 0 34 [(0, vA (some a0)), (1, vI x1), (2, vI x2), (3, vI x3), (4, vI x4), (5, vI x5)] [] SX σ := by
  unfold f_X9_couplesLostWithout_L34 at h
  refine g_iload O dX9_couplesLostWithout_34 5 rfl ?_
  refine g_aload_n O dX9_couplesLostWithout_36 rfl 0 rfl ?_
  obtain ⟨v1, e2, h⟩ := bo_some h
  refine g_getI O dX9_couplesLostWithout_37 fl_X9_37 rfl e2 ?_
  refine g_icmp_ge O dX9_couplesLostWithout_40 rfl (fun c3 => ?_) (fun c3 => ?_)
  · replace h := (if_pos c3).symm.trans h
    refine g_sub [0, 1, 2, 3, 4] (lv' := [(0, vA (some a0)), (1, vI x1), (2, vI x2), (3, vI x3), (4, vI x4)]) rfl ?_
    cases h
    exact K
  · replace h := (if_neg c3).symm.trans h
    refine g_iload O dX9_couplesLostWithout_43 5 rfl ?_
    refine g_bipush (v := (6 : Int32)) O dX9_couplesLostWithout_45 rfl ?_
    refine g_icmp_ge O dX9_couplesLostWithout_47 rfl (fun c4 => ?_) (fun c4 => ?_)
    · replace h := (if_pos c4).symm.trans h
      refine g_sub [0, 1, 2, 3, 4] (lv' := [(0, vA (some a0)), (1, vI x1), (2, vI x2), (3, vI x3), (4, vI x4)]) rfl ?_
      cases h
      exact K
    · replace h := (if_neg c4).symm.trans h
      refine g_iload_n O dX9_couplesLostWithout_50 rfl 2 rfl ?_
      refine g_aload_n O dX9_couplesLostWithout_51 rfl 0 rfl ?_
      obtain ⟨v5, e6, h⟩ := bo_some h
      refine g_getR O dX9_couplesLostWithout_52 fl_X9_24 rfl e6 ?_
      refine g_iload O dX9_couplesLostWithout_55 4 rfl ?_
      obtain ⟨v7, e8, h⟩ := bo_some h
      refine g_iaload O dX9_couplesLostWithout_57 e8 ?_
      refine g_aload_n O dX9_couplesLostWithout_58 rfl 0 rfl ?_
      obtain ⟨v9, e10, h⟩ := bo_some h
      refine g_getR O dX9_couplesLostWithout_59 fl_X9_15 rfl e10 ?_
      refine g_iload_n O dX9_couplesLostWithout_62 rfl 1 rfl ?_
      obtain ⟨v11, e12, h⟩ := bo_some h
      refine g_iaload O dX9_couplesLostWithout_63 e12 ?_
      refine g_isub O dX9_couplesLostWithout_64 ?_
      refine g_imul O dX9_couplesLostWithout_65 ?_
      refine g_aload_n O dX9_couplesLostWithout_66 rfl 0 rfl ?_
      obtain ⟨v13, e14, h⟩ := bo_some h
      refine g_getR O dX9_couplesLostWithout_67 fl_X9_27 rfl e14 ?_
      refine g_iload O dX9_couplesLostWithout_70 5 rfl ?_
      obtain ⟨v15, e16, h⟩ := bo_some h
      refine g_iaload O dX9_couplesLostWithout_72 e16 ?_
      refine g_icmp_lt O dX9_couplesLostWithout_73 rfl (fun c17 => ?_) (fun c17 => ?_)
      · replace h := (if_pos c17).symm.trans h
        refine g_iconst (v := (0 : Int32)) O dX9_couplesLostWithout_80 rfl ?_
        exact t_X9_couplesLostWithout_81 O R0 N hn a0 x1 x2 x3 x4 x5 (0 : Int32) σ o h K
      · replace h := (if_neg c17).symm.trans h
        refine g_iconst (v := (1 : Int32)) O dX9_couplesLostWithout_76 rfl ?_
        refine g_goto O dX9_couplesLostWithout_77 rfl ?_
        exact t_X9_couplesLostWithout_81 O R0 N hn a0 x1 x2 x3 x4 x5 (1 : Int32) σ o h K
def P_X9_couplesLostWithout_5 (M : Mx) (a0 : Nat) (x1 : Int32) (x2 : Int32) (σ : Dt) (s : (Int32 × Int32)) : Prop := G M 0 0 5 [(0, vA (some a0)), (1, vI x1), (2, vI x2), (3, vI s.1), (4, vI s.2)] [] SX σ
def E_X9_couplesLostWithout_5 (M : Mx) (a0 : Nat) (x1 : Int32) (x2 : Int32) (σ : Dt) : Int32 → Prop := (fun w => G M 0 0 115 [(3, vI w)] [] SX σ)
def f_X9_couplesLostWithout_109 (a0 : Nat) (x1 : Int32) (x2 : Int32) (x3 : Int32) (x4 : Int32) (σ : Dt) : Option ((Int32 × Int32) ⊕ Int32) := some (.inl (x3, (x4 + (1 : Int32))))
theorem t_X9_couplesLostWithout_109 {M : Mx} {l0 : Launch} (O : Ok M cX9_couplesLostWithout yX9_couplesLostWithout) (R0 : Rm M l0 5 145 0 0) (N : Ma M = false) (hn : Mn M = 7)  (a0 : Nat) (x1 : Int32) (x2 : Int32) (x3 : Int32) (x4 : Int32) (σ : Dt) (o : ((Int32 × Int32) ⊕ Int32)) (h : f_X9_couplesLostWithout_109 a0 x1 x2 x3 x4 σ = some o) (K : kon (P_X9_couplesLostWithout_5 M a0 x1 x2 σ) (E_X9_couplesLostWithout_5 M a0 x1 x2 σ) o) : G M 0 0 109 [(0, vA (some a0)), (1, vI x1), (2, vI x2), (3, vI x3), (4, vI x4)] [] SX σ := by
  unfold f_X9_couplesLostWithout_109 at h
  refine g_iinc (v := (x4 + (1 : Int32))) (lv' := [(4, vI (x4 + (1 : Int32))), (0, vA (some a0)), (1, vI x1), (2, vI x2), (3, vI x3)]) O dX9_couplesLostWithout_109 7 hn (by decide) 4 rfl rfl rfl ?_
  refine g_goto O dX9_couplesLostWithout_112 rfl ?_
  refine g_sub [1, 2, 3, 4, 0] (lv' := [(0, vA (some a0)), (1, vI x1), (2, vI x2), (3, vI x3), (4, vI (x4 + (1 : Int32)))]) rfl ?_
  cases h
  exact K
def f_X9_couplesLostWithout_L5 (a0 : Nat) (x1 : Int32) (x2 : Int32) (x3 : Int32) (x4 : Int32) (σ : Dt) : Option ((Int32 × Int32) ⊕ Int32) := bo (xgi SX 9 0 (some a0) σ) fun v1 => if v1 ≤ x4 then some (.inr x3) else if (10 : Int32) ≤ x4 then some (.inr x3) else bo (xrc SX 9 (some a0)) fun a5 => bo (f_X9_isGrandparent a5 x1 x4 σ) fun v7 => if v7 = 0 then f_X9_couplesLostWithout_109 a0 x1 x2 x3 x4 σ else bo (iter FU (fun s => f_X9_couplesLostWithout_L34 a0 x1 x2 x4 s.1 s.2 σ) (x3, (0 : Int32))) fun w10 => f_X9_couplesLostWithout_109 a0 x1 x2 w10 x4 σ
theorem t_X9_couplesLostWithout_L5 {M : Mx} {l0 : Launch} (O : Ok M cX9_couplesLostWithout yX9_couplesLostWithout) (R0 : Rm M l0 5 145 0 0) (N : Ma M = false) (hn : Mn M = 7) (a0 : Nat) (x1 : Int32) (x2 : Int32) (x3 : Int32) (x4 : Int32) (σ : Dt) (o : ((Int32 × Int32) ⊕ Int32)) (h : f_X9_couplesLostWithout_L5 a0 x1 x2 x3 x4 σ = some o) (K : kon (P_X9_couplesLostWithout_5 M a0 x1 x2 σ) (E_X9_couplesLostWithout_5 M a0 x1 x2 σ) o) : G M 0 0 5 [(0, vA (some a0)), (1, vI x1), (2, vI x2), (3, vI x3), (4, vI x4)] [] SX σ := by
  unfold f_X9_couplesLostWithout_L5 at h
  refine g_iload O dX9_couplesLostWithout_5 4 rfl ?_
  refine g_aload_n O dX9_couplesLostWithout_7 rfl 0 rfl ?_
  obtain ⟨v1, e2, h⟩ := bo_some h
  refine g_getI O dX9_couplesLostWithout_8 fl_X9_33 rfl e2 ?_
  refine g_icmp_ge O dX9_couplesLostWithout_11 rfl (fun c3 => ?_) (fun c3 => ?_)
  · replace h := (if_pos c3).symm.trans h
    refine g_sub [3] (lv' := [(3, vI x3)]) rfl ?_
    cases h
    exact K
  · replace h := (if_neg c3).symm.trans h
    refine g_iload O dX9_couplesLostWithout_14 4 rfl ?_
    refine g_bipush (v := (10 : Int32)) O dX9_couplesLostWithout_16 rfl ?_
    refine g_icmp_ge O dX9_couplesLostWithout_18 rfl (fun c4 => ?_) (fun c4 => ?_)
    · replace h := (if_pos c4).symm.trans h
      refine g_sub [3] (lv' := [(3, vI x3)]) rfl ?_
      cases h
      exact K
    · replace h := (if_neg c4).symm.trans h
      refine g_aload_n O dX9_couplesLostWithout_21 rfl 0 rfl ?_
      refine g_iload_n O dX9_couplesLostWithout_22 rfl 1 rfl ?_
      refine g_iload O dX9_couplesLostWithout_23 4 rfl ?_
      obtain ⟨a5, e6, h⟩ := bo_some h
      obtain ⟨v7, e8, h⟩ := bo_some h
      refine g_cV1 O R0 N dX9_couplesLostWithout_25 vl_X9_59 vv_X9_isGrandparent e6 [vI x1, vI x4] rfl rfl rfl ⟨Nat.le_of_ble_eq_true rfl, Nat.le_of_ble_eq_true rfl⟩ (c_X9_isGrandparent l0 a5 x1 x4 σ v7 e8) ?_
      refine g_if_eq O dX9_couplesLostWithout_28 rfl (fun c9 => ?_) (fun c9 => ?_)
      · replace h := (if_pos c9).symm.trans h
        exact t_X9_couplesLostWithout_109 O R0 N hn a0 x1 x2 x3 x4 σ o h K
      · replace h := (if_neg c9).symm.trans h
        refine g_iconst (v := (0 : Int32)) O dX9_couplesLostWithout_31 rfl ?_
        refine g_istore (lv' := [(5, vI (0 : Int32)), (0, vA (some a0)), (1, vI x1), (2, vI x2), (3, vI x3), (4, vI x4)]) O dX9_couplesLostWithout_32 7 hn (by decide) rfl ?_
        refine g_sub [1, 2, 3, 4, 5, 0] (lv' := [(0, vA (some a0)), (1, vI x1), (2, vI x2), (3, vI x3), (4, vI x4), (5, vI (0 : Int32))]) rfl ?_
        obtain ⟨w10, e11, h⟩ := bo_some h
        refine iter_G (P := P_X9_couplesLostWithout_34 M a0 x1 x2 x4 σ) (E := E_X9_couplesLostWithout_34 M a0 x1 x2 x4 σ) (fun s o hb hk => t_X9_couplesLostWithout_L34 O R0 N hn a0 x1 x2 x4 s.1 s.2 σ o hb hk) FU (x3, (0 : Int32)) w10 e11 ?_
        show G M 0 0 109 [(0, vA (some a0)), (1, vI x1), (2, vI x2), (3, vI w10), (4, vI x4)] [] SX σ
        exact t_X9_couplesLostWithout_109 O R0 N hn a0 x1 x2 w10 x4 σ o h K
def f_X9_couplesLostWithout (a0 : Nat) (x1 : Int32) (x2 : Int32) (σ : Dt) : Option Int32 := bo (iter FU (fun s => f_X9_couplesLostWithout_L5 a0 x1 x2 s.1 s.2 σ) ((0 : Int32), (0 : Int32))) fun w1 => some w1
theorem t_X9_couplesLostWithout {M : Mx} {l0 : Launch} (O : Ok M cX9_couplesLostWithout yX9_couplesLostWithout) (R0 : Rm M l0 5 145 0 0) (N : Ma M = false) (hn : Mn M = 7) (a0 : Nat) (x1 : Int32) (x2 : Int32) (σ : Dt) (o : Int32) (h : f_X9_couplesLostWithout a0 x1 x2 σ = some o) (K : Fin' M (some .int) 0 0 SX σ (some (vI o))) : G M 0 0 0 [(0, vA (some a0)), (1, vI x1), (2, vI x2)] [] SX σ := by
  unfold f_X9_couplesLostWithout at h
  refine g_iconst (v := (0 : Int32)) O dX9_couplesLostWithout_0 rfl ?_
  refine g_istore_n (lv' := [(3, vI (0 : Int32)), (0, vA (some a0)), (1, vI x1), (2, vI x2)]) O dX9_couplesLostWithout_1 rfl 7 hn (by decide) rfl ?_
  refine g_iconst (v := (0 : Int32)) O dX9_couplesLostWithout_2 rfl ?_
  refine g_istore (lv' := [(4, vI (0 : Int32)), (3, vI (0 : Int32)), (0, vA (some a0)), (1, vI x1), (2, vI x2)]) O dX9_couplesLostWithout_3 7 hn (by decide) rfl ?_
  refine g_sub [2, 3, 4, 1, 0] (lv' := [(0, vA (some a0)), (1, vI x1), (2, vI x2), (3, vI (0 : Int32)), (4, vI (0 : Int32))]) rfl ?_
  obtain ⟨w1, e2, h⟩ := bo_some h
  refine iter_G (P := P_X9_couplesLostWithout_5 M a0 x1 x2 σ) (E := E_X9_couplesLostWithout_5 M a0 x1 x2 σ) (fun s o hb hk => t_X9_couplesLostWithout_L5 O R0 N hn a0 x1 x2 s.1 s.2 σ o hb hk) FU ((0 : Int32), (0 : Int32)) w1 e2 ?_
  show G M 0 0 115 [(3, vI w1)] [] SX σ
  refine g_iload_n O dX9_couplesLostWithout_115 rfl 0 rfl ?_
  cases h
  exact g_ireturn O K dX9_couplesLostWithout_116
theorem c_X9_couplesLostWithout (l0 : Launch) (a0 : Nat) (x1 : Int32) (x2 : Int32) (σ : Dt) (r : Int32) (h : f_X9_couplesLostWithout a0 x1 x2 σ = some r) : Ctr l0 yX9_couplesLostWithout cX9_couplesLostWithout 7 (some .int) false 5 145 0 0 [vA (some a0), vI x1, vI x2] SX σ SX σ (some (vI r)) := ctr_of (by decide) (Nat.le_of_ble_eq_true rfl) (fun M O F R0 N hn => t_X9_couplesLostWithout O R0 N hn a0 x1 x2 σ r h F)
def f_X11_loss (a0 : Nat) (x1 : Int32) (x2 : Int32) (x3 : Int32) (σ : Dt) : Option Int32 := bo (xgr SX 11 0 (some a0) σ) fun v1 => bo (xrc SX 8 v1) fun a3 => bo (f_X8_valleyAt a3 x1 σ) fun v5 => if v5 = none then some (-1 : Int32) else bo (xrc SX 9 v5) fun a8 => bo (f_X9_hasFolk a8 x2 σ) fun v10 => if v10 = 0 then some (-1 : Int32) else bo (f_X11_isSpan x3 σ) fun v13 => if v13 = 0 then some (-1 : Int32) else bo (xrc SX 9 v5) fun a16 => bo (f_X9_couplesLostWithout a16 x2 x3 σ) fun v18 => some v18
theorem t_X11_loss {M : Mx} {l0 : Launch} (O : Ok M cX11_loss yX11_loss) (R0 : Rm M l0 6 171 0 0) (N : Ma M = false) (hn : Mn M = 5) (a0 : Nat) (x1 : Int32) (x2 : Int32) (x3 : Int32) (σ : Dt) (o : Int32) (h : f_X11_loss a0 x1 x2 x3 σ = some o) (K : Fin' M (some .int) 0 0 SX σ (some (vI o))) : G M 0 0 0 [(0, vA (some a0)), (1, vI x1), (2, vI x2), (3, vI x3)] [] SX σ := by
  unfold f_X11_loss at h
  refine g_aload_n O dX11_loss_0 rfl 0 rfl ?_
  obtain ⟨v1, e2, h⟩ := bo_some h
  refine g_getR O dX11_loss_1 fl_X11_12 rfl e2 ?_
  refine g_iload_n O dX11_loss_4 rfl 1 rfl ?_
  obtain ⟨a3, e4, h⟩ := bo_some h
  obtain ⟨v5, e6, h⟩ := bo_some h
  refine g_cV1 O R0 N dX11_loss_5 vl_X11_105 vv_X8_valleyAt e4 [vI x1] rfl rfl rfl ⟨Nat.le_of_ble_eq_true rfl, Nat.le_of_ble_eq_true rfl⟩ (c_X8_valleyAt l0 a3 x1 σ v5 e6) ?_
  refine g_astore (lv' := [(4, vA v5), (0, vA (some a0)), (1, vI x1), (2, vI x2), (3, vI x3)]) O dX11_loss_8 5 hn (by decide) rfl ?_
  refine g_aload O dX11_loss_10 0 rfl ?_
  refine g_ifnull O dX11_loss_12 rfl (fun c7 => ?_) (fun c7 => ?_)
  · replace h := (if_pos c7).symm.trans h
    refine g_iconst (v := (-1 : Int32)) O dX11_loss_31 rfl ?_
    cases h
    exact g_ireturn O K dX11_loss_32
  · replace h := (if_neg c7).symm.trans h
    refine g_aload O dX11_loss_15 0 rfl ?_
    refine g_iload_n O dX11_loss_17 rfl 3 rfl ?_
    obtain ⟨a8, e9, h⟩ := bo_some h
    obtain ⟨v10, e11, h⟩ := bo_some h
    refine g_cV1 O R0 N dX11_loss_18 vl_X11_198 vv_X9_hasFolk e9 [vI x2] rfl rfl rfl ⟨Nat.le_of_ble_eq_true rfl, Nat.le_of_ble_eq_true rfl⟩ (c_X9_hasFolk l0 a8 x2 σ v10 e11) ?_
    refine g_if_eq O dX11_loss_21 rfl (fun c12 => ?_) (fun c12 => ?_)
    · replace h := (if_pos c12).symm.trans h
      refine g_iconst (v := (-1 : Int32)) O dX11_loss_31 rfl ?_
      cases h
      exact g_ireturn O K dX11_loss_32
    · replace h := (if_neg c12).symm.trans h
      refine g_iload_n O dX11_loss_24 rfl 4 rfl ?_
      obtain ⟨v13, e14, h⟩ := bo_some h
      refine g_cS1 O R0 N dX11_loss_25 vl_X11_138 w1027 [vI x3] rfl rfl rfl ⟨Nat.le_of_ble_eq_true rfl, Nat.le_of_ble_eq_true rfl⟩ (c_X11_isSpan l0 x3 σ v13 e14) ?_
      refine g_if_ne O dX11_loss_28 rfl (fun c15 => ?_) (fun c15 => ?_)
      · replace h := (if_pos c15).symm.trans h
        refine g_iconst (v := (-1 : Int32)) O dX11_loss_31 rfl ?_
        cases h
        exact g_ireturn O K dX11_loss_32
      · replace h := (if_neg c15).symm.trans h
        refine g_aload O dX11_loss_33 0 rfl ?_
        refine g_iload_n O dX11_loss_35 rfl 3 rfl ?_
        refine g_iload_n O dX11_loss_36 rfl 4 rfl ?_
        obtain ⟨a16, e17, h⟩ := bo_some h
        obtain ⟨v18, e19, h⟩ := bo_some h
        refine g_cV1 O R0 N dX11_loss_37 vl_X11_268 vv_X9_couplesLostWithout e17 [vI x2, vI x3] rfl rfl rfl ⟨Nat.le_of_ble_eq_true rfl, Nat.le_of_ble_eq_true rfl⟩ (c_X9_couplesLostWithout l0 a16 x2 x3 σ v18 e19) ?_
        cases h
        exact g_ireturn O K dX11_loss_40
theorem c_X11_loss (l0 : Launch) (a0 : Nat) (x1 : Int32) (x2 : Int32) (x3 : Int32) (σ : Dt) (r : Int32) (h : f_X11_loss a0 x1 x2 x3 σ = some r) : Ctr l0 yX11_loss cX11_loss 5 (some .int) false 6 171 0 0 [vA (some a0), vI x1, vI x2, vI x3] SX σ SX σ (some (vI r)) := ctr_of (by decide) (Nat.le_of_ble_eq_true rfl) (fun M O F R0 N hn => t_X11_loss O R0 N hn a0 x1 x2 x3 σ r h F)
def f_X11_wedding_98  (σ : Dt) : Option (Int32 × Dt) := some ((0 : Int32), σ)
theorem t_X11_wedding_98 {M : Mx} {l0 : Launch} (O : Ok M cX11_wedding yX11_wedding) (R0 : Rm M l0 5 144 0 0) (N : Ma M = false) (hn : Mn M = 6)   (σ : Dt) (o : (Int32 × Dt)) (h : f_X11_wedding_98 σ = some o) (K : Fin' M (some .int) 0 0 SX o.2 (some (vI o.1))) : G M 0 0 98 [] [] SX σ := by
  unfold f_X11_wedding_98 at h
  refine g_iconst (v := (0 : Int32)) O dX11_wedding_98 rfl ?_
  cases h
  exact g_ireturn O K dX11_wedding_99
def f_X11_wedding_69 (a0 : Nat) (x2 : Int32) (x3 : Int32) (r4 : Option Nat) (k0 : Int32) (σ : Dt) : Option (Int32 × Dt) := if k0 = 0 then f_X11_wedding_98 σ else bo (xgr SX 11 8 (some a0) σ) fun v2 => bo (xrc SX 3 v2) fun a4 => bd (f_X3_nearness a4 r4 x2 x3 σ) fun v6 σ7 => if 0 ≤ (lg_cmp v6 (137438953472 : Int64)) then f_X11_wedding_98 σ7 else some ((1 : Int32), σ7)
theorem t_X11_wedding_69 {M : Mx} {l0 : Launch} (O : Ok M cX11_wedding yX11_wedding) (R0 : Rm M l0 5 144 0 0) (N : Ma M = false) (hn : Mn M = 6)  (a0 : Nat) (x2 : Int32) (x3 : Int32) (r4 : Option Nat) (k0 : Int32) (σ : Dt) (o : (Int32 × Dt)) (h : f_X11_wedding_69 a0 x2 x3 r4 k0 σ = some o) (K : Fin' M (some .int) 0 0 SX o.2 (some (vI o.1))) : G M 0 0 69 [(0, vA (some a0)), (2, vI x2), (3, vI x3), (4, vA r4)] [vI k0] SX σ := by
  unfold f_X11_wedding_69 at h
  refine g_istore (lv' := [(5, vI k0), (0, vA (some a0)), (2, vI x2), (3, vI x3), (4, vA r4)]) O dX11_wedding_69 6 hn (by decide) rfl ?_
  refine g_iload O dX11_wedding_71 0 rfl ?_
  refine g_if_eq O dX11_wedding_73 rfl (fun c1 => ?_) (fun c1 => ?_)
  · replace h := (if_pos c1).symm.trans h
    refine g_sub [] (lv' := []) rfl ?_
    exact t_X11_wedding_98 O R0 N hn σ o h K
  · replace h := (if_neg c1).symm.trans h
    refine g_aload_n O dX11_wedding_76 rfl 1 rfl ?_
    obtain ⟨v2, e3, h⟩ := bo_some h
    refine g_getR O dX11_wedding_77 fl_X11_62 rfl e3 ?_
    refine g_aload O dX11_wedding_80 4 rfl ?_
    refine g_iload_n O dX11_wedding_82 rfl 2 rfl ?_
    refine g_iload_n O dX11_wedding_83 rfl 3 rfl ?_
    obtain ⟨a4, e5, h⟩ := bo_some h
    obtain ⟨v6, σ7, e8, h⟩ := bd_some h
    refine g_cV1 O R0 N dX11_wedding_84 vl_X11_201 vv_X3_nearness e5 [vA r4, vI x2, vI x3] rfl rfl rfl ⟨Nat.le_of_ble_eq_true rfl, Nat.le_of_ble_eq_true rfl⟩ (c_X3_nearness l0 a4 r4 x2 x3 σ v6 σ7 e8) ?_
    refine g_ldc2 O dX11_wedding_87 w1408 ?_
    refine g_lcmp O dX11_wedding_90 ?_
    refine g_if_ge O dX11_wedding_91 rfl (fun c9 => ?_) (fun c9 => ?_)
    · replace h := (if_pos c9).symm.trans h
      refine g_sub [] (lv' := []) rfl ?_
      exact t_X11_wedding_98 O R0 N hn σ7 o h K
    · replace h := (if_neg c9).symm.trans h
      refine g_iconst (v := (1 : Int32)) O dX11_wedding_94 rfl ?_
      refine g_goto O dX11_wedding_95 rfl ?_
      cases h
      exact g_ireturn O K dX11_wedding_99
def f_X11_wedding_68 (a0 : Nat) (x2 : Int32) (x3 : Int32) (r4 : Option Nat) (σ : Dt) : Option (Int32 × Dt) := f_X11_wedding_69 a0 x2 x3 r4 (0 : Int32) σ
theorem t_X11_wedding_68 {M : Mx} {l0 : Launch} (O : Ok M cX11_wedding yX11_wedding) (R0 : Rm M l0 5 144 0 0) (N : Ma M = false) (hn : Mn M = 6)  (a0 : Nat) (x2 : Int32) (x3 : Int32) (r4 : Option Nat) (σ : Dt) (o : (Int32 × Dt)) (h : f_X11_wedding_68 a0 x2 x3 r4 σ = some o) (K : Fin' M (some .int) 0 0 SX o.2 (some (vI o.1))) : G M 0 0 68 [(0, vA (some a0)), (2, vI x2), (3, vI x3), (4, vA r4)] [] SX σ := by
  unfold f_X11_wedding_68 at h
  refine g_iconst (v := (0 : Int32)) O dX11_wedding_68 rfl ?_
  exact t_X11_wedding_69 O R0 N hn a0 x2 x3 r4 (0 : Int32) σ o h K
def f_X11_wedding (a0 : Nat) (x1 : Int32) (x2 : Int32) (x3 : Int32) (σ : Dt) : Option (Int32 × Dt) := bo (xgr SX 11 0 (some a0) σ) fun v1 => bo (xrc SX 8 v1) fun a3 => bo (f_X8_valleyAt a3 x1 σ) fun v5 => if v5 = none then some ((-1 : Int32), σ) else if x2 = x3 then some ((-1 : Int32), σ) else bo (xrc SX 9 v5) fun a9 => bo (f_X9_hasFolk a9 x2 σ) fun v11 => if v11 = 0 then some ((-1 : Int32), σ) else bo (xrc SX 9 v5) fun a14 => bo (f_X9_hasFolk a14 x3 σ) fun v16 => if v16 = 0 then some ((-1 : Int32), σ) else bo (xgr SX 9 3 v5 σ) fun v19 => bo (xai SX v19 x2 σ) fun v21 => if v21 < (16 : Int32) then f_X11_wedding_68 a0 x2 x3 v5 σ else bo (xgr SX 9 3 v5 σ) fun v24 => bo (xai SX v24 x3 σ) fun v26 => if v26 < (16 : Int32) then f_X11_wedding_68 a0 x2 x3 v5 σ else f_X11_wedding_69 a0 x2 x3 v5 (1 : Int32) σ
theorem t_X11_wedding {M : Mx} {l0 : Launch} (O : Ok M cX11_wedding yX11_wedding) (R0 : Rm M l0 5 144 0 0) (N : Ma M = false) (hn : Mn M = 6) (a0 : Nat) (x1 : Int32) (x2 : Int32) (x3 : Int32) (σ : Dt) (o : (Int32 × Dt)) (h : f_X11_wedding a0 x1 x2 x3 σ = some o) (K : Fin' M (some .int) 0 0 SX o.2 (some (vI o.1))) : G M 0 0 0 [(0, vA (some a0)), (1, vI x1), (2, vI x2), (3, vI x3)] [] SX σ := by
  unfold f_X11_wedding at h
  refine g_aload_n O dX11_wedding_0 rfl 0 rfl ?_
  obtain ⟨v1, e2, h⟩ := bo_some h
  refine g_getR O dX11_wedding_1 fl_X11_12 rfl e2 ?_
  refine g_iload_n O dX11_wedding_4 rfl 1 rfl ?_
  obtain ⟨a3, e4, h⟩ := bo_some h
  obtain ⟨v5, e6, h⟩ := bo_some h
  refine g_cV1 O R0 N dX11_wedding_5 vl_X11_105 vv_X8_valleyAt e4 [vI x1] rfl rfl rfl ⟨Nat.le_of_ble_eq_true rfl, Nat.le_of_ble_eq_true rfl⟩ (c_X8_valleyAt l0 a3 x1 σ v5 e6) ?_
  refine g_astore (lv' := [(4, vA v5), (0, vA (some a0)), (1, vI x1), (2, vI x2), (3, vI x3)]) O dX11_wedding_8 6 hn (by decide) rfl ?_
  refine g_aload O dX11_wedding_10 0 rfl ?_
  refine g_ifnull O dX11_wedding_12 rfl (fun c7 => ?_) (fun c7 => ?_)
  · replace h := (if_pos c7).symm.trans h
    refine g_iconst (v := (-1 : Int32)) O dX11_wedding_38 rfl ?_
    cases h
    exact g_ireturn O K dX11_wedding_39
  · replace h := (if_neg c7).symm.trans h
    refine g_iload_n O dX11_wedding_15 rfl 3 rfl ?_
    refine g_iload_n O dX11_wedding_16 rfl 4 rfl ?_
    refine g_icmp_eq O dX11_wedding_17 rfl (fun c8 => ?_) (fun c8 => ?_)
    · replace h := (if_pos c8).symm.trans h
      refine g_iconst (v := (-1 : Int32)) O dX11_wedding_38 rfl ?_
      cases h
      exact g_ireturn O K dX11_wedding_39
    · replace h := (if_neg c8).symm.trans h
      refine g_aload O dX11_wedding_20 0 rfl ?_
      refine g_iload_n O dX11_wedding_22 rfl 3 rfl ?_
      obtain ⟨a9, e10, h⟩ := bo_some h
      obtain ⟨v11, e12, h⟩ := bo_some h
      refine g_cV1 O R0 N dX11_wedding_23 vl_X11_198 vv_X9_hasFolk e10 [vI x2] rfl rfl rfl ⟨Nat.le_of_ble_eq_true rfl, Nat.le_of_ble_eq_true rfl⟩ (c_X9_hasFolk l0 a9 x2 σ v11 e12) ?_
      refine g_if_eq O dX11_wedding_26 rfl (fun c13 => ?_) (fun c13 => ?_)
      · replace h := (if_pos c13).symm.trans h
        refine g_iconst (v := (-1 : Int32)) O dX11_wedding_38 rfl ?_
        cases h
        exact g_ireturn O K dX11_wedding_39
      · replace h := (if_neg c13).symm.trans h
        refine g_aload O dX11_wedding_29 0 rfl ?_
        refine g_iload_n O dX11_wedding_31 rfl 4 rfl ?_
        obtain ⟨a14, e15, h⟩ := bo_some h
        obtain ⟨v16, e17, h⟩ := bo_some h
        refine g_cV1 O R0 N dX11_wedding_32 vl_X11_198 vv_X9_hasFolk e15 [vI x3] rfl rfl rfl ⟨Nat.le_of_ble_eq_true rfl, Nat.le_of_ble_eq_true rfl⟩ (c_X9_hasFolk l0 a14 x3 σ v16 e17) ?_
        refine g_if_ne O dX11_wedding_35 rfl (fun c18 => ?_) (fun c18 => ?_)
        · replace h := (if_pos c18).symm.trans h
          refine g_iconst (v := (-1 : Int32)) O dX11_wedding_38 rfl ?_
          cases h
          exact g_ireturn O K dX11_wedding_39
        · replace h := (if_neg c18).symm.trans h
          refine g_aload O dX11_wedding_40 0 rfl ?_
          obtain ⟨v19, e20, h⟩ := bo_some h
          refine g_getR O dX11_wedding_42 fl_X11_271 rfl e20 ?_
          refine g_iload_n O dX11_wedding_45 rfl 3 rfl ?_
          obtain ⟨v21, e22, h⟩ := bo_some h
          refine g_iaload O dX11_wedding_46 e22 ?_
          refine g_bipush (v := (16 : Int32)) O dX11_wedding_47 rfl ?_
          refine g_icmp_lt O dX11_wedding_49 rfl (fun c23 => ?_) (fun c23 => ?_)
          · replace h := (if_pos c23).symm.trans h
            refine g_sub [1, 3, 4, 0] (lv' := [(0, vA (some a0)), (2, vI x2), (3, vI x3), (4, vA v5)]) rfl ?_
            exact t_X11_wedding_68 O R0 N hn a0 x2 x3 v5 σ o h K
          · replace h := (if_neg c23).symm.trans h
            refine g_aload O dX11_wedding_52 0 rfl ?_
            obtain ⟨v24, e25, h⟩ := bo_some h
            refine g_getR O dX11_wedding_54 fl_X11_271 rfl e25 ?_
            refine g_iload_n O dX11_wedding_57 rfl 4 rfl ?_
            obtain ⟨v26, e27, h⟩ := bo_some h
            refine g_iaload O dX11_wedding_58 e27 ?_
            refine g_bipush (v := (16 : Int32)) O dX11_wedding_59 rfl ?_
            refine g_icmp_lt O dX11_wedding_61 rfl (fun c28 => ?_) (fun c28 => ?_)
            · replace h := (if_pos c28).symm.trans h
              refine g_sub [1, 3, 4, 0] (lv' := [(0, vA (some a0)), (2, vI x2), (3, vI x3), (4, vA v5)]) rfl ?_
              exact t_X11_wedding_68 O R0 N hn a0 x2 x3 v5 σ o h K
            · replace h := (if_neg c28).symm.trans h
              refine g_iconst (v := (1 : Int32)) O dX11_wedding_64 rfl ?_
              refine g_goto O dX11_wedding_65 rfl ?_
              refine g_sub [1, 3, 4, 0] (lv' := [(0, vA (some a0)), (2, vI x2), (3, vI x3), (4, vA v5)]) rfl ?_
              exact t_X11_wedding_69 O R0 N hn a0 x2 x3 v5 (1 : Int32) σ o h K
theorem c_X11_wedding (l0 : Launch) (a0 : Nat) (x1 : Int32) (x2 : Int32) (x3 : Int32) (σ : Dt) (r : Int32) (σ' : Dt) (h : f_X11_wedding a0 x1 x2 x3 σ = some (r, σ')) : Ctr l0 yX11_wedding cX11_wedding 6 (some .int) false 5 144 0 0 [vA (some a0), vI x1, vI x2, vI x3] SX σ SX σ' (some (vI r)) := ctr_of (by decide) (Nat.le_of_ble_eq_true rfl) (fun M O F R0 N hn => t_X11_wedding O R0 N hn a0 x1 x2 x3 σ (r, σ') h F)
def P_X10_bestHand_6 (M : Mx) (a0 : Nat) (σ : Dt) (s : (Int32 × Int32 × Int32)) : Prop := G M 0 0 6 [(0, vA (some a0)), (1, vI s.1), (2, vI s.2.1), (3, vI s.2.2)] [] SX σ
def E_X10_bestHand_6 (M : Mx) (a0 : Nat) (σ : Dt) : Int32 → Prop := (fun w => G M 0 0 45 [(1, vI w)] [] SX σ)
def f_X10_bestHand_39 (a0 : Nat) (x1 : Int32) (x2 : Int32) (x3 : Int32) (σ : Dt) : Option ((Int32 × Int32 × Int32) ⊕ Int32) := some (.inl (x1, x2, (x3 + (1 : Int32))))
theorem t_X10_bestHand_39 {M : Mx} {l0 : Launch} (O : Ok M cX10_bestHand yX10_bestHand) (R0 : Rm M l0 2 80 0 0) (N : Ma M = false) (hn : Mn M = 4)  (a0 : Nat) (x1 : Int32) (x2 : Int32) (x3 : Int32) (σ : Dt) (o : ((Int32 × Int32 × Int32) ⊕ Int32)) (h : f_X10_bestHand_39 a0 x1 x2 x3 σ = some o) (K : kon (P_X10_bestHand_6 M a0 σ) (E_X10_bestHand_6 M a0 σ) o) : G M 0 0 39 [(0, vA (some a0)), (1, vI x1), (2, vI x2), (3, vI x3)] [] SX σ := by
  unfold f_X10_bestHand_39 at h
  refine g_iinc (v := (x3 + (1 : Int32))) (lv' := [(3, vI (x3 + (1 : Int32))), (0, vA (some a0)), (1, vI x1), (2, vI x2)]) O dX10_bestHand_39 4 hn (by decide) 3 rfl rfl rfl ?_
  refine g_goto O dX10_bestHand_42 rfl ?_
  refine g_sub [1, 2, 3, 0] (lv' := [(0, vA (some a0)), (1, vI x1), (2, vI x2), (3, vI (x3 + (1 : Int32)))]) rfl ?_
  cases h
  exact K
def f_X10_bestHand_L6 (a0 : Nat) (x1 : Int32) (x2 : Int32) (x3 : Int32) (σ : Dt) : Option ((Int32 × Int32 × Int32) ⊕ Int32) := bo (xgi SX 10 1 (some a0) σ) fun v1 => if v1 ≤ x3 then some (.inr x1) else if (10 : Int32) ≤ x3 then some (.inr x1) else bo (xgr SX 10 13 (some a0) σ) fun v5 => bo (xai SX v5 x3 σ) fun v7 => if v7 ≤ x2 then f_X10_bestHand_39 a0 x1 x2 x3 σ else bo (xgr SX 10 13 (some a0) σ) fun v10 => bo (xai SX v10 x3 σ) fun v12 => f_X10_bestHand_39 a0 x3 v12 x3 σ
theorem t_X10_bestHand_L6 {M : Mx} {l0 : Launch} (O : Ok M cX10_bestHand yX10_bestHand) (R0 : Rm M l0 2 80 0 0) (N : Ma M = false) (hn : Mn M = 4) (a0 : Nat) (x1 : Int32) (x2 : Int32) (x3 : Int32) (σ : Dt) (o : ((Int32 × Int32 × Int32) ⊕ Int32)) (h : f_X10_bestHand_L6 a0 x1 x2 x3 σ = some o) (K : kon (P_X10_bestHand_6 M a0 σ) (E_X10_bestHand_6 M a0 σ) o) : G M 0 0 6 [(0, vA (some a0)), (1, vI x1), (2, vI x2), (3, vI x3)] [] SX σ := by
  unfold f_X10_bestHand_L6 at h
  refine g_iload_n O dX10_bestHand_6 rfl 3 rfl ?_
  refine g_aload_n O dX10_bestHand_7 rfl 0 rfl ?_
  obtain ⟨v1, e2, h⟩ := bo_some h
  refine g_getI O dX10_bestHand_8 fl_X10_63 rfl e2 ?_
  refine g_icmp_ge O dX10_bestHand_11 rfl (fun c3 => ?_) (fun c3 => ?_)
  · replace h := (if_pos c3).symm.trans h
    refine g_sub [1] (lv' := [(1, vI x1)]) rfl ?_
    cases h
    exact K
  · replace h := (if_neg c3).symm.trans h
    refine g_iload_n O dX10_bestHand_14 rfl 3 rfl ?_
    refine g_bipush (v := (10 : Int32)) O dX10_bestHand_15 rfl ?_
    refine g_icmp_ge O dX10_bestHand_17 rfl (fun c4 => ?_) (fun c4 => ?_)
    · replace h := (if_pos c4).symm.trans h
      refine g_sub [1] (lv' := [(1, vI x1)]) rfl ?_
      cases h
      exact K
    · replace h := (if_neg c4).symm.trans h
      refine g_aload_n O dX10_bestHand_20 rfl 0 rfl ?_
      obtain ⟨v5, e6, h⟩ := bo_some h
      refine g_getR O dX10_bestHand_21 fl_X10_24 rfl e6 ?_
      refine g_iload_n O dX10_bestHand_24 rfl 3 rfl ?_
      obtain ⟨v7, e8, h⟩ := bo_some h
      refine g_iaload O dX10_bestHand_25 e8 ?_
      refine g_iload_n O dX10_bestHand_26 rfl 2 rfl ?_
      refine g_icmp_le O dX10_bestHand_27 rfl (fun c9 => ?_) (fun c9 => ?_)
      · replace h := (if_pos c9).symm.trans h
        exact t_X10_bestHand_39 O R0 N hn a0 x1 x2 x3 σ o h K
      · replace h := (if_neg c9).symm.trans h
        refine g_aload_n O dX10_bestHand_30 rfl 0 rfl ?_
        obtain ⟨v10, e11, h⟩ := bo_some h
        refine g_getR O dX10_bestHand_31 fl_X10_24 rfl e11 ?_
        refine g_iload_n O dX10_bestHand_34 rfl 3 rfl ?_
        obtain ⟨v12, e13, h⟩ := bo_some h
        refine g_iaload O dX10_bestHand_35 e13 ?_
        refine g_istore_n (lv' := [(2, vI v12), (0, vA (some a0)), (1, vI x1), (3, vI x3)]) O dX10_bestHand_36 rfl 4 hn (by decide) rfl ?_
        refine g_iload_n O dX10_bestHand_37 rfl 3 rfl ?_
        refine g_istore_n (lv' := [(1, vI x3), (2, vI v12), (0, vA (some a0)), (3, vI x3)]) O dX10_bestHand_38 rfl 4 hn (by decide) rfl ?_
        refine g_sub [2, 0, 1, 3] (lv' := [(0, vA (some a0)), (1, vI x3), (2, vI v12), (3, vI x3)]) rfl ?_
        exact t_X10_bestHand_39 O R0 N hn a0 x3 v12 x3 σ o h K
def f_X10_bestHand (a0 : Nat) (σ : Dt) : Option Int32 := bo (iter FU (fun s => f_X10_bestHand_L6 a0 s.1 s.2.1 s.2.2 σ) ((-1 : Int32), (0 : Int32), (0 : Int32))) fun w1 => some w1
theorem t_X10_bestHand {M : Mx} {l0 : Launch} (O : Ok M cX10_bestHand yX10_bestHand) (R0 : Rm M l0 2 80 0 0) (N : Ma M = false) (hn : Mn M = 4) (a0 : Nat) (σ : Dt) (o : Int32) (h : f_X10_bestHand a0 σ = some o) (K : Fin' M (some .int) 0 0 SX σ (some (vI o))) : G M 0 0 0 [(0, vA (some a0))] [] SX σ := by
  unfold f_X10_bestHand at h
  refine g_iconst (v := (-1 : Int32)) O dX10_bestHand_0 rfl ?_
  refine g_istore_n (lv' := [(1, vI (-1 : Int32)), (0, vA (some a0))]) O dX10_bestHand_1 rfl 4 hn (by decide) rfl ?_
  refine g_iconst (v := (0 : Int32)) O dX10_bestHand_2 rfl ?_
  refine g_istore_n (lv' := [(2, vI (0 : Int32)), (1, vI (-1 : Int32)), (0, vA (some a0))]) O dX10_bestHand_3 rfl 4 hn (by decide) rfl ?_
  refine g_iconst (v := (0 : Int32)) O dX10_bestHand_4 rfl ?_
  refine g_istore_n (lv' := [(3, vI (0 : Int32)), (2, vI (0 : Int32)), (1, vI (-1 : Int32)), (0, vA (some a0))]) O dX10_bestHand_5 rfl 4 hn (by decide) rfl ?_
  refine g_sub [3, 2, 1, 0] (lv' := [(0, vA (some a0)), (1, vI (-1 : Int32)), (2, vI (0 : Int32)), (3, vI (0 : Int32))]) rfl ?_
  obtain ⟨w1, e2, h⟩ := bo_some h
  refine iter_G (P := P_X10_bestHand_6 M a0 σ) (E := E_X10_bestHand_6 M a0 σ) (fun s o hb hk => t_X10_bestHand_L6 O R0 N hn a0 s.1 s.2.1 s.2.2 σ o hb hk) FU ((-1 : Int32), (0 : Int32), (0 : Int32)) w1 e2 ?_
  show G M 0 0 45 [(1, vI w1)] [] SX σ
  refine g_iload_n O dX10_bestHand_45 rfl 0 rfl ?_
  cases h
  exact g_ireturn O K dX10_bestHand_46
theorem c_X10_bestHand (l0 : Launch) (a0 : Nat) (σ : Dt) (r : Int32) (h : f_X10_bestHand a0 σ = some r) : Ctr l0 yX10_bestHand cX10_bestHand 4 (some .int) false 2 80 0 0 [vA (some a0)] SX σ SX σ (some (vI r)) := ctr_of (by decide) (Nat.le_of_ble_eq_true rfl) (fun M O F R0 N hn => t_X10_bestHand O R0 N hn a0 σ r h F)
