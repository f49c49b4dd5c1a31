def P_X2_find_40 (M : Mx) (a0 : Nat) (r1 : Option Nat) (r2 : Option Nat) (r3 : Option Nat) (σ : Dt) (s : Int32) : Prop := G M 0 0 40 [(0, vA (some a0)), (1, vA r1), (2, vA r2), (3, vA r3), (4, vI s)] [] SX σ
def E_X2_find_40 (M : Mx) (a0 : Nat) (r1 : Option Nat) (r2 : Option Nat) (r3 : Option Nat) (σ : Dt) : (Unit ⊕ Unit) → Prop := (el (fun w => G M 0 0 70 [] [] SX σ) (fun w => G M 0 0 78 [(0, vA (some a0)), (1, vA r1), (2, vA r2), (3, vA r3)] [] SX σ))
def f_X2_find_L40 (a0 : Nat) (r1 : Option Nat) (r2 : Option Nat) (r3 : Option Nat) (x4 : Int32) (σ : Dt) : Option (Int32 ⊕ (Unit ⊕ Unit)) := bo (xgi SX 6 1 r2 σ) fun v1 => if v1 ≤ x4 then some (.inr (.inr ())) else if (8 : Int32) ≤ x4 then some (.inr (.inr ())) else bo (xgr SX 6 2 r2 σ) fun v5 => bo (xai SX v5 x4 σ) fun v7 => bo (xrc SX 9 r1) fun a9 => bo (f_X9_hasWork a9 v7 σ) fun v11 => if v11 = 0 then some (.inr (.inl ())) else some (.inl (x4 + (1 : Int32)))
theorem t_X2_find_L40 {M : Mx} {l0 : Launch} (O : Ok M cX2_find yX2_find) (R0 : Rm M l0 6 173 0 0) (N : Ma M = false) (hn : Mn M = 7) (a0 : Nat) (r1 : Option Nat) (r2 : Option Nat) (r3 : Option Nat) (x4 : Int32) (σ : Dt) (o : (Int32 ⊕ (Unit ⊕ Unit))) (h : f_X2_find_L40 a0 r1 r2 r3 x4 σ = some o) (K : kon (P_X2_find_40 M a0 r1 r2 r3 σ) (E_X2_find_40 M a0 r1 r2 r3 σ) o) : G M 0 0 40 [(0, vA (some a0)), (1, vA r1), (2, vA r2), (3, vA r3), (4, vI x4)] [] SX σ := by
  unfold f_X2_find_L40 at h
  refine g_iload O dX2_find_40 4 rfl ?_
  refine g_aload_n O dX2_find_42 rfl 2 rfl ?_
  obtain ⟨v1, e2, h⟩ := bo_some h
  refine g_getI O dX2_find_43 fl_X2_37 rfl e2 ?_
  refine g_icmp_ge O dX2_find_46 rfl (fun c3 => ?_) (fun c3 => ?_)
  · replace h := (if_pos c3).symm.trans h
    refine g_sub [0, 1, 2, 3] (lv' := [(0, vA (some a0)), (1, vA r1), (2, vA r2), (3, vA r3)]) rfl ?_
    cases h
    exact K
  · replace h := (if_neg c3).symm.trans h
    refine g_iload O dX2_find_49 4 rfl ?_
    refine g_bipush (v := (8 : Int32)) O dX2_find_51 rfl ?_
    refine g_icmp_ge O dX2_find_53 rfl (fun c4 => ?_) (fun c4 => ?_)
    · replace h := (if_pos c4).symm.trans h
      refine g_sub [0, 1, 2, 3] (lv' := [(0, vA (some a0)), (1, vA r1), (2, vA r2), (3, vA r3)]) rfl ?_
      cases h
      exact K
    · replace h := (if_neg c4).symm.trans h
      refine g_aload_n O dX2_find_56 rfl 1 rfl ?_
      refine g_aload_n O dX2_find_57 rfl 2 rfl ?_
      obtain ⟨v5, e6, h⟩ := bo_some h
      refine g_getR O dX2_find_58 fl_X2_42 rfl e6 ?_
      refine g_iload O dX2_find_61 4 rfl ?_
      obtain ⟨v7, e8, h⟩ := bo_some h
      refine g_iaload O dX2_find_63 e8 ?_
      obtain ⟨a9, e10, h⟩ := bo_some h
      obtain ⟨v11, e12, h⟩ := bo_some h
      refine g_cV1 O R0 N dX2_find_64 vl_X2_43 vv_X9_hasWork e10 [vI v7] rfl rfl rfl ⟨Nat.le_of_ble_eq_true rfl, Nat.le_of_ble_eq_true rfl⟩ (c_X9_hasWork l0 a9 v7 σ v11 e12) ?_
      refine g_if_ne O dX2_find_67 rfl (fun c13 => ?_) (fun c13 => ?_)
      · replace h := (if_pos c13).symm.trans h
        refine g_sub [] (lv' := []) rfl ?_
        cases h
        exact K
      · replace h := (if_neg c13).symm.trans h
        refine g_iinc (v := (x4 + (1 : Int32))) (lv' := [(4, vI (x4 + (1 : Int32))), (0, vA (some a0)), (1, vA r1), (2, vA r2), (3, vA r3)]) O dX2_find_72 7 hn (by decide) 4 rfl rfl rfl ?_
        refine g_goto O dX2_find_75 rfl ?_
        refine g_sub [1, 2, 3, 4, 0] (lv' := [(0, vA (some a0)), (1, vA r1), (2, vA r2), (3, vA r3), (4, vI (x4 + (1 : Int32)))]) rfl ?_
        cases h
        exact K
def P_X2_find_100 (M : Mx) (a0 : Nat) (r1 : Option Nat) (r2 : Option Nat) (r3 : Option Nat) (x4 : Int32) (s : (Int32 × Dt)) : Prop := G M 0 0 100 [(0, vA (some a0)), (1, vA r1), (2, vA r2), (3, vA r3), (4, vI x4), (5, vI s.1)] [] SX s.2
def E_X2_find_100 (M : Mx) (a0 : Nat) (r1 : Option Nat) (r2 : Option Nat) (r3 : Option Nat) (x4 : Int32) : Dt → Prop := (fun w => G M 0 0 209 [(0, vA (some a0)), (1, vA r1), (2, vA r2), (3, vA r3), (4, vI x4)] [] SX w)
def f_X2_find_203 (a0 : Nat) (r1 : Option Nat) (r2 : Option Nat) (r3 : Option Nat) (x4 : Int32) (x5 : Int32) (σ : Dt) : Option ((Int32 × Dt) ⊕ Dt) := some (.inl ((x5 + (1 : Int32)), σ))
theorem t_X2_find_203 {M : Mx} {l0 : Launch} (O : Ok M cX2_find yX2_find) (R0 : Rm M l0 6 173 0 0) (N : Ma M = false) (hn : Mn M = 7)  (a0 : Nat) (r1 : Option Nat) (r2 : Option Nat) (r3 : Option Nat) (x4 : Int32) (x5 : Int32) (σ : Dt) (o : ((Int32 × Dt) ⊕ Dt)) (h : f_X2_find_203 a0 r1 r2 r3 x4 x5 σ = some o) (K : kon (P_X2_find_100 M a0 r1 r2 r3 x4) (E_X2_find_100 M a0 r1 r2 r3 x4) o) : G M 0 0 203 [(0, vA (some a0)), (1, vA r1), (2, vA r2), (3, vA r3), (4, vI x4), (5, vI x5)] [] SX σ := by
  unfold f_X2_find_203 at h
  refine g_iinc (v := (x5 + (1 : Int32))) (lv' := [(5, vI (x5 + (1 : Int32))), (0, vA (some a0)), (1, vA r1), (2, vA r2), (3, vA r3), (4, vI x4)]) O dX2_find_203 7 hn (by decide) 5 rfl rfl rfl ?_
  refine g_goto O dX2_find_206 rfl ?_
  refine g_sub [1, 2, 3, 4, 5, 0] (lv' := [(0, vA (some a0)), (1, vA r1), (2, vA r2), (3, vA r3), (4, vI x4), (5, vI (x5 + (1 : Int32)))]) rfl ?_
  cases h
  exact K
def f_X2_find_199 (a0 : Nat) (r1 : Option Nat) (r2 : Option Nat) (r3 : Option Nat) (x4 : Int32) (x5 : Int32) (k0 : Option Nat) (k1 : Int32) (k2 : Int32) (σ : Dt) : Option ((Int32 × Dt) ⊕ Dt) := bo (xpi SX 2 1 k0 (k1 + k2) σ) fun σ1 => f_X2_find_203 a0 r1 r2 r3 x4 x5 σ1
theorem t_X2_find_199 {M : Mx} {l0 : Launch} (O : Ok M cX2_find yX2_find) (R0 : Rm M l0 6 173 0 0) (N : Ma M = false) (hn : Mn M = 7)  (a0 : Nat) (r1 : Option Nat) (r2 : Option Nat) (r3 : Option Nat) (x4 : Int32) (x5 : Int32) (k0 : Option Nat) (k1 : Int32) (k2 : Int32) (σ : Dt) (o : ((Int32 × Dt) ⊕ Dt)) (h : f_X2_find_199 a0 r1 r2 r3 x4 x5 k0 k1 k2 σ = some o) (K : kon (P_X2_find_100 M a0 r1 r2 r3 x4) (E_X2_find_100 M a0 r1 r2 r3 x4) o) : G M 0 0 199 [(0, vA (some a0)), (1, vA r1), (2, vA r2), (3, vA r3), (4, vI x4), (5, vI x5)] [vI k2, vI k1, vA k0] SX σ := by
  unfold f_X2_find_199 at h
  refine g_iadd O dX2_find_199 ?_
  obtain ⟨σ1, e2, h⟩ := bo_some h
  refine g_putI O dX2_find_200 fl_X2_28 (Or.inl rfl) rfl e2 ?_
  exact t_X2_find_203 O R0 N hn a0 r1 r2 r3 x4 x5 σ1 o h K
def f_X2_find_L100 (a0 : Nat) (r1 : Option Nat) (r2 : Option Nat) (r3 : Option Nat) (x4 : Int32) (x5 : Int32) (σ : Dt) : Option ((Int32 × Dt) ⊕ Dt) := bo (xgi SX 9 1 r1 σ) fun v1 => if v1 ≤ x5 then some (.inr σ) else if (6 : Int32) ≤ x5 then some (.inr σ) else bo (xrc SX 10 r3) fun a5 => bd (f_X10_begin a5 r1 σ) fun v7 σ8 => bo (xrc SX 10 r3) fun a10 => bd (f_X10_tryDeed a10 (0 : Int32) x4 x5 (9 : Int32) σ8) fun v12 σ13 => bo (xgi SX 6 0 r2 σ13) fun v15 => bo (xrc SX 10 r3) fun a17 => bd (f_X10_passYears a17 v15 σ13) fun v19 σ20 => if v12 = 0 then f_X2_find_203 a0 r1 r2 r3 x4 x5 σ20 else bo (f_X2_agrees r2 r3 σ20) fun v23 => if v23 = 0 then f_X2_find_203 a0 r1 r2 r3 x4 x5 σ20 else bo (xrc SX 10 r3) fun a26 => bo (f_X10_dugAt a26 x5 σ20) fun v28 => bo (xrc SX 2 (some a0)) fun a30 => bd (f_X2_add a30 x4 x5 v28 σ20) fun v32 σ33 => bo (xgi SX 6 0 r2 σ33) fun v35 => bo (xrc SX 10 r3) fun a37 => bd (f_X10_passYears a37 ((9 : Int32) - v35) σ33) fun v39 σ40 => bo (xgi SX 2 1 (some a0) σ40) fun v42 => bo (xrc SX 10 r3) fun a44 => bo (f_X10_isDone a44 x5 σ40) fun v46 => if v46 = 0 then f_X2_find_199 a0 r1 r2 r3 x4 x5 (some a0) v42 (0 : Int32) σ40 else f_X2_find_199 a0 r1 r2 r3 x4 x5 (some a0) v42 (1 : Int32) σ40
theorem t_X2_find_L100 {M : Mx} {l0 : Launch} (O : Ok M cX2_find yX2_find) (R0 : Rm M l0 6 173 0 0) (N : Ma M = false) (hn : Mn M = 7) (a0 : Nat) (r1 : Option Nat) (r2 : Option Nat) (r3 : Option Nat) (x4 : Int32) (x5 : Int32) (σ : Dt) (o : ((Int32 × Dt) ⊕ Dt)) (h : f_X2_find_L100 a0 r1 r2 r3 x4 x5 σ = some o) (K : kon (P_X2_find_100 M a0 r1 r2 r3 x4) (E_X2_find_100 M a0 r1 r2 r3 x4) o) : G M 0 0 100 [(0, vA (some a0)), (1, vA r1), (2, vA r2), (3, vA r3), (4, vI x4), (5, vI x5)] [] SX σ := by
  unfold f_X2_find_L100 at h
  refine g_iload O dX2_find_100 5 rfl ?_
  refine g_aload_n O dX2_find_102 rfl 1 rfl ?_
  obtain ⟨v1, e2, h⟩ := bo_some h
  refine g_getI O dX2_find_103 fl_X2_34 rfl e2 ?_
  refine g_icmp_ge O dX2_find_106 rfl (fun c3 => ?_) (fun c3 => ?_)
  · replace h := (if_pos c3).symm.trans h
    refine g_sub [0, 1, 2, 3, 4] (lv' := [(0, vA (some a0)), (1, vA r1), (2, vA r2), (3, vA r3), (4, vI x4)]) rfl ?_
    cases h
    exact K
  · replace h := (if_neg c3).symm.trans h
    refine g_iload O dX2_find_109 5 rfl ?_
    refine g_bipush (v := (6 : Int32)) O dX2_find_111 rfl ?_
    refine g_icmp_ge O dX2_find_113 rfl (fun c4 => ?_) (fun c4 => ?_)
    · replace h := (if_pos c4).symm.trans h
      refine g_sub [0, 1, 2, 3, 4] (lv' := [(0, vA (some a0)), (1, vA r1), (2, vA r2), (3, vA r3), (4, vI x4)]) rfl ?_
      cases h
      exact K
    · replace h := (if_neg c4).symm.trans h
      refine g_aload_n O dX2_find_116 rfl 3 rfl ?_
      refine g_aload_n O dX2_find_117 rfl 1 rfl ?_
      obtain ⟨a5, e6, h⟩ := bo_some h
      obtain ⟨v7, σ8, e9, h⟩ := bd_some h
      refine g_cV0 O R0 N dX2_find_118 vl_X2_49 vv_X10_begin e6 [vA r1] rfl rfl rfl ⟨Nat.le_of_ble_eq_true rfl, Nat.le_of_ble_eq_true rfl⟩ (c_X10_begin l0 a5 r1 σ v7 σ8 e9) ?_
      refine g_aload_n O dX2_find_121 rfl 3 rfl ?_
      refine g_iconst (v := (0 : Int32)) O dX2_find_122 rfl ?_
      refine g_iload O dX2_find_123 4 rfl ?_
      refine g_iload O dX2_find_125 5 rfl ?_
      refine g_bipush (v := (9 : Int32)) O dX2_find_127 rfl ?_
      obtain ⟨a10, e11, h⟩ := bo_some h
      obtain ⟨v12, σ13, e14, h⟩ := bd_some h
      refine g_cV1 O R0 N dX2_find_129 vl_X2_55 vv_X10_tryDeed e11 [vI (0 : Int32), vI x4, vI x5, vI (9 : Int32)] rfl rfl rfl ⟨Nat.le_of_ble_eq_true rfl, Nat.le_of_ble_eq_true rfl⟩ (c_X10_tryDeed l0 a10 (0 : Int32) x4 x5 (9 : Int32) σ8 v12 σ13 e14) ?_
      refine g_istore (lv' := [(6, vI v12), (0, vA (some a0)), (1, vA r1), (2, vA r2), (3, vA r3), (4, vI x4), (5, vI x5)]) O dX2_find_132 7 hn (by decide) rfl ?_
      refine g_aload_n O dX2_find_134 rfl 4 rfl ?_
      refine g_aload_n O dX2_find_135 rfl 3 rfl ?_
      obtain ⟨v15, e16, h⟩ := bo_some h
      refine g_getI O dX2_find_136 fl_X2_59 rfl e16 ?_
      obtain ⟨a17, e18, h⟩ := bo_some h
      obtain ⟨v19, σ20, e21, h⟩ := bd_some h
      refine g_cV0 O R0 N dX2_find_139 vl_X2_62 vv_X10_passYears e18 [vI v15] rfl rfl rfl ⟨Nat.le_of_ble_eq_true rfl, Nat.le_of_ble_eq_true rfl⟩ (c_X10_passYears l0 a17 v15 σ13 v19 σ20 e21) ?_
      refine g_iload O dX2_find_142 0 rfl ?_
      refine g_if_eq O dX2_find_144 rfl (fun c22 => ?_) (fun c22 => ?_)
      · replace h := (if_pos c22).symm.trans h
        refine g_sub [1, 2, 3, 4, 5, 6] (lv' := [(0, vA (some a0)), (1, vA r1), (2, vA r2), (3, vA r3), (4, vI x4), (5, vI x5)]) rfl ?_
        exact t_X2_find_203 O R0 N hn a0 r1 r2 r3 x4 x5 σ20 o h K
      · replace h := (if_neg c22).symm.trans h
        refine g_aload_n O dX2_find_147 rfl 3 rfl ?_
        refine g_aload_n O dX2_find_148 rfl 4 rfl ?_
        obtain ⟨v23, e24, h⟩ := bo_some h
        refine g_cS1 O R0 N dX2_find_149 vl_X2_66 w1234 [vA r2, vA r3] rfl rfl rfl ⟨Nat.le_of_ble_eq_true rfl, Nat.le_of_ble_eq_true rfl⟩ (c_X2_agrees l0 r2 r3 σ20 v23 e24) ?_
        refine g_if_eq O dX2_find_152 rfl (fun c25 => ?_) (fun c25 => ?_)
        · replace h := (if_pos c25).symm.trans h
          refine g_sub [1, 2, 3, 4, 5, 6] (lv' := [(0, vA (some a0)), (1, vA r1), (2, vA r2), (3, vA r3), (4, vI x4), (5, vI x5)]) rfl ?_
          exact t_X2_find_203 O R0 N hn a0 r1 r2 r3 x4 x5 σ20 o h K
        · replace h := (if_neg c25).symm.trans h
          refine g_aload_n O dX2_find_155 rfl 1 rfl ?_
          refine g_iload O dX2_find_156 5 rfl ?_
          refine g_iload O dX2_find_158 6 rfl ?_
          refine g_aload_n O dX2_find_160 rfl 4 rfl ?_
          refine g_iload O dX2_find_161 6 rfl ?_
          obtain ⟨a26, e27, h⟩ := bo_some h
          obtain ⟨v28, e29, h⟩ := bo_some h
          refine g_cV1 O R0 N dX2_find_163 vl_X2_70 vv_X10_dugAt e27 [vI x5] rfl rfl rfl ⟨Nat.le_of_ble_eq_true rfl, Nat.le_of_ble_eq_true rfl⟩ (c_X10_dugAt l0 a26 x5 σ20 v28 e29) ?_
          obtain ⟨a30, e31, h⟩ := bo_some h
          obtain ⟨v32, σ33, e34, h⟩ := bd_some h
          refine g_cV0 O R0 N dX2_find_166 vl_X2_74 vv_X2_add e31 [vI x4, vI x5, vI v28] rfl rfl rfl ⟨Nat.le_of_ble_eq_true rfl, Nat.le_of_ble_eq_true rfl⟩ (c_X2_add l0 a30 x4 x5 v28 σ20 v32 σ33 e34) ?_
          refine g_aload_n O dX2_find_169 rfl 4 rfl ?_
          refine g_bipush (v := (9 : Int32)) O dX2_find_170 rfl ?_
          refine g_aload_n O dX2_find_172 rfl 3 rfl ?_
          obtain ⟨v35, e36, h⟩ := bo_some h
          refine g_getI O dX2_find_173 fl_X2_59 rfl e36 ?_
          refine g_isub O dX2_find_176 ?_
          obtain ⟨a37, e38, h⟩ := bo_some h
          obtain ⟨v39, σ40, e41, h⟩ := bd_some h
          refine g_cV0 O R0 N dX2_find_177 vl_X2_62 vv_X10_passYears e38 [vI ((9 : Int32) - v35)] rfl rfl rfl ⟨Nat.le_of_ble_eq_true rfl, Nat.le_of_ble_eq_true rfl⟩ (c_X10_passYears l0 a37 ((9 : Int32) - v35) σ33 v39 σ40 e41) ?_
          refine g_aload_n O dX2_find_180 rfl 1 rfl ?_
          refine g_dup O dX2_find_181 rfl ?_
          obtain ⟨v42, e43, h⟩ := bo_some h
          refine g_getI O dX2_find_182 fl_X2_28 rfl e43 ?_
          refine g_aload_n O dX2_find_185 rfl 4 rfl ?_
          refine g_iload O dX2_find_186 6 rfl ?_
          obtain ⟨a44, e45, h⟩ := bo_some h
          obtain ⟨v46, e47, h⟩ := bo_some h
          refine g_cV1 O R0 N dX2_find_188 vl_X2_78 vv_X10_isDone e45 [vI x5] rfl rfl rfl ⟨Nat.le_of_ble_eq_true rfl, Nat.le_of_ble_eq_true rfl⟩ (c_X10_isDone l0 a44 x5 σ40 v46 e47) ?_
          refine g_if_eq O dX2_find_191 rfl (fun c48 => ?_) (fun c48 => ?_)
          · replace h := (if_pos c48).symm.trans h
            refine g_iconst (v := (0 : Int32)) O dX2_find_198 rfl ?_
            refine g_sub [1, 2, 3, 4, 5, 6] (lv' := [(0, vA (some a0)), (1, vA r1), (2, vA r2), (3, vA r3), (4, vI x4), (5, vI x5)]) rfl ?_
            exact t_X2_find_199 O R0 N hn a0 r1 r2 r3 x4 x5 (some a0) v42 (0 : Int32) σ40 o h K
          · replace h := (if_neg c48).symm.trans h
            refine g_iconst (v := (1 : Int32)) O dX2_find_194 rfl ?_
            refine g_goto O dX2_find_195 rfl ?_
            refine g_sub [1, 2, 3, 4, 5, 6] (lv' := [(0, vA (some a0)), (1, vA r1), (2, vA r2), (3, vA r3), (4, vI x4), (5, vI x5)]) rfl ?_
            exact t_X2_find_199 O R0 N hn a0 r1 r2 r3 x4 x5 (some a0) v42 (1 : Int32) σ40 o h K
def P_X2_find_81 (M : Mx) (a0 : Nat) (r1 : Option Nat) (r2 : Option Nat) (r3 : Option Nat) (s : (Int32 × Dt)) : Prop := G M 0 0 81 [(0, vA (some a0)), (1, vA r1), (2, vA r2), (3, vA r3), (4, vI s.1)] [] SX s.2
def E_X2_find_81 (M : Mx) (a0 : Nat) (r1 : Option Nat) (r2 : Option Nat) (r3 : Option Nat) : Dt → Prop := (fun w => G M 0 0 215 [] [] SX w)
def f_X2_find_209 (a0 : Nat) (r1 : Option Nat) (r2 : Option Nat) (r3 : Option Nat) (x4 : Int32) (σ : Dt) : Option ((Int32 × Dt) ⊕ Dt) := some (.inl ((x4 + (1 : Int32)), σ))
theorem t_X2_find_209 {M : Mx} {l0 : Launch} (O : Ok M cX2_find yX2_find) (R0 : Rm M l0 6 173 0 0) (N : Ma M = false) (hn : Mn M = 7)  (a0 : Nat) (r1 : Option Nat) (r2 : Option Nat) (r3 : Option Nat) (x4 : Int32) (σ : Dt) (o : ((Int32 × Dt) ⊕ Dt)) (h : f_X2_find_209 a0 r1 r2 r3 x4 σ = some o) (K : kon (P_X2_find_81 M a0 r1 r2 r3) (E_X2_find_81 M a0 r1 r2 r3) o) : G M 0 0 209 [(0, vA (some a0)), (1, vA r1), (2, vA r2), (3, vA r3), (4, vI x4)] [] SX σ := by
  unfold f_X2_find_209 at h
  refine g_iinc (v := (x4 + (1 : Int32))) (lv' := [(4, vI (x4 + (1 : Int32))), (0, vA (some a0)), (1, vA r1), (2, vA r2), (3, vA r3)]) O dX2_find_209 7 hn (by decide) 4 rfl rfl rfl ?_
  refine g_goto O dX2_find_212 rfl ?_
  refine g_sub [1, 2, 3, 4, 0] (lv' := [(0, vA (some a0)), (1, vA r1), (2, vA r2), (3, vA r3), (4, vI (x4 + (1 : Int32)))]) rfl ?_
  cases h
  exact K
def f_X2_find_L81 (a0 : Nat) (r1 : Option Nat) (r2 : Option Nat) (r3 : Option Nat) (x4 : Int32) (σ : Dt) : Option ((Int32 × Dt) ⊕ Dt) := bo (xgi SX 9 0 r1 σ) fun v1 => if v1 ≤ x4 then some (.inr σ) else if (10 : Int32) ≤ x4 then some (.inr σ) else bo (iter FU (fun s => f_X2_find_L100 a0 r1 r2 r3 x4 s.1 s.2) ((0 : Int32), σ)) fun w5 => f_X2_find_209 a0 r1 r2 r3 x4 w5
theorem t_X2_find_L81 {M : Mx} {l0 : Launch} (O : Ok M cX2_find yX2_find) (R0 : Rm M l0 6 173 0 0) (N : Ma M = false) (hn : Mn M = 7) (a0 : Nat) (r1 : Option Nat) (r2 : Option Nat) (r3 : Option Nat) (x4 : Int32) (σ : Dt) (o : ((Int32 × Dt) ⊕ Dt)) (h : f_X2_find_L81 a0 r1 r2 r3 x4 σ = some o) (K : kon (P_X2_find_81 M a0 r1 r2 r3) (E_X2_find_81 M a0 r1 r2 r3) o) : G M 0 0 81 [(0, vA (some a0)), (1, vA r1), (2, vA r2), (3, vA r3), (4, vI x4)] [] SX σ := by
  unfold f_X2_find_L81 at h
  refine g_iload O dX2_find_81 4 rfl ?_
  refine g_aload_n O dX2_find_83 rfl 1 rfl ?_
  obtain ⟨v1, e2, h⟩ := bo_some h
  refine g_getI O dX2_find_84 fl_X2_47 rfl e2 ?_
  refine g_icmp_ge O dX2_find_87 rfl (fun c3 => ?_) (fun c3 => ?_)
  · replace h := (if_pos c3).symm.trans h
    refine g_sub [] (lv' := []) rfl ?_
    cases h
    exact K
  · replace h := (if_neg c3).symm.trans h
    refine g_iload O dX2_find_90 4 rfl ?_
    refine g_bipush (v := (10 : Int32)) O dX2_find_92 rfl ?_
    refine g_icmp_ge O dX2_find_94 rfl (fun c4 => ?_) (fun c4 => ?_)
    · replace h := (if_pos c4).symm.trans h
      refine g_sub [] (lv' := []) rfl ?_
      cases h
      exact K
    · replace h := (if_neg c4).symm.trans h
      refine g_iconst (v := (0 : Int32)) O dX2_find_97 rfl ?_
      refine g_istore (lv' := [(5, vI (0 : Int32)), (0, vA (some a0)), (1, vA r1), (2, vA r2), (3, vA r3), (4, vI x4)]) O dX2_find_98 7 hn (by decide) rfl ?_
      refine g_sub [1, 2, 3, 4, 5, 0] (lv' := [(0, vA (some a0)), (1, vA r1), (2, vA r2), (3, vA r3), (4, vI x4), (5, vI (0 : Int32))]) rfl ?_
      obtain ⟨w5, e6, h⟩ := bo_some h
      refine iter_G (P := P_X2_find_100 M a0 r1 r2 r3 x4) (E := E_X2_find_100 M a0 r1 r2 r3 x4) (fun s o hb hk => t_X2_find_L100 O R0 N hn a0 r1 r2 r3 x4 s.1 s.2 o hb hk) FU ((0 : Int32), σ) w5 e6 ?_
      show G M 0 0 209 [(0, vA (some a0)), (1, vA r1), (2, vA r2), (3, vA r3), (4, vI x4)] [] SX w5
      exact t_X2_find_209 O R0 N hn a0 r1 r2 r3 x4 w5 o h K
def f_X2_find_78 (a0 : Nat) (r1 : Option Nat) (r2 : Option Nat) (r3 : Option Nat) (σ : Dt) : Option (Int32 × Dt) := bo (iter FU (fun s => f_X2_find_L81 a0 r1 r2 r3 s.1 s.2) ((0 : Int32), σ)) fun w1 => some ((1 : Int32), w1)
theorem t_X2_find_78 {M : Mx} {l0 : Launch} (O : Ok M cX2_find yX2_find) (R0 : Rm M l0 6 173 0 0) (N : Ma M = false) (hn : Mn M = 7)  (a0 : Nat) (r1 : Option Nat) (r2 : Option Nat) (r3 : Option Nat) (σ : Dt) (o : (Int32 × Dt)) (h : f_X2_find_78 a0 r1 r2 r3 σ = some o) (K : Fin' M (some .boolean) 0 0 SX o.2 (some (vI o.1))) : G M 0 0 78 [(0, vA (some a0)), (1, vA r1), (2, vA r2), (3, vA r3)] [] SX σ := by
  unfold f_X2_find_78 at h
  refine g_iconst (v := (0 : Int32)) O dX2_find_78 rfl ?_
  refine g_istore (lv' := [(4, vI (0 : Int32)), (0, vA (some a0)), (1, vA r1), (2, vA r2), (3, vA r3)]) O dX2_find_79 7 hn (by decide) rfl ?_
  refine g_sub [1, 2, 3, 4, 0] (lv' := [(0, vA (some a0)), (1, vA r1), (2, vA r2), (3, vA r3), (4, vI (0 : Int32))]) rfl ?_
  obtain ⟨w1, e2, h⟩ := bo_some h
  refine iter_G (P := P_X2_find_81 M a0 r1 r2 r3) (E := E_X2_find_81 M a0 r1 r2 r3) (fun s o hb hk => t_X2_find_L81 O R0 N hn a0 r1 r2 r3 s.1 s.2 o hb hk) FU ((0 : Int32), σ) w1 e2 ?_
  show G M 0 0 215 [] [] SX w1
  refine g_iconst (v := (1 : Int32)) O dX2_find_215 rfl ?_
  cases h
  exact g_zreturn O (by decide) K dX2_find_216
def f_X2_find (a0 : Nat) (r1 : Option Nat) (r2 : Option Nat) (r3 : Option Nat) (σ : Dt) : Option (Int32 × Dt) := bo (xpi SX 2 0 (some a0) (0 : Int32) σ) fun σ1 => bo (xpi SX 2 1 (some a0) (0 : Int32) σ1) fun σ3 => bo (xpi SX 2 2 (some a0) (0 : Int32) σ3) fun σ5 => if r1 = none then some ((0 : Int32), σ5) else if r2 = none then some ((0 : Int32), σ5) else if r3 = none then some ((0 : Int32), σ5) else bo (xgi SX 9 1 r1 σ5) fun v10 => bo (xpi SX 2 2 (some a0) v10 σ5) fun σ12 => bo (iter FU (fun s => f_X2_find_L40 a0 r1 r2 r3 s σ12) (0 : Int32)) fun w14 => el (fun w16 => some ((0 : Int32), σ12)) (fun w16 => f_X2_find_78 a0 r1 r2 r3 σ12) w14
theorem t_X2_find {M : Mx} {l0 : Launch} (O : Ok M cX2_find yX2_find) (R0 : Rm M l0 6 173 0 0) (N : Ma M = false) (hn : Mn M = 7) (a0 : Nat) (r1 : Option Nat) (r2 : Option Nat) (r3 : Option Nat) (σ : Dt) (o : (Int32 × Dt)) (h : f_X2_find a0 r1 r2 r3 σ = some o) (K : Fin' M (some .boolean) 0 0 SX o.2 (some (vI o.1))) : G M 0 0 0 [(0, vA (some a0)), (1, vA r1), (2, vA r2), (3, vA r3)] [] SX σ := by
  unfold f_X2_find at h
  refine g_aload_n O dX2_find_0 rfl 0 rfl ?_
  refine g_iconst (v := (0 : Int32)) O dX2_find_1 rfl ?_
  obtain ⟨σ1, e2, h⟩ := bo_some h
  refine g_putI O dX2_find_2 fl_X2_24 (Or.inl rfl) rfl e2 ?_
  refine g_aload_n O dX2_find_5 rfl 0 rfl ?_
  refine g_iconst (v := (0 : Int32)) O dX2_find_6 rfl ?_
  obtain ⟨σ3, e4, h⟩ := bo_some h
  refine g_putI O dX2_find_7 fl_X2_28 (Or.inl rfl) rfl e4 ?_
  refine g_aload_n O dX2_find_10 rfl 0 rfl ?_
  refine g_iconst (v := (0 : Int32)) O dX2_find_11 rfl ?_
  obtain ⟨σ5, e6, h⟩ := bo_some h
  refine g_putI O dX2_find_12 fl_X2_31 (Or.inl rfl) rfl e6 ?_
  refine g_aload_n O dX2_find_15 rfl 1 rfl ?_
  refine g_ifnull O dX2_find_16 rfl (fun c7 => ?_) (fun c7 => ?_)
  · replace h := (if_pos c7).symm.trans h
    refine g_iconst (v := (0 : Int32)) O dX2_find_27 rfl ?_
    cases h
    exact g_zreturn O (by decide) K dX2_find_28
  · replace h := (if_neg c7).symm.trans h
    refine g_aload_n O dX2_find_19 rfl 2 rfl ?_
    refine g_ifnull O dX2_find_20 rfl (fun c8 => ?_) (fun c8 => ?_)
    · replace h := (if_pos c8).symm.trans h
      refine g_iconst (v := (0 : Int32)) O dX2_find_27 rfl ?_
      cases h
      exact g_zreturn O (by decide) K dX2_find_28
    · replace h := (if_neg c8).symm.trans h
      refine g_aload_n O dX2_find_23 rfl 3 rfl ?_
      refine g_ifnonnull O dX2_find_24 rfl (fun c9 => ?_) (fun c9 => ?_)
      · replace h := (if_neg c9).symm.trans h
        refine g_aload_n O dX2_find_29 rfl 0 rfl ?_
        refine g_aload_n O dX2_find_30 rfl 1 rfl ?_
        obtain ⟨v10, e11, h⟩ := bo_some h
        refine g_getI O dX2_find_31 fl_X2_34 rfl e11 ?_
        obtain ⟨σ12, e13, h⟩ := bo_some h
        refine g_putI O dX2_find_34 fl_X2_31 (Or.inl rfl) rfl e13 ?_
        refine g_iconst (v := (0 : Int32)) O dX2_find_37 rfl ?_
        refine g_istore (lv' := [(4, vI (0 : Int32)), (0, vA (some a0)), (1, vA r1), (2, vA r2), (3, vA r3)]) O dX2_find_38 7 hn (by decide) rfl ?_
        refine g_sub [1, 2, 3, 4, 0] (lv' := [(0, vA (some a0)), (1, vA r1), (2, vA r2), (3, vA r3), (4, vI (0 : Int32))]) rfl ?_
        obtain ⟨w14, e15, h⟩ := bo_some h
        refine iter_G (P := P_X2_find_40 M a0 r1 r2 r3 σ12) (E := E_X2_find_40 M a0 r1 r2 r3 σ12) (fun s o hb hk => t_X2_find_L40 O R0 N hn a0 r1 r2 r3 s σ12 o hb hk) FU (0 : Int32) w14 e15 ?_
        rcases w14 with w16 | w16
        · replace h := el_l h
          show G M 0 0 70 [] [] SX σ12
          refine g_iconst (v := (0 : Int32)) O dX2_find_70 rfl ?_
          cases h
          exact g_zreturn O (by decide) K dX2_find_71
        · replace h := el_r h
          show G M 0 0 78 [(0, vA (some a0)), (1, vA r1), (2, vA r2), (3, vA r3)] [] SX σ12
          exact t_X2_find_78 O R0 N hn a0 r1 r2 r3 σ12 o h K
      · replace h := (if_pos c9).symm.trans h
        refine g_iconst (v := (0 : Int32)) O dX2_find_27 rfl ?_
        cases h
        exact g_zreturn O (by decide) K dX2_find_28
theorem c_X2_find (l0 : Launch) (a0 : Nat) (r1 : Option Nat) (r2 : Option Nat) (r3 : Option Nat) (σ : Dt) (r : Int32) (σ' : Dt) (h : f_X2_find a0 r1 r2 r3 σ = some (r, σ')) : Ctr l0 yX2_find cX2_find 7 (some .boolean) false 6 173 0 0 [vA (some a0), vA r1, vA r2, vA r3] SX σ SX σ' (some (vI r)) := ctr_of (by decide) (Nat.le_of_ble_eq_true rfl) (fun M O F R0 N hn => t_X2_find O R0 N hn a0 r1 r2 r3 σ (r, σ') h F)
def f_X11_findFits_49  (σ : Dt) : Option (Int32 × Dt) := some ((0 : Int32), σ)
theorem t_X11_findFits_49 {M : Mx} {l0 : Launch} (O : Ok M cX11_findFits yX11_findFits) (R0 : Rm M l0 7 199 0 0) (N : Ma M = false) (hn : Mn M = 5)   (σ : Dt) (o : (Int32 × Dt)) (h : f_X11_findFits_49 σ = some o) (K : Fin' M (some .boolean) 0 0 SX o.2 (some (vI o.1))) : G M 0 0 49 [] [] SX σ := by
  unfold f_X11_findFits_49 at h
  refine g_iconst (v := (0 : Int32)) O dX11_findFits_49 rfl ?_
  cases h
  exact g_zreturn O (by decide) K dX11_findFits_50
def f_X11_findFits (a0 : Nat) (x1 : Int32) (x2 : Int32) (σ : Dt) : Option (Int32 × Dt) := bo (xgr SX 11 0 (some a0) σ) fun v1 => bo (xrc SX 8 v1) fun a3 => bo (f_X8_valleyAt a3 x1 σ) fun v5 => bo (xgr SX 11 0 (some a0) σ) fun v7 => bo (xrc SX 8 v7) fun a9 => bo (f_X8_sightAt a9 x2 σ) fun v11 => if v5 = none then f_X11_findFits_49 σ else if v11 = none then f_X11_findFits_49 σ else bo (xgr SX 11 5 (some a0) σ) fun v15 => bo (xgr SX 11 4 (some a0) σ) fun v17 => bo (xrc SX 2 v15) fun a19 => bd (f_X2_find a19 v5 v11 v17 σ) fun v21 σ22 => if v21 = 0 then f_X11_findFits_49 σ22 else some ((1 : Int32), σ22)
theorem t_X11_findFits {M : Mx} {l0 : Launch} (O : Ok M cX11_findFits yX11_findFits) (R0 : Rm M l0 7 199 0 0) (N : Ma M = false) (hn : Mn M = 5) (a0 : Nat) (x1 : Int32) (x2 : Int32) (σ : Dt) (o : (Int32 × Dt)) (h : f_X11_findFits a0 x1 x2 σ = some o) (K : Fin' M (some .boolean) 0 0 SX o.2 (some (vI o.1))) : G M 0 0 0 [(0, vA (some a0)), (1, vI x1), (2, vI x2)] [] SX σ := by
  unfold f_X11_findFits at h
  refine g_aload_n O dX11_findFits_0 rfl 0 rfl ?_
  obtain ⟨v1, e2, h⟩ := bo_some h
  refine g_getR O dX11_findFits_1 fl_X11_12 rfl e2 ?_
  refine g_iload_n O dX11_findFits_4 rfl 1 rfl ?_
  obtain ⟨a3, e4, h⟩ := bo_some h
  obtain ⟨v5, e6, h⟩ := bo_some h
  refine g_cV1 O R0 N dX11_findFits_5 vl_X11_105 vv_X8_valleyAt e4 [vI x1] rfl rfl rfl ⟨Nat.le_of_ble_eq_true rfl, Nat.le_of_ble_eq_true rfl⟩ (c_X8_valleyAt l0 a3 x1 σ v5 e6) ?_
  refine g_astore_n (lv' := [(3, vA v5), (0, vA (some a0)), (1, vI x1), (2, vI x2)]) O dX11_findFits_8 rfl 5 hn (by decide) rfl ?_
  refine g_aload_n O dX11_findFits_9 rfl 1 rfl ?_
  obtain ⟨v7, e8, h⟩ := bo_some h
  refine g_getR O dX11_findFits_10 fl_X11_12 rfl e8 ?_
  refine g_iload_n O dX11_findFits_13 rfl 3 rfl ?_
  obtain ⟨a9, e10, h⟩ := bo_some h
  obtain ⟨v11, e12, h⟩ := bo_some h
  refine g_cV1 O R0 N dX11_findFits_14 vl_X11_221 vv_X8_sightAt e10 [vI x2] rfl rfl rfl ⟨Nat.le_of_ble_eq_true rfl, Nat.le_of_ble_eq_true rfl⟩ (c_X8_sightAt l0 a9 x2 σ v11 e12) ?_
  refine g_astore (lv' := [(4, vA v11), (3, vA v5), (0, vA (some a0)), (1, vI x1), (2, vI x2)]) O dX11_findFits_17 5 hn (by decide) rfl ?_
  refine g_aload_n O dX11_findFits_19 rfl 1 rfl ?_
  refine g_ifnull O dX11_findFits_20 rfl (fun c13 => ?_) (fun c13 => ?_)
  · replace h := (if_pos c13).symm.trans h
    refine g_sub [] (lv' := []) rfl ?_
    exact t_X11_findFits_49 O R0 N hn σ o h K
  · replace h := (if_neg c13).symm.trans h
    refine g_aload O dX11_findFits_23 0 rfl ?_
    refine g_ifnull O dX11_findFits_25 rfl (fun c14 => ?_) (fun c14 => ?_)
    · replace h := (if_pos c14).symm.trans h
      refine g_sub [] (lv' := []) rfl ?_
      exact t_X11_findFits_49 O R0 N hn σ o h K
    · replace h := (if_neg c14).symm.trans h
      refine g_aload_n O dX11_findFits_28 rfl 2 rfl ?_
      obtain ⟨v15, e16, h⟩ := bo_some h
      refine g_getR O dX11_findFits_29 fl_X11_41 rfl e16 ?_
      refine g_aload_n O dX11_findFits_32 rfl 1 rfl ?_
      refine g_aload O dX11_findFits_33 0 rfl ?_
      refine g_aload_n O dX11_findFits_35 rfl 2 rfl ?_
      obtain ⟨v17, e18, h⟩ := bo_some h
      refine g_getR O dX11_findFits_36 fl_X11_34 rfl e18 ?_
      obtain ⟨a19, e20, h⟩ := bo_some h
      obtain ⟨v21, σ22, e23, h⟩ := bd_some h
      refine g_cV1 O R0 N dX11_findFits_39 vl_X11_292 vv_X2_find e20 [vA v5, vA v11, vA v17] rfl rfl rfl ⟨Nat.le_of_ble_eq_true rfl, Nat.le_of_ble_eq_true rfl⟩ (c_X2_find l0 a19 v5 v11 v17 σ v21 σ22 e23) ?_
      refine g_if_eq O dX11_findFits_42 rfl (fun c24 => ?_) (fun c24 => ?_)
      · replace h := (if_pos c24).symm.trans h
        refine g_sub [] (lv' := []) rfl ?_
        exact t_X11_findFits_49 O R0 N hn σ22 o h K
      · replace h := (if_neg c24).symm.trans h
        refine g_iconst (v := (1 : Int32)) O dX11_findFits_45 rfl ?_
        refine g_goto O dX11_findFits_46 rfl ?_
        cases h
        exact g_zreturn O (by decide) K dX11_findFits_50
theorem c_X11_findFits (l0 : Launch) (a0 : Nat) (x1 : Int32) (x2 : Int32) (σ : Dt) (r : Int32) (σ' : Dt) (h : f_X11_findFits a0 x1 x2 σ = some (r, σ')) : Ctr l0 yX11_findFits cX11_findFits 5 (some .boolean) false 7 199 0 0 [vA (some a0), vI x1, vI x2] SX σ SX σ' (some (vI r)) := ctr_of (by decide) (Nat.le_of_ble_eq_true rfl) (fun M O F R0 N hn => t_X11_findFits O R0 N hn a0 x1 x2 σ (r, σ') h F)
def f_X2_has_22  (σ : Dt) : Option Int32 := some (0 : Int32)
theorem t_X2_has_22 {M : Mx} {l0 : Launch} (O : Ok M cX2_has yX2_has) (R0 : Rm M l0 2 80 0 0) (N : Ma M = false) (hn : Mn M = 2)   (σ : Dt) (o : Int32) (h : f_X2_has_22 σ = some o) (K : Fin' M (some .boolean) 0 0 SX σ (some (vI o))) : G M 0 0 22 [] [] SX σ := by
  unfold f_X2_has_22 at h
  refine g_iconst (v := (0 : Int32)) O dX2_has_22 rfl ?_
  cases h
  exact g_zreturn O (by decide) K dX2_has_23
def f_X2_has (a0 : Nat) (x1 : Int32) (σ : Dt) : Option Int32 := if x1 < 0 then f_X2_has_22 σ else bo (xgi SX 2 0 (some a0) σ) fun v2 => if v2 ≤ x1 then f_X2_has_22 σ else if (60 : Int32) ≤ x1 then f_X2_has_22 σ else some (1 : Int32)
theorem t_X2_has {M : Mx} {l0 : Launch} (O : Ok M cX2_has yX2_has) (R0 : Rm M l0 2 80 0 0) (N : Ma M = false) (hn : Mn M = 2) (a0 : Nat) (x1 : Int32) (σ : Dt) (o : Int32) (h : f_X2_has a0 x1 σ = some o) (K : Fin' M (some .boolean) 0 0 SX σ (some (vI o))) : G M 0 0 0 [(0, vA (some a0)), (1, vI x1)] [] SX σ := by
  unfold f_X2_has at h
  refine g_iload_n O dX2_has_0 rfl 1 rfl ?_
  refine g_if_lt O dX2_has_1 rfl (fun c1 => ?_) (fun c1 => ?_)
  · replace h := (if_pos c1).symm.trans h
    refine g_sub [] (lv' := []) rfl ?_
    exact t_X2_has_22 O R0 N hn σ o h K
  · replace h := (if_neg c1).symm.trans h
    refine g_iload_n O dX2_has_4 rfl 1 rfl ?_
    refine g_aload_n O dX2_has_5 rfl 0 rfl ?_
    obtain ⟨v2, e3, h⟩ := bo_some h
    refine g_getI O dX2_has_6 fl_X2_24 rfl e3 ?_
    refine g_icmp_ge O dX2_has_9 rfl (fun c4 => ?_) (fun c4 => ?_)
    · replace h := (if_pos c4).symm.trans h
      refine g_sub [] (lv' := []) rfl ?_
      exact t_X2_has_22 O R0 N hn σ o h K
    · replace h := (if_neg c4).symm.trans h
      refine g_iload_n O dX2_has_12 rfl 1 rfl ?_
      refine g_bipush (v := (60 : Int32)) O dX2_has_13 rfl ?_
      refine g_icmp_ge O dX2_has_15 rfl (fun c5 => ?_) (fun c5 => ?_)
      · replace h := (if_pos c5).symm.trans h
        refine g_sub [] (lv' := []) rfl ?_
        exact t_X2_has_22 O R0 N hn σ o h K
      · replace h := (if_neg c5).symm.trans h
        refine g_iconst (v := (1 : Int32)) O dX2_has_18 rfl ?_
        refine g_goto O dX2_has_19 rfl ?_
        cases h
        exact g_zreturn O (by decide) K dX2_has_23
theorem c_X2_has (l0 : Launch) (a0 : Nat) (x1 : Int32) (σ : Dt) (r : Int32) (h : f_X2_has a0 x1 σ = some r) : Ctr l0 yX2_has cX2_has 2 (some .boolean) false 2 80 0 0 [vA (some a0), vI x1] SX σ SX σ (some (vI r)) := ctr_of (by decide) (Nat.le_of_ble_eq_true rfl) (fun M O F R0 N hn => t_X2_has O R0 N hn a0 x1 σ r h F)
def P_X2_manyBy_4 (M : Mx) (a0 : Nat) (x1 : Int32) (σ : Dt) (s : (Int32 × Int32)) : Prop := G M 0 0 4 [(0, vA (some a0)), (1, vI x1), (2, vI s.1), (3, vI s.2)] [] SX σ
def E_X2_manyBy_4 (M : Mx) (a0 : Nat) (x1 : Int32) (σ : Dt) : Int32 → Prop := (fun w => G M 0 0 37 [(2, vI w)] [] SX σ)
def f_X2_manyBy_31 (a0 : Nat) (x1 : Int32) (x2 : Int32) (x3 : Int32) (σ : Dt) : Option ((Int32 × Int32) ⊕ Int32) := some (.inl (x2, (x3 + (1 : Int32))))
theorem t_X2_manyBy_31 {M : Mx} {l0 : Launch} (O : Ok M cX2_manyBy yX2_manyBy) (R0 : Rm M l0 2 80 0 0) (N : Ma M = false) (hn : Mn M = 4)  (a0 : Nat) (x1 : Int32) (x2 : Int32) (x3 : Int32) (σ : Dt) (o : ((Int32 × Int32) ⊕ Int32)) (h : f_X2_manyBy_31 a0 x1 x2 x3 σ = some o) (K : kon (P_X2_manyBy_4 M a0 x1 σ) (E_X2_manyBy_4 M a0 x1 σ) o) : G M 0 0 31 [(0, vA (some a0)), (1, vI x1), (2, vI x2), (3, vI x3)] [] SX σ := by
  unfold f_X2_manyBy_31 at h
  refine g_iinc (v := (x3 + (1 : Int32))) (lv' := [(3, vI (x3 + (1 : Int32))), (0, vA (some a0)), (1, vI x1), (2, vI x2)]) O dX2_manyBy_31 4 hn (by decide) 3 rfl rfl rfl ?_
  refine g_goto O dX2_manyBy_34 rfl ?_
  refine g_sub [1, 2, 3, 0] (lv' := [(0, vA (some a0)), (1, vI x1), (2, vI x2), (3, vI (x3 + (1 : Int32)))]) rfl ?_
  cases h
  exact K
def f_X2_manyBy_L4 (a0 : Nat) (x1 : Int32) (x2 : Int32) (x3 : Int32) (σ : Dt) : Option ((Int32 × Int32) ⊕ Int32) := bo (xgi SX 2 0 (some a0) σ) fun v1 => if v1 ≤ x3 then some (.inr x2) else if (60 : Int32) ≤ x3 then some (.inr x2) else bo (xgr SX 2 3 (some a0) σ) fun v5 => bo (xai SX v5 x3 σ) fun v7 => if v7 = x1 then f_X2_manyBy_31 a0 x1 (x2 + (1 : Int32)) x3 σ else f_X2_manyBy_31 a0 x1 x2 x3 σ
theorem t_X2_manyBy_L4 {M : Mx} {l0 : Launch} (O : Ok M cX2_manyBy yX2_manyBy) (R0 : Rm M l0 2 80 0 0) (N : Ma M = false) (hn : Mn M = 4) (a0 : Nat) (x1 : Int32) (x2 : Int32) (x3 : Int32) (σ : Dt) (o : ((Int32 × Int32) ⊕ Int32)) (h : f_X2_manyBy_L4 a0 x1 x2 x3 σ = some o) (K : kon (P_X2_manyBy_4 M a0 x1 σ) (E_X2_manyBy_4 M a0 x1 σ) o) : G M 0 0 4 [(0, vA (some a0)), (1, vI x1), (2, vI x2), (3, vI x3)] [] SX σ := by
  unfold f_X2_manyBy_L4 at h
  refine g_iload_n O dX2_manyBy_4 rfl 3 rfl ?_
  refine g_aload_n O dX2_manyBy_5 rfl 0 rfl ?_
  obtain ⟨v1, e2, h⟩ := bo_some h
  refine g_getI O dX2_manyBy_6 fl_X2_24 rfl e2 ?_
  refine g_icmp_ge O dX2_manyBy_9 rfl (fun c3 => ?_) (fun c3 => ?_)
  · replace h := (if_pos c3).symm.trans h
    refine g_sub [2] (lv' := [(2, vI x2)]) rfl ?_
    cases h
    exact K
  · replace h := (if_neg c3).symm.trans h
    refine g_iload_n O dX2_manyBy_12 rfl 3 rfl ?_
    refine g_bipush (v := (60 : Int32)) O dX2_manyBy_13 rfl ?_
    refine g_icmp_ge O dX2_manyBy_15 rfl (fun c4 => ?_) (fun c4 => ?_)
    · replace h := (if_pos c4).symm.trans h
      refine g_sub [2] (lv' := [(2, vI x2)]) rfl ?_
      cases h
      exact K
    · replace h := (if_neg c4).symm.trans h
      refine g_aload_n O dX2_manyBy_18 rfl 0 rfl ?_
      obtain ⟨v5, e6, h⟩ := bo_some h
      refine g_getR O dX2_manyBy_19 fl_X2_11 rfl e6 ?_
      refine g_iload_n O dX2_manyBy_22 rfl 3 rfl ?_
      obtain ⟨v7, e8, h⟩ := bo_some h
      refine g_iaload O dX2_manyBy_23 e8 ?_
      refine g_iload_n O dX2_manyBy_24 rfl 1 rfl ?_
      refine g_icmp_ne O dX2_manyBy_25 rfl (fun c9 => ?_) (fun c9 => ?_)
      · replace h := (if_pos c9).symm.trans h
        refine g_iinc (v := (x2 + (1 : Int32))) (lv' := [(2, vI (x2 + (1 : Int32))), (0, vA (some a0)), (1, vI x1), (3, vI x3)]) O dX2_manyBy_28 4 hn (by decide) 2 rfl rfl rfl ?_
        refine g_sub [1, 2, 0, 3] (lv' := [(0, vA (some a0)), (1, vI x1), (2, vI (x2 + (1 : Int32))), (3, vI x3)]) rfl ?_
        exact t_X2_manyBy_31 O R0 N hn a0 x1 (x2 + (1 : Int32)) x3 σ o h K
      · replace h := (if_neg c9).symm.trans h
        exact t_X2_manyBy_31 O R0 N hn a0 x1 x2 x3 σ o h K
def f_X2_manyBy (a0 : Nat) (x1 : Int32) (σ : Dt) : Option Int32 := bo (iter FU (fun s => f_X2_manyBy_L4 a0 x1 s.1 s.2 σ) ((0 : Int32), (0 : Int32))) fun w1 => some w1
theorem t_X2_manyBy {M : Mx} {l0 : Launch} (O : Ok M cX2_manyBy yX2_manyBy) (R0 : Rm M l0 2 80 0 0) (N : Ma M = false) (hn : Mn M = 4) (a0 : Nat) (x1 : Int32) (σ : Dt) (o : Int32) (h : f_X2_manyBy a0 x1 σ = some o) (K : Fin' M (some .int) 0 0 SX σ (some (vI o))) : G M 0 0 0 [(0, vA (some a0)), (1, vI x1)] [] SX σ := by
  unfold f_X2_manyBy at h
  refine g_iconst (v := (0 : Int32)) O dX2_manyBy_0 rfl ?_
  refine g_istore_n (lv' := [(2, vI (0 : Int32)), (0, vA (some a0)), (1, vI x1)]) O dX2_manyBy_1 rfl 4 hn (by decide) rfl ?_
  refine g_iconst (v := (0 : Int32)) O dX2_manyBy_2 rfl ?_
  refine g_istore_n (lv' := [(3, vI (0 : Int32)), (2, vI (0 : Int32)), (0, vA (some a0)), (1, vI x1)]) O dX2_manyBy_3 rfl 4 hn (by decide) rfl ?_
  refine g_sub [2, 3, 1, 0] (lv' := [(0, vA (some a0)), (1, vI x1), (2, vI (0 : Int32)), (3, vI (0 : Int32))]) rfl ?_
  obtain ⟨w1, e2, h⟩ := bo_some h
  refine iter_G (P := P_X2_manyBy_4 M a0 x1 σ) (E := E_X2_manyBy_4 M a0 x1 σ) (fun s o hb hk => t_X2_manyBy_L4 O R0 N hn a0 x1 s.1 s.2 σ o hb hk) FU ((0 : Int32), (0 : Int32)) w1 e2 ?_
  show G M 0 0 37 [(2, vI w1)] [] SX σ
  refine g_iload_n O dX2_manyBy_37 rfl 0 rfl ?_
  cases h
  exact g_ireturn O K dX2_manyBy_38
theorem c_X2_manyBy (l0 : Launch) (a0 : Nat) (x1 : Int32) (σ : Dt) (r : Int32) (h : f_X2_manyBy a0 x1 σ = some r) : Ctr l0 yX2_manyBy cX2_manyBy 4 (some .int) false 2 80 0 0 [vA (some a0), vI x1] SX σ SX σ (some (vI r)) := ctr_of (by decide) (Nat.le_of_ble_eq_true rfl) (fun M O F R0 N hn => t_X2_manyBy O R0 N hn a0 x1 σ r h F)
def f_X2_sureFolk_34  (σ : Dt) : Option Int32 := some (-1 : Int32)
theorem t_X2_sureFolk_34 {M : Mx} {l0 : Launch} (O : Ok M cX2_sureFolk yX2_sureFolk) (R0 : Rm M l0 3 103 0 0) (N : Ma M = false) (hn : Mn M = 1)   (σ : Dt) (o : Int32) (h : f_X2_sureFolk_34 σ = some o) (K : Fin' M (some .int) 0 0 SX σ (some (vI o))) : G M 0 0 34 [] [] SX σ := by
  unfold f_X2_sureFolk_34 at h
  refine g_iconst (v := (-1 : Int32)) O dX2_sureFolk_34 rfl ?_
  cases h
  exact g_ireturn O K dX2_sureFolk_35
def f_X2_sureFolk (a0 : Nat) (σ : Dt) : Option Int32 := bo (xrc SX 2 (some a0)) fun a1 => bo (f_X2_has a1 (0 : Int32) σ) fun v3 => if v3 = 0 then f_X2_sureFolk_34 σ else bo (xgr SX 2 3 (some a0) σ) fun v6 => bo (xai SX v6 (0 : Int32) σ) fun v8 => bo (xrc SX 2 (some a0)) fun a10 => bo (f_X2_manyBy a10 v8 σ) fun v12 => bo (xgi SX 2 0 (some a0) σ) fun v14 => if v12 = v14 then bo (xgr SX 2 3 (some a0) σ) fun v17 => bo (xai SX v17 (0 : Int32) σ) fun v19 => some v19 else f_X2_sureFolk_34 σ
theorem t_X2_sureFolk {M : Mx} {l0 : Launch} (O : Ok M cX2_sureFolk yX2_sureFolk) (R0 : Rm M l0 3 103 0 0) (N : Ma M = false) (hn : Mn M = 1) (a0 : Nat) (σ : Dt) (o : Int32) (h : f_X2_sureFolk a0 σ = some o) (K : Fin' M (some .int) 0 0 SX σ (some (vI o))) : G M 0 0 0 [(0, vA (some a0))] [] SX σ := by
  unfold f_X2_sureFolk at h
  refine g_aload_n O dX2_sureFolk_0 rfl 0 rfl ?_
  refine g_iconst (v := (0 : Int32)) O dX2_sureFolk_1 rfl ?_
  obtain ⟨a1, e2, h⟩ := bo_some h
  obtain ⟨v3, e4, h⟩ := bo_some h
  refine g_cV1 O R0 N dX2_sureFolk_2 vl_X2_89 vv_X2_has e2 [vI (0 : Int32)] rfl rfl rfl ⟨Nat.le_of_ble_eq_true rfl, Nat.le_of_ble_eq_true rfl⟩ (c_X2_has l0 a1 (0 : Int32) σ v3 e4) ?_
  refine g_if_eq O dX2_sureFolk_5 rfl (fun c5 => ?_) (fun c5 => ?_)
  · replace h := (if_pos c5).symm.trans h
    refine g_sub [] (lv' := []) rfl ?_
    exact t_X2_sureFolk_34 O R0 N hn σ o h K
  · replace h := (if_neg c5).symm.trans h
    refine g_aload_n O dX2_sureFolk_8 rfl 0 rfl ?_
    refine g_aload_n O dX2_sureFolk_9 rfl 0 rfl ?_
    obtain ⟨v6, e7, h⟩ := bo_some h
    refine g_getR O dX2_sureFolk_10 fl_X2_11 rfl e7 ?_
    refine g_iconst (v := (0 : Int32)) O dX2_sureFolk_13 rfl ?_
    obtain ⟨v8, e9, h⟩ := bo_some h
    refine g_iaload O dX2_sureFolk_14 e9 ?_
    obtain ⟨a10, e11, h⟩ := bo_some h
    obtain ⟨v12, e13, h⟩ := bo_some h
    refine g_cV1 O R0 N dX2_sureFolk_15 vl_X2_92 vv_X2_manyBy e11 [vI v8] rfl rfl rfl ⟨Nat.le_of_ble_eq_true rfl, Nat.le_of_ble_eq_true rfl⟩ (c_X2_manyBy l0 a10 v8 σ v12 e13) ?_
    refine g_aload_n O dX2_sureFolk_18 rfl 0 rfl ?_
    obtain ⟨v14, e15, h⟩ := bo_some h
    refine g_getI O dX2_sureFolk_19 fl_X2_24 rfl e15 ?_
    refine g_icmp_ne O dX2_sureFolk_22 rfl (fun c16 => ?_) (fun c16 => ?_)
    · replace h := (if_pos c16).symm.trans h
      refine g_aload_n O dX2_sureFolk_25 rfl 0 rfl ?_
      obtain ⟨v17, e18, h⟩ := bo_some h
      refine g_getR O dX2_sureFolk_26 fl_X2_11 rfl e18 ?_
      refine g_iconst (v := (0 : Int32)) O dX2_sureFolk_29 rfl ?_
      obtain ⟨v19, e20, h⟩ := bo_some h
      refine g_iaload O dX2_sureFolk_30 e20 ?_
      refine g_goto O dX2_sureFolk_31 rfl ?_
      cases h
      exact g_ireturn O K dX2_sureFolk_35
    · replace h := (if_neg c16).symm.trans h
      refine g_sub [] (lv' := []) rfl ?_
      exact t_X2_sureFolk_34 O R0 N hn σ o h K
theorem c_X2_sureFolk (l0 : Launch) (a0 : Nat) (σ : Dt) (r : Int32) (h : f_X2_sureFolk a0 σ = some r) : Ctr l0 yX2_sureFolk cX2_sureFolk 1 (some .int) false 3 103 0 0 [vA (some a0)] SX σ SX σ (some (vI r)) := ctr_of (by decide) (Nat.le_of_ble_eq_true rfl) (fun M O F R0 N hn => t_X2_sureFolk O R0 N hn a0 σ r h F)
def P_X2_greatestAlike_2 (M : Mx) (a0 : Nat) (x1 : Int32) (s : (Int32 × Dt)) : Prop := G M 0 0 2 [(0, vA (some a0)), (1, vI x1), (2, vI s.1)] [] SX s.2
def E_X2_greatestAlike_2 (M : Mx) (a0 : Nat) (x1 : Int32) : Dt → Prop := (fun w => G M 0 0 21 [(0, vA (some a0)), (1, vI x1)] [] SX w)
def f_X2_greatestAlike_L2 (a0 : Nat) (x1 : Int32) (x2 : Int32) (σ : Dt) : Option ((Int32 × Dt) ⊕ Dt) := if (30 : Int32) < x2 then some (.inr σ) else bo (xgr SX 2 6 (some a0) σ) fun v2 => bo (xsi SX v2 x2 (0 : Int32) σ) fun σ4 => some (.inl ((x2 + (1 : Int32)), σ4))
theorem t_X2_greatestAlike_L2 {M : Mx} {l0 : Launch} (O : Ok M cX2_greatestAlike yX2_greatestAlike) (R0 : Rm M l0 2 80 0 0) (N : Ma M = false) (hn : Mn M = 5) (a0 : Nat) (x1 : Int32) (x2 : Int32) (σ : Dt) (o : ((Int32 × Dt) ⊕ Dt)) (h : f_X2_greatestAlike_L2 a0 x1 x2 σ = some o) (K : kon (P_X2_greatestAlike_2 M a0 x1) (E_X2_greatestAlike_2 M a0 x1) o) : G M 0 0 2 [(0, vA (some a0)), (1, vI x1), (2, vI x2)] [] SX σ := by
  unfold f_X2_greatestAlike_L2 at h
  refine g_iload_n O dX2_greatestAlike_2 rfl 2 rfl ?_
  refine g_bipush (v := (30 : Int32)) O dX2_greatestAlike_3 rfl ?_
  refine g_icmp_gt O dX2_greatestAlike_5 rfl (fun c1 => ?_) (fun c1 => ?_)
  · replace h := (if_pos c1).symm.trans h
    refine g_sub [0, 1] (lv' := [(0, vA (some a0)), (1, vI x1)]) rfl ?_
    cases h
    exact K
  · replace h := (if_neg c1).symm.trans h
    refine g_aload_n O dX2_greatestAlike_8 rfl 0 rfl ?_
    obtain ⟨v2, e3, h⟩ := bo_some h
    refine g_getR O dX2_greatestAlike_9 fl_X2_21 rfl e3 ?_
    refine g_iload_n O dX2_greatestAlike_12 rfl 2 rfl ?_
    refine g_iconst (v := (0 : Int32)) O dX2_greatestAlike_13 rfl ?_
    obtain ⟨σ4, e5, h⟩ := bo_some h
    refine g_iastore O dX2_greatestAlike_14 e5 ?_
    refine g_iinc (v := (x2 + (1 : Int32))) (lv' := [(2, vI (x2 + (1 : Int32))), (0, vA (some a0)), (1, vI x1)]) O dX2_greatestAlike_15 5 hn (by decide) 2 rfl rfl rfl ?_
    refine g_goto O dX2_greatestAlike_18 rfl ?_
    refine g_sub [1, 2, 0] (lv' := [(0, vA (some a0)), (1, vI x1), (2, vI (x2 + (1 : Int32)))]) rfl ?_
    cases h
    exact K
def P_X2_greatestAlike_25 (M : Mx) (a0 : Nat) (x1 : Int32) (s : (Int32 × Int32 × Dt)) : Prop := G M 0 0 25 [(0, vA (some a0)), (1, vI x1), (2, vI s.1), (3, vI s.2.1)] [] SX s.2.2
def E_X2_greatestAlike_25 (M : Mx) (a0 : Nat) (x1 : Int32) : (Int32 × Dt) → Prop := (fun w => G M 0 0 102 [(2, vI w.1)] [] SX w.2)
def f_X2_greatestAlike_96 (a0 : Nat) (x1 : Int32) (x2 : Int32) (x3 : Int32) (σ : Dt) : Option ((Int32 × Int32 × Dt) ⊕ (Int32 × Dt)) := some (.inl (x2, (x3 + (1 : Int32)), σ))
theorem t_X2_greatestAlike_96 {M : Mx} {l0 : Launch} (O : Ok M cX2_greatestAlike yX2_greatestAlike) (R0 : Rm M l0 2 80 0 0) (N : Ma M = false) (hn : Mn M = 5)  (a0 : Nat) (x1 : Int32) (x2 : Int32) (x3 : Int32) (σ : Dt) (o : ((Int32 × Int32 × Dt) ⊕ (Int32 × Dt))) (h : f_X2_greatestAlike_96 a0 x1 x2 x3 σ = some o) (K : kon (P_X2_greatestAlike_25 M a0 x1) (E_X2_greatestAlike_25 M a0 x1) o) : G M 0 0 96 [(0, vA (some a0)), (1, vI x1), (2, vI x2), (3, vI x3)] [] SX σ := by
  unfold f_X2_greatestAlike_96 at h
  refine g_iinc (v := (x3 + (1 : Int32))) (lv' := [(3, vI (x3 + (1 : Int32))), (0, vA (some a0)), (1, vI x1), (2, vI x2)]) O dX2_greatestAlike_96 5 hn (by decide) 3 rfl rfl rfl ?_
  refine g_goto O dX2_greatestAlike_99 rfl ?_
  refine g_sub [1, 2, 3, 0] (lv' := [(0, vA (some a0)), (1, vI x1), (2, vI x2), (3, vI (x3 + (1 : Int32)))]) rfl ?_
  cases h
  exact K
def f_X2_greatestAlike_59 (a0 : Nat) (x1 : Int32) (x2 : Int32) (x3 : Int32) (k0 : Int32) (σ : Dt) : Option ((Int32 × Int32 × Dt) ⊕ (Int32 × Dt)) := if k0 < 0 then f_X2_greatestAlike_96 a0 x1 x2 x3 σ else if (30 : Int32) < k0 then f_X2_greatestAlike_96 a0 x1 x2 x3 σ else bo (xgr SX 2 6 (some a0) σ) fun v3 => bo (xai SX v3 k0 σ) fun v5 => bo (xsi SX v3 k0 (v5 + (1 : Int32)) σ) fun σ7 => bo (xgr SX 2 6 (some a0) σ7) fun v9 => bo (xai SX v9 k0 σ7) fun v11 => f_X2_greatestAlike_96 a0 x1 (mmax x2 v11) x3 σ7
theorem t_X2_greatestAlike_59 {M : Mx} {l0 : Launch} (O : Ok M cX2_greatestAlike yX2_greatestAlike) (R0 : Rm M l0 2 80 0 0) (N : Ma M = false) (hn : Mn M = 5)  (a0 : Nat) (x1 : Int32) (x2 : Int32) (x3 : Int32) (k0 : Int32) (σ : Dt) (o : ((Int32 × Int32 × Dt) ⊕ (Int32 × Dt))) (h : f_X2_greatestAlike_59 a0 x1 x2 x3 k0 σ = some o) (K : kon (P_X2_greatestAlike_25 M a0 x1) (E_X2_greatestAlike_25 M a0 x1) o) : G M 0 0 59 [(0, vA (some a0)), (1, vI x1), (2, vI x2), (3, vI x3)] [vI k0] SX σ := by
  unfold f_X2_greatestAlike_59 at h
  refine g_istore (lv' := [(4, vI k0), (0, vA (some a0)), (1, vI x1), (2, vI x2), (3, vI x3)]) O dX2_greatestAlike_59 5 hn (by decide) rfl ?_
  refine g_iload O dX2_greatestAlike_61 0 rfl ?_
  refine g_if_lt O dX2_greatestAlike_63 rfl (fun c1 => ?_) (fun c1 => ?_)
  · replace h := (if_pos c1).symm.trans h
    refine g_sub [1, 2, 3, 4] (lv' := [(0, vA (some a0)), (1, vI x1), (2, vI x2), (3, vI x3)]) rfl ?_
    exact t_X2_greatestAlike_96 O R0 N hn a0 x1 x2 x3 σ o h K
  · replace h := (if_neg c1).symm.trans h
    refine g_iload O dX2_greatestAlike_66 0 rfl ?_
    refine g_bipush (v := (30 : Int32)) O dX2_greatestAlike_68 rfl ?_
    refine g_icmp_gt O dX2_greatestAlike_70 rfl (fun c2 => ?_) (fun c2 => ?_)
    · replace h := (if_pos c2).symm.trans h
      refine g_sub [1, 2, 3, 4] (lv' := [(0, vA (some a0)), (1, vI x1), (2, vI x2), (3, vI x3)]) rfl ?_
      exact t_X2_greatestAlike_96 O R0 N hn a0 x1 x2 x3 σ o h K
    · replace h := (if_neg c2).symm.trans h
      refine g_aload_n O dX2_greatestAlike_73 rfl 1 rfl ?_
      obtain ⟨v3, e4, h⟩ := bo_some h
      refine g_getR O dX2_greatestAlike_74 fl_X2_21 rfl e4 ?_
      refine g_iload O dX2_greatestAlike_77 0 rfl ?_
      refine g_dup2 O dX2_greatestAlike_79 rfl rfl ?_
      obtain ⟨v5, e6, h⟩ := bo_some h
      refine g_iaload O dX2_greatestAlike_80 e6 ?_
      refine g_iconst (v := (1 : Int32)) O dX2_greatestAlike_81 rfl ?_
      refine g_iadd O dX2_greatestAlike_82 ?_
      obtain ⟨σ7, e8, h⟩ := bo_some h
      refine g_iastore O dX2_greatestAlike_83 e8 ?_
      refine g_iload_n O dX2_greatestAlike_84 rfl 3 rfl ?_
      refine g_aload_n O dX2_greatestAlike_85 rfl 1 rfl ?_
      obtain ⟨v9, e10, h⟩ := bo_some h
      refine g_getR O dX2_greatestAlike_86 fl_X2_21 rfl e10 ?_
      refine g_iload O dX2_greatestAlike_89 0 rfl ?_
      obtain ⟨v11, e12, h⟩ := bo_some h
      refine g_iaload O dX2_greatestAlike_91 e12 ?_
      refine g_mmax O R0 dX2_greatestAlike_92 w1269 ⟨Nat.le_of_ble_eq_true rfl, Nat.le_of_ble_eq_true rfl⟩ ?_
      refine g_istore_n (lv' := [(2, vI (mmax x2 v11)), (4, vI k0), (0, vA (some a0)), (1, vI x1), (3, vI x3)]) O dX2_greatestAlike_95 rfl 5 hn (by decide) rfl ?_
      refine g_sub [2, 3, 0, 4] (lv' := [(0, vA (some a0)), (1, vI x1), (2, vI (mmax x2 v11)), (3, vI x3)]) rfl ?_
      exact t_X2_greatestAlike_96 O R0 N hn a0 x1 (mmax x2 v11) x3 σ7 o h K
def f_X2_greatestAlike_L25 (a0 : Nat) (x1 : Int32) (x2 : Int32) (x3 : Int32) (σ : Dt) : Option ((Int32 × Int32 × Dt) ⊕ (Int32 × Dt)) := bo (xgi SX 2 0 (some a0) σ) fun v1 => if v1 ≤ x3 then some (.inr (x2, σ)) else if (60 : Int32) ≤ x3 then some (.inr (x2, σ)) else bo (xgr SX 2 4 (some a0) σ) fun v5 => bo (xai SX v5 x3 σ) fun v7 => if v7 = x1 then bo (xgr SX 2 5 (some a0) σ) fun v10 => bo (xai SX v10 x3 σ) fun v12 => f_X2_greatestAlike_59 a0 x1 x2 x3 v12 σ else f_X2_greatestAlike_59 a0 x1 x2 x3 (0 : Int32) σ
theorem t_X2_greatestAlike_L25 {M : Mx} {l0 : Launch} (O : Ok M cX2_greatestAlike yX2_greatestAlike) (R0 : Rm M l0 2 80 0 0) (N : Ma M = false) (hn : Mn M = 5) (a0 : Nat) (x1 : Int32) (x2 : Int32) (x3 : Int32) (σ : Dt) (o : ((Int32 × Int32 × Dt) ⊕ (Int32 × Dt))) (h : f_X2_greatestAlike_L25 a0 x1 x2 x3 σ = some o) (K : kon (P_X2_greatestAlike_25 M a0 x1) (E_X2_greatestAlike_25 M a0 x1) o) : G M 0 0 25 [(0, vA (some a0)), (1, vI x1), (2, vI x2), (3, vI x3)] [] SX σ := by
  unfold f_X2_greatestAlike_L25 at h
  refine g_iload_n O dX2_greatestAlike_25 rfl 3 rfl ?_
  refine g_aload_n O dX2_greatestAlike_26 rfl 0 rfl ?_
  obtain ⟨v1, e2, h⟩ := bo_some h
  refine g_getI O dX2_greatestAlike_27 fl_X2_24 rfl e2 ?_
  refine g_icmp_ge O dX2_greatestAlike_30 rfl (fun c3 => ?_) (fun c3 => ?_)
  · replace h := (if_pos c3).symm.trans h
    refine g_sub [2] (lv' := [(2, vI x2)]) rfl ?_
    cases h
    exact K
  · replace h := (if_neg c3).symm.trans h
    refine g_iload_n O dX2_greatestAlike_33 rfl 3 rfl ?_
    refine g_bipush (v := (60 : Int32)) O dX2_greatestAlike_34 rfl ?_
    refine g_icmp_ge O dX2_greatestAlike_36 rfl (fun c4 => ?_) (fun c4 => ?_)
    · replace h := (if_pos c4).symm.trans h
      refine g_sub [2] (lv' := [(2, vI x2)]) rfl ?_
      cases h
      exact K
    · replace h := (if_neg c4).symm.trans h
      refine g_aload_n O dX2_greatestAlike_39 rfl 0 rfl ?_
      obtain ⟨v5, e6, h⟩ := bo_some h
      refine g_getR O dX2_greatestAlike_40 fl_X2_15 rfl e6 ?_
      refine g_iload_n O dX2_greatestAlike_43 rfl 3 rfl ?_
      obtain ⟨v7, e8, h⟩ := bo_some h
      refine g_iaload O dX2_greatestAlike_44 e8 ?_
      refine g_iload_n O dX2_greatestAlike_45 rfl 1 rfl ?_
      refine g_icmp_ne O dX2_greatestAlike_46 rfl (fun c9 => ?_) (fun c9 => ?_)
      · replace h := (if_pos c9).symm.trans h
        refine g_aload_n O dX2_greatestAlike_49 rfl 0 rfl ?_
        obtain ⟨v10, e11, h⟩ := bo_some h
        refine g_getR O dX2_greatestAlike_50 fl_X2_18 rfl e11 ?_
        refine g_iload_n O dX2_greatestAlike_53 rfl 3 rfl ?_
        obtain ⟨v12, e13, h⟩ := bo_some h
        refine g_iaload O dX2_greatestAlike_54 e13 ?_
        refine g_goto O dX2_greatestAlike_55 rfl ?_
        exact t_X2_greatestAlike_59 O R0 N hn a0 x1 x2 x3 v12 σ o h K
      · replace h := (if_neg c9).symm.trans h
        refine g_iconst (v := (0 : Int32)) O dX2_greatestAlike_58 rfl ?_
        exact t_X2_greatestAlike_59 O R0 N hn a0 x1 x2 x3 (0 : Int32) σ o h K
def f_X2_greatestAlike (a0 : Nat) (x1 : Int32) (σ : Dt) : Option (Int32 × Dt) := bo (iter FU (fun s => f_X2_greatestAlike_L2 a0 x1 s.1 s.2) ((0 : Int32), σ)) fun w1 => bo (iter FU (fun s => f_X2_greatestAlike_L25 a0 x1 s.1 s.2.1 s.2.2) ((0 : Int32), (0 : Int32), w1)) fun w3 => some (w3.1, w3.2)
theorem t_X2_greatestAlike {M : Mx} {l0 : Launch} (O : Ok M cX2_greatestAlike yX2_greatestAlike) (R0 : Rm M l0 2 80 0 0) (N : Ma M = false) (hn : Mn M = 5) (a0 : Nat) (x1 : Int32) (σ : Dt) (o : (Int32 × Dt)) (h : f_X2_greatestAlike a0 x1 σ = some o) (K : Fin' M (some .int) 0 0 SX o.2 (some (vI o.1))) : G M 0 0 0 [(0, vA (some a0)), (1, vI x1)] [] SX σ := by
  unfold f_X2_greatestAlike at h
  refine g_iconst (v := (0 : Int32)) O dX2_greatestAlike_0 rfl ?_
  refine g_istore_n (lv' := [(2, vI (0 : Int32)), (0, vA (some a0)), (1, vI x1)]) O dX2_greatestAlike_1 rfl 5 hn (by decide) rfl ?_
  refine g_sub [1, 2, 0] (lv' := [(0, vA (some a0)), (1, vI x1), (2, vI (0 : Int32))]) rfl ?_
  obtain ⟨w1, e2, h⟩ := bo_some h
  refine iter_G (P := P_X2_greatestAlike_2 M a0 x1) (E := E_X2_greatestAlike_2 M a0 x1) (fun s o hb hk => t_X2_greatestAlike_L2 O R0 N hn a0 x1 s.1 s.2 o hb hk) FU ((0 : Int32), σ) w1 e2 ?_
  show G M 0 0 21 [(0, vA (some a0)), (1, vI x1)] [] SX w1
  refine g_iconst (v := (0 : Int32)) O dX2_greatestAlike_21 rfl ?_
  refine g_istore_n (lv' := [(2, vI (0 : Int32)), (0, vA (some a0)), (1, vI x1)]) O dX2_greatestAlike_22 rfl 5 hn (by decide) rfl ?_
  refine g_iconst (v := (0 : Int32)) O dX2_greatestAlike_23 rfl ?_
  refine g_istore_n (lv' := [(3, vI (0 : Int32)), (2, vI (0 : Int32)), (0, vA (some a0)), (1, vI x1)]) O dX2_greatestAlike_24 rfl 5 hn (by decide) rfl ?_
  refine g_sub [2, 3, 1, 0] (lv' := [(0, vA (some a0)), (1, vI x1), (2, vI (0 : Int32)), (3, vI (0 : Int32))]) rfl ?_
  obtain ⟨w3, e4, h⟩ := bo_some h
  refine iter_G (P := P_X2_greatestAlike_25 M a0 x1) (E := E_X2_greatestAlike_25 M a0 x1) (fun s o hb hk => t_X2_greatestAlike_L25 O R0 N hn a0 x1 s.1 s.2.1 s.2.2 o hb hk) FU ((0 : Int32), (0 : Int32), w1) w3 e4 ?_
  show G M 0 0 102 [(2, vI w3.1)] [] SX w3.2
  refine g_iload_n O dX2_greatestAlike_102 rfl 0 rfl ?_
  cases h
  exact g_ireturn O K dX2_greatestAlike_103
theorem c_X2_greatestAlike (l0 : Launch) (a0 : Nat) (x1 : Int32) (σ : Dt) (r : Int32) (σ' : Dt) (h : f_X2_greatestAlike a0 x1 σ = some (r, σ')) : Ctr l0 yX2_greatestAlike cX2_greatestAlike 5 (some .int) false 2 80 0 0 [vA (some a0), vI x1] SX σ SX σ' (some (vI r)) := ctr_of (by decide) (Nat.le_of_ble_eq_true rfl) (fun M O F R0 N hn => t_X2_greatestAlike O R0 N hn a0 x1 σ (r, σ') h F)
def P_X2_workToAsk_7 (M : Mx) (a0 : Nat) (s : (Int32 × Int32 × Int32 × Dt)) : Prop := G M 0 0 7 [(0, vA (some a0)), (1, vI s.1), (2, vI s.2.1), (3, vI s.2.2.1)] [] SX s.2.2.2
def E_X2_workToAsk_7 (M : Mx) (a0 : Nat) : (Int32 × Dt) → Prop := (fun w => G M 0 0 46 [(1, vI w.1)] [] SX w.2)
def f_X2_workToAsk_40 (a0 : Nat) (x1 : Int32) (x2 : Int32) (x3 : Int32) (σ : Dt) : Option ((Int32 × Int32 × Int32 × Dt) ⊕ (Int32 × Dt)) := some (.inl (x1, x2, (x3 + (1 : Int32)), σ))
theorem t_X2_workToAsk_40 {M : Mx} {l0 : Launch} (O : Ok M cX2_workToAsk yX2_workToAsk) (R0 : Rm M l0 3 104 0 0) (N : Ma M = false) (hn : Mn M = 5)  (a0 : Nat) (x1 : Int32) (x2 : Int32) (x3 : Int32) (σ : Dt) (o : ((Int32 × Int32 × Int32 × Dt) ⊕ (Int32 × Dt))) (h : f_X2_workToAsk_40 a0 x1 x2 x3 σ = some o) (K : kon (P_X2_workToAsk_7 M a0) (E_X2_workToAsk_7 M a0) o) : G M 0 0 40 [(0, vA (some a0)), (1, vI x1), (2, vI x2), (3, vI x3)] [] SX σ := by
  unfold f_X2_workToAsk_40 at h
  refine g_iinc (v := (x3 + (1 : Int32))) (lv' := [(3, vI (x3 + (1 : Int32))), (0, vA (some a0)), (1, vI x1), (2, vI x2)]) O dX2_workToAsk_40 5 hn (by decide) 3 rfl rfl rfl ?_
  refine g_goto O dX2_workToAsk_43 rfl ?_
  refine g_sub [1, 2, 3, 0] (lv' := [(0, vA (some a0)), (1, vI x1), (2, vI x2), (3, vI (x3 + (1 : Int32)))]) rfl ?_
  cases h
  exact K
def f_X2_workToAsk_L7 (a0 : Nat) (x1 : Int32) (x2 : Int32) (x3 : Int32) (σ : Dt) : Option ((Int32 × Int32 × Int32 × Dt) ⊕ (Int32 × Dt)) := bo (xgi SX 2 0 (some a0) σ) fun v1 => if v1 ≤ 0 then some (.inr (x1, σ)) else bo (xgi SX 2 2 (some a0) σ) fun v4 => if v4 ≤ x3 then some (.inr (x1, σ)) else bo (xrc SX 2 (some a0)) fun a7 => bd (f_X2_greatestAlike a7 x3 σ) fun v9 σ10 => if x2 ≤ v9 then f_X2_workToAsk_40 a0 x1 x2 x3 σ10 else f_X2_workToAsk_40 a0 x3 v9 x3 σ10
theorem t_X2_workToAsk_L7 {M : Mx} {l0 : Launch} (O : Ok M cX2_workToAsk yX2_workToAsk) (R0 : Rm M l0 3 104 0 0) (N : Ma M = false) (hn : Mn M = 5) (a0 : Nat) (x1 : Int32) (x2 : Int32) (x3 : Int32) (σ : Dt) (o : ((Int32 × Int32 × Int32 × Dt) ⊕ (Int32 × Dt))) (h : f_X2_workToAsk_L7 a0 x1 x2 x3 σ = some o) (K : kon (P_X2_workToAsk_7 M a0) (E_X2_workToAsk_7 M a0) o) : G M 0 0 7 [(0, vA (some a0)), (1, vI x1), (2, vI x2), (3, vI x3)] [] SX σ := by
  unfold f_X2_workToAsk_L7 at h
  refine g_aload_n O dX2_workToAsk_7 rfl 0 rfl ?_
  obtain ⟨v1, e2, h⟩ := bo_some h
  refine g_getI O dX2_workToAsk_8 fl_X2_24 rfl e2 ?_
  refine g_if_le O dX2_workToAsk_11 rfl (fun c3 => ?_) (fun c3 => ?_)
  · replace h := (if_pos c3).symm.trans h
    refine g_sub [1] (lv' := [(1, vI x1)]) rfl ?_
    cases h
    exact K
  · replace h := (if_neg c3).symm.trans h
    refine g_iload_n O dX2_workToAsk_14 rfl 3 rfl ?_
    refine g_aload_n O dX2_workToAsk_15 rfl 0 rfl ?_
    obtain ⟨v4, e5, h⟩ := bo_some h
    refine g_getI O dX2_workToAsk_16 fl_X2_31 rfl e5 ?_
    refine g_icmp_ge O dX2_workToAsk_19 rfl (fun c6 => ?_) (fun c6 => ?_)
    · replace h := (if_pos c6).symm.trans h
      refine g_sub [1] (lv' := [(1, vI x1)]) rfl ?_
      cases h
      exact K
    · replace h := (if_neg c6).symm.trans h
      refine g_aload_n O dX2_workToAsk_22 rfl 0 rfl ?_
      refine g_iload_n O dX2_workToAsk_23 rfl 3 rfl ?_
      obtain ⟨a7, e8, h⟩ := bo_some h
      obtain ⟨v9, σ10, e11, h⟩ := bd_some h
      refine g_cV1 O R0 N dX2_workToAsk_24 vl_X2_95 vv_X2_greatestAlike e8 [vI x3] rfl rfl rfl ⟨Nat.le_of_ble_eq_true rfl, Nat.le_of_ble_eq_true rfl⟩ (c_X2_greatestAlike l0 a7 x3 σ v9 σ10 e11) ?_
      refine g_istore (lv' := [(4, vI v9), (0, vA (some a0)), (1, vI x1), (2, vI x2), (3, vI x3)]) O dX2_workToAsk_27 5 hn (by decide) rfl ?_
      refine g_iload O dX2_workToAsk_29 0 rfl ?_
      refine g_iload_n O dX2_workToAsk_31 rfl 3 rfl ?_
      refine g_icmp_ge O dX2_workToAsk_32 rfl (fun c12 => ?_) (fun c12 => ?_)
      · replace h := (if_pos c12).symm.trans h
        refine g_sub [1, 2, 3, 4] (lv' := [(0, vA (some a0)), (1, vI x1), (2, vI x2), (3, vI x3)]) rfl ?_
        exact t_X2_workToAsk_40 O R0 N hn a0 x1 x2 x3 σ10 o h K
      · replace h := (if_neg c12).symm.trans h
        refine g_iload O dX2_workToAsk_35 0 rfl ?_
        refine g_istore_n (lv' := [(2, vI v9), (4, vI v9), (0, vA (some a0)), (1, vI x1), (3, vI x3)]) O dX2_workToAsk_37 rfl 5 hn (by decide) rfl ?_
        refine g_iload_n O dX2_workToAsk_38 rfl 4 rfl ?_
        refine g_istore_n (lv' := [(1, vI x3), (2, vI v9), (4, vI v9), (0, vA (some a0)), (3, vI x3)]) O dX2_workToAsk_39 rfl 5 hn (by decide) rfl ?_
        refine g_sub [3, 0, 1, 4] (lv' := [(0, vA (some a0)), (1, vI x3), (2, vI v9), (3, vI x3)]) rfl ?_
        exact t_X2_workToAsk_40 O R0 N hn a0 x3 v9 x3 σ10 o h K
def f_X2_workToAsk (a0 : Nat) (σ : Dt) : Option (Int32 × Dt) := bo (iter FU (fun s => f_X2_workToAsk_L7 a0 s.1 s.2.1 s.2.2.1 s.2.2.2) ((-1 : Int32), (61 : Int32), (0 : Int32), σ)) fun w1 => some (w1.1, w1.2)
theorem t_X2_workToAsk {M : Mx} {l0 : Launch} (O : Ok M cX2_workToAsk yX2_workToAsk) (R0 : Rm M l0 3 104 0 0) (N : Ma M = false) (hn : Mn M = 5) (a0 : Nat) (σ : Dt) (o : (Int32 × Dt)) (h : f_X2_workToAsk a0 σ = some o) (K : Fin' M (some .int) 0 0 SX o.2 (some (vI o.1))) : G M 0 0 0 [(0, vA (some a0))] [] SX σ := by
  unfold f_X2_workToAsk at h
  refine g_iconst (v := (-1 : Int32)) O dX2_workToAsk_0 rfl ?_
  refine g_istore_n (lv' := [(1, vI (-1 : Int32)), (0, vA (some a0))]) O dX2_workToAsk_1 rfl 5 hn (by decide) rfl ?_
  refine g_bipush (v := (61 : Int32)) O dX2_workToAsk_2 rfl ?_
  refine g_istore_n (lv' := [(2, vI (61 : Int32)), (1, vI (-1 : Int32)), (0, vA (some a0))]) O dX2_workToAsk_4 rfl 5 hn (by decide) rfl ?_
  refine g_iconst (v := (0 : Int32)) O dX2_workToAsk_5 rfl ?_
  refine g_istore_n (lv' := [(3, vI (0 : Int32)), (2, vI (61 : Int32)), (1, vI (-1 : Int32)), (0, vA (some a0))]) O dX2_workToAsk_6 rfl 5 hn (by decide) rfl ?_
  refine g_sub [3, 2, 1, 0] (lv' := [(0, vA (some a0)), (1, vI (-1 : Int32)), (2, vI (61 : Int32)), (3, vI (0 : Int32))]) rfl ?_
  obtain ⟨w1, e2, h⟩ := bo_some h
  refine iter_G (P := P_X2_workToAsk_7 M a0) (E := E_X2_workToAsk_7 M a0) (fun s o hb hk => t_X2_workToAsk_L7 O R0 N hn a0 s.1 s.2.1 s.2.2.1 s.2.2.2 o hb hk) FU ((-1 : Int32), (61 : Int32), (0 : Int32), σ) w1 e2 ?_
  show G M 0 0 46 [(1, vI w1.1)] [] SX w1.2
  refine g_iload_n O dX2_workToAsk_46 rfl 0 rfl ?_
  cases h
  exact g_ireturn O K dX2_workToAsk_47
theorem c_X2_workToAsk (l0 : Launch) (a0 : Nat) (σ : Dt) (r : Int32) (σ' : Dt) (h : f_X2_workToAsk a0 σ = some (r, σ')) : Ctr l0 yX2_workToAsk cX2_workToAsk 5 (some .int) false 3 104 0 0 [vA (some a0)] SX σ SX σ' (some (vI r)) := ctr_of (by decide) (Nat.le_of_ble_eq_true rfl) (fun M O F R0 N hn => t_X2_workToAsk O R0 N hn a0 σ (r, σ') h F)
def f_X2_look (a0 : Nat) (x1 : Int32) (σ : Dt) : Option (Int32 × Dt) := if x1 = 0 then bo (xgi SX 2 0 (some a0) σ) fun v2 => some (v2, σ) else if x1 = (1 : Int32) then bo (xrc SX 2 (some a0)) fun a5 => bo (f_X2_sureFolk a5 σ) fun v7 => some (v7, σ) else if x1 = (2 : Int32) then bo (xrc SX 2 (some a0)) fun a10 => bd (f_X2_workToAsk a10 σ) fun v12 σ13 => some (v12, σ13) else bo (xrc SX 2 (some a0)) fun a15 => bo (f_X2_has a15 (x1 - (10 : Int32)) σ) fun v17 => if v17 = 0 then some ((-2 : Int32), σ) else bo (xgr SX 2 3 (some a0) σ) fun v20 => bo (xai SX v20 (x1 - (10 : Int32)) σ) fun v22 => bo (xgr SX 2 4 (some a0) σ) fun v24 => bo (xai SX v24 (x1 - (10 : Int32)) σ) fun v26 => some ((((10 : Int32) * v22) + v26), σ)
theorem t_X2_look {M : Mx} {l0 : Launch} (O : Ok M cX2_look yX2_look) (R0 : Rm M l0 4 128 0 0) (N : Ma M = false) (hn : Mn M = 3) (a0 : Nat) (x1 : Int32) (σ : Dt) (o : (Int32 × Dt)) (h : f_X2_look a0 x1 σ = some o) (K : Fin' M (some .int) 0 0 SX o.2 (some (vI o.1))) : G M 0 0 0 [(0, vA (some a0)), (1, vI x1)] [] SX σ := by
  unfold f_X2_look at h
  refine g_iload_n O dX2_look_0 rfl 1 rfl ?_
  refine g_if_ne O dX2_look_1 rfl (fun c1 => ?_) (fun c1 => ?_)
  · replace h := (if_pos c1).symm.trans h
    refine g_aload_n O dX2_look_4 rfl 0 rfl ?_
    obtain ⟨v2, e3, h⟩ := bo_some h
    refine g_getI O dX2_look_5 fl_X2_24 rfl e3 ?_
    cases h
    exact g_ireturn O K dX2_look_8
  · replace h := (if_neg c1).symm.trans h
    refine g_iload_n O dX2_look_9 rfl 1 rfl ?_
    refine g_iconst (v := (1 : Int32)) O dX2_look_10 rfl ?_
    refine g_icmp_ne O dX2_look_11 rfl (fun c4 => ?_) (fun c4 => ?_)
    · replace h := (if_pos c4).symm.trans h
      refine g_aload_n O dX2_look_14 rfl 0 rfl ?_
      obtain ⟨a5, e6, h⟩ := bo_some h
      obtain ⟨v7, e8, h⟩ := bo_some h
      refine g_cV1 O R0 N dX2_look_15 vl_X2_82 vv_X2_sureFolk e6 [] rfl rfl rfl ⟨Nat.le_of_ble_eq_true rfl, Nat.le_of_ble_eq_true rfl⟩ (c_X2_sureFolk l0 a5 σ v7 e8) ?_
      cases h
      exact g_ireturn O K dX2_look_18
    · replace h := (if_neg c4).symm.trans h
      refine g_iload_n O dX2_look_19 rfl 1 rfl ?_
      refine g_iconst (v := (2 : Int32)) O dX2_look_20 rfl ?_
      refine g_icmp_ne O dX2_look_21 rfl (fun c9 => ?_) (fun c9 => ?_)
      · replace h := (if_pos c9).symm.trans h
        refine g_aload_n O dX2_look_24 rfl 0 rfl ?_
        obtain ⟨a10, e11, h⟩ := bo_some h
        obtain ⟨v12, σ13, e14, h⟩ := bd_some h
        refine g_cV1 O R0 N dX2_look_25 vl_X2_86 vv_X2_workToAsk e11 [] rfl rfl rfl ⟨Nat.le_of_ble_eq_true rfl, Nat.le_of_ble_eq_true rfl⟩ (c_X2_workToAsk l0 a10 σ v12 σ13 e14) ?_
        cases h
        exact g_ireturn O K dX2_look_28
      · replace h := (if_neg c9).symm.trans h
        refine g_iload_n O dX2_look_29 rfl 1 rfl ?_
        refine g_bipush (v := (10 : Int32)) O dX2_look_30 rfl ?_
        refine g_isub O dX2_look_32 ?_
        refine g_istore_n (lv' := [(2, vI (x1 - (10 : Int32))), (0, vA (some a0)), (1, vI x1)]) O dX2_look_33 rfl 3 hn (by decide) rfl ?_
        refine g_aload_n O dX2_look_34 rfl 1 rfl ?_
        refine g_iload_n O dX2_look_35 rfl 0 rfl ?_
        obtain ⟨a15, e16, h⟩ := bo_some h
        obtain ⟨v17, e18, h⟩ := bo_some h
        refine g_cV1 O R0 N dX2_look_36 vl_X2_89 vv_X2_has e16 [vI (x1 - (10 : Int32))] rfl rfl rfl ⟨Nat.le_of_ble_eq_true rfl, Nat.le_of_ble_eq_true rfl⟩ (c_X2_has l0 a15 (x1 - (10 : Int32)) σ v17 e18) ?_
        refine g_if_eq O dX2_look_39 rfl (fun c19 => ?_) (fun c19 => ?_)
        · replace h := (if_pos c19).symm.trans h
          refine g_bipush (v := (-2 : Int32)) O dX2_look_61 rfl ?_
          cases h
          exact g_ireturn O K dX2_look_63
        · replace h := (if_neg c19).symm.trans h
          refine g_bipush (v := (10 : Int32)) O dX2_look_42 rfl ?_
          refine g_aload_n O dX2_look_44 rfl 1 rfl ?_
          obtain ⟨v20, e21, h⟩ := bo_some h
          refine g_getR O dX2_look_45 fl_X2_11 rfl e21 ?_
          refine g_iload_n O dX2_look_48 rfl 0 rfl ?_
          obtain ⟨v22, e23, h⟩ := bo_some h
          refine g_iaload O dX2_look_49 e23 ?_
          refine g_imul O dX2_look_50 ?_
          refine g_aload_n O dX2_look_51 rfl 1 rfl ?_
          obtain ⟨v24, e25, h⟩ := bo_some h
          refine g_getR O dX2_look_52 fl_X2_15 rfl e25 ?_
          refine g_iload_n O dX2_look_55 rfl 0 rfl ?_
          obtain ⟨v26, e27, h⟩ := bo_some h
          refine g_iaload O dX2_look_56 e27 ?_
          refine g_iadd O dX2_look_57 ?_
          refine g_goto O dX2_look_58 rfl ?_
          cases h
          exact g_ireturn O K dX2_look_63
theorem c_X2_look (l0 : Launch) (a0 : Nat) (x1 : Int32) (σ : Dt) (r : Int32) (σ' : Dt) (h : f_X2_look a0 x1 σ = some (r, σ')) : Ctr l0 yX2_look cX2_look 3 (some .int) false 4 128 0 0 [vA (some a0), vI x1] SX σ SX σ' (some (vI r)) := ctr_of (by decide) (Nat.le_of_ble_eq_true rfl) (fun M O F R0 N hn => t_X2_look O R0 N hn a0 x1 σ (r, σ') h F)
def f_X11_fits (a0 : Nat) (x1 : Int32) (x2 : Int32) (x3 : Int32) (σ : Dt) : Option (Int32 × Dt) := bo (xrc SX 11 (some a0)) fun a1 => bd (f_X11_findFits a1 x1 x2 σ) fun v3 σ4 => if v3 = 0 then some ((-2 : Int32), σ4) else bo (xgr SX 11 5 (some a0) σ4) fun v7 => bo (xrc SX 2 v7) fun a9 => bd (f_X2_look a9 x3 σ4) fun v11 σ12 => some (v11, σ12)
theorem t_X11_fits {M : Mx} {l0 : Launch} (O : Ok M cX11_fits yX11_fits) (R0 : Rm M l0 8 223 0 0) (N : Ma M = false) (hn : Mn M = 4) (a0 : Nat) (x1 : Int32) (x2 : Int32) (x3 : Int32) (σ : Dt) (o : (Int32 × Dt)) (h : f_X11_fits a0 x1 x2 x3 σ = some o) (K : Fin' M (some .int) 0 0 SX o.2 (some (vI o.1))) : G M 0 0 0 [(0, vA (some a0)), (1, vI x1), (2, vI x2), (3, vI x3)] [] SX σ := by
  unfold f_X11_fits at h
  refine g_aload_n O dX11_fits_0 rfl 0 rfl ?_
  refine g_iload_n O dX11_fits_1 rfl 1 rfl ?_
  refine g_iload_n O dX11_fits_2 rfl 2 rfl ?_
  obtain ⟨a1, e2, h⟩ := bo_some h
  obtain ⟨v3, σ4, e5, h⟩ := bd_some h
  refine g_cV1 O R0 N dX11_fits_3 vl_X11_228 vv_X11_findFits e2 [vI x1, vI x2] rfl rfl rfl ⟨Nat.le_of_ble_eq_true rfl, Nat.le_of_ble_eq_true rfl⟩ (c_X11_findFits l0 a1 x1 x2 σ v3 σ4 e5) ?_
  refine g_if_ne O dX11_fits_6 rfl (fun c6 => ?_) (fun c6 => ?_)
  · replace h := (if_pos c6).symm.trans h
    refine g_bipush (v := (-2 : Int32)) O dX11_fits_9 rfl ?_
    cases h
    exact g_ireturn O K dX11_fits_11
  · replace h := (if_neg c6).symm.trans h
    refine g_aload_n O dX11_fits_12 rfl 0 rfl ?_
    obtain ⟨v7, e8, h⟩ := bo_some h
    refine g_getR O dX11_fits_13 fl_X11_41 rfl e8 ?_
    refine g_iload_n O dX11_fits_16 rfl 3 rfl ?_
    obtain ⟨a9, e10, h⟩ := bo_some h
    obtain ⟨v11, σ12, e13, h⟩ := bd_some h
    refine g_cV1 O R0 N dX11_fits_17 vl_X11_231 vv_X2_look e10 [vI x3] rfl rfl rfl ⟨Nat.le_of_ble_eq_true rfl, Nat.le_of_ble_eq_true rfl⟩ (c_X2_look l0 a9 x3 σ4 v11 σ12 e13) ?_
    cases h
    exact g_ireturn O K dX11_fits_20
theorem c_X11_fits (l0 : Launch) (a0 : Nat) (x1 : Int32) (x2 : Int32) (x3 : Int32) (σ : Dt) (r : Int32) (σ' : Dt) (h : f_X11_fits a0 x1 x2 x3 σ = some (r, σ')) : Ctr l0 yX11_fits cX11_fits 4 (some .int) false 8 223 0 0 [vA (some a0), vI x1, vI x2, vI x3] SX σ SX σ' (some (vI r)) := ctr_of (by decide) (Nat.le_of_ble_eq_true rfl) (fun M O F R0 N hn => t_X11_fits O R0 N hn a0 x1 x2 x3 σ (r, σ') h F)
def f_X10_draw (a0 : Nat) (x1 : Int32) (σ : Dt) : Option (Int32 × Dt) := bo (xgi SX 10 8 (some a0) σ) fun v1 => bo (xpi SX 10 8 (some a0) ((v1 * (1103515245 : Int32)) + (12345 : Int32)) σ) fun σ3 => if x1 ≤ 0 then some ((0 : Int32), σ3) else bo (xgi SX 10 8 (some a0) σ3) fun v6 => if x1 = 0 then none else some ((((Int32.toUInt32 v6 >>> (Int32.toUInt32 (16 : Int32) &&& Int32.toUInt32 31)).toInt32) - ((Int32.toUInt32 v6 >>> (Int32.toUInt32 (16 : Int32) &&& Int32.toUInt32 31)).toInt32) / x1 * x1), σ3)
theorem t_X10_draw {M : Mx} {l0 : Launch} (O : Ok M cX10_draw yX10_draw) (R0 : Rm M l0 2 80 0 0) (N : Ma M = false) (hn : Mn M = 2) (a0 : Nat) (x1 : Int32) (σ : Dt) (o : (Int32 × Dt)) (h : f_X10_draw a0 x1 σ = some o) (K : Fin' M (some .int) 0 0 SX o.2 (some (vI o.1))) : G M 0 0 0 [(0, vA (some a0)), (1, vI x1)] [] SX σ := by
  unfold f_X10_draw at h
  refine g_aload_n O dX10_draw_0 rfl 0 rfl ?_
  refine g_aload_n O dX10_draw_1 rfl 0 rfl ?_
  obtain ⟨v1, e2, h⟩ := bo_some h
  refine g_getI O dX10_draw_2 fl_X10_124 rfl e2 ?_
  refine g_ldc O dX10_draw_5 w1286 ?_
  refine g_imul O dX10_draw_7 ?_
  refine g_sipush (v := (12345 : Int32)) O dX10_draw_8 rfl ?_
  refine g_iadd O dX10_draw_11 ?_
  obtain ⟨σ3, e4, h⟩ := bo_some h
  refine g_putI O dX10_draw_12 fl_X10_124 (Or.inl rfl) rfl e4 ?_
  refine g_iload_n O dX10_draw_15 rfl 1 rfl ?_
  refine g_if_le O dX10_draw_16 rfl (fun c5 => ?_) (fun c5 => ?_)
  · replace h := (if_pos c5).symm.trans h
    refine g_iconst (v := (0 : Int32)) O dX10_draw_31 rfl ?_
    cases h
    exact g_ireturn O K dX10_draw_32
  · replace h := (if_neg c5).symm.trans h
    refine g_aload_n O dX10_draw_19 rfl 0 rfl ?_
    obtain ⟨v6, e7, h⟩ := bo_some h
    refine g_getI O dX10_draw_20 fl_X10_124 rfl e7 ?_
    refine g_bipush (v := (16 : Int32)) O dX10_draw_23 rfl ?_
    refine g_iushr O dX10_draw_25 ?_
    refine g_iload_n O dX10_draw_26 rfl 1 rfl ?_
    by_cases c8 : x1 = 0
    · rw [if_pos c8] at h; cases h
    replace h := (if_neg c8).symm.trans h
    refine g_irem O dX10_draw_27 c8 ?_
    refine g_goto O dX10_draw_28 rfl ?_
    cases h
    exact g_ireturn O K dX10_draw_32
theorem c_X10_draw (l0 : Launch) (a0 : Nat) (x1 : Int32) (σ : Dt) (r : Int32) (σ' : Dt) (h : f_X10_draw a0 x1 σ = some (r, σ')) : Ctr l0 yX10_draw cX10_draw 2 (some .int) false 2 80 0 0 [vA (some a0), vI x1] SX σ SX σ' (some (vI r)) := ctr_of (by decide) (Nat.le_of_ble_eq_true rfl) (fun M O F R0 N hn => t_X10_draw O R0 N hn a0 x1 σ (r, σ') h F)
def f_X10_drawDeed_42 (a0 : Nat) (x1 : Int32) (σ : Dt) : Option (Unit × Dt) := bo (xgi SX 10 1 (some a0) σ) fun v1 => bo (xrc SX 10 (some a0)) fun a3 => bd (f_X10_draw a3 v1 σ) fun v5 σ6 => if (1 : Int32) < x1 then if x1 = (2 : Int32) then bo (xrc SX 10 (some a0)) fun a10 => bd (f_X10_tryDeed a10 (2 : Int32) v5 (-1 : Int32) (-1 : Int32) σ6) fun v12 σ13 => some ((), σ13) else if x1 = (3 : Int32) then bo (xrc SX 10 (some a0)) fun a16 => bd (f_X10_tryDeed a16 (3 : Int32) v5 (-1 : Int32) (-1 : Int32) σ6) fun v18 σ19 => some ((), σ19) else bo (xrc SX 10 (some a0)) fun a21 => bd (f_X10_draw a21 (10 : Int32) σ6) fun v23 σ24 => bo (xrc SX 10 (some a0)) fun a26 => bd (f_X10_tryDeed a26 (1 : Int32) v5 v23 (-1 : Int32) σ24) fun v28 σ29 => some ((), σ29) else bo (xgi SX 10 2 (some a0) σ6) fun v31 => bo (xrc SX 10 (some a0)) fun a33 => bd (f_X10_draw a33 v31 σ6) fun v35 σ36 => bo (xrc SX 10 (some a0)) fun a38 => bd (f_X10_draw a38 (9 : Int32) σ36) fun v40 σ41 => bo (xrc SX 10 (some a0)) fun a43 => bd (f_X10_tryDeed a43 (0 : Int32) v5 v35 ((1 : Int32) + v40) σ41) fun v45 σ46 => some ((), σ46)
theorem t_X10_drawDeed_42 {M : Mx} {l0 : Launch} (O : Ok M cX10_drawDeed yX10_drawDeed) (R0 : Rm M l0 6 173 0 0) (N : Ma M = false) (hn : Mn M = 4)  (a0 : Nat) (x1 : Int32) (σ : Dt) (o : (Unit × Dt)) (h : f_X10_drawDeed_42 a0 x1 σ = some o) (K : Fin' M (none) 0 0 SX o.2 (none)) : G M 0 0 42 [(0, vA (some a0)), (1, vI x1)] [] SX σ := by
  unfold f_X10_drawDeed_42 at h
  refine g_aload_n O dX10_drawDeed_42 rfl 0 rfl ?_
  refine g_aload_n O dX10_drawDeed_43 rfl 0 rfl ?_
  obtain ⟨v1, e2, h⟩ := bo_some h
  refine g_getI O dX10_drawDeed_44 fl_X10_63 rfl e2 ?_
  obtain ⟨a3, e4, h⟩ := bo_some h
  obtain ⟨v5, σ6, e7, h⟩ := bd_some h
  refine g_cV1 O R0 N dX10_drawDeed_47 vl_X10_131 vv_X10_draw e4 [vI v1] rfl rfl rfl ⟨Nat.le_of_ble_eq_true rfl, Nat.le_of_ble_eq_true rfl⟩ (c_X10_draw l0 a3 v1 σ v5 σ6 e7) ?_
  refine g_istore_n (lv' := [(2, vI v5), (0, vA (some a0)), (1, vI x1)]) O dX10_drawDeed_50 rfl 4 hn (by decide) rfl ?_
  refine g_iload_n O dX10_drawDeed_51 rfl 2 rfl ?_
  refine g_iconst (v := (1 : Int32)) O dX10_drawDeed_52 rfl ?_
  refine g_icmp_gt O dX10_drawDeed_53 rfl (fun c8 => ?_) (fun c8 => ?_)
  · replace h := (if_pos c8).symm.trans h
    refine g_iload_n O dX10_drawDeed_84 rfl 2 rfl ?_
    refine g_iconst (v := (2 : Int32)) O dX10_drawDeed_85 rfl ?_
    refine g_icmp_ne O dX10_drawDeed_86 rfl (fun c9 => ?_) (fun c9 => ?_)
    · replace h := (if_pos c9).symm.trans h
      refine g_aload_n O dX10_drawDeed_89 rfl 1 rfl ?_
      refine g_iconst (v := (2 : Int32)) O dX10_drawDeed_90 rfl ?_
      refine g_iload_n O dX10_drawDeed_91 rfl 0 rfl ?_
      refine g_iconst (v := (-1 : Int32)) O dX10_drawDeed_92 rfl ?_
      refine g_iconst (v := (-1 : Int32)) O dX10_drawDeed_93 rfl ?_
      obtain ⟨a10, e11, h⟩ := bo_some h
      obtain ⟨v12, σ13, e14, h⟩ := bd_some h
      refine g_cV1 O R0 N dX10_drawDeed_94 vl_X10_116 vv_X10_tryDeed e11 [vI (2 : Int32), vI v5, vI (-1 : Int32), vI (-1 : Int32)] rfl rfl rfl ⟨Nat.le_of_ble_eq_true rfl, Nat.le_of_ble_eq_true rfl⟩ (c_X10_tryDeed l0 a10 (2 : Int32) v5 (-1 : Int32) (-1 : Int32) σ6 v12 σ13 e14) ?_
      refine g_pop O dX10_drawDeed_97 rfl ?_
      refine g_goto O dX10_drawDeed_98 rfl ?_
      cases h
      exact g_return O K dX10_drawDeed_132
    · replace h := (if_neg c9).symm.trans h
      refine g_iload_n O dX10_drawDeed_101 rfl 2 rfl ?_
      refine g_iconst (v := (3 : Int32)) O dX10_drawDeed_102 rfl ?_
      refine g_icmp_ne O dX10_drawDeed_103 rfl (fun c15 => ?_) (fun c15 => ?_)
      · replace h := (if_pos c15).symm.trans h
        refine g_aload_n O dX10_drawDeed_106 rfl 1 rfl ?_
        refine g_iconst (v := (3 : Int32)) O dX10_drawDeed_107 rfl ?_
        refine g_iload_n O dX10_drawDeed_108 rfl 0 rfl ?_
        refine g_iconst (v := (-1 : Int32)) O dX10_drawDeed_109 rfl ?_
        refine g_iconst (v := (-1 : Int32)) O dX10_drawDeed_110 rfl ?_
        obtain ⟨a16, e17, h⟩ := bo_some h
        obtain ⟨v18, σ19, e20, h⟩ := bd_some h
        refine g_cV1 O R0 N dX10_drawDeed_111 vl_X10_116 vv_X10_tryDeed e17 [vI (3 : Int32), vI v5, vI (-1 : Int32), vI (-1 : Int32)] rfl rfl rfl ⟨Nat.le_of_ble_eq_true rfl, Nat.le_of_ble_eq_true rfl⟩ (c_X10_tryDeed l0 a16 (3 : Int32) v5 (-1 : Int32) (-1 : Int32) σ6 v18 σ19 e20) ?_
        refine g_pop O dX10_drawDeed_114 rfl ?_
        refine g_goto O dX10_drawDeed_115 rfl ?_
        cases h
        exact g_return O K dX10_drawDeed_132
      · replace h := (if_neg c15).symm.trans h
        refine g_aload_n O dX10_drawDeed_118 rfl 1 rfl ?_
        refine g_iconst (v := (1 : Int32)) O dX10_drawDeed_119 rfl ?_
        refine g_iload_n O dX10_drawDeed_120 rfl 0 rfl ?_
        refine g_aload_n O dX10_drawDeed_121 rfl 1 rfl ?_
        refine g_bipush (v := (10 : Int32)) O dX10_drawDeed_122 rfl ?_
        obtain ⟨a21, e22, h⟩ := bo_some h
        obtain ⟨v23, σ24, e25, h⟩ := bd_some h
        refine g_cV1 O R0 N dX10_drawDeed_124 vl_X10_131 vv_X10_draw e22 [vI (10 : Int32)] rfl rfl rfl ⟨Nat.le_of_ble_eq_true rfl, Nat.le_of_ble_eq_true rfl⟩ (c_X10_draw l0 a21 (10 : Int32) σ6 v23 σ24 e25) ?_
        refine g_iconst (v := (-1 : Int32)) O dX10_drawDeed_127 rfl ?_
        obtain ⟨a26, e27, h⟩ := bo_some h
        obtain ⟨v28, σ29, e30, h⟩ := bd_some h
        refine g_cV1 O R0 N dX10_drawDeed_128 vl_X10_116 vv_X10_tryDeed e27 [vI (1 : Int32), vI v5, vI v23, vI (-1 : Int32)] rfl rfl rfl ⟨Nat.le_of_ble_eq_true rfl, Nat.le_of_ble_eq_true rfl⟩ (c_X10_tryDeed l0 a26 (1 : Int32) v5 v23 (-1 : Int32) σ24 v28 σ29 e30) ?_
        refine g_pop O dX10_drawDeed_131 rfl ?_
        cases h
        exact g_return O K dX10_drawDeed_132
  · replace h := (if_neg c8).symm.trans h
    refine g_aload_n O dX10_drawDeed_56 rfl 1 rfl ?_
    refine g_aload_n O dX10_drawDeed_57 rfl 1 rfl ?_
    obtain ⟨v31, e32, h⟩ := bo_some h
    refine g_getI O dX10_drawDeed_58 fl_X10_67 rfl e32 ?_
    obtain ⟨a33, e34, h⟩ := bo_some h
    obtain ⟨v35, σ36, e37, h⟩ := bd_some h
    refine g_cV1 O R0 N dX10_drawDeed_61 vl_X10_131 vv_X10_draw e34 [vI v31] rfl rfl rfl ⟨Nat.le_of_ble_eq_true rfl, Nat.le_of_ble_eq_true rfl⟩ (c_X10_draw l0 a33 v31 σ6 v35 σ36 e37) ?_
    refine g_istore_n (lv' := [(3, vI v35), (2, vI v5), (0, vA (some a0)), (1, vI x1)]) O dX10_drawDeed_64 rfl 4 hn (by decide) rfl ?_
    refine g_aload_n O dX10_drawDeed_65 rfl 2 rfl ?_
    refine g_iconst (v := (0 : Int32)) O dX10_drawDeed_66 rfl ?_
    refine g_iload_n O dX10_drawDeed_67 rfl 1 rfl ?_
    refine g_iload_n O dX10_drawDeed_68 rfl 0 rfl ?_
    refine g_iconst (v := (1 : Int32)) O dX10_drawDeed_69 rfl ?_
    refine g_aload_n O dX10_drawDeed_70 rfl 2 rfl ?_
    refine g_bipush (v := (9 : Int32)) O dX10_drawDeed_71 rfl ?_
    obtain ⟨a38, e39, h⟩ := bo_some h
    obtain ⟨v40, σ41, e42, h⟩ := bd_some h
    refine g_cV1 O R0 N dX10_drawDeed_73 vl_X10_131 vv_X10_draw e39 [vI (9 : Int32)] rfl rfl rfl ⟨Nat.le_of_ble_eq_true rfl, Nat.le_of_ble_eq_true rfl⟩ (c_X10_draw l0 a38 (9 : Int32) σ36 v40 σ41 e42) ?_
    refine g_iadd O dX10_drawDeed_76 ?_
    obtain ⟨a43, e44, h⟩ := bo_some h
    obtain ⟨v45, σ46, e47, h⟩ := bd_some h
    refine g_cV1 O R0 N dX10_drawDeed_77 vl_X10_116 vv_X10_tryDeed e44 [vI (0 : Int32), vI v5, vI v35, vI ((1 : Int32) + v40)] rfl rfl rfl ⟨Nat.le_of_ble_eq_true rfl, Nat.le_of_ble_eq_true rfl⟩ (c_X10_tryDeed l0 a43 (0 : Int32) v5 v35 ((1 : Int32) + v40) σ41 v45 σ46 e47) ?_
    refine g_pop O dX10_drawDeed_80 rfl ?_
    refine g_goto O dX10_drawDeed_81 rfl ?_
    cases h
    exact g_return O K dX10_drawDeed_132
def f_X10_drawDeed (a0 : Nat) (σ : Dt) : Option (Unit × Dt) := bo (xrc SX 10 (some a0)) fun a1 => bd (f_X10_draw a1 (8 : Int32) σ) fun v3 σ4 => if v3 < (5 : Int32) then bo (xgi SX 10 1 (some a0) σ4) fun v7 => if v7 = 0 then some ((), σ4) else if (1 : Int32) < v3 then f_X10_drawDeed_42 a0 v3 σ4 else bo (xgi SX 10 2 (some a0) σ4) fun v11 => if v11 = 0 then some ((), σ4) else f_X10_drawDeed_42 a0 v3 σ4 else bo (xrc SX 10 (some a0)) fun a14 => bd (f_X10_tryDeed a14 (4 : Int32) (-1 : Int32) (-1 : Int32) (-1 : Int32) σ4) fun v16 σ17 => some ((), σ17)
theorem t_X10_drawDeed {M : Mx} {l0 : Launch} (O : Ok M cX10_drawDeed yX10_drawDeed) (R0 : Rm M l0 6 173 0 0) (N : Ma M = false) (hn : Mn M = 4) (a0 : Nat) (σ : Dt) (o : (Unit × Dt)) (h : f_X10_drawDeed a0 σ = some o) (K : Fin' M (none) 0 0 SX o.2 (none)) : G M 0 0 0 [(0, vA (some a0))] [] SX σ := by
  unfold f_X10_drawDeed at h
  refine g_aload_n O dX10_drawDeed_0 rfl 0 rfl ?_
  refine g_bipush (v := (8 : Int32)) O dX10_drawDeed_1 rfl ?_
  obtain ⟨a1, e2, h⟩ := bo_some h
  obtain ⟨v3, σ4, e5, h⟩ := bd_some h
  refine g_cV1 O R0 N dX10_drawDeed_3 vl_X10_131 vv_X10_draw e2 [vI (8 : Int32)] rfl rfl rfl ⟨Nat.le_of_ble_eq_true rfl, Nat.le_of_ble_eq_true rfl⟩ (c_X10_draw l0 a1 (8 : Int32) σ v3 σ4 e5) ?_
  refine g_istore_n (lv' := [(1, vI v3), (0, vA (some a0))]) O dX10_drawDeed_6 rfl 4 hn (by decide) rfl ?_
  refine g_iload_n O dX10_drawDeed_7 rfl 0 rfl ?_
  refine g_iconst (v := (5 : Int32)) O dX10_drawDeed_8 rfl ?_
  refine g_icmp_lt O dX10_drawDeed_9 rfl (fun c6 => ?_) (fun c6 => ?_)
  · replace h := (if_pos c6).symm.trans h
    refine g_aload_n O dX10_drawDeed_22 rfl 1 rfl ?_
    obtain ⟨v7, e8, h⟩ := bo_some h
    refine g_getI O dX10_drawDeed_23 fl_X10_63 rfl e8 ?_
    refine g_if_eq O dX10_drawDeed_26 rfl (fun c9 => ?_) (fun c9 => ?_)
    · replace h := (if_pos c9).symm.trans h
      cases h
      exact g_return O K dX10_drawDeed_41
    · replace h := (if_neg c9).symm.trans h
      refine g_iload_n O dX10_drawDeed_29 rfl 0 rfl ?_
      refine g_iconst (v := (1 : Int32)) O dX10_drawDeed_30 rfl ?_
      refine g_icmp_gt O dX10_drawDeed_31 rfl (fun c10 => ?_) (fun c10 => ?_)
      · replace h := (if_pos c10).symm.trans h
        refine g_sub [1, 0] (lv' := [(0, vA (some a0)), (1, vI v3)]) rfl ?_
        exact t_X10_drawDeed_42 O R0 N hn a0 v3 σ4 o h K
      · replace h := (if_neg c10).symm.trans h
        refine g_aload_n O dX10_drawDeed_34 rfl 1 rfl ?_
        obtain ⟨v11, e12, h⟩ := bo_some h
        refine g_getI O dX10_drawDeed_35 fl_X10_67 rfl e12 ?_
        refine g_if_ne O dX10_drawDeed_38 rfl (fun c13 => ?_) (fun c13 => ?_)
        · replace h := (if_pos c13).symm.trans h
          cases h
          exact g_return O K dX10_drawDeed_41
        · replace h := (if_neg c13).symm.trans h
          refine g_sub [1, 0] (lv' := [(0, vA (some a0)), (1, vI v3)]) rfl ?_
          exact t_X10_drawDeed_42 O R0 N hn a0 v3 σ4 o h K
  · replace h := (if_neg c6).symm.trans h
    refine g_aload_n O dX10_drawDeed_12 rfl 1 rfl ?_
    refine g_iconst (v := (4 : Int32)) O dX10_drawDeed_13 rfl ?_
    refine g_iconst (v := (-1 : Int32)) O dX10_drawDeed_14 rfl ?_
    refine g_iconst (v := (-1 : Int32)) O dX10_drawDeed_15 rfl ?_
    refine g_iconst (v := (-1 : Int32)) O dX10_drawDeed_16 rfl ?_
    obtain ⟨a14, e15, h⟩ := bo_some h
    obtain ⟨v16, σ17, e18, h⟩ := bd_some h
    refine g_cV1 O R0 N dX10_drawDeed_17 vl_X10_116 vv_X10_tryDeed e15 [vI (4 : Int32), vI (-1 : Int32), vI (-1 : Int32), vI (-1 : Int32)] rfl rfl rfl ⟨Nat.le_of_ble_eq_true rfl, Nat.le_of_ble_eq_true rfl⟩ (c_X10_tryDeed l0 a14 (4 : Int32) (-1 : Int32) (-1 : Int32) (-1 : Int32) σ4 v16 σ17 e18) ?_
    refine g_pop O dX10_drawDeed_20 rfl ?_
    cases h
    exact g_return O K dX10_drawDeed_21
theorem c_X10_drawDeed (l0 : Launch) (a0 : Nat) (σ : Dt) (r : Unit) (σ' : Dt) (h : f_X10_drawDeed a0 σ = some (r, σ')) : Ctr l0 yX10_drawDeed cX10_drawDeed 4 (none) false 6 173 0 0 [vA (some a0)] SX σ SX σ' (none) := ctr_of (by decide) (Nat.le_of_ble_eq_true rfl) (fun M O F R0 N hn => t_X10_drawDeed O R0 N hn a0 σ (r, σ') h F)
def P_X10_liveBySeed_13 (M : Mx) (a0 : Nat) (x3 : Int32) (s : (Int32 × Dt)) : Prop := G M 0 0 13 [(0, vA (some a0)), (3, vI x3), (4, vI s.1)] [] SX s.2
def E_X10_liveBySeed_13 (M : Mx) (a0 : Nat) (x3 : Int32) : Dt → Prop := (fun w => G M 0 0 36 [] [] SX w)
def f_X10_liveBySeed_L13 (a0 : Nat) (x3 : Int32) (x4 : Int32) (σ : Dt) : Option ((Int32 × Dt) ⊕ Dt) := if x3 ≤ x4 then some (.inr σ) else if (60 : Int32) ≤ x4 then some (.inr σ) else bo (xrc SX 10 (some a0)) fun a3 => bd (f_X10_drawDeed a3 σ) fun v5 σ6 => some (.inl ((x4 + (1 : Int32)), σ6))
theorem t_X10_liveBySeed_L13 {M : Mx} {l0 : Launch} (O : Ok M cX10_liveBySeed yX10_liveBySeed) (R0 : Rm M l0 7 196 0 0) (N : Ma M = false) (hn : Mn M = 5) (a0 : Nat) (x3 : Int32) (x4 : Int32) (σ : Dt) (o : ((Int32 × Dt) ⊕ Dt)) (h : f_X10_liveBySeed_L13 a0 x3 x4 σ = some o) (K : kon (P_X10_liveBySeed_13 M a0 x3) (E_X10_liveBySeed_13 M a0 x3) o) : G M 0 0 13 [(0, vA (some a0)), (3, vI x3), (4, vI x4)] [] SX σ := by
  unfold f_X10_liveBySeed_L13 at h
  refine g_iload O dX10_liveBySeed_13 2 rfl ?_
  refine g_iload_n O dX10_liveBySeed_15 rfl 1 rfl ?_
  refine g_icmp_ge O dX10_liveBySeed_16 rfl (fun c1 => ?_) (fun c1 => ?_)
  · replace h := (if_pos c1).symm.trans h
    refine g_sub [] (lv' := []) rfl ?_
    cases h
    exact K
  · replace h := (if_neg c1).symm.trans h
    refine g_iload O dX10_liveBySeed_19 2 rfl ?_
    refine g_bipush (v := (60 : Int32)) O dX10_liveBySeed_21 rfl ?_
    refine g_icmp_ge O dX10_liveBySeed_23 rfl (fun c2 => ?_) (fun c2 => ?_)
    · replace h := (if_pos c2).symm.trans h
      refine g_sub [] (lv' := []) rfl ?_
      cases h
      exact K
    · replace h := (if_neg c2).symm.trans h
      refine g_aload_n O dX10_liveBySeed_26 rfl 0 rfl ?_
      obtain ⟨a3, e4, h⟩ := bo_some h
      obtain ⟨v5, σ6, e7, h⟩ := bd_some h
      refine g_cV0 O R0 N dX10_liveBySeed_27 vl_X10_127 vv_X10_drawDeed e4 [] rfl rfl rfl ⟨Nat.le_of_ble_eq_true rfl, Nat.le_of_ble_eq_true rfl⟩ (c_X10_drawDeed l0 a3 σ v5 σ6 e7) ?_
      refine g_iinc (v := (x4 + (1 : Int32))) (lv' := [(4, vI (x4 + (1 : Int32))), (0, vA (some a0)), (3, vI x3)]) O dX10_liveBySeed_30 5 hn (by decide) 2 rfl rfl rfl ?_
      refine g_goto O dX10_liveBySeed_33 rfl ?_
      refine g_sub [1, 2, 0] (lv' := [(0, vA (some a0)), (3, vI x3), (4, vI (x4 + (1 : Int32)))]) rfl ?_
      cases h
      exact K
def f_X10_liveBySeed (a0 : Nat) (r1 : Option Nat) (x2 : Int32) (x3 : Int32) (σ : Dt) : Option (Unit × Dt) := bo (xrc SX 10 (some a0)) fun a1 => bd (f_X10_begin a1 r1 σ) fun v3 σ4 => bo (xpi SX 10 8 (some a0) x2 σ4) fun σ6 => bo (iter FU (fun s => f_X10_liveBySeed_L13 a0 x3 s.1 s.2) ((0 : Int32), σ6)) fun w8 => some ((), w8)
theorem t_X10_liveBySeed {M : Mx} {l0 : Launch} (O : Ok M cX10_liveBySeed yX10_liveBySeed) (R0 : Rm M l0 7 196 0 0) (N : Ma M = false) (hn : Mn M = 5) (a0 : Nat) (r1 : Option Nat) (x2 : Int32) (x3 : Int32) (σ : Dt) (o : (Unit × Dt)) (h : f_X10_liveBySeed a0 r1 x2 x3 σ = some o) (K : Fin' M (none) 0 0 SX o.2 (none)) : G M 0 0 0 [(0, vA (some a0)), (1, vA r1), (2, vI x2), (3, vI x3)] [] SX σ := by
  unfold f_X10_liveBySeed at h
  refine g_aload_n O dX10_liveBySeed_0 rfl 0 rfl ?_
  refine g_aload_n O dX10_liveBySeed_1 rfl 1 rfl ?_
  obtain ⟨a1, e2, h⟩ := bo_some h
  obtain ⟨v3, σ4, e5, h⟩ := bd_some h
  refine g_cV0 O R0 N dX10_liveBySeed_2 vl_X10_95 vv_X10_begin e2 [vA r1] rfl rfl rfl ⟨Nat.le_of_ble_eq_true rfl, Nat.le_of_ble_eq_true rfl⟩ (c_X10_begin l0 a1 r1 σ v3 σ4 e5) ?_
  refine g_aload_n O dX10_liveBySeed_5 rfl 0 rfl ?_
  refine g_iload_n O dX10_liveBySeed_6 rfl 2 rfl ?_
  obtain ⟨σ6, e7, h⟩ := bo_some h
  refine g_putI O dX10_liveBySeed_7 fl_X10_124 (Or.inl rfl) rfl e7 ?_
  refine g_iconst (v := (0 : Int32)) O dX10_liveBySeed_10 rfl ?_
  refine g_istore (lv' := [(4, vI (0 : Int32)), (0, vA (some a0)), (1, vA r1), (2, vI x2), (3, vI x3)]) O dX10_liveBySeed_11 5 hn (by decide) rfl ?_
  refine g_sub [1, 4, 0] (lv' := [(0, vA (some a0)), (3, vI x3), (4, vI (0 : Int32))]) rfl ?_
  obtain ⟨w8, e9, h⟩ := bo_some h
  refine iter_G (P := P_X10_liveBySeed_13 M a0 x3) (E := E_X10_liveBySeed_13 M a0 x3) (fun s o hb hk => t_X10_liveBySeed_L13 O R0 N hn a0 x3 s.1 s.2 o hb hk) FU ((0 : Int32), σ6) w8 e9 ?_
  show G M 0 0 36 [] [] SX w8
  cases h
  exact g_return O K dX10_liveBySeed_36
theorem c_X10_liveBySeed (l0 : Launch) (a0 : Nat) (r1 : Option Nat) (x2 : Int32) (x3 : Int32) (σ : Dt) (r : Unit) (σ' : Dt) (h : f_X10_liveBySeed a0 r1 x2 x3 σ = some (r, σ')) : Ctr l0 yX10_liveBySeed cX10_liveBySeed 5 (none) false 7 196 0 0 [vA (some a0), vA r1, vI x2, vI x3] SX σ SX σ' (none) := ctr_of (by decide) (Nat.le_of_ble_eq_true rfl) (fun M O F R0 N hn => t_X10_liveBySeed O R0 N hn a0 r1 x2 x3 σ (r, σ') h F)
def f_X11_drawn (a0 : Nat) (x1 : Int32) (x2 : Int32) (x3 : Int32) (x4 : Int32) (σ : Dt) : Option (Int32 × Dt) := bo (xgr SX 11 0 (some a0) σ) fun v1 => bo (xrc SX 8 v1) fun a3 => bo (f_X8_valleyAt a3 x1 σ) fun v5 => if v5 = none then some ((-2 : Int32), σ) else if x3 < 0 then some ((-2 : Int32), σ) else if x3 ≤ (60 : Int32) then bo (xgr SX 11 4 (some a0) σ) fun v10 => bo (xrc SX 10 v10) fun a12 => bd (f_X10_liveBySeed a12 v5 x2 x3 σ) fun v14 σ15 => bo (xgr SX 11 4 (some a0) σ15) fun v17 => bo (xrc SX 10 v17) fun a19 => bo (f_X10_look a19 x4 σ15) fun v21 => some (v21, σ15) else some ((-2 : Int32), σ)
theorem t_X11_drawn {M : Mx} {l0 : Launch} (O : Ok M cX11_drawn yX11_drawn) (R0 : Rm M l0 8 220 0 0) (N : Ma M = false) (hn : Mn M = 6) (a0 : Nat) (x1 : Int32) (x2 : Int32) (x3 : Int32) (x4 : Int32) (σ : Dt) (o : (Int32 × Dt)) (h : f_X11_drawn a0 x1 x2 x3 x4 σ = some o) (K : Fin' M (some .int) 0 0 SX o.2 (some (vI o.1))) : G M 0 0 0 [(0, vA (some a0)), (1, vI x1), (2, vI x2), (3, vI x3), (4, vI x4)] [] SX σ := by
  unfold f_X11_drawn at h
  refine g_aload_n O dX11_drawn_0 rfl 0 rfl ?_
  obtain ⟨v1, e2, h⟩ := bo_some h
  refine g_getR O dX11_drawn_1 fl_X11_12 rfl e2 ?_
  refine g_iload_n O dX11_drawn_4 rfl 1 rfl ?_
  obtain ⟨a3, e4, h⟩ := bo_some h
  obtain ⟨v5, e6, h⟩ := bo_some h
  refine g_cV1 O R0 N dX11_drawn_5 vl_X11_105 vv_X8_valleyAt e4 [vI x1] rfl rfl rfl ⟨Nat.le_of_ble_eq_true rfl, Nat.le_of_ble_eq_true rfl⟩ (c_X8_valleyAt l0 a3 x1 σ v5 e6) ?_
  refine g_astore (lv' := [(5, vA v5), (0, vA (some a0)), (1, vI x1), (2, vI x2), (3, vI x3), (4, vI x4)]) O dX11_drawn_8 6 hn (by decide) rfl ?_
  refine g_aload O dX11_drawn_10 0 rfl ?_
  refine g_ifnull O dX11_drawn_12 rfl (fun c7 => ?_) (fun c7 => ?_)
  · replace h := (if_pos c7).symm.trans h
    refine g_bipush (v := (-2 : Int32)) O dX11_drawn_25 rfl ?_
    cases h
    exact g_ireturn O K dX11_drawn_27
  · replace h := (if_neg c7).symm.trans h
    refine g_iload_n O dX11_drawn_15 rfl 4 rfl ?_
    refine g_if_lt O dX11_drawn_16 rfl (fun c8 => ?_) (fun c8 => ?_)
    · replace h := (if_pos c8).symm.trans h
      refine g_bipush (v := (-2 : Int32)) O dX11_drawn_25 rfl ?_
      cases h
      exact g_ireturn O K dX11_drawn_27
    · replace h := (if_neg c8).symm.trans h
      refine g_iload_n O dX11_drawn_19 rfl 4 rfl ?_
      refine g_bipush (v := (60 : Int32)) O dX11_drawn_20 rfl ?_
      refine g_icmp_le O dX11_drawn_22 rfl (fun c9 => ?_) (fun c9 => ?_)
      · replace h := (if_pos c9).symm.trans h
        refine g_aload_n O dX11_drawn_28 rfl 1 rfl ?_
        obtain ⟨v10, e11, h⟩ := bo_some h
        refine g_getR O dX11_drawn_29 fl_X11_34 rfl e11 ?_
        refine g_aload O dX11_drawn_32 0 rfl ?_
        refine g_iload_n O dX11_drawn_34 rfl 3 rfl ?_
        refine g_iload_n O dX11_drawn_35 rfl 4 rfl ?_
        obtain ⟨a12, e13, h⟩ := bo_some h
        obtain ⟨v14, σ15, e16, h⟩ := bd_some h
        refine g_cV0 O R0 N dX11_drawn_36 vl_X11_232 vv_X10_liveBySeed e13 [vA v5, vI x2, vI x3] rfl rfl rfl ⟨Nat.le_of_ble_eq_true rfl, Nat.le_of_ble_eq_true rfl⟩ (c_X10_liveBySeed l0 a12 v5 x2 x3 σ v14 σ15 e16) ?_
        refine g_aload_n O dX11_drawn_39 rfl 1 rfl ?_
        obtain ⟨v17, e18, h⟩ := bo_some h
        refine g_getR O dX11_drawn_40 fl_X11_34 rfl e18 ?_
        refine g_iload O dX11_drawn_43 5 rfl ?_
        obtain ⟨a19, e20, h⟩ := bo_some h
        obtain ⟨v21, e22, h⟩ := bo_some h
        refine g_cV1 O R0 N dX11_drawn_45 vl_X11_130 vv_X10_look e20 [vI x4] rfl rfl rfl ⟨Nat.le_of_ble_eq_true rfl, Nat.le_of_ble_eq_true rfl⟩ (c_X10_look l0 a19 x4 σ15 v21 e22) ?_
        cases h
        exact g_ireturn O K dX11_drawn_48
      · replace h := (if_neg c9).symm.trans h
        refine g_bipush (v := (-2 : Int32)) O dX11_drawn_25 rfl ?_
        cases h
        exact g_ireturn O K dX11_drawn_27
theorem c_X11_drawn (l0 : Launch) (a0 : Nat) (x1 : Int32) (x2 : Int32) (x3 : Int32) (x4 : Int32) (σ : Dt) (r : Int32) (σ' : Dt) (h : f_X11_drawn a0 x1 x2 x3 x4 σ = some (r, σ')) : Ctr l0 yX11_drawn cX11_drawn 6 (some .int) false 8 220 0 0 [vA (some a0), vI x1, vI x2, vI x3, vI x4] SX σ SX σ' (some (vI r)) := ctr_of (by decide) (Nat.le_of_ble_eq_true rfl) (fun M O F R0 N hn => t_X11_drawn O R0 N hn a0 x1 x2 x3 x4 σ (r, σ') h F)
def P_X3_youngOf_19 (M : Mx) (r1 : Option Nat) (x2 : Int32) (σ : Dt) (s : (Int32 × Int32)) : Prop := G M 0 0 19 [(1, vA r1), (2, vI x2), (3, vI s.1), (4, vI s.2)] [] SX σ
def E_X3_youngOf_19 (M : Mx) (r1 : Option Nat) (x2 : Int32) (σ : Dt) : Int32 → Prop := (fun w => G M 0 0 64 [(3, vI w)] [] SX σ)
def f_X3_youngOf_58 (r1 : Option Nat) (x2 : Int32) (x3 : Int32) (x4 : Int32) (σ : Dt) : Option ((Int32 × Int32) ⊕ Int32) := some (.inl (x3, (x4 + (1 : Int32))))
theorem t_X3_youngOf_58 {M : Mx} {l0 : Launch} (O : Ok M cX3_youngOf yX3_youngOf) (R0 : Rm M l0 3 101 0 0) (N : Ma M = false) (hn : Mn M = 5)  (r1 : Option Nat) (x2 : Int32) (x3 : Int32) (x4 : Int32) (σ : Dt) (o : ((Int32 × Int32) ⊕ Int32)) (h : f_X3_youngOf_58 r1 x2 x3 x4 σ = some o) (K : kon (P_X3_youngOf_19 M r1 x2 σ) (E_X3_youngOf_19 M r1 x2 σ) o) : G M 0 0 58 [(1, vA r1), (2, vI x2), (3, vI x3), (4, vI x4)] [] SX σ := by
  unfold f_X3_youngOf_58 at h
  refine g_iinc (v := (x4 + (1 : Int32))) (lv' := [(4, vI (x4 + (1 : Int32))), (1, vA r1), (2, vI x2), (3, vI x3)]) O dX3_youngOf_58 5 hn (by decide) 3 rfl rfl rfl ?_
  refine g_goto O dX3_youngOf_61 rfl ?_
  refine g_sub [1, 2, 3, 0] (lv' := [(1, vA r1), (2, vI x2), (3, vI x3), (4, vI (x4 + (1 : Int32)))]) rfl ?_
  cases h
  exact K
def f_X3_youngOf_L19 (r1 : Option Nat) (x2 : Int32) (x3 : Int32) (x4 : Int32) (σ : Dt) : Option ((Int32 × Int32) ⊕ Int32) := bo (xgi SX 9 0 r1 σ) fun v1 => if v1 ≤ x4 then some (.inr x3) else if (10 : Int32) ≤ x4 then some (.inr x3) else bo (xgr SX 9 5 r1 σ) fun v5 => bo (xai SX v5 x4 σ) fun v7 => if (v7 &&& (x3 ||| ((1 : Int32) <<< (x2 &&& 31)))) = 0 then f_X3_youngOf_58 r1 x2 x3 x4 σ else f_X3_youngOf_58 r1 x2 (x3 ||| ((1 : Int32) <<< (x4 &&& 31))) x4 σ
theorem t_X3_youngOf_L19 {M : Mx} {l0 : Launch} (O : Ok M cX3_youngOf yX3_youngOf) (R0 : Rm M l0 3 101 0 0) (N : Ma M = false) (hn : Mn M = 5) (r1 : Option Nat) (x2 : Int32) (x3 : Int32) (x4 : Int32) (σ : Dt) (o : ((Int32 × Int32) ⊕ Int32)) (h : f_X3_youngOf_L19 r1 x2 x3 x4 σ = some o) (K : kon (P_X3_youngOf_19 M r1 x2 σ) (E_X3_youngOf_19 M r1 x2 σ) o) : G M 0 0 19 [(1, vA r1), (2, vI x2), (3, vI x3), (4, vI x4)] [] SX σ := by
  unfold f_X3_youngOf_L19 at h
  refine g_iload O dX3_youngOf_19 3 rfl ?_
  refine g_aload_n O dX3_youngOf_21 rfl 0 rfl ?_
  obtain ⟨v1, e2, h⟩ := bo_some h
  refine g_getI O dX3_youngOf_22 fl_X3_32 rfl e2 ?_
  refine g_icmp_ge O dX3_youngOf_25 rfl (fun c3 => ?_) (fun c3 => ?_)
  · replace h := (if_pos c3).symm.trans h
    refine g_sub [2] (lv' := [(3, vI x3)]) rfl ?_
    cases h
    exact K
  · replace h := (if_neg c3).symm.trans h
    refine g_iload O dX3_youngOf_28 3 rfl ?_
    refine g_bipush (v := (10 : Int32)) O dX3_youngOf_30 rfl ?_
    refine g_icmp_ge O dX3_youngOf_32 rfl (fun c4 => ?_) (fun c4 => ?_)
    · replace h := (if_pos c4).symm.trans h
      refine g_sub [2] (lv' := [(3, vI x3)]) rfl ?_
      cases h
      exact K
    · replace h := (if_neg c4).symm.trans h
      refine g_aload_n O dX3_youngOf_35 rfl 0 rfl ?_
      obtain ⟨v5, e6, h⟩ := bo_some h
      refine g_getR O dX3_youngOf_36 fl_X3_36 rfl e6 ?_
      refine g_iload O dX3_youngOf_39 3 rfl ?_
      obtain ⟨v7, e8, h⟩ := bo_some h
      refine g_iaload O dX3_youngOf_41 e8 ?_
      refine g_iload_n O dX3_youngOf_42 rfl 2 rfl ?_
      refine g_iconst (v := (1 : Int32)) O dX3_youngOf_43 rfl ?_
      refine g_iload_n O dX3_youngOf_44 rfl 1 rfl ?_
      refine g_ishl O dX3_youngOf_45 ?_
      refine g_ior O dX3_youngOf_46 ?_
      refine g_iand O dX3_youngOf_47 ?_
      refine g_if_eq O dX3_youngOf_48 rfl (fun c9 => ?_) (fun c9 => ?_)
      · replace h := (if_pos c9).symm.trans h
        exact t_X3_youngOf_58 O R0 N hn r1 x2 x3 x4 σ o h K
      · replace h := (if_neg c9).symm.trans h
        refine g_iload_n O dX3_youngOf_51 rfl 2 rfl ?_
        refine g_iconst (v := (1 : Int32)) O dX3_youngOf_52 rfl ?_
        refine g_iload O dX3_youngOf_53 3 rfl ?_
        refine g_ishl O dX3_youngOf_55 ?_
        refine g_ior O dX3_youngOf_56 ?_
        refine g_istore_n (lv' := [(3, vI (x3 ||| ((1 : Int32) <<< (x4 &&& 31)))), (1, vA r1), (2, vI x2), (4, vI x4)]) O dX3_youngOf_57 rfl 5 hn (by decide) rfl ?_
        refine g_sub [1, 2, 0, 3] (lv' := [(1, vA r1), (2, vI x2), (3, vI (x3 ||| ((1 : Int32) <<< (x4 &&& 31)))), (4, vI x4)]) rfl ?_
        exact t_X3_youngOf_58 O R0 N hn r1 x2 (x3 ||| ((1 : Int32) <<< (x4 &&& 31))) x4 σ o h K
def f_X3_youngOf (a0 : Nat) (r1 : Option Nat) (x2 : Int32) (σ : Dt) : Option Int32 := if r1 = none then some (0 : Int32) else bo (xrc SX 9 r1) fun a2 => bo (f_X9_hasFolk a2 x2 σ) fun v4 => if v4 = 0 then some (0 : Int32) else bo (iter FU (fun s => f_X3_youngOf_L19 r1 x2 s.1 s.2 σ) ((0 : Int32), (0 : Int32))) fun w7 => some w7
theorem t_X3_youngOf {M : Mx} {l0 : Launch} (O : Ok M cX3_youngOf yX3_youngOf) (R0 : Rm M l0 3 101 0 0) (N : Ma M = false) (hn : Mn M = 5) (a0 : Nat) (r1 : Option Nat) (x2 : Int32) (σ : Dt) (o : Int32) (h : f_X3_youngOf a0 r1 x2 σ = some o) (K : Fin' M (some .int) 0 0 SX σ (some (vI o))) : G M 0 0 0 [(0, vA (some a0)), (1, vA r1), (2, vI x2)] [] SX σ := by
  unfold f_X3_youngOf at h
  refine g_aload_n O dX3_youngOf_0 rfl 1 rfl ?_
  refine g_ifnull O dX3_youngOf_1 rfl (fun c1 => ?_) (fun c1 => ?_)
  · replace h := (if_pos c1).symm.trans h
    refine g_iconst (v := (0 : Int32)) O dX3_youngOf_12 rfl ?_
    cases h
    exact g_ireturn O K dX3_youngOf_13
  · replace h := (if_neg c1).symm.trans h
    refine g_aload_n O dX3_youngOf_4 rfl 1 rfl ?_
    refine g_iload_n O dX3_youngOf_5 rfl 2 rfl ?_
    obtain ⟨a2, e3, h⟩ := bo_some h
    obtain ⟨v4, e5, h⟩ := bo_some h
    refine g_cV1 O R0 N dX3_youngOf_6 vl_X3_26 vv_X9_hasFolk e3 [vI x2] rfl rfl rfl ⟨Nat.le_of_ble_eq_true rfl, Nat.le_of_ble_eq_true rfl⟩ (c_X9_hasFolk l0 a2 x2 σ v4 e5) ?_
    refine g_if_ne O dX3_youngOf_9 rfl (fun c6 => ?_) (fun c6 => ?_)
    · replace h := (if_pos c6).symm.trans h
      refine g_iconst (v := (0 : Int32)) O dX3_youngOf_12 rfl ?_
      cases h
      exact g_ireturn O K dX3_youngOf_13
    · replace h := (if_neg c6).symm.trans h
      refine g_iconst (v := (0 : Int32)) O dX3_youngOf_14 rfl ?_
      refine g_istore_n (lv' := [(3, vI (0 : Int32)), (0, vA (some a0)), (1, vA r1), (2, vI x2)]) O dX3_youngOf_15 rfl 5 hn (by decide) rfl ?_
      refine g_iconst (v := (0 : Int32)) O dX3_youngOf_16 rfl ?_
      refine g_istore (lv' := [(4, vI (0 : Int32)), (3, vI (0 : Int32)), (0, vA (some a0)), (1, vA r1), (2, vI x2)]) O dX3_youngOf_17 5 hn (by decide) rfl ?_
      refine g_sub [3, 4, 1, 0] (lv' := [(1, vA r1), (2, vI x2), (3, vI (0 : Int32)), (4, vI (0 : Int32))]) rfl ?_
      obtain ⟨w7, e8, h⟩ := bo_some h
      refine iter_G (P := P_X3_youngOf_19 M r1 x2 σ) (E := E_X3_youngOf_19 M r1 x2 σ) (fun s o hb hk => t_X3_youngOf_L19 O R0 N hn r1 x2 s.1 s.2 σ o hb hk) FU ((0 : Int32), (0 : Int32)) w7 e8 ?_
      show G M 0 0 64 [(3, vI w7)] [] SX σ
      refine g_iload_n O dX3_youngOf_64 rfl 0 rfl ?_
      cases h
      exact g_ireturn O K dX3_youngOf_65
theorem c_X3_youngOf (l0 : Launch) (a0 : Nat) (r1 : Option Nat) (x2 : Int32) (σ : Dt) (r : Int32) (h : f_X3_youngOf a0 r1 x2 σ = some r) : Ctr l0 yX3_youngOf cX3_youngOf 5 (some .int) false 3 101 0 0 [vA (some a0), vA r1, vI x2] SX σ SX σ (some (vI r)) := ctr_of (by decide) (Nat.le_of_ble_eq_true rfl) (fun M O F R0 N hn => t_X3_youngOf O R0 N hn a0 r1 x2 σ r h F)
def P_X3_eldersOf_26 (M : Mx) (r1 : Option Nat) (σ : Dt) (s : (Int32 × Int32)) : Prop := G M 0 0 26 [(1, vA r1), (3, vI s.1), (4, vI s.2)] [] SX σ
def E_X3_eldersOf_26 (M : Mx) (r1 : Option Nat) (σ : Dt) : Int32 → Prop := (fun w => G M 0 0 56 [(3, vI w)] [] SX σ)
def f_X3_eldersOf_50 (r1 : Option Nat) (x3 : Int32) (x4 : Int32) (σ : Dt) : Option ((Int32 × Int32) ⊕ Int32) := some (.inl (x3, (x4 + (-1 : Int32))))
theorem t_X3_eldersOf_50 {M : Mx} {l0 : Launch} (O : Ok M cX3_eldersOf yX3_eldersOf) (R0 : Rm M l0 3 101 0 0) (N : Ma M = false) (hn : Mn M = 5)  (r1 : Option Nat) (x3 : Int32) (x4 : Int32) (σ : Dt) (o : ((Int32 × Int32) ⊕ Int32)) (h : f_X3_eldersOf_50 r1 x3 x4 σ = some o) (K : kon (P_X3_eldersOf_26 M r1 σ) (E_X3_eldersOf_26 M r1 σ) o) : G M 0 0 50 [(1, vA r1), (3, vI x3), (4, vI x4)] [] SX σ := by
  unfold f_X3_eldersOf_50 at h
  refine g_iinc (v := (x4 + (-1 : Int32))) (lv' := [(4, vI (x4 + (-1 : Int32))), (1, vA r1), (3, vI x3)]) O dX3_eldersOf_50 5 hn (by decide) 2 rfl rfl rfl ?_
  refine g_goto O dX3_eldersOf_53 rfl ?_
  refine g_sub [1, 2, 0] (lv' := [(1, vA r1), (3, vI x3), (4, vI (x4 + (-1 : Int32)))]) rfl ?_
  cases h
  exact K
def f_X3_eldersOf_L26 (r1 : Option Nat) (x3 : Int32) (x4 : Int32) (σ : Dt) : Option ((Int32 × Int32) ⊕ Int32) := if x4 < 0 then some (.inr x3) else if ((x3 >>> (x4 &&& 31)) &&& (1 : Int32)) = 0 then f_X3_eldersOf_50 r1 x3 x4 σ else bo (xgr SX 9 5 r1 σ) fun v3 => bo (xai SX v3 x4 σ) fun v5 => f_X3_eldersOf_50 r1 (x3 ||| v5) x4 σ
theorem t_X3_eldersOf_L26 {M : Mx} {l0 : Launch} (O : Ok M cX3_eldersOf yX3_eldersOf) (R0 : Rm M l0 3 101 0 0) (N : Ma M = false) (hn : Mn M = 5) (r1 : Option Nat) (x3 : Int32) (x4 : Int32) (σ : Dt) (o : ((Int32 × Int32) ⊕ Int32)) (h : f_X3_eldersOf_L26 r1 x3 x4 σ = some o) (K : kon (P_X3_eldersOf_26 M r1 σ) (E_X3_eldersOf_26 M r1 σ) o) : G M 0 0 26 [(1, vA r1), (3, vI x3), (4, vI x4)] [] SX σ := by
  unfold f_X3_eldersOf_L26 at h
  refine g_iload O dX3_eldersOf_26 2 rfl ?_
  refine g_if_lt O dX3_eldersOf_28 rfl (fun c1 => ?_) (fun c1 => ?_)
  · replace h := (if_pos c1).symm.trans h
    refine g_sub [1] (lv' := [(3, vI x3)]) rfl ?_
    cases h
    exact K
  · replace h := (if_neg c1).symm.trans h
    refine g_iload_n O dX3_eldersOf_31 rfl 1 rfl ?_
    refine g_iload O dX3_eldersOf_32 2 rfl ?_
    refine g_ishr O dX3_eldersOf_34 ?_
    refine g_iconst (v := (1 : Int32)) O dX3_eldersOf_35 rfl ?_
    refine g_iand O dX3_eldersOf_36 ?_
    refine g_if_eq O dX3_eldersOf_37 rfl (fun c2 => ?_) (fun c2 => ?_)
    · replace h := (if_pos c2).symm.trans h
      exact t_X3_eldersOf_50 O R0 N hn r1 x3 x4 σ o h K
    · replace h := (if_neg c2).symm.trans h
      refine g_iload_n O dX3_eldersOf_40 rfl 1 rfl ?_
      refine g_aload_n O dX3_eldersOf_41 rfl 0 rfl ?_
      obtain ⟨v3, e4, h⟩ := bo_some h
      refine g_getR O dX3_eldersOf_42 fl_X3_36 rfl e4 ?_
      refine g_iload O dX3_eldersOf_45 2 rfl ?_
      obtain ⟨v5, e6, h⟩ := bo_some h
      refine g_iaload O dX3_eldersOf_47 e6 ?_
      refine g_ior O dX3_eldersOf_48 ?_
      refine g_istore_n (lv' := [(3, vI (x3 ||| v5)), (1, vA r1), (4, vI x4)]) O dX3_eldersOf_49 rfl 5 hn (by decide) rfl ?_
      refine g_sub [1, 0, 2] (lv' := [(1, vA r1), (3, vI (x3 ||| v5)), (4, vI x4)]) rfl ?_
      exact t_X3_eldersOf_50 O R0 N hn r1 (x3 ||| v5) x4 σ o h K
def f_X3_eldersOf (a0 : Nat) (r1 : Option Nat) (x2 : Int32) (σ : Dt) : Option Int32 := if r1 = none then some (0 : Int32) else bo (xrc SX 9 r1) fun a2 => bo (f_X9_hasFolk a2 x2 σ) fun v4 => if v4 = 0 then some (0 : Int32) else bo (xgr SX 9 5 r1 σ) fun v7 => bo (xai SX v7 x2 σ) fun v9 => bo (iter FU (fun s => f_X3_eldersOf_L26 r1 s.1 s.2 σ) (v9, (x2 - (1 : Int32)))) fun w11 => some w11
theorem t_X3_eldersOf {M : Mx} {l0 : Launch} (O : Ok M cX3_eldersOf yX3_eldersOf) (R0 : Rm M l0 3 101 0 0) (N : Ma M = false) (hn : Mn M = 5) (a0 : Nat) (r1 : Option Nat) (x2 : Int32) (σ : Dt) (o : Int32) (h : f_X3_eldersOf a0 r1 x2 σ = some o) (K : Fin' M (some .int) 0 0 SX σ (some (vI o))) : G M 0 0 0 [(0, vA (some a0)), (1, vA r1), (2, vI x2)] [] SX σ := by
  unfold f_X3_eldersOf at h
  refine g_aload_n O dX3_eldersOf_0 rfl 1 rfl ?_
  refine g_ifnull O dX3_eldersOf_1 rfl (fun c1 => ?_) (fun c1 => ?_)
  · replace h := (if_pos c1).symm.trans h
    refine g_iconst (v := (0 : Int32)) O dX3_eldersOf_12 rfl ?_
    cases h
    exact g_ireturn O K dX3_eldersOf_13
  · replace h := (if_neg c1).symm.trans h
    refine g_aload_n O dX3_eldersOf_4 rfl 1 rfl ?_
    refine g_iload_n O dX3_eldersOf_5 rfl 2 rfl ?_
    obtain ⟨a2, e3, h⟩ := bo_some h
    obtain ⟨v4, e5, h⟩ := bo_some h
    refine g_cV1 O R0 N dX3_eldersOf_6 vl_X3_26 vv_X9_hasFolk e3 [vI x2] rfl rfl rfl ⟨Nat.le_of_ble_eq_true rfl, Nat.le_of_ble_eq_true rfl⟩ (c_X9_hasFolk l0 a2 x2 σ v4 e5) ?_
    refine g_if_ne O dX3_eldersOf_9 rfl (fun c6 => ?_) (fun c6 => ?_)
    · replace h := (if_pos c6).symm.trans h
      refine g_iconst (v := (0 : Int32)) O dX3_eldersOf_12 rfl ?_
      cases h
      exact g_ireturn O K dX3_eldersOf_13
    · replace h := (if_neg c6).symm.trans h
      refine g_aload_n O dX3_eldersOf_14 rfl 1 rfl ?_
      obtain ⟨v7, e8, h⟩ := bo_some h
      refine g_getR O dX3_eldersOf_15 fl_X3_36 rfl e8 ?_
      refine g_iload_n O dX3_eldersOf_18 rfl 2 rfl ?_
      obtain ⟨v9, e10, h⟩ := bo_some h
      refine g_iaload O dX3_eldersOf_19 e10 ?_
      refine g_istore_n (lv' := [(3, vI v9), (0, vA (some a0)), (1, vA r1), (2, vI x2)]) O dX3_eldersOf_20 rfl 5 hn (by decide) rfl ?_
      refine g_iload_n O dX3_eldersOf_21 rfl 3 rfl ?_
      refine g_iconst (v := (1 : Int32)) O dX3_eldersOf_22 rfl ?_
      refine g_isub O dX3_eldersOf_23 ?_
      refine g_istore (lv' := [(4, vI (x2 - (1 : Int32))), (3, vI v9), (0, vA (some a0)), (1, vA r1), (2, vI x2)]) O dX3_eldersOf_24 5 hn (by decide) rfl ?_
      refine g_sub [3, 1, 0] (lv' := [(1, vA r1), (3, vI v9), (4, vI (x2 - (1 : Int32)))]) rfl ?_
      obtain ⟨w11, e12, h⟩ := bo_some h
      refine iter_G (P := P_X3_eldersOf_26 M r1 σ) (E := E_X3_eldersOf_26 M r1 σ) (fun s o hb hk => t_X3_eldersOf_L26 O R0 N hn r1 s.1 s.2 σ o hb hk) FU (v9, (x2 - (1 : Int32))) w11 e12 ?_
      show G M 0 0 56 [(3, vI w11)] [] SX σ
      refine g_iload_n O dX3_eldersOf_56 rfl 0 rfl ?_
      cases h
      exact g_ireturn O K dX3_eldersOf_57
theorem c_X3_eldersOf (l0 : Launch) (a0 : Nat) (r1 : Option Nat) (x2 : Int32) (σ : Dt) (r : Int32) (h : f_X3_eldersOf a0 r1 x2 σ = some r) : Ctr l0 yX3_eldersOf cX3_eldersOf 5 (some .int) false 3 101 0 0 [vA (some a0), vA r1, vI x2] SX σ SX σ (some (vI r)) := ctr_of (by decide) (Nat.le_of_ble_eq_true rfl) (fun M O F R0 N hn => t_X3_eldersOf O R0 N hn a0 r1 x2 σ r h F)
def f_X11_elders (a0 : Nat) (x1 : Int32) (x2 : Int32) (x3 : Int32) (σ : Dt) : Option Int32 := bo (xgr SX 11 0 (some a0) σ) fun v1 => bo (xrc SX 8 v1) fun a3 => bo (f_X8_valleyAt a3 x1 σ) fun v5 => if v5 = none then some (-1 : Int32) else bo (xrc SX 9 v5) fun a8 => bo (f_X9_hasFolk a8 x2 σ) fun v10 => if v10 = 0 then some (-1 : Int32) else if x3 = 0 then bo (xgr SX 11 8 (some a0) σ) fun v14 => bo (xrc SX 3 v14) fun a16 => bo (f_X3_eldersOf a16 v5 x2 σ) fun v18 => some v18 else bo (xgr SX 11 8 (some a0) σ) fun v20 => bo (xrc SX 3 v20) fun a22 => bo (f_X3_youngOf a22 v5 x2 σ) fun v24 => some v24
theorem t_X11_elders {M : Mx} {l0 : Launch} (O : Ok M cX11_elders yX11_elders) (R0 : Rm M l0 5 144 0 0) (N : Ma M = false) (hn : Mn M = 5) (a0 : Nat) (x1 : Int32) (x2 : Int32) (x3 : Int32) (σ : Dt) (o : Int32) (h : f_X11_elders a0 x1 x2 x3 σ = some o) (K : Fin' M (some .int) 0 0 SX σ (some (vI o))) : G M 0 0 0 [(0, vA (some a0)), (1, vI x1), (2, vI x2), (3, vI x3)] [] SX σ := by
  unfold f_X11_elders at h
  refine g_aload_n O dX11_elders_0 rfl 0 rfl ?_
  obtain ⟨v1, e2, h⟩ := bo_some h
  refine g_getR O dX11_elders_1 fl_X11_12 rfl e2 ?_
  refine g_iload_n O dX11_elders_4 rfl 1 rfl ?_
  obtain ⟨a3, e4, h⟩ := bo_some h
  obtain ⟨v5, e6, h⟩ := bo_some h
  refine g_cV1 O R0 N dX11_elders_5 vl_X11_105 vv_X8_valleyAt e4 [vI x1] rfl rfl rfl ⟨Nat.le_of_ble_eq_true rfl, Nat.le_of_ble_eq_true rfl⟩ (c_X8_valleyAt l0 a3 x1 σ v5 e6) ?_
  refine g_astore (lv' := [(4, vA v5), (0, vA (some a0)), (1, vI x1), (2, vI x2), (3, vI x3)]) O dX11_elders_8 5 hn (by decide) rfl ?_
  refine g_aload O dX11_elders_10 0 rfl ?_
  refine g_ifnull O dX11_elders_12 rfl (fun c7 => ?_) (fun c7 => ?_)
  · replace h := (if_pos c7).symm.trans h
    refine g_iconst (v := (-1 : Int32)) O dX11_elders_24 rfl ?_
    cases h
    exact g_ireturn O K dX11_elders_25
  · replace h := (if_neg c7).symm.trans h
    refine g_aload O dX11_elders_15 0 rfl ?_
    refine g_iload_n O dX11_elders_17 rfl 3 rfl ?_
    obtain ⟨a8, e9, h⟩ := bo_some h
    obtain ⟨v10, e11, h⟩ := bo_some h
    refine g_cV1 O R0 N dX11_elders_18 vl_X11_198 vv_X9_hasFolk e9 [vI x2] rfl rfl rfl ⟨Nat.le_of_ble_eq_true rfl, Nat.le_of_ble_eq_true rfl⟩ (c_X9_hasFolk l0 a8 x2 σ v10 e11) ?_
    refine g_if_ne O dX11_elders_21 rfl (fun c12 => ?_) (fun c12 => ?_)
    · replace h := (if_pos c12).symm.trans h
      refine g_iconst (v := (-1 : Int32)) O dX11_elders_24 rfl ?_
      cases h
      exact g_ireturn O K dX11_elders_25
    · replace h := (if_neg c12).symm.trans h
      refine g_iload_n O dX11_elders_26 rfl 4 rfl ?_
      refine g_if_eq O dX11_elders_27 rfl (fun c13 => ?_) (fun c13 => ?_)
      · replace h := (if_pos c13).symm.trans h
        refine g_aload_n O dX11_elders_43 rfl 1 rfl ?_
        obtain ⟨v14, e15, h⟩ := bo_some h
        refine g_getR O dX11_elders_44 fl_X11_62 rfl e15 ?_
        refine g_aload O dX11_elders_47 0 rfl ?_
        refine g_iload_n O dX11_elders_49 rfl 3 rfl ?_
        obtain ⟨a16, e17, h⟩ := bo_some h
        obtain ⟨v18, e19, h⟩ := bo_some h
        refine g_cV1 O R0 N dX11_elders_50 vl_X11_239 vv_X3_eldersOf e17 [vA v5, vI x2] rfl rfl rfl ⟨Nat.le_of_ble_eq_true rfl, Nat.le_of_ble_eq_true rfl⟩ (c_X3_eldersOf l0 a16 v5 x2 σ v18 e19) ?_
        cases h
        exact g_ireturn O K dX11_elders_53
      · replace h := (if_neg c13).symm.trans h
        refine g_aload_n O dX11_elders_30 rfl 1 rfl ?_
        obtain ⟨v20, e21, h⟩ := bo_some h
        refine g_getR O dX11_elders_31 fl_X11_62 rfl e21 ?_
        refine g_aload O dX11_elders_34 0 rfl ?_
        refine g_iload_n O dX11_elders_36 rfl 3 rfl ?_
        obtain ⟨a22, e23, h⟩ := bo_some h
        obtain ⟨v24, e25, h⟩ := bo_some h
        refine g_cV1 O R0 N dX11_elders_37 vl_X11_236 vv_X3_youngOf e23 [vA v5, vI x2] rfl rfl rfl ⟨Nat.le_of_ble_eq_true rfl, Nat.le_of_ble_eq_true rfl⟩ (c_X3_youngOf l0 a22 v5 x2 σ v24 e25) ?_
        refine g_goto O dX11_elders_40 rfl ?_
        cases h
        exact g_ireturn O K dX11_elders_53
theorem c_X11_elders (l0 : Launch) (a0 : Nat) (x1 : Int32) (x2 : Int32) (x3 : Int32) (σ : Dt) (r : Int32) (h : f_X11_elders a0 x1 x2 x3 σ = some r) : Ctr l0 yX11_elders cX11_elders 5 (some .int) false 5 144 0 0 [vA (some a0), vI x1, vI x2, vI x3] SX σ SX σ (some (vI r)) := ctr_of (by decide) (Nat.le_of_ble_eq_true rfl) (fun M O F R0 N hn => t_X11_elders O R0 N hn a0 x1 x2 x3 σ r h F)
