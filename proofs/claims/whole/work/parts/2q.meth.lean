def P_X12_power_59 (M : Mx) (a0 : Nat) (x3 : Int32) (x4 : Int32) (x5 : Int32) (x6 : Int32) (x7 : Int32) (σ : Dt) (s : (Int64 × Int32)) : Prop := G M 0 0 59 [(0, vA (some a0)), (3, vI x3), (4, vI x4), (5, vI x5), (6, vI x6), (7, vI x7), (8, vJ s.1), (10, vI s.2)] [] SM σ
def E_X12_power_59 (M : Mx) (a0 : Nat) (x3 : Int32) (x4 : Int32) (x5 : Int32) (x6 : Int32) (x7 : Int32) (σ : Dt) : Int64 → Prop := (fun w => G M 0 0 168 [(6, vI x6), (7, vI x7), (8, vJ w)] [] SM σ)
def f_X12_power_162 (a0 : Nat) (x3 : Int32) (x4 : Int32) (x5 : Int32) (x6 : Int32) (x7 : Int32) (y8 : Int64) (x10 : Int32) (σ : Dt) : Option ((Int64 × Int32) ⊕ Int64) := some (.inl (y8, (x10 + (-1 : Int32))))
theorem t_X12_power_162 {M : Mx} {l0 : Launch} (O : Ok M cX12_power yX12_power) (R0 : Rm M l0 6 169 0 0) (N : Ma M = false) (hn : Mn M = 12)  (a0 : Nat) (x3 : Int32) (x4 : Int32) (x5 : Int32) (x6 : Int32) (x7 : Int32) (y8 : Int64) (x10 : Int32) (σ : Dt) (o : ((Int64 × Int32) ⊕ Int64)) (h : f_X12_power_162 a0 x3 x4 x5 x6 x7 y8 x10 σ = some o) (K : kon (P_X12_power_59 M a0 x3 x4 x5 x6 x7 σ) (E_X12_power_59 M a0 x3 x4 x5 x6 x7 σ) o) : G M 0 0 162 [(0, vA (some a0)), (3, vI x3), (4, vI x4), (5, vI x5), (6, vI x6), (7, vI x7), (8, vJ y8), (10, vI x10)] [] SM σ := by
  unfold f_X12_power_162 at h
  refine g_iinc (v := (x10 + (-1 : Int32))) (lv' := [(10, vI (x10 + (-1 : Int32))), (0, vA (some a0)), (3, vI x3), (4, vI x4), (5, vI x5), (6, vI x6), (7, vI x7), (8, vJ y8)]) O dX12_power_162 12 hn (by decide) 7 rfl rfl rfl ?_
  refine g_goto O dX12_power_165 rfl ?_
  refine g_sub [1, 2, 3, 4, 5, 6, 7, 0] (lv' := [(0, vA (some a0)), (3, vI x3), (4, vI x4), (5, vI x5), (6, vI x6), (7, vI x7), (8, vJ y8), (10, vI (x10 + (-1 : Int32)))]) rfl ?_
  cases h
  exact K
def f_X12_power_159 (a0 : Nat) (x3 : Int32) (x4 : Int32) (x5 : Int32) (x6 : Int32) (x7 : Int32) (x10 : Int32) (k0 : Int64) (k1 : Int64) (σ : Dt) : Option ((Int64 × Int32) ⊕ Int64) := f_X12_power_162 a0 x3 x4 x5 x6 x7 (k0 + k1) x10 σ
theorem t_X12_power_159 {M : Mx} {l0 : Launch} (O : Ok M cX12_power yX12_power) (R0 : Rm M l0 6 169 0 0) (N : Ma M = false) (hn : Mn M = 12)  (a0 : Nat) (x3 : Int32) (x4 : Int32) (x5 : Int32) (x6 : Int32) (x7 : Int32) (x10 : Int32) (k0 : Int64) (k1 : Int64) (σ : Dt) (o : ((Int64 × Int32) ⊕ Int64)) (h : f_X12_power_159 a0 x3 x4 x5 x6 x7 x10 k0 k1 σ = some o) (K : kon (P_X12_power_59 M a0 x3 x4 x5 x6 x7 σ) (E_X12_power_59 M a0 x3 x4 x5 x6 x7 σ) o) : G M 0 0 159 [(0, vA (some a0)), (3, vI x3), (4, vI x4), (5, vI x5), (6, vI x6), (7, vI x7), (10, vI x10)] [vJ k1, vJ k0] SM σ := by
  unfold f_X12_power_159 at h
  refine g_ladd O dX12_power_159 ?_
  refine g_lstore (lv' := [(8, vJ (k0 + k1)), (0, vA (some a0)), (3, vI x3), (4, vI x4), (5, vI x5), (6, vI x6), (7, vI x7), (10, vI x10)]) O dX12_power_160 12 hn (by decide) rfl ?_
  refine g_sub [1, 2, 3, 4, 5, 6, 0, 7] (lv' := [(0, vA (some a0)), (3, vI x3), (4, vI x4), (5, vI x5), (6, vI x6), (7, vI x7), (8, vJ (k0 + k1)), (10, vI x10)]) rfl ?_
  exact t_X12_power_162 O R0 N hn a0 x3 x4 x5 x6 x7 (k0 + k1) x10 σ o h K
def f_X12_power_123 (a0 : Nat) (x3 : Int32) (x4 : Int32) (x5 : Int32) (x6 : Int32) (x7 : Int32) (y8 : Int64) (x10 : Int32) (k0 : Int32) (σ : Dt) : Option ((Int64 × Int32) ⊕ Int64) := if k0 = 0 then f_X12_power_159 a0 x3 x4 x5 x6 x7 x10 y8 (0 : Int64) σ else bo (f_X12_bitsOf x10 σ) fun v2 => bo (f_X12_rowsOf v2 σ) fun v4 => bo (f_X12_bitsOf x7 σ) fun v6 => bo (f_X12_bitsOf x10 σ) fun v8 => bo (f_X12_rowsOf (v6 - v8) σ) fun v10 => f_X12_power_159 a0 x3 x4 x5 x6 x7 x10 y8 (v4 * v10) σ
theorem t_X12_power_123 {M : Mx} {l0 : Launch} (O : Ok M cX12_power yX12_power) (R0 : Rm M l0 6 169 0 0) (N : Ma M = false) (hn : Mn M = 12)  (a0 : Nat) (x3 : Int32) (x4 : Int32) (x5 : Int32) (x6 : Int32) (x7 : Int32) (y8 : Int64) (x10 : Int32) (k0 : Int32) (σ : Dt) (o : ((Int64 × Int32) ⊕ Int64)) (h : f_X12_power_123 a0 x3 x4 x5 x6 x7 y8 x10 k0 σ = some o) (K : kon (P_X12_power_59 M a0 x3 x4 x5 x6 x7 σ) (E_X12_power_59 M a0 x3 x4 x5 x6 x7 σ) o) : G M 0 0 123 [(0, vA (some a0)), (3, vI x3), (4, vI x4), (5, vI x5), (6, vI x6), (7, vI x7), (8, vJ y8), (10, vI x10)] [vI k0] SM σ := by
  unfold f_X12_power_123 at h
  refine g_istore (lv' := [(11, vI k0), (0, vA (some a0)), (3, vI x3), (4, vI x4), (5, vI x5), (6, vI x6), (7, vI x7), (8, vJ y8), (10, vI x10)]) O dX12_power_123 12 hn (by decide) rfl ?_
  refine g_lload O dX12_power_125 7 rfl ?_
  refine g_iload O dX12_power_127 0 rfl ?_
  refine g_if_eq O dX12_power_129 rfl (fun c1 => ?_) (fun c1 => ?_)
  · replace h := (if_pos c1).symm.trans h
    refine g_lconst (v := (0 : Int64)) O dX12_power_158 rfl ?_
    refine g_sub [1, 2, 3, 4, 5, 6, 8] (lv' := [(0, vA (some a0)), (3, vI x3), (4, vI x4), (5, vI x5), (6, vI x6), (7, vI x7), (10, vI x10)]) rfl ?_
    exact t_X12_power_159 O R0 N hn a0 x3 x4 x5 x6 x7 x10 y8 (0 : Int64) σ o h K
  · replace h := (if_neg c1).symm.trans h
    refine g_iload O dX12_power_132 8 rfl ?_
    obtain ⟨v2, e3, h⟩ := bo_some h
    refine g_cS1 O R0 N dX12_power_134 vl_X12_183 w1701 [vI x10] rfl rfl rfl ⟨Nat.le_of_ble_eq_true rfl, Nat.le_of_ble_eq_true rfl⟩ (c_X12_bitsOf l0 x10 σ v2 e3) ?_
    obtain ⟨v4, e5, h⟩ := bo_some h
    refine g_cS1 O R0 N dX12_power_137 vl_X12_316 w1860 [vI v2] rfl rfl rfl ⟨Nat.le_of_ble_eq_true rfl, Nat.le_of_ble_eq_true rfl⟩ (c_X12_rowsOf l0 v2 σ v4 e5) ?_
    refine g_iload O dX12_power_140 6 rfl ?_
    obtain ⟨v6, e7, h⟩ := bo_some h
    refine g_cS1 O R0 N dX12_power_142 vl_X12_183 w1701 [vI x7] rfl rfl rfl ⟨Nat.le_of_ble_eq_true rfl, Nat.le_of_ble_eq_true rfl⟩ (c_X12_bitsOf l0 x7 σ v6 e7) ?_
    refine g_iload O dX12_power_145 8 rfl ?_
    obtain ⟨v8, e9, h⟩ := bo_some h
    refine g_cS1 O R0 N dX12_power_147 vl_X12_183 w1701 [vI x10] rfl rfl rfl ⟨Nat.le_of_ble_eq_true rfl, Nat.le_of_ble_eq_true rfl⟩ (c_X12_bitsOf l0 x10 σ v8 e9) ?_
    refine g_isub O dX12_power_150 ?_
    obtain ⟨v10, e11, h⟩ := bo_some h
    refine g_cS1 O R0 N dX12_power_151 vl_X12_316 w1860 [vI (v6 - v8)] rfl rfl rfl ⟨Nat.le_of_ble_eq_true rfl, Nat.le_of_ble_eq_true rfl⟩ (c_X12_rowsOf l0 (v6 - v8) σ v10 e11) ?_
    refine g_lmul O dX12_power_154 ?_
    refine g_goto O dX12_power_155 rfl ?_
    refine g_sub [1, 2, 3, 4, 5, 6, 8] (lv' := [(0, vA (some a0)), (3, vI x3), (4, vI x4), (5, vI x5), (6, vI x6), (7, vI x7), (10, vI x10)]) rfl ?_
    exact t_X12_power_159 O R0 N hn a0 x3 x4 x5 x6 x7 x10 y8 (v4 * v10) σ o h K
def f_X12_power_122 (a0 : Nat) (x3 : Int32) (x4 : Int32) (x5 : Int32) (x6 : Int32) (x7 : Int32) (y8 : Int64) (x10 : Int32) (σ : Dt) : Option ((Int64 × Int32) ⊕ Int64) := f_X12_power_123 a0 x3 x4 x5 x6 x7 y8 x10 (0 : Int32) σ
theorem t_X12_power_122 {M : Mx} {l0 : Launch} (O : Ok M cX12_power yX12_power) (R0 : Rm M l0 6 169 0 0) (N : Ma M = false) (hn : Mn M = 12)  (a0 : Nat) (x3 : Int32) (x4 : Int32) (x5 : Int32) (x6 : Int32) (x7 : Int32) (y8 : Int64) (x10 : Int32) (σ : Dt) (o : ((Int64 × Int32) ⊕ Int64)) (h : f_X12_power_122 a0 x3 x4 x5 x6 x7 y8 x10 σ = some o) (K : kon (P_X12_power_59 M a0 x3 x4 x5 x6 x7 σ) (E_X12_power_59 M a0 x3 x4 x5 x6 x7 σ) o) : G M 0 0 122 [(0, vA (some a0)), (3, vI x3), (4, vI x4), (5, vI x5), (6, vI x6), (7, vI x7), (8, vJ y8), (10, vI x10)] [] SM σ := by
  unfold f_X12_power_122 at h
  refine g_iconst (v := (0 : Int32)) O dX12_power_122 rfl ?_
  exact t_X12_power_123 O R0 N hn a0 x3 x4 x5 x6 x7 y8 x10 (0 : Int32) σ o h K
def f_X12_power_L59 (a0 : Nat) (x3 : Int32) (x4 : Int32) (x5 : Int32) (x6 : Int32) (x7 : Int32) (y8 : Int64) (x10 : Int32) (σ : Dt) : Option ((Int64 × Int32) ⊕ Int64) := if x10 < 0 then some (.inr y8) else if (x10 &&& (x7 ^^^ (-1 : Int32))) = 0 then bo (xrc SM 12 (some a0)) fun a3 => bo (f_X12_strengths a3 x10 (-1 : Int32) σ) fun v5 => bo (xrc SM 12 (some a0)) fun a7 => bo (f_X12_muchOf a7 x3 σ) fun v9 => if v9 ≤ (x4 * v5) then f_X12_power_122 a0 x3 x4 x5 x6 x7 y8 x10 σ else bo (xrc SM 12 (some a0)) fun a12 => bo (f_X12_strengths a12 (x10 ||| ((1 : Int32) <<< (x5 &&& 31))) (-1 : Int32) σ) fun v14 => bo (xrc SM 12 (some a0)) fun a16 => bo (f_X12_muchOf a16 x3 σ) fun v18 => if (x4 * v14) < v18 then f_X12_power_122 a0 x3 x4 x5 x6 x7 y8 x10 σ else f_X12_power_123 a0 x3 x4 x5 x6 x7 y8 x10 (1 : Int32) σ else f_X12_power_162 a0 x3 x4 x5 x6 x7 y8 x10 σ
theorem t_X12_power_L59 {M : Mx} {l0 : Launch} (O : Ok M cX12_power yX12_power) (R0 : Rm M l0 6 169 0 0) (N : Ma M = false) (hn : Mn M = 12) (a0 : Nat) (x3 : Int32) (x4 : Int32) (x5 : Int32) (x6 : Int32) (x7 : Int32) (y8 : Int64) (x10 : Int32) (σ : Dt) (o : ((Int64 × Int32) ⊕ Int64)) (h : f_X12_power_L59 a0 x3 x4 x5 x6 x7 y8 x10 σ = some o) (K : kon (P_X12_power_59 M a0 x3 x4 x5 x6 x7 σ) (E_X12_power_59 M a0 x3 x4 x5 x6 x7 σ) o) : G M 0 0 59 [(0, vA (some a0)), (3, vI x3), (4, vI x4), (5, vI x5), (6, vI x6), (7, vI x7), (8, vJ y8), (10, vI x10)] [] SM σ := by
  unfold f_X12_power_L59 at h
  refine g_iload O dX12_power_59 7 rfl ?_
  refine g_if_lt O dX12_power_61 rfl (fun c1 => ?_) (fun c1 => ?_)
  · replace h := (if_pos c1).symm.trans h
    refine g_sub [4, 5, 6] (lv' := [(6, vI x6), (7, vI x7), (8, vJ y8)]) rfl ?_
    cases h
    exact K
  · replace h := (if_neg c1).symm.trans h
    refine g_iload O dX12_power_64 7 rfl ?_
    refine g_iload O dX12_power_66 5 rfl ?_
    refine g_iconst (v := (-1 : Int32)) O dX12_power_68 rfl ?_
    refine g_ixor O dX12_power_69 ?_
    refine g_iand O dX12_power_70 ?_
    refine g_if_eq O dX12_power_71 rfl (fun c2 => ?_) (fun c2 => ?_)
    · replace h := (if_pos c2).symm.trans h
      refine g_iload O dX12_power_77 2 rfl ?_
      refine g_aload_n O dX12_power_79 rfl 0 rfl ?_
      refine g_iload O dX12_power_80 7 rfl ?_
      refine g_iconst (v := (-1 : Int32)) O dX12_power_82 rfl ?_
      obtain ⟨a3, e4, h⟩ := bo_some h
      obtain ⟨v5, e6, h⟩ := bo_some h
      refine g_cV1 O R0 N dX12_power_83 vl_X12_247 vv_X12_strengths e4 [vI x10, vI (-1 : Int32)] rfl rfl rfl ⟨Nat.le_of_ble_eq_true rfl, Nat.le_of_ble_eq_true rfl⟩ (c_X12_strengths l0 a3 x10 (-1 : Int32) σ v5 e6) ?_
      refine g_imul O dX12_power_86 ?_
      refine g_aload_n O dX12_power_87 rfl 0 rfl ?_
      refine g_iload_n O dX12_power_88 rfl 1 rfl ?_
      obtain ⟨a7, e8, h⟩ := bo_some h
      obtain ⟨v9, e10, h⟩ := bo_some h
      refine g_cV1 O R0 N dX12_power_89 vl_X12_229 vv_X12_muchOf e8 [vI x3] rfl rfl rfl ⟨Nat.le_of_ble_eq_true rfl, Nat.le_of_ble_eq_true rfl⟩ (c_X12_muchOf l0 a7 x3 σ v9 e10) ?_
      refine g_icmp_ge O dX12_power_92 rfl (fun c11 => ?_) (fun c11 => ?_)
      · replace h := (if_pos c11).symm.trans h
        exact t_X12_power_122 O R0 N hn a0 x3 x4 x5 x6 x7 y8 x10 σ o h K
      · replace h := (if_neg c11).symm.trans h
        refine g_iload O dX12_power_95 2 rfl ?_
        refine g_aload_n O dX12_power_97 rfl 0 rfl ?_
        refine g_iload O dX12_power_98 7 rfl ?_
        refine g_iconst (v := (1 : Int32)) O dX12_power_100 rfl ?_
        refine g_iload O dX12_power_101 3 rfl ?_
        refine g_ishl O dX12_power_103 ?_
        refine g_ior O dX12_power_104 ?_
        refine g_iconst (v := (-1 : Int32)) O dX12_power_105 rfl ?_
        obtain ⟨a12, e13, h⟩ := bo_some h
        obtain ⟨v14, e15, h⟩ := bo_some h
        refine g_cV1 O R0 N dX12_power_106 vl_X12_247 vv_X12_strengths e13 [vI (x10 ||| ((1 : Int32) <<< (x5 &&& 31))), vI (-1 : Int32)] rfl rfl rfl ⟨Nat.le_of_ble_eq_true rfl, Nat.le_of_ble_eq_true rfl⟩ (c_X12_strengths l0 a12 (x10 ||| ((1 : Int32) <<< (x5 &&& 31))) (-1 : Int32) σ v14 e15) ?_
        refine g_imul O dX12_power_109 ?_
        refine g_aload_n O dX12_power_110 rfl 0 rfl ?_
        refine g_iload_n O dX12_power_111 rfl 1 rfl ?_
        obtain ⟨a16, e17, h⟩ := bo_some h
        obtain ⟨v18, e19, h⟩ := bo_some h
        refine g_cV1 O R0 N dX12_power_112 vl_X12_229 vv_X12_muchOf e17 [vI x3] rfl rfl rfl ⟨Nat.le_of_ble_eq_true rfl, Nat.le_of_ble_eq_true rfl⟩ (c_X12_muchOf l0 a16 x3 σ v18 e19) ?_
        refine g_icmp_lt O dX12_power_115 rfl (fun c20 => ?_) (fun c20 => ?_)
        · replace h := (if_pos c20).symm.trans h
          exact t_X12_power_122 O R0 N hn a0 x3 x4 x5 x6 x7 y8 x10 σ o h K
        · replace h := (if_neg c20).symm.trans h
          refine g_iconst (v := (1 : Int32)) O dX12_power_118 rfl ?_
          refine g_goto O dX12_power_119 rfl ?_
          exact t_X12_power_123 O R0 N hn a0 x3 x4 x5 x6 x7 y8 x10 (1 : Int32) σ o h K
    · replace h := (if_neg c2).symm.trans h
      refine g_goto O dX12_power_74 rfl ?_
      exact t_X12_power_162 O R0 N hn a0 x3 x4 x5 x6 x7 y8 x10 σ o h K
def f_X12_power (a0 : Nat) (x1 : Int32) (x2 : Int32) (x3 : Int32) (x4 : Int32) (x5 : Int32) (x6 : Int32) (σ : Dt) : Option (Int64 × Dt) := bo (xrc SM 12 (some a0)) fun a1 => bd (f_X12_mayKeep a1 x1 x2 x3 x4 σ) fun v3 σ4 => if v3 = 0 then some ((-1 : Int64), σ4) else bo (xrc SM 12 (some a0)) fun a7 => bo (f_X12_isFolk a7 x5 σ4) fun v9 => if v9 = 0 then some ((-1 : Int64), σ4) else bo (xrc SM 12 (some a0)) fun a12 => bo (f_X12_elderOf a12 x2 σ4) fun v14 => bo (f_X12_isAmong v14 x5 σ4) fun v16 => if v16 = 0 then some ((-1 : Int64), σ4) else bo (xrc SM 12 (some a0)) fun a19 => bo (f_X12_elderOf a19 x2 σ4) fun v21 => bo (some (v21 &&& (((1 : Int32) <<< (x5 &&& 31)) ^^^ (-1 : Int32)))) fun v23 => bo (iter FU (fun s => f_X12_power_L59 a0 x3 x4 x5 x6 v23 s.1 s.2 σ4) ((0 : Int64), v23)) fun w25 => bo (f_X12_bitsOf v23 σ4) fun v27 => bo (f_X12_rowsOf (v27 + (1 : Int32)) σ4) fun v29 => bo (f_X12_parted w25 v29 x6 σ4) fun v31 => some (v31, σ4)
theorem t_X12_power {M : Mx} {l0 : Launch} (O : Ok M cX12_power yX12_power) (R0 : Rm M l0 6 169 0 0) (N : Ma M = false) (hn : Mn M = 12) (a0 : Nat) (x1 : Int32) (x2 : Int32) (x3 : Int32) (x4 : Int32) (x5 : Int32) (x6 : Int32) (σ : Dt) (o : (Int64 × Dt)) (h : f_X12_power a0 x1 x2 x3 x4 x5 x6 σ = some o) (K : Fin' M (some .long) 0 0 SM o.2 (some (vJ o.1))) : G M 0 0 0 [(0, vA (some a0)), (1, vI x1), (2, vI x2), (3, vI x3), (4, vI x4), (5, vI x5), (6, vI x6)] [] SM σ := by
  unfold f_X12_power at h
  refine g_aload_n O dX12_power_0 rfl 0 rfl ?_
  refine g_iload_n O dX12_power_1 rfl 1 rfl ?_
  refine g_iload_n O dX12_power_2 rfl 2 rfl ?_
  refine g_iload_n O dX12_power_3 rfl 3 rfl ?_
  refine g_iload O dX12_power_4 4 rfl ?_
  obtain ⟨a1, e2, h⟩ := bo_some h
  obtain ⟨v3, σ4, e5, h⟩ := bd_some h
  refine g_cV1 O R0 N dX12_power_6 vl_X12_250 vv_X12_mayKeep e2 [vI x1, vI x2, vI x3, vI x4] rfl rfl rfl ⟨Nat.le_of_ble_eq_true rfl, Nat.le_of_ble_eq_true rfl⟩ (c_X12_mayKeep l0 a1 x1 x2 x3 x4 σ v3 σ4 e5) ?_
  refine g_if_eq O dX12_power_9 rfl (fun c6 => ?_) (fun c6 => ?_)
  · replace h := (if_pos c6).symm.trans h
    refine g_ldc2 O dX12_power_34 w1844 ?_
    cases h
    exact g_lreturn O K dX12_power_37
  · replace h := (if_neg c6).symm.trans h
    refine g_aload_n O dX12_power_12 rfl 0 rfl ?_
    refine g_iload O dX12_power_13 5 rfl ?_
    obtain ⟨a7, e8, h⟩ := bo_some h
    obtain ⟨v9, e10, h⟩ := bo_some h
    refine g_cV1 O R0 N dX12_power_15 vl_X12_223 vv_X12_isFolk e8 [vI x5] rfl rfl rfl ⟨Nat.le_of_ble_eq_true rfl, Nat.le_of_ble_eq_true rfl⟩ (c_X12_isFolk l0 a7 x5 σ4 v9 e10) ?_
    refine g_if_eq O dX12_power_18 rfl (fun c11 => ?_) (fun c11 => ?_)
    · replace h := (if_pos c11).symm.trans h
      refine g_ldc2 O dX12_power_34 w1844 ?_
      cases h
      exact g_lreturn O K dX12_power_37
    · replace h := (if_neg c11).symm.trans h
      refine g_aload_n O dX12_power_21 rfl 0 rfl ?_
      refine g_iload_n O dX12_power_22 rfl 2 rfl ?_
      obtain ⟨a12, e13, h⟩ := bo_some h
      obtain ⟨v14, e15, h⟩ := bo_some h
      refine g_cV1 O R0 N dX12_power_23 vl_X12_244 vv_X12_elderOf e13 [vI x2] rfl rfl rfl ⟨Nat.le_of_ble_eq_true rfl, Nat.le_of_ble_eq_true rfl⟩ (c_X12_elderOf l0 a12 x2 σ4 v14 e15) ?_
      refine g_iload O dX12_power_26 5 rfl ?_
      obtain ⟨v16, e17, h⟩ := bo_some h
      refine g_cS1 O R0 N dX12_power_28 vl_X12_235 w1766 [vI v14, vI x5] rfl rfl rfl ⟨Nat.le_of_ble_eq_true rfl, Nat.le_of_ble_eq_true rfl⟩ (c_X12_isAmong l0 v14 x5 σ4 v16 e17) ?_
      refine g_if_ne O dX12_power_31 rfl (fun c18 => ?_) (fun c18 => ?_)
      · replace h := (if_pos c18).symm.trans h
        refine g_ldc2 O dX12_power_34 w1844 ?_
        cases h
        exact g_lreturn O K dX12_power_37
      · replace h := (if_neg c18).symm.trans h
        refine g_aload_n O dX12_power_38 rfl 0 rfl ?_
        refine g_iload_n O dX12_power_39 rfl 2 rfl ?_
        obtain ⟨a19, e20, h⟩ := bo_some h
        obtain ⟨v21, e22, h⟩ := bo_some h
        refine g_cV1 O R0 N dX12_power_40 vl_X12_244 vv_X12_elderOf e20 [vI x2] rfl rfl rfl ⟨Nat.le_of_ble_eq_true rfl, Nat.le_of_ble_eq_true rfl⟩ (c_X12_elderOf l0 a19 x2 σ4 v21 e22) ?_
        refine g_iconst (v := (1 : Int32)) O dX12_power_43 rfl ?_
        refine g_iload O dX12_power_44 5 rfl ?_
        refine g_ishl O dX12_power_46 ?_
        refine g_iconst (v := (-1 : Int32)) O dX12_power_47 rfl ?_
        refine g_ixor O dX12_power_48 ?_
        refine g_iand O dX12_power_49 ?_
        obtain ⟨v23, e24, h⟩ := bo_some h
        rw [Option.some.inj e24]
        refine g_istore (lv' := [(7, vI v23), (0, vA (some a0)), (1, vI x1), (2, vI x2), (3, vI x3), (4, vI x4), (5, vI x5), (6, vI x6)]) O dX12_power_50 12 hn (by decide) rfl ?_
        refine g_lconst (v := (0 : Int64)) O dX12_power_52 rfl ?_
        refine g_lstore (lv' := [(8, vJ (0 : Int64)), (7, vI v23), (0, vA (some a0)), (1, vI x1), (2, vI x2), (3, vI x3), (4, vI x4), (5, vI x5), (6, vI x6)]) O dX12_power_53 12 hn (by decide) rfl ?_
        refine g_iload O dX12_power_55 1 rfl ?_
        refine g_istore (lv' := [(10, vI v23), (8, vJ (0 : Int64)), (7, vI v23), (0, vA (some a0)), (1, vI x1), (2, vI x2), (3, vI x3), (4, vI x4), (5, vI x5), (6, vI x6)]) O dX12_power_57 12 hn (by decide) rfl ?_
        refine g_sub [3, 6, 7, 8, 9, 2, 1, 0] (lv' := [(0, vA (some a0)), (3, vI x3), (4, vI x4), (5, vI x5), (6, vI x6), (7, vI v23), (8, vJ (0 : Int64)), (10, vI v23)]) rfl ?_
        obtain ⟨w25, e26, h⟩ := bo_some h
        refine iter_G (P := P_X12_power_59 M a0 x3 x4 x5 x6 v23 σ4) (E := E_X12_power_59 M a0 x3 x4 x5 x6 v23 σ4) (fun s o hb hk => t_X12_power_L59 O R0 N hn a0 x3 x4 x5 x6 v23 s.1 s.2 σ4 o hb hk) FU ((0 : Int64), v23) w25 e26 ?_
        show G M 0 0 168 [(6, vI x6), (7, vI v23), (8, vJ w25)] [] SM σ4
        refine g_lload O dX12_power_168 2 rfl ?_
        refine g_iload O dX12_power_170 1 rfl ?_
        obtain ⟨v27, e28, h⟩ := bo_some h
        refine g_cS1 O R0 N dX12_power_172 vl_X12_183 w1701 [vI v23] rfl rfl rfl ⟨Nat.le_of_ble_eq_true rfl, Nat.le_of_ble_eq_true rfl⟩ (c_X12_bitsOf l0 v23 σ4 v27 e28) ?_
        refine g_iconst (v := (1 : Int32)) O dX12_power_175 rfl ?_
        refine g_iadd O dX12_power_176 ?_
        obtain ⟨v29, e30, h⟩ := bo_some h
        refine g_cS1 O R0 N dX12_power_177 vl_X12_316 w1860 [vI (v27 + (1 : Int32))] rfl rfl rfl ⟨Nat.le_of_ble_eq_true rfl, Nat.le_of_ble_eq_true rfl⟩ (c_X12_rowsOf l0 (v27 + (1 : Int32)) σ4 v29 e30) ?_
        refine g_iload O dX12_power_180 0 rfl ?_
        obtain ⟨v31, e32, h⟩ := bo_some h
        refine g_cS1 O R0 N dX12_power_182 vl_X12_312 w1850 [vJ w25, vJ v29, vI x6] rfl rfl rfl ⟨Nat.le_of_ble_eq_true rfl, Nat.le_of_ble_eq_true rfl⟩ (c_X12_parted l0 w25 v29 x6 σ4 v31 e32) ?_
        cases h
        exact g_lreturn O K dX12_power_185
theorem c_X12_power (l0 : Launch) (a0 : Nat) (x1 : Int32) (x2 : Int32) (x3 : Int32) (x4 : Int32) (x5 : Int32) (x6 : Int32) (σ : Dt) (r : Int64) (σ' : Dt) (h : f_X12_power a0 x1 x2 x3 x4 x5 x6 σ = some (r, σ')) : Ctr l0 yX12_power cX12_power 12 (some .long) false 6 169 0 0 [vA (some a0), vI x1, vI x2, vI x3, vI x4, vI x5, vI x6] SM σ SM σ' (some (vJ r)) := ctr_of (by decide) (Nat.le_of_ble_eq_true rfl) (fun M O F R0 N hn => t_X12_power O R0 N hn a0 x1 x2 x3 x4 x5 x6 σ (r, σ') h F)
def P_X12_laysKin_22 (M : Mx) (a0 : Nat) (x1 : Int32) (x2 : Int32) (σ : Dt) (s : (Int64 × Int32)) : Prop := G M 0 0 22 [(0, vA (some a0)), (1, vI x1), (2, vI x2), (3, vJ s.1), (5, vI s.2)] [] SM σ
def E_X12_laysKin_22 (M : Mx) (a0 : Nat) (x1 : Int32) (x2 : Int32) (σ : Dt) : Int64 → Prop := (fun w => G M 0 0 66 [(0, vA (some a0)), (1, vI x1), (2, vI x2), (3, vJ w)] [] SM σ)
def f_X12_laysKin_58 (a0 : Nat) (x1 : Int32) (x2 : Int32) (x5 : Int32) (k0 : Int64) (k1 : Int64) (σ : Dt) : Option ((Int64 × Int32) ⊕ Int64) := some (.inl ((k0 + k1), (x5 + (1 : Int32))))
theorem t_X12_laysKin_58 {M : Mx} {l0 : Launch} (O : Ok M cX12_laysKin yX12_laysKin) (R0 : Rm M l0 4 124 0 0) (N : Ma M = false) (hn : Mn M = 6)  (a0 : Nat) (x1 : Int32) (x2 : Int32) (x5 : Int32) (k0 : Int64) (k1 : Int64) (σ : Dt) (o : ((Int64 × Int32) ⊕ Int64)) (h : f_X12_laysKin_58 a0 x1 x2 x5 k0 k1 σ = some o) (K : kon (P_X12_laysKin_22 M a0 x1 x2 σ) (E_X12_laysKin_22 M a0 x1 x2 σ) o) : G M 0 0 58 [(0, vA (some a0)), (1, vI x1), (2, vI x2), (5, vI x5)] [vJ k1, vJ k0] SM σ := by
  unfold f_X12_laysKin_58 at h
  refine g_ladd O dX12_laysKin_58 ?_
  refine g_lstore_n (lv' := [(3, vJ (k0 + k1)), (0, vA (some a0)), (1, vI x1), (2, vI x2), (5, vI x5)]) O dX12_laysKin_59 rfl 6 hn (by decide) rfl ?_
  refine g_iinc (v := (x5 + (1 : Int32))) (lv' := [(5, vI (x5 + (1 : Int32))), (3, vJ (k0 + k1)), (0, vA (some a0)), (1, vI x1), (2, vI x2)]) O dX12_laysKin_60 6 hn (by decide) 4 rfl rfl rfl ?_
  refine g_goto O dX12_laysKin_63 rfl ?_
  refine g_sub [2, 3, 4, 1, 0] (lv' := [(0, vA (some a0)), (1, vI x1), (2, vI x2), (3, vJ (k0 + k1)), (5, vI (x5 + (1 : Int32)))]) rfl ?_
  cases h
  exact K
def f_X12_laysKin_L22 (a0 : Nat) (x1 : Int32) (x2 : Int32) (y3 : Int64) (x5 : Int32) (σ : Dt) : Option ((Int64 × Int32) ⊕ Int64) := if x1 ≤ x5 then some (.inr y3) else bo (xrc SM 12 (some a0)) fun a2 => bo (f_X12_parentsOf a2 x1 σ) fun v4 => bo (f_X12_isAmong v4 x5 σ) fun v6 => if v6 = 0 then f_X12_laysKin_58 a0 x1 x2 x5 y3 (0 : Int64) σ else bo (xgr SM 12 23 (some a0) σ) fun v9 => bo (xal SM v9 (((10 : Int32) * x5) + x2) σ) fun v11 => f_X12_laysKin_58 a0 x1 x2 x5 y3 v11 σ
theorem t_X12_laysKin_L22 {M : Mx} {l0 : Launch} (O : Ok M cX12_laysKin yX12_laysKin) (R0 : Rm M l0 4 124 0 0) (N : Ma M = false) (hn : Mn M = 6) (a0 : Nat) (x1 : Int32) (x2 : Int32) (y3 : Int64) (x5 : Int32) (σ : Dt) (o : ((Int64 × Int32) ⊕ Int64)) (h : f_X12_laysKin_L22 a0 x1 x2 y3 x5 σ = some o) (K : kon (P_X12_laysKin_22 M a0 x1 x2 σ) (E_X12_laysKin_22 M a0 x1 x2 σ) o) : G M 0 0 22 [(0, vA (some a0)), (1, vI x1), (2, vI x2), (3, vJ y3), (5, vI x5)] [] SM σ := by
  unfold f_X12_laysKin_L22 at h
  refine g_iload O dX12_laysKin_22 4 rfl ?_
  refine g_iload_n O dX12_laysKin_24 rfl 1 rfl ?_
  refine g_icmp_ge O dX12_laysKin_25 rfl (fun c1 => ?_) (fun c1 => ?_)
  · replace h := (if_pos c1).symm.trans h
    refine g_sub [0, 1, 2, 3] (lv' := [(0, vA (some a0)), (1, vI x1), (2, vI x2), (3, vJ y3)]) rfl ?_
    cases h
    exact K
  · replace h := (if_neg c1).symm.trans h
    refine g_lload_n O dX12_laysKin_28 rfl 3 rfl ?_
    refine g_aload_n O dX12_laysKin_29 rfl 0 rfl ?_
    refine g_iload_n O dX12_laysKin_30 rfl 1 rfl ?_
    obtain ⟨a2, e3, h⟩ := bo_some h
    obtain ⟨v4, e5, h⟩ := bo_some h
    refine g_cV1 O R0 N dX12_laysKin_31 vl_X12_319 vv_X12_parentsOf e3 [vI x1] rfl rfl rfl ⟨Nat.le_of_ble_eq_true rfl, Nat.le_of_ble_eq_true rfl⟩ (c_X12_parentsOf l0 a2 x1 σ v4 e5) ?_
    refine g_iload O dX12_laysKin_34 4 rfl ?_
    obtain ⟨v6, e7, h⟩ := bo_some h
    refine g_cS1 O R0 N dX12_laysKin_36 vl_X12_235 w1766 [vI v4, vI x5] rfl rfl rfl ⟨Nat.le_of_ble_eq_true rfl, Nat.le_of_ble_eq_true rfl⟩ (c_X12_isAmong l0 v4 x5 σ v6 e7) ?_
    refine g_if_eq O dX12_laysKin_39 rfl (fun c8 => ?_) (fun c8 => ?_)
    · replace h := (if_pos c8).symm.trans h
      refine g_lconst (v := (0 : Int64)) O dX12_laysKin_57 rfl ?_
      refine g_sub [0, 1, 2, 4] (lv' := [(0, vA (some a0)), (1, vI x1), (2, vI x2), (5, vI x5)]) rfl ?_
      exact t_X12_laysKin_58 O R0 N hn a0 x1 x2 x5 y3 (0 : Int64) σ o h K
    · replace h := (if_neg c8).symm.trans h
      refine g_aload_n O dX12_laysKin_42 rfl 0 rfl ?_
      obtain ⟨v9, e10, h⟩ := bo_some h
      refine g_getR O dX12_laysKin_43 fl_X12_45 rfl e10 ?_
      refine g_bipush (v := (10 : Int32)) O dX12_laysKin_46 rfl ?_
      refine g_iload O dX12_laysKin_48 4 rfl ?_
      refine g_imul O dX12_laysKin_50 ?_
      refine g_iload_n O dX12_laysKin_51 rfl 2 rfl ?_
      refine g_iadd O dX12_laysKin_52 ?_
      obtain ⟨v11, e12, h⟩ := bo_some h
      refine g_laload O dX12_laysKin_53 e12 ?_
      refine g_goto O dX12_laysKin_54 rfl ?_
      refine g_sub [0, 1, 2, 4] (lv' := [(0, vA (some a0)), (1, vI x1), (2, vI x2), (5, vI x5)]) rfl ?_
      exact t_X12_laysKin_58 O R0 N hn a0 x1 x2 x5 y3 v11 σ o h K
def P_X12_laysKin_12 (M : Mx) (a0 : Nat) (x1 : Int32) (s : (Int32 × Dt)) : Prop := G M 0 0 12 [(0, vA (some a0)), (1, vI x1), (2, vI s.1)] [] SM s.2
def E_X12_laysKin_12 (M : Mx) (a0 : Nat) (x1 : Int32) : Dt → Prop := (fun w => G M 0 0 104 [(0, vA (some a0)), (1, vI x1)] [] SM w)
def f_X12_laysKin_L12 (a0 : Nat) (x1 : Int32) (x2 : Int32) (σ : Dt) : Option ((Int32 × Dt) ⊕ Dt) := if x1 ≤ x2 then some (.inr σ) else bo (iter FU (fun s => f_X12_laysKin_L22 a0 x1 x2 s.1 s.2 σ) ((0 : Int64), (0 : Int32))) fun w2 => bo (xgr SM 12 23 (some a0) σ) fun v4 => bo (xsl SM v4 (((10 : Int32) * x1) + x2) (w2 / (2 : Int64)) σ) fun σ6 => bo (xgr SM 12 23 (some a0) σ6) fun v8 => bo (xsl SM v8 (((10 : Int32) * x2) + x1) (w2 / (2 : Int64)) σ6) fun σ10 => some (.inl ((x2 + (1 : Int32)), σ10))
theorem t_X12_laysKin_L12 {M : Mx} {l0 : Launch} (O : Ok M cX12_laysKin yX12_laysKin) (R0 : Rm M l0 4 124 0 0) (N : Ma M = false) (hn : Mn M = 6) (a0 : Nat) (x1 : Int32) (x2 : Int32) (σ : Dt) (o : ((Int32 × Dt) ⊕ Dt)) (h : f_X12_laysKin_L12 a0 x1 x2 σ = some o) (K : kon (P_X12_laysKin_12 M a0 x1) (E_X12_laysKin_12 M a0 x1) o) : G M 0 0 12 [(0, vA (some a0)), (1, vI x1), (2, vI x2)] [] SM σ := by
  unfold f_X12_laysKin_L12 at h
  refine g_iload_n O dX12_laysKin_12 rfl 2 rfl ?_
  refine g_iload_n O dX12_laysKin_13 rfl 1 rfl ?_
  refine g_icmp_ge O dX12_laysKin_14 rfl (fun c1 => ?_) (fun c1 => ?_)
  · replace h := (if_pos c1).symm.trans h
    refine g_sub [0, 1] (lv' := [(0, vA (some a0)), (1, vI x1)]) rfl ?_
    cases h
    exact K
  · replace h := (if_neg c1).symm.trans h
    refine g_lconst (v := (0 : Int64)) O dX12_laysKin_17 rfl ?_
    refine g_lstore_n (lv' := [(3, vJ (0 : Int64)), (0, vA (some a0)), (1, vI x1), (2, vI x2)]) O dX12_laysKin_18 rfl 6 hn (by decide) rfl ?_
    refine g_iconst (v := (0 : Int32)) O dX12_laysKin_19 rfl ?_
    refine g_istore (lv' := [(5, vI (0 : Int32)), (3, vJ (0 : Int64)), (0, vA (some a0)), (1, vI x1), (2, vI x2)]) O dX12_laysKin_20 6 hn (by decide) rfl ?_
    refine g_sub [2, 3, 4, 1, 0] (lv' := [(0, vA (some a0)), (1, vI x1), (2, vI x2), (3, vJ (0 : Int64)), (5, vI (0 : Int32))]) rfl ?_
    obtain ⟨w2, e3, h⟩ := bo_some h
    refine iter_G (P := P_X12_laysKin_22 M a0 x1 x2 σ) (E := E_X12_laysKin_22 M a0 x1 x2 σ) (fun s o hb hk => t_X12_laysKin_L22 O R0 N hn a0 x1 x2 s.1 s.2 σ o hb hk) FU ((0 : Int64), (0 : Int32)) w2 e3 ?_
    show G M 0 0 66 [(0, vA (some a0)), (1, vI x1), (2, vI x2), (3, vJ w2)] [] SM σ
    refine g_aload_n O dX12_laysKin_66 rfl 0 rfl ?_
    obtain ⟨v4, e5, h⟩ := bo_some h
    refine g_getR O dX12_laysKin_67 fl_X12_45 rfl e5 ?_
    refine g_bipush (v := (10 : Int32)) O dX12_laysKin_70 rfl ?_
    refine g_iload_n O dX12_laysKin_72 rfl 1 rfl ?_
    refine g_imul O dX12_laysKin_73 ?_
    refine g_iload_n O dX12_laysKin_74 rfl 2 rfl ?_
    refine g_iadd O dX12_laysKin_75 ?_
    refine g_lload_n O dX12_laysKin_76 rfl 3 rfl ?_
    refine g_ldc2 O dX12_laysKin_77 w1874 ?_
    refine g_ldiv O dX12_laysKin_80 (by decide) ?_
    obtain ⟨σ6, e7, h⟩ := bo_some h
    refine g_lastore O N dX12_laysKin_81 e7 ?_
    refine g_aload_n O dX12_laysKin_82 rfl 0 rfl ?_
    obtain ⟨v8, e9, h⟩ := bo_some h
    refine g_getR O dX12_laysKin_83 fl_X12_45 rfl e9 ?_
    refine g_bipush (v := (10 : Int32)) O dX12_laysKin_86 rfl ?_
    refine g_iload_n O dX12_laysKin_88 rfl 2 rfl ?_
    refine g_imul O dX12_laysKin_89 ?_
    refine g_iload_n O dX12_laysKin_90 rfl 1 rfl ?_
    refine g_iadd O dX12_laysKin_91 ?_
    refine g_lload_n O dX12_laysKin_92 rfl 3 rfl ?_
    refine g_ldc2 O dX12_laysKin_93 w1874 ?_
    refine g_ldiv O dX12_laysKin_96 (by decide) ?_
    obtain ⟨σ10, e11, h⟩ := bo_some h
    refine g_lastore O N dX12_laysKin_97 e11 ?_
    refine g_iinc (v := (x2 + (1 : Int32))) (lv' := [(2, vI (x2 + (1 : Int32))), (0, vA (some a0)), (1, vI x1), (3, vJ w2)]) O dX12_laysKin_98 6 hn (by decide) 2 rfl rfl rfl ?_
    refine g_goto O dX12_laysKin_101 rfl ?_
    refine g_sub [1, 2, 0] (lv' := [(0, vA (some a0)), (1, vI x1), (2, vI (x2 + (1 : Int32)))]) rfl ?_
    cases h
    exact K
def P_X12_laysKin_2 (M : Mx) (a0 : Nat) (s : (Int32 × Dt)) : Prop := G M 0 0 2 [(0, vA (some a0)), (1, vI s.1)] [] SM s.2
def E_X12_laysKin_2 (M : Mx) (a0 : Nat) : Dt → Prop := (fun w => G M 0 0 180 [] [] SM w)
def f_X12_laysKin_172 (a0 : Nat) (x1 : Int32) (k0 : Option Nat) (k1 : Int32) (k2 : Int64) (k3 : Int64) (σ : Dt) : Option ((Int32 × Dt) ⊕ Dt) := bo (xsl SM k0 k1 (k2 + k3) σ) fun σ1 => some (.inl ((x1 + (1 : Int32)), σ1))
theorem t_X12_laysKin_172 {M : Mx} {l0 : Launch} (O : Ok M cX12_laysKin yX12_laysKin) (R0 : Rm M l0 4 124 0 0) (N : Ma M = false) (hn : Mn M = 6)  (a0 : Nat) (x1 : Int32) (k0 : Option Nat) (k1 : Int32) (k2 : Int64) (k3 : Int64) (σ : Dt) (o : ((Int32 × Dt) ⊕ Dt)) (h : f_X12_laysKin_172 a0 x1 k0 k1 k2 k3 σ = some o) (K : kon (P_X12_laysKin_2 M a0) (E_X12_laysKin_2 M a0) o) : G M 0 0 172 [(0, vA (some a0)), (1, vI x1)] [vJ k3, vJ k2, vI k1, vA k0] SM σ := by
  unfold f_X12_laysKin_172 at h
  refine g_ladd O dX12_laysKin_172 ?_
  obtain ⟨σ1, e2, h⟩ := bo_some h
  refine g_lastore O N dX12_laysKin_173 e2 ?_
  refine g_iinc (v := (x1 + (1 : Int32))) (lv' := [(1, vI (x1 + (1 : Int32))), (0, vA (some a0))]) O dX12_laysKin_174 6 hn (by decide) 1 rfl rfl rfl ?_
  refine g_goto O dX12_laysKin_177 rfl ?_
  refine g_sub [1, 0] (lv' := [(0, vA (some a0)), (1, vI (x1 + (1 : Int32)))]) rfl ?_
  cases h
  exact K
def f_X12_laysKin_121 (a0 : Nat) (x1 : Int32) (k0 : Int32) (σ : Dt) : Option ((Int32 × Dt) ⊕ Dt) := bo (xgr SM 12 23 (some a0) σ) fun v1 => if k0 = 0 then f_X12_laysKin_172 a0 x1 v1 ((11 : Int32) * x1) (536870912 : Int64) (0 : Int64) σ else bo (xgr SM 12 23 (some a0) σ) fun v4 => bo (xrc SM 12 (some a0)) fun a6 => bo (f_X12_parentsOf a6 x1 σ) fun v8 => bo (f_X12_nth v8 (0 : Int32) σ) fun v10 => bo (xrc SM 12 (some a0)) fun a12 => bo (f_X12_parentsOf a12 x1 σ) fun v14 => bo (f_X12_nth v14 (1 : Int32) σ) fun v16 => bo (xal SM v4 (((10 : Int32) * v10) + v16) σ) fun v18 => f_X12_laysKin_172 a0 x1 v1 ((11 : Int32) * x1) (536870912 : Int64) (v18 / (2 : Int64)) σ
theorem t_X12_laysKin_121 {M : Mx} {l0 : Launch} (O : Ok M cX12_laysKin yX12_laysKin) (R0 : Rm M l0 4 124 0 0) (N : Ma M = false) (hn : Mn M = 6)  (a0 : Nat) (x1 : Int32) (k0 : Int32) (σ : Dt) (o : ((Int32 × Dt) ⊕ Dt)) (h : f_X12_laysKin_121 a0 x1 k0 σ = some o) (K : kon (P_X12_laysKin_2 M a0) (E_X12_laysKin_2 M a0) o) : G M 0 0 121 [(0, vA (some a0)), (1, vI x1)] [vI k0] SM σ := by
  unfold f_X12_laysKin_121 at h
  refine g_istore_n (lv' := [(2, vI k0), (0, vA (some a0)), (1, vI x1)]) O dX12_laysKin_121 rfl 6 hn (by decide) rfl ?_
  refine g_aload_n O dX12_laysKin_122 rfl 1 rfl ?_
  obtain ⟨v1, e2, h⟩ := bo_some h
  refine g_getR O dX12_laysKin_123 fl_X12_45 rfl e2 ?_
  refine g_bipush (v := (11 : Int32)) O dX12_laysKin_126 rfl ?_
  refine g_iload_n O dX12_laysKin_128 rfl 2 rfl ?_
  refine g_imul O dX12_laysKin_129 ?_
  refine g_ldc2 O dX12_laysKin_130 w1875 ?_
  refine g_iload_n O dX12_laysKin_133 rfl 0 rfl ?_
  refine g_if_eq O dX12_laysKin_134 rfl (fun c3 => ?_) (fun c3 => ?_)
  · replace h := (if_pos c3).symm.trans h
    refine g_lconst (v := (0 : Int64)) O dX12_laysKin_171 rfl ?_
    refine g_sub [1, 2] (lv' := [(0, vA (some a0)), (1, vI x1)]) rfl ?_
    exact t_X12_laysKin_172 O R0 N hn a0 x1 v1 ((11 : Int32) * x1) (536870912 : Int64) (0 : Int64) σ o h K
  · replace h := (if_neg c3).symm.trans h
    refine g_aload_n O dX12_laysKin_137 rfl 1 rfl ?_
    obtain ⟨v4, e5, h⟩ := bo_some h
    refine g_getR O dX12_laysKin_138 fl_X12_45 rfl e5 ?_
    refine g_bipush (v := (10 : Int32)) O dX12_laysKin_141 rfl ?_
    refine g_aload_n O dX12_laysKin_143 rfl 1 rfl ?_
    refine g_iload_n O dX12_laysKin_144 rfl 2 rfl ?_
    obtain ⟨a6, e7, h⟩ := bo_some h
    obtain ⟨v8, e9, h⟩ := bo_some h
    refine g_cV1 O R0 N dX12_laysKin_145 vl_X12_319 vv_X12_parentsOf e7 [vI x1] rfl rfl rfl ⟨Nat.le_of_ble_eq_true rfl, Nat.le_of_ble_eq_true rfl⟩ (c_X12_parentsOf l0 a6 x1 σ v8 e9) ?_
    refine g_iconst (v := (0 : Int32)) O dX12_laysKin_148 rfl ?_
    obtain ⟨v10, e11, h⟩ := bo_some h
    refine g_cS1 O R0 N dX12_laysKin_149 vl_X12_257 w1785 [vI v8, vI (0 : Int32)] rfl rfl rfl ⟨Nat.le_of_ble_eq_true rfl, Nat.le_of_ble_eq_true rfl⟩ (c_X12_nth l0 v8 (0 : Int32) σ v10 e11) ?_
    refine g_imul O dX12_laysKin_152 ?_
    refine g_aload_n O dX12_laysKin_153 rfl 1 rfl ?_
    refine g_iload_n O dX12_laysKin_154 rfl 2 rfl ?_
    obtain ⟨a12, e13, h⟩ := bo_some h
    obtain ⟨v14, e15, h⟩ := bo_some h
    refine g_cV1 O R0 N dX12_laysKin_155 vl_X12_319 vv_X12_parentsOf e13 [vI x1] rfl rfl rfl ⟨Nat.le_of_ble_eq_true rfl, Nat.le_of_ble_eq_true rfl⟩ (c_X12_parentsOf l0 a12 x1 σ v14 e15) ?_
    refine g_iconst (v := (1 : Int32)) O dX12_laysKin_158 rfl ?_
    obtain ⟨v16, e17, h⟩ := bo_some h
    refine g_cS1 O R0 N dX12_laysKin_159 vl_X12_257 w1785 [vI v14, vI (1 : Int32)] rfl rfl rfl ⟨Nat.le_of_ble_eq_true rfl, Nat.le_of_ble_eq_true rfl⟩ (c_X12_nth l0 v14 (1 : Int32) σ v16 e17) ?_
    refine g_iadd O dX12_laysKin_162 ?_
    obtain ⟨v18, e19, h⟩ := bo_some h
    refine g_laload O dX12_laysKin_163 e19 ?_
    refine g_ldc2 O dX12_laysKin_164 w1874 ?_
    refine g_ldiv O dX12_laysKin_167 (by decide) ?_
    refine g_goto O dX12_laysKin_168 rfl ?_
    refine g_sub [1, 2] (lv' := [(0, vA (some a0)), (1, vI x1)]) rfl ?_
    exact t_X12_laysKin_172 O R0 N hn a0 x1 v1 ((11 : Int32) * x1) (536870912 : Int64) (v18 / (2 : Int64)) σ o h K
def f_X12_laysKin_L2 (a0 : Nat) (x1 : Int32) (σ : Dt) : Option ((Int32 × Dt) ⊕ Dt) := bo (xgi SM 12 12 (some a0) σ) fun v1 => if v1 ≤ x1 then some (.inr σ) else bo (iter FU (fun s => f_X12_laysKin_L12 a0 x1 s.1 s.2) ((0 : Int32), σ)) fun w4 => bo (xrc SM 12 (some a0)) fun a6 => bo (f_X12_parentsOf a6 x1 w4) fun v8 => bo (f_X12_bitsOf v8 w4) fun v10 => if v10 = (2 : Int32) then f_X12_laysKin_121 a0 x1 (1 : Int32) w4 else f_X12_laysKin_121 a0 x1 (0 : Int32) w4
theorem t_X12_laysKin_L2 {M : Mx} {l0 : Launch} (O : Ok M cX12_laysKin yX12_laysKin) (R0 : Rm M l0 4 124 0 0) (N : Ma M = false) (hn : Mn M = 6) (a0 : Nat) (x1 : Int32) (σ : Dt) (o : ((Int32 × Dt) ⊕ Dt)) (h : f_X12_laysKin_L2 a0 x1 σ = some o) (K : kon (P_X12_laysKin_2 M a0) (E_X12_laysKin_2 M a0) o) : G M 0 0 2 [(0, vA (some a0)), (1, vI x1)] [] SM σ := by
  unfold f_X12_laysKin_L2 at h
  refine g_iload_n O dX12_laysKin_2 rfl 1 rfl ?_
  refine g_aload_n O dX12_laysKin_3 rfl 0 rfl ?_
  obtain ⟨v1, e2, h⟩ := bo_some h
  refine g_getI O dX12_laysKin_4 fl_X12_211 rfl e2 ?_
  refine g_icmp_ge O dX12_laysKin_7 rfl (fun c3 => ?_) (fun c3 => ?_)
  · replace h := (if_pos c3).symm.trans h
    refine g_sub [] (lv' := []) rfl ?_
    cases h
    exact K
  · replace h := (if_neg c3).symm.trans h
    refine g_iconst (v := (0 : Int32)) O dX12_laysKin_10 rfl ?_
    refine g_istore_n (lv' := [(2, vI (0 : Int32)), (0, vA (some a0)), (1, vI x1)]) O dX12_laysKin_11 rfl 6 hn (by decide) rfl ?_
    refine g_sub [1, 2, 0] (lv' := [(0, vA (some a0)), (1, vI x1), (2, vI (0 : Int32))]) rfl ?_
    obtain ⟨w4, e5, h⟩ := bo_some h
    refine iter_G (P := P_X12_laysKin_12 M a0 x1) (E := E_X12_laysKin_12 M a0 x1) (fun s o hb hk => t_X12_laysKin_L12 O R0 N hn a0 x1 s.1 s.2 o hb hk) FU ((0 : Int32), σ) w4 e5 ?_
    show G M 0 0 104 [(0, vA (some a0)), (1, vI x1)] [] SM w4
    refine g_aload_n O dX12_laysKin_104 rfl 0 rfl ?_
    refine g_iload_n O dX12_laysKin_105 rfl 1 rfl ?_
    obtain ⟨a6, e7, h⟩ := bo_some h
    obtain ⟨v8, e9, h⟩ := bo_some h
    refine g_cV1 O R0 N dX12_laysKin_106 vl_X12_319 vv_X12_parentsOf e7 [vI x1] rfl rfl rfl ⟨Nat.le_of_ble_eq_true rfl, Nat.le_of_ble_eq_true rfl⟩ (c_X12_parentsOf l0 a6 x1 w4 v8 e9) ?_
    obtain ⟨v10, e11, h⟩ := bo_some h
    refine g_cS1 O R0 N dX12_laysKin_109 vl_X12_183 w1701 [vI v8] rfl rfl rfl ⟨Nat.le_of_ble_eq_true rfl, Nat.le_of_ble_eq_true rfl⟩ (c_X12_bitsOf l0 v8 w4 v10 e11) ?_
    refine g_iconst (v := (2 : Int32)) O dX12_laysKin_112 rfl ?_
    refine g_icmp_ne O dX12_laysKin_113 rfl (fun c12 => ?_) (fun c12 => ?_)
    · replace h := (if_pos c12).symm.trans h
      refine g_iconst (v := (1 : Int32)) O dX12_laysKin_116 rfl ?_
      refine g_goto O dX12_laysKin_117 rfl ?_
      exact t_X12_laysKin_121 O R0 N hn a0 x1 (1 : Int32) w4 o h K
    · replace h := (if_neg c12).symm.trans h
      refine g_iconst (v := (0 : Int32)) O dX12_laysKin_120 rfl ?_
      exact t_X12_laysKin_121 O R0 N hn a0 x1 (0 : Int32) w4 o h K
def f_X12_laysKin (a0 : Nat) (σ : Dt) : Option (Unit × Dt) := bo (iter FU (fun s => f_X12_laysKin_L2 a0 s.1 s.2) ((0 : Int32), σ)) fun w1 => some ((), w1)
theorem t_X12_laysKin {M : Mx} {l0 : Launch} (O : Ok M cX12_laysKin yX12_laysKin) (R0 : Rm M l0 4 124 0 0) (N : Ma M = false) (hn : Mn M = 6) (a0 : Nat) (σ : Dt) (o : (Unit × Dt)) (h : f_X12_laysKin a0 σ = some o) (K : Fin' M (none) 0 0 SM o.2 (none)) : G M 0 0 0 [(0, vA (some a0))] [] SM σ := by
  unfold f_X12_laysKin at h
  refine g_iconst (v := (0 : Int32)) O dX12_laysKin_0 rfl ?_
  refine g_istore_n (lv' := [(1, vI (0 : Int32)), (0, vA (some a0))]) O dX12_laysKin_1 rfl 6 hn (by decide) rfl ?_
  refine g_sub [1, 0] (lv' := [(0, vA (some a0)), (1, vI (0 : Int32))]) rfl ?_
  obtain ⟨w1, e2, h⟩ := bo_some h
  refine iter_G (P := P_X12_laysKin_2 M a0) (E := E_X12_laysKin_2 M a0) (fun s o hb hk => t_X12_laysKin_L2 O R0 N hn a0 s.1 s.2 o hb hk) FU ((0 : Int32), σ) w1 e2 ?_
  show G M 0 0 180 [] [] SM w1
  cases h
  exact g_return O K dX12_laysKin_180
theorem c_X12_laysKin (l0 : Launch) (a0 : Nat) (σ : Dt) (r : Unit) (σ' : Dt) (h : f_X12_laysKin a0 σ = some (r, σ')) : Ctr l0 yX12_laysKin cX12_laysKin 6 (none) false 4 124 0 0 [vA (some a0)] SM σ SM σ' (none) := ctr_of (by decide) (Nat.le_of_ble_eq_true rfl) (fun M O F R0 N hn => t_X12_laysKin O R0 N hn a0 σ (r, σ') h F)
def f_X12_kinship (a0 : Nat) (x1 : Int32) (x2 : Int32) (x3 : Int32) (x4 : Int32) (σ : Dt) : Option (Int64 × Dt) := bo (xrc SM 12 (some a0)) fun a1 => bd (f_X12_isValley a1 x1 σ) fun v3 σ4 => if v3 = 0 then some ((-1 : Int64), σ4) else bo (xrc SM 12 (some a0)) fun a7 => bo (f_X12_isFolk a7 x2 σ4) fun v9 => if v9 = 0 then some ((-1 : Int64), σ4) else bo (xrc SM 12 (some a0)) fun a12 => bo (f_X12_isFolk a12 x3 σ4) fun v14 => if v14 = 0 then some ((-1 : Int64), σ4) else bo (xrc SM 12 (some a0)) fun a17 => bd (f_X12_laysKin a17 σ4) fun v19 σ20 => bo (xgr SM 12 23 (some a0) σ20) fun v22 => bo (xal SM v22 (((10 : Int32) * x2) + x3) σ20) fun v24 => bo (f_X12_parted v24 (1073741824 : Int64) x4 σ20) fun v26 => some (v26, σ20)
theorem t_X12_kinship {M : Mx} {l0 : Launch} (O : Ok M cX12_kinship yX12_kinship) (R0 : Rm M l0 5 149 0 0) (N : Ma M = false) (hn : Mn M = 5) (a0 : Nat) (x1 : Int32) (x2 : Int32) (x3 : Int32) (x4 : Int32) (σ : Dt) (o : (Int64 × Dt)) (h : f_X12_kinship a0 x1 x2 x3 x4 σ = some o) (K : Fin' M (some .long) 0 0 SM o.2 (some (vJ o.1))) : G M 0 0 0 [(0, vA (some a0)), (1, vI x1), (2, vI x2), (3, vI x3), (4, vI x4)] [] SM σ := by
  unfold f_X12_kinship at h
  refine g_aload_n O dX12_kinship_0 rfl 0 rfl ?_
  refine g_iload_n O dX12_kinship_1 rfl 1 rfl ?_
  obtain ⟨a1, e2, h⟩ := bo_some h
  obtain ⟨v3, σ4, e5, h⟩ := bd_some h
  refine g_cV1 O R0 N dX12_kinship_2 vl_X12_220 vv_X12_isValley e2 [vI x1] rfl rfl rfl ⟨Nat.le_of_ble_eq_true rfl, Nat.le_of_ble_eq_true rfl⟩ (c_X12_isValley l0 a1 x1 σ v3 σ4 e5) ?_
  refine g_if_eq O dX12_kinship_5 rfl (fun c6 => ?_) (fun c6 => ?_)
  · replace h := (if_pos c6).symm.trans h
    refine g_ldc2 O dX12_kinship_24 w1844 ?_
    cases h
    exact g_lreturn O K dX12_kinship_27
  · replace h := (if_neg c6).symm.trans h
    refine g_aload_n O dX12_kinship_8 rfl 0 rfl ?_
    refine g_iload_n O dX12_kinship_9 rfl 2 rfl ?_
    obtain ⟨a7, e8, h⟩ := bo_some h
    obtain ⟨v9, e10, h⟩ := bo_some h
    refine g_cV1 O R0 N dX12_kinship_10 vl_X12_223 vv_X12_isFolk e8 [vI x2] rfl rfl rfl ⟨Nat.le_of_ble_eq_true rfl, Nat.le_of_ble_eq_true rfl⟩ (c_X12_isFolk l0 a7 x2 σ4 v9 e10) ?_
    refine g_if_eq O dX12_kinship_13 rfl (fun c11 => ?_) (fun c11 => ?_)
    · replace h := (if_pos c11).symm.trans h
      refine g_ldc2 O dX12_kinship_24 w1844 ?_
      cases h
      exact g_lreturn O K dX12_kinship_27
    · replace h := (if_neg c11).symm.trans h
      refine g_aload_n O dX12_kinship_16 rfl 0 rfl ?_
      refine g_iload_n O dX12_kinship_17 rfl 3 rfl ?_
      obtain ⟨a12, e13, h⟩ := bo_some h
      obtain ⟨v14, e15, h⟩ := bo_some h
      refine g_cV1 O R0 N dX12_kinship_18 vl_X12_223 vv_X12_isFolk e13 [vI x3] rfl rfl rfl ⟨Nat.le_of_ble_eq_true rfl, Nat.le_of_ble_eq_true rfl⟩ (c_X12_isFolk l0 a12 x3 σ4 v14 e15) ?_
      refine g_if_ne O dX12_kinship_21 rfl (fun c16 => ?_) (fun c16 => ?_)
      · replace h := (if_pos c16).symm.trans h
        refine g_ldc2 O dX12_kinship_24 w1844 ?_
        cases h
        exact g_lreturn O K dX12_kinship_27
      · replace h := (if_neg c16).symm.trans h
        refine g_aload_n O dX12_kinship_28 rfl 0 rfl ?_
        obtain ⟨a17, e18, h⟩ := bo_some h
        obtain ⟨v19, σ20, e21, h⟩ := bd_some h
        refine g_cV0 O R0 N dX12_kinship_29 vl_X12_326 vv_X12_laysKin e18 [] rfl rfl rfl ⟨Nat.le_of_ble_eq_true rfl, Nat.le_of_ble_eq_true rfl⟩ (c_X12_laysKin l0 a17 σ4 v19 σ20 e21) ?_
        refine g_aload_n O dX12_kinship_32 rfl 0 rfl ?_
        obtain ⟨v22, e23, h⟩ := bo_some h
        refine g_getR O dX12_kinship_33 fl_X12_45 rfl e23 ?_
        refine g_bipush (v := (10 : Int32)) O dX12_kinship_36 rfl ?_
        refine g_iload_n O dX12_kinship_38 rfl 2 rfl ?_
        refine g_imul O dX12_kinship_39 ?_
        refine g_iload_n O dX12_kinship_40 rfl 3 rfl ?_
        refine g_iadd O dX12_kinship_41 ?_
        obtain ⟨v24, e25, h⟩ := bo_some h
        refine g_laload O dX12_kinship_42 e25 ?_
        refine g_ldc2 O dX12_kinship_43 w1876 ?_
        refine g_iload O dX12_kinship_46 4 rfl ?_
        obtain ⟨v26, e27, h⟩ := bo_some h
        refine g_cS1 O R0 N dX12_kinship_48 vl_X12_312 w1850 [vJ v24, vJ (1073741824 : Int64), vI x4] rfl rfl rfl ⟨Nat.le_of_ble_eq_true rfl, Nat.le_of_ble_eq_true rfl⟩ (c_X12_parted l0 v24 (1073741824 : Int64) x4 σ20 v26 e27) ?_
        cases h
        exact g_lreturn O K dX12_kinship_51
theorem c_X12_kinship (l0 : Launch) (a0 : Nat) (x1 : Int32) (x2 : Int32) (x3 : Int32) (x4 : Int32) (σ : Dt) (r : Int64) (σ' : Dt) (h : f_X12_kinship a0 x1 x2 x3 x4 σ = some (r, σ')) : Ctr l0 yX12_kinship cX12_kinship 5 (some .long) false 5 149 0 0 [vA (some a0), vI x1, vI x2, vI x3, vI x4] SM σ SM σ' (some (vJ r)) := ctr_of (by decide) (Nat.le_of_ble_eq_true rfl) (fun M O F R0 N hn => t_X12_kinship O R0 N hn a0 x1 x2 x3 x4 σ (r, σ') h F)
def f_X12_wedding_81  (σ : Dt) : Option (Int32 × Dt) := some ((0 : Int32), σ)
theorem t_X12_wedding_81 {M : Mx} {l0 : Launch} (O : Ok M cX12_wedding yX12_wedding) (R0 : Rm M l0 5 149 0 0) (N : Ma M = false) (hn : Mn M = 4)   (σ : Dt) (o : (Int32 × Dt)) (h : f_X12_wedding_81 σ = some o) (K : Fin' M (some .int) 0 0 SM o.2 (some (vI o.1))) : G M 0 0 81 [] [] SM σ := by
  unfold f_X12_wedding_81 at h
  refine g_iconst (v := (0 : Int32)) O dX12_wedding_81 rfl ?_
  cases h
  exact g_ireturn O K dX12_wedding_82
def f_X12_wedding (a0 : Nat) (x1 : Int32) (x2 : Int32) (x3 : Int32) (σ : Dt) : Option (Int32 × Dt) := bo (xrc SM 12 (some a0)) fun a1 => bd (f_X12_isValley a1 x1 σ) fun v3 σ4 => if v3 = 0 then some ((-1 : Int32), σ4) else bo (xrc SM 12 (some a0)) fun a7 => bo (f_X12_isFolk a7 x2 σ4) fun v9 => if v9 = 0 then some ((-1 : Int32), σ4) else bo (xrc SM 12 (some a0)) fun a12 => bo (f_X12_isFolk a12 x3 σ4) fun v14 => if v14 = 0 then some ((-1 : Int32), σ4) else if x2 = x3 then some ((-1 : Int32), σ4) else bo (xrc SM 12 (some a0)) fun a18 => bd (f_X12_laysKin a18 σ4) fun v20 σ21 => bo (xrc SM 12 (some a0)) fun a23 => bo (f_X12_ageOf a23 x2 σ21) fun v25 => if v25 < (16 : Int32) then f_X12_wedding_81 σ21 else bo (xrc SM 12 (some a0)) fun a28 => bo (f_X12_ageOf a28 x3 σ21) fun v30 => if v30 < (16 : Int32) then f_X12_wedding_81 σ21 else bo (xgr SM 12 23 (some a0) σ21) fun v33 => bo (xal SM v33 (((10 : Int32) * x2) + x3) σ21) fun v35 => if 0 ≤ (lg_cmp (v35 * (8 : Int64)) (1073741824 : Int64)) then f_X12_wedding_81 σ21 else some ((1 : Int32), σ21)
theorem t_X12_wedding {M : Mx} {l0 : Launch} (O : Ok M cX12_wedding yX12_wedding) (R0 : Rm M l0 5 149 0 0) (N : Ma M = false) (hn : Mn M = 4) (a0 : Nat) (x1 : Int32) (x2 : Int32) (x3 : Int32) (σ : Dt) (o : (Int32 × Dt)) (h : f_X12_wedding a0 x1 x2 x3 σ = some o) (K : Fin' M (some .int) 0 0 SM o.2 (some (vI o.1))) : G M 0 0 0 [(0, vA (some a0)), (1, vI x1), (2, vI x2), (3, vI x3)] [] SM σ := by
  unfold f_X12_wedding at h
  refine g_aload_n O dX12_wedding_0 rfl 0 rfl ?_
  refine g_iload_n O dX12_wedding_1 rfl 1 rfl ?_
  obtain ⟨a1, e2, h⟩ := bo_some h
  obtain ⟨v3, σ4, e5, h⟩ := bd_some h
  refine g_cV1 O R0 N dX12_wedding_2 vl_X12_220 vv_X12_isValley e2 [vI x1] rfl rfl rfl ⟨Nat.le_of_ble_eq_true rfl, Nat.le_of_ble_eq_true rfl⟩ (c_X12_isValley l0 a1 x1 σ v3 σ4 e5) ?_
  refine g_if_eq O dX12_wedding_5 rfl (fun c6 => ?_) (fun c6 => ?_)
  · replace h := (if_pos c6).symm.trans h
    refine g_iconst (v := (-1 : Int32)) O dX12_wedding_29 rfl ?_
    cases h
    exact g_ireturn O K dX12_wedding_30
  · replace h := (if_neg c6).symm.trans h
    refine g_aload_n O dX12_wedding_8 rfl 0 rfl ?_
    refine g_iload_n O dX12_wedding_9 rfl 2 rfl ?_
    obtain ⟨a7, e8, h⟩ := bo_some h
    obtain ⟨v9, e10, h⟩ := bo_some h
    refine g_cV1 O R0 N dX12_wedding_10 vl_X12_223 vv_X12_isFolk e8 [vI x2] rfl rfl rfl ⟨Nat.le_of_ble_eq_true rfl, Nat.le_of_ble_eq_true rfl⟩ (c_X12_isFolk l0 a7 x2 σ4 v9 e10) ?_
    refine g_if_eq O dX12_wedding_13 rfl (fun c11 => ?_) (fun c11 => ?_)
    · replace h := (if_pos c11).symm.trans h
      refine g_iconst (v := (-1 : Int32)) O dX12_wedding_29 rfl ?_
      cases h
      exact g_ireturn O K dX12_wedding_30
    · replace h := (if_neg c11).symm.trans h
      refine g_aload_n O dX12_wedding_16 rfl 0 rfl ?_
      refine g_iload_n O dX12_wedding_17 rfl 3 rfl ?_
      obtain ⟨a12, e13, h⟩ := bo_some h
      obtain ⟨v14, e15, h⟩ := bo_some h
      refine g_cV1 O R0 N dX12_wedding_18 vl_X12_223 vv_X12_isFolk e13 [vI x3] rfl rfl rfl ⟨Nat.le_of_ble_eq_true rfl, Nat.le_of_ble_eq_true rfl⟩ (c_X12_isFolk l0 a12 x3 σ4 v14 e15) ?_
      refine g_if_eq O dX12_wedding_21 rfl (fun c16 => ?_) (fun c16 => ?_)
      · replace h := (if_pos c16).symm.trans h
        refine g_iconst (v := (-1 : Int32)) O dX12_wedding_29 rfl ?_
        cases h
        exact g_ireturn O K dX12_wedding_30
      · replace h := (if_neg c16).symm.trans h
        refine g_iload_n O dX12_wedding_24 rfl 2 rfl ?_
        refine g_iload_n O dX12_wedding_25 rfl 3 rfl ?_
        refine g_icmp_ne O dX12_wedding_26 rfl (fun c17 => ?_) (fun c17 => ?_)
        · replace h := (if_pos c17).symm.trans h
          refine g_iconst (v := (-1 : Int32)) O dX12_wedding_29 rfl ?_
          cases h
          exact g_ireturn O K dX12_wedding_30
        · replace h := (if_neg c17).symm.trans h
          refine g_aload_n O dX12_wedding_31 rfl 0 rfl ?_
          obtain ⟨a18, e19, h⟩ := bo_some h
          obtain ⟨v20, σ21, e22, h⟩ := bd_some h
          refine g_cV0 O R0 N dX12_wedding_32 vl_X12_326 vv_X12_laysKin e19 [] rfl rfl rfl ⟨Nat.le_of_ble_eq_true rfl, Nat.le_of_ble_eq_true rfl⟩ (c_X12_laysKin l0 a18 σ4 v20 σ21 e22) ?_
          refine g_aload_n O dX12_wedding_35 rfl 0 rfl ?_
          refine g_iload_n O dX12_wedding_36 rfl 2 rfl ?_
          obtain ⟨a23, e24, h⟩ := bo_some h
          obtain ⟨v25, e26, h⟩ := bo_some h
          refine g_cV1 O R0 N dX12_wedding_37 vl_X12_217 vv_X12_ageOf e24 [vI x2] rfl rfl rfl ⟨Nat.le_of_ble_eq_true rfl, Nat.le_of_ble_eq_true rfl⟩ (c_X12_ageOf l0 a23 x2 σ21 v25 e26) ?_
          refine g_bipush (v := (16 : Int32)) O dX12_wedding_40 rfl ?_
          refine g_icmp_lt O dX12_wedding_42 rfl (fun c27 => ?_) (fun c27 => ?_)
          · replace h := (if_pos c27).symm.trans h
            refine g_sub [] (lv' := []) rfl ?_
            exact t_X12_wedding_81 O R0 N hn σ21 o h K
          · replace h := (if_neg c27).symm.trans h
            refine g_aload_n O dX12_wedding_45 rfl 0 rfl ?_
            refine g_iload_n O dX12_wedding_46 rfl 3 rfl ?_
            obtain ⟨a28, e29, h⟩ := bo_some h
            obtain ⟨v30, e31, h⟩ := bo_some h
            refine g_cV1 O R0 N dX12_wedding_47 vl_X12_217 vv_X12_ageOf e29 [vI x3] rfl rfl rfl ⟨Nat.le_of_ble_eq_true rfl, Nat.le_of_ble_eq_true rfl⟩ (c_X12_ageOf l0 a28 x3 σ21 v30 e31) ?_
            refine g_bipush (v := (16 : Int32)) O dX12_wedding_50 rfl ?_
            refine g_icmp_lt O dX12_wedding_52 rfl (fun c32 => ?_) (fun c32 => ?_)
            · replace h := (if_pos c32).symm.trans h
              refine g_sub [] (lv' := []) rfl ?_
              exact t_X12_wedding_81 O R0 N hn σ21 o h K
            · replace h := (if_neg c32).symm.trans h
              refine g_aload_n O dX12_wedding_55 rfl 0 rfl ?_
              obtain ⟨v33, e34, h⟩ := bo_some h
              refine g_getR O dX12_wedding_56 fl_X12_45 rfl e34 ?_
              refine g_bipush (v := (10 : Int32)) O dX12_wedding_59 rfl ?_
              refine g_iload_n O dX12_wedding_61 rfl 2 rfl ?_
              refine g_imul O dX12_wedding_62 ?_
              refine g_iload_n O dX12_wedding_63 rfl 3 rfl ?_
              refine g_iadd O dX12_wedding_64 ?_
              obtain ⟨v35, e36, h⟩ := bo_some h
              refine g_laload O dX12_wedding_65 e36 ?_
              refine g_ldc2 O dX12_wedding_66 w1881 ?_
              refine g_lmul O dX12_wedding_69 ?_
              refine g_ldc2 O dX12_wedding_70 w1876 ?_
              refine g_lcmp O dX12_wedding_73 ?_
              refine g_if_ge O dX12_wedding_74 rfl (fun c37 => ?_) (fun c37 => ?_)
              · replace h := (if_pos c37).symm.trans h
                refine g_sub [] (lv' := []) rfl ?_
                exact t_X12_wedding_81 O R0 N hn σ21 o h K
              · replace h := (if_neg c37).symm.trans h
                refine g_iconst (v := (1 : Int32)) O dX12_wedding_77 rfl ?_
                refine g_goto O dX12_wedding_78 rfl ?_
                cases h
                exact g_ireturn O K dX12_wedding_82
theorem c_X12_wedding (l0 : Launch) (a0 : Nat) (x1 : Int32) (x2 : Int32) (x3 : Int32) (σ : Dt) (r : Int32) (σ' : Dt) (h : f_X12_wedding a0 x1 x2 x3 σ = some (r, σ')) : Ctr l0 yX12_wedding cX12_wedding 4 (some .int) false 5 149 0 0 [vA (some a0), vI x1, vI x2, vI x3] SM σ SM σ' (some (vI r)) := ctr_of (by decide) (Nat.le_of_ble_eq_true rfl) (fun M O F R0 N hn => t_X12_wedding O R0 N hn a0 x1 x2 x3 σ (r, σ') h F)
def P_X12_laysLines_24 (M : Mx) (a0 : Nat) (x1 : Int32) (x2 : Int32) (s : (Int32 × Dt)) : Prop := G M 0 0 24 [(0, vA (some a0)), (1, vI x1), (2, vI x2), (3, vI s.1)] [] SM s.2
def E_X12_laysLines_24 (M : Mx) (a0 : Nat) (x1 : Int32) (x2 : Int32) : Dt → Prop := (fun w => G M 0 0 79 [(0, vA (some a0)), (1, vI x1), (2, vI x2)] [] SM w)
def f_X12_laysLines_73 (a0 : Nat) (x1 : Int32) (x2 : Int32) (x3 : Int32) (σ : Dt) : Option ((Int32 × Dt) ⊕ Dt) := some (.inl ((x3 + (1 : Int32)), σ))
theorem t_X12_laysLines_73 {M : Mx} {l0 : Launch} (O : Ok M cX12_laysLines yX12_laysLines) (R0 : Rm M l0 3 101 0 0) (N : Ma M = false) (hn : Mn M = 4)  (a0 : Nat) (x1 : Int32) (x2 : Int32) (x3 : Int32) (σ : Dt) (o : ((Int32 × Dt) ⊕ Dt)) (h : f_X12_laysLines_73 a0 x1 x2 x3 σ = some o) (K : kon (P_X12_laysLines_24 M a0 x1 x2) (E_X12_laysLines_24 M a0 x1 x2) o) : G M 0 0 73 [(0, vA (some a0)), (1, vI x1), (2, vI x2), (3, vI x3)] [] SM σ := by
  unfold f_X12_laysLines_73 at h
  refine g_iinc (v := (x3 + (1 : Int32))) (lv' := [(3, vI (x3 + (1 : Int32))), (0, vA (some a0)), (1, vI x1), (2, vI x2)]) O dX12_laysLines_73 4 hn (by decide) 3 rfl rfl rfl ?_
  refine g_goto O dX12_laysLines_76 rfl ?_
  refine g_sub [1, 2, 3, 0] (lv' := [(0, vA (some a0)), (1, vI x1), (2, vI x2), (3, vI (x3 + (1 : Int32)))]) rfl ?_
  cases h
  exact K
def f_X12_laysLines_L24 (a0 : Nat) (x1 : Int32) (x2 : Int32) (x3 : Int32) (σ : Dt) : Option ((Int32 × Dt) ⊕ Dt) := bo (xgi SM 12 12 (some a0) σ) fun v1 => if v1 ≤ x3 then some (.inr σ) else bo (xrc SM 12 (some a0)) fun a4 => bo (f_X12_parentsOf a4 x3 σ) fun v6 => bo (f_X12_isAmong v6 x2 σ) fun v8 => if v8 = 0 then f_X12_laysLines_73 a0 x1 x2 x3 σ else bo (xgr SM 12 24 (some a0) σ) fun v11 => bo (xai SM v11 x3 σ) fun v13 => bo (xgr SM 12 24 (some a0) σ) fun v15 => bo (xai SM v15 x2 σ) fun v17 => if v13 < v17 then f_X12_laysLines_73 a0 x1 x2 x3 σ else bo (xgr SM 12 24 (some a0) σ) fun v20 => bo (xgr SM 12 24 (some a0) σ) fun v22 => bo (xai SM v22 x3 σ) fun v24 => bo (xsi SM v20 x2 ((1 : Int32) + v24) σ) fun σ26 => f_X12_laysLines_73 a0 x1 x2 x3 σ26
theorem t_X12_laysLines_L24 {M : Mx} {l0 : Launch} (O : Ok M cX12_laysLines yX12_laysLines) (R0 : Rm M l0 3 101 0 0) (N : Ma M = false) (hn : Mn M = 4) (a0 : Nat) (x1 : Int32) (x2 : Int32) (x3 : Int32) (σ : Dt) (o : ((Int32 × Dt) ⊕ Dt)) (h : f_X12_laysLines_L24 a0 x1 x2 x3 σ = some o) (K : kon (P_X12_laysLines_24 M a0 x1 x2) (E_X12_laysLines_24 M a0 x1 x2) o) : G M 0 0 24 [(0, vA (some a0)), (1, vI x1), (2, vI x2), (3, vI x3)] [] SM σ := by
  unfold f_X12_laysLines_L24 at h
  refine g_iload_n O dX12_laysLines_24 rfl 3 rfl ?_
  refine g_aload_n O dX12_laysLines_25 rfl 0 rfl ?_
  obtain ⟨v1, e2, h⟩ := bo_some h
  refine g_getI O dX12_laysLines_26 fl_X12_211 rfl e2 ?_
  refine g_icmp_ge O dX12_laysLines_29 rfl (fun c3 => ?_) (fun c3 => ?_)
  · replace h := (if_pos c3).symm.trans h
    refine g_sub [0, 1, 2] (lv' := [(0, vA (some a0)), (1, vI x1), (2, vI x2)]) rfl ?_
    cases h
    exact K
  · replace h := (if_neg c3).symm.trans h
    refine g_aload_n O dX12_laysLines_32 rfl 0 rfl ?_
    refine g_iload_n O dX12_laysLines_33 rfl 3 rfl ?_
    obtain ⟨a4, e5, h⟩ := bo_some h
    obtain ⟨v6, e7, h⟩ := bo_some h
    refine g_cV1 O R0 N dX12_laysLines_34 vl_X12_319 vv_X12_parentsOf e5 [vI x3] rfl rfl rfl ⟨Nat.le_of_ble_eq_true rfl, Nat.le_of_ble_eq_true rfl⟩ (c_X12_parentsOf l0 a4 x3 σ v6 e7) ?_
    refine g_iload_n O dX12_laysLines_37 rfl 2 rfl ?_
    obtain ⟨v8, e9, h⟩ := bo_some h
    refine g_cS1 O R0 N dX12_laysLines_38 vl_X12_235 w1766 [vI v6, vI x2] rfl rfl rfl ⟨Nat.le_of_ble_eq_true rfl, Nat.le_of_ble_eq_true rfl⟩ (c_X12_isAmong l0 v6 x2 σ v8 e9) ?_
    refine g_if_eq O dX12_laysLines_41 rfl (fun c10 => ?_) (fun c10 => ?_)
    · replace h := (if_pos c10).symm.trans h
      exact t_X12_laysLines_73 O R0 N hn a0 x1 x2 x3 σ o h K
    · replace h := (if_neg c10).symm.trans h
      refine g_aload_n O dX12_laysLines_44 rfl 0 rfl ?_
      obtain ⟨v11, e12, h⟩ := bo_some h
      refine g_getR O dX12_laysLines_45 fl_X12_49 rfl e12 ?_
      refine g_iload_n O dX12_laysLines_48 rfl 3 rfl ?_
      obtain ⟨v13, e14, h⟩ := bo_some h
      refine g_iaload O dX12_laysLines_49 e14 ?_
      refine g_aload_n O dX12_laysLines_50 rfl 0 rfl ?_
      obtain ⟨v15, e16, h⟩ := bo_some h
      refine g_getR O dX12_laysLines_51 fl_X12_49 rfl e16 ?_
      refine g_iload_n O dX12_laysLines_54 rfl 2 rfl ?_
      obtain ⟨v17, e18, h⟩ := bo_some h
      refine g_iaload O dX12_laysLines_55 e18 ?_
      refine g_icmp_lt O dX12_laysLines_56 rfl (fun c19 => ?_) (fun c19 => ?_)
      · replace h := (if_pos c19).symm.trans h
        exact t_X12_laysLines_73 O R0 N hn a0 x1 x2 x3 σ o h K
      · replace h := (if_neg c19).symm.trans h
        refine g_aload_n O dX12_laysLines_59 rfl 0 rfl ?_
        obtain ⟨v20, e21, h⟩ := bo_some h
        refine g_getR O dX12_laysLines_60 fl_X12_49 rfl e21 ?_
        refine g_iload_n O dX12_laysLines_63 rfl 2 rfl ?_
        refine g_iconst (v := (1 : Int32)) O dX12_laysLines_64 rfl ?_
        refine g_aload_n O dX12_laysLines_65 rfl 0 rfl ?_
        obtain ⟨v22, e23, h⟩ := bo_some h
        refine g_getR O dX12_laysLines_66 fl_X12_49 rfl e23 ?_
        refine g_iload_n O dX12_laysLines_69 rfl 3 rfl ?_
        obtain ⟨v24, e25, h⟩ := bo_some h
        refine g_iaload O dX12_laysLines_70 e25 ?_
        refine g_iadd O dX12_laysLines_71 ?_
        obtain ⟨σ26, e27, h⟩ := bo_some h
        refine g_iastore O dX12_laysLines_72 e27 ?_
        exact t_X12_laysLines_73 O R0 N hn a0 x1 x2 x3 σ26 o h K
def P_X12_laysLines_9 (M : Mx) (a0 : Nat) (s : (Int32 × Int32 × Dt)) : Prop := G M 0 0 9 [(0, vA (some a0)), (1, vI s.1), (2, vI s.2.1)] [] SM s.2.2
def E_X12_laysLines_9 (M : Mx) (a0 : Nat) : (Int32 × Dt) → Prop := (fun w => G M 0 0 106 [(1, vI w.1)] [] SM w.2)
def f_X12_laysLines_99 (a0 : Nat) (x2 : Int32) (k0 : Int32) (σ : Dt) : Option ((Int32 × Int32 × Dt) ⊕ (Int32 × Dt)) := some (.inl (k0, (x2 + (-1 : Int32)), σ))
theorem t_X12_laysLines_99 {M : Mx} {l0 : Launch} (O : Ok M cX12_laysLines yX12_laysLines) (R0 : Rm M l0 3 101 0 0) (N : Ma M = false) (hn : Mn M = 4)  (a0 : Nat) (x2 : Int32) (k0 : Int32) (σ : Dt) (o : ((Int32 × Int32 × Dt) ⊕ (Int32 × Dt))) (h : f_X12_laysLines_99 a0 x2 k0 σ = some o) (K : kon (P_X12_laysLines_9 M a0) (E_X12_laysLines_9 M a0) o) : G M 0 0 99 [(0, vA (some a0)), (2, vI x2)] [vI k0] SM σ := by
  unfold f_X12_laysLines_99 at h
  refine g_istore_n (lv' := [(1, vI k0), (0, vA (some a0)), (2, vI x2)]) O dX12_laysLines_99 rfl 4 hn (by decide) rfl ?_
  refine g_iinc (v := (x2 + (-1 : Int32))) (lv' := [(2, vI (x2 + (-1 : Int32))), (1, vI k0), (0, vA (some a0))]) O dX12_laysLines_100 4 hn (by decide) 2 rfl rfl rfl ?_
  refine g_goto O dX12_laysLines_103 rfl ?_
  refine g_sub [2, 1, 0] (lv' := [(0, vA (some a0)), (1, vI k0), (2, vI (x2 + (-1 : Int32)))]) rfl ?_
  cases h
  exact K
def f_X12_laysLines_L9 (a0 : Nat) (x1 : Int32) (x2 : Int32) (σ : Dt) : Option ((Int32 × Int32 × Dt) ⊕ (Int32 × Dt)) := if x2 < 0 then some (.inr (x1, σ)) else bo (xgr SM 12 24 (some a0) σ) fun v2 => bo (xsi SM v2 x2 (1 : Int32) σ) fun σ4 => bo (iter FU (fun s => f_X12_laysLines_L24 a0 x1 x2 s.1 s.2) ((x2 + (1 : Int32)), σ4)) fun w6 => bo (xgr SM 12 24 (some a0) w6) fun v8 => bo (xai SM v8 x2 w6) fun v10 => if v10 ≤ x1 then f_X12_laysLines_99 a0 x2 x1 w6 else bo (xgr SM 12 24 (some a0) w6) fun v13 => bo (xai SM v13 x2 w6) fun v15 => f_X12_laysLines_99 a0 x2 v15 w6
theorem t_X12_laysLines_L9 {M : Mx} {l0 : Launch} (O : Ok M cX12_laysLines yX12_laysLines) (R0 : Rm M l0 3 101 0 0) (N : Ma M = false) (hn : Mn M = 4) (a0 : Nat) (x1 : Int32) (x2 : Int32) (σ : Dt) (o : ((Int32 × Int32 × Dt) ⊕ (Int32 × Dt))) (h : f_X12_laysLines_L9 a0 x1 x2 σ = some o) (K : kon (P_X12_laysLines_9 M a0) (E_X12_laysLines_9 M a0) o) : G M 0 0 9 [(0, vA (some a0)), (1, vI x1), (2, vI x2)] [] SM σ := by
  unfold f_X12_laysLines_L9 at h
  refine g_iload_n O dX12_laysLines_9 rfl 2 rfl ?_
  refine g_if_lt O dX12_laysLines_10 rfl (fun c1 => ?_) (fun c1 => ?_)
  · replace h := (if_pos c1).symm.trans h
    refine g_sub [1] (lv' := [(1, vI x1)]) rfl ?_
    cases h
    exact K
  · replace h := (if_neg c1).symm.trans h
    refine g_aload_n O dX12_laysLines_13 rfl 0 rfl ?_
    obtain ⟨v2, e3, h⟩ := bo_some h
    refine g_getR O dX12_laysLines_14 fl_X12_49 rfl e3 ?_
    refine g_iload_n O dX12_laysLines_17 rfl 2 rfl ?_
    refine g_iconst (v := (1 : Int32)) O dX12_laysLines_18 rfl ?_
    obtain ⟨σ4, e5, h⟩ := bo_some h
    refine g_iastore O dX12_laysLines_19 e5 ?_
    refine g_iload_n O dX12_laysLines_20 rfl 2 rfl ?_
    refine g_iconst (v := (1 : Int32)) O dX12_laysLines_21 rfl ?_
    refine g_iadd O dX12_laysLines_22 ?_
    refine g_istore_n (lv' := [(3, vI (x2 + (1 : Int32))), (0, vA (some a0)), (1, vI x1), (2, vI x2)]) O dX12_laysLines_23 rfl 4 hn (by decide) rfl ?_
    refine g_sub [1, 2, 3, 0] (lv' := [(0, vA (some a0)), (1, vI x1), (2, vI x2), (3, vI (x2 + (1 : Int32)))]) rfl ?_
    obtain ⟨w6, e7, h⟩ := bo_some h
    refine iter_G (P := P_X12_laysLines_24 M a0 x1 x2) (E := E_X12_laysLines_24 M a0 x1 x2) (fun s o hb hk => t_X12_laysLines_L24 O R0 N hn a0 x1 x2 s.1 s.2 o hb hk) FU ((x2 + (1 : Int32)), σ4) w6 e7 ?_
    show G M 0 0 79 [(0, vA (some a0)), (1, vI x1), (2, vI x2)] [] SM w6
    refine g_aload_n O dX12_laysLines_79 rfl 0 rfl ?_
    obtain ⟨v8, e9, h⟩ := bo_some h
    refine g_getR O dX12_laysLines_80 fl_X12_49 rfl e9 ?_
    refine g_iload_n O dX12_laysLines_83 rfl 2 rfl ?_
    obtain ⟨v10, e11, h⟩ := bo_some h
    refine g_iaload O dX12_laysLines_84 e11 ?_
    refine g_iload_n O dX12_laysLines_85 rfl 1 rfl ?_
    refine g_icmp_le O dX12_laysLines_86 rfl (fun c12 => ?_) (fun c12 => ?_)
    · replace h := (if_pos c12).symm.trans h
      refine g_iload_n O dX12_laysLines_98 rfl 1 rfl ?_
      refine g_sub [0, 2] (lv' := [(0, vA (some a0)), (2, vI x2)]) rfl ?_
      exact t_X12_laysLines_99 O R0 N hn a0 x2 x1 w6 o h K
    · replace h := (if_neg c12).symm.trans h
      refine g_aload_n O dX12_laysLines_89 rfl 0 rfl ?_
      obtain ⟨v13, e14, h⟩ := bo_some h
      refine g_getR O dX12_laysLines_90 fl_X12_49 rfl e14 ?_
      refine g_iload_n O dX12_laysLines_93 rfl 2 rfl ?_
      obtain ⟨v15, e16, h⟩ := bo_some h
      refine g_iaload O dX12_laysLines_94 e16 ?_
      refine g_goto O dX12_laysLines_95 rfl ?_
      refine g_sub [0, 2] (lv' := [(0, vA (some a0)), (2, vI x2)]) rfl ?_
      exact t_X12_laysLines_99 O R0 N hn a0 x2 v15 w6 o h K
def f_X12_laysLines (a0 : Nat) (σ : Dt) : Option (Int32 × Dt) := bo (xgi SM 12 12 (some a0) σ) fun v1 => bo (iter FU (fun s => f_X12_laysLines_L9 a0 s.1 s.2.1 s.2.2) ((0 : Int32), (v1 - (1 : Int32)), σ)) fun w3 => some (w3.1, w3.2)
theorem t_X12_laysLines {M : Mx} {l0 : Launch} (O : Ok M cX12_laysLines yX12_laysLines) (R0 : Rm M l0 3 101 0 0) (N : Ma M = false) (hn : Mn M = 4) (a0 : Nat) (σ : Dt) (o : (Int32 × Dt)) (h : f_X12_laysLines a0 σ = some o) (K : Fin' M (some .int) 0 0 SM o.2 (some (vI o.1))) : G M 0 0 0 [(0, vA (some a0))] [] SM σ := by
  unfold f_X12_laysLines at h
  refine g_iconst (v := (0 : Int32)) O dX12_laysLines_0 rfl ?_
  refine g_istore_n (lv' := [(1, vI (0 : Int32)), (0, vA (some a0))]) O dX12_laysLines_1 rfl 4 hn (by decide) rfl ?_
  refine g_aload_n O dX12_laysLines_2 rfl 1 rfl ?_
  obtain ⟨v1, e2, h⟩ := bo_some h
  refine g_getI O dX12_laysLines_3 fl_X12_211 rfl e2 ?_
  refine g_iconst (v := (1 : Int32)) O dX12_laysLines_6 rfl ?_
  refine g_isub O dX12_laysLines_7 ?_
  refine g_istore_n (lv' := [(2, vI (v1 - (1 : Int32))), (1, vI (0 : Int32)), (0, vA (some a0))]) O dX12_laysLines_8 rfl 4 hn (by decide) rfl ?_
  refine g_sub [2, 1, 0] (lv' := [(0, vA (some a0)), (1, vI (0 : Int32)), (2, vI (v1 - (1 : Int32)))]) rfl ?_
  obtain ⟨w3, e4, h⟩ := bo_some h
  refine iter_G (P := P_X12_laysLines_9 M a0) (E := E_X12_laysLines_9 M a0) (fun s o hb hk => t_X12_laysLines_L9 O R0 N hn a0 s.1 s.2.1 s.2.2 o hb hk) FU ((0 : Int32), (v1 - (1 : Int32)), σ) w3 e4 ?_
  show G M 0 0 106 [(1, vI w3.1)] [] SM w3.2
  refine g_iload_n O dX12_laysLines_106 rfl 0 rfl ?_
  cases h
  exact g_ireturn O K dX12_laysLines_107
theorem c_X12_laysLines (l0 : Launch) (a0 : Nat) (σ : Dt) (r : Int32) (σ' : Dt) (h : f_X12_laysLines a0 σ = some (r, σ')) : Ctr l0 yX12_laysLines cX12_laysLines 4 (some .int) false 3 101 0 0 [vA (some a0)] SM σ SM σ' (some (vI r)) := ctr_of (by decide) (Nat.le_of_ble_eq_true rfl) (fun M O F R0 N hn => t_X12_laysLines O R0 N hn a0 σ (r, σ') h F)
def P_X12_line_49 (M : Mx) (a0 : Nat) (x2 : Int32) (x3 : Int32) (x4 : Int32) (x5 : Int32) (σ : Dt) (s : Int32) : Prop := G M 0 0 49 [(0, vA (some a0)), (2, vI x2), (3, vI x3), (4, vI x4), (5, vI x5), (6, vI s)] [] SM σ
def E_X12_line_49 (M : Mx) (a0 : Nat) (x2 : Int32) (x3 : Int32) (x4 : Int32) (x5 : Int32) (σ : Dt) : Int32 → Prop := (fun w => G M 0 0 89 [(0, vA (some a0)), (2, vI x2), (3, vI x3), (5, vI x5), (6, vI w)] [] SM σ)
def f_X12_line_83 (a0 : Nat) (x2 : Int32) (x3 : Int32) (x4 : Int32) (x5 : Int32) (x6 : Int32) (σ : Dt) : Option (Int32 ⊕ Int32) := some (.inl (x6 + (1 : Int32)))
theorem t_X12_line_83 {M : Mx} {l0 : Launch} (O : Ok M cX12_line yX12_line) (R0 : Rm M l0 5 145 0 0) (N : Ma M = false) (hn : Mn M = 7)  (a0 : Nat) (x2 : Int32) (x3 : Int32) (x4 : Int32) (x5 : Int32) (x6 : Int32) (σ : Dt) (o : (Int32 ⊕ Int32)) (h : f_X12_line_83 a0 x2 x3 x4 x5 x6 σ = some o) (K : kon (P_X12_line_49 M a0 x2 x3 x4 x5 σ) (E_X12_line_49 M a0 x2 x3 x4 x5 σ) o) : G M 0 0 83 [(0, vA (some a0)), (2, vI x2), (3, vI x3), (4, vI x4), (5, vI x5), (6, vI x6)] [] SM σ := by
  unfold f_X12_line_83 at h
  refine g_iinc (v := (x6 + (1 : Int32))) (lv' := [(6, vI (x6 + (1 : Int32))), (0, vA (some a0)), (2, vI x2), (3, vI x3), (4, vI x4), (5, vI x5)]) O dX12_line_83 7 hn (by decide) 5 rfl rfl rfl ?_
  refine g_goto O dX12_line_86 rfl ?_
  refine g_sub [1, 2, 3, 4, 5, 0] (lv' := [(0, vA (some a0)), (2, vI x2), (3, vI x3), (4, vI x4), (5, vI x5), (6, vI (x6 + (1 : Int32)))]) rfl ?_
  cases h
  exact K
def f_X12_line_L49 (a0 : Nat) (x2 : Int32) (x3 : Int32) (x4 : Int32) (x5 : Int32) (x6 : Int32) (σ : Dt) : Option (Int32 ⊕ Int32) := bo (xgr SM 12 24 (some a0) σ) fun v1 => bo (xai SM v1 x6 σ) fun v3 => if v3 = (x3 - x5) then if x4 = (-1 : Int32) then some (.inr x6) else bo (xrc SM 12 (some a0)) fun a7 => bo (f_X12_parentsOf a7 x6 σ) fun v9 => bo (f_X12_isAmong v9 x4 σ) fun v11 => if v11 = 0 then f_X12_line_83 a0 x2 x3 x4 x5 x6 σ else some (.inr x6) else f_X12_line_83 a0 x2 x3 x4 x5 x6 σ
theorem t_X12_line_L49 {M : Mx} {l0 : Launch} (O : Ok M cX12_line yX12_line) (R0 : Rm M l0 5 145 0 0) (N : Ma M = false) (hn : Mn M = 7) (a0 : Nat) (x2 : Int32) (x3 : Int32) (x4 : Int32) (x5 : Int32) (x6 : Int32) (σ : Dt) (o : (Int32 ⊕ Int32)) (h : f_X12_line_L49 a0 x2 x3 x4 x5 x6 σ = some o) (K : kon (P_X12_line_49 M a0 x2 x3 x4 x5 σ) (E_X12_line_49 M a0 x2 x3 x4 x5 σ) o) : G M 0 0 49 [(0, vA (some a0)), (2, vI x2), (3, vI x3), (4, vI x4), (5, vI x5), (6, vI x6)] [] SM σ := by
  unfold f_X12_line_L49 at h
  refine g_aload_n O dX12_line_49 rfl 0 rfl ?_
  obtain ⟨v1, e2, h⟩ := bo_some h
  refine g_getR O dX12_line_50 fl_X12_49 rfl e2 ?_
  refine g_iload O dX12_line_53 5 rfl ?_
  obtain ⟨v3, e4, h⟩ := bo_some h
  refine g_iaload O dX12_line_55 e4 ?_
  refine g_iload_n O dX12_line_56 rfl 2 rfl ?_
  refine g_iload O dX12_line_57 4 rfl ?_
  refine g_isub O dX12_line_59 ?_
  refine g_icmp_ne O dX12_line_60 rfl (fun c5 => ?_) (fun c5 => ?_)
  · replace h := (if_pos c5).symm.trans h
    refine g_iload O dX12_line_63 3 rfl ?_
    refine g_iconst (v := (-1 : Int32)) O dX12_line_65 rfl ?_
    refine g_icmp_eq O dX12_line_66 rfl (fun c6 => ?_) (fun c6 => ?_)
    · replace h := (if_pos c6).symm.trans h
      refine g_sub [0, 1, 2, 4, 5] (lv' := [(0, vA (some a0)), (2, vI x2), (3, vI x3), (5, vI x5), (6, vI x6)]) rfl ?_
      cases h
      exact K
    · replace h := (if_neg c6).symm.trans h
      refine g_aload_n O dX12_line_69 rfl 0 rfl ?_
      refine g_iload O dX12_line_70 5 rfl ?_
      obtain ⟨a7, e8, h⟩ := bo_some h
      obtain ⟨v9, e10, h⟩ := bo_some h
      refine g_cV1 O R0 N dX12_line_72 vl_X12_319 vv_X12_parentsOf e8 [vI x6] rfl rfl rfl ⟨Nat.le_of_ble_eq_true rfl, Nat.le_of_ble_eq_true rfl⟩ (c_X12_parentsOf l0 a7 x6 σ v9 e10) ?_
      refine g_iload O dX12_line_75 3 rfl ?_
      obtain ⟨v11, e12, h⟩ := bo_some h
      refine g_cS1 O R0 N dX12_line_77 vl_X12_235 w1766 [vI v9, vI x4] rfl rfl rfl ⟨Nat.le_of_ble_eq_true rfl, Nat.le_of_ble_eq_true rfl⟩ (c_X12_isAmong l0 v9 x4 σ v11 e12) ?_
      refine g_if_ne O dX12_line_80 rfl (fun c13 => ?_) (fun c13 => ?_)
      · replace h := (if_pos c13).symm.trans h
        exact t_X12_line_83 O R0 N hn a0 x2 x3 x4 x5 x6 σ o h K
      · replace h := (if_neg c13).symm.trans h
        refine g_sub [0, 1, 2, 4, 5] (lv' := [(0, vA (some a0)), (2, vI x2), (3, vI x3), (5, vI x5), (6, vI x6)]) rfl ?_
        cases h
        exact K
  · replace h := (if_neg c5).symm.trans h
    exact t_X12_line_83 O R0 N hn a0 x2 x3 x4 x5 x6 σ o h K
def P_X12_line_40 (M : Mx) (a0 : Nat) (x2 : Int32) (x3 : Int32) (σ : Dt) (s : (Int32 × Int32)) : Prop := G M 0 0 40 [(0, vA (some a0)), (2, vI x2), (3, vI x3), (4, vI s.1), (5, vI s.2)] [] SM σ
def E_X12_line_40 (M : Mx) (a0 : Nat) (x2 : Int32) (x3 : Int32) (σ : Dt) : Int32 → Prop := (fun w => G M 0 0 99 [(4, vI w)] [] SM σ)
def f_X12_line_89 (a0 : Nat) (x2 : Int32) (x3 : Int32) (x5 : Int32) (x6 : Int32) (σ : Dt) : Option ((Int32 × Int32) ⊕ Int32) := some (.inl (x6, (x5 + (1 : Int32))))
theorem t_X12_line_89 {M : Mx} {l0 : Launch} (O : Ok M cX12_line yX12_line) (R0 : Rm M l0 5 145 0 0) (N : Ma M = false) (hn : Mn M = 7)  (a0 : Nat) (x2 : Int32) (x3 : Int32) (x5 : Int32) (x6 : Int32) (σ : Dt) (o : ((Int32 × Int32) ⊕ Int32)) (h : f_X12_line_89 a0 x2 x3 x5 x6 σ = some o) (K : kon (P_X12_line_40 M a0 x2 x3 σ) (E_X12_line_40 M a0 x2 x3 σ) o) : G M 0 0 89 [(0, vA (some a0)), (2, vI x2), (3, vI x3), (5, vI x5), (6, vI x6)] [] SM σ := by
  unfold f_X12_line_89 at h
  refine g_iload O dX12_line_89 4 rfl ?_
  refine g_istore (lv' := [(4, vI x6), (0, vA (some a0)), (2, vI x2), (3, vI x3), (5, vI x5), (6, vI x6)]) O dX12_line_91 7 hn (by decide) rfl ?_
  refine g_iinc (v := (x5 + (1 : Int32))) (lv' := [(5, vI (x5 + (1 : Int32))), (4, vI x6), (0, vA (some a0)), (2, vI x2), (3, vI x3), (6, vI x6)]) O dX12_line_93 7 hn (by decide) 4 rfl rfl rfl ?_
  refine g_goto O dX12_line_96 rfl ?_
  refine g_sub [2, 3, 4, 1, 0] (lv' := [(0, vA (some a0)), (2, vI x2), (3, vI x3), (4, vI x6), (5, vI (x5 + (1 : Int32)))]) rfl ?_
  cases h
  exact K
def f_X12_line_L40 (a0 : Nat) (x2 : Int32) (x3 : Int32) (x4 : Int32) (x5 : Int32) (σ : Dt) : Option ((Int32 × Int32) ⊕ Int32) := if x2 < x5 then some (.inr x4) else bo (iter FU (fun s => f_X12_line_L49 a0 x2 x3 x4 x5 s σ) (0 : Int32)) fun w2 => f_X12_line_89 a0 x2 x3 x5 w2 σ
theorem t_X12_line_L40 {M : Mx} {l0 : Launch} (O : Ok M cX12_line yX12_line) (R0 : Rm M l0 5 145 0 0) (N : Ma M = false) (hn : Mn M = 7) (a0 : Nat) (x2 : Int32) (x3 : Int32) (x4 : Int32) (x5 : Int32) (σ : Dt) (o : ((Int32 × Int32) ⊕ Int32)) (h : f_X12_line_L40 a0 x2 x3 x4 x5 σ = some o) (K : kon (P_X12_line_40 M a0 x2 x3 σ) (E_X12_line_40 M a0 x2 x3 σ) o) : G M 0 0 40 [(0, vA (some a0)), (2, vI x2), (3, vI x3), (4, vI x4), (5, vI x5)] [] SM σ := by
  unfold f_X12_line_L40 at h
  refine g_iload O dX12_line_40 4 rfl ?_
  refine g_iload_n O dX12_line_42 rfl 1 rfl ?_
  refine g_icmp_gt O dX12_line_43 rfl (fun c1 => ?_) (fun c1 => ?_)
  · replace h := (if_pos c1).symm.trans h
    refine g_sub [3] (lv' := [(4, vI x4)]) rfl ?_
    cases h
    exact K
  · replace h := (if_neg c1).symm.trans h
    refine g_iconst (v := (0 : Int32)) O dX12_line_46 rfl ?_
    refine g_istore (lv' := [(6, vI (0 : Int32)), (0, vA (some a0)), (2, vI x2), (3, vI x3), (4, vI x4), (5, vI x5)]) O dX12_line_47 7 hn (by decide) rfl ?_
    refine g_sub [1, 2, 3, 4, 5, 0] (lv' := [(0, vA (some a0)), (2, vI x2), (3, vI x3), (4, vI x4), (5, vI x5), (6, vI (0 : Int32))]) rfl ?_
    obtain ⟨w2, e3, h⟩ := bo_some h
    refine iter_G (P := P_X12_line_49 M a0 x2 x3 x4 x5 σ) (E := E_X12_line_49 M a0 x2 x3 x4 x5 σ) (fun s o hb hk => t_X12_line_L49 O R0 N hn a0 x2 x3 x4 x5 s σ o hb hk) FU (0 : Int32) w2 e3 ?_
    show G M 0 0 89 [(0, vA (some a0)), (2, vI x2), (3, vI x3), (5, vI x5), (6, vI w2)] [] SM σ
    exact t_X12_line_89 O R0 N hn a0 x2 x3 x5 w2 σ o h K
def f_X12_line (a0 : Nat) (x1 : Int32) (x2 : Int32) (σ : Dt) : Option (Int32 × Dt) := bo (xrc SM 12 (some a0)) fun a1 => bd (f_X12_isValley a1 x1 σ) fun v3 σ4 => if v3 = 0 then some ((-1 : Int32), σ4) else if (-1 : Int32) ≤ x2 then bo (xrc SM 12 (some a0)) fun a8 => bd (f_X12_laysLines a8 σ4) fun v10 σ11 => if x2 = (-1 : Int32) then some (v10, σ11) else if x2 < v10 then bo (iter FU (fun s => f_X12_line_L40 a0 x2 v10 s.1 s.2 σ11) ((-1 : Int32), (0 : Int32))) fun w15 => some (w15, σ11) else some ((-1 : Int32), σ11) else some ((-1 : Int32), σ4)
theorem t_X12_line {M : Mx} {l0 : Launch} (O : Ok M cX12_line yX12_line) (R0 : Rm M l0 5 145 0 0) (N : Ma M = false) (hn : Mn M = 7) (a0 : Nat) (x1 : Int32) (x2 : Int32) (σ : Dt) (o : (Int32 × Dt)) (h : f_X12_line a0 x1 x2 σ = some o) (K : Fin' M (some .int) 0 0 SM o.2 (some (vI o.1))) : G M 0 0 0 [(0, vA (some a0)), (1, vI x1), (2, vI x2)] [] SM σ := by
  unfold f_X12_line at h
  refine g_aload_n O dX12_line_0 rfl 0 rfl ?_
  refine g_iload_n O dX12_line_1 rfl 1 rfl ?_
  obtain ⟨a1, e2, h⟩ := bo_some h
  obtain ⟨v3, σ4, e5, h⟩ := bd_some h
  refine g_cV1 O R0 N dX12_line_2 vl_X12_220 vv_X12_isValley e2 [vI x1] rfl rfl rfl ⟨Nat.le_of_ble_eq_true rfl, Nat.le_of_ble_eq_true rfl⟩ (c_X12_isValley l0 a1 x1 σ v3 σ4 e5) ?_
  refine g_if_eq O dX12_line_5 rfl (fun c6 => ?_) (fun c6 => ?_)
  · replace h := (if_pos c6).symm.trans h
    refine g_iconst (v := (-1 : Int32)) O dX12_line_13 rfl ?_
    cases h
    exact g_ireturn O K dX12_line_14
  · replace h := (if_neg c6).symm.trans h
    refine g_iload_n O dX12_line_8 rfl 2 rfl ?_
    refine g_iconst (v := (-1 : Int32)) O dX12_line_9 rfl ?_
    refine g_icmp_ge O dX12_line_10 rfl (fun c7 => ?_) (fun c7 => ?_)
    · replace h := (if_pos c7).symm.trans h
      refine g_aload_n O dX12_line_15 rfl 0 rfl ?_
      obtain ⟨a8, e9, h⟩ := bo_some h
      obtain ⟨v10, σ11, e12, h⟩ := bd_some h
      refine g_cV1 O R0 N dX12_line_16 vl_X12_333 vv_X12_laysLines e9 [] rfl rfl rfl ⟨Nat.le_of_ble_eq_true rfl, Nat.le_of_ble_eq_true rfl⟩ (c_X12_laysLines l0 a8 σ4 v10 σ11 e12) ?_
      refine g_istore_n (lv' := [(3, vI v10), (0, vA (some a0)), (1, vI x1), (2, vI x2)]) O dX12_line_19 rfl 7 hn (by decide) rfl ?_
      refine g_iload_n O dX12_line_20 rfl 3 rfl ?_
      refine g_iconst (v := (-1 : Int32)) O dX12_line_21 rfl ?_
      refine g_icmp_ne O dX12_line_22 rfl (fun c13 => ?_) (fun c13 => ?_)
      · replace h := (if_pos c13).symm.trans h
        refine g_iload_n O dX12_line_25 rfl 0 rfl ?_
        cases h
        exact g_ireturn O K dX12_line_26
      · replace h := (if_neg c13).symm.trans h
        refine g_iload_n O dX12_line_27 rfl 3 rfl ?_
        refine g_iload_n O dX12_line_28 rfl 0 rfl ?_
        refine g_icmp_lt O dX12_line_29 rfl (fun c14 => ?_) (fun c14 => ?_)
        · replace h := (if_pos c14).symm.trans h
          refine g_iconst (v := (-1 : Int32)) O dX12_line_34 rfl ?_
          refine g_istore (lv' := [(4, vI (-1 : Int32)), (3, vI v10), (0, vA (some a0)), (1, vI x1), (2, vI x2)]) O dX12_line_35 7 hn (by decide) rfl ?_
          refine g_iconst (v := (0 : Int32)) O dX12_line_37 rfl ?_
          refine g_istore (lv' := [(5, vI (0 : Int32)), (4, vI (-1 : Int32)), (3, vI v10), (0, vA (some a0)), (1, vI x1), (2, vI x2)]) O dX12_line_38 7 hn (by decide) rfl ?_
          refine g_sub [3, 5, 2, 1, 0] (lv' := [(0, vA (some a0)), (2, vI x2), (3, vI v10), (4, vI (-1 : Int32)), (5, vI (0 : Int32))]) rfl ?_
          obtain ⟨w15, e16, h⟩ := bo_some h
          refine iter_G (P := P_X12_line_40 M a0 x2 v10 σ11) (E := E_X12_line_40 M a0 x2 v10 σ11) (fun s o hb hk => t_X12_line_L40 O R0 N hn a0 x2 v10 s.1 s.2 σ11 o hb hk) FU ((-1 : Int32), (0 : Int32)) w15 e16 ?_
          show G M 0 0 99 [(4, vI w15)] [] SM σ11
          refine g_iload O dX12_line_99 0 rfl ?_
          cases h
          exact g_ireturn O K dX12_line_101
        · replace h := (if_neg c14).symm.trans h
          refine g_iconst (v := (-1 : Int32)) O dX12_line_32 rfl ?_
          cases h
          exact g_ireturn O K dX12_line_33
    · replace h := (if_neg c7).symm.trans h
      refine g_iconst (v := (-1 : Int32)) O dX12_line_13 rfl ?_
      cases h
      exact g_ireturn O K dX12_line_14
theorem c_X12_line (l0 : Launch) (a0 : Nat) (x1 : Int32) (x2 : Int32) (σ : Dt) (r : Int32) (σ' : Dt) (h : f_X12_line a0 x1 x2 σ = some (r, σ')) : Ctr l0 yX12_line cX12_line 7 (some .int) false 5 145 0 0 [vA (some a0), vI x1, vI x2] SM σ SM σ' (some (vI r)) := ctr_of (by decide) (Nat.le_of_ble_eq_true rfl) (fun M O F R0 N hn => t_X12_line O R0 N hn a0 x1 x2 σ (r, σ') h F)
def P_X12_eldersOf_10 (M : Mx) (a0 : Nat) (σ : Dt) (s : (Int32 × Int32)) : Prop := G M 0 0 10 [(0, vA (some a0)), (2, vI s.1), (3, vI s.2)] [] SM σ
def E_X12_eldersOf_10 (M : Mx) (a0 : Nat) (σ : Dt) : Int32 → Prop := (fun w => G M 0 0 40 [(2, vI w)] [] SM σ)
def f_X12_eldersOf_32 (a0 : Nat) (x3 : Int32) (k0 : Int32) (k1 : Int32) (σ : Dt) : Option ((Int32 × Int32) ⊕ Int32) := some (.inl ((k0 ||| k1), (x3 + (-1 : Int32))))
theorem t_X12_eldersOf_32 {M : Mx} {l0 : Launch} (O : Ok M cX12_eldersOf yX12_eldersOf) (R0 : Rm M l0 3 101 0 0) (N : Ma M = false) (hn : Mn M = 4)  (a0 : Nat) (x3 : Int32) (k0 : Int32) (k1 : Int32) (σ : Dt) (o : ((Int32 × Int32) ⊕ Int32)) (h : f_X12_eldersOf_32 a0 x3 k0 k1 σ = some o) (K : kon (P_X12_eldersOf_10 M a0 σ) (E_X12_eldersOf_10 M a0 σ) o) : G M 0 0 32 [(0, vA (some a0)), (3, vI x3)] [vI k1, vI k0] SM σ := by
  unfold f_X12_eldersOf_32 at h
  refine g_ior O dX12_eldersOf_32 ?_
  refine g_istore_n (lv' := [(2, vI (k0 ||| k1)), (0, vA (some a0)), (3, vI x3)]) O dX12_eldersOf_33 rfl 4 hn (by decide) rfl ?_
  refine g_iinc (v := (x3 + (-1 : Int32))) (lv' := [(3, vI (x3 + (-1 : Int32))), (2, vI (k0 ||| k1)), (0, vA (some a0))]) O dX12_eldersOf_34 4 hn (by decide) 2 rfl rfl rfl ?_
  refine g_goto O dX12_eldersOf_37 rfl ?_
  refine g_sub [2, 1, 0] (lv' := [(0, vA (some a0)), (2, vI (k0 ||| k1)), (3, vI (x3 + (-1 : Int32)))]) rfl ?_
  cases h
  exact K
def f_X12_eldersOf_L10 (a0 : Nat) (x2 : Int32) (x3 : Int32) (σ : Dt) : Option ((Int32 × Int32) ⊕ Int32) := if x3 < 0 then some (.inr x2) else bo (f_X12_isAmong x2 x3 σ) fun v2 => if v2 = 0 then f_X12_eldersOf_32 a0 x3 x2 (0 : Int32) σ else bo (xrc SM 12 (some a0)) fun a5 => bo (f_X12_parentsOf a5 x3 σ) fun v7 => f_X12_eldersOf_32 a0 x3 x2 v7 σ
theorem t_X12_eldersOf_L10 {M : Mx} {l0 : Launch} (O : Ok M cX12_eldersOf yX12_eldersOf) (R0 : Rm M l0 3 101 0 0) (N : Ma M = false) (hn : Mn M = 4) (a0 : Nat) (x2 : Int32) (x3 : Int32) (σ : Dt) (o : ((Int32 × Int32) ⊕ Int32)) (h : f_X12_eldersOf_L10 a0 x2 x3 σ = some o) (K : kon (P_X12_eldersOf_10 M a0 σ) (E_X12_eldersOf_10 M a0 σ) o) : G M 0 0 10 [(0, vA (some a0)), (2, vI x2), (3, vI x3)] [] SM σ := by
  unfold f_X12_eldersOf_L10 at h
  refine g_iload_n O dX12_eldersOf_10 rfl 2 rfl ?_
  refine g_if_lt O dX12_eldersOf_11 rfl (fun c1 => ?_) (fun c1 => ?_)
  · replace h := (if_pos c1).symm.trans h
    refine g_sub [1] (lv' := [(2, vI x2)]) rfl ?_
    cases h
    exact K
  · replace h := (if_neg c1).symm.trans h
    refine g_iload_n O dX12_eldersOf_14 rfl 1 rfl ?_
    refine g_iload_n O dX12_eldersOf_15 rfl 1 rfl ?_
    refine g_iload_n O dX12_eldersOf_16 rfl 2 rfl ?_
    obtain ⟨v2, e3, h⟩ := bo_some h
    refine g_cS1 O R0 N dX12_eldersOf_17 vl_X12_235 w1766 [vI x2, vI x3] rfl rfl rfl ⟨Nat.le_of_ble_eq_true rfl, Nat.le_of_ble_eq_true rfl⟩ (c_X12_isAmong l0 x2 x3 σ v2 e3) ?_
    refine g_if_eq O dX12_eldersOf_20 rfl (fun c4 => ?_) (fun c4 => ?_)
    · replace h := (if_pos c4).symm.trans h
      refine g_iconst (v := (0 : Int32)) O dX12_eldersOf_31 rfl ?_
      refine g_sub [0, 2] (lv' := [(0, vA (some a0)), (3, vI x3)]) rfl ?_
      exact t_X12_eldersOf_32 O R0 N hn a0 x3 x2 (0 : Int32) σ o h K
    · replace h := (if_neg c4).symm.trans h
      refine g_aload_n O dX12_eldersOf_23 rfl 0 rfl ?_
      refine g_iload_n O dX12_eldersOf_24 rfl 2 rfl ?_
      obtain ⟨a5, e6, h⟩ := bo_some h
      obtain ⟨v7, e8, h⟩ := bo_some h
      refine g_cV1 O R0 N dX12_eldersOf_25 vl_X12_319 vv_X12_parentsOf e6 [vI x3] rfl rfl rfl ⟨Nat.le_of_ble_eq_true rfl, Nat.le_of_ble_eq_true rfl⟩ (c_X12_parentsOf l0 a5 x3 σ v7 e8) ?_
      refine g_goto O dX12_eldersOf_28 rfl ?_
      refine g_sub [0, 2] (lv' := [(0, vA (some a0)), (3, vI x3)]) rfl ?_
      exact t_X12_eldersOf_32 O R0 N hn a0 x3 x2 v7 σ o h K
def f_X12_eldersOf (a0 : Nat) (x1 : Int32) (σ : Dt) : Option Int32 := bo (xrc SM 12 (some a0)) fun a1 => bo (f_X12_parentsOf a1 x1 σ) fun v3 => bo (iter FU (fun s => f_X12_eldersOf_L10 a0 s.1 s.2 σ) (v3, (x1 - (1 : Int32)))) fun w5 => some w5
theorem t_X12_eldersOf {M : Mx} {l0 : Launch} (O : Ok M cX12_eldersOf yX12_eldersOf) (R0 : Rm M l0 3 101 0 0) (N : Ma M = false) (hn : Mn M = 4) (a0 : Nat) (x1 : Int32) (σ : Dt) (o : Int32) (h : f_X12_eldersOf a0 x1 σ = some o) (K : Fin' M (some .int) 0 0 SM σ (some (vI o))) : G M 0 0 0 [(0, vA (some a0)), (1, vI x1)] [] SM σ := by
  unfold f_X12_eldersOf at h
  refine g_aload_n O dX12_eldersOf_0 rfl 0 rfl ?_
  refine g_iload_n O dX12_eldersOf_1 rfl 1 rfl ?_
  obtain ⟨a1, e2, h⟩ := bo_some h
  obtain ⟨v3, e4, h⟩ := bo_some h
  refine g_cV1 O R0 N dX12_eldersOf_2 vl_X12_319 vv_X12_parentsOf e2 [vI x1] rfl rfl rfl ⟨Nat.le_of_ble_eq_true rfl, Nat.le_of_ble_eq_true rfl⟩ (c_X12_parentsOf l0 a1 x1 σ v3 e4) ?_
  refine g_istore_n (lv' := [(2, vI v3), (0, vA (some a0)), (1, vI x1)]) O dX12_eldersOf_5 rfl 4 hn (by decide) rfl ?_
  refine g_iload_n O dX12_eldersOf_6 rfl 2 rfl ?_
  refine g_iconst (v := (1 : Int32)) O dX12_eldersOf_7 rfl ?_
  refine g_isub O dX12_eldersOf_8 ?_
  refine g_istore_n (lv' := [(3, vI (x1 - (1 : Int32))), (2, vI v3), (0, vA (some a0)), (1, vI x1)]) O dX12_eldersOf_9 rfl 4 hn (by decide) rfl ?_
  refine g_sub [2, 1, 0] (lv' := [(0, vA (some a0)), (2, vI v3), (3, vI (x1 - (1 : Int32)))]) rfl ?_
  obtain ⟨w5, e6, h⟩ := bo_some h
  refine iter_G (P := P_X12_eldersOf_10 M a0 σ) (E := E_X12_eldersOf_10 M a0 σ) (fun s o hb hk => t_X12_eldersOf_L10 O R0 N hn a0 s.1 s.2 σ o hb hk) FU (v3, (x1 - (1 : Int32))) w5 e6 ?_
  show G M 0 0 40 [(2, vI w5)] [] SM σ
  refine g_iload_n O dX12_eldersOf_40 rfl 0 rfl ?_
  cases h
  exact g_ireturn O K dX12_eldersOf_41
theorem c_X12_eldersOf (l0 : Launch) (a0 : Nat) (x1 : Int32) (σ : Dt) (r : Int32) (h : f_X12_eldersOf a0 x1 σ = some r) : Ctr l0 yX12_eldersOf cX12_eldersOf 4 (some .int) false 3 101 0 0 [vA (some a0), vI x1] SM σ SM σ (some (vI r)) := ctr_of (by decide) (Nat.le_of_ble_eq_true rfl) (fun M O F R0 N hn => t_X12_eldersOf O R0 N hn a0 x1 σ r h F)
def P_X12_elders_34 (M : Mx) (a0 : Nat) (x2 : Int32) (σ : Dt) (s : (Int32 × Int32)) : Prop := G M 0 0 34 [(0, vA (some a0)), (2, vI x2), (4, vI s.1), (5, vI s.2)] [] SM σ
def E_X12_elders_34 (M : Mx) (a0 : Nat) (x2 : Int32) (σ : Dt) : Int32 → Prop := (fun w => G M 0 0 75 [(4, vI w)] [] SM σ)
def f_X12_elders_66 (a0 : Nat) (x2 : Int32) (x5 : Int32) (k0 : Int32) (k1 : Int32) (σ : Dt) : Option ((Int32 × Int32) ⊕ Int32) := some (.inl ((k0 ||| k1), (x5 + (1 : Int32))))
theorem t_X12_elders_66 {M : Mx} {l0 : Launch} (O : Ok M cX12_elders yX12_elders) (R0 : Rm M l0 5 145 0 0) (N : Ma M = false) (hn : Mn M = 6)  (a0 : Nat) (x2 : Int32) (x5 : Int32) (k0 : Int32) (k1 : Int32) (σ : Dt) (o : ((Int32 × Int32) ⊕ Int32)) (h : f_X12_elders_66 a0 x2 x5 k0 k1 σ = some o) (K : kon (P_X12_elders_34 M a0 x2 σ) (E_X12_elders_34 M a0 x2 σ) o) : G M 0 0 66 [(0, vA (some a0)), (2, vI x2), (5, vI x5)] [vI k1, vI k0] SM σ := by
  unfold f_X12_elders_66 at h
  refine g_ior O dX12_elders_66 ?_
  refine g_istore (lv' := [(4, vI (k0 ||| k1)), (0, vA (some a0)), (2, vI x2), (5, vI x5)]) O dX12_elders_67 6 hn (by decide) rfl ?_
  refine g_iinc (v := (x5 + (1 : Int32))) (lv' := [(5, vI (x5 + (1 : Int32))), (4, vI (k0 ||| k1)), (0, vA (some a0)), (2, vI x2)]) O dX12_elders_69 6 hn (by decide) 3 rfl rfl rfl ?_
  refine g_goto O dX12_elders_72 rfl ?_
  refine g_sub [2, 3, 1, 0] (lv' := [(0, vA (some a0)), (2, vI x2), (4, vI (k0 ||| k1)), (5, vI (x5 + (1 : Int32)))]) rfl ?_
  cases h
  exact K
def f_X12_elders_L34 (a0 : Nat) (x2 : Int32) (x4 : Int32) (x5 : Int32) (σ : Dt) : Option ((Int32 × Int32) ⊕ Int32) := bo (xgi SM 12 12 (some a0) σ) fun v1 => if v1 ≤ x5 then some (.inr x4) else bo (xrc SM 12 (some a0)) fun a4 => bo (f_X12_eldersOf a4 x5 σ) fun v6 => bo (f_X12_isAmong v6 x2 σ) fun v8 => if v8 = 0 then f_X12_elders_66 a0 x2 x5 x4 (0 : Int32) σ else f_X12_elders_66 a0 x2 x5 x4 ((1 : Int32) <<< (x5 &&& 31)) σ
theorem t_X12_elders_L34 {M : Mx} {l0 : Launch} (O : Ok M cX12_elders yX12_elders) (R0 : Rm M l0 5 145 0 0) (N : Ma M = false) (hn : Mn M = 6) (a0 : Nat) (x2 : Int32) (x4 : Int32) (x5 : Int32) (σ : Dt) (o : ((Int32 × Int32) ⊕ Int32)) (h : f_X12_elders_L34 a0 x2 x4 x5 σ = some o) (K : kon (P_X12_elders_34 M a0 x2 σ) (E_X12_elders_34 M a0 x2 σ) o) : G M 0 0 34 [(0, vA (some a0)), (2, vI x2), (4, vI x4), (5, vI x5)] [] SM σ := by
  unfold f_X12_elders_L34 at h
  refine g_iload O dX12_elders_34 3 rfl ?_
  refine g_aload_n O dX12_elders_36 rfl 0 rfl ?_
  obtain ⟨v1, e2, h⟩ := bo_some h
  refine g_getI O dX12_elders_37 fl_X12_211 rfl e2 ?_
  refine g_icmp_ge O dX12_elders_40 rfl (fun c3 => ?_) (fun c3 => ?_)
  · replace h := (if_pos c3).symm.trans h
    refine g_sub [2] (lv' := [(4, vI x4)]) rfl ?_
    cases h
    exact K
  · replace h := (if_neg c3).symm.trans h
    refine g_iload O dX12_elders_43 2 rfl ?_
    refine g_aload_n O dX12_elders_45 rfl 0 rfl ?_
    refine g_iload O dX12_elders_46 3 rfl ?_
    obtain ⟨a4, e5, h⟩ := bo_some h
    obtain ⟨v6, e7, h⟩ := bo_some h
    refine g_cV1 O R0 N dX12_elders_48 vl_X12_337 vv_X12_eldersOf e5 [vI x5] rfl rfl rfl ⟨Nat.le_of_ble_eq_true rfl, Nat.le_of_ble_eq_true rfl⟩ (c_X12_eldersOf l0 a4 x5 σ v6 e7) ?_
    refine g_iload_n O dX12_elders_51 rfl 1 rfl ?_
    obtain ⟨v8, e9, h⟩ := bo_some h
    refine g_cS1 O R0 N dX12_elders_52 vl_X12_235 w1766 [vI v6, vI x2] rfl rfl rfl ⟨Nat.le_of_ble_eq_true rfl, Nat.le_of_ble_eq_true rfl⟩ (c_X12_isAmong l0 v6 x2 σ v8 e9) ?_
    refine g_if_eq O dX12_elders_55 rfl (fun c10 => ?_) (fun c10 => ?_)
    · replace h := (if_pos c10).symm.trans h
      refine g_iconst (v := (0 : Int32)) O dX12_elders_65 rfl ?_
      refine g_sub [0, 1, 3] (lv' := [(0, vA (some a0)), (2, vI x2), (5, vI x5)]) rfl ?_
      exact t_X12_elders_66 O R0 N hn a0 x2 x5 x4 (0 : Int32) σ o h K
    · replace h := (if_neg c10).symm.trans h
      refine g_iconst (v := (1 : Int32)) O dX12_elders_58 rfl ?_
      refine g_iload O dX12_elders_59 3 rfl ?_
      refine g_ishl O dX12_elders_61 ?_
      refine g_goto O dX12_elders_62 rfl ?_
      refine g_sub [0, 1, 3] (lv' := [(0, vA (some a0)), (2, vI x2), (5, vI x5)]) rfl ?_
      exact t_X12_elders_66 O R0 N hn a0 x2 x5 x4 ((1 : Int32) <<< (x5 &&& 31)) σ o h K
def f_X12_elders (a0 : Nat) (x1 : Int32) (x2 : Int32) (x3 : Int32) (σ : Dt) : Option (Int32 × Dt) := bo (xrc SM 12 (some a0)) fun a1 => bd (f_X12_isValley a1 x1 σ) fun v3 σ4 => if v3 = 0 then some ((-1 : Int32), σ4) else bo (xrc SM 12 (some a0)) fun a7 => bo (f_X12_isFolk a7 x2 σ4) fun v9 => if v9 = 0 then some ((-1 : Int32), σ4) else if x3 = 0 then bo (xrc SM 12 (some a0)) fun a13 => bo (f_X12_eldersOf a13 x2 σ4) fun v15 => some (v15, σ4) else bo (iter FU (fun s => f_X12_elders_L34 a0 x2 s.1 s.2 σ4) ((0 : Int32), (0 : Int32))) fun w17 => some (w17, σ4)
theorem t_X12_elders {M : Mx} {l0 : Launch} (O : Ok M cX12_elders yX12_elders) (R0 : Rm M l0 5 145 0 0) (N : Ma M = false) (hn : Mn M = 6) (a0 : Nat) (x1 : Int32) (x2 : Int32) (x3 : Int32) (σ : Dt) (o : (Int32 × Dt)) (h : f_X12_elders a0 x1 x2 x3 σ = some o) (K : Fin' M (some .int) 0 0 SM o.2 (some (vI o.1))) : G M 0 0 0 [(0, vA (some a0)), (1, vI x1), (2, vI x2), (3, vI x3)] [] SM σ := by
  unfold f_X12_elders at h
  refine g_aload_n O dX12_elders_0 rfl 0 rfl ?_
  refine g_iload_n O dX12_elders_1 rfl 1 rfl ?_
  obtain ⟨a1, e2, h⟩ := bo_some h
  obtain ⟨v3, σ4, e5, h⟩ := bd_some h
  refine g_cV1 O R0 N dX12_elders_2 vl_X12_220 vv_X12_isValley e2 [vI x1] rfl rfl rfl ⟨Nat.le_of_ble_eq_true rfl, Nat.le_of_ble_eq_true rfl⟩ (c_X12_isValley l0 a1 x1 σ v3 σ4 e5) ?_
  refine g_if_eq O dX12_elders_5 rfl (fun c6 => ?_) (fun c6 => ?_)
  · replace h := (if_pos c6).symm.trans h
    refine g_iconst (v := (-1 : Int32)) O dX12_elders_16 rfl ?_
    cases h
    exact g_ireturn O K dX12_elders_17
  · replace h := (if_neg c6).symm.trans h
    refine g_aload_n O dX12_elders_8 rfl 0 rfl ?_
    refine g_iload_n O dX12_elders_9 rfl 2 rfl ?_
    obtain ⟨a7, e8, h⟩ := bo_some h
    obtain ⟨v9, e10, h⟩ := bo_some h
    refine g_cV1 O R0 N dX12_elders_10 vl_X12_223 vv_X12_isFolk e8 [vI x2] rfl rfl rfl ⟨Nat.le_of_ble_eq_true rfl, Nat.le_of_ble_eq_true rfl⟩ (c_X12_isFolk l0 a7 x2 σ4 v9 e10) ?_
    refine g_if_ne O dX12_elders_13 rfl (fun c11 => ?_) (fun c11 => ?_)
    · replace h := (if_pos c11).symm.trans h
      refine g_iconst (v := (-1 : Int32)) O dX12_elders_16 rfl ?_
      cases h
      exact g_ireturn O K dX12_elders_17
    · replace h := (if_neg c11).symm.trans h
      refine g_iload_n O dX12_elders_18 rfl 3 rfl ?_
      refine g_if_ne O dX12_elders_19 rfl (fun c12 => ?_) (fun c12 => ?_)
      · replace h := (if_pos c12).symm.trans h
        refine g_aload_n O dX12_elders_22 rfl 0 rfl ?_
        refine g_iload_n O dX12_elders_23 rfl 2 rfl ?_
        obtain ⟨a13, e14, h⟩ := bo_some h
        obtain ⟨v15, e16, h⟩ := bo_some h
        refine g_cV1 O R0 N dX12_elders_24 vl_X12_337 vv_X12_eldersOf e14 [vI x2] rfl rfl rfl ⟨Nat.le_of_ble_eq_true rfl, Nat.le_of_ble_eq_true rfl⟩ (c_X12_eldersOf l0 a13 x2 σ4 v15 e16) ?_
        cases h
        exact g_ireturn O K dX12_elders_27
      · replace h := (if_neg c12).symm.trans h
        refine g_iconst (v := (0 : Int32)) O dX12_elders_28 rfl ?_
        refine g_istore (lv' := [(4, vI (0 : Int32)), (0, vA (some a0)), (1, vI x1), (2, vI x2), (3, vI x3)]) O dX12_elders_29 6 hn (by decide) rfl ?_
        refine g_iconst (v := (0 : Int32)) O dX12_elders_31 rfl ?_
        refine g_istore (lv' := [(5, vI (0 : Int32)), (4, vI (0 : Int32)), (0, vA (some a0)), (1, vI x1), (2, vI x2), (3, vI x3)]) O dX12_elders_32 6 hn (by decide) rfl ?_
        refine g_sub [2, 4, 1, 0] (lv' := [(0, vA (some a0)), (2, vI x2), (4, vI (0 : Int32)), (5, vI (0 : Int32))]) rfl ?_
        obtain ⟨w17, e18, h⟩ := bo_some h
        refine iter_G (P := P_X12_elders_34 M a0 x2 σ4) (E := E_X12_elders_34 M a0 x2 σ4) (fun s o hb hk => t_X12_elders_L34 O R0 N hn a0 x2 s.1 s.2 σ4 o hb hk) FU ((0 : Int32), (0 : Int32)) w17 e18 ?_
        show G M 0 0 75 [(4, vI w17)] [] SM σ4
        refine g_iload O dX12_elders_75 0 rfl ?_
        cases h
        exact g_ireturn O K dX12_elders_77
theorem c_X12_elders (l0 : Launch) (a0 : Nat) (x1 : Int32) (x2 : Int32) (x3 : Int32) (σ : Dt) (r : Int32) (σ' : Dt) (h : f_X12_elders a0 x1 x2 x3 σ = some (r, σ')) : Ctr l0 yX12_elders cX12_elders 6 (some .int) false 5 145 0 0 [vA (some a0), vI x1, vI x2, vI x3] SM σ SM σ' (some (vI r)) := ctr_of (by decide) (Nat.le_of_ble_eq_true rfl) (fun M O F R0 N hn => t_X12_elders O R0 N hn a0 x1 x2 x3 σ (r, σ') h F)
def P_X12_nextTo_4 (M : Mx) (a0 : Nat) (x1 : Int32) (σ : Dt) (s : (Int32 × Int32)) : Prop := G M 0 0 4 [(0, vA (some a0)), (1, vI x1), (2, vI s.1), (3, vI s.2)] [] SM σ
def E_X12_nextTo_4 (M : Mx) (a0 : Nat) (x1 : Int32) (σ : Dt) : Int32 → Prop := (fun w => G M 0 0 50 [(2, vI w)] [] SM σ)
def f_X12_nextTo_44 (a0 : Nat) (x1 : Int32) (x2 : Int32) (x3 : Int32) (σ : Dt) : Option ((Int32 × Int32) ⊕ Int32) := some (.inl (x2, (x3 + (1 : Int32))))
theorem t_X12_nextTo_44 {M : Mx} {l0 : Launch} (O : Ok M cX12_nextTo yX12_nextTo) (R0 : Rm M l0 3 101 0 0) (N : Ma M = false) (hn : Mn M = 4)  (a0 : Nat) (x1 : Int32) (x2 : Int32) (x3 : Int32) (σ : Dt) (o : ((Int32 × Int32) ⊕ Int32)) (h : f_X12_nextTo_44 a0 x1 x2 x3 σ = some o) (K : kon (P_X12_nextTo_4 M a0 x1 σ) (E_X12_nextTo_4 M a0 x1 σ) o) : G M 0 0 44 [(0, vA (some a0)), (1, vI x1), (2, vI x2), (3, vI x3)] [] SM σ := by
  unfold f_X12_nextTo_44 at h
  refine g_iinc (v := (x3 + (1 : Int32))) (lv' := [(3, vI (x3 + (1 : Int32))), (0, vA (some a0)), (1, vI x1), (2, vI x2)]) O dX12_nextTo_44 4 hn (by decide) 3 rfl rfl rfl ?_
  refine g_goto O dX12_nextTo_47 rfl ?_
  refine g_sub [1, 2, 3, 0] (lv' := [(0, vA (some a0)), (1, vI x1), (2, vI x2), (3, vI (x3 + (1 : Int32)))]) rfl ?_
  cases h
  exact K
def f_X12_nextTo_28 (a0 : Nat) (x1 : Int32) (x2 : Int32) (x3 : Int32) (σ : Dt) : Option ((Int32 × Int32) ⊕ Int32) := bo (xrc SM 12 (some a0)) fun a1 => bo (f_X12_parentsOf a1 x3 σ) fun v3 => if (v3 &&& x1) = 0 then f_X12_nextTo_44 a0 x1 x2 x3 σ else f_X12_nextTo_44 a0 x1 (x2 ||| ((1 : Int32) <<< (x3 &&& 31))) x3 σ
theorem t_X12_nextTo_28 {M : Mx} {l0 : Launch} (O : Ok M cX12_nextTo yX12_nextTo) (R0 : Rm M l0 3 101 0 0) (N : Ma M = false) (hn : Mn M = 4)  (a0 : Nat) (x1 : Int32) (x2 : Int32) (x3 : Int32) (σ : Dt) (o : ((Int32 × Int32) ⊕ Int32)) (h : f_X12_nextTo_28 a0 x1 x2 x3 σ = some o) (K : kon (P_X12_nextTo_4 M a0 x1 σ) (E_X12_nextTo_4 M a0 x1 σ) o) : G M 0 0 28 [(0, vA (some a0)), (1, vI x1), (2, vI x2), (3, vI x3)] [] SM σ := by
  unfold f_X12_nextTo_28 at h
  refine g_aload_n O dX12_nextTo_28 rfl 0 rfl ?_
  refine g_iload_n O dX12_nextTo_29 rfl 3 rfl ?_
  obtain ⟨a1, e2, h⟩ := bo_some h
  obtain ⟨v3, e4, h⟩ := bo_some h
  refine g_cV1 O R0 N dX12_nextTo_30 vl_X12_319 vv_X12_parentsOf e2 [vI x3] rfl rfl rfl ⟨Nat.le_of_ble_eq_true rfl, Nat.le_of_ble_eq_true rfl⟩ (c_X12_parentsOf l0 a1 x3 σ v3 e4) ?_
  refine g_iload_n O dX12_nextTo_33 rfl 1 rfl ?_
  refine g_iand O dX12_nextTo_34 ?_
  refine g_if_eq O dX12_nextTo_35 rfl (fun c5 => ?_) (fun c5 => ?_)
  · replace h := (if_pos c5).symm.trans h
    exact t_X12_nextTo_44 O R0 N hn a0 x1 x2 x3 σ o h K
  · replace h := (if_neg c5).symm.trans h
    refine g_iload_n O dX12_nextTo_38 rfl 2 rfl ?_
    refine g_iconst (v := (1 : Int32)) O dX12_nextTo_39 rfl ?_
    refine g_iload_n O dX12_nextTo_40 rfl 3 rfl ?_
    refine g_ishl O dX12_nextTo_41 ?_
    refine g_ior O dX12_nextTo_42 ?_
    refine g_istore_n (lv' := [(2, vI (x2 ||| ((1 : Int32) <<< (x3 &&& 31)))), (0, vA (some a0)), (1, vI x1), (3, vI x3)]) O dX12_nextTo_43 rfl 4 hn (by decide) rfl ?_
    refine g_sub [1, 2, 0, 3] (lv' := [(0, vA (some a0)), (1, vI x1), (2, vI (x2 ||| ((1 : Int32) <<< (x3 &&& 31)))), (3, vI x3)]) rfl ?_
    exact t_X12_nextTo_44 O R0 N hn a0 x1 (x2 ||| ((1 : Int32) <<< (x3 &&& 31))) x3 σ o h K
def f_X12_nextTo_L4 (a0 : Nat) (x1 : Int32) (x2 : Int32) (x3 : Int32) (σ : Dt) : Option ((Int32 × Int32) ⊕ Int32) := bo (xgi SM 12 12 (some a0) σ) fun v1 => if v1 ≤ x3 then some (.inr x2) else bo (f_X12_isAmong x1 x3 σ) fun v4 => if v4 = 0 then f_X12_nextTo_28 a0 x1 x2 x3 σ else bo (xrc SM 12 (some a0)) fun a7 => bo (f_X12_parentsOf a7 x3 σ) fun v9 => f_X12_nextTo_28 a0 x1 (x2 ||| v9) x3 σ
theorem t_X12_nextTo_L4 {M : Mx} {l0 : Launch} (O : Ok M cX12_nextTo yX12_nextTo) (R0 : Rm M l0 3 101 0 0) (N : Ma M = false) (hn : Mn M = 4) (a0 : Nat) (x1 : Int32) (x2 : Int32) (x3 : Int32) (σ : Dt) (o : ((Int32 × Int32) ⊕ Int32)) (h : f_X12_nextTo_L4 a0 x1 x2 x3 σ = some o) (K : kon (P_X12_nextTo_4 M a0 x1 σ) (E_X12_nextTo_4 M a0 x1 σ) o) : G M 0 0 4 [(0, vA (some a0)), (1, vI x1), (2, vI x2), (3, vI x3)] [] SM σ := by
  unfold f_X12_nextTo_L4 at h
  refine g_iload_n O dX12_nextTo_4 rfl 3 rfl ?_
  refine g_aload_n O dX12_nextTo_5 rfl 0 rfl ?_
  obtain ⟨v1, e2, h⟩ := bo_some h
  refine g_getI O dX12_nextTo_6 fl_X12_211 rfl e2 ?_
  refine g_icmp_ge O dX12_nextTo_9 rfl (fun c3 => ?_) (fun c3 => ?_)
  · replace h := (if_pos c3).symm.trans h
    refine g_sub [2] (lv' := [(2, vI x2)]) rfl ?_
    cases h
    exact K
  · replace h := (if_neg c3).symm.trans h
    refine g_iload_n O dX12_nextTo_12 rfl 1 rfl ?_
    refine g_iload_n O dX12_nextTo_13 rfl 3 rfl ?_
    obtain ⟨v4, e5, h⟩ := bo_some h
    refine g_cS1 O R0 N dX12_nextTo_14 vl_X12_235 w1766 [vI x1, vI x3] rfl rfl rfl ⟨Nat.le_of_ble_eq_true rfl, Nat.le_of_ble_eq_true rfl⟩ (c_X12_isAmong l0 x1 x3 σ v4 e5) ?_
    refine g_if_eq O dX12_nextTo_17 rfl (fun c6 => ?_) (fun c6 => ?_)
    · replace h := (if_pos c6).symm.trans h
      exact t_X12_nextTo_28 O R0 N hn a0 x1 x2 x3 σ o h K
    · replace h := (if_neg c6).symm.trans h
      refine g_iload_n O dX12_nextTo_20 rfl 2 rfl ?_
      refine g_aload_n O dX12_nextTo_21 rfl 0 rfl ?_
      refine g_iload_n O dX12_nextTo_22 rfl 3 rfl ?_
      obtain ⟨a7, e8, h⟩ := bo_some h
      obtain ⟨v9, e10, h⟩ := bo_some h
      refine g_cV1 O R0 N dX12_nextTo_23 vl_X12_319 vv_X12_parentsOf e8 [vI x3] rfl rfl rfl ⟨Nat.le_of_ble_eq_true rfl, Nat.le_of_ble_eq_true rfl⟩ (c_X12_parentsOf l0 a7 x3 σ v9 e10) ?_
      refine g_ior O dX12_nextTo_26 ?_
      refine g_istore_n (lv' := [(2, vI (x2 ||| v9)), (0, vA (some a0)), (1, vI x1), (3, vI x3)]) O dX12_nextTo_27 rfl 4 hn (by decide) rfl ?_
      refine g_sub [1, 2, 0, 3] (lv' := [(0, vA (some a0)), (1, vI x1), (2, vI (x2 ||| v9)), (3, vI x3)]) rfl ?_
      exact t_X12_nextTo_28 O R0 N hn a0 x1 (x2 ||| v9) x3 σ o h K
def f_X12_nextTo (a0 : Nat) (x1 : Int32) (σ : Dt) : Option Int32 := bo (iter FU (fun s => f_X12_nextTo_L4 a0 x1 s.1 s.2 σ) ((0 : Int32), (0 : Int32))) fun w1 => some w1
theorem t_X12_nextTo {M : Mx} {l0 : Launch} (O : Ok M cX12_nextTo yX12_nextTo) (R0 : Rm M l0 3 101 0 0) (N : Ma M = false) (hn : Mn M = 4) (a0 : Nat) (x1 : Int32) (σ : Dt) (o : Int32) (h : f_X12_nextTo a0 x1 σ = some o) (K : Fin' M (some .int) 0 0 SM σ (some (vI o))) : G M 0 0 0 [(0, vA (some a0)), (1, vI x1)] [] SM σ := by
  unfold f_X12_nextTo at h
  refine g_iconst (v := (0 : Int32)) O dX12_nextTo_0 rfl ?_
  refine g_istore_n (lv' := [(2, vI (0 : Int32)), (0, vA (some a0)), (1, vI x1)]) O dX12_nextTo_1 rfl 4 hn (by decide) rfl ?_
  refine g_iconst (v := (0 : Int32)) O dX12_nextTo_2 rfl ?_
  refine g_istore_n (lv' := [(3, vI (0 : Int32)), (2, vI (0 : Int32)), (0, vA (some a0)), (1, vI x1)]) O dX12_nextTo_3 rfl 4 hn (by decide) rfl ?_
  refine g_sub [2, 3, 1, 0] (lv' := [(0, vA (some a0)), (1, vI x1), (2, vI (0 : Int32)), (3, vI (0 : Int32))]) rfl ?_
  obtain ⟨w1, e2, h⟩ := bo_some h
  refine iter_G (P := P_X12_nextTo_4 M a0 x1 σ) (E := E_X12_nextTo_4 M a0 x1 σ) (fun s o hb hk => t_X12_nextTo_L4 O R0 N hn a0 x1 s.1 s.2 σ o hb hk) FU ((0 : Int32), (0 : Int32)) w1 e2 ?_
  show G M 0 0 50 [(2, vI w1)] [] SM σ
  refine g_iload_n O dX12_nextTo_50 rfl 0 rfl ?_
  cases h
  exact g_ireturn O K dX12_nextTo_51
theorem c_X12_nextTo (l0 : Launch) (a0 : Nat) (x1 : Int32) (σ : Dt) (r : Int32) (h : f_X12_nextTo a0 x1 σ = some r) : Ctr l0 yX12_nextTo cX12_nextTo 4 (some .int) false 3 101 0 0 [vA (some a0), vI x1] SM σ SM σ (some (vI r)) := ctr_of (by decide) (Nat.le_of_ble_eq_true rfl) (fun M O F R0 N hn => t_X12_nextTo O R0 N hn a0 x1 σ r h F)
def P_X12_apart_34 (M : Mx) (a0 : Nat) (x3 : Int32) (σ : Dt) (s : (Int32 × Int32)) : Prop := G M 0 0 34 [(0, vA (some a0)), (3, vI x3), (4, vI s.1), (5, vI s.2)] [] SM σ
def E_X12_apart_34 (M : Mx) (a0 : Nat) (x3 : Int32) (σ : Dt) : (Int32 ⊕ Unit) → Prop := (el (fun w => G M 0 0 50 [(5, vI w)] [] SM σ) (fun w => G M 0 0 70 [] [] SM σ))
def f_X12_apart_L34 (a0 : Nat) (x3 : Int32) (x4 : Int32) (x5 : Int32) (σ : Dt) : Option ((Int32 × Int32) ⊕ (Int32 ⊕ Unit)) := if (10 : Int32) ≤ x5 then some (.inr (.inr ())) else bo (f_X12_isAmong x4 x3 σ) fun v2 => if v2 = 0 then bo (xrc SM 12 (some a0)) fun a5 => bo (f_X12_nextTo a5 x4 σ) fun v7 => some (.inl ((x4 ||| v7), (x5 + (1 : Int32)))) else some (.inr (.inl x5))
theorem t_X12_apart_L34 {M : Mx} {l0 : Launch} (O : Ok M cX12_apart yX12_apart) (R0 : Rm M l0 5 145 0 0) (N : Ma M = false) (hn : Mn M = 6) (a0 : Nat) (x3 : Int32) (x4 : Int32) (x5 : Int32) (σ : Dt) (o : ((Int32 × Int32) ⊕ (Int32 ⊕ Unit))) (h : f_X12_apart_L34 a0 x3 x4 x5 σ = some o) (K : kon (P_X12_apart_34 M a0 x3 σ) (E_X12_apart_34 M a0 x3 σ) o) : G M 0 0 34 [(0, vA (some a0)), (3, vI x3), (4, vI x4), (5, vI x5)] [] SM σ := by
  unfold f_X12_apart_L34 at h
  refine g_iload O dX12_apart_34 3 rfl ?_
  refine g_bipush (v := (10 : Int32)) O dX12_apart_36 rfl ?_
  refine g_icmp_ge O dX12_apart_38 rfl (fun c1 => ?_) (fun c1 => ?_)
  · replace h := (if_pos c1).symm.trans h
    refine g_sub [] (lv' := []) rfl ?_
    cases h
    exact K
  · replace h := (if_neg c1).symm.trans h
    refine g_iload O dX12_apart_41 2 rfl ?_
    refine g_iload_n O dX12_apart_43 rfl 1 rfl ?_
    obtain ⟨v2, e3, h⟩ := bo_some h
    refine g_cS1 O R0 N dX12_apart_44 vl_X12_235 w1766 [vI x4, vI x3] rfl rfl rfl ⟨Nat.le_of_ble_eq_true rfl, Nat.le_of_ble_eq_true rfl⟩ (c_X12_isAmong l0 x4 x3 σ v2 e3) ?_
    refine g_if_eq O dX12_apart_47 rfl (fun c4 => ?_) (fun c4 => ?_)
    · replace h := (if_pos c4).symm.trans h
      refine g_iload O dX12_apart_53 2 rfl ?_
      refine g_aload_n O dX12_apart_55 rfl 0 rfl ?_
      refine g_iload O dX12_apart_56 2 rfl ?_
      obtain ⟨a5, e6, h⟩ := bo_some h
      obtain ⟨v7, e8, h⟩ := bo_some h
      refine g_cV1 O R0 N dX12_apart_58 vl_X12_340 vv_X12_nextTo e6 [vI x4] rfl rfl rfl ⟨Nat.le_of_ble_eq_true rfl, Nat.le_of_ble_eq_true rfl⟩ (c_X12_nextTo l0 a5 x4 σ v7 e8) ?_
      refine g_ior O dX12_apart_61 ?_
      refine g_istore (lv' := [(4, vI (x4 ||| v7)), (0, vA (some a0)), (3, vI x3), (5, vI x5)]) O dX12_apart_62 6 hn (by decide) rfl ?_
      refine g_iinc (v := (x5 + (1 : Int32))) (lv' := [(5, vI (x5 + (1 : Int32))), (4, vI (x4 ||| v7)), (0, vA (some a0)), (3, vI x3)]) O dX12_apart_64 6 hn (by decide) 3 rfl rfl rfl ?_
      refine g_goto O dX12_apart_67 rfl ?_
      refine g_sub [2, 3, 1, 0] (lv' := [(0, vA (some a0)), (3, vI x3), (4, vI (x4 ||| v7)), (5, vI (x5 + (1 : Int32)))]) rfl ?_
      cases h
      exact K
    · replace h := (if_neg c4).symm.trans h
      refine g_sub [3] (lv' := [(5, vI x5)]) rfl ?_
      cases h
      exact K
def f_X12_apart (a0 : Nat) (x1 : Int32) (x2 : Int32) (x3 : Int32) (σ : Dt) : Option (Int32 × Dt) := bo (xrc SM 12 (some a0)) fun a1 => bd (f_X12_isValley a1 x1 σ) fun v3 σ4 => if v3 = 0 then some ((-1 : Int32), σ4) else bo (xrc SM 12 (some a0)) fun a7 => bo (f_X12_isFolk a7 x2 σ4) fun v9 => if v9 = 0 then some ((-1 : Int32), σ4) else bo (xrc SM 12 (some a0)) fun a12 => bo (f_X12_isFolk a12 x3 σ4) fun v14 => if v14 = 0 then some ((-1 : Int32), σ4) else bo (iter FU (fun s => f_X12_apart_L34 a0 x3 s.1 s.2 σ4) (((1 : Int32) <<< (x2 &&& 31)), (0 : Int32))) fun w17 => el (fun w19 => some (w19, σ4)) (fun w19 => some ((-1 : Int32), σ4)) w17
theorem t_X12_apart {M : Mx} {l0 : Launch} (O : Ok M cX12_apart yX12_apart) (R0 : Rm M l0 5 145 0 0) (N : Ma M = false) (hn : Mn M = 6) (a0 : Nat) (x1 : Int32) (x2 : Int32) (x3 : Int32) (σ : Dt) (o : (Int32 × Dt)) (h : f_X12_apart a0 x1 x2 x3 σ = some o) (K : Fin' M (some .int) 0 0 SM o.2 (some (vI o.1))) : G M 0 0 0 [(0, vA (some a0)), (1, vI x1), (2, vI x2), (3, vI x3)] [] SM σ := by
  unfold f_X12_apart at h
  refine g_aload_n O dX12_apart_0 rfl 0 rfl ?_
  refine g_iload_n O dX12_apart_1 rfl 1 rfl ?_
  obtain ⟨a1, e2, h⟩ := bo_some h
  obtain ⟨v3, σ4, e5, h⟩ := bd_some h
  refine g_cV1 O R0 N dX12_apart_2 vl_X12_220 vv_X12_isValley e2 [vI x1] rfl rfl rfl ⟨Nat.le_of_ble_eq_true rfl, Nat.le_of_ble_eq_true rfl⟩ (c_X12_isValley l0 a1 x1 σ v3 σ4 e5) ?_
  refine g_if_eq O dX12_apart_5 rfl (fun c6 => ?_) (fun c6 => ?_)
  · replace h := (if_pos c6).symm.trans h
    refine g_iconst (v := (-1 : Int32)) O dX12_apart_24 rfl ?_
    cases h
    exact g_ireturn O K dX12_apart_25
  · replace h := (if_neg c6).symm.trans h
    refine g_aload_n O dX12_apart_8 rfl 0 rfl ?_
    refine g_iload_n O dX12_apart_9 rfl 2 rfl ?_
    obtain ⟨a7, e8, h⟩ := bo_some h
    obtain ⟨v9, e10, h⟩ := bo_some h
    refine g_cV1 O R0 N dX12_apart_10 vl_X12_223 vv_X12_isFolk e8 [vI x2] rfl rfl rfl ⟨Nat.le_of_ble_eq_true rfl, Nat.le_of_ble_eq_true rfl⟩ (c_X12_isFolk l0 a7 x2 σ4 v9 e10) ?_
    refine g_if_eq O dX12_apart_13 rfl (fun c11 => ?_) (fun c11 => ?_)
    · replace h := (if_pos c11).symm.trans h
      refine g_iconst (v := (-1 : Int32)) O dX12_apart_24 rfl ?_
      cases h
      exact g_ireturn O K dX12_apart_25
    · replace h := (if_neg c11).symm.trans h
      refine g_aload_n O dX12_apart_16 rfl 0 rfl ?_
      refine g_iload_n O dX12_apart_17 rfl 3 rfl ?_
      obtain ⟨a12, e13, h⟩ := bo_some h
      obtain ⟨v14, e15, h⟩ := bo_some h
      refine g_cV1 O R0 N dX12_apart_18 vl_X12_223 vv_X12_isFolk e13 [vI x3] rfl rfl rfl ⟨Nat.le_of_ble_eq_true rfl, Nat.le_of_ble_eq_true rfl⟩ (c_X12_isFolk l0 a12 x3 σ4 v14 e15) ?_
      refine g_if_ne O dX12_apart_21 rfl (fun c16 => ?_) (fun c16 => ?_)
      · replace h := (if_pos c16).symm.trans h
        refine g_iconst (v := (-1 : Int32)) O dX12_apart_24 rfl ?_
        cases h
        exact g_ireturn O K dX12_apart_25
      · replace h := (if_neg c16).symm.trans h
        refine g_iconst (v := (1 : Int32)) O dX12_apart_26 rfl ?_
        refine g_iload_n O dX12_apart_27 rfl 2 rfl ?_
        refine g_ishl O dX12_apart_28 ?_
        refine g_istore (lv' := [(4, vI ((1 : Int32) <<< (x2 &&& 31))), (0, vA (some a0)), (1, vI x1), (2, vI x2), (3, vI x3)]) O dX12_apart_29 6 hn (by decide) rfl ?_
        refine g_iconst (v := (0 : Int32)) O dX12_apart_31 rfl ?_
        refine g_istore (lv' := [(5, vI (0 : Int32)), (4, vI ((1 : Int32) <<< (x2 &&& 31))), (0, vA (some a0)), (1, vI x1), (2, vI x2), (3, vI x3)]) O dX12_apart_32 6 hn (by decide) rfl ?_
        refine g_sub [2, 5, 1, 0] (lv' := [(0, vA (some a0)), (3, vI x3), (4, vI ((1 : Int32) <<< (x2 &&& 31))), (5, vI (0 : Int32))]) rfl ?_
        obtain ⟨w17, e18, h⟩ := bo_some h
        refine iter_G (P := P_X12_apart_34 M a0 x3 σ4) (E := E_X12_apart_34 M a0 x3 σ4) (fun s o hb hk => t_X12_apart_L34 O R0 N hn a0 x3 s.1 s.2 σ4 o hb hk) FU (((1 : Int32) <<< (x2 &&& 31)), (0 : Int32)) w17 e18 ?_
        rcases w17 with w19 | w19
        · replace h := el_l h
          show G M 0 0 50 [(5, vI w19)] [] SM σ4
          refine g_iload O dX12_apart_50 0 rfl ?_
          cases h
          exact g_ireturn O K dX12_apart_52
        · replace h := el_r h
          show G M 0 0 70 [] [] SM σ4
          refine g_iconst (v := (-1 : Int32)) O dX12_apart_70 rfl ?_
          cases h
          exact g_ireturn O K dX12_apart_71
theorem c_X12_apart (l0 : Launch) (a0 : Nat) (x1 : Int32) (x2 : Int32) (x3 : Int32) (σ : Dt) (r : Int32) (σ' : Dt) (h : f_X12_apart a0 x1 x2 x3 σ = some (r, σ')) : Ctr l0 yX12_apart cX12_apart 6 (some .int) false 5 145 0 0 [vA (some a0), vI x1, vI x2, vI x3] SM σ SM σ' (some (vI r)) := ctr_of (by decide) (Nat.le_of_ble_eq_true rfl) (fun M O F R0 N hn => t_X12_apart O R0 N hn a0 x1 x2 x3 σ (r, σ') h F)
def P_X12_houseOf_6 (M : Mx) (a0 : Nat) (σ : Dt) (s : (Int32 × Int32)) : Prop := G M 0 0 6 [(0, vA (some a0)), (2, vI s.1), (3, vI s.2)] [] SM σ
def E_X12_houseOf_6 (M : Mx) (a0 : Nat) (σ : Dt) : Int32 → Prop := (fun w => G M 0 0 26 [(2, vI w)] [] SM σ)
def f_X12_houseOf_L6 (a0 : Nat) (x2 : Int32) (x3 : Int32) (σ : Dt) : Option ((Int32 × Int32) ⊕ Int32) := if (10 : Int32) ≤ x3 then some (.inr x2) else bo (xrc SM 12 (some a0)) fun a2 => bo (f_X12_nextTo a2 x2 σ) fun v4 => some (.inl ((x2 ||| v4), (x3 + (1 : Int32))))
theorem t_X12_houseOf_L6 {M : Mx} {l0 : Launch} (O : Ok M cX12_houseOf yX12_houseOf) (R0 : Rm M l0 4 124 0 0) (N : Ma M = false) (hn : Mn M = 4) (a0 : Nat) (x2 : Int32) (x3 : Int32) (σ : Dt) (o : ((Int32 × Int32) ⊕ Int32)) (h : f_X12_houseOf_L6 a0 x2 x3 σ = some o) (K : kon (P_X12_houseOf_6 M a0 σ) (E_X12_houseOf_6 M a0 σ) o) : G M 0 0 6 [(0, vA (some a0)), (2, vI x2), (3, vI x3)] [] SM σ := by
  unfold f_X12_houseOf_L6 at h
  refine g_iload_n O dX12_houseOf_6 rfl 2 rfl ?_
  refine g_bipush (v := (10 : Int32)) O dX12_houseOf_7 rfl ?_
  refine g_icmp_ge O dX12_houseOf_9 rfl (fun c1 => ?_) (fun c1 => ?_)
  · replace h := (if_pos c1).symm.trans h
    refine g_sub [1] (lv' := [(2, vI x2)]) rfl ?_
    cases h
    exact K
  · replace h := (if_neg c1).symm.trans h
    refine g_iload_n O dX12_houseOf_12 rfl 1 rfl ?_
    refine g_aload_n O dX12_houseOf_13 rfl 0 rfl ?_
    refine g_iload_n O dX12_houseOf_14 rfl 1 rfl ?_
    obtain ⟨a2, e3, h⟩ := bo_some h
    obtain ⟨v4, e5, h⟩ := bo_some h
    refine g_cV1 O R0 N dX12_houseOf_15 vl_X12_340 vv_X12_nextTo e3 [vI x2] rfl rfl rfl ⟨Nat.le_of_ble_eq_true rfl, Nat.le_of_ble_eq_true rfl⟩ (c_X12_nextTo l0 a2 x2 σ v4 e5) ?_
    refine g_ior O dX12_houseOf_18 ?_
    refine g_istore_n (lv' := [(2, vI (x2 ||| v4)), (0, vA (some a0)), (3, vI x3)]) O dX12_houseOf_19 rfl 4 hn (by decide) rfl ?_
    refine g_iinc (v := (x3 + (1 : Int32))) (lv' := [(3, vI (x3 + (1 : Int32))), (2, vI (x2 ||| v4)), (0, vA (some a0))]) O dX12_houseOf_20 4 hn (by decide) 2 rfl rfl rfl ?_
    refine g_goto O dX12_houseOf_23 rfl ?_
    refine g_sub [2, 1, 0] (lv' := [(0, vA (some a0)), (2, vI (x2 ||| v4)), (3, vI (x3 + (1 : Int32)))]) rfl ?_
    cases h
    exact K
def f_X12_houseOf (a0 : Nat) (x1 : Int32) (σ : Dt) : Option Int32 := bo (iter FU (fun s => f_X12_houseOf_L6 a0 s.1 s.2 σ) (((1 : Int32) <<< (x1 &&& 31)), (0 : Int32))) fun w1 => some w1
theorem t_X12_houseOf {M : Mx} {l0 : Launch} (O : Ok M cX12_houseOf yX12_houseOf) (R0 : Rm M l0 4 124 0 0) (N : Ma M = false) (hn : Mn M = 4) (a0 : Nat) (x1 : Int32) (σ : Dt) (o : Int32) (h : f_X12_houseOf a0 x1 σ = some o) (K : Fin' M (some .int) 0 0 SM σ (some (vI o))) : G M 0 0 0 [(0, vA (some a0)), (1, vI x1)] [] SM σ := by
  unfold f_X12_houseOf at h
  refine g_iconst (v := (1 : Int32)) O dX12_houseOf_0 rfl ?_
  refine g_iload_n O dX12_houseOf_1 rfl 1 rfl ?_
  refine g_ishl O dX12_houseOf_2 ?_
  refine g_istore_n (lv' := [(2, vI ((1 : Int32) <<< (x1 &&& 31))), (0, vA (some a0)), (1, vI x1)]) O dX12_houseOf_3 rfl 4 hn (by decide) rfl ?_
  refine g_iconst (v := (0 : Int32)) O dX12_houseOf_4 rfl ?_
  refine g_istore_n (lv' := [(3, vI (0 : Int32)), (2, vI ((1 : Int32) <<< (x1 &&& 31))), (0, vA (some a0)), (1, vI x1)]) O dX12_houseOf_5 rfl 4 hn (by decide) rfl ?_
  refine g_sub [2, 1, 0] (lv' := [(0, vA (some a0)), (2, vI ((1 : Int32) <<< (x1 &&& 31))), (3, vI (0 : Int32))]) rfl ?_
  obtain ⟨w1, e2, h⟩ := bo_some h
  refine iter_G (P := P_X12_houseOf_6 M a0 σ) (E := E_X12_houseOf_6 M a0 σ) (fun s o hb hk => t_X12_houseOf_L6 O R0 N hn a0 s.1 s.2 σ o hb hk) FU (((1 : Int32) <<< (x1 &&& 31)), (0 : Int32)) w1 e2 ?_
  show G M 0 0 26 [(2, vI w1)] [] SM σ
  refine g_iload_n O dX12_houseOf_26 rfl 0 rfl ?_
  cases h
  exact g_ireturn O K dX12_houseOf_27
theorem c_X12_houseOf (l0 : Launch) (a0 : Nat) (x1 : Int32) (σ : Dt) (r : Int32) (h : f_X12_houseOf a0 x1 σ = some r) : Ctr l0 yX12_houseOf cX12_houseOf 4 (some .int) false 4 124 0 0 [vA (some a0), vI x1] SM σ SM σ (some (vI r)) := ctr_of (by decide) (Nat.le_of_ble_eq_true rfl) (fun M O F R0 N hn => t_X12_houseOf O R0 N hn a0 x1 σ r h F)
