def P_X12_advance_0 (M : Mx) (a0 : Nat) (s : Dt) : Prop := G M 0 0 0 [(0, vA (some a0))] [] SM s
def E_X12_advance_0 (M : Mx) (a0 : Nat) : Dt → Prop := (fun w => G M 0 0 39 [(0, vA (some a0))] [] SM w)
def f_X12_advance_26 (a0 : Nat) (σ : Dt) : Option (Dt ⊕ Dt) := bo (xgi SM 12 3 (some a0) σ) fun v1 => bo (xpi SM 12 3 (some a0) (v1 + (1 : Int32)) σ) fun σ3 => some (.inl σ3)
theorem t_X12_advance_26 {M : Mx} {l0 : Launch} (O : Ok M cX12_advance yX12_advance) (R0 : Rm M l0 5 151 0 0) (N : Ma M = false) (hn : Mn M = 4)  (a0 : Nat) (σ : Dt) (o : (Dt ⊕ Dt)) (h : f_X12_advance_26 a0 σ = some o) (K : kon (P_X12_advance_0 M a0) (E_X12_advance_0 M a0) o) : G M 0 0 26 [(0, vA (some a0))] [] SM σ := by
  unfold f_X12_advance_26 at h
  refine g_aload_n O dX12_advance_26 rfl 0 rfl ?_
  refine g_dup O dX12_advance_27 rfl ?_
  obtain ⟨v1, e2, h⟩ := bo_some h
  refine g_getI O dX12_advance_28 fl_X12_105 rfl e2 ?_
  refine g_iconst (v := (1 : Int32)) O dX12_advance_31 rfl ?_
  refine g_iadd O dX12_advance_32 ?_
  obtain ⟨σ3, e4, h⟩ := bo_some h
  refine g_putI O dX12_advance_33 fl_X12_105 (Or.inl rfl) rfl e4 ?_
  refine g_goto O dX12_advance_36 rfl ?_
  cases h
  exact K
def f_X12_advance_L0 (a0 : Nat) (σ : Dt) : Option (Dt ⊕ Dt) := bo (xgi SM 12 3 (some a0) σ) fun v1 => bo (xrc SM 12 (some a0)) fun a3 => bo (f_X12_byteAt a3 v1 σ) fun v5 => if v5 = (10 : Int32) then f_X12_advance_26 a0 σ else bo (xgi SM 12 3 (some a0) σ) fun v8 => bo (xrc SM 12 (some a0)) fun a10 => bo (f_X12_byteAt a10 v8 σ) fun v12 => if v12 = (32 : Int32) then f_X12_advance_26 a0 σ else some (.inr σ)
theorem t_X12_advance_L0 {M : Mx} {l0 : Launch} (O : Ok M cX12_advance yX12_advance) (R0 : Rm M l0 5 151 0 0) (N : Ma M = false) (hn : Mn M = 4) (a0 : Nat) (σ : Dt) (o : (Dt ⊕ Dt)) (h : f_X12_advance_L0 a0 σ = some o) (K : kon (P_X12_advance_0 M a0) (E_X12_advance_0 M a0) o) : G M 0 0 0 [(0, vA (some a0))] [] SM σ := by
  unfold f_X12_advance_L0 at h
  refine g_aload_n O dX12_advance_0 rfl 0 rfl ?_
  refine g_aload_n O dX12_advance_1 rfl 0 rfl ?_
  obtain ⟨v1, e2, h⟩ := bo_some h
  refine g_getI O dX12_advance_2 fl_X12_105 rfl e2 ?_
  obtain ⟨a3, e4, h⟩ := bo_some h
  obtain ⟨v5, e6, h⟩ := bo_some h
  refine g_cV1 O R0 N dX12_advance_5 vl_X12_108 vv_X12_byteAt e4 [vI v1] rfl rfl rfl ⟨Nat.le_of_ble_eq_true rfl, Nat.le_of_ble_eq_true rfl⟩ (c_X12_byteAt l0 a3 v1 σ v5 e6) ?_
  refine g_bipush (v := (10 : Int32)) O dX12_advance_8 rfl ?_
  refine g_icmp_eq O dX12_advance_10 rfl (fun c7 => ?_) (fun c7 => ?_)
  · replace h := (if_pos c7).symm.trans h
    exact t_X12_advance_26 O R0 N hn a0 σ o h K
  · replace h := (if_neg c7).symm.trans h
    refine g_aload_n O dX12_advance_13 rfl 0 rfl ?_
    refine g_aload_n O dX12_advance_14 rfl 0 rfl ?_
    obtain ⟨v8, e9, h⟩ := bo_some h
    refine g_getI O dX12_advance_15 fl_X12_105 rfl e9 ?_
    obtain ⟨a10, e11, h⟩ := bo_some h
    obtain ⟨v12, e13, h⟩ := bo_some h
    refine g_cV1 O R0 N dX12_advance_18 vl_X12_108 vv_X12_byteAt e11 [vI v8] rfl rfl rfl ⟨Nat.le_of_ble_eq_true rfl, Nat.le_of_ble_eq_true rfl⟩ (c_X12_byteAt l0 a10 v8 σ v12 e13) ?_
    refine g_bipush (v := (32 : Int32)) O dX12_advance_21 rfl ?_
    refine g_icmp_ne O dX12_advance_23 rfl (fun c14 => ?_) (fun c14 => ?_)
    · replace h := (if_pos c14).symm.trans h
      exact t_X12_advance_26 O R0 N hn a0 σ o h K
    · replace h := (if_neg c14).symm.trans h
      cases h
      exact K
def P_X12_advance_77 (M : Mx) (a0 : Nat) (s : (Int64 × Dt)) : Prop := G M 0 0 77 [(0, vA (some a0)), (2, vJ s.1)] [] SM s.2
def E_X12_advance_77 (M : Mx) (a0 : Nat) : (Int64 × Dt) → Prop := (fun w => G M 0 0 138 [(0, vA (some a0)), (2, vJ w.1)] [] SM w.2)
def f_X12_advance_125 (a0 : Nat) (y2 : Int64) (σ : Dt) : Option ((Int64 × Dt) ⊕ (Int64 × Dt)) := bo (xgi SM 12 3 (some a0) σ) fun v1 => bo (xpi SM 12 3 (some a0) (v1 + (1 : Int32)) σ) fun σ3 => some (.inl (y2, σ3))
theorem t_X12_advance_125 {M : Mx} {l0 : Launch} (O : Ok M cX12_advance yX12_advance) (R0 : Rm M l0 5 151 0 0) (N : Ma M = false) (hn : Mn M = 4)  (a0 : Nat) (y2 : Int64) (σ : Dt) (o : ((Int64 × Dt) ⊕ (Int64 × Dt))) (h : f_X12_advance_125 a0 y2 σ = some o) (K : kon (P_X12_advance_77 M a0) (E_X12_advance_77 M a0) o) : G M 0 0 125 [(0, vA (some a0)), (2, vJ y2)] [] SM σ := by
  unfold f_X12_advance_125 at h
  refine g_aload_n O dX12_advance_125 rfl 0 rfl ?_
  refine g_dup O dX12_advance_126 rfl ?_
  obtain ⟨v1, e2, h⟩ := bo_some h
  refine g_getI O dX12_advance_127 fl_X12_105 rfl e2 ?_
  refine g_iconst (v := (1 : Int32)) O dX12_advance_130 rfl ?_
  refine g_iadd O dX12_advance_131 ?_
  obtain ⟨σ3, e4, h⟩ := bo_some h
  refine g_putI O dX12_advance_132 fl_X12_105 (Or.inl rfl) rfl e4 ?_
  refine g_goto O dX12_advance_135 rfl ?_
  cases h
  exact K
def f_X12_advance_L77 (a0 : Nat) (y2 : Int64) (σ : Dt) : Option ((Int64 × Dt) ⊕ (Int64 × Dt)) := bo (xgi SM 12 3 (some a0) σ) fun v1 => bo (xrc SM 12 (some a0)) fun a3 => bo (f_X12_byteAt a3 v1 σ) fun v5 => bo (f_X12_isLetter v5 σ) fun v7 => if v7 = 0 then some (.inr (y2, σ)) else bo (xgi SM 12 3 (some a0) σ) fun v10 => bo (xgi SM 12 4 (some a0) σ) fun v12 => if (8 : Int32) ≤ (v10 - v12) then f_X12_advance_125 a0 y2 σ else bo (xgi SM 12 3 (some a0) σ) fun v15 => bo (xrc SM 12 (some a0)) fun a17 => bo (f_X12_byteAt a17 v15 σ) fun v19 => bo (some ((((32 : Int64) * y2) + (Int32.toInt64 v19)) - (96 : Int64))) fun v21 => f_X12_advance_125 a0 v21 σ
theorem t_X12_advance_L77 {M : Mx} {l0 : Launch} (O : Ok M cX12_advance yX12_advance) (R0 : Rm M l0 5 151 0 0) (N : Ma M = false) (hn : Mn M = 4) (a0 : Nat) (y2 : Int64) (σ : Dt) (o : ((Int64 × Dt) ⊕ (Int64 × Dt))) (h : f_X12_advance_L77 a0 y2 σ = some o) (K : kon (P_X12_advance_77 M a0) (E_X12_advance_77 M a0) o) : G M 0 0 77 [(0, vA (some a0)), (2, vJ y2)] [] SM σ := by
  unfold f_X12_advance_L77 at h
  refine g_aload_n O dX12_advance_77 rfl 0 rfl ?_
  refine g_aload_n O dX12_advance_78 rfl 0 rfl ?_
  obtain ⟨v1, e2, h⟩ := bo_some h
  refine g_getI O dX12_advance_79 fl_X12_105 rfl e2 ?_
  obtain ⟨a3, e4, h⟩ := bo_some h
  obtain ⟨v5, e6, h⟩ := bo_some h
  refine g_cV1 O R0 N dX12_advance_82 vl_X12_108 vv_X12_byteAt e4 [vI v1] rfl rfl rfl ⟨Nat.le_of_ble_eq_true rfl, Nat.le_of_ble_eq_true rfl⟩ (c_X12_byteAt l0 a3 v1 σ v5 e6) ?_
  obtain ⟨v7, e8, h⟩ := bo_some h
  refine g_cS1 O R0 N dX12_advance_85 vl_X12_118 w1631 [vI v5] rfl rfl rfl ⟨Nat.le_of_ble_eq_true rfl, Nat.le_of_ble_eq_true rfl⟩ (c_X12_isLetter l0 v5 σ v7 e8) ?_
  refine g_if_eq O dX12_advance_88 rfl (fun c9 => ?_) (fun c9 => ?_)
  · replace h := (if_pos c9).symm.trans h
    cases h
    exact K
  · replace h := (if_neg c9).symm.trans h
    refine g_aload_n O dX12_advance_91 rfl 0 rfl ?_
    obtain ⟨v10, e11, h⟩ := bo_some h
    refine g_getI O dX12_advance_92 fl_X12_105 rfl e11 ?_
    refine g_aload_n O dX12_advance_95 rfl 0 rfl ?_
    obtain ⟨v12, e13, h⟩ := bo_some h
    refine g_getI O dX12_advance_96 fl_X12_112 rfl e13 ?_
    refine g_isub O dX12_advance_99 ?_
    refine g_bipush (v := (8 : Int32)) O dX12_advance_100 rfl ?_
    refine g_icmp_ge O dX12_advance_102 rfl (fun c14 => ?_) (fun c14 => ?_)
    · replace h := (if_pos c14).symm.trans h
      exact t_X12_advance_125 O R0 N hn a0 y2 σ o h K
    · replace h := (if_neg c14).symm.trans h
      refine g_ldc2 O dX12_advance_105 w1633 ?_
      refine g_lload_n O dX12_advance_108 rfl 1 rfl ?_
      refine g_lmul O dX12_advance_109 ?_
      refine g_aload_n O dX12_advance_110 rfl 0 rfl ?_
      refine g_aload_n O dX12_advance_111 rfl 0 rfl ?_
      obtain ⟨v15, e16, h⟩ := bo_some h
      refine g_getI O dX12_advance_112 fl_X12_105 rfl e16 ?_
      obtain ⟨a17, e18, h⟩ := bo_some h
      obtain ⟨v19, e20, h⟩ := bo_some h
      refine g_cV1 O R0 N dX12_advance_115 vl_X12_108 vv_X12_byteAt e18 [vI v15] rfl rfl rfl ⟨Nat.le_of_ble_eq_true rfl, Nat.le_of_ble_eq_true rfl⟩ (c_X12_byteAt l0 a17 v15 σ v19 e20) ?_
      refine g_i2l O dX12_advance_118 ?_
      refine g_ladd O dX12_advance_119 ?_
      refine g_ldc2 O dX12_advance_120 w1634 ?_
      refine g_lsub O dX12_advance_123 ?_
      obtain ⟨v21, e22, h⟩ := bo_some h
      rw [Option.some.inj e22]
      refine g_lstore_n (lv' := [(2, vJ v21), (0, vA (some a0))]) O dX12_advance_124 rfl 4 hn (by decide) rfl ?_
      refine g_sub [1, 0] (lv' := [(0, vA (some a0)), (2, vJ v21)]) rfl ?_
      exact t_X12_advance_125 O R0 N hn a0 v21 σ o h K
def P_X12_advance_198 (M : Mx) (a0 : Nat) (s : Dt) : Prop := G M 0 0 198 [(0, vA (some a0))] [] SM s
def E_X12_advance_198 (M : Mx) (a0 : Nat) : Dt → Prop := (fun w => G M 0 0 261 [(0, vA (some a0))] [] SM w)
def f_X12_advance_248 (a0 : Nat) (σ : Dt) : Option (Dt ⊕ Dt) := bo (xgi SM 12 3 (some a0) σ) fun v1 => bo (xpi SM 12 3 (some a0) (v1 + (1 : Int32)) σ) fun σ3 => some (.inl σ3)
theorem t_X12_advance_248 {M : Mx} {l0 : Launch} (O : Ok M cX12_advance yX12_advance) (R0 : Rm M l0 5 151 0 0) (N : Ma M = false) (hn : Mn M = 4)  (a0 : Nat) (σ : Dt) (o : (Dt ⊕ Dt)) (h : f_X12_advance_248 a0 σ = some o) (K : kon (P_X12_advance_198 M a0) (E_X12_advance_198 M a0) o) : G M 0 0 248 [(0, vA (some a0))] [] SM σ := by
  unfold f_X12_advance_248 at h
  refine g_aload_n O dX12_advance_248 rfl 0 rfl ?_
  refine g_dup O dX12_advance_249 rfl ?_
  obtain ⟨v1, e2, h⟩ := bo_some h
  refine g_getI O dX12_advance_250 fl_X12_105 rfl e2 ?_
  refine g_iconst (v := (1 : Int32)) O dX12_advance_253 rfl ?_
  refine g_iadd O dX12_advance_254 ?_
  obtain ⟨σ3, e4, h⟩ := bo_some h
  refine g_putI O dX12_advance_255 fl_X12_105 (Or.inl rfl) rfl e4 ?_
  refine g_goto O dX12_advance_258 rfl ?_
  cases h
  exact K
def f_X12_advance_L198 (a0 : Nat) (σ : Dt) : Option (Dt ⊕ Dt) := bo (xgi SM 12 3 (some a0) σ) fun v1 => bo (xrc SM 12 (some a0)) fun a3 => bo (f_X12_byteAt a3 v1 σ) fun v5 => bo (f_X12_isDigit v5 σ) fun v7 => if v7 = 0 then some (.inr σ) else bo (xgi SM 12 3 (some a0) σ) fun v10 => bo (xgi SM 12 4 (some a0) σ) fun v12 => if (2 : Int32) ≤ (v10 - v12) then f_X12_advance_248 a0 σ else bo (xgi SM 12 6 (some a0) σ) fun v15 => bo (xgi SM 12 3 (some a0) σ) fun v17 => bo (xrc SM 12 (some a0)) fun a19 => bo (f_X12_byteAt a19 v17 σ) fun v21 => bo (xpi SM 12 6 (some a0) ((((10 : Int32) * v15) + v21) - (48 : Int32)) σ) fun σ23 => f_X12_advance_248 a0 σ23
theorem t_X12_advance_L198 {M : Mx} {l0 : Launch} (O : Ok M cX12_advance yX12_advance) (R0 : Rm M l0 5 151 0 0) (N : Ma M = false) (hn : Mn M = 4) (a0 : Nat) (σ : Dt) (o : (Dt ⊕ Dt)) (h : f_X12_advance_L198 a0 σ = some o) (K : kon (P_X12_advance_198 M a0) (E_X12_advance_198 M a0) o) : G M 0 0 198 [(0, vA (some a0))] [] SM σ := by
  unfold f_X12_advance_L198 at h
  refine g_aload_n O dX12_advance_198 rfl 0 rfl ?_
  refine g_aload_n O dX12_advance_199 rfl 0 rfl ?_
  obtain ⟨v1, e2, h⟩ := bo_some h
  refine g_getI O dX12_advance_200 fl_X12_105 rfl e2 ?_
  obtain ⟨a3, e4, h⟩ := bo_some h
  obtain ⟨v5, e6, h⟩ := bo_some h
  refine g_cV1 O R0 N dX12_advance_203 vl_X12_108 vv_X12_byteAt e4 [vI v1] rfl rfl rfl ⟨Nat.le_of_ble_eq_true rfl, Nat.le_of_ble_eq_true rfl⟩ (c_X12_byteAt l0 a3 v1 σ v5 e6) ?_
  obtain ⟨v7, e8, h⟩ := bo_some h
  refine g_cS1 O R0 N dX12_advance_206 vl_X12_133 w1646 [vI v5] rfl rfl rfl ⟨Nat.le_of_ble_eq_true rfl, Nat.le_of_ble_eq_true rfl⟩ (c_X12_isDigit l0 v5 σ v7 e8) ?_
  refine g_if_eq O dX12_advance_209 rfl (fun c9 => ?_) (fun c9 => ?_)
  · replace h := (if_pos c9).symm.trans h
    cases h
    exact K
  · replace h := (if_neg c9).symm.trans h
    refine g_aload_n O dX12_advance_212 rfl 0 rfl ?_
    obtain ⟨v10, e11, h⟩ := bo_some h
    refine g_getI O dX12_advance_213 fl_X12_105 rfl e11 ?_
    refine g_aload_n O dX12_advance_216 rfl 0 rfl ?_
    obtain ⟨v12, e13, h⟩ := bo_some h
    refine g_getI O dX12_advance_217 fl_X12_112 rfl e13 ?_
    refine g_isub O dX12_advance_220 ?_
    refine g_iconst (v := (2 : Int32)) O dX12_advance_221 rfl ?_
    refine g_icmp_ge O dX12_advance_222 rfl (fun c14 => ?_) (fun c14 => ?_)
    · replace h := (if_pos c14).symm.trans h
      exact t_X12_advance_248 O R0 N hn a0 σ o h K
    · replace h := (if_neg c14).symm.trans h
      refine g_aload_n O dX12_advance_225 rfl 0 rfl ?_
      refine g_bipush (v := (10 : Int32)) O dX12_advance_226 rfl ?_
      refine g_aload_n O dX12_advance_228 rfl 0 rfl ?_
      obtain ⟨v15, e16, h⟩ := bo_some h
      refine g_getI O dX12_advance_229 fl_X12_136 rfl e16 ?_
      refine g_imul O dX12_advance_232 ?_
      refine g_aload_n O dX12_advance_233 rfl 0 rfl ?_
      refine g_aload_n O dX12_advance_234 rfl 0 rfl ?_
      obtain ⟨v17, e18, h⟩ := bo_some h
      refine g_getI O dX12_advance_235 fl_X12_105 rfl e18 ?_
      obtain ⟨a19, e20, h⟩ := bo_some h
      obtain ⟨v21, e22, h⟩ := bo_some h
      refine g_cV1 O R0 N dX12_advance_238 vl_X12_108 vv_X12_byteAt e20 [vI v17] rfl rfl rfl ⟨Nat.le_of_ble_eq_true rfl, Nat.le_of_ble_eq_true rfl⟩ (c_X12_byteAt l0 a19 v17 σ v21 e22) ?_
      refine g_iadd O dX12_advance_241 ?_
      refine g_bipush (v := (48 : Int32)) O dX12_advance_242 rfl ?_
      refine g_isub O dX12_advance_244 ?_
      obtain ⟨σ23, e24, h⟩ := bo_some h
      refine g_putI O dX12_advance_245 fl_X12_136 (Or.inl rfl) rfl e24 ?_
      exact t_X12_advance_248 O R0 N hn a0 σ23 o h K
def f_X12_advance_308 (k0 : Option Nat) (k1 : Int32) (σ : Dt) : Option (Unit × Dt) := bo (xpi SM 12 5 k0 k1 σ) fun σ1 => some ((), σ1)
theorem t_X12_advance_308 {M : Mx} {l0 : Launch} (O : Ok M cX12_advance yX12_advance) (R0 : Rm M l0 5 151 0 0) (N : Ma M = false) (hn : Mn M = 4)  (k0 : Option Nat) (k1 : Int32) (σ : Dt) (o : (Unit × Dt)) (h : f_X12_advance_308 k0 k1 σ = some o) (K : Fin' M (none) 0 0 SM o.2 (none)) : G M 0 0 308 [] [vI k1, vA k0] SM σ := by
  unfold f_X12_advance_308 at h
  obtain ⟨σ1, e2, h⟩ := bo_some h
  refine g_putI O dX12_advance_308 fl_X12_115 (Or.inl rfl) rfl e2 ?_
  cases h
  exact g_return O K dX12_advance_311
def f_X12_advance_280 (k0 : Option Nat) (k1 : Int32) (σ : Dt) : Option (Unit × Dt) := bo (xpi SM 12 5 k0 k1 σ) fun σ1 => some ((), σ1)
theorem t_X12_advance_280 {M : Mx} {l0 : Launch} (O : Ok M cX12_advance yX12_advance) (R0 : Rm M l0 5 151 0 0) (N : Ma M = false) (hn : Mn M = 4)  (k0 : Option Nat) (k1 : Int32) (σ : Dt) (o : (Unit × Dt)) (h : f_X12_advance_280 k0 k1 σ = some o) (K : Fin' M (none) 0 0 SM o.2 (none)) : G M 0 0 280 [] [vI k1, vA k0] SM σ := by
  unfold f_X12_advance_280 at h
  obtain ⟨σ1, e2, h⟩ := bo_some h
  refine g_putI O dX12_advance_280 fl_X12_115 (Or.inl rfl) rfl e2 ?_
  refine g_goto O dX12_advance_283 rfl ?_
  cases h
  exact g_return O K dX12_advance_311
def f_X12_advance_180 (k0 : Option Nat) (k1 : Int32) (σ : Dt) : Option (Unit × Dt) := bo (xpi SM 12 5 k0 k1 σ) fun σ1 => some ((), σ1)
theorem t_X12_advance_180 {M : Mx} {l0 : Launch} (O : Ok M cX12_advance yX12_advance) (R0 : Rm M l0 5 151 0 0) (N : Ma M = false) (hn : Mn M = 4)  (k0 : Option Nat) (k1 : Int32) (σ : Dt) (o : (Unit × Dt)) (h : f_X12_advance_180 k0 k1 σ = some o) (K : Fin' M (none) 0 0 SM o.2 (none)) : G M 0 0 180 [] [vI k1, vA k0] SM σ := by
  unfold f_X12_advance_180 at h
  obtain ⟨σ1, e2, h⟩ := bo_some h
  refine g_putI O dX12_advance_180 fl_X12_115 (Or.inl rfl) rfl e2 ?_
  refine g_goto O dX12_advance_183 rfl ?_
  cases h
  exact g_return O K dX12_advance_311
def f_X12_advance_162 (a0 : Nat) (k0 : Option Nat) (k1 : Int32) (σ : Dt) : Option (Unit × Dt) := bo (xpi SM 12 7 k0 k1 σ) fun σ1 => bo (xgi SM 12 7 (some a0) σ1) fun v3 => if v3 = (99 : Int32) then f_X12_advance_180 (some a0) (4 : Int32) σ1 else f_X12_advance_180 (some a0) (3 : Int32) σ1
theorem t_X12_advance_162 {M : Mx} {l0 : Launch} (O : Ok M cX12_advance yX12_advance) (R0 : Rm M l0 5 151 0 0) (N : Ma M = false) (hn : Mn M = 4)  (a0 : Nat) (k0 : Option Nat) (k1 : Int32) (σ : Dt) (o : (Unit × Dt)) (h : f_X12_advance_162 a0 k0 k1 σ = some o) (K : Fin' M (none) 0 0 SM o.2 (none)) : G M 0 0 162 [(0, vA (some a0))] [vI k1, vA k0] SM σ := by
  unfold f_X12_advance_162 at h
  obtain ⟨σ1, e2, h⟩ := bo_some h
  refine g_putI O dX12_advance_162 fl_X12_130 (Or.inl rfl) rfl e2 ?_
  refine g_aload_n O dX12_advance_165 rfl 0 rfl ?_
  refine g_aload_n O dX12_advance_166 rfl 0 rfl ?_
  obtain ⟨v3, e4, h⟩ := bo_some h
  refine g_getI O dX12_advance_167 fl_X12_130 rfl e4 ?_
  refine g_bipush (v := (99 : Int32)) O dX12_advance_170 rfl ?_
  refine g_icmp_ne O dX12_advance_172 rfl (fun c5 => ?_) (fun c5 => ?_)
  · replace h := (if_pos c5).symm.trans h
    refine g_iconst (v := (4 : Int32)) O dX12_advance_175 rfl ?_
    refine g_goto O dX12_advance_176 rfl ?_
    refine g_sub [] (lv' := []) rfl ?_
    exact t_X12_advance_180 O R0 N hn (some a0) (4 : Int32) σ1 o h K
  · replace h := (if_neg c5).symm.trans h
    refine g_iconst (v := (3 : Int32)) O dX12_advance_179 rfl ?_
    refine g_sub [] (lv' := []) rfl ?_
    exact t_X12_advance_180 O R0 N hn (some a0) (3 : Int32) σ1 o h K
def f_X12_advance (a0 : Nat) (σ : Dt) : Option (Unit × Dt) := bo (iter FU (fun s => f_X12_advance_L0 a0 s) σ) fun w1 => bo (xgi SM 12 3 (some a0) w1) fun v3 => bo (xpi SM 12 4 (some a0) v3 w1) fun σ5 => bo (xgi SM 12 3 (some a0) σ5) fun v7 => bo (xrc SM 12 (some a0)) fun a9 => bo (f_X12_byteAt a9 v7 σ5) fun v11 => if 0 ≤ v11 then bo (f_X12_isLetter v11 σ5) fun v14 => if v14 = 0 then bo (f_X12_isDigit v11 σ5) fun v17 => if v17 = 0 then bo (xgi SM 12 3 (some a0) σ5) fun v20 => bo (xpi SM 12 3 (some a0) (v20 + (1 : Int32)) σ5) fun σ22 => if v11 = (59 : Int32) then f_X12_advance_308 (some a0) (2 : Int32) σ22 else f_X12_advance_308 (some a0) (4 : Int32) σ22 else bo (xpi SM 12 6 (some a0) (0 : Int32) σ5) fun σ25 => bo (iter FU (fun s => f_X12_advance_L198 a0 s) σ25) fun w27 => bo (xgi SM 12 3 (some a0) w27) fun v29 => bo (xgi SM 12 4 (some a0) w27) fun v31 => if (v29 - v31) ≤ (2 : Int32) then f_X12_advance_280 (some a0) (1 : Int32) w27 else f_X12_advance_280 (some a0) (4 : Int32) w27 else bo (iter FU (fun s => f_X12_advance_L77 a0 s.1 s.2) ((0 : Int64), σ5)) fun w34 => bo (xgi SM 12 3 (some a0) w34.2) fun v36 => bo (xgi SM 12 4 (some a0) w34.2) fun v38 => if (v36 - v38) ≤ (8 : Int32) then bo (f_X12_wordOf w34.1 w34.2) fun v41 => f_X12_advance_162 a0 (some a0) v41 w34.2 else f_X12_advance_162 a0 (some a0) (99 : Int32) w34.2 else bo (xpi SM 12 5 (some a0) (0 : Int32) σ5) fun σ43 => some ((), σ43)
theorem t_X12_advance {M : Mx} {l0 : Launch} (O : Ok M cX12_advance yX12_advance) (R0 : Rm M l0 5 151 0 0) (N : Ma M = false) (hn : Mn M = 4) (a0 : Nat) (σ : Dt) (o : (Unit × Dt)) (h : f_X12_advance a0 σ = some o) (K : Fin' M (none) 0 0 SM o.2 (none)) : G M 0 0 0 [(0, vA (some a0))] [] SM σ := by
  unfold f_X12_advance at h
  obtain ⟨w1, e2, h⟩ := bo_some h
  refine iter_G (P := P_X12_advance_0 M a0) (E := E_X12_advance_0 M a0) (fun s o hb hk => t_X12_advance_L0 O R0 N hn a0 s o hb hk) FU σ w1 e2 ?_
  show G M 0 0 39 [(0, vA (some a0))] [] SM w1
  refine g_aload_n O dX12_advance_39 rfl 0 rfl ?_
  refine g_aload_n O dX12_advance_40 rfl 0 rfl ?_
  obtain ⟨v3, e4, h⟩ := bo_some h
  refine g_getI O dX12_advance_41 fl_X12_105 rfl e4 ?_
  obtain ⟨σ5, e6, h⟩ := bo_some h
  refine g_putI O dX12_advance_44 fl_X12_112 (Or.inl rfl) rfl e6 ?_
  refine g_aload_n O dX12_advance_47 rfl 0 rfl ?_
  refine g_aload_n O dX12_advance_48 rfl 0 rfl ?_
  obtain ⟨v7, e8, h⟩ := bo_some h
  refine g_getI O dX12_advance_49 fl_X12_105 rfl e8 ?_
  obtain ⟨a9, e10, h⟩ := bo_some h
  obtain ⟨v11, e12, h⟩ := bo_some h
  refine g_cV1 O R0 N dX12_advance_52 vl_X12_108 vv_X12_byteAt e10 [vI v7] rfl rfl rfl ⟨Nat.le_of_ble_eq_true rfl, Nat.le_of_ble_eq_true rfl⟩ (c_X12_byteAt l0 a9 v7 σ5 v11 e12) ?_
  refine g_istore_n (lv' := [(1, vI v11), (0, vA (some a0))]) O dX12_advance_55 rfl 4 hn (by decide) rfl ?_
  refine g_iload_n O dX12_advance_56 rfl 0 rfl ?_
  refine g_if_ge O dX12_advance_57 rfl (fun c13 => ?_) (fun c13 => ?_)
  · replace h := (if_pos c13).symm.trans h
    refine g_iload_n O dX12_advance_68 rfl 0 rfl ?_
    obtain ⟨v14, e15, h⟩ := bo_some h
    refine g_cS1 O R0 N dX12_advance_69 vl_X12_118 w1631 [vI v11] rfl rfl rfl ⟨Nat.le_of_ble_eq_true rfl, Nat.le_of_ble_eq_true rfl⟩ (c_X12_isLetter l0 v11 σ5 v14 e15) ?_
    refine g_if_eq O dX12_advance_72 rfl (fun c16 => ?_) (fun c16 => ?_)
    · replace h := (if_pos c16).symm.trans h
      refine g_iload_n O dX12_advance_186 rfl 0 rfl ?_
      obtain ⟨v17, e18, h⟩ := bo_some h
      refine g_cS1 O R0 N dX12_advance_187 vl_X12_133 w1646 [vI v11] rfl rfl rfl ⟨Nat.le_of_ble_eq_true rfl, Nat.le_of_ble_eq_true rfl⟩ (c_X12_isDigit l0 v11 σ5 v17 e18) ?_
      refine g_if_eq O dX12_advance_190 rfl (fun c19 => ?_) (fun c19 => ?_)
      · replace h := (if_pos c19).symm.trans h
        refine g_aload_n O dX12_advance_286 rfl 1 rfl ?_
        refine g_dup O dX12_advance_287 rfl ?_
        obtain ⟨v20, e21, h⟩ := bo_some h
        refine g_getI O dX12_advance_288 fl_X12_105 rfl e21 ?_
        refine g_iconst (v := (1 : Int32)) O dX12_advance_291 rfl ?_
        refine g_iadd O dX12_advance_292 ?_
        obtain ⟨σ22, e23, h⟩ := bo_some h
        refine g_putI O dX12_advance_293 fl_X12_105 (Or.inl rfl) rfl e23 ?_
        refine g_aload_n O dX12_advance_296 rfl 1 rfl ?_
        refine g_iload_n O dX12_advance_297 rfl 0 rfl ?_
        refine g_bipush (v := (59 : Int32)) O dX12_advance_298 rfl ?_
        refine g_icmp_ne O dX12_advance_300 rfl (fun c24 => ?_) (fun c24 => ?_)
        · replace h := (if_pos c24).symm.trans h
          refine g_iconst (v := (2 : Int32)) O dX12_advance_303 rfl ?_
          refine g_goto O dX12_advance_304 rfl ?_
          refine g_sub [] (lv' := []) rfl ?_
          exact t_X12_advance_308 O R0 N hn (some a0) (2 : Int32) σ22 o h K
        · replace h := (if_neg c24).symm.trans h
          refine g_iconst (v := (4 : Int32)) O dX12_advance_307 rfl ?_
          refine g_sub [] (lv' := []) rfl ?_
          exact t_X12_advance_308 O R0 N hn (some a0) (4 : Int32) σ22 o h K
      · replace h := (if_neg c19).symm.trans h
        refine g_aload_n O dX12_advance_193 rfl 1 rfl ?_
        refine g_iconst (v := (0 : Int32)) O dX12_advance_194 rfl ?_
        obtain ⟨σ25, e26, h⟩ := bo_some h
        refine g_putI O dX12_advance_195 fl_X12_136 (Or.inl rfl) rfl e26 ?_
        refine g_sub [1] (lv' := [(0, vA (some a0))]) rfl ?_
        obtain ⟨w27, e28, h⟩ := bo_some h
        refine iter_G (P := P_X12_advance_198 M a0) (E := E_X12_advance_198 M a0) (fun s o hb hk => t_X12_advance_L198 O R0 N hn a0 s o hb hk) FU σ25 w27 e28 ?_
        show G M 0 0 261 [(0, vA (some a0))] [] SM w27
        refine g_aload_n O dX12_advance_261 rfl 0 rfl ?_
        refine g_aload_n O dX12_advance_262 rfl 0 rfl ?_
        obtain ⟨v29, e30, h⟩ := bo_some h
        refine g_getI O dX12_advance_263 fl_X12_105 rfl e30 ?_
        refine g_aload_n O dX12_advance_266 rfl 0 rfl ?_
        obtain ⟨v31, e32, h⟩ := bo_some h
        refine g_getI O dX12_advance_267 fl_X12_112 rfl e32 ?_
        refine g_isub O dX12_advance_270 ?_
        refine g_iconst (v := (2 : Int32)) O dX12_advance_271 rfl ?_
        refine g_icmp_le O dX12_advance_272 rfl (fun c33 => ?_) (fun c33 => ?_)
        · replace h := (if_pos c33).symm.trans h
          refine g_iconst (v := (1 : Int32)) O dX12_advance_279 rfl ?_
          refine g_sub [] (lv' := []) rfl ?_
          exact t_X12_advance_280 O R0 N hn (some a0) (1 : Int32) w27 o h K
        · replace h := (if_neg c33).symm.trans h
          refine g_iconst (v := (4 : Int32)) O dX12_advance_275 rfl ?_
          refine g_goto O dX12_advance_276 rfl ?_
          refine g_sub [] (lv' := []) rfl ?_
          exact t_X12_advance_280 O R0 N hn (some a0) (4 : Int32) w27 o h K
    · replace h := (if_neg c16).symm.trans h
      refine g_lconst (v := (0 : Int64)) O dX12_advance_75 rfl ?_
      refine g_lstore_n (lv' := [(2, vJ (0 : Int64)), (1, vI v11), (0, vA (some a0))]) O dX12_advance_76 rfl 4 hn (by decide) rfl ?_
      refine g_sub [2, 0] (lv' := [(0, vA (some a0)), (2, vJ (0 : Int64))]) rfl ?_
      obtain ⟨w34, e35, h⟩ := bo_some h
      refine iter_G (P := P_X12_advance_77 M a0) (E := E_X12_advance_77 M a0) (fun s o hb hk => t_X12_advance_L77 O R0 N hn a0 s.1 s.2 o hb hk) FU ((0 : Int64), σ5) w34 e35 ?_
      show G M 0 0 138 [(0, vA (some a0)), (2, vJ w34.1)] [] SM w34.2
      refine g_aload_n O dX12_advance_138 rfl 0 rfl ?_
      refine g_aload_n O dX12_advance_139 rfl 0 rfl ?_
      obtain ⟨v36, e37, h⟩ := bo_some h
      refine g_getI O dX12_advance_140 fl_X12_105 rfl e37 ?_
      refine g_aload_n O dX12_advance_143 rfl 0 rfl ?_
      obtain ⟨v38, e39, h⟩ := bo_some h
      refine g_getI O dX12_advance_144 fl_X12_112 rfl e39 ?_
      refine g_isub O dX12_advance_147 ?_
      refine g_bipush (v := (8 : Int32)) O dX12_advance_148 rfl ?_
      refine g_icmp_le O dX12_advance_150 rfl (fun c40 => ?_) (fun c40 => ?_)
      · replace h := (if_pos c40).symm.trans h
        refine g_lload_n O dX12_advance_158 rfl 1 rfl ?_
        obtain ⟨v41, e42, h⟩ := bo_some h
        refine g_cS1 O R0 N dX12_advance_159 vl_X12_126 w1636 [vJ w34.1] rfl rfl rfl ⟨Nat.le_of_ble_eq_true rfl, Nat.le_of_ble_eq_true rfl⟩ (c_X12_wordOf l0 w34.1 w34.2 v41 e42) ?_
        refine g_sub [0] (lv' := [(0, vA (some a0))]) rfl ?_
        exact t_X12_advance_162 O R0 N hn a0 (some a0) v41 w34.2 o h K
      · replace h := (if_neg c40).symm.trans h
        refine g_bipush (v := (99 : Int32)) O dX12_advance_153 rfl ?_
        refine g_goto O dX12_advance_155 rfl ?_
        refine g_sub [0] (lv' := [(0, vA (some a0))]) rfl ?_
        exact t_X12_advance_162 O R0 N hn a0 (some a0) (99 : Int32) w34.2 o h K
  · replace h := (if_neg c13).symm.trans h
    refine g_aload_n O dX12_advance_60 rfl 1 rfl ?_
    refine g_iconst (v := (0 : Int32)) O dX12_advance_61 rfl ?_
    obtain ⟨σ43, e44, h⟩ := bo_some h
    refine g_putI O dX12_advance_62 fl_X12_115 (Or.inl rfl) rfl e44 ?_
    refine g_goto O dX12_advance_65 rfl ?_
    cases h
    exact g_return O K dX12_advance_311
theorem c_X12_advance (l0 : Launch) (a0 : Nat) (σ : Dt) (r : Unit) (σ' : Dt) (h : f_X12_advance a0 σ = some (r, σ')) : Ctr l0 yX12_advance cX12_advance 4 (none) false 5 151 0 0 [vA (some a0)] SM σ SM σ' (none) := ctr_of (by decide) (Nat.le_of_ble_eq_true rfl) (fun M O F R0 N hn => t_X12_advance O R0 N hn a0 σ (r, σ') h F)
def f_X12_ends (a0 : Nat) (σ : Dt) : Option (Unit × Dt) := bo (xgi SM 12 8 (some a0) σ) fun v1 => if v1 = 0 then bo (xpz SM 12 8 (some a0) (1 : Int32) σ) fun σ4 => bo (xgr SM 12 0 (some a0) σ4) fun v6 => bo (xsi SM v6 (5 : Int32) (1 : Int32) σ4) fun σ8 => bo (xgr SM 12 0 (some a0) σ8) fun v10 => bo (xgi SM 12 4 (some a0) σ8) fun v12 => bo (xsi SM v10 (6 : Int32) v12 σ8) fun σ14 => some ((), σ14) else some ((), σ)
theorem t_X12_ends {M : Mx} {l0 : Launch} (O : Ok M cX12_ends yX12_ends) (R0 : Rm M l0 2 80 0 0) (N : Ma M = false) (hn : Mn M = 1) (a0 : Nat) (σ : Dt) (o : (Unit × Dt)) (h : f_X12_ends a0 σ = some o) (K : Fin' M (none) 0 0 SM o.2 (none)) : G M 0 0 0 [(0, vA (some a0))] [] SM σ := by
  unfold f_X12_ends at h
  refine g_aload_n O dX12_ends_0 rfl 0 rfl ?_
  obtain ⟨v1, e2, h⟩ := bo_some h
  refine g_getI O dX12_ends_1 fl_X12_139 rfl e2 ?_
  refine g_if_eq O dX12_ends_4 rfl (fun c3 => ?_) (fun c3 => ?_)
  · replace h := (if_pos c3).symm.trans h
    refine g_aload_n O dX12_ends_8 rfl 0 rfl ?_
    refine g_iconst (v := (1 : Int32)) O dX12_ends_9 rfl ?_
    obtain ⟨σ4, e5, h⟩ := bo_some h
    refine g_putZ O dX12_ends_10 fl_X12_139 (Or.inl rfl) rfl e5 ?_
    refine g_aload_n O dX12_ends_13 rfl 0 rfl ?_
    obtain ⟨v6, e7, h⟩ := bo_some h
    refine g_getR O dX12_ends_14 fl_X12_7 rfl e7 ?_
    refine g_iconst (v := (5 : Int32)) O dX12_ends_17 rfl ?_
    refine g_iconst (v := (1 : Int32)) O dX12_ends_18 rfl ?_
    obtain ⟨σ8, e9, h⟩ := bo_some h
    refine g_iastore O dX12_ends_19 e9 ?_
    refine g_aload_n O dX12_ends_20 rfl 0 rfl ?_
    obtain ⟨v10, e11, h⟩ := bo_some h
    refine g_getR O dX12_ends_21 fl_X12_7 rfl e11 ?_
    refine g_bipush (v := (6 : Int32)) O dX12_ends_24 rfl ?_
    refine g_aload_n O dX12_ends_26 rfl 0 rfl ?_
    obtain ⟨v12, e13, h⟩ := bo_some h
    refine g_getI O dX12_ends_27 fl_X12_112 rfl e13 ?_
    obtain ⟨σ14, e15, h⟩ := bo_some h
    refine g_iastore O dX12_ends_30 e15 ?_
    cases h
    exact g_return O K dX12_ends_31
  · replace h := (if_neg c3).symm.trans h
    cases h
    exact g_return O K dX12_ends_7
theorem c_X12_ends (l0 : Launch) (a0 : Nat) (σ : Dt) (r : Unit) (σ' : Dt) (h : f_X12_ends a0 σ = some (r, σ')) : Ctr l0 yX12_ends cX12_ends 1 (none) false 2 80 0 0 [vA (some a0)] SM σ SM σ' (none) := ctr_of (by decide) (Nat.le_of_ble_eq_true rfl) (fun M O F R0 N hn => t_X12_ends O R0 N hn a0 σ (r, σ') h F)
def f_X12_also_49 (a0 : Nat) (x1 : Int32) (x2 : Int32) (σ : Dt) : Option (Unit × Dt) := bo (xgr SM 12 0 (some a0) σ) fun v1 => bo (xsi SM v1 (5 : Int32) x1 σ) fun σ3 => bo (xgr SM 12 0 (some a0) σ3) fun v5 => bo (xsi SM v5 (6 : Int32) x2 σ3) fun σ7 => some ((), σ7)
theorem t_X12_also_49 {M : Mx} {l0 : Launch} (O : Ok M cX12_also yX12_also) (R0 : Rm M l0 2 80 0 0) (N : Ma M = false) (hn : Mn M = 3)  (a0 : Nat) (x1 : Int32) (x2 : Int32) (σ : Dt) (o : (Unit × Dt)) (h : f_X12_also_49 a0 x1 x2 σ = some o) (K : Fin' M (none) 0 0 SM o.2 (none)) : G M 0 0 49 [(0, vA (some a0)), (1, vI x1), (2, vI x2)] [] SM σ := by
  unfold f_X12_also_49 at h
  refine g_aload_n O dX12_also_49 rfl 0 rfl ?_
  obtain ⟨v1, e2, h⟩ := bo_some h
  refine g_getR O dX12_also_50 fl_X12_7 rfl e2 ?_
  refine g_iconst (v := (5 : Int32)) O dX12_also_53 rfl ?_
  refine g_iload_n O dX12_also_54 rfl 1 rfl ?_
  obtain ⟨σ3, e4, h⟩ := bo_some h
  refine g_iastore O dX12_also_55 e4 ?_
  refine g_aload_n O dX12_also_56 rfl 0 rfl ?_
  obtain ⟨v5, e6, h⟩ := bo_some h
  refine g_getR O dX12_also_57 fl_X12_7 rfl e6 ?_
  refine g_bipush (v := (6 : Int32)) O dX12_also_60 rfl ?_
  refine g_iload_n O dX12_also_62 rfl 2 rfl ?_
  obtain ⟨σ7, e8, h⟩ := bo_some h
  refine g_iastore O dX12_also_63 e8 ?_
  cases h
  exact g_return O K dX12_also_64
def f_X12_also (a0 : Nat) (x1 : Int32) (x2 : Int32) (σ : Dt) : Option (Unit × Dt) := bo (xgi SM 12 8 (some a0) σ) fun v1 => if v1 = 0 then bo (xgr SM 12 0 (some a0) σ) fun v4 => bo (xai SM v4 (5 : Int32) σ) fun v6 => if v6 = 0 then f_X12_also_49 a0 x1 x2 σ else bo (xgr SM 12 0 (some a0) σ) fun v9 => bo (xai SM v9 (6 : Int32) σ) fun v11 => if v11 < x2 then some ((), σ) else bo (xgr SM 12 0 (some a0) σ) fun v14 => bo (xai SM v14 (6 : Int32) σ) fun v16 => if v16 = x2 then bo (xgr SM 12 0 (some a0) σ) fun v19 => bo (xai SM v19 (5 : Int32) σ) fun v21 => if x1 < v21 then f_X12_also_49 a0 x1 x2 σ else some ((), σ) else f_X12_also_49 a0 x1 x2 σ else some ((), σ)
theorem t_X12_also {M : Mx} {l0 : Launch} (O : Ok M cX12_also yX12_also) (R0 : Rm M l0 2 80 0 0) (N : Ma M = false) (hn : Mn M = 3) (a0 : Nat) (x1 : Int32) (x2 : Int32) (σ : Dt) (o : (Unit × Dt)) (h : f_X12_also a0 x1 x2 σ = some o) (K : Fin' M (none) 0 0 SM o.2 (none)) : G M 0 0 0 [(0, vA (some a0)), (1, vI x1), (2, vI x2)] [] SM σ := by
  unfold f_X12_also at h
  refine g_aload_n O dX12_also_0 rfl 0 rfl ?_
  obtain ⟨v1, e2, h⟩ := bo_some h
  refine g_getI O dX12_also_1 fl_X12_139 rfl e2 ?_
  refine g_if_ne O dX12_also_4 rfl (fun c3 => ?_) (fun c3 => ?_)
  · replace h := (if_pos c3).symm.trans h
    refine g_aload_n O dX12_also_7 rfl 0 rfl ?_
    obtain ⟨v4, e5, h⟩ := bo_some h
    refine g_getR O dX12_also_8 fl_X12_7 rfl e5 ?_
    refine g_iconst (v := (5 : Int32)) O dX12_also_11 rfl ?_
    obtain ⟨v6, e7, h⟩ := bo_some h
    refine g_iaload O dX12_also_12 e7 ?_
    refine g_if_eq O dX12_also_13 rfl (fun c8 => ?_) (fun c8 => ?_)
    · replace h := (if_pos c8).symm.trans h
      exact t_X12_also_49 O R0 N hn a0 x1 x2 σ o h K
    · replace h := (if_neg c8).symm.trans h
      refine g_aload_n O dX12_also_16 rfl 0 rfl ?_
      obtain ⟨v9, e10, h⟩ := bo_some h
      refine g_getR O dX12_also_17 fl_X12_7 rfl e10 ?_
      refine g_bipush (v := (6 : Int32)) O dX12_also_20 rfl ?_
      obtain ⟨v11, e12, h⟩ := bo_some h
      refine g_iaload O dX12_also_22 e12 ?_
      refine g_iload_n O dX12_also_23 rfl 2 rfl ?_
      refine g_icmp_lt O dX12_also_24 rfl (fun c13 => ?_) (fun c13 => ?_)
      · replace h := (if_pos c13).symm.trans h
        cases h
        exact g_return O K dX12_also_48
      · replace h := (if_neg c13).symm.trans h
        refine g_aload_n O dX12_also_27 rfl 0 rfl ?_
        obtain ⟨v14, e15, h⟩ := bo_some h
        refine g_getR O dX12_also_28 fl_X12_7 rfl e15 ?_
        refine g_bipush (v := (6 : Int32)) O dX12_also_31 rfl ?_
        obtain ⟨v16, e17, h⟩ := bo_some h
        refine g_iaload O dX12_also_33 e17 ?_
        refine g_iload_n O dX12_also_34 rfl 2 rfl ?_
        refine g_icmp_ne O dX12_also_35 rfl (fun c18 => ?_) (fun c18 => ?_)
        · replace h := (if_pos c18).symm.trans h
          refine g_aload_n O dX12_also_38 rfl 0 rfl ?_
          obtain ⟨v19, e20, h⟩ := bo_some h
          refine g_getR O dX12_also_39 fl_X12_7 rfl e20 ?_
          refine g_iconst (v := (5 : Int32)) O dX12_also_42 rfl ?_
          obtain ⟨v21, e22, h⟩ := bo_some h
          refine g_iaload O dX12_also_43 e22 ?_
          refine g_iload_n O dX12_also_44 rfl 1 rfl ?_
          refine g_icmp_gt O dX12_also_45 rfl (fun c23 => ?_) (fun c23 => ?_)
          · replace h := (if_pos c23).symm.trans h
            exact t_X12_also_49 O R0 N hn a0 x1 x2 σ o h K
          · replace h := (if_neg c23).symm.trans h
            cases h
            exact g_return O K dX12_also_48
        · replace h := (if_neg c18).symm.trans h
          exact t_X12_also_49 O R0 N hn a0 x1 x2 σ o h K
  · replace h := (if_neg c3).symm.trans h
    cases h
    exact g_return O K dX12_also_48
theorem c_X12_also (l0 : Launch) (a0 : Nat) (x1 : Int32) (x2 : Int32) (σ : Dt) (r : Unit) (σ' : Dt) (h : f_X12_also a0 x1 x2 σ = some (r, σ')) : Ctr l0 yX12_also cX12_also 3 (none) false 2 80 0 0 [vA (some a0), vI x1, vI x2] SM σ SM σ' (none) := ctr_of (by decide) (Nat.le_of_ble_eq_true rfl) (fun M O F R0 N hn => t_X12_also O R0 N hn a0 x1 x2 σ (r, σ') h F)
def f_X12_numbered_44 (a0 : Nat) (x1 : Int32) (x2 : Int32) (x3 : Int32) (σ : Dt) : Option (Int32 × Dt) := bo (xrc SM 12 (some a0)) fun a1 => bd (f_X12_advance a1 σ) fun v3 σ4 => bo (f_X12_isIn x3 x1 x2 σ4) fun v6 => if v6 = 0 then some (x1, σ4) else some (x3, σ4)
theorem t_X12_numbered_44 {M : Mx} {l0 : Launch} (O : Ok M cX12_numbered yX12_numbered) (R0 : Rm M l0 6 174 0 0) (N : Ma M = false) (hn : Mn M = 4)  (a0 : Nat) (x1 : Int32) (x2 : Int32) (x3 : Int32) (σ : Dt) (o : (Int32 × Dt)) (h : f_X12_numbered_44 a0 x1 x2 x3 σ = some o) (K : Fin' M (some .int) 0 0 SM o.2 (some (vI o.1))) : G M 0 0 44 [(0, vA (some a0)), (1, vI x1), (2, vI x2), (3, vI x3)] [] SM σ := by
  unfold f_X12_numbered_44 at h
  refine g_aload_n O dX12_numbered_44 rfl 0 rfl ?_
  obtain ⟨a1, e2, h⟩ := bo_some h
  obtain ⟨v3, σ4, e5, h⟩ := bd_some h
  refine g_cV0 O R0 N dX12_numbered_45 vl_X12_154 vv_X12_advance e2 [] rfl rfl rfl ⟨Nat.le_of_ble_eq_true rfl, Nat.le_of_ble_eq_true rfl⟩ (c_X12_advance l0 a1 σ v3 σ4 e5) ?_
  refine g_iload_n O dX12_numbered_48 rfl 3 rfl ?_
  refine g_iload_n O dX12_numbered_49 rfl 1 rfl ?_
  refine g_iload_n O dX12_numbered_50 rfl 2 rfl ?_
  obtain ⟨v6, e7, h⟩ := bo_some h
  refine g_cS1 O R0 N dX12_numbered_51 vl_X12_146 w1616 [vI x3, vI x1, vI x2] rfl rfl rfl ⟨Nat.le_of_ble_eq_true rfl, Nat.le_of_ble_eq_true rfl⟩ (c_X12_isIn l0 x3 x1 x2 σ4 v6 e7) ?_
  refine g_if_eq O dX12_numbered_54 rfl (fun c8 => ?_) (fun c8 => ?_)
  · replace h := (if_pos c8).symm.trans h
    refine g_iload_n O dX12_numbered_61 rfl 1 rfl ?_
    cases h
    exact g_ireturn O K dX12_numbered_62
  · replace h := (if_neg c8).symm.trans h
    refine g_iload_n O dX12_numbered_57 rfl 3 rfl ?_
    refine g_goto O dX12_numbered_58 rfl ?_
    cases h
    exact g_ireturn O K dX12_numbered_62
def f_X12_numbered_15 (a0 : Nat) (x1 : Int32) (σ : Dt) : Option (Int32 × Dt) := bo (xrc SM 12 (some a0)) fun a1 => bd (f_X12_ends a1 σ) fun v3 σ4 => some (x1, σ4)
theorem t_X12_numbered_15 {M : Mx} {l0 : Launch} (O : Ok M cX12_numbered yX12_numbered) (R0 : Rm M l0 6 174 0 0) (N : Ma M = false) (hn : Mn M = 4)  (a0 : Nat) (x1 : Int32) (σ : Dt) (o : (Int32 × Dt)) (h : f_X12_numbered_15 a0 x1 σ = some o) (K : Fin' M (some .int) 0 0 SM o.2 (some (vI o.1))) : G M 0 0 15 [(0, vA (some a0)), (1, vI x1)] [] SM σ := by
  unfold f_X12_numbered_15 at h
  refine g_aload_n O dX12_numbered_15 rfl 0 rfl ?_
  obtain ⟨a1, e2, h⟩ := bo_some h
  obtain ⟨v3, σ4, e5, h⟩ := bd_some h
  refine g_cV0 O R0 N dX12_numbered_16 vl_X12_143 vv_X12_ends e2 [] rfl rfl rfl ⟨Nat.le_of_ble_eq_true rfl, Nat.le_of_ble_eq_true rfl⟩ (c_X12_ends l0 a1 σ v3 σ4 e5) ?_
  refine g_iload_n O dX12_numbered_19 rfl 1 rfl ?_
  cases h
  exact g_ireturn O K dX12_numbered_20
def f_X12_numbered (a0 : Nat) (x1 : Int32) (x2 : Int32) (σ : Dt) : Option (Int32 × Dt) := bo (xgi SM 12 8 (some a0) σ) fun v1 => if v1 = 0 then bo (xgi SM 12 5 (some a0) σ) fun v4 => if v4 = (1 : Int32) then bo (xgi SM 12 6 (some a0) σ) fun v7 => bo (f_X12_isIn v7 x1 x2 σ) fun v9 => if v9 = 0 then bo (xgi SM 12 4 (some a0) σ) fun v12 => bo (xrc SM 12 (some a0)) fun a14 => bd (f_X12_also a14 (2 : Int32) v12 σ) fun v16 σ17 => f_X12_numbered_44 a0 x1 x2 v7 σ17 else f_X12_numbered_44 a0 x1 x2 v7 σ else f_X12_numbered_15 a0 x1 σ else f_X12_numbered_15 a0 x1 σ
theorem t_X12_numbered {M : Mx} {l0 : Launch} (O : Ok M cX12_numbered yX12_numbered) (R0 : Rm M l0 6 174 0 0) (N : Ma M = false) (hn : Mn M = 4) (a0 : Nat) (x1 : Int32) (x2 : Int32) (σ : Dt) (o : (Int32 × Dt)) (h : f_X12_numbered a0 x1 x2 σ = some o) (K : Fin' M (some .int) 0 0 SM o.2 (some (vI o.1))) : G M 0 0 0 [(0, vA (some a0)), (1, vI x1), (2, vI x2)] [] SM σ := by
  unfold f_X12_numbered at h
  refine g_aload_n O dX12_numbered_0 rfl 0 rfl ?_
  obtain ⟨v1, e2, h⟩ := bo_some h
  refine g_getI O dX12_numbered_1 fl_X12_139 rfl e2 ?_
  refine g_if_ne O dX12_numbered_4 rfl (fun c3 => ?_) (fun c3 => ?_)
  · replace h := (if_pos c3).symm.trans h
    refine g_aload_n O dX12_numbered_7 rfl 0 rfl ?_
    obtain ⟨v4, e5, h⟩ := bo_some h
    refine g_getI O dX12_numbered_8 fl_X12_115 rfl e5 ?_
    refine g_iconst (v := (1 : Int32)) O dX12_numbered_11 rfl ?_
    refine g_icmp_eq O dX12_numbered_12 rfl (fun c6 => ?_) (fun c6 => ?_)
    · replace h := (if_pos c6).symm.trans h
      refine g_aload_n O dX12_numbered_21 rfl 0 rfl ?_
      obtain ⟨v7, e8, h⟩ := bo_some h
      refine g_getI O dX12_numbered_22 fl_X12_136 rfl e8 ?_
      refine g_istore_n (lv' := [(3, vI v7), (0, vA (some a0)), (1, vI x1), (2, vI x2)]) O dX12_numbered_25 rfl 4 hn (by decide) rfl ?_
      refine g_iload_n O dX12_numbered_26 rfl 0 rfl ?_
      refine g_iload_n O dX12_numbered_27 rfl 2 rfl ?_
      refine g_iload_n O dX12_numbered_28 rfl 3 rfl ?_
      obtain ⟨v9, e10, h⟩ := bo_some h
      refine g_cS1 O R0 N dX12_numbered_29 vl_X12_146 w1616 [vI v7, vI x1, vI x2] rfl rfl rfl ⟨Nat.le_of_ble_eq_true rfl, Nat.le_of_ble_eq_true rfl⟩ (c_X12_isIn l0 v7 x1 x2 σ v9 e10) ?_
      refine g_if_ne O dX12_numbered_32 rfl (fun c11 => ?_) (fun c11 => ?_)
      · replace h := (if_pos c11).symm.trans h
        refine g_aload_n O dX12_numbered_35 rfl 1 rfl ?_
        refine g_iconst (v := (2 : Int32)) O dX12_numbered_36 rfl ?_
        refine g_aload_n O dX12_numbered_37 rfl 1 rfl ?_
        obtain ⟨v12, e13, h⟩ := bo_some h
        refine g_getI O dX12_numbered_38 fl_X12_112 rfl e13 ?_
        obtain ⟨a14, e15, h⟩ := bo_some h
        obtain ⟨v16, σ17, e18, h⟩ := bd_some h
        refine g_cV0 O R0 N dX12_numbered_41 vl_X12_150 vv_X12_also e15 [vI (2 : Int32), vI v12] rfl rfl rfl ⟨Nat.le_of_ble_eq_true rfl, Nat.le_of_ble_eq_true rfl⟩ (c_X12_also l0 a14 (2 : Int32) v12 σ v16 σ17 e18) ?_
        refine g_sub [1, 2, 3, 0] (lv' := [(0, vA (some a0)), (1, vI x1), (2, vI x2), (3, vI v7)]) rfl ?_
        exact t_X12_numbered_44 O R0 N hn a0 x1 x2 v7 σ17 o h K
      · replace h := (if_neg c11).symm.trans h
        refine g_sub [1, 2, 3, 0] (lv' := [(0, vA (some a0)), (1, vI x1), (2, vI x2), (3, vI v7)]) rfl ?_
        exact t_X12_numbered_44 O R0 N hn a0 x1 x2 v7 σ o h K
    · replace h := (if_neg c6).symm.trans h
      refine g_sub [0, 1] (lv' := [(0, vA (some a0)), (1, vI x1)]) rfl ?_
      exact t_X12_numbered_15 O R0 N hn a0 x1 σ o h K
  · replace h := (if_neg c3).symm.trans h
    refine g_sub [0, 1] (lv' := [(0, vA (some a0)), (1, vI x1)]) rfl ?_
    exact t_X12_numbered_15 O R0 N hn a0 x1 σ o h K
theorem c_X12_numbered (l0 : Launch) (a0 : Nat) (x1 : Int32) (x2 : Int32) (σ : Dt) (r : Int32) (σ' : Dt) (h : f_X12_numbered a0 x1 x2 σ = some (r, σ')) : Ctr l0 yX12_numbered cX12_numbered 4 (some .int) false 6 174 0 0 [vA (some a0), vI x1, vI x2] SM σ SM σ' (some (vI r)) := ctr_of (by decide) (Nat.le_of_ble_eq_true rfl) (fun M O F R0 N hn => t_X12_numbered O R0 N hn a0 x1 x2 σ (r, σ') h F)
def f_X12_wordIn_27 (a0 : Nat) (σ : Dt) : Option (Int32 × Dt) := bo (xrc SM 12 (some a0)) fun a1 => bd (f_X12_ends a1 σ) fun v3 σ4 => some ((0 : Int32), σ4)
theorem t_X12_wordIn_27 {M : Mx} {l0 : Launch} (O : Ok M cX12_wordIn yX12_wordIn) (R0 : Rm M l0 6 174 0 0) (N : Ma M = false) (hn : Mn M = 4)  (a0 : Nat) (σ : Dt) (o : (Int32 × Dt)) (h : f_X12_wordIn_27 a0 σ = some o) (K : Fin' M (some .int) 0 0 SM o.2 (some (vI o.1))) : G M 0 0 27 [(0, vA (some a0))] [] SM σ := by
  unfold f_X12_wordIn_27 at h
  refine g_aload_n O dX12_wordIn_27 rfl 0 rfl ?_
  obtain ⟨a1, e2, h⟩ := bo_some h
  obtain ⟨v3, σ4, e5, h⟩ := bd_some h
  refine g_cV0 O R0 N dX12_wordIn_28 vl_X12_143 vv_X12_ends e2 [] rfl rfl rfl ⟨Nat.le_of_ble_eq_true rfl, Nat.le_of_ble_eq_true rfl⟩ (c_X12_ends l0 a1 σ v3 σ4 e5) ?_
  refine g_iconst (v := (0 : Int32)) O dX12_wordIn_31 rfl ?_
  cases h
  exact g_ireturn O K dX12_wordIn_32
def f_X12_wordIn (a0 : Nat) (x1 : Int32) (x2 : Int32) (σ : Dt) : Option (Int32 × Dt) := bo (xgi SM 12 8 (some a0) σ) fun v1 => if v1 = 0 then bo (xgi SM 12 5 (some a0) σ) fun v4 => if v4 = (3 : Int32) then bo (xgi SM 12 7 (some a0) σ) fun v7 => bo (f_X12_isIn v7 x1 x2 σ) fun v9 => if v9 = 0 then f_X12_wordIn_27 a0 σ else bo (xgi SM 12 7 (some a0) σ) fun v12 => bo (xrc SM 12 (some a0)) fun a14 => bd (f_X12_advance a14 σ) fun v16 σ17 => some (v12, σ17) else f_X12_wordIn_27 a0 σ else f_X12_wordIn_27 a0 σ
theorem t_X12_wordIn {M : Mx} {l0 : Launch} (O : Ok M cX12_wordIn yX12_wordIn) (R0 : Rm M l0 6 174 0 0) (N : Ma M = false) (hn : Mn M = 4) (a0 : Nat) (x1 : Int32) (x2 : Int32) (σ : Dt) (o : (Int32 × Dt)) (h : f_X12_wordIn a0 x1 x2 σ = some o) (K : Fin' M (some .int) 0 0 SM o.2 (some (vI o.1))) : G M 0 0 0 [(0, vA (some a0)), (1, vI x1), (2, vI x2)] [] SM σ := by
  unfold f_X12_wordIn at h
  refine g_aload_n O dX12_wordIn_0 rfl 0 rfl ?_
  obtain ⟨v1, e2, h⟩ := bo_some h
  refine g_getI O dX12_wordIn_1 fl_X12_139 rfl e2 ?_
  refine g_if_ne O dX12_wordIn_4 rfl (fun c3 => ?_) (fun c3 => ?_)
  · replace h := (if_pos c3).symm.trans h
    refine g_aload_n O dX12_wordIn_7 rfl 0 rfl ?_
    obtain ⟨v4, e5, h⟩ := bo_some h
    refine g_getI O dX12_wordIn_8 fl_X12_115 rfl e5 ?_
    refine g_iconst (v := (3 : Int32)) O dX12_wordIn_11 rfl ?_
    refine g_icmp_ne O dX12_wordIn_12 rfl (fun c6 => ?_) (fun c6 => ?_)
    · replace h := (if_pos c6).symm.trans h
      refine g_aload_n O dX12_wordIn_15 rfl 0 rfl ?_
      obtain ⟨v7, e8, h⟩ := bo_some h
      refine g_getI O dX12_wordIn_16 fl_X12_130 rfl e8 ?_
      refine g_iload_n O dX12_wordIn_19 rfl 1 rfl ?_
      refine g_iload_n O dX12_wordIn_20 rfl 2 rfl ?_
      obtain ⟨v9, e10, h⟩ := bo_some h
      refine g_cS1 O R0 N dX12_wordIn_21 vl_X12_146 w1616 [vI v7, vI x1, vI x2] rfl rfl rfl ⟨Nat.le_of_ble_eq_true rfl, Nat.le_of_ble_eq_true rfl⟩ (c_X12_isIn l0 v7 x1 x2 σ v9 e10) ?_
      refine g_if_ne O dX12_wordIn_24 rfl (fun c11 => ?_) (fun c11 => ?_)
      · replace h := (if_pos c11).symm.trans h
        refine g_sub [0] (lv' := [(0, vA (some a0))]) rfl ?_
        exact t_X12_wordIn_27 O R0 N hn a0 σ o h K
      · replace h := (if_neg c11).symm.trans h
        refine g_aload_n O dX12_wordIn_33 rfl 0 rfl ?_
        obtain ⟨v12, e13, h⟩ := bo_some h
        refine g_getI O dX12_wordIn_34 fl_X12_130 rfl e13 ?_
        refine g_istore_n (lv' := [(3, vI v12), (0, vA (some a0)), (1, vI x1), (2, vI x2)]) O dX12_wordIn_37 rfl 4 hn (by decide) rfl ?_
        refine g_aload_n O dX12_wordIn_38 rfl 1 rfl ?_
        obtain ⟨a14, e15, h⟩ := bo_some h
        obtain ⟨v16, σ17, e18, h⟩ := bd_some h
        refine g_cV0 O R0 N dX12_wordIn_39 vl_X12_154 vv_X12_advance e15 [] rfl rfl rfl ⟨Nat.le_of_ble_eq_true rfl, Nat.le_of_ble_eq_true rfl⟩ (c_X12_advance l0 a14 σ v16 σ17 e18) ?_
        refine g_iload_n O dX12_wordIn_42 rfl 0 rfl ?_
        cases h
        exact g_ireturn O K dX12_wordIn_43
    · replace h := (if_neg c6).symm.trans h
      refine g_sub [0] (lv' := [(0, vA (some a0))]) rfl ?_
      exact t_X12_wordIn_27 O R0 N hn a0 σ o h K
  · replace h := (if_neg c3).symm.trans h
    refine g_sub [0] (lv' := [(0, vA (some a0))]) rfl ?_
    exact t_X12_wordIn_27 O R0 N hn a0 σ o h K
theorem c_X12_wordIn (l0 : Launch) (a0 : Nat) (x1 : Int32) (x2 : Int32) (σ : Dt) (r : Int32) (σ' : Dt) (h : f_X12_wordIn a0 x1 x2 σ = some (r, σ')) : Ctr l0 yX12_wordIn cX12_wordIn 4 (some .int) false 6 174 0 0 [vA (some a0), vI x1, vI x2] SM σ SM σ' (some (vI r)) := ctr_of (by decide) (Nat.le_of_ble_eq_true rfl) (fun M O F R0 N hn => t_X12_wordIn O R0 N hn a0 x1 x2 σ (r, σ') h F)
def f_X12_endsLine_22 (a0 : Nat) (σ : Dt) : Option (Unit × Dt) := bo (xrc SM 12 (some a0)) fun a1 => bd (f_X12_ends a1 σ) fun v3 σ4 => some ((), σ4)
theorem t_X12_endsLine_22 {M : Mx} {l0 : Launch} (O : Ok M cX12_endsLine yX12_endsLine) (R0 : Rm M l0 6 174 0 0) (N : Ma M = false) (hn : Mn M = 1)  (a0 : Nat) (σ : Dt) (o : (Unit × Dt)) (h : f_X12_endsLine_22 a0 σ = some o) (K : Fin' M (none) 0 0 SM o.2 (none)) : G M 0 0 22 [(0, vA (some a0))] [] SM σ := by
  unfold f_X12_endsLine_22 at h
  refine g_aload_n O dX12_endsLine_22 rfl 0 rfl ?_
  obtain ⟨a1, e2, h⟩ := bo_some h
  obtain ⟨v3, σ4, e5, h⟩ := bd_some h
  refine g_cV0 O R0 N dX12_endsLine_23 vl_X12_143 vv_X12_ends e2 [] rfl rfl rfl ⟨Nat.le_of_ble_eq_true rfl, Nat.le_of_ble_eq_true rfl⟩ (c_X12_ends l0 a1 σ v3 σ4 e5) ?_
  cases h
  exact g_return O K dX12_endsLine_26
def f_X12_endsLine (a0 : Nat) (σ : Dt) : Option (Unit × Dt) := bo (xgi SM 12 8 (some a0) σ) fun v1 => if v1 = 0 then bo (xgi SM 12 5 (some a0) σ) fun v4 => if v4 = (2 : Int32) then bo (xrc SM 12 (some a0)) fun a7 => bd (f_X12_advance a7 σ) fun v9 σ10 => some ((), σ10) else f_X12_endsLine_22 a0 σ else f_X12_endsLine_22 a0 σ
theorem t_X12_endsLine {M : Mx} {l0 : Launch} (O : Ok M cX12_endsLine yX12_endsLine) (R0 : Rm M l0 6 174 0 0) (N : Ma M = false) (hn : Mn M = 1) (a0 : Nat) (σ : Dt) (o : (Unit × Dt)) (h : f_X12_endsLine a0 σ = some o) (K : Fin' M (none) 0 0 SM o.2 (none)) : G M 0 0 0 [(0, vA (some a0))] [] SM σ := by
  unfold f_X12_endsLine at h
  refine g_aload_n O dX12_endsLine_0 rfl 0 rfl ?_
  obtain ⟨v1, e2, h⟩ := bo_some h
  refine g_getI O dX12_endsLine_1 fl_X12_139 rfl e2 ?_
  refine g_if_ne O dX12_endsLine_4 rfl (fun c3 => ?_) (fun c3 => ?_)
  · replace h := (if_pos c3).symm.trans h
    refine g_aload_n O dX12_endsLine_7 rfl 0 rfl ?_
    obtain ⟨v4, e5, h⟩ := bo_some h
    refine g_getI O dX12_endsLine_8 fl_X12_115 rfl e5 ?_
    refine g_iconst (v := (2 : Int32)) O dX12_endsLine_11 rfl ?_
    refine g_icmp_ne O dX12_endsLine_12 rfl (fun c6 => ?_) (fun c6 => ?_)
    · replace h := (if_pos c6).symm.trans h
      refine g_aload_n O dX12_endsLine_15 rfl 0 rfl ?_
      obtain ⟨a7, e8, h⟩ := bo_some h
      obtain ⟨v9, σ10, e11, h⟩ := bd_some h
      refine g_cV0 O R0 N dX12_endsLine_16 vl_X12_154 vv_X12_advance e8 [] rfl rfl rfl ⟨Nat.le_of_ble_eq_true rfl, Nat.le_of_ble_eq_true rfl⟩ (c_X12_advance l0 a7 σ v9 σ10 e11) ?_
      refine g_goto O dX12_endsLine_19 rfl ?_
      cases h
      exact g_return O K dX12_endsLine_26
    · replace h := (if_neg c6).symm.trans h
      exact t_X12_endsLine_22 O R0 N hn a0 σ o h K
  · replace h := (if_neg c3).symm.trans h
    exact t_X12_endsLine_22 O R0 N hn a0 σ o h K
theorem c_X12_endsLine (l0 : Launch) (a0 : Nat) (σ : Dt) (r : Unit) (σ' : Dt) (h : f_X12_endsLine a0 σ = some (r, σ')) : Ctr l0 yX12_endsLine cX12_endsLine 1 (none) false 6 174 0 0 [vA (some a0)] SM σ SM σ' (none) := ctr_of (by decide) (Nat.le_of_ble_eq_true rfl) (fun M O F R0 N hn => t_X12_endsLine O R0 N hn a0 σ (r, σ') h F)
def f_X12_below0_33 (a0 : Nat) (x2 : Int32) (x3 : Int32) (k0 : Int32) (σ : Dt) : Option (Int32 × Dt) := bo (xrc SM 12 (some a0)) fun a1 => bd (f_X12_numbered a1 (0 : Int32) x2 σ) fun v3 σ4 => if k0 = 0 then some (v3, σ4) else bo (xrc SM 12 (some a0)) fun a7 => bd (f_X12_also a7 (2 : Int32) x3 σ4) fun v9 σ10 => some (v3, σ10)
theorem t_X12_below0_33 {M : Mx} {l0 : Launch} (O : Ok M cX12_below0 yX12_below0) (R0 : Rm M l0 7 197 0 0) (N : Ma M = false) (hn : Mn M = 6)  (a0 : Nat) (x2 : Int32) (x3 : Int32) (k0 : Int32) (σ : Dt) (o : (Int32 × Dt)) (h : f_X12_below0_33 a0 x2 x3 k0 σ = some o) (K : Fin' M (some .int) 0 0 SM o.2 (some (vI o.1))) : G M 0 0 33 [(0, vA (some a0)), (2, vI x2), (3, vI x3)] [vI k0] SM σ := by
  unfold f_X12_below0_33 at h
  refine g_istore (lv' := [(4, vI k0), (0, vA (some a0)), (2, vI x2), (3, vI x3)]) O dX12_below0_33 6 hn (by decide) rfl ?_
  refine g_aload_n O dX12_below0_35 rfl 1 rfl ?_
  refine g_iconst (v := (0 : Int32)) O dX12_below0_36 rfl ?_
  refine g_iload_n O dX12_below0_37 rfl 2 rfl ?_
  obtain ⟨a1, e2, h⟩ := bo_some h
  obtain ⟨v3, σ4, e5, h⟩ := bd_some h
  refine g_cV1 O R0 N dX12_below0_38 vl_X12_157 vv_X12_numbered e2 [vI (0 : Int32), vI x2] rfl rfl rfl ⟨Nat.le_of_ble_eq_true rfl, Nat.le_of_ble_eq_true rfl⟩ (c_X12_numbered l0 a1 (0 : Int32) x2 σ v3 σ4 e5) ?_
  refine g_istore (lv' := [(5, vI v3), (4, vI k0), (0, vA (some a0)), (2, vI x2), (3, vI x3)]) O dX12_below0_41 6 hn (by decide) rfl ?_
  refine g_iload O dX12_below0_43 1 rfl ?_
  refine g_if_eq O dX12_below0_45 rfl (fun c6 => ?_) (fun c6 => ?_)
  · replace h := (if_pos c6).symm.trans h
    refine g_iload O dX12_below0_54 0 rfl ?_
    cases h
    exact g_ireturn O K dX12_below0_56
  · replace h := (if_neg c6).symm.trans h
    refine g_aload_n O dX12_below0_48 rfl 2 rfl ?_
    refine g_iconst (v := (2 : Int32)) O dX12_below0_49 rfl ?_
    refine g_iload_n O dX12_below0_50 rfl 4 rfl ?_
    obtain ⟨a7, e8, h⟩ := bo_some h
    obtain ⟨v9, σ10, e11, h⟩ := bd_some h
    refine g_cV0 O R0 N dX12_below0_51 vl_X12_150 vv_X12_also e8 [vI (2 : Int32), vI x3] rfl rfl rfl ⟨Nat.le_of_ble_eq_true rfl, Nat.le_of_ble_eq_true rfl⟩ (c_X12_also l0 a7 (2 : Int32) x3 σ4 v9 σ10 e11) ?_
    refine g_iload O dX12_below0_54 0 rfl ?_
    cases h
    exact g_ireturn O K dX12_below0_56
def f_X12_below0_32 (a0 : Nat) (x2 : Int32) (x3 : Int32) (σ : Dt) : Option (Int32 × Dt) := f_X12_below0_33 a0 x2 x3 (0 : Int32) σ
theorem t_X12_below0_32 {M : Mx} {l0 : Launch} (O : Ok M cX12_below0 yX12_below0) (R0 : Rm M l0 7 197 0 0) (N : Ma M = false) (hn : Mn M = 6)  (a0 : Nat) (x2 : Int32) (x3 : Int32) (σ : Dt) (o : (Int32 × Dt)) (h : f_X12_below0_32 a0 x2 x3 σ = some o) (K : Fin' M (some .int) 0 0 SM o.2 (some (vI o.1))) : G M 0 0 32 [(0, vA (some a0)), (2, vI x2), (3, vI x3)] [] SM σ := by
  unfold f_X12_below0_32 at h
  refine g_iconst (v := (0 : Int32)) O dX12_below0_32 rfl ?_
  exact t_X12_below0_33 O R0 N hn a0 x2 x3 (0 : Int32) σ o h K
def f_X12_below0 (a0 : Nat) (x1 : Int32) (x2 : Int32) (σ : Dt) : Option (Int32 × Dt) := bo (xgi SM 12 4 (some a0) σ) fun v1 => bo (xgi SM 12 8 (some a0) σ) fun v3 => if v3 = 0 then bo (xgi SM 12 5 (some a0) σ) fun v6 => if v6 = (1 : Int32) then bo (xgi SM 12 6 (some a0) σ) fun v9 => if v9 < x1 then f_X12_below0_32 a0 x2 v1 σ else f_X12_below0_33 a0 x2 v1 (1 : Int32) σ else f_X12_below0_32 a0 x2 v1 σ else f_X12_below0_32 a0 x2 v1 σ
theorem t_X12_below0 {M : Mx} {l0 : Launch} (O : Ok M cX12_below0 yX12_below0) (R0 : Rm M l0 7 197 0 0) (N : Ma M = false) (hn : Mn M = 6) (a0 : Nat) (x1 : Int32) (x2 : Int32) (σ : Dt) (o : (Int32 × Dt)) (h : f_X12_below0 a0 x1 x2 σ = some o) (K : Fin' M (some .int) 0 0 SM o.2 (some (vI o.1))) : G M 0 0 0 [(0, vA (some a0)), (1, vI x1), (2, vI x2)] [] SM σ := by
  unfold f_X12_below0 at h
  refine g_aload_n O dX12_below0_0 rfl 0 rfl ?_
  obtain ⟨v1, e2, h⟩ := bo_some h
  refine g_getI O dX12_below0_1 fl_X12_112 rfl e2 ?_
  refine g_istore_n (lv' := [(3, vI v1), (0, vA (some a0)), (1, vI x1), (2, vI x2)]) O dX12_below0_4 rfl 6 hn (by decide) rfl ?_
  refine g_aload_n O dX12_below0_5 rfl 1 rfl ?_
  obtain ⟨v3, e4, h⟩ := bo_some h
  refine g_getI O dX12_below0_6 fl_X12_139 rfl e4 ?_
  refine g_if_ne O dX12_below0_9 rfl (fun c5 => ?_) (fun c5 => ?_)
  · replace h := (if_pos c5).symm.trans h
    refine g_aload_n O dX12_below0_12 rfl 1 rfl ?_
    obtain ⟨v6, e7, h⟩ := bo_some h
    refine g_getI O dX12_below0_13 fl_X12_115 rfl e7 ?_
    refine g_iconst (v := (1 : Int32)) O dX12_below0_16 rfl ?_
    refine g_icmp_ne O dX12_below0_17 rfl (fun c8 => ?_) (fun c8 => ?_)
    · replace h := (if_pos c8).symm.trans h
      refine g_aload_n O dX12_below0_20 rfl 1 rfl ?_
      obtain ⟨v9, e10, h⟩ := bo_some h
      refine g_getI O dX12_below0_21 fl_X12_136 rfl e10 ?_
      refine g_iload_n O dX12_below0_24 rfl 2 rfl ?_
      refine g_icmp_lt O dX12_below0_25 rfl (fun c11 => ?_) (fun c11 => ?_)
      · replace h := (if_pos c11).symm.trans h
        refine g_sub [1, 3, 0] (lv' := [(0, vA (some a0)), (2, vI x2), (3, vI v1)]) rfl ?_
        exact t_X12_below0_32 O R0 N hn a0 x2 v1 σ o h K
      · replace h := (if_neg c11).symm.trans h
        refine g_iconst (v := (1 : Int32)) O dX12_below0_28 rfl ?_
        refine g_goto O dX12_below0_29 rfl ?_
        refine g_sub [1, 3, 0] (lv' := [(0, vA (some a0)), (2, vI x2), (3, vI v1)]) rfl ?_
        exact t_X12_below0_33 O R0 N hn a0 x2 v1 (1 : Int32) σ o h K
    · replace h := (if_neg c8).symm.trans h
      refine g_sub [1, 3, 0] (lv' := [(0, vA (some a0)), (2, vI x2), (3, vI v1)]) rfl ?_
      exact t_X12_below0_32 O R0 N hn a0 x2 v1 σ o h K
  · replace h := (if_neg c5).symm.trans h
    refine g_sub [1, 3, 0] (lv' := [(0, vA (some a0)), (2, vI x2), (3, vI v1)]) rfl ?_
    exact t_X12_below0_32 O R0 N hn a0 x2 v1 σ o h K
theorem c_X12_below0 (l0 : Launch) (a0 : Nat) (x1 : Int32) (x2 : Int32) (σ : Dt) (r : Int32) (σ' : Dt) (h : f_X12_below0 a0 x1 x2 σ = some (r, σ')) : Ctr l0 yX12_below0 cX12_below0 6 (some .int) false 7 197 0 0 [vA (some a0), vI x1, vI x2] SM σ SM σ' (some (vI r)) := ctr_of (by decide) (Nat.le_of_ble_eq_true rfl) (fun M O F R0 N hn => t_X12_below0 O R0 N hn a0 x1 x2 σ (r, σ') h F)
def f_X12_folkTold_17 (a0 : Nat) (σ : Dt) : Option (Unit × Dt) := bo (xrc SM 12 (some a0)) fun a1 => bd (f_X12_numbered a1 (0 : Int32) (99 : Int32) σ) fun v3 σ4 => bo (xrc SM 12 (some a0)) fun a6 => bd (f_X12_numbered a6 (0 : Int32) (9 : Int32) σ4) fun v8 σ9 => bo (xgr SM 12 10 (some a0) σ9) fun v11 => bo (xai SM v11 (0 : Int32) σ9) fun v13 => if v13 < (10 : Int32) then bo (xgr SM 12 10 (some a0) σ9) fun v16 => bo (xgr SM 12 10 (some a0) σ9) fun v18 => bo (xai SM v18 (0 : Int32) σ9) fun v20 => bo (xsi SM v16 ((3 : Int32) + ((4 : Int32) * v20)) v3 σ9) fun σ22 => bo (xgr SM 12 10 (some a0) σ22) fun v24 => bo (xgr SM 12 10 (some a0) σ22) fun v26 => bo (xai SM v26 (0 : Int32) σ22) fun v28 => bo (xsi SM v24 ((4 : Int32) + ((4 : Int32) * v28)) v8 σ22) fun σ30 => bo (xgr SM 12 10 (some a0) σ30) fun v32 => bo (xai SM v32 (0 : Int32) σ30) fun v34 => bo (xsi SM v32 (0 : Int32) (v34 + (1 : Int32)) σ30) fun σ36 => some ((), σ36) else some ((), σ9)
theorem t_X12_folkTold_17 {M : Mx} {l0 : Launch} (O : Ok M cX12_folkTold yX12_folkTold) (R0 : Rm M l0 7 197 0 0) (N : Ma M = false) (hn : Mn M = 4)  (a0 : Nat) (σ : Dt) (o : (Unit × Dt)) (h : f_X12_folkTold_17 a0 σ = some o) (K : Fin' M (none) 0 0 SM o.2 (none)) : G M 0 0 17 [(0, vA (some a0))] [] SM σ := by
  unfold f_X12_folkTold_17 at h
  refine g_aload_n O dX12_folkTold_17 rfl 0 rfl ?_
  refine g_iconst (v := (0 : Int32)) O dX12_folkTold_18 rfl ?_
  refine g_bipush (v := (99 : Int32)) O dX12_folkTold_19 rfl ?_
  obtain ⟨a1, e2, h⟩ := bo_some h
  obtain ⟨v3, σ4, e5, h⟩ := bd_some h
  refine g_cV1 O R0 N dX12_folkTold_21 vl_X12_157 vv_X12_numbered e2 [vI (0 : Int32), vI (99 : Int32)] rfl rfl rfl ⟨Nat.le_of_ble_eq_true rfl, Nat.le_of_ble_eq_true rfl⟩ (c_X12_numbered l0 a1 (0 : Int32) (99 : Int32) σ v3 σ4 e5) ?_
  refine g_istore_n (lv' := [(2, vI v3), (0, vA (some a0))]) O dX12_folkTold_24 rfl 4 hn (by decide) rfl ?_
  refine g_aload_n O dX12_folkTold_25 rfl 1 rfl ?_
  refine g_iconst (v := (0 : Int32)) O dX12_folkTold_26 rfl ?_
  refine g_bipush (v := (9 : Int32)) O dX12_folkTold_27 rfl ?_
  obtain ⟨a6, e7, h⟩ := bo_some h
  obtain ⟨v8, σ9, e10, h⟩ := bd_some h
  refine g_cV1 O R0 N dX12_folkTold_29 vl_X12_157 vv_X12_numbered e7 [vI (0 : Int32), vI (9 : Int32)] rfl rfl rfl ⟨Nat.le_of_ble_eq_true rfl, Nat.le_of_ble_eq_true rfl⟩ (c_X12_numbered l0 a6 (0 : Int32) (9 : Int32) σ4 v8 σ9 e10) ?_
  refine g_istore_n (lv' := [(3, vI v8), (2, vI v3), (0, vA (some a0))]) O dX12_folkTold_32 rfl 4 hn (by decide) rfl ?_
  refine g_aload_n O dX12_folkTold_33 rfl 2 rfl ?_
  obtain ⟨v11, e12, h⟩ := bo_some h
  refine g_getR O dX12_folkTold_34 fl_X12_17 rfl e12 ?_
  refine g_iconst (v := (0 : Int32)) O dX12_folkTold_37 rfl ?_
  obtain ⟨v13, e14, h⟩ := bo_some h
  refine g_iaload O dX12_folkTold_38 e14 ?_
  refine g_bipush (v := (10 : Int32)) O dX12_folkTold_39 rfl ?_
  refine g_icmp_lt O dX12_folkTold_41 rfl (fun c15 => ?_) (fun c15 => ?_)
  · replace h := (if_pos c15).symm.trans h
    refine g_aload_n O dX12_folkTold_45 rfl 2 rfl ?_
    obtain ⟨v16, e17, h⟩ := bo_some h
    refine g_getR O dX12_folkTold_46 fl_X12_17 rfl e17 ?_
    refine g_iconst (v := (3 : Int32)) O dX12_folkTold_49 rfl ?_
    refine g_iconst (v := (4 : Int32)) O dX12_folkTold_50 rfl ?_
    refine g_aload_n O dX12_folkTold_51 rfl 2 rfl ?_
    obtain ⟨v18, e19, h⟩ := bo_some h
    refine g_getR O dX12_folkTold_52 fl_X12_17 rfl e19 ?_
    refine g_iconst (v := (0 : Int32)) O dX12_folkTold_55 rfl ?_
    obtain ⟨v20, e21, h⟩ := bo_some h
    refine g_iaload O dX12_folkTold_56 e21 ?_
    refine g_imul O dX12_folkTold_57 ?_
    refine g_iadd O dX12_folkTold_58 ?_
    refine g_iload_n O dX12_folkTold_59 rfl 1 rfl ?_
    obtain ⟨σ22, e23, h⟩ := bo_some h
    refine g_iastore O dX12_folkTold_60 e23 ?_
    refine g_aload_n O dX12_folkTold_61 rfl 2 rfl ?_
    obtain ⟨v24, e25, h⟩ := bo_some h
    refine g_getR O dX12_folkTold_62 fl_X12_17 rfl e25 ?_
    refine g_iconst (v := (4 : Int32)) O dX12_folkTold_65 rfl ?_
    refine g_iconst (v := (4 : Int32)) O dX12_folkTold_66 rfl ?_
    refine g_aload_n O dX12_folkTold_67 rfl 2 rfl ?_
    obtain ⟨v26, e27, h⟩ := bo_some h
    refine g_getR O dX12_folkTold_68 fl_X12_17 rfl e27 ?_
    refine g_iconst (v := (0 : Int32)) O dX12_folkTold_71 rfl ?_
    obtain ⟨v28, e29, h⟩ := bo_some h
    refine g_iaload O dX12_folkTold_72 e29 ?_
    refine g_imul O dX12_folkTold_73 ?_
    refine g_iadd O dX12_folkTold_74 ?_
    refine g_iload_n O dX12_folkTold_75 rfl 0 rfl ?_
    obtain ⟨σ30, e31, h⟩ := bo_some h
    refine g_iastore O dX12_folkTold_76 e31 ?_
    refine g_aload_n O dX12_folkTold_77 rfl 2 rfl ?_
    obtain ⟨v32, e33, h⟩ := bo_some h
    refine g_getR O dX12_folkTold_78 fl_X12_17 rfl e33 ?_
    refine g_iconst (v := (0 : Int32)) O dX12_folkTold_81 rfl ?_
    refine g_dup2 O dX12_folkTold_82 rfl rfl ?_
    obtain ⟨v34, e35, h⟩ := bo_some h
    refine g_iaload O dX12_folkTold_83 e35 ?_
    refine g_iconst (v := (1 : Int32)) O dX12_folkTold_84 rfl ?_
    refine g_iadd O dX12_folkTold_85 ?_
    obtain ⟨σ36, e37, h⟩ := bo_some h
    refine g_iastore O dX12_folkTold_86 e37 ?_
    cases h
    exact g_return O K dX12_folkTold_87
  · replace h := (if_neg c15).symm.trans h
    cases h
    exact g_return O K dX12_folkTold_44
def f_X12_folkTold (a0 : Nat) (x1 : Int32) (σ : Dt) : Option (Unit × Dt) := bo (xgr SM 12 10 (some a0) σ) fun v1 => bo (xai SM v1 (0 : Int32) σ) fun v3 => if v3 < (10 : Int32) then f_X12_folkTold_17 a0 σ else bo (xrc SM 12 (some a0)) fun a6 => bd (f_X12_also a6 (3 : Int32) x1 σ) fun v8 σ9 => f_X12_folkTold_17 a0 σ9
theorem t_X12_folkTold {M : Mx} {l0 : Launch} (O : Ok M cX12_folkTold yX12_folkTold) (R0 : Rm M l0 7 197 0 0) (N : Ma M = false) (hn : Mn M = 4) (a0 : Nat) (x1 : Int32) (σ : Dt) (o : (Unit × Dt)) (h : f_X12_folkTold a0 x1 σ = some o) (K : Fin' M (none) 0 0 SM o.2 (none)) : G M 0 0 0 [(0, vA (some a0)), (1, vI x1)] [] SM σ := by
  unfold f_X12_folkTold at h
  refine g_aload_n O dX12_folkTold_0 rfl 0 rfl ?_
  obtain ⟨v1, e2, h⟩ := bo_some h
  refine g_getR O dX12_folkTold_1 fl_X12_17 rfl e2 ?_
  refine g_iconst (v := (0 : Int32)) O dX12_folkTold_4 rfl ?_
  obtain ⟨v3, e4, h⟩ := bo_some h
  refine g_iaload O dX12_folkTold_5 e4 ?_
  refine g_bipush (v := (10 : Int32)) O dX12_folkTold_6 rfl ?_
  refine g_icmp_lt O dX12_folkTold_8 rfl (fun c5 => ?_) (fun c5 => ?_)
  · replace h := (if_pos c5).symm.trans h
    refine g_sub [0] (lv' := [(0, vA (some a0))]) rfl ?_
    exact t_X12_folkTold_17 O R0 N hn a0 σ o h K
  · replace h := (if_neg c5).symm.trans h
    refine g_aload_n O dX12_folkTold_11 rfl 0 rfl ?_
    refine g_iconst (v := (3 : Int32)) O dX12_folkTold_12 rfl ?_
    refine g_iload_n O dX12_folkTold_13 rfl 1 rfl ?_
    obtain ⟨a6, e7, h⟩ := bo_some h
    obtain ⟨v8, σ9, e10, h⟩ := bd_some h
    refine g_cV0 O R0 N dX12_folkTold_14 vl_X12_150 vv_X12_also e7 [vI (3 : Int32), vI x1] rfl rfl rfl ⟨Nat.le_of_ble_eq_true rfl, Nat.le_of_ble_eq_true rfl⟩ (c_X12_also l0 a6 (3 : Int32) x1 σ v8 σ9 e10) ?_
    refine g_sub [0] (lv' := [(0, vA (some a0))]) rfl ?_
    exact t_X12_folkTold_17 O R0 N hn a0 σ9 o h K
theorem c_X12_folkTold (l0 : Launch) (a0 : Nat) (x1 : Int32) (σ : Dt) (r : Unit) (σ' : Dt) (h : f_X12_folkTold a0 x1 σ = some (r, σ')) : Ctr l0 yX12_folkTold cX12_folkTold 4 (none) false 7 197 0 0 [vA (some a0), vI x1] SM σ SM σ' (none) := ctr_of (by decide) (Nat.le_of_ble_eq_true rfl) (fun M O F R0 N hn => t_X12_folkTold O R0 N hn a0 x1 σ (r, σ') h F)
def f_X12_childTold_25 (a0 : Nat) (x1 : Int32) (k0 : Option Nat) (k1 : Int32) (σ : Dt) : Option (Unit × Dt) := bo (xpi SM 12 9 k0 k1 σ) fun σ1 => bo (xrc SM 12 (some a0)) fun a3 => bd (f_X12_below0 a3 x1 (9 : Int32) σ1) fun v5 σ6 => bo (xgr SM 12 10 (some a0) σ6) fun v8 => bo (xai SM v8 ((5 : Int32) + ((4 : Int32) * x1)) σ6) fun v10 => bo (xsi SM v8 ((5 : Int32) + ((4 : Int32) * x1)) (v10 ||| ((1 : Int32) <<< (v5 &&& 31))) σ6) fun σ12 => some ((), σ12)
theorem t_X12_childTold_25 {M : Mx} {l0 : Launch} (O : Ok M cX12_childTold yX12_childTold) (R0 : Rm M l0 8 222 0 0) (N : Ma M = false) (hn : Mn M = 3)  (a0 : Nat) (x1 : Int32) (k0 : Option Nat) (k1 : Int32) (σ : Dt) (o : (Unit × Dt)) (h : f_X12_childTold_25 a0 x1 k0 k1 σ = some o) (K : Fin' M (none) 0 0 SM o.2 (none)) : G M 0 0 25 [(0, vA (some a0)), (1, vI x1)] [vI k1, vA k0] SM σ := by
  unfold f_X12_childTold_25 at h
  obtain ⟨σ1, e2, h⟩ := bo_some h
  refine g_putI O dX12_childTold_25 fl_X12_161 (Or.inl rfl) rfl e2 ?_
  refine g_aload_n O dX12_childTold_28 rfl 0 rfl ?_
  refine g_iload_n O dX12_childTold_29 rfl 1 rfl ?_
  refine g_bipush (v := (9 : Int32)) O dX12_childTold_30 rfl ?_
  obtain ⟨a3, e4, h⟩ := bo_some h
  obtain ⟨v5, σ6, e7, h⟩ := bd_some h
  refine g_cV1 O R0 N dX12_childTold_32 vl_X12_164 vv_X12_below0 e4 [vI x1, vI (9 : Int32)] rfl rfl rfl ⟨Nat.le_of_ble_eq_true rfl, Nat.le_of_ble_eq_true rfl⟩ (c_X12_below0 l0 a3 x1 (9 : Int32) σ1 v5 σ6 e7) ?_
  refine g_istore_n (lv' := [(2, vI v5), (0, vA (some a0)), (1, vI x1)]) O dX12_childTold_35 rfl 3 hn (by decide) rfl ?_
  refine g_aload_n O dX12_childTold_36 rfl 1 rfl ?_
  obtain ⟨v8, e9, h⟩ := bo_some h
  refine g_getR O dX12_childTold_37 fl_X12_17 rfl e9 ?_
  refine g_iconst (v := (5 : Int32)) O dX12_childTold_40 rfl ?_
  refine g_iconst (v := (4 : Int32)) O dX12_childTold_41 rfl ?_
  refine g_iload_n O dX12_childTold_42 rfl 2 rfl ?_
  refine g_imul O dX12_childTold_43 ?_
  refine g_iadd O dX12_childTold_44 ?_
  refine g_dup2 O dX12_childTold_45 rfl rfl ?_
  obtain ⟨v10, e11, h⟩ := bo_some h
  refine g_iaload O dX12_childTold_46 e11 ?_
  refine g_iconst (v := (1 : Int32)) O dX12_childTold_47 rfl ?_
  refine g_iload_n O dX12_childTold_48 rfl 0 rfl ?_
  refine g_ishl O dX12_childTold_49 ?_
  refine g_ior O dX12_childTold_50 ?_
  obtain ⟨σ12, e13, h⟩ := bo_some h
  refine g_iastore O dX12_childTold_51 e13 ?_
  cases h
  exact g_return O K dX12_childTold_52
def f_X12_childTold (a0 : Nat) (σ : Dt) : Option (Unit × Dt) := bo (xrc SM 12 (some a0)) fun a1 => bd (f_X12_numbered a1 (0 : Int32) (9 : Int32) σ) fun v3 σ4 => bo (xgi SM 12 9 (some a0) σ4) fun v6 => if v3 ≤ v6 then bo (xgi SM 12 9 (some a0) σ4) fun v9 => f_X12_childTold_25 a0 v3 (some a0) v9 σ4 else f_X12_childTold_25 a0 v3 (some a0) v3 σ4
theorem t_X12_childTold {M : Mx} {l0 : Launch} (O : Ok M cX12_childTold yX12_childTold) (R0 : Rm M l0 8 222 0 0) (N : Ma M = false) (hn : Mn M = 3) (a0 : Nat) (σ : Dt) (o : (Unit × Dt)) (h : f_X12_childTold a0 σ = some o) (K : Fin' M (none) 0 0 SM o.2 (none)) : G M 0 0 0 [(0, vA (some a0))] [] SM σ := by
  unfold f_X12_childTold at h
  refine g_aload_n O dX12_childTold_0 rfl 0 rfl ?_
  refine g_iconst (v := (0 : Int32)) O dX12_childTold_1 rfl ?_
  refine g_bipush (v := (9 : Int32)) O dX12_childTold_2 rfl ?_
  obtain ⟨a1, e2, h⟩ := bo_some h
  obtain ⟨v3, σ4, e5, h⟩ := bd_some h
  refine g_cV1 O R0 N dX12_childTold_4 vl_X12_157 vv_X12_numbered e2 [vI (0 : Int32), vI (9 : Int32)] rfl rfl rfl ⟨Nat.le_of_ble_eq_true rfl, Nat.le_of_ble_eq_true rfl⟩ (c_X12_numbered l0 a1 (0 : Int32) (9 : Int32) σ v3 σ4 e5) ?_
  refine g_istore_n (lv' := [(1, vI v3), (0, vA (some a0))]) O dX12_childTold_7 rfl 3 hn (by decide) rfl ?_
  refine g_aload_n O dX12_childTold_8 rfl 1 rfl ?_
  refine g_iload_n O dX12_childTold_9 rfl 0 rfl ?_
  refine g_aload_n O dX12_childTold_10 rfl 1 rfl ?_
  obtain ⟨v6, e7, h⟩ := bo_some h
  refine g_getI O dX12_childTold_11 fl_X12_161 rfl e7 ?_
  refine g_icmp_le O dX12_childTold_14 rfl (fun c8 => ?_) (fun c8 => ?_)
  · replace h := (if_pos c8).symm.trans h
    refine g_aload_n O dX12_childTold_21 rfl 1 rfl ?_
    obtain ⟨v9, e10, h⟩ := bo_some h
    refine g_getI O dX12_childTold_22 fl_X12_161 rfl e10 ?_
    refine g_sub [1, 0] (lv' := [(0, vA (some a0)), (1, vI v3)]) rfl ?_
    exact t_X12_childTold_25 O R0 N hn a0 v3 (some a0) v9 σ4 o h K
  · replace h := (if_neg c8).symm.trans h
    refine g_iload_n O dX12_childTold_17 rfl 0 rfl ?_
    refine g_goto O dX12_childTold_18 rfl ?_
    refine g_sub [1, 0] (lv' := [(0, vA (some a0)), (1, vI v3)]) rfl ?_
    exact t_X12_childTold_25 O R0 N hn a0 v3 (some a0) v3 σ4 o h K
theorem c_X12_childTold (l0 : Launch) (a0 : Nat) (σ : Dt) (r : Unit) (σ' : Dt) (h : f_X12_childTold a0 σ = some (r, σ')) : Ctr l0 yX12_childTold cX12_childTold 3 (none) false 8 222 0 0 [vA (some a0)] SM σ SM σ' (none) := ctr_of (by decide) (Nat.le_of_ble_eq_true rfl) (fun M O F R0 N hn => t_X12_childTold O R0 N hn a0 σ (r, σ') h F)
def f_X12_workTold_17 (a0 : Nat) (σ : Dt) : Option (Unit × Dt) := bo (xrc SM 12 (some a0)) fun a1 => bd (f_X12_numbered a1 (1 : Int32) (30 : Int32) σ) fun v3 σ4 => bo (xrc SM 12 (some a0)) fun a6 => bd (f_X12_numbered a6 (0 : Int32) (20 : Int32) σ4) fun v8 σ9 => bo (xgr SM 12 10 (some a0) σ9) fun v11 => bo (xai SM v11 (1 : Int32) σ9) fun v13 => if v13 < (6 : Int32) then bo (xgr SM 12 10 (some a0) σ9) fun v16 => bo (xgr SM 12 10 (some a0) σ9) fun v18 => bo (xai SM v18 (1 : Int32) σ9) fun v20 => bo (xsi SM v16 ((43 : Int32) + ((2 : Int32) * v20)) v3 σ9) fun σ22 => bo (xgr SM 12 10 (some a0) σ22) fun v24 => bo (xgr SM 12 10 (some a0) σ22) fun v26 => bo (xai SM v26 (1 : Int32) σ22) fun v28 => bo (xsi SM v24 ((44 : Int32) + ((2 : Int32) * v28)) v8 σ22) fun σ30 => bo (xgr SM 12 10 (some a0) σ30) fun v32 => bo (xai SM v32 (1 : Int32) σ30) fun v34 => bo (xsi SM v32 (1 : Int32) (v34 + (1 : Int32)) σ30) fun σ36 => some ((), σ36) else some ((), σ9)
theorem t_X12_workTold_17 {M : Mx} {l0 : Launch} (O : Ok M cX12_workTold yX12_workTold) (R0 : Rm M l0 7 197 0 0) (N : Ma M = false) (hn : Mn M = 4)  (a0 : Nat) (σ : Dt) (o : (Unit × Dt)) (h : f_X12_workTold_17 a0 σ = some o) (K : Fin' M (none) 0 0 SM o.2 (none)) : G M 0 0 17 [(0, vA (some a0))] [] SM σ := by
  unfold f_X12_workTold_17 at h
  refine g_aload_n O dX12_workTold_17 rfl 0 rfl ?_
  refine g_iconst (v := (1 : Int32)) O dX12_workTold_18 rfl ?_
  refine g_bipush (v := (30 : Int32)) O dX12_workTold_19 rfl ?_
  obtain ⟨a1, e2, h⟩ := bo_some h
  obtain ⟨v3, σ4, e5, h⟩ := bd_some h
  refine g_cV1 O R0 N dX12_workTold_21 vl_X12_157 vv_X12_numbered e2 [vI (1 : Int32), vI (30 : Int32)] rfl rfl rfl ⟨Nat.le_of_ble_eq_true rfl, Nat.le_of_ble_eq_true rfl⟩ (c_X12_numbered l0 a1 (1 : Int32) (30 : Int32) σ v3 σ4 e5) ?_
  refine g_istore_n (lv' := [(2, vI v3), (0, vA (some a0))]) O dX12_workTold_24 rfl 4 hn (by decide) rfl ?_
  refine g_aload_n O dX12_workTold_25 rfl 1 rfl ?_
  refine g_iconst (v := (0 : Int32)) O dX12_workTold_26 rfl ?_
  refine g_bipush (v := (20 : Int32)) O dX12_workTold_27 rfl ?_
  obtain ⟨a6, e7, h⟩ := bo_some h
  obtain ⟨v8, σ9, e10, h⟩ := bd_some h
  refine g_cV1 O R0 N dX12_workTold_29 vl_X12_157 vv_X12_numbered e7 [vI (0 : Int32), vI (20 : Int32)] rfl rfl rfl ⟨Nat.le_of_ble_eq_true rfl, Nat.le_of_ble_eq_true rfl⟩ (c_X12_numbered l0 a6 (0 : Int32) (20 : Int32) σ4 v8 σ9 e10) ?_
  refine g_istore_n (lv' := [(3, vI v8), (2, vI v3), (0, vA (some a0))]) O dX12_workTold_32 rfl 4 hn (by decide) rfl ?_
  refine g_aload_n O dX12_workTold_33 rfl 2 rfl ?_
  obtain ⟨v11, e12, h⟩ := bo_some h
  refine g_getR O dX12_workTold_34 fl_X12_17 rfl e12 ?_
  refine g_iconst (v := (1 : Int32)) O dX12_workTold_37 rfl ?_
  obtain ⟨v13, e14, h⟩ := bo_some h
  refine g_iaload O dX12_workTold_38 e14 ?_
  refine g_bipush (v := (6 : Int32)) O dX12_workTold_39 rfl ?_
  refine g_icmp_lt O dX12_workTold_41 rfl (fun c15 => ?_) (fun c15 => ?_)
  · replace h := (if_pos c15).symm.trans h
    refine g_aload_n O dX12_workTold_45 rfl 2 rfl ?_
    obtain ⟨v16, e17, h⟩ := bo_some h
    refine g_getR O dX12_workTold_46 fl_X12_17 rfl e17 ?_
    refine g_bipush (v := (43 : Int32)) O dX12_workTold_49 rfl ?_
    refine g_iconst (v := (2 : Int32)) O dX12_workTold_51 rfl ?_
    refine g_aload_n O dX12_workTold_52 rfl 2 rfl ?_
    obtain ⟨v18, e19, h⟩ := bo_some h
    refine g_getR O dX12_workTold_53 fl_X12_17 rfl e19 ?_
    refine g_iconst (v := (1 : Int32)) O dX12_workTold_56 rfl ?_
    obtain ⟨v20, e21, h⟩ := bo_some h
    refine g_iaload O dX12_workTold_57 e21 ?_
    refine g_imul O dX12_workTold_58 ?_
    refine g_iadd O dX12_workTold_59 ?_
    refine g_iload_n O dX12_workTold_60 rfl 1 rfl ?_
    obtain ⟨σ22, e23, h⟩ := bo_some h
    refine g_iastore O dX12_workTold_61 e23 ?_
    refine g_aload_n O dX12_workTold_62 rfl 2 rfl ?_
    obtain ⟨v24, e25, h⟩ := bo_some h
    refine g_getR O dX12_workTold_63 fl_X12_17 rfl e25 ?_
    refine g_bipush (v := (44 : Int32)) O dX12_workTold_66 rfl ?_
    refine g_iconst (v := (2 : Int32)) O dX12_workTold_68 rfl ?_
    refine g_aload_n O dX12_workTold_69 rfl 2 rfl ?_
    obtain ⟨v26, e27, h⟩ := bo_some h
    refine g_getR O dX12_workTold_70 fl_X12_17 rfl e27 ?_
    refine g_iconst (v := (1 : Int32)) O dX12_workTold_73 rfl ?_
    obtain ⟨v28, e29, h⟩ := bo_some h
    refine g_iaload O dX12_workTold_74 e29 ?_
    refine g_imul O dX12_workTold_75 ?_
    refine g_iadd O dX12_workTold_76 ?_
    refine g_iload_n O dX12_workTold_77 rfl 0 rfl ?_
    obtain ⟨σ30, e31, h⟩ := bo_some h
    refine g_iastore O dX12_workTold_78 e31 ?_
    refine g_aload_n O dX12_workTold_79 rfl 2 rfl ?_
    obtain ⟨v32, e33, h⟩ := bo_some h
    refine g_getR O dX12_workTold_80 fl_X12_17 rfl e33 ?_
    refine g_iconst (v := (1 : Int32)) O dX12_workTold_83 rfl ?_
    refine g_dup2 O dX12_workTold_84 rfl rfl ?_
    obtain ⟨v34, e35, h⟩ := bo_some h
    refine g_iaload O dX12_workTold_85 e35 ?_
    refine g_iconst (v := (1 : Int32)) O dX12_workTold_86 rfl ?_
    refine g_iadd O dX12_workTold_87 ?_
    obtain ⟨σ36, e37, h⟩ := bo_some h
    refine g_iastore O dX12_workTold_88 e37 ?_
    cases h
    exact g_return O K dX12_workTold_89
  · replace h := (if_neg c15).symm.trans h
    cases h
    exact g_return O K dX12_workTold_44
def f_X12_workTold (a0 : Nat) (x1 : Int32) (σ : Dt) : Option (Unit × Dt) := bo (xgr SM 12 10 (some a0) σ) fun v1 => bo (xai SM v1 (1 : Int32) σ) fun v3 => if v3 < (6 : Int32) then f_X12_workTold_17 a0 σ else bo (xrc SM 12 (some a0)) fun a6 => bd (f_X12_also a6 (3 : Int32) x1 σ) fun v8 σ9 => f_X12_workTold_17 a0 σ9
theorem t_X12_workTold {M : Mx} {l0 : Launch} (O : Ok M cX12_workTold yX12_workTold) (R0 : Rm M l0 7 197 0 0) (N : Ma M = false) (hn : Mn M = 4) (a0 : Nat) (x1 : Int32) (σ : Dt) (o : (Unit × Dt)) (h : f_X12_workTold a0 x1 σ = some o) (K : Fin' M (none) 0 0 SM o.2 (none)) : G M 0 0 0 [(0, vA (some a0)), (1, vI x1)] [] SM σ := by
  unfold f_X12_workTold at h
  refine g_aload_n O dX12_workTold_0 rfl 0 rfl ?_
  obtain ⟨v1, e2, h⟩ := bo_some h
  refine g_getR O dX12_workTold_1 fl_X12_17 rfl e2 ?_
  refine g_iconst (v := (1 : Int32)) O dX12_workTold_4 rfl ?_
  obtain ⟨v3, e4, h⟩ := bo_some h
  refine g_iaload O dX12_workTold_5 e4 ?_
  refine g_bipush (v := (6 : Int32)) O dX12_workTold_6 rfl ?_
  refine g_icmp_lt O dX12_workTold_8 rfl (fun c5 => ?_) (fun c5 => ?_)
  · replace h := (if_pos c5).symm.trans h
    refine g_sub [0] (lv' := [(0, vA (some a0))]) rfl ?_
    exact t_X12_workTold_17 O R0 N hn a0 σ o h K
  · replace h := (if_neg c5).symm.trans h
    refine g_aload_n O dX12_workTold_11 rfl 0 rfl ?_
    refine g_iconst (v := (3 : Int32)) O dX12_workTold_12 rfl ?_
    refine g_iload_n O dX12_workTold_13 rfl 1 rfl ?_
    obtain ⟨a6, e7, h⟩ := bo_some h
    obtain ⟨v8, σ9, e10, h⟩ := bd_some h
    refine g_cV0 O R0 N dX12_workTold_14 vl_X12_150 vv_X12_also e7 [vI (3 : Int32), vI x1] rfl rfl rfl ⟨Nat.le_of_ble_eq_true rfl, Nat.le_of_ble_eq_true rfl⟩ (c_X12_also l0 a6 (3 : Int32) x1 σ v8 σ9 e10) ?_
    refine g_sub [0] (lv' := [(0, vA (some a0))]) rfl ?_
    exact t_X12_workTold_17 O R0 N hn a0 σ9 o h K
theorem c_X12_workTold (l0 : Launch) (a0 : Nat) (x1 : Int32) (σ : Dt) (r : Unit) (σ' : Dt) (h : f_X12_workTold a0 x1 σ = some (r, σ')) : Ctr l0 yX12_workTold cX12_workTold 4 (none) false 7 197 0 0 [vA (some a0), vI x1] SM σ SM σ' (none) := ctr_of (by decide) (Nat.le_of_ble_eq_true rfl) (fun M O F R0 N hn => t_X12_workTold O R0 N hn a0 x1 σ (r, σ') h F)
def f_X12_valleyLine_95 (a0 : Nat) (σ : Dt) : Option (Unit × Dt) := bo (xrc SM 12 (some a0)) fun a1 => bd (f_X12_endsLine a1 σ) fun v3 σ4 => some ((), σ4)
theorem t_X12_valleyLine_95 {M : Mx} {l0 : Launch} (O : Ok M cX12_valleyLine yX12_valleyLine) (R0 : Rm M l0 9 244 0 0) (N : Ma M = false) (hn : Mn M = 3)  (a0 : Nat) (σ : Dt) (o : (Unit × Dt)) (h : f_X12_valleyLine_95 a0 σ = some o) (K : Fin' M (none) 0 0 SM o.2 (none)) : G M 0 0 95 [(0, vA (some a0))] [] SM σ := by
  unfold f_X12_valleyLine_95 at h
  refine g_aload_n O dX12_valleyLine_95 rfl 0 rfl ?_
  obtain ⟨a1, e2, h⟩ := bo_some h
  obtain ⟨v3, σ4, e5, h⟩ := bd_some h
  refine g_cV0 O R0 N dX12_valleyLine_96 vl_X12_180 vv_X12_endsLine e2 [] rfl rfl rfl ⟨Nat.le_of_ble_eq_true rfl, Nat.le_of_ble_eq_true rfl⟩ (c_X12_endsLine l0 a1 σ v3 σ4 e5) ?_
  cases h
  exact g_return O K dX12_valleyLine_99
def f_X12_valleyLine_24 (a0 : Nat) (x1 : Int32) (k0 : Int32) (σ : Dt) : Option (Unit × Dt) := if k0 = (1 : Int32) then bo (xrc SM 12 (some a0)) fun a2 => bd (f_X12_folkTold a2 x1 σ) fun v4 σ5 => f_X12_valleyLine_95 a0 σ5 else if k0 = (2 : Int32) then bo (xrc SM 12 (some a0)) fun a8 => bd (f_X12_childTold a8 σ) fun v10 σ11 => f_X12_valleyLine_95 a0 σ11 else if k0 = (3 : Int32) then bo (xrc SM 12 (some a0)) fun a14 => bd (f_X12_workTold a14 x1 σ) fun v16 σ17 => f_X12_valleyLine_95 a0 σ17 else if k0 = (4 : Int32) then bo (xgr SM 12 10 (some a0) σ) fun v20 => bo (xrc SM 12 (some a0)) fun a22 => bd (f_X12_numbered a22 (1 : Int32) (30 : Int32) σ) fun v24 σ25 => bo (xsi SM v20 (2 : Int32) v24 σ25) fun σ27 => f_X12_valleyLine_95 a0 σ27 else f_X12_valleyLine_95 a0 σ
theorem t_X12_valleyLine_24 {M : Mx} {l0 : Launch} (O : Ok M cX12_valleyLine yX12_valleyLine) (R0 : Rm M l0 9 244 0 0) (N : Ma M = false) (hn : Mn M = 3)  (a0 : Nat) (x1 : Int32) (k0 : Int32) (σ : Dt) (o : (Unit × Dt)) (h : f_X12_valleyLine_24 a0 x1 k0 σ = some o) (K : Fin' M (none) 0 0 SM o.2 (none)) : G M 0 0 24 [(0, vA (some a0)), (1, vI x1)] [vI k0] SM σ := by
  unfold f_X12_valleyLine_24 at h
  by_cases c1 : k0 = (1 : Int32)
  · replace h := (if_pos c1).symm.trans h
    refine g_tabIn O dX12_valleyLine_24 (by rw [c1]; decide) (by rw [c1]; decide) (by rw [c1]; rfl) rfl ?_
    refine g_aload_n O dX12_valleyLine_56 rfl 0 rfl ?_
    refine g_iload_n O dX12_valleyLine_57 rfl 1 rfl ?_
    obtain ⟨a2, e3, h⟩ := bo_some h
    obtain ⟨v4, σ5, e6, h⟩ := bd_some h
    refine g_cV0 O R0 N dX12_valleyLine_58 vl_X12_170 vv_X12_folkTold e3 [vI x1] rfl rfl rfl ⟨Nat.le_of_ble_eq_true rfl, Nat.le_of_ble_eq_true rfl⟩ (c_X12_folkTold l0 a2 x1 σ v4 σ5 e6) ?_
    refine g_goto O dX12_valleyLine_61 rfl ?_
    refine g_sub [0] (lv' := [(0, vA (some a0))]) rfl ?_
    exact t_X12_valleyLine_95 O R0 N hn a0 σ5 o h K
  replace h := (if_neg c1).symm.trans h
  by_cases c7 : k0 = (2 : Int32)
  · replace h := (if_pos c7).symm.trans h
    refine g_tabIn O dX12_valleyLine_24 (by rw [c7]; decide) (by rw [c7]; decide) (by rw [c7]; rfl) rfl ?_
    refine g_aload_n O dX12_valleyLine_64 rfl 0 rfl ?_
    obtain ⟨a8, e9, h⟩ := bo_some h
    obtain ⟨v10, σ11, e12, h⟩ := bd_some h
    refine g_cV0 O R0 N dX12_valleyLine_65 vl_X12_174 vv_X12_childTold e9 [] rfl rfl rfl ⟨Nat.le_of_ble_eq_true rfl, Nat.le_of_ble_eq_true rfl⟩ (c_X12_childTold l0 a8 σ v10 σ11 e12) ?_
    refine g_goto O dX12_valleyLine_68 rfl ?_
    refine g_sub [0] (lv' := [(0, vA (some a0))]) rfl ?_
    exact t_X12_valleyLine_95 O R0 N hn a0 σ11 o h K
  replace h := (if_neg c7).symm.trans h
  by_cases c13 : k0 = (3 : Int32)
  · replace h := (if_pos c13).symm.trans h
    refine g_tabIn O dX12_valleyLine_24 (by rw [c13]; decide) (by rw [c13]; decide) (by rw [c13]; rfl) rfl ?_
    refine g_aload_n O dX12_valleyLine_71 rfl 0 rfl ?_
    refine g_iload_n O dX12_valleyLine_72 rfl 1 rfl ?_
    obtain ⟨a14, e15, h⟩ := bo_some h
    obtain ⟨v16, σ17, e18, h⟩ := bd_some h
    refine g_cV0 O R0 N dX12_valleyLine_73 vl_X12_177 vv_X12_workTold e15 [vI x1] rfl rfl rfl ⟨Nat.le_of_ble_eq_true rfl, Nat.le_of_ble_eq_true rfl⟩ (c_X12_workTold l0 a14 x1 σ v16 σ17 e18) ?_
    refine g_goto O dX12_valleyLine_76 rfl ?_
    refine g_sub [0] (lv' := [(0, vA (some a0))]) rfl ?_
    exact t_X12_valleyLine_95 O R0 N hn a0 σ17 o h K
  replace h := (if_neg c13).symm.trans h
  by_cases c19 : k0 = (4 : Int32)
  · replace h := (if_pos c19).symm.trans h
    refine g_tabIn O dX12_valleyLine_24 (by rw [c19]; decide) (by rw [c19]; decide) (by rw [c19]; rfl) rfl ?_
    refine g_aload_n O dX12_valleyLine_79 rfl 0 rfl ?_
    obtain ⟨v20, e21, h⟩ := bo_some h
    refine g_getR O dX12_valleyLine_80 fl_X12_17 rfl e21 ?_
    refine g_iconst (v := (2 : Int32)) O dX12_valleyLine_83 rfl ?_
    refine g_aload_n O dX12_valleyLine_84 rfl 0 rfl ?_
    refine g_iconst (v := (1 : Int32)) O dX12_valleyLine_85 rfl ?_
    refine g_bipush (v := (30 : Int32)) O dX12_valleyLine_86 rfl ?_
    obtain ⟨a22, e23, h⟩ := bo_some h
    obtain ⟨v24, σ25, e26, h⟩ := bd_some h
    refine g_cV1 O R0 N dX12_valleyLine_88 vl_X12_157 vv_X12_numbered e23 [vI (1 : Int32), vI (30 : Int32)] rfl rfl rfl ⟨Nat.le_of_ble_eq_true rfl, Nat.le_of_ble_eq_true rfl⟩ (c_X12_numbered l0 a22 (1 : Int32) (30 : Int32) σ v24 σ25 e26) ?_
    obtain ⟨σ27, e28, h⟩ := bo_some h
    refine g_iastore O dX12_valleyLine_91 e28 ?_
    refine g_goto O dX12_valleyLine_92 rfl ?_
    refine g_sub [0] (lv' := [(0, vA (some a0))]) rfl ?_
    exact t_X12_valleyLine_95 O R0 N hn a0 σ27 o h K
  replace h := (if_neg c19).symm.trans h
  refine g_tabOut O dX12_valleyLine_24 (tab_out [(1 : Int32), (2 : Int32), (3 : Int32), (4 : Int32)] (fun z h1 h2 => ?_) (fun c hc => ?_)) rfl ?_
  · have hz : z = 1 ∨ z = 2 ∨ z = 3 ∨ z = 4 := by omega
    rcases hz with rfl | rfl | rfl | rfl
    · exact ⟨(1 : Int32), by simp, rfl⟩
    · exact ⟨(2 : Int32), by simp, rfl⟩
    · exact ⟨(3 : Int32), by simp, rfl⟩
    · exact ⟨(4 : Int32), by simp, rfl⟩
  · simp only [List.mem_cons, List.not_mem_nil, or_false] at hc
    rcases hc with rfl | rfl | rfl | rfl <;> assumption
  refine g_sub [0] (lv' := [(0, vA (some a0))]) rfl ?_
  exact t_X12_valleyLine_95 O R0 N hn a0 σ o h K
def f_X12_valleyLine (a0 : Nat) (σ : Dt) : Option (Unit × Dt) := bo (xgi SM 12 4 (some a0) σ) fun v1 => bo (xrc SM 12 (some a0)) fun a3 => bd (f_X12_wordIn a3 (1 : Int32) (4 : Int32) σ) fun v5 σ6 => bo (xgi SM 12 8 (some a0) σ6) fun v8 => if v8 = 0 then f_X12_valleyLine_24 a0 v1 v5 σ6 else f_X12_valleyLine_24 a0 v1 (0 : Int32) σ6
theorem t_X12_valleyLine {M : Mx} {l0 : Launch} (O : Ok M cX12_valleyLine yX12_valleyLine) (R0 : Rm M l0 9 244 0 0) (N : Ma M = false) (hn : Mn M = 3) (a0 : Nat) (σ : Dt) (o : (Unit × Dt)) (h : f_X12_valleyLine a0 σ = some o) (K : Fin' M (none) 0 0 SM o.2 (none)) : G M 0 0 0 [(0, vA (some a0))] [] SM σ := by
  unfold f_X12_valleyLine at h
  refine g_aload_n O dX12_valleyLine_0 rfl 0 rfl ?_
  obtain ⟨v1, e2, h⟩ := bo_some h
  refine g_getI O dX12_valleyLine_1 fl_X12_112 rfl e2 ?_
  refine g_istore_n (lv' := [(1, vI v1), (0, vA (some a0))]) O dX12_valleyLine_4 rfl 3 hn (by decide) rfl ?_
  refine g_aload_n O dX12_valleyLine_5 rfl 1 rfl ?_
  refine g_iconst (v := (1 : Int32)) O dX12_valleyLine_6 rfl ?_
  refine g_iconst (v := (4 : Int32)) O dX12_valleyLine_7 rfl ?_
  obtain ⟨a3, e4, h⟩ := bo_some h
  obtain ⟨v5, σ6, e7, h⟩ := bd_some h
  refine g_cV1 O R0 N dX12_valleyLine_8 vl_X12_167 vv_X12_wordIn e4 [vI (1 : Int32), vI (4 : Int32)] rfl rfl rfl ⟨Nat.le_of_ble_eq_true rfl, Nat.le_of_ble_eq_true rfl⟩ (c_X12_wordIn l0 a3 (1 : Int32) (4 : Int32) σ v5 σ6 e7) ?_
  refine g_istore_n (lv' := [(2, vI v5), (1, vI v1), (0, vA (some a0))]) O dX12_valleyLine_11 rfl 3 hn (by decide) rfl ?_
  refine g_aload_n O dX12_valleyLine_12 rfl 2 rfl ?_
  obtain ⟨v8, e9, h⟩ := bo_some h
  refine g_getI O dX12_valleyLine_13 fl_X12_139 rfl e9 ?_
  refine g_if_eq O dX12_valleyLine_16 rfl (fun c10 => ?_) (fun c10 => ?_)
  · replace h := (if_pos c10).symm.trans h
    refine g_iload_n O dX12_valleyLine_23 rfl 0 rfl ?_
    refine g_sub [2, 1] (lv' := [(0, vA (some a0)), (1, vI v1)]) rfl ?_
    exact t_X12_valleyLine_24 O R0 N hn a0 v1 v5 σ6 o h K
  · replace h := (if_neg c10).symm.trans h
    refine g_iconst (v := (0 : Int32)) O dX12_valleyLine_19 rfl ?_
    refine g_goto O dX12_valleyLine_20 rfl ?_
    refine g_sub [2, 1] (lv' := [(0, vA (some a0)), (1, vI v1)]) rfl ?_
    exact t_X12_valleyLine_24 O R0 N hn a0 v1 (0 : Int32) σ6 o h K
theorem c_X12_valleyLine (l0 : Launch) (a0 : Nat) (σ : Dt) (r : Unit) (σ' : Dt) (h : f_X12_valleyLine a0 σ = some (r, σ')) : Ctr l0 yX12_valleyLine cX12_valleyLine 3 (none) false 9 244 0 0 [vA (some a0)] SM σ SM σ' (none) := ctr_of (by decide) (Nat.le_of_ble_eq_true rfl) (fun M O F R0 N hn => t_X12_valleyLine O R0 N hn a0 σ (r, σ') h F)
def f_X12_lifeLine_177 (a0 : Nat) (σ : Dt) : Option (Unit × Dt) := bo (xrc SM 12 (some a0)) fun a1 => bd (f_X12_endsLine a1 σ) fun v3 σ4 => some ((), σ4)
theorem t_X12_lifeLine_177 {M : Mx} {l0 : Launch} (O : Ok M cX12_lifeLine yX12_lifeLine) (R0 : Rm M l0 7 197 0 0) (N : Ma M = false) (hn : Mn M = 7)  (a0 : Nat) (σ : Dt) (o : (Unit × Dt)) (h : f_X12_lifeLine_177 a0 σ = some o) (K : Fin' M (none) 0 0 SM o.2 (none)) : G M 0 0 177 [(0, vA (some a0))] [] SM σ := by
  unfold f_X12_lifeLine_177 at h
  refine g_aload_n O dX12_lifeLine_177 rfl 0 rfl ?_
  obtain ⟨a1, e2, h⟩ := bo_some h
  obtain ⟨v3, σ4, e5, h⟩ := bd_some h
  refine g_cV0 O R0 N dX12_lifeLine_178 vl_X12_180 vv_X12_endsLine e2 [] rfl rfl rfl ⟨Nat.le_of_ble_eq_true rfl, Nat.le_of_ble_eq_true rfl⟩ (c_X12_endsLine l0 a1 σ v3 σ4 e5) ?_
  cases h
  exact g_return O K dX12_lifeLine_181
def f_X12_lifeLine_102 (a0 : Nat) (x2 : Int32) (x3 : Int32) (x4 : Int32) (k0 : Int32) (σ : Dt) : Option (Unit × Dt) := bo (xgr SM 12 10 (some a0) σ) fun v1 => bo (xai SM v1 (0 : Int32) σ) fun v3 => if (40 : Int32) ≤ v3 then f_X12_lifeLine_177 a0 σ else bo (xgr SM 12 10 (some a0) σ) fun v6 => bo (xai SM v6 (0 : Int32) σ) fun v8 => bo (xgr SM 12 10 (some a0) σ) fun v10 => bo (xsi SM v10 ((1 : Int32) + ((4 : Int32) * v8)) x2 σ) fun σ12 => bo (xgr SM 12 10 (some a0) σ12) fun v14 => bo (xsi SM v14 (((1 : Int32) + ((4 : Int32) * v8)) + (1 : Int32)) x3 σ12) fun σ16 => bo (xgr SM 12 10 (some a0) σ16) fun v18 => bo (xsi SM v18 (((1 : Int32) + ((4 : Int32) * v8)) + (2 : Int32)) x4 σ16) fun σ20 => bo (xgr SM 12 10 (some a0) σ20) fun v22 => bo (xsi SM v22 (((1 : Int32) + ((4 : Int32) * v8)) + (3 : Int32)) k0 σ20) fun σ24 => bo (xgr SM 12 10 (some a0) σ24) fun v26 => bo (xai SM v26 (0 : Int32) σ24) fun v28 => bo (xsi SM v26 (0 : Int32) (v28 + (1 : Int32)) σ24) fun σ30 => f_X12_lifeLine_177 a0 σ30
theorem t_X12_lifeLine_102 {M : Mx} {l0 : Launch} (O : Ok M cX12_lifeLine yX12_lifeLine) (R0 : Rm M l0 7 197 0 0) (N : Ma M = false) (hn : Mn M = 7)  (a0 : Nat) (x2 : Int32) (x3 : Int32) (x4 : Int32) (k0 : Int32) (σ : Dt) (o : (Unit × Dt)) (h : f_X12_lifeLine_102 a0 x2 x3 x4 k0 σ = some o) (K : Fin' M (none) 0 0 SM o.2 (none)) : G M 0 0 102 [(0, vA (some a0)), (2, vI x2), (3, vI x3), (4, vI x4)] [vI k0] SM σ := by
  unfold f_X12_lifeLine_102 at h
  refine g_istore (lv' := [(5, vI k0), (0, vA (some a0)), (2, vI x2), (3, vI x3), (4, vI x4)]) O dX12_lifeLine_102 7 hn (by decide) rfl ?_
  refine g_aload_n O dX12_lifeLine_104 rfl 1 rfl ?_
  obtain ⟨v1, e2, h⟩ := bo_some h
  refine g_getR O dX12_lifeLine_105 fl_X12_17 rfl e2 ?_
  refine g_iconst (v := (0 : Int32)) O dX12_lifeLine_108 rfl ?_
  obtain ⟨v3, e4, h⟩ := bo_some h
  refine g_iaload O dX12_lifeLine_109 e4 ?_
  refine g_bipush (v := (40 : Int32)) O dX12_lifeLine_110 rfl ?_
  refine g_icmp_ge O dX12_lifeLine_112 rfl (fun c5 => ?_) (fun c5 => ?_)
  · replace h := (if_pos c5).symm.trans h
    refine g_sub [1] (lv' := [(0, vA (some a0))]) rfl ?_
    exact t_X12_lifeLine_177 O R0 N hn a0 σ o h K
  · replace h := (if_neg c5).symm.trans h
    refine g_iconst (v := (1 : Int32)) O dX12_lifeLine_115 rfl ?_
    refine g_iconst (v := (4 : Int32)) O dX12_lifeLine_116 rfl ?_
    refine g_aload_n O dX12_lifeLine_117 rfl 1 rfl ?_
    obtain ⟨v6, e7, h⟩ := bo_some h
    refine g_getR O dX12_lifeLine_118 fl_X12_17 rfl e7 ?_
    refine g_iconst (v := (0 : Int32)) O dX12_lifeLine_121 rfl ?_
    obtain ⟨v8, e9, h⟩ := bo_some h
    refine g_iaload O dX12_lifeLine_122 e9 ?_
    refine g_imul O dX12_lifeLine_123 ?_
    refine g_iadd O dX12_lifeLine_124 ?_
    refine g_istore (lv' := [(6, vI ((1 : Int32) + ((4 : Int32) * v8))), (5, vI k0), (0, vA (some a0)), (2, vI x2), (3, vI x3), (4, vI x4)]) O dX12_lifeLine_125 7 hn (by decide) rfl ?_
    refine g_aload_n O dX12_lifeLine_127 rfl 2 rfl ?_
    obtain ⟨v10, e11, h⟩ := bo_some h
    refine g_getR O dX12_lifeLine_128 fl_X12_17 rfl e11 ?_
    refine g_iload O dX12_lifeLine_131 0 rfl ?_
    refine g_iload_n O dX12_lifeLine_133 rfl 3 rfl ?_
    obtain ⟨σ12, e13, h⟩ := bo_some h
    refine g_iastore O dX12_lifeLine_134 e13 ?_
    refine g_aload_n O dX12_lifeLine_135 rfl 2 rfl ?_
    obtain ⟨v14, e15, h⟩ := bo_some h
    refine g_getR O dX12_lifeLine_136 fl_X12_17 rfl e15 ?_
    refine g_iload O dX12_lifeLine_139 0 rfl ?_
    refine g_iconst (v := (1 : Int32)) O dX12_lifeLine_141 rfl ?_
    refine g_iadd O dX12_lifeLine_142 ?_
    refine g_iload_n O dX12_lifeLine_143 rfl 4 rfl ?_
    obtain ⟨σ16, e17, h⟩ := bo_some h
    refine g_iastore O dX12_lifeLine_144 e17 ?_
    refine g_aload_n O dX12_lifeLine_145 rfl 2 rfl ?_
    obtain ⟨v18, e19, h⟩ := bo_some h
    refine g_getR O dX12_lifeLine_146 fl_X12_17 rfl e19 ?_
    refine g_iload O dX12_lifeLine_149 0 rfl ?_
    refine g_iconst (v := (2 : Int32)) O dX12_lifeLine_151 rfl ?_
    refine g_iadd O dX12_lifeLine_152 ?_
    refine g_iload O dX12_lifeLine_153 5 rfl ?_
    obtain ⟨σ20, e21, h⟩ := bo_some h
    refine g_iastore O dX12_lifeLine_155 e21 ?_
    refine g_aload_n O dX12_lifeLine_156 rfl 2 rfl ?_
    obtain ⟨v22, e23, h⟩ := bo_some h
    refine g_getR O dX12_lifeLine_157 fl_X12_17 rfl e23 ?_
    refine g_iload O dX12_lifeLine_160 0 rfl ?_
    refine g_iconst (v := (3 : Int32)) O dX12_lifeLine_162 rfl ?_
    refine g_iadd O dX12_lifeLine_163 ?_
    refine g_iload O dX12_lifeLine_164 1 rfl ?_
    obtain ⟨σ24, e25, h⟩ := bo_some h
    refine g_iastore O dX12_lifeLine_166 e25 ?_
    refine g_aload_n O dX12_lifeLine_167 rfl 2 rfl ?_
    obtain ⟨v26, e27, h⟩ := bo_some h
    refine g_getR O dX12_lifeLine_168 fl_X12_17 rfl e27 ?_
    refine g_iconst (v := (0 : Int32)) O dX12_lifeLine_171 rfl ?_
    refine g_dup2 O dX12_lifeLine_172 rfl rfl ?_
    obtain ⟨v28, e29, h⟩ := bo_some h
    refine g_iaload O dX12_lifeLine_173 e29 ?_
    refine g_iconst (v := (1 : Int32)) O dX12_lifeLine_174 rfl ?_
    refine g_iadd O dX12_lifeLine_175 ?_
    obtain ⟨σ30, e31, h⟩ := bo_some h
    refine g_iastore O dX12_lifeLine_176 e31 ?_
    refine g_sub [2] (lv' := [(0, vA (some a0))]) rfl ?_
    exact t_X12_lifeLine_177 O R0 N hn a0 σ30 o h K
def f_X12_lifeLine_85 (a0 : Nat) (x2 : Int32) (x3 : Int32) (k0 : Int32) (σ : Dt) : Option (Unit × Dt) := if x2 = 0 then bo (xrc SM 12 (some a0)) fun a2 => bd (f_X12_numbered a2 (1 : Int32) (9 : Int32) σ) fun v4 σ5 => f_X12_lifeLine_102 a0 x2 x3 k0 v4 σ5 else f_X12_lifeLine_102 a0 x2 x3 k0 (-1 : Int32) σ
theorem t_X12_lifeLine_85 {M : Mx} {l0 : Launch} (O : Ok M cX12_lifeLine yX12_lifeLine) (R0 : Rm M l0 7 197 0 0) (N : Ma M = false) (hn : Mn M = 7)  (a0 : Nat) (x2 : Int32) (x3 : Int32) (k0 : Int32) (σ : Dt) (o : (Unit × Dt)) (h : f_X12_lifeLine_85 a0 x2 x3 k0 σ = some o) (K : Fin' M (none) 0 0 SM o.2 (none)) : G M 0 0 85 [(0, vA (some a0)), (2, vI x2), (3, vI x3)] [vI k0] SM σ := by
  unfold f_X12_lifeLine_85 at h
  refine g_istore (lv' := [(4, vI k0), (0, vA (some a0)), (2, vI x2), (3, vI x3)]) O dX12_lifeLine_85 7 hn (by decide) rfl ?_
  refine g_iload_n O dX12_lifeLine_87 rfl 2 rfl ?_
  refine g_if_ne O dX12_lifeLine_88 rfl (fun c1 => ?_) (fun c1 => ?_)
  · replace h := (if_pos c1).symm.trans h
    refine g_aload_n O dX12_lifeLine_91 rfl 1 rfl ?_
    refine g_iconst (v := (1 : Int32)) O dX12_lifeLine_92 rfl ?_
    refine g_bipush (v := (9 : Int32)) O dX12_lifeLine_93 rfl ?_
    obtain ⟨a2, e3, h⟩ := bo_some h
    obtain ⟨v4, σ5, e6, h⟩ := bd_some h
    refine g_cV1 O R0 N dX12_lifeLine_95 vl_X12_157 vv_X12_numbered e3 [vI (1 : Int32), vI (9 : Int32)] rfl rfl rfl ⟨Nat.le_of_ble_eq_true rfl, Nat.le_of_ble_eq_true rfl⟩ (c_X12_numbered l0 a2 (1 : Int32) (9 : Int32) σ v4 σ5 e6) ?_
    refine g_goto O dX12_lifeLine_98 rfl ?_
    refine g_sub [1, 2, 3, 0] (lv' := [(0, vA (some a0)), (2, vI x2), (3, vI x3), (4, vI k0)]) rfl ?_
    exact t_X12_lifeLine_102 O R0 N hn a0 x2 x3 k0 v4 σ5 o h K
  · replace h := (if_neg c1).symm.trans h
    refine g_iconst (v := (-1 : Int32)) O dX12_lifeLine_101 rfl ?_
    refine g_sub [1, 2, 3, 0] (lv' := [(0, vA (some a0)), (2, vI x2), (3, vI x3), (4, vI k0)]) rfl ?_
    exact t_X12_lifeLine_102 O R0 N hn a0 x2 x3 k0 (-1 : Int32) σ o h K
def f_X12_lifeLine_55 (a0 : Nat) (x2 : Int32) (k0 : Int32) (σ : Dt) : Option (Unit × Dt) := if x2 = 0 then bo (xrc SM 12 (some a0)) fun a2 => bd (f_X12_numbered a2 (0 : Int32) (5 : Int32) σ) fun v4 σ5 => f_X12_lifeLine_85 a0 x2 k0 v4 σ5 else if x2 = (1 : Int32) then bo (xrc SM 12 (some a0)) fun a8 => bd (f_X12_numbered a8 (0 : Int32) (9 : Int32) σ) fun v10 σ11 => f_X12_lifeLine_85 a0 x2 k0 v10 σ11 else f_X12_lifeLine_85 a0 x2 k0 (-1 : Int32) σ
theorem t_X12_lifeLine_55 {M : Mx} {l0 : Launch} (O : Ok M cX12_lifeLine yX12_lifeLine) (R0 : Rm M l0 7 197 0 0) (N : Ma M = false) (hn : Mn M = 7)  (a0 : Nat) (x2 : Int32) (k0 : Int32) (σ : Dt) (o : (Unit × Dt)) (h : f_X12_lifeLine_55 a0 x2 k0 σ = some o) (K : Fin' M (none) 0 0 SM o.2 (none)) : G M 0 0 55 [(0, vA (some a0)), (2, vI x2)] [vI k0] SM σ := by
  unfold f_X12_lifeLine_55 at h
  refine g_istore_n (lv' := [(3, vI k0), (0, vA (some a0)), (2, vI x2)]) O dX12_lifeLine_55 rfl 7 hn (by decide) rfl ?_
  refine g_iload_n O dX12_lifeLine_56 rfl 2 rfl ?_
  refine g_if_ne O dX12_lifeLine_57 rfl (fun c1 => ?_) (fun c1 => ?_)
  · replace h := (if_pos c1).symm.trans h
    refine g_aload_n O dX12_lifeLine_60 rfl 1 rfl ?_
    refine g_iconst (v := (0 : Int32)) O dX12_lifeLine_61 rfl ?_
    refine g_iconst (v := (5 : Int32)) O dX12_lifeLine_62 rfl ?_
    obtain ⟨a2, e3, h⟩ := bo_some h
    obtain ⟨v4, σ5, e6, h⟩ := bd_some h
    refine g_cV1 O R0 N dX12_lifeLine_63 vl_X12_157 vv_X12_numbered e3 [vI (0 : Int32), vI (5 : Int32)] rfl rfl rfl ⟨Nat.le_of_ble_eq_true rfl, Nat.le_of_ble_eq_true rfl⟩ (c_X12_numbered l0 a2 (0 : Int32) (5 : Int32) σ v4 σ5 e6) ?_
    refine g_goto O dX12_lifeLine_66 rfl ?_
    refine g_sub [1, 2, 0] (lv' := [(0, vA (some a0)), (2, vI x2), (3, vI k0)]) rfl ?_
    exact t_X12_lifeLine_85 O R0 N hn a0 x2 k0 v4 σ5 o h K
  · replace h := (if_neg c1).symm.trans h
    refine g_iload_n O dX12_lifeLine_69 rfl 2 rfl ?_
    refine g_iconst (v := (1 : Int32)) O dX12_lifeLine_70 rfl ?_
    refine g_icmp_ne O dX12_lifeLine_71 rfl (fun c7 => ?_) (fun c7 => ?_)
    · replace h := (if_pos c7).symm.trans h
      refine g_aload_n O dX12_lifeLine_74 rfl 1 rfl ?_
      refine g_iconst (v := (0 : Int32)) O dX12_lifeLine_75 rfl ?_
      refine g_bipush (v := (9 : Int32)) O dX12_lifeLine_76 rfl ?_
      obtain ⟨a8, e9, h⟩ := bo_some h
      obtain ⟨v10, σ11, e12, h⟩ := bd_some h
      refine g_cV1 O R0 N dX12_lifeLine_78 vl_X12_157 vv_X12_numbered e9 [vI (0 : Int32), vI (9 : Int32)] rfl rfl rfl ⟨Nat.le_of_ble_eq_true rfl, Nat.le_of_ble_eq_true rfl⟩ (c_X12_numbered l0 a8 (0 : Int32) (9 : Int32) σ v10 σ11 e12) ?_
      refine g_goto O dX12_lifeLine_81 rfl ?_
      refine g_sub [1, 2, 0] (lv' := [(0, vA (some a0)), (2, vI x2), (3, vI k0)]) rfl ?_
      exact t_X12_lifeLine_85 O R0 N hn a0 x2 k0 v10 σ11 o h K
    · replace h := (if_neg c7).symm.trans h
      refine g_iconst (v := (-1 : Int32)) O dX12_lifeLine_84 rfl ?_
      refine g_sub [1, 2, 0] (lv' := [(0, vA (some a0)), (2, vI x2), (3, vI k0)]) rfl ?_
      exact t_X12_lifeLine_85 O R0 N hn a0 x2 k0 (-1 : Int32) σ o h K
def f_X12_lifeLine_39 (a0 : Nat) (x2 : Int32) (σ : Dt) : Option (Unit × Dt) := if (4 : Int32) ≤ x2 then f_X12_lifeLine_55 a0 x2 (-1 : Int32) σ else bo (xrc SM 12 (some a0)) fun a2 => bd (f_X12_numbered a2 (0 : Int32) (9 : Int32) σ) fun v4 σ5 => f_X12_lifeLine_55 a0 x2 v4 σ5
theorem t_X12_lifeLine_39 {M : Mx} {l0 : Launch} (O : Ok M cX12_lifeLine yX12_lifeLine) (R0 : Rm M l0 7 197 0 0) (N : Ma M = false) (hn : Mn M = 7)  (a0 : Nat) (x2 : Int32) (σ : Dt) (o : (Unit × Dt)) (h : f_X12_lifeLine_39 a0 x2 σ = some o) (K : Fin' M (none) 0 0 SM o.2 (none)) : G M 0 0 39 [(0, vA (some a0)), (2, vI x2)] [] SM σ := by
  unfold f_X12_lifeLine_39 at h
  refine g_iload_n O dX12_lifeLine_39 rfl 1 rfl ?_
  refine g_iconst (v := (4 : Int32)) O dX12_lifeLine_40 rfl ?_
  refine g_icmp_ge O dX12_lifeLine_41 rfl (fun c1 => ?_) (fun c1 => ?_)
  · replace h := (if_pos c1).symm.trans h
    refine g_iconst (v := (-1 : Int32)) O dX12_lifeLine_54 rfl ?_
    exact t_X12_lifeLine_55 O R0 N hn a0 x2 (-1 : Int32) σ o h K
  · replace h := (if_neg c1).symm.trans h
    refine g_aload_n O dX12_lifeLine_44 rfl 0 rfl ?_
    refine g_iconst (v := (0 : Int32)) O dX12_lifeLine_45 rfl ?_
    refine g_bipush (v := (9 : Int32)) O dX12_lifeLine_46 rfl ?_
    obtain ⟨a2, e3, h⟩ := bo_some h
    obtain ⟨v4, σ5, e6, h⟩ := bd_some h
    refine g_cV1 O R0 N dX12_lifeLine_48 vl_X12_157 vv_X12_numbered e3 [vI (0 : Int32), vI (9 : Int32)] rfl rfl rfl ⟨Nat.le_of_ble_eq_true rfl, Nat.le_of_ble_eq_true rfl⟩ (c_X12_numbered l0 a2 (0 : Int32) (9 : Int32) σ v4 σ5 e6) ?_
    refine g_goto O dX12_lifeLine_51 rfl ?_
    exact t_X12_lifeLine_55 O R0 N hn a0 x2 v4 σ5 o h K
def f_X12_lifeLine (a0 : Nat) (σ : Dt) : Option (Unit × Dt) := bo (xgi SM 12 4 (some a0) σ) fun v1 => bo (xrc SM 12 (some a0)) fun a3 => bd (f_X12_wordIn a3 (5 : Int32) (9 : Int32) σ) fun v5 σ6 => bo (xgi SM 12 8 (some a0) σ6) fun v8 => if v8 = 0 then bo (xgr SM 12 10 (some a0) σ6) fun v11 => bo (xai SM v11 (0 : Int32) σ6) fun v13 => if v13 < (40 : Int32) then f_X12_lifeLine_39 a0 (v5 - (5 : Int32)) σ6 else bo (xrc SM 12 (some a0)) fun a16 => bd (f_X12_also a16 (3 : Int32) v1 σ6) fun v18 σ19 => f_X12_lifeLine_39 a0 (v5 - (5 : Int32)) σ19 else f_X12_lifeLine_39 a0 (v5 - (5 : Int32)) σ6
theorem t_X12_lifeLine {M : Mx} {l0 : Launch} (O : Ok M cX12_lifeLine yX12_lifeLine) (R0 : Rm M l0 7 197 0 0) (N : Ma M = false) (hn : Mn M = 7) (a0 : Nat) (σ : Dt) (o : (Unit × Dt)) (h : f_X12_lifeLine a0 σ = some o) (K : Fin' M (none) 0 0 SM o.2 (none)) : G M 0 0 0 [(0, vA (some a0))] [] SM σ := by
  unfold f_X12_lifeLine at h
  refine g_aload_n O dX12_lifeLine_0 rfl 0 rfl ?_
  obtain ⟨v1, e2, h⟩ := bo_some h
  refine g_getI O dX12_lifeLine_1 fl_X12_112 rfl e2 ?_
  refine g_istore_n (lv' := [(1, vI v1), (0, vA (some a0))]) O dX12_lifeLine_4 rfl 7 hn (by decide) rfl ?_
  refine g_aload_n O dX12_lifeLine_5 rfl 1 rfl ?_
  refine g_iconst (v := (5 : Int32)) O dX12_lifeLine_6 rfl ?_
  refine g_bipush (v := (9 : Int32)) O dX12_lifeLine_7 rfl ?_
  obtain ⟨a3, e4, h⟩ := bo_some h
  obtain ⟨v5, σ6, e7, h⟩ := bd_some h
  refine g_cV1 O R0 N dX12_lifeLine_9 vl_X12_167 vv_X12_wordIn e4 [vI (5 : Int32), vI (9 : Int32)] rfl rfl rfl ⟨Nat.le_of_ble_eq_true rfl, Nat.le_of_ble_eq_true rfl⟩ (c_X12_wordIn l0 a3 (5 : Int32) (9 : Int32) σ v5 σ6 e7) ?_
  refine g_iconst (v := (5 : Int32)) O dX12_lifeLine_12 rfl ?_
  refine g_isub O dX12_lifeLine_13 ?_
  refine g_istore_n (lv' := [(2, vI (v5 - (5 : Int32))), (1, vI v1), (0, vA (some a0))]) O dX12_lifeLine_14 rfl 7 hn (by decide) rfl ?_
  refine g_aload_n O dX12_lifeLine_15 rfl 2 rfl ?_
  obtain ⟨v8, e9, h⟩ := bo_some h
  refine g_getI O dX12_lifeLine_16 fl_X12_139 rfl e9 ?_
  refine g_if_ne O dX12_lifeLine_19 rfl (fun c10 => ?_) (fun c10 => ?_)
  · replace h := (if_pos c10).symm.trans h
    refine g_aload_n O dX12_lifeLine_22 rfl 2 rfl ?_
    obtain ⟨v11, e12, h⟩ := bo_some h
    refine g_getR O dX12_lifeLine_23 fl_X12_17 rfl e12 ?_
    refine g_iconst (v := (0 : Int32)) O dX12_lifeLine_26 rfl ?_
    obtain ⟨v13, e14, h⟩ := bo_some h
    refine g_iaload O dX12_lifeLine_27 e14 ?_
    refine g_bipush (v := (40 : Int32)) O dX12_lifeLine_28 rfl ?_
    refine g_icmp_lt O dX12_lifeLine_30 rfl (fun c15 => ?_) (fun c15 => ?_)
    · replace h := (if_pos c15).symm.trans h
      refine g_sub [2, 0] (lv' := [(0, vA (some a0)), (2, vI (v5 - (5 : Int32)))]) rfl ?_
      exact t_X12_lifeLine_39 O R0 N hn a0 (v5 - (5 : Int32)) σ6 o h K
    · replace h := (if_neg c15).symm.trans h
      refine g_aload_n O dX12_lifeLine_33 rfl 2 rfl ?_
      refine g_iconst (v := (3 : Int32)) O dX12_lifeLine_34 rfl ?_
      refine g_iload_n O dX12_lifeLine_35 rfl 1 rfl ?_
      obtain ⟨a16, e17, h⟩ := bo_some h
      obtain ⟨v18, σ19, e20, h⟩ := bd_some h
      refine g_cV0 O R0 N dX12_lifeLine_36 vl_X12_150 vv_X12_also e17 [vI (3 : Int32), vI v1] rfl rfl rfl ⟨Nat.le_of_ble_eq_true rfl, Nat.le_of_ble_eq_true rfl⟩ (c_X12_also l0 a16 (3 : Int32) v1 σ6 v18 σ19 e20) ?_
      refine g_sub [2, 0] (lv' := [(0, vA (some a0)), (2, vI (v5 - (5 : Int32)))]) rfl ?_
      exact t_X12_lifeLine_39 O R0 N hn a0 (v5 - (5 : Int32)) σ19 o h K
  · replace h := (if_neg c10).symm.trans h
    refine g_sub [2, 0] (lv' := [(0, vA (some a0)), (2, vI (v5 - (5 : Int32)))]) rfl ?_
    exact t_X12_lifeLine_39 O R0 N hn a0 (v5 - (5 : Int32)) σ6 o h K
theorem c_X12_lifeLine (l0 : Launch) (a0 : Nat) (σ : Dt) (r : Unit) (σ' : Dt) (h : f_X12_lifeLine a0 σ = some (r, σ')) : Ctr l0 yX12_lifeLine cX12_lifeLine 7 (none) false 7 197 0 0 [vA (some a0)] SM σ SM σ' (none) := ctr_of (by decide) (Nat.le_of_ble_eq_true rfl) (fun M O F R0 N hn => t_X12_lifeLine O R0 N hn a0 σ (r, σ') h F)
