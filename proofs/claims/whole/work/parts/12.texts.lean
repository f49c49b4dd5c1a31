/-! ===== Math, and the texts' own methods ===== -/
def mmax (x y : Int32) : Int32 := if x < y then y else x
def mmin (x y : Int32) : Int32 := if y < x then y else x
def mabs (x : Int32) : Int32 := if 0 ≤ x then x else 0 - x
section ROWS7
variable {M : Mx} {cc : ByteArray} {y0 : MethodName} {pc : Nat} {lv lv' : List (Nat × Av)} {st stk : List Av} {sh sh' : Sh} {σ σ' : Dt}
variable {l0 : Launch} {fr0 lc0 idx i mL fr lc n : Nat} {y : MethodName} {cc1 : ByteArray} {ret : Option FieldType} {v : Av}
theorem g_mmax {x y : Int32} (O : Ok M cc y0) (R0 : Rm M l0 fr0 lc0 0 0) (d : decode cc pc = .ok (.invokestatic idx, 3)) (w : Cond.methodLink y0.cls idx Lib.Math.max.name ∈ tbl) (hR : 1 ≤ fr0 ∧ (st.map avc).sum + 13 ≤ lc0) (kk : G M 0 0 (pc + 3) lv (vI (mmax x y) :: st) sh σ) : G M 0 0 pc lv (vI y :: vI x :: st) sh σ := by
  obtain ⟨p, l, e, R, s, m, args, below, meth, c, Q, nL, D, b, cy, A, al, ad, dV, lo⟩ := M
  obtain ⟨hx, hb, hml, hown, hts, hK, hA, hX, hAl, hlk, hnm⟩ := O
  obtain ⟨-, hfr, hlc, hmc, hms⟩ := R0
  exact fun H locs ls hl hP hD hS hz => va_mmax hx hb (hml.trans hl.1.symm) hown (hts _ w) (hts _ wmaxS) (hts _ wMath) (hts _ wmaxC) (by rw [hfr]; exact hR.1) (by rw [hlc, cat_eq]; exact hR.2) (Nat.zero_le _) (Nat.zero_le _) d (kk H locs ls hl hP hD hS hz)
theorem g_mmin {x y : Int32} (O : Ok M cc y0) (R0 : Rm M l0 fr0 lc0 0 0) (d : decode cc pc = .ok (.invokestatic idx, 3)) (w : Cond.methodLink y0.cls idx Lib.Math.min.name ∈ tbl) (hR : 1 ≤ fr0 ∧ (st.map avc).sum + 13 ≤ lc0) (kk : G M 0 0 (pc + 3) lv (vI (mmin x y) :: st) sh σ) : G M 0 0 pc lv (vI y :: vI x :: st) sh σ := by
  obtain ⟨p, l, e, R, s, m, args, below, meth, c, Q, nL, D, b, cy, A, al, ad, dV, lo⟩ := M
  obtain ⟨hx, hb, hml, hown, hts, hK, hA, hX, hAl, hlk, hnm⟩ := O
  obtain ⟨-, hfr, hlc, hmc, hms⟩ := R0
  exact fun H locs ls hl hP hD hS hz => va_mmin hx hb (hml.trans hl.1.symm) hown (hts _ w) (hts _ wminS) (hts _ wMath) (hts _ wminC) (by rw [hfr]; exact hR.1) (by rw [hlc, cat_eq]; exact hR.2) (Nat.zero_le _) (Nat.zero_le _) d (kk H locs ls hl hP hD hS hz)
theorem g_mabs {x : Int32} (O : Ok M cc y0) (R0 : Rm M l0 fr0 lc0 0 0) (d : decode cc pc = .ok (.invokestatic idx, 3)) (w : Cond.methodLink y0.cls idx Lib.Math.abs.name ∈ tbl) (hR : 1 ≤ fr0 ∧ (st.map avc).sum + 13 ≤ lc0) (kk : G M 0 0 (pc + 3) lv (vI (mabs x) :: st) sh σ) : G M 0 0 pc lv (vI x :: st) sh σ := by
  obtain ⟨p, l, e, R, s, m, args, below, meth, c, Q, nL, D, b, cy, A, al, ad, dV, lo⟩ := M
  obtain ⟨hx, hb, hml, hown, hts, hK, hA, hX, hAl, hlk, hnm⟩ := O
  obtain ⟨-, hfr, hlc, hmc, hms⟩ := R0
  exact fun H locs ls hl hP hD hS hz => va_mabs hx hb (hml.trans hl.1.symm) hown (hts _ w) (hts _ wabsS) (hts _ wMath) (hts _ wabsC) (by rw [hfr]; exact hR.1) (by rw [hlc, cat_eq]; exact hR.2) (Nat.zero_le _) (Nat.zero_le _) d (kk H locs ls hl hP hD hS hz)
theorem g_tval (O : Ok M cc y0) (d : decode cc pc = .ok (.getfield idx, 3)) (w : Cond.fieldLink y0.cls idx "java/lang/String" "value" "[B" ∈ tbl) (hi : i < 11) (kk : G M 0 0 (pc + 3) lv (vT (100 + i) :: st) sh σ) : G M 0 0 pc lv (vT i :: st) sh σ := by
  obtain ⟨p, l, e, R, s, m, args, below, meth, c, Q, nL, D, b, cy, A, al, ad, dV, lo⟩ := M
  obtain ⟨hx, hb, hml, hown, hts, hK, hA, hX, hAl, hlk, hnm⟩ := O
  exact fun H locs ls hl hP hD hS hz => vk_getf hx hb ((hX.1.1 i hi).2.2.1.narrow hAl) hS hown (hts _ w) (fun _ h => h) d (kk H locs ls hl hP hD hS hz)
theorem g_tcod (O : Ok M cc y0) (d : decode cc pc = .ok (.getfield idx, 3)) (w : Cond.fieldLink y0.cls idx "java/lang/String" "coder" "B" ∈ tbl) (hi : i < 11) (kk : G M 0 0 (pc + 3) lv (vI 0 :: st) sh σ) : G M 0 0 pc lv (vT i :: st) sh σ := by
  obtain ⟨p, l, e, R, s, m, args, below, meth, c, Q, nL, D, b, cy, A, al, ad, dV, lo⟩ := M
  obtain ⟨hx, hb, hml, hown, hts, hK, hA, hX, hAl, hlk, hnm⟩ := O
  exact fun H locs ls hl hP hD hS hz => vk_getf hx hb ((hX.1.1 i hi).2.1.narrow hAl) hS hown (hts _ w) (fun _ h => h) d (kk H locs ls hl hP hD hS hz)
theorem g_tlen (O : Ok M cc y0) (d : decode cc pc = .ok (.arraylength, 1)) (hi : i < 11) (kk : G M 0 0 (pc + 1) lv (vI (Int32.ofNat (sLn.getD i 0)) :: st) sh σ) : G M 0 0 pc lv (vT (100 + i) :: st) sh σ := by
  obtain ⟨p, l, e, R, s, m, args, below, meth, c, Q, nL, D, b, cy, A, al, ad, dV, lo⟩ := M
  obtain ⟨hx, hb, hml, hown, hts, hK, hA, hX, hAl, hlk, hnm⟩ := O
  exact fun H locs ls hl hP hD hS hz => va_tlen hx hb ((hX.1.1 i hi).2.2.2.narrow hAl) hS rfl d (kk H locs ls hl hP hD hS hz)
theorem g_tbal {x : Int32} (O : Ok M cc y0) (d : decode cc pc = .ok (.baload, 1)) (hi : i < 11) (hin : vp_in x (sLn.getD i 0)) (kk : G M 0 0 (pc + 1) lv (vI ((sBy.getD i []).getD x.toNatClampNeg 0) :: st) sh σ) : G M 0 0 pc lv (vI x :: vT (100 + i) :: st) sh σ := by
  obtain ⟨p, l, e, R, s, m, args, below, meth, c, Q, nL, D, b, cy, A, al, ad, dV, lo⟩ := M
  obtain ⟨hx, hb, hml, hown, hts, hK, hA, hX, hAl, hlk, hnm⟩ := O
  exact fun H locs ls hl hP hD hS hz => va_tb hx hb ((hX.1.1 i hi).2.2.2.narrow hAl) hS hin rfl d (kk H locs ls hl hP hD hS hz)
theorem g_gcomp (O : Ok M cc y0) (d : decode cc pc = .ok (.getstatic idx, 3)) (w : Cond.fieldLink y0.cls idx "java/lang/String" "COMPACT_STRINGS" "Z" ∈ tbl) (kk : G M 0 0 (pc + 3) lv (vI 1 :: st) sh σ) : G M 0 0 pc lv st sh σ := by
  obtain ⟨p, l, e, R, s, m, args, below, meth, c, Q, nL, D, b, cy, A, al, ad, dV, lo⟩ := M
  obtain ⟨hx, hb, hml, hown, hts, hK, hA, hX, hAl, hlk, hnm⟩ := O
  exact fun H locs ls hl hP hD hS hz => va_gets hx hb (hX.2.2.1.narrow hAl) hS hown (hts _ w) (fun _ h => h) d (kk H locs ls hl hP hD hS hz)
theorem g_gfmt (O : Ok M cc y0) (d : decode cc pc = .ok (.getstatic idx, 3)) (w : Cond.fieldLink y0.cls idx "jdk/internal/util/Preconditions" "SIOOBE_FORMATTER" "Ljava/util/function/BiFunction;" ∈ tbl) (k1 : G M 0 0 (pc + 3) lv (vA none :: st) sh σ) (k2 : G M 0 0 (pc + 3) lv (vT 200 :: st) sh σ) : G M 0 0 pc lv st sh σ := by
  obtain ⟨p, l, e, R, s, m, args, below, meth, c, Q, nL, D, b, cy, A, al, ad, dV, lo⟩ := M
  obtain ⟨hx, hb, hml, hown, hts, hK, hA, hX, hAl, hlk, hnm⟩ := O
  intro H locs ls hl hP hD hS hz
  rcases hX.2.2.2.1 with h | h
  · exact va_gets hx hb (h.narrow hAl) hS hown (hts _ w) (fun _ h => h) d (k1 H locs ls hl hP hD hS hz)
  · exact va_gets hx hb (h.narrow hAl) hS hown (hts _ w) (fun _ h => h) d (k2 H locs ls hl hP hD hS hz)
theorem g_i2c {x : Int32} (O : Ok M cc y0) (d : decode cc pc = .ok (.i2c, 1)) (kk : G M 0 0 (pc + 1) lv (vI ((x.toUInt32 % 65536).toInt32) :: st) sh σ) : G M 0 0 pc lv (vI x :: st) sh σ := by
  obtain ⟨p, l, e, R, s, m, args, below, meth, c, Q, nL, D, b, cy, A, al, ad, dV, lo⟩ := M
  obtain ⟨hx, hb, hml, hown, hts, hK, hA, hX, hAl, hlk, hnm⟩ := O
  exact fun H locs ls hl hP hD hS hz => lv_i2c hx hb d rfl (kk H locs ls hl hP hD hS hz)
theorem g_nreturn {x : Int32} {ty : FieldType} (O : Ok M cc y0) (hn : narrow ty (.int x) = .int x) (F : Fin' M (some ty) 0 0 sh σ (some (vI x))) (d : decode cc pc = .ok (.ireturn, 1)) : G M 0 0 pc lv [vI x] sh σ := by
  obtain ⟨p, l, e, R, s, m, args, below, meth, c, Q, nL, D, b, cy, A, al, ad, dV, lo⟩ := M
  obtain ⟨hx', hb, hml, hown, hts, hK, hA, hX, hAl, hlk, hnm⟩ := O
  obtain ⟨hr, rfl⟩ := F
  exact fun H locs ls hl hP hD hS hz => W.zret hx' hb hr hn (fun t ht hW => ⟨⟨rfl, by rw [ht]; exact hP, hD, fun h => by rw [ht]; exact hz h⟩, hS.F ht⟩) hS.2.2 d hlk
/-- a call on a text -/
theorem g_cT1 (O : Ok M cc y0) (R0 : Rm M l0 fr0 lc0 0 0) (N : Ma M = false) (d : decode cc pc = .ok (.invokevirtual idx, 3)) (V : VL y0.cls idx y cc1 mL ret n) (V2 : Cond.instanceMethod y ∈ tbl ∧ Cond.selects y.cls y y ∈ tbl ∧ y.cls = "java/lang/String") (hi : i < 11) (as : List Av) (hn : as.length = n) (hst : stk = as.reverse ++ vT i :: st) (hw : Nat.ble (st.map avc).sum 8 = true) (hR : fr + 1 ≤ fr0 ∧ 8 + (mL + 11) + lc ≤ lc0) (C : Ctr l0 y cc1 mL ret false fr lc 0 0 (vT i :: as) sh σ sh' σ' (some v)) (kk : G M 0 0 (pc + 3) lv (v :: st) sh' σ') : G M 0 0 pc lv stk sh σ := by
  obtain ⟨p, l, e, R, s, m, args, below, meth, c, Q, nL, D, b, cy, A, al', ad, dV, lo⟩ := M
  obtain ⟨hx', hb, hml, hown, hts, hK, hA, hX, hAl, hlk, hnm⟩ := O
  obtain ⟨rfl, hfr, hlc, hmc, hms⟩ := R0
  obtain rfl : al' = false := N
  obtain ⟨v1, v2, hcl⟩ := V2
  intro H locs ls hl hP hD hS hz
  refine run_on (va_runV (C := y.cls) (b := ad i) (As := as.map (av b ad)) (rest := st.map (av b ad)) (g := F0 m pc ls (stk.map (av b ad))) (bytes := cc1) (maxL := mL) (ret := ret) (n := n) (index := idx) ⟨hx', hb, hml, hown, hts⟩ (C D b cy H.size ad dV lo) ⟨callB_of n hts (goodIn_tbl V.2.1) rfl rfl rfl (hts _ V.2.2.1) (hts _ V.1) V.2.2.2 (by rw [hfr, hlc]; exact hR), hts _ v1, hts _ v2⟩ ⟨Pcx_blind, by rw [hcl]; exact vk_recv (hX.1.narrow hAl) hi hS, Pcx_pre (as := vT i :: as) hK hA hX hAl hP hD hS hz⟩ rfl (by rw [List.length_map]; exact hn) hl.1 ?_ (lv_room (by rw [cat_eq]; exact Nat.le_of_ble_eq_true hw)) d ⟨Nat.zero_le _, Nat.zero_le _⟩) hA hD hS (fun H1 locs1 hP1 hD1 hS1 hz1 => kk H1 locs1 ls hl hP1 hD1 hS1 hz1)
  show stk.map (av b ad) = _
  rw [hst, List.map_append, List.map_reverse, List.map_cons]
  rfl
end ROWS7
section STRS
variable {sh : Sh}
theorem c_coder (l0 : Launch) (i : Nat) (hi : i < 11) (σ : Dt) : Ctr l0 yJ0_coder_7d493 cJ0_coder_7d493 1 (some .byte) false 2 80 0 0 [vT i] sh σ sh σ (some (vI 0)) := by
  refine ctr_of (by decide) (Nat.le_of_ble_eq_true rfl) (fun M O F R0 N hn => ?_)
  refine g_gcomp O dJ0_coder_7d493_0 w724 ?_
  refine g_if_eq O dJ0_coder_7d493_3 rfl (fun c => absurd c (by decide)) (fun _ => ?_)
  refine g_tload_n O dJ0_coder_7d493_6 rfl 0 rfl ?_
  refine g_tcod O dJ0_coder_7d493_7 w2140 hi ?_
  refine g_goto O dJ0_coder_7d493_10 rfl ?_
  exact g_nreturn O rfl F dJ0_coder_7d493_14
theorem c_isLatin1 (l0 : Launch) (i : Nat) (hi : i < 11) (σ : Dt) : Ctr l0 yJ0_isLatin1_aae02 cJ0_isLatin1_aae02 1 (some .boolean) false 2 80 0 0 [vT i] sh σ sh σ (some (vI 1)) := by
  refine ctr_of (by decide) (Nat.le_of_ble_eq_true rfl) (fun M O F R0 N hn => ?_)
  refine g_gcomp O dJ0_isLatin1_aae02_0 w724 ?_
  refine g_if_eq O dJ0_isLatin1_aae02_3 rfl (fun c => absurd c (by decide)) (fun _ => ?_)
  refine g_tload_n O dJ0_isLatin1_aae02_6 rfl 0 rfl ?_
  refine g_tcod O dJ0_isLatin1_aae02_7 w2140 hi ?_
  refine g_if_ne O dJ0_isLatin1_aae02_10 rfl (fun _ => ?_) (fun c => absurd rfl c)
  refine g_iconst (v := 1) O dJ0_isLatin1_aae02_13 rfl ?_
  refine g_goto O dJ0_isLatin1_aae02_14 rfl ?_
  exact g_nreturn O rfl F dJ0_isLatin1_aae02_18
theorem c_preCheck (l0 : Launch) (x y : Int32) (f : Av) (hf : avc f = 1) (h1 : ¬ x < 0) (h2 : x < y) (σ : Dt) : Ctr l0 yJ3_checkIndex_8e157 cJ3_checkIndex_8e157 3 (some .int) false 2 80 0 0 [vI x, vI y, f] sh σ sh σ (some (vI x)) := by
  refine ctr_of (by decide) (by unfold alen; show 1 + (1 + (avc f + 0)) ≤ 3; omega) (fun M O F R0 N hn => ?_)
  refine g_iload_n O dJ3_checkIndex_8e157_0 rfl 0 rfl ?_
  refine g_if_lt O dJ3_checkIndex_8e157_1 rfl (fun c => absurd c h1) (fun _ => ?_)
  refine g_iload_n O dJ3_checkIndex_8e157_4 rfl 0 rfl ?_
  refine g_iload_n O dJ3_checkIndex_8e157_5 rfl 1 rfl ?_
  refine g_icmp_lt O dJ3_checkIndex_8e157_6 rfl (fun _ => ?_) (fun c => absurd h2 c)
  refine g_iload_n O dJ3_checkIndex_8e157_16 rfl 0 rfl ?_
  exact g_ireturn O F dJ3_checkIndex_8e157_17
theorem c_checkIndex (l0 : Launch) (x y : Int32) (h1 : ¬ x < 0) (h2 : x < y) (σ : Dt) : Ctr l0 yJ0_checkIndex_df160 cJ0_checkIndex_df160 2 none false 3 110 0 0 [vI x, vI y] sh σ sh σ none := by
  refine ctr_of (by decide) (Nat.le_of_ble_eq_true rfl) (fun M O F R0 N hn => ?_)
  refine g_iload_n O dJ0_checkIndex_df160_0 rfl 0 rfl ?_
  refine g_iload_n O dJ0_checkIndex_df160_1 rfl 1 rfl ?_
  refine g_gfmt O dJ0_checkIndex_df160_2 w740 ?_ ?_
  · refine g_cS1 O R0 N dJ0_checkIndex_df160_5 vl_J0_1059 w743 [vI x, vI y, vA none] rfl rfl rfl ⟨Nat.le_of_ble_eq_true rfl, Nat.le_of_ble_eq_true rfl⟩ (c_preCheck l0 x y (vA none) rfl h1 h2 σ) ?_
    refine g_pop O dJ0_checkIndex_df160_8 rfl ?_
    exact g_return O F dJ0_checkIndex_df160_9
  · refine g_cS1 O R0 N dJ0_checkIndex_df160_5 vl_J0_1059 w743 [vI x, vI y, vT 200] rfl rfl rfl ⟨Nat.le_of_ble_eq_true rfl, Nat.le_of_ble_eq_true rfl⟩ (c_preCheck l0 x y (vT 200) rfl h1 h2 σ) ?_
    refine g_pop O dJ0_checkIndex_df160_8 rfl ?_
    exact g_return O F dJ0_checkIndex_df160_9
theorem sBy_char : ∀ i, i < 11 → ∀ j, j < 8 → (((((sBy.getD i []).getD j 0) &&& 255).toUInt32 % 65536).toInt32 = (sBy.getD i []).getD j 0) ∧ narrow .char (.int ((sBy.getD i []).getD j 0)) = .int ((sBy.getD i []).getD j 0) := by decide +kernel
theorem sLn_le : ∀ i, i < 11 → sLn.getD i 0 < 8 := by decide
theorem c_l1charAt (l0 : Launch) (i : Nat) (hi : i < 11) (x : Int32) (hx : vp_in x (sLn.getD i 0)) (σ : Dt) : Ctr l0 yJ1_charAt_3b067 cJ1_charAt_3b067 2 (some .char) false 4 150 0 0 [vT (100 + i), vI x] sh σ sh σ (some (vI ((sBy.getD i []).getD x.toNatClampNeg 0))) := by
  refine ctr_of (by decide) (Nat.le_of_ble_eq_true rfl) (fun M O F R0 N hn => ?_)
  have hlt : x.toNatClampNeg < sLn.getD i 0 := Nat.not_le.mp fun q => hx (Or.inr q)
  have hln := sLn_le i hi
  have hxy : x < Int32.ofNat (sLn.getD i 0) := by
    obtain ⟨j, hj, rfl⟩ := vp_in_of hx (by omega)
    exact nI_lt hj (by omega)
  obtain ⟨hc1, hc2⟩ := sBy_char i hi x.toNatClampNeg (by omega)
  refine g_iload_n O dJ1_charAt_3b067_0 rfl 1 rfl ?_
  refine g_tload_n O dJ1_charAt_3b067_1 rfl 0 rfl ?_
  refine g_tlen O dJ1_charAt_3b067_2 hi ?_
  refine g_cS0 O R0 N dJ1_charAt_3b067_3 vl_J1_9 w738 [vI x, vI (Int32.ofNat (sLn.getD i 0))] rfl rfl rfl ⟨Nat.le_of_ble_eq_true rfl, Nat.le_of_ble_eq_true rfl⟩ (c_checkIndex l0 x _ (fun q => hx (Or.inl q)) hxy σ) ?_
  refine g_tload_n O dJ1_charAt_3b067_6 rfl 0 rfl ?_
  refine g_iload_n O dJ1_charAt_3b067_7 rfl 1 rfl ?_
  refine g_tbal O dJ1_charAt_3b067_8 hi hx ?_
  refine g_sipush (v := 255) O dJ1_charAt_3b067_9 rfl ?_
  refine g_iand O dJ1_charAt_3b067_12 ?_
  refine g_i2c O dJ1_charAt_3b067_13 ?_
  rw [hc1]
  exact g_nreturn O hc2 F dJ1_charAt_3b067_14
theorem c_slength (l0 : Launch) (i : Nat) (hi : i < 11) (σ : Dt) : Ctr l0 yJ0_length_8abf5 cJ0_length_8abf5 1 (some .int) false 3 110 0 0 [vT i] sh σ sh σ (some (vI (Int32.ofNat (sLn.getD i 0)))) := by
  refine ctr_of (by decide) (Nat.le_of_ble_eq_true rfl) (fun M O F R0 N hn => ?_)
  refine g_tload_n O dJ0_length_8abf5_0 rfl 0 rfl ?_
  refine g_tval O dJ0_length_8abf5_1 w2139 hi ?_
  refine g_tlen O dJ0_length_8abf5_4 hi ?_
  refine g_tload_n O dJ0_length_8abf5_5 rfl 0 rfl ?_
  refine g_cT1 O R0 N dJ0_length_8abf5_6 vl_J0_335 ⟨w721, w722, rfl⟩ hi [] rfl rfl rfl ⟨Nat.le_of_ble_eq_true rfl, Nat.le_of_ble_eq_true rfl⟩ (c_coder l0 i hi σ) ?_
  refine g_ishr O dJ0_length_8abf5_9 ?_
  have e : Int32.ofNat (sLn.getD i 0) >>> ((0 : Int32) &&& 31) = Int32.ofNat (sLn.getD i 0) := (show ∀ i, i < 11 → Int32.ofNat (sLn.getD i 0) >>> ((0 : Int32) &&& 31) = Int32.ofNat (sLn.getD i 0) by decide +kernel) i hi
  rw [e]
  exact g_ireturn O F dJ0_length_8abf5_10
theorem c_scharAt (l0 : Launch) (i : Nat) (hi : i < 11) (x : Int32) (hx : vp_in x (sLn.getD i 0)) (σ : Dt) : Ctr l0 yJ0_charAt_5068e cJ0_charAt_5068e 2 (some .char) false 5 190 0 0 [vT i, vI x] sh σ sh σ (some (vI ((sBy.getD i []).getD x.toNatClampNeg 0))) := by
  refine ctr_of (by decide) (Nat.le_of_ble_eq_true rfl) (fun M O F R0 N hn => ?_)
  have hlt : x.toNatClampNeg < sLn.getD i 0 := Nat.not_le.mp fun q => hx (Or.inr q)
  have hln := sLn_le i hi
  obtain ⟨hc1, hc2⟩ := sBy_char i hi x.toNatClampNeg (by omega)
  refine g_tload_n O dJ0_charAt_5068e_0 rfl 0 rfl ?_
  refine g_cT1 O R0 N dJ0_charAt_5068e_1 vl_J0_492 ⟨w731, w732, rfl⟩ hi [] rfl rfl rfl ⟨Nat.le_of_ble_eq_true rfl, Nat.le_of_ble_eq_true rfl⟩ (c_isLatin1 l0 i hi σ) ?_
  refine g_if_eq O dJ0_charAt_5068e_4 rfl (fun c => absurd c (by decide)) (fun _ => ?_)
  refine g_tload_n O dJ0_charAt_5068e_7 rfl 0 rfl ?_
  refine g_tval O dJ0_charAt_5068e_8 w2139 hi ?_
  refine g_iload_n O dJ0_charAt_5068e_11 rfl 1 rfl ?_
  refine g_cS1 O R0 N dJ0_charAt_5068e_12 vl_J0_495 w735 [vT (100 + i), vI x] rfl rfl rfl ⟨Nat.le_of_ble_eq_true rfl, Nat.le_of_ble_eq_true rfl⟩ (c_l1charAt l0 i hi x hx σ) ?_
  exact g_nreturn O hc2 F dJ0_charAt_5068e_15
end STRS
section ROWS8
variable {M : Mx} {cc : ByteArray} {pc : Nat} {lv : List (Nat × Av)} {st : List Av} {sh : Sh} {σ : Dt} {l0 : Launch} {fr0 lc0 i : Nat} {v x : Int32} {y0 : MethodName}
theorem g_slen (O : Ok M cc y0) (R0 : Rm M l0 fr0 lc0 0 0) (N : Ma M = false) (d : decode cc pc = .ok (.invokevirtual 130, 3)) (e : xtl i = some v) (hy : y0.cls = RX5) (hR : (Nat.ble 4 fr0 && Nat.ble 130 lc0 && Nat.ble (st.map avc).sum 8) = true) (kk : G M 0 0 (pc + 3) lv (vI v :: st) sh σ) : G M 0 0 pc lv (vT i :: st) sh σ := by
  obtain ⟨hi, rfl⟩ := ite_some e
  simp only [Bool.and_eq_true] at hR
  refine g_cT1 (st := st) (fr := 3) (lc := 110) (mL := 1) O R0 N d (hy ▸ vl_X5_130) ⟨w717, w718, rfl⟩ hi [] rfl rfl hR.2 ⟨Nat.le_of_ble_eq_true hR.1.1, Nat.le_of_ble_eq_true hR.1.2⟩ (c_slength l0 i hi σ) kk
theorem g_schar (O : Ok M cc y0) (R0 : Rm M l0 fr0 lc0 0 0) (N : Ma M = false) (d : decode cc pc = .ok (.invokevirtual 134, 3)) (e : xtc i x = some v) (hy : y0.cls = RX5) (hR : (Nat.ble 6 fr0 && Nat.ble 211 lc0 && Nat.ble (st.map avc).sum 8) = true) (kk : G M 0 0 (pc + 3) lv (vI v :: st) sh σ) : G M 0 0 pc lv (vI x :: vT i :: st) sh σ := by
  obtain ⟨⟨hi, hx⟩, rfl⟩ := ite_some e
  simp only [Bool.and_eq_true] at hR
  refine g_cT1 (st := st) (fr := 5) (lc := 190) (mL := 2) O R0 N d (hy ▸ vl_X5_134) ⟨w727, w728, rfl⟩ hi [vI x] rfl rfl hR.2 ⟨Nat.le_of_ble_eq_true hR.1.1, Nat.le_of_ble_eq_true hR.1.2⟩ (c_scharAt l0 i hi x hx σ) kk
end ROWS8
