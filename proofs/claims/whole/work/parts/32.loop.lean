theorem tab33 : ∀ w : Nat, w < 34 → ∃ c ∈ ([(0 : Int32), (1 : Int32), (2 : Int32), (3 : Int32), (4 : Int32), (5 : Int32), (6 : Int32), (7 : Int32), (8 : Int32), (9 : Int32), (10 : Int32), (11 : Int32), (12 : Int32), (13 : Int32), (14 : Int32), (15 : Int32), (16 : Int32), (17 : Int32), (18 : Int32), (19 : Int32), (20 : Int32), (21 : Int32), (22 : Int32), (23 : Int32), (24 : Int32), (25 : Int32), (26 : Int32), (27 : Int32), (28 : Int32), (29 : Int32), (30 : Int32), (31 : Int32), (32 : Int32), (33 : Int32)] : List Int32), c.toInt = (w : Int) := by decide +kernel
/-- the law's loop, if every promise of the two systems is kept -/
theorem law_loop {M : Ml} (O : OkL M) (hL : ML M ≤ 3584) (Inv : Dt → Dt → Prop) (hk : LKall Inv) : ∀ (n i : Nat) (x3 : Int32) (σx σm : Dt), x3 = nI i → i ≤ ML M → ML M - i < n → Inv σx σm → GL M 18 [(0, vT 300), (1, vA (some 0)), (2, vA (some 222)), (3, vI x3)] [] σx σm := by
  obtain ⟨h_feed, h_end, h_text, h_fault, h_valley, h_deed, h_stop, h_state, h_keep, h_say, h_dare, h_plan, h_odds, h_power, h_kinship, h_line, h_sight, h_fits, h_drawn, h_elders, h_apart, h_houses, h_soon, h_most, h_lot, h_heaps, h_loss, h_wedding, h_after, h_share, h_later, h_count, h_image, h_again⟩ := hk
  intro n
  induction n with
  | zero => intro i x3 σx σm _ _ h; omega
  | succ n ih =>
    intro i x3 σx σm hx3 hi hn hI
    refine q_iload_n O dL_law_18 rfl 3 rfl ?_
    refine q_tload_n O dL_law_19 rfl 0 rfl ?_
    refine q_slen O dL_law_20 ?_
    refine q_bipush (v := 7) O dL_law_21 rfl ?_
    refine q_isub O dL_law_23 ?_
    have e7 : (Int32.ofNat (ML M) - 7).toInt = (ML M : Int) - 7 := pk_sub_toInt (a := ML M) (b := 7) (by omega) (by omega)
    have ei : x3.toInt = (i : Int) := by rw [hx3]; exact nI_toInt (by omega)
    refine q_icmp_gt O dL_law_24 rfl (fun c => ?_) (fun c => ?_)
    · refine q_iconst (v := 1) O dL_law_1736 rfl ?_
      exact q_ret O dL_law_1737
    · have h7 : i + 7 ≤ ML M := by
        have h := Int32.not_lt.mp c
        have h2 := Int32.le_iff_toInt_le.mp h
        rw [e7, ei] at h2
        omega
      have hin : ∀ j : Nat, j ≤ 6 → vp_in (x3 + Int32.ofNat j) (ML M) := by
        intro j hj
        rw [hx3]
        show vp_in (nI i + nI j) _
        rw [nI_add]
        exact vp_in_nI (by omega) (by omega)
      have hin0 : vp_in x3 (ML M) := by
        rw [hx3]
        exact vp_in_nI (by omega) (by omega)
      have hgo : ∀ σx σm, Inv σx σm → GL M 1730 [(0, vT 300), (1, vA (some 0)), (2, vA (some 222)), (3, vI x3)] [] σx σm := by
        intro σx σm hI
        refine q_iinc (v := x3 + 7) (lv' := [(3, vI (x3 + 7)), (0, vT 300), (1, vA (some 0)), (2, vA (some 222))]) O dL_law_1730 (by decide) 3 rfl rfl rfl ?_
        refine q_goto O dL_law_1733 rfl ?_
        refine q_sub [1, 2, 3, 0] (lv' := [(0, vT 300), (1, vA (some 0)), (2, vA (some 222)), (3, vI (x3 + 7))]) rfl ?_
        exact ih (i + 7) (x3 + 7) σx σm (by rw [hx3]; exact nI_add i 7) h7 (by omega) hI
      refine q_tload_n O dL_law_27 rfl 0 rfl ?_
      refine q_iload_n O dL_law_28 rfl 3 rfl ?_
      refine q_sld O dL_law_29 hin0 ?_
      refine q_bipush (v := 63) O dL_law_30 rfl ?_
      refine q_iand O dL_law_32 ?_
      generalize Mxs M x3.toNatClampNeg &&& 63 = z
      by_cases c0 : z = (0 : Int32)
      · refine q_tabIn O dL_law_33 (by rw [c0]; decide) (by rw [c0]; decide) (by rw [c0]; rfl) rfl ?_
        exact lc_feed O Inv h_feed σx σm hI x3 (Mxs M) rfl hin hgo
      by_cases c1 : z = (1 : Int32)
      · refine q_tabIn O dL_law_33 (by rw [c1]; decide) (by rw [c1]; decide) (by rw [c1]; rfl) rfl ?_
        exact lc_end O Inv h_end σx σm hI x3 (Mxs M) rfl hin hgo
      by_cases c2 : z = (2 : Int32)
      · refine q_tabIn O dL_law_33 (by rw [c2]; decide) (by rw [c2]; decide) (by rw [c2]; rfl) rfl ?_
        exact lc_text O Inv h_text σx σm hI x3 (Mxs M) rfl hin hgo
      by_cases c3 : z = (3 : Int32)
      · refine q_tabIn O dL_law_33 (by rw [c3]; decide) (by rw [c3]; decide) (by rw [c3]; rfl) rfl ?_
        exact lc_fault O Inv h_fault σx σm hI x3 (Mxs M) rfl hin hgo
      by_cases c4 : z = (4 : Int32)
      · refine q_tabIn O dL_law_33 (by rw [c4]; decide) (by rw [c4]; decide) (by rw [c4]; rfl) rfl ?_
        exact lc_valley O Inv h_valley σx σm hI x3 (Mxs M) rfl hin hgo
      by_cases c5 : z = (5 : Int32)
      · refine q_tabIn O dL_law_33 (by rw [c5]; decide) (by rw [c5]; decide) (by rw [c5]; rfl) rfl ?_
        exact lc_deed O Inv h_deed σx σm hI x3 (Mxs M) rfl hin hgo
      by_cases c6 : z = (6 : Int32)
      · refine q_tabIn O dL_law_33 (by rw [c6]; decide) (by rw [c6]; decide) (by rw [c6]; rfl) rfl ?_
        exact lc_stop O Inv h_stop σx σm hI x3 (Mxs M) rfl hin hgo
      by_cases c7 : z = (7 : Int32)
      · refine q_tabIn O dL_law_33 (by rw [c7]; decide) (by rw [c7]; decide) (by rw [c7]; rfl) rfl ?_
        exact lc_state O Inv h_state σx σm hI x3 (Mxs M) rfl hin hgo
      by_cases c8 : z = (8 : Int32)
      · refine q_tabIn O dL_law_33 (by rw [c8]; decide) (by rw [c8]; decide) (by rw [c8]; rfl) rfl ?_
        exact lc_keep O Inv h_keep σx σm hI x3 (Mxs M) rfl hin hgo
      by_cases c9 : z = (9 : Int32)
      · refine q_tabIn O dL_law_33 (by rw [c9]; decide) (by rw [c9]; decide) (by rw [c9]; rfl) rfl ?_
        exact lc_say O Inv h_say σx σm hI x3 (Mxs M) rfl hin hgo
      by_cases c10 : z = (10 : Int32)
      · refine q_tabIn O dL_law_33 (by rw [c10]; decide) (by rw [c10]; decide) (by rw [c10]; rfl) rfl ?_
        exact lc_dare O Inv h_dare σx σm hI x3 (Mxs M) rfl hin hgo
      by_cases c11 : z = (11 : Int32)
      · refine q_tabIn O dL_law_33 (by rw [c11]; decide) (by rw [c11]; decide) (by rw [c11]; rfl) rfl ?_
        exact lc_plan O Inv h_plan σx σm hI x3 (Mxs M) rfl hin hgo
      by_cases c12 : z = (12 : Int32)
      · refine q_tabIn O dL_law_33 (by rw [c12]; decide) (by rw [c12]; decide) (by rw [c12]; rfl) rfl ?_
        exact lc_odds O Inv h_odds σx σm hI x3 (Mxs M) rfl hin hgo
      by_cases c13 : z = (13 : Int32)
      · refine q_tabIn O dL_law_33 (by rw [c13]; decide) (by rw [c13]; decide) (by rw [c13]; rfl) rfl ?_
        exact lc_power O Inv h_power σx σm hI x3 (Mxs M) rfl hin hgo
      by_cases c14 : z = (14 : Int32)
      · refine q_tabIn O dL_law_33 (by rw [c14]; decide) (by rw [c14]; decide) (by rw [c14]; rfl) rfl ?_
        exact lc_kinship O Inv h_kinship σx σm hI x3 (Mxs M) rfl hin hgo
      by_cases c15 : z = (15 : Int32)
      · refine q_tabIn O dL_law_33 (by rw [c15]; decide) (by rw [c15]; decide) (by rw [c15]; rfl) rfl ?_
        exact lc_line O Inv h_line σx σm hI x3 (Mxs M) rfl hin hgo
      by_cases c16 : z = (16 : Int32)
      · refine q_tabIn O dL_law_33 (by rw [c16]; decide) (by rw [c16]; decide) (by rw [c16]; rfl) rfl ?_
        exact lc_sight O Inv h_sight σx σm hI x3 (Mxs M) rfl hin hgo
      by_cases c17 : z = (17 : Int32)
      · refine q_tabIn O dL_law_33 (by rw [c17]; decide) (by rw [c17]; decide) (by rw [c17]; rfl) rfl ?_
        exact lc_fits O Inv h_fits σx σm hI x3 (Mxs M) rfl hin hgo
      by_cases c18 : z = (18 : Int32)
      · refine q_tabIn O dL_law_33 (by rw [c18]; decide) (by rw [c18]; decide) (by rw [c18]; rfl) rfl ?_
        exact lc_drawn O Inv h_drawn σx σm hI x3 (Mxs M) rfl hin hgo
      by_cases c19 : z = (19 : Int32)
      · refine q_tabIn O dL_law_33 (by rw [c19]; decide) (by rw [c19]; decide) (by rw [c19]; rfl) rfl ?_
        exact lc_elders O Inv h_elders σx σm hI x3 (Mxs M) rfl hin hgo
      by_cases c20 : z = (20 : Int32)
      · refine q_tabIn O dL_law_33 (by rw [c20]; decide) (by rw [c20]; decide) (by rw [c20]; rfl) rfl ?_
        exact lc_apart O Inv h_apart σx σm hI x3 (Mxs M) rfl hin hgo
      by_cases c21 : z = (21 : Int32)
      · refine q_tabIn O dL_law_33 (by rw [c21]; decide) (by rw [c21]; decide) (by rw [c21]; rfl) rfl ?_
        exact lc_houses O Inv h_houses σx σm hI x3 (Mxs M) rfl hin hgo
      by_cases c22 : z = (22 : Int32)
      · refine q_tabIn O dL_law_33 (by rw [c22]; decide) (by rw [c22]; decide) (by rw [c22]; rfl) rfl ?_
        exact lc_soon O Inv h_soon σx σm hI x3 (Mxs M) rfl hin hgo
      by_cases c23 : z = (23 : Int32)
      · refine q_tabIn O dL_law_33 (by rw [c23]; decide) (by rw [c23]; decide) (by rw [c23]; rfl) rfl ?_
        exact lc_most O Inv h_most σx σm hI x3 (Mxs M) rfl hin hgo
      by_cases c24 : z = (24 : Int32)
      · refine q_tabIn O dL_law_33 (by rw [c24]; decide) (by rw [c24]; decide) (by rw [c24]; rfl) rfl ?_
        exact lc_lot O Inv h_lot σx σm hI x3 (Mxs M) rfl hin hgo
      by_cases c25 : z = (25 : Int32)
      · refine q_tabIn O dL_law_33 (by rw [c25]; decide) (by rw [c25]; decide) (by rw [c25]; rfl) rfl ?_
        exact lc_heaps O Inv h_heaps σx σm hI x3 (Mxs M) rfl hin hgo
      by_cases c26 : z = (26 : Int32)
      · refine q_tabIn O dL_law_33 (by rw [c26]; decide) (by rw [c26]; decide) (by rw [c26]; rfl) rfl ?_
        exact lc_loss O Inv h_loss σx σm hI x3 (Mxs M) rfl hin hgo
      by_cases c27 : z = (27 : Int32)
      · refine q_tabIn O dL_law_33 (by rw [c27]; decide) (by rw [c27]; decide) (by rw [c27]; rfl) rfl ?_
        exact lc_wedding O Inv h_wedding σx σm hI x3 (Mxs M) rfl hin hgo
      by_cases c28 : z = (28 : Int32)
      · refine q_tabIn O dL_law_33 (by rw [c28]; decide) (by rw [c28]; decide) (by rw [c28]; rfl) rfl ?_
        exact lc_after O Inv h_after σx σm hI x3 (Mxs M) rfl hin hgo
      by_cases c29 : z = (29 : Int32)
      · refine q_tabIn O dL_law_33 (by rw [c29]; decide) (by rw [c29]; decide) (by rw [c29]; rfl) rfl ?_
        exact lc_share O Inv h_share σx σm hI x3 (Mxs M) rfl hin hgo
      by_cases c30 : z = (30 : Int32)
      · refine q_tabIn O dL_law_33 (by rw [c30]; decide) (by rw [c30]; decide) (by rw [c30]; rfl) rfl ?_
        exact lc_later O Inv h_later σx σm hI x3 (Mxs M) rfl hin hgo
      by_cases c31 : z = (31 : Int32)
      · refine q_tabIn O dL_law_33 (by rw [c31]; decide) (by rw [c31]; decide) (by rw [c31]; rfl) rfl ?_
        exact lc_count O Inv h_count σx σm hI x3 (Mxs M) rfl hin hgo
      by_cases c32 : z = (32 : Int32)
      · refine q_tabIn O dL_law_33 (by rw [c32]; decide) (by rw [c32]; decide) (by rw [c32]; rfl) rfl ?_
        exact lc_image O Inv h_image σx σm hI x3 (Mxs M) rfl hin hgo
      by_cases c33 : z = (33 : Int32)
      · refine q_tabIn O dL_law_33 (by rw [c33]; decide) (by rw [c33]; decide) (by rw [c33]; rfl) rfl ?_
        exact lc_again O Inv h_again σx σm hI x3 (Mxs M) rfl hin hgo
      refine q_tabOut O dL_law_33 (tab_out [(0 : Int32), (1 : Int32), (2 : Int32), (3 : Int32), (4 : Int32), (5 : Int32), (6 : Int32), (7 : Int32), (8 : Int32), (9 : Int32), (10 : Int32), (11 : Int32), (12 : Int32), (13 : Int32), (14 : Int32), (15 : Int32), (16 : Int32), (17 : Int32), (18 : Int32), (19 : Int32), (20 : Int32), (21 : Int32), (22 : Int32), (23 : Int32), (24 : Int32), (25 : Int32), (26 : Int32), (27 : Int32), (28 : Int32), (29 : Int32), (30 : Int32), (31 : Int32), (32 : Int32), (33 : Int32)] (fun z h1 h2 => ?_) (fun c hc => ?_)) rfl ?_
      · obtain ⟨w, hw⟩ : ∃ w : Nat, z = (w : Int) := ⟨z.toNat, by omega⟩
        subst hw
        have hw33 : w < 34 := by omega
        exact tab33 w hw33
      · simp only [List.mem_cons, List.not_mem_nil, or_false] at hc
        rcases hc with rfl | rfl | rfl | rfl | rfl | rfl | rfl | rfl | rfl | rfl | rfl | rfl | rfl | rfl | rfl | rfl | rfl | rfl | rfl | rfl | rfl | rfl | rfl | rfl | rfl | rfl | rfl | rfl | rfl | rfl | rfl | rfl | rfl | rfl <;> assumption
      exact hgo σx σm hI
