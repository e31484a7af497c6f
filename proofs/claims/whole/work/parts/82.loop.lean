/-! THE LAW: its loop -/
theorem l_loop {L : Nat} {xs : Nat → Int32} (hL : L ≤ 2560) : ∀ (n j : Nat) (M : Mem), j ≤ L → L < j + n → Inv M → AWP (FL L xs) tL 18 (lvL j) [] M := by
  intro n
  induction n with
  | zero => intro j M h1 h2; omega
  | succ n ih =>
    intro j M h1 h2 hI
    refine r_iload_n FL.bs dL_law_18 rfl 0 rfl ?_
    refine r_aload_n FL.bs dL_law_19 rfl 3 rfl ?_
    refine l_slen dL_law_20 ?_
    refine r_iconst FL.bs (v := 5) dL_law_21 (by decide) ?_
    refine r_isub FL.bs dL_law_22 ?_
    by_cases c : L < j + 5
    · refine r_icmp_gt_t FL.bs (tgt := 1644) dL_law_23 (by decide) ((l_gt h1 hL).mpr c) ?_
      refine r_iconst FL.bs (v := 1) dL_law_1644 (by decide) ?_
      exact l_ret dL_law_1645
    · have hj : j + 5 ≤ L := by omega
      refine r_icmp_gt_f FL.bs 1644 dL_law_23 (by decide) (fun h => c ((l_gt h1 hL).mp h)) ?_
      refine r_aload_n FL.bs dL_law_26 rfl 3 rfl ?_
      refine r_iload_n FL.bs dL_law_27 rfl 0 rfl ?_
      refine l_sld dL_law_28 (vin (by omega) (by omega)) ?_
      refine r_bipush FL.bs (v := 63) dL_law_29 (by decide) ?_
      refine r_iand FL.bs dL_law_31 ?_
      refine l_switch hj hL hI (fun M2 hI2 => ?_)
      refine r_iinc FL.bs (v := nI (j + 5)) (lv' := lvL (j + 5)) dL_law_1638 0 rfl (nI_add j 5) (by decide) rfl ?_
      refine r_goto FL.bs (tgt := 18) dL_law_1641 (by decide) ?_
      exact ih (j + 5) M2 hj (by omega) hI2
