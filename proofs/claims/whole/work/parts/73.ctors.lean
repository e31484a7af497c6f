/-! CONSTRUCTORS of what the class is made of -/
theorem dfX0 : ∀ j, j < 6 → defaultValue (tyX0 j) = vp_V [.null, .int 0, .int 0, .int 0, .int 0, .int 0] j := by
  intro j hj
  rcases (show j = 0 ∨ j = 1 ∨ j = 2 ∨ j = 3 ∨ j = 4 ∨ j = 5 by omega) with rfl | rfl | rfl | rfl | rfl | rfl <;> rfl
theorem dfX1 : ∀ j, j < 3 → defaultValue (tyX1 j) = vp_V [.null, .int 0, .int 0] j := by
  intro j hj
  rcases (show j = 0 ∨ j = 1 ∨ j = 2 by omega) with rfl | rfl | rfl <;> rfl
theorem dfX2 : ∀ j, j < 4 → defaultValue (tyX2 j) = vp_V [.int 0, .int 0, .int 0, .int 0] j := by
  intro j hj
  rcases (show j = 0 ∨ j = 1 ∨ j = 2 ∨ j = 3 by omega) with rfl | rfl | rfl | rfl <;> rfl
theorem dfX3 : ∀ j, j < 4 → defaultValue (tyX3 j) = vp_V [.null, .int 0, .int 0, .int 0] j := by
  intro j hj
  rcases (show j = 0 ∨ j = 1 ∨ j = 2 ∨ j = 3 by omega) with rfl | rfl | rfl | rfl <;> rfl
theorem dfX4 : ∀ j, j < 10 → defaultValue (tyX4 j) = vp_V [.null, .null, .null, .null, .null, .null, .int 0, .int 0, .int 0, .int 0] j := by
  intro j hj
  rcases (show j = 0 ∨ j = 1 ∨ j = 2 ∨ j = 3 ∨ j = 4 ∨ j = 5 ∨ j = 6 ∨ j = 7 ∨ j = 8 ∨ j = 9 by omega) with rfl | rfl | rfl | rfl | rfl | rfl | rfl | rfl | rfl | rfl <;> rfl
theorem dfX5 : ∀ j, j < 15 → defaultValue (tyX5 j) = vp_V [.null, .null, .null, .null, .null, .null, .null, .null, .null, .null, .null, .null, .null, .int 0, .int 0] j := by
  intro j hj
  rcases (show j = 0 ∨ j = 1 ∨ j = 2 ∨ j = 3 ∨ j = 4 ∨ j = 5 ∨ j = 6 ∨ j = 7 ∨ j = 8 ∨ j = 9 ∨ j = 10 ∨ j = 11 ∨ j = 12 ∨ j = 13 ∨ j = 14 by omega) with rfl | rfl | rfl | rfl | rfl | rfl | rfl | rfl | rfl | rfl | rfl | rfl | rfl | rfl | rfl <;> rfl
theorem dfX6 : ∀ j, j < 30 → defaultValue (tyX6 j) = vp_V [.null, .null, .null, .null, .int 0, .null, .int 0, .int 0, .int 0, .int 0, .int 0, .int 0, .null, .null, .null, .null, .null, .int 0, .null, .null, .null, .null, .null, .null, .null, .int 0, .int 0, .int 0, .int 0, .int 0] j := by
  intro j hj
  rcases (show j = 0 ∨ j = 1 ∨ j = 2 ∨ j = 3 ∨ j = 4 ∨ j = 5 ∨ j = 6 ∨ j = 7 ∨ j = 8 ∨ j = 9 ∨ j = 10 ∨ j = 11 ∨ j = 12 ∨ j = 13 ∨ j = 14 ∨ j = 15 ∨ j = 16 ∨ j = 17 ∨ j = 18 ∨ j = 19 ∨ j = 20 ∨ j = 21 ∨ j = 22 ∨ j = 23 ∨ j = 24 ∨ j = 25 ∨ j = 26 ∨ j = 27 ∨ j = 28 ∨ j = 29 by omega) with rfl | rfl | rfl | rfl | rfl | rfl | rfl | rfl | rfl | rfl | rfl | rfl | rfl | rfl | rfl | rfl | rfl | rfl | rfl | rfl | rfl | rfl | rfl | rfl | rfl | rfl | rfl | rfl | rfl | rfl <;> rfl
abbrev mtX4_init : MT := (RX4, yX4_init, cX4_init, 1, none)
theorem miX4_init : MI mtX4_init := ⟨wd_106, rfl, wd_105, wd_80, ⟨by decide, by decide, by decide +kernel⟩, by decide, rfl⟩
def nuX4 : List Value := [.null, .null, .null, .null, .null, .null, .int 0, .int 0, .int 0, .int 0]
set_option maxRecDepth 100000 in
set_option maxHeartbeats 4000000 in
theorem ctX4_init (h : Nat) : CB mtX4_init 1 6 52 h (fun _ => [(h, oI 4 [.null, .null, .null, .null, .null, .null, .int 0, .int 0, .int 0, .int 0])]) (fun T q => [(h, oI 4 [.ref (q 0), .ref (q 1), .ref (q 2), .ref (q 3), .ref (q 4), .ref (q 5), .int 0, .int 0, .int 0, .int 1]), (q 0, fI T 4 (va_cpy (fun i => (stT_0).getD i 0) (fun _ => 0) 0 0 4)), (q 1, zI T 16), (q 2, zI T 8), (q 3, zI T 8), (q 4, zI T 8), (q 5, zI T 8)]) := by
  refine CB.of (by decide) rfl (Nat.le_of_ble_eq_true rfl) (fun x hM => ?_)
  obtain ⟨hX, hin, hmc, hms⟩ := hM.ok
  generalize hT : xtt x = T
  subst hT
  refine b_aload_n hX dX4_init_0 rfl 0 rfl ?_
  refine b_objInit hX dX4_init_1 wd_107 wd_100 wd_101 (Nat.le_of_ble_eq_true rfl) (by decide) ?_
  refine b_aload_n hX dX4_init_4 rfl 0 rfl ?_
  refine b_iconst (v := 4) hX dX4_init_5 (by decide) ?_
  refine b_newa (N := 4) hX dX4_init_6 wd_158 (by decide) (by decide) (Nat.le_of_ble_eq_true rfl) (by rw [hmc]; exact Nat.le_of_ble_eq_true rfl) (by rw [hms]; exact Nat.le_of_ble_eq_true rfl) (fun q1 => ?_)
  refine b_eq [(h, oI 4 [.null, .null, .null, .null, .null, .null, .int 0, .int 0, .int 0, .int 0]), (q1, zI (xtt x) 4)] rfl ?_
  refine b_putF (ty := (.array .int)) hX 0 [(h, oI 4 [.ref q1, .null, .null, .null, .null, .null, .int 0, .int 0, .int 0, .int 0]), (q1, zI (xtt x) 4)] dX4_init_8 rfl (ci := 4) rfl 0 (by decide) wd_113 rfl hin rfl rfl rfl rfl (Nat.le_of_ble_eq_true rfl) rfl ?_
  refine b_aload_n hX dX4_init_11 rfl 0 rfl ?_
  refine b_bipush (v := 16) hX dX4_init_12 (by decide) ?_
  refine b_newa (N := 16) hX dX4_init_14 wd_158 (by decide) (by decide) (Nat.le_of_ble_eq_true rfl) (by rw [hmc]; exact Nat.le_of_ble_eq_true rfl) (by rw [hms]; exact Nat.le_of_ble_eq_true rfl) (fun q2 => ?_)
  refine b_eq [(h, oI 4 [.ref q1, .null, .null, .null, .null, .null, .int 0, .int 0, .int 0, .int 0]), (q1, zI (xtt x) 4), (q2, zI (xtt x) 16)] rfl ?_
  refine b_putF (ty := (.array .int)) hX 0 [(h, oI 4 [.ref q1, .ref q2, .null, .null, .null, .null, .int 0, .int 0, .int 0, .int 0]), (q1, zI (xtt x) 4), (q2, zI (xtt x) 16)] dX4_init_16 rfl (ci := 4) rfl 1 (by decide) wd_116 rfl hin rfl rfl rfl rfl (Nat.le_of_ble_eq_true rfl) rfl ?_
  refine b_aload_n hX dX4_init_19 rfl 0 rfl ?_
  refine b_bipush (v := 8) hX dX4_init_20 (by decide) ?_
  refine b_newa (N := 8) hX dX4_init_22 wd_158 (by decide) (by decide) (Nat.le_of_ble_eq_true rfl) (by rw [hmc]; exact Nat.le_of_ble_eq_true rfl) (by rw [hms]; exact Nat.le_of_ble_eq_true rfl) (fun q3 => ?_)
  refine b_eq [(h, oI 4 [.ref q1, .ref q2, .null, .null, .null, .null, .int 0, .int 0, .int 0, .int 0]), (q1, zI (xtt x) 4), (q2, zI (xtt x) 16), (q3, zI (xtt x) 8)] rfl ?_
  refine b_putF (ty := (.array .int)) hX 0 [(h, oI 4 [.ref q1, .ref q2, .ref q3, .null, .null, .null, .int 0, .int 0, .int 0, .int 0]), (q1, zI (xtt x) 4), (q2, zI (xtt x) 16), (q3, zI (xtt x) 8)] dX4_init_24 rfl (ci := 4) rfl 2 (by decide) wd_119 rfl hin rfl rfl rfl rfl (Nat.le_of_ble_eq_true rfl) rfl ?_
  refine b_aload_n hX dX4_init_27 rfl 0 rfl ?_
  refine b_bipush (v := 8) hX dX4_init_28 (by decide) ?_
  refine b_newa (N := 8) hX dX4_init_30 wd_158 (by decide) (by decide) (Nat.le_of_ble_eq_true rfl) (by rw [hmc]; exact Nat.le_of_ble_eq_true rfl) (by rw [hms]; exact Nat.le_of_ble_eq_true rfl) (fun q4 => ?_)
  refine b_eq [(h, oI 4 [.ref q1, .ref q2, .ref q3, .null, .null, .null, .int 0, .int 0, .int 0, .int 0]), (q1, zI (xtt x) 4), (q2, zI (xtt x) 16), (q3, zI (xtt x) 8), (q4, zI (xtt x) 8)] rfl ?_
  refine b_putF (ty := (.array .int)) hX 0 [(h, oI 4 [.ref q1, .ref q2, .ref q3, .ref q4, .null, .null, .int 0, .int 0, .int 0, .int 0]), (q1, zI (xtt x) 4), (q2, zI (xtt x) 16), (q3, zI (xtt x) 8), (q4, zI (xtt x) 8)] dX4_init_32 rfl (ci := 4) rfl 3 (by decide) wd_121 rfl hin rfl rfl rfl rfl (Nat.le_of_ble_eq_true rfl) rfl ?_
  refine b_aload_n hX dX4_init_35 rfl 0 rfl ?_
  refine b_bipush (v := 8) hX dX4_init_36 (by decide) ?_
  refine b_newa (N := 8) hX dX4_init_38 wd_158 (by decide) (by decide) (Nat.le_of_ble_eq_true rfl) (by rw [hmc]; exact Nat.le_of_ble_eq_true rfl) (by rw [hms]; exact Nat.le_of_ble_eq_true rfl) (fun q5 => ?_)
  refine b_eq [(h, oI 4 [.ref q1, .ref q2, .ref q3, .ref q4, .null, .null, .int 0, .int 0, .int 0, .int 0]), (q1, zI (xtt x) 4), (q2, zI (xtt x) 16), (q3, zI (xtt x) 8), (q4, zI (xtt x) 8), (q5, zI (xtt x) 8)] rfl ?_
  refine b_putF (ty := (.array .int)) hX 0 [(h, oI 4 [.ref q1, .ref q2, .ref q3, .ref q4, .ref q5, .null, .int 0, .int 0, .int 0, .int 0]), (q1, zI (xtt x) 4), (q2, zI (xtt x) 16), (q3, zI (xtt x) 8), (q4, zI (xtt x) 8), (q5, zI (xtt x) 8)] dX4_init_40 rfl (ci := 4) rfl 4 (by decide) wd_123 rfl hin rfl rfl rfl rfl (Nat.le_of_ble_eq_true rfl) rfl ?_
  refine b_aload_n hX dX4_init_43 rfl 0 rfl ?_
  refine b_bipush (v := 8) hX dX4_init_44 (by decide) ?_
  refine b_newa (N := 8) hX dX4_init_46 wd_158 (by decide) (by decide) (Nat.le_of_ble_eq_true rfl) (by rw [hmc]; exact Nat.le_of_ble_eq_true rfl) (by rw [hms]; exact Nat.le_of_ble_eq_true rfl) (fun q6 => ?_)
  refine b_eq [(h, oI 4 [.ref q1, .ref q2, .ref q3, .ref q4, .ref q5, .null, .int 0, .int 0, .int 0, .int 0]), (q1, zI (xtt x) 4), (q2, zI (xtt x) 16), (q3, zI (xtt x) 8), (q4, zI (xtt x) 8), (q5, zI (xtt x) 8), (q6, zI (xtt x) 8)] rfl ?_
  refine b_putF (ty := (.array .int)) hX 0 [(h, oI 4 [.ref q1, .ref q2, .ref q3, .ref q4, .ref q5, .ref q6, .int 0, .int 0, .int 0, .int 0]), (q1, zI (xtt x) 4), (q2, zI (xtt x) 16), (q3, zI (xtt x) 8), (q4, zI (xtt x) 8), (q5, zI (xtt x) 8), (q6, zI (xtt x) 8)] dX4_init_48 rfl (ci := 4) rfl 5 (by decide) wd_125 rfl hin rfl rfl rfl rfl (Nat.le_of_ble_eq_true rfl) rfl ?_
  refine b_aload_n hX dX4_init_51 rfl 0 rfl ?_
  refine b_iconst (v := 1) hX dX4_init_52 (by decide) ?_
  refine b_put (ty := .int) hX 0 [(h, oI 4 [.ref q1, .ref q2, .ref q3, .ref q4, .ref q5, .ref q6, .int 0, .int 0, .int 0, .int 1]), (q1, zI (xtt x) 4), (q2, zI (xtt x) 16), (q3, zI (xtt x) 8), (q4, zI (xtt x) 8), (q5, zI (xtt x) 8), (q6, zI (xtt x) 8)] dX4_init_53 rfl (ci := 4) rfl 9 (by decide) wd_135 rfl rfl rfl rfl (Nat.le_of_ble_eq_true rfl) rfl ?_
  refine b_getsN hX (i := 0) dX4_init_56 rfl nw_0 ?_
  refine b_iconst (v := 0) hX dX4_init_59 (by decide) ?_
  refine b_aload_n hX dX4_init_60 rfl 0 rfl ?_
  refine b_get hX 0 dX4_init_61 rfl (ci := 4) rfl 0 (by decide) wd_113 rfl ?_
  refine b_iconst (v := 0) hX dX4_init_64 (by decide) ?_
  refine b_iconst (v := 4) hX dX4_init_65 (by decide) ?_
  refine b_copyt (j := 0) (n := 4) hX 1 [(h, oI 4 [.ref q1, .ref q2, .ref q3, .ref q4, .ref q5, .ref q6, .int 0, .int 0, .int 0, .int 1]), (q1, fI (xtt x) 4 (va_cpy (fun i => (stT_0).getD i 0) (fun _ => 0) 0 0 4)), (q2, zI (xtt x) 16), (q3, zI (xtt x) 8), (q4, zI (xtt x) 8), (q5, zI (xtt x) 8), (q6, zI (xtt x) 8)] dX4_init_66 wd_110 rfl rfl (by decide) (by decide) (by decide) (Nat.le_of_ble_eq_true rfl) (by decide) (by decide) rfl ?_
  exact b_vret (b := 0) hM (fun i => ([q1, q2, q3, q4, q5, q6] : List Nat).getD i 0) dX4_init_69 rfl (Nat.le_of_ble_eq_true rfl) (Nat.le_of_ble_eq_true rfl) rfl
abbrev mtX3_init : MT := (RX3, yX3_init, cX3_init, 1, none)
theorem miX3_init : MI mtX3_init := ⟨wd_163, rfl, wd_162, wd_82, ⟨by decide, by decide, by decide +kernel⟩, by decide, rfl⟩
def nuX3 : List Value := [.null, .int 0, .int 0, .int 0]
set_option maxRecDepth 100000 in
set_option maxHeartbeats 4000000 in
theorem ctX3_init (h : Nat) : CB mtX3_init 1 1 200 h (fun _ => [(h, oI 3 [.null, .int 0, .int 0, .int 0])]) (fun T q => [(h, oI 3 [.ref (q 0), .int 0, .int 0, .int 0]), (q 0, zI T 200)]) := by
  refine CB.of (by decide) rfl (Nat.le_of_ble_eq_true rfl) (fun x hM => ?_)
  obtain ⟨hX, hin, hmc, hms⟩ := hM.ok
  generalize hT : xtt x = T
  subst hT
  refine b_aload_n hX dX3_init_0 rfl 0 rfl ?_
  refine b_objInit hX dX3_init_1 wd_164 wd_100 wd_101 (Nat.le_of_ble_eq_true rfl) (by decide) ?_
  refine b_aload_n hX dX3_init_4 rfl 0 rfl ?_
  refine b_sipush (v := 200) hX dX3_init_5 (by decide) ?_
  refine b_newa (N := 200) hX dX3_init_8 wd_158 (by decide) (by decide) (Nat.le_of_ble_eq_true rfl) (by rw [hmc]; exact Nat.le_of_ble_eq_true rfl) (by rw [hms]; exact Nat.le_of_ble_eq_true rfl) (fun q1 => ?_)
  refine b_eq [(h, oI 3 [.null, .int 0, .int 0, .int 0]), (q1, zI (xtt x) 200)] rfl ?_
  refine b_putF (ty := (.array .int)) hX 0 [(h, oI 3 [.ref q1, .int 0, .int 0, .int 0]), (q1, zI (xtt x) 200)] dX3_init_10 rfl (ci := 3) rfl 0 (by decide) wd_165 rfl hin rfl rfl rfl rfl (Nat.le_of_ble_eq_true rfl) rfl ?_
  exact b_vret (b := 0) hM (fun i => ([q1] : List Nat).getD i 0) dX3_init_13 rfl (Nat.le_of_ble_eq_true rfl) (Nat.le_of_ble_eq_true rfl) rfl
abbrev mtX0_init : MT := (RX0, yX0_init, cX0_init, 1, none)
theorem miX0_init : MI mtX0_init := ⟨wd_187, rfl, wd_186, wd_83, ⟨by decide, by decide, by decide +kernel⟩, by decide, rfl⟩
def nuX0 : List Value := [.null, .int 0, .int 0, .int 0, .int 0, .int 0]
set_option maxRecDepth 100000 in
set_option maxHeartbeats 4000000 in
theorem ctX0_init (h : Nat) : CB mtX0_init 1 1 30 h (fun _ => [(h, oI 0 [.null, .int 0, .int 0, .int 0, .int 0, .int 0])]) (fun T q => [(h, oI 0 [.ref (q 0), .int 0, .int 0, .int 0, .int 0, .int 0]), (q 0, zI T 30)]) := by
  refine CB.of (by decide) rfl (Nat.le_of_ble_eq_true rfl) (fun x hM => ?_)
  obtain ⟨hX, hin, hmc, hms⟩ := hM.ok
  generalize hT : xtt x = T
  subst hT
  refine b_aload_n hX dX0_init_0 rfl 0 rfl ?_
  refine b_objInit hX dX0_init_1 wd_188 wd_100 wd_101 (Nat.le_of_ble_eq_true rfl) (by decide) ?_
  refine b_aload_n hX dX0_init_4 rfl 0 rfl ?_
  refine b_bipush (v := 30) hX dX0_init_5 (by decide) ?_
  refine b_newa (N := 30) hX dX0_init_7 wd_158 (by decide) (by decide) (Nat.le_of_ble_eq_true rfl) (by rw [hmc]; exact Nat.le_of_ble_eq_true rfl) (by rw [hms]; exact Nat.le_of_ble_eq_true rfl) (fun q1 => ?_)
  refine b_eq [(h, oI 0 [.null, .int 0, .int 0, .int 0, .int 0, .int 0]), (q1, zI (xtt x) 30)] rfl ?_
  refine b_putF (ty := (.array .int)) hX 0 [(h, oI 0 [.ref q1, .int 0, .int 0, .int 0, .int 0, .int 0]), (q1, zI (xtt x) 30)] dX0_init_9 rfl (ci := 0) rfl 0 (by decide) wd_189 rfl hin rfl rfl rfl rfl (Nat.le_of_ble_eq_true rfl) rfl ?_
  exact b_vret (b := 0) hM (fun i => ([q1] : List Nat).getD i 0) dX0_init_12 rfl (Nat.le_of_ble_eq_true rfl) (Nat.le_of_ble_eq_true rfl) rfl
abbrev mtX1_init : MT := (RX1, yX1_init, cX1_init, 1, none)
theorem miX1_init : MI mtX1_init := ⟨wd_214, rfl, wd_213, wd_84, ⟨by decide, by decide, by decide +kernel⟩, by decide, rfl⟩
def nuX1 : List Value := [.null, .int 0, .int 0]
set_option maxRecDepth 100000 in
set_option maxHeartbeats 4000000 in
theorem ctX1_init (h : Nat) : CB mtX1_init 1 1 40 h (fun _ => [(h, oI 1 [.null, .int 0, .int 0])]) (fun T q => [(h, oI 1 [.ref (q 0), .int (-1), .int 0]), (q 0, zI T 40)]) := by
  refine CB.of (by decide) rfl (Nat.le_of_ble_eq_true rfl) (fun x hM => ?_)
  obtain ⟨hX, hin, hmc, hms⟩ := hM.ok
  generalize hT : xtt x = T
  subst hT
  refine b_aload_n hX dX1_init_0 rfl 0 rfl ?_
  refine b_objInit hX dX1_init_1 wd_215 wd_100 wd_101 (Nat.le_of_ble_eq_true rfl) (by decide) ?_
  refine b_aload_n hX dX1_init_4 rfl 0 rfl ?_
  refine b_bipush (v := 40) hX dX1_init_5 (by decide) ?_
  refine b_newa (N := 40) hX dX1_init_7 wd_158 (by decide) (by decide) (Nat.le_of_ble_eq_true rfl) (by rw [hmc]; exact Nat.le_of_ble_eq_true rfl) (by rw [hms]; exact Nat.le_of_ble_eq_true rfl) (fun q1 => ?_)
  refine b_eq [(h, oI 1 [.null, .int 0, .int 0]), (q1, zI (xtt x) 40)] rfl ?_
  refine b_putF (ty := (.array .int)) hX 0 [(h, oI 1 [.ref q1, .int 0, .int 0]), (q1, zI (xtt x) 40)] dX1_init_9 rfl (ci := 1) rfl 0 (by decide) wd_216 rfl hin rfl rfl rfl rfl (Nat.le_of_ble_eq_true rfl) rfl ?_
  refine b_aload_n hX dX1_init_12 rfl 0 rfl ?_
  refine b_iconst (v := (-1)) hX dX1_init_13 (by decide) ?_
  refine b_put (ty := .int) hX 0 [(h, oI 1 [.ref q1, .int (-1), .int 0]), (q1, zI (xtt x) 40)] dX1_init_14 rfl (ci := 1) rfl 1 (by decide) wd_218 rfl rfl rfl rfl (Nat.le_of_ble_eq_true rfl) rfl ?_
  exact b_vret (b := 0) hM (fun i => ([q1] : List Nat).getD i 0) dX1_init_17 rfl (Nat.le_of_ble_eq_true rfl) (Nat.le_of_ble_eq_true rfl) rfl
abbrev mtX2_init : MT := (RX2, yX2_init, cX2_init, 1, none)
theorem miX2_init : MI mtX2_init := ⟨wd_234, rfl, wd_233, wd_85, ⟨by decide, by decide, by decide +kernel⟩, by decide, rfl⟩
def nuX2 : List Value := [.int 0, .int 0, .int 0, .int 0]
set_option maxRecDepth 100000 in
set_option maxHeartbeats 4000000 in
theorem ctX2_init (h : Nat) : CB mtX2_init 1 0 0 h (fun _ => [(h, oI 2 [.int 0, .int 0, .int 0, .int 0])]) (fun T q => [(h, oI 2 [.int 2, .int 0, .int 0, .int 0])]) := by
  refine CB.of (by decide) rfl (Nat.le_of_ble_eq_true rfl) (fun x hM => ?_)
  obtain ⟨hX, hin, hmc, hms⟩ := hM.ok
  generalize hT : xtt x = T
  subst hT
  refine b_aload_n hX dX2_init_0 rfl 0 rfl ?_
  refine b_objInit hX dX2_init_1 wd_235 wd_100 wd_101 (Nat.le_of_ble_eq_true rfl) (by decide) ?_
  refine b_aload_n hX dX2_init_4 rfl 0 rfl ?_
  refine b_iconst (v := 2) hX dX2_init_5 (by decide) ?_
  refine b_put (ty := .int) hX 0 [(h, oI 2 [.int 2, .int 0, .int 0, .int 0])] dX2_init_6 rfl (ci := 2) rfl 0 (by decide) wd_236 rfl rfl rfl rfl (Nat.le_of_ble_eq_true rfl) rfl ?_
  exact b_vret (b := 0) hM (fun i => ([] : List Nat).getD i 0) dX2_init_9 rfl (Nat.le_of_ble_eq_true rfl) (Nat.le_of_ble_eq_true rfl) rfl
